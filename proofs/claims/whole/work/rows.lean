section
/-! THE ENGINE: worlds by places. A virtual world is a list of cells; a reference in it is a place in the list; 'ad' says at which address each place lies. en_st: what one instruction asks; en_vc: what a run of them asks; en_run: if that holds, the machine's own W holds. -/
def en_v (ad : Nat → Nat) (v : Value) : Value := match v with
  | .ref a => .ref (ad a)
  | .int x => .int x
  | .long x => .long x
  | .float x => .float x
  | .double x => .double x
  | .null => .null
  | .retAddr x => .retAddr x
theorem en_v_cat (ad : Nat → Nat) (v : Value) : (en_v ad v).category = v.category := by cases v <;> rfl
def en_e (ad : Nat → Nat) (dT : Nat → Nat) (x : va_E) : va_E := match x with
  | .inl a => .inl (dT a.1, a.2)
  | .inr o => .inr (o.1, o.2.map (en_v ad))
def en_w (ad : Nat → Nat) (dT : Nat → Nat) (ws : List va_E) : va_W := ws.mapIdx (fun i x => (ad i, en_e ad dT x))
theorem en_w_get (ad dT : Nat → Nat) (ws : List va_E) (k : Nat) : (en_w ad dT ws)[k]? = (ws[k]?).map (fun x => (ad k, en_e ad dT x)) := by
  unfold en_w
  rw [List.getElem?_mapIdx]
theorem en_w_some {ad dT : Nat → Nat} {ws : List va_E} {k : Nat} {x : va_E} (h : ws[k]? = some x) : (en_w ad dT ws)[k]? = some (ad k, en_e ad dT x) := by
  rw [en_w_get, h]; rfl
theorem en_w_len (ad dT : Nat → Nat) (ws : List va_E) : (en_w ad dT ws).length = ws.length := by
  unfold en_w
  exact List.length_mapIdx
theorem en_w_set (ad dT : Nat → Nat) (ws : List va_E) (a : Nat) (x : va_E) : en_w ad dT (ws.set a x) = (en_w ad dT ws).set a (ad a, en_e ad dT x) := by
  apply List.ext_getElem?
  intro k
  rw [en_w_get, List.getElem?_set, List.getElem?_set, en_w_len, en_w_get]
  by_cases h : a = k
  · subst h
    by_cases h2 : a < ws.length
    · simp [h2]
    · simp [h2]
  · simp [h]
abbrev en_L : Type := List (Nat × Value)
def en_l (ad : Nat → Nat) (lv : en_L) : en_L := lv.map (fun q => (q.1, en_v ad q.2))
def en_get : en_L → Nat → Option Value
  | [], _ => none
  | q :: t, i => bif Nat.beq q.1 i then some q.2 else en_get t i
theorem en_get_mem : ∀ {lv : en_L} {i : Nat} {v : Value}, en_get lv i = some v → (i, v) ∈ lv
  | [], _, _, h => by simp [en_get] at h
  | q :: t, i, v, h => by
    simp only [en_get] at h
    cases hq : Nat.beq q.1 i with
    | true =>
      rw [hq] at h
      simp only [cond_true] at h
      have h1 : q.1 = i := Nat.eq_of_beq_eq_true hq
      cases h
      subst h1
      exact List.mem_cons_self
    | false =>
      rw [hq] at h
      simp only [cond_false] at h
      exact List.mem_cons_of_mem _ (en_get_mem h)
theorem en_at {ad : Nat → Nat} {ls : Array Slot} {nL : Nat} {lv : en_L} {i : Nat} {v : Value} (hl : lv_has ls nL (en_l ad lv)) (h : en_get lv i = some v) : ls[i]? = some (.val (en_v ad v)) :=
  hl.2.2 (i, en_v ad v) (List.mem_map.mpr ⟨(i, v), en_get_mem h, rfl⟩)
def en_bad (c i : Nat) (q : Nat × Value) : Bool := Nat.beq q.1 i || (Nat.beq (q.1 + 1) i && Nat.beq q.2.category 2) || (Nat.beq c 2 && Nat.beq q.1 (i + 1))
def en_clr (c i : Nat) : en_L → en_L
  | [] => []
  | q :: t => bif en_bad c i q then en_clr c i t else q :: en_clr c i t
def en_put (c i : Nat) (v : Value) : en_L → en_L
  | [] => [(i, v)]
  | q :: t => bif Nat.beq q.1 i then (i, v) :: en_clr c i t else bif en_bad c i q then en_put c i v t else q :: en_put c i v t
theorem en_clr_mem {c i : Nat} : ∀ {lv : en_L} {q : Nat × Value}, q ∈ en_clr c i lv → q ∈ lv ∧ en_bad c i q = false
  | [], q, h => by simp [en_clr] at h
  | r :: t, q, h => by
    simp only [en_clr] at h
    cases hr : en_bad c i r with
    | true =>
      rw [hr] at h
      have := en_clr_mem (lv := t) h
      exact ⟨List.mem_cons_of_mem _ this.1, this.2⟩
    | false =>
      rw [hr] at h
      simp only [cond_false] at h
      rcases List.mem_cons.mp h with rfl | h
      · exact ⟨List.mem_cons_self, hr⟩
      · have := en_clr_mem (lv := t) h
        exact ⟨List.mem_cons_of_mem _ this.1, this.2⟩
theorem en_put_mem {c i : Nat} {v : Value} : ∀ {lv : en_L} {q : Nat × Value}, q ∈ en_put c i v lv → q = (i, v) ∨ (q ∈ lv ∧ en_bad c i q = false)
  | [], q, h => by
    simp only [en_put, List.mem_singleton] at h
    exact Or.inl h
  | r :: t, q, h => by
    simp only [en_put] at h
    cases hr : Nat.beq r.1 i with
    | true =>
      rw [hr] at h
      simp only [cond_true] at h
      rcases List.mem_cons.mp h with rfl | h
      · exact Or.inl rfl
      · have := en_clr_mem h
        exact Or.inr ⟨List.mem_cons_of_mem _ this.1, this.2⟩
    | false =>
      rw [hr] at h
      simp only [cond_false] at h
      cases hb : en_bad c i r with
      | true =>
        rw [hb] at h
        simp only [cond_true] at h
        rcases en_put_mem (lv := t) h with h | h
        · exact Or.inl h
        · exact Or.inr ⟨List.mem_cons_of_mem _ h.1, h.2⟩
      | false =>
        rw [hb] at h
        simp only [cond_false] at h
        rcases List.mem_cons.mp h with rfl | h
        · exact Or.inr ⟨List.mem_cons_self, hb⟩
        · rcases en_put_mem (lv := t) h with h | h
          · exact Or.inl h
          · exact Or.inr ⟨List.mem_cons_of_mem _ h.1, h.2⟩
theorem en_bad_f {c i : Nat} {q : Nat × Value} (h : en_bad c i q = false) : ¬ q.1 = i ∧ ¬ (q.1 + 1 = i ∧ q.2.category = 2) ∧ ¬ (c = 2 ∧ q.1 = i + 1) := by
  simp only [en_bad, Bool.or_eq_false_iff, Bool.and_eq_false_iff] at h
  obtain ⟨⟨h1, h2⟩, h3⟩ := h
  refine ⟨Nat.ne_of_beq_eq_false h1, fun z => ?_, fun z => ?_⟩
  · rcases h2 with h2 | h2
    · exact Nat.ne_of_beq_eq_false h2 z.1
    · exact Nat.ne_of_beq_eq_false h2 z.2
  · rcases h3 with h3 | h3
    · exact Nat.ne_of_beq_eq_false h3 z.1
    · exact Nat.ne_of_beq_eq_false h3 z.2
/-- the locals behind a store of a value of one word -/
theorem en_put1 {ad : Nat → Nat} {ls' : Array Slot} {nL i : Nat} {v : Value} {lv : en_L} (h : lv_has ls' nL ((i, en_v ad v) :: (en_l ad lv).filter (fun q => !(q.1 == i) && !(q.1 + 1 == i && q.2.category == 2)))) : lv_has ls' nL (en_l ad (en_put 1 i v lv)) := by
  refine ⟨h.1, h.2.1, fun q hq => ?_⟩
  obtain ⟨r, hr, rfl⟩ := List.mem_map.mp hq
  rcases en_put_mem hr with rfl | ⟨h1, h2⟩
  · exact h.2.2 _ List.mem_cons_self
  · obtain ⟨b1, b2, -⟩ := en_bad_f h2
    refine h.2.2 _ (List.mem_cons_of_mem _ (List.mem_filter.mpr ⟨List.mem_map.mpr ⟨r, h1, rfl⟩, ?_⟩))
    have e1 : (r.1 == i) = false := by simpa using b1
    have e2 : (r.1 + 1 == i && (en_v ad r.2).category == 2) = false := by
      rw [en_v_cat]
      rw [Bool.eq_false_iff]
      intro z
      simp only [Bool.and_eq_true, beq_iff_eq] at z
      exact b2 z
    simp only [e1, e2, Bool.not_false, Bool.and_self]
theorem en_put2 {ad : Nat → Nat} {ls' : Array Slot} {nL i : Nat} {v : Value} {lv : en_L} (h : lv_has ls' nL ((i, en_v ad v) :: (en_l ad lv).filter (fun q => !(q.1 == i) && (!(q.1 == i + 1) && !(q.1 + 1 == i && q.2.category == 2))))) : lv_has ls' nL (en_l ad (en_put 2 i v lv)) := by
  refine ⟨h.1, h.2.1, fun q hq => ?_⟩
  obtain ⟨r, hr, rfl⟩ := List.mem_map.mp hq
  rcases en_put_mem hr with rfl | ⟨h1, h2⟩
  · exact h.2.2 _ List.mem_cons_self
  · obtain ⟨b1, b2, b3⟩ := en_bad_f h2
    refine h.2.2 _ (List.mem_cons_of_mem _ (List.mem_filter.mpr ⟨List.mem_map.mpr ⟨r, h1, rfl⟩, ?_⟩))
    have e1 : (r.1 == i) = false := by simpa using b1
    have e3 : (r.1 == i + 1) = false := by
      rw [Bool.eq_false_iff]
      intro z
      exact b3 ⟨rfl, by simpa using z⟩
    have e2 : (r.1 + 1 == i && (en_v ad r.2).category == 2) = false := by
      rw [en_v_cat]
      rw [Bool.eq_false_iff]
      intro z
      simp only [Bool.and_eq_true, beq_iff_eq] at z
      exact b2 z
    simp only [e1, e2, e3, Bool.not_false, Bool.and_self]
end
section
/-! ONE INSTRUCTION, and a run of them, as what they ask -/
/-- a row of a method's table: pc, instruction, the next pc, the targets -/
abbrev en_I : Type := Nat × Instr × Nat × List Nat
def en_lk {α : Type} : List (Nat × α) → Nat → Option α
  | [], _ => none
  | q :: t, i => bif Nat.beq q.1 i then some q.2 else en_lk t i
theorem en_lk_mem {α : Type} : ∀ {t : List (Nat × α)} {i : Nat} {x : α}, en_lk t i = some x → (i, x) ∈ t
  | [], _, _, h => by simp [en_lk] at h
  | q :: t, i, v, h => by
    simp only [en_lk] at h
    cases hq : Nat.beq q.1 i with
    | true =>
      rw [hq] at h
      simp only [cond_true] at h
      have h1 : q.1 = i := Nat.eq_of_beq_eq_true hq
      cases h
      subst h1
      exact List.mem_cons_self
    | false =>
      rw [hq] at h
      simp only [cond_false] at h
      exact List.mem_cons_of_mem _ (en_lk_mem h)
/-- how long an instruction is (those that are here) -/
def en_len : Instr → Nat
  | .bipush _ | .ldc _ | .iload _ | .lload _ | .aload _ | .istore _ | .lstore _ | .astore _ | .newarray _ => 2
  | .sipush _ | .ldc2_w _ | .ldc_w _ | .getfield _ | .putfield _ | .getstatic _ | .putstatic _ | .goto _ | .ifCond _ _ | .if_icmp _ _ | .iinc _ _ | .invokevirtual _ | .invokestatic _ | .invokespecial _ | .new _ | .ifnull _ | .ifnonnull _ | .if_acmp _ _ => 3
  | _ => 1
def en_zip (pc : Nat) : List Int → List Nat → Bool
  | [], [] => true
  | o :: os, t :: ts => decide ((pc : Int) + o = (t : Int)) && en_zip pc os ts
  | _, _ => false
/-- a row is well made -/
def en_ck (q : en_I) : Bool := match q.2.1 with
  | .goto o | .ifCond _ o | .if_icmp _ o => Nat.beq q.2.2.1 (q.1 + 3) && en_zip q.1 [o] q.2.2.2
  | .tableswitch d lo hi offs => decide (hi + 1 = lo + (offs.size : Int)) && en_zip q.1 (d :: offs.toList) q.2.2.2
  | .lookupswitch d ps => en_zip q.1 (d :: ps.toList.map (fun x => x.2)) q.2.2.2 && (ps.toList.zip (ps.toList.drop 1)).all (fun (a, next) => a.1 < next.1)
  | i => Nat.beq q.2.2.1 (q.1 + en_len i)
abbrev en_K : Type := Nat → Nat → Nat → en_L → List Value → List va_E → Prop
def en_i (st : List Value) (f : Int32 → List Value → Prop) : Prop := match st with
  | .int x :: r => f x r
  | _ => False
def en_j (st : List Value) (f : Int64 → List Value → Prop) : Prop := match st with
  | .long x :: r => f x r
  | _ => False
def en_r (st : List Value) (f : Nat → List Value → Prop) : Prop := match st with
  | .ref x :: r => f x r
  | _ => False
/-- two ints: the one below first -/
def en_ii (st : List Value) (f : Int32 → Int32 → List Value → Prop) : Prop := match st with
  | .int y :: .int x :: r => f x y r
  | _ => False
def en_jj (st : List Value) (f : Int64 → Int64 → List Value → Prop) : Prop := match st with
  | .long y :: .long x :: r => f x y r
  | _ => False
def en_ji (st : List Value) (f : Int64 → Int32 → List Value → Prop) : Prop := match st with
  | .int y :: .long x :: r => f x y r
  | _ => False
/-- an array's place, a place in it -/
def en_ai (st : List Value) (f : Nat → Int32 → List Value → Prop) : Prop := match st with
  | .int i :: .ref a :: r => f a i r
  | _ => False
def en_aii (st : List Value) (f : Nat → Int32 → Int32 → List Value → Prop) : Prop := match st with
  | .int x :: .int i :: .ref a :: r => f a i x r
  | _ => False
def en_aij (st : List Value) (f : Nat → Int32 → Int64 → List Value → Prop) : Prop := match st with
  | .long x :: .int i :: .ref a :: r => f a i x r
  | _ => False
/-- an array of ints (0) or booleans (2) at a place: its length, what it holds -/
def en_ar (ws : List va_E) (k a : Nat) (f : Nat → (Nat → Int32) → Prop) : Prop := match ws[a]? with
  | some (.inl (tk, n, .inl g)) => bif Nat.beq tk k then f n g else False
  | _ => False
def en_al (ws : List va_E) (a : Nat) (f : Nat → (Nat → Int64) → Prop) : Prop := match ws[a]? with
  | some (.inl (tk, n, .inr (.inl g))) => bif Nat.beq tk 1 then f n g else False
  | _ => False
def en_an (ws : List va_E) (a : Nat) (f : Nat → Prop) : Prop := match ws[a]? with
  | some (.inl (tk, n, _)) => bif Nat.blt tk 3 then f n else False
  | _ => False
/-- an object of the class ci at a place: its fields -/
def en_ob (ws : List va_E) (ci a : Nat) (f : List Value → Prop) : Prop := match ws[a]? with
  | some (.inr (c, fs)) => bif Nat.beq c ci then f fs else False
  | _ => False
def en_fit : FieldType → Value → Bool
  | .int, .int _ => true
  | .long, .long _ => true
  | .object _, .ref _ => true
  | .array _, .ref _ => true
  | _, _ => false
/-- is a value's place below n -/
def en_lo (n : Nat) : Value → Bool
  | .ref a => Nat.blt a n
  | _ => true
def en_los (n : Nat) : List Value → Bool
  | [] => true
  | v :: t => en_lo n v && en_los n t
def en_loL (n : Nat) : en_L → Bool
  | [] => true
  | q :: t => en_lo n q.2 && en_loL n t
def en_loE (n : Nat) : va_E → Bool
  | .inl _ => true
  | .inr o => en_los n o.2
def en_loW (n : Nat) : List va_E → Bool
  | [] => true
  | e :: t => en_loE n e && en_loW n t
def en_sum : List Value → Nat
  | [] => 0
  | v :: t => v.category + en_sum t
def en_sw (x : Int32) (k : Nat → Prop) : Int → List Nat → Prop
  | _, [] => True
  | v, t :: ts => (x.toInt = v → k t) ∧ en_sw x k (v + 1) ts
def en_lsw (x : Int32) (k : Nat → Prop) (d : Nat) : List (Int × Int) → List Nat → Prop
  | p :: ps, t :: ts => (x.toInt = p.1 → k t) ∧ (¬ x.toInt = p.1 → en_lsw x k d ps ts)
  | _, _ => k d
/-- a field by its number in the pool: class, place, type, may it be written here -/
abbrev en_F : Type := List (Nat × Nat × Nat × FieldType × Bool)
/-- a callee: how many words on the stack, its kind (0 static, 1 constructor, n + 2: on an object of the class n), new cells, new slots, what it asks -/
abbrev en_C : Type := Nat × Nat × Nat × Nat × (List Value → List va_E → (Option Value → List va_E → Prop) → Prop)
/-- what can be made: class, slots, the fields at first -/
abbrev en_N : Type := List (Nat × Nat × Nat × List Value)
def en_bf (mc ms cs sl a b : Nat) (X : Prop) : Prop := bif Nat.beq a 0 && Nat.beq b 0 then X else (cs + a ≤ mc ∧ sl + b ≤ ms) ∧ X
def en_rcv (ws : List va_E) : Nat → List Value → Bool
  | 0, _ => true
  | 1, .ref _ :: _ => true
  | ci + 2, .ref a :: _ => match ws[a]? with
    | some (.inr (c, _)) => Nat.beq c ci
    | _ => false
  | _, _ => false
def en_in : List Nat → Nat → Bool
  | [], _ => false
  | a :: t, i => Nat.beq a i || en_in t i
def en_call (mc ms : Nat) (q : en_C) (k : en_K) (cs sl pc : Nat) (lv : en_L) (st : List Value) (ws : List va_E) : Prop :=
  bif Nat.ble q.1 st.length && en_rcv ws q.2.1 (st.take q.1).reverse && Nat.ble (en_sum (st.drop q.1)) 8 && en_los ws.length (st.drop q.1) && en_loL ws.length lv then
    en_bf mc ms cs sl q.2.2.1 q.2.2.2.1 (q.2.2.2.2 (st.take q.1).reverse ws (fun v w => k (cs + q.2.2.1) (sl + q.2.2.2.1) pc lv (v.toList ++ st.drop q.1) w))
  else False
def en_cnd (c : ClassFile.Cond) (x : Int32) (t f : Prop) : Prop := match c with
  | .eq => (x = 0 → t) ∧ (¬ x = 0 → f)
  | .ne => (¬ x = 0 → t) ∧ (x = 0 → f)
  | .lt => (x < 0 → t) ∧ (¬ x < 0 → f)
  | .ge => (0 ≤ x → t) ∧ (¬ 0 ≤ x → f)
  | .gt => (0 < x → t) ∧ (¬ 0 < x → f)
  | .le => (x ≤ 0 → t) ∧ (¬ x ≤ 0 → f)
def en_cmp (c : ClassFile.Cond) (x y : Int32) (t f : Prop) : Prop := match c with
  | .eq => (x = y → t) ∧ (¬ x = y → f)
  | .ne => (¬ x = y → t) ∧ (x = y → f)
  | .lt => (x < y → t) ∧ (¬ x < y → f)
  | .ge => (y ≤ x → t) ∧ (¬ y ≤ x → f)
  | .gt => (y < x → t) ∧ (¬ y < x → f)
  | .le => (x ≤ y → t) ∧ (¬ x ≤ y → f)
/-- the tables of a method: its locals, new cells, new slots; rows, fields, constants, callees, what it makes, Object's constructor's number; its answer's type; what must hold at its end -/
abbrev en_T : Type := (Nat × Nat × Nat) × List en_I × en_F × List (Nat × Value) × List (Nat × en_C) × en_N × Nat × Option FieldType
def en_st (t : en_T) (G : Option Value → List va_E → Prop) (k : en_K) (cs sl pc : Nat) (lv : en_L) (st : List Value) (ws : List va_E) : Prop :=
  match en_lk t.2.1 pc with
  | none => False
  | some (i, nx, tg) => match i with
    | .iconst n => k cs sl nx lv (.int (Int32.ofInt n) :: st) ws
    | .bipush n => k cs sl nx lv (.int (Int8.ofInt n).toInt32 :: st) ws
    | .sipush n => k cs sl nx lv (.int (Int16.ofInt n).toInt32 :: st) ws
    | .lconst n => k cs sl nx lv (.long (Int64.ofNat (n : Nat)) :: st) ws
    | .ldc x => match en_lk t.2.2.2.1 x with
      | some (.int v) => k cs sl nx lv (.int v :: st) ws
      | _ => False
    | .ldc2_w x => match en_lk t.2.2.2.1 x with
      | some (.long v) => k cs sl nx lv (.long v :: st) ws
      | _ => False
    | .iload_n j => match en_get lv (j : Nat) with
      | some (.int v) => k cs sl nx lv (.int v :: st) ws
      | _ => False
    | .iload j => match en_get lv j with
      | some (.int v) => k cs sl nx lv (.int v :: st) ws
      | _ => False
    | .lload_n j => match en_get lv (j : Nat) with
      | some (.long v) => k cs sl nx lv (.long v :: st) ws
      | _ => False
    | .lload j => match en_get lv j with
      | some (.long v) => k cs sl nx lv (.long v :: st) ws
      | _ => False
    | .aload_n j => match en_get lv (j : Nat) with
      | some (.ref v) => k cs sl nx lv (.ref v :: st) ws
      | _ => False
    | .aload j => match en_get lv j with
      | some (.ref v) => k cs sl nx lv (.ref v :: st) ws
      | _ => False
    | .istore_n j => en_i st fun x r => bif Nat.blt (j : Nat) t.1.1 then k cs sl nx (en_put 1 (j : Nat) (.int x) lv) r ws else False
    | .istore j => en_i st fun x r => bif Nat.blt j t.1.1 then k cs sl nx (en_put 1 j (.int x) lv) r ws else False
    | .lstore_n j => en_j st fun x r => bif Nat.blt ((j : Nat) + 1) t.1.1 then k cs sl nx (en_put 2 (j : Nat) (.long x) lv) r ws else False
    | .lstore j => en_j st fun x r => bif Nat.blt (j + 1) t.1.1 then k cs sl nx (en_put 2 j (.long x) lv) r ws else False
    | .astore_n j => en_r st fun x r => bif Nat.blt (j : Nat) t.1.1 then k cs sl nx (en_put 1 (j : Nat) (.ref x) lv) r ws else False
    | .astore j => en_r st fun x r => bif Nat.blt j t.1.1 then k cs sl nx (en_put 1 j (.ref x) lv) r ws else False
    | .iinc j n => match en_get lv j with
      | some (.int v) => bif Nat.blt j t.1.1 then k cs sl nx (en_put 1 j (.int (v + Int32.ofInt n)) lv) st ws else False
      | _ => False
    | .iadd => en_ii st fun x y r => k cs sl nx lv (.int (x + y) :: r) ws
    | .isub => en_ii st fun x y r => k cs sl nx lv (.int (x - y) :: r) ws
    | .imul => en_ii st fun x y r => k cs sl nx lv (.int (x * y) :: r) ws
    | .iand => en_ii st fun x y r => k cs sl nx lv (.int (x &&& y) :: r) ws
    | .ior => en_ii st fun x y r => k cs sl nx lv (.int (x ||| y) :: r) ws
    | .ixor => en_ii st fun x y r => k cs sl nx lv (.int (x ^^^ y) :: r) ws
    | .idiv => en_ii st fun x y r => ¬ y = 0 ∧ k cs sl nx lv (.int (x / y) :: r) ws
    | .irem => en_ii st fun x y r => ¬ y = 0 ∧ k cs sl nx lv (.int (x - x / y * y) :: r) ws
    | .ineg => en_i st fun x r => k cs sl nx lv (.int (-x) :: r) ws
    | .ishl => en_ii st fun x y r => k cs sl nx lv (.int (x <<< (y &&& 31)) :: r) ws
    | .ishr => en_ii st fun x y r => k cs sl nx lv (.int (x >>> (y &&& 31)) :: r) ws
    | .ladd => en_jj st fun x y r => k cs sl nx lv (.long (x + y) :: r) ws
    | .lsub => en_jj st fun x y r => k cs sl nx lv (.long (x - y) :: r) ws
    | .lmul => en_jj st fun x y r => k cs sl nx lv (.long (x * y) :: r) ws
    | .land => en_jj st fun x y r => k cs sl nx lv (.long (x &&& y) :: r) ws
    | .lor => en_jj st fun x y r => k cs sl nx lv (.long (x ||| y) :: r) ws
    | .lxor => en_jj st fun x y r => k cs sl nx lv (.long (x ^^^ y) :: r) ws
    | .ldiv => en_jj st fun x y r => ¬ y = 0 ∧ k cs sl nx lv (.long (x / y) :: r) ws
    | .lrem => en_jj st fun x y r => ¬ y = 0 ∧ k cs sl nx lv (.long (x - x / y * y) :: r) ws
    | .lushr => en_ji st fun x y r => k cs sl nx lv (.long (x.toUInt64 >>> (y.toInt64.toUInt64 &&& Int64.toUInt64 63)).toInt64 :: r) ws
    | .lshl => en_ji st fun x y r => k cs sl nx lv (.long (x <<< (y.toInt64 &&& 63)) :: r) ws
    | .lshr => en_ji st fun x y r => k cs sl nx lv (.long (x >>> (y.toInt64 &&& 63)) :: r) ws
    | .lcmp => en_jj st fun x y r => k cs sl nx lv (.int (lg_cmp x y) :: r) ws
    | .i2l => en_i st fun x r => k cs sl nx lv (.long x.toInt64 :: r) ws
    | .l2i => en_j st fun x r => k cs sl nx lv (.int x.toInt32 :: r) ws
    | .dup => match st with
      | v :: r => bif Nat.beq v.category 1 then k cs sl nx lv (v :: v :: r) ws else False
      | _ => False
    | .pop => match st with
      | v :: r => bif Nat.beq v.category 1 then k cs sl nx lv r ws else False
      | _ => False
    | .dup_x1 => match st with
      | v :: u :: r => bif Nat.beq v.category 1 && Nat.beq u.category 1 then k cs sl nx lv (v :: u :: v :: r) ws else False
      | _ => False
    | .dup_x2 => match st with
      | v :: u :: z :: r => bif Nat.beq v.category 1 && Nat.beq u.category 1 && Nat.beq z.category 1 then k cs sl nx lv (v :: u :: z :: v :: r) ws else False
      | _ => False
    | .dup2 => match st with
      | v :: r => bif Nat.beq v.category 2 then k cs sl nx lv (v :: v :: r) ws else match r with
        | u :: r2 => bif Nat.beq v.category 1 && Nat.beq u.category 1 then k cs sl nx lv (v :: u :: v :: u :: r2) ws else False
        | _ => False
      | _ => False
    | .ifCond c _ => match tg with
      | [g] => en_i st fun x r => en_cnd c x (k cs sl g lv r ws) (k cs sl nx lv r ws)
      | _ => False
    | .if_icmp c _ => match tg with
      | [g] => en_ii st fun x y r => en_cmp c x y (k cs sl g lv r ws) (k cs sl nx lv r ws)
      | _ => False
    | .goto _ => match tg with
      | [g] => k cs sl g lv st ws
      | _ => False
    | .tableswitch _ lo hi _ => match tg with
      | d :: gs => en_i st fun x r => ((x.toInt < lo ∨ hi < x.toInt) → k cs sl d lv r ws) ∧ en_sw x (fun g => k cs sl g lv r ws) lo gs
      | _ => False
    | .getfield x => match en_lk t.2.2.1 x with
      | some (ci, kf, _, _) => en_r st fun a r => en_ob ws ci a fun fs => match fs[kf]? with
        | some v => k cs sl nx lv (v :: r) ws
        | none => False
      | none => False
    | .putfield x => match en_lk t.2.2.1 x with
      | some (ci, kf, ty, w) => match st with
        | v :: .ref a :: r => bif w && en_fit ty v then en_ob ws ci a fun fs => bif Nat.blt kf fs.length then k cs sl nx lv r (ws.set a (.inr (ci, fs.set kf v))) else False else False
        | _ => False
      | none => False
    | .iaload => en_ai st fun a i r => en_ar ws 0 a fun n f => vp_in i n ∧ k cs sl nx lv (.int (f i.toNatClampNeg) :: r) ws
    | .baload => en_ai st fun a i r => en_ar ws 2 a fun n f => vp_in i n ∧ k cs sl nx lv (.int (f i.toNatClampNeg) :: r) ws
    | .laload => en_ai st fun a i r => en_al ws a fun n f => vp_in i n ∧ k cs sl nx lv (.long (f i.toNatClampNeg) :: r) ws
    | .iastore => en_aii st fun a i x r => en_ar ws 0 a fun n f => vp_in i n ∧ k cs sl nx lv r (ws.set a (.inl (0, n, .inl (upd f i.toNatClampNeg x))))
    | .bastore => en_aii st fun a i x r => en_ar ws 2 a fun n f => vp_in i n ∧ k cs sl nx lv r (ws.set a (.inl (2, n, .inl (upd f i.toNatClampNeg (vp_nar .boolean x)))))
    | .lastore => en_aij st fun a i x r => en_al ws a fun n f => vp_in i n ∧ k cs sl nx lv r (ws.set a (.inl (1, n, .inr (.inl (vp_updL f i.toNatClampNeg x)))))
    | .arraylength => en_r st fun a r => en_an ws a fun n => k cs sl nx lv (.int (Int32.ofNat n) :: r) ws
    | .invokevirtual x => match en_lk t.2.2.2.2.1 x with
      | some q => bif Nat.ble 2 q.2.1 then en_call t.1.2.1 t.1.2.2 q k cs sl nx lv st ws else False
      | none => False
    | .invokestatic x => match en_lk t.2.2.2.2.1 x with
      | some q => bif Nat.beq 0 q.2.1 then en_call t.1.2.1 t.1.2.2 q k cs sl nx lv st ws else False
      | none => False
    | .invokespecial x => bif Nat.beq x t.2.2.2.2.2.2.1 then (match st with
        | .ref _ :: r => bif Nat.blt 0 x && Nat.ble (en_sum r) 8 then k cs sl nx lv r ws else False
        | _ => False) else match en_lk t.2.2.2.2.1 x with
      | some q => bif Nat.beq 1 q.2.1 then en_call t.1.2.1 t.1.2.2 q k cs sl nx lv st ws else False
      | none => False
    | .new x => match en_lk t.2.2.2.2.2.1 x with
      | some (ci, N, fs) => bif en_los ws.length st && en_loL ws.length lv && en_loW ws.length ws then (cs + 1 ≤ t.1.2.1 ∧ sl + N ≤ t.1.2.2) ∧ k (cs + 1) (sl + N) nx lv (.ref ws.length :: st) (ws ++ [.inr (ci, fs)]) else False
      | none => False
    | .newarray ty => en_i st fun n r => bif en_los ws.length r && en_loL ws.length lv && en_loW ws.length ws then (¬ n < 0 ∧ n.toNatClampNeg ≤ 1000000 ∧ cs + 1 ≤ t.1.2.1 ∧ sl + n.toNatClampNeg ≤ t.1.2.2) ∧ (match ty with
      | .int => k (cs + 1) (sl + n.toNatClampNeg) nx lv (.ref ws.length :: r) (ws ++ [.inl (0, n.toNatClampNeg, .inl (fun _ => 0))])
      | .long => k (cs + 1) (sl + n.toNatClampNeg) nx lv (.ref ws.length :: r) (ws ++ [.inl (1, n.toNatClampNeg, .inr (.inl (fun _ => 0)))])
      | .boolean => k (cs + 1) (sl + n.toNatClampNeg) nx lv (.ref ws.length :: r) (ws ++ [.inl (2, n.toNatClampNeg, .inl (fun _ => 0))])
      | _ => False) else False
    | .ireturn => match st with
      | [.int v] => match t.2.2.2.2.2.2.2 with
        | some .int => G (some (.int v)) ws
        | some .boolean => narrow .boolean (.int v) = .int v ∧ G (some (.int v)) ws
        | _ => False
      | _ => False
    | .return_ => match st, t.2.2.2.2.2.2.2 with
      | [], none => G none ws
      | _, _ => False
    | _ => False
/-- a run of at most n instructions; it stops at the places 'stop' -/
def en_vc (t : en_T) (G : Option Value → List va_E → Prop) (stop : List Nat) (K : en_K) : Nat → en_K
  | 0, cs, sl, pc, lv, st, ws => K cs sl pc lv st ws
  | n + 1, cs, sl, pc, lv, st, ws => en_st t G (fun cs sl pc lv st ws => bif en_in stop pc then K cs sl pc lv st ws else en_vc t G stop K n cs sl pc lv st ws) cs sl pc lv st ws
end
section
/-! THE ENGINE IS SOUND: what it asks gives the machine's own W -/
def en_ty (dT : Nat → Nat) : List (ClassId × FieldType) := [(dT 0, .int), (dT 1, .long), (dT 2, .boolean)]
def en_OK (D : va_G) (cl : List vw_C) (dT : Nat → Nat) (A : Nat → Prop) (t : en_T) (n0 : Nat) (ad : Nat → Nat) (p : Program) (l : Launch) (e : Env) (R : Room) (s : State) (m : MethodId) (args : Array Value) (below : List Frame) (meth : Method) (c : Code) (Q : State → Prop) : en_K := fun cs sl pc lv st ws =>
  n0 ≤ ws.length → cs ≤ t.1.2.1 → sl ≤ t.1.2.2 → ∀ (ad1 : Nat → Nat) (H : Heap) (locs : List Loc) (ls : Array Slot), (∀ k, k < n0 → ad1 k = ad k) → va_P D cl (en_w ad1 dT ws) H → va_D A (en_w ad1 dT ws) → va_S A s.heap H locs → lv_has ls t.1.1 (en_l ad1 lv) → W p l e R s m args below meth c H locs cs sl Q (F0 m pc ls (st.map (en_v ad1)))
/-- a contract's start and end, over a virtual world -/
def en_P (WD : State → Prop) (D : va_G) (cl : List vw_C) (dT : Nat → Nat) (ad : Nat → Nat) (av : List Value) (ws : List va_E) (sz : Nat) : Array Value → State → Prop := va_Pc (av.map (en_v ad)) (fun U => U.heap.size = sz ∧ va_P D cl (en_w ad dT ws) U.heap ∧ va_K D cl (en_ty dT) U ∧ va_D (fun _ => True) (en_w ad dT ws) ∧ WD U)
def en_Q (D : va_G) (cl : List vw_C) (dT : Nat → Nat) (ad : Nat → Nat) (n0 : Nat) (G : Option Value → List va_E → Prop) (A : Nat → Prop) : Array Value → State → Outcome → State → Prop := fun _ st oc t =>
  (∃ (v : Option Value) (w : List va_E) (ad1 : Nat → Nat), oc = .returned (v.map (en_v ad1)) ∧ G v w ∧ n0 ≤ w.length ∧ (∀ k, k < n0 → ad1 k = ad k) ∧ va_P D cl (en_w ad1 dT w) t.heap ∧ va_K D cl (en_ty dT) t ∧ va_D A (en_w ad1 dT w)) ∧ va_F A st t
def en_CT (WD : State → Prop) (D : va_G) (cl : List vw_C) (dT : Nat → Nat) (l : Launch) (y : MethodName) (bytes : ByteArray) (maxL : Nat) (ret : Option FieldType) (rm : Room) (f : List Value → List va_E → (Option Value → List va_E → Prop) → Prop) : Prop :=
  ∀ (ad : Nat → Nat) (sz : Nat) (av : List Value) (ws : List va_E) (G : Option Value → List va_E → Prop), f av ws G → Met l y [Jvm.Cond.code y bytes maxL ret] rm (en_P WD D cl dT ad av ws sz) (en_Q D cl dT ad ws.length G (va_A (en_w ad dT ws) sz)) rm.cells rm.slots (va_A (en_w ad dT ws) sz)
/-- what the tables say of a field, of a constant, of a callee, of a class that is made -/
def en_fok (cl : List vw_C) (s : State) (args : Array Value) (meth : Method) (own : String) (q : Nat × Nat × Nat × FieldType × Bool) : Prop :=
  ∃ (C : String) (T : u_T) (N : Nat) (Ts : List Jvm.Cond) (ty0 : Nat → FieldType), cl[q.2.1]? = some (C, T, N) ∧ q.2.2.1 < N ∧ (∀ w ∈ Ts, w.before args s = true) ∧ (∀ w ∈ u_ws C T N, w ∈ Ts) ∧ (Jvm.Cond.fieldLink own q.1 (T q.2.2.1).1 (T q.2.2.1).2.1 (T q.2.2.1).2.2.1).before args s = true ∧ (∀ k, k < N → parseFieldDescriptor (T k).2.2.1 = some (ty0 k)) ∧ ty0 q.2.2.1 = q.2.2.2.1 ∧ (∀ a, a < N → ∀ b, b < N → a ≠ b → (T a).2.1 ≠ (T b).2.1) ∧
    (q.2.2.2.2 = true → (T q.2.2.1).2.2.2 = false ∨ ((T q.2.2.1).2.2.2 = true ∧ meth.name = "<init>" ∧ (T q.2.2.1).1 = own))
def en_cok (s : State) (args : Array Value) (own : String) (q : Nat × Value) : Prop := match q.2 with
  | .int x => (Jvm.Cond.constant own q.1 x).before args s = true
  | .long x => (Jvm.Cond.constantLong own q.1 x).before args s = true
  | _ => True
def en_nok (cl : List vw_C) (s : State) (args : Array Value) (own : String) (q : Nat × Nat × Nat × List Value) : Prop :=
  ∃ (C : String) (T : u_T) (Ts : List Jvm.Cond) (ty0 : Nat → FieldType), cl[q.2.1]? = some (C, T, q.2.2.1) ∧ (∀ w ∈ Ts, w.before args s = true) ∧ (∀ w ∈ u_ws C T q.2.2.1, w ∈ Ts) ∧ (∀ k, k < q.2.2.1 → parseFieldDescriptor (T k).2.2.1 = some (ty0 k)) ∧ (Jvm.Cond.classLink own q.1 C).before args s = true ∧ (Jvm.Cond.instantiable C q.2.2.1).before args s = true ∧ (Jvm.Cond.initialized C).before args s = true ∧ (∀ j, j < q.2.2.1 → defaultValue (ty0 j) = vp_V q.2.2.2 j) ∧ en_los 0 q.2.2.2 = true
def en_mok (WD : State → Prop) (D : va_G) (cl : List vw_C) (dT : Nat → Nat) (l : Launch) (R : Room) (s : State) (args : Array Value) (own : String) (q : Nat × en_C) : Prop :=
  ∃ (y : MethodName) (bytes : ByteArray) (maxL : Nat) (ret : Option FieldType) (rm : Room) (na : Nat), en_CT WD D cl dT l y bytes maxL ret rm q.2.2.2.2.2 ∧ rm.cells = q.2.2.2.1 ∧ rm.slots = q.2.2.2.2.1 ∧ rm.frames + 1 ≤ R.frames ∧ 8 + (maxL + 11) + rm.locals ≤ R.locals ∧
    (Jvm.Cond.code y bytes maxL ret).before args s = true ∧ (Jvm.Cond.initialized y.cls).before args s = true ∧ (y.cls ≠ "java/lang/invoke/MethodHandle" ∧ y.cls ≠ "java/lang/invoke/VarHandle") ∧ (parseMethodDescriptor y.desc).map (fun d => d.parameters.length) = some na ∧
    ((Jvm.Cond.methodLink own q.1 y).before args s = true ∨ ∃ host, (Jvm.Cond.methodLinkNest own q.1 y host).before args s = true) ∧
    (match q.2.2.1 with
      | 0 => (Jvm.Cond.static y).before args s = true ∧ q.2.1 = na
      | 1 => y.name = "<init>" ∧ (Jvm.Cond.instanceMethod y).before args s = true ∧ q.2.1 = na + 1 ∧ ret = none
      | ci + 2 => ∃ (C : String) (T : u_T) (N : Nat), cl[ci]? = some (C, T, N) ∧ (Jvm.Cond.instanceMethod y).before args s = true ∧ (Jvm.Cond.selects C y y).before args s = true ∧ q.2.1 = na + 1)
/-- all that holds while a method runs -/
def en_X (WD : State → Prop) (D : va_G) (cl : List vw_C) (dT : Nat → Nat) (A : Nat → Prop) (t : en_T) (p : Program) (l : Launch) (R : Room) (s : State) (m : MethodId) (args : Array Value) (meth : Method) (c : Code) (own : String) (cc : ByteArray) : Prop :=
  p.tables.exec = Jvm.exec ∧ c.code = cc ∧ c.maxLocals = t.1.1 ∧ s.vm.findClass own = some m.cls ∧ va_K D cl (en_ty dT) s ∧ (∀ q, s.heap.size ≤ q → A q) ∧ WD s ∧ (t.1.2.1 ≤ R.cells ∧ t.1.2.2 ≤ R.slots) ∧
  (∀ q ∈ t.2.1, decode cc q.1 = .ok (q.2.1, q.2.2.1 - q.1) ∧ en_ck q = true) ∧ (∀ q ∈ t.2.2.1, en_fok cl s args meth own q) ∧ (∀ q ∈ t.2.2.2.1, en_cok s args own q) ∧ (∀ q ∈ t.2.2.2.2.1, en_mok WD D cl dT l R s args own q) ∧ (∀ q ∈ t.2.2.2.2.2.1, en_nok cl s args own q) ∧
  ((t.2.2.2.2.2.2.1 = 0 ∨ (1 ≤ R.frames ∧ 20 ≤ R.locals ∧ (Jvm.Cond.methodLink own t.2.2.2.2.2.2.1 Lib.objectInit).before args s = true ∧ (Jvm.Cond.instanceMethod Lib.objectInit).before args s = true ∧ (Jvm.Cond.code Lib.objectInit ⟨#[0xb1]⟩ 1 none).before args s = true))) ∧
  ((Jvm.Cond.arrayClass .int).before args s = true ∧ (Jvm.Cond.arrayClass .long).before args s = true ∧ (Jvm.Cond.arrayClass .boolean).before args s = true)
theorem en_P_blind {WD : State → Prop} (h1 : ∀ u U : State, u.vm = U.vm → WD u → WD U) {D : va_G} {cl : List vw_C} {dT ad : Nat → Nat} {av : List Value} {ws : List va_E} {sz : Nat} : FrameBlind (en_P WD D cl dT ad av ws sz) := by
  intro a U g mk q
  obtain ⟨q0, q1, qP, qK, qD, qW⟩ := q
  exact ⟨q0, q1, qP, va_K.moved (u := U) (U := U.calling g mk a) (Vm.Alike.refl U.vm) qK, qD, h1 U _ rfl qW⟩
theorem en_lo_v {n : Nat} {ad ad1 : Nat → Nat} (h : ∀ k, k < n → ad1 k = ad k) {v : Value} (hv : en_lo n v = true) : en_v ad1 v = en_v ad v := by
  cases v with
  | ref a =>
    have : a < n := by
      have h2 : Nat.blt a n = true := hv
      exact Nat.le_of_ble_eq_true h2
    show Value.ref (ad1 a) = Value.ref (ad a)
    rw [h a this]
  | _ => rfl
theorem en_lo_vs {n : Nat} {ad ad1 : Nat → Nat} (h : ∀ k, k < n → ad1 k = ad k) : ∀ {st : List Value}, en_los n st = true → st.map (en_v ad1) = st.map (en_v ad)
  | [], _ => rfl
  | v :: st, hv => by
    simp only [en_los, Bool.and_eq_true] at hv
    simp only [List.map_cons]
    rw [en_lo_v h hv.1, en_lo_vs h hv.2]
theorem en_lo_l {n : Nat} {ad ad1 : Nat → Nat} (h : ∀ k, k < n → ad1 k = ad k) : ∀ {lv : en_L}, en_loL n lv = true → en_l ad1 lv = en_l ad lv
  | [], _ => rfl
  | q :: lv, hv => by
    simp only [en_loL, Bool.and_eq_true] at hv
    have h2 := en_lo_l h hv.2
    simp only [en_l, List.map_cons] at h2 ⊢
    rw [en_lo_v h hv.1, h2]
theorem en_lo_e {n : Nat} {ad ad1 dT : Nat → Nat} (h : ∀ k, k < n → ad1 k = ad k) {x : va_E} (hv : en_loE n x = true) : en_e ad1 dT x = en_e ad dT x := by
  cases x with
  | inl a => rfl
  | inr o =>
    show Sum.inr (o.1, o.2.map (en_v ad1)) = Sum.inr (o.1, o.2.map (en_v ad))
    rw [en_lo_vs h hv]
theorem en_loW_get {n : Nat} : ∀ {ws : List va_E}, en_loW n ws = true → ∀ {k : Nat} {x : va_E}, ws[k]? = some x → en_loE n x = true
  | [], _, k, x, h => by simp at h
  | y :: ws, hv, k, x, h => by
    simp only [en_loW, Bool.and_eq_true] at hv
    cases k with
    | zero =>
      simp only [List.getElem?_cons_zero, Option.some.injEq] at h
      subst h
      exact hv.1
    | succ k =>
      rw [List.getElem?_cons_succ] at h
      exact en_loW_get hv.2 h
theorem en_w_push {ad dT : Nat → Nat} {ws : List va_E} {x : va_E} (q : Nat) (h : en_loW ws.length ws = true) (hx : en_loE 0 x = true) :
    en_w (fun k => if k = ws.length then q else ad k) dT (ws ++ [x]) = en_w ad dT ws ++ [(q, en_e ad dT x)] := by
  apply List.ext_getElem?
  intro k
  rw [en_w_get]
  by_cases h1 : k < ws.length
  · rw [List.getElem?_append_left h1, List.getElem?_append_left (by rw [en_w_len]; exact h1), en_w_get]
    cases hk : ws[k]? with
    | none => rfl
    | some y =>
      have hy := en_loW_get h hk
      simp only [Option.map_some]
      rw [en_lo_e (ad := ad) (ad1 := fun k => if k = ws.length then q else ad k) (n := ws.length) (fun j hj => if_neg (by omega)) hy]
      rw [if_neg (by omega)]
  · rw [List.getElem?_append_right (by omega), List.getElem?_append_right (by rw [en_w_len]; omega), en_w_len]
    by_cases h2 : k = ws.length
    · subst h2
      simp only [Nat.sub_self, List.getElem?_cons_zero, Option.map_some, if_true]
      rw [en_lo_e (ad := ad) (n := 0) (fun j hj => absurd hj (Nat.not_lt_zero j)) hx]
    · have h3 : k - ws.length = (k - ws.length - 1) + 1 := by omega
      rw [h3, List.getElem?_cons_succ, List.getElem?_cons_succ]
      rfl
theorem en_rev (ad : Nat → Nat) (st : List Value) (n : Nat) : st.map (en_v ad) = (((st.take n).reverse).map (en_v ad)).reverse ++ (st.drop n).map (en_v ad) := by
  rw [List.map_reverse, List.reverse_reverse, ← List.map_append, List.take_append_drop]
theorem en_sum_cat (ad : Nat → Nat) : ∀ st : List Value, ((st.map (en_v ad)).map fun v => v.category).sum = en_sum st
  | [] => rfl
  | v :: st => by
    simp only [List.map_cons, List.sum_cons, en_sum]
    rw [en_v_cat, en_sum_cat ad st]
section SND
variable {p : Program} {l : Launch} {e : Env} {R : Room} {s : State} {m : MethodId} {args : Array Value} {below : List Frame} {meth : Method} {c : Code} {Q : State → Prop}
variable {WD : State → Prop} {D : va_G} {cl : List vw_C} {dT : Nat → Nat} {A : Nat → Prop} {t : en_T} {own : String} {cc : ByteArray} {n0 : Nat} {ad : Nat → Nat}
/-- behind a call -/
theorem en_after {H : Heap} {locs : List Loc} {cs sl mc ms pc : Nat} {ls : Array Slot} {st0 rest : List Value} {a : Array Value} {ws : List va_E} {ad1 : Nat → Nat} {G : Option Value → List va_E → Prop} {k : en_K} {nx : Nat} {lv : en_L}
    (hr : va_Run p l e R s m args below meth c H locs cs sl mc ms (F0 m pc ls st0) (rest.map (en_v ad1)) (en_Q D cl dT ad1 ws.length G (va_A (en_w ad1 dT ws) H.size) a) (va_A (en_w ad1 dT ws) H.size))
    (hnx : nx = pc + 3) (hA : ∀ q, s.heap.size ≤ q → A q) (h0 : n0 ≤ ws.length) (had : ∀ k, k < n0 → ad1 k = ad k) (hD : va_D A (en_w ad1 dT ws)) (hS : va_S A s.heap H locs) (hl : lv_has ls t.1.1 (en_l ad1 lv)) (h1 : cs + mc ≤ t.1.2.1) (h2 : sl + ms ≤ t.1.2.2) (hb1 : en_los ws.length rest = true) (hb2 : en_loL ws.length lv = true)
    (hG : ∀ v w, G v w → k (cs + mc) (sl + ms) nx lv (v.toList ++ rest) w) (hk : ∀ cs sl pc lv st ws, k cs sl pc lv st ws → en_OK D cl dT A t n0 ad p l e R s m args below meth c Q cs sl pc lv st ws) :
    W p l e R s m args below meth c H locs cs sl Q (F0 m pc ls st0) := by
  intro T hT X
  obtain ⟨v, st₀, t1, T', L, hh0, X', hL, e1, e2, ⟨⟨v1, w, ad2, hv, hGv, hlen, had2, hP2, -, hD2⟩, hz, hkk⟩, st⟩ := hr T hT X
  cases hv
  rw [hh0] at hz hkk
  have hfree : ∀ q, va_A (en_w ad1 dT ws) H.size q → A q := by
    intro q hq
    rcases hq with ⟨j, x, hj⟩ | hq
    · exact hD.2 j _ hj
    · exact hA q (Nat.le_trans hS.1 hq)
  have hS2 : va_S A s.heap T'.heap (locs ++ L) := by
    refine ⟨Nat.le_trans hS.1 (by rw [e1]; exact hz), fun q h1 h2 => ?_, fun q hq => ?_⟩
    · rw [e1, hkk q (Nat.lt_of_lt_of_le h1 hS.1) (fun z => h2 (hfree q z))]
      exact hS.2.1 q h1 h2
    · rcases List.mem_append.mp hq with h | h
      · exact hS.2.2 q h
      · exact hfree _ (hL q h)
  have K := hk _ _ _ _ _ _ (hG v1 w hGv) (Nat.le_trans h0 hlen) h1 h2 ad2 T'.heap (locs ++ L) ls (fun j hj => (had2 j (Nat.lt_of_lt_of_le hj h0)).trans (had j hj)) (by rw [e1]; exact hP2) (hD2.weaken (fun _ _ _ z => hfree _ z)) hS2 (by rw [en_lo_l had2 hb2]; exact hl)
  obtain ⟨t2, a1, b1⟩ := K T' rfl X'
  refine ⟨t2, st t2 ?_, b1⟩
  have he : (v1.map (en_v ad2)).toList ++ rest.map (en_v ad1) = (v1.toList ++ rest).map (en_v ad2) := by
    rw [List.map_append, en_lo_vs had2 hb1]
    cases v1 <;> rfl
  rw [he]
  subst hnx
  exact a1
end SND
end
section
/-! one instruction is sound -/
theorem en_i_e {st : List Value} {f : Int32 → List Value → Prop} (h : en_i st f) : ∃ x r, st = .int x :: r ∧ f x r := by
  unfold en_i at h; split at h; exact ⟨_, _, rfl, h⟩; exact h.elim
theorem en_j_e {st : List Value} {f : Int64 → List Value → Prop} (h : en_j st f) : ∃ x r, st = .long x :: r ∧ f x r := by
  unfold en_j at h; split at h; exact ⟨_, _, rfl, h⟩; exact h.elim
theorem en_r_e {st : List Value} {f : Nat → List Value → Prop} (h : en_r st f) : ∃ x r, st = .ref x :: r ∧ f x r := by
  unfold en_r at h; split at h; exact ⟨_, _, rfl, h⟩; exact h.elim
theorem en_ii_e {st : List Value} {f : Int32 → Int32 → List Value → Prop} (h : en_ii st f) : ∃ x y r, st = .int y :: .int x :: r ∧ f x y r := by
  unfold en_ii at h; split at h; exact ⟨_, _, _, rfl, h⟩; exact h.elim
theorem en_jj_e {st : List Value} {f : Int64 → Int64 → List Value → Prop} (h : en_jj st f) : ∃ x y r, st = .long y :: .long x :: r ∧ f x y r := by
  unfold en_jj at h; split at h; exact ⟨_, _, _, rfl, h⟩; exact h.elim
theorem en_ji_e {st : List Value} {f : Int64 → Int32 → List Value → Prop} (h : en_ji st f) : ∃ x y r, st = .int y :: .long x :: r ∧ f x y r := by
  unfold en_ji at h; split at h; exact ⟨_, _, _, rfl, h⟩; exact h.elim
theorem en_ai_e {st : List Value} {f : Nat → Int32 → List Value → Prop} (h : en_ai st f) : ∃ a i r, st = .int i :: .ref a :: r ∧ f a i r := by
  unfold en_ai at h; split at h; exact ⟨_, _, _, rfl, h⟩; exact h.elim
theorem en_aii_e {st : List Value} {f : Nat → Int32 → Int32 → List Value → Prop} (h : en_aii st f) : ∃ a i x r, st = .int x :: .int i :: .ref a :: r ∧ f a i x r := by
  unfold en_aii at h; split at h; exact ⟨_, _, _, _, rfl, h⟩; exact h.elim
theorem en_aij_e {st : List Value} {f : Nat → Int32 → Int64 → List Value → Prop} (h : en_aij st f) : ∃ a i x r, st = .long x :: .int i :: .ref a :: r ∧ f a i x r := by
  unfold en_aij at h; split at h; exact ⟨_, _, _, _, rfl, h⟩; exact h.elim
theorem en_bif {b : Bool} {P : Prop} (h : bif b then P else False) : b = true ∧ P := by
  cases b with
  | true => exact ⟨rfl, h⟩
  | false => exact h.elim
theorem en_ar_e {ws : List va_E} {k a : Nat} {f : Nat → (Nat → Int32) → Prop} (h : en_ar ws k a f) : ∃ n g, ws[a]? = some (.inl (k, n, .inl g)) ∧ f n g := by
  unfold en_ar at h; split at h
  · rename_i tk n g heq
    obtain ⟨h1, h2⟩ := en_bif h
    have : tk = k := Nat.eq_of_beq_eq_true h1
    subst this
    exact ⟨_, _, heq, h2⟩
  · exact h.elim
theorem en_al_e {ws : List va_E} {a : Nat} {f : Nat → (Nat → Int64) → Prop} (h : en_al ws a f) : ∃ n g, ws[a]? = some (.inl (1, n, .inr (.inl g))) ∧ f n g := by
  unfold en_al at h; split at h
  · rename_i tk n g heq
    obtain ⟨h1, h2⟩ := en_bif h
    have : tk = 1 := Nat.eq_of_beq_eq_true h1
    subst this
    exact ⟨_, _, heq, h2⟩
  · exact h.elim
theorem en_an_e {ws : List va_E} {a : Nat} {f : Nat → Prop} (h : en_an ws a f) : ∃ tk n g, ws[a]? = some (.inl (tk, n, g)) ∧ tk < 3 ∧ f n := by
  unfold en_an at h; split at h
  · rename_i tk n g heq
    obtain ⟨h1, h2⟩ := en_bif h
    exact ⟨_, _, _, heq, Nat.le_of_ble_eq_true h1, h2⟩
  · exact h.elim
theorem en_ob_e {ws : List va_E} {ci a : Nat} {f : List Value → Prop} (h : en_ob ws ci a f) : ∃ fs, ws[a]? = some (.inr (ci, fs)) ∧ f fs := by
  unfold en_ob at h; split at h
  · rename_i c fs heq
    obtain ⟨h1, h2⟩ := en_bif h
    have : c = ci := Nat.eq_of_beq_eq_true h1
    subst this
    exact ⟨_, heq, h2⟩
  · exact h.elim
theorem en_fit_ok {ty : FieldType} {v : Value} (h : en_fit ty v = true) (ad : Nat → Nat) : narrow ty (en_v ad v) = en_v ad v ∧ fits ty (en_v ad v) = true := by
  cases ty <;> cases v <;> first | (simp [en_fit] at h; done) | exact ⟨rfl, rfl⟩
theorem en_zip1 {pc : Nat} {o : Int} {g : Nat} (h : en_zip pc [o] [g] = true) : (pc : Int) + o = (g : Int) := by
  simp only [en_zip, Bool.and_true, decide_eq_true_eq] at h
  exact h
theorem en_tyg (dT : Nat → Nat) {tk : Nat} (h : tk < 3) : ∃ ty, (en_ty dT)[tk]? = some (dT tk, ty) := by
  match tk, h with
  | 0, _ => exact ⟨_, rfl⟩
  | 1, _ => exact ⟨_, rfl⟩
  | 2, _ => exact ⟨_, rfl⟩

section SND2
variable {p : Program} {l : Launch} {e : Env} {R : Room} {s : State} {m : MethodId} {args : Array Value} {below : List Frame} {meth : Method} {c : Code} {Q : State → Prop}
variable {WD : State → Prop} {D : va_G} {cl : List vw_C} {dT : Nat → Nat} {A : Nat → Prop} {t : en_T} {own : String} {cc : ByteArray} {n0 : Nat} {ad : Nat → Nat}

/-- a call is sound -/
theorem en_call_ok (hW1 : ∀ u U : State, u.vm = U.vm → WD u → WD U) (hW2 : ∀ u U : State, u.WarmedH U.vm → WD u → WD U) (C : en_X WD D cl dT A t p l R s m args meth c own cc) {k : en_K} (hk : ∀ cs sl pc lv st ws, k cs sl pc lv st ws → en_OK D cl dT A t n0 ad p l e R s m args below meth c Q cs sl pc lv st ws)
    {x pc nx cs sl : Nat} {lv : en_L} {st : List Value} {ws : List va_E} {q : en_C} (hq : (x, q) ∈ t.2.2.2.2.1) (hnx : nx = pc + 3) (hd : (q.2.1 = 0 ∧ decode cc pc = .ok (.invokestatic x, 3)) ∨ (q.2.1 = 1 ∧ decode cc pc = .ok (.invokespecial x, 3)) ∨ (2 ≤ q.2.1 ∧ decode cc pc = .ok (.invokevirtual x, 3)))
    (h : en_call t.1.2.1 t.1.2.2 q k cs sl nx lv st ws) : en_OK D cl dT A t n0 ad p l e R s m args below meth c Q cs sl pc lv st ws := by
  intro h0 h1 h2 ad1 H locs ls had hP hD hS hl
  obtain ⟨hx, hb, hml, hown, hK, hA, hWD, hR, -, -, -, hM, -⟩ := C
  obtain ⟨y, bytes, maxL, ret, rm, na, hCT, hrc, hrs, hfr, hlo, hcode, hini, hy, hpar, hlink, hkind⟩ := hM _ hq
  obtain ⟨hb0, h⟩ := en_bif h
  simp only [Bool.and_eq_true] at hb0
  obtain ⟨⟨⟨⟨b1, b2⟩, b3⟩, b4⟩, b5⟩ := hb0
  have b1 : q.1 ≤ st.length := Nat.le_of_ble_eq_true b1
  have b3 : en_sum (st.drop q.1) ≤ 8 := Nat.le_of_ble_eq_true b3
  have hfit : cs + q.2.2.1 ≤ t.1.2.1 ∧ sl + q.2.2.2.1 ≤ t.1.2.2 ∧ q.2.2.2.2 (st.take q.1).reverse ws (fun v w => k (cs + q.2.2.1) (sl + q.2.2.2.1) nx lv (v.toList ++ st.drop q.1) w) := by
    unfold en_bf at h
    cases hz : (Nat.beq q.2.2.1 0 && Nat.beq q.2.2.2.1 0) with
    | true =>
      rw [hz] at h
      simp only [Bool.and_eq_true] at hz
      have z1 : q.2.2.1 = 0 := Nat.eq_of_beq_eq_true hz.1
      have z2 : q.2.2.2.1 = 0 := Nat.eq_of_beq_eq_true hz.2
      exact ⟨by omega, by omega, h⟩
    | false =>
      rw [hz] at h
      exact ⟨h.1.1, h.1.2, h.2⟩
  obtain ⟨f1, f2, hf⟩ := hfit
  have hMet := hCT ad1 H.size _ ws _ hf
  rw [hrc, hrs] at hMet
  have hpre : ∀ U : State, U.heap = H → s.WarmedH U.vm → en_P WD D cl dT ad1 (st.take q.1).reverse ws H.size (((st.take q.1).reverse.map (en_v ad1)).toArray) U := fun U hU hW =>
    ⟨rfl, by rw [hU], by rw [hU]; exact hP, va_K.moved hW.alike hK, hD.weaken (fun _ _ _ _ => trivial), hW2 s U hW hWD⟩
  have hsum : 2 * (F0 m pc ls (st.map (en_v ad1))).monitorRoom + (((st.drop q.1).map (en_v ad1)).map fun v => v.category).sum ≤ 8 := by
    rw [en_sum_cat]
    show 2 * 0 + _ ≤ 8
    omega
  have hcw : ∀ w ∈ [Jvm.Cond.code y bytes maxL ret], ∀ (a' : Array Value) (U : State), s.WarmedH U.vm → w.before a' U = true := by
    intro w hw a' U hW
    rw [List.mem_singleton] at hw
    subst hw
    exact word_at hW (Or.inl rfl) hcode
  have hpl : ∀ sig, parseMethodDescriptor y.desc = some sig → na = sig.parameters.length := fun sig hs => by
    rw [hs] at hpar
    simpa using hpar.symm
  have hcb : rm.cells = q.2.2.1 ∧ rm.slots = q.2.2.2.1 ∧ rm.frames + 1 ≤ R.frames ∧ 8 + (maxL + 11) + rm.locals ≤ R.locals ∧ (∀ w ∈ [Jvm.Cond.code y bytes maxL ret], ∀ (a' : Array Value) (U : State), s.WarmedH U.vm → w.before a' U = true) ∧ Jvm.Cond.code y bytes maxL ret ∈ [Jvm.Cond.code y bytes maxL ret] := ⟨hrc, hrs, hfr, hlo, hcw, List.mem_singleton.mpr rfl⟩
  have hbld : FrameBlind (en_P WD D cl dT ad1 (st.take q.1).reverse ws H.size) := en_P_blind hW1
  have hlen : ((st.take q.1).reverse.map (en_v ad1)).length = q.1 := by
    rw [List.length_map, List.length_reverse, List.length_take]
    omega
  have hst : (F0 m pc ls (st.map (en_v ad1))).stack = (((st.take q.1).reverse).map (en_v ad1)).reverse ++ (st.drop q.1).map (en_v ad1) := en_rev ad1 st q.1
  have hcr : cs + q.2.2.1 ≤ R.cells ∧ sl + q.2.2.2.1 ≤ R.slots := ⟨Nat.le_trans f1 hR.1, Nat.le_trans f2 hR.2⟩
  have S : CallFix p m c cc t.1.1 s args [] own := ⟨hx, hb, hml, hown, fun w h => by cases h⟩
  generalize hargs : (st.take q.1).reverse = av at *
  rcases hd with ⟨hkd, hd⟩ | ⟨hkd, hd⟩ | ⟨hkd, hd⟩
  · rw [hkd] at hkind
    obtain ⟨hstat, hna⟩ := hkind
    rcases hlink with hlink | ⟨host, hlink⟩
    · exact en_after (va_runS (ret := ret) (bytes := bytes) (maxL := maxL) (n := na) (rm := rm) S hMet ⟨⟨hrc, hrs, hfr, hlo, hcw, List.mem_singleton.mpr rfl, hcode, hini, hy, hpl, hlink⟩, hstat⟩ ⟨hbld, hpre⟩ rfl (by rw [hlen, hna]) hl.1 hst hsum hd hcr) hnx hA h0 had hD hS hl f1 f2 b4 b5 (fun v w z => z) hk
    · exact en_after (va_runSN (ret := ret) (bytes := bytes) (maxL := maxL) (n := na) (rm := rm) S hMet ⟨⟨hcb, hcode, hini, hy, hpl, hlink⟩, hstat, trivial⟩ ⟨hbld, hpre⟩ rfl (by rw [hlen, hna]) hl.1 hst hsum hd hcr) hnx hA h0 had hD hS hl f1 f2 b4 b5 (fun v w z => z) hk
  · rw [hkd] at hkind
    obtain ⟨hin1, hinst, hna, hret⟩ := hkind
    subst hret
    rw [hkd] at b2
    match av, hargs, b2, hlen, hst, hpre, hMet, hbld with
    | .ref b :: av, hargs, b2, hlen, hst, hpre, hMet, hbld =>
      have hna : q.1 = na + 1 := hna
      have hlen2 : (av.map (en_v ad1)).length = na := by
        simp only [List.map_cons, List.length_cons] at hlen
        omega
      have hst2 : (F0 m pc ls (st.map (en_v ad1))).stack = (av.map (en_v ad1)).reverse ++ Value.ref (ad1 b) :: (st.drop q.1).map (en_v ad1) := by
        rw [hst]
        simp only [List.map_cons, List.reverse_cons, List.append_assoc, List.singleton_append]
        rfl
      rcases hlink with hlink | ⟨host, hlink⟩
      · exact en_after (va_runI (As := av.map (en_v ad1)) (b := ad1 b) (bytes := bytes) (maxL := maxL) (n := na) (rm := rm) S hMet ⟨⟨hrc, hrs, hfr, hlo, hcw, List.mem_singleton.mpr rfl, hcode, hini, hy, hpl, hlink⟩, hin1, hinst⟩ ⟨hbld, hpre⟩ rfl hlen2 hl.1 hst2 hsum hd hcr) hnx hA h0 had hD hS hl f1 f2 b4 b5 (fun v w z => z) hk
      · exact en_after (va_runIN (As := av.map (en_v ad1)) (b := ad1 b) (bytes := bytes) (maxL := maxL) (n := na) (rm := rm) S hMet ⟨⟨hcb, hcode, hini, hy, hpl, hlink⟩, hin1, hinst⟩ ⟨hbld, hpre⟩ rfl hlen2 hl.1 hst2 hsum hd hcr) hnx hA h0 had hD hS hl f1 f2 b4 b5 (fun v w z => z) hk
  · obtain ⟨ci, hci⟩ : ∃ ci, q.2.1 = ci + 2 := ⟨q.2.1 - 2, by omega⟩
    rw [hci] at hkind b2
    obtain ⟨C, T, N, hcl, hinst, hsel, hna⟩ := hkind
    match av, hargs, b2, hlen, hst, hpre, hMet, hbld with
    | .ref b :: av, hargs, b2, hlen, hst, hpre, hMet, hbld =>
      have hrec : ∃ fs, ws[b]? = some (.inr (ci, fs)) := by
        simp only [en_rcv] at b2
        split at b2
        · rename_i c1 fs heq
          have : c1 = ci := Nat.eq_of_beq_eq_true b2
          subst this
          exact ⟨fs, heq⟩
        · cases b2
      obtain ⟨fs, hfs⟩ := hrec
      have hcell := va_recv (q0 := b) hK hP hcl (en_w_some hfs)
      have hna : q.1 = na + 1 := hna
      have hlen2 : (av.map (en_v ad1)).length = na := by
        simp only [List.map_cons, List.length_cons] at hlen
        omega
      have hst2 : (F0 m pc ls (st.map (en_v ad1))).stack = (av.map (en_v ad1)).reverse ++ Value.ref (ad1 b) :: (st.drop q.1).map (en_v ad1) := by
        rw [hst]
        simp only [List.map_cons, List.reverse_cons, List.append_assoc, List.singleton_append]
        rfl
      rcases hlink with hlink | ⟨host, hlink⟩
      · exact en_after (va_runV (As := av.map (en_v ad1)) (b := ad1 b) (C := C) (ret := ret) (bytes := bytes) (maxL := maxL) (n := na) (rm := rm) S hMet ⟨⟨hrc, hrs, hfr, hlo, hcw, List.mem_singleton.mpr rfl, hcode, hini, hy, hpl, hlink⟩, hinst, hsel⟩ ⟨hbld, hcell, hpre⟩ rfl hlen2 hl.1 hst2 hsum hd hcr) hnx hA h0 had hD hS hl f1 f2 b4 b5 (fun v w z => z) hk
      · exact en_after (va_runVN (As := av.map (en_v ad1)) (b := ad1 b) (C := C) (ret := ret) (bytes := bytes) (maxL := maxL) (n := na) (rm := rm) S hMet ⟨⟨hcb, hcode, hini, hy, hpl, hlink⟩, hinst, hsel⟩ ⟨hbld, hcell, hpre⟩ rfl hlen2 hl.1 hst2 hsum hd hcr) hnx hA h0 had hD hS hl f1 f2 b4 b5 (fun v w z => z) hk

end SND2
end
section
section SND3
variable {p : Program} {l : Launch} {e : Env} {R : Room} {s : State} {m : MethodId} {args : Array Value} {below : List Frame} {meth : Method} {c : Code} {Q : State → Prop}
variable {WD : State → Prop} {D : va_G} {cl : List vw_C} {dT : Nat → Nat} {A : Nat → Prop} {t : en_T} {own : String} {cc : ByteArray} {n0 : Nat} {ad : Nat → Nat}
/-- what a method's end must give -/
def en_R (D : va_G) (cl : List vw_C) (dT : Nat → Nat) (A : Nat → Prop) (t : en_T) (n0 : Nat) (ad : Nat → Nat) (p : Program) (l : Launch) (e : Env) (R : Room) (s : State) (m : MethodId) (args : Array Value) (below : List Frame) (meth : Method) (c : Code) (Q : State → Prop) (G : Option Value → List va_E → Prop) (cc : ByteArray) : Prop :=
  ∀ (v : Option Value) (ws : List va_E) (i : Instr) (pc cs sl : Nat), G v ws → decode cc pc = .ok (i, 1) → ((∃ x, i = .ireturn ∧ v = some (.int x) ∧ (t.2.2.2.2.2.2.2 = some .int ∨ (t.2.2.2.2.2.2.2 = some .boolean ∧ narrow .boolean (.int x) = .int x))) ∨ (i = .return_ ∧ v = none ∧ t.2.2.2.2.2.2.2 = none)) →
    n0 ≤ ws.length → cs ≤ t.1.2.1 → sl ≤ t.1.2.2 → ∀ (ad1 : Nat → Nat) (H : Heap) (locs : List Loc) (ls : Array Slot), (∀ k, k < n0 → ad1 k = ad k) → va_P D cl (en_w ad1 dT ws) H → va_D A (en_w ad1 dT ws) → va_S A s.heap H locs → W p l e R s m args below meth c H locs cs sl Q (F0 m pc ls ((v.map (en_v ad1)).toList))
theorem en_sw_ok {pc : Nat} {x : Int32} {k : Nat → Prop} : ∀ (gs : List Nat) (os : List Int) (v : Int), en_zip pc os gs = true → en_sw x k v gs → ∀ j : Nat, x.toInt = v + j → j < os.length → ∃ off g, os[j]? = some off ∧ (pc : Int) + off = ((g : Nat) : Int) ∧ k g
  | [], os, v, h1, h2, j, hj, hl => by
    cases os with
    | nil => simp at hl
    | cons o os => simp [en_zip] at h1
  | g :: gs, os, v, h1, h2, j, hj, hl => by
    cases os with
    | nil => simp at hl
    | cons o os =>
      simp only [en_zip, Bool.and_eq_true, decide_eq_true_eq] at h1
      cases j with
      | zero => exact ⟨o, g, rfl, h1.1, h2.1 (by omega)⟩
      | succ j =>
        obtain ⟨off, g2, e1, e2, e3⟩ := en_sw_ok gs os (v + 1) h1.2 h2.2 j (by omega) (by simpa using hl)
        exact ⟨off, g2, by rw [List.getElem?_cons_succ]; exact e1, e2, e3⟩
theorem en_newa_ok (hx : p.tables.exec = Jvm.exec) (hb : c.code = cc) {atype : ArrayType} {ty : FieldType} (harr : (Jvm.Cond.arrayClass ty).before args s = true) (hty : newarray.typeOf atype = ty) (hK : va_K D cl (en_ty dT) s) (hA : ∀ q, s.heap.size ≤ q → A q) (hR : t.1.2.1 ≤ R.cells ∧ t.1.2.2 ≤ R.slots)
    {ki : Nat} (hki : (en_ty dT)[ki]? = some (dT ki, ty)) (hpr : ∀ cA, va_RA s cA ty = (s.vm.findClass ("[" ++ ty.toString) = some cA)) {n : Int32} {a0 : Nat → vp_A} (ha : ∀ cA : ClassId, vp_cell cA (a0 n.toNatClampNeg) = arrV cA n.toNatClampNeg (fun _ => defaultValue ty)) (hn : ¬ n < 0) (hle : n.toNatClampNeg ≤ 1000000) {cs sl pc : Nat} (hc1 : cs + 1 ≤ t.1.2.1) (hc2 : sl + n.toNatClampNeg ≤ t.1.2.2) (hby : componentBytes ty ≤ 8) (hd : decode cc pc = .ok (.newarray atype, 2))
    {lv : en_L} {r : List Value} {ws : List va_E} (j1 : en_los ws.length r = true) (j2 : en_loL ws.length lv = true) (j3 : en_loW ws.length ws = true)
    (K : en_OK D cl dT A t n0 ad p l e R s m args below meth c Q (cs + 1) (sl + n.toNatClampNeg) (pc + 2) lv (.ref ws.length :: r) (ws ++ [.inl (ki, a0 n.toNatClampNeg)])) : en_OK D cl dT A t n0 ad p l e R s m args below meth c Q cs sl pc lv (.int n :: r) ws := by
  intro h0 h1 h2 ad1 H locs ls had hP hD hS hl
  subst hty
  refine va_newa (a0 := a0 n.toNatClampNeg) hx hb harr rfl hK hP hD hS hA ha hn rfl (Nat.le_trans (Nat.mul_le_mul hle hby) (by decide)) (Nat.le_trans hc1 hR.1) (Nat.le_trans hc2 hR.2) hd (fun q cA H1 hK1 hP1 hD1 hS1 => ?_)
  have hcA : cA = dT ki := by
    have z1 := (hK1.2 3 (cA, newarray.typeOf atype) rfl).2
    have z2 := (hK.2 ki _ hki).2
    rw [hpr] at z1 z2
    exact Option.some.inj (z1.symm.trans z2)
  subst hcA
  have hpu := en_w_push (ad := ad1) (dT := dT) (ws := ws) (x := .inl (ki, a0 n.toNatClampNeg)) q j3 rfl
  have hag : ∀ k, k < ws.length → (fun k => if k = ws.length then q else ad1 k) k = ad1 k := fun k hk => by
    show (if k = ws.length then q else ad1 k) = ad1 k
    rw [if_neg (by omega)]
  have K2 := K (by rw [List.length_append]; exact Nat.le_trans h0 (Nat.le_add_right _ _)) hc1 hc2 (fun k => if k = ws.length then q else ad1 k) H1 locs ls (fun k hk => (hag k (Nat.lt_of_lt_of_le hk h0)).trans (had k hk)) (by rw [hpu]; exact hP1) (by rw [hpu]; exact hD1) hS1 (by rw [en_lo_l hag j2]; exact hl)
  have hst : (Value.ref ws.length :: r).map (en_v (fun k => if k = ws.length then q else ad1 k)) = Value.ref q :: r.map (en_v ad1) := by
    rw [List.map_cons, en_lo_vs hag j1]
    show Value.ref (if ws.length = ws.length then q else ad1 ws.length) :: _ = _
    rw [if_pos rfl]
  rw [hst] at K2
  exact K2
set_option maxHeartbeats 8000000 in
set_option maxRecDepth 100000 in
theorem en_st_ok (hW1 : ∀ u U : State, u.vm = U.vm → WD u → WD U) (hW2 : ∀ u U : State, u.WarmedH U.vm → WD u → WD U) (C : en_X WD D cl dT A t p l R s m args meth c own cc) {G : Option Value → List va_E → Prop} (hret : en_R D cl dT A t n0 ad p l e R s m args below meth c Q G cc) {k : en_K} (hk : ∀ cs sl pc lv st ws, k cs sl pc lv st ws → en_OK D cl dT A t n0 ad p l e R s m args below meth c Q cs sl pc lv st ws)
    {cs sl pc : Nat} {lv : en_L} {st : List Value} {ws : List va_E} (h : en_st t G k cs sl pc lv st ws) : en_OK D cl dT A t n0 ad p l e R s m args below meth c Q cs sl pc lv st ws := by
  have C' := C
  obtain ⟨hx, hb, hml, hown, hK, hA, hWD, hR, hT, hF, hCn, hM, hN, hO, hAr⟩ := C
  unfold en_st at h
  cases hlk : en_lk t.2.1 pc with
  | none => rw [hlk] at h; exact h.elim
  | some q =>
  obtain ⟨i, nx, tg⟩ := q
  rw [hlk] at h
  obtain ⟨hd, hck⟩ := hT _ (en_lk_mem hlk)
  dsimp only at hd h
  cases i with
  | iconst n =>
    have hn : nx = pc + 1 := Nat.eq_of_beq_eq_true hck
    subst hn
    rw [Nat.add_sub_cancel_left] at hd
    intro h0 h1 h2 ad1 H locs ls had hP hD hS hl
    exact lv_iconst hx hb hd rfl (hk _ _ _ _ _ _ h h0 h1 h2 ad1 H locs ls had hP hD hS hl)
  | bipush n =>
    have hn : nx = pc + 2 := Nat.eq_of_beq_eq_true hck
    subst hn
    rw [Nat.add_sub_cancel_left] at hd
    intro h0 h1 h2 ad1 H locs ls had hP hD hS hl
    exact lv_bipush hx hb hd rfl (hk _ _ _ _ _ _ h h0 h1 h2 ad1 H locs ls had hP hD hS hl)
  | sipush n =>
    have hn : nx = pc + 3 := Nat.eq_of_beq_eq_true hck
    subst hn
    rw [Nat.add_sub_cancel_left] at hd
    intro h0 h1 h2 ad1 H locs ls had hP hD hS hl
    exact lv_sipush hx hb hd rfl (hk _ _ _ _ _ _ h h0 h1 h2 ad1 H locs ls had hP hD hS hl)
  | lconst n =>
    have hn : nx = pc + 1 := Nat.eq_of_beq_eq_true hck
    subst hn
    rw [Nat.add_sub_cancel_left] at hd
    intro h0 h1 h2 ad1 H locs ls had hP hD hS hl
    exact lv_lconst hx hb hd rfl (hk _ _ _ _ _ _ h h0 h1 h2 ad1 H locs ls had hP hD hS hl)
  | ldc x =>
    have hn : nx = pc + 2 := Nat.eq_of_beq_eq_true hck
    subst hn
    rw [Nat.add_sub_cancel_left] at hd
    dsimp only at h
    split at h
    · rename_i v heq
      have hc := hCn _ (en_lk_mem heq)
      intro h0 h1 h2 ad1 H locs ls had hP hD hS hl
      exact lv_ldc hx hb hown hc hd (hk _ _ _ _ _ _ h h0 h1 h2 ad1 H locs ls had hP hD hS hl)
    · exact h.elim
  | ldc2_w x =>
    have hn : nx = pc + 3 := Nat.eq_of_beq_eq_true hck
    subst hn
    rw [Nat.add_sub_cancel_left] at hd
    dsimp only at h
    split at h
    · rename_i v heq
      have hc := hCn _ (en_lk_mem heq)
      intro h0 h1 h2 ad1 H locs ls had hP hD hS hl
      exact lv_ldc2 hx hb hown hc hd (hk _ _ _ _ _ _ h h0 h1 h2 ad1 H locs ls had hP hD hS hl)
    · exact h.elim
  | iload j =>
    have hn : nx = pc + 2 := Nat.eq_of_beq_eq_true hck
    subst hn
    rw [Nat.add_sub_cancel_left] at hd
    dsimp only at h
    split at h
    · rename_i v heq
      intro h0 h1 h2 ad1 H locs ls had hP hD hS hl
      exact lv_iload hx hb hd (en_at hl heq) (hk _ _ _ _ _ _ h h0 h1 h2 ad1 H locs ls had hP hD hS hl)
    · exact h.elim
  | iload_n j =>
    have hn : nx = pc + 1 := Nat.eq_of_beq_eq_true hck
    subst hn
    rw [Nat.add_sub_cancel_left] at hd
    dsimp only at h
    split at h
    · rename_i v heq
      intro h0 h1 h2 ad1 H locs ls had hP hD hS hl
      exact lv_iload_n hx hb hd rfl (en_at hl heq) (hk _ _ _ _ _ _ h h0 h1 h2 ad1 H locs ls had hP hD hS hl)
    · exact h.elim
  | lload j =>
    have hn : nx = pc + 2 := Nat.eq_of_beq_eq_true hck
    subst hn
    rw [Nat.add_sub_cancel_left] at hd
    dsimp only at h
    split at h
    · rename_i v heq
      intro h0 h1 h2 ad1 H locs ls had hP hD hS hl
      exact lv_lload hx hb hd (en_at hl heq) (hk _ _ _ _ _ _ h h0 h1 h2 ad1 H locs ls had hP hD hS hl)
    · exact h.elim
  | lload_n j =>
    have hn : nx = pc + 1 := Nat.eq_of_beq_eq_true hck
    subst hn
    rw [Nat.add_sub_cancel_left] at hd
    dsimp only at h
    split at h
    · rename_i v heq
      intro h0 h1 h2 ad1 H locs ls had hP hD hS hl
      exact lv_lload_n hx hb hd rfl (en_at hl heq) (hk _ _ _ _ _ _ h h0 h1 h2 ad1 H locs ls had hP hD hS hl)
    · exact h.elim
  | aload j =>
    have hn : nx = pc + 2 := Nat.eq_of_beq_eq_true hck
    subst hn
    rw [Nat.add_sub_cancel_left] at hd
    dsimp only at h
    split at h
    · rename_i v heq
      intro h0 h1 h2 ad1 H locs ls had hP hD hS hl
      exact lv_aload hx hb hd (en_at hl heq) (hk _ _ _ _ _ _ h h0 h1 h2 ad1 H locs ls had hP hD hS hl)
    · exact h.elim
  | aload_n j =>
    have hn : nx = pc + 1 := Nat.eq_of_beq_eq_true hck
    subst hn
    rw [Nat.add_sub_cancel_left] at hd
    dsimp only at h
    split at h
    · rename_i v heq
      intro h0 h1 h2 ad1 H locs ls had hP hD hS hl
      exact lv_aload_n hx hb hd rfl (en_at hl heq) (hk _ _ _ _ _ _ h h0 h1 h2 ad1 H locs ls had hP hD hS hl)
    · exact h.elim
  | istore j =>
    have hn : nx = pc + 2 := Nat.eq_of_beq_eq_true hck
    subst hn
    rw [Nat.add_sub_cancel_left] at hd
    obtain ⟨x, r, rfl, h⟩ := en_i_e h
    obtain ⟨hj, h⟩ := en_bif h
    intro h0 h1 h2 ad1 H locs ls had hP hD hS hl
    exact lv_istore hx hb hd hl (Nat.le_of_ble_eq_true hj) rfl (fun ls hl => hk _ _ _ _ _ _ h h0 h1 h2 ad1 H locs ls had hP hD hS (en_put1 hl))
  | istore_n j =>
    have hn : nx = pc + 1 := Nat.eq_of_beq_eq_true hck
    subst hn
    rw [Nat.add_sub_cancel_left] at hd
    obtain ⟨x, r, rfl, h⟩ := en_i_e h
    obtain ⟨hj, h⟩ := en_bif h
    intro h0 h1 h2 ad1 H locs ls had hP hD hS hl
    exact lv_istore_n hx hb hd rfl hl (Nat.le_of_ble_eq_true hj) rfl (fun ls hl => hk _ _ _ _ _ _ h h0 h1 h2 ad1 H locs ls had hP hD hS (en_put1 hl))
  | lstore j =>
    have hn : nx = pc + 2 := Nat.eq_of_beq_eq_true hck
    subst hn
    rw [Nat.add_sub_cancel_left] at hd
    obtain ⟨x, r, rfl, h⟩ := en_j_e h
    obtain ⟨hj, h⟩ := en_bif h
    intro h0 h1 h2 ad1 H locs ls had hP hD hS hl
    exact lv_lstore hx hb hd hl (Nat.le_of_ble_eq_true hj) rfl (fun ls hl => hk _ _ _ _ _ _ h h0 h1 h2 ad1 H locs ls had hP hD hS (en_put2 hl))
  | lstore_n j =>
    have hn : nx = pc + 1 := Nat.eq_of_beq_eq_true hck
    subst hn
    rw [Nat.add_sub_cancel_left] at hd
    obtain ⟨x, r, rfl, h⟩ := en_j_e h
    obtain ⟨hj, h⟩ := en_bif h
    intro h0 h1 h2 ad1 H locs ls had hP hD hS hl
    exact lv_lstore_n hx hb hd rfl hl (Nat.le_of_ble_eq_true hj) rfl (fun ls hl => hk _ _ _ _ _ _ h h0 h1 h2 ad1 H locs ls had hP hD hS (en_put2 hl))
  | astore j =>
    have hn : nx = pc + 2 := Nat.eq_of_beq_eq_true hck
    subst hn
    rw [Nat.add_sub_cancel_left] at hd
    obtain ⟨x, r, rfl, h⟩ := en_r_e h
    obtain ⟨hj, h⟩ := en_bif h
    intro h0 h1 h2 ad1 H locs ls had hP hD hS hl
    exact lv_astore hx hb hd hl (Nat.le_of_ble_eq_true hj) rfl (fun ls hl => hk _ _ _ _ _ _ h h0 h1 h2 ad1 H locs ls had hP hD hS (en_put1 hl))
  | astore_n j =>
    have hn : nx = pc + 1 := Nat.eq_of_beq_eq_true hck
    subst hn
    rw [Nat.add_sub_cancel_left] at hd
    obtain ⟨x, r, rfl, h⟩ := en_r_e h
    obtain ⟨hj, h⟩ := en_bif h
    intro h0 h1 h2 ad1 H locs ls had hP hD hS hl
    exact lv_astore_n hx hb hd rfl hl (Nat.le_of_ble_eq_true hj) rfl (fun ls hl => hk _ _ _ _ _ _ h h0 h1 h2 ad1 H locs ls had hP hD hS (en_put1 hl))
  | iinc j n =>
    have hn : nx = pc + 3 := Nat.eq_of_beq_eq_true hck
    subst hn
    rw [Nat.add_sub_cancel_left] at hd
    dsimp only at h
    split at h
    · rename_i v heq
      obtain ⟨hj, h⟩ := en_bif h
      intro h0 h1 h2 ad1 H locs ls had hP hD hS hl
      obtain ⟨kk, hkk⟩ := List.getElem?_of_mem (List.mem_map.mpr ⟨(j, Value.int v), en_get_mem heq, rfl⟩ : (j, Value.int v) ∈ en_l ad1 lv)
      exact lv_iinc hx hb hd hl hkk rfl (Nat.le_of_ble_eq_true hj) rfl (fun ls hl => hk _ _ _ _ _ _ h h0 h1 h2 ad1 H locs ls had hP hD hS (en_put1 (v := .int (v + Int32.ofInt n)) hl))
    · exact h.elim
  | iadd =>
    have hn : nx = pc + 1 := Nat.eq_of_beq_eq_true hck
    subst hn
    rw [Nat.add_sub_cancel_left] at hd
    obtain ⟨x, y, r, rfl, h⟩ := en_ii_e h
    intro h0 h1 h2 ad1 H locs ls had hP hD hS hl
    exact lv_iadd hx hb hd (hk _ _ _ _ _ _ h h0 h1 h2 ad1 H locs ls had hP hD hS hl)
  | isub =>
    have hn : nx = pc + 1 := Nat.eq_of_beq_eq_true hck
    subst hn
    rw [Nat.add_sub_cancel_left] at hd
    obtain ⟨x, y, r, rfl, h⟩ := en_ii_e h
    intro h0 h1 h2 ad1 H locs ls had hP hD hS hl
    exact lv_isub hx hb hd (hk _ _ _ _ _ _ h h0 h1 h2 ad1 H locs ls had hP hD hS hl)
  | imul =>
    have hn : nx = pc + 1 := Nat.eq_of_beq_eq_true hck
    subst hn
    rw [Nat.add_sub_cancel_left] at hd
    obtain ⟨x, y, r, rfl, h⟩ := en_ii_e h
    intro h0 h1 h2 ad1 H locs ls had hP hD hS hl
    exact lv_imul hx hb hd (hk _ _ _ _ _ _ h h0 h1 h2 ad1 H locs ls had hP hD hS hl)
  | iand =>
    have hn : nx = pc + 1 := Nat.eq_of_beq_eq_true hck
    subst hn
    rw [Nat.add_sub_cancel_left] at hd
    obtain ⟨x, y, r, rfl, h⟩ := en_ii_e h
    intro h0 h1 h2 ad1 H locs ls had hP hD hS hl
    exact lv_iand hx hb hd (hk _ _ _ _ _ _ h h0 h1 h2 ad1 H locs ls had hP hD hS hl)
  | ior =>
    have hn : nx = pc + 1 := Nat.eq_of_beq_eq_true hck
    subst hn
    rw [Nat.add_sub_cancel_left] at hd
    obtain ⟨x, y, r, rfl, h⟩ := en_ii_e h
    intro h0 h1 h2 ad1 H locs ls had hP hD hS hl
    exact lv_ior hx hb hd (hk _ _ _ _ _ _ h h0 h1 h2 ad1 H locs ls had hP hD hS hl)
  | ixor =>
    have hn : nx = pc + 1 := Nat.eq_of_beq_eq_true hck
    subst hn
    rw [Nat.add_sub_cancel_left] at hd
    obtain ⟨x, y, r, rfl, h⟩ := en_ii_e h
    intro h0 h1 h2 ad1 H locs ls had hP hD hS hl
    exact lv_ixor hx hb hd (hk _ _ _ _ _ _ h h0 h1 h2 ad1 H locs ls had hP hD hS hl)
  | ishl =>
    have hn : nx = pc + 1 := Nat.eq_of_beq_eq_true hck
    subst hn
    rw [Nat.add_sub_cancel_left] at hd
    obtain ⟨x, y, r, rfl, h⟩ := en_ii_e h
    intro h0 h1 h2 ad1 H locs ls had hP hD hS hl
    exact lv_ishl hx hb hd (hk _ _ _ _ _ _ h h0 h1 h2 ad1 H locs ls had hP hD hS hl)
  | ishr =>
    have hn : nx = pc + 1 := Nat.eq_of_beq_eq_true hck
    subst hn
    rw [Nat.add_sub_cancel_left] at hd
    obtain ⟨x, y, r, rfl, h⟩ := en_ii_e h
    intro h0 h1 h2 ad1 H locs ls had hP hD hS hl
    exact lv_ishr hx hb hd (hk _ _ _ _ _ _ h h0 h1 h2 ad1 H locs ls had hP hD hS hl)
  | idiv =>
    have hn : nx = pc + 1 := Nat.eq_of_beq_eq_true hck
    subst hn
    rw [Nat.add_sub_cancel_left] at hd
    obtain ⟨x, y, r, rfl, hne, h⟩ := en_ii_e h
    intro h0 h1 h2 ad1 H locs ls had hP hD hS hl
    exact lv_idiv hx hb hd hne (hk _ _ _ _ _ _ h h0 h1 h2 ad1 H locs ls had hP hD hS hl)
  | irem =>
    have hn : nx = pc + 1 := Nat.eq_of_beq_eq_true hck
    subst hn
    rw [Nat.add_sub_cancel_left] at hd
    obtain ⟨x, y, r, rfl, hne, h⟩ := en_ii_e h
    intro h0 h1 h2 ad1 H locs ls had hP hD hS hl
    exact lv_irem hx hb hd hne (hk _ _ _ _ _ _ h h0 h1 h2 ad1 H locs ls had hP hD hS hl)
  | ineg =>
    have hn : nx = pc + 1 := Nat.eq_of_beq_eq_true hck
    subst hn
    rw [Nat.add_sub_cancel_left] at hd
    obtain ⟨x, r, rfl, h⟩ := en_i_e h
    intro h0 h1 h2 ad1 H locs ls had hP hD hS hl
    exact lv_ineg hx hb hd (hk _ _ _ _ _ _ h h0 h1 h2 ad1 H locs ls had hP hD hS hl)
  | ladd =>
    have hn : nx = pc + 1 := Nat.eq_of_beq_eq_true hck
    subst hn
    rw [Nat.add_sub_cancel_left] at hd
    obtain ⟨x, y, r, rfl, h⟩ := en_jj_e h
    intro h0 h1 h2 ad1 H locs ls had hP hD hS hl
    exact lv_ladd hx hb hd (hk _ _ _ _ _ _ h h0 h1 h2 ad1 H locs ls had hP hD hS hl)
  | lsub =>
    have hn : nx = pc + 1 := Nat.eq_of_beq_eq_true hck
    subst hn
    rw [Nat.add_sub_cancel_left] at hd
    obtain ⟨x, y, r, rfl, h⟩ := en_jj_e h
    intro h0 h1 h2 ad1 H locs ls had hP hD hS hl
    exact lv_lsub hx hb hd (hk _ _ _ _ _ _ h h0 h1 h2 ad1 H locs ls had hP hD hS hl)
  | lmul =>
    have hn : nx = pc + 1 := Nat.eq_of_beq_eq_true hck
    subst hn
    rw [Nat.add_sub_cancel_left] at hd
    obtain ⟨x, y, r, rfl, h⟩ := en_jj_e h
    intro h0 h1 h2 ad1 H locs ls had hP hD hS hl
    exact lv_lmul hx hb hd (hk _ _ _ _ _ _ h h0 h1 h2 ad1 H locs ls had hP hD hS hl)
  | land =>
    have hn : nx = pc + 1 := Nat.eq_of_beq_eq_true hck
    subst hn
    rw [Nat.add_sub_cancel_left] at hd
    obtain ⟨x, y, r, rfl, h⟩ := en_jj_e h
    intro h0 h1 h2 ad1 H locs ls had hP hD hS hl
    exact lv_land hx hb hd (hk _ _ _ _ _ _ h h0 h1 h2 ad1 H locs ls had hP hD hS hl)
  | lor =>
    have hn : nx = pc + 1 := Nat.eq_of_beq_eq_true hck
    subst hn
    rw [Nat.add_sub_cancel_left] at hd
    obtain ⟨x, y, r, rfl, h⟩ := en_jj_e h
    intro h0 h1 h2 ad1 H locs ls had hP hD hS hl
    exact lv_lor hx hb hd (hk _ _ _ _ _ _ h h0 h1 h2 ad1 H locs ls had hP hD hS hl)
  | lxor =>
    have hn : nx = pc + 1 := Nat.eq_of_beq_eq_true hck
    subst hn
    rw [Nat.add_sub_cancel_left] at hd
    obtain ⟨x, y, r, rfl, h⟩ := en_jj_e h
    intro h0 h1 h2 ad1 H locs ls had hP hD hS hl
    exact lv_lxor hx hb hd (hk _ _ _ _ _ _ h h0 h1 h2 ad1 H locs ls had hP hD hS hl)
  | ldiv =>
    have hn : nx = pc + 1 := Nat.eq_of_beq_eq_true hck
    subst hn
    rw [Nat.add_sub_cancel_left] at hd
    obtain ⟨x, y, r, rfl, hne, h⟩ := en_jj_e h
    intro h0 h1 h2 ad1 H locs ls had hP hD hS hl
    exact lv_ldiv hx hb hd hne (hk _ _ _ _ _ _ h h0 h1 h2 ad1 H locs ls had hP hD hS hl)
  | lrem =>
    have hn : nx = pc + 1 := Nat.eq_of_beq_eq_true hck
    subst hn
    rw [Nat.add_sub_cancel_left] at hd
    obtain ⟨x, y, r, rfl, hne, h⟩ := en_jj_e h
    intro h0 h1 h2 ad1 H locs ls had hP hD hS hl
    exact lv_lrem hx hb hd hne (hk _ _ _ _ _ _ h h0 h1 h2 ad1 H locs ls had hP hD hS hl)
  | lushr =>
    have hn : nx = pc + 1 := Nat.eq_of_beq_eq_true hck
    subst hn
    rw [Nat.add_sub_cancel_left] at hd
    obtain ⟨x, y, r, rfl, h⟩ := en_ji_e h
    intro h0 h1 h2 ad1 H locs ls had hP hD hS hl
    exact lv_lushr hx hb hd rfl (hk _ _ _ _ _ _ h h0 h1 h2 ad1 H locs ls had hP hD hS hl)
  | lshl =>
    have hn : nx = pc + 1 := Nat.eq_of_beq_eq_true hck
    subst hn
    rw [Nat.add_sub_cancel_left] at hd
    obtain ⟨x, y, r, rfl, h⟩ := en_ji_e h
    intro h0 h1 h2 ad1 H locs ls had hP hD hS hl
    exact lv_lshl hx hb hd rfl (hk _ _ _ _ _ _ h h0 h1 h2 ad1 H locs ls had hP hD hS hl)
  | lshr =>
    have hn : nx = pc + 1 := Nat.eq_of_beq_eq_true hck
    subst hn
    rw [Nat.add_sub_cancel_left] at hd
    obtain ⟨x, y, r, rfl, h⟩ := en_ji_e h
    intro h0 h1 h2 ad1 H locs ls had hP hD hS hl
    exact lv_lshr hx hb hd rfl (hk _ _ _ _ _ _ h h0 h1 h2 ad1 H locs ls had hP hD hS hl)
  | lcmp =>
    have hn : nx = pc + 1 := Nat.eq_of_beq_eq_true hck
    subst hn
    rw [Nat.add_sub_cancel_left] at hd
    obtain ⟨x, y, r, rfl, h⟩ := en_jj_e h
    intro h0 h1 h2 ad1 H locs ls had hP hD hS hl
    exact W.lcmp hx hb hd (hk _ _ _ _ _ _ h h0 h1 h2 ad1 H locs ls had hP hD hS hl)
  | i2l =>
    have hn : nx = pc + 1 := Nat.eq_of_beq_eq_true hck
    subst hn
    rw [Nat.add_sub_cancel_left] at hd
    obtain ⟨x, r, rfl, h⟩ := en_i_e h
    intro h0 h1 h2 ad1 H locs ls had hP hD hS hl
    exact lv_i2l hx hb hd rfl (hk _ _ _ _ _ _ h h0 h1 h2 ad1 H locs ls had hP hD hS hl)
  | l2i =>
    have hn : nx = pc + 1 := Nat.eq_of_beq_eq_true hck
    subst hn
    rw [Nat.add_sub_cancel_left] at hd
    obtain ⟨x, r, rfl, h⟩ := en_j_e h
    intro h0 h1 h2 ad1 H locs ls had hP hD hS hl
    exact lv_l2i hx hb hd rfl (hk _ _ _ _ _ _ h h0 h1 h2 ad1 H locs ls had hP hD hS hl)
  | dup =>
    have hn : nx = pc + 1 := Nat.eq_of_beq_eq_true hck
    subst hn
    rw [Nat.add_sub_cancel_left] at hd
    dsimp only at h
    split at h
    · obtain ⟨hj, h⟩ := en_bif h
      intro h0 h1 h2 ad1 H locs ls had hP hD hS hl
      exact lv_dup hx hb hd ((en_v_cat ad1 _).trans (Nat.eq_of_beq_eq_true hj)) (hk _ _ _ _ _ _ h h0 h1 h2 ad1 H locs ls had hP hD hS hl)
    · exact h.elim
  | pop =>
    have hn : nx = pc + 1 := Nat.eq_of_beq_eq_true hck
    subst hn
    rw [Nat.add_sub_cancel_left] at hd
    dsimp only at h
    split at h
    · obtain ⟨hj, h⟩ := en_bif h
      intro h0 h1 h2 ad1 H locs ls had hP hD hS hl
      exact lv_pop hx hb hd ((en_v_cat ad1 _).trans (Nat.eq_of_beq_eq_true hj)) (hk _ _ _ _ _ _ h h0 h1 h2 ad1 H locs ls had hP hD hS hl)
    · exact h.elim
  | dup_x1 =>
    have hn : nx = pc + 1 := Nat.eq_of_beq_eq_true hck
    subst hn
    rw [Nat.add_sub_cancel_left] at hd
    dsimp only at h
    split at h
    · obtain ⟨hj, h⟩ := en_bif h
      simp only [Bool.and_eq_true] at hj
      intro h0 h1 h2 ad1 H locs ls had hP hD hS hl
      exact lv_dup_x1 hx hb hd ((en_v_cat ad1 _).trans (Nat.eq_of_beq_eq_true hj.1)) ((en_v_cat ad1 _).trans (Nat.eq_of_beq_eq_true hj.2)) (hk _ _ _ _ _ _ h h0 h1 h2 ad1 H locs ls had hP hD hS hl)
    · exact h.elim
  | dup_x2 =>
    have hn : nx = pc + 1 := Nat.eq_of_beq_eq_true hck
    subst hn
    rw [Nat.add_sub_cancel_left] at hd
    dsimp only at h
    split at h
    · obtain ⟨hj, h⟩ := en_bif h
      simp only [Bool.and_eq_true] at hj
      intro h0 h1 h2 ad1 H locs ls had hP hD hS hl
      exact lv_dup_x2 hx hb hd ((en_v_cat ad1 _).trans (Nat.eq_of_beq_eq_true hj.1.1)) ((en_v_cat ad1 _).trans (Nat.eq_of_beq_eq_true hj.1.2)) ((en_v_cat ad1 _).trans (Nat.eq_of_beq_eq_true hj.2)) (hk _ _ _ _ _ _ h h0 h1 h2 ad1 H locs ls had hP hD hS hl)
    · exact h.elim
  | dup2 =>
    have hn : nx = pc + 1 := Nat.eq_of_beq_eq_true hck
    subst hn
    rw [Nat.add_sub_cancel_left] at hd
    dsimp only at h
    split at h
    · rename_i v r
      cases h2c : Nat.beq v.category 2 with
      | true =>
        rw [h2c] at h
        intro h0 h1 h2 ad1 H locs ls had hP hD hS hl
        exact lv_dup2_2 hx hb hd ((en_v_cat ad1 v).trans (Nat.eq_of_beq_eq_true h2c)) (hk _ _ _ _ _ _ h h0 h1 h2 ad1 H locs ls had hP hD hS hl)
      | false =>
        rw [h2c] at h
        simp only [cond_false] at h
        split at h
        · obtain ⟨hj, h⟩ := en_bif h
          simp only [Bool.and_eq_true] at hj
          intro h0 h1 h2 ad1 H locs ls had hP hD hS hl
          exact lv_dup2_11 hx hb hd ((en_v_cat ad1 _).trans (Nat.eq_of_beq_eq_true hj.1)) ((en_v_cat ad1 _).trans (Nat.eq_of_beq_eq_true hj.2)) (hk _ _ _ _ _ _ h h0 h1 h2 ad1 H locs ls had hP hD hS hl)
        · exact h.elim
    · exact h.elim
  | goto o =>
    have hck2 : (Nat.beq nx (pc + 3) && en_zip pc [o] tg) = true := hck
    simp only [Bool.and_eq_true] at hck2
    have hn : nx = pc + 3 := Nat.eq_of_beq_eq_true hck2.1
    subst hn
    rw [Nat.add_sub_cancel_left] at hd
    dsimp only at h
    split at h
    · intro h0 h1 h2 ad1 H locs ls had hP hD hS hl
      exact lv_goto hx hb hd (en_zip1 hck2.2) (hk _ _ _ _ _ _ h h0 h1 h2 ad1 H locs ls had hP hD hS hl)
    · exact h.elim
  | ifCond cd o =>
    have hck2 : (Nat.beq nx (pc + 3) && en_zip pc [o] tg) = true := hck
    simp only [Bool.and_eq_true] at hck2
    have hn : nx = pc + 3 := Nat.eq_of_beq_eq_true hck2.1
    subst hn
    rw [Nat.add_sub_cancel_left] at hd
    dsimp only at h
    split at h
    · obtain ⟨x, r, rfl, h⟩ := en_i_e h
      intro h0 h1 h2 ad1 H locs ls had hP hD hS hl
      cases cd with
      | eq => exact lv_if_eq hx hb hd (en_zip1 hck2.2) (fun z => hk _ _ _ _ _ _ (h.1 z) h0 h1 h2 ad1 H locs ls had hP hD hS hl) (fun z => hk _ _ _ _ _ _ (h.2 z) h0 h1 h2 ad1 H locs ls had hP hD hS hl)
      | ne => exact lv_if_ne hx hb hd (en_zip1 hck2.2) (fun z => hk _ _ _ _ _ _ (h.1 z) h0 h1 h2 ad1 H locs ls had hP hD hS hl) (fun z => hk _ _ _ _ _ _ (h.2 z) h0 h1 h2 ad1 H locs ls had hP hD hS hl)
      | lt => exact lv_if_lt hx hb hd (en_zip1 hck2.2) (fun z => hk _ _ _ _ _ _ (h.1 z) h0 h1 h2 ad1 H locs ls had hP hD hS hl) (fun z => hk _ _ _ _ _ _ (h.2 z) h0 h1 h2 ad1 H locs ls had hP hD hS hl)
      | ge => exact lv_if_ge hx hb hd (en_zip1 hck2.2) (fun z => hk _ _ _ _ _ _ (h.1 z) h0 h1 h2 ad1 H locs ls had hP hD hS hl) (fun z => hk _ _ _ _ _ _ (h.2 z) h0 h1 h2 ad1 H locs ls had hP hD hS hl)
      | gt => exact lv_if_gt hx hb hd (en_zip1 hck2.2) (fun z => hk _ _ _ _ _ _ (h.1 z) h0 h1 h2 ad1 H locs ls had hP hD hS hl) (fun z => hk _ _ _ _ _ _ (h.2 z) h0 h1 h2 ad1 H locs ls had hP hD hS hl)
      | le => exact lv_if_le hx hb hd (en_zip1 hck2.2) (fun z => hk _ _ _ _ _ _ (h.1 z) h0 h1 h2 ad1 H locs ls had hP hD hS hl) (fun z => hk _ _ _ _ _ _ (h.2 z) h0 h1 h2 ad1 H locs ls had hP hD hS hl)
    · exact h.elim
  | if_icmp cd o =>
    have hck2 : (Nat.beq nx (pc + 3) && en_zip pc [o] tg) = true := hck
    simp only [Bool.and_eq_true] at hck2
    have hn : nx = pc + 3 := Nat.eq_of_beq_eq_true hck2.1
    subst hn
    rw [Nat.add_sub_cancel_left] at hd
    dsimp only at h
    split at h
    · obtain ⟨x, y, r, rfl, h⟩ := en_ii_e h
      intro h0 h1 h2 ad1 H locs ls had hP hD hS hl
      cases cd with
      | eq => exact lv_icmp_eq hx hb hd (en_zip1 hck2.2) (fun z => hk _ _ _ _ _ _ (h.1 z) h0 h1 h2 ad1 H locs ls had hP hD hS hl) (fun z => hk _ _ _ _ _ _ (h.2 z) h0 h1 h2 ad1 H locs ls had hP hD hS hl)
      | ne => exact lv_icmp_ne hx hb hd (en_zip1 hck2.2) (fun z => hk _ _ _ _ _ _ (h.1 z) h0 h1 h2 ad1 H locs ls had hP hD hS hl) (fun z => hk _ _ _ _ _ _ (h.2 z) h0 h1 h2 ad1 H locs ls had hP hD hS hl)
      | lt => exact lv_icmp_lt hx hb hd (en_zip1 hck2.2) (fun z => hk _ _ _ _ _ _ (h.1 z) h0 h1 h2 ad1 H locs ls had hP hD hS hl) (fun z => hk _ _ _ _ _ _ (h.2 z) h0 h1 h2 ad1 H locs ls had hP hD hS hl)
      | ge => exact lv_icmp_ge hx hb hd (en_zip1 hck2.2) (fun z => hk _ _ _ _ _ _ (h.1 z) h0 h1 h2 ad1 H locs ls had hP hD hS hl) (fun z => hk _ _ _ _ _ _ (h.2 z) h0 h1 h2 ad1 H locs ls had hP hD hS hl)
      | gt => exact lv_icmp_gt hx hb hd (en_zip1 hck2.2) (fun z => hk _ _ _ _ _ _ (h.1 z) h0 h1 h2 ad1 H locs ls had hP hD hS hl) (fun z => hk _ _ _ _ _ _ (h.2 z) h0 h1 h2 ad1 H locs ls had hP hD hS hl)
      | le => exact lv_icmp_le hx hb hd (en_zip1 hck2.2) (fun z => hk _ _ _ _ _ _ (h.1 z) h0 h1 h2 ad1 H locs ls had hP hD hS hl) (fun z => hk _ _ _ _ _ _ (h.2 z) h0 h1 h2 ad1 H locs ls had hP hD hS hl)
    · exact h.elim
  | tableswitch df lo hi offs =>
    have hck2 : (decide (hi + 1 = lo + (offs.size : Int)) && en_zip pc (df :: offs.toList) tg) = true := hck
    dsimp only at h
    split at h
    · rename_i d gs
      obtain ⟨x, r, rfl, h⟩ := en_i_e h
      simp only [en_zip, Bool.and_eq_true, decide_eq_true_eq] at hck2
      obtain ⟨hsz, hd0, hzp⟩ := hck2
      intro h0 h1 h2 ad1 H locs ls had hP hD hS hl
      by_cases hz : x.toInt < lo ∨ hi < x.toInt
      · exact lv_tableOut hx hb hd hz hd0 (hk _ _ _ _ _ _ (h.1 hz) h0 h1 h2 ad1 H locs ls had hP hD hS hl)
      · have hlo : lo ≤ x.toInt := by omega
        have hhi : x.toInt ≤ hi := by omega
        obtain ⟨off, g, e1, e2, e3⟩ := en_sw_ok gs offs.toList lo hzp h.2 (x.toInt - lo).toNat (by omega) (by rw [Array.length_toList]; omega)
        rw [Array.getElem?_toList] at e1
        exact lv_tableIn hx hb hd (fun z => hz (Or.inl z)) (fun z => hz (Or.inr z)) e1 e2 (hk _ _ _ _ _ _ e3 h0 h1 h2 ad1 H locs ls had hP hD hS hl)
    · exact h.elim
  | getfield x =>
    have hn : nx = pc + 3 := Nat.eq_of_beq_eq_true hck
    subst hn
    rw [Nat.add_sub_cancel_left] at hd
    dsimp only at h
    split at h
    · rename_i ci kf ty w heq
      obtain ⟨a, r, rfl, h⟩ := en_r_e h
      obtain ⟨fs, hfs, h⟩ := en_ob_e h
      obtain ⟨C, T, N, Ts, ty0, hcl, hkf, hts, hin, hlink, hty, htk, hnm, -⟩ := hF _ (en_lk_mem heq)
      split at h
      · rename_i v hv
        intro h0 h1 h2 ad1 H locs ls had hP hD hS hl
        exact va_get (q0 := a) (v := en_v ad1 v) (fs := fs.map (en_v ad1)) hx hb hts hin hown hK hP (en_w_some hfs) hcl kf hkf hlink (fun _ h9 => h9) (by rw [List.getElem?_map, hv]; rfl) hd (hk _ _ _ _ _ _ h h0 h1 h2 ad1 H locs ls had hP hD hS hl)
      · exact h.elim
    · exact h.elim
  | putfield x =>
    have hn : nx = pc + 3 := Nat.eq_of_beq_eq_true hck
    subst hn
    rw [Nat.add_sub_cancel_left] at hd
    dsimp only at h
    split at h
    · rename_i ci kf ty w heq
      split at h
      · rename_i v a r
        obtain ⟨hwf, h⟩ := en_bif h
        simp only [Bool.and_eq_true] at hwf
        obtain ⟨fs, hfs, h⟩ := en_ob_e h
        obtain ⟨hlt, h⟩ := en_bif h
        have hlt : kf < fs.length := Nat.le_of_ble_eq_true hlt
        obtain ⟨C, T, N, Ts, ty0, hcl, hkf, hts, hin, hlink, hty, htk, hnm, hwr⟩ := hF _ (en_lk_mem heq)
        intro h0 h1 h2 ad1 H locs ls had hP hD hS hl
        obtain ⟨hna, hfi⟩ := en_fit_ok hwf.2 ad1
        have hgo : ∀ (H1 : Heap) (locs1 : List Loc), va_P D cl ((en_w ad1 dT ws).set a (ad1 a, .inr (ci, (fs.map (en_v ad1)).set kf (en_v ad1 v)))) H1 → va_D A ((en_w ad1 dT ws).set a (ad1 a, .inr (ci, (fs.map (en_v ad1)).set kf (en_v ad1 v)))) → va_S A s.heap H1 locs1 → W p l e R s m args below meth c H1 locs1 cs sl Q (F0 m (pc + 3) ls (r.map (en_v ad1))) := by
          intro H1 locs1 hP1 hD1 hS1
          have he : (en_w ad1 dT ws).set a (ad1 a, .inr (ci, (fs.map (en_v ad1)).set kf (en_v ad1 v))) = en_w ad1 dT (ws.set a (.inr (ci, fs.set kf v))) := by
            rw [en_w_set, ← List.map_set]
            rfl
          rw [he] at hP1 hD1
          exact hk _ _ _ _ _ _ h (by rw [List.length_set]; exact h0) h1 h2 ad1 H1 locs1 ls had hP1 hD1 hS1 hl
        have htk2 : ty0 kf = ty := htk
        have hpt : parseFieldDescriptor (T kf).2.2.1 = some ty := by rw [← htk2]; exact hty _ hkf
        rcases hwr hwf.1 with hw | ⟨hw, hin1, hdc⟩
        · exact va_put (q0 := a) (fs := fs.map (en_v ad1)) (ty := ty) hx hb hts hin ty0 hty hnm hown hK hP hD hS (en_w_some hfs) hcl kf hkf hlink (fun _ h9 => h9) hw hpt hna hfi (by rw [List.length_map]; exact hlt) hd hgo
        · exact va_putF (q0 := a) (fs := fs.map (en_v ad1)) (ty := ty) hx hb hts hin ty0 hty hnm hown hK hP hD hS (en_w_some hfs) hcl kf hkf hlink (fun _ h9 => h9) hw hin1 hdc hpt hna hfi (by rw [List.length_map]; exact hlt) hd hgo
      · exact h.elim
    · exact h.elim
  | iaload =>
    have hn : nx = pc + 1 := Nat.eq_of_beq_eq_true hck
    subst hn
    rw [Nat.add_sub_cancel_left] at hd
    obtain ⟨a, i, r, rfl, h⟩ := en_ai_e h
    obtain ⟨n, f, hf, hin, h⟩ := en_ar_e h
    intro h0 h1 h2 ad1 H locs ls had hP hD hS hl
    exact va_iald (q0 := a) (t0 := 0) hx hb hK hP (en_w_some hf) rfl hin hd (hk _ _ _ _ _ _ h h0 h1 h2 ad1 H locs ls had hP hD hS hl)
  | baload =>
    have hn : nx = pc + 1 := Nat.eq_of_beq_eq_true hck
    subst hn
    rw [Nat.add_sub_cancel_left] at hd
    obtain ⟨a, i, r, rfl, h⟩ := en_ai_e h
    obtain ⟨n, f, hf, hin, h⟩ := en_ar_e h
    intro h0 h1 h2 ad1 H locs ls had hP hD hS hl
    exact va_zald (q0 := a) (t0 := 2) hx hb hK hP (en_w_some hf) rfl hin hd (hk _ _ _ _ _ _ h h0 h1 h2 ad1 H locs ls had hP hD hS hl)
  | laload =>
    have hn : nx = pc + 1 := Nat.eq_of_beq_eq_true hck
    subst hn
    rw [Nat.add_sub_cancel_left] at hd
    obtain ⟨a, i, r, rfl, h⟩ := en_ai_e h
    obtain ⟨n, f, hf, hin, h⟩ := en_al_e h
    intro h0 h1 h2 ad1 H locs ls had hP hD hS hl
    exact va_lald (q0 := a) (t0 := 1) hx hb hK hP (en_w_some hf) rfl hin hd (hk _ _ _ _ _ _ h h0 h1 h2 ad1 H locs ls had hP hD hS hl)
  | iastore =>
    have hn : nx = pc + 1 := Nat.eq_of_beq_eq_true hck
    subst hn
    rw [Nat.add_sub_cancel_left] at hd
    obtain ⟨a, i, x, r, rfl, h⟩ := en_aii_e h
    obtain ⟨n, f, hf, hin, h⟩ := en_ar_e h
    intro h0 h1 h2 ad1 H locs ls had hP hD hS hl
    exact va_iast (q0 := a) (t0 := 0) hx hb hK hP hD hS (en_w_some hf) rfl hin hd (fun H1 locs1 hP1 hD1 hS1 => hk _ _ _ _ _ _ h (by rw [List.length_set]; exact h0) h1 h2 ad1 H1 locs1 ls had (by rw [en_w_set]; exact hP1) (by rw [en_w_set]; exact hD1) hS1 hl)
  | bastore =>
    have hn : nx = pc + 1 := Nat.eq_of_beq_eq_true hck
    subst hn
    rw [Nat.add_sub_cancel_left] at hd
    obtain ⟨a, i, x, r, rfl, h⟩ := en_aii_e h
    obtain ⟨n, f, hf, hin, h⟩ := en_ar_e h
    intro h0 h1 h2 ad1 H locs ls had hP hD hS hl
    exact va_zast (q0 := a) (t0 := 2) hx hb hK hP hD hS (en_w_some hf) rfl hin hd (fun H1 locs1 hP1 hD1 hS1 => hk _ _ _ _ _ _ h (by rw [List.length_set]; exact h0) h1 h2 ad1 H1 locs1 ls had (by rw [en_w_set]; exact hP1) (by rw [en_w_set]; exact hD1) hS1 hl)
  | lastore =>
    have hn : nx = pc + 1 := Nat.eq_of_beq_eq_true hck
    subst hn
    rw [Nat.add_sub_cancel_left] at hd
    obtain ⟨a, i, x, r, rfl, h⟩ := en_aij_e h
    obtain ⟨n, f, hf, hin, h⟩ := en_al_e h
    intro h0 h1 h2 ad1 H locs ls had hP hD hS hl
    exact va_last (q0 := a) (t0 := 1) hx hb hK hP hD hS (en_w_some hf) rfl hin hd (fun H1 locs1 hP1 hD1 hS1 => hk _ _ _ _ _ _ h (by rw [List.length_set]; exact h0) h1 h2 ad1 H1 locs1 ls had (by rw [en_w_set]; exact hP1) (by rw [en_w_set]; exact hD1) hS1 hl)
  | arraylength =>
    have hn : nx = pc + 1 := Nat.eq_of_beq_eq_true hck
    subst hn
    rw [Nat.add_sub_cancel_left] at hd
    obtain ⟨a, r, rfl, h⟩ := en_r_e h
    obtain ⟨tk, n, g, hg, htk, h⟩ := en_an_e h
    obtain ⟨ty, hty⟩ := en_tyg dT htk
    intro h0 h1 h2 ad1 H locs ls had hP hD hS hl
    exact va_alen (q0 := a) (t0 := tk) hx hb hK hP (en_w_some hg) hty rfl hd (hk _ _ _ _ _ _ h h0 h1 h2 ad1 H locs ls had hP hD hS hl)
  | invokevirtual x =>
    have hn : nx = pc + 3 := Nat.eq_of_beq_eq_true hck
    subst hn
    rw [Nat.add_sub_cancel_left] at hd
    dsimp only at h
    split at h
    · rename_i q heq
      obtain ⟨hj, h⟩ := en_bif h
      exact en_call_ok hW1 hW2 C' hk (en_lk_mem heq) rfl (Or.inr (Or.inr ⟨Nat.le_of_ble_eq_true hj, hd⟩)) h
    · exact h.elim
  | invokestatic x =>
    have hn : nx = pc + 3 := Nat.eq_of_beq_eq_true hck
    subst hn
    rw [Nat.add_sub_cancel_left] at hd
    dsimp only at h
    split at h
    · rename_i q heq
      obtain ⟨hj, h⟩ := en_bif h
      exact en_call_ok hW1 hW2 C' hk (en_lk_mem heq) rfl (Or.inl ⟨(Nat.eq_of_beq_eq_true hj).symm, hd⟩) h
    · exact h.elim
  | invokespecial x =>
    have hn : nx = pc + 3 := Nat.eq_of_beq_eq_true hck
    subst hn
    rw [Nat.add_sub_cancel_left] at hd
    dsimp only at h
    cases hoi : Nat.beq x t.2.2.2.2.2.2.1 with
    | true =>
      rw [hoi] at h
      simp only [cond_true] at h
      have hxo : x = t.2.2.2.2.2.2.1 := Nat.eq_of_beq_eq_true hoi
      split at h
      · rename_i a r
        obtain ⟨hj, h⟩ := en_bif h
        simp only [Bool.and_eq_true] at hj
        obtain ⟨hz, hj⟩ := hj
        have hj : en_sum r ≤ 8 := Nat.le_of_ble_eq_true hj
        rcases hO with hO | ⟨o1, o2, o3, o4, o5⟩
        · rw [hO] at hxo
          subst hxo
          cases hz
        · rw [← hxo] at o3
          intro h0 h1 h2 ad1 H locs ls had hP hD hS hl
          refine W.objInit (g := F0 m pc ls (Value.ref (ad1 a) :: r.map (en_v ad1))) hx hb hown o3 o4 o5 rfl (by rw [hml]; exact hl.1) rfl hd o1 (by rw [en_sum_cat]; show 2 * 0 + _ + 12 ≤ _; omega) ?_
          exact hk _ _ _ _ _ _ h h0 h1 h2 ad1 H locs ls had hP hD hS hl
      · exact h.elim
    | false =>
      rw [hoi] at h
      simp only [cond_false] at h
      split at h
      · rename_i q heq
        obtain ⟨hj, h⟩ := en_bif h
        exact en_call_ok hW1 hW2 C' hk (en_lk_mem heq) rfl (Or.inr (Or.inl ⟨(Nat.eq_of_beq_eq_true hj).symm, hd⟩)) h
      · exact h.elim
  | new x =>
    have hn : nx = pc + 3 := Nat.eq_of_beq_eq_true hck
    subst hn
    rw [Nat.add_sub_cancel_left] at hd
    dsimp only at h
    split at h
    · rename_i ci N fs heq
      obtain ⟨hj, ⟨hc1, hc2⟩, h⟩ := en_bif h
      simp only [Bool.and_eq_true] at hj
      obtain ⟨C, T, Ts, ty0, hcl, hts, hin, hty, hlk1, hins, hini, hdf, hlo⟩ := hN _ (en_lk_mem heq)
      intro h0 h1 h2 ad1 H locs ls had hP hD hS hl
      refine va_new (ci := ci) (fs := fs) hx hb hts hin ty0 hty hown hlk1 hins hini hK hP hD hS hA hcl hdf (Nat.le_trans hc1 hR.1) (Nat.le_trans hc2 hR.2) hd (fun q H1 hP1 hD1 hS1 => ?_)
      have hpu := en_w_push (ad := ad1) (dT := dT) (ws := ws) (x := .inr (ci, fs)) q hj.2 hlo
      have hfs : en_e ad1 dT (.inr (ci, fs)) = .inr (ci, fs) := by
        show Sum.inr (ci, fs.map (en_v ad1)) = Sum.inr (ci, fs)
        rw [en_lo_vs (n := 0) (ad := id) (ad1 := ad1) (fun k hk => absurd hk (Nat.not_lt_zero k)) hlo]
        congr 2
        have : ∀ v : Value, en_v id v = v := fun v => by cases v <;> rfl
        rw [List.map_congr_left (fun v _ => this v)]
        exact List.map_id' fs
      rw [hfs] at hpu
      rw [← hpu] at hP1 hD1
      have hag : ∀ k, k < ws.length → (fun k => if k = ws.length then q else ad1 k) k = ad1 k := fun k hk => by
        show (if k = ws.length then q else ad1 k) = ad1 k
        rw [if_neg (by omega)]
      have K := hk _ _ _ _ _ _ h (by rw [List.length_append]; exact Nat.le_trans h0 (Nat.le_add_right _ _)) hc1 hc2 (fun k => if k = ws.length then q else ad1 k) H1 locs ls (fun k hk => (hag k (Nat.lt_of_lt_of_le hk h0)).trans (had k hk)) hP1 hD1 hS1 (by rw [en_lo_l hag hj.1.2]; exact hl)
      have hst : (Value.ref ws.length :: st).map (en_v (fun k => if k = ws.length then q else ad1 k)) = Value.ref q :: st.map (en_v ad1) := by
        rw [List.map_cons, en_lo_vs hag hj.1.1]
        show Value.ref (if ws.length = ws.length then q else ad1 ws.length) :: _ = _
        rw [if_pos rfl]
      rw [hst] at K
      exact K
    · exact h.elim
  | newarray ty =>
    have hn : nx = pc + 2 := Nat.eq_of_beq_eq_true hck
    subst hn
    rw [Nat.add_sub_cancel_left] at hd
    obtain ⟨n, r, rfl, h⟩ := en_i_e h
    obtain ⟨hj, ⟨hg1, hg2, hc1, hc2⟩, h⟩ := en_bif h
    simp only [Bool.and_eq_true] at hj
    obtain ⟨a1, a2, a3⟩ := hAr
    cases ty with
    | int => exact en_newa_ok (ki := 0) (a0 := fun N => (N, .inl (fun _ => 0))) hx hb a1 rfl hK hA hR rfl (fun _ => rfl) (fun _ => rfl) hg1 hg2 hc1 hc2 (by decide) hd hj.1.1 hj.1.2 hj.2 (hk _ _ _ _ _ _ h)
    | long => exact en_newa_ok (ki := 1) (a0 := fun N => (N, .inr (.inl (fun _ => 0)))) hx hb a2 rfl hK hA hR rfl (fun _ => rfl) (fun _ => rfl) hg1 hg2 hc1 hc2 (by decide) hd hj.1.1 hj.1.2 hj.2 (hk _ _ _ _ _ _ h)
    | boolean => exact en_newa_ok (ki := 2) (a0 := fun N => (N, .inl (fun _ => 0))) hx hb a3 rfl hK hA hR rfl (fun _ => rfl) (fun _ => rfl) hg1 hg2 hc1 hc2 (by decide) hd hj.1.1 hj.1.2 hj.2 (hk _ _ _ _ _ _ h)
    | _ => exact h.elim
  | ireturn =>
    have hn : nx = pc + 1 := Nat.eq_of_beq_eq_true hck
    subst hn
    rw [Nat.add_sub_cancel_left] at hd
    dsimp only at h
    split at h
    · rename_i v
      split at h
      · rename_i hty
        intro h0 h1 h2 ad1 H locs ls had hP hD hS hl
        exact hret (some (.int v)) ws _ pc cs sl h hd (Or.inl ⟨v, rfl, rfl, Or.inl hty⟩) h0 h1 h2 ad1 H locs ls had hP hD hS
      · rename_i hty
        intro h0 h1 h2 ad1 H locs ls had hP hD hS hl
        exact hret (some (.int v)) ws _ pc cs sl h.2 hd (Or.inl ⟨v, rfl, rfl, Or.inr ⟨hty, h.1⟩⟩) h0 h1 h2 ad1 H locs ls had hP hD hS
      · exact h.elim
    · exact h.elim
  | return_ =>
    have hn : nx = pc + 1 := Nat.eq_of_beq_eq_true hck
    subst hn
    rw [Nat.add_sub_cancel_left] at hd
    dsimp only at h
    split at h
    · rename_i hty
      intro h0 h1 h2 ad1 H locs ls had hP hD hS hl
      exact hret none ws _ pc cs sl h hd (Or.inr ⟨rfl, rfl, hty⟩) h0 h1 h2 ad1 H locs ls had hP hD hS
    · exact h.elim
  | _ => exact h.elim
/-- a run is sound -/
theorem en_vc_ok (hW1 : ∀ u U : State, u.vm = U.vm → WD u → WD U) (hW2 : ∀ u U : State, u.WarmedH U.vm → WD u → WD U) (C : en_X WD D cl dT A t p l R s m args meth c own cc) {G : Option Value → List va_E → Prop} (hret : en_R D cl dT A t n0 ad p l e R s m args below meth c Q G cc) (stop : List Nat) : ∀ (n : Nat) (cs sl pc : Nat) (lv : en_L) (st : List Value) (ws : List va_E), en_vc t G stop (en_OK D cl dT A t n0 ad p l e R s m args below meth c Q) n cs sl pc lv st ws → en_OK D cl dT A t n0 ad p l e R s m args below meth c Q cs sl pc lv st ws
  | 0, cs, sl, pc, lv, st, ws, h => h
  | n + 1, cs, sl, pc, lv, st, ws, h => en_st_ok hW1 hW2 C hret (fun cs sl pc lv st ws h2 => by
      cases hs : en_in stop pc with
      | true => rw [hs] at h2; exact h2
      | false => rw [hs] at h2; exact en_vc_ok hW1 hW2 C hret stop n cs sl pc lv st ws h2) h
/-- fewer locals are enough -/
theorem en_sub {cs sl pc : Nat} {lv lv' : en_L} {st : List Value} {ws : List va_E} (ks : List Nat) (hl : lv_pick lv ks = lv') (h : en_OK D cl dT A t n0 ad p l e R s m args below meth c Q cs sl pc lv' st ws) : en_OK D cl dT A t n0 ad p l e R s m args below meth c Q cs sl pc lv st ws := by
  intro h0 h1 h2 ad1 H locs ls had hP hD hS hl2
  refine h h0 h1 h2 ad1 H locs ls had hP hD hS (lv_sub hl2 ks ?_)
  subst hl
  unfold lv_pick en_l
  rw [List.map_filterMap]
  congr 1
  funext k
  rw [List.getElem?_map]
end SND3
end
section
/-! A METHOD'S CONTRACT out of what its body asks, the machine hidden -/
def en_args : Nat → List Value → en_L
  | _, [] => []
  | i, v :: vs => (i, v) :: en_args (bif Nat.beq v.category 2 then i + 2 else i + 1) vs
theorem en_args_l (ad : Nat → Nat) : ∀ (vs : List Value) (i : Nat), en_l ad (en_args i vs) = lv_args i (vs.map (en_v ad))
  | [], _ => rfl
  | v :: vs, i => by
    simp only [en_args, lv_args, List.map_cons]
    have h := en_args_l ad vs (bif Nat.beq v.category 2 then i + 2 else i + 1)
    rw [en_v_cat, ← show (bif Nat.beq v.category 2 then i + 2 else i + 1) = (if v.category = 2 then i + 2 else i + 1) from ?_, ← h]
    · rfl
    · cases hb : Nat.beq v.category 2 with
      | true => rw [if_pos (Nat.eq_of_beq_eq_true hb)]; rfl
      | false => rw [if_neg (Nat.ne_of_beq_eq_false hb)]; rfl
theorem en_sl_len (ad : Nat → Nat) : ∀ vs : List Value, (lg_sl (vs.map (en_v ad))).length = en_sum vs
  | [] => rfl
  | v :: vs => by
    have h := en_sl_len ad vs
    unfold lg_sl at h ⊢
    rw [List.map_cons, List.flatMap_cons, List.length_append, h, en_v_cat]
    show _ = v.category + en_sum vs
    rcases lv_cat v with h1 | h1
    · rw [if_neg (by omega), h1]; rfl
    · rw [if_pos h1, h1]; rfl
/-- a body's world: what a run of instructions asks is enough; fewer locals are enough -/
def en_Run (t : en_T) (G : Option Value → List va_E → Prop) (OK : en_K) : Prop :=
  (∀ (stop : List Nat) (n cs sl pc : Nat) (lv : en_L) (st : List Value) (ws : List va_E), en_vc t G stop OK n cs sl pc lv st ws → OK cs sl pc lv st ws) ∧
  (∀ (ks : List Nat) (cs sl pc : Nat) (lv lv' : en_L) (st : List Value) (ws : List va_E), lv_pick lv ks = lv' → OK cs sl pc lv' st ws → OK cs sl pc lv st ws)
/-- what the tables give for a method -/
def en_TB (WD : State → Prop) (D : va_G) (cl : List vw_C) (dT : Nat → Nat) (l : Launch) (R : Room) (t : en_T) (own nm : String) (cc : ByteArray) : Prop :=
  (∀ q ∈ t.2.1, decode cc q.1 = .ok (q.2.1, q.2.2.1 - q.1) ∧ en_ck q = true) ∧
  ∀ (s : State) (args : Array Value) (meth : Method), WD s → meth.name = nm → (∀ q ∈ t.2.2.1, en_fok cl s args meth own q) ∧ (∀ q ∈ t.2.2.2.1, en_cok s args own q) ∧ (∀ q ∈ t.2.2.2.2.1, en_mok WD D cl dT l R s args own q) ∧ (∀ q ∈ t.2.2.2.2.2.1, en_nok cl s args own q) ∧
    ((t.2.2.2.2.2.2.1 = 0 ∨ (1 ≤ R.frames ∧ 20 ≤ R.locals ∧ (Jvm.Cond.methodLink own t.2.2.2.2.2.2.1 Lib.objectInit).before args s = true ∧ (Jvm.Cond.instanceMethod Lib.objectInit).before args s = true ∧ (Jvm.Cond.code Lib.objectInit ⟨#[0xb1]⟩ 1 none).before args s = true))) ∧
    ((Jvm.Cond.arrayClass .int).before args s = true ∧ (Jvm.Cond.arrayClass .long).before args s = true ∧ (Jvm.Cond.arrayClass .boolean).before args s = true)
set_option maxHeartbeats 4000000 in
theorem en_met {WD : State → Prop} {D : va_G} {cl : List vw_C} {dT : Nat → Nat} {l : Launch} {y : MethodName} {bytes : ByteArray} {maxL : Nat} {ret : Option FieldType} {rm : Room} {t : en_T} {f : List Value → List va_E → (Option Value → List va_E → Prop) → Prop}
    (hW1 : ∀ u U : State, u.vm = U.vm → WD u → WD U) (hW2 : ∀ u U : State, u.WarmedH U.vm → WD u → WD U) (hy : plainName y.cls = true) (ht1 : t.1 = (maxL, rm.cells, rm.slots)) (ht2 : t.2.2.2.2.2.2.2 = ret) (hTB : en_TB WD D cl dT l rm t y.cls y.name bytes)
    (hlen : ∀ av ws G, f av ws G → en_sum av ≤ maxL)
    (body : ∀ (av : List Value) (ws : List va_E) (G : Option Value → List va_E → Prop), f av ws G → ∀ OK : en_K, en_Run t G OK → OK 0 0 0 (en_args 0 av) [] ws) : en_CT WD D cl dT l y bytes maxL ret rm f := by
  intro ad sz av ws G hf
  refine Met.ofW (cc := bytes) (maxL := maxL) (ret := ret) hy rfl ?_
  intro p e s m args below meth c s₁ B hml hv
  obtain ⟨rfl, hsz, hP, hK, hD0, hWD⟩ := hv
  have hown : s.vm.findClass y.cls = some m.cls := findClass_of_methodNamed B.named
  have hlocks := B.notSynchronized
  have hr := B.returns
  subst hsz
  have hD := hD0.self (sz := s.heap.size)
  have hA : ∀ q : Nat, s.heap.size ≤ q → va_A (en_w ad dT ws) s.heap.size q := fun q h => Or.inr h
  have hS : va_S (va_A (en_w ad dT ws) s.heap.size) s.heap s.heap [] := va_S.rf
  obtain ⟨hT, hrest⟩ := hTB
  obtain ⟨hF, hC, hM, hN, hO, hAr⟩ := hrest s (av.map (en_v ad)).toArray meth hWD (name_of_methodNamed B.named B.method).1
  have e1 : t.1.1 = maxL := by rw [ht1]
  have e2 : t.1.2.1 = rm.cells := by rw [ht1]
  have e3 : t.1.2.2 = rm.slots := by rw [ht1]
  have C : en_X WD D cl dT (va_A (en_w ad dT ws) s.heap.size) t p l rm s m (av.map (en_v ad)).toArray meth c y.cls bytes :=
    ⟨B.exec, B.bytes, hml.trans e1.symm, hown, hK, hA, hWD, ⟨Nat.le_of_eq e2, Nat.le_of_eq e3⟩, hT, hF, hC, hM, hN, hO, hAr⟩
  have hret : en_R D cl dT (va_A (en_w ad dT ws) s.heap.size) t ws.length ad p l e rm s m (av.map (en_v ad)).toArray below meth c (MQ below (en_Q D cl dT ad ws.length G (va_A (en_w ad dT ws) s.heap.size)) (av.map (en_v ad)).toArray s rm.cells rm.slots (va_A (en_w ad dT ws) s.heap.size)) G bytes := by
    intro v w i pc cs sl hG hd hi h0 h1 h2 ad1 H locs ls had hP1 hD1 hS1
    refine W.widen (k := rm.cells) (n := rm.slots) (by rw [← e2]; exact h1) (by rw [← e3]; exact h2) ?_
    have hq : ∀ tt : State, tt.heap = H → s.WarmedH tt.vm → en_Q D cl dT ad ws.length G (va_A (en_w ad dT ws) s.heap.size) (av.map (en_v ad)).toArray s (.returned (v.map (en_v ad1))) tt := fun tt ht hW =>
      ⟨⟨v, w, ad1, rfl, hG, h0, had, by rw [ht]; exact hP1, va_K.moved hW.alike hK, hD1⟩, hS1.F ht⟩
    rcases hi with ⟨x, rfl, rfl, hty⟩ | ⟨rfl, rfl, hty⟩
    · rcases hty with hty | ⟨hty, hnar⟩
      · exact W.iret (v := x) B.exec B.bytes (by rw [hr, ← ht2, hty]) hq hS1.2.2 hd
      · exact W.zret (v := x) (ty := .boolean) B.exec B.bytes (by rw [hr, ← ht2, hty]) hnar hq hS1.2.2 hd
    · exact W.vret B.exec B.bytes (by rw [hr, ← ht2, hty]) hq hS1.2.2 hd
  have K := body av ws G hf (en_OK D cl dT (va_A (en_w ad dT ws) s.heap.size) t ws.length ad p l e rm s m (av.map (en_v ad)).toArray below meth c (MQ below (en_Q D cl dT ad ws.length G (va_A (en_w ad dT ws) s.heap.size)) (av.map (en_v ad)).toArray s rm.cells rm.slots (va_A (en_w ad dT ws) s.heap.size)))
    ⟨fun stop n cs sl pc lv st ws h => en_vc_ok hW1 hW2 C hret stop n cs sl pc lv st ws h, fun ks cs sl pc lv lv' st ws h1 h2 => en_sub ks h1 h2⟩
  have hle : (lg_sl (av.map (en_v ad))).length ≤ maxL := by
    rw [en_sl_len]
    exact hlen av ws G hf
  have hl := lv_entry (av.map (en_v ad)) hle
  rw [lg_entry_eq]
  exact K (Nat.le_refl _) (Nat.zero_le _) (Nat.zero_le _) ad s.heap [] _ (fun _ _ => rfl) hP hD hS (by rw [en_args_l, e1]; exact hl)
end
section
/-- a private method of a class that the tables say can be made, by its rows of tables_1 -/
def lw_okq (q : MethodName × Nat) : Prop := (q.1.cls ≠ "java/lang/invoke/MethodHandle" ∧ q.1.cls ≠ "java/lang/invoke/VarHandle") ∧ Cond.instantiable q.1.cls q.2 ∈ tables_1 ∧ Cond.privateMethod q.1 ∈ tables_1 ∧ Cond.instanceMethod q.1 ∈ tables_1
theorem lw_p0 : lw_okq (⟨"SplitLeaks$Weights", "withGreatestRest", "()I"⟩, 5) := ⟨⟨by decide +kernel, by decide +kernel⟩, List.mem_of_getElem? (i := 72) (by decide +kernel), List.mem_of_getElem? (i := 257) (by decide +kernel), List.mem_of_getElem? (i := 258) (by decide +kernel)⟩
theorem lw_p1 : lw_okq (⟨"SplitLeaks$Splitter", "planPlain", "()V"⟩, 8) := ⟨⟨by decide +kernel, by decide +kernel⟩, List.mem_of_getElem? (i := 101) (by decide +kernel), List.mem_of_getElem? (i := 276) (by decide +kernel), List.mem_of_getElem? (i := 277) (by decide +kernel)⟩
theorem lw_p2 : lw_okq (⟨"SplitLeaks$Splitter", "gatherAll", "()V"⟩, 8) := ⟨⟨by decide +kernel, by decide +kernel⟩, List.mem_of_getElem? (i := 101) (by decide +kernel), List.mem_of_getElem? (i := 280) (by decide +kernel), List.mem_of_getElem? (i := 281) (by decide +kernel)⟩
theorem lw_p3 : lw_okq (⟨"SplitLeaks$Draws", "draw", "(I)I"⟩, 1) := ⟨⟨by decide +kernel, by decide +kernel⟩, List.mem_of_getElem? (i := 107) (by decide +kernel), List.mem_of_getElem? (i := 288) (by decide +kernel), List.mem_of_getElem? (i := 289) (by decide +kernel)⟩
theorem lw_p4 : lw_okq (⟨"SplitLeaks$Splitter", "fillByQuotas", "()V"⟩, 8) := ⟨⟨by decide +kernel, by decide +kernel⟩, List.mem_of_getElem? (i := 101) (by decide +kernel), List.mem_of_getElem? (i := 294) (by decide +kernel), List.mem_of_getElem? (i := 295) (by decide +kernel)⟩
theorem lw_p5 : lw_okq (⟨"SplitLeaks$Splitter", "planGroups", "()V"⟩, 8) := ⟨⟨by decide +kernel, by decide +kernel⟩, List.mem_of_getElem? (i := 101) (by decide +kernel), List.mem_of_getElem? (i := 299) (by decide +kernel), List.mem_of_getElem? (i := 300) (by decide +kernel)⟩
theorem lw_p6 : lw_okq (⟨"SplitLeaks$Splitter", "gatherGroups", "()V"⟩, 8) := ⟨⟨by decide +kernel, by decide +kernel⟩, List.mem_of_getElem? (i := 101) (by decide +kernel), List.mem_of_getElem? (i := 303) (by decide +kernel), List.mem_of_getElem? (i := 304) (by decide +kernel)⟩
theorem lw_p7 : lw_okq (⟨"SplitLeaks$Splitter", "neediestPart", "()I"⟩, 8) := ⟨⟨by decide +kernel, by decide +kernel⟩, List.mem_of_getElem? (i := 101) (by decide +kernel), List.mem_of_getElem? (i := 311) (by decide +kernel), List.mem_of_getElem? (i := 312) (by decide +kernel)⟩
theorem lw_p8 : lw_okq (⟨"SplitLeaks$Splitter", "need", "(I)I"⟩, 8) := ⟨⟨by decide +kernel, by decide +kernel⟩, List.mem_of_getElem? (i := 101) (by decide +kernel), List.mem_of_getElem? (i := 315) (by decide +kernel), List.mem_of_getElem? (i := 316) (by decide +kernel)⟩
theorem lw_p9 : lw_okq (⟨"SplitLeaks$Splitter", "placeGroup", "(II)V"⟩, 8) := ⟨⟨by decide +kernel, by decide +kernel⟩, List.mem_of_getElem? (i := 101) (by decide +kernel), List.mem_of_getElem? (i := 319) (by decide +kernel), List.mem_of_getElem? (i := 320) (by decide +kernel)⟩
theorem lw_p10 : lw_okq (⟨"SplitLeaks$Splitter", "planTimes", "(I)V"⟩, 8) := ⟨⟨by decide +kernel, by decide +kernel⟩, List.mem_of_getElem? (i := 101) (by decide +kernel), List.mem_of_getElem? (i := 323) (by decide +kernel), List.mem_of_getElem? (i := 324) (by decide +kernel)⟩
theorem lw_p11 : lw_okq (⟨"SplitLeaks$Splitter", "sortByTime", "()V"⟩, 8) := ⟨⟨by decide +kernel, by decide +kernel⟩, List.mem_of_getElem? (i := 101) (by decide +kernel), List.mem_of_getElem? (i := 327) (by decide +kernel), List.mem_of_getElem? (i := 328) (by decide +kernel)⟩
theorem lw_p12 : lw_okq (⟨"SplitLeaks$Splitter", "joinLikeTimes", "()V"⟩, 8) := ⟨⟨by decide +kernel, by decide +kernel⟩, List.mem_of_getElem? (i := 101) (by decide +kernel), List.mem_of_getElem? (i := 331) (by decide +kernel), List.mem_of_getElem? (i := 332) (by decide +kernel)⟩
theorem lw_p13 : lw_okq (⟨"SplitLeaks$Splitter", "findLatest", "()V"⟩, 8) := ⟨⟨by decide +kernel, by decide +kernel⟩, List.mem_of_getElem? (i := 101) (by decide +kernel), List.mem_of_getElem? (i := 335) (by decide +kernel), List.mem_of_getElem? (i := 336) (by decide +kernel)⟩
theorem lw_p14 : lw_okq (⟨"SplitLeaks$Splitter", "isInGap", "(II)Z"⟩, 8) := ⟨⟨by decide +kernel, by decide +kernel⟩, List.mem_of_getElem? (i := 101) (by decide +kernel), List.mem_of_getElem? (i := 340) (by decide +kernel), List.mem_of_getElem? (i := 341) (by decide +kernel)⟩
theorem lw_p15 : lw_okq (⟨"SplitLeaks$Splitter", "planLabels", "()V"⟩, 8) := ⟨⟨by decide +kernel, by decide +kernel⟩, List.mem_of_getElem? (i := 101) (by decide +kernel), List.mem_of_getElem? (i := 344) (by decide +kernel), List.mem_of_getElem? (i := 345) (by decide +kernel)⟩
def lw_privs_1 : List (MethodName × Nat) := [(⟨"SplitLeaks$Weights", "withGreatestRest", "()I"⟩, 5), (⟨"SplitLeaks$Splitter", "planPlain", "()V"⟩, 8), (⟨"SplitLeaks$Splitter", "gatherAll", "()V"⟩, 8), (⟨"SplitLeaks$Draws", "draw", "(I)I"⟩, 1), (⟨"SplitLeaks$Splitter", "fillByQuotas", "()V"⟩, 8), (⟨"SplitLeaks$Splitter", "planGroups", "()V"⟩, 8), (⟨"SplitLeaks$Splitter", "gatherGroups", "()V"⟩, 8), (⟨"SplitLeaks$Splitter", "neediestPart", "()I"⟩, 8), (⟨"SplitLeaks$Splitter", "need", "(I)I"⟩, 8), (⟨"SplitLeaks$Splitter", "placeGroup", "(II)V"⟩, 8), (⟨"SplitLeaks$Splitter", "planTimes", "(I)V"⟩, 8), (⟨"SplitLeaks$Splitter", "sortByTime", "()V"⟩, 8), (⟨"SplitLeaks$Splitter", "joinLikeTimes", "()V"⟩, 8), (⟨"SplitLeaks$Splitter", "findLatest", "()V"⟩, 8), (⟨"SplitLeaks$Splitter", "isInGap", "(II)Z"⟩, 8), (⟨"SplitLeaks$Splitter", "planLabels", "()V"⟩, 8)]
theorem lw_r1 : ∀ q ∈ lw_privs_1, lw_okq q := List.forall_mem_cons.mpr ⟨lw_p0, List.forall_mem_cons.mpr ⟨lw_p1, List.forall_mem_cons.mpr ⟨lw_p2, List.forall_mem_cons.mpr ⟨lw_p3, List.forall_mem_cons.mpr ⟨lw_p4, List.forall_mem_cons.mpr ⟨lw_p5, List.forall_mem_cons.mpr ⟨lw_p6, List.forall_mem_cons.mpr ⟨lw_p7, List.forall_mem_cons.mpr ⟨lw_p8, List.forall_mem_cons.mpr ⟨lw_p9, List.forall_mem_cons.mpr ⟨lw_p10, List.forall_mem_cons.mpr ⟨lw_p11, List.forall_mem_cons.mpr ⟨lw_p12, List.forall_mem_cons.mpr ⟨lw_p13, List.forall_mem_cons.mpr ⟨lw_p14, List.forall_mem_cons.mpr ⟨lw_p15, fun _ h => absurd h List.not_mem_nil⟩⟩⟩⟩⟩⟩⟩⟩⟩⟩⟩⟩⟩⟩⟩⟩
theorem lw_p16 : lw_okq (⟨"SplitLeaks$Splitter", "gatherLabel", "(I)V"⟩, 8) := ⟨⟨by decide +kernel, by decide +kernel⟩, List.mem_of_getElem? (i := 101) (by decide +kernel), List.mem_of_getElem? (i := 348) (by decide +kernel), List.mem_of_getElem? (i := 349) (by decide +kernel)⟩
theorem lw_p17 : lw_okq (⟨"SplitLeaks$Splitter", "dealFrom", "(I)I"⟩, 8) := ⟨⟨by decide +kernel, by decide +kernel⟩, List.mem_of_getElem? (i := 101) (by decide +kernel), List.mem_of_getElem? (i := 380) (by decide +kernel), List.mem_of_getElem? (i := 381) (by decide +kernel)⟩
theorem lw_p18 : lw_okq (⟨"SplitLeaks$Splitter", "gatherLabelInside", "(II)V"⟩, 8) := ⟨⟨by decide +kernel, by decide +kernel⟩, List.mem_of_getElem? (i := 101) (by decide +kernel), List.mem_of_getElem? (i := 405) (by decide +kernel), List.mem_of_getElem? (i := 406) (by decide +kernel)⟩
theorem lw_p19 : lw_okq (⟨"SplitLeaks$Finder", "findPairs", "(II)V"⟩, 6) := ⟨⟨by decide +kernel, by decide +kernel⟩, List.mem_of_getElem? (i := 160) (by decide +kernel), List.mem_of_getElem? (i := 458) (by decide +kernel), List.mem_of_getElem? (i := 459) (by decide +kernel)⟩
theorem lw_p20 : lw_okq (⟨"SplitLeaks$Finder", "areNear", "(III)Z"⟩, 6) := ⟨⟨by decide +kernel, by decide +kernel⟩, List.mem_of_getElem? (i := 160) (by decide +kernel), List.mem_of_getElem? (i := 474) (by decide +kernel), List.mem_of_getElem? (i := 475) (by decide +kernel)⟩
theorem lw_p21 : lw_okq (⟨"SplitLeaks$Finder", "take", "(II)V"⟩, 6) := ⟨⟨by decide +kernel, by decide +kernel⟩, List.mem_of_getElem? (i := 160) (by decide +kernel), List.mem_of_getElem? (i := 479) (by decide +kernel), List.mem_of_getElem? (i := 480) (by decide +kernel)⟩
theorem lw_p22 : lw_okq (⟨"SplitLeaks$Finder", "findGroups", "()V"⟩, 6) := ⟨⟨by decide +kernel, by decide +kernel⟩, List.mem_of_getElem? (i := 160) (by decide +kernel), List.mem_of_getElem? (i := 483) (by decide +kernel), List.mem_of_getElem? (i := 484) (by decide +kernel)⟩
theorem lw_p23 : lw_okq (⟨"SplitLeaks$Rows", "hasGroupIn", "(II)Z"⟩, 8) := ⟨⟨by decide +kernel, by decide +kernel⟩, List.mem_of_getElem? (i := 25) (by decide +kernel), List.mem_of_getElem? (i := 491) (by decide +kernel), List.mem_of_getElem? (i := 492) (by decide +kernel)⟩
theorem lw_p24 : lw_okq (⟨"SplitLeaks$Finder", "findLate", "()V"⟩, 6) := ⟨⟨by decide +kernel, by decide +kernel⟩, List.mem_of_getElem? (i := 160) (by decide +kernel), List.mem_of_getElem? (i := 495) (by decide +kernel), List.mem_of_getElem? (i := 496) (by decide +kernel)⟩
theorem lw_p25 : lw_okq (⟨"SplitLeaks$Finder", "earliestOutsideFirstPart", "()I"⟩, 6) := ⟨⟨by decide +kernel, by decide +kernel⟩, List.mem_of_getElem? (i := 160) (by decide +kernel), List.mem_of_getElem? (i := 499) (by decide +kernel), List.mem_of_getElem? (i := 500) (by decide +kernel)⟩
theorem lw_p26 : lw_okq (⟨"SplitLeaks$Finder", "findTelling", "()V"⟩, 6) := ⟨⟨by decide +kernel, by decide +kernel⟩, List.mem_of_getElem? (i := 160) (by decide +kernel), List.mem_of_getElem? (i := 503) (by decide +kernel), List.mem_of_getElem? (i := 504) (by decide +kernel)⟩
theorem lw_p27 : lw_okq (⟨"SplitLeaks$Finder", "tellsLabel", "(I)Z"⟩, 6) := ⟨⟨by decide +kernel, by decide +kernel⟩, List.mem_of_getElem? (i := 160) (by decide +kernel), List.mem_of_getElem? (i := 507) (by decide +kernel), List.mem_of_getElem? (i := 508) (by decide +kernel)⟩
theorem lw_p28 : lw_okq (⟨"SplitLeaks$Finder", "standsWithOtherLabel", "(II)Z"⟩, 6) := ⟨⟨by decide +kernel, by decide +kernel⟩, List.mem_of_getElem? (i := 160) (by decide +kernel), List.mem_of_getElem? (i := 512) (by decide +kernel), List.mem_of_getElem? (i := 513) (by decide +kernel)⟩
theorem lw_p29 : lw_okq (⟨"SplitLeaks$Finder", "standsAgainBehind", "(II)Z"⟩, 6) := ⟨⟨by decide +kernel, by decide +kernel⟩, List.mem_of_getElem? (i := 160) (by decide +kernel), List.mem_of_getElem? (i := 517) (by decide +kernel), List.mem_of_getElem? (i := 518) (by decide +kernel)⟩
theorem lw_p30 : lw_okq (⟨"SplitLeaks$Finder", "countNumbers", "(I)I"⟩, 6) := ⟨⟨by decide +kernel, by decide +kernel⟩, List.mem_of_getElem? (i := 160) (by decide +kernel), List.mem_of_getElem? (i := 521) (by decide +kernel), List.mem_of_getElem? (i := 522) (by decide +kernel)⟩
theorem lw_p31 : lw_okq (⟨"SplitLeaks$Finder", "findFitted", "()V"⟩, 6) := ⟨⟨by decide +kernel, by decide +kernel⟩, List.mem_of_getElem? (i := 160) (by decide +kernel), List.mem_of_getElem? (i := 525) (by decide +kernel), List.mem_of_getElem? (i := 526) (by decide +kernel)⟩
def lw_privs_2 : List (MethodName × Nat) := [(⟨"SplitLeaks$Splitter", "gatherLabel", "(I)V"⟩, 8), (⟨"SplitLeaks$Splitter", "dealFrom", "(I)I"⟩, 8), (⟨"SplitLeaks$Splitter", "gatherLabelInside", "(II)V"⟩, 8), (⟨"SplitLeaks$Finder", "findPairs", "(II)V"⟩, 6), (⟨"SplitLeaks$Finder", "areNear", "(III)Z"⟩, 6), (⟨"SplitLeaks$Finder", "take", "(II)V"⟩, 6), (⟨"SplitLeaks$Finder", "findGroups", "()V"⟩, 6), (⟨"SplitLeaks$Rows", "hasGroupIn", "(II)Z"⟩, 8), (⟨"SplitLeaks$Finder", "findLate", "()V"⟩, 6), (⟨"SplitLeaks$Finder", "earliestOutsideFirstPart", "()I"⟩, 6), (⟨"SplitLeaks$Finder", "findTelling", "()V"⟩, 6), (⟨"SplitLeaks$Finder", "tellsLabel", "(I)Z"⟩, 6), (⟨"SplitLeaks$Finder", "standsWithOtherLabel", "(II)Z"⟩, 6), (⟨"SplitLeaks$Finder", "standsAgainBehind", "(II)Z"⟩, 6), (⟨"SplitLeaks$Finder", "countNumbers", "(I)I"⟩, 6), (⟨"SplitLeaks$Finder", "findFitted", "()V"⟩, 6)]
theorem lw_r2 : ∀ q ∈ lw_privs_2, lw_okq q := List.forall_mem_cons.mpr ⟨lw_p16, List.forall_mem_cons.mpr ⟨lw_p17, List.forall_mem_cons.mpr ⟨lw_p18, List.forall_mem_cons.mpr ⟨lw_p19, List.forall_mem_cons.mpr ⟨lw_p20, List.forall_mem_cons.mpr ⟨lw_p21, List.forall_mem_cons.mpr ⟨lw_p22, List.forall_mem_cons.mpr ⟨lw_p23, List.forall_mem_cons.mpr ⟨lw_p24, List.forall_mem_cons.mpr ⟨lw_p25, List.forall_mem_cons.mpr ⟨lw_p26, List.forall_mem_cons.mpr ⟨lw_p27, List.forall_mem_cons.mpr ⟨lw_p28, List.forall_mem_cons.mpr ⟨lw_p29, List.forall_mem_cons.mpr ⟨lw_p30, List.forall_mem_cons.mpr ⟨lw_p31, fun _ h => absurd h List.not_mem_nil⟩⟩⟩⟩⟩⟩⟩⟩⟩⟩⟩⟩⟩⟩⟩⟩
theorem lw_p32 : lw_okq (⟨"SplitLeaks$Rows", "digestOf", "(I)I"⟩, 8) := ⟨⟨by decide +kernel, by decide +kernel⟩, List.mem_of_getElem? (i := 25) (by decide +kernel), List.mem_of_getElem? (i := 546) (by decide +kernel), List.mem_of_getElem? (i := 547) (by decide +kernel)⟩
theorem lw_p33 : lw_okq (⟨"SplitLeaks$Rows", "countMeetingsBehind", "(I)I"⟩, 8) := ⟨⟨by decide +kernel, by decide +kernel⟩, List.mem_of_getElem? (i := 25) (by decide +kernel), List.mem_of_getElem? (i := 553) (by decide +kernel), List.mem_of_getElem? (i := 554) (by decide +kernel)⟩
theorem lw_p34 : lw_okq (⟨"java/lang/Throwable", "fillInStackTrace", "(I)Ljava/lang/Throwable;"⟩, 6) := ⟨⟨by decide +kernel, by decide +kernel⟩, List.mem_of_getElem? (i := 618) (by decide +kernel), List.mem_of_getElem? (i := 616) (by decide +kernel), List.mem_of_getElem? (i := 617) (by decide +kernel)⟩
theorem lw_p35 : lw_okq (⟨"SplitLeaksModel", "isRow", "(I)Z"⟩, 24) := ⟨⟨by decide +kernel, by decide +kernel⟩, List.mem_of_getElem? (i := 684) (by decide +kernel), List.mem_of_getElem? (i := 779) (by decide +kernel), List.mem_of_getElem? (i := 780) (by decide +kernel)⟩
theorem lw_p36 : lw_okq (⟨"SplitLeaksModel", "quotasOf", "(I)V"⟩, 24) := ⟨⟨by decide +kernel, by decide +kernel⟩, List.mem_of_getElem? (i := 684) (by decide +kernel), List.mem_of_getElem? (i := 799) (by decide +kernel), List.mem_of_getElem? (i := 800) (by decide +kernel)⟩
theorem lw_p37 : lw_okq (⟨"SplitLeaksModel", "deal", "(IJI)Z"⟩, 24) := ⟨⟨by decide +kernel, by decide +kernel⟩, List.mem_of_getElem? (i := 684) (by decide +kernel), List.mem_of_getElem? (i := 807) (by decide +kernel), List.mem_of_getElem? (i := 808) (by decide +kernel)⟩
theorem lw_p38 : lw_okq (⟨"SplitLeaksModel", "plain", "()V"⟩, 24) := ⟨⟨by decide +kernel, by decide +kernel⟩, List.mem_of_getElem? (i := 684) (by decide +kernel), List.mem_of_getElem? (i := 811) (by decide +kernel), List.mem_of_getElem? (i := 812) (by decide +kernel)⟩
theorem lw_p39 : lw_okq (⟨"SplitLeaksModel", "shuffle", "()V"⟩, 24) := ⟨⟨by decide +kernel, by decide +kernel⟩, List.mem_of_getElem? (i := 684) (by decide +kernel), List.mem_of_getElem? (i := 815) (by decide +kernel), List.mem_of_getElem? (i := 816) (by decide +kernel)⟩
theorem lw_p40 : lw_okq (⟨"SplitLeaksModel", "draw", "(I)I"⟩, 24) := ⟨⟨by decide +kernel, by decide +kernel⟩, List.mem_of_getElem? (i := 684) (by decide +kernel), List.mem_of_getElem? (i := 819) (by decide +kernel), List.mem_of_getElem? (i := 820) (by decide +kernel)⟩
theorem lw_p41 : lw_okq (⟨"SplitLeaksModel", "give", "()V"⟩, 24) := ⟨⟨by decide +kernel, by decide +kernel⟩, List.mem_of_getElem? (i := 684) (by decide +kernel), List.mem_of_getElem? (i := 825) (by decide +kernel), List.mem_of_getElem? (i := 826) (by decide +kernel)⟩
theorem lw_p42 : lw_okq (⟨"SplitLeaksModel", "byGroups", "()V"⟩, 24) := ⟨⟨by decide +kernel, by decide +kernel⟩, List.mem_of_getElem? (i := 684) (by decide +kernel), List.mem_of_getElem? (i := 829) (by decide +kernel), List.mem_of_getElem? (i := 830) (by decide +kernel)⟩
theorem lw_p43 : lw_okq (⟨"SplitLeaksModel", "byTimes", "(I)V"⟩, 24) := ⟨⟨by decide +kernel, by decide +kernel⟩, List.mem_of_getElem? (i := 684) (by decide +kernel), List.mem_of_getElem? (i := 833) (by decide +kernel), List.mem_of_getElem? (i := 834) (by decide +kernel)⟩
theorem lw_p44 : lw_okq (⟨"SplitLeaksModel", "ofLabel", "(IZ)V"⟩, 24) := ⟨⟨by decide +kernel, by decide +kernel⟩, List.mem_of_getElem? (i := 684) (by decide +kernel), List.mem_of_getElem? (i := 837) (by decide +kernel), List.mem_of_getElem? (i := 838) (by decide +kernel)⟩
theorem lw_p45 : lw_okq (⟨"SplitLeaksModel", "take", "()I"⟩, 24) := ⟨⟨by decide +kernel, by decide +kernel⟩, List.mem_of_getElem? (i := 684) (by decide +kernel), List.mem_of_getElem? (i := 841) (by decide +kernel), List.mem_of_getElem? (i := 842) (by decide +kernel)⟩
theorem lw_p46 : lw_okq (⟨"SplitLeaksModel", "round", "(IZ)I"⟩, 24) := ⟨⟨by decide +kernel, by decide +kernel⟩, List.mem_of_getElem? (i := 684) (by decide +kernel), List.mem_of_getElem? (i := 853) (by decide +kernel), List.mem_of_getElem? (i := 854) (by decide +kernel)⟩
theorem lw_p47 : lw_okq (⟨"SplitLeaksModel", "look", "(II)V"⟩, 24) := ⟨⟨by decide +kernel, by decide +kernel⟩, List.mem_of_getElem? (i := 684) (by decide +kernel), List.mem_of_getElem? (i := 894) (by decide +kernel), List.mem_of_getElem? (i := 895) (by decide +kernel)⟩
def lw_privs_3 : List (MethodName × Nat) := [(⟨"SplitLeaks$Rows", "digestOf", "(I)I"⟩, 8), (⟨"SplitLeaks$Rows", "countMeetingsBehind", "(I)I"⟩, 8), (⟨"java/lang/Throwable", "fillInStackTrace", "(I)Ljava/lang/Throwable;"⟩, 6), (⟨"SplitLeaksModel", "isRow", "(I)Z"⟩, 24), (⟨"SplitLeaksModel", "quotasOf", "(I)V"⟩, 24), (⟨"SplitLeaksModel", "deal", "(IJI)Z"⟩, 24), (⟨"SplitLeaksModel", "plain", "()V"⟩, 24), (⟨"SplitLeaksModel", "shuffle", "()V"⟩, 24), (⟨"SplitLeaksModel", "draw", "(I)I"⟩, 24), (⟨"SplitLeaksModel", "give", "()V"⟩, 24), (⟨"SplitLeaksModel", "byGroups", "()V"⟩, 24), (⟨"SplitLeaksModel", "byTimes", "(I)V"⟩, 24), (⟨"SplitLeaksModel", "ofLabel", "(IZ)V"⟩, 24), (⟨"SplitLeaksModel", "take", "()I"⟩, 24), (⟨"SplitLeaksModel", "round", "(IZ)I"⟩, 24), (⟨"SplitLeaksModel", "look", "(II)V"⟩, 24)]
theorem lw_r3 : ∀ q ∈ lw_privs_3, lw_okq q := List.forall_mem_cons.mpr ⟨lw_p32, List.forall_mem_cons.mpr ⟨lw_p33, List.forall_mem_cons.mpr ⟨lw_p34, List.forall_mem_cons.mpr ⟨lw_p35, List.forall_mem_cons.mpr ⟨lw_p36, List.forall_mem_cons.mpr ⟨lw_p37, List.forall_mem_cons.mpr ⟨lw_p38, List.forall_mem_cons.mpr ⟨lw_p39, List.forall_mem_cons.mpr ⟨lw_p40, List.forall_mem_cons.mpr ⟨lw_p41, List.forall_mem_cons.mpr ⟨lw_p42, List.forall_mem_cons.mpr ⟨lw_p43, List.forall_mem_cons.mpr ⟨lw_p44, List.forall_mem_cons.mpr ⟨lw_p45, List.forall_mem_cons.mpr ⟨lw_p46, List.forall_mem_cons.mpr ⟨lw_p47, fun _ h => absurd h List.not_mem_nil⟩⟩⟩⟩⟩⟩⟩⟩⟩⟩⟩⟩⟩⟩⟩⟩
theorem lw_p48 : lw_okq (⟨"SplitLeaksModel", "pairs", "(ZI)V"⟩, 24) := ⟨⟨by decide +kernel, by decide +kernel⟩, List.mem_of_getElem? (i := 684) (by decide +kernel), List.mem_of_getElem? (i := 898) (by decide +kernel), List.mem_of_getElem? (i := 899) (by decide +kernel)⟩
theorem lw_p49 : lw_okq (⟨"SplitLeaksModel", "areApart", "(II)Z"⟩, 24) := ⟨⟨by decide +kernel, by decide +kernel⟩, List.mem_of_getElem? (i := 684) (by decide +kernel), List.mem_of_getElem? (i := 902) (by decide +kernel), List.mem_of_getElem? (i := 903) (by decide +kernel)⟩
theorem lw_p50 : lw_okq (⟨"SplitLeaksModel", "isEqual", "(II)Z"⟩, 24) := ⟨⟨by decide +kernel, by decide +kernel⟩, List.mem_of_getElem? (i := 684) (by decide +kernel), List.mem_of_getElem? (i := 906) (by decide +kernel), List.mem_of_getElem? (i := 907) (by decide +kernel)⟩
theorem lw_p51 : lw_okq (⟨"SplitLeaksModel", "areNear", "(II)Z"⟩, 24) := ⟨⟨by decide +kernel, by decide +kernel⟩, List.mem_of_getElem? (i := 684) (by decide +kernel), List.mem_of_getElem? (i := 910) (by decide +kernel), List.mem_of_getElem? (i := 911) (by decide +kernel)⟩
theorem lw_p52 : lw_okq (⟨"SplitLeaksModel", "tell", "(III)V"⟩, 24) := ⟨⟨by decide +kernel, by decide +kernel⟩, List.mem_of_getElem? (i := 684) (by decide +kernel), List.mem_of_getElem? (i := 914) (by decide +kernel), List.mem_of_getElem? (i := 915) (by decide +kernel)⟩
theorem lw_p53 : lw_okq (⟨"SplitLeaksModel", "groups", "(I)V"⟩, 24) := ⟨⟨by decide +kernel, by decide +kernel⟩, List.mem_of_getElem? (i := 684) (by decide +kernel), List.mem_of_getElem? (i := 918) (by decide +kernel), List.mem_of_getElem? (i := 919) (by decide +kernel)⟩
theorem lw_p54 : lw_okq (⟨"SplitLeaksModel", "late", "(I)V"⟩, 24) := ⟨⟨by decide +kernel, by decide +kernel⟩, List.mem_of_getElem? (i := 684) (by decide +kernel), List.mem_of_getElem? (i := 922) (by decide +kernel), List.mem_of_getElem? (i := 923) (by decide +kernel)⟩
theorem lw_p55 : lw_okq (⟨"SplitLeaksModel", "columns", "(I)V"⟩, 24) := ⟨⟨by decide +kernel, by decide +kernel⟩, List.mem_of_getElem? (i := 684) (by decide +kernel), List.mem_of_getElem? (i := 926) (by decide +kernel), List.mem_of_getElem? (i := 927) (by decide +kernel)⟩
theorem lw_p56 : lw_okq (⟨"SplitLeaksModel", "steps", "(I)V"⟩, 24) := ⟨⟨by decide +kernel, by decide +kernel⟩, List.mem_of_getElem? (i := 684) (by decide +kernel), List.mem_of_getElem? (i := 930) (by decide +kernel), List.mem_of_getElem? (i := 931) (by decide +kernel)⟩
theorem lw_p57 : lw_okq (⟨"SplitLeaksModel", "digest", "(I)I"⟩, 24) := ⟨⟨by decide +kernel, by decide +kernel⟩, List.mem_of_getElem? (i := 684) (by decide +kernel), List.mem_of_getElem? (i := 942) (by decide +kernel), List.mem_of_getElem? (i := 943) (by decide +kernel)⟩
def lw_privs_4 : List (MethodName × Nat) := [(⟨"SplitLeaksModel", "pairs", "(ZI)V"⟩, 24), (⟨"SplitLeaksModel", "areApart", "(II)Z"⟩, 24), (⟨"SplitLeaksModel", "isEqual", "(II)Z"⟩, 24), (⟨"SplitLeaksModel", "areNear", "(II)Z"⟩, 24), (⟨"SplitLeaksModel", "tell", "(III)V"⟩, 24), (⟨"SplitLeaksModel", "groups", "(I)V"⟩, 24), (⟨"SplitLeaksModel", "late", "(I)V"⟩, 24), (⟨"SplitLeaksModel", "columns", "(I)V"⟩, 24), (⟨"SplitLeaksModel", "steps", "(I)V"⟩, 24), (⟨"SplitLeaksModel", "digest", "(I)I"⟩, 24)]
theorem lw_r4 : ∀ q ∈ lw_privs_4, lw_okq q := List.forall_mem_cons.mpr ⟨lw_p48, List.forall_mem_cons.mpr ⟨lw_p49, List.forall_mem_cons.mpr ⟨lw_p50, List.forall_mem_cons.mpr ⟨lw_p51, List.forall_mem_cons.mpr ⟨lw_p52, List.forall_mem_cons.mpr ⟨lw_p53, List.forall_mem_cons.mpr ⟨lw_p54, List.forall_mem_cons.mpr ⟨lw_p55, List.forall_mem_cons.mpr ⟨lw_p56, List.forall_mem_cons.mpr ⟨lw_p57, fun _ h => absurd h List.not_mem_nil⟩⟩⟩⟩⟩⟩⟩⟩⟩⟩
def lw_privs : List (MethodName × Nat) := lw_privs_1 ++ (lw_privs_2 ++ (lw_privs_3 ++ (lw_privs_4)))
def lw_tbl : List Cond := k2_sels lw_privs ++ tables_1
theorem lw_privs_ok : ∀ q ∈ lw_privs, lw_okq q := by
  show ∀ q ∈ lw_privs_1 ++ (lw_privs_2 ++ (lw_privs_3 ++ (lw_privs_4))), lw_okq q
  exact List.forall_mem_append.mpr ⟨lw_r1, List.forall_mem_append.mpr ⟨lw_r2, List.forall_mem_append.mpr ⟨lw_r3, lw_r4⟩⟩⟩
def RX0 : String := "SplitLeaks$Draws"
def TX0 : u_T := fun k => match k with
  | _ => ("SplitLeaks$Draws", "z", "J", false)
def tyX0 : Nat → FieldType := fun k => match k with
  | _ => .long
abbrev wsX00 : List Cond := u_ws RX0 TX0 1
theorem nmX0 : ∀ a, a < 1 → ∀ b, b < 1 → a ≠ b → (TX0 a).2.1 ≠ (TX0 b).2.1 := by decide +kernel
theorem tyX0_ok : ∀ k, k < 1 → parseFieldDescriptor (TX0 k).2.2.1 = some (tyX0 k) := by decide +kernel
abbrev cX0_init : ByteArray := prog_2_method_1_code
def yX0_init : MethodName := ⟨RX0, "<init>", "()V"⟩
abbrev cX0_start : ByteArray := prog_2_method_2_code
def yX0_start : MethodName := ⟨RX0, "start", "(J)V"⟩
abbrev cX0_shuffle : ByteArray := prog_2_method_3_code
def yX0_shuffle : MethodName := ⟨RX0, "shuffle", "([II)V"⟩
abbrev cX0_draw : ByteArray := prog_2_method_4_code
def yX0_draw : MethodName := ⟨RX0, "draw", "(I)I"⟩
def RX1 : String := "SplitLeaks$Finder"
def TX1 : u_T := fun k => match k with
  | 0 => ("SplitLeaks$Finder", "rows", "LSplitLeaks$Rows;", true)
  | 1 => ("SplitLeaks$Finder", "steps", "LSplitLeaks$Steps;", true)
  | 2 => ("SplitLeaks$Finder", "wanted", "I", false)
  | 3 => ("SplitLeaks$Finder", "found", "I", false)
  | 4 => ("SplitLeaks$Finder", "first", "I", false)
  | _ => ("SplitLeaks$Finder", "second", "I", false)
def tyX1 : Nat → FieldType := fun k => match k with
  | 0 => .object "SplitLeaks$Rows"
  | 1 => .object "SplitLeaks$Steps"
  | 2 => .int
  | 3 => .int
  | 4 => .int
  | _ => .int
abbrev wsX10 : List Cond := u_ws RX1 TX1 6
theorem nmX1 : ∀ a, a < 6 → ∀ b, b < 6 → a ≠ b → (TX1 a).2.1 ≠ (TX1 b).2.1 := by decide +kernel
theorem tyX1_ok : ∀ k, k < 6 → parseFieldDescriptor (TX1 k).2.2.1 = some (tyX1 k) := by decide +kernel
abbrev cX1_init : ByteArray := prog_3_method_1_code
def yX1_init : MethodName := ⟨RX1, "<init>", "(LSplitLeaks$Rows;LSplitLeaks$Steps;)V"⟩
abbrev cX1_search : ByteArray := prog_3_method_2_code
def yX1_search : MethodName := ⟨RX1, "search", "(III)I"⟩
abbrev cX1_take : ByteArray := prog_3_method_3_code
def yX1_take : MethodName := ⟨RX1, "take", "(II)V"⟩
abbrev cX1_findPairs : ByteArray := prog_3_method_4_code
def yX1_findPairs : MethodName := ⟨RX1, "findPairs", "(II)V"⟩
abbrev cX1_areNear : ByteArray := prog_3_method_5_code
def yX1_areNear : MethodName := ⟨RX1, "areNear", "(III)Z"⟩
abbrev cX1_findGroups : ByteArray := prog_3_method_6_code
def yX1_findGroups : MethodName := ⟨RX1, "findGroups", "()V"⟩
abbrev cX1_findLate : ByteArray := prog_3_method_7_code
def yX1_findLate : MethodName := ⟨RX1, "findLate", "()V"⟩
abbrev cX1_earliestOutsideFirstPart : ByteArray := prog_3_method_8_code
def yX1_earliestOutsideFirstPart : MethodName := ⟨RX1, "earliestOutsideFirstPart", "()I"⟩
abbrev cX1_findTelling : ByteArray := prog_3_method_9_code
def yX1_findTelling : MethodName := ⟨RX1, "findTelling", "()V"⟩
abbrev cX1_tellsLabel : ByteArray := prog_3_method_10_code
def yX1_tellsLabel : MethodName := ⟨RX1, "tellsLabel", "(I)Z"⟩
abbrev cX1_standsWithOtherLabel : ByteArray := prog_3_method_11_code
def yX1_standsWithOtherLabel : MethodName := ⟨RX1, "standsWithOtherLabel", "(II)Z"⟩
abbrev cX1_standsAgainBehind : ByteArray := prog_3_method_12_code
def yX1_standsAgainBehind : MethodName := ⟨RX1, "standsAgainBehind", "(II)Z"⟩
abbrev cX1_countNumbers : ByteArray := prog_3_method_13_code
def yX1_countNumbers : MethodName := ⟨RX1, "countNumbers", "(I)I"⟩
abbrev cX1_findFitted : ByteArray := prog_3_method_14_code
def yX1_findFitted : MethodName := ⟨RX1, "findFitted", "()V"⟩
def RX2 : String := "SplitLeaks$Rows"
def TX2 : u_T := fun k => match k with
  | 0 => ("SplitLeaks$Rows", "count", "I", false)
  | 1 => ("SplitLeaks$Rows", "group", "[I", true)
  | 2 => ("SplitLeaks$Rows", "label", "[I", true)
  | 3 => ("SplitLeaks$Rows", "time", "[I", true)
  | 4 => ("SplitLeaks$Rows", "part", "[I", true)
  | 5 => ("SplitLeaks$Rows", "number", "[J", true)
  | 6 => ("SplitLeaks$Rows", "words", "[J", true)
  | _ => ("SplitLeaks$Rows", "digests", "[I", true)
def tyX2 : Nat → FieldType := fun k => match k with
  | 0 => .int
  | 1 => .array .int
  | 2 => .array .int
  | 3 => .array .int
  | 4 => .array .int
  | 5 => .array .long
  | 6 => .array .long
  | _ => .array .int
abbrev wsX20 : List Cond := u_ws RX2 TX2 8
theorem nmX2 : ∀ a, a < 8 → ∀ b, b < 8 → a ≠ b → (TX2 a).2.1 ≠ (TX2 b).2.1 := by decide +kernel
theorem tyX2_ok : ∀ k, k < 8 → parseFieldDescriptor (TX2 k).2.2.1 = some (tyX2 k) := by decide +kernel
abbrev cX2_init : ByteArray := prog_4_method_1_code
def yX2_init : MethodName := ⟨RX2, "<init>", "()V"⟩
abbrev cX2_has : ByteArray := prog_4_method_2_code
def yX2_has : MethodName := ⟨RX2, "has", "(I)Z"⟩
abbrev cX2_append : ByteArray := prog_4_method_3_code
def yX2_append : MethodName := ⟨RX2, "append", "(III)I"⟩
abbrev cX2_isPlaced : ByteArray := prog_4_method_4_code
def yX2_isPlaced : MethodName := ⟨RX2, "isPlaced", "(I)Z"⟩
abbrev cX2_areParted : ByteArray := prog_4_method_5_code
def yX2_areParted : MethodName := ⟨RX2, "areParted", "(II)Z"⟩
abbrev cX2_haveSameNumber : ByteArray := prog_4_method_6_code
def yX2_haveSameNumber : MethodName := ⟨RX2, "haveSameNumber", "(III)Z"⟩
abbrev cX2_areAlike : ByteArray := prog_4_method_7_code
def yX2_areAlike : MethodName := ⟨RX2, "areAlike", "(II)Z"⟩
abbrev cX2_countPlaced : ByteArray := prog_4_method_8_code
def yX2_countPlaced : MethodName := ⟨RX2, "countPlaced", "()I"⟩
abbrev cX2_countIn : ByteArray := prog_4_method_9_code
def yX2_countIn : MethodName := ⟨RX2, "countIn", "(II)I"⟩
abbrev cX2_countPlacedOfLabel : ByteArray := prog_4_method_10_code
def yX2_countPlacedOfLabel : MethodName := ⟨RX2, "countPlacedOfLabel", "(I)I"⟩
abbrev cX2_countPlacedLabelsBelow : ByteArray := prog_4_method_11_code
def yX2_countPlacedLabelsBelow : MethodName := ⟨RX2, "countPlacedLabelsBelow", "(I)I"⟩
abbrev cX2_countOfGroup : ByteArray := prog_4_method_12_code
def yX2_countOfGroup : MethodName := ⟨RX2, "countOfGroup", "(I)I"⟩
abbrev cX2_firstOfGroup : ByteArray := prog_4_method_13_code
def yX2_firstOfGroup : MethodName := ⟨RX2, "firstOfGroup", "(I)I"⟩
abbrev cX2_countPartsOfGroup : ByteArray := prog_4_method_14_code
def yX2_countPartsOfGroup : MethodName := ⟨RX2, "countPartsOfGroup", "(I)I"⟩
abbrev cX2_hasGroupIn : ByteArray := prog_4_method_15_code
def yX2_hasGroupIn : MethodName := ⟨RX2, "hasGroupIn", "(II)Z"⟩
abbrev cX2_countMeetings : ByteArray := prog_4_method_16_code
def yX2_countMeetings : MethodName := ⟨RX2, "countMeetings", "()I"⟩
abbrev cX2_countMeetingsBehind : ByteArray := prog_4_method_17_code
def yX2_countMeetingsBehind : MethodName := ⟨RX2, "countMeetingsBehind", "(I)I"⟩
abbrev cX2_digestOf : ByteArray := prog_4_method_18_code
def yX2_digestOf : MethodName := ⟨RX2, "digestOf", "(I)I"⟩
def RX3 : String := "SplitLeaks$Splitter"
def TX3 : u_T := fun k => match k with
  | 0 => ("SplitLeaks$Splitter", "rows", "LSplitLeaks$Rows;", true)
  | 1 => ("SplitLeaks$Splitter", "weights", "LSplitLeaks$Weights;", true)
  | 2 => ("SplitLeaks$Splitter", "draws", "LSplitLeaks$Draws;", true)
  | 3 => ("SplitLeaks$Splitter", "planned", "[I", true)
  | 4 => ("SplitLeaks$Splitter", "order", "[I", true)
  | 5 => ("SplitLeaks$Splitter", "length", "I", false)
  | 6 => ("SplitLeaks$Splitter", "held", "[I", true)
  | _ => ("SplitLeaks$Splitter", "latest", "[I", true)
def tyX3 : Nat → FieldType := fun k => match k with
  | 0 => .object "SplitLeaks$Rows"
  | 1 => .object "SplitLeaks$Weights"
  | 2 => .object "SplitLeaks$Draws"
  | 3 => .array .int
  | 4 => .array .int
  | 5 => .int
  | 6 => .array .int
  | _ => .array .int
abbrev wsX30 : List Cond := u_ws RX3 TX3 8
theorem nmX3 : ∀ a, a < 8 → ∀ b, b < 8 → a ≠ b → (TX3 a).2.1 ≠ (TX3 b).2.1 := by decide +kernel
theorem tyX3_ok : ∀ k, k < 8 → parseFieldDescriptor (TX3 k).2.2.1 = some (tyX3 k) := by decide +kernel
abbrev cX3_init : ByteArray := prog_5_method_1_code
def yX3_init : MethodName := ⟨RX3, "<init>", "(LSplitLeaks$Rows;LSplitLeaks$Weights;)V"⟩
abbrev cX3_settle : ByteArray := prog_5_method_2_code
def yX3_settle : MethodName := ⟨RX3, "settle", "()V"⟩
abbrev cX3_isSettled : ByteArray := prog_5_method_3_code
def yX3_isSettled : MethodName := ⟨RX3, "isSettled", "()Z"⟩
abbrev cX3_plan : ByteArray := prog_5_method_4_code
def yX3_plan : MethodName := ⟨RX3, "plan", "(IJI)V"⟩
abbrev cX3_planFolds : ByteArray := prog_5_method_5_code
def yX3_planFolds : MethodName := ⟨RX3, "planFolds", "(J)V"⟩
abbrev cX3_planNested : ByteArray := prog_5_method_6_code
def yX3_planNested : MethodName := ⟨RX3, "planNested", "(IJ)V"⟩
abbrev cX3_planPlain : ByteArray := prog_5_method_7_code
def yX3_planPlain : MethodName := ⟨RX3, "planPlain", "()V"⟩
abbrev cX3_planLabels : ByteArray := prog_5_method_8_code
def yX3_planLabels : MethodName := ⟨RX3, "planLabels", "()V"⟩
abbrev cX3_planGroups : ByteArray := prog_5_method_9_code
def yX3_planGroups : MethodName := ⟨RX3, "planGroups", "()V"⟩
abbrev cX3_planTimes : ByteArray := prog_5_method_10_code
def yX3_planTimes : MethodName := ⟨RX3, "planTimes", "(I)V"⟩
abbrev cX3_gatherAll : ByteArray := prog_5_method_11_code
def yX3_gatherAll : MethodName := ⟨RX3, "gatherAll", "()V"⟩
abbrev cX3_gatherLabel : ByteArray := prog_5_method_12_code
def yX3_gatherLabel : MethodName := ⟨RX3, "gatherLabel", "(I)V"⟩
abbrev cX3_gatherLabelInside : ByteArray := prog_5_method_13_code
def yX3_gatherLabelInside : MethodName := ⟨RX3, "gatherLabelInside", "(II)V"⟩
abbrev cX3_gatherGroups : ByteArray := prog_5_method_14_code
def yX3_gatherGroups : MethodName := ⟨RX3, "gatherGroups", "()V"⟩
abbrev cX3_fillByQuotas : ByteArray := prog_5_method_15_code
def yX3_fillByQuotas : MethodName := ⟨RX3, "fillByQuotas", "()V"⟩
abbrev cX3_dealFrom : ByteArray := prog_5_method_16_code
def yX3_dealFrom : MethodName := ⟨RX3, "dealFrom", "(I)I"⟩
abbrev cX3_neediestPart : ByteArray := prog_5_method_17_code
def yX3_neediestPart : MethodName := ⟨RX3, "neediestPart", "()I"⟩
abbrev cX3_need : ByteArray := prog_5_method_18_code
def yX3_need : MethodName := ⟨RX3, "need", "(I)I"⟩
abbrev cX3_placeGroup : ByteArray := prog_5_method_19_code
def yX3_placeGroup : MethodName := ⟨RX3, "placeGroup", "(II)V"⟩
abbrev cX3_sortByTime : ByteArray := prog_5_method_20_code
def yX3_sortByTime : MethodName := ⟨RX3, "sortByTime", "()V"⟩
abbrev cX3_joinLikeTimes : ByteArray := prog_5_method_21_code
def yX3_joinLikeTimes : MethodName := ⟨RX3, "joinLikeTimes", "()V"⟩
abbrev cX3_findLatest : ByteArray := prog_5_method_22_code
def yX3_findLatest : MethodName := ⟨RX3, "findLatest", "()V"⟩
abbrev cX3_isInGap : ByteArray := prog_5_method_23_code
def yX3_isInGap : MethodName := ⟨RX3, "isInGap", "(II)Z"⟩
def RX4 : String := "SplitLeaks$Steps"
def TX4 : u_T := fun k => match k with
  | 0 => ("SplitLeaks$Steps", "goesBy", "[I", true)
  | 1 => ("SplitLeaks$Steps", "size", "[I", true)
  | _ => ("SplitLeaks$Steps", "fitted", "[Z", true)
def tyX4 : Nat → FieldType := fun k => match k with
  | 0 => .array .int
  | 1 => .array .int
  | _ => .array .boolean
abbrev wsX40 : List Cond := u_ws RX4 TX4 3
theorem nmX4 : ∀ a, a < 3 → ∀ b, b < 3 → a ≠ b → (TX4 a).2.1 ≠ (TX4 b).2.1 := by decide +kernel
theorem tyX4_ok : ∀ k, k < 3 → parseFieldDescriptor (TX4 k).2.2.1 = some (tyX4 k) := by decide +kernel
abbrev cX4_init : ByteArray := prog_6_method_1_code
def yX4_init : MethodName := ⟨RX4, "<init>", "()V"⟩
abbrev cX4_isFittedItself : ByteArray := prog_6_method_2_code
def yX4_isFittedItself : MethodName := ⟨RX4, "isFittedItself", "(II)Z"⟩
abbrev cX4_addRow : ByteArray := prog_6_method_3_code
def yX4_addRow : MethodName := ⟨RX4, "addRow", "(II)I"⟩
abbrev cX4_isFitted : ByteArray := prog_6_method_4_code
def yX4_isFitted : MethodName := ⟨RX4, "isFitted", "(II)Z"⟩
def RX5 : String := "SplitLeaks$Weights"
def TX5 : u_T := fun k => match k with
  | 0 => ("SplitLeaks$Weights", "count", "I", false)
  | 1 => ("SplitLeaks$Weights", "sum", "I", false)
  | 2 => ("SplitLeaks$Weights", "weight", "[I", true)
  | 3 => ("SplitLeaks$Weights", "quotas", "[I", true)
  | _ => ("SplitLeaks$Weights", "rests", "[I", true)
def tyX5 : Nat → FieldType := fun k => match k with
  | 0 => .int
  | 1 => .int
  | 2 => .array .int
  | 3 => .array .int
  | _ => .array .int
abbrev wsX50 : List Cond := u_ws RX5 TX5 5
theorem nmX5 : ∀ a, a < 5 → ∀ b, b < 5 → a ≠ b → (TX5 a).2.1 ≠ (TX5 b).2.1 := by decide +kernel
theorem tyX5_ok : ∀ k, k < 5 → parseFieldDescriptor (TX5 k).2.2.1 = some (tyX5 k) := by decide +kernel
abbrev cX5_init : ByteArray := prog_7_method_1_code
def yX5_init : MethodName := ⟨RX5, "<init>", "()V"⟩
abbrev cX5_become : ByteArray := prog_7_method_2_code
def yX5_become : MethodName := ⟨RX5, "become", "(IIIII)V"⟩
abbrev cX5_becomeEven : ByteArray := prog_7_method_3_code
def yX5_becomeEven : MethodName := ⟨RX5, "becomeEven", "(I)V"⟩
abbrev cX5_apportion : ByteArray := prog_7_method_4_code
def yX5_apportion : MethodName := ⟨RX5, "apportion", "(I)V"⟩
abbrev cX5_withGreatestRest : ByteArray := prog_7_method_5_code
def yX5_withGreatestRest : MethodName := ⟨RX5, "withGreatestRest", "()I"⟩
def RX6 : String := "SplitLeaks"
def TX6 : u_T := fun k => match k with
  | 0 => ("SplitLeaks", "rows", "LSplitLeaks$Rows;", true)
  | 1 => ("SplitLeaks", "weights", "LSplitLeaks$Weights;", true)
  | 2 => ("SplitLeaks", "splitter", "LSplitLeaks$Splitter;", true)
  | 3 => ("SplitLeaks", "steps", "LSplitLeaks$Steps;", true)
  | 4 => ("SplitLeaks", "finder", "LSplitLeaks$Finder;", true)
  | _ => ("SplitLeaks", "nearness", "I", false)
def tyX6 : Nat → FieldType := fun k => match k with
  | 0 => .object "SplitLeaks$Rows"
  | 1 => .object "SplitLeaks$Weights"
  | 2 => .object "SplitLeaks$Splitter"
  | 3 => .object "SplitLeaks$Steps"
  | 4 => .object "SplitLeaks$Finder"
  | _ => .int
abbrev wsX60 : List Cond := u_ws RX6 TX6 6
theorem nmX6 : ∀ a, a < 6 → ∀ b, b < 6 → a ≠ b → (TX6 a).2.1 ≠ (TX6 b).2.1 := by decide +kernel
theorem tyX6_ok : ∀ k, k < 6 → parseFieldDescriptor (TX6 k).2.2.1 = some (tyX6 k) := by decide +kernel
abbrev cX6_init : ByteArray := prog_1_method_1_code
def yX6_init : MethodName := ⟨RX6, "<init>", "()V"⟩
abbrev cX6_row : ByteArray := prog_1_method_2_code
def yX6_row : MethodName := ⟨RX6, "row", "(III)I"⟩
abbrev cX6_column : ByteArray := prog_1_method_3_code
def yX6_column : MethodName := ⟨RX6, "column", "(IIJ)I"⟩
abbrev cX6_word : ByteArray := prog_1_method_4_code
def yX6_word : MethodName := ⟨RX6, "word", "(IIZ)I"⟩
abbrev cX6_parts : ByteArray := prog_1_method_5_code
def yX6_parts : MethodName := ⟨RX6, "parts", "(IIIII)I"⟩
abbrev cX6_quota : ByteArray := prog_1_method_6_code
def yX6_quota : MethodName := ⟨RX6, "quota", "(II)I"⟩
abbrev cX6_split : ByteArray := prog_1_method_7_code
def yX6_split : MethodName := ⟨RX6, "split", "(IJI)I"⟩
abbrev cX6_folds : ByteArray := prog_1_method_8_code
def yX6_folds : MethodName := ⟨RX6, "folds", "(IJ)I"⟩
abbrev cX6_nested : ByteArray := prog_1_method_9_code
def yX6_nested : MethodName := ⟨RX6, "nested", "(IIJ)I"⟩
abbrev cX6_of : ByteArray := prog_1_method_10_code
def yX6_of : MethodName := ⟨RX6, "of", "(I)I"⟩
abbrev cX6_many : ByteArray := prog_1_method_11_code
def yX6_many : MethodName := ⟨RX6, "many", "(II)I"⟩
abbrev cX6_share : ByteArray := prog_1_method_12_code
def yX6_share : MethodName := ⟨RX6, "share", "(III)I"⟩
abbrev cX6_over : ByteArray := prog_1_method_13_code
def yX6_over : MethodName := ⟨RX6, "over", "(I)I"⟩
abbrev cX6_near : ByteArray := prog_1_method_14_code
def yX6_near : MethodName := ⟨RX6, "near", "(I)I"⟩
abbrev cX6_fit : ByteArray := prog_1_method_15_code
def yX6_fit : MethodName := ⟨RX6, "fit", "(II)I"⟩
abbrev cX6_base : ByteArray := prog_1_method_16_code
def yX6_base : MethodName := ⟨RX6, "base", "(II)I"⟩
abbrev cX6_leaks : ByteArray := prog_1_method_17_code
def yX6_leaks : MethodName := ⟨RX6, "leaks", "(I)I"⟩
abbrev cX6_leak : ByteArray := prog_1_method_18_code
def yX6_leak : MethodName := ⟨RX6, "leak", "(III)I"⟩
abbrev cX6_meets : ByteArray := prog_1_method_19_code
def yX6_meets : MethodName := ⟨RX6, "meets", "()I"⟩
abbrev cX6_same : ByteArray := prog_1_method_20_code
def yX6_same : MethodName := ⟨RX6, "same", "(IJI)Z"⟩
abbrev cX6_told : ByteArray := prog_1_method_21_code
def yX6_told : MethodName := ⟨RX6, "told", "(I)I"⟩
abbrev cX6_isWithin : ByteArray := prog_1_method_22_code
def yX6_isWithin : MethodName := ⟨RX6, "isWithin", "(II)Z"⟩
abbrev cX6_isWeight : ByteArray := prog_1_method_23_code
def yX6_isWeight : MethodName := ⟨RX6, "isWeight", "(I)Z"⟩
abbrev cX6_isSplit : ByteArray := prog_1_method_24_code
def yX6_isSplit : MethodName := ⟨RX6, "isSplit", "(II)Z"⟩
abbrev cX6_isFolds : ByteArray := prog_1_method_25_code
def yX6_isFolds : MethodName := ⟨RX6, "isFolds", "(I)Z"⟩
abbrev cX6_isLeakKind : ByteArray := prog_1_method_26_code
def yX6_isLeakKind : MethodName := ⟨RX6, "isLeakKind", "(I)Z"⟩
abbrev cX6_commonDivisor : ByteArray := prog_1_method_27_code
def yX6_commonDivisor : MethodName := ⟨RX6, "commonDivisor", "(II)I"⟩
def RX7 : String := "SplitLeaksModel"
def TX7 : u_T := fun k => match k with
  | 0 => ("SplitLeaksModel", "rows", "I", false)
  | 1 => ("SplitLeaksModel", "group", "[I", true)
  | 2 => ("SplitLeaksModel", "label", "[I", true)
  | 3 => ("SplitLeaksModel", "time", "[I", true)
  | 4 => ("SplitLeaksModel", "number", "[J", true)
  | 5 => ("SplitLeaksModel", "words", "[J", true)
  | 6 => ("SplitLeaksModel", "part", "[I", true)
  | 7 => ("SplitLeaksModel", "parts", "I", false)
  | 8 => ("SplitLeaksModel", "weights", "I", false)
  | 9 => ("SplitLeaksModel", "weight", "[I", true)
  | 10 => ("SplitLeaksModel", "nearness", "I", false)
  | 11 => ("SplitLeaksModel", "fitted", "[Z", true)
  | 12 => ("SplitLeaksModel", "by", "[I", true)
  | 13 => ("SplitLeaksModel", "thrown", "I", false)
  | 14 => ("SplitLeaksModel", "quotas", "[I", true)
  | 15 => ("SplitLeaksModel", "more", "[Z", true)
  | 16 => ("SplitLeaksModel", "z", "J", false)
  | 17 => ("SplitLeaksModel", "dealt", "[I", true)
  | 18 => ("SplitLeaksModel", "things", "[I", true)
  | 19 => ("SplitLeaksModel", "many", "I", false)
  | 20 => ("SplitLeaksModel", "has", "[I", true)
  | 21 => ("SplitLeaksModel", "ahead", "I", false)
  | 22 => ("SplitLeaksModel", "one", "I", false)
  | _ => ("SplitLeaksModel", "two", "I", false)
def tyX7 : Nat → FieldType := fun k => match k with
  | 0 => .int
  | 1 => .array .int
  | 2 => .array .int
  | 3 => .array .int
  | 4 => .array .long
  | 5 => .array .long
  | 6 => .array .int
  | 7 => .int
  | 8 => .int
  | 9 => .array .int
  | 10 => .int
  | 11 => .array .boolean
  | 12 => .array .int
  | 13 => .int
  | 14 => .array .int
  | 15 => .array .boolean
  | 16 => .long
  | 17 => .array .int
  | 18 => .array .int
  | 19 => .int
  | 20 => .array .int
  | 21 => .int
  | 22 => .int
  | _ => .int
abbrev wsX70 : List Cond := u_ws RX7 TX7 24
theorem nmX7 : ∀ a, a < 24 → ∀ b, b < 24 → a ≠ b → (TX7 a).2.1 ≠ (TX7 b).2.1 := by decide +kernel
theorem tyX7_ok : ∀ k, k < 24 → parseFieldDescriptor (TX7 k).2.2.1 = some (tyX7 k) := by decide +kernel
abbrev cX7_init : ByteArray := prog_9_method_1_code
def yX7_init : MethodName := ⟨RX7, "<init>", "()V"⟩
abbrev cX7_thrown : ByteArray := prog_9_method_2_code
def yX7_thrown : MethodName := ⟨RX7, "thrown", "()I"⟩
abbrev cX7_in : ByteArray := prog_9_method_3_code
def yX7_in : MethodName := ⟨RX7, "in", "(III)Z"⟩
abbrev cX7_isRow : ByteArray := prog_9_method_4_code
def yX7_isRow : MethodName := ⟨RX7, "isRow", "(I)Z"⟩
abbrev cX7_row : ByteArray := prog_9_method_5_code
def yX7_row : MethodName := ⟨RX7, "row", "(III)I"⟩
abbrev cX7_column : ByteArray := prog_9_method_6_code
def yX7_column : MethodName := ⟨RX7, "column", "(IIJ)I"⟩
abbrev cX7_bits : ByteArray := prog_9_method_7_code
def yX7_bits : MethodName := ⟨RX7, "bits", "(J)I"⟩
abbrev cX7_word : ByteArray := prog_9_method_8_code
def yX7_word : MethodName := ⟨RX7, "word", "(IIZ)I"⟩
abbrev cX7_parts : ByteArray := prog_9_method_9_code
def yX7_parts : MethodName := ⟨RX7, "parts", "(IIIII)I"⟩
abbrev cX7_quotasOf : ByteArray := prog_9_method_10_code
def yX7_quotasOf : MethodName := ⟨RX7, "quotasOf", "(I)V"⟩
abbrev cX7_quota : ByteArray := prog_9_method_11_code
def yX7_quota : MethodName := ⟨RX7, "quota", "(II)I"⟩
abbrev cX7_draw : ByteArray := prog_9_method_12_code
def yX7_draw : MethodName := ⟨RX7, "draw", "(I)I"⟩
abbrev cX7_shuffle : ByteArray := prog_9_method_13_code
def yX7_shuffle : MethodName := ⟨RX7, "shuffle", "()V"⟩
abbrev cX7_give : ByteArray := prog_9_method_14_code
def yX7_give : MethodName := ⟨RX7, "give", "()V"⟩
abbrev cX7_plain : ByteArray := prog_9_method_15_code
def yX7_plain : MethodName := ⟨RX7, "plain", "()V"⟩
abbrev cX7_byGroups : ByteArray := prog_9_method_16_code
def yX7_byGroups : MethodName := ⟨RX7, "byGroups", "()V"⟩
abbrev cX7_byTimes : ByteArray := prog_9_method_17_code
def yX7_byTimes : MethodName := ⟨RX7, "byTimes", "(I)V"⟩
abbrev cX7_ofLabel : ByteArray := prog_9_method_18_code
def yX7_ofLabel : MethodName := ⟨RX7, "ofLabel", "(IZ)V"⟩
abbrev cX7_deal : ByteArray := prog_9_method_19_code
def yX7_deal : MethodName := ⟨RX7, "deal", "(IJI)Z"⟩
abbrev cX7_take : ByteArray := prog_9_method_20_code
def yX7_take : MethodName := ⟨RX7, "take", "()I"⟩
abbrev cX7_split : ByteArray := prog_9_method_21_code
def yX7_split : MethodName := ⟨RX7, "split", "(IJI)I"⟩
abbrev cX7_same : ByteArray := prog_9_method_22_code
def yX7_same : MethodName := ⟨RX7, "same", "(IJI)Z"⟩
abbrev cX7_round : ByteArray := prog_9_method_23_code
def yX7_round : MethodName := ⟨RX7, "round", "(IZ)I"⟩
abbrev cX7_folds : ByteArray := prog_9_method_24_code
def yX7_folds : MethodName := ⟨RX7, "folds", "(IJ)I"⟩
abbrev cX7_nested : ByteArray := prog_9_method_25_code
def yX7_nested : MethodName := ⟨RX7, "nested", "(IIJ)I"⟩
abbrev cX7_of : ByteArray := prog_9_method_26_code
def yX7_of : MethodName := ⟨RX7, "of", "(I)I"⟩
abbrev cX7_many : ByteArray := prog_9_method_27_code
def yX7_many : MethodName := ⟨RX7, "many", "(II)I"⟩
abbrev cX7_share : ByteArray := prog_9_method_28_code
def yX7_share : MethodName := ⟨RX7, "share", "(III)I"⟩
abbrev cX7_over : ByteArray := prog_9_method_29_code
def yX7_over : MethodName := ⟨RX7, "over", "(I)I"⟩
abbrev cX7_near : ByteArray := prog_9_method_30_code
def yX7_near : MethodName := ⟨RX7, "near", "(I)I"⟩
abbrev cX7_fit : ByteArray := prog_9_method_31_code
def yX7_fit : MethodName := ⟨RX7, "fit", "(II)I"⟩
abbrev cX7_base : ByteArray := prog_9_method_32_code
def yX7_base : MethodName := ⟨RX7, "base", "(II)I"⟩
abbrev cX7_isEqual : ByteArray := prog_9_method_33_code
def yX7_isEqual : MethodName := ⟨RX7, "isEqual", "(II)Z"⟩
abbrev cX7_areApart : ByteArray := prog_9_method_34_code
def yX7_areApart : MethodName := ⟨RX7, "areApart", "(II)Z"⟩
abbrev cX7_areNear : ByteArray := prog_9_method_35_code
def yX7_areNear : MethodName := ⟨RX7, "areNear", "(II)Z"⟩
abbrev cX7_tell : ByteArray := prog_9_method_36_code
def yX7_tell : MethodName := ⟨RX7, "tell", "(III)V"⟩
abbrev cX7_pairs : ByteArray := prog_9_method_37_code
def yX7_pairs : MethodName := ⟨RX7, "pairs", "(ZI)V"⟩
abbrev cX7_groups : ByteArray := prog_9_method_38_code
def yX7_groups : MethodName := ⟨RX7, "groups", "(I)V"⟩
abbrev cX7_late : ByteArray := prog_9_method_39_code
def yX7_late : MethodName := ⟨RX7, "late", "(I)V"⟩
abbrev cX7_columns : ByteArray := prog_9_method_40_code
def yX7_columns : MethodName := ⟨RX7, "columns", "(I)V"⟩
abbrev cX7_steps : ByteArray := prog_9_method_41_code
def yX7_steps : MethodName := ⟨RX7, "steps", "(I)V"⟩
abbrev cX7_look : ByteArray := prog_9_method_42_code
def yX7_look : MethodName := ⟨RX7, "look", "(II)V"⟩
abbrev cX7_leaks : ByteArray := prog_9_method_43_code
def yX7_leaks : MethodName := ⟨RX7, "leaks", "(I)I"⟩
abbrev cX7_leak : ByteArray := prog_9_method_44_code
def yX7_leak : MethodName := ⟨RX7, "leak", "(III)I"⟩
abbrev cX7_digest : ByteArray := prog_9_method_45_code
def yX7_digest : MethodName := ⟨RX7, "digest", "(I)I"⟩
abbrev cX7_meets : ByteArray := prog_9_method_46_code
def yX7_meets : MethodName := ⟨RX7, "meets", "()I"⟩
abbrev cX7_told : ByteArray := prog_9_method_47_code
def yX7_told : MethodName := ⟨RX7, "told", "(I)I"⟩
def RJ13 : String := "java/lang/Long"
def TJ13 : u_T := fun k => match k with
  | _ => ("", "", "", false)
def tyJ13 : Nat → FieldType := fun k => match k with
  | _ => .int
abbrev wsJ130 : List Cond := u_ws RJ13 TJ13 0
theorem nmJ13 : ∀ a, a < 0 → ∀ b, b < 0 → a ≠ b → (TJ13 a).2.1 ≠ (TJ13 b).2.1 := by decide +kernel
theorem tyJ13_ok : ∀ k, k < 0 → parseFieldDescriptor (TJ13 k).2.2.1 = some (tyJ13 k) := by decide +kernel
abbrev cJ13_bitCount_95d88 : ByteArray := prog_14_method_50_code
def yJ13_bitCount_95d88 : MethodName := ⟨RJ13, "bitCount", "(J)I"⟩
def RJ0 : String := "java/lang/String"
def TJ0 : u_T := fun k => match k with
  | _ => ("", "", "", false)
def tyJ0 : Nat → FieldType := fun k => match k with
  | _ => .int
abbrev wsJ00 : List Cond := u_ws RJ0 TJ0 0
theorem nmJ0 : ∀ a, a < 0 → ∀ b, b < 0 → a ≠ b → (TJ0 a).2.1 ≠ (TJ0 b).2.1 := by decide +kernel
theorem tyJ0_ok : ∀ k, k < 0 → parseFieldDescriptor (TJ0 k).2.2.1 = some (tyJ0 k) := by decide +kernel
def RL : String := "SplitLeaksLaw"
abbrev cL_share : ByteArray := method_3_code
def yL_share : MethodName := ⟨RL, "share", "(LSplitLeaks;III[J)I"⟩
abbrev cL_law : ByteArray := code
def yL_law : MethodName := ⟨RL, "law", "([I)Z"⟩
abbrev vwCl : List vw_C := [(RX0, TX0, 1), (RX1, TX1, 6), (RX2, TX2, 8), (RX3, TX3, 8), (RX4, TX4, 3), (RX5, TX5, 5), (RX6, TX6, 6), (RX7, TX7, 24)]
end
section
/-! THE WORDS of the tables, of the kinds that are used: WD U says that all hold in U; they hold in every state that the machine comes to -/
def en_kind : Jvm.Cond → Bool
  | .initialized _ | .code _ _ _ _ | .methodLink _ _ _ | .methodLinkNest _ _ _ _ | .static _ | .instanceMethod _ | .selects _ _ _ | .fieldLink _ _ _ _ _ | .lays _ _ _ _ | .laysFinal _ _ _ _ | .instantiable _ _ | .classLink _ _ _ | .constant _ _ _ | .constantLong _ _ _ | .arrayClass _ => true
  | _ => false
def en_WD (U : State) : Prop := ∀ w ∈ lw_tbl, en_kind w = true → w.before #[] U = true
theorem en_kind_ac {ty : FieldType} {A A' : Array Value} {u U : State} (hv : u.vm = U.vm) (hb : (Jvm.Cond.arrayClass ty).before A u = true) : (Jvm.Cond.arrayClass ty).before A' U = true := by
  have h2 : (Jvm.Cond.arrayClass ty).before A (u.setVm u.vm) = true := hb
  rw [hv] at h2
  exact h2
theorem en_kind_on {w : Jvm.Cond} (h : en_kind w = true) {A A' : Array Value} {u U : State} (hv : u.vm = U.vm) (hb : w.before A u = true) : w.before A' U = true := by
  cases w <;> first | exact va_tabs rfl hv hb | exact en_kind_ac hv hb | (simp [en_kind] at h; done)
theorem en_kind_warm {w : Jvm.Cond} (h : en_kind w = true) {s U : State} (hW : s.WarmedH U.vm) (hb : w.before #[] s = true) : w.before #[] U = true := by
  cases w <;> first | (simp [en_kind] at h; done) | exact va_Nw.warmM hW hb | exact word_at hW (Or.inr ⟨_, rfl⟩) hb | exact word_at hW (Or.inl rfl) hb
theorem en_WD1 : ∀ u U : State, u.vm = U.vm → en_WD u → en_WD U := fun _ _ h hw w hm hk => en_kind_on hk h (hw w hm hk)
theorem en_WD2 : ∀ u U : State, u.WarmedH U.vm → en_WD u → en_WD U := fun _ _ h hw w hm hk => en_kind_warm hk h (hw w hm hk)
theorem en_wd {U : State} (h : en_WD U) (i : Nat) {w : Jvm.Cond} (hi : lw_tbl[i]? = some w) (hk : en_kind w = true) (args : Array Value) : w.before args U = true := en_kind_on hk rfl (h w (List.mem_of_getElem? hi) hk)
theorem en_lay {U : State} (h : en_WD U) {C : String} {T : u_T} {N : Nat} (hm : ∀ w ∈ u_ws C T N, w ∈ lw_tbl) (args : Array Value) : ∀ w ∈ u_ws C T N, w.before args U = true := fun w hw => by
  have hk : en_kind w = true := by
    obtain ⟨k, -, rfl⟩ := List.mem_map.mp hw
    unfold u_lay
    split <;> rfl
  exact en_kind_on hk rfl (h w (hm w hw) hk)
theorem la_X0 : ∀ w ∈ u_ws RX0 TX0 1, w ∈ lw_tbl := by decide +kernel
theorem la_X1 : ∀ w ∈ u_ws RX1 TX1 6, w ∈ lw_tbl := by decide +kernel
theorem la_X2 : ∀ w ∈ u_ws RX2 TX2 8, w ∈ lw_tbl := by decide +kernel
theorem la_X3 : ∀ w ∈ u_ws RX3 TX3 8, w ∈ lw_tbl := by decide +kernel
theorem la_X4 : ∀ w ∈ u_ws RX4 TX4 3, w ∈ lw_tbl := by decide +kernel
theorem la_X5 : ∀ w ∈ u_ws RX5 TX5 5, w ∈ lw_tbl := by decide +kernel
theorem la_X6 : ∀ w ∈ u_ws RX6 TX6 6, w ∈ lw_tbl := by decide +kernel
theorem la_X7 : ∀ w ∈ u_ws RX7 TX7 24, w ∈ lw_tbl := by decide +kernel
end
section
def tb_X0_init : List en_I := [(0, .aload_n 0, 1, []), (1, .invokespecial 1, 4, []), (4, .aload_n 0, 5, []), (5, .lconst 0, 6, []), (6, .putfield 7, 9, []), (9, .return_, 10, [])]
set_option maxRecDepth 100000 in
theorem tk_X0_init : ∀ q ∈ tb_X0_init, decode cX0_init q.1 = .ok (q.2.1, q.2.2.1 - q.1) ∧ en_ck q = true := by decide +kernel
def tb_X0_start : List en_I := [(0, .aload_n 0, 1, []), (1, .lload_n 1, 2, []), (2, .putfield 7, 5, []), (5, .return_, 6, [])]
set_option maxRecDepth 100000 in
theorem tk_X0_start : ∀ q ∈ tb_X0_start, decode cX0_start q.1 = .ok (q.2.1, q.2.2.1 - q.1) ∧ en_ck q = true := by decide +kernel
def tb_X0_shuffle : List en_I := [(0, .iload_n 2, 1, []), (1, .iconst 1, 2, []), (2, .isub, 3, []), (3, .istore_n 3, 4, []), (4, .iload_n 3, 5, []), (5, .iconst 1, 6, []), (6, .if_icmp .lt 36, 9, [42]), (9, .aload_n 0, 10, []), (10, .iload_n 3, 11, []), (11, .iconst 1, 12, []), (12, .iadd, 13, []), (13, .invokevirtual 13, 16, []), (16, .istore 4, 18, []), (18, .aload_n 1, 19, []), (19, .iload_n 3, 20, []), (20, .iaload, 21, []), (21, .istore 5, 23, []), (23, .aload_n 1, 24, []), (24, .iload_n 3, 25, []), (25, .aload_n 1, 26, []), (26, .iload 4, 28, []), (28, .iaload, 29, []), (29, .iastore, 30, []), (30, .aload_n 1, 31, []), (31, .iload 4, 33, []), (33, .iload 5, 35, []), (35, .iastore, 36, []), (36, .iinc 3 (-1), 39, []), (39, .goto (-35), 42, [4]), (42, .return_, 43, [])]
set_option maxRecDepth 100000 in
theorem tk_X0_shuffle : ∀ q ∈ tb_X0_shuffle, decode cX0_shuffle q.1 = .ok (q.2.1, q.2.2.1 - q.1) ∧ en_ck q = true := by decide +kernel
def tb_X0_draw : List en_I := [(0, .aload_n 0, 1, []), (1, .aload_n 0, 2, []), (2, .getfield 7, 5, []), (5, .ldc2_w 17, 8, []), (8, .lmul, 9, []), (9, .ldc2_w 19, 12, []), (12, .ladd, 13, []), (13, .putfield 7, 16, []), (16, .iload_n 1, 17, []), (17, .ifCond .le 17, 20, [34]), (20, .aload_n 0, 21, []), (21, .getfield 7, 24, []), (24, .bipush 33, 26, []), (26, .lushr, 27, []), (27, .iload_n 1, 28, []), (28, .i2l, 29, []), (29, .lrem, 30, []), (30, .l2i, 31, []), (31, .goto 4, 34, [35]), (34, .iconst 0, 35, []), (35, .ireturn, 36, [])]
set_option maxRecDepth 100000 in
theorem tk_X0_draw : ∀ q ∈ tb_X0_draw, decode cX0_draw q.1 = .ok (q.2.1, q.2.2.1 - q.1) ∧ en_ck q = true := by decide +kernel
end
section
def tb_X4_init : List en_I := [(0, .aload_n 0, 1, []), (1, .invokespecial 3, 4, []), (4, .aload_n 0, 5, []), (5, .bipush 8, 7, []), (7, .newarray .int, 9, []), (9, .putfield 9, 12, []), (12, .iconst 0, 13, []), (13, .istore_n 1, 14, []), (14, .iload_n 1, 15, []), (15, .bipush 8, 17, []), (17, .if_icmp .ge 16, 20, [33]), (20, .aload_n 0, 21, []), (21, .getfield 9, 24, []), (24, .iload_n 1, 25, []), (25, .iconst (-1), 26, []), (26, .iastore, 27, []), (27, .iinc 1 1, 30, []), (30, .goto (-16), 33, [14]), (33, .aload_n 0, 34, []), (34, .bipush 8, 36, []), (36, .newarray .int, 38, []), (38, .putfield 15, 41, []), (41, .aload_n 0, 42, []), (42, .sipush 800, 45, []), (45, .newarray .boolean, 47, []), (47, .putfield 18, 50, []), (50, .return_, 51, [])]
set_option maxRecDepth 100000 in
theorem tk_X4_init : ∀ q ∈ tb_X4_init, decode cX4_init q.1 = .ok (q.2.1, q.2.2.1 - q.1) ∧ en_ck q = true := by decide +kernel
def tb_X4_isFittedItself : List en_I := [(0, .aload_n 0, 1, []), (1, .getfield 18, 4, []), (4, .iload_n 1, 5, []), (5, .bipush 100, 7, []), (7, .imul, 8, []), (8, .iload_n 2, 9, []), (9, .iadd, 10, []), (10, .baload, 11, []), (11, .ireturn, 12, [])]
set_option maxRecDepth 100000 in
theorem tk_X4_isFittedItself : ∀ q ∈ tb_X4_isFittedItself, decode cX4_isFittedItself q.1 = .ok (q.2.1, q.2.2.1 - q.1) ∧ en_ck q = true := by decide +kernel
def tb_X4_addRow : List en_I := [(0, .aload_n 0, 1, []), (1, .getfield 18, 4, []), (4, .iload_n 1, 5, []), (5, .bipush 100, 7, []), (7, .imul, 8, []), (8, .iload_n 2, 9, []), (9, .iadd, 10, []), (10, .iconst 1, 11, []), (11, .bastore, 12, []), (12, .aload_n 0, 13, []), (13, .getfield 15, 16, []), (16, .iload_n 1, 17, []), (17, .dup2, 18, []), (18, .iaload, 19, []), (19, .iconst 1, 20, []), (20, .iadd, 21, []), (21, .iastore, 22, []), (22, .aload_n 0, 23, []), (23, .getfield 15, 26, []), (26, .iload_n 1, 27, []), (27, .iaload, 28, []), (28, .ireturn, 29, [])]
set_option maxRecDepth 100000 in
theorem tk_X4_addRow : ∀ q ∈ tb_X4_addRow, decode cX4_addRow q.1 = .ok (q.2.1, q.2.2.1 - q.1) ∧ en_ck q = true := by decide +kernel
def tb_X4_isFitted : List en_I := [(0, .iload_n 1, 1, []), (1, .istore_n 3, 2, []), (2, .iconst 0, 3, []), (3, .istore 4, 5, []), (5, .iload 4, 7, []), (7, .bipush 8, 9, []), (9, .if_icmp .ge 32, 12, [41]), (12, .iload_n 3, 13, []), (13, .iconst (-1), 14, []), (14, .if_icmp .eq 27, 17, [41]), (17, .aload_n 0, 18, []), (18, .iload_n 3, 19, []), (19, .iload_n 2, 20, []), (20, .invokevirtual 22, 23, []), (23, .ifCond .eq 5, 26, [28]), (26, .iconst 1, 27, []), (27, .ireturn, 28, []), (28, .aload_n 0, 29, []), (29, .getfield 9, 32, []), (32, .iload_n 3, 33, []), (33, .iaload, 34, []), (34, .istore_n 3, 35, []), (35, .iinc 4 1, 38, []), (38, .goto (-33), 41, [5]), (41, .iconst 0, 42, []), (42, .ireturn, 43, [])]
set_option maxRecDepth 100000 in
theorem tk_X4_isFitted : ∀ q ∈ tb_X4_isFitted, decode cX4_isFitted q.1 = .ok (q.2.1, q.2.2.1 - q.1) ∧ en_ck q = true := by decide +kernel
end
section
def tb_X5_init : List en_I := [(0, .aload_n 0, 1, []), (1, .invokespecial 3, 4, []), (4, .aload_n 0, 5, []), (5, .iconst 1, 6, []), (6, .putfield 9, 9, []), (9, .aload_n 0, 10, []), (10, .iconst 1, 11, []), (11, .putfield 15, 14, []), (14, .aload_n 0, 15, []), (15, .iconst 4, 16, []), (16, .newarray .int, 18, []), (18, .putfield 18, 21, []), (21, .aload_n 0, 22, []), (22, .getfield 18, 25, []), (25, .iconst 0, 26, []), (26, .iconst 1, 27, []), (27, .iastore, 28, []), (28, .aload_n 0, 29, []), (29, .iconst 4, 30, []), (30, .newarray .int, 32, []), (32, .putfield 22, 35, []), (35, .aload_n 0, 36, []), (36, .iconst 4, 37, []), (37, .newarray .int, 39, []), (39, .putfield 25, 42, []), (42, .return_, 43, [])]
set_option maxRecDepth 100000 in
theorem tk_X5_init : ∀ q ∈ tb_X5_init, decode cX5_init q.1 = .ok (q.2.1, q.2.2.1 - q.1) ∧ en_ck q = true := by decide +kernel
def tb_X5_become : List en_I := [(0, .aload_n 0, 1, []), (1, .iload_n 1, 2, []), (2, .putfield 9, 5, []), (5, .aload_n 0, 6, []), (6, .getfield 18, 9, []), (9, .iconst 0, 10, []), (10, .iload_n 2, 11, []), (11, .iastore, 12, []), (12, .aload_n 0, 13, []), (13, .getfield 18, 16, []), (16, .iconst 1, 17, []), (17, .iload_n 3, 18, []), (18, .iastore, 19, []), (19, .aload_n 0, 20, []), (20, .getfield 18, 23, []), (23, .iconst 2, 24, []), (24, .iload 4, 26, []), (26, .iastore, 27, []), (27, .aload_n 0, 28, []), (28, .getfield 18, 31, []), (31, .iconst 3, 32, []), (32, .iload 5, 34, []), (34, .iastore, 35, []), (35, .aload_n 0, 36, []), (36, .iload_n 2, 37, []), (37, .iload_n 3, 38, []), (38, .iadd, 39, []), (39, .iload 4, 41, []), (41, .iadd, 42, []), (42, .iload 5, 44, []), (44, .iadd, 45, []), (45, .putfield 15, 48, []), (48, .return_, 49, [])]
set_option maxRecDepth 100000 in
theorem tk_X5_become : ∀ q ∈ tb_X5_become, decode cX5_become q.1 = .ok (q.2.1, q.2.2.1 - q.1) ∧ en_ck q = true := by decide +kernel
def tb_X5_becomeEven : List en_I := [(0, .aload_n 0, 1, []), (1, .iload_n 1, 2, []), (2, .iconst 1, 3, []), (3, .iconst 1, 4, []), (4, .iload_n 1, 5, []), (5, .iconst 2, 6, []), (6, .if_icmp .le 7, 9, [13]), (9, .iconst 1, 10, []), (10, .goto 4, 13, [14]), (13, .iconst 0, 14, []), (14, .iload_n 1, 15, []), (15, .iconst 3, 16, []), (16, .if_icmp .le 7, 19, [23]), (19, .iconst 1, 20, []), (20, .goto 4, 23, [24]), (23, .iconst 0, 24, []), (24, .invokevirtual 28, 27, []), (27, .return_, 28, [])]
set_option maxRecDepth 100000 in
theorem tk_X5_becomeEven : ∀ q ∈ tb_X5_becomeEven, decode cX5_becomeEven q.1 = .ok (q.2.1, q.2.2.1 - q.1) ∧ en_ck q = true := by decide +kernel
def tb_X5_apportion : List en_I := [(0, .iload_n 1, 1, []), (1, .istore_n 2, 2, []), (2, .iconst 0, 3, []), (3, .istore_n 3, 4, []), (4, .iload_n 3, 5, []), (5, .aload_n 0, 6, []), (6, .getfield 9, 9, []), (9, .if_icmp .ge 61, 12, [70]), (12, .aload_n 0, 13, []), (13, .getfield 15, 16, []), (16, .ifCond .le 54, 19, [70]), (19, .iload_n 1, 20, []), (20, .aload_n 0, 21, []), (21, .getfield 18, 24, []), (24, .iload_n 3, 25, []), (25, .iaload, 26, []), (26, .imul, 27, []), (27, .istore 4, 29, []), (29, .aload_n 0, 30, []), (30, .getfield 22, 33, []), (33, .iload_n 3, 34, []), (34, .iload 4, 36, []), (36, .aload_n 0, 37, []), (37, .getfield 15, 40, []), (40, .idiv, 41, []), (41, .iastore, 42, []), (42, .aload_n 0, 43, []), (43, .getfield 25, 46, []), (46, .iload_n 3, 47, []), (47, .iload 4, 49, []), (49, .aload_n 0, 50, []), (50, .getfield 15, 53, []), (53, .irem, 54, []), (54, .iastore, 55, []), (55, .iload_n 2, 56, []), (56, .aload_n 0, 57, []), (57, .getfield 22, 60, []), (60, .iload_n 3, 61, []), (61, .iaload, 62, []), (62, .isub, 63, []), (63, .istore_n 2, 64, []), (64, .iinc 3 1, 67, []), (67, .goto (-63), 70, [4]), (70, .iconst 0, 71, []), (71, .istore_n 3, 72, []), (72, .iload_n 3, 73, []), (73, .iload_n 2, 74, []), (74, .if_icmp .ge 42, 77, [116]), (77, .iload_n 3, 78, []), (78, .aload_n 0, 79, []), (79, .getfield 9, 82, []), (82, .if_icmp .ge 34, 85, [116]), (85, .aload_n 0, 86, []), (86, .invokevirtual 32, 89, []), (89, .istore 4, 91, []), (91, .aload_n 0, 92, []), (92, .getfield 22, 95, []), (95, .iload 4, 97, []), (97, .dup2, 98, []), (98, .iaload, 99, []), (99, .iconst 1, 100, []), (100, .iadd, 101, []), (101, .iastore, 102, []), (102, .aload_n 0, 103, []), (103, .getfield 25, 106, []), (106, .iload 4, 108, []), (108, .iconst (-1), 109, []), (109, .iastore, 110, []), (110, .iinc 3 1, 113, []), (113, .goto (-41), 116, [72]), (116, .return_, 117, [])]
set_option maxRecDepth 100000 in
theorem tk_X5_apportion : ∀ q ∈ tb_X5_apportion, decode cX5_apportion q.1 = .ok (q.2.1, q.2.2.1 - q.1) ∧ en_ck q = true := by decide +kernel
def tb_X5_withGreatestRest : List en_I := [(0, .iconst 0, 1, []), (1, .istore_n 1, 2, []), (2, .iconst 1, 3, []), (3, .istore_n 2, 4, []), (4, .iload_n 2, 5, []), (5, .aload_n 0, 6, []), (6, .getfield 9, 9, []), (9, .if_icmp .ge 26, 12, [35]), (12, .aload_n 0, 13, []), (13, .getfield 25, 16, []), (16, .iload_n 2, 17, []), (17, .iaload, 18, []), (18, .aload_n 0, 19, []), (19, .getfield 25, 22, []), (22, .iload_n 1, 23, []), (23, .iaload, 24, []), (24, .if_icmp .le 5, 27, [29]), (27, .iload_n 2, 28, []), (28, .istore_n 1, 29, []), (29, .iinc 2 1, 32, []), (32, .goto (-28), 35, [4]), (35, .iload_n 1, 36, []), (36, .ireturn, 37, [])]
set_option maxRecDepth 100000 in
theorem tk_X5_withGreatestRest : ∀ q ∈ tb_X5_withGreatestRest, decode cX5_withGreatestRest q.1 = .ok (q.2.1, q.2.2.1 - q.1) ∧ en_ck q = true := by decide +kernel
end
section
def tb_X2_init : List en_I := [(0, .aload_n 0, 1, []), (1, .invokespecial 3, 4, []), (4, .aload_n 0, 5, []), (5, .iconst 0, 6, []), (6, .putfield 9, 9, []), (9, .aload_n 0, 10, []), (10, .bipush 100, 12, []), (12, .newarray .int, 14, []), (14, .putfield 15, 17, []), (17, .aload_n 0, 18, []), (18, .bipush 100, 20, []), (20, .newarray .int, 22, []), (22, .putfield 19, 25, []), (25, .aload_n 0, 26, []), (26, .bipush 100, 28, []), (28, .newarray .int, 30, []), (30, .putfield 22, 33, []), (33, .aload_n 0, 34, []), (34, .bipush 100, 36, []), (36, .newarray .int, 38, []), (38, .putfield 25, 41, []), (41, .aload_n 0, 42, []), (42, .sipush 300, 45, []), (45, .newarray .long, 47, []), (47, .putfield 28, 50, []), (50, .aload_n 0, 51, []), (51, .bipush 100, 53, []), (53, .newarray .long, 55, []), (55, .putfield 32, 58, []), (58, .aload_n 0, 59, []), (59, .bipush 100, 61, []), (61, .newarray .int, 63, []), (63, .putfield 35, 66, []), (66, .return_, 67, [])]
set_option maxRecDepth 100000 in
theorem tk_X2_init : ∀ q ∈ tb_X2_init, decode cX2_init q.1 = .ok (q.2.1, q.2.2.1 - q.1) ∧ en_ck q = true := by decide +kernel
def tb_X2_has : List en_I := [(0, .iload_n 1, 1, []), (1, .aload_n 0, 2, []), (2, .getfield 9, 5, []), (5, .invokestatic 38, 8, []), (8, .ireturn, 9, [])]
set_option maxRecDepth 100000 in
theorem tk_X2_has : ∀ q ∈ tb_X2_has, decode cX2_has q.1 = .ok (q.2.1, q.2.2.1 - q.1) ∧ en_ck q = true := by decide +kernel
def tb_X2_append : List en_I := [(0, .aload_n 0, 1, []), (1, .getfield 9, 4, []), (4, .istore 4, 6, []), (6, .aload_n 0, 7, []), (7, .getfield 15, 10, []), (10, .iload 4, 12, []), (12, .iload_n 1, 13, []), (13, .iastore, 14, []), (14, .aload_n 0, 15, []), (15, .getfield 19, 18, []), (18, .iload 4, 20, []), (20, .iload_n 2, 21, []), (21, .iastore, 22, []), (22, .aload_n 0, 23, []), (23, .getfield 22, 26, []), (26, .iload 4, 28, []), (28, .iload_n 3, 29, []), (29, .iastore, 30, []), (30, .aload_n 0, 31, []), (31, .getfield 25, 34, []), (34, .iload 4, 36, []), (36, .iconst (-1), 37, []), (37, .iastore, 38, []), (38, .aload_n 0, 39, []), (39, .iload 4, 41, []), (41, .iconst 1, 42, []), (42, .iadd, 43, []), (43, .putfield 9, 46, []), (46, .iload 4, 48, []), (48, .ireturn, 49, [])]
set_option maxRecDepth 100000 in
theorem tk_X2_append : ∀ q ∈ tb_X2_append, decode cX2_append q.1 = .ok (q.2.1, q.2.2.1 - q.1) ∧ en_ck q = true := by decide +kernel
def tb_X2_isPlaced : List en_I := [(0, .aload_n 0, 1, []), (1, .getfield 25, 4, []), (4, .iload_n 1, 5, []), (5, .iaload, 6, []), (6, .iconst (-1), 7, []), (7, .if_icmp .eq 7, 10, [14]), (10, .iconst 1, 11, []), (11, .goto 4, 14, [15]), (14, .iconst 0, 15, []), (15, .ireturn, 16, [])]
set_option maxRecDepth 100000 in
theorem tk_X2_isPlaced : ∀ q ∈ tb_X2_isPlaced, decode cX2_isPlaced q.1 = .ok (q.2.1, q.2.2.1 - q.1) ∧ en_ck q = true := by decide +kernel
def tb_X2_areParted : List en_I := [(0, .aload_n 0, 1, []), (1, .iload_n 1, 2, []), (2, .invokevirtual 42, 5, []), (5, .ifCond .eq 30, 8, [35]), (8, .aload_n 0, 9, []), (9, .iload_n 2, 10, []), (10, .invokevirtual 42, 13, []), (13, .ifCond .eq 22, 16, [35]), (16, .aload_n 0, 17, []), (17, .getfield 25, 20, []), (20, .iload_n 1, 21, []), (21, .iaload, 22, []), (22, .aload_n 0, 23, []), (23, .getfield 25, 26, []), (26, .iload_n 2, 27, []), (27, .iaload, 28, []), (28, .if_icmp .eq 7, 31, [35]), (31, .iconst 1, 32, []), (32, .goto 4, 35, [36]), (35, .iconst 0, 36, []), (36, .ireturn, 37, [])]
set_option maxRecDepth 100000 in
theorem tk_X2_areParted : ∀ q ∈ tb_X2_areParted, decode cX2_areParted q.1 = .ok (q.2.1, q.2.2.1 - q.1) ∧ en_ck q = true := by decide +kernel
def tb_X2_haveSameNumber : List en_I := [(0, .aload_n 0, 1, []), (1, .getfield 28, 4, []), (4, .iload_n 1, 5, []), (5, .iconst 3, 6, []), (6, .imul, 7, []), (7, .iload_n 3, 8, []), (8, .iadd, 9, []), (9, .laload, 10, []), (10, .aload_n 0, 11, []), (11, .getfield 28, 14, []), (14, .iload_n 2, 15, []), (15, .iconst 3, 16, []), (16, .imul, 17, []), (17, .iload_n 3, 18, []), (18, .iadd, 19, []), (19, .laload, 20, []), (20, .lcmp, 21, []), (21, .ifCond .ne 7, 24, [28]), (24, .iconst 1, 25, []), (25, .goto 4, 28, [29]), (28, .iconst 0, 29, []), (29, .ireturn, 30, [])]
set_option maxRecDepth 100000 in
theorem tk_X2_haveSameNumber : ∀ q ∈ tb_X2_haveSameNumber, decode cX2_haveSameNumber q.1 = .ok (q.2.1, q.2.2.1 - q.1) ∧ en_ck q = true := by decide +kernel
def tb_X2_areAlike : List en_I := [(0, .iconst 0, 1, []), (1, .istore_n 3, 2, []), (2, .iload_n 3, 3, []), (3, .iconst 3, 4, []), (4, .if_icmp .ge 21, 7, [25]), (7, .aload_n 0, 8, []), (8, .iload_n 1, 9, []), (9, .iload_n 2, 10, []), (10, .iload_n 3, 11, []), (11, .invokevirtual 46, 14, []), (14, .ifCond .ne 5, 17, [19]), (17, .iconst 0, 18, []), (18, .ireturn, 19, []), (19, .iinc 3 1, 22, []), (22, .goto (-20), 25, [2]), (25, .aload_n 0, 26, []), (26, .getfield 32, 29, []), (29, .iload_n 1, 30, []), (30, .laload, 31, []), (31, .aload_n 0, 32, []), (32, .getfield 32, 35, []), (35, .iload_n 2, 36, []), (36, .laload, 37, []), (37, .lcmp, 38, []), (38, .ifCond .ne 7, 41, [45]), (41, .iconst 1, 42, []), (42, .goto 4, 45, [46]), (45, .iconst 0, 46, []), (46, .ireturn, 47, [])]
set_option maxRecDepth 100000 in
theorem tk_X2_areAlike : ∀ q ∈ tb_X2_areAlike, decode cX2_areAlike q.1 = .ok (q.2.1, q.2.2.1 - q.1) ∧ en_ck q = true := by decide +kernel
def tb_X2_countPlaced : List en_I := [(0, .iconst 0, 1, []), (1, .istore_n 1, 2, []), (2, .iconst 0, 3, []), (3, .istore_n 2, 4, []), (4, .iload_n 2, 5, []), (5, .aload_n 0, 6, []), (6, .getfield 9, 9, []), (9, .if_icmp .ge 20, 12, [29]), (12, .aload_n 0, 13, []), (13, .iload_n 2, 14, []), (14, .invokevirtual 42, 17, []), (17, .ifCond .eq 6, 20, [23]), (20, .iinc 1 1, 23, []), (23, .iinc 2 1, 26, []), (26, .goto (-22), 29, [4]), (29, .iload_n 1, 30, []), (30, .ireturn, 31, [])]
set_option maxRecDepth 100000 in
theorem tk_X2_countPlaced : ∀ q ∈ tb_X2_countPlaced, decode cX2_countPlaced q.1 = .ok (q.2.1, q.2.2.1 - q.1) ∧ en_ck q = true := by decide +kernel
def tb_X2_countIn : List en_I := [(0, .iconst 0, 1, []), (1, .istore_n 3, 2, []), (2, .iconst 0, 3, []), (3, .istore 4, 5, []), (5, .iload 4, 7, []), (7, .aload_n 0, 8, []), (8, .getfield 9, 11, []), (11, .if_icmp .ge 39, 14, [50]), (14, .aload_n 0, 15, []), (15, .getfield 25, 18, []), (18, .iload 4, 20, []), (20, .iaload, 21, []), (21, .iload_n 1, 22, []), (22, .if_icmp .ne 22, 25, [44]), (25, .iload_n 2, 26, []), (26, .iconst (-1), 27, []), (27, .if_icmp .eq 14, 30, [41]), (30, .aload_n 0, 31, []), (31, .getfield 19, 34, []), (34, .iload 4, 36, []), (36, .iaload, 37, []), (37, .iload_n 2, 38, []), (38, .if_icmp .ne 6, 41, [44]), (41, .iinc 3 1, 44, []), (44, .iinc 4 1, 47, []), (47, .goto (-42), 50, [5]), (50, .iload_n 3, 51, []), (51, .ireturn, 52, [])]
set_option maxRecDepth 100000 in
theorem tk_X2_countIn : ∀ q ∈ tb_X2_countIn, decode cX2_countIn q.1 = .ok (q.2.1, q.2.2.1 - q.1) ∧ en_ck q = true := by decide +kernel
def tb_X2_countPlacedOfLabel : List en_I := [(0, .iconst 0, 1, []), (1, .istore_n 2, 2, []), (2, .iconst 0, 3, []), (3, .istore_n 3, 4, []), (4, .iload_n 3, 5, []), (5, .iconst 4, 6, []), (6, .if_icmp .ge 18, 9, [24]), (9, .iload_n 2, 10, []), (10, .aload_n 0, 11, []), (11, .iload_n 3, 12, []), (12, .iload_n 1, 13, []), (13, .invokevirtual 50, 16, []), (16, .iadd, 17, []), (17, .istore_n 2, 18, []), (18, .iinc 3 1, 21, []), (21, .goto (-17), 24, [4]), (24, .iload_n 2, 25, []), (25, .ireturn, 26, [])]
set_option maxRecDepth 100000 in
theorem tk_X2_countPlacedOfLabel : ∀ q ∈ tb_X2_countPlacedOfLabel, decode cX2_countPlacedOfLabel q.1 = .ok (q.2.1, q.2.2.1 - q.1) ∧ en_ck q = true := by decide +kernel
def tb_X2_countPlacedLabelsBelow : List en_I := [(0, .iconst 0, 1, []), (1, .istore_n 2, 2, []), (2, .iconst 0, 3, []), (3, .istore_n 3, 4, []), (4, .iload_n 3, 5, []), (5, .iconst 5, 6, []), (6, .if_icmp .ge 30, 9, [36]), (9, .aload_n 0, 10, []), (10, .iload_n 3, 11, []), (11, .invokevirtual 54, 14, []), (14, .istore 4, 16, []), (16, .iload 4, 18, []), (18, .ifCond .le 12, 21, [30]), (21, .iload 4, 23, []), (23, .iload_n 1, 24, []), (24, .if_icmp .ge 6, 27, [30]), (27, .iinc 2 1, 30, []), (30, .iinc 3 1, 33, []), (33, .goto (-29), 36, [4]), (36, .iload_n 2, 37, []), (37, .ireturn, 38, [])]
set_option maxRecDepth 100000 in
theorem tk_X2_countPlacedLabelsBelow : ∀ q ∈ tb_X2_countPlacedLabelsBelow, decode cX2_countPlacedLabelsBelow q.1 = .ok (q.2.1, q.2.2.1 - q.1) ∧ en_ck q = true := by decide +kernel
def tb_X2_countOfGroup : List en_I := [(0, .iconst 0, 1, []), (1, .istore_n 2, 2, []), (2, .iconst 0, 3, []), (3, .istore_n 3, 4, []), (4, .iload_n 3, 5, []), (5, .aload_n 0, 6, []), (6, .getfield 9, 9, []), (9, .if_icmp .ge 22, 12, [31]), (12, .aload_n 0, 13, []), (13, .getfield 15, 16, []), (16, .iload_n 3, 17, []), (17, .iaload, 18, []), (18, .iload_n 1, 19, []), (19, .if_icmp .ne 6, 22, [25]), (22, .iinc 2 1, 25, []), (25, .iinc 3 1, 28, []), (28, .goto (-24), 31, [4]), (31, .iload_n 2, 32, []), (32, .ireturn, 33, [])]
set_option maxRecDepth 100000 in
theorem tk_X2_countOfGroup : ∀ q ∈ tb_X2_countOfGroup, decode cX2_countOfGroup q.1 = .ok (q.2.1, q.2.2.1 - q.1) ∧ en_ck q = true := by decide +kernel
def tb_X2_firstOfGroup : List en_I := [(0, .iconst 0, 1, []), (1, .istore_n 2, 2, []), (2, .iload_n 2, 3, []), (3, .aload_n 0, 4, []), (4, .getfield 9, 7, []), (7, .if_icmp .ge 21, 10, [28]), (10, .aload_n 0, 11, []), (11, .getfield 15, 14, []), (14, .iload_n 2, 15, []), (15, .iaload, 16, []), (16, .iload_n 1, 17, []), (17, .if_icmp .ne 5, 20, [22]), (20, .iload_n 2, 21, []), (21, .ireturn, 22, []), (22, .iinc 2 1, 25, []), (25, .goto (-23), 28, [2]), (28, .iconst (-1), 29, []), (29, .ireturn, 30, [])]
set_option maxRecDepth 100000 in
theorem tk_X2_firstOfGroup : ∀ q ∈ tb_X2_firstOfGroup, decode cX2_firstOfGroup q.1 = .ok (q.2.1, q.2.2.1 - q.1) ∧ en_ck q = true := by decide +kernel
def tb_X2_countPartsOfGroup : List en_I := [(0, .iconst 0, 1, []), (1, .istore_n 2, 2, []), (2, .iconst 0, 3, []), (3, .istore_n 3, 4, []), (4, .iload_n 3, 5, []), (5, .iconst 4, 6, []), (6, .if_icmp .ge 21, 9, [27]), (9, .aload_n 0, 10, []), (10, .iload_n 1, 11, []), (11, .iload_n 3, 12, []), (12, .invokevirtual 58, 15, []), (15, .ifCond .eq 6, 18, [21]), (18, .iinc 2 1, 21, []), (21, .iinc 3 1, 24, []), (24, .goto (-20), 27, [4]), (27, .iload_n 2, 28, []), (28, .ireturn, 29, [])]
set_option maxRecDepth 100000 in
theorem tk_X2_countPartsOfGroup : ∀ q ∈ tb_X2_countPartsOfGroup, decode cX2_countPartsOfGroup q.1 = .ok (q.2.1, q.2.2.1 - q.1) ∧ en_ck q = true := by decide +kernel
def tb_X2_hasGroupIn : List en_I := [(0, .iconst 0, 1, []), (1, .istore_n 3, 2, []), (2, .iload_n 3, 3, []), (3, .aload_n 0, 4, []), (4, .getfield 9, 7, []), (7, .if_icmp .ge 31, 10, [38]), (10, .aload_n 0, 11, []), (11, .getfield 15, 14, []), (14, .iload_n 3, 15, []), (15, .iaload, 16, []), (16, .iload_n 1, 17, []), (17, .if_icmp .ne 15, 20, [32]), (20, .aload_n 0, 21, []), (21, .getfield 25, 24, []), (24, .iload_n 3, 25, []), (25, .iaload, 26, []), (26, .iload_n 2, 27, []), (27, .if_icmp .ne 5, 30, [32]), (30, .iconst 1, 31, []), (31, .ireturn, 32, []), (32, .iinc 3 1, 35, []), (35, .goto (-33), 38, [2]), (38, .iconst 0, 39, []), (39, .ireturn, 40, [])]
set_option maxRecDepth 100000 in
theorem tk_X2_hasGroupIn : ∀ q ∈ tb_X2_hasGroupIn, decode cX2_hasGroupIn q.1 = .ok (q.2.1, q.2.2.1 - q.1) ∧ en_ck q = true := by decide +kernel
def tb_X2_countMeetings : List en_I := [(0, .iconst 0, 1, []), (1, .istore_n 1, 2, []), (2, .iload_n 1, 3, []), (3, .aload_n 0, 4, []), (4, .getfield 9, 7, []), (7, .if_icmp .ge 20, 10, [27]), (10, .aload_n 0, 11, []), (11, .getfield 35, 14, []), (14, .iload_n 1, 15, []), (15, .aload_n 0, 16, []), (16, .iload_n 1, 17, []), (17, .invokevirtual 61, 20, []), (20, .iastore, 21, []), (21, .iinc 1 1, 24, []), (24, .goto (-22), 27, [2]), (27, .iconst 0, 28, []), (28, .istore_n 1, 29, []), (29, .iconst 0, 30, []), (30, .istore_n 2, 31, []), (31, .iload_n 2, 32, []), (32, .aload_n 0, 33, []), (33, .getfield 9, 36, []), (36, .if_icmp .ge 25, 39, [61]), (39, .aload_n 0, 40, []), (40, .iload_n 2, 41, []), (41, .invokevirtual 42, 44, []), (44, .ifCond .eq 11, 47, [55]), (47, .iload_n 1, 48, []), (48, .aload_n 0, 49, []), (49, .iload_n 2, 50, []), (50, .invokevirtual 64, 53, []), (53, .iadd, 54, []), (54, .istore_n 1, 55, []), (55, .iinc 2 1, 58, []), (58, .goto (-27), 61, [31]), (61, .iload_n 1, 62, []), (62, .ireturn, 63, [])]
set_option maxRecDepth 100000 in
theorem tk_X2_countMeetings : ∀ q ∈ tb_X2_countMeetings, decode cX2_countMeetings q.1 = .ok (q.2.1, q.2.2.1 - q.1) ∧ en_ck q = true := by decide +kernel
def tb_X2_countMeetingsBehind : List en_I := [(0, .iconst 0, 1, []), (1, .istore_n 2, 2, []), (2, .iload_n 1, 3, []), (3, .iconst 1, 4, []), (4, .iadd, 5, []), (5, .istore_n 3, 6, []), (6, .iload_n 3, 7, []), (7, .aload_n 0, 8, []), (8, .getfield 9, 11, []), (11, .if_icmp .ge 44, 14, [55]), (14, .aload_n 0, 15, []), (15, .getfield 35, 18, []), (18, .iload_n 1, 19, []), (19, .iaload, 20, []), (20, .aload_n 0, 21, []), (21, .getfield 35, 24, []), (24, .iload_n 3, 25, []), (25, .iaload, 26, []), (26, .if_icmp .ne 23, 29, [49]), (29, .aload_n 0, 30, []), (30, .iload_n 3, 31, []), (31, .invokevirtual 42, 34, []), (34, .ifCond .eq 15, 37, [49]), (37, .aload_n 0, 38, []), (38, .iload_n 1, 39, []), (39, .iload_n 3, 40, []), (40, .invokevirtual 67, 43, []), (43, .ifCond .ne 6, 46, [49]), (46, .iinc 2 1, 49, []), (49, .iinc 3 1, 52, []), (52, .goto (-46), 55, [6]), (55, .iload_n 2, 56, []), (56, .ireturn, 57, [])]
set_option maxRecDepth 100000 in
theorem tk_X2_countMeetingsBehind : ∀ q ∈ tb_X2_countMeetingsBehind, decode cX2_countMeetingsBehind q.1 = .ok (q.2.1, q.2.2.1 - q.1) ∧ en_ck q = true := by decide +kernel
def tb_X2_digestOf : List en_I := [(0, .ldc2_w 70, 3, []), (3, .lstore_n 2, 4, []), (4, .iconst 0, 5, []), (5, .istore 4, 7, []), (7, .iload 4, 9, []), (9, .iconst 3, 10, []), (10, .if_icmp .ge 27, 13, [37]), (13, .lload_n 2, 14, []), (14, .ldc2_w 72, 17, []), (17, .lmul, 18, []), (18, .aload_n 0, 19, []), (19, .getfield 28, 22, []), (22, .iload_n 1, 23, []), (23, .iconst 3, 24, []), (24, .imul, 25, []), (25, .iload 4, 27, []), (27, .iadd, 28, []), (28, .laload, 29, []), (29, .ladd, 30, []), (30, .lstore_n 2, 31, []), (31, .iinc 4 1, 34, []), (34, .goto (-27), 37, [7]), (37, .lload_n 2, 38, []), (38, .ldc2_w 72, 41, []), (41, .lmul, 42, []), (42, .aload_n 0, 43, []), (43, .getfield 32, 46, []), (46, .iload_n 1, 47, []), (47, .laload, 48, []), (48, .ladd, 49, []), (49, .lstore_n 2, 50, []), (50, .lload_n 2, 51, []), (51, .ldc2_w 74, 54, []), (54, .land, 55, []), (55, .l2i, 56, []), (56, .ireturn, 57, [])]
set_option maxRecDepth 100000 in
theorem tk_X2_digestOf : ∀ q ∈ tb_X2_digestOf, decode cX2_digestOf q.1 = .ok (q.2.1, q.2.2.1 - q.1) ∧ en_ck q = true := by decide +kernel
end
section
def tb_X1_init : List en_I := [(0, .aload_n 0, 1, []), (1, .invokespecial 3, 4, []), (4, .aload_n 0, 5, []), (5, .aload_n 1, 6, []), (6, .putfield 9, 9, []), (9, .aload_n 0, 10, []), (10, .aload_n 2, 11, []), (11, .putfield 15, 14, []), (14, .aload_n 0, 15, []), (15, .iconst (-1), 16, []), (16, .putfield 19, 19, []), (19, .aload_n 0, 20, []), (20, .iconst 0, 21, []), (21, .putfield 23, 24, []), (24, .aload_n 0, 25, []), (25, .iconst (-1), 26, []), (26, .putfield 26, 29, []), (29, .aload_n 0, 30, []), (30, .iconst (-1), 31, []), (31, .putfield 29, 34, []), (34, .return_, 35, [])]
set_option maxRecDepth 100000 in
theorem tk_X1_init : ∀ q ∈ tb_X1_init, decode cX1_init q.1 = .ok (q.2.1, q.2.2.1 - q.1) ∧ en_ck q = true := by decide +kernel
def tb_X1_search : List en_I := [(0, .aload_n 0, 1, []), (1, .iload_n 3, 2, []), (2, .putfield 19, 5, []), (5, .aload_n 0, 6, []), (6, .iconst 0, 7, []), (7, .putfield 23, 10, []), (10, .iload_n 1, 11, []), (11, .tableswitch 63 0 4 #[33, 33, 42, 49, 56], 44, [74, 44, 44, 53, 60, 67]), (44, .aload_n 0, 45, []), (45, .iload_n 1, 46, []), (46, .iload_n 2, 47, []), (47, .invokevirtual 32, 50, []), (50, .goto 28, 53, [78]), (53, .aload_n 0, 54, []), (54, .invokevirtual 36, 57, []), (57, .goto 21, 60, [78]), (60, .aload_n 0, 61, []), (61, .invokevirtual 39, 64, []), (64, .goto 14, 67, [78]), (67, .aload_n 0, 68, []), (68, .invokevirtual 42, 71, []), (71, .goto 7, 74, [78]), (74, .aload_n 0, 75, []), (75, .invokevirtual 45, 78, []), (78, .aload_n 0, 79, []), (79, .getfield 23, 82, []), (82, .ireturn, 83, [])]
set_option maxRecDepth 100000 in
theorem tk_X1_search : ∀ q ∈ tb_X1_search, decode cX1_search q.1 = .ok (q.2.1, q.2.2.1 - q.1) ∧ en_ck q = true := by decide +kernel
def tb_X1_take : List en_I := [(0, .aload_n 0, 1, []), (1, .getfield 23, 4, []), (4, .aload_n 0, 5, []), (5, .getfield 19, 8, []), (8, .if_icmp .ne 13, 11, [21]), (11, .aload_n 0, 12, []), (12, .iload_n 1, 13, []), (13, .putfield 26, 16, []), (16, .aload_n 0, 17, []), (17, .iload_n 2, 18, []), (18, .putfield 29, 21, []), (21, .aload_n 0, 22, []), (22, .dup, 23, []), (23, .getfield 23, 26, []), (26, .iconst 1, 27, []), (27, .iadd, 28, []), (28, .putfield 23, 31, []), (31, .return_, 32, [])]
set_option maxRecDepth 100000 in
theorem tk_X1_take : ∀ q ∈ tb_X1_take, decode cX1_take q.1 = .ok (q.2.1, q.2.2.1 - q.1) ∧ en_ck q = true := by decide +kernel
def tb_X1_findPairs : List en_I := [(0, .iconst 0, 1, []), (1, .istore_n 3, 2, []), (2, .iload_n 3, 3, []), (3, .aload_n 0, 4, []), (4, .getfield 9, 7, []), (7, .getfield 48, 10, []), (10, .if_icmp .ge 83, 13, [93]), (13, .iload_n 3, 14, []), (14, .iconst 1, 15, []), (15, .iadd, 16, []), (16, .istore 4, 18, []), (18, .iload 4, 20, []), (20, .aload_n 0, 21, []), (21, .getfield 9, 24, []), (24, .getfield 48, 27, []), (27, .if_icmp .ge 60, 30, [87]), (30, .aload_n 0, 31, []), (31, .getfield 9, 34, []), (34, .iload_n 3, 35, []), (35, .iload 4, 37, []), (37, .invokevirtual 53, 40, []), (40, .ifCond .eq 41, 43, [81]), (43, .iload_n 1, 44, []), (44, .ifCond .ne 19, 47, [63]), (47, .aload_n 0, 48, []), (48, .getfield 9, 51, []), (51, .iload_n 3, 52, []), (52, .iload 4, 54, []), (54, .invokevirtual 57, 57, []), (57, .ifCond .eq 24, 60, [81]), (60, .goto 14, 63, [74]), (63, .aload_n 0, 64, []), (64, .iload_n 3, 65, []), (65, .iload 4, 67, []), (67, .iload_n 2, 68, []), (68, .invokevirtual 60, 71, []), (71, .ifCond .eq 10, 74, [81]), (74, .aload_n 0, 75, []), (75, .iload_n 3, 76, []), (76, .iload 4, 78, []), (78, .invokevirtual 64, 81, []), (81, .iinc 4 1, 84, []), (84, .goto (-66), 87, [18]), (87, .iinc 3 1, 90, []), (90, .goto (-88), 93, [2]), (93, .return_, 94, [])]
set_option maxRecDepth 100000 in
theorem tk_X1_findPairs : ∀ q ∈ tb_X1_findPairs, decode cX1_findPairs q.1 = .ok (q.2.1, q.2.2.1 - q.1) ∧ en_ck q = true := by decide +kernel
def tb_X1_areNear : List en_I := [(0, .aload_n 0, 1, []), (1, .getfield 9, 4, []), (4, .getfield 67, 7, []), (7, .iload_n 1, 8, []), (8, .laload, 9, []), (9, .lstore 4, 11, []), (11, .aload_n 0, 12, []), (12, .getfield 9, 15, []), (15, .getfield 67, 18, []), (18, .iload_n 2, 19, []), (19, .laload, 20, []), (20, .lstore 6, 22, []), (22, .lload 4, 24, []), (24, .lconst 0, 25, []), (25, .lcmp, 26, []), (26, .ifCond .eq 22, 29, [48]), (29, .lload 6, 31, []), (31, .lconst 0, 32, []), (32, .lcmp, 33, []), (33, .ifCond .eq 15, 36, [48]), (36, .aload_n 0, 37, []), (37, .getfield 9, 40, []), (40, .iload_n 1, 41, []), (41, .iload_n 2, 42, []), (42, .invokevirtual 57, 45, []), (45, .ifCond .eq 5, 48, [50]), (48, .iconst 0, 49, []), (49, .ireturn, 50, []), (50, .lload 4, 52, []), (52, .lload 6, 54, []), (54, .land, 55, []), (55, .invokestatic 71, 58, []), (58, .bipush 100, 60, []), (60, .imul, 61, []), (61, .iload_n 3, 62, []), (62, .lload 4, 64, []), (64, .lload 6, 66, []), (66, .lor, 67, []), (67, .invokestatic 71, 70, []), (70, .imul, 71, []), (71, .if_icmp .lt 7, 74, [78]), (74, .iconst 1, 75, []), (75, .goto 4, 78, [79]), (78, .iconst 0, 79, []), (79, .ireturn, 80, [])]
set_option maxRecDepth 100000 in
theorem tk_X1_areNear : ∀ q ∈ tb_X1_areNear, decode cX1_areNear q.1 = .ok (q.2.1, q.2.2.1 - q.1) ∧ en_ck q = true := by decide +kernel
def tb_X1_findGroups : List en_I := [(0, .iconst 0, 1, []), (1, .istore_n 1, 2, []), (2, .iload_n 1, 3, []), (3, .bipush 30, 5, []), (5, .if_icmp .ge 29, 8, [34]), (8, .aload_n 0, 9, []), (9, .getfield 9, 12, []), (12, .iload_n 1, 13, []), (13, .invokevirtual 77, 16, []), (16, .istore_n 2, 17, []), (17, .iload_n 2, 18, []), (18, .iconst 2, 19, []), (19, .if_icmp .lt 9, 22, [28]), (22, .aload_n 0, 23, []), (23, .iload_n 1, 24, []), (24, .iload_n 2, 25, []), (25, .invokevirtual 64, 28, []), (28, .iinc 1 1, 31, []), (31, .goto (-29), 34, [2]), (34, .return_, 35, [])]
set_option maxRecDepth 100000 in
theorem tk_X1_findGroups : ∀ q ∈ tb_X1_findGroups, decode cX1_findGroups q.1 = .ok (q.2.1, q.2.2.1 - q.1) ∧ en_ck q = true := by decide +kernel
def tb_X1_findLate : List en_I := [(0, .aload_n 0, 1, []), (1, .invokevirtual 81, 4, []), (4, .istore_n 1, 5, []), (5, .iload_n 1, 6, []), (6, .iconst (-1), 7, []), (7, .if_icmp .ne 4, 10, [11]), (10, .return_, 11, []), (11, .iconst 0, 12, []), (12, .istore_n 2, 13, []), (13, .iload_n 2, 14, []), (14, .aload_n 0, 15, []), (15, .getfield 9, 18, []), (18, .getfield 48, 21, []), (21, .if_icmp .ge 48, 24, [69]), (24, .aload_n 0, 25, []), (25, .getfield 9, 28, []), (28, .getfield 85, 31, []), (31, .iload_n 2, 32, []), (32, .iaload, 33, []), (33, .ifCond .ne 30, 36, [63]), (36, .aload_n 0, 37, []), (37, .getfield 9, 40, []), (40, .getfield 89, 43, []), (43, .iload_n 2, 44, []), (44, .iaload, 45, []), (45, .aload_n 0, 46, []), (46, .getfield 9, 49, []), (49, .getfield 89, 52, []), (52, .iload_n 1, 53, []), (53, .iaload, 54, []), (54, .if_icmp .lt 9, 57, [63]), (57, .aload_n 0, 58, []), (58, .iload_n 2, 59, []), (59, .iload_n 1, 60, []), (60, .invokevirtual 64, 63, []), (63, .iinc 2 1, 66, []), (66, .goto (-53), 69, [13]), (69, .return_, 70, [])]
set_option maxRecDepth 100000 in
theorem tk_X1_findLate : ∀ q ∈ tb_X1_findLate, decode cX1_findLate q.1 = .ok (q.2.1, q.2.2.1 - q.1) ∧ en_ck q = true := by decide +kernel
def tb_X1_earliestOutsideFirstPart : List en_I := [(0, .iconst (-1), 1, []), (1, .istore_n 1, 2, []), (2, .iconst 0, 3, []), (3, .istore_n 2, 4, []), (4, .iload_n 2, 5, []), (5, .aload_n 0, 6, []), (6, .getfield 9, 9, []), (9, .getfield 48, 12, []), (12, .if_icmp .ge 49, 15, [61]), (15, .aload_n 0, 16, []), (16, .getfield 9, 19, []), (19, .getfield 85, 22, []), (22, .iload_n 2, 23, []), (23, .iaload, 24, []), (24, .ifCond .le 31, 27, [55]), (27, .iload_n 1, 28, []), (28, .iconst (-1), 29, []), (29, .if_icmp .eq 24, 32, [53]), (32, .aload_n 0, 33, []), (33, .getfield 9, 36, []), (36, .getfield 89, 39, []), (39, .iload_n 2, 40, []), (40, .iaload, 41, []), (41, .aload_n 0, 42, []), (42, .getfield 9, 45, []), (45, .getfield 89, 48, []), (48, .iload_n 1, 49, []), (49, .iaload, 50, []), (50, .if_icmp .ge 5, 53, [55]), (53, .iload_n 2, 54, []), (54, .istore_n 1, 55, []), (55, .iinc 2 1, 58, []), (58, .goto (-54), 61, [4]), (61, .iload_n 1, 62, []), (62, .ireturn, 63, [])]
set_option maxRecDepth 100000 in
theorem tk_X1_earliestOutsideFirstPart : ∀ q ∈ tb_X1_earliestOutsideFirstPart, decode cX1_earliestOutsideFirstPart q.1 = .ok (q.2.1, q.2.2.1 - q.1) ∧ en_ck q = true := by decide +kernel
def tb_X1_findTelling : List en_I := [(0, .iconst 0, 1, []), (1, .istore_n 1, 2, []), (2, .iload_n 1, 3, []), (3, .iconst 3, 4, []), (4, .if_icmp .ge 27, 7, [31]), (7, .aload_n 0, 8, []), (8, .iload_n 1, 9, []), (9, .invokevirtual 92, 12, []), (12, .ifCond .eq 13, 15, [25]), (15, .aload_n 0, 16, []), (16, .iload_n 1, 17, []), (17, .aload_n 0, 18, []), (18, .iload_n 1, 19, []), (19, .invokevirtual 96, 22, []), (22, .invokevirtual 64, 25, []), (25, .iinc 1 1, 28, []), (28, .goto (-26), 31, [2]), (31, .return_, 32, [])]
set_option maxRecDepth 100000 in
theorem tk_X1_findTelling : ∀ q ∈ tb_X1_findTelling, decode cX1_findTelling q.1 = .ok (q.2.1, q.2.2.1 - q.1) ∧ en_ck q = true := by decide +kernel
def tb_X1_tellsLabel : List en_I := [(0, .iconst (-1), 1, []), (1, .istore_n 2, 2, []), (2, .iconst 0, 3, []), (3, .istore_n 3, 4, []), (4, .iconst 0, 5, []), (5, .istore 4, 7, []), (7, .iload 4, 9, []), (9, .aload_n 0, 10, []), (10, .getfield 9, 13, []), (13, .getfield 48, 16, []), (16, .if_icmp .ge 83, 19, [99]), (19, .aload_n 0, 20, []), (20, .getfield 9, 23, []), (23, .iload 4, 25, []), (25, .invokevirtual 99, 28, []), (28, .ifCond .eq 65, 31, [93]), (31, .aload_n 0, 32, []), (32, .iload 4, 34, []), (34, .iload_n 1, 35, []), (35, .invokevirtual 102, 38, []), (38, .ifCond .eq 5, 41, [43]), (41, .iconst 0, 42, []), (42, .ireturn, 43, []), (43, .aload_n 0, 44, []), (44, .iload 4, 46, []), (46, .iload_n 1, 47, []), (47, .invokevirtual 105, 50, []), (50, .ifCond .eq 43, 53, [93]), (53, .iload_n 3, 54, []), (54, .ifCond .ne 22, 57, [76]), (57, .iload_n 2, 58, []), (58, .iconst (-1), 59, []), (59, .if_icmp .eq 21, 62, [80]), (62, .iload_n 2, 63, []), (63, .aload_n 0, 64, []), (64, .getfield 9, 67, []), (67, .getfield 108, 70, []), (70, .iload 4, 72, []), (72, .iaload, 73, []), (73, .if_icmp .eq 7, 76, [80]), (76, .iconst 1, 77, []), (77, .goto 4, 80, [81]), (80, .iconst 0, 81, []), (81, .istore_n 3, 82, []), (82, .aload_n 0, 83, []), (83, .getfield 9, 86, []), (86, .getfield 108, 89, []), (89, .iload 4, 91, []), (91, .iaload, 92, []), (92, .istore_n 2, 93, []), (93, .iinc 4 1, 96, []), (96, .goto (-89), 99, [7]), (99, .iload_n 3, 100, []), (100, .ireturn, 101, [])]
set_option maxRecDepth 100000 in
theorem tk_X1_tellsLabel : ∀ q ∈ tb_X1_tellsLabel, decode cX1_tellsLabel q.1 = .ok (q.2.1, q.2.2.1 - q.1) ∧ en_ck q = true := by decide +kernel
def tb_X1_standsWithOtherLabel : List en_I := [(0, .iload_n 1, 1, []), (1, .iconst 1, 2, []), (2, .iadd, 3, []), (3, .istore_n 3, 4, []), (4, .iload_n 3, 5, []), (5, .aload_n 0, 6, []), (6, .getfield 9, 9, []), (9, .getfield 48, 12, []), (12, .if_icmp .ge 56, 15, [68]), (15, .aload_n 0, 16, []), (16, .getfield 9, 19, []), (19, .iload_n 3, 20, []), (20, .invokevirtual 99, 23, []), (23, .ifCond .eq 39, 26, [62]), (26, .aload_n 0, 27, []), (27, .getfield 9, 30, []), (30, .iload_n 1, 31, []), (31, .iload_n 3, 32, []), (32, .iload_n 2, 33, []), (33, .invokevirtual 111, 36, []), (36, .ifCond .eq 26, 39, [62]), (39, .aload_n 0, 40, []), (40, .getfield 9, 43, []), (43, .getfield 108, 46, []), (46, .iload_n 1, 47, []), (47, .iaload, 48, []), (48, .aload_n 0, 49, []), (49, .getfield 9, 52, []), (52, .getfield 108, 55, []), (55, .iload_n 3, 56, []), (56, .iaload, 57, []), (57, .if_icmp .eq 5, 60, [62]), (60, .iconst 1, 61, []), (61, .ireturn, 62, []), (62, .iinc 3 1, 65, []), (65, .goto (-61), 68, [4]), (68, .iconst 0, 69, []), (69, .ireturn, 70, [])]
set_option maxRecDepth 100000 in
theorem tk_X1_standsWithOtherLabel : ∀ q ∈ tb_X1_standsWithOtherLabel, decode cX1_standsWithOtherLabel q.1 = .ok (q.2.1, q.2.2.1 - q.1) ∧ en_ck q = true := by decide +kernel
def tb_X1_standsAgainBehind : List en_I := [(0, .iload_n 1, 1, []), (1, .iconst 1, 2, []), (2, .iadd, 3, []), (3, .istore_n 3, 4, []), (4, .iload_n 3, 5, []), (5, .aload_n 0, 6, []), (6, .getfield 9, 9, []), (9, .getfield 48, 12, []), (12, .if_icmp .ge 35, 15, [47]), (15, .aload_n 0, 16, []), (16, .getfield 9, 19, []), (19, .iload_n 3, 20, []), (20, .invokevirtual 99, 23, []), (23, .ifCond .eq 18, 26, [41]), (26, .aload_n 0, 27, []), (27, .getfield 9, 30, []), (30, .iload_n 1, 31, []), (31, .iload_n 3, 32, []), (32, .iload_n 2, 33, []), (33, .invokevirtual 111, 36, []), (36, .ifCond .eq 5, 39, [41]), (39, .iconst 1, 40, []), (40, .ireturn, 41, []), (41, .iinc 3 1, 44, []), (44, .goto (-40), 47, [4]), (47, .iconst 0, 48, []), (48, .ireturn, 49, [])]
set_option maxRecDepth 100000 in
theorem tk_X1_standsAgainBehind : ∀ q ∈ tb_X1_standsAgainBehind, decode cX1_standsAgainBehind q.1 = .ok (q.2.1, q.2.2.1 - q.1) ∧ en_ck q = true := by decide +kernel
def tb_X1_countNumbers : List en_I := [(0, .iconst 0, 1, []), (1, .istore_n 2, 2, []), (2, .iconst 0, 3, []), (3, .istore_n 3, 4, []), (4, .iload_n 3, 5, []), (5, .aload_n 0, 6, []), (6, .getfield 9, 9, []), (9, .getfield 48, 12, []), (12, .if_icmp .ge 32, 15, [44]), (15, .aload_n 0, 16, []), (16, .getfield 9, 19, []), (19, .iload_n 3, 20, []), (20, .invokevirtual 99, 23, []), (23, .ifCond .eq 15, 26, [38]), (26, .aload_n 0, 27, []), (27, .iload_n 3, 28, []), (28, .iload_n 1, 29, []), (29, .invokevirtual 105, 32, []), (32, .ifCond .ne 6, 35, [38]), (35, .iinc 2 1, 38, []), (38, .iinc 3 1, 41, []), (41, .goto (-37), 44, [4]), (44, .iload_n 2, 45, []), (45, .ireturn, 46, [])]
set_option maxRecDepth 100000 in
theorem tk_X1_countNumbers : ∀ q ∈ tb_X1_countNumbers, decode cX1_countNumbers q.1 = .ok (q.2.1, q.2.2.1 - q.1) ∧ en_ck q = true := by decide +kernel
def tb_X1_findFitted : List en_I := [(0, .iconst 0, 1, []), (1, .istore_n 1, 2, []), (2, .iload_n 1, 3, []), (3, .bipush 8, 5, []), (5, .if_icmp .ge 58, 8, [63]), (8, .iconst 0, 9, []), (9, .istore_n 2, 10, []), (10, .iload_n 2, 11, []), (11, .aload_n 0, 12, []), (12, .getfield 9, 15, []), (15, .getfield 48, 18, []), (18, .if_icmp .ge 39, 21, [57]), (21, .aload_n 0, 22, []), (22, .getfield 9, 25, []), (25, .getfield 85, 28, []), (28, .iload_n 2, 29, []), (29, .iaload, 30, []), (30, .ifCond .le 21, 33, [51]), (33, .aload_n 0, 34, []), (34, .getfield 15, 37, []), (37, .iload_n 1, 38, []), (38, .iload_n 2, 39, []), (39, .invokevirtual 114, 42, []), (42, .ifCond .eq 9, 45, [51]), (45, .aload_n 0, 46, []), (46, .iload_n 1, 47, []), (47, .iload_n 2, 48, []), (48, .invokevirtual 64, 51, []), (51, .iinc 2 1, 54, []), (54, .goto (-44), 57, [10]), (57, .iinc 1 1, 60, []), (60, .goto (-58), 63, [2]), (63, .return_, 64, [])]
set_option maxRecDepth 100000 in
theorem tk_X1_findFitted : ∀ q ∈ tb_X1_findFitted, decode cX1_findFitted q.1 = .ok (q.2.1, q.2.2.1 - q.1) ∧ en_ck q = true := by decide +kernel
end
section
def tb_X3_init : List en_I := [(0, .aload_n 0, 1, []), (1, .invokespecial 3, 4, []), (4, .aload_n 0, 5, []), (5, .aload_n 1, 6, []), (6, .putfield 9, 9, []), (9, .aload_n 0, 10, []), (10, .aload_n 2, 11, []), (11, .putfield 15, 14, []), (14, .aload_n 0, 15, []), (15, .new 19, 18, []), (18, .dup, 19, []), (19, .invokespecial 21, 22, []), (22, .putfield 22, 25, []), (25, .aload_n 0, 26, []), (26, .bipush 100, 28, []), (28, .newarray .int, 30, []), (30, .putfield 26, 33, []), (33, .aload_n 0, 34, []), (34, .bipush 100, 36, []), (36, .newarray .int, 38, []), (38, .putfield 30, 41, []), (41, .aload_n 0, 42, []), (42, .iconst 0, 43, []), (43, .putfield 33, 46, []), (46, .aload_n 0, 47, []), (47, .iconst 4, 48, []), (48, .newarray .int, 50, []), (50, .putfield 37, 53, []), (53, .aload_n 0, 54, []), (54, .iconst 4, 55, []), (55, .newarray .int, 57, []), (57, .putfield 40, 60, []), (60, .return_, 61, [])]
set_option maxRecDepth 100000 in
theorem tk_X3_init : ∀ q ∈ tb_X3_init, decode cX3_init q.1 = .ok (q.2.1, q.2.2.1 - q.1) ∧ en_ck q = true := by decide +kernel
def tb_X3_settle : List en_I := [(0, .iconst 0, 1, []), (1, .istore_n 1, 2, []), (2, .iload_n 1, 3, []), (3, .aload_n 0, 4, []), (4, .getfield 9, 7, []), (7, .getfield 43, 10, []), (10, .if_icmp .ge 24, 13, [34]), (13, .aload_n 0, 14, []), (14, .getfield 9, 17, []), (17, .getfield 48, 20, []), (20, .iload_n 1, 21, []), (21, .aload_n 0, 22, []), (22, .getfield 26, 25, []), (25, .iload_n 1, 26, []), (26, .iaload, 27, []), (27, .iastore, 28, []), (28, .iinc 1 1, 31, []), (31, .goto (-29), 34, [2]), (34, .return_, 35, [])]
set_option maxRecDepth 100000 in
theorem tk_X3_settle : ∀ q ∈ tb_X3_settle, decode cX3_settle q.1 = .ok (q.2.1, q.2.2.1 - q.1) ∧ en_ck q = true := by decide +kernel
def tb_X3_isSettled : List en_I := [(0, .iconst 0, 1, []), (1, .istore_n 1, 2, []), (2, .iload_n 1, 3, []), (3, .aload_n 0, 4, []), (4, .getfield 9, 7, []), (7, .getfield 43, 10, []), (10, .if_icmp .ge 29, 13, [39]), (13, .aload_n 0, 14, []), (14, .getfield 9, 17, []), (17, .getfield 48, 20, []), (20, .iload_n 1, 21, []), (21, .iaload, 22, []), (22, .aload_n 0, 23, []), (23, .getfield 26, 26, []), (26, .iload_n 1, 27, []), (27, .iaload, 28, []), (28, .if_icmp .eq 5, 31, [33]), (31, .iconst 0, 32, []), (32, .ireturn, 33, []), (33, .iinc 1 1, 36, []), (36, .goto (-34), 39, [2]), (39, .iconst 1, 40, []), (40, .ireturn, 41, [])]
set_option maxRecDepth 100000 in
theorem tk_X3_isSettled : ∀ q ∈ tb_X3_isSettled, decode cX3_isSettled q.1 = .ok (q.2.1, q.2.2.1 - q.1) ∧ en_ck q = true := by decide +kernel
def tb_X3_plan : List en_I := [(0, .aload_n 0, 1, []), (1, .getfield 22, 4, []), (4, .lload_n 2, 5, []), (5, .invokevirtual 51, 8, []), (8, .iload_n 1, 9, []), (9, .tableswitch 50 0 2 #[27, 34, 41], 36, [59, 36, 43, 50]), (36, .aload_n 0, 37, []), (37, .invokevirtual 55, 40, []), (40, .goto 23, 43, [63]), (43, .aload_n 0, 44, []), (44, .invokevirtual 58, 47, []), (47, .goto 16, 50, [63]), (50, .aload_n 0, 51, []), (51, .iload 4, 53, []), (53, .invokevirtual 61, 56, []), (56, .goto 7, 59, [63]), (59, .aload_n 0, 60, []), (60, .invokevirtual 65, 63, []), (63, .return_, 64, [])]
set_option maxRecDepth 100000 in
theorem tk_X3_plan : ∀ q ∈ tb_X3_plan, decode cX3_plan q.1 = .ok (q.2.1, q.2.2.1 - q.1) ∧ en_ck q = true := by decide +kernel
def tb_X3_planFolds : List en_I := [(0, .aload_n 0, 1, []), (1, .getfield 22, 4, []), (4, .lload_n 1, 5, []), (5, .invokevirtual 51, 8, []), (8, .iconst 0, 9, []), (9, .istore_n 3, 10, []), (10, .iconst 0, 11, []), (11, .istore 4, 13, []), (13, .iload 4, 15, []), (15, .iconst 5, 16, []), (16, .if_icmp .ge 21, 19, [37]), (19, .aload_n 0, 20, []), (20, .iload 4, 22, []), (22, .invokevirtual 68, 25, []), (25, .aload_n 0, 26, []), (26, .iload_n 3, 27, []), (27, .invokevirtual 71, 30, []), (30, .istore_n 3, 31, []), (31, .iinc 4 1, 34, []), (34, .goto (-21), 37, [13]), (37, .return_, 38, [])]
set_option maxRecDepth 100000 in
theorem tk_X3_planFolds : ∀ q ∈ tb_X3_planFolds, decode cX3_planFolds q.1 = .ok (q.2.1, q.2.2.1 - q.1) ∧ en_ck q = true := by decide +kernel
def tb_X3_planNested : List en_I := [(0, .aload_n 0, 1, []), (1, .getfield 22, 4, []), (4, .lload_n 2, 5, []), (5, .iload_n 1, 6, []), (6, .i2l, 7, []), (7, .ladd, 8, []), (8, .invokevirtual 51, 11, []), (11, .iconst 0, 12, []), (12, .istore 4, 14, []), (14, .iload 4, 16, []), (16, .aload_n 0, 17, []), (17, .getfield 9, 20, []), (20, .getfield 43, 23, []), (23, .if_icmp .ge 17, 26, [40]), (26, .aload_n 0, 27, []), (27, .getfield 26, 30, []), (30, .iload 4, 32, []), (32, .iconst (-1), 33, []), (33, .iastore, 34, []), (34, .iinc 4 1, 37, []), (37, .goto (-23), 40, [14]), (40, .iconst 0, 41, []), (41, .istore 4, 43, []), (43, .iconst 0, 44, []), (44, .istore 5, 46, []), (46, .iload 5, 48, []), (48, .iconst 5, 49, []), (49, .if_icmp .ge 24, 52, [73]), (52, .aload_n 0, 53, []), (53, .iload 5, 55, []), (55, .iload_n 1, 56, []), (56, .invokevirtual 75, 59, []), (59, .aload_n 0, 60, []), (60, .iload 4, 62, []), (62, .invokevirtual 71, 65, []), (65, .istore 4, 67, []), (67, .iinc 5 1, 70, []), (70, .goto (-24), 73, [46]), (73, .return_, 74, [])]
set_option maxRecDepth 100000 in
theorem tk_X3_planNested : ∀ q ∈ tb_X3_planNested, decode cX3_planNested q.1 = .ok (q.2.1, q.2.2.1 - q.1) ∧ en_ck q = true := by decide +kernel
def tb_X3_planPlain : List en_I := [(0, .aload_n 0, 1, []), (1, .invokevirtual 79, 4, []), (4, .aload_n 0, 5, []), (5, .getfield 22, 8, []), (8, .aload_n 0, 9, []), (9, .getfield 30, 12, []), (12, .aload_n 0, 13, []), (13, .getfield 33, 16, []), (16, .invokevirtual 82, 19, []), (19, .aload_n 0, 20, []), (20, .invokevirtual 86, 23, []), (23, .return_, 24, [])]
set_option maxRecDepth 100000 in
theorem tk_X3_planPlain : ∀ q ∈ tb_X3_planPlain, decode cX3_planPlain q.1 = .ok (q.2.1, q.2.2.1 - q.1) ∧ en_ck q = true := by decide +kernel
def tb_X3_planLabels : List en_I := [(0, .iconst 0, 1, []), (1, .istore_n 1, 2, []), (2, .iload_n 1, 3, []), (3, .iconst 5, 4, []), (4, .if_icmp .ge 33, 7, [37]), (7, .aload_n 0, 8, []), (8, .iload_n 1, 9, []), (9, .invokevirtual 68, 12, []), (12, .aload_n 0, 13, []), (13, .getfield 22, 16, []), (16, .aload_n 0, 17, []), (17, .getfield 30, 20, []), (20, .aload_n 0, 21, []), (21, .getfield 33, 24, []), (24, .invokevirtual 82, 27, []), (27, .aload_n 0, 28, []), (28, .invokevirtual 86, 31, []), (31, .iinc 1 1, 34, []), (34, .goto (-32), 37, [2]), (37, .return_, 38, [])]
set_option maxRecDepth 100000 in
theorem tk_X3_planLabels : ∀ q ∈ tb_X3_planLabels, decode cX3_planLabels q.1 = .ok (q.2.1, q.2.2.1 - q.1) ∧ en_ck q = true := by decide +kernel
def tb_X3_planGroups : List en_I := [(0, .aload_n 0, 1, []), (1, .invokevirtual 89, 4, []), (4, .aload_n 0, 5, []), (5, .getfield 22, 8, []), (8, .aload_n 0, 9, []), (9, .getfield 30, 12, []), (12, .aload_n 0, 13, []), (13, .getfield 33, 16, []), (16, .invokevirtual 82, 19, []), (19, .iconst 0, 20, []), (20, .istore_n 1, 21, []), (21, .iload_n 1, 22, []), (22, .iconst 4, 23, []), (23, .if_icmp .ge 16, 26, [39]), (26, .aload_n 0, 27, []), (27, .getfield 37, 30, []), (30, .iload_n 1, 31, []), (31, .iconst 0, 32, []), (32, .iastore, 33, []), (33, .iinc 1 1, 36, []), (36, .goto (-15), 39, [21]), (39, .iconst 0, 40, []), (40, .istore_n 1, 41, []), (41, .iload_n 1, 42, []), (42, .aload_n 0, 43, []), (43, .getfield 33, 46, []), (46, .if_icmp .ge 23, 49, [69]), (49, .aload_n 0, 50, []), (50, .aload_n 0, 51, []), (51, .getfield 30, 54, []), (54, .iload_n 1, 55, []), (55, .iaload, 56, []), (56, .aload_n 0, 57, []), (57, .invokevirtual 92, 60, []), (60, .invokevirtual 96, 63, []), (63, .iinc 1 1, 66, []), (66, .goto (-25), 69, [41]), (69, .return_, 70, [])]
set_option maxRecDepth 100000 in
theorem tk_X3_planGroups : ∀ q ∈ tb_X3_planGroups, decode cX3_planGroups q.1 = .ok (q.2.1, q.2.2.1 - q.1) ∧ en_ck q = true := by decide +kernel
def tb_X3_planTimes : List en_I := [(0, .aload_n 0, 1, []), (1, .invokevirtual 79, 4, []), (4, .aload_n 0, 5, []), (5, .invokevirtual 99, 8, []), (8, .aload_n 0, 9, []), (9, .invokevirtual 86, 12, []), (12, .aload_n 0, 13, []), (13, .invokevirtual 102, 16, []), (16, .aload_n 0, 17, []), (17, .invokevirtual 105, 20, []), (20, .iconst 0, 21, []), (21, .istore_n 2, 22, []), (22, .iload_n 2, 23, []), (23, .aload_n 0, 24, []), (24, .getfield 9, 27, []), (27, .getfield 43, 30, []), (30, .if_icmp .ge 25, 33, [55]), (33, .aload_n 0, 34, []), (34, .iload_n 2, 35, []), (35, .iload_n 1, 36, []), (36, .invokevirtual 108, 39, []), (39, .ifCond .eq 10, 42, [49]), (42, .aload_n 0, 43, []), (43, .getfield 26, 46, []), (46, .iload_n 2, 47, []), (47, .iconst (-1), 48, []), (48, .iastore, 49, []), (49, .iinc 2 1, 52, []), (52, .goto (-30), 55, [22]), (55, .return_, 56, [])]
set_option maxRecDepth 100000 in
theorem tk_X3_planTimes : ∀ q ∈ tb_X3_planTimes, decode cX3_planTimes q.1 = .ok (q.2.1, q.2.2.1 - q.1) ∧ en_ck q = true := by decide +kernel
def tb_X3_gatherAll : List en_I := [(0, .iconst 0, 1, []), (1, .istore_n 1, 2, []), (2, .iload_n 1, 3, []), (3, .aload_n 0, 4, []), (4, .getfield 9, 7, []), (7, .getfield 43, 10, []), (10, .if_icmp .ge 16, 13, [26]), (13, .aload_n 0, 14, []), (14, .getfield 30, 17, []), (17, .iload_n 1, 18, []), (18, .iload_n 1, 19, []), (19, .iastore, 20, []), (20, .iinc 1 1, 23, []), (23, .goto (-21), 26, [2]), (26, .aload_n 0, 27, []), (27, .aload_n 0, 28, []), (28, .getfield 9, 31, []), (31, .getfield 43, 34, []), (34, .putfield 33, 37, []), (37, .return_, 38, [])]
set_option maxRecDepth 100000 in
theorem tk_X3_gatherAll : ∀ q ∈ tb_X3_gatherAll, decode cX3_gatherAll q.1 = .ok (q.2.1, q.2.2.1 - q.1) ∧ en_ck q = true := by decide +kernel
def tb_X3_gatherLabel : List en_I := [(0, .aload_n 0, 1, []), (1, .iconst 0, 2, []), (2, .putfield 33, 5, []), (5, .iconst 0, 6, []), (6, .istore_n 2, 7, []), (7, .iload_n 2, 8, []), (8, .aload_n 0, 9, []), (9, .getfield 9, 12, []), (12, .getfield 43, 15, []), (15, .if_icmp .ge 42, 18, [57]), (18, .aload_n 0, 19, []), (19, .getfield 9, 22, []), (22, .getfield 112, 25, []), (25, .iload_n 2, 26, []), (26, .iaload, 27, []), (27, .iload_n 1, 28, []), (28, .if_icmp .ne 23, 31, [51]), (31, .aload_n 0, 32, []), (32, .getfield 30, 35, []), (35, .aload_n 0, 36, []), (36, .getfield 33, 39, []), (39, .iload_n 2, 40, []), (40, .iastore, 41, []), (41, .aload_n 0, 42, []), (42, .dup, 43, []), (43, .getfield 33, 46, []), (46, .iconst 1, 47, []), (47, .iadd, 48, []), (48, .putfield 33, 51, []), (51, .iinc 2 1, 54, []), (54, .goto (-47), 57, [7]), (57, .return_, 58, [])]
set_option maxRecDepth 100000 in
theorem tk_X3_gatherLabel : ∀ q ∈ tb_X3_gatherLabel, decode cX3_gatherLabel q.1 = .ok (q.2.1, q.2.2.1 - q.1) ∧ en_ck q = true := by decide +kernel
def tb_X3_gatherLabelInside : List en_I := [(0, .aload_n 0, 1, []), (1, .iconst 0, 2, []), (2, .putfield 33, 5, []), (5, .iconst 0, 6, []), (6, .istore_n 3, 7, []), (7, .iload_n 3, 8, []), (8, .aload_n 0, 9, []), (9, .getfield 9, 12, []), (12, .getfield 43, 15, []), (15, .if_icmp .ge 66, 18, [81]), (18, .aload_n 0, 19, []), (19, .getfield 9, 22, []), (22, .getfield 112, 25, []), (25, .iload_n 3, 26, []), (26, .iaload, 27, []), (27, .iload_n 1, 28, []), (28, .if_icmp .ne 47, 31, [75]), (31, .aload_n 0, 32, []), (32, .getfield 9, 35, []), (35, .iload_n 3, 36, []), (36, .invokevirtual 115, 39, []), (39, .ifCond .eq 36, 42, [75]), (42, .aload_n 0, 43, []), (43, .getfield 9, 46, []), (46, .getfield 48, 49, []), (49, .iload_n 3, 50, []), (50, .iaload, 51, []), (51, .iload_n 2, 52, []), (52, .if_icmp .eq 23, 55, [75]), (55, .aload_n 0, 56, []), (56, .getfield 30, 59, []), (59, .aload_n 0, 60, []), (60, .getfield 33, 63, []), (63, .iload_n 3, 64, []), (64, .iastore, 65, []), (65, .aload_n 0, 66, []), (66, .dup, 67, []), (67, .getfield 33, 70, []), (70, .iconst 1, 71, []), (71, .iadd, 72, []), (72, .putfield 33, 75, []), (75, .iinc 3 1, 78, []), (78, .goto (-71), 81, [7]), (81, .return_, 82, [])]
set_option maxRecDepth 100000 in
theorem tk_X3_gatherLabelInside : ∀ q ∈ tb_X3_gatherLabelInside, decode cX3_gatherLabelInside q.1 = .ok (q.2.1, q.2.2.1 - q.1) ∧ en_ck q = true := by decide +kernel
def tb_X3_gatherGroups : List en_I := [(0, .aload_n 0, 1, []), (1, .iconst 0, 2, []), (2, .putfield 33, 5, []), (5, .iconst 0, 6, []), (6, .istore_n 1, 7, []), (7, .iload_n 1, 8, []), (8, .bipush 30, 10, []), (10, .if_icmp .ge 41, 13, [51]), (13, .aload_n 0, 14, []), (14, .getfield 9, 17, []), (17, .iload_n 1, 18, []), (18, .invokevirtual 119, 21, []), (21, .iconst (-1), 22, []), (22, .if_icmp .eq 23, 25, [45]), (25, .aload_n 0, 26, []), (26, .getfield 30, 29, []), (29, .aload_n 0, 30, []), (30, .getfield 33, 33, []), (33, .iload_n 1, 34, []), (34, .iastore, 35, []), (35, .aload_n 0, 36, []), (36, .dup, 37, []), (37, .getfield 33, 40, []), (40, .iconst 1, 41, []), (41, .iadd, 42, []), (42, .putfield 33, 45, []), (45, .iinc 1 1, 48, []), (48, .goto (-41), 51, [7]), (51, .return_, 52, [])]
set_option maxRecDepth 100000 in
theorem tk_X3_gatherGroups : ∀ q ∈ tb_X3_gatherGroups, decode cX3_gatherGroups q.1 = .ok (q.2.1, q.2.2.1 - q.1) ∧ en_ck q = true := by decide +kernel
def tb_X3_fillByQuotas : List en_I := [(0, .aload_n 0, 1, []), (1, .getfield 15, 4, []), (4, .aload_n 0, 5, []), (5, .getfield 33, 8, []), (8, .invokevirtual 122, 11, []), (11, .iconst 0, 12, []), (12, .istore_n 1, 13, []), (13, .iconst 0, 14, []), (14, .istore_n 2, 15, []), (15, .iload_n 2, 16, []), (16, .aload_n 0, 17, []), (17, .getfield 15, 20, []), (20, .getfield 127, 23, []), (23, .if_icmp .ge 52, 26, [75]), (26, .iload_n 1, 27, []), (27, .aload_n 0, 28, []), (28, .getfield 15, 31, []), (31, .getfield 128, 34, []), (34, .iload_n 2, 35, []), (35, .iaload, 36, []), (36, .iadd, 37, []), (37, .istore_n 3, 38, []), (38, .iload_n 1, 39, []), (39, .iload_n 3, 40, []), (40, .if_icmp .ge 29, 43, [69]), (43, .iload_n 1, 44, []), (44, .aload_n 0, 45, []), (45, .getfield 33, 48, []), (48, .if_icmp .ge 21, 51, [69]), (51, .aload_n 0, 52, []), (52, .getfield 26, 55, []), (55, .aload_n 0, 56, []), (56, .getfield 30, 59, []), (59, .iload_n 1, 60, []), (60, .iaload, 61, []), (61, .iload_n 2, 62, []), (62, .iastore, 63, []), (63, .iinc 1 1, 66, []), (66, .goto (-28), 69, [38]), (69, .iinc 2 1, 72, []), (72, .goto (-57), 75, [15]), (75, .return_, 76, [])]
set_option maxRecDepth 100000 in
theorem tk_X3_fillByQuotas : ∀ q ∈ tb_X3_fillByQuotas, decode cX3_fillByQuotas q.1 = .ok (q.2.1, q.2.2.1 - q.1) ∧ en_ck q = true := by decide +kernel
def tb_X3_dealFrom : List en_I := [(0, .aload_n 0, 1, []), (1, .getfield 22, 4, []), (4, .aload_n 0, 5, []), (5, .getfield 30, 8, []), (8, .aload_n 0, 9, []), (9, .getfield 33, 12, []), (12, .invokevirtual 82, 15, []), (15, .iload_n 1, 16, []), (16, .istore_n 2, 17, []), (17, .iconst 0, 18, []), (18, .istore_n 3, 19, []), (19, .iload_n 3, 20, []), (20, .aload_n 0, 21, []), (21, .getfield 33, 24, []), (24, .if_icmp .ge 42, 27, [66]), (27, .aload_n 0, 28, []), (28, .getfield 26, 31, []), (31, .aload_n 0, 32, []), (32, .getfield 30, 35, []), (35, .iload_n 3, 36, []), (36, .iaload, 37, []), (37, .iload_n 2, 38, []), (38, .iastore, 39, []), (39, .iload_n 2, 40, []), (40, .iconst 1, 41, []), (41, .iadd, 42, []), (42, .aload_n 0, 43, []), (43, .getfield 15, 46, []), (46, .getfield 127, 49, []), (49, .if_icmp .ge 9, 52, [58]), (52, .iload_n 2, 53, []), (53, .iconst 1, 54, []), (54, .iadd, 55, []), (55, .goto 4, 58, [59]), (58, .iconst 0, 59, []), (59, .istore_n 2, 60, []), (60, .iinc 3 1, 63, []), (63, .goto (-44), 66, [19]), (66, .iload_n 2, 67, []), (67, .ireturn, 68, [])]
set_option maxRecDepth 100000 in
theorem tk_X3_dealFrom : ∀ q ∈ tb_X3_dealFrom, decode cX3_dealFrom q.1 = .ok (q.2.1, q.2.2.1 - q.1) ∧ en_ck q = true := by decide +kernel
def tb_X3_neediestPart : List en_I := [(0, .iconst 0, 1, []), (1, .istore_n 1, 2, []), (2, .iconst 1, 3, []), (3, .istore_n 2, 4, []), (4, .iload_n 2, 5, []), (5, .aload_n 0, 6, []), (6, .getfield 15, 9, []), (9, .getfield 127, 12, []), (12, .if_icmp .ge 24, 15, [36]), (15, .aload_n 0, 16, []), (16, .iload_n 2, 17, []), (17, .invokevirtual 131, 20, []), (20, .aload_n 0, 21, []), (21, .iload_n 1, 22, []), (22, .invokevirtual 131, 25, []), (25, .if_icmp .le 5, 28, [30]), (28, .iload_n 2, 29, []), (29, .istore_n 1, 30, []), (30, .iinc 2 1, 33, []), (33, .goto (-29), 36, [4]), (36, .iload_n 1, 37, []), (37, .ireturn, 38, [])]
set_option maxRecDepth 100000 in
theorem tk_X3_neediestPart : ∀ q ∈ tb_X3_neediestPart, decode cX3_neediestPart q.1 = .ok (q.2.1, q.2.2.1 - q.1) ∧ en_ck q = true := by decide +kernel
def tb_X3_need : List en_I := [(0, .aload_n 0, 1, []), (1, .getfield 15, 4, []), (4, .getfield 134, 7, []), (7, .iload_n 1, 8, []), (8, .iaload, 9, []), (9, .aload_n 0, 10, []), (10, .getfield 9, 13, []), (13, .getfield 43, 16, []), (16, .imul, 17, []), (17, .aload_n 0, 18, []), (18, .getfield 15, 21, []), (21, .getfield 137, 24, []), (24, .aload_n 0, 25, []), (25, .getfield 37, 28, []), (28, .iload_n 1, 29, []), (29, .iaload, 30, []), (30, .imul, 31, []), (31, .isub, 32, []), (32, .ireturn, 33, [])]
set_option maxRecDepth 100000 in
theorem tk_X3_need : ∀ q ∈ tb_X3_need, decode cX3_need q.1 = .ok (q.2.1, q.2.2.1 - q.1) ∧ en_ck q = true := by decide +kernel
def tb_X3_placeGroup : List en_I := [(0, .iconst 0, 1, []), (1, .istore_n 3, 2, []), (2, .iload_n 3, 3, []), (3, .aload_n 0, 4, []), (4, .getfield 9, 7, []), (7, .getfield 43, 10, []), (10, .if_icmp .ge 39, 13, [49]), (13, .aload_n 0, 14, []), (14, .getfield 9, 17, []), (17, .getfield 140, 20, []), (20, .iload_n 3, 21, []), (21, .iaload, 22, []), (22, .iload_n 1, 23, []), (23, .if_icmp .ne 20, 26, [43]), (26, .aload_n 0, 27, []), (27, .getfield 26, 30, []), (30, .iload_n 3, 31, []), (31, .iload_n 2, 32, []), (32, .iastore, 33, []), (33, .aload_n 0, 34, []), (34, .getfield 37, 37, []), (37, .iload_n 2, 38, []), (38, .dup2, 39, []), (39, .iaload, 40, []), (40, .iconst 1, 41, []), (41, .iadd, 42, []), (42, .iastore, 43, []), (43, .iinc 3 1, 46, []), (46, .goto (-44), 49, [2]), (49, .return_, 50, [])]
set_option maxRecDepth 100000 in
theorem tk_X3_placeGroup : ∀ q ∈ tb_X3_placeGroup, decode cX3_placeGroup q.1 = .ok (q.2.1, q.2.2.1 - q.1) ∧ en_ck q = true := by decide +kernel
def tb_X3_sortByTime : List en_I := [(0, .iconst 1, 1, []), (1, .istore_n 1, 2, []), (2, .iload_n 1, 3, []), (3, .aload_n 0, 4, []), (4, .getfield 33, 7, []), (7, .if_icmp .ge 77, 10, [84]), (10, .aload_n 0, 11, []), (11, .getfield 30, 14, []), (14, .iload_n 1, 15, []), (15, .iaload, 16, []), (16, .istore_n 2, 17, []), (17, .iload_n 1, 18, []), (18, .istore_n 3, 19, []), (19, .iload_n 3, 20, []), (20, .ifCond .le 51, 23, [71]), (23, .aload_n 0, 24, []), (24, .getfield 9, 27, []), (27, .getfield 143, 30, []), (30, .aload_n 0, 31, []), (31, .getfield 30, 34, []), (34, .iload_n 3, 35, []), (35, .iconst 1, 36, []), (36, .isub, 37, []), (37, .iaload, 38, []), (38, .iaload, 39, []), (39, .aload_n 0, 40, []), (40, .getfield 9, 43, []), (43, .getfield 143, 46, []), (46, .iload_n 2, 47, []), (47, .iaload, 48, []), (48, .if_icmp .le 23, 51, [71]), (51, .aload_n 0, 52, []), (52, .getfield 30, 55, []), (55, .iload_n 3, 56, []), (56, .aload_n 0, 57, []), (57, .getfield 30, 60, []), (60, .iload_n 3, 61, []), (61, .iconst 1, 62, []), (62, .isub, 63, []), (63, .iaload, 64, []), (64, .iastore, 65, []), (65, .iinc 3 (-1), 68, []), (68, .goto (-49), 71, [19]), (71, .aload_n 0, 72, []), (72, .getfield 30, 75, []), (75, .iload_n 3, 76, []), (76, .iload_n 2, 77, []), (77, .iastore, 78, []), (78, .iinc 1 1, 81, []), (81, .goto (-79), 84, [2]), (84, .return_, 85, [])]
set_option maxRecDepth 100000 in
theorem tk_X3_sortByTime : ∀ q ∈ tb_X3_sortByTime, decode cX3_sortByTime q.1 = .ok (q.2.1, q.2.2.1 - q.1) ∧ en_ck q = true := by decide +kernel
def tb_X3_joinLikeTimes : List en_I := [(0, .iconst 1, 1, []), (1, .istore_n 1, 2, []), (2, .iload_n 1, 3, []), (3, .aload_n 0, 4, []), (4, .getfield 33, 7, []), (7, .if_icmp .ge 66, 10, [73]), (10, .aload_n 0, 11, []), (11, .getfield 9, 14, []), (14, .getfield 143, 17, []), (17, .aload_n 0, 18, []), (18, .getfield 30, 21, []), (21, .iload_n 1, 22, []), (22, .iaload, 23, []), (23, .iaload, 24, []), (24, .aload_n 0, 25, []), (25, .getfield 9, 28, []), (28, .getfield 143, 31, []), (31, .aload_n 0, 32, []), (32, .getfield 30, 35, []), (35, .iload_n 1, 36, []), (36, .iconst 1, 37, []), (37, .isub, 38, []), (38, .iaload, 39, []), (39, .iaload, 40, []), (40, .if_icmp .ne 27, 43, [67]), (43, .aload_n 0, 44, []), (44, .getfield 26, 47, []), (47, .aload_n 0, 48, []), (48, .getfield 30, 51, []), (51, .iload_n 1, 52, []), (52, .iaload, 53, []), (53, .aload_n 0, 54, []), (54, .getfield 26, 57, []), (57, .aload_n 0, 58, []), (58, .getfield 30, 61, []), (61, .iload_n 1, 62, []), (62, .iconst 1, 63, []), (63, .isub, 64, []), (64, .iaload, 65, []), (65, .iaload, 66, []), (66, .iastore, 67, []), (67, .iinc 1 1, 70, []), (70, .goto (-68), 73, [2]), (73, .return_, 74, [])]
set_option maxRecDepth 100000 in
theorem tk_X3_joinLikeTimes : ∀ q ∈ tb_X3_joinLikeTimes, decode cX3_joinLikeTimes q.1 = .ok (q.2.1, q.2.2.1 - q.1) ∧ en_ck q = true := by decide +kernel
def tb_X3_findLatest : List en_I := [(0, .iconst 0, 1, []), (1, .istore_n 1, 2, []), (2, .iload_n 1, 3, []), (3, .iconst 4, 4, []), (4, .if_icmp .ge 16, 7, [20]), (7, .aload_n 0, 8, []), (8, .getfield 40, 11, []), (11, .iload_n 1, 12, []), (12, .iconst (-1), 13, []), (13, .iastore, 14, []), (14, .iinc 1 1, 17, []), (17, .goto (-15), 20, [2]), (20, .iconst 0, 21, []), (21, .istore_n 1, 22, []), (22, .iload_n 1, 23, []), (23, .aload_n 0, 24, []), (24, .getfield 9, 27, []), (27, .getfield 43, 30, []), (30, .if_icmp .ge 57, 33, [87]), (33, .aload_n 0, 34, []), (34, .getfield 26, 37, []), (37, .iload_n 1, 38, []), (38, .iaload, 39, []), (39, .istore_n 2, 40, []), (40, .iload_n 2, 41, []), (41, .iconst 4, 42, []), (42, .invokestatic 146, 45, []), (45, .ifCond .eq 36, 48, [81]), (48, .aload_n 0, 49, []), (49, .getfield 9, 52, []), (52, .getfield 143, 55, []), (55, .iload_n 1, 56, []), (56, .iaload, 57, []), (57, .aload_n 0, 58, []), (58, .getfield 40, 61, []), (61, .iload_n 2, 62, []), (62, .iaload, 63, []), (63, .if_icmp .le 18, 66, [81]), (66, .aload_n 0, 67, []), (67, .getfield 40, 70, []), (70, .iload_n 2, 71, []), (71, .aload_n 0, 72, []), (72, .getfield 9, 75, []), (75, .getfield 143, 78, []), (78, .iload_n 1, 79, []), (79, .iaload, 80, []), (80, .iastore, 81, []), (81, .iinc 1 1, 84, []), (84, .goto (-62), 87, [22]), (87, .return_, 88, [])]
set_option maxRecDepth 100000 in
theorem tk_X3_findLatest : ∀ q ∈ tb_X3_findLatest, decode cX3_findLatest q.1 = .ok (q.2.1, q.2.2.1 - q.1) ∧ en_ck q = true := by decide +kernel
def tb_X3_isInGap : List en_I := [(0, .iconst 0, 1, []), (1, .istore_n 3, 2, []), (2, .iload_n 3, 3, []), (3, .aload_n 0, 4, []), (4, .getfield 26, 7, []), (7, .iload_n 1, 8, []), (8, .iaload, 9, []), (9, .if_icmp .ge 41, 12, [50]), (12, .aload_n 0, 13, []), (13, .getfield 40, 16, []), (16, .iload_n 3, 17, []), (17, .iaload, 18, []), (18, .iconst (-1), 19, []), (19, .if_icmp .eq 25, 22, [44]), (22, .aload_n 0, 23, []), (23, .getfield 9, 26, []), (26, .getfield 143, 29, []), (29, .iload_n 1, 30, []), (30, .iaload, 31, []), (31, .aload_n 0, 32, []), (32, .getfield 40, 35, []), (35, .iload_n 3, 36, []), (36, .iaload, 37, []), (37, .iload_n 2, 38, []), (38, .iadd, 39, []), (39, .if_icmp .ge 5, 42, [44]), (42, .iconst 1, 43, []), (43, .ireturn, 44, []), (44, .iinc 3 1, 47, []), (47, .goto (-45), 50, [2]), (50, .iconst 0, 51, []), (51, .ireturn, 52, [])]
set_option maxRecDepth 100000 in
theorem tk_X3_isInGap : ∀ q ∈ tb_X3_isInGap, decode cX3_isInGap q.1 = .ok (q.2.1, q.2.2.1 - q.1) ∧ en_ck q = true := by decide +kernel
end
section
def tb_X6_init : List en_I := [(0, .aload_n 0, 1, []), (1, .invokespecial 1, 4, []), (4, .aload_n 0, 5, []), (5, .new 7, 8, []), (8, .dup, 9, []), (9, .invokespecial 9, 12, []), (12, .putfield 10, 15, []), (15, .aload_n 0, 16, []), (16, .new 16, 19, []), (19, .dup, 20, []), (20, .invokespecial 18, 23, []), (23, .putfield 19, 26, []), (26, .aload_n 0, 27, []), (27, .new 23, 30, []), (30, .dup, 31, []), (31, .aload_n 0, 32, []), (32, .getfield 10, 35, []), (35, .aload_n 0, 36, []), (36, .getfield 19, 39, []), (39, .invokespecial 25, 42, []), (42, .putfield 28, 45, []), (45, .aload_n 0, 46, []), (46, .new 32, 49, []), (49, .dup, 50, []), (50, .invokespecial 34, 53, []), (53, .putfield 35, 56, []), (56, .aload_n 0, 57, []), (57, .new 39, 60, []), (60, .dup, 61, []), (61, .aload_n 0, 62, []), (62, .getfield 10, 65, []), (65, .aload_n 0, 66, []), (66, .getfield 35, 69, []), (69, .invokespecial 41, 72, []), (72, .putfield 44, 75, []), (75, .aload_n 0, 76, []), (76, .bipush 50, 78, []), (78, .putfield 48, 81, []), (81, .return_, 82, [])]
set_option maxRecDepth 100000 in
theorem tk_X6_init : ∀ q ∈ tb_X6_init, decode cX6_init q.1 = .ok (q.2.1, q.2.2.1 - q.1) ∧ en_ck q = true := by decide +kernel
def tb_X6_row : List en_I := [(0, .iload_n 1, 1, []), (1, .bipush 30, 3, []), (3, .invokestatic 52, 6, []), (6, .ifCond .eq 20, 9, [26]), (9, .iload_n 2, 10, []), (10, .iconst 5, 11, []), (11, .invokestatic 52, 14, []), (14, .ifCond .eq 12, 17, [26]), (17, .iload_n 3, 18, []), (18, .ldc 56, 20, []), (20, .invokestatic 52, 23, []), (23, .ifCond .ne 6, 26, [29]), (26, .bipush (-2), 28, []), (28, .ireturn, 29, []), (29, .aload_n 0, 30, []), (30, .getfield 10, 33, []), (33, .getfield 57, 36, []), (36, .bipush 100, 38, []), (38, .if_icmp .lt 6, 41, [44]), (41, .bipush (-3), 43, []), (43, .ireturn, 44, []), (44, .aload_n 0, 45, []), (45, .getfield 10, 48, []), (48, .iload_n 1, 49, []), (49, .iload_n 2, 50, []), (50, .iload_n 3, 51, []), (51, .invokevirtual 60, 54, []), (54, .ireturn, 55, [])]
set_option maxRecDepth 100000 in
theorem tk_X6_row : ∀ q ∈ tb_X6_row, decode cX6_row q.1 = .ok (q.2.1, q.2.2.1 - q.1) ∧ en_ck q = true := by decide +kernel
def tb_X6_column : List en_I := [(0, .aload_n 0, 1, []), (1, .getfield 10, 4, []), (4, .iload_n 1, 5, []), (5, .invokevirtual 64, 8, []), (8, .ifCond .eq 11, 11, [19]), (11, .iload_n 2, 12, []), (12, .iconst 3, 13, []), (13, .invokestatic 52, 16, []), (16, .ifCond .ne 6, 19, [22]), (19, .bipush (-2), 21, []), (21, .ireturn, 22, []), (22, .aload_n 0, 23, []), (23, .getfield 10, 26, []), (26, .getfield 68, 29, []), (29, .iload_n 1, 30, []), (30, .iconst 3, 31, []), (31, .imul, 32, []), (32, .iload_n 2, 33, []), (33, .iadd, 34, []), (34, .lload_n 3, 35, []), (35, .lastore, 36, []), (36, .iconst 1, 37, []), (37, .ireturn, 38, [])]
set_option maxRecDepth 100000 in
theorem tk_X6_column : ∀ q ∈ tb_X6_column, decode cX6_column q.1 = .ok (q.2.1, q.2.2.1 - q.1) ∧ en_ck q = true := by decide +kernel
def tb_X6_word : List en_I := [(0, .aload_n 0, 1, []), (1, .getfield 10, 4, []), (4, .iload_n 1, 5, []), (5, .invokevirtual 64, 8, []), (8, .ifCond .eq 12, 11, [20]), (11, .iload_n 2, 12, []), (12, .bipush 64, 14, []), (14, .invokestatic 52, 17, []), (17, .ifCond .ne 6, 20, [23]), (20, .bipush (-2), 22, []), (22, .ireturn, 23, []), (23, .lconst 1, 24, []), (24, .iload_n 2, 25, []), (25, .lshl, 26, []), (26, .lstore 4, 28, []), (28, .iload_n 3, 29, []), (29, .ifCond .eq 20, 32, [49]), (32, .aload_n 0, 33, []), (33, .getfield 10, 36, []), (36, .getfield 72, 39, []), (39, .iload_n 1, 40, []), (40, .dup2, 41, []), (41, .laload, 42, []), (42, .lload 4, 44, []), (44, .lor, 45, []), (45, .lastore, 46, []), (46, .goto 21, 49, [67]), (49, .aload_n 0, 50, []), (50, .getfield 10, 53, []), (53, .getfield 72, 56, []), (56, .iload_n 1, 57, []), (57, .dup2, 58, []), (58, .laload, 59, []), (59, .lload 4, 61, []), (61, .ldc2_w 75, 64, []), (64, .lxor, 65, []), (65, .land, 66, []), (66, .lastore, 67, []), (67, .aload_n 0, 68, []), (68, .getfield 10, 71, []), (71, .getfield 72, 74, []), (74, .iload_n 1, 75, []), (75, .laload, 76, []), (76, .invokestatic 77, 79, []), (79, .ireturn, 80, [])]
set_option maxRecDepth 100000 in
theorem tk_X6_word : ∀ q ∈ tb_X6_word, decode cX6_word q.1 = .ok (q.2.1, q.2.2.1 - q.1) ∧ en_ck q = true := by decide +kernel
def tb_X6_parts : List en_I := [(0, .iload_n 1, 1, []), (1, .iconst 1, 2, []), (2, .if_icmp .lt 8, 5, [10]), (5, .iload_n 1, 6, []), (6, .iconst 4, 7, []), (7, .if_icmp .le 6, 10, [13]), (10, .bipush (-2), 12, []), (12, .ireturn, 13, []), (13, .iload_n 1, 14, []), (14, .iconst 1, 15, []), (15, .if_icmp .le 7, 18, [22]), (18, .iload_n 3, 19, []), (19, .goto 4, 22, [23]), (22, .iconst 0, 23, []), (23, .istore 6, 25, []), (25, .iload_n 1, 26, []), (26, .iconst 2, 27, []), (27, .if_icmp .le 8, 30, [35]), (30, .iload 4, 32, []), (32, .goto 4, 35, [36]), (35, .iconst 0, 36, []), (36, .istore 7, 38, []), (38, .iload_n 1, 39, []), (39, .iconst 3, 40, []), (40, .if_icmp .le 8, 43, [48]), (43, .iload 5, 45, []), (45, .goto 4, 48, [49]), (48, .iconst 0, 49, []), (49, .istore 8, 51, []), (51, .iload_n 2, 52, []), (52, .invokestatic 83, 55, []), (55, .ifCond .eq 27, 58, [82]), (58, .iload 6, 60, []), (60, .invokestatic 83, 63, []), (63, .ifCond .eq 19, 66, [82]), (66, .iload 7, 68, []), (68, .invokestatic 83, 71, []), (71, .ifCond .eq 11, 74, [82]), (74, .iload 8, 76, []), (76, .invokestatic 83, 79, []), (79, .ifCond .ne 6, 82, [85]), (82, .bipush (-2), 84, []), (84, .ireturn, 85, []), (85, .iload_n 2, 86, []), (86, .iload 6, 88, []), (88, .iadd, 89, []), (89, .iload 7, 91, []), (91, .iadd, 92, []), (92, .iload 8, 94, []), (94, .iadd, 95, []), (95, .ifCond .ne 6, 98, [101]), (98, .bipush (-2), 100, []), (100, .ireturn, 101, []), (101, .aload_n 0, 102, []), (102, .getfield 19, 105, []), (105, .iload_n 1, 106, []), (106, .iload_n 2, 107, []), (107, .iload 6, 109, []), (109, .iload 7, 111, []), (111, .iload 8, 113, []), (113, .invokevirtual 86, 116, []), (116, .aload_n 0, 117, []), (117, .getfield 19, 120, []), (120, .getfield 90, 123, []), (123, .ireturn, 124, [])]
set_option maxRecDepth 100000 in
theorem tk_X6_parts : ∀ q ∈ tb_X6_parts, decode cX6_parts q.1 = .ok (q.2.1, q.2.2.1 - q.1) ∧ en_ck q = true := by decide +kernel
def tb_X6_quota : List en_I := [(0, .iload_n 1, 1, []), (1, .aload_n 0, 2, []), (2, .getfield 19, 5, []), (5, .getfield 93, 8, []), (8, .invokestatic 52, 11, []), (11, .ifCond .eq 12, 14, [23]), (14, .iload_n 2, 15, []), (15, .ldc 56, 17, []), (17, .invokestatic 52, 20, []), (20, .ifCond .ne 6, 23, [26]), (23, .bipush (-2), 25, []), (25, .ireturn, 26, []), (26, .aload_n 0, 27, []), (27, .getfield 19, 30, []), (30, .iload_n 2, 31, []), (31, .invokevirtual 94, 34, []), (34, .aload_n 0, 35, []), (35, .getfield 19, 38, []), (38, .getfield 98, 41, []), (41, .iload_n 1, 42, []), (42, .iaload, 43, []), (43, .ireturn, 44, [])]
set_option maxRecDepth 100000 in
theorem tk_X6_quota : ∀ q ∈ tb_X6_quota, decode cX6_quota q.1 = .ok (q.2.1, q.2.2.1 - q.1) ∧ en_ck q = true := by decide +kernel
def tb_X6_split : List en_I := [(0, .iload_n 1, 1, []), (1, .iload 4, 3, []), (3, .invokestatic 102, 6, []), (6, .ifCond .ne 6, 9, [12]), (9, .bipush (-2), 11, []), (11, .ireturn, 12, []), (12, .aload_n 0, 13, []), (13, .getfield 28, 16, []), (16, .iload_n 1, 17, []), (17, .lload_n 2, 18, []), (18, .iload 4, 20, []), (20, .invokevirtual 105, 23, []), (23, .aload_n 0, 24, []), (24, .getfield 28, 27, []), (27, .invokevirtual 109, 30, []), (30, .aload_n 0, 31, []), (31, .getfield 10, 34, []), (34, .invokevirtual 112, 37, []), (37, .ireturn, 38, [])]
set_option maxRecDepth 100000 in
theorem tk_X6_split : ∀ q ∈ tb_X6_split, decode cX6_split q.1 = .ok (q.2.1, q.2.2.1 - q.1) ∧ en_ck q = true := by decide +kernel
def tb_X6_folds : List en_I := [(0, .iload_n 1, 1, []), (1, .invokestatic 116, 4, []), (4, .ifCond .ne 6, 7, [10]), (7, .bipush (-2), 9, []), (9, .ireturn, 10, []), (10, .aload_n 0, 11, []), (11, .getfield 19, 14, []), (14, .iload_n 1, 15, []), (15, .invokevirtual 119, 18, []), (18, .aload_n 0, 19, []), (19, .getfield 28, 22, []), (22, .lload_n 2, 23, []), (23, .invokevirtual 122, 26, []), (26, .aload_n 0, 27, []), (27, .getfield 28, 30, []), (30, .invokevirtual 109, 33, []), (33, .aload_n 0, 34, []), (34, .getfield 10, 37, []), (37, .iload_n 1, 38, []), (38, .invokevirtual 126, 41, []), (41, .ireturn, 42, [])]
set_option maxRecDepth 100000 in
theorem tk_X6_folds : ∀ q ∈ tb_X6_folds, decode cX6_folds q.1 = .ok (q.2.1, q.2.2.1 - q.1) ∧ en_ck q = true := by decide +kernel
def tb_X6_nested : List en_I := [(0, .iload_n 1, 1, []), (1, .iconst 4, 2, []), (2, .invokestatic 52, 5, []), (5, .ifCond .eq 10, 8, [15]), (8, .iload_n 2, 9, []), (9, .invokestatic 116, 12, []), (12, .ifCond .ne 6, 15, [18]), (15, .bipush (-2), 17, []), (17, .ireturn, 18, []), (18, .aload_n 0, 19, []), (19, .getfield 10, 22, []), (22, .iload_n 1, 23, []), (23, .iconst (-1), 24, []), (24, .invokevirtual 130, 27, []), (27, .ifCond .ne 6, 30, [33]), (30, .bipush (-4), 32, []), (32, .ireturn, 33, []), (33, .aload_n 0, 34, []), (34, .getfield 19, 37, []), (37, .iload_n 2, 38, []), (38, .invokevirtual 119, 41, []), (41, .aload_n 0, 42, []), (42, .getfield 28, 45, []), (45, .iload_n 1, 46, []), (46, .lload_n 3, 47, []), (47, .invokevirtual 134, 50, []), (50, .aload_n 0, 51, []), (51, .getfield 28, 54, []), (54, .invokevirtual 109, 57, []), (57, .aload_n 0, 58, []), (58, .getfield 10, 61, []), (61, .invokevirtual 112, 64, []), (64, .ireturn, 65, [])]
set_option maxRecDepth 100000 in
theorem tk_X6_nested : ∀ q ∈ tb_X6_nested, decode cX6_nested q.1 = .ok (q.2.1, q.2.2.1 - q.1) ∧ en_ck q = true := by decide +kernel
def tb_X6_of : List en_I := [(0, .aload_n 0, 1, []), (1, .getfield 10, 4, []), (4, .iload_n 1, 5, []), (5, .invokevirtual 64, 8, []), (8, .ifCond .eq 15, 11, [23]), (11, .aload_n 0, 12, []), (12, .getfield 10, 15, []), (15, .getfield 138, 18, []), (18, .iload_n 1, 19, []), (19, .iaload, 20, []), (20, .goto 5, 23, [25]), (23, .bipush (-2), 25, []), (25, .ireturn, 26, [])]
set_option maxRecDepth 100000 in
theorem tk_X6_of : ∀ q ∈ tb_X6_of, decode cX6_of q.1 = .ok (q.2.1, q.2.2.1 - q.1) ∧ en_ck q = true := by decide +kernel
def tb_X6_many : List en_I := [(0, .iload_n 1, 1, []), (1, .iconst 4, 2, []), (2, .invokestatic 52, 5, []), (5, .ifCond .eq 16, 8, [21]), (8, .iload_n 2, 9, []), (9, .iconst (-1), 10, []), (10, .if_icmp .eq 14, 13, [24]), (13, .iload_n 2, 14, []), (14, .iconst 5, 15, []), (15, .invokestatic 52, 18, []), (18, .ifCond .ne 6, 21, [24]), (21, .bipush (-2), 23, []), (23, .ireturn, 24, []), (24, .aload_n 0, 25, []), (25, .getfield 10, 28, []), (28, .iload_n 1, 29, []), (29, .iload_n 2, 30, []), (30, .invokevirtual 130, 33, []), (33, .ireturn, 34, [])]
set_option maxRecDepth 100000 in
theorem tk_X6_many : ∀ q ∈ tb_X6_many, decode cX6_many q.1 = .ok (q.2.1, q.2.2.1 - q.1) ∧ en_ck q = true := by decide +kernel
def tb_X6_share : List en_I := [(0, .iload_n 1, 1, []), (1, .iconst 5, 2, []), (2, .invokestatic 52, 5, []), (5, .ifCond .eq 11, 8, [16]), (8, .iload_n 2, 9, []), (9, .iconst 4, 10, []), (10, .invokestatic 52, 13, []), (13, .ifCond .ne 13, 16, [26]), (16, .new 141, 19, []), (19, .dup, 20, []), (20, .ldc 143, 22, []), (22, .invokespecial 145, 25, []), (25, .athrow, 26, []), (26, .iload_n 3, 27, []), (27, .ifCond .eq 18, 30, [45]), (30, .iload_n 3, 31, []), (31, .iconst 1, 32, []), (32, .if_icmp .eq 13, 35, [45]), (35, .new 148, 38, []), (38, .dup, 39, []), (39, .ldc 150, 41, []), (41, .invokespecial 152, 44, []), (44, .athrow, 45, []), (45, .aload_n 0, 46, []), (46, .getfield 10, 49, []), (49, .iload_n 1, 50, []), (50, .invokevirtual 153, 53, []), (53, .istore 4, 55, []), (55, .iload 4, 57, []), (57, .ifCond .ne 13, 60, [70]), (60, .new 156, 63, []), (63, .dup, 64, []), (64, .ldc 158, 66, []), (66, .invokespecial 160, 69, []), (69, .athrow, 70, []), (70, .aload_n 0, 71, []), (71, .getfield 10, 74, []), (74, .iload_n 2, 75, []), (75, .iload_n 1, 76, []), (76, .invokevirtual 130, 79, []), (79, .istore 5, 81, []), (81, .iload_n 3, 82, []), (82, .ifCond .ne 8, 85, [90]), (85, .iload 5, 87, []), (87, .goto 5, 90, [92]), (90, .iload 4, 92, []), (92, .iload 5, 94, []), (94, .iload 4, 96, []), (96, .invokestatic 161, 99, []), (99, .idiv, 100, []), (100, .ireturn, 101, [])]
set_option maxRecDepth 100000 in
theorem tk_X6_share : ∀ q ∈ tb_X6_share, decode cX6_share q.1 = .ok (q.2.1, q.2.2.1 - q.1) ∧ en_ck q = true := by decide +kernel
def tb_X6_over : List en_I := [(0, .iload_n 1, 1, []), (1, .bipush 30, 3, []), (3, .invokestatic 52, 6, []), (6, .ifCond .ne 6, 9, [12]), (9, .bipush (-2), 11, []), (11, .ireturn, 12, []), (12, .aload_n 0, 13, []), (13, .getfield 10, 16, []), (16, .iload_n 1, 17, []), (17, .invokevirtual 164, 20, []), (20, .istore_n 2, 21, []), (21, .iload_n 2, 22, []), (22, .iconst (-1), 23, []), (23, .if_icmp .eq 25, 26, [48]), (26, .aload_n 0, 27, []), (27, .getfield 10, 30, []), (30, .getfield 138, 33, []), (33, .iload_n 2, 34, []), (34, .iaload, 35, []), (35, .aload_n 0, 36, []), (36, .getfield 19, 39, []), (39, .getfield 93, 42, []), (42, .invokestatic 52, 45, []), (45, .ifCond .ne 5, 48, [50]), (48, .iconst 0, 49, []), (49, .ireturn, 50, []), (50, .aload_n 0, 51, []), (51, .getfield 19, 54, []), (54, .aload_n 0, 55, []), (55, .getfield 10, 58, []), (58, .getfield 57, 61, []), (61, .invokevirtual 94, 64, []), (64, .aload_n 0, 65, []), (65, .getfield 10, 68, []), (68, .iload_n 1, 69, []), (69, .invokevirtual 167, 72, []), (72, .aload_n 0, 73, []), (73, .getfield 19, 76, []), (76, .getfield 98, 79, []), (79, .aload_n 0, 80, []), (80, .getfield 10, 83, []), (83, .getfield 138, 86, []), (86, .iload_n 2, 87, []), (87, .iaload, 88, []), (88, .iaload, 89, []), (89, .isub, 90, []), (90, .istore_n 3, 91, []), (91, .iload_n 3, 92, []), (92, .ifCond .le 7, 95, [99]), (95, .iload_n 3, 96, []), (96, .goto 4, 99, [100]), (99, .iconst 0, 100, []), (100, .ireturn, 101, [])]
set_option maxRecDepth 100000 in
theorem tk_X6_over : ∀ q ∈ tb_X6_over, decode cX6_over q.1 = .ok (q.2.1, q.2.2.1 - q.1) ∧ en_ck q = true := by decide +kernel
def tb_X6_near : List en_I := [(0, .iload_n 1, 1, []), (1, .iconst 1, 2, []), (2, .if_icmp .lt 9, 5, [11]), (5, .iload_n 1, 6, []), (6, .bipush 100, 8, []), (8, .if_icmp .le 6, 11, [14]), (11, .bipush (-2), 13, []), (13, .ireturn, 14, []), (14, .aload_n 0, 15, []), (15, .getfield 48, 18, []), (18, .istore_n 2, 19, []), (19, .aload_n 0, 20, []), (20, .iload_n 1, 21, []), (21, .putfield 48, 24, []), (24, .iload_n 2, 25, []), (25, .ireturn, 26, [])]
set_option maxRecDepth 100000 in
theorem tk_X6_near : ∀ q ∈ tb_X6_near, decode cX6_near q.1 = .ok (q.2.1, q.2.2.1 - q.1) ∧ en_ck q = true := by decide +kernel
def tb_X6_fit : List en_I := [(0, .iload_n 1, 1, []), (1, .bipush 8, 3, []), (3, .invokestatic 52, 6, []), (6, .ifCond .eq 14, 9, [20]), (9, .aload_n 0, 10, []), (10, .getfield 10, 13, []), (13, .iload_n 2, 14, []), (14, .invokevirtual 64, 17, []), (17, .ifCond .ne 6, 20, [23]), (20, .bipush (-2), 22, []), (22, .ireturn, 23, []), (23, .aload_n 0, 24, []), (24, .getfield 35, 27, []), (27, .iload_n 1, 28, []), (28, .iload_n 2, 29, []), (29, .invokevirtual 170, 32, []), (32, .ifCond .eq 6, 35, [38]), (35, .bipush (-4), 37, []), (37, .ireturn, 38, []), (38, .aload_n 0, 39, []), (39, .getfield 35, 42, []), (42, .iload_n 1, 43, []), (43, .iload_n 2, 44, []), (44, .invokevirtual 173, 47, []), (47, .ireturn, 48, [])]
set_option maxRecDepth 100000 in
theorem tk_X6_fit : ∀ q ∈ tb_X6_fit, decode cX6_fit q.1 = .ok (q.2.1, q.2.2.1 - q.1) ∧ en_ck q = true := by decide +kernel
def tb_X6_base : List en_I := [(0, .iload_n 1, 1, []), (1, .bipush 8, 3, []), (3, .invokestatic 52, 6, []), (6, .ifCond .eq 16, 9, [22]), (9, .iload_n 2, 10, []), (10, .iconst (-1), 11, []), (11, .if_icmp .eq 14, 14, [25]), (14, .iload_n 2, 15, []), (15, .iload_n 1, 16, []), (16, .invokestatic 52, 19, []), (19, .ifCond .ne 6, 22, [25]), (22, .bipush (-2), 24, []), (24, .ireturn, 25, []), (25, .aload_n 0, 26, []), (26, .getfield 35, 29, []), (29, .getfield 176, 32, []), (32, .iload_n 1, 33, []), (33, .iaload, 34, []), (34, .istore_n 3, 35, []), (35, .aload_n 0, 36, []), (36, .getfield 35, 39, []), (39, .getfield 176, 42, []), (42, .iload_n 1, 43, []), (43, .iload_n 2, 44, []), (44, .iastore, 45, []), (45, .iload_n 3, 46, []), (46, .ireturn, 47, [])]
set_option maxRecDepth 100000 in
theorem tk_X6_base : ∀ q ∈ tb_X6_base, decode cX6_base q.1 = .ok (q.2.1, q.2.2.1 - q.1) ∧ en_ck q = true := by decide +kernel
def tb_X6_leaks : List en_I := [(0, .iload_n 1, 1, []), (1, .invokestatic 179, 4, []), (4, .ifCond .ne 6, 7, [10]), (7, .bipush (-2), 9, []), (9, .ireturn, 10, []), (10, .aload_n 0, 11, []), (11, .getfield 44, 14, []), (14, .iload_n 1, 15, []), (15, .aload_n 0, 16, []), (16, .getfield 48, 19, []), (19, .iconst (-1), 20, []), (20, .invokevirtual 182, 23, []), (23, .ireturn, 24, [])]
set_option maxRecDepth 100000 in
theorem tk_X6_leaks : ∀ q ∈ tb_X6_leaks, decode cX6_leaks q.1 = .ok (q.2.1, q.2.2.1 - q.1) ∧ en_ck q = true := by decide +kernel
def tb_X6_leak : List en_I := [(0, .iload_n 1, 1, []), (1, .invokestatic 179, 4, []), (4, .ifCond .eq 16, 7, [20]), (7, .iload_n 2, 8, []), (8, .ifCond .lt 12, 11, [20]), (11, .iload_n 3, 12, []), (12, .ifCond .eq 11, 15, [23]), (15, .iload_n 3, 16, []), (16, .iconst 1, 17, []), (17, .if_icmp .eq 6, 20, [23]), (20, .bipush (-2), 22, []), (22, .ireturn, 23, []), (23, .iload_n 2, 24, []), (24, .aload_n 0, 25, []), (25, .getfield 44, 28, []), (28, .iload_n 1, 29, []), (29, .aload_n 0, 30, []), (30, .getfield 48, 33, []), (33, .iload_n 2, 34, []), (34, .invokevirtual 182, 37, []), (37, .if_icmp .lt 6, 40, [43]), (40, .bipush (-2), 42, []), (42, .ireturn, 43, []), (43, .iload_n 3, 44, []), (44, .ifCond .ne 13, 47, [57]), (47, .aload_n 0, 48, []), (48, .getfield 44, 51, []), (51, .getfield 185, 54, []), (54, .goto 10, 57, [64]), (57, .aload_n 0, 58, []), (58, .getfield 44, 61, []), (61, .getfield 188, 64, []), (64, .ireturn, 65, [])]
set_option maxRecDepth 100000 in
theorem tk_X6_leak : ∀ q ∈ tb_X6_leak, decode cX6_leak q.1 = .ok (q.2.1, q.2.2.1 - q.1) ∧ en_ck q = true := by decide +kernel
def tb_X6_meets : List en_I := [(0, .aload_n 0, 1, []), (1, .getfield 10, 4, []), (4, .invokevirtual 191, 7, []), (7, .ireturn, 8, [])]
set_option maxRecDepth 100000 in
theorem tk_X6_meets : ∀ q ∈ tb_X6_meets, decode cX6_meets q.1 = .ok (q.2.1, q.2.2.1 - q.1) ∧ en_ck q = true := by decide +kernel
def tb_X6_same : List en_I := [(0, .iload_n 1, 1, []), (1, .iload 4, 3, []), (3, .invokestatic 102, 6, []), (6, .ifCond .ne 5, 9, [11]), (9, .iconst 0, 10, []), (10, .ireturn, 11, []), (11, .aload_n 0, 12, []), (12, .getfield 28, 15, []), (15, .iload_n 1, 16, []), (16, .lload_n 2, 17, []), (17, .iload 4, 19, []), (19, .invokevirtual 105, 22, []), (22, .aload_n 0, 23, []), (23, .getfield 28, 26, []), (26, .invokevirtual 194, 29, []), (29, .ireturn, 30, [])]
set_option maxRecDepth 100000 in
theorem tk_X6_same : ∀ q ∈ tb_X6_same, decode cX6_same q.1 = .ok (q.2.1, q.2.2.1 - q.1) ∧ en_ck q = true := by decide +kernel
def tb_X6_told : List en_I := [(0, .iload_n 1, 1, []), (1, .tableswitch 72 0 4 #[35, 43, 51, 59, 67], 36, [73, 36, 44, 52, 60, 68]), (36, .aload_n 0, 37, []), (37, .getfield 10, 40, []), (40, .getfield 57, 43, []), (43, .ireturn, 44, []), (44, .aload_n 0, 45, []), (45, .getfield 19, 48, []), (48, .getfield 93, 51, []), (51, .ireturn, 52, []), (52, .aload_n 0, 53, []), (53, .getfield 19, 56, []), (56, .getfield 90, 59, []), (59, .ireturn, 60, []), (60, .aload_n 0, 61, []), (61, .getfield 10, 64, []), (64, .invokevirtual 112, 67, []), (67, .ireturn, 68, []), (68, .aload_n 0, 69, []), (69, .getfield 48, 72, []), (72, .ireturn, 73, []), (73, .bipush (-2), 75, []), (75, .ireturn, 76, [])]
set_option maxRecDepth 100000 in
theorem tk_X6_told : ∀ q ∈ tb_X6_told, decode cX6_told q.1 = .ok (q.2.1, q.2.2.1 - q.1) ∧ en_ck q = true := by decide +kernel
def tb_X6_isWithin : List en_I := [(0, .iload_n 0, 1, []), (1, .ifCond .lt 12, 4, [13]), (4, .iload_n 0, 5, []), (5, .iload_n 1, 6, []), (6, .if_icmp .ge 7, 9, [13]), (9, .iconst 1, 10, []), (10, .goto 4, 13, [14]), (13, .iconst 0, 14, []), (14, .ireturn, 15, [])]
set_option maxRecDepth 100000 in
theorem tk_X6_isWithin : ∀ q ∈ tb_X6_isWithin, decode cX6_isWithin q.1 = .ok (q.2.1, q.2.2.1 - q.1) ∧ en_ck q = true := by decide +kernel
def tb_X6_isWeight : List en_I := [(0, .iload_n 0, 1, []), (1, .sipush 1001, 4, []), (4, .invokestatic 52, 7, []), (7, .ireturn, 8, [])]
set_option maxRecDepth 100000 in
theorem tk_X6_isWeight : ∀ q ∈ tb_X6_isWeight, decode cX6_isWeight q.1 = .ok (q.2.1, q.2.2.1 - q.1) ∧ en_ck q = true := by decide +kernel
def tb_X6_isSplit : List en_I := [(0, .iload_n 0, 1, []), (1, .ifCond .lt 21, 4, [22]), (4, .iload_n 0, 5, []), (5, .iconst 3, 6, []), (6, .if_icmp .gt 16, 9, [22]), (9, .iload_n 1, 10, []), (10, .ldc 56, 12, []), (12, .invokestatic 52, 15, []), (15, .ifCond .eq 7, 18, [22]), (18, .iconst 1, 19, []), (19, .goto 4, 22, [23]), (22, .iconst 0, 23, []), (23, .ireturn, 24, [])]
set_option maxRecDepth 100000 in
theorem tk_X6_isSplit : ∀ q ∈ tb_X6_isSplit, decode cX6_isSplit q.1 = .ok (q.2.1, q.2.2.1 - q.1) ∧ en_ck q = true := by decide +kernel
def tb_X6_isFolds : List en_I := [(0, .iload_n 0, 1, []), (1, .iconst 2, 2, []), (2, .if_icmp .lt 12, 5, [14]), (5, .iload_n 0, 6, []), (6, .iconst 4, 7, []), (7, .if_icmp .gt 7, 10, [14]), (10, .iconst 1, 11, []), (11, .goto 4, 14, [15]), (14, .iconst 0, 15, []), (15, .ireturn, 16, [])]
set_option maxRecDepth 100000 in
theorem tk_X6_isFolds : ∀ q ∈ tb_X6_isFolds, decode cX6_isFolds q.1 = .ok (q.2.1, q.2.2.1 - q.1) ∧ en_ck q = true := by decide +kernel
def tb_X6_isLeakKind : List en_I := [(0, .iload_n 0, 1, []), (1, .ifCond .lt 12, 4, [13]), (4, .iload_n 0, 5, []), (5, .iconst 5, 6, []), (6, .if_icmp .gt 7, 9, [13]), (9, .iconst 1, 10, []), (10, .goto 4, 13, [14]), (13, .iconst 0, 14, []), (14, .ireturn, 15, [])]
set_option maxRecDepth 100000 in
theorem tk_X6_isLeakKind : ∀ q ∈ tb_X6_isLeakKind, decode cX6_isLeakKind q.1 = .ok (q.2.1, q.2.2.1 - q.1) ∧ en_ck q = true := by decide +kernel
def tb_X6_commonDivisor : List en_I := [(0, .iload_n 1, 1, []), (1, .istore_n 2, 2, []), (2, .iload_n 2, 3, []), (3, .iconst 1, 4, []), (4, .if_icmp .le 23, 7, [27]), (7, .iload_n 0, 8, []), (8, .iload_n 2, 9, []), (9, .irem, 10, []), (10, .ifCond .ne 11, 13, [21]), (13, .iload_n 1, 14, []), (14, .iload_n 2, 15, []), (15, .irem, 16, []), (16, .ifCond .ne 5, 19, [21]), (19, .iload_n 2, 20, []), (20, .ireturn, 21, []), (21, .iinc 2 (-1), 24, []), (24, .goto (-22), 27, [2]), (27, .iconst 1, 28, []), (28, .ireturn, 29, [])]
set_option maxRecDepth 100000 in
theorem tk_X6_commonDivisor : ∀ q ∈ tb_X6_commonDivisor, decode cX6_commonDivisor q.1 = .ok (q.2.1, q.2.2.1 - q.1) ∧ en_ck q = true := by decide +kernel
end
section
def tb_X7_init : List en_I := [(0, .aload_n 0, 1, []), (1, .invokespecial 1, 4, []), (4, .aload_n 0, 5, []), (5, .bipush 100, 7, []), (7, .newarray .int, 9, []), (9, .putfield 7, 12, []), (12, .aload_n 0, 13, []), (13, .bipush 100, 15, []), (15, .newarray .int, 17, []), (17, .putfield 13, 20, []), (20, .aload_n 0, 21, []), (21, .bipush 100, 23, []), (23, .newarray .int, 25, []), (25, .putfield 16, 28, []), (28, .aload_n 0, 29, []), (29, .sipush 300, 32, []), (32, .newarray .long, 34, []), (34, .putfield 19, 37, []), (37, .aload_n 0, 38, []), (38, .bipush 100, 40, []), (40, .newarray .long, 42, []), (42, .putfield 23, 45, []), (45, .aload_n 0, 46, []), (46, .bipush 100, 48, []), (48, .newarray .int, 50, []), (50, .putfield 26, 53, []), (53, .aload_n 0, 54, []), (54, .iconst 1, 55, []), (55, .putfield 29, 58, []), (58, .aload_n 0, 59, []), (59, .iconst 1, 60, []), (60, .putfield 33, 63, []), (63, .aload_n 0, 64, []), (64, .iconst 4, 65, []), (65, .newarray .int, 67, []), (67, .putfield 36, 70, []), (70, .aload_n 0, 71, []), (71, .bipush 50, 73, []), (73, .putfield 39, 76, []), (76, .aload_n 0, 77, []), (77, .sipush 800, 80, []), (80, .newarray .boolean, 82, []), (82, .putfield 42, 85, []), (85, .aload_n 0, 86, []), (86, .bipush 8, 88, []), (88, .newarray .int, 90, []), (90, .putfield 46, 93, []), (93, .aload_n 0, 94, []), (94, .iconst 4, 95, []), (95, .newarray .int, 97, []), (97, .putfield 49, 100, []), (100, .aload_n 0, 101, []), (101, .iconst 4, 102, []), (102, .newarray .boolean, 104, []), (104, .putfield 52, 107, []), (107, .aload_n 0, 108, []), (108, .bipush 100, 110, []), (110, .newarray .int, 112, []), (112, .putfield 55, 115, []), (115, .aload_n 0, 116, []), (116, .bipush 100, 118, []), (118, .newarray .int, 120, []), (120, .putfield 58, 123, []), (123, .aload_n 0, 124, []), (124, .bipush 30, 126, []), (126, .newarray .int, 128, []), (128, .putfield 61, 131, []), (131, .aload_n 0, 132, []), (132, .getfield 36, 135, []), (135, .iconst 0, 136, []), (136, .iconst 1, 137, []), (137, .iastore, 138, []), (138, .iconst 0, 139, []), (139, .istore_n 1, 140, []), (140, .iload_n 1, 141, []), (141, .bipush 8, 143, []), (143, .if_icmp .ge 16, 146, [159]), (146, .aload_n 0, 147, []), (147, .getfield 46, 150, []), (150, .iload_n 1, 151, []), (151, .iconst (-1), 152, []), (152, .iastore, 153, []), (153, .iinc 1 1, 156, []), (156, .goto (-16), 159, [140]), (159, .return_, 160, [])]
set_option maxRecDepth 100000 in
theorem tk_X7_init : ∀ q ∈ tb_X7_init, decode cX7_init q.1 = .ok (q.2.1, q.2.2.1 - q.1) ∧ en_ck q = true := by decide +kernel
def tb_X7_thrown : List en_I := [(0, .aload_n 0, 1, []), (1, .getfield 64, 4, []), (4, .ireturn, 5, [])]
set_option maxRecDepth 100000 in
theorem tk_X7_thrown : ∀ q ∈ tb_X7_thrown, decode cX7_thrown q.1 = .ok (q.2.1, q.2.2.1 - q.1) ∧ en_ck q = true := by decide +kernel
def tb_X7_in : List en_I := [(0, .iload_n 0, 1, []), (1, .iload_n 1, 2, []), (2, .if_icmp .lt 12, 5, [14]), (5, .iload_n 0, 6, []), (6, .iload_n 2, 7, []), (7, .if_icmp .gt 7, 10, [14]), (10, .iconst 1, 11, []), (11, .goto 4, 14, [15]), (14, .iconst 0, 15, []), (15, .ireturn, 16, [])]
set_option maxRecDepth 100000 in
theorem tk_X7_in : ∀ q ∈ tb_X7_in, decode cX7_in q.1 = .ok (q.2.1, q.2.2.1 - q.1) ∧ en_ck q = true := by decide +kernel
def tb_X7_isRow : List en_I := [(0, .iload_n 1, 1, []), (1, .iconst 0, 2, []), (2, .aload_n 0, 3, []), (3, .getfield 67, 6, []), (6, .iconst 1, 7, []), (7, .isub, 8, []), (8, .invokestatic 70, 11, []), (11, .ireturn, 12, [])]
set_option maxRecDepth 100000 in
theorem tk_X7_isRow : ∀ q ∈ tb_X7_isRow, decode cX7_isRow q.1 = .ok (q.2.1, q.2.2.1 - q.1) ∧ en_ck q = true := by decide +kernel
def tb_X7_row : List en_I := [(0, .aload_n 0, 1, []), (1, .iconst 0, 2, []), (2, .putfield 64, 5, []), (5, .iload_n 1, 6, []), (6, .iconst 0, 7, []), (7, .bipush 29, 9, []), (9, .invokestatic 70, 12, []), (12, .ifCond .eq 22, 15, [34]), (15, .iload_n 2, 16, []), (16, .iconst 0, 17, []), (17, .iconst 4, 18, []), (18, .invokestatic 70, 21, []), (21, .ifCond .eq 13, 24, [34]), (24, .iload_n 3, 25, []), (25, .iconst 0, 26, []), (26, .ldc 74, 28, []), (28, .invokestatic 70, 31, []), (31, .ifCond .ne 6, 34, [37]), (34, .bipush (-2), 36, []), (36, .ireturn, 37, []), (37, .aload_n 0, 38, []), (38, .getfield 67, 41, []), (41, .bipush 100, 43, []), (43, .if_icmp .ne 6, 46, [49]), (46, .bipush (-3), 48, []), (48, .ireturn, 49, []), (49, .aload_n 0, 50, []), (50, .getfield 7, 53, []), (53, .aload_n 0, 54, []), (54, .getfield 67, 57, []), (57, .iload_n 1, 58, []), (58, .iastore, 59, []), (59, .aload_n 0, 60, []), (60, .getfield 13, 63, []), (63, .aload_n 0, 64, []), (64, .getfield 67, 67, []), (67, .iload_n 2, 68, []), (68, .iastore, 69, []), (69, .aload_n 0, 70, []), (70, .getfield 16, 73, []), (73, .aload_n 0, 74, []), (74, .getfield 67, 77, []), (77, .iload_n 3, 78, []), (78, .iastore, 79, []), (79, .aload_n 0, 80, []), (80, .getfield 26, 83, []), (83, .aload_n 0, 84, []), (84, .getfield 67, 87, []), (87, .iconst (-1), 88, []), (88, .iastore, 89, []), (89, .aload_n 0, 90, []), (90, .dup, 91, []), (91, .getfield 67, 94, []), (94, .iconst 1, 95, []), (95, .iadd, 96, []), (96, .putfield 67, 99, []), (99, .aload_n 0, 100, []), (100, .getfield 67, 103, []), (103, .iconst 1, 104, []), (104, .isub, 105, []), (105, .ireturn, 106, [])]
set_option maxRecDepth 100000 in
theorem tk_X7_row : ∀ q ∈ tb_X7_row, decode cX7_row q.1 = .ok (q.2.1, q.2.2.1 - q.1) ∧ en_ck q = true := by decide +kernel
def tb_X7_column : List en_I := [(0, .aload_n 0, 1, []), (1, .iconst 0, 2, []), (2, .putfield 64, 5, []), (5, .aload_n 0, 6, []), (6, .iload_n 1, 7, []), (7, .invokevirtual 75, 10, []), (10, .ifCond .eq 12, 13, [22]), (13, .iload_n 2, 14, []), (14, .iconst 0, 15, []), (15, .iconst 2, 16, []), (16, .invokestatic 70, 19, []), (19, .ifCond .ne 6, 22, [25]), (22, .bipush (-2), 24, []), (24, .ireturn, 25, []), (25, .aload_n 0, 26, []), (26, .getfield 19, 29, []), (29, .iconst 3, 30, []), (30, .iload_n 1, 31, []), (31, .imul, 32, []), (32, .iload_n 2, 33, []), (33, .iadd, 34, []), (34, .lload_n 3, 35, []), (35, .lastore, 36, []), (36, .iconst 1, 37, []), (37, .ireturn, 38, [])]
set_option maxRecDepth 100000 in
theorem tk_X7_column : ∀ q ∈ tb_X7_column, decode cX7_column q.1 = .ok (q.2.1, q.2.2.1 - q.1) ∧ en_ck q = true := by decide +kernel
def tb_X7_bits : List en_I := [(0, .iconst 0, 1, []), (1, .istore_n 2, 2, []), (2, .iconst 0, 3, []), (3, .istore_n 3, 4, []), (4, .iload_n 3, 5, []), (5, .bipush 64, 7, []), (7, .if_icmp .ge 27, 10, [34]), (10, .iload_n 2, 11, []), (11, .lload_n 0, 12, []), (12, .iload_n 3, 13, []), (13, .lushr, 14, []), (14, .lconst 1, 15, []), (15, .land, 16, []), (16, .lconst 1, 17, []), (17, .lcmp, 18, []), (18, .ifCond .ne 7, 21, [25]), (21, .iconst 1, 22, []), (22, .goto 4, 25, [26]), (25, .iconst 0, 26, []), (26, .iadd, 27, []), (27, .istore_n 2, 28, []), (28, .iinc 3 1, 31, []), (31, .goto (-27), 34, [4]), (34, .iload_n 2, 35, []), (35, .ireturn, 36, [])]
set_option maxRecDepth 100000 in
theorem tk_X7_bits : ∀ q ∈ tb_X7_bits, decode cX7_bits q.1 = .ok (q.2.1, q.2.2.1 - q.1) ∧ en_ck q = true := by decide +kernel
def tb_X7_word : List en_I := [(0, .aload_n 0, 1, []), (1, .iconst 0, 2, []), (2, .putfield 64, 5, []), (5, .aload_n 0, 6, []), (6, .iload_n 1, 7, []), (7, .invokevirtual 75, 10, []), (10, .ifCond .eq 13, 13, [23]), (13, .iload_n 2, 14, []), (14, .iconst 0, 15, []), (15, .bipush 63, 17, []), (17, .invokestatic 70, 20, []), (20, .ifCond .ne 6, 23, [26]), (23, .bipush (-2), 25, []), (25, .ireturn, 26, []), (26, .lconst 1, 27, []), (27, .iload_n 2, 28, []), (28, .lshl, 29, []), (29, .lstore 4, 31, []), (31, .aload_n 0, 32, []), (32, .getfield 23, 35, []), (35, .iload_n 1, 36, []), (36, .iload_n 3, 37, []), (37, .ifCond .eq 15, 40, [52]), (40, .aload_n 0, 41, []), (41, .getfield 23, 44, []), (44, .iload_n 1, 45, []), (45, .laload, 46, []), (46, .lload 4, 48, []), (48, .lor, 49, []), (49, .goto 16, 52, [65]), (52, .aload_n 0, 53, []), (53, .getfield 23, 56, []), (56, .iload_n 1, 57, []), (57, .laload, 58, []), (58, .lload 4, 60, []), (60, .ldc2_w 79, 63, []), (63, .lxor, 64, []), (64, .land, 65, []), (65, .lastore, 66, []), (66, .aload_n 0, 67, []), (67, .getfield 23, 70, []), (70, .iload_n 1, 71, []), (71, .laload, 72, []), (72, .invokestatic 81, 75, []), (75, .ireturn, 76, [])]
set_option maxRecDepth 100000 in
theorem tk_X7_word : ∀ q ∈ tb_X7_word, decode cX7_word q.1 = .ok (q.2.1, q.2.2.1 - q.1) ∧ en_ck q = true := by decide +kernel
def tb_X7_parts : List en_I := [(0, .aload_n 0, 1, []), (1, .iconst 0, 2, []), (2, .putfield 64, 5, []), (5, .iload_n 1, 6, []), (6, .iconst 1, 7, []), (7, .iconst 4, 8, []), (8, .invokestatic 70, 11, []), (11, .ifCond .ne 6, 14, [17]), (14, .bipush (-2), 16, []), (16, .ireturn, 17, []), (17, .iconst 0, 18, []), (18, .istore 6, 20, []), (20, .iconst 1, 21, []), (21, .istore 7, 23, []), (23, .iconst 0, 24, []), (24, .istore 8, 26, []), (26, .iload 8, 28, []), (28, .iload_n 1, 29, []), (29, .if_icmp .ge 83, 32, [112]), (32, .iload 8, 34, []), (34, .ifCond .ne 7, 37, [41]), (37, .iload_n 2, 38, []), (38, .goto 26, 41, [64]), (41, .iload 8, 43, []), (43, .iconst 1, 44, []), (44, .if_icmp .ne 7, 47, [51]), (47, .iload_n 3, 48, []), (48, .goto 16, 51, [64]), (51, .iload 8, 53, []), (53, .iconst 2, 54, []), (54, .if_icmp .ne 8, 57, [62]), (57, .iload 4, 59, []), (59, .goto 5, 62, [64]), (62, .iload 5, 64, []), (64, .istore 9, 66, []), (66, .iload 7, 68, []), (68, .ifCond .eq 19, 71, [87]), (71, .iload 9, 73, []), (73, .iconst 0, 74, []), (74, .sipush 1000, 77, []), (77, .invokestatic 70, 80, []), (80, .ifCond .eq 7, 83, [87]), (83, .iconst 1, 84, []), (84, .goto 4, 87, [88]), (87, .iconst 0, 88, []), (88, .istore 7, 90, []), (90, .iload 6, 92, []), (92, .iload 7, 94, []), (94, .ifCond .eq 8, 97, [102]), (97, .iload 9, 99, []), (99, .goto 4, 102, [103]), (102, .iconst 0, 103, []), (103, .iadd, 104, []), (104, .istore 6, 106, []), (106, .iinc 8 1, 109, []), (109, .goto (-83), 112, [26]), (112, .iload 7, 114, []), (114, .ifCond .eq 8, 117, [122]), (117, .iload 6, 119, []), (119, .ifCond .ne 6, 122, [125]), (122, .bipush (-2), 124, []), (124, .ireturn, 125, []), (125, .aload_n 0, 126, []), (126, .iload_n 1, 127, []), (127, .putfield 29, 130, []), (130, .aload_n 0, 131, []), (131, .iload 6, 133, []), (133, .putfield 33, 136, []), (136, .iconst 0, 137, []), (137, .istore 8, 139, []), (139, .iload 8, 141, []), (141, .iconst 4, 142, []), (142, .if_icmp .ge 58, 145, [200]), (145, .aload_n 0, 146, []), (146, .getfield 36, 149, []), (149, .iload 8, 151, []), (151, .iload 8, 153, []), (153, .iload_n 1, 154, []), (154, .if_icmp .ge 38, 157, [192]), (157, .iload 8, 159, []), (159, .ifCond .ne 7, 162, [166]), (162, .iload_n 2, 163, []), (163, .goto 30, 166, [193]), (166, .iload 8, 168, []), (168, .iconst 1, 169, []), (169, .if_icmp .ne 7, 172, [176]), (172, .iload_n 3, 173, []), (173, .goto 20, 176, [193]), (176, .iload 8, 178, []), (178, .iconst 2, 179, []), (179, .if_icmp .ne 8, 182, [187]), (182, .iload 4, 184, []), (184, .goto 9, 187, [193]), (187, .iload 5, 189, []), (189, .goto 4, 192, [193]), (192, .iconst 0, 193, []), (193, .iastore, 194, []), (194, .iinc 8 1, 197, []), (197, .goto (-58), 200, [139]), (200, .iload 6, 202, []), (202, .ireturn, 203, [])]
set_option maxRecDepth 100000 in
theorem tk_X7_parts : ∀ q ∈ tb_X7_parts, decode cX7_parts q.1 = .ok (q.2.1, q.2.2.1 - q.1) ∧ en_ck q = true := by decide +kernel
def tb_X7_quotasOf : List en_I := [(0, .iload_n 1, 1, []), (1, .istore_n 2, 2, []), (2, .iconst 0, 3, []), (3, .istore_n 3, 4, []), (4, .iload_n 3, 5, []), (5, .iconst 4, 6, []), (6, .if_icmp .ge 56, 9, [62]), (9, .aload_n 0, 10, []), (10, .getfield 49, 13, []), (13, .iload_n 3, 14, []), (14, .iload_n 3, 15, []), (15, .aload_n 0, 16, []), (16, .getfield 29, 19, []), (19, .if_icmp .ge 19, 22, [38]), (22, .iload_n 1, 23, []), (23, .aload_n 0, 24, []), (24, .getfield 36, 27, []), (27, .iload_n 3, 28, []), (28, .iaload, 29, []), (29, .imul, 30, []), (30, .aload_n 0, 31, []), (31, .getfield 33, 34, []), (34, .idiv, 35, []), (35, .goto 4, 38, [39]), (38, .iconst 0, 39, []), (39, .iastore, 40, []), (40, .iload_n 2, 41, []), (41, .aload_n 0, 42, []), (42, .getfield 49, 45, []), (45, .iload_n 3, 46, []), (46, .iaload, 47, []), (47, .isub, 48, []), (48, .istore_n 2, 49, []), (49, .aload_n 0, 50, []), (50, .getfield 52, 53, []), (53, .iload_n 3, 54, []), (54, .iconst 0, 55, []), (55, .bastore, 56, []), (56, .iinc 3 1, 59, []), (59, .goto (-55), 62, [4]), (62, .iload_n 2, 63, []), (63, .ifCond .le 94, 66, [157]), (66, .iconst (-1), 67, []), (67, .istore_n 3, 68, []), (68, .iconst 0, 69, []), (69, .istore 4, 71, []), (71, .iload 4, 73, []), (73, .aload_n 0, 74, []), (74, .getfield 29, 77, []), (77, .if_icmp .ge 57, 80, [134]), (80, .aload_n 0, 81, []), (81, .getfield 52, 84, []), (84, .iload 4, 86, []), (86, .baload, 87, []), (87, .ifCond .ne 41, 90, [128]), (90, .iload_n 3, 91, []), (91, .iconst (-1), 92, []), (92, .if_icmp .eq 33, 95, [125]), (95, .iload_n 1, 96, []), (96, .aload_n 0, 97, []), (97, .getfield 36, 100, []), (100, .iload 4, 102, []), (102, .iaload, 103, []), (103, .imul, 104, []), (104, .aload_n 0, 105, []), (105, .getfield 33, 108, []), (108, .irem, 109, []), (109, .iload_n 1, 110, []), (110, .aload_n 0, 111, []), (111, .getfield 36, 114, []), (114, .iload_n 3, 115, []), (115, .iaload, 116, []), (116, .imul, 117, []), (117, .aload_n 0, 118, []), (118, .getfield 33, 121, []), (121, .irem, 122, []), (122, .if_icmp .le 6, 125, [128]), (125, .iload 4, 127, []), (127, .istore_n 3, 128, []), (128, .iinc 4 1, 131, []), (131, .goto (-60), 134, [71]), (134, .aload_n 0, 135, []), (135, .getfield 52, 138, []), (138, .iload_n 3, 139, []), (139, .iconst 1, 140, []), (140, .bastore, 141, []), (141, .aload_n 0, 142, []), (142, .getfield 49, 145, []), (145, .iload_n 3, 146, []), (146, .dup2, 147, []), (147, .iaload, 148, []), (148, .iconst 1, 149, []), (149, .iadd, 150, []), (150, .iastore, 151, []), (151, .iinc 2 (-1), 154, []), (154, .goto (-92), 157, [62]), (157, .return_, 158, [])]
set_option maxRecDepth 100000 in
theorem tk_X7_quotasOf : ∀ q ∈ tb_X7_quotasOf, decode cX7_quotasOf q.1 = .ok (q.2.1, q.2.2.1 - q.1) ∧ en_ck q = true := by decide +kernel
def tb_X7_quota : List en_I := [(0, .aload_n 0, 1, []), (1, .iconst 0, 2, []), (2, .putfield 64, 5, []), (5, .iload_n 1, 6, []), (6, .iconst 0, 7, []), (7, .aload_n 0, 8, []), (8, .getfield 29, 11, []), (11, .iconst 1, 12, []), (12, .isub, 13, []), (13, .invokestatic 70, 16, []), (16, .ifCond .eq 13, 19, [29]), (19, .iload_n 2, 20, []), (20, .iconst 0, 21, []), (21, .ldc 74, 23, []), (23, .invokestatic 70, 26, []), (26, .ifCond .ne 6, 29, [32]), (29, .bipush (-2), 31, []), (31, .ireturn, 32, []), (32, .aload_n 0, 33, []), (33, .iload_n 2, 34, []), (34, .invokevirtual 85, 37, []), (37, .aload_n 0, 38, []), (38, .getfield 49, 41, []), (41, .iload_n 1, 42, []), (42, .iaload, 43, []), (43, .ireturn, 44, [])]
set_option maxRecDepth 100000 in
theorem tk_X7_quota : ∀ q ∈ tb_X7_quota, decode cX7_quota q.1 = .ok (q.2.1, q.2.2.1 - q.1) ∧ en_ck q = true := by decide +kernel
def tb_X7_draw : List en_I := [(0, .aload_n 0, 1, []), (1, .aload_n 0, 2, []), (2, .getfield 89, 5, []), (5, .ldc2_w 93, 8, []), (8, .lmul, 9, []), (9, .ldc2_w 95, 12, []), (12, .ladd, 13, []), (13, .putfield 89, 16, []), (16, .aload_n 0, 17, []), (17, .getfield 89, 20, []), (20, .bipush 33, 22, []), (22, .lushr, 23, []), (23, .iload_n 1, 24, []), (24, .i2l, 25, []), (25, .lrem, 26, []), (26, .l2i, 27, []), (27, .ireturn, 28, [])]
set_option maxRecDepth 100000 in
theorem tk_X7_draw : ∀ q ∈ tb_X7_draw, decode cX7_draw q.1 = .ok (q.2.1, q.2.2.1 - q.1) ∧ en_ck q = true := by decide +kernel
def tb_X7_shuffle : List en_I := [(0, .aload_n 0, 1, []), (1, .getfield 97, 4, []), (4, .iconst 1, 5, []), (5, .isub, 6, []), (6, .istore_n 1, 7, []), (7, .iload_n 1, 8, []), (8, .ifCond .le 43, 11, [51]), (11, .aload_n 0, 12, []), (12, .iload_n 1, 13, []), (13, .iconst 1, 14, []), (14, .iadd, 15, []), (15, .invokevirtual 100, 18, []), (18, .istore_n 2, 19, []), (19, .aload_n 0, 20, []), (20, .getfield 58, 23, []), (23, .iload_n 1, 24, []), (24, .iaload, 25, []), (25, .istore_n 3, 26, []), (26, .aload_n 0, 27, []), (27, .getfield 58, 30, []), (30, .iload_n 1, 31, []), (31, .aload_n 0, 32, []), (32, .getfield 58, 35, []), (35, .iload_n 2, 36, []), (36, .iaload, 37, []), (37, .iastore, 38, []), (38, .aload_n 0, 39, []), (39, .getfield 58, 42, []), (42, .iload_n 2, 43, []), (43, .iload_n 3, 44, []), (44, .iastore, 45, []), (45, .iinc 1 (-1), 48, []), (48, .goto (-41), 51, [7]), (51, .return_, 52, [])]
set_option maxRecDepth 100000 in
theorem tk_X7_shuffle : ∀ q ∈ tb_X7_shuffle, decode cX7_shuffle q.1 = .ok (q.2.1, q.2.2.1 - q.1) ∧ en_ck q = true := by decide +kernel
def tb_X7_give : List en_I := [(0, .aload_n 0, 1, []), (1, .aload_n 0, 2, []), (2, .getfield 97, 5, []), (5, .invokevirtual 85, 8, []), (8, .iconst 0, 9, []), (9, .istore_n 1, 10, []), (10, .iconst 0, 11, []), (11, .istore_n 2, 12, []), (12, .iload_n 2, 13, []), (13, .aload_n 0, 14, []), (14, .getfield 29, 17, []), (17, .if_icmp .ge 42, 20, [59]), (20, .iconst 0, 21, []), (21, .istore_n 3, 22, []), (22, .iload_n 3, 23, []), (23, .aload_n 0, 24, []), (24, .getfield 49, 27, []), (27, .iload_n 2, 28, []), (28, .iaload, 29, []), (29, .if_icmp .ge 24, 32, [53]), (32, .aload_n 0, 33, []), (33, .getfield 55, 36, []), (36, .aload_n 0, 37, []), (37, .getfield 58, 40, []), (40, .iload_n 1, 41, []), (41, .iaload, 42, []), (42, .iload_n 2, 43, []), (43, .iastore, 44, []), (44, .iinc 1 1, 47, []), (47, .iinc 3 1, 50, []), (50, .goto (-28), 53, [22]), (53, .iinc 2 1, 56, []), (56, .goto (-44), 59, [12]), (59, .return_, 60, [])]
set_option maxRecDepth 100000 in
theorem tk_X7_give : ∀ q ∈ tb_X7_give, decode cX7_give q.1 = .ok (q.2.1, q.2.2.1 - q.1) ∧ en_ck q = true := by decide +kernel
def tb_X7_plain : List en_I := [(0, .aload_n 0, 1, []), (1, .aload_n 0, 2, []), (2, .getfield 67, 5, []), (5, .putfield 97, 8, []), (8, .iconst 0, 9, []), (9, .istore_n 1, 10, []), (10, .iload_n 1, 11, []), (11, .aload_n 0, 12, []), (12, .getfield 67, 15, []), (15, .if_icmp .ge 16, 18, [31]), (18, .aload_n 0, 19, []), (19, .getfield 58, 22, []), (22, .iload_n 1, 23, []), (23, .iload_n 1, 24, []), (24, .iastore, 25, []), (25, .iinc 1 1, 28, []), (28, .goto (-18), 31, [10]), (31, .aload_n 0, 32, []), (32, .invokevirtual 104, 35, []), (35, .aload_n 0, 36, []), (36, .invokevirtual 107, 39, []), (39, .return_, 40, [])]
set_option maxRecDepth 100000 in
theorem tk_X7_plain : ∀ q ∈ tb_X7_plain, decode cX7_plain q.1 = .ok (q.2.1, q.2.2.1 - q.1) ∧ en_ck q = true := by decide +kernel
def tb_X7_byGroups : List en_I := [(0, .aload_n 0, 1, []), (1, .iconst 0, 2, []), (2, .putfield 97, 5, []), (5, .iconst 0, 6, []), (6, .istore_n 1, 7, []), (7, .iload_n 1, 8, []), (8, .bipush 30, 10, []), (10, .if_icmp .ge 85, 13, [95]), (13, .aload_n 0, 14, []), (14, .getfield 61, 17, []), (17, .iload_n 1, 18, []), (18, .iconst 0, 19, []), (19, .iastore, 20, []), (20, .iconst 0, 21, []), (21, .istore_n 2, 22, []), (22, .iload_n 2, 23, []), (23, .aload_n 0, 24, []), (24, .getfield 67, 27, []), (27, .if_icmp .ge 33, 30, [60]), (30, .aload_n 0, 31, []), (31, .getfield 61, 34, []), (34, .iload_n 1, 35, []), (35, .dup2, 36, []), (36, .iaload, 37, []), (37, .aload_n 0, 38, []), (38, .getfield 7, 41, []), (41, .iload_n 2, 42, []), (42, .iaload, 43, []), (43, .iload_n 1, 44, []), (44, .if_icmp .ne 7, 47, [51]), (47, .iconst 1, 48, []), (48, .goto 4, 51, [52]), (51, .iconst 0, 52, []), (52, .iadd, 53, []), (53, .iastore, 54, []), (54, .iinc 2 1, 57, []), (57, .goto (-35), 60, [22]), (60, .aload_n 0, 61, []), (61, .getfield 61, 64, []), (64, .iload_n 1, 65, []), (65, .iaload, 66, []), (66, .ifCond .le 23, 69, [89]), (69, .aload_n 0, 70, []), (70, .getfield 58, 73, []), (73, .aload_n 0, 74, []), (74, .getfield 97, 77, []), (77, .iload_n 1, 78, []), (78, .iastore, 79, []), (79, .aload_n 0, 80, []), (80, .dup, 81, []), (81, .getfield 97, 84, []), (84, .iconst 1, 85, []), (85, .iadd, 86, []), (86, .putfield 97, 89, []), (89, .iinc 1 1, 92, []), (92, .goto (-85), 95, [7]), (95, .aload_n 0, 96, []), (96, .invokevirtual 104, 99, []), (99, .iconst 0, 100, []), (100, .istore_n 1, 101, []), (101, .iload_n 1, 102, []), (102, .iconst 4, 103, []), (103, .if_icmp .ge 16, 106, [119]), (106, .aload_n 0, 107, []), (107, .getfield 49, 110, []), (110, .iload_n 1, 111, []), (111, .iconst 0, 112, []), (112, .iastore, 113, []), (113, .iinc 1 1, 116, []), (116, .goto (-15), 119, [101]), (119, .iconst 0, 120, []), (120, .istore_n 1, 121, []), (121, .iload_n 1, 122, []), (122, .aload_n 0, 123, []), (123, .getfield 97, 126, []), (126, .if_icmp .ge 149, 129, [275]), (129, .iconst 0, 130, []), (130, .istore_n 2, 131, []), (131, .iconst 1, 132, []), (132, .istore_n 3, 133, []), (133, .iload_n 3, 134, []), (134, .aload_n 0, 135, []), (135, .getfield 29, 138, []), (138, .if_icmp .ge 64, 141, [202]), (141, .aload_n 0, 142, []), (142, .getfield 36, 145, []), (145, .iload_n 3, 146, []), (146, .iaload, 147, []), (147, .aload_n 0, 148, []), (148, .getfield 67, 151, []), (151, .imul, 152, []), (152, .aload_n 0, 153, []), (153, .getfield 33, 156, []), (156, .aload_n 0, 157, []), (157, .getfield 49, 160, []), (160, .iload_n 3, 161, []), (161, .iaload, 162, []), (162, .imul, 163, []), (163, .isub, 164, []), (164, .aload_n 0, 165, []), (165, .getfield 36, 168, []), (168, .iload_n 2, 169, []), (169, .iaload, 170, []), (170, .aload_n 0, 171, []), (171, .getfield 67, 174, []), (174, .imul, 175, []), (175, .aload_n 0, 176, []), (176, .getfield 33, 179, []), (179, .aload_n 0, 180, []), (180, .getfield 49, 183, []), (183, .iload_n 2, 184, []), (184, .iaload, 185, []), (185, .imul, 186, []), (186, .isub, 187, []), (187, .if_icmp .le 7, 190, [194]), (190, .iload_n 3, 191, []), (191, .goto 4, 194, [195]), (194, .iload_n 2, 195, []), (195, .istore_n 2, 196, []), (196, .iinc 3 1, 199, []), (199, .goto (-66), 202, [133]), (202, .iconst 0, 203, []), (203, .istore_n 3, 204, []), (204, .iload_n 3, 205, []), (205, .aload_n 0, 206, []), (206, .getfield 67, 209, []), (209, .if_icmp .ge 40, 212, [249]), (212, .aload_n 0, 213, []), (213, .getfield 55, 216, []), (216, .iload_n 3, 217, []), (217, .aload_n 0, 218, []), (218, .getfield 7, 221, []), (221, .iload_n 3, 222, []), (222, .iaload, 223, []), (223, .aload_n 0, 224, []), (224, .getfield 58, 227, []), (227, .iload_n 1, 228, []), (228, .iaload, 229, []), (229, .if_icmp .ne 7, 232, [236]), (232, .iload_n 2, 233, []), (233, .goto 9, 236, [242]), (236, .aload_n 0, 237, []), (237, .getfield 55, 240, []), (240, .iload_n 3, 241, []), (241, .iaload, 242, []), (242, .iastore, 243, []), (243, .iinc 3 1, 246, []), (246, .goto (-42), 249, [204]), (249, .aload_n 0, 250, []), (250, .getfield 49, 253, []), (253, .iload_n 2, 254, []), (254, .dup2, 255, []), (255, .iaload, 256, []), (256, .aload_n 0, 257, []), (257, .getfield 61, 260, []), (260, .aload_n 0, 261, []), (261, .getfield 58, 264, []), (264, .iload_n 1, 265, []), (265, .iaload, 266, []), (266, .iaload, 267, []), (267, .iadd, 268, []), (268, .iastore, 269, []), (269, .iinc 1 1, 272, []), (272, .goto (-151), 275, [121]), (275, .return_, 276, [])]
set_option maxRecDepth 100000 in
theorem tk_X7_byGroups : ∀ q ∈ tb_X7_byGroups, decode cX7_byGroups q.1 = .ok (q.2.1, q.2.2.1 - q.1) ∧ en_ck q = true := by decide +kernel
def tb_X7_byTimes : List en_I := [(0, .aload_n 0, 1, []), (1, .iconst 0, 2, []), (2, .putfield 97, 5, []), (5, .iconst 0, 6, []), (6, .istore_n 2, 7, []), (7, .iload_n 2, 8, []), (8, .aload_n 0, 9, []), (9, .getfield 67, 12, []), (12, .if_icmp .ge 77, 15, [89]), (15, .aload_n 0, 16, []), (16, .getfield 97, 19, []), (19, .istore_n 3, 20, []), (20, .iload_n 3, 21, []), (21, .ifCond .le 45, 24, [66]), (24, .aload_n 0, 25, []), (25, .getfield 16, 28, []), (28, .aload_n 0, 29, []), (29, .getfield 58, 32, []), (32, .iload_n 3, 33, []), (33, .iconst 1, 34, []), (34, .isub, 35, []), (35, .iaload, 36, []), (36, .iaload, 37, []), (37, .aload_n 0, 38, []), (38, .getfield 16, 41, []), (41, .iload_n 2, 42, []), (42, .iaload, 43, []), (43, .if_icmp .le 23, 46, [66]), (46, .aload_n 0, 47, []), (47, .getfield 58, 50, []), (50, .iload_n 3, 51, []), (51, .aload_n 0, 52, []), (52, .getfield 58, 55, []), (55, .iload_n 3, 56, []), (56, .iconst 1, 57, []), (57, .isub, 58, []), (58, .iaload, 59, []), (59, .iastore, 60, []), (60, .iinc 3 (-1), 63, []), (63, .goto (-43), 66, [20]), (66, .aload_n 0, 67, []), (67, .getfield 58, 70, []), (70, .iload_n 3, 71, []), (71, .iload_n 2, 72, []), (72, .iastore, 73, []), (73, .aload_n 0, 74, []), (74, .dup, 75, []), (75, .getfield 97, 78, []), (78, .iconst 1, 79, []), (79, .iadd, 80, []), (80, .putfield 97, 83, []), (83, .iinc 2 1, 86, []), (86, .goto (-79), 89, [7]), (89, .aload_n 0, 90, []), (90, .invokevirtual 107, 93, []), (93, .iconst 1, 94, []), (94, .istore_n 2, 95, []), (95, .iload_n 2, 96, []), (96, .aload_n 0, 97, []), (97, .getfield 97, 100, []), (100, .if_icmp .ge 60, 103, [160]), (103, .aload_n 0, 104, []), (104, .getfield 16, 107, []), (107, .aload_n 0, 108, []), (108, .getfield 58, 111, []), (111, .iload_n 2, 112, []), (112, .iaload, 113, []), (113, .iaload, 114, []), (114, .aload_n 0, 115, []), (115, .getfield 16, 118, []), (118, .aload_n 0, 119, []), (119, .getfield 58, 122, []), (122, .iload_n 2, 123, []), (123, .iconst 1, 124, []), (124, .isub, 125, []), (125, .iaload, 126, []), (126, .iaload, 127, []), (127, .if_icmp .ne 27, 130, [154]), (130, .aload_n 0, 131, []), (131, .getfield 55, 134, []), (134, .aload_n 0, 135, []), (135, .getfield 58, 138, []), (138, .iload_n 2, 139, []), (139, .iaload, 140, []), (140, .aload_n 0, 141, []), (141, .getfield 55, 144, []), (144, .aload_n 0, 145, []), (145, .getfield 58, 148, []), (148, .iload_n 2, 149, []), (149, .iconst 1, 150, []), (150, .isub, 151, []), (151, .iaload, 152, []), (152, .iaload, 153, []), (153, .iastore, 154, []), (154, .iinc 2 1, 157, []), (157, .goto (-62), 160, [95]), (160, .iconst 0, 161, []), (161, .istore_n 2, 162, []), (162, .iload_n 2, 163, []), (163, .iconst 4, 164, []), (164, .if_icmp .ge 16, 167, [180]), (167, .aload_n 0, 168, []), (168, .getfield 49, 171, []), (171, .iload_n 2, 172, []), (172, .iconst (-1), 173, []), (173, .iastore, 174, []), (174, .iinc 2 1, 177, []), (177, .goto (-15), 180, [162]), (180, .iconst 0, 181, []), (181, .istore_n 2, 182, []), (182, .iload_n 2, 183, []), (183, .aload_n 0, 184, []), (184, .getfield 67, 187, []), (187, .if_icmp .ge 65, 190, [252]), (190, .aload_n 0, 191, []), (191, .getfield 55, 194, []), (194, .iload_n 2, 195, []), (195, .iaload, 196, []), (196, .iconst 1, 197, []), (197, .iadd, 198, []), (198, .istore_n 3, 199, []), (199, .iload_n 3, 200, []), (200, .iconst 4, 201, []), (201, .if_icmp .ge 45, 204, [246]), (204, .aload_n 0, 205, []), (205, .getfield 49, 208, []), (208, .iload_n 3, 209, []), (209, .aload_n 0, 210, []), (210, .getfield 16, 213, []), (213, .iload_n 2, 214, []), (214, .iaload, 215, []), (215, .aload_n 0, 216, []), (216, .getfield 49, 219, []), (219, .iload_n 3, 220, []), (220, .iaload, 221, []), (221, .if_icmp .le 12, 224, [233]), (224, .aload_n 0, 225, []), (225, .getfield 16, 228, []), (228, .iload_n 2, 229, []), (229, .iaload, 230, []), (230, .goto 9, 233, [239]), (233, .aload_n 0, 234, []), (234, .getfield 49, 237, []), (237, .iload_n 3, 238, []), (238, .iaload, 239, []), (239, .iastore, 240, []), (240, .iinc 3 1, 243, []), (243, .goto (-44), 246, [199]), (246, .iinc 2 1, 249, []), (249, .goto (-67), 252, [182]), (252, .iconst 0, 253, []), (253, .istore_n 2, 254, []), (254, .iload_n 2, 255, []), (255, .aload_n 0, 256, []), (256, .getfield 67, 259, []), (259, .if_icmp .ge 53, 262, [312]), (262, .aload_n 0, 263, []), (263, .getfield 49, 266, []), (266, .aload_n 0, 267, []), (267, .getfield 55, 270, []), (270, .iload_n 2, 271, []), (271, .iaload, 272, []), (272, .iaload, 273, []), (273, .iconst (-1), 274, []), (274, .if_icmp .eq 32, 277, [306]), (277, .aload_n 0, 278, []), (278, .getfield 16, 281, []), (281, .iload_n 2, 282, []), (282, .iaload, 283, []), (283, .iload_n 1, 284, []), (284, .aload_n 0, 285, []), (285, .getfield 49, 288, []), (288, .aload_n 0, 289, []), (289, .getfield 55, 292, []), (292, .iload_n 2, 293, []), (293, .iaload, 294, []), (294, .iaload, 295, []), (295, .iadd, 296, []), (296, .if_icmp .ge 10, 299, [306]), (299, .aload_n 0, 300, []), (300, .getfield 55, 303, []), (303, .iload_n 2, 304, []), (304, .iconst (-1), 305, []), (305, .iastore, 306, []), (306, .iinc 2 1, 309, []), (309, .goto (-55), 312, [254]), (312, .return_, 313, [])]
set_option maxRecDepth 100000 in
theorem tk_X7_byTimes : ∀ q ∈ tb_X7_byTimes, decode cX7_byTimes q.1 = .ok (q.2.1, q.2.2.1 - q.1) ∧ en_ck q = true := by decide +kernel
def tb_X7_ofLabel : List en_I := [(0, .aload_n 0, 1, []), (1, .iconst 0, 2, []), (2, .putfield 97, 5, []), (5, .iconst 0, 6, []), (6, .istore_n 3, 7, []), (7, .iload_n 3, 8, []), (8, .aload_n 0, 9, []), (9, .getfield 67, 12, []), (12, .if_icmp .ge 53, 15, [65]), (15, .aload_n 0, 16, []), (16, .getfield 13, 19, []), (19, .iload_n 3, 20, []), (20, .iaload, 21, []), (21, .iload_n 1, 22, []), (22, .if_icmp .ne 37, 25, [59]), (25, .iload_n 2, 26, []), (26, .ifCond .eq 13, 29, [39]), (29, .aload_n 0, 30, []), (30, .getfield 55, 33, []), (33, .iload_n 3, 34, []), (34, .iaload, 35, []), (35, .iconst (-1), 36, []), (36, .if_icmp .eq 23, 39, [59]), (39, .aload_n 0, 40, []), (40, .getfield 58, 43, []), (43, .aload_n 0, 44, []), (44, .getfield 97, 47, []), (47, .iload_n 3, 48, []), (48, .iastore, 49, []), (49, .aload_n 0, 50, []), (50, .dup, 51, []), (51, .getfield 97, 54, []), (54, .iconst 1, 55, []), (55, .iadd, 56, []), (56, .putfield 97, 59, []), (59, .iinc 3 1, 62, []), (62, .goto (-55), 65, [7]), (65, .return_, 66, [])]
set_option maxRecDepth 100000 in
theorem tk_X7_ofLabel : ∀ q ∈ tb_X7_ofLabel, decode cX7_ofLabel q.1 = .ok (q.2.1, q.2.2.1 - q.1) ∧ en_ck q = true := by decide +kernel
def tb_X7_deal : List en_I := [(0, .iload_n 1, 1, []), (1, .iconst 0, 2, []), (2, .iconst 3, 3, []), (3, .invokestatic 70, 6, []), (6, .ifCond .eq 14, 9, [20]), (9, .iload 4, 11, []), (11, .iconst 0, 12, []), (12, .ldc 74, 14, []), (14, .invokestatic 70, 17, []), (17, .ifCond .ne 5, 20, [22]), (20, .iconst 0, 21, []), (21, .ireturn, 22, []), (22, .aload_n 0, 23, []), (23, .lload_n 2, 24, []), (24, .putfield 89, 27, []), (27, .iload_n 1, 28, []), (28, .ifCond .ne 10, 31, [38]), (31, .aload_n 0, 32, []), (32, .invokevirtual 110, 35, []), (35, .goto 59, 38, [94]), (38, .iload_n 1, 39, []), (39, .iconst 1, 40, []), (40, .if_icmp .ne 10, 43, [50]), (43, .aload_n 0, 44, []), (44, .invokevirtual 113, 47, []), (47, .goto 47, 50, [94]), (50, .iload_n 1, 51, []), (51, .iconst 2, 52, []), (52, .if_icmp .ne 12, 55, [64]), (55, .aload_n 0, 56, []), (56, .iload 4, 58, []), (58, .invokevirtual 116, 61, []), (61, .goto 33, 64, [94]), (64, .iconst 0, 65, []), (65, .istore 5, 67, []), (67, .iload 5, 69, []), (69, .iconst 5, 70, []), (70, .if_icmp .ge 24, 73, [94]), (73, .aload_n 0, 74, []), (74, .iload 5, 76, []), (76, .iconst 0, 77, []), (77, .invokevirtual 119, 80, []), (80, .aload_n 0, 81, []), (81, .invokevirtual 104, 84, []), (84, .aload_n 0, 85, []), (85, .invokevirtual 107, 88, []), (88, .iinc 5 1, 91, []), (91, .goto (-24), 94, [67]), (94, .iconst 1, 95, []), (95, .ireturn, 96, [])]
set_option maxRecDepth 100000 in
theorem tk_X7_deal : ∀ q ∈ tb_X7_deal, decode cX7_deal q.1 = .ok (q.2.1, q.2.2.1 - q.1) ∧ en_ck q = true := by decide +kernel
def tb_X7_take : List en_I := [(0, .iconst 0, 1, []), (1, .istore_n 1, 2, []), (2, .iconst 0, 3, []), (3, .istore_n 2, 4, []), (4, .iload_n 2, 5, []), (5, .aload_n 0, 6, []), (6, .getfield 67, 9, []), (9, .if_icmp .ge 39, 12, [48]), (12, .aload_n 0, 13, []), (13, .getfield 26, 16, []), (16, .iload_n 2, 17, []), (17, .aload_n 0, 18, []), (18, .getfield 55, 21, []), (21, .iload_n 2, 22, []), (22, .iaload, 23, []), (23, .iastore, 24, []), (24, .iload_n 1, 25, []), (25, .aload_n 0, 26, []), (26, .getfield 26, 29, []), (29, .iload_n 2, 30, []), (30, .iaload, 31, []), (31, .iconst (-1), 32, []), (32, .if_icmp .eq 7, 35, [39]), (35, .iconst 1, 36, []), (36, .goto 4, 39, [40]), (39, .iconst 0, 40, []), (40, .iadd, 41, []), (41, .istore_n 1, 42, []), (42, .iinc 2 1, 45, []), (45, .goto (-41), 48, [4]), (48, .iload_n 1, 49, []), (49, .ireturn, 50, [])]
set_option maxRecDepth 100000 in
theorem tk_X7_take : ∀ q ∈ tb_X7_take, decode cX7_take q.1 = .ok (q.2.1, q.2.2.1 - q.1) ∧ en_ck q = true := by decide +kernel
def tb_X7_split : List en_I := [(0, .aload_n 0, 1, []), (1, .iconst 0, 2, []), (2, .putfield 64, 5, []), (5, .aload_n 0, 6, []), (6, .iload_n 1, 7, []), (7, .lload_n 2, 8, []), (8, .iload 4, 10, []), (10, .invokevirtual 123, 13, []), (13, .ifCond .eq 10, 16, [23]), (16, .aload_n 0, 17, []), (17, .invokevirtual 127, 20, []), (20, .goto 5, 23, [25]), (23, .bipush (-2), 25, []), (25, .ireturn, 26, [])]
set_option maxRecDepth 100000 in
theorem tk_X7_split : ∀ q ∈ tb_X7_split, decode cX7_split q.1 = .ok (q.2.1, q.2.2.1 - q.1) ∧ en_ck q = true := by decide +kernel
def tb_X7_same : List en_I := [(0, .aload_n 0, 1, []), (1, .iconst 0, 2, []), (2, .putfield 64, 5, []), (5, .aload_n 0, 6, []), (6, .iload_n 1, 7, []), (7, .lload_n 2, 8, []), (8, .iload 4, 10, []), (10, .invokevirtual 123, 13, []), (13, .istore 5, 15, []), (15, .iconst 0, 16, []), (16, .istore 6, 18, []), (18, .iload 6, 20, []), (20, .aload_n 0, 21, []), (21, .getfield 67, 24, []), (24, .if_icmp .ge 38, 27, [62]), (27, .iload 5, 29, []), (29, .ifCond .eq 33, 32, [62]), (32, .aload_n 0, 33, []), (33, .getfield 26, 36, []), (36, .iload 6, 38, []), (38, .iaload, 39, []), (39, .aload_n 0, 40, []), (40, .getfield 55, 43, []), (43, .iload 6, 45, []), (45, .iaload, 46, []), (46, .if_icmp .ne 7, 49, [53]), (49, .iconst 1, 50, []), (50, .goto 4, 53, [54]), (53, .iconst 0, 54, []), (54, .istore 5, 56, []), (56, .iinc 6 1, 59, []), (59, .goto (-41), 62, [18]), (62, .iload 5, 64, []), (64, .ireturn, 65, [])]
set_option maxRecDepth 100000 in
theorem tk_X7_same : ∀ q ∈ tb_X7_same, decode cX7_same q.1 = .ok (q.2.1, q.2.2.1 - q.1) ∧ en_ck q = true := by decide +kernel
def tb_X7_round : List en_I := [(0, .aload_n 0, 1, []), (1, .iload_n 1, 2, []), (2, .putfield 29, 5, []), (5, .aload_n 0, 6, []), (6, .iload_n 1, 7, []), (7, .putfield 33, 10, []), (10, .iconst 0, 11, []), (11, .istore_n 3, 12, []), (12, .iload_n 3, 13, []), (13, .iconst 4, 14, []), (14, .if_icmp .ge 25, 17, [39]), (17, .aload_n 0, 18, []), (18, .getfield 36, 21, []), (21, .iload_n 3, 22, []), (22, .iload_n 3, 23, []), (23, .iload_n 1, 24, []), (24, .if_icmp .ge 7, 27, [31]), (27, .iconst 1, 28, []), (28, .goto 4, 31, [32]), (31, .iconst 0, 32, []), (32, .iastore, 33, []), (33, .iinc 3 1, 36, []), (36, .goto (-24), 39, [12]), (39, .iconst 0, 40, []), (40, .istore_n 3, 41, []), (41, .iconst 0, 42, []), (42, .istore 4, 44, []), (44, .iconst 0, 45, []), (45, .istore 5, 47, []), (47, .iload 5, 49, []), (49, .iconst 5, 50, []), (50, .if_icmp .ge 82, 53, [132]), (53, .aload_n 0, 54, []), (54, .iload 5, 56, []), (56, .iload_n 2, 57, []), (57, .invokevirtual 119, 60, []), (60, .aload_n 0, 61, []), (61, .invokevirtual 104, 64, []), (64, .iconst 0, 65, []), (65, .istore 6, 67, []), (67, .iload 6, 69, []), (69, .aload_n 0, 70, []), (70, .getfield 97, 73, []), (73, .if_icmp .ge 28, 76, [101]), (76, .aload_n 0, 77, []), (77, .getfield 55, 80, []), (80, .aload_n 0, 81, []), (81, .getfield 58, 84, []), (84, .iload 6, 86, []), (86, .iaload, 87, []), (87, .iload_n 3, 88, []), (88, .iastore, 89, []), (89, .iload_n 3, 90, []), (90, .iconst 1, 91, []), (91, .iadd, 92, []), (92, .iload_n 1, 93, []), (93, .irem, 94, []), (94, .istore_n 3, 95, []), (95, .iinc 6 1, 98, []), (98, .goto (-31), 101, [67]), (101, .iload 4, 103, []), (103, .aload_n 0, 104, []), (104, .getfield 97, 107, []), (107, .ifCond .le 15, 110, [122]), (110, .aload_n 0, 111, []), (111, .getfield 97, 114, []), (114, .iload_n 1, 115, []), (115, .if_icmp .ge 7, 118, [122]), (118, .iconst 1, 119, []), (119, .goto 4, 122, [123]), (122, .iconst 0, 123, []), (123, .iadd, 124, []), (124, .istore 4, 126, []), (126, .iinc 5 1, 129, []), (129, .goto (-82), 132, [47]), (132, .iload 4, 134, []), (134, .ireturn, 135, [])]
set_option maxRecDepth 100000 in
theorem tk_X7_round : ∀ q ∈ tb_X7_round, decode cX7_round q.1 = .ok (q.2.1, q.2.2.1 - q.1) ∧ en_ck q = true := by decide +kernel
def tb_X7_folds : List en_I := [(0, .aload_n 0, 1, []), (1, .iconst 0, 2, []), (2, .putfield 64, 5, []), (5, .iload_n 1, 6, []), (6, .iconst 2, 7, []), (7, .iconst 4, 8, []), (8, .invokestatic 70, 11, []), (11, .ifCond .ne 6, 14, [17]), (14, .bipush (-2), 16, []), (16, .ireturn, 17, []), (17, .aload_n 0, 18, []), (18, .lload_n 2, 19, []), (19, .putfield 89, 22, []), (22, .aload_n 0, 23, []), (23, .iload_n 1, 24, []), (24, .iconst 0, 25, []), (25, .invokevirtual 131, 28, []), (28, .istore 4, 30, []), (30, .aload_n 0, 31, []), (31, .invokevirtual 127, 34, []), (34, .pop, 35, []), (35, .iload 4, 37, []), (37, .ireturn, 38, [])]
set_option maxRecDepth 100000 in
theorem tk_X7_folds : ∀ q ∈ tb_X7_folds, decode cX7_folds q.1 = .ok (q.2.1, q.2.2.1 - q.1) ∧ en_ck q = true := by decide +kernel
end
section
def tb_X7_nested : List en_I := [(0, .aload_n 0, 1, []), (1, .iconst 0, 2, []), (2, .putfield 64, 5, []), (5, .iload_n 1, 6, []), (6, .iconst 0, 7, []), (7, .iconst 3, 8, []), (8, .invokestatic 70, 11, []), (11, .ifCond .eq 12, 14, [23]), (14, .iload_n 2, 15, []), (15, .iconst 2, 16, []), (16, .iconst 4, 17, []), (17, .invokestatic 70, 20, []), (20, .ifCond .ne 6, 23, [26]), (23, .bipush (-2), 25, []), (25, .ireturn, 26, []), (26, .aload_n 0, 27, []), (27, .iload_n 1, 28, []), (28, .iconst (-1), 29, []), (29, .invokevirtual 135, 32, []), (32, .ifCond .ne 6, 35, [38]), (35, .bipush (-4), 37, []), (37, .ireturn, 38, []), (38, .iconst 0, 39, []), (39, .istore 5, 41, []), (41, .iload 5, 43, []), (43, .aload_n 0, 44, []), (44, .getfield 67, 47, []), (47, .if_icmp .ge 38, 50, [85]), (50, .aload_n 0, 51, []), (51, .getfield 55, 54, []), (54, .iload 5, 56, []), (56, .aload_n 0, 57, []), (57, .getfield 26, 60, []), (60, .iload 5, 62, []), (62, .iaload, 63, []), (63, .iload_n 1, 64, []), (64, .if_icmp .ne 7, 67, [71]), (67, .iconst (-1), 68, []), (68, .goto 10, 71, [78]), (71, .aload_n 0, 72, []), (72, .getfield 26, 75, []), (75, .iload 5, 77, []), (77, .iaload, 78, []), (78, .iastore, 79, []), (79, .iinc 5 1, 82, []), (82, .goto (-41), 85, [41]), (85, .aload_n 0, 86, []), (86, .lload_n 3, 87, []), (87, .iload_n 1, 88, []), (88, .i2l, 89, []), (89, .ladd, 90, []), (90, .putfield 89, 93, []), (93, .aload_n 0, 94, []), (94, .iload_n 2, 95, []), (95, .iconst 1, 96, []), (96, .invokevirtual 131, 99, []), (99, .pop, 100, []), (100, .aload_n 0, 101, []), (101, .invokevirtual 127, 104, []), (104, .ireturn, 105, [])]
set_option maxRecDepth 100000 in
theorem tk_X7_nested : ∀ q ∈ tb_X7_nested, decode cX7_nested q.1 = .ok (q.2.1, q.2.2.1 - q.1) ∧ en_ck q = true := by decide +kernel
def tb_X7_of : List en_I := [(0, .aload_n 0, 1, []), (1, .iconst 0, 2, []), (2, .putfield 64, 5, []), (5, .aload_n 0, 6, []), (6, .iload_n 1, 7, []), (7, .invokevirtual 75, 10, []), (10, .ifCond .eq 12, 13, [22]), (13, .aload_n 0, 14, []), (14, .getfield 26, 17, []), (17, .iload_n 1, 18, []), (18, .iaload, 19, []), (19, .goto 5, 22, [24]), (22, .bipush (-2), 24, []), (24, .ireturn, 25, [])]
set_option maxRecDepth 100000 in
theorem tk_X7_of : ∀ q ∈ tb_X7_of, decode cX7_of q.1 = .ok (q.2.1, q.2.2.1 - q.1) ∧ en_ck q = true := by decide +kernel
def tb_X7_many : List en_I := [(0, .aload_n 0, 1, []), (1, .iconst 0, 2, []), (2, .putfield 64, 5, []), (5, .iload_n 1, 6, []), (6, .iconst 0, 7, []), (7, .iconst 3, 8, []), (8, .invokestatic 70, 11, []), (11, .ifCond .eq 12, 14, [23]), (14, .iload_n 2, 15, []), (15, .iconst (-1), 16, []), (16, .iconst 4, 17, []), (17, .invokestatic 70, 20, []), (20, .ifCond .ne 6, 23, [26]), (23, .bipush (-2), 25, []), (25, .ireturn, 26, []), (26, .iconst 0, 27, []), (27, .istore_n 3, 28, []), (28, .iconst 0, 29, []), (29, .istore 4, 31, []), (31, .iload 4, 33, []), (33, .aload_n 0, 34, []), (34, .getfield 67, 37, []), (37, .if_icmp .ge 44, 40, [81]), (40, .iload_n 3, 41, []), (41, .aload_n 0, 42, []), (42, .getfield 26, 45, []), (45, .iload 4, 47, []), (47, .iaload, 48, []), (48, .iload_n 1, 49, []), (49, .if_icmp .ne 23, 52, [72]), (52, .iload_n 2, 53, []), (53, .iconst (-1), 54, []), (54, .if_icmp .eq 14, 57, [68]), (57, .aload_n 0, 58, []), (58, .getfield 13, 61, []), (61, .iload 4, 63, []), (63, .iaload, 64, []), (64, .iload_n 2, 65, []), (65, .if_icmp .ne 7, 68, [72]), (68, .iconst 1, 69, []), (69, .goto 4, 72, [73]), (72, .iconst 0, 73, []), (73, .iadd, 74, []), (74, .istore_n 3, 75, []), (75, .iinc 4 1, 78, []), (78, .goto (-47), 81, [31]), (81, .iload_n 3, 82, []), (82, .ireturn, 83, [])]
set_option maxRecDepth 100000 in
theorem tk_X7_many : ∀ q ∈ tb_X7_many, decode cX7_many q.1 = .ok (q.2.1, q.2.2.1 - q.1) ∧ en_ck q = true := by decide +kernel
def tb_X7_share : List en_I := [(0, .aload_n 0, 1, []), (1, .iconst 0, 2, []), (2, .putfield 64, 5, []), (5, .iload_n 1, 6, []), (6, .iconst 0, 7, []), (7, .iconst 4, 8, []), (8, .invokestatic 70, 11, []), (11, .ifCond .eq 12, 14, [23]), (14, .iload_n 2, 15, []), (15, .iconst 0, 16, []), (16, .iconst 3, 17, []), (17, .invokestatic 70, 20, []), (20, .ifCond .ne 10, 23, [30]), (23, .aload_n 0, 24, []), (24, .iconst 1, 25, []), (25, .putfield 64, 28, []), (28, .iconst 0, 29, []), (29, .ireturn, 30, []), (30, .iload_n 3, 31, []), (31, .iconst 0, 32, []), (32, .iconst 1, 33, []), (33, .invokestatic 70, 36, []), (36, .ifCond .ne 10, 39, [46]), (39, .aload_n 0, 40, []), (40, .iconst 2, 41, []), (41, .putfield 64, 44, []), (44, .iconst 0, 45, []), (45, .ireturn, 46, []), (46, .aload_n 0, 47, []), (47, .iload_n 2, 48, []), (48, .iload_n 1, 49, []), (49, .invokevirtual 135, 52, []), (52, .istore 4, 54, []), (54, .iconst 0, 55, []), (55, .istore 5, 57, []), (57, .iconst 0, 58, []), (58, .istore 6, 60, []), (60, .iload 6, 62, []), (62, .iconst 4, 63, []), (63, .if_icmp .ge 21, 66, [84]), (66, .iload 5, 68, []), (68, .aload_n 0, 69, []), (69, .iload 6, 71, []), (71, .iload_n 1, 72, []), (72, .invokevirtual 135, 75, []), (75, .iadd, 76, []), (76, .istore 5, 78, []), (78, .iinc 6 1, 81, []), (81, .goto (-21), 84, [60]), (84, .iload 5, 86, []), (86, .ifCond .ne 10, 89, [96]), (89, .aload_n 0, 90, []), (90, .iconst 3, 91, []), (91, .putfield 64, 94, []), (94, .iconst 0, 95, []), (95, .ireturn, 96, []), (96, .iload 4, 98, []), (98, .istore 6, 100, []), (100, .iload 5, 102, []), (102, .istore 7, 104, []), (104, .iload 7, 106, []), (106, .ifCond .eq 21, 109, [127]), (109, .iload 6, 111, []), (111, .iload 7, 113, []), (113, .irem, 114, []), (114, .istore 8, 116, []), (116, .iload 7, 118, []), (118, .istore 6, 120, []), (120, .iload 8, 122, []), (122, .istore 7, 124, []), (124, .goto (-20), 127, [104]), (127, .iload_n 3, 128, []), (128, .ifCond .ne 11, 131, [139]), (131, .iload 4, 133, []), (133, .iload 6, 135, []), (135, .idiv, 136, []), (136, .goto 8, 139, [144]), (139, .iload 5, 141, []), (141, .iload 6, 143, []), (143, .idiv, 144, []), (144, .ireturn, 145, [])]
set_option maxRecDepth 100000 in
theorem tk_X7_share : ∀ q ∈ tb_X7_share, decode cX7_share q.1 = .ok (q.2.1, q.2.2.1 - q.1) ∧ en_ck q = true := by decide +kernel
def tb_X7_over : List en_I := [(0, .aload_n 0, 1, []), (1, .iconst 0, 2, []), (2, .putfield 64, 5, []), (5, .iload_n 1, 6, []), (6, .iconst 0, 7, []), (7, .bipush 29, 9, []), (9, .invokestatic 70, 12, []), (12, .ifCond .ne 6, 15, [18]), (15, .bipush (-2), 17, []), (17, .ireturn, 18, []), (18, .iconst (-1), 19, []), (19, .istore_n 2, 20, []), (20, .iconst 0, 21, []), (21, .istore_n 3, 22, []), (22, .aload_n 0, 23, []), (23, .getfield 67, 26, []), (26, .iconst 1, 27, []), (27, .isub, 28, []), (28, .istore 4, 30, []), (30, .iload 4, 32, []), (32, .ifCond .lt 26, 35, [58]), (35, .aload_n 0, 36, []), (36, .getfield 7, 39, []), (39, .iload 4, 41, []), (41, .iaload, 42, []), (42, .iload_n 1, 43, []), (43, .if_icmp .ne 9, 46, [52]), (46, .iload 4, 48, []), (48, .istore_n 2, 49, []), (49, .iinc 3 1, 52, []), (52, .iinc 4 (-1), 55, []), (55, .goto (-25), 58, [30]), (58, .iload_n 2, 59, []), (59, .iconst (-1), 60, []), (60, .if_icmp .eq 26, 63, [86]), (63, .aload_n 0, 64, []), (64, .getfield 26, 67, []), (67, .iload_n 2, 68, []), (68, .iaload, 69, []), (69, .iconst (-1), 70, []), (70, .if_icmp .eq 16, 73, [86]), (73, .aload_n 0, 74, []), (74, .getfield 26, 77, []), (77, .iload_n 2, 78, []), (78, .iaload, 79, []), (79, .aload_n 0, 80, []), (80, .getfield 29, 83, []), (83, .if_icmp .lt 5, 86, [88]), (86, .iconst 0, 87, []), (87, .ireturn, 88, []), (88, .aload_n 0, 89, []), (89, .aload_n 0, 90, []), (90, .getfield 67, 93, []), (93, .invokevirtual 85, 96, []), (96, .iload_n 3, 97, []), (97, .aload_n 0, 98, []), (98, .getfield 49, 101, []), (101, .aload_n 0, 102, []), (102, .getfield 26, 105, []), (105, .iload_n 2, 106, []), (106, .iaload, 107, []), (107, .iaload, 108, []), (108, .isub, 109, []), (109, .istore 4, 111, []), (111, .iload 4, 113, []), (113, .ifCond .le 8, 116, [121]), (116, .iload 4, 118, []), (118, .goto 4, 121, [122]), (121, .iconst 0, 122, []), (122, .ireturn, 123, [])]
set_option maxRecDepth 100000 in
theorem tk_X7_over : ∀ q ∈ tb_X7_over, decode cX7_over q.1 = .ok (q.2.1, q.2.2.1 - q.1) ∧ en_ck q = true := by decide +kernel
def tb_X7_near : List en_I := [(0, .aload_n 0, 1, []), (1, .iconst 0, 2, []), (2, .putfield 64, 5, []), (5, .iload_n 1, 6, []), (6, .iconst 1, 7, []), (7, .bipush 100, 9, []), (9, .invokestatic 70, 12, []), (12, .ifCond .ne 6, 15, [18]), (15, .bipush (-2), 17, []), (17, .ireturn, 18, []), (18, .aload_n 0, 19, []), (19, .getfield 39, 22, []), (22, .istore_n 2, 23, []), (23, .aload_n 0, 24, []), (24, .iload_n 1, 25, []), (25, .putfield 39, 28, []), (28, .iload_n 2, 29, []), (29, .ireturn, 30, [])]
set_option maxRecDepth 100000 in
theorem tk_X7_near : ∀ q ∈ tb_X7_near, decode cX7_near q.1 = .ok (q.2.1, q.2.2.1 - q.1) ∧ en_ck q = true := by decide +kernel
def tb_X7_fit : List en_I := [(0, .aload_n 0, 1, []), (1, .iconst 0, 2, []), (2, .putfield 64, 5, []), (5, .iload_n 1, 6, []), (6, .iconst 0, 7, []), (7, .bipush 7, 9, []), (9, .invokestatic 70, 12, []), (12, .ifCond .eq 11, 15, [23]), (15, .aload_n 0, 16, []), (16, .iload_n 2, 17, []), (17, .invokevirtual 75, 20, []), (20, .ifCond .ne 6, 23, [26]), (23, .bipush (-2), 25, []), (25, .ireturn, 26, []), (26, .aload_n 0, 27, []), (27, .getfield 42, 30, []), (30, .bipush 100, 32, []), (32, .iload_n 1, 33, []), (33, .imul, 34, []), (34, .iload_n 2, 35, []), (35, .iadd, 36, []), (36, .baload, 37, []), (37, .ifCond .eq 6, 40, [43]), (40, .bipush (-4), 42, []), (42, .ireturn, 43, []), (43, .aload_n 0, 44, []), (44, .getfield 42, 47, []), (47, .bipush 100, 49, []), (49, .iload_n 1, 50, []), (50, .imul, 51, []), (51, .iload_n 2, 52, []), (52, .iadd, 53, []), (53, .iconst 1, 54, []), (54, .bastore, 55, []), (55, .iconst 0, 56, []), (56, .istore_n 3, 57, []), (57, .iconst 0, 58, []), (58, .istore 4, 60, []), (60, .iload 4, 62, []), (62, .bipush 100, 64, []), (64, .if_icmp .ge 32, 67, [96]), (67, .iload_n 3, 68, []), (68, .aload_n 0, 69, []), (69, .getfield 42, 72, []), (72, .bipush 100, 74, []), (74, .iload_n 1, 75, []), (75, .imul, 76, []), (76, .iload 4, 78, []), (78, .iadd, 79, []), (79, .baload, 80, []), (80, .ifCond .eq 7, 83, [87]), (83, .iconst 1, 84, []), (84, .goto 4, 87, [88]), (87, .iconst 0, 88, []), (88, .iadd, 89, []), (89, .istore_n 3, 90, []), (90, .iinc 4 1, 93, []), (93, .goto (-33), 96, [60]), (96, .iload_n 3, 97, []), (97, .ireturn, 98, [])]
set_option maxRecDepth 100000 in
theorem tk_X7_fit : ∀ q ∈ tb_X7_fit, decode cX7_fit q.1 = .ok (q.2.1, q.2.2.1 - q.1) ∧ en_ck q = true := by decide +kernel
def tb_X7_base : List en_I := [(0, .aload_n 0, 1, []), (1, .iconst 0, 2, []), (2, .putfield 64, 5, []), (5, .iload_n 1, 6, []), (6, .iconst 0, 7, []), (7, .bipush 7, 9, []), (9, .invokestatic 70, 12, []), (12, .ifCond .eq 14, 15, [26]), (15, .iload_n 2, 16, []), (16, .iconst (-1), 17, []), (17, .iload_n 1, 18, []), (18, .iconst 1, 19, []), (19, .isub, 20, []), (20, .invokestatic 70, 23, []), (23, .ifCond .ne 6, 26, [29]), (26, .bipush (-2), 28, []), (28, .ireturn, 29, []), (29, .aload_n 0, 30, []), (30, .getfield 46, 33, []), (33, .iload_n 1, 34, []), (34, .iaload, 35, []), (35, .istore_n 3, 36, []), (36, .aload_n 0, 37, []), (37, .getfield 46, 40, []), (40, .iload_n 1, 41, []), (41, .iload_n 2, 42, []), (42, .iastore, 43, []), (43, .iload_n 3, 44, []), (44, .ireturn, 45, [])]
set_option maxRecDepth 100000 in
theorem tk_X7_base : ∀ q ∈ tb_X7_base, decode cX7_base q.1 = .ok (q.2.1, q.2.2.1 - q.1) ∧ en_ck q = true := by decide +kernel
def tb_X7_isEqual : List en_I := [(0, .aload_n 0, 1, []), (1, .getfield 23, 4, []), (4, .iload_n 1, 5, []), (5, .laload, 6, []), (6, .aload_n 0, 7, []), (7, .getfield 23, 10, []), (10, .iload_n 2, 11, []), (11, .laload, 12, []), (12, .lcmp, 13, []), (13, .ifCond .ne 7, 16, [20]), (16, .iconst 1, 17, []), (17, .goto 4, 20, [21]), (20, .iconst 0, 21, []), (21, .istore_n 3, 22, []), (22, .iconst 0, 23, []), (23, .istore 4, 25, []), (25, .iload 4, 27, []), (27, .iconst 3, 28, []), (28, .if_icmp .ge 45, 31, [73]), (31, .iload_n 3, 32, []), (32, .ifCond .eq 33, 35, [65]), (35, .aload_n 0, 36, []), (36, .getfield 19, 39, []), (39, .iconst 3, 40, []), (40, .iload_n 1, 41, []), (41, .imul, 42, []), (42, .iload 4, 44, []), (44, .iadd, 45, []), (45, .laload, 46, []), (46, .aload_n 0, 47, []), (47, .getfield 19, 50, []), (50, .iconst 3, 51, []), (51, .iload_n 2, 52, []), (52, .imul, 53, []), (53, .iload 4, 55, []), (55, .iadd, 56, []), (56, .laload, 57, []), (57, .lcmp, 58, []), (58, .ifCond .ne 7, 61, [65]), (61, .iconst 1, 62, []), (62, .goto 4, 65, [66]), (65, .iconst 0, 66, []), (66, .istore_n 3, 67, []), (67, .iinc 4 1, 70, []), (70, .goto (-45), 73, [25]), (73, .iload_n 3, 74, []), (74, .ireturn, 75, [])]
set_option maxRecDepth 100000 in
theorem tk_X7_isEqual : ∀ q ∈ tb_X7_isEqual, decode cX7_isEqual q.1 = .ok (q.2.1, q.2.2.1 - q.1) ∧ en_ck q = true := by decide +kernel
def tb_X7_areApart : List en_I := [(0, .aload_n 0, 1, []), (1, .getfield 26, 4, []), (4, .iload_n 1, 5, []), (5, .iaload, 6, []), (6, .iconst (-1), 7, []), (7, .if_icmp .eq 32, 10, [39]), (10, .aload_n 0, 11, []), (11, .getfield 26, 14, []), (14, .iload_n 2, 15, []), (15, .iaload, 16, []), (16, .iconst (-1), 17, []), (17, .if_icmp .eq 22, 20, [39]), (20, .aload_n 0, 21, []), (21, .getfield 26, 24, []), (24, .iload_n 1, 25, []), (25, .iaload, 26, []), (26, .aload_n 0, 27, []), (27, .getfield 26, 30, []), (30, .iload_n 2, 31, []), (31, .iaload, 32, []), (32, .if_icmp .eq 7, 35, [39]), (35, .iconst 1, 36, []), (36, .goto 4, 39, [40]), (39, .iconst 0, 40, []), (40, .ireturn, 41, [])]
set_option maxRecDepth 100000 in
theorem tk_X7_areApart : ∀ q ∈ tb_X7_areApart, decode cX7_areApart q.1 = .ok (q.2.1, q.2.2.1 - q.1) ∧ en_ck q = true := by decide +kernel
def tb_X7_areNear : List en_I := [(0, .aload_n 0, 1, []), (1, .getfield 23, 4, []), (4, .iload_n 1, 5, []), (5, .laload, 6, []), (6, .lconst 0, 7, []), (7, .lcmp, 8, []), (8, .ifCond .eq 27, 11, [35]), (11, .aload_n 0, 12, []), (12, .getfield 23, 15, []), (15, .iload_n 2, 16, []), (16, .laload, 17, []), (17, .lconst 0, 18, []), (18, .lcmp, 19, []), (19, .ifCond .eq 16, 22, [35]), (22, .aload_n 0, 23, []), (23, .iload_n 1, 24, []), (24, .iload_n 2, 25, []), (25, .invokevirtual 138, 28, []), (28, .ifCond .ne 7, 31, [35]), (31, .iconst 1, 32, []), (32, .goto 4, 35, [36]), (35, .iconst 0, 36, []), (36, .istore_n 3, 37, []), (37, .iload_n 3, 38, []), (38, .ifCond .eq 50, 41, [88]), (41, .aload_n 0, 42, []), (42, .getfield 23, 45, []), (45, .iload_n 1, 46, []), (46, .laload, 47, []), (47, .aload_n 0, 48, []), (48, .getfield 23, 51, []), (51, .iload_n 2, 52, []), (52, .laload, 53, []), (53, .land, 54, []), (54, .invokestatic 81, 57, []), (57, .bipush 100, 59, []), (59, .imul, 60, []), (60, .aload_n 0, 61, []), (61, .getfield 39, 64, []), (64, .aload_n 0, 65, []), (65, .getfield 23, 68, []), (68, .iload_n 1, 69, []), (69, .laload, 70, []), (70, .aload_n 0, 71, []), (71, .getfield 23, 74, []), (74, .iload_n 2, 75, []), (75, .laload, 76, []), (76, .lor, 77, []), (77, .invokestatic 81, 80, []), (80, .imul, 81, []), (81, .if_icmp .lt 7, 84, [88]), (84, .iconst 1, 85, []), (85, .goto 4, 88, [89]), (88, .iconst 0, 89, []), (89, .ireturn, 90, [])]
set_option maxRecDepth 100000 in
theorem tk_X7_areNear : ∀ q ∈ tb_X7_areNear, decode cX7_areNear q.1 = .ok (q.2.1, q.2.2.1 - q.1) ∧ en_ck q = true := by decide +kernel
def tb_X7_tell : List en_I := [(0, .aload_n 0, 1, []), (1, .getfield 142, 4, []), (4, .iload_n 1, 5, []), (5, .if_icmp .ne 13, 8, [18]), (8, .aload_n 0, 9, []), (9, .iload_n 2, 10, []), (10, .putfield 145, 13, []), (13, .aload_n 0, 14, []), (14, .iload_n 3, 15, []), (15, .putfield 148, 18, []), (18, .aload_n 0, 19, []), (19, .dup, 20, []), (20, .getfield 142, 23, []), (23, .iconst 1, 24, []), (24, .iadd, 25, []), (25, .putfield 142, 28, []), (28, .return_, 29, [])]
set_option maxRecDepth 100000 in
theorem tk_X7_tell : ∀ q ∈ tb_X7_tell, decode cX7_tell q.1 = .ok (q.2.1, q.2.2.1 - q.1) ∧ en_ck q = true := by decide +kernel
def tb_X7_pairs : List en_I := [(0, .iconst 0, 1, []), (1, .istore_n 3, 2, []), (2, .iload_n 3, 3, []), (3, .aload_n 0, 4, []), (4, .getfield 67, 7, []), (7, .if_icmp .ge 74, 10, [81]), (10, .iload_n 3, 11, []), (11, .iconst 1, 12, []), (12, .iadd, 13, []), (13, .istore 4, 15, []), (15, .iload 4, 17, []), (17, .aload_n 0, 18, []), (18, .getfield 67, 21, []), (21, .if_icmp .ge 54, 24, [75]), (24, .aload_n 0, 25, []), (25, .iload_n 3, 26, []), (26, .iload 4, 28, []), (28, .invokevirtual 151, 31, []), (31, .ifCond .eq 38, 34, [69]), (34, .iload_n 1, 35, []), (35, .ifCond .eq 16, 38, [51]), (38, .aload_n 0, 39, []), (39, .iload_n 3, 40, []), (40, .iload 4, 42, []), (42, .invokevirtual 138, 45, []), (45, .ifCond .eq 24, 48, [69]), (48, .goto 13, 51, [61]), (51, .aload_n 0, 52, []), (52, .iload_n 3, 53, []), (53, .iload 4, 55, []), (55, .invokevirtual 154, 58, []), (58, .ifCond .eq 11, 61, [69]), (61, .aload_n 0, 62, []), (62, .iload_n 2, 63, []), (63, .iload_n 3, 64, []), (64, .iload 4, 66, []), (66, .invokevirtual 157, 69, []), (69, .iinc 4 1, 72, []), (72, .goto (-57), 75, [15]), (75, .iinc 3 1, 78, []), (78, .goto (-76), 81, [2]), (81, .return_, 82, [])]
set_option maxRecDepth 100000 in
theorem tk_X7_pairs : ∀ q ∈ tb_X7_pairs, decode cX7_pairs q.1 = .ok (q.2.1, q.2.2.1 - q.1) ∧ en_ck q = true := by decide +kernel
def tb_X7_groups : List en_I := [(0, .iconst 0, 1, []), (1, .istore_n 2, 2, []), (2, .iload_n 2, 3, []), (3, .bipush 30, 5, []), (5, .if_icmp .ge 107, 8, [112]), (8, .iconst 0, 9, []), (9, .istore_n 3, 10, []), (10, .iconst 0, 11, []), (11, .istore 4, 13, []), (13, .iload 4, 15, []), (15, .iconst 4, 16, []), (16, .if_icmp .ge 78, 19, [94]), (19, .iconst 0, 20, []), (20, .istore 5, 22, []), (22, .iconst 0, 23, []), (23, .istore 6, 25, []), (25, .iload 6, 27, []), (27, .aload_n 0, 28, []), (28, .getfield 67, 31, []), (31, .if_icmp .ge 44, 34, [75]), (34, .iload 5, 36, []), (36, .ifCond .ne 26, 39, [62]), (39, .aload_n 0, 40, []), (40, .getfield 7, 43, []), (43, .iload 6, 45, []), (45, .iaload, 46, []), (46, .iload_n 2, 47, []), (47, .if_icmp .ne 19, 50, [66]), (50, .aload_n 0, 51, []), (51, .getfield 26, 54, []), (54, .iload 6, 56, []), (56, .iaload, 57, []), (57, .iload 4, 59, []), (59, .if_icmp .ne 7, 62, [66]), (62, .iconst 1, 63, []), (63, .goto 4, 66, [67]), (66, .iconst 0, 67, []), (67, .istore 5, 69, []), (69, .iinc 6 1, 72, []), (72, .goto (-47), 75, [25]), (75, .iload_n 3, 76, []), (76, .iload 5, 78, []), (78, .ifCond .eq 7, 81, [85]), (81, .iconst 1, 82, []), (82, .goto 4, 85, [86]), (85, .iconst 0, 86, []), (86, .iadd, 87, []), (87, .istore_n 3, 88, []), (88, .iinc 4 1, 91, []), (91, .goto (-78), 94, [13]), (94, .iload_n 3, 95, []), (95, .iconst 1, 96, []), (96, .if_icmp .le 10, 99, [106]), (99, .aload_n 0, 100, []), (100, .iload_n 1, 101, []), (101, .iload_n 2, 102, []), (102, .iload_n 3, 103, []), (103, .invokevirtual 157, 106, []), (106, .iinc 2 1, 109, []), (109, .goto (-107), 112, [2]), (112, .return_, 113, [])]
set_option maxRecDepth 100000 in
theorem tk_X7_groups : ∀ q ∈ tb_X7_groups, decode cX7_groups q.1 = .ok (q.2.1, q.2.2.1 - q.1) ∧ en_ck q = true := by decide +kernel
def tb_X7_late : List en_I := [(0, .iconst (-1), 1, []), (1, .istore_n 2, 2, []), (2, .iconst 0, 3, []), (3, .istore_n 3, 4, []), (4, .iload_n 3, 5, []), (5, .aload_n 0, 6, []), (6, .getfield 67, 9, []), (9, .if_icmp .ge 44, 12, [53]), (12, .aload_n 0, 13, []), (13, .getfield 26, 16, []), (16, .iload_n 3, 17, []), (17, .iaload, 18, []), (18, .ifCond .le 27, 21, [45]), (21, .iload_n 2, 22, []), (22, .iconst (-1), 23, []), (23, .if_icmp .eq 18, 26, [41]), (26, .aload_n 0, 27, []), (27, .getfield 16, 30, []), (30, .iload_n 3, 31, []), (31, .iaload, 32, []), (32, .aload_n 0, 33, []), (33, .getfield 16, 36, []), (36, .iload_n 2, 37, []), (37, .iaload, 38, []), (38, .if_icmp .ge 7, 41, [45]), (41, .iload_n 3, 42, []), (42, .goto 4, 45, [46]), (45, .iload_n 2, 46, []), (46, .istore_n 2, 47, []), (47, .iinc 3 1, 50, []), (50, .goto (-46), 53, [4]), (53, .iconst 0, 54, []), (54, .istore_n 3, 55, []), (55, .iload_n 3, 56, []), (56, .aload_n 0, 57, []), (57, .getfield 67, 60, []), (60, .if_icmp .ge 45, 63, [105]), (63, .iload_n 2, 64, []), (64, .iconst (-1), 65, []), (65, .if_icmp .eq 40, 68, [105]), (68, .aload_n 0, 69, []), (69, .getfield 26, 72, []), (72, .iload_n 3, 73, []), (73, .iaload, 74, []), (74, .ifCond .ne 25, 77, [99]), (77, .aload_n 0, 78, []), (78, .getfield 16, 81, []), (81, .iload_n 3, 82, []), (82, .iaload, 83, []), (83, .aload_n 0, 84, []), (84, .getfield 16, 87, []), (87, .iload_n 2, 88, []), (88, .iaload, 89, []), (89, .if_icmp .lt 10, 92, [99]), (92, .aload_n 0, 93, []), (93, .iload_n 1, 94, []), (94, .iload_n 3, 95, []), (95, .iload_n 2, 96, []), (96, .invokevirtual 157, 99, []), (99, .iinc 3 1, 102, []), (102, .goto (-47), 105, [55]), (105, .return_, 106, [])]
set_option maxRecDepth 100000 in
theorem tk_X7_late : ∀ q ∈ tb_X7_late, decode cX7_late q.1 = .ok (q.2.1, q.2.2.1 - q.1) ∧ en_ck q = true := by decide +kernel
def tb_X7_columns : List en_I := [(0, .iconst 0, 1, []), (1, .istore_n 2, 2, []), (2, .iload_n 2, 3, []), (3, .iconst 3, 4, []), (4, .if_icmp .ge 283, 7, [287]), (7, .iconst 0, 8, []), (8, .istore_n 3, 9, []), (9, .iconst 0, 10, []), (10, .istore 4, 12, []), (12, .iconst (-1), 13, []), (13, .istore 5, 15, []), (15, .iconst 0, 16, []), (16, .istore 6, 18, []), (18, .iconst 0, 19, []), (19, .istore 7, 21, []), (21, .iconst 0, 22, []), (22, .istore 8, 24, []), (24, .iload 8, 26, []), (26, .aload_n 0, 27, []), (27, .getfield 67, 30, []), (30, .if_icmp .ge 228, 33, [258]), (33, .aload_n 0, 34, []), (34, .getfield 26, 37, []), (37, .iload 8, 39, []), (39, .iaload, 40, []), (40, .iconst (-1), 41, []), (41, .if_icmp .eq 7, 44, [48]), (44, .iconst 1, 45, []), (45, .goto 4, 48, [49]), (48, .iconst 0, 49, []), (49, .istore 9, 51, []), (51, .iconst 0, 52, []), (52, .istore 10, 54, []), (54, .iconst 1, 55, []), (55, .istore 11, 57, []), (57, .iconst 0, 58, []), (58, .istore 12, 60, []), (60, .iload 12, 62, []), (62, .aload_n 0, 63, []), (63, .getfield 67, 66, []), (66, .if_icmp .ge 97, 69, [163]), (69, .aload_n 0, 70, []), (70, .getfield 26, 73, []), (73, .iload 12, 75, []), (75, .iaload, 76, []), (76, .iconst (-1), 77, []), (77, .if_icmp .eq 80, 80, [157]), (80, .aload_n 0, 81, []), (81, .getfield 19, 84, []), (84, .iconst 3, 85, []), (85, .iload 12, 87, []), (87, .imul, 88, []), (88, .iload_n 2, 89, []), (89, .iadd, 90, []), (90, .laload, 91, []), (91, .aload_n 0, 92, []), (92, .getfield 19, 95, []), (95, .iconst 3, 96, []), (96, .iload 8, 98, []), (98, .imul, 99, []), (99, .iload_n 2, 100, []), (100, .iadd, 101, []), (101, .laload, 102, []), (102, .lcmp, 103, []), (103, .ifCond .ne 54, 106, [157]), (106, .iload 9, 108, []), (108, .ifCond .eq 14, 111, [122]), (111, .iload 12, 113, []), (113, .iload 8, 115, []), (115, .if_icmp .lt 7, 118, [122]), (118, .iconst 1, 119, []), (119, .goto 4, 122, [123]), (122, .iconst 0, 123, []), (123, .istore 9, 125, []), (125, .iinc 10 1, 128, []), (128, .iload 11, 130, []), (130, .ifCond .eq 24, 133, [154]), (133, .aload_n 0, 134, []), (134, .getfield 13, 137, []), (137, .iload 12, 139, []), (139, .iaload, 140, []), (140, .aload_n 0, 141, []), (141, .getfield 13, 144, []), (144, .iload 8, 146, []), (146, .iaload, 147, []), (147, .if_icmp .ne 7, 150, [154]), (150, .iconst 1, 151, []), (151, .goto 4, 154, [155]), (154, .iconst 0, 155, []), (155, .istore 11, 157, []), (157, .iinc 12 1, 160, []), (160, .goto (-100), 163, [60]), (163, .iload 9, 165, []), (165, .ifCond .eq 87, 168, [252]), (168, .iinc 3 1, 171, []), (171, .iload 7, 173, []), (173, .ifCond .ne 8, 176, [181]), (176, .iload 11, 178, []), (178, .ifCond .ne 7, 181, [185]), (181, .iconst 1, 182, []), (182, .goto 4, 185, [186]), (185, .iconst 0, 186, []), (186, .istore 7, 188, []), (188, .iload 10, 190, []), (190, .iconst 1, 191, []), (191, .if_icmp .le 61, 194, [252]), (194, .iload 11, 196, []), (196, .ifCond .eq 56, 199, [252]), (199, .iinc 4 1, 202, []), (202, .iload 6, 204, []), (204, .ifCond .ne 21, 207, [225]), (207, .iload 5, 209, []), (209, .iconst (-1), 210, []), (210, .if_icmp .eq 19, 213, [229]), (213, .iload 5, 215, []), (215, .aload_n 0, 216, []), (216, .getfield 13, 219, []), (219, .iload 8, 221, []), (221, .iaload, 222, []), (222, .if_icmp .eq 7, 225, [229]), (225, .iconst 1, 226, []), (226, .goto 4, 229, [230]), (229, .iconst 0, 230, []), (230, .istore 6, 232, []), (232, .iload 5, 234, []), (234, .iconst (-1), 235, []), (235, .if_icmp .ne 13, 238, [248]), (238, .aload_n 0, 239, []), (239, .getfield 13, 242, []), (242, .iload 8, 244, []), (244, .iaload, 245, []), (245, .goto 5, 248, [250]), (248, .iload 5, 250, []), (250, .istore 5, 252, []), (252, .iinc 8 1, 255, []), (255, .goto (-231), 258, [24]), (258, .iload 4, 260, []), (260, .iconst 1, 261, []), (261, .if_icmp .le 20, 264, [281]), (264, .iload 6, 266, []), (266, .ifCond .eq 15, 269, [281]), (269, .iload 7, 271, []), (271, .ifCond .ne 10, 274, [281]), (274, .aload_n 0, 275, []), (275, .iload_n 1, 276, []), (276, .iload_n 2, 277, []), (277, .iload_n 3, 278, []), (278, .invokevirtual 157, 281, []), (281, .iinc 2 1, 284, []), (284, .goto (-282), 287, [2]), (287, .return_, 288, [])]
set_option maxRecDepth 100000 in
theorem tk_X7_columns : ∀ q ∈ tb_X7_columns, decode cX7_columns q.1 = .ok (q.2.1, q.2.2.1 - q.1) ∧ en_ck q = true := by decide +kernel
def tb_X7_steps : List en_I := [(0, .iconst 0, 1, []), (1, .istore_n 2, 2, []), (2, .iload_n 2, 3, []), (3, .bipush 8, 5, []), (5, .if_icmp .ge 97, 8, [102]), (8, .iconst 0, 9, []), (9, .istore_n 3, 10, []), (10, .iload_n 3, 11, []), (11, .aload_n 0, 12, []), (12, .getfield 67, 15, []), (15, .if_icmp .ge 81, 18, [96]), (18, .iconst 0, 19, []), (19, .istore 4, 21, []), (21, .iload_n 2, 22, []), (22, .istore 5, 24, []), (24, .iload 5, 26, []), (26, .iconst (-1), 27, []), (27, .if_icmp .eq 42, 30, [69]), (30, .iload 4, 32, []), (32, .ifCond .ne 18, 35, [50]), (35, .aload_n 0, 36, []), (36, .getfield 42, 39, []), (39, .bipush 100, 41, []), (41, .iload 5, 43, []), (43, .imul, 44, []), (44, .iload_n 3, 45, []), (45, .iadd, 46, []), (46, .baload, 47, []), (47, .ifCond .eq 7, 50, [54]), (50, .iconst 1, 51, []), (51, .goto 4, 54, [55]), (54, .iconst 0, 55, []), (55, .istore 4, 57, []), (57, .aload_n 0, 58, []), (58, .getfield 46, 61, []), (61, .iload 5, 63, []), (63, .iaload, 64, []), (64, .istore 5, 66, []), (66, .goto (-42), 69, [24]), (69, .iload 4, 71, []), (71, .ifCond .eq 19, 74, [90]), (74, .aload_n 0, 75, []), (75, .getfield 26, 78, []), (78, .iload_n 3, 79, []), (79, .iaload, 80, []), (80, .ifCond .le 10, 83, [90]), (83, .aload_n 0, 84, []), (84, .iload_n 1, 85, []), (85, .iload_n 2, 86, []), (86, .iload_n 3, 87, []), (87, .invokevirtual 157, 90, []), (90, .iinc 3 1, 93, []), (93, .goto (-83), 96, [10]), (96, .iinc 2 1, 99, []), (99, .goto (-97), 102, [2]), (102, .return_, 103, [])]
set_option maxRecDepth 100000 in
theorem tk_X7_steps : ∀ q ∈ tb_X7_steps, decode cX7_steps q.1 = .ok (q.2.1, q.2.2.1 - q.1) ∧ en_ck q = true := by decide +kernel
def tb_X7_look : List en_I := [(0, .aload_n 0, 1, []), (1, .iconst 0, 2, []), (2, .putfield 142, 5, []), (5, .iload_n 1, 6, []), (6, .iconst 2, 7, []), (7, .if_icmp .ge 20, 10, [27]), (10, .aload_n 0, 11, []), (11, .iload_n 1, 12, []), (12, .ifCond .ne 7, 15, [19]), (15, .iconst 1, 16, []), (16, .goto 4, 19, [20]), (19, .iconst 0, 20, []), (20, .iload_n 2, 21, []), (21, .invokevirtual 161, 24, []), (24, .goto 47, 27, [71]), (27, .iload_n 1, 28, []), (28, .iconst 2, 29, []), (29, .if_icmp .ne 11, 32, [40]), (32, .aload_n 0, 33, []), (33, .iload_n 2, 34, []), (34, .invokevirtual 165, 37, []), (37, .goto 34, 40, [71]), (40, .iload_n 1, 41, []), (41, .iconst 3, 42, []), (42, .if_icmp .ne 11, 45, [53]), (45, .aload_n 0, 46, []), (46, .iload_n 2, 47, []), (47, .invokevirtual 168, 50, []), (50, .goto 21, 53, [71]), (53, .iload_n 1, 54, []), (54, .iconst 4, 55, []), (55, .if_icmp .ne 11, 58, [66]), (58, .aload_n 0, 59, []), (59, .iload_n 2, 60, []), (60, .invokevirtual 171, 63, []), (63, .goto 8, 66, [71]), (66, .aload_n 0, 67, []), (67, .iload_n 2, 68, []), (68, .invokevirtual 174, 71, []), (71, .return_, 72, [])]
set_option maxRecDepth 100000 in
theorem tk_X7_look : ∀ q ∈ tb_X7_look, decode cX7_look q.1 = .ok (q.2.1, q.2.2.1 - q.1) ∧ en_ck q = true := by decide +kernel
def tb_X7_leaks : List en_I := [(0, .aload_n 0, 1, []), (1, .iconst 0, 2, []), (2, .putfield 64, 5, []), (5, .iload_n 1, 6, []), (6, .iconst 0, 7, []), (7, .iconst 5, 8, []), (8, .invokestatic 70, 11, []), (11, .ifCond .ne 6, 14, [17]), (14, .bipush (-2), 16, []), (16, .ireturn, 17, []), (17, .aload_n 0, 18, []), (18, .iload_n 1, 19, []), (19, .iconst (-1), 20, []), (20, .invokevirtual 177, 23, []), (23, .aload_n 0, 24, []), (24, .getfield 142, 27, []), (27, .ireturn, 28, [])]
set_option maxRecDepth 100000 in
theorem tk_X7_leaks : ∀ q ∈ tb_X7_leaks, decode cX7_leaks q.1 = .ok (q.2.1, q.2.2.1 - q.1) ∧ en_ck q = true := by decide +kernel
def tb_X7_leak : List en_I := [(0, .aload_n 0, 1, []), (1, .iconst 0, 2, []), (2, .putfield 64, 5, []), (5, .iload_n 1, 6, []), (6, .iconst 0, 7, []), (7, .iconst 5, 8, []), (8, .invokestatic 70, 11, []), (11, .ifCond .eq 16, 14, [27]), (14, .iload_n 2, 15, []), (15, .ifCond .lt 12, 18, [27]), (18, .iload_n 3, 19, []), (19, .iconst 0, 20, []), (20, .iconst 1, 21, []), (21, .invokestatic 70, 24, []), (24, .ifCond .ne 6, 27, [30]), (27, .bipush (-2), 29, []), (29, .ireturn, 30, []), (30, .aload_n 0, 31, []), (31, .iload_n 1, 32, []), (32, .iload_n 2, 33, []), (33, .invokevirtual 177, 36, []), (36, .iload_n 2, 37, []), (37, .aload_n 0, 38, []), (38, .getfield 142, 41, []), (41, .if_icmp .lt 8, 44, [49]), (44, .bipush (-2), 46, []), (46, .goto 18, 49, [64]), (49, .iload_n 3, 50, []), (50, .ifCond .ne 10, 53, [60]), (53, .aload_n 0, 54, []), (54, .getfield 145, 57, []), (57, .goto 7, 60, [64]), (60, .aload_n 0, 61, []), (61, .getfield 148, 64, []), (64, .ireturn, 65, [])]
set_option maxRecDepth 100000 in
theorem tk_X7_leak : ∀ q ∈ tb_X7_leak, decode cX7_leak q.1 = .ok (q.2.1, q.2.2.1 - q.1) ∧ en_ck q = true := by decide +kernel
def tb_X7_digest : List en_I := [(0, .ldc2_w 181, 3, []), (3, .lstore_n 2, 4, []), (4, .iconst 0, 5, []), (5, .istore 4, 7, []), (7, .iload 4, 9, []), (9, .iconst 3, 10, []), (10, .if_icmp .ge 27, 13, [37]), (13, .lload_n 2, 14, []), (14, .ldc2_w 183, 17, []), (17, .lmul, 18, []), (18, .aload_n 0, 19, []), (19, .getfield 19, 22, []), (22, .iconst 3, 23, []), (23, .iload_n 1, 24, []), (24, .imul, 25, []), (25, .iload 4, 27, []), (27, .iadd, 28, []), (28, .laload, 29, []), (29, .ladd, 30, []), (30, .lstore_n 2, 31, []), (31, .iinc 4 1, 34, []), (34, .goto (-27), 37, [7]), (37, .lload_n 2, 38, []), (38, .ldc2_w 183, 41, []), (41, .lmul, 42, []), (42, .aload_n 0, 43, []), (43, .getfield 23, 46, []), (46, .iload_n 1, 47, []), (47, .laload, 48, []), (48, .ladd, 49, []), (49, .lstore_n 2, 50, []), (50, .lload_n 2, 51, []), (51, .ldc2_w 185, 54, []), (54, .land, 55, []), (55, .l2i, 56, []), (56, .ireturn, 57, [])]
set_option maxRecDepth 100000 in
theorem tk_X7_digest : ∀ q ∈ tb_X7_digest, decode cX7_digest q.1 = .ok (q.2.1, q.2.2.1 - q.1) ∧ en_ck q = true := by decide +kernel
def tb_X7_meets : List en_I := [(0, .aload_n 0, 1, []), (1, .iconst 0, 2, []), (2, .putfield 64, 5, []), (5, .iconst 0, 6, []), (6, .istore_n 1, 7, []), (7, .iconst 0, 8, []), (8, .istore_n 2, 9, []), (9, .iload_n 2, 10, []), (10, .aload_n 0, 11, []), (11, .getfield 67, 14, []), (14, .if_icmp .ge 77, 17, [91]), (17, .iload_n 2, 18, []), (18, .iconst 1, 19, []), (19, .iadd, 20, []), (20, .istore_n 3, 21, []), (21, .iload_n 3, 22, []), (22, .aload_n 0, 23, []), (23, .getfield 67, 26, []), (26, .if_icmp .ge 59, 29, [85]), (29, .iload_n 1, 30, []), (30, .aload_n 0, 31, []), (31, .getfield 26, 34, []), (34, .iload_n 2, 35, []), (35, .iaload, 36, []), (36, .iconst (-1), 37, []), (37, .if_icmp .eq 39, 40, [76]), (40, .aload_n 0, 41, []), (41, .getfield 26, 44, []), (44, .iload_n 3, 45, []), (45, .iaload, 46, []), (46, .iconst (-1), 47, []), (47, .if_icmp .eq 29, 50, [76]), (50, .aload_n 0, 51, []), (51, .iload_n 2, 52, []), (52, .invokevirtual 187, 55, []), (55, .aload_n 0, 56, []), (56, .iload_n 3, 57, []), (57, .invokevirtual 187, 60, []), (60, .if_icmp .ne 16, 63, [76]), (63, .aload_n 0, 64, []), (64, .iload_n 2, 65, []), (65, .iload_n 3, 66, []), (66, .invokevirtual 138, 69, []), (69, .ifCond .ne 7, 72, [76]), (72, .iconst 1, 73, []), (73, .goto 4, 76, [77]), (76, .iconst 0, 77, []), (77, .iadd, 78, []), (78, .istore_n 1, 79, []), (79, .iinc 3 1, 82, []), (82, .goto (-61), 85, [21]), (85, .iinc 2 1, 88, []), (88, .goto (-79), 91, [9]), (91, .iload_n 1, 92, []), (92, .ireturn, 93, [])]
set_option maxRecDepth 100000 in
theorem tk_X7_meets : ∀ q ∈ tb_X7_meets, decode cX7_meets q.1 = .ok (q.2.1, q.2.2.1 - q.1) ∧ en_ck q = true := by decide +kernel
def tb_X7_told : List en_I := [(0, .aload_n 0, 1, []), (1, .iconst 0, 2, []), (2, .putfield 64, 5, []), (5, .iconst 0, 6, []), (6, .istore_n 2, 7, []), (7, .iconst 0, 8, []), (8, .istore_n 3, 9, []), (9, .iload_n 3, 10, []), (10, .aload_n 0, 11, []), (11, .getfield 67, 14, []), (14, .if_icmp .ge 27, 17, [41]), (17, .iload_n 2, 18, []), (18, .aload_n 0, 19, []), (19, .getfield 26, 22, []), (22, .iload_n 3, 23, []), (23, .iaload, 24, []), (24, .iconst (-1), 25, []), (25, .if_icmp .eq 7, 28, [32]), (28, .iconst 1, 29, []), (29, .goto 4, 32, [33]), (32, .iconst 0, 33, []), (33, .iadd, 34, []), (34, .istore_n 2, 35, []), (35, .iinc 3 1, 38, []), (38, .goto (-29), 41, [9]), (41, .iload_n 1, 42, []), (42, .ifCond .ne 10, 45, [52]), (45, .aload_n 0, 46, []), (46, .getfield 67, 49, []), (49, .goto 50, 52, [99]), (52, .iload_n 1, 53, []), (53, .iconst 1, 54, []), (54, .if_icmp .ne 10, 57, [64]), (57, .aload_n 0, 58, []), (58, .getfield 29, 61, []), (61, .goto 38, 64, [99]), (64, .iload_n 1, 65, []), (65, .iconst 2, 66, []), (66, .if_icmp .ne 10, 69, [76]), (69, .aload_n 0, 70, []), (70, .getfield 33, 73, []), (73, .goto 26, 76, [99]), (76, .iload_n 1, 77, []), (77, .iconst 3, 78, []), (78, .if_icmp .ne 7, 81, [85]), (81, .iload_n 2, 82, []), (82, .goto 17, 85, [99]), (85, .iload_n 1, 86, []), (86, .iconst 4, 87, []), (87, .if_icmp .ne 10, 90, [97]), (90, .aload_n 0, 91, []), (91, .getfield 39, 94, []), (94, .goto 5, 97, [99]), (97, .bipush (-2), 99, []), (99, .ireturn, 100, [])]
set_option maxRecDepth 100000 in
theorem tk_X7_told : ∀ q ∈ tb_X7_told, decode cX7_told q.1 = .ok (q.2.1, q.2.2.1 - q.1) ∧ en_ck q = true := by decide +kernel
end
section
/-! fields, constants and arrays by the numbers of the pools -/
def fl_X2 : en_F := [(9, 2, 0, .int, true), (15, 2, 1, .array .int, false), (19, 2, 2, .array .int, false), (22, 2, 3, .array .int, false), (25, 2, 4, .array .int, false), (28, 2, 5, .array .long, false), (32, 2, 6, .array .long, false), (35, 2, 7, .array .int, false)]
theorem fo_X2 {s : State} (h : en_WD s) (args : Array Value) (meth : Method) : ∀ q ∈ fl_X2, en_fok vwCl s args meth RX2 q := List.forall_mem_cons.mpr ⟨⟨RX2, TX2, 8, u_ws RX2 TX2 8, tyX2, rfl, by decide, en_lay h la_X2 args, fun _ h => h, en_wd h 88 (by decide +kernel) rfl args, tyX2_ok, rfl, nmX2, fun hw => Or.inl rfl⟩, List.forall_mem_cons.mpr ⟨⟨RX2, TX2, 8, u_ws RX2 TX2 8, tyX2, rfl, by decide, en_lay h la_X2 args, fun _ h => h, en_wd h 92 (by decide +kernel) rfl args, tyX2_ok, rfl, nmX2, fun hw => absurd hw Bool.false_ne_true⟩, List.forall_mem_cons.mpr ⟨⟨RX2, TX2, 8, u_ws RX2 TX2 8, tyX2, rfl, by decide, en_lay h la_X2 args, fun _ h => h, en_wd h 94 (by decide +kernel) rfl args, tyX2_ok, rfl, nmX2, fun hw => absurd hw Bool.false_ne_true⟩, List.forall_mem_cons.mpr ⟨⟨RX2, TX2, 8, u_ws RX2 TX2 8, tyX2, rfl, by decide, en_lay h la_X2 args, fun _ h => h, en_wd h 97 (by decide +kernel) rfl args, tyX2_ok, rfl, nmX2, fun hw => absurd hw Bool.false_ne_true⟩, List.forall_mem_cons.mpr ⟨⟨RX2, TX2, 8, u_ws RX2 TX2 8, tyX2, rfl, by decide, en_lay h la_X2 args, fun _ h => h, en_wd h 100 (by decide +kernel) rfl args, tyX2_ok, rfl, nmX2, fun hw => absurd hw Bool.false_ne_true⟩, List.forall_mem_cons.mpr ⟨⟨RX2, TX2, 8, u_ws RX2 TX2 8, tyX2, rfl, by decide, en_lay h la_X2 args, fun _ h => h, en_wd h 104 (by decide +kernel) rfl args, tyX2_ok, rfl, nmX2, fun hw => absurd hw Bool.false_ne_true⟩, List.forall_mem_cons.mpr ⟨⟨RX2, TX2, 8, u_ws RX2 TX2 8, tyX2, rfl, by decide, en_lay h la_X2 args, fun _ h => h, en_wd h 106 (by decide +kernel) rfl args, tyX2_ok, rfl, nmX2, fun hw => absurd hw Bool.false_ne_true⟩, List.forall_mem_cons.mpr ⟨⟨RX2, TX2, 8, u_ws RX2 TX2 8, tyX2, rfl, by decide, en_lay h la_X2 args, fun _ h => h, en_wd h 109 (by decide +kernel) rfl args, tyX2_ok, rfl, nmX2, fun hw => absurd hw Bool.false_ne_true⟩, fun _ h => absurd h List.not_mem_nil⟩⟩⟩⟩⟩⟩⟩⟩
def fi_X2 : en_F := [(9, 2, 0, .int, true), (15, 2, 1, .array .int, true), (19, 2, 2, .array .int, true), (22, 2, 3, .array .int, true), (25, 2, 4, .array .int, true), (28, 2, 5, .array .long, true), (32, 2, 6, .array .long, true), (35, 2, 7, .array .int, true)]
theorem fp_X2 {s : State} (h : en_WD s) (args : Array Value) (meth : Method) (hn : meth.name = "<init>") : ∀ q ∈ fi_X2, en_fok vwCl s args meth RX2 q := List.forall_mem_cons.mpr ⟨⟨RX2, TX2, 8, u_ws RX2 TX2 8, tyX2, rfl, by decide, en_lay h la_X2 args, fun _ h => h, en_wd h 88 (by decide +kernel) rfl args, tyX2_ok, rfl, nmX2, fun _ => Or.inl rfl⟩, List.forall_mem_cons.mpr ⟨⟨RX2, TX2, 8, u_ws RX2 TX2 8, tyX2, rfl, by decide, en_lay h la_X2 args, fun _ h => h, en_wd h 92 (by decide +kernel) rfl args, tyX2_ok, rfl, nmX2, fun _ => Or.inr ⟨rfl, hn, rfl⟩⟩, List.forall_mem_cons.mpr ⟨⟨RX2, TX2, 8, u_ws RX2 TX2 8, tyX2, rfl, by decide, en_lay h la_X2 args, fun _ h => h, en_wd h 94 (by decide +kernel) rfl args, tyX2_ok, rfl, nmX2, fun _ => Or.inr ⟨rfl, hn, rfl⟩⟩, List.forall_mem_cons.mpr ⟨⟨RX2, TX2, 8, u_ws RX2 TX2 8, tyX2, rfl, by decide, en_lay h la_X2 args, fun _ h => h, en_wd h 97 (by decide +kernel) rfl args, tyX2_ok, rfl, nmX2, fun _ => Or.inr ⟨rfl, hn, rfl⟩⟩, List.forall_mem_cons.mpr ⟨⟨RX2, TX2, 8, u_ws RX2 TX2 8, tyX2, rfl, by decide, en_lay h la_X2 args, fun _ h => h, en_wd h 100 (by decide +kernel) rfl args, tyX2_ok, rfl, nmX2, fun _ => Or.inr ⟨rfl, hn, rfl⟩⟩, List.forall_mem_cons.mpr ⟨⟨RX2, TX2, 8, u_ws RX2 TX2 8, tyX2, rfl, by decide, en_lay h la_X2 args, fun _ h => h, en_wd h 104 (by decide +kernel) rfl args, tyX2_ok, rfl, nmX2, fun _ => Or.inr ⟨rfl, hn, rfl⟩⟩, List.forall_mem_cons.mpr ⟨⟨RX2, TX2, 8, u_ws RX2 TX2 8, tyX2, rfl, by decide, en_lay h la_X2 args, fun _ h => h, en_wd h 106 (by decide +kernel) rfl args, tyX2_ok, rfl, nmX2, fun _ => Or.inr ⟨rfl, hn, rfl⟩⟩, List.forall_mem_cons.mpr ⟨⟨RX2, TX2, 8, u_ws RX2 TX2 8, tyX2, rfl, by decide, en_lay h la_X2 args, fun _ h => h, en_wd h 109 (by decide +kernel) rfl args, tyX2_ok, rfl, nmX2, fun _ => Or.inr ⟨rfl, hn, rfl⟩⟩, fun _ h => absurd h List.not_mem_nil⟩⟩⟩⟩⟩⟩⟩⟩
def fl_X3 : en_F := [(43, 2, 0, .int, true), (140, 2, 1, .array .int, false), (112, 2, 2, .array .int, false), (143, 2, 3, .array .int, false), (48, 2, 4, .array .int, false), (127, 5, 0, .int, true), (137, 5, 1, .int, true), (134, 5, 2, .array .int, false), (128, 5, 3, .array .int, false), (9, 3, 0, .object "SplitLeaks$Rows", false), (15, 3, 1, .object "SplitLeaks$Weights", false), (22, 3, 2, .object "SplitLeaks$Draws", false), (26, 3, 3, .array .int, false), (30, 3, 4, .array .int, false), (33, 3, 5, .int, true), (37, 3, 6, .array .int, false), (40, 3, 7, .array .int, false)]
theorem fo_X3 {s : State} (h : en_WD s) (args : Array Value) (meth : Method) : ∀ q ∈ fl_X3, en_fok vwCl s args meth RX3 q := List.forall_mem_cons.mpr ⟨⟨RX2, TX2, 8, u_ws RX2 TX2 8, tyX2, rfl, by decide, en_lay h la_X2 args, fun _ h => h, en_wd h 89 (by decide +kernel) rfl args, tyX2_ok, rfl, nmX2, fun hw => Or.inl rfl⟩, List.forall_mem_cons.mpr ⟨⟨RX2, TX2, 8, u_ws RX2 TX2 8, tyX2, rfl, by decide, en_lay h la_X2 args, fun _ h => h, en_wd h 93 (by decide +kernel) rfl args, tyX2_ok, rfl, nmX2, fun hw => absurd hw Bool.false_ne_true⟩, List.forall_mem_cons.mpr ⟨⟨RX2, TX2, 8, u_ws RX2 TX2 8, tyX2, rfl, by decide, en_lay h la_X2 args, fun _ h => h, en_wd h 96 (by decide +kernel) rfl args, tyX2_ok, rfl, nmX2, fun hw => absurd hw Bool.false_ne_true⟩, List.forall_mem_cons.mpr ⟨⟨RX2, TX2, 8, u_ws RX2 TX2 8, tyX2, rfl, by decide, en_lay h la_X2 args, fun _ h => h, en_wd h 99 (by decide +kernel) rfl args, tyX2_ok, rfl, nmX2, fun hw => absurd hw Bool.false_ne_true⟩, List.forall_mem_cons.mpr ⟨⟨RX2, TX2, 8, u_ws RX2 TX2 8, tyX2, rfl, by decide, en_lay h la_X2 args, fun _ h => h, en_wd h 101 (by decide +kernel) rfl args, tyX2_ok, rfl, nmX2, fun hw => absurd hw Bool.false_ne_true⟩, List.forall_mem_cons.mpr ⟨⟨RX5, TX5, 5, u_ws RX5 TX5 5, tyX5, rfl, by decide, en_lay h la_X5 args, fun _ h => h, en_wd h 137 (by decide +kernel) rfl args, tyX5_ok, rfl, nmX5, fun hw => Or.inl rfl⟩, List.forall_mem_cons.mpr ⟨⟨RX5, TX5, 5, u_ws RX5 TX5 5, tyX5, rfl, by decide, en_lay h la_X5 args, fun _ h => h, en_wd h 140 (by decide +kernel) rfl args, tyX5_ok, rfl, nmX5, fun hw => Or.inl rfl⟩, List.forall_mem_cons.mpr ⟨⟨RX5, TX5, 5, u_ws RX5 TX5 5, tyX5, rfl, by decide, en_lay h la_X5 args, fun _ h => h, en_wd h 142 (by decide +kernel) rfl args, tyX5_ok, rfl, nmX5, fun hw => absurd hw Bool.false_ne_true⟩, List.forall_mem_cons.mpr ⟨⟨RX5, TX5, 5, u_ws RX5 TX5 5, tyX5, rfl, by decide, en_lay h la_X5 args, fun _ h => h, en_wd h 145 (by decide +kernel) rfl args, tyX5_ok, rfl, nmX5, fun hw => absurd hw Bool.false_ne_true⟩, List.forall_mem_cons.mpr ⟨⟨RX3, TX3, 8, u_ws RX3 TX3 8, tyX3, rfl, by decide, en_lay h la_X3 args, fun _ h => h, en_wd h 174 (by decide +kernel) rfl args, tyX3_ok, rfl, nmX3, fun hw => absurd hw Bool.false_ne_true⟩, List.forall_mem_cons.mpr ⟨⟨RX3, TX3, 8, u_ws RX3 TX3 8, tyX3, rfl, by decide, en_lay h la_X3 args, fun _ h => h, en_wd h 175 (by decide +kernel) rfl args, tyX3_ok, rfl, nmX3, fun hw => absurd hw Bool.false_ne_true⟩, List.forall_mem_cons.mpr ⟨⟨RX3, TX3, 8, u_ws RX3 TX3 8, tyX3, rfl, by decide, en_lay h la_X3 args, fun _ h => h, en_wd h 176 (by decide +kernel) rfl args, tyX3_ok, rfl, nmX3, fun hw => absurd hw Bool.false_ne_true⟩, List.forall_mem_cons.mpr ⟨⟨RX3, TX3, 8, u_ws RX3 TX3 8, tyX3, rfl, by decide, en_lay h la_X3 args, fun _ h => h, en_wd h 177 (by decide +kernel) rfl args, tyX3_ok, rfl, nmX3, fun hw => absurd hw Bool.false_ne_true⟩, List.forall_mem_cons.mpr ⟨⟨RX3, TX3, 8, u_ws RX3 TX3 8, tyX3, rfl, by decide, en_lay h la_X3 args, fun _ h => h, en_wd h 178 (by decide +kernel) rfl args, tyX3_ok, rfl, nmX3, fun hw => absurd hw Bool.false_ne_true⟩, List.forall_mem_cons.mpr ⟨⟨RX3, TX3, 8, u_ws RX3 TX3 8, tyX3, rfl, by decide, en_lay h la_X3 args, fun _ h => h, en_wd h 179 (by decide +kernel) rfl args, tyX3_ok, rfl, nmX3, fun hw => Or.inl rfl⟩, List.forall_mem_cons.mpr ⟨⟨RX3, TX3, 8, u_ws RX3 TX3 8, tyX3, rfl, by decide, en_lay h la_X3 args, fun _ h => h, en_wd h 180 (by decide +kernel) rfl args, tyX3_ok, rfl, nmX3, fun hw => absurd hw Bool.false_ne_true⟩, List.forall_mem_cons.mpr ⟨⟨RX3, TX3, 8, u_ws RX3 TX3 8, tyX3, rfl, by decide, en_lay h la_X3 args, fun _ h => h, en_wd h 181 (by decide +kernel) rfl args, tyX3_ok, rfl, nmX3, fun hw => absurd hw Bool.false_ne_true⟩, fun _ h => absurd h List.not_mem_nil⟩⟩⟩⟩⟩⟩⟩⟩⟩⟩⟩⟩⟩⟩⟩⟩⟩
def fi_X3 : en_F := [(9, 3, 0, .object "SplitLeaks$Rows", true), (15, 3, 1, .object "SplitLeaks$Weights", true), (22, 3, 2, .object "SplitLeaks$Draws", true), (26, 3, 3, .array .int, true), (30, 3, 4, .array .int, true), (33, 3, 5, .int, true), (37, 3, 6, .array .int, true), (40, 3, 7, .array .int, true)]
theorem fp_X3 {s : State} (h : en_WD s) (args : Array Value) (meth : Method) (hn : meth.name = "<init>") : ∀ q ∈ fi_X3, en_fok vwCl s args meth RX3 q := List.forall_mem_cons.mpr ⟨⟨RX3, TX3, 8, u_ws RX3 TX3 8, tyX3, rfl, by decide, en_lay h la_X3 args, fun _ h => h, en_wd h 174 (by decide +kernel) rfl args, tyX3_ok, rfl, nmX3, fun _ => Or.inr ⟨rfl, hn, rfl⟩⟩, List.forall_mem_cons.mpr ⟨⟨RX3, TX3, 8, u_ws RX3 TX3 8, tyX3, rfl, by decide, en_lay h la_X3 args, fun _ h => h, en_wd h 175 (by decide +kernel) rfl args, tyX3_ok, rfl, nmX3, fun _ => Or.inr ⟨rfl, hn, rfl⟩⟩, List.forall_mem_cons.mpr ⟨⟨RX3, TX3, 8, u_ws RX3 TX3 8, tyX3, rfl, by decide, en_lay h la_X3 args, fun _ h => h, en_wd h 176 (by decide +kernel) rfl args, tyX3_ok, rfl, nmX3, fun _ => Or.inr ⟨rfl, hn, rfl⟩⟩, List.forall_mem_cons.mpr ⟨⟨RX3, TX3, 8, u_ws RX3 TX3 8, tyX3, rfl, by decide, en_lay h la_X3 args, fun _ h => h, en_wd h 177 (by decide +kernel) rfl args, tyX3_ok, rfl, nmX3, fun _ => Or.inr ⟨rfl, hn, rfl⟩⟩, List.forall_mem_cons.mpr ⟨⟨RX3, TX3, 8, u_ws RX3 TX3 8, tyX3, rfl, by decide, en_lay h la_X3 args, fun _ h => h, en_wd h 178 (by decide +kernel) rfl args, tyX3_ok, rfl, nmX3, fun _ => Or.inr ⟨rfl, hn, rfl⟩⟩, List.forall_mem_cons.mpr ⟨⟨RX3, TX3, 8, u_ws RX3 TX3 8, tyX3, rfl, by decide, en_lay h la_X3 args, fun _ h => h, en_wd h 179 (by decide +kernel) rfl args, tyX3_ok, rfl, nmX3, fun _ => Or.inl rfl⟩, List.forall_mem_cons.mpr ⟨⟨RX3, TX3, 8, u_ws RX3 TX3 8, tyX3, rfl, by decide, en_lay h la_X3 args, fun _ h => h, en_wd h 180 (by decide +kernel) rfl args, tyX3_ok, rfl, nmX3, fun _ => Or.inr ⟨rfl, hn, rfl⟩⟩, List.forall_mem_cons.mpr ⟨⟨RX3, TX3, 8, u_ws RX3 TX3 8, tyX3, rfl, by decide, en_lay h la_X3 args, fun _ h => h, en_wd h 181 (by decide +kernel) rfl args, tyX3_ok, rfl, nmX3, fun _ => Or.inr ⟨rfl, hn, rfl⟩⟩, fun _ h => absurd h List.not_mem_nil⟩⟩⟩⟩⟩⟩⟩⟩
def fl_X6 : en_F := [(57, 2, 0, .int, true), (138, 2, 4, .array .int, false), (68, 2, 5, .array .long, false), (72, 2, 6, .array .long, false), (93, 5, 0, .int, true), (90, 5, 1, .int, true), (98, 5, 3, .array .int, false), (176, 4, 0, .array .int, false), (185, 1, 4, .int, true), (188, 1, 5, .int, true), (10, 6, 0, .object "SplitLeaks$Rows", false), (19, 6, 1, .object "SplitLeaks$Weights", false), (28, 6, 2, .object "SplitLeaks$Splitter", false), (35, 6, 3, .object "SplitLeaks$Steps", false), (44, 6, 4, .object "SplitLeaks$Finder", false), (48, 6, 5, .int, true)]
theorem fo_X6 {s : State} (h : en_WD s) (args : Array Value) (meth : Method) : ∀ q ∈ fl_X6, en_fok vwCl s args meth RX6 q := List.forall_mem_cons.mpr ⟨⟨RX2, TX2, 8, u_ws RX2 TX2 8, tyX2, rfl, by decide, en_lay h la_X2 args, fun _ h => h, en_wd h 90 (by decide +kernel) rfl args, tyX2_ok, rfl, nmX2, fun hw => Or.inl rfl⟩, List.forall_mem_cons.mpr ⟨⟨RX2, TX2, 8, u_ws RX2 TX2 8, tyX2, rfl, by decide, en_lay h la_X2 args, fun _ h => h, en_wd h 103 (by decide +kernel) rfl args, tyX2_ok, rfl, nmX2, fun hw => absurd hw Bool.false_ne_true⟩, List.forall_mem_cons.mpr ⟨⟨RX2, TX2, 8, u_ws RX2 TX2 8, tyX2, rfl, by decide, en_lay h la_X2 args, fun _ h => h, en_wd h 105 (by decide +kernel) rfl args, tyX2_ok, rfl, nmX2, fun hw => absurd hw Bool.false_ne_true⟩, List.forall_mem_cons.mpr ⟨⟨RX2, TX2, 8, u_ws RX2 TX2 8, tyX2, rfl, by decide, en_lay h la_X2 args, fun _ h => h, en_wd h 107 (by decide +kernel) rfl args, tyX2_ok, rfl, nmX2, fun hw => absurd hw Bool.false_ne_true⟩, List.forall_mem_cons.mpr ⟨⟨RX5, TX5, 5, u_ws RX5 TX5 5, tyX5, rfl, by decide, en_lay h la_X5 args, fun _ h => h, en_wd h 136 (by decide +kernel) rfl args, tyX5_ok, rfl, nmX5, fun hw => Or.inl rfl⟩, List.forall_mem_cons.mpr ⟨⟨RX5, TX5, 5, u_ws RX5 TX5 5, tyX5, rfl, by decide, en_lay h la_X5 args, fun _ h => h, en_wd h 139 (by decide +kernel) rfl args, tyX5_ok, rfl, nmX5, fun hw => Or.inl rfl⟩, List.forall_mem_cons.mpr ⟨⟨RX5, TX5, 5, u_ws RX5 TX5 5, tyX5, rfl, by decide, en_lay h la_X5 args, fun _ h => h, en_wd h 144 (by decide +kernel) rfl args, tyX5_ok, rfl, nmX5, fun hw => absurd hw Bool.false_ne_true⟩, List.forall_mem_cons.mpr ⟨⟨RX4, TX4, 3, u_ws RX4 TX4 3, tyX4, rfl, by decide, en_lay h la_X4 args, fun _ h => h, en_wd h 206 (by decide +kernel) rfl args, tyX4_ok, rfl, nmX4, fun hw => absurd hw Bool.false_ne_true⟩, List.forall_mem_cons.mpr ⟨⟨RX1, TX1, 6, u_ws RX1 TX1 6, tyX1, rfl, by decide, en_lay h la_X1 args, fun _ h => h, en_wd h 228 (by decide +kernel) rfl args, tyX1_ok, rfl, nmX1, fun hw => Or.inl rfl⟩, List.forall_mem_cons.mpr ⟨⟨RX1, TX1, 6, u_ws RX1 TX1 6, tyX1, rfl, by decide, en_lay h la_X1 args, fun _ h => h, en_wd h 230 (by decide +kernel) rfl args, tyX1_ok, rfl, nmX1, fun hw => Or.inl rfl⟩, List.forall_mem_cons.mpr ⟨⟨RX6, TX6, 6, u_ws RX6 TX6 6, tyX6, rfl, by decide, en_lay h la_X6 args, fun _ h => h, en_wd h 244 (by decide +kernel) rfl args, tyX6_ok, rfl, nmX6, fun hw => absurd hw Bool.false_ne_true⟩, List.forall_mem_cons.mpr ⟨⟨RX6, TX6, 6, u_ws RX6 TX6 6, tyX6, rfl, by decide, en_lay h la_X6 args, fun _ h => h, en_wd h 245 (by decide +kernel) rfl args, tyX6_ok, rfl, nmX6, fun hw => absurd hw Bool.false_ne_true⟩, List.forall_mem_cons.mpr ⟨⟨RX6, TX6, 6, u_ws RX6 TX6 6, tyX6, rfl, by decide, en_lay h la_X6 args, fun _ h => h, en_wd h 246 (by decide +kernel) rfl args, tyX6_ok, rfl, nmX6, fun hw => absurd hw Bool.false_ne_true⟩, List.forall_mem_cons.mpr ⟨⟨RX6, TX6, 6, u_ws RX6 TX6 6, tyX6, rfl, by decide, en_lay h la_X6 args, fun _ h => h, en_wd h 247 (by decide +kernel) rfl args, tyX6_ok, rfl, nmX6, fun hw => absurd hw Bool.false_ne_true⟩, List.forall_mem_cons.mpr ⟨⟨RX6, TX6, 6, u_ws RX6 TX6 6, tyX6, rfl, by decide, en_lay h la_X6 args, fun _ h => h, en_wd h 248 (by decide +kernel) rfl args, tyX6_ok, rfl, nmX6, fun hw => absurd hw Bool.false_ne_true⟩, List.forall_mem_cons.mpr ⟨⟨RX6, TX6, 6, u_ws RX6 TX6 6, tyX6, rfl, by decide, en_lay h la_X6 args, fun _ h => h, en_wd h 249 (by decide +kernel) rfl args, tyX6_ok, rfl, nmX6, fun hw => Or.inl rfl⟩, fun _ h => absurd h List.not_mem_nil⟩⟩⟩⟩⟩⟩⟩⟩⟩⟩⟩⟩⟩⟩⟩⟩
def fi_X6 : en_F := [(10, 6, 0, .object "SplitLeaks$Rows", true), (19, 6, 1, .object "SplitLeaks$Weights", true), (28, 6, 2, .object "SplitLeaks$Splitter", true), (35, 6, 3, .object "SplitLeaks$Steps", true), (44, 6, 4, .object "SplitLeaks$Finder", true), (48, 6, 5, .int, true)]
theorem fp_X6 {s : State} (h : en_WD s) (args : Array Value) (meth : Method) (hn : meth.name = "<init>") : ∀ q ∈ fi_X6, en_fok vwCl s args meth RX6 q := List.forall_mem_cons.mpr ⟨⟨RX6, TX6, 6, u_ws RX6 TX6 6, tyX6, rfl, by decide, en_lay h la_X6 args, fun _ h => h, en_wd h 244 (by decide +kernel) rfl args, tyX6_ok, rfl, nmX6, fun _ => Or.inr ⟨rfl, hn, rfl⟩⟩, List.forall_mem_cons.mpr ⟨⟨RX6, TX6, 6, u_ws RX6 TX6 6, tyX6, rfl, by decide, en_lay h la_X6 args, fun _ h => h, en_wd h 245 (by decide +kernel) rfl args, tyX6_ok, rfl, nmX6, fun _ => Or.inr ⟨rfl, hn, rfl⟩⟩, List.forall_mem_cons.mpr ⟨⟨RX6, TX6, 6, u_ws RX6 TX6 6, tyX6, rfl, by decide, en_lay h la_X6 args, fun _ h => h, en_wd h 246 (by decide +kernel) rfl args, tyX6_ok, rfl, nmX6, fun _ => Or.inr ⟨rfl, hn, rfl⟩⟩, List.forall_mem_cons.mpr ⟨⟨RX6, TX6, 6, u_ws RX6 TX6 6, tyX6, rfl, by decide, en_lay h la_X6 args, fun _ h => h, en_wd h 247 (by decide +kernel) rfl args, tyX6_ok, rfl, nmX6, fun _ => Or.inr ⟨rfl, hn, rfl⟩⟩, List.forall_mem_cons.mpr ⟨⟨RX6, TX6, 6, u_ws RX6 TX6 6, tyX6, rfl, by decide, en_lay h la_X6 args, fun _ h => h, en_wd h 248 (by decide +kernel) rfl args, tyX6_ok, rfl, nmX6, fun _ => Or.inr ⟨rfl, hn, rfl⟩⟩, List.forall_mem_cons.mpr ⟨⟨RX6, TX6, 6, u_ws RX6 TX6 6, tyX6, rfl, by decide, en_lay h la_X6 args, fun _ h => h, en_wd h 249 (by decide +kernel) rfl args, tyX6_ok, rfl, nmX6, fun _ => Or.inl rfl⟩, fun _ h => absurd h List.not_mem_nil⟩⟩⟩⟩⟩⟩
def fl_X1 : en_F := [(48, 2, 0, .int, true), (108, 2, 2, .array .int, false), (89, 2, 3, .array .int, false), (85, 2, 4, .array .int, false), (67, 2, 6, .array .long, false), (9, 1, 0, .object "SplitLeaks$Rows", false), (15, 1, 1, .object "SplitLeaks$Steps", false), (19, 1, 2, .int, true), (23, 1, 3, .int, true), (26, 1, 4, .int, true), (29, 1, 5, .int, true)]
theorem fo_X1 {s : State} (h : en_WD s) (args : Array Value) (meth : Method) : ∀ q ∈ fl_X1, en_fok vwCl s args meth RX1 q := List.forall_mem_cons.mpr ⟨⟨RX2, TX2, 8, u_ws RX2 TX2 8, tyX2, rfl, by decide, en_lay h la_X2 args, fun _ h => h, en_wd h 91 (by decide +kernel) rfl args, tyX2_ok, rfl, nmX2, fun hw => Or.inl rfl⟩, List.forall_mem_cons.mpr ⟨⟨RX2, TX2, 8, u_ws RX2 TX2 8, tyX2, rfl, by decide, en_lay h la_X2 args, fun _ h => h, en_wd h 95 (by decide +kernel) rfl args, tyX2_ok, rfl, nmX2, fun hw => absurd hw Bool.false_ne_true⟩, List.forall_mem_cons.mpr ⟨⟨RX2, TX2, 8, u_ws RX2 TX2 8, tyX2, rfl, by decide, en_lay h la_X2 args, fun _ h => h, en_wd h 98 (by decide +kernel) rfl args, tyX2_ok, rfl, nmX2, fun hw => absurd hw Bool.false_ne_true⟩, List.forall_mem_cons.mpr ⟨⟨RX2, TX2, 8, u_ws RX2 TX2 8, tyX2, rfl, by decide, en_lay h la_X2 args, fun _ h => h, en_wd h 102 (by decide +kernel) rfl args, tyX2_ok, rfl, nmX2, fun hw => absurd hw Bool.false_ne_true⟩, List.forall_mem_cons.mpr ⟨⟨RX2, TX2, 8, u_ws RX2 TX2 8, tyX2, rfl, by decide, en_lay h la_X2 args, fun _ h => h, en_wd h 108 (by decide +kernel) rfl args, tyX2_ok, rfl, nmX2, fun hw => absurd hw Bool.false_ne_true⟩, List.forall_mem_cons.mpr ⟨⟨RX1, TX1, 6, u_ws RX1 TX1 6, tyX1, rfl, by decide, en_lay h la_X1 args, fun _ h => h, en_wd h 223 (by decide +kernel) rfl args, tyX1_ok, rfl, nmX1, fun hw => absurd hw Bool.false_ne_true⟩, List.forall_mem_cons.mpr ⟨⟨RX1, TX1, 6, u_ws RX1 TX1 6, tyX1, rfl, by decide, en_lay h la_X1 args, fun _ h => h, en_wd h 224 (by decide +kernel) rfl args, tyX1_ok, rfl, nmX1, fun hw => absurd hw Bool.false_ne_true⟩, List.forall_mem_cons.mpr ⟨⟨RX1, TX1, 6, u_ws RX1 TX1 6, tyX1, rfl, by decide, en_lay h la_X1 args, fun _ h => h, en_wd h 225 (by decide +kernel) rfl args, tyX1_ok, rfl, nmX1, fun hw => Or.inl rfl⟩, List.forall_mem_cons.mpr ⟨⟨RX1, TX1, 6, u_ws RX1 TX1 6, tyX1, rfl, by decide, en_lay h la_X1 args, fun _ h => h, en_wd h 226 (by decide +kernel) rfl args, tyX1_ok, rfl, nmX1, fun hw => Or.inl rfl⟩, List.forall_mem_cons.mpr ⟨⟨RX1, TX1, 6, u_ws RX1 TX1 6, tyX1, rfl, by decide, en_lay h la_X1 args, fun _ h => h, en_wd h 227 (by decide +kernel) rfl args, tyX1_ok, rfl, nmX1, fun hw => Or.inl rfl⟩, List.forall_mem_cons.mpr ⟨⟨RX1, TX1, 6, u_ws RX1 TX1 6, tyX1, rfl, by decide, en_lay h la_X1 args, fun _ h => h, en_wd h 229 (by decide +kernel) rfl args, tyX1_ok, rfl, nmX1, fun hw => Or.inl rfl⟩, fun _ h => absurd h List.not_mem_nil⟩⟩⟩⟩⟩⟩⟩⟩⟩⟩⟩
def fi_X1 : en_F := [(9, 1, 0, .object "SplitLeaks$Rows", true), (15, 1, 1, .object "SplitLeaks$Steps", true), (19, 1, 2, .int, true), (23, 1, 3, .int, true), (26, 1, 4, .int, true), (29, 1, 5, .int, true)]
theorem fp_X1 {s : State} (h : en_WD s) (args : Array Value) (meth : Method) (hn : meth.name = "<init>") : ∀ q ∈ fi_X1, en_fok vwCl s args meth RX1 q := List.forall_mem_cons.mpr ⟨⟨RX1, TX1, 6, u_ws RX1 TX1 6, tyX1, rfl, by decide, en_lay h la_X1 args, fun _ h => h, en_wd h 223 (by decide +kernel) rfl args, tyX1_ok, rfl, nmX1, fun _ => Or.inr ⟨rfl, hn, rfl⟩⟩, List.forall_mem_cons.mpr ⟨⟨RX1, TX1, 6, u_ws RX1 TX1 6, tyX1, rfl, by decide, en_lay h la_X1 args, fun _ h => h, en_wd h 224 (by decide +kernel) rfl args, tyX1_ok, rfl, nmX1, fun _ => Or.inr ⟨rfl, hn, rfl⟩⟩, List.forall_mem_cons.mpr ⟨⟨RX1, TX1, 6, u_ws RX1 TX1 6, tyX1, rfl, by decide, en_lay h la_X1 args, fun _ h => h, en_wd h 225 (by decide +kernel) rfl args, tyX1_ok, rfl, nmX1, fun _ => Or.inl rfl⟩, List.forall_mem_cons.mpr ⟨⟨RX1, TX1, 6, u_ws RX1 TX1 6, tyX1, rfl, by decide, en_lay h la_X1 args, fun _ h => h, en_wd h 226 (by decide +kernel) rfl args, tyX1_ok, rfl, nmX1, fun _ => Or.inl rfl⟩, List.forall_mem_cons.mpr ⟨⟨RX1, TX1, 6, u_ws RX1 TX1 6, tyX1, rfl, by decide, en_lay h la_X1 args, fun _ h => h, en_wd h 227 (by decide +kernel) rfl args, tyX1_ok, rfl, nmX1, fun _ => Or.inl rfl⟩, List.forall_mem_cons.mpr ⟨⟨RX1, TX1, 6, u_ws RX1 TX1 6, tyX1, rfl, by decide, en_lay h la_X1 args, fun _ h => h, en_wd h 229 (by decide +kernel) rfl args, tyX1_ok, rfl, nmX1, fun _ => Or.inl rfl⟩, fun _ h => absurd h List.not_mem_nil⟩⟩⟩⟩⟩⟩
def fl_X5 : en_F := [(9, 5, 0, .int, true), (15, 5, 1, .int, true), (18, 5, 2, .array .int, false), (22, 5, 3, .array .int, false), (25, 5, 4, .array .int, false)]
theorem fo_X5 {s : State} (h : en_WD s) (args : Array Value) (meth : Method) : ∀ q ∈ fl_X5, en_fok vwCl s args meth RX5 q := List.forall_mem_cons.mpr ⟨⟨RX5, TX5, 5, u_ws RX5 TX5 5, tyX5, rfl, by decide, en_lay h la_X5 args, fun _ h => h, en_wd h 135 (by decide +kernel) rfl args, tyX5_ok, rfl, nmX5, fun hw => Or.inl rfl⟩, List.forall_mem_cons.mpr ⟨⟨RX5, TX5, 5, u_ws RX5 TX5 5, tyX5, rfl, by decide, en_lay h la_X5 args, fun _ h => h, en_wd h 138 (by decide +kernel) rfl args, tyX5_ok, rfl, nmX5, fun hw => Or.inl rfl⟩, List.forall_mem_cons.mpr ⟨⟨RX5, TX5, 5, u_ws RX5 TX5 5, tyX5, rfl, by decide, en_lay h la_X5 args, fun _ h => h, en_wd h 141 (by decide +kernel) rfl args, tyX5_ok, rfl, nmX5, fun hw => absurd hw Bool.false_ne_true⟩, List.forall_mem_cons.mpr ⟨⟨RX5, TX5, 5, u_ws RX5 TX5 5, tyX5, rfl, by decide, en_lay h la_X5 args, fun _ h => h, en_wd h 143 (by decide +kernel) rfl args, tyX5_ok, rfl, nmX5, fun hw => absurd hw Bool.false_ne_true⟩, List.forall_mem_cons.mpr ⟨⟨RX5, TX5, 5, u_ws RX5 TX5 5, tyX5, rfl, by decide, en_lay h la_X5 args, fun _ h => h, en_wd h 146 (by decide +kernel) rfl args, tyX5_ok, rfl, nmX5, fun hw => absurd hw Bool.false_ne_true⟩, fun _ h => absurd h List.not_mem_nil⟩⟩⟩⟩⟩
def fi_X5 : en_F := [(9, 5, 0, .int, true), (15, 5, 1, .int, true), (18, 5, 2, .array .int, true), (22, 5, 3, .array .int, true), (25, 5, 4, .array .int, true)]
theorem fp_X5 {s : State} (h : en_WD s) (args : Array Value) (meth : Method) (hn : meth.name = "<init>") : ∀ q ∈ fi_X5, en_fok vwCl s args meth RX5 q := List.forall_mem_cons.mpr ⟨⟨RX5, TX5, 5, u_ws RX5 TX5 5, tyX5, rfl, by decide, en_lay h la_X5 args, fun _ h => h, en_wd h 135 (by decide +kernel) rfl args, tyX5_ok, rfl, nmX5, fun _ => Or.inl rfl⟩, List.forall_mem_cons.mpr ⟨⟨RX5, TX5, 5, u_ws RX5 TX5 5, tyX5, rfl, by decide, en_lay h la_X5 args, fun _ h => h, en_wd h 138 (by decide +kernel) rfl args, tyX5_ok, rfl, nmX5, fun _ => Or.inl rfl⟩, List.forall_mem_cons.mpr ⟨⟨RX5, TX5, 5, u_ws RX5 TX5 5, tyX5, rfl, by decide, en_lay h la_X5 args, fun _ h => h, en_wd h 141 (by decide +kernel) rfl args, tyX5_ok, rfl, nmX5, fun _ => Or.inr ⟨rfl, hn, rfl⟩⟩, List.forall_mem_cons.mpr ⟨⟨RX5, TX5, 5, u_ws RX5 TX5 5, tyX5, rfl, by decide, en_lay h la_X5 args, fun _ h => h, en_wd h 143 (by decide +kernel) rfl args, tyX5_ok, rfl, nmX5, fun _ => Or.inr ⟨rfl, hn, rfl⟩⟩, List.forall_mem_cons.mpr ⟨⟨RX5, TX5, 5, u_ws RX5 TX5 5, tyX5, rfl, by decide, en_lay h la_X5 args, fun _ h => h, en_wd h 146 (by decide +kernel) rfl args, tyX5_ok, rfl, nmX5, fun _ => Or.inr ⟨rfl, hn, rfl⟩⟩, fun _ h => absurd h List.not_mem_nil⟩⟩⟩⟩⟩
def fl_X0 : en_F := [(7, 0, 0, .long, true)]
theorem fo_X0 {s : State} (h : en_WD s) (args : Array Value) (meth : Method) : ∀ q ∈ fl_X0, en_fok vwCl s args meth RX0 q := List.forall_mem_cons.mpr ⟨⟨RX0, TX0, 1, u_ws RX0 TX0 1, tyX0, rfl, by decide, en_lay h la_X0 args, fun _ h => h, en_wd h 170 (by decide +kernel) rfl args, tyX0_ok, rfl, nmX0, fun hw => Or.inl rfl⟩, fun _ h => absurd h List.not_mem_nil⟩
def fi_X0 : en_F := [(7, 0, 0, .long, true)]
theorem fp_X0 {s : State} (h : en_WD s) (args : Array Value) (meth : Method) (hn : meth.name = "<init>") : ∀ q ∈ fi_X0, en_fok vwCl s args meth RX0 q := List.forall_mem_cons.mpr ⟨⟨RX0, TX0, 1, u_ws RX0 TX0 1, tyX0, rfl, by decide, en_lay h la_X0 args, fun _ h => h, en_wd h 170 (by decide +kernel) rfl args, tyX0_ok, rfl, nmX0, fun _ => Or.inl rfl⟩, fun _ h => absurd h List.not_mem_nil⟩
def fl_X4 : en_F := [(9, 4, 0, .array .int, false), (15, 4, 1, .array .int, false), (18, 4, 2, .array .boolean, false)]
theorem fo_X4 {s : State} (h : en_WD s) (args : Array Value) (meth : Method) : ∀ q ∈ fl_X4, en_fok vwCl s args meth RX4 q := List.forall_mem_cons.mpr ⟨⟨RX4, TX4, 3, u_ws RX4 TX4 3, tyX4, rfl, by decide, en_lay h la_X4 args, fun _ h => h, en_wd h 205 (by decide +kernel) rfl args, tyX4_ok, rfl, nmX4, fun hw => absurd hw Bool.false_ne_true⟩, List.forall_mem_cons.mpr ⟨⟨RX4, TX4, 3, u_ws RX4 TX4 3, tyX4, rfl, by decide, en_lay h la_X4 args, fun _ h => h, en_wd h 207 (by decide +kernel) rfl args, tyX4_ok, rfl, nmX4, fun hw => absurd hw Bool.false_ne_true⟩, List.forall_mem_cons.mpr ⟨⟨RX4, TX4, 3, u_ws RX4 TX4 3, tyX4, rfl, by decide, en_lay h la_X4 args, fun _ h => h, en_wd h 208 (by decide +kernel) rfl args, tyX4_ok, rfl, nmX4, fun hw => absurd hw Bool.false_ne_true⟩, fun _ h => absurd h List.not_mem_nil⟩⟩⟩
def fi_X4 : en_F := [(9, 4, 0, .array .int, true), (15, 4, 1, .array .int, true), (18, 4, 2, .array .boolean, true)]
theorem fp_X4 {s : State} (h : en_WD s) (args : Array Value) (meth : Method) (hn : meth.name = "<init>") : ∀ q ∈ fi_X4, en_fok vwCl s args meth RX4 q := List.forall_mem_cons.mpr ⟨⟨RX4, TX4, 3, u_ws RX4 TX4 3, tyX4, rfl, by decide, en_lay h la_X4 args, fun _ h => h, en_wd h 205 (by decide +kernel) rfl args, tyX4_ok, rfl, nmX4, fun _ => Or.inr ⟨rfl, hn, rfl⟩⟩, List.forall_mem_cons.mpr ⟨⟨RX4, TX4, 3, u_ws RX4 TX4 3, tyX4, rfl, by decide, en_lay h la_X4 args, fun _ h => h, en_wd h 207 (by decide +kernel) rfl args, tyX4_ok, rfl, nmX4, fun _ => Or.inr ⟨rfl, hn, rfl⟩⟩, List.forall_mem_cons.mpr ⟨⟨RX4, TX4, 3, u_ws RX4 TX4 3, tyX4, rfl, by decide, en_lay h la_X4 args, fun _ h => h, en_wd h 208 (by decide +kernel) rfl args, tyX4_ok, rfl, nmX4, fun _ => Or.inr ⟨rfl, hn, rfl⟩⟩, fun _ h => absurd h List.not_mem_nil⟩⟩⟩
def fl_X7 : en_F := [(67, 7, 0, .int, true), (7, 7, 1, .array .int, false), (13, 7, 2, .array .int, false), (16, 7, 3, .array .int, false), (19, 7, 4, .array .long, false), (23, 7, 5, .array .long, false), (26, 7, 6, .array .int, false), (29, 7, 7, .int, true), (33, 7, 8, .int, true), (36, 7, 9, .array .int, false), (39, 7, 10, .int, true), (42, 7, 11, .array .boolean, false), (46, 7, 12, .array .int, false), (64, 7, 13, .int, true), (49, 7, 14, .array .int, false), (52, 7, 15, .array .boolean, false), (89, 7, 16, .long, true), (55, 7, 17, .array .int, false), (58, 7, 18, .array .int, false), (97, 7, 19, .int, true), (61, 7, 20, .array .int, false), (142, 7, 21, .int, true), (145, 7, 22, .int, true), (148, 7, 23, .int, true)]
theorem fo_X7 {s : State} (h : en_WD s) (args : Array Value) (meth : Method) : ∀ q ∈ fl_X7, en_fok vwCl s args meth RX7 q := List.forall_mem_cons.mpr ⟨⟨RX7, TX7, 24, u_ws RX7 TX7 24, tyX7, rfl, by decide, en_lay h la_X7 args, fun _ h => h, en_wd h 747 (by decide +kernel) rfl args, tyX7_ok, rfl, nmX7, fun hw => Or.inl rfl⟩, List.forall_mem_cons.mpr ⟨⟨RX7, TX7, 24, u_ws RX7 TX7 24, tyX7, rfl, by decide, en_lay h la_X7 args, fun _ h => h, en_wd h 748 (by decide +kernel) rfl args, tyX7_ok, rfl, nmX7, fun hw => absurd hw Bool.false_ne_true⟩, List.forall_mem_cons.mpr ⟨⟨RX7, TX7, 24, u_ws RX7 TX7 24, tyX7, rfl, by decide, en_lay h la_X7 args, fun _ h => h, en_wd h 749 (by decide +kernel) rfl args, tyX7_ok, rfl, nmX7, fun hw => absurd hw Bool.false_ne_true⟩, List.forall_mem_cons.mpr ⟨⟨RX7, TX7, 24, u_ws RX7 TX7 24, tyX7, rfl, by decide, en_lay h la_X7 args, fun _ h => h, en_wd h 750 (by decide +kernel) rfl args, tyX7_ok, rfl, nmX7, fun hw => absurd hw Bool.false_ne_true⟩, List.forall_mem_cons.mpr ⟨⟨RX7, TX7, 24, u_ws RX7 TX7 24, tyX7, rfl, by decide, en_lay h la_X7 args, fun _ h => h, en_wd h 751 (by decide +kernel) rfl args, tyX7_ok, rfl, nmX7, fun hw => absurd hw Bool.false_ne_true⟩, List.forall_mem_cons.mpr ⟨⟨RX7, TX7, 24, u_ws RX7 TX7 24, tyX7, rfl, by decide, en_lay h la_X7 args, fun _ h => h, en_wd h 752 (by decide +kernel) rfl args, tyX7_ok, rfl, nmX7, fun hw => absurd hw Bool.false_ne_true⟩, List.forall_mem_cons.mpr ⟨⟨RX7, TX7, 24, u_ws RX7 TX7 24, tyX7, rfl, by decide, en_lay h la_X7 args, fun _ h => h, en_wd h 753 (by decide +kernel) rfl args, tyX7_ok, rfl, nmX7, fun hw => absurd hw Bool.false_ne_true⟩, List.forall_mem_cons.mpr ⟨⟨RX7, TX7, 24, u_ws RX7 TX7 24, tyX7, rfl, by decide, en_lay h la_X7 args, fun _ h => h, en_wd h 754 (by decide +kernel) rfl args, tyX7_ok, rfl, nmX7, fun hw => Or.inl rfl⟩, List.forall_mem_cons.mpr ⟨⟨RX7, TX7, 24, u_ws RX7 TX7 24, tyX7, rfl, by decide, en_lay h la_X7 args, fun _ h => h, en_wd h 755 (by decide +kernel) rfl args, tyX7_ok, rfl, nmX7, fun hw => Or.inl rfl⟩, List.forall_mem_cons.mpr ⟨⟨RX7, TX7, 24, u_ws RX7 TX7 24, tyX7, rfl, by decide, en_lay h la_X7 args, fun _ h => h, en_wd h 756 (by decide +kernel) rfl args, tyX7_ok, rfl, nmX7, fun hw => absurd hw Bool.false_ne_true⟩, List.forall_mem_cons.mpr ⟨⟨RX7, TX7, 24, u_ws RX7 TX7 24, tyX7, rfl, by decide, en_lay h la_X7 args, fun _ h => h, en_wd h 757 (by decide +kernel) rfl args, tyX7_ok, rfl, nmX7, fun hw => Or.inl rfl⟩, List.forall_mem_cons.mpr ⟨⟨RX7, TX7, 24, u_ws RX7 TX7 24, tyX7, rfl, by decide, en_lay h la_X7 args, fun _ h => h, en_wd h 758 (by decide +kernel) rfl args, tyX7_ok, rfl, nmX7, fun hw => absurd hw Bool.false_ne_true⟩, List.forall_mem_cons.mpr ⟨⟨RX7, TX7, 24, u_ws RX7 TX7 24, tyX7, rfl, by decide, en_lay h la_X7 args, fun _ h => h, en_wd h 759 (by decide +kernel) rfl args, tyX7_ok, rfl, nmX7, fun hw => absurd hw Bool.false_ne_true⟩, List.forall_mem_cons.mpr ⟨⟨RX7, TX7, 24, u_ws RX7 TX7 24, tyX7, rfl, by decide, en_lay h la_X7 args, fun _ h => h, en_wd h 760 (by decide +kernel) rfl args, tyX7_ok, rfl, nmX7, fun hw => Or.inl rfl⟩, List.forall_mem_cons.mpr ⟨⟨RX7, TX7, 24, u_ws RX7 TX7 24, tyX7, rfl, by decide, en_lay h la_X7 args, fun _ h => h, en_wd h 761 (by decide +kernel) rfl args, tyX7_ok, rfl, nmX7, fun hw => absurd hw Bool.false_ne_true⟩, List.forall_mem_cons.mpr ⟨⟨RX7, TX7, 24, u_ws RX7 TX7 24, tyX7, rfl, by decide, en_lay h la_X7 args, fun _ h => h, en_wd h 762 (by decide +kernel) rfl args, tyX7_ok, rfl, nmX7, fun hw => absurd hw Bool.false_ne_true⟩, List.forall_mem_cons.mpr ⟨⟨RX7, TX7, 24, u_ws RX7 TX7 24, tyX7, rfl, by decide, en_lay h la_X7 args, fun _ h => h, en_wd h 763 (by decide +kernel) rfl args, tyX7_ok, rfl, nmX7, fun hw => Or.inl rfl⟩, List.forall_mem_cons.mpr ⟨⟨RX7, TX7, 24, u_ws RX7 TX7 24, tyX7, rfl, by decide, en_lay h la_X7 args, fun _ h => h, en_wd h 764 (by decide +kernel) rfl args, tyX7_ok, rfl, nmX7, fun hw => absurd hw Bool.false_ne_true⟩, List.forall_mem_cons.mpr ⟨⟨RX7, TX7, 24, u_ws RX7 TX7 24, tyX7, rfl, by decide, en_lay h la_X7 args, fun _ h => h, en_wd h 765 (by decide +kernel) rfl args, tyX7_ok, rfl, nmX7, fun hw => absurd hw Bool.false_ne_true⟩, List.forall_mem_cons.mpr ⟨⟨RX7, TX7, 24, u_ws RX7 TX7 24, tyX7, rfl, by decide, en_lay h la_X7 args, fun _ h => h, en_wd h 766 (by decide +kernel) rfl args, tyX7_ok, rfl, nmX7, fun hw => Or.inl rfl⟩, List.forall_mem_cons.mpr ⟨⟨RX7, TX7, 24, u_ws RX7 TX7 24, tyX7, rfl, by decide, en_lay h la_X7 args, fun _ h => h, en_wd h 767 (by decide +kernel) rfl args, tyX7_ok, rfl, nmX7, fun hw => absurd hw Bool.false_ne_true⟩, List.forall_mem_cons.mpr ⟨⟨RX7, TX7, 24, u_ws RX7 TX7 24, tyX7, rfl, by decide, en_lay h la_X7 args, fun _ h => h, en_wd h 768 (by decide +kernel) rfl args, tyX7_ok, rfl, nmX7, fun hw => Or.inl rfl⟩, List.forall_mem_cons.mpr ⟨⟨RX7, TX7, 24, u_ws RX7 TX7 24, tyX7, rfl, by decide, en_lay h la_X7 args, fun _ h => h, en_wd h 769 (by decide +kernel) rfl args, tyX7_ok, rfl, nmX7, fun hw => Or.inl rfl⟩, List.forall_mem_cons.mpr ⟨⟨RX7, TX7, 24, u_ws RX7 TX7 24, tyX7, rfl, by decide, en_lay h la_X7 args, fun _ h => h, en_wd h 770 (by decide +kernel) rfl args, tyX7_ok, rfl, nmX7, fun hw => Or.inl rfl⟩, fun _ h => absurd h List.not_mem_nil⟩⟩⟩⟩⟩⟩⟩⟩⟩⟩⟩⟩⟩⟩⟩⟩⟩⟩⟩⟩⟩⟩⟩⟩
def fi_X7 : en_F := [(67, 7, 0, .int, true), (7, 7, 1, .array .int, true), (13, 7, 2, .array .int, true), (16, 7, 3, .array .int, true), (19, 7, 4, .array .long, true), (23, 7, 5, .array .long, true), (26, 7, 6, .array .int, true), (29, 7, 7, .int, true), (33, 7, 8, .int, true), (36, 7, 9, .array .int, true), (39, 7, 10, .int, true), (42, 7, 11, .array .boolean, true), (46, 7, 12, .array .int, true), (64, 7, 13, .int, true), (49, 7, 14, .array .int, true), (52, 7, 15, .array .boolean, true), (89, 7, 16, .long, true), (55, 7, 17, .array .int, true), (58, 7, 18, .array .int, true), (97, 7, 19, .int, true), (61, 7, 20, .array .int, true), (142, 7, 21, .int, true), (145, 7, 22, .int, true), (148, 7, 23, .int, true)]
theorem fp_X7 {s : State} (h : en_WD s) (args : Array Value) (meth : Method) (hn : meth.name = "<init>") : ∀ q ∈ fi_X7, en_fok vwCl s args meth RX7 q := List.forall_mem_cons.mpr ⟨⟨RX7, TX7, 24, u_ws RX7 TX7 24, tyX7, rfl, by decide, en_lay h la_X7 args, fun _ h => h, en_wd h 747 (by decide +kernel) rfl args, tyX7_ok, rfl, nmX7, fun _ => Or.inl rfl⟩, List.forall_mem_cons.mpr ⟨⟨RX7, TX7, 24, u_ws RX7 TX7 24, tyX7, rfl, by decide, en_lay h la_X7 args, fun _ h => h, en_wd h 748 (by decide +kernel) rfl args, tyX7_ok, rfl, nmX7, fun _ => Or.inr ⟨rfl, hn, rfl⟩⟩, List.forall_mem_cons.mpr ⟨⟨RX7, TX7, 24, u_ws RX7 TX7 24, tyX7, rfl, by decide, en_lay h la_X7 args, fun _ h => h, en_wd h 749 (by decide +kernel) rfl args, tyX7_ok, rfl, nmX7, fun _ => Or.inr ⟨rfl, hn, rfl⟩⟩, List.forall_mem_cons.mpr ⟨⟨RX7, TX7, 24, u_ws RX7 TX7 24, tyX7, rfl, by decide, en_lay h la_X7 args, fun _ h => h, en_wd h 750 (by decide +kernel) rfl args, tyX7_ok, rfl, nmX7, fun _ => Or.inr ⟨rfl, hn, rfl⟩⟩, List.forall_mem_cons.mpr ⟨⟨RX7, TX7, 24, u_ws RX7 TX7 24, tyX7, rfl, by decide, en_lay h la_X7 args, fun _ h => h, en_wd h 751 (by decide +kernel) rfl args, tyX7_ok, rfl, nmX7, fun _ => Or.inr ⟨rfl, hn, rfl⟩⟩, List.forall_mem_cons.mpr ⟨⟨RX7, TX7, 24, u_ws RX7 TX7 24, tyX7, rfl, by decide, en_lay h la_X7 args, fun _ h => h, en_wd h 752 (by decide +kernel) rfl args, tyX7_ok, rfl, nmX7, fun _ => Or.inr ⟨rfl, hn, rfl⟩⟩, List.forall_mem_cons.mpr ⟨⟨RX7, TX7, 24, u_ws RX7 TX7 24, tyX7, rfl, by decide, en_lay h la_X7 args, fun _ h => h, en_wd h 753 (by decide +kernel) rfl args, tyX7_ok, rfl, nmX7, fun _ => Or.inr ⟨rfl, hn, rfl⟩⟩, List.forall_mem_cons.mpr ⟨⟨RX7, TX7, 24, u_ws RX7 TX7 24, tyX7, rfl, by decide, en_lay h la_X7 args, fun _ h => h, en_wd h 754 (by decide +kernel) rfl args, tyX7_ok, rfl, nmX7, fun _ => Or.inl rfl⟩, List.forall_mem_cons.mpr ⟨⟨RX7, TX7, 24, u_ws RX7 TX7 24, tyX7, rfl, by decide, en_lay h la_X7 args, fun _ h => h, en_wd h 755 (by decide +kernel) rfl args, tyX7_ok, rfl, nmX7, fun _ => Or.inl rfl⟩, List.forall_mem_cons.mpr ⟨⟨RX7, TX7, 24, u_ws RX7 TX7 24, tyX7, rfl, by decide, en_lay h la_X7 args, fun _ h => h, en_wd h 756 (by decide +kernel) rfl args, tyX7_ok, rfl, nmX7, fun _ => Or.inr ⟨rfl, hn, rfl⟩⟩, List.forall_mem_cons.mpr ⟨⟨RX7, TX7, 24, u_ws RX7 TX7 24, tyX7, rfl, by decide, en_lay h la_X7 args, fun _ h => h, en_wd h 757 (by decide +kernel) rfl args, tyX7_ok, rfl, nmX7, fun _ => Or.inl rfl⟩, List.forall_mem_cons.mpr ⟨⟨RX7, TX7, 24, u_ws RX7 TX7 24, tyX7, rfl, by decide, en_lay h la_X7 args, fun _ h => h, en_wd h 758 (by decide +kernel) rfl args, tyX7_ok, rfl, nmX7, fun _ => Or.inr ⟨rfl, hn, rfl⟩⟩, List.forall_mem_cons.mpr ⟨⟨RX7, TX7, 24, u_ws RX7 TX7 24, tyX7, rfl, by decide, en_lay h la_X7 args, fun _ h => h, en_wd h 759 (by decide +kernel) rfl args, tyX7_ok, rfl, nmX7, fun _ => Or.inr ⟨rfl, hn, rfl⟩⟩, List.forall_mem_cons.mpr ⟨⟨RX7, TX7, 24, u_ws RX7 TX7 24, tyX7, rfl, by decide, en_lay h la_X7 args, fun _ h => h, en_wd h 760 (by decide +kernel) rfl args, tyX7_ok, rfl, nmX7, fun _ => Or.inl rfl⟩, List.forall_mem_cons.mpr ⟨⟨RX7, TX7, 24, u_ws RX7 TX7 24, tyX7, rfl, by decide, en_lay h la_X7 args, fun _ h => h, en_wd h 761 (by decide +kernel) rfl args, tyX7_ok, rfl, nmX7, fun _ => Or.inr ⟨rfl, hn, rfl⟩⟩, List.forall_mem_cons.mpr ⟨⟨RX7, TX7, 24, u_ws RX7 TX7 24, tyX7, rfl, by decide, en_lay h la_X7 args, fun _ h => h, en_wd h 762 (by decide +kernel) rfl args, tyX7_ok, rfl, nmX7, fun _ => Or.inr ⟨rfl, hn, rfl⟩⟩, List.forall_mem_cons.mpr ⟨⟨RX7, TX7, 24, u_ws RX7 TX7 24, tyX7, rfl, by decide, en_lay h la_X7 args, fun _ h => h, en_wd h 763 (by decide +kernel) rfl args, tyX7_ok, rfl, nmX7, fun _ => Or.inl rfl⟩, List.forall_mem_cons.mpr ⟨⟨RX7, TX7, 24, u_ws RX7 TX7 24, tyX7, rfl, by decide, en_lay h la_X7 args, fun _ h => h, en_wd h 764 (by decide +kernel) rfl args, tyX7_ok, rfl, nmX7, fun _ => Or.inr ⟨rfl, hn, rfl⟩⟩, List.forall_mem_cons.mpr ⟨⟨RX7, TX7, 24, u_ws RX7 TX7 24, tyX7, rfl, by decide, en_lay h la_X7 args, fun _ h => h, en_wd h 765 (by decide +kernel) rfl args, tyX7_ok, rfl, nmX7, fun _ => Or.inr ⟨rfl, hn, rfl⟩⟩, List.forall_mem_cons.mpr ⟨⟨RX7, TX7, 24, u_ws RX7 TX7 24, tyX7, rfl, by decide, en_lay h la_X7 args, fun _ h => h, en_wd h 766 (by decide +kernel) rfl args, tyX7_ok, rfl, nmX7, fun _ => Or.inl rfl⟩, List.forall_mem_cons.mpr ⟨⟨RX7, TX7, 24, u_ws RX7 TX7 24, tyX7, rfl, by decide, en_lay h la_X7 args, fun _ h => h, en_wd h 767 (by decide +kernel) rfl args, tyX7_ok, rfl, nmX7, fun _ => Or.inr ⟨rfl, hn, rfl⟩⟩, List.forall_mem_cons.mpr ⟨⟨RX7, TX7, 24, u_ws RX7 TX7 24, tyX7, rfl, by decide, en_lay h la_X7 args, fun _ h => h, en_wd h 768 (by decide +kernel) rfl args, tyX7_ok, rfl, nmX7, fun _ => Or.inl rfl⟩, List.forall_mem_cons.mpr ⟨⟨RX7, TX7, 24, u_ws RX7 TX7 24, tyX7, rfl, by decide, en_lay h la_X7 args, fun _ h => h, en_wd h 769 (by decide +kernel) rfl args, tyX7_ok, rfl, nmX7, fun _ => Or.inl rfl⟩, List.forall_mem_cons.mpr ⟨⟨RX7, TX7, 24, u_ws RX7 TX7 24, tyX7, rfl, by decide, en_lay h la_X7 args, fun _ h => h, en_wd h 770 (by decide +kernel) rfl args, tyX7_ok, rfl, nmX7, fun _ => Or.inl rfl⟩, fun _ h => absurd h List.not_mem_nil⟩⟩⟩⟩⟩⟩⟩⟩⟩⟩⟩⟩⟩⟩⟩⟩⟩⟩⟩⟩⟩⟩⟩⟩
def cn_X0 : List (Nat × Value) := [(17, .long (6364136223846793005)), (19, .long (1442695040888963407))]
theorem co_X0 {s : State} (h : en_WD s) (args : Array Value) : ∀ q ∈ cn_X0, en_cok s args RX0 q := List.forall_mem_cons.mpr ⟨en_wd h 349 (by decide +kernel) rfl args, List.forall_mem_cons.mpr ⟨en_wd h 350 (by decide +kernel) rfl args, fun _ h => absurd h List.not_mem_nil⟩⟩
def cn_X1 : List (Nat × Value) := []
theorem co_X1 {s : State} (h : en_WD s) (args : Array Value) : ∀ q ∈ cn_X1, en_cok s args RX1 q := fun _ h => absurd h List.not_mem_nil
def cn_X2 : List (Nat × Value) := [(70, .long (7)), (72, .long (31)), (74, .long (63))]
theorem co_X2 {s : State} (h : en_WD s) (args : Array Value) : ∀ q ∈ cn_X2, en_cok s args RX2 q := List.forall_mem_cons.mpr ⟨en_wd h 607 (by decide +kernel) rfl args, List.forall_mem_cons.mpr ⟨en_wd h 608 (by decide +kernel) rfl args, List.forall_mem_cons.mpr ⟨en_wd h 609 (by decide +kernel) rfl args, fun _ h => absurd h List.not_mem_nil⟩⟩⟩
def cn_X3 : List (Nat × Value) := []
theorem co_X3 {s : State} (h : en_WD s) (args : Array Value) : ∀ q ∈ cn_X3, en_cok s args RX3 q := fun _ h => absurd h List.not_mem_nil
def cn_X4 : List (Nat × Value) := []
theorem co_X4 {s : State} (h : en_WD s) (args : Array Value) : ∀ q ∈ cn_X4, en_cok s args RX4 q := fun _ h => absurd h List.not_mem_nil
def cn_X5 : List (Nat × Value) := []
theorem co_X5 {s : State} (h : en_WD s) (args : Array Value) : ∀ q ∈ cn_X5, en_cok s args RX5 q := fun _ h => absurd h List.not_mem_nil
def cn_X6 : List (Nat × Value) := [(56, .int (100001)), (75, .long (-1))]
theorem co_X6 {s : State} (h : en_WD s) (args : Array Value) : ∀ q ∈ cn_X6, en_cok s args RX6 q := List.forall_mem_cons.mpr ⟨en_wd h 270 (by decide +kernel) rfl args, List.forall_mem_cons.mpr ⟨en_wd h 288 (by decide +kernel) rfl args, fun _ h => absurd h List.not_mem_nil⟩⟩
def cn_X7 : List (Nat × Value) := [(74, .int (100000)), (79, .long (-1)), (93, .long (6364136223846793005)), (95, .long (1442695040888963407)), (181, .long (7)), (183, .long (31)), (185, .long (63))]
theorem co_X7 {s : State} (h : en_WD s) (args : Array Value) : ∀ q ∈ cn_X7, en_cok s args RX7 q := List.forall_mem_cons.mpr ⟨en_wd h 831 (by decide +kernel) rfl args, List.forall_mem_cons.mpr ⟨en_wd h 844 (by decide +kernel) rfl args, List.forall_mem_cons.mpr ⟨en_wd h 880 (by decide +kernel) rfl args, List.forall_mem_cons.mpr ⟨en_wd h 881 (by decide +kernel) rfl args, List.forall_mem_cons.mpr ⟨en_wd h 1003 (by decide +kernel) rfl args, List.forall_mem_cons.mpr ⟨en_wd h 1004 (by decide +kernel) rfl args, List.forall_mem_cons.mpr ⟨en_wd h 1005 (by decide +kernel) rfl args, fun _ h => absurd h List.not_mem_nil⟩⟩⟩⟩⟩⟩⟩
def cn_L : List (Nat × Value) := [(27, .long (4294967295))]
theorem co_L {s : State} (h : en_WD s) (args : Array Value) : ∀ q ∈ cn_L, en_cok s args RL q := List.forall_mem_cons.mpr ⟨en_wd h 1010 (by decide +kernel) rfl args, fun _ h => absurd h List.not_mem_nil⟩
theorem en_arr {s : State} (h : en_WD s) (args : Array Value) : (Jvm.Cond.arrayClass .int).before args s = true ∧ (Jvm.Cond.arrayClass .long).before args s = true ∧ (Jvm.Cond.arrayClass .boolean).before args s = true := ⟨en_wd h 127 (by decide +kernel) rfl args, en_wd h 128 (by decide +kernel) rfl args, en_wd h 216 (by decide +kernel) rfl args⟩
end
section
/-! contracts by a picture: what stands at first, what must hold, what stands then -/
def en_f {σ : Type} (A : σ → List Value) (B : σ → List va_E) (pre : σ → Prop) (post : σ → Option Value → List va_E → Prop) : List Value → List va_E → (Option Value → List va_E → Prop) → Prop := fun av ws G =>
  ∃ x : σ, av = A x ∧ ws = B x ∧ pre x ∧ ∀ v w, post x v w → G v w
theorem en_f_ln {σ : Type} {A : σ → List Value} {B : σ → List va_E} {pre : σ → Prop} {post : σ → Option Value → List va_E → Prop} {n : Nat} (h : ∀ x, en_sum (A x) ≤ n) : ∀ av ws G, en_f A B pre post av ws G → en_sum av ≤ n := by
  rintro _ _ G ⟨x, rfl, rfl, -⟩
  exact h x
/-- what a method's body owes -/
def en_B {σ : Type} (t : en_T) (A : σ → List Value) (B : σ → List va_E) (pre : σ → Prop) (post : σ → Option Value → List va_E → Prop) : Prop :=
  ∀ x, pre x → ∀ G : Option Value → List va_E → Prop, (∀ v w, post x v w → G v w) → ∀ OK : en_K, en_Run t G OK → OK 0 0 0 (en_args 0 (A x)) [] (B x)
theorem en_f_bd {σ : Type} {A : σ → List Value} {B : σ → List va_E} {pre : σ → Prop} {post : σ → Option Value → List va_E → Prop} {t : en_T} (h : en_B t A B pre post) :
    ∀ (av : List Value) (ws : List va_E) (G : Option Value → List va_E → Prop), en_f A B pre post av ws G → ∀ OK : en_K, en_Run t G OK → OK 0 0 0 (en_args 0 av) [] ws := by
  rintro _ _ G ⟨x, rfl, rfl, hp, hG⟩ OK hr
  exact h x hp G hG OK hr
/-- a loop that goes up -/
theorem lp_up (P : Nat → Prop) (n : Nat) (he : P n) (hs : ∀ i, i < n → P (i + 1) → P i) : ∀ i, i ≤ n → P i := by
  intro i hi
  obtain ⟨k, hk⟩ : ∃ k, n - i = k := ⟨_, rfl⟩
  induction k generalizing i with
  | zero => have : i = n := by omega
            subst this; exact he
  | succ k ih => exact hs i (by omega) (ih (i + 1) (by omega) (by omega))
/-- a boolean's number -/
def bl (p : Prop) [Decidable p] : Int32 := if p then 1 else 0
theorem bl_t {p : Prop} [Decidable p] (h : p) : bl p = 1 := if_pos h
theorem bl_f {p : Prop} [Decidable p] (h : ¬ p) : bl p = 0 := if_neg h
theorem bl_0 {p : Prop} [Decidable p] : bl p = 0 ↔ ¬ p := by
  unfold bl
  split
  · rename_i h; exact ⟨fun z => absurd z (by decide), fun z => absurd h z⟩
  · rename_i h; exact ⟨fun _ => h, fun _ => rfl⟩
theorem bl_c {p q : Prop} [Decidable p] [Decidable q] (h : p ↔ q) : bl p = bl q := by
  by_cases hp : p
  · rw [bl_t hp, bl_t (h.mp hp)]
  · rw [bl_f hp, bl_f (fun z => hp (h.mpr z))]
theorem bl_b {p : Prop} [Decidable p] : narrow .boolean (.int (bl p)) = .int (bl p) := by
  unfold bl
  split <;> rfl
/-- an answer of a boolean method is tested -/
theorem bl_br {p : Prop} [Decidable p] {A B : Prop} (a : ¬ p → A) (b : p → B) : (bl p = 0 → A) ∧ (¬ bl p = 0 → B) := by
  rw [bl_0]
  exact ⟨a, fun h => b (Decidable.of_not_not h)⟩
theorem bl_br2 {p : Prop} [Decidable p] {A B : Prop} (a : p → A) (b : ¬ p → B) : (¬ bl p = 0 → A) ∧ (bl p = 0 → B) := by
  rw [bl_0]
  exact ⟨fun h => a (Decidable.of_not_not h), b⟩
/-- how many numbers below n have p -/
def ct (p : Nat → Prop) [DecidablePred p] : Nat → Nat
  | 0 => 0
  | n + 1 => if p n then ct p n + 1 else ct p n
theorem ct_le (p : Nat → Prop) [DecidablePred p] : ∀ n, ct p n ≤ n
  | 0 => Nat.le_refl 0
  | n + 1 => by
    have := ct_le p n
    simp only [ct]
    split <;> omega
theorem ct_t {p : Nat → Prop} [DecidablePred p] {n : Nat} (h : p n) : ct p (n + 1) = ct p n + 1 := if_pos h
theorem ct_f {p : Nat → Prop} [DecidablePred p] {n : Nat} (h : ¬ p n) : ct p (n + 1) = ct p n := if_neg h
theorem ct_c {p q : Nat → Prop} [DecidablePred p] [DecidablePred q] : ∀ {n : Nat}, (∀ i, i < n → (p i ↔ q i)) → ct p n = ct q n
  | 0, _ => rfl
  | n + 1, h => by
    have h1 := ct_c (n := n) (fun i hi => h i (by omega))
    by_cases hp : p n
    · rw [ct_t hp, ct_t ((h n (by omega)).mp hp), h1]
    · rw [ct_f hp, ct_f (fun z => hp ((h n (by omega)).mpr z)), h1]
/-! THE CLASS'S WORLD: ints (0 nearness, 1 rows.count, 2 weights.count, 3 weights.sum, 4 splitter.length, 5 wanted, 6 found, 7 first, 8 second), z, the arrays by their places -/
abbrev Sx : Type := (Nat → Int32) × Int64 × (Nat → Nat → Int32) × (Nat → Nat → Int64)
def wX (S : Sx) : List va_E := [
  .inr (6, [.ref 1, .ref 9, .ref 13, .ref 19, .ref 23, .int (S.1 0)]),
  .inr (2, [.int (S.1 1), .ref 2, .ref 3, .ref 4, .ref 5, .ref 6, .ref 7, .ref 8]),
  .inl (0, 100, .inl (S.2.2.1 2)), .inl (0, 100, .inl (S.2.2.1 3)), .inl (0, 100, .inl (S.2.2.1 4)), .inl (0, 100, .inl (S.2.2.1 5)),
  .inl (1, 300, .inr (.inl (S.2.2.2 6))), .inl (1, 100, .inr (.inl (S.2.2.2 7))), .inl (0, 100, .inl (S.2.2.1 8)),
  .inr (5, [.int (S.1 2), .int (S.1 3), .ref 10, .ref 11, .ref 12]),
  .inl (0, 4, .inl (S.2.2.1 10)), .inl (0, 4, .inl (S.2.2.1 11)), .inl (0, 4, .inl (S.2.2.1 12)),
  .inr (3, [.ref 1, .ref 9, .ref 14, .ref 15, .ref 16, .int (S.1 4), .ref 17, .ref 18]),
  .inr (0, [.long S.2.1]),
  .inl (0, 100, .inl (S.2.2.1 15)), .inl (0, 100, .inl (S.2.2.1 16)), .inl (0, 4, .inl (S.2.2.1 17)), .inl (0, 4, .inl (S.2.2.1 18)),
  .inr (4, [.ref 20, .ref 21, .ref 22]),
  .inl (0, 8, .inl (S.2.2.1 20)), .inl (0, 8, .inl (S.2.2.1 21)), .inl (2, 800, .inl (S.2.2.1 22)),
  .inr (1, [.ref 1, .ref 19, .int (S.1 5), .int (S.1 6), .int (S.1 7), .int (S.1 8)])]
def xi (S : Sx) (k : Nat) (v : Int32) : Sx := (fun j => if j = k then v else S.1 j, S.2)
def xz (S : Sx) (v : Int64) : Sx := (S.1, v, S.2.2)
def xa (S : Sx) (k : Nat) (f : Nat → Int32) : Sx := (S.1, S.2.1, fun j => if j = k then f else S.2.2.1 j, S.2.2.2)
def xl (S : Sx) (k : Nat) (f : Nat → Int64) : Sx := (S.1, S.2.1, S.2.2.1, fun j => if j = k then f else S.2.2.2 j)
/-- the field order of the classes is as the world has it -/
theorem wX_len (S : Sx) : (wX S).length = 24 := rfl
end
section
/-! pure words that both the class and its reference are told by -/
theorem mul3 (a c : Nat) : nI a * Int32.ofInt 3 + nI c = nI (a * 3 + c) := by rw [← nI_add, ← pk_mul]; rfl
/-- like numbers in all columns, the same words -/
abbrev alike (N : Nat → Int64) (Wd : Nat → Int64) (a b : Nat) : Prop := N (a * 3) = N (b * 3) ∧ N (a * 3 + 1) = N (b * 3 + 1) ∧ N (a * 3 + 2) = N (b * 3 + 2) ∧ Wd a = Wd b
/-- the first number below n that has p -/
def fs (p : Nat → Prop) [DecidablePred p] : Nat → Option Nat
  | 0 => none
  | n + 1 => match fs p n with
    | some r => some r
    | none => if p n then some n else none
def oI : Option Nat → Int32
  | none => -1
  | some r => nI r
theorem fs_s {p : Nat → Prop} [DecidablePred p] {i r : Nat} (h : fs p i = some r) : ∀ n, i ≤ n → fs p n = some r := by
  intro n hn
  obtain ⟨k, rfl⟩ : ∃ k, n = i + k := ⟨n - i, by omega⟩
  induction k with
  | zero => exact h
  | succ k ih =>
    have := ih (by omega)
    show (match fs p (i + k) with
      | some r => some r
      | none => if p (i + k) then some (i + k) else none) = some r
    rw [this]
theorem fs_t {p : Nat → Prop} [DecidablePred p] {i : Nat} (h : fs p i = none) (hp : p i) : fs p (i + 1) = some i := by
  show (match fs p i with
      | some r => some r
      | none => if p i then some i else none) = some i
  rw [h, if_pos hp]
theorem fs_f {p : Nat → Prop} [DecidablePred p] {i : Nat} (h : fs p i = none) (hp : ¬ p i) : fs p (i + 1) = none := by
  show (match fs p i with
      | some r => some r
      | none => if p i then some i else none) = none
  rw [h, if_neg hp]
theorem fs_lt {p : Nat → Prop} [DecidablePred p] : ∀ {n r : Nat}, fs p n = some r → r < n ∧ p r
  | 0, r, h => by cases h
  | n + 1, r, h => by
    have h2 : (match fs p n with
      | some r => some r
      | none => if p n then some n else none) = some r := h
    cases hf : fs p n with
    | some q =>
      rw [hf] at h2
      cases h2
      have := fs_lt hf
      exact ⟨by omega, this.2⟩
    | none =>
      rw [hf] at h2
      by_cases hp : p n
      · rw [if_pos hp] at h2
        cases h2
        exact ⟨by omega, hp⟩
      · rw [if_neg hp] at h2
        cases h2
theorem fs_no {p : Nat → Prop} [DecidablePred p] : ∀ {n : Nat}, fs p n = none → ∀ j, j < n → ¬ p j
  | 0, h, j, hj => by omega
  | n + 1, h, j, hj => by
    have h2 : (match fs p n with
      | some r => some r
      | none => if p n then some n else none) = none := h
    cases hf : fs p n with
    | some q => rw [hf] at h2; cases h2
    | none =>
      rw [hf] at h2
      by_cases hp : p n
      · rw [if_pos hp] at h2; cases h2
      · by_cases hj2 : j < n
        · exact fs_no hf j hj2
        · have : j = n := by omega
          subst this; exact hp
theorem fs_c {p q : Nat → Prop} [DecidablePred p] [DecidablePred q] : ∀ {n : Nat}, (∀ i, i < n → (p i ↔ q i)) → fs p n = fs q n
  | 0, _ => rfl
  | n + 1, h => by
    show (match fs p n with
      | some r => some r
      | none => if p n then some n else none) = (match fs q n with
      | some r => some r
      | none => if q n then some n else none)
    rw [fs_c (n := n) (fun i hi => h i (by omega))]
    cases fs q n with
    | some r => rfl
    | none =>
      by_cases hp : p n
      · rw [if_pos hp, if_pos ((h n (by omega)).mp hp)]
      · rw [if_neg hp, if_neg (fun z => hp ((h n (by omega)).mpr z))]
/-- is there one below n -/
def ex (p : Nat → Prop) (n : Nat) : Prop := ∃ j, j < n ∧ p j
theorem ex_fs {p : Nat → Prop} [DecidablePred p] {n : Nat} : ex p n ↔ fs p n ≠ none := by
  constructor
  · rintro ⟨j, hj, hp⟩ h
    exact fs_no h j hj hp
  · intro h
    cases hf : fs p n with
    | none => exact absurd hf h
    | some r => exact ⟨r, fs_lt hf⟩
/-- sums below n -/
def sm (f : Nat → Nat) : Nat → Nat
  | 0 => 0
  | n + 1 => sm f n + f n
theorem sm_c {f g : Nat → Nat} : ∀ {n : Nat}, (∀ i, i < n → f i = g i) → sm f n = sm g n
  | 0, _ => rfl
  | n + 1, h => by
    show sm f n + f n = sm g n + g n
    rw [sm_c (n := n) (fun i hi => h i (by omega)), h n (by omega)]
theorem ct_0 {p : Nat → Prop} [DecidablePred p] : ∀ {n : Nat}, (∀ i, i < n → ¬ p i) → ct p n = 0
  | 0, _ => rfl
  | n + 1, h => by rw [ct_f (h n (by omega))]; exact ct_0 (fun i hi => h i (by omega))
/-- the digest of a row -/
def dh (N : Nat → Int64) (a : Nat) : Nat → Int64
  | 0 => 7
  | c + 1 => dh N a c * 31 + N (a * 3 + c)
def dig (N : Nat → Int64) (Wd : Nat → Int64) (a : Nat) : Int32 := ((dh N a 3 * 31 + Wd a) &&& 63).toInt32
end
section
/-! pasted from kit/laws/BITS.to-paste: the wb_ family -/
theorem wb_tb (n : Nat) : (lN n).toBitVec = BitVec.ofNat 64 n := rfl
theorem wb_inj {a b : Int64} (h : a.toBitVec = b.toBitVec) : a = b := Int64.toBitVec_inj.mp h
theorem wb_tn {n : Nat} (h : n < 2 ^ 64) : (lN n).toBitVec.toNat = n := by rw [wb_tb, BitVec.toNat_ofNat, Nat.mod_eq_of_lt h]
theorem wb_of (x : Int64) : ∃ n, n < 2 ^ 64 ∧ x = lN n := ⟨x.toBitVec.toNat, x.toBitVec.isLt, wb_inj (by rw [wb_tb]; simp)⟩
theorem wb_of32 (x : Int32) : ∃ n, n < 2 ^ 32 ∧ x = nI n := ⟨x.toBitVec.toNat, x.toBitVec.isLt, Int32.toBitVec_inj.mp (by show _ = BitVec.ofNat 32 _; simp)⟩
theorem wb_c : ∀ k, k < 64 → ((nI k).toInt64 &&& 63) = lN k := by decide +kernel
theorem wb_cu : ∀ k, k < 64 → ((nI k).toInt64.toUInt64 &&& Int64.toUInt64 63) = UInt64.ofNat k := by decide +kernel
theorem wb_sm : ∀ k, k < 64 → (BitVec.ofNat 64 k).smod 64 = BitVec.ofNat 64 k := by decide +kernel
theorem wb_pw {a b : Nat} (h : a ≤ b) : 2 ^ b = 2 ^ a * 2 ^ (b - a) := by rw [← Nat.pow_add]; congr 1; omega
theorem wb_lt2 {a b : Nat} (h : a < b) : 2 ^ a < 2 ^ b := Nat.pow_lt_pow_right (by decide) h
theorem wb_mod (n : Nat) : lN n = lN (n % 2 ^ 64) := wb_inj (by rw [wb_tb, wb_tb]; apply BitVec.eq_of_toNat_eq; rw [BitVec.toNat_ofNat, BitVec.toNat_ofNat, Nat.mod_mod])
theorem wb_shr {n k : Nat} (hn : n < 2 ^ 64) (hk : k < 64) : ((lN n).toUInt64 >>> ((nI k).toInt64.toUInt64 &&& Int64.toUInt64 63)).toInt64 = lN (n / 2 ^ k) := by
  rw [wb_cu k hk]
  apply wb_inj
  apply BitVec.eq_of_toNat_eq
  show ((lN n).toUInt64 >>> UInt64.ofNat k).toNat = (BitVec.ofNat 64 _).toNat
  have h1 : (UInt64.ofNat k).toNat = k := by
    show (BitVec.ofNat 64 k).toNat = k
    rw [BitVec.toNat_ofNat, Nat.mod_eq_of_lt (by omega)]
  have h2 : (lN n).toUInt64.toNat = n := wb_tn hn
  rw [UInt64.toNat_shiftRight, h1, h2, Nat.mod_eq_of_lt hk, Nat.shiftRight_eq_div_pow, BitVec.toNat_ofNat, Nat.mod_eq_of_lt (Nat.lt_of_le_of_lt (Nat.div_le_self _ _) hn)]
theorem wb_shl (n : Nat) {k : Nat} (hk : k < 64) : lN n <<< ((nI k).toInt64 &&& 63) = lN (n * 2 ^ k) := by
  rw [wb_c k hk]
  apply wb_inj
  rw [Int64.toBitVec_shiftLeft, wb_tb, wb_tb, wb_tb, wb_sm k hk]
  apply BitVec.eq_of_toNat_eq
  rw [BitVec.shiftLeft_eq', BitVec.toNat_shiftLeft, BitVec.toNat_ofNat, BitVec.toNat_ofNat, BitVec.toNat_ofNat, Nat.mod_eq_of_lt (show k < 2 ^ 64 by omega), Nat.shiftLeft_eq, Nat.mul_mod, Nat.mod_mod, ← Nat.mul_mod]
theorem wb_and {a b : Nat} (ha : a < 2 ^ 64) (hb : b < 2 ^ 64) : lN a &&& lN b = lN (a &&& b) := by
  apply wb_inj
  rw [Int64.toBitVec_and, wb_tb, wb_tb, wb_tb]
  apply BitVec.eq_of_toNat_eq
  rw [BitVec.toNat_and, BitVec.toNat_ofNat, BitVec.toNat_ofNat, BitVec.toNat_ofNat, Nat.mod_eq_of_lt ha, Nat.mod_eq_of_lt hb, Nat.mod_eq_of_lt (Nat.and_lt_two_pow _ hb)]
theorem wb_or {a b : Nat} (ha : a < 2 ^ 64) (hb : b < 2 ^ 64) : lN a ||| lN b = lN (a ||| b) := by
  apply wb_inj
  rw [Int64.toBitVec_or, wb_tb, wb_tb, wb_tb]
  apply BitVec.eq_of_toNat_eq
  rw [BitVec.toNat_or, BitVec.toNat_ofNat, BitVec.toNat_ofNat, BitVec.toNat_ofNat, Nat.mod_eq_of_lt ha, Nat.mod_eq_of_lt hb, Nat.mod_eq_of_lt (Nat.or_lt_two_pow ha hb)]
theorem wb_mask {n k : Nat} (hn : n < 2 ^ 64) (hk : k < 64) : lN n &&& lN (2 ^ k - 1) = lN (n % 2 ^ k) := by
  rw [wb_and hn (by have := wb_lt2 hk; omega), Nat.and_two_pow_sub_one_eq_mod]
theorem wb_a1 {n : Nat} (hn : n < 2 ^ 64) : lN n &&& 1 = lN (n % 2) := wb_mask (k := 1) hn (by decide)
theorem wb_bit {n k : Nat} (hn : n < 2 ^ 64) (hk : k < 64) : ((lN n).toUInt64 >>> ((nI k).toInt64.toUInt64 &&& Int64.toUInt64 63)).toInt64 &&& 1 = lN (n / 2 ^ k % 2) := by
  rw [wb_shr hn hk, wb_a1 (Nat.lt_of_le_of_lt (Nat.div_le_self _ _) hn)]
end
section
/-! SplitLeaks: its static helpers -/
def f_X6_isWithin := en_f (σ := Int32 × Int32 × List va_E) (fun x => [.int x.1, .int x.2.1]) (fun x => x.2.2) (fun _ => True) (fun x v w => v = some (.int (bl (0 ≤ x.1 ∧ x.1 < x.2.1))) ∧ w = x.2.2)
def rm_X6_isWithin : Room := { frames := 0, cells := 0, slots := 0, locals := 0 }
def t_X6_isWithin : en_T := ((2, 0, 0), tb_X6_isWithin, fl_X6, cn_X6, [], [], 0, some .boolean)
set_option maxRecDepth 100000 in
theorem tB_X6_isWithin (D : va_G) (dT : Nat → Nat) (l : Launch) : en_TB en_WD D vwCl dT l rm_X6_isWithin t_X6_isWithin RX6 "isWithin" cX6_isWithin := ⟨tk_X6_isWithin, fun s args meth h hn => ⟨fo_X6 h args meth, co_X6 h args, fun _ h => absurd h List.not_mem_nil, fun _ h => absurd h List.not_mem_nil, Or.inl rfl, en_arr h args⟩⟩
set_option maxHeartbeats 4000000 in
set_option maxRecDepth 100000 in
theorem bd_X6_isWithin : en_B (σ := Int32 × Int32 × List va_E) t_X6_isWithin (fun x => [.int x.1, .int x.2.1]) (fun x => x.2.2) (fun _ => True) (fun x v w => v = some (.int (bl (0 ≤ x.1 ∧ x.1 < x.2.1))) ∧ w = x.2.2) := by
  rintro ⟨x, b, ws⟩ - G hG OK ⟨run, sub⟩
  dsimp only at hG ⊢
  refine run [] 20 _ _ _ _ _ _ ?_
  conv => whnf
  refine ⟨fun h => ?_, fun h => ?_⟩
  · conv => whnf
    exact ⟨rfl, hG _ _ ⟨by rw [bl_f (fun z => by have := z.1; exact absurd h (Int32.not_lt.mpr this))]; rfl, rfl⟩⟩
  · have h0 : 0 ≤ x := Int32.not_lt.mp h
    conv => whnf
    refine ⟨fun h2 => ?_, fun h2 => ?_⟩
    · conv => whnf
      exact ⟨rfl, hG _ _ ⟨by rw [bl_f (fun z => absurd z.2 (Int32.not_lt.mpr h2))]; rfl, rfl⟩⟩
    · conv => whnf
      exact ⟨rfl, hG _ _ ⟨by rw [bl_t ⟨h0, Int32.not_le.mp h2⟩]; rfl, rfl⟩⟩
theorem ct_X6_isWithin (D : va_G) (dT : Nat → Nat) (l : Launch) : en_CT en_WD D vwCl dT l yX6_isWithin cX6_isWithin 2 (some .boolean) rm_X6_isWithin f_X6_isWithin := en_met en_WD1 en_WD2 (by decide) rfl rfl (tB_X6_isWithin D dT l) (en_f_ln (fun _ => Nat.le_of_ble_eq_true rfl)) (en_f_bd bd_X6_isWithin)
set_option maxRecDepth 100000 in
theorem mk_X6_isWithin {D : va_G} {dT : Nat → Nat} {l : Launch} {R : Room} {s : State} {args : Array Value} {own : String} {idx : Nat} (h : en_WD s) (h1 : rm_X6_isWithin.frames + 1 ≤ R.frames) (h2 : 8 + (2 + 11) + rm_X6_isWithin.locals ≤ R.locals) (hl : (Jvm.Cond.methodLink own idx yX6_isWithin).before args s = true ∨ ∃ host, (Jvm.Cond.methodLinkNest own idx yX6_isWithin host).before args s = true) : en_mok en_WD D vwCl dT l R s args own (idx, 2, 0, 0, 0, f_X6_isWithin) :=
  ⟨yX6_isWithin, cX6_isWithin, 2, some .boolean, rm_X6_isWithin, 2, ct_X6_isWithin D dT l, rfl, rfl, h1, h2, en_wd h 269 rfl rfl args, en_wd h 59 (by decide +kernel) rfl args, by decide, by decide, hl, ⟨en_wd h 268 (by decide +kernel) rfl args, rfl⟩⟩
end
section
/-! SplitLeaks$Rows: what only reads -/
/-- a boolean answer, told by its branch -/
theorem bl_at {p : Prop} [Decidable p] {x : Int32} (h : p) (hx : x = 1) : some (Value.int x) = some (Value.int (bl p)) := by rw [bl_t h, hx]
theorem bl_af {p : Prop} [Decidable p] {x : Int32} (h : ¬ p) (hx : x = 0) : some (Value.int x) = some (Value.int (bl p)) := by rw [bl_f h, hx]
theorem lc_br {x y : Int64} {A B : Prop} (a : x = y → A) (b : ¬ x = y → B) : (lg_cmp x y = 0 → A) ∧ (¬ lg_cmp x y = 0 → B) := by
  rw [lg_cmp_eq]; exact ⟨a, b⟩
theorem lc_br2 {x y : Int64} {A B : Prop} (a : ¬ x = y → A) (b : x = y → B) : (¬ lg_cmp x y = 0 → A) ∧ (lg_cmp x y = 0 → B) := by
  rw [lg_cmp_eq]; exact ⟨a, b⟩
def f_X2_isPlaced := en_f (σ := Nat × Sx) (fun x => [.ref 1, .int (nI x.1)]) (fun x => wX x.2) (fun x => x.1 < 100) (fun x v w => v = some (.int (bl (x.2.2.2.1 5 x.1 ≠ -1))) ∧ w = wX x.2)
def rm_X2_isPlaced : Room := { frames := 0, cells := 0, slots := 0, locals := 0 }
def t_X2_isPlaced : en_T := ((2, 0, 0), tb_X2_isPlaced, fl_X2, cn_X2, [], [], 0, some .boolean)
set_option maxRecDepth 100000 in
theorem tB_X2_isPlaced (D : va_G) (dT : Nat → Nat) (l : Launch) : en_TB en_WD D vwCl dT l rm_X2_isPlaced t_X2_isPlaced RX2 "isPlaced" cX2_isPlaced := ⟨tk_X2_isPlaced, fun s args meth h hn => ⟨fo_X2 h args meth, co_X2 h args, fun _ h => absurd h List.not_mem_nil, fun _ h => absurd h List.not_mem_nil, Or.inl rfl, en_arr h args⟩⟩
set_option maxHeartbeats 4000000 in
set_option maxRecDepth 100000 in
theorem bd_X2_isPlaced : en_B (σ := Nat × Sx) t_X2_isPlaced (fun x => [.ref 1, .int (nI x.1)]) (fun x => wX x.2) (fun x => x.1 < 100) (fun x v w => v = some (.int (bl (x.2.2.2.1 5 x.1 ≠ -1))) ∧ w = wX x.2) := by
  rintro ⟨r, S⟩ hr G hG OK ⟨run, sub⟩
  dsimp only at hr hG ⊢
  refine run [] 20 _ _ _ _ _ _ ?_
  conv => whnf
  refine ⟨vp_in_nI hr (by decide), ?_⟩
  rw [nI_clamp (by omega)]
  conv => whnf
  refine ⟨fun h => ?_, fun h => ?_⟩
  · conv => whnf
    exact ⟨rfl, hG _ _ ⟨bl_af (fun z => z h) rfl, rfl⟩⟩
  · conv => whnf
    exact ⟨rfl, hG _ _ ⟨bl_at h rfl, rfl⟩⟩
theorem ct_X2_isPlaced (D : va_G) (dT : Nat → Nat) (l : Launch) : en_CT en_WD D vwCl dT l yX2_isPlaced cX2_isPlaced 2 (some .boolean) rm_X2_isPlaced f_X2_isPlaced := en_met en_WD1 en_WD2 (by decide) rfl rfl (tB_X2_isPlaced D dT l) (en_f_ln (fun _ => Nat.le_of_ble_eq_true rfl)) (en_f_bd bd_X2_isPlaced)
set_option maxRecDepth 100000 in
theorem mk_X2_isPlaced {D : va_G} {dT : Nat → Nat} {l : Launch} {R : Room} {s : State} {args : Array Value} {own : String} {idx : Nat} (h : en_WD s) (h1 : rm_X2_isPlaced.frames + 1 ≤ R.frames) (h2 : 8 + (2 + 11) + rm_X2_isPlaced.locals ≤ R.locals) (hl : (Jvm.Cond.methodLink own idx yX2_isPlaced).before args s = true ∨ ∃ host, (Jvm.Cond.methodLinkNest own idx yX2_isPlaced host).before args s = true) : en_mok en_WD D vwCl dT l R s args own (idx, 2, 4, 0, 0, f_X2_isPlaced) :=
  ⟨yX2_isPlaced, cX2_isPlaced, 2, some .boolean, rm_X2_isPlaced, 1, ct_X2_isPlaced D dT l, rfl, rfl, h1, h2, en_wd h 420 rfl rfl args, en_wd h 60 (by decide +kernel) rfl args, by decide, by decide, hl, ⟨RX2, TX2, 8, rfl, en_wd h 418 (by decide +kernel) rfl args, en_wd h 419 (by decide +kernel) rfl args, rfl⟩⟩
def f_X2_countPlaced := en_f (σ := Nat × Sx) (fun _ => [.ref 1]) (fun x => wX x.2) (fun x => x.1 ≤ 100 ∧ x.2.1 1 = nI x.1) (fun x v w => v = some (.int (nI (ct (fun r => x.2.2.2.1 5 r ≠ -1) x.1))) ∧ w = wX x.2)
def rm_X2_countPlaced : Room := { frames := 1, cells := 0, slots := 0, locals := 21 }
def t_X2_countPlaced : en_T := ((3, 0, 0), tb_X2_countPlaced, fl_X2, cn_X2, [(42, 2, 4, 0, 0, f_X2_isPlaced)], [], 0, some .int)
set_option maxRecDepth 100000 in
theorem tB_X2_countPlaced (D : va_G) (dT : Nat → Nat) (l : Launch) : en_TB en_WD D vwCl dT l rm_X2_countPlaced t_X2_countPlaced RX2 "countPlaced" cX2_countPlaced := ⟨tk_X2_countPlaced, fun s args meth h hn => ⟨fo_X2 h args meth, co_X2 h args, List.forall_mem_cons.mpr ⟨mk_X2_isPlaced (own := RX2) h (Nat.le_of_ble_eq_true rfl) (Nat.le_of_ble_eq_true rfl) (Or.inl (en_wd h 417 (by decide +kernel) rfl args)), fun _ h => absurd h List.not_mem_nil⟩, fun _ h => absurd h List.not_mem_nil, Or.inl rfl, en_arr h args⟩⟩
set_option maxHeartbeats 4000000 in
set_option maxRecDepth 100000 in
theorem bd_X2_countPlaced : en_B (σ := Nat × Sx) t_X2_countPlaced (fun _ => [.ref 1]) (fun x => wX x.2) (fun x => x.1 ≤ 100 ∧ x.2.1 1 = nI x.1) (fun x v w => v = some (.int (nI (ct (fun r => x.2.2.2.1 5 r ≠ -1) x.1))) ∧ w = wX x.2) := by
  rintro ⟨n, S⟩ ⟨hn, h1⟩ G hG OK ⟨run, sub⟩
  dsimp only at hn h1 hG ⊢
  have loop := lp_up (fun i => OK 0 0 4 [(0, .ref 1), (1, .int (nI (ct (fun r => S.2.2.1 5 r ≠ -1) i))), (2, .int (nI i))] [] (wX S)) n
    (by
      refine run [4] 20 _ _ _ _ _ _ ?_
      conv => whnf
      rw [h1]
      refine pk_le n n (fun h => ?_) (fun h => absurd h (by omega))
      conv => whnf
      exact hG _ _ ⟨rfl, rfl⟩)
    (fun i hi ih => by
      refine run [4] 20 _ _ _ _ _ _ ?_
      conv => whnf
      rw [h1]
      refine pk_le n i (fun h => absurd h (by omega)) (fun h => ?_)
      conv => whnf
      refine ⟨(i, S), rfl, rfl, (by dsimp only; omega), ?_⟩
      rintro _ _ ⟨rfl, rfl⟩
      conv => whnf
      rw [nI_succ] at ih
      refine bl_br (fun hp => ?_) (fun hp => ?_)
      · conv => whnf
        rw [ct_f (p := fun r => S.2.2.1 5 r ≠ -1) hp] at ih
        exact ih
      · conv => whnf
        rw [ct_t (p := fun r => S.2.2.1 5 r ≠ -1) hp, nI_succ] at ih
        exact ih)
  refine run [4] 20 _ _ _ _ _ _ ?_
  conv => whnf
  exact loop 0 (by omega)
theorem ct_X2_countPlaced (D : va_G) (dT : Nat → Nat) (l : Launch) : en_CT en_WD D vwCl dT l yX2_countPlaced cX2_countPlaced 3 (some .int) rm_X2_countPlaced f_X2_countPlaced := en_met en_WD1 en_WD2 (by decide) rfl rfl (tB_X2_countPlaced D dT l) (en_f_ln (fun _ => Nat.le_of_ble_eq_true rfl)) (en_f_bd bd_X2_countPlaced)
set_option maxRecDepth 100000 in
theorem mk_X2_countPlaced {D : va_G} {dT : Nat → Nat} {l : Launch} {R : Room} {s : State} {args : Array Value} {own : String} {idx : Nat} (h : en_WD s) (h1 : rm_X2_countPlaced.frames + 1 ≤ R.frames) (h2 : 8 + (3 + 11) + rm_X2_countPlaced.locals ≤ R.locals) (hl : (Jvm.Cond.methodLink own idx yX2_countPlaced).before args s = true ∨ ∃ host, (Jvm.Cond.methodLinkNest own idx yX2_countPlaced host).before args s = true) : en_mok en_WD D vwCl dT l R s args own (idx, 1, 4, 0, 0, f_X2_countPlaced) :=
  ⟨yX2_countPlaced, cX2_countPlaced, 3, some .int, rm_X2_countPlaced, 0, ct_X2_countPlaced D dT l, rfl, rfl, h1, h2, en_wd h 416 rfl rfl args, en_wd h 60 (by decide +kernel) rfl args, by decide, by decide, hl, ⟨RX2, TX2, 8, rfl, en_wd h 414 (by decide +kernel) rfl args, en_wd h 415 (by decide +kernel) rfl args, rfl⟩⟩
def f_X2_has := en_f (σ := Int32 × Sx) (fun x => [.ref 1, .int x.1]) (fun x => wX x.2) (fun _ => True) (fun x v w => v = some (.int (bl (0 ≤ x.1 ∧ x.1 < x.2.1 1))) ∧ w = wX x.2)
def rm_X2_has : Room := { frames := 1, cells := 0, slots := 0, locals := 21 }
def t_X2_has : en_T := ((2, 0, 0), tb_X2_has, fl_X2, cn_X2, [(38, 2, 0, 0, 0, f_X6_isWithin)], [], 0, some .boolean)
set_option maxRecDepth 100000 in
theorem tB_X2_has (D : va_G) (dT : Nat → Nat) (l : Launch) : en_TB en_WD D vwCl dT l rm_X2_has t_X2_has RX2 "has" cX2_has := ⟨tk_X2_has, fun s args meth h hn => ⟨fo_X2 h args meth, co_X2 h args, List.forall_mem_cons.mpr ⟨mk_X6_isWithin (own := RX2) h (Nat.le_of_ble_eq_true rfl) (Nat.le_of_ble_eq_true rfl) (Or.inr ⟨"SplitLeaks", en_wd h 283 (by decide +kernel) rfl args⟩), fun _ h => absurd h List.not_mem_nil⟩, fun _ h => absurd h List.not_mem_nil, Or.inl rfl, en_arr h args⟩⟩
set_option maxHeartbeats 4000000 in
set_option maxRecDepth 100000 in
theorem bd_X2_has : en_B (σ := Int32 × Sx) t_X2_has (fun x => [.ref 1, .int x.1]) (fun x => wX x.2) (fun _ => True) (fun x v w => v = some (.int (bl (0 ≤ x.1 ∧ x.1 < x.2.1 1))) ∧ w = wX x.2) := by
  rintro ⟨r, S⟩ - G hG OK ⟨run, sub⟩
  dsimp only at hG ⊢
  refine run [] 20 _ _ _ _ _ _ ?_
  conv => whnf
  refine ⟨(r, S.1 1, wX S), rfl, rfl, trivial, ?_⟩
  rintro _ _ ⟨rfl, rfl⟩
  conv => whnf
  exact ⟨bl_b, hG _ _ ⟨rfl, rfl⟩⟩
theorem ct_X2_has (D : va_G) (dT : Nat → Nat) (l : Launch) : en_CT en_WD D vwCl dT l yX2_has cX2_has 2 (some .boolean) rm_X2_has f_X2_has := en_met en_WD1 en_WD2 (by decide) rfl rfl (tB_X2_has D dT l) (en_f_ln (fun _ => Nat.le_of_ble_eq_true rfl)) (en_f_bd bd_X2_has)
set_option maxRecDepth 100000 in
theorem mk_X2_has {D : va_G} {dT : Nat → Nat} {l : Launch} {R : Room} {s : State} {args : Array Value} {own : String} {idx : Nat} (h : en_WD s) (h1 : rm_X2_has.frames + 1 ≤ R.frames) (h2 : 8 + (2 + 11) + rm_X2_has.locals ≤ R.locals) (hl : (Jvm.Cond.methodLink own idx yX2_has).before args s = true ∨ ∃ host, (Jvm.Cond.methodLinkNest own idx yX2_has host).before args s = true) : en_mok en_WD D vwCl dT l R s args own (idx, 2, 4, 0, 0, f_X2_has) :=
  ⟨yX2_has, cX2_has, 2, some .boolean, rm_X2_has, 1, ct_X2_has D dT l, rfl, rfl, h1, h2, en_wd h 282 rfl rfl args, en_wd h 60 (by decide +kernel) rfl args, by decide, by decide, hl, ⟨RX2, TX2, 8, rfl, en_wd h 280 (by decide +kernel) rfl args, en_wd h 281 (by decide +kernel) rfl args, rfl⟩⟩
def f_X2_areParted := en_f (σ := Nat × Nat × Sx) (fun x => [.ref 1, .int (nI x.1), .int (nI x.2.1)]) (fun x => wX x.2.2) (fun x => x.1 < 100 ∧ x.2.1 < 100) (fun x v w => v = some (.int (bl (x.2.2.2.2.1 5 x.1 ≠ -1 ∧ x.2.2.2.2.1 5 x.2.1 ≠ -1 ∧ x.2.2.2.2.1 5 x.1 ≠ x.2.2.2.2.1 5 x.2.1))) ∧ w = wX x.2.2)
def rm_X2_areParted : Room := { frames := 1, cells := 0, slots := 0, locals := 21 }
def t_X2_areParted : en_T := ((3, 0, 0), tb_X2_areParted, fl_X2, cn_X2, [(42, 2, 4, 0, 0, f_X2_isPlaced)], [], 0, some .boolean)
set_option maxRecDepth 100000 in
theorem tB_X2_areParted (D : va_G) (dT : Nat → Nat) (l : Launch) : en_TB en_WD D vwCl dT l rm_X2_areParted t_X2_areParted RX2 "areParted" cX2_areParted := ⟨tk_X2_areParted, fun s args meth h hn => ⟨fo_X2 h args meth, co_X2 h args, List.forall_mem_cons.mpr ⟨mk_X2_isPlaced (own := RX2) h (Nat.le_of_ble_eq_true rfl) (Nat.le_of_ble_eq_true rfl) (Or.inl (en_wd h 417 (by decide +kernel) rfl args)), fun _ h => absurd h List.not_mem_nil⟩, fun _ h => absurd h List.not_mem_nil, Or.inl rfl, en_arr h args⟩⟩
set_option maxHeartbeats 4000000 in
set_option maxRecDepth 100000 in
theorem bd_X2_areParted : en_B (σ := Nat × Nat × Sx) t_X2_areParted (fun x => [.ref 1, .int (nI x.1), .int (nI x.2.1)]) (fun x => wX x.2.2) (fun x => x.1 < 100 ∧ x.2.1 < 100) (fun x v w => v = some (.int (bl (x.2.2.2.2.1 5 x.1 ≠ -1 ∧ x.2.2.2.2.1 5 x.2.1 ≠ -1 ∧ x.2.2.2.2.1 5 x.1 ≠ x.2.2.2.2.1 5 x.2.1))) ∧ w = wX x.2.2) := by
  rintro ⟨a, b, S⟩ ⟨ha, hb⟩ G hG OK ⟨run, sub⟩
  dsimp only at ha hb hG ⊢
  refine run [] 40 _ _ _ _ _ _ ?_
  conv => whnf
  refine ⟨(a, S), rfl, rfl, ha, ?_⟩
  rintro _ _ ⟨rfl, rfl⟩
  conv => whnf
  refine bl_br (fun h1 => ?_) (fun h1 => ?_)
  · conv => whnf
    exact ⟨rfl, hG _ _ ⟨bl_af (fun z => h1 z.1) rfl, rfl⟩⟩
  · conv => whnf
    refine ⟨(b, S), rfl, rfl, hb, ?_⟩
    rintro _ _ ⟨rfl, rfl⟩
    conv => whnf
    refine bl_br (fun h2 => ?_) (fun h2 => ?_)
    · conv => whnf
      exact ⟨rfl, hG _ _ ⟨bl_af (fun z => h2 z.2.1) rfl, rfl⟩⟩
    · conv => whnf
      refine ⟨vp_in_nI ha (by decide), ?_⟩
      rw [nI_clamp (by omega)]
      conv => whnf
      refine ⟨vp_in_nI hb (by decide), ?_⟩
      rw [nI_clamp (by omega)]
      conv => whnf
      refine ⟨fun h => ?_, fun h => ?_⟩
      · conv => whnf
        exact ⟨rfl, hG _ _ ⟨bl_af (fun z => z.2.2 h) rfl, rfl⟩⟩
      · conv => whnf
        exact ⟨rfl, hG _ _ ⟨bl_at ⟨h1, h2, h⟩ rfl, rfl⟩⟩
theorem ct_X2_areParted (D : va_G) (dT : Nat → Nat) (l : Launch) : en_CT en_WD D vwCl dT l yX2_areParted cX2_areParted 3 (some .boolean) rm_X2_areParted f_X2_areParted := en_met en_WD1 en_WD2 (by decide) rfl rfl (tB_X2_areParted D dT l) (en_f_ln (fun _ => Nat.le_of_ble_eq_true rfl)) (en_f_bd bd_X2_areParted)
set_option maxRecDepth 100000 in
theorem mk_X2_areParted {D : va_G} {dT : Nat → Nat} {l : Launch} {R : Room} {s : State} {args : Array Value} {own : String} {idx : Nat} (h : en_WD s) (h1 : rm_X2_areParted.frames + 1 ≤ R.frames) (h2 : 8 + (3 + 11) + rm_X2_areParted.locals ≤ R.locals) (hl : (Jvm.Cond.methodLink own idx yX2_areParted).before args s = true ∨ ∃ host, (Jvm.Cond.methodLinkNest own idx yX2_areParted host).before args s = true) : en_mok en_WD D vwCl dT l R s args own (idx, 3, 4, 0, 0, f_X2_areParted) :=
  ⟨yX2_areParted, cX2_areParted, 3, some .boolean, rm_X2_areParted, 2, ct_X2_areParted D dT l, rfl, rfl, h1, h2, en_wd h 522 rfl rfl args, en_wd h 60 (by decide +kernel) rfl args, by decide, by decide, hl, ⟨RX2, TX2, 8, rfl, en_wd h 520 (by decide +kernel) rfl args, en_wd h 521 (by decide +kernel) rfl args, rfl⟩⟩
def f_X2_haveSameNumber := en_f (σ := Nat × Nat × Nat × Sx) (fun x => [.ref 1, .int (nI x.1), .int (nI x.2.1), .int (nI x.2.2.1)]) (fun x => wX x.2.2.2) (fun x => x.1 < 100 ∧ x.2.1 < 100 ∧ x.2.2.1 < 3) (fun x v w => v = some (.int (bl (x.2.2.2.2.2.2 6 (x.1 * 3 + x.2.2.1) = x.2.2.2.2.2.2 6 (x.2.1 * 3 + x.2.2.1)))) ∧ w = wX x.2.2.2)
def rm_X2_haveSameNumber : Room := { frames := 0, cells := 0, slots := 0, locals := 0 }
def t_X2_haveSameNumber : en_T := ((4, 0, 0), tb_X2_haveSameNumber, fl_X2, cn_X2, [], [], 0, some .boolean)
set_option maxRecDepth 100000 in
theorem tB_X2_haveSameNumber (D : va_G) (dT : Nat → Nat) (l : Launch) : en_TB en_WD D vwCl dT l rm_X2_haveSameNumber t_X2_haveSameNumber RX2 "haveSameNumber" cX2_haveSameNumber := ⟨tk_X2_haveSameNumber, fun s args meth h hn => ⟨fo_X2 h args meth, co_X2 h args, fun _ h => absurd h List.not_mem_nil, fun _ h => absurd h List.not_mem_nil, Or.inl rfl, en_arr h args⟩⟩
set_option maxHeartbeats 4000000 in
set_option maxRecDepth 100000 in
theorem bd_X2_haveSameNumber : en_B (σ := Nat × Nat × Nat × Sx) t_X2_haveSameNumber (fun x => [.ref 1, .int (nI x.1), .int (nI x.2.1), .int (nI x.2.2.1)]) (fun x => wX x.2.2.2) (fun x => x.1 < 100 ∧ x.2.1 < 100 ∧ x.2.2.1 < 3) (fun x v w => v = some (.int (bl (x.2.2.2.2.2.2 6 (x.1 * 3 + x.2.2.1) = x.2.2.2.2.2.2 6 (x.2.1 * 3 + x.2.2.1)))) ∧ w = wX x.2.2.2) := by
  rintro ⟨a, b, c, S⟩ ⟨ha, hb, hc⟩ G hG OK ⟨run, sub⟩
  dsimp only at ha hb hc hG ⊢
  refine run [] 40 _ _ _ _ _ _ ?_
  conv => whnf
  rw [mul3]
  refine ⟨vp_in_nI (by omega) (by decide), ?_⟩
  rw [nI_clamp (by omega)]
  conv => whnf
  rw [mul3]
  refine ⟨vp_in_nI (by omega) (by decide), ?_⟩
  rw [nI_clamp (by omega)]
  conv => whnf
  refine lc_br2 (fun h => ?_) (fun h => ?_)
  · conv => whnf
    exact ⟨rfl, hG _ _ ⟨bl_af h rfl, rfl⟩⟩
  · conv => whnf
    exact ⟨rfl, hG _ _ ⟨bl_at h rfl, rfl⟩⟩
theorem ct_X2_haveSameNumber (D : va_G) (dT : Nat → Nat) (l : Launch) : en_CT en_WD D vwCl dT l yX2_haveSameNumber cX2_haveSameNumber 4 (some .boolean) rm_X2_haveSameNumber f_X2_haveSameNumber := en_met en_WD1 en_WD2 (by decide) rfl rfl (tB_X2_haveSameNumber D dT l) (en_f_ln (fun _ => Nat.le_of_ble_eq_true rfl)) (en_f_bd bd_X2_haveSameNumber)
set_option maxRecDepth 100000 in
theorem mk_X2_haveSameNumber {D : va_G} {dT : Nat → Nat} {l : Launch} {R : Room} {s : State} {args : Array Value} {own : String} {idx : Nat} (h : en_WD s) (h1 : rm_X2_haveSameNumber.frames + 1 ≤ R.frames) (h2 : 8 + (4 + 11) + rm_X2_haveSameNumber.locals ≤ R.locals) (hl : (Jvm.Cond.methodLink own idx yX2_haveSameNumber).before args s = true ∨ ∃ host, (Jvm.Cond.methodLinkNest own idx yX2_haveSameNumber host).before args s = true) : en_mok en_WD D vwCl dT l R s args own (idx, 4, 4, 0, 0, f_X2_haveSameNumber) :=
  ⟨yX2_haveSameNumber, cX2_haveSameNumber, 4, some .boolean, rm_X2_haveSameNumber, 3, ct_X2_haveSameNumber D dT l, rfl, rfl, h1, h2, en_wd h 530 rfl rfl args, en_wd h 60 (by decide +kernel) rfl args, by decide, by decide, hl, ⟨RX2, TX2, 8, rfl, en_wd h 528 (by decide +kernel) rfl args, en_wd h 529 (by decide +kernel) rfl args, rfl⟩⟩
end
section
/-! SplitLeaks$Rows: counts -/
def f_X2_areAlike := en_f (σ := Nat × Nat × Sx) (fun x => [.ref 1, .int (nI x.1), .int (nI x.2.1)]) (fun x => wX x.2.2) (fun x => x.1 < 100 ∧ x.2.1 < 100) (fun x v w => v = some (.int (bl (alike (x.2.2.2.2.2 6) (x.2.2.2.2.2 7) x.1 x.2.1))) ∧ w = wX x.2.2)
def rm_X2_areAlike : Room := { frames := 1, cells := 0, slots := 0, locals := 23 }
def t_X2_areAlike : en_T := ((4, 0, 0), tb_X2_areAlike, fl_X2, cn_X2, [(46, 4, 4, 0, 0, f_X2_haveSameNumber)], [], 0, some .boolean)
set_option maxRecDepth 100000 in
theorem tB_X2_areAlike (D : va_G) (dT : Nat → Nat) (l : Launch) : en_TB en_WD D vwCl dT l rm_X2_areAlike t_X2_areAlike RX2 "areAlike" cX2_areAlike := ⟨tk_X2_areAlike, fun s args meth h hn => ⟨fo_X2 h args meth, co_X2 h args, List.forall_mem_cons.mpr ⟨mk_X2_haveSameNumber (own := RX2) h (Nat.le_of_ble_eq_true rfl) (Nat.le_of_ble_eq_true rfl) (Or.inl (en_wd h 527 (by decide +kernel) rfl args)), fun _ h => absurd h List.not_mem_nil⟩, fun _ h => absurd h List.not_mem_nil, Or.inl rfl, en_arr h args⟩⟩
set_option maxHeartbeats 4000000 in
set_option maxRecDepth 100000 in
theorem bd_X2_areAlike : en_B (σ := Nat × Nat × Sx) t_X2_areAlike (fun x => [.ref 1, .int (nI x.1), .int (nI x.2.1)]) (fun x => wX x.2.2) (fun x => x.1 < 100 ∧ x.2.1 < 100) (fun x v w => v = some (.int (bl (alike (x.2.2.2.2.2 6) (x.2.2.2.2.2 7) x.1 x.2.1))) ∧ w = wX x.2.2) := by
  rintro ⟨a, b, S⟩ ⟨ha, hb⟩ G hG OK ⟨run, sub⟩
  dsimp only at ha hb hG ⊢
  refine run [] 80 _ _ _ _ _ _ ?_
  conv => whnf
  refine pk_le 3 0 (fun h => absurd h (by omega)) (fun _ => ?_)
  conv => whnf
  refine ⟨(a, b, 0, S), rfl, rfl, ⟨ha, hb, Nat.le_of_ble_eq_true rfl⟩, ?_⟩
  rintro _ _ ⟨rfl, rfl⟩
  conv => whnf
  refine bl_br2 (fun h0 => ?_) (fun h0 => ?_)
  rotate_left
  · conv => whnf
    exact ⟨rfl, hG _ _ ⟨bl_af (fun z => h0 z.1) rfl, rfl⟩⟩
  conv => whnf
  refine pk_le 3 1 (fun h => absurd h (by omega)) (fun _ => ?_)
  conv => whnf
  refine ⟨(a, b, 1, S), rfl, rfl, ⟨ha, hb, Nat.le_of_ble_eq_true rfl⟩, ?_⟩
  rintro _ _ ⟨rfl, rfl⟩
  conv => whnf
  refine bl_br2 (fun h1 => ?_) (fun h1 => ?_)
  rotate_left
  · conv => whnf
    exact ⟨rfl, hG _ _ ⟨bl_af (fun z => h1 z.2.1) rfl, rfl⟩⟩
  conv => whnf
  refine pk_le 3 2 (fun h => absurd h (by omega)) (fun _ => ?_)
  conv => whnf
  refine ⟨(a, b, 2, S), rfl, rfl, ⟨ha, hb, Nat.le_of_ble_eq_true rfl⟩, ?_⟩
  rintro _ _ ⟨rfl, rfl⟩
  conv => whnf
  refine bl_br2 (fun h2 => ?_) (fun h2 => ?_)
  rotate_left
  · conv => whnf
    exact ⟨rfl, hG _ _ ⟨bl_af (fun z => h2 z.2.2.1) rfl, rfl⟩⟩
  conv => whnf
  refine pk_le 3 3 (fun _ => ?_) (fun h => absurd h (by omega))
  conv => whnf
  refine ⟨vp_in_nI ha (by decide), ?_⟩
  rw [nI_clamp (by omega)]
  conv => whnf
  refine ⟨vp_in_nI hb (by decide), ?_⟩
  rw [nI_clamp (by omega)]
  conv => whnf
  refine lc_br2 (fun h => ?_) (fun h => ?_)
  · conv => whnf
    exact ⟨rfl, hG _ _ ⟨bl_af (fun z => h z.2.2.2) rfl, rfl⟩⟩
  · conv => whnf
    exact ⟨rfl, hG _ _ ⟨bl_at ⟨h0, h1, h2, h⟩ rfl, rfl⟩⟩
theorem ct_X2_areAlike (D : va_G) (dT : Nat → Nat) (l : Launch) : en_CT en_WD D vwCl dT l yX2_areAlike cX2_areAlike 4 (some .boolean) rm_X2_areAlike f_X2_areAlike := en_met en_WD1 en_WD2 (by decide) rfl rfl (tB_X2_areAlike D dT l) (en_f_ln (fun _ => Nat.le_of_ble_eq_true rfl)) (en_f_bd bd_X2_areAlike)
set_option maxRecDepth 100000 in
theorem mk_X2_areAlike {D : va_G} {dT : Nat → Nat} {l : Launch} {R : Room} {s : State} {args : Array Value} {own : String} {idx : Nat} (h : en_WD s) (h1 : rm_X2_areAlike.frames + 1 ≤ R.frames) (h2 : 8 + (4 + 11) + rm_X2_areAlike.locals ≤ R.locals) (hl : (Jvm.Cond.methodLink own idx yX2_areAlike).before args s = true ∨ ∃ host, (Jvm.Cond.methodLinkNest own idx yX2_areAlike host).before args s = true) : en_mok en_WD D vwCl dT l R s args own (idx, 3, 4, 0, 0, f_X2_areAlike) :=
  ⟨yX2_areAlike, cX2_areAlike, 4, some .boolean, rm_X2_areAlike, 2, ct_X2_areAlike D dT l, rfl, rfl, h1, h2, en_wd h 526 rfl rfl args, en_wd h 60 (by decide +kernel) rfl args, by decide, by decide, hl, ⟨RX2, TX2, 8, rfl, en_wd h 524 (by decide +kernel) rfl args, en_wd h 525 (by decide +kernel) rfl args, rfl⟩⟩
/-- how many rows of a label (or of all) are in a part -/
def cin (P Lb : Nat → Int32) (n : Nat) (p l : Int32) : Nat := ct (fun r => P r = p ∧ (l = -1 ∨ Lb r = l)) n
def f_X2_countIn := en_f (σ := Nat × Int32 × Int32 × Sx) (fun x => [.ref 1, .int x.2.1, .int x.2.2.1]) (fun x => wX x.2.2.2) (fun x => x.1 ≤ 100 ∧ x.2.2.2.1 1 = nI x.1) (fun x v w => v = some (.int (nI (cin (x.2.2.2.2.2.1 5) (x.2.2.2.2.2.1 3) x.1 x.2.1 x.2.2.1))) ∧ w = wX x.2.2.2)
def rm_X2_countIn : Room := { frames := 0, cells := 0, slots := 0, locals := 0 }
def t_X2_countIn : en_T := ((5, 0, 0), tb_X2_countIn, fl_X2, cn_X2, [], [], 0, some .int)
set_option maxRecDepth 100000 in
theorem tB_X2_countIn (D : va_G) (dT : Nat → Nat) (l : Launch) : en_TB en_WD D vwCl dT l rm_X2_countIn t_X2_countIn RX2 "countIn" cX2_countIn := ⟨tk_X2_countIn, fun s args meth h hn => ⟨fo_X2 h args meth, co_X2 h args, fun _ h => absurd h List.not_mem_nil, fun _ h => absurd h List.not_mem_nil, Or.inl rfl, en_arr h args⟩⟩
set_option maxHeartbeats 4000000 in
set_option maxRecDepth 100000 in
theorem bd_X2_countIn : en_B (σ := Nat × Int32 × Int32 × Sx) t_X2_countIn (fun x => [.ref 1, .int x.2.1, .int x.2.2.1]) (fun x => wX x.2.2.2) (fun x => x.1 ≤ 100 ∧ x.2.2.2.1 1 = nI x.1) (fun x v w => v = some (.int (nI (cin (x.2.2.2.2.2.1 5) (x.2.2.2.2.2.1 3) x.1 x.2.1 x.2.2.1))) ∧ w = wX x.2.2.2) := by
  rintro ⟨n, p, l, S⟩ ⟨hn, h1⟩ G hG OK ⟨run, sub⟩
  dsimp only at hn h1 hG ⊢
  obtain ⟨q, hq⟩ : ∃ q : Nat → Prop, q = fun r => S.2.2.1 5 r = p ∧ (l = -1 ∨ S.2.2.1 3 r = l) := ⟨_, rfl⟩
  have loop := lp_up (fun i => OK 0 0 5 [(0, .ref 1), (1, .int p), (2, .int l), (3, .int (nI (cin (S.2.2.1 5) (S.2.2.1 3) i p l))), (4, .int (nI i))] [] (wX S)) n
    (by
      refine run [5] 60 _ _ _ _ _ _ ?_
      conv => whnf
      rw [h1]
      refine pk_le n n (fun h => ?_) (fun h => absurd h (by omega))
      conv => whnf
      exact hG _ _ ⟨rfl, rfl⟩)
    (fun i hi ih => by
      refine run [5] 60 _ _ _ _ _ _ ?_
      conv => whnf
      rw [h1]
      refine pk_le n i (fun h => absurd h (by omega)) (fun h => ?_)
      conv => whnf
      refine ⟨vp_in_nI (by omega) (by decide), ?_⟩
      rw [nI_clamp (by omega)]
      conv => whnf
      rw [nI_succ] at ih
      unfold cin at ih
      refine ⟨fun hp => ?_, fun hp => ?_⟩
      · conv => whnf
        rw [ct_f (fun z => hp z.1)] at ih
        exact ih
      · conv => whnf
        refine ⟨fun hl => ?_, fun hl => ?_⟩
        · conv => whnf
          rw [ct_t ⟨hp, Or.inl hl⟩, nI_succ] at ih
          exact ih
        · conv => whnf
          refine ⟨vp_in_nI (by omega) (by decide), ?_⟩
          rw [nI_clamp (by omega)]
          conv => whnf
          refine ⟨fun hb => ?_, fun hb => ?_⟩
          · conv => whnf
            rw [ct_f (fun z => z.2.elim hl hb)] at ih
            exact ih
          · conv => whnf
            rw [ct_t ⟨hp, Or.inr hb⟩, nI_succ] at ih
            exact ih)
  refine run [5] 60 _ _ _ _ _ _ ?_
  conv => whnf
  exact loop 0 (by omega)
theorem ct_X2_countIn (D : va_G) (dT : Nat → Nat) (l : Launch) : en_CT en_WD D vwCl dT l yX2_countIn cX2_countIn 5 (some .int) rm_X2_countIn f_X2_countIn := en_met en_WD1 en_WD2 (by decide) rfl rfl (tB_X2_countIn D dT l) (en_f_ln (fun _ => Nat.le_of_ble_eq_true rfl)) (en_f_bd bd_X2_countIn)
set_option maxRecDepth 100000 in
theorem mk_X2_countIn {D : va_G} {dT : Nat → Nat} {l : Launch} {R : Room} {s : State} {args : Array Value} {own : String} {idx : Nat} (h : en_WD s) (h1 : rm_X2_countIn.frames + 1 ≤ R.frames) (h2 : 8 + (5 + 11) + rm_X2_countIn.locals ≤ R.locals) (hl : (Jvm.Cond.methodLink own idx yX2_countIn).before args s = true ∨ ∃ host, (Jvm.Cond.methodLinkNest own idx yX2_countIn host).before args s = true) : en_mok en_WD D vwCl dT l R s args own (idx, 3, 4, 0, 0, f_X2_countIn) :=
  ⟨yX2_countIn, cX2_countIn, 5, some .int, rm_X2_countIn, 2, ct_X2_countIn D dT l, rfl, rfl, h1, h2, en_wd h 452 rfl rfl args, en_wd h 60 (by decide +kernel) rfl args, by decide, by decide, hl, ⟨RX2, TX2, 8, rfl, en_wd h 450 (by decide +kernel) rfl args, en_wd h 451 (by decide +kernel) rfl args, rfl⟩⟩
/-- how many rows of a label are in parts -/
def cpl (P Lb : Nat → Int32) (n : Nat) (l : Int32) : Nat := cin P Lb n 0 l + cin P Lb n 1 l + cin P Lb n 2 l + cin P Lb n 3 l
def f_X2_countPlacedOfLabel := en_f (σ := Nat × Int32 × Sx) (fun x => [.ref 1, .int x.2.1]) (fun x => wX x.2.2) (fun x => x.1 ≤ 100 ∧ x.2.2.1 1 = nI x.1) (fun x v w => v = some (.int (nI (cpl (x.2.2.2.2.1 5) (x.2.2.2.2.1 3) x.1 x.2.1))) ∧ w = wX x.2.2)
def rm_X2_countPlacedOfLabel : Room := { frames := 1, cells := 0, slots := 0, locals := 24 }
def t_X2_countPlacedOfLabel : en_T := ((4, 0, 0), tb_X2_countPlacedOfLabel, fl_X2, cn_X2, [(50, 3, 4, 0, 0, f_X2_countIn)], [], 0, some .int)
set_option maxRecDepth 100000 in
theorem tB_X2_countPlacedOfLabel (D : va_G) (dT : Nat → Nat) (l : Launch) : en_TB en_WD D vwCl dT l rm_X2_countPlacedOfLabel t_X2_countPlacedOfLabel RX2 "countPlacedOfLabel" cX2_countPlacedOfLabel := ⟨tk_X2_countPlacedOfLabel, fun s args meth h hn => ⟨fo_X2 h args meth, co_X2 h args, List.forall_mem_cons.mpr ⟨mk_X2_countIn (own := RX2) h (Nat.le_of_ble_eq_true rfl) (Nat.le_of_ble_eq_true rfl) (Or.inl (en_wd h 449 (by decide +kernel) rfl args)), fun _ h => absurd h List.not_mem_nil⟩, fun _ h => absurd h List.not_mem_nil, Or.inl rfl, en_arr h args⟩⟩
set_option maxHeartbeats 4000000 in
set_option maxRecDepth 100000 in
theorem bd_X2_countPlacedOfLabel : en_B (σ := Nat × Int32 × Sx) t_X2_countPlacedOfLabel (fun x => [.ref 1, .int x.2.1]) (fun x => wX x.2.2) (fun x => x.1 ≤ 100 ∧ x.2.2.1 1 = nI x.1) (fun x v w => v = some (.int (nI (cpl (x.2.2.2.2.1 5) (x.2.2.2.2.1 3) x.1 x.2.1))) ∧ w = wX x.2.2) := by
  rintro ⟨n, l, S⟩ ⟨hn, h1⟩ G hG OK ⟨run, sub⟩
  dsimp only at hn h1 hG ⊢
  refine run [] 80 _ _ _ _ _ _ ?_
  conv => whnf
  refine pk_le 4 0 (fun h => absurd h (by omega)) (fun _ => ?_)
  conv => whnf
  refine ⟨(n, 0, l, S), rfl, rfl, ⟨hn, h1⟩, ?_⟩
  rintro _ _ ⟨rfl, rfl⟩
  conv => whnf
  refine pk_le 4 1 (fun h => absurd h (by omega)) (fun _ => ?_)
  conv => whnf
  refine ⟨(n, 1, l, S), rfl, rfl, ⟨hn, h1⟩, ?_⟩
  rintro _ _ ⟨rfl, rfl⟩
  conv => whnf
  refine pk_le 4 2 (fun h => absurd h (by omega)) (fun _ => ?_)
  conv => whnf
  refine ⟨(n, 2, l, S), rfl, rfl, ⟨hn, h1⟩, ?_⟩
  rintro _ _ ⟨rfl, rfl⟩
  conv => whnf
  refine pk_le 4 3 (fun h => absurd h (by omega)) (fun _ => ?_)
  conv => whnf
  refine ⟨(n, 3, l, S), rfl, rfl, ⟨hn, h1⟩, ?_⟩
  rintro _ _ ⟨rfl, rfl⟩
  conv => whnf
  refine pk_le 4 4 (fun _ => ?_) (fun h => absurd h (by omega))
  conv => whnf
  refine hG _ _ ⟨?_, rfl⟩
  unfold cpl
  rw [← nI_add, ← nI_add, ← nI_add]
  show some (Value.int (((Int32.ofInt 0 + _) + _ + _) + _)) = _
  rw [show Int32.ofInt 0 = nI 0 from rfl, nI_add (0 : Nat), Nat.zero_add]
theorem ct_X2_countPlacedOfLabel (D : va_G) (dT : Nat → Nat) (l : Launch) : en_CT en_WD D vwCl dT l yX2_countPlacedOfLabel cX2_countPlacedOfLabel 4 (some .int) rm_X2_countPlacedOfLabel f_X2_countPlacedOfLabel := en_met en_WD1 en_WD2 (by decide) rfl rfl (tB_X2_countPlacedOfLabel D dT l) (en_f_ln (fun _ => Nat.le_of_ble_eq_true rfl)) (en_f_bd bd_X2_countPlacedOfLabel)
set_option maxRecDepth 100000 in
theorem mk_X2_countPlacedOfLabel {D : va_G} {dT : Nat → Nat} {l : Launch} {R : Room} {s : State} {args : Array Value} {own : String} {idx : Nat} (h : en_WD s) (h1 : rm_X2_countPlacedOfLabel.frames + 1 ≤ R.frames) (h2 : 8 + (4 + 11) + rm_X2_countPlacedOfLabel.locals ≤ R.locals) (hl : (Jvm.Cond.methodLink own idx yX2_countPlacedOfLabel).before args s = true ∨ ∃ host, (Jvm.Cond.methodLinkNest own idx yX2_countPlacedOfLabel host).before args s = true) : en_mok en_WD D vwCl dT l R s args own (idx, 2, 4, 0, 0, f_X2_countPlacedOfLabel) :=
  ⟨yX2_countPlacedOfLabel, cX2_countPlacedOfLabel, 4, some .int, rm_X2_countPlacedOfLabel, 1, ct_X2_countPlacedOfLabel D dT l, rfl, rfl, h1, h2, en_wd h 448 rfl rfl args, en_wd h 60 (by decide +kernel) rfl args, by decide, by decide, hl, ⟨RX2, TX2, 8, rfl, en_wd h 446 (by decide +kernel) rfl args, en_wd h 447 (by decide +kernel) rfl args, rfl⟩⟩
end
section
/-! SplitLeaks$Rows: counts, the second half -/
def f_X2_countPlacedLabelsBelow := en_f (σ := Nat × Nat × Sx) (fun x => [.ref 1, .int (nI x.2.1)]) (fun x => wX x.2.2) (fun x => x.1 ≤ 100 ∧ x.2.2.1 1 = nI x.1 ∧ x.2.1 ≤ 4) (fun x v w => v = some (.int (nI (ct (fun l => 0 < cpl (x.2.2.2.2.1 5) (x.2.2.2.2.1 3) x.1 (nI l) ∧ cpl (x.2.2.2.2.1 5) (x.2.2.2.2.1 3) x.1 (nI l) < x.2.1) 5))) ∧ w = wX x.2.2)
def rm_X2_countPlacedLabelsBelow : Room := { frames := 2, cells := 0, slots := 0, locals := 47 }
def t_X2_countPlacedLabelsBelow : en_T := ((5, 0, 0), tb_X2_countPlacedLabelsBelow, fl_X2, cn_X2, [(54, 2, 4, 0, 0, f_X2_countPlacedOfLabel)], [], 0, some .int)
set_option maxRecDepth 100000 in
theorem tB_X2_countPlacedLabelsBelow (D : va_G) (dT : Nat → Nat) (l : Launch) : en_TB en_WD D vwCl dT l rm_X2_countPlacedLabelsBelow t_X2_countPlacedLabelsBelow RX2 "countPlacedLabelsBelow" cX2_countPlacedLabelsBelow := ⟨tk_X2_countPlacedLabelsBelow, fun s args meth h hn => ⟨fo_X2 h args meth, co_X2 h args, List.forall_mem_cons.mpr ⟨mk_X2_countPlacedOfLabel (own := RX2) h (Nat.le_of_ble_eq_true rfl) (Nat.le_of_ble_eq_true rfl) (Or.inl (en_wd h 445 (by decide +kernel) rfl args)), fun _ h => absurd h List.not_mem_nil⟩, fun _ h => absurd h List.not_mem_nil, Or.inl rfl, en_arr h args⟩⟩
set_option maxHeartbeats 4000000 in
set_option maxRecDepth 100000 in
theorem bd_X2_countPlacedLabelsBelow : en_B (σ := Nat × Nat × Sx) t_X2_countPlacedLabelsBelow (fun x => [.ref 1, .int (nI x.2.1)]) (fun x => wX x.2.2) (fun x => x.1 ≤ 100 ∧ x.2.2.1 1 = nI x.1 ∧ x.2.1 ≤ 4) (fun x v w => v = some (.int (nI (ct (fun l => 0 < cpl (x.2.2.2.2.1 5) (x.2.2.2.2.1 3) x.1 (nI l) ∧ cpl (x.2.2.2.2.1 5) (x.2.2.2.2.1 3) x.1 (nI l) < x.2.1) 5))) ∧ w = wX x.2.2) := by
  rintro ⟨n, b, S⟩ ⟨hn, h1, hb⟩ G hG OK ⟨run, sub⟩
  dsimp only at hn h1 hb hG ⊢
  have hcp : ∀ l, cpl (S.2.2.1 5) (S.2.2.1 3) n l ≤ 400 := fun l => by
    have a0 := ct_le (fun r => S.2.2.1 5 r = 0 ∧ (l = -1 ∨ S.2.2.1 3 r = l)) n
    have a1 := ct_le (fun r => S.2.2.1 5 r = 1 ∧ (l = -1 ∨ S.2.2.1 3 r = l)) n
    have a2 := ct_le (fun r => S.2.2.1 5 r = 2 ∧ (l = -1 ∨ S.2.2.1 3 r = l)) n
    have a3 := ct_le (fun r => S.2.2.1 5 r = 3 ∧ (l = -1 ∨ S.2.2.1 3 r = l)) n
    unfold cpl cin
    omega
  have loop := lp_up (fun i => OK 0 0 4 [(0, .ref 1), (1, .int (nI b)), (2, .int (nI (ct (fun l => 0 < cpl (S.2.2.1 5) (S.2.2.1 3) n (nI l) ∧ cpl (S.2.2.1 5) (S.2.2.1 3) n (nI l) < b) i))), (3, .int (nI i))] [] (wX S)) 5
    (by
      refine run [4] 60 _ _ _ _ _ _ ?_
      conv => whnf
      refine pk_le 5 5 (fun h => ?_) (fun h => absurd h (by omega))
      conv => whnf
      exact hG _ _ ⟨rfl, rfl⟩)
    (fun i hi ih => by
      refine run [4] 60 _ _ _ _ _ _ ?_
      conv => whnf
      refine pk_le 5 i (fun h => absurd h (by omega)) (fun h => ?_)
      conv => whnf
      refine ⟨(n, nI i, S), rfl, rfl, ⟨hn, h1⟩, ?_⟩
      rintro _ _ ⟨rfl, rfl⟩
      have hc := hcp (nI i)
      conv => whnf
      rw [nI_succ] at ih
      refine pk_le (cpl (S.2.2.1 5) (S.2.2.1 3) n (nI i)) 0 (fun h2 => ?_) (fun h2 => ?_)
      · conv => whnf
        rw [ct_f (fun z => by omega)] at ih
        exact sub [0, 1, 2, 3] _ _ _ _ _ _ _ rfl ih
      · conv => whnf
        refine pk_le b (cpl (S.2.2.1 5) (S.2.2.1 3) n (nI i)) (fun h3 => ?_) (fun h3 => ?_)
        · conv => whnf
          rw [ct_f (fun z => by omega)] at ih
          exact sub [0, 1, 2, 3] _ _ _ _ _ _ _ rfl ih
        · conv => whnf
          rw [ct_t ⟨by omega, h3⟩, nI_succ] at ih
          exact sub [0, 1, 2, 3] _ _ _ _ _ _ _ rfl ih)
  refine run [4] 60 _ _ _ _ _ _ ?_
  conv => whnf
  exact loop 0 (by omega)
theorem ct_X2_countPlacedLabelsBelow (D : va_G) (dT : Nat → Nat) (l : Launch) : en_CT en_WD D vwCl dT l yX2_countPlacedLabelsBelow cX2_countPlacedLabelsBelow 5 (some .int) rm_X2_countPlacedLabelsBelow f_X2_countPlacedLabelsBelow := en_met en_WD1 en_WD2 (by decide) rfl rfl (tB_X2_countPlacedLabelsBelow D dT l) (en_f_ln (fun _ => Nat.le_of_ble_eq_true rfl)) (en_f_bd bd_X2_countPlacedLabelsBelow)
set_option maxRecDepth 100000 in
theorem mk_X2_countPlacedLabelsBelow {D : va_G} {dT : Nat → Nat} {l : Launch} {R : Room} {s : State} {args : Array Value} {own : String} {idx : Nat} (h : en_WD s) (h1 : rm_X2_countPlacedLabelsBelow.frames + 1 ≤ R.frames) (h2 : 8 + (5 + 11) + rm_X2_countPlacedLabelsBelow.locals ≤ R.locals) (hl : (Jvm.Cond.methodLink own idx yX2_countPlacedLabelsBelow).before args s = true ∨ ∃ host, (Jvm.Cond.methodLinkNest own idx yX2_countPlacedLabelsBelow host).before args s = true) : en_mok en_WD D vwCl dT l R s args own (idx, 2, 4, 0, 0, f_X2_countPlacedLabelsBelow) :=
  ⟨yX2_countPlacedLabelsBelow, cX2_countPlacedLabelsBelow, 5, some .int, rm_X2_countPlacedLabelsBelow, 1, ct_X2_countPlacedLabelsBelow D dT l, rfl, rfl, h1, h2, en_wd h 444 rfl rfl args, en_wd h 60 (by decide +kernel) rfl args, by decide, by decide, hl, ⟨RX2, TX2, 8, rfl, en_wd h 442 (by decide +kernel) rfl args, en_wd h 443 (by decide +kernel) rfl args, rfl⟩⟩
def f_X2_countOfGroup := en_f (σ := Nat × Int32 × Sx) (fun x => [.ref 1, .int x.2.1]) (fun x => wX x.2.2) (fun x => x.1 ≤ 100 ∧ x.2.2.1 1 = nI x.1) (fun x v w => v = some (.int (nI (ct (fun r => x.2.2.2.2.1 2 r = x.2.1) x.1))) ∧ w = wX x.2.2)
def rm_X2_countOfGroup : Room := { frames := 0, cells := 0, slots := 0, locals := 0 }
def t_X2_countOfGroup : en_T := ((4, 0, 0), tb_X2_countOfGroup, fl_X2, cn_X2, [], [], 0, some .int)
set_option maxRecDepth 100000 in
theorem tB_X2_countOfGroup (D : va_G) (dT : Nat → Nat) (l : Launch) : en_TB en_WD D vwCl dT l rm_X2_countOfGroup t_X2_countOfGroup RX2 "countOfGroup" cX2_countOfGroup := ⟨tk_X2_countOfGroup, fun s args meth h hn => ⟨fo_X2 h args meth, co_X2 h args, fun _ h => absurd h List.not_mem_nil, fun _ h => absurd h List.not_mem_nil, Or.inl rfl, en_arr h args⟩⟩
set_option maxHeartbeats 4000000 in
set_option maxRecDepth 100000 in
theorem bd_X2_countOfGroup : en_B (σ := Nat × Int32 × Sx) t_X2_countOfGroup (fun x => [.ref 1, .int x.2.1]) (fun x => wX x.2.2) (fun x => x.1 ≤ 100 ∧ x.2.2.1 1 = nI x.1) (fun x v w => v = some (.int (nI (ct (fun r => x.2.2.2.2.1 2 r = x.2.1) x.1))) ∧ w = wX x.2.2) := by
  rintro ⟨n, g, S⟩ ⟨hn, h1⟩ G hG OK ⟨run, sub⟩
  dsimp only at hn h1 hG ⊢
  have loop := lp_up (fun i => OK 0 0 4 [(0, .ref 1), (1, .int g), (2, .int (nI (ct (fun r => S.2.2.1 2 r = g) i))), (3, .int (nI i))] [] (wX S)) n
    (by
      refine run [4] 60 _ _ _ _ _ _ ?_
      conv => whnf
      rw [h1]
      refine pk_le n n (fun h => ?_) (fun h => absurd h (by omega))
      conv => whnf
      exact hG _ _ ⟨rfl, rfl⟩)
    (fun i hi ih => by
      refine run [4] 60 _ _ _ _ _ _ ?_
      conv => whnf
      rw [h1]
      refine pk_le n i (fun h => absurd h (by omega)) (fun h => ?_)
      conv => whnf
      refine ⟨vp_in_nI (by omega) (by decide), ?_⟩
      rw [nI_clamp (by omega)]
      conv => whnf
      rw [nI_succ] at ih
      refine ⟨fun hp => ?_, fun hp => ?_⟩
      · conv => whnf
        rw [ct_f (p := fun r => S.2.2.1 2 r = g) hp] at ih
        exact ih
      · conv => whnf
        rw [ct_t (p := fun r => S.2.2.1 2 r = g) hp, nI_succ] at ih
        exact ih)
  refine run [4] 60 _ _ _ _ _ _ ?_
  conv => whnf
  exact loop 0 (by omega)
theorem ct_X2_countOfGroup (D : va_G) (dT : Nat → Nat) (l : Launch) : en_CT en_WD D vwCl dT l yX2_countOfGroup cX2_countOfGroup 4 (some .int) rm_X2_countOfGroup f_X2_countOfGroup := en_met en_WD1 en_WD2 (by decide) rfl rfl (tB_X2_countOfGroup D dT l) (en_f_ln (fun _ => Nat.le_of_ble_eq_true rfl)) (en_f_bd bd_X2_countOfGroup)
set_option maxRecDepth 100000 in
theorem mk_X2_countOfGroup {D : va_G} {dT : Nat → Nat} {l : Launch} {R : Room} {s : State} {args : Array Value} {own : String} {idx : Nat} (h : en_WD s) (h1 : rm_X2_countOfGroup.frames + 1 ≤ R.frames) (h2 : 8 + (4 + 11) + rm_X2_countOfGroup.locals ≤ R.locals) (hl : (Jvm.Cond.methodLink own idx yX2_countOfGroup).before args s = true ∨ ∃ host, (Jvm.Cond.methodLinkNest own idx yX2_countOfGroup host).before args s = true) : en_mok en_WD D vwCl dT l R s args own (idx, 2, 4, 0, 0, f_X2_countOfGroup) :=
  ⟨yX2_countOfGroup, cX2_countOfGroup, 4, some .int, rm_X2_countOfGroup, 1, ct_X2_countOfGroup D dT l, rfl, rfl, h1, h2, en_wd h 483 rfl rfl args, en_wd h 60 (by decide +kernel) rfl args, by decide, by decide, hl, ⟨RX2, TX2, 8, rfl, en_wd h 481 (by decide +kernel) rfl args, en_wd h 482 (by decide +kernel) rfl args, rfl⟩⟩
def f_X2_firstOfGroup := en_f (σ := Nat × Int32 × Sx) (fun x => [.ref 1, .int x.2.1]) (fun x => wX x.2.2) (fun x => x.1 ≤ 100 ∧ x.2.2.1 1 = nI x.1) (fun x v w => v = some (.int (oI (fs (fun r => x.2.2.2.2.1 2 r = x.2.1) x.1))) ∧ w = wX x.2.2)
def rm_X2_firstOfGroup : Room := { frames := 0, cells := 0, slots := 0, locals := 0 }
def t_X2_firstOfGroup : en_T := ((3, 0, 0), tb_X2_firstOfGroup, fl_X2, cn_X2, [], [], 0, some .int)
set_option maxRecDepth 100000 in
theorem tB_X2_firstOfGroup (D : va_G) (dT : Nat → Nat) (l : Launch) : en_TB en_WD D vwCl dT l rm_X2_firstOfGroup t_X2_firstOfGroup RX2 "firstOfGroup" cX2_firstOfGroup := ⟨tk_X2_firstOfGroup, fun s args meth h hn => ⟨fo_X2 h args meth, co_X2 h args, fun _ h => absurd h List.not_mem_nil, fun _ h => absurd h List.not_mem_nil, Or.inl rfl, en_arr h args⟩⟩
set_option maxHeartbeats 4000000 in
set_option maxRecDepth 100000 in
theorem bd_X2_firstOfGroup : en_B (σ := Nat × Int32 × Sx) t_X2_firstOfGroup (fun x => [.ref 1, .int x.2.1]) (fun x => wX x.2.2) (fun x => x.1 ≤ 100 ∧ x.2.2.1 1 = nI x.1) (fun x v w => v = some (.int (oI (fs (fun r => x.2.2.2.2.1 2 r = x.2.1) x.1))) ∧ w = wX x.2.2) := by
  rintro ⟨n, g, S⟩ ⟨hn, h1⟩ G hG OK ⟨run, sub⟩
  dsimp only at hn h1 hG ⊢
  have loop := lp_up (fun i => fs (fun r => S.2.2.1 2 r = g) i = none → OK 0 0 2 [(0, .ref 1), (1, .int g), (2, .int (nI i))] [] (wX S)) n
    (fun hf => by
      refine run [2] 60 _ _ _ _ _ _ ?_
      conv => whnf
      rw [h1]
      refine pk_le n n (fun h => ?_) (fun h => absurd h (by omega))
      conv => whnf
      exact hG _ _ ⟨by rw [hf]; rfl, rfl⟩)
    (fun i hi ih hf => by
      refine run [2] 60 _ _ _ _ _ _ ?_
      conv => whnf
      rw [h1]
      refine pk_le n i (fun h => absurd h (by omega)) (fun h => ?_)
      conv => whnf
      refine ⟨vp_in_nI (by omega) (by decide), ?_⟩
      rw [nI_clamp (by omega)]
      conv => whnf
      rw [nI_succ] at ih
      refine ⟨fun hp => ?_, fun hp => ?_⟩
      · conv => whnf
        exact ih (fs_f hf hp)
      · conv => whnf
        exact hG _ _ ⟨by rw [fs_s (fs_t (p := fun r => S.2.2.1 2 r = g) hf hp) n (by omega)]; rfl, rfl⟩)
  refine run [2] 60 _ _ _ _ _ _ ?_
  conv => whnf
  exact loop 0 (by omega) rfl
theorem ct_X2_firstOfGroup (D : va_G) (dT : Nat → Nat) (l : Launch) : en_CT en_WD D vwCl dT l yX2_firstOfGroup cX2_firstOfGroup 3 (some .int) rm_X2_firstOfGroup f_X2_firstOfGroup := en_met en_WD1 en_WD2 (by decide) rfl rfl (tB_X2_firstOfGroup D dT l) (en_f_ln (fun _ => Nat.le_of_ble_eq_true rfl)) (en_f_bd bd_X2_firstOfGroup)
set_option maxRecDepth 100000 in
theorem mk_X2_firstOfGroup {D : va_G} {dT : Nat → Nat} {l : Launch} {R : Room} {s : State} {args : Array Value} {own : String} {idx : Nat} (h : en_WD s) (h1 : rm_X2_firstOfGroup.frames + 1 ≤ R.frames) (h2 : 8 + (3 + 11) + rm_X2_firstOfGroup.locals ≤ R.locals) (hl : (Jvm.Cond.methodLink own idx yX2_firstOfGroup).before args s = true ∨ ∃ host, (Jvm.Cond.methodLinkNest own idx yX2_firstOfGroup host).before args s = true) : en_mok en_WD D vwCl dT l R s args own (idx, 2, 4, 0, 0, f_X2_firstOfGroup) :=
  ⟨yX2_firstOfGroup, cX2_firstOfGroup, 3, some .int, rm_X2_firstOfGroup, 1, ct_X2_firstOfGroup D dT l, rfl, rfl, h1, h2, en_wd h 367 rfl rfl args, en_wd h 60 (by decide +kernel) rfl args, by decide, by decide, hl, ⟨RX2, TX2, 8, rfl, en_wd h 365 (by decide +kernel) rfl args, en_wd h 366 (by decide +kernel) rfl args, rfl⟩⟩
def f_X2_hasGroupIn := en_f (σ := Nat × Int32 × Int32 × Sx) (fun x => [.ref 1, .int x.2.1, .int x.2.2.1]) (fun x => wX x.2.2.2) (fun x => x.1 ≤ 100 ∧ x.2.2.2.1 1 = nI x.1) (fun x v w => v = some (.int (bl (fs (fun r => x.2.2.2.2.2.1 2 r = x.2.1 ∧ x.2.2.2.2.2.1 5 r = x.2.2.1) x.1 ≠ none))) ∧ w = wX x.2.2.2)
def rm_X2_hasGroupIn : Room := { frames := 0, cells := 0, slots := 0, locals := 0 }
def t_X2_hasGroupIn : en_T := ((4, 0, 0), tb_X2_hasGroupIn, fl_X2, cn_X2, [], [], 0, some .boolean)
set_option maxRecDepth 100000 in
theorem tB_X2_hasGroupIn (D : va_G) (dT : Nat → Nat) (l : Launch) : en_TB en_WD D vwCl dT l rm_X2_hasGroupIn t_X2_hasGroupIn RX2 "hasGroupIn" cX2_hasGroupIn := ⟨tk_X2_hasGroupIn, fun s args meth h hn => ⟨fo_X2 h args meth, co_X2 h args, fun _ h => absurd h List.not_mem_nil, fun _ h => absurd h List.not_mem_nil, Or.inl rfl, en_arr h args⟩⟩
set_option maxHeartbeats 4000000 in
set_option maxRecDepth 100000 in
theorem bd_X2_hasGroupIn : en_B (σ := Nat × Int32 × Int32 × Sx) t_X2_hasGroupIn (fun x => [.ref 1, .int x.2.1, .int x.2.2.1]) (fun x => wX x.2.2.2) (fun x => x.1 ≤ 100 ∧ x.2.2.2.1 1 = nI x.1) (fun x v w => v = some (.int (bl (fs (fun r => x.2.2.2.2.2.1 2 r = x.2.1 ∧ x.2.2.2.2.2.1 5 r = x.2.2.1) x.1 ≠ none))) ∧ w = wX x.2.2.2) := by
  rintro ⟨n, g, p, S⟩ ⟨hn, h1⟩ G hG OK ⟨run, sub⟩
  dsimp only at hn h1 hG ⊢
  have loop := lp_up (fun i => fs (fun r => S.2.2.1 2 r = g ∧ S.2.2.1 5 r = p) i = none → OK 0 0 2 [(0, .ref 1), (1, .int g), (2, .int p), (3, .int (nI i))] [] (wX S)) n
    (fun hf => by
      refine run [2] 60 _ _ _ _ _ _ ?_
      conv => whnf
      rw [h1]
      refine pk_le n n (fun h => ?_) (fun h => absurd h (by omega))
      conv => whnf
      exact ⟨rfl, hG _ _ ⟨bl_af (fun z => z hf) rfl, rfl⟩⟩)
    (fun i hi ih hf => by
      refine run [2] 60 _ _ _ _ _ _ ?_
      conv => whnf
      rw [h1]
      refine pk_le n i (fun h => absurd h (by omega)) (fun h => ?_)
      conv => whnf
      refine ⟨vp_in_nI (by omega) (by decide), ?_⟩
      rw [nI_clamp (by omega)]
      conv => whnf
      rw [nI_succ] at ih
      refine ⟨fun hp => ?_, fun hp => ?_⟩
      · conv => whnf
        exact ih (fs_f hf (fun z => hp z.1))
      · conv => whnf
        refine ⟨vp_in_nI (by omega) (by decide), ?_⟩
        rw [nI_clamp (by omega)]
        conv => whnf
        refine ⟨fun hq => ?_, fun hq => ?_⟩
        · conv => whnf
          exact ih (fs_f hf (fun z => hq z.2))
        · conv => whnf
          have := fs_s (fs_t (p := fun r => S.2.2.1 2 r = g ∧ S.2.2.1 5 r = p) hf ⟨hp, hq⟩) n (by omega)
          exact ⟨rfl, hG _ _ ⟨bl_at (fun z => by rw [this] at z; cases z) rfl, rfl⟩⟩)
  refine run [2] 60 _ _ _ _ _ _ ?_
  conv => whnf
  exact loop 0 (by omega) rfl
theorem ct_X2_hasGroupIn (D : va_G) (dT : Nat → Nat) (l : Launch) : en_CT en_WD D vwCl dT l yX2_hasGroupIn cX2_hasGroupIn 4 (some .boolean) rm_X2_hasGroupIn f_X2_hasGroupIn := en_met en_WD1 en_WD2 (by decide) rfl rfl (tB_X2_hasGroupIn D dT l) (en_f_ln (fun _ => Nat.le_of_ble_eq_true rfl)) (en_f_bd bd_X2_hasGroupIn)
set_option maxRecDepth 100000 in
theorem mk_X2_hasGroupIn {D : va_G} {dT : Nat → Nat} {l : Launch} {R : Room} {s : State} {args : Array Value} {own : String} {idx : Nat} (h : en_WD s) (h1 : rm_X2_hasGroupIn.frames + 1 ≤ R.frames) (h2 : 8 + (4 + 11) + rm_X2_hasGroupIn.locals ≤ R.locals) (hl : (Jvm.Cond.methodLink own idx yX2_hasGroupIn).before args s = true ∨ ∃ host, (Jvm.Cond.methodLinkNest own idx yX2_hasGroupIn host).before args s = true) : en_mok en_WD D vwCl dT l R s args own (idx, 3, 4, 0, 0, f_X2_hasGroupIn) :=
  ⟨yX2_hasGroupIn, cX2_hasGroupIn, 4, some .boolean, rm_X2_hasGroupIn, 2, ct_X2_hasGroupIn D dT l, rfl, rfl, h1, h2, en_wd h 551 rfl rfl args, en_wd h 60 (by decide +kernel) rfl args, by decide, by decide, hl, ⟨RX2, TX2, 8, rfl, en_wd h 550 (by decide +kernel) rfl args, en_wd h 23 (by decide +kernel) rfl args, rfl⟩⟩
/-- in how many parts a group has rows -/
def pog (Gp P : Nat → Int32) (n : Nat) (g : Int32) : Nat := ct (fun p => fs (fun r => Gp r = g ∧ P r = nI p) n ≠ none) 4
def f_X2_countPartsOfGroup := en_f (σ := Nat × Int32 × Sx) (fun x => [.ref 1, .int x.2.1]) (fun x => wX x.2.2) (fun x => x.1 ≤ 100 ∧ x.2.2.1 1 = nI x.1) (fun x v w => v = some (.int (nI (pog (x.2.2.2.2.1 2) (x.2.2.2.2.1 5) x.1 x.2.1))) ∧ w = wX x.2.2)
def rm_X2_countPartsOfGroup : Room := { frames := 1, cells := 0, slots := 0, locals := 23 }
def t_X2_countPartsOfGroup : en_T := ((4, 0, 0), tb_X2_countPartsOfGroup, fl_X2, cn_X2, [(58, 3, 4, 0, 0, f_X2_hasGroupIn)], [], 0, some .int)
set_option maxRecDepth 100000 in
theorem tB_X2_countPartsOfGroup (D : va_G) (dT : Nat → Nat) (l : Launch) : en_TB en_WD D vwCl dT l rm_X2_countPartsOfGroup t_X2_countPartsOfGroup RX2 "countPartsOfGroup" cX2_countPartsOfGroup := ⟨tk_X2_countPartsOfGroup, fun s args meth h hn => ⟨fo_X2 h args meth, co_X2 h args, List.forall_mem_cons.mpr ⟨mk_X2_hasGroupIn (own := RX2) h (Nat.le_of_ble_eq_true rfl) (Nat.le_of_ble_eq_true rfl) (Or.inl (en_wd h 548 (by decide +kernel) rfl args)), fun _ h => absurd h List.not_mem_nil⟩, fun _ h => absurd h List.not_mem_nil, Or.inl rfl, en_arr h args⟩⟩
set_option maxHeartbeats 4000000 in
set_option maxRecDepth 100000 in
theorem bd_X2_countPartsOfGroup : en_B (σ := Nat × Int32 × Sx) t_X2_countPartsOfGroup (fun x => [.ref 1, .int x.2.1]) (fun x => wX x.2.2) (fun x => x.1 ≤ 100 ∧ x.2.2.1 1 = nI x.1) (fun x v w => v = some (.int (nI (pog (x.2.2.2.2.1 2) (x.2.2.2.2.1 5) x.1 x.2.1))) ∧ w = wX x.2.2) := by
  rintro ⟨n, g, S⟩ ⟨hn, h1⟩ G hG OK ⟨run, sub⟩
  dsimp only at hn h1 hG ⊢
  have loop := lp_up (fun i => OK 0 0 4 [(0, .ref 1), (1, .int g), (2, .int (nI (ct (fun p => fs (fun r => S.2.2.1 2 r = g ∧ S.2.2.1 5 r = nI p) n ≠ none) i))), (3, .int (nI i))] [] (wX S)) 4
    (by
      refine run [4] 60 _ _ _ _ _ _ ?_
      conv => whnf
      refine pk_le 4 4 (fun h => ?_) (fun h => absurd h (by omega))
      conv => whnf
      exact hG _ _ ⟨rfl, rfl⟩)
    (fun i hi ih => by
      refine run [4] 60 _ _ _ _ _ _ ?_
      conv => whnf
      refine pk_le 4 i (fun h => absurd h (by omega)) (fun h => ?_)
      conv => whnf
      refine ⟨(n, g, nI i, S), rfl, rfl, ⟨hn, h1⟩, ?_⟩
      rintro _ _ ⟨rfl, rfl⟩
      conv => whnf
      rw [nI_succ] at ih
      refine bl_br (fun hp => ?_) (fun hp => ?_)
      · conv => whnf
        rw [ct_f (p := fun p => fs (fun r => S.2.2.1 2 r = g ∧ S.2.2.1 5 r = nI p) n ≠ none) hp] at ih
        exact ih
      · conv => whnf
        rw [ct_t (p := fun p => fs (fun r => S.2.2.1 2 r = g ∧ S.2.2.1 5 r = nI p) n ≠ none) hp, nI_succ] at ih
        exact ih)
  refine run [4] 60 _ _ _ _ _ _ ?_
  conv => whnf
  exact loop 0 (by omega)
theorem ct_X2_countPartsOfGroup (D : va_G) (dT : Nat → Nat) (l : Launch) : en_CT en_WD D vwCl dT l yX2_countPartsOfGroup cX2_countPartsOfGroup 4 (some .int) rm_X2_countPartsOfGroup f_X2_countPartsOfGroup := en_met en_WD1 en_WD2 (by decide) rfl rfl (tB_X2_countPartsOfGroup D dT l) (en_f_ln (fun _ => Nat.le_of_ble_eq_true rfl)) (en_f_bd bd_X2_countPartsOfGroup)
set_option maxRecDepth 100000 in
theorem mk_X2_countPartsOfGroup {D : va_G} {dT : Nat → Nat} {l : Launch} {R : Room} {s : State} {args : Array Value} {own : String} {idx : Nat} (h : en_WD s) (h1 : rm_X2_countPartsOfGroup.frames + 1 ≤ R.frames) (h2 : 8 + (4 + 11) + rm_X2_countPartsOfGroup.locals ≤ R.locals) (hl : (Jvm.Cond.methodLink own idx yX2_countPartsOfGroup).before args s = true ∨ ∃ host, (Jvm.Cond.methodLinkNest own idx yX2_countPartsOfGroup host).before args s = true) : en_mok en_WD D vwCl dT l R s args own (idx, 2, 4, 0, 0, f_X2_countPartsOfGroup) :=
  ⟨yX2_countPartsOfGroup, cX2_countPartsOfGroup, 4, some .int, rm_X2_countPartsOfGroup, 1, ct_X2_countPartsOfGroup D dT l, rfl, rfl, h1, h2, en_wd h 547 rfl rfl args, en_wd h 60 (by decide +kernel) rfl args, by decide, by decide, hl, ⟨RX2, TX2, 8, rfl, en_wd h 545 (by decide +kernel) rfl args, en_wd h 546 (by decide +kernel) rfl args, rfl⟩⟩
end
section
/-! SplitLeaks$Rows: digests and meetings, a new row -/
def f_X2_digestOf := en_f (σ := Nat × Sx) (fun x => [.ref 1, .int (nI x.1)]) (fun x => wX x.2) (fun x => x.1 < 100) (fun x v w => v = some (.int (dig (x.2.2.2.2 6) (x.2.2.2.2 7) x.1)) ∧ w = wX x.2)
def rm_X2_digestOf : Room := { frames := 0, cells := 0, slots := 0, locals := 0 }
def t_X2_digestOf : en_T := ((5, 0, 0), tb_X2_digestOf, fl_X2, cn_X2, [], [], 0, some .int)
set_option maxRecDepth 100000 in
theorem tB_X2_digestOf (D : va_G) (dT : Nat → Nat) (l : Launch) : en_TB en_WD D vwCl dT l rm_X2_digestOf t_X2_digestOf RX2 "digestOf" cX2_digestOf := ⟨tk_X2_digestOf, fun s args meth h hn => ⟨fo_X2 h args meth, co_X2 h args, fun _ h => absurd h List.not_mem_nil, fun _ h => absurd h List.not_mem_nil, Or.inl rfl, en_arr h args⟩⟩
set_option maxHeartbeats 4000000 in
set_option maxRecDepth 100000 in
theorem bd_X2_digestOf : en_B (σ := Nat × Sx) t_X2_digestOf (fun x => [.ref 1, .int (nI x.1)]) (fun x => wX x.2) (fun x => x.1 < 100) (fun x v w => v = some (.int (dig (x.2.2.2.2 6) (x.2.2.2.2 7) x.1)) ∧ w = wX x.2) := by
  rintro ⟨a, S⟩ ha G hG OK ⟨run, sub⟩
  dsimp only at ha hG ⊢
  have loop := lp_up (fun i => OK 0 0 7 [(0, .ref 1), (1, .int (nI a)), (2, .long (dh (S.2.2.2 6) a i)), (4, .int (nI i))] [] (wX S)) 3
    (by
      refine run [7] 60 _ _ _ _ _ _ ?_
      conv => whnf
      refine pk_le 3 3 (fun h => ?_) (fun h => absurd h (by omega))
      conv => whnf
      refine ⟨vp_in_nI ha (by decide), ?_⟩
      rw [nI_clamp (by omega)]
      conv => whnf
      exact hG _ _ ⟨rfl, rfl⟩)
    (fun i hi ih => by
      refine run [7] 60 _ _ _ _ _ _ ?_
      conv => whnf
      refine pk_le 3 i (fun h => absurd h (by omega)) (fun h => ?_)
      conv => whnf
      rw [mul3]
      refine ⟨vp_in_nI (by omega) (by decide), ?_⟩
      rw [nI_clamp (by omega)]
      conv => whnf
      rw [nI_succ] at ih
      exact ih)
  refine run [7] 60 _ _ _ _ _ _ ?_
  conv => whnf
  exact loop 0 (by omega)
theorem ct_X2_digestOf (D : va_G) (dT : Nat → Nat) (l : Launch) : en_CT en_WD D vwCl dT l yX2_digestOf cX2_digestOf 5 (some .int) rm_X2_digestOf f_X2_digestOf := en_met en_WD1 en_WD2 (by decide) rfl rfl (tB_X2_digestOf D dT l) (en_f_ln (fun _ => Nat.le_of_ble_eq_true rfl)) (en_f_bd bd_X2_digestOf)
set_option maxRecDepth 100000 in
theorem mk_X2_digestOf {D : va_G} {dT : Nat → Nat} {l : Launch} {R : Room} {s : State} {args : Array Value} {own : String} {idx : Nat} (h : en_WD s) (h1 : rm_X2_digestOf.frames + 1 ≤ R.frames) (h2 : 8 + (5 + 11) + rm_X2_digestOf.locals ≤ R.locals) (hl : (Jvm.Cond.methodLink own idx yX2_digestOf).before args s = true ∨ ∃ host, (Jvm.Cond.methodLinkNest own idx yX2_digestOf host).before args s = true) : en_mok en_WD D vwCl dT l R s args own (idx, 2, 4, 0, 0, f_X2_digestOf) :=
  ⟨yX2_digestOf, cX2_digestOf, 5, some .int, rm_X2_digestOf, 1, ct_X2_digestOf D dT l, rfl, rfl, h1, h2, en_wd h 606 rfl rfl args, en_wd h 60 (by decide +kernel) rfl args, by decide, by decide, hl, ⟨RX2, TX2, 8, rfl, en_wd h 605 (by decide +kernel) rfl args, en_wd h 32 (by decide +kernel) rfl args, rfl⟩⟩
/-- which rows behind a meet it -/
abbrev mtq (N Wd : Nat → Int64) (P : Nat → Int32) (a b : Nat) : Prop := dig N Wd a = dig N Wd b ∧ P b ≠ -1 ∧ ¬ alike N Wd a b
def f_X2_countMeetingsBehind := en_f (σ := Nat × Nat × Sx) (fun x => [.ref 1, .int (nI x.2.1)]) (fun x => wX x.2.2) (fun x => x.1 ≤ 100 ∧ x.2.2.1 1 = nI x.1 ∧ x.2.1 < x.1 ∧ ∀ r, r < x.1 → x.2.2.2.2.1 8 r = dig (x.2.2.2.2.2 6) (x.2.2.2.2.2 7) r) (fun x v w => v = some (.int (nI (ct (fun b => x.2.1 + 1 ≤ b ∧ mtq (x.2.2.2.2.2 6) (x.2.2.2.2.2 7) (x.2.2.2.2.1 5) x.2.1 b) x.1))) ∧ w = wX x.2.2)
def rm_X2_countMeetingsBehind : Room := { frames := 2, cells := 0, slots := 0, locals := 46 }
def t_X2_countMeetingsBehind : en_T := ((4, 0, 0), tb_X2_countMeetingsBehind, fl_X2, cn_X2, [(42, 2, 4, 0, 0, f_X2_isPlaced), (67, 3, 4, 0, 0, f_X2_areAlike)], [], 0, some .int)
set_option maxRecDepth 100000 in
theorem tB_X2_countMeetingsBehind (D : va_G) (dT : Nat → Nat) (l : Launch) : en_TB en_WD D vwCl dT l rm_X2_countMeetingsBehind t_X2_countMeetingsBehind RX2 "countMeetingsBehind" cX2_countMeetingsBehind := ⟨tk_X2_countMeetingsBehind, fun s args meth h hn => ⟨fo_X2 h args meth, co_X2 h args, List.forall_mem_cons.mpr ⟨mk_X2_isPlaced (own := RX2) h (Nat.le_of_ble_eq_true rfl) (Nat.le_of_ble_eq_true rfl) (Or.inl (en_wd h 417 (by decide +kernel) rfl args)), List.forall_mem_cons.mpr ⟨mk_X2_areAlike (own := RX2) h (Nat.le_of_ble_eq_true rfl) (Nat.le_of_ble_eq_true rfl) (Or.inl (en_wd h 614 (by decide +kernel) rfl args)), fun _ h => absurd h List.not_mem_nil⟩⟩, fun _ h => absurd h List.not_mem_nil, Or.inl rfl, en_arr h args⟩⟩
set_option maxHeartbeats 4000000 in
set_option maxRecDepth 100000 in
theorem bd_X2_countMeetingsBehind : en_B (σ := Nat × Nat × Sx) t_X2_countMeetingsBehind (fun x => [.ref 1, .int (nI x.2.1)]) (fun x => wX x.2.2) (fun x => x.1 ≤ 100 ∧ x.2.2.1 1 = nI x.1 ∧ x.2.1 < x.1 ∧ ∀ r, r < x.1 → x.2.2.2.2.1 8 r = dig (x.2.2.2.2.2 6) (x.2.2.2.2.2 7) r) (fun x v w => v = some (.int (nI (ct (fun b => x.2.1 + 1 ≤ b ∧ mtq (x.2.2.2.2.2 6) (x.2.2.2.2.2 7) (x.2.2.2.2.1 5) x.2.1 b) x.1))) ∧ w = wX x.2.2) := by
  rintro ⟨n, a, S⟩ ⟨hn, h1, ha, hd⟩ G hG OK ⟨run, sub⟩
  dsimp only at hn h1 ha hd hG ⊢
  have loop := lp_up (fun i => a + 1 ≤ i → OK 0 0 6 [(0, .ref 1), (1, .int (nI a)), (2, .int (nI (ct (fun b => a + 1 ≤ b ∧ mtq (S.2.2.2 6) (S.2.2.2 7) (S.2.2.1 5) a b) i))), (3, .int (nI i))] [] (wX S)) n
    (fun _ => by
      refine run [6] 60 _ _ _ _ _ _ ?_
      conv => whnf
      refine pk_le n n (fun h => ?_) (fun h => absurd h (by omega)) h1
      conv => whnf
      exact hG _ _ ⟨rfl, rfl⟩)
    (fun i hi ih hai => by
      have ih := ih (by omega)
      refine run [6] 60 _ _ _ _ _ _ ?_
      conv => whnf
      refine pk_le n i (fun h => absurd h (by omega)) (fun h => ?_) h1
      conv => whnf
      refine ⟨vp_in_nI (by omega) (by decide), ?_⟩
      rw [nI_clamp (by omega)]
      conv => whnf
      refine ⟨vp_in_nI (by omega) (by decide), ?_⟩
      rw [nI_clamp (by omega)]
      conv => whnf
      rw [hd a ha, hd i hi]
      rw [nI_succ] at ih
      refine ⟨fun hp => ?_, fun hp => ?_⟩
      · conv => whnf
        rw [ct_f (fun z => hp z.2.1)] at ih
        exact ih
      · conv => whnf
        refine ⟨(i, S), rfl, rfl, (by dsimp only; omega), ?_⟩
        rintro _ _ ⟨rfl, rfl⟩
        conv => whnf
        refine bl_br (fun hq => ?_) (fun hq => ?_)
        · conv => whnf
          rw [ct_f (fun z => hq z.2.2.1)] at ih
          exact ih
        · conv => whnf
          refine ⟨(a, i, S), rfl, rfl, (by dsimp only; omega), ?_⟩
          rintro _ _ ⟨rfl, rfl⟩
          conv => whnf
          refine bl_br2 (fun hr => ?_) (fun hr => ?_)
          · conv => whnf
            rw [ct_f (fun z => z.2.2.2 hr)] at ih
            exact ih
          · conv => whnf
            rw [ct_t ⟨hai, hp, hq, hr⟩, nI_succ] at ih
            exact ih)
  refine run [6] 60 _ _ _ _ _ _ ?_
  conv => whnf
  have h0 := loop (a + 1) (by omega) (Nat.le_refl _)
  rw [ct_0 (fun i hi z => by omega), nI_succ] at h0
  exact h0
theorem ct_X2_countMeetingsBehind (D : va_G) (dT : Nat → Nat) (l : Launch) : en_CT en_WD D vwCl dT l yX2_countMeetingsBehind cX2_countMeetingsBehind 4 (some .int) rm_X2_countMeetingsBehind f_X2_countMeetingsBehind := en_met en_WD1 en_WD2 (by decide) rfl rfl (tB_X2_countMeetingsBehind D dT l) (en_f_ln (fun _ => Nat.le_of_ble_eq_true rfl)) (en_f_bd bd_X2_countMeetingsBehind)
set_option maxRecDepth 100000 in
theorem mk_X2_countMeetingsBehind {D : va_G} {dT : Nat → Nat} {l : Launch} {R : Room} {s : State} {args : Array Value} {own : String} {idx : Nat} (h : en_WD s) (h1 : rm_X2_countMeetingsBehind.frames + 1 ≤ R.frames) (h2 : 8 + (4 + 11) + rm_X2_countMeetingsBehind.locals ≤ R.locals) (hl : (Jvm.Cond.methodLink own idx yX2_countMeetingsBehind).before args s = true ∨ ∃ host, (Jvm.Cond.methodLinkNest own idx yX2_countMeetingsBehind host).before args s = true) : en_mok en_WD D vwCl dT l R s args own (idx, 2, 4, 0, 0, f_X2_countMeetingsBehind) :=
  ⟨yX2_countMeetingsBehind, cX2_countMeetingsBehind, 4, some .int, rm_X2_countMeetingsBehind, 1, ct_X2_countMeetingsBehind D dT l, rfl, rfl, h1, h2, en_wd h 613 rfl rfl args, en_wd h 60 (by decide +kernel) rfl args, by decide, by decide, hl, ⟨RX2, TX2, 8, rfl, en_wd h 612 (by decide +kernel) rfl args, en_wd h 33 (by decide +kernel) rfl args, rfl⟩⟩
/-- how many pairs meet -/
def mts (N Wd : Nat → Int64) (P : Nat → Int32) (n : Nat) : Nat := sm (fun a => if P a ≠ -1 then ct (fun b => a + 1 ≤ b ∧ mtq N Wd P a b) n else 0) n
def f_X2_countMeetings := en_f (σ := Nat × Sx) (fun _ => [.ref 1]) (fun x => wX x.2) (fun x => x.1 ≤ 100 ∧ x.2.1 1 = nI x.1) (fun x v w => v = some (.int (nI (mts (x.2.2.2.2 6) (x.2.2.2.2 7) (x.2.2.2.1 5) x.1))) ∧ ∃ f, w = wX (xa x.2 8 f))
def rm_X2_countMeetings : Room := { frames := 3, cells := 0, slots := 0, locals := 69 }
def t_X2_countMeetings : en_T := ((3, 0, 0), tb_X2_countMeetings, fl_X2, cn_X2, [(61, 2, 4, 0, 0, f_X2_digestOf), (42, 2, 4, 0, 0, f_X2_isPlaced), (64, 2, 4, 0, 0, f_X2_countMeetingsBehind)], [], 0, some .int)
set_option maxRecDepth 100000 in
theorem tB_X2_countMeetings (D : va_G) (dT : Nat → Nat) (l : Launch) : en_TB en_WD D vwCl dT l rm_X2_countMeetings t_X2_countMeetings RX2 "countMeetings" cX2_countMeetings := ⟨tk_X2_countMeetings, fun s args meth h hn => ⟨fo_X2 h args meth, co_X2 h args, List.forall_mem_cons.mpr ⟨mk_X2_digestOf (own := RX2) h (Nat.le_of_ble_eq_true rfl) (Nat.le_of_ble_eq_true rfl) (Or.inl (en_wd h 603 (by decide +kernel) rfl args)), List.forall_mem_cons.mpr ⟨mk_X2_isPlaced (own := RX2) h (Nat.le_of_ble_eq_true rfl) (Nat.le_of_ble_eq_true rfl) (Or.inl (en_wd h 417 (by decide +kernel) rfl args)), List.forall_mem_cons.mpr ⟨mk_X2_countMeetingsBehind (own := RX2) h (Nat.le_of_ble_eq_true rfl) (Nat.le_of_ble_eq_true rfl) (Or.inl (en_wd h 610 (by decide +kernel) rfl args)), fun _ h => absurd h List.not_mem_nil⟩⟩⟩, fun _ h => absurd h List.not_mem_nil, Or.inl rfl, en_arr h args⟩⟩
set_option maxHeartbeats 4000000 in
set_option maxRecDepth 100000 in
theorem bd_X2_countMeetings : en_B (σ := Nat × Sx) t_X2_countMeetings (fun _ => [.ref 1]) (fun x => wX x.2) (fun x => x.1 ≤ 100 ∧ x.2.1 1 = nI x.1) (fun x v w => v = some (.int (nI (mts (x.2.2.2.2 6) (x.2.2.2.2 7) (x.2.2.2.1 5) x.1))) ∧ ∃ f, w = wX (xa x.2 8 f)) := by
  rintro ⟨n, S⟩ ⟨hn, h1⟩ G hG OK ⟨run, sub⟩
  dsimp only at hn h1 hG ⊢
  have loop2 : ∀ f : Nat → Int32, (∀ r, r < n → f r = dig (S.2.2.2 6) (S.2.2.2 7) r) → OK 0 0 31 [(0, .ref 1), (1, .int (nI 0)), (2, .int (nI 0))] [] (wX (xa S 8 f)) := by
    intro f hf
    refine lp_up (fun i => OK 0 0 31 [(0, .ref 1), (1, .int (nI (sm (fun a => if S.2.2.1 5 a ≠ -1 then ct (fun b => a + 1 ≤ b ∧ mtq (S.2.2.2 6) (S.2.2.2 7) (S.2.2.1 5) a b) n else 0) i))), (2, .int (nI i))] [] (wX (xa S 8 f))) n ?_ ?_ 0 (by omega)
    · refine run [31] 60 _ _ _ _ _ _ ?_
      conv => whnf
      refine pk_le n n (fun h => ?_) (fun h => absurd h (by omega)) h1
      conv => whnf
      exact hG _ _ ⟨rfl, f, rfl⟩
    · intro i hi ih
      refine run [31] 60 _ _ _ _ _ _ ?_
      conv => whnf
      refine pk_le n i (fun h => absurd h (by omega)) (fun h => ?_) h1
      conv => whnf
      refine ⟨(i, xa S 8 f), rfl, rfl, (by dsimp only; omega), ?_⟩
      rintro _ _ ⟨rfl, rfl⟩
      conv => whnf
      rw [nI_succ] at ih
      simp only [sm] at ih
      refine bl_br (fun hp => ?_) (fun hp => ?_)
      · conv => whnf
        rw [if_neg (c := S.2.2.1 5 i ≠ -1) hp, Nat.add_zero] at ih
        exact ih
      · conv => whnf
        refine ⟨(n, i, xa S 8 f), rfl, rfl, ⟨hn, h1, hi, hf⟩, ?_⟩
        rintro _ _ ⟨rfl, rfl⟩
        conv => whnf
        rw [if_pos (c := S.2.2.1 5 i ≠ -1) hp, ← nI_add] at ih
        exact ih
  have loop1 : ∀ i, i ≤ n → ∀ f : Nat → Int32, (∀ r, r < i → f r = dig (S.2.2.2 6) (S.2.2.2 7) r) → OK 0 0 2 [(0, .ref 1), (1, .int (nI i))] [] (wX (xa S 8 f)) := by
    refine lp_up (fun i => ∀ f : Nat → Int32, (∀ r, r < i → f r = dig (S.2.2.2 6) (S.2.2.2 7) r) → OK 0 0 2 [(0, .ref 1), (1, .int (nI i))] [] (wX (xa S 8 f))) n ?_ ?_
    · intro f hf
      refine run [2, 31] 60 _ _ _ _ _ _ ?_
      conv => whnf
      refine pk_le n n (fun h => ?_) (fun h => absurd h (by omega)) h1
      conv => whnf
      exact loop2 f hf
    · intro i hi ih f hf
      refine run [2] 60 _ _ _ _ _ _ ?_
      conv => whnf
      refine pk_le n i (fun h => absurd h (by omega)) (fun h => ?_) h1
      conv => whnf
      refine ⟨(i, xa S 8 f), rfl, rfl, (by dsimp only; omega), ?_⟩
      rintro _ _ ⟨rfl, rfl⟩
      conv => whnf
      refine ⟨vp_in_nI (by omega) (by decide), ?_⟩
      rw [nI_clamp (by omega)]
      conv => whnf
      have := ih (upd f i (dig (S.2.2.2 6) (S.2.2.2 7) i)) (fun r hr => by
        by_cases e : r = i
        · subst e; exact pk_us
        · rw [pk_un e]; exact hf r (by omega))
      rw [nI_succ] at this
      exact this
  refine run [2] 60 _ _ _ _ _ _ ?_
  conv => whnf
  exact loop1 0 (by omega) (S.2.2.1 8) (fun r hr => by omega)
theorem ct_X2_countMeetings (D : va_G) (dT : Nat → Nat) (l : Launch) : en_CT en_WD D vwCl dT l yX2_countMeetings cX2_countMeetings 3 (some .int) rm_X2_countMeetings f_X2_countMeetings := en_met en_WD1 en_WD2 (by decide) rfl rfl (tB_X2_countMeetings D dT l) (en_f_ln (fun _ => Nat.le_of_ble_eq_true rfl)) (en_f_bd bd_X2_countMeetings)
set_option maxRecDepth 100000 in
theorem mk_X2_countMeetings {D : va_G} {dT : Nat → Nat} {l : Launch} {R : Room} {s : State} {args : Array Value} {own : String} {idx : Nat} (h : en_WD s) (h1 : rm_X2_countMeetings.frames + 1 ≤ R.frames) (h2 : 8 + (3 + 11) + rm_X2_countMeetings.locals ≤ R.locals) (hl : (Jvm.Cond.methodLink own idx yX2_countMeetings).before args s = true ∨ ∃ host, (Jvm.Cond.methodLinkNest own idx yX2_countMeetings host).before args s = true) : en_mok en_WD D vwCl dT l R s args own (idx, 1, 4, 0, 0, f_X2_countMeetings) :=
  ⟨yX2_countMeetings, cX2_countMeetings, 3, some .int, rm_X2_countMeetings, 0, ct_X2_countMeetings D dT l, rfl, rfl, h1, h2, en_wd h 602 rfl rfl args, en_wd h 60 (by decide +kernel) rfl args, by decide, by decide, hl, ⟨RX2, TX2, 8, rfl, en_wd h 600 (by decide +kernel) rfl args, en_wd h 601 (by decide +kernel) rfl args, rfl⟩⟩
def f_X2_append := en_f (σ := Nat × Int32 × Int32 × Int32 × Sx) (fun x => [.ref 1, .int x.2.1, .int x.2.2.1, .int x.2.2.2.1]) (fun x => wX x.2.2.2.2) (fun x => x.1 < 100 ∧ x.2.2.2.2.1 1 = nI x.1) (fun x v w => v = some (.int (nI x.1)) ∧ w = wX (xi (xa (xa (xa (xa x.2.2.2.2 2 (upd (x.2.2.2.2.2.2.1 2) x.1 x.2.1)) 3 (upd (x.2.2.2.2.2.2.1 3) x.1 x.2.2.1)) 4 (upd (x.2.2.2.2.2.2.1 4) x.1 x.2.2.2.1)) 5 (upd (x.2.2.2.2.2.2.1 5) x.1 (-1))) 1 (nI (x.1 + 1))))
def rm_X2_append : Room := { frames := 0, cells := 0, slots := 0, locals := 0 }
def t_X2_append : en_T := ((5, 0, 0), tb_X2_append, fl_X2, cn_X2, [], [], 0, some .int)
set_option maxRecDepth 100000 in
theorem tB_X2_append (D : va_G) (dT : Nat → Nat) (l : Launch) : en_TB en_WD D vwCl dT l rm_X2_append t_X2_append RX2 "append" cX2_append := ⟨tk_X2_append, fun s args meth h hn => ⟨fo_X2 h args meth, co_X2 h args, fun _ h => absurd h List.not_mem_nil, fun _ h => absurd h List.not_mem_nil, Or.inl rfl, en_arr h args⟩⟩
set_option maxHeartbeats 4000000 in
set_option maxRecDepth 100000 in
theorem bd_X2_append : en_B (σ := Nat × Int32 × Int32 × Int32 × Sx) t_X2_append (fun x => [.ref 1, .int x.2.1, .int x.2.2.1, .int x.2.2.2.1]) (fun x => wX x.2.2.2.2) (fun x => x.1 < 100 ∧ x.2.2.2.2.1 1 = nI x.1) (fun x v w => v = some (.int (nI x.1)) ∧ w = wX (xi (xa (xa (xa (xa x.2.2.2.2 2 (upd (x.2.2.2.2.2.2.1 2) x.1 x.2.1)) 3 (upd (x.2.2.2.2.2.2.1 3) x.1 x.2.2.1)) 4 (upd (x.2.2.2.2.2.2.1 4) x.1 x.2.2.2.1)) 5 (upd (x.2.2.2.2.2.2.1 5) x.1 (-1))) 1 (nI (x.1 + 1)))) := by
  rintro ⟨n, g, l, t, S⟩ ⟨hn, h1⟩ G hG OK ⟨run, sub⟩
  dsimp only at hn h1 hG ⊢
  refine run [] 60 _ _ _ _ _ _ ?_
  conv => whnf
  rw [h1]
  refine ⟨vp_in_nI hn (by decide), ?_⟩
  rw [nI_clamp (by omega)]
  conv => whnf
  refine ⟨vp_in_nI hn (by decide), ?_⟩
  rw [nI_clamp (by omega)]
  conv => whnf
  refine ⟨vp_in_nI hn (by decide), ?_⟩
  rw [nI_clamp (by omega)]
  conv => whnf
  refine ⟨vp_in_nI hn (by decide), ?_⟩
  rw [nI_clamp (by omega)]
  conv => whnf
  rw [nI_succ] at hG
  exact hG _ _ ⟨rfl, rfl⟩
theorem ct_X2_append (D : va_G) (dT : Nat → Nat) (l : Launch) : en_CT en_WD D vwCl dT l yX2_append cX2_append 5 (some .int) rm_X2_append f_X2_append := en_met en_WD1 en_WD2 (by decide) rfl rfl (tB_X2_append D dT l) (en_f_ln (fun _ => Nat.le_of_ble_eq_true rfl)) (en_f_bd bd_X2_append)
set_option maxRecDepth 100000 in
theorem mk_X2_append {D : va_G} {dT : Nat → Nat} {l : Launch} {R : Room} {s : State} {args : Array Value} {own : String} {idx : Nat} (h : en_WD s) (h1 : rm_X2_append.frames + 1 ≤ R.frames) (h2 : 8 + (5 + 11) + rm_X2_append.locals ≤ R.locals) (hl : (Jvm.Cond.methodLink own idx yX2_append).before args s = true ∨ ∃ host, (Jvm.Cond.methodLinkNest own idx yX2_append host).before args s = true) : en_mok en_WD D vwCl dT l R s args own (idx, 4, 4, 0, 0, f_X2_append) :=
  ⟨yX2_append, cX2_append, 5, some .int, rm_X2_append, 3, ct_X2_append D dT l, rfl, rfl, h1, h2, en_wd h 274 rfl rfl args, en_wd h 60 (by decide +kernel) rfl args, by decide, by decide, hl, ⟨RX2, TX2, 8, rfl, en_wd h 272 (by decide +kernel) rfl args, en_wd h 273 (by decide +kernel) rfl args, rfl⟩⟩
end
section
/-! SplitLeaks$Steps -/
theorem mul100 (a c : Nat) : nI a * (Int8.ofInt 100).toInt32 + nI c = nI (a * 100 + c) := by rw [← nI_add, ← pk_mul]; rfl
/-- booleans are 0 or 1 -/
def zb (f : Nat → Int32) : Prop := ∀ j, f j = 0 ∨ f j = 1
theorem zb_n {x : Int32} (h : x = 0 ∨ x = 1) : narrow .boolean (.int x) = .int x := by
  rcases h with rfl | rfl <;> rfl
/-- what a step goes by: none, or one below it -/
def byok (By : Nat → Int32) : Prop := ∀ k, k < 8 → By k = -1 ∨ ∃ j, j < k ∧ By k = nI j
def f_X4_isFittedItself := en_f (σ := Nat × Nat × Sx) (fun x => [.ref 19, .int (nI x.1), .int (nI x.2.1)]) (fun x => wX x.2.2) (fun x => x.1 < 8 ∧ x.2.1 < 100 ∧ zb (x.2.2.2.2.1 22)) (fun x v w => v = some (.int (x.2.2.2.2.1 22 (x.1 * 100 + x.2.1))) ∧ w = wX x.2.2)
def rm_X4_isFittedItself : Room := { frames := 0, cells := 0, slots := 0, locals := 0 }
def t_X4_isFittedItself : en_T := ((3, 0, 0), tb_X4_isFittedItself, fl_X4, cn_X4, [], [], 0, some .boolean)
set_option maxRecDepth 100000 in
theorem tB_X4_isFittedItself (D : va_G) (dT : Nat → Nat) (l : Launch) : en_TB en_WD D vwCl dT l rm_X4_isFittedItself t_X4_isFittedItself RX4 "isFittedItself" cX4_isFittedItself := ⟨tk_X4_isFittedItself, fun s args meth h hn => ⟨fo_X4 h args meth, co_X4 h args, fun _ h => absurd h List.not_mem_nil, fun _ h => absurd h List.not_mem_nil, Or.inl rfl, en_arr h args⟩⟩
set_option maxHeartbeats 4000000 in
set_option maxRecDepth 100000 in
theorem bd_X4_isFittedItself : en_B (σ := Nat × Nat × Sx) t_X4_isFittedItself (fun x => [.ref 19, .int (nI x.1), .int (nI x.2.1)]) (fun x => wX x.2.2) (fun x => x.1 < 8 ∧ x.2.1 < 100 ∧ zb (x.2.2.2.2.1 22)) (fun x v w => v = some (.int (x.2.2.2.2.1 22 (x.1 * 100 + x.2.1))) ∧ w = wX x.2.2) := by
  rintro ⟨s, r, S⟩ ⟨hs, hr, hz⟩ G hG OK ⟨run, sub⟩
  dsimp only at hs hr hz hG ⊢
  refine run [] 60 _ _ _ _ _ _ ?_
  conv => whnf
  rw [mul100]
  refine ⟨vp_in_nI (by omega) (by decide), ?_⟩
  rw [nI_clamp (by omega)]
  conv => whnf
  exact ⟨zb_n (hz _), hG _ _ ⟨rfl, rfl⟩⟩
theorem ct_X4_isFittedItself (D : va_G) (dT : Nat → Nat) (l : Launch) : en_CT en_WD D vwCl dT l yX4_isFittedItself cX4_isFittedItself 3 (some .boolean) rm_X4_isFittedItself f_X4_isFittedItself := en_met en_WD1 en_WD2 (by decide) rfl rfl (tB_X4_isFittedItself D dT l) (en_f_ln (fun _ => Nat.le_of_ble_eq_true rfl)) (en_f_bd bd_X4_isFittedItself)
set_option maxRecDepth 100000 in
theorem mk_X4_isFittedItself {D : va_G} {dT : Nat → Nat} {l : Launch} {R : Room} {s : State} {args : Array Value} {own : String} {idx : Nat} (h : en_WD s) (h1 : rm_X4_isFittedItself.frames + 1 ≤ R.frames) (h2 : 8 + (3 + 11) + rm_X4_isFittedItself.locals ≤ R.locals) (hl : (Jvm.Cond.methodLink own idx yX4_isFittedItself).before args s = true ∨ ∃ host, (Jvm.Cond.methodLinkNest own idx yX4_isFittedItself host).before args s = true) : en_mok en_WD D vwCl dT l R s args own (idx, 3, 6, 0, 0, f_X4_isFittedItself) :=
  ⟨yX4_isFittedItself, cX4_isFittedItself, 3, some .boolean, rm_X4_isFittedItself, 2, ct_X4_isFittedItself D dT l, rfl, rfl, h1, h2, en_wd h 495 rfl rfl args, en_wd h 64 (by decide +kernel) rfl args, by decide, by decide, hl, ⟨RX4, TX4, 3, rfl, en_wd h 493 (by decide +kernel) rfl args, en_wd h 494 (by decide +kernel) rfl args, rfl⟩⟩
def f_X4_addRow := en_f (σ := Nat × Nat × Sx) (fun x => [.ref 19, .int (nI x.1), .int (nI x.2.1)]) (fun x => wX x.2.2) (fun x => x.1 < 8 ∧ x.2.1 < 100) (fun x v w => v = some (.int (x.2.2.2.2.1 21 x.1 + 1)) ∧ w = wX (xa (xa x.2.2 22 (upd (x.2.2.2.2.1 22) (x.1 * 100 + x.2.1) 1)) 21 (upd (x.2.2.2.2.1 21) x.1 (x.2.2.2.2.1 21 x.1 + 1))))
def rm_X4_addRow : Room := { frames := 0, cells := 0, slots := 0, locals := 0 }
def t_X4_addRow : en_T := ((3, 0, 0), tb_X4_addRow, fl_X4, cn_X4, [], [], 0, some .int)
set_option maxRecDepth 100000 in
theorem tB_X4_addRow (D : va_G) (dT : Nat → Nat) (l : Launch) : en_TB en_WD D vwCl dT l rm_X4_addRow t_X4_addRow RX4 "addRow" cX4_addRow := ⟨tk_X4_addRow, fun s args meth h hn => ⟨fo_X4 h args meth, co_X4 h args, fun _ h => absurd h List.not_mem_nil, fun _ h => absurd h List.not_mem_nil, Or.inl rfl, en_arr h args⟩⟩
set_option maxHeartbeats 4000000 in
set_option maxRecDepth 100000 in
theorem bd_X4_addRow : en_B (σ := Nat × Nat × Sx) t_X4_addRow (fun x => [.ref 19, .int (nI x.1), .int (nI x.2.1)]) (fun x => wX x.2.2) (fun x => x.1 < 8 ∧ x.2.1 < 100) (fun x v w => v = some (.int (x.2.2.2.2.1 21 x.1 + 1)) ∧ w = wX (xa (xa x.2.2 22 (upd (x.2.2.2.2.1 22) (x.1 * 100 + x.2.1) 1)) 21 (upd (x.2.2.2.2.1 21) x.1 (x.2.2.2.2.1 21 x.1 + 1)))) := by
  rintro ⟨s, r, S⟩ ⟨hs, hr⟩ G hG OK ⟨run, sub⟩
  dsimp only at hs hr hG ⊢
  refine run [] 60 _ _ _ _ _ _ ?_
  conv => whnf
  rw [mul100]
  refine ⟨vp_in_nI (by omega) (by decide), ?_⟩
  rw [nI_clamp (by omega)]
  conv => whnf
  refine ⟨vp_in_nI (by omega) (by decide), ?_⟩
  rw [nI_clamp (by omega)]
  conv => whnf
  refine ⟨vp_in_nI (by omega) (by decide), ?_⟩
  rw [nI_clamp (by omega)]
  conv => whnf
  refine ⟨vp_in_nI (by omega) (by decide), ?_⟩
  rw [nI_clamp (by omega)]
  conv => whnf
  refine hG _ _ ⟨?_, rfl⟩
  rw [pk_us]
  rfl
theorem ct_X4_addRow (D : va_G) (dT : Nat → Nat) (l : Launch) : en_CT en_WD D vwCl dT l yX4_addRow cX4_addRow 3 (some .int) rm_X4_addRow f_X4_addRow := en_met en_WD1 en_WD2 (by decide) rfl rfl (tB_X4_addRow D dT l) (en_f_ln (fun _ => Nat.le_of_ble_eq_true rfl)) (en_f_bd bd_X4_addRow)
set_option maxRecDepth 100000 in
theorem mk_X4_addRow {D : va_G} {dT : Nat → Nat} {l : Launch} {R : Room} {s : State} {args : Array Value} {own : String} {idx : Nat} (h : en_WD s) (h1 : rm_X4_addRow.frames + 1 ≤ R.frames) (h2 : 8 + (3 + 11) + rm_X4_addRow.locals ≤ R.locals) (hl : (Jvm.Cond.methodLink own idx yX4_addRow).before args s = true ∨ ∃ host, (Jvm.Cond.methodLinkNest own idx yX4_addRow host).before args s = true) : en_mok en_WD D vwCl dT l R s args own (idx, 3, 6, 0, 0, f_X4_addRow) :=
  ⟨yX4_addRow, cX4_addRow, 3, some .int, rm_X4_addRow, 2, ct_X4_addRow D dT l, rfl, rfl, h1, h2, en_wd h 499 rfl rfl args, en_wd h 64 (by decide +kernel) rfl args, by decide, by decide, hl, ⟨RX4, TX4, 3, rfl, en_wd h 497 (by decide +kernel) rfl args, en_wd h 498 (by decide +kernel) rfl args, rfl⟩⟩
/-- is a step fitted with a row, itself or by what it goes by (at most f steps) -/
def chn (By Ft : Nat → Int32) (r : Nat) : Nat → Int32 → Bool
  | 0, _ => false
  | f + 1, s => if s = -1 then false else (decide (Ft (s.toNatClampNeg * 100 + r) ≠ 0) || chn By Ft r f (By s.toNatClampNeg))
theorem chn_s {By Ft : Nat → Int32} {r f j : Nat} (hj : j < 2 ^ 31) (h : ¬ nI j = -1) : chn By Ft r (f + 1) (nI j) = (decide (Ft (j * 100 + r) ≠ 0) || chn By Ft r f (By j)) := by
  show (if nI j = -1 then false else _) = _
  rw [if_neg h, nI_clamp hj]
def f_X4_isFitted := en_f (σ := Nat × Nat × Sx) (fun x => [.ref 19, .int (nI x.1), .int (nI x.2.1)]) (fun x => wX x.2.2) (fun x => x.1 < 8 ∧ x.2.1 < 100 ∧ zb (x.2.2.2.2.1 22) ∧ byok (x.2.2.2.2.1 20)) (fun x v w => v = some (.int (bl (chn (x.2.2.2.2.1 20) (x.2.2.2.2.1 22) x.2.1 8 (nI x.1) = true))) ∧ w = wX x.2.2)
def rm_X4_isFitted : Room := { frames := 1, cells := 0, slots := 0, locals := 22 }
def t_X4_isFitted : en_T := ((5, 0, 0), tb_X4_isFitted, fl_X4, cn_X4, [(22, 3, 6, 0, 0, f_X4_isFittedItself)], [], 0, some .boolean)
set_option maxRecDepth 100000 in
theorem tB_X4_isFitted (D : va_G) (dT : Nat → Nat) (l : Launch) : en_TB en_WD D vwCl dT l rm_X4_isFitted t_X4_isFitted RX4 "isFitted" cX4_isFitted := ⟨tk_X4_isFitted, fun s args meth h hn => ⟨fo_X4 h args meth, co_X4 h args, List.forall_mem_cons.mpr ⟨mk_X4_isFittedItself (own := RX4) h (Nat.le_of_ble_eq_true rfl) (Nat.le_of_ble_eq_true rfl) (Or.inl (en_wd h 590 (by decide +kernel) rfl args)), fun _ h => absurd h List.not_mem_nil⟩, fun _ h => absurd h List.not_mem_nil, Or.inl rfl, en_arr h args⟩⟩
set_option maxHeartbeats 4000000 in
set_option maxRecDepth 100000 in
theorem bd_X4_isFitted : en_B (σ := Nat × Nat × Sx) t_X4_isFitted (fun x => [.ref 19, .int (nI x.1), .int (nI x.2.1)]) (fun x => wX x.2.2) (fun x => x.1 < 8 ∧ x.2.1 < 100 ∧ zb (x.2.2.2.2.1 22) ∧ byok (x.2.2.2.2.1 20)) (fun x v w => v = some (.int (bl (chn (x.2.2.2.2.1 20) (x.2.2.2.2.1 22) x.2.1 8 (nI x.1) = true))) ∧ w = wX x.2.2) := by
  rintro ⟨s, r, S⟩ ⟨hs, hr, hz, hby⟩ G hG OK ⟨run, sub⟩
  dsimp only at hs hr hz hby hG ⊢
  have loop : ∀ k i (u : Int32), i + k = 8 → (u = -1 ∨ ∃ j, j < 8 ∧ u = nI j) → chn (S.2.2.1 20) (S.2.2.1 22) r k u = chn (S.2.2.1 20) (S.2.2.1 22) r 8 (nI s) → OK 0 0 5 [(0, .ref 19), (1, .int (nI s)), (2, .int (nI r)), (3, .int u), (4, .int (nI i))] [] (wX S) := by
    intro k
    induction k with
    | zero =>
      intro i u hi hu hc
      refine run [5] 60 _ _ _ _ _ _ ?_
      conv => whnf
      refine pk_le 8 i (fun h => ?_) (fun h => absurd h (by omega))
      conv => whnf
      refine ⟨rfl, hG _ _ ⟨bl_af ?_ rfl, rfl⟩⟩
      rw [← hc]
      simp [chn]
    | succ k ih =>
      intro i u hi hu hc
      refine run [5] 60 _ _ _ _ _ _ ?_
      conv => whnf
      refine pk_le 8 i (fun h => absurd h (by omega)) (fun h => ?_)
      conv => whnf
      refine ⟨fun hu1 => ?_, fun hu1 => ?_⟩
      · conv => whnf
        refine ⟨rfl, hG _ _ ⟨bl_af ?_ rfl, rfl⟩⟩
        rw [← hc]
        have hu2 : u = -1 := hu1
        simp [chn, hu2]
      · obtain ⟨j, hj, rfl⟩ := hu.resolve_left hu1
        conv => whnf
        refine ⟨(j, r, S), rfl, rfl, ⟨hj, hr, hz⟩, ?_⟩
        rintro _ _ ⟨rfl, rfl⟩
        have hu2 : ¬ nI j = -1 := hu1
        rw [chn_s (f := k) (by omega) hu2] at hc
        conv => whnf
        refine ⟨fun hf => ?_, fun hf => ?_⟩
        · have hf : S.2.2.1 22 (j * 100 + r) = 0 := hf
          conv => whnf
          refine ⟨vp_in_nI hj (by decide), ?_⟩
          rw [nI_clamp (by omega)]
          conv => whnf
          rw [hf] at hc
          have hc : chn (S.2.2.1 20) (S.2.2.1 22) r k (S.2.2.1 20 j) = chn (S.2.2.1 20) (S.2.2.1 22) r 8 (nI s) := by rw [← hc]; rfl
          have h2 := ih (i + 1) (S.2.2.1 20 j) (by omega) (by
            rcases hby j hj with h | ⟨q, hq, h⟩
            · exact Or.inl h
            · exact Or.inr ⟨q, by omega, h⟩) hc
          rw [nI_succ] at h2
          exact h2
        · conv => whnf
          refine ⟨rfl, hG _ _ ⟨bl_at ?_ rfl, rfl⟩⟩
          have hf : ¬ S.2.2.1 22 (j * 100 + r) = 0 := hf
          rw [← hc, decide_eq_true hf]
          rfl
  refine run [5] 60 _ _ _ _ _ _ ?_
  conv => whnf
  exact loop 8 0 (nI s) rfl (Or.inr ⟨s, hs, rfl⟩) rfl
theorem ct_X4_isFitted (D : va_G) (dT : Nat → Nat) (l : Launch) : en_CT en_WD D vwCl dT l yX4_isFitted cX4_isFitted 5 (some .boolean) rm_X4_isFitted f_X4_isFitted := en_met en_WD1 en_WD2 (by decide) rfl rfl (tB_X4_isFitted D dT l) (en_f_ln (fun _ => Nat.le_of_ble_eq_true rfl)) (en_f_bd bd_X4_isFitted)
set_option maxRecDepth 100000 in
theorem mk_X4_isFitted {D : va_G} {dT : Nat → Nat} {l : Launch} {R : Room} {s : State} {args : Array Value} {own : String} {idx : Nat} (h : en_WD s) (h1 : rm_X4_isFitted.frames + 1 ≤ R.frames) (h2 : 8 + (5 + 11) + rm_X4_isFitted.locals ≤ R.locals) (hl : (Jvm.Cond.methodLink own idx yX4_isFitted).before args s = true ∨ ∃ host, (Jvm.Cond.methodLinkNest own idx yX4_isFitted host).before args s = true) : en_mok en_WD D vwCl dT l R s args own (idx, 3, 6, 0, 0, f_X4_isFitted) :=
  ⟨yX4_isFitted, cX4_isFitted, 5, some .boolean, rm_X4_isFitted, 2, ct_X4_isFitted D dT l, rfl, rfl, h1, h2, en_wd h 589 rfl rfl args, en_wd h 64 (by decide +kernel) rfl args, by decide, by decide, hl, ⟨RX4, TX4, 3, rfl, en_wd h 587 (by decide +kernel) rfl args, en_wd h 588 (by decide +kernel) rfl args, rfl⟩⟩
end
section
/-! SplitLeaks$Draws -/
def nz (z : Int64) : Int64 := z * 6364136223846793005 + 1442695040888963407
/-- a draw of n out of the z behind it -/
def dw (z : Int64) (n : Nat) : Nat := z.toBitVec.toNat / 2 ^ 33 % n
theorem dw_lt {z : Int64} {n : Nat} (h : 0 < n) : dw z n < n := Nat.mod_lt _ h
theorem dw_is (z : Int64) {n : Nat} (h0 : 0 < n) (hn : n < 2 ^ 31) :
    ((z.toUInt64 >>> ((Int8.ofInt 33).toInt32.toInt64.toUInt64 &&& Int64.toUInt64 63)).toInt64 - (z.toUInt64 >>> ((Int8.ofInt 33).toInt32.toInt64.toUInt64 &&& Int64.toUInt64 63)).toInt64 / (nI n).toInt64 * (nI n).toInt64).toInt32 = nI (dw z n) := by
  obtain ⟨k, hk, rfl⟩ := wb_of z
  rw [show (Int8.ofInt 33).toInt32 = nI 33 from rfl, wb_shr hk (by decide), nI_l hn]
  have h1 : k / 2 ^ 33 < 2 ^ 63 := by
    rw [Nat.div_lt_iff_lt_mul (by decide)]
    omega
  rw [pk_lRem h1 h0 (by omega), lN_i]
  unfold dw
  rw [wb_tn hk]
def f_X0_start := en_f (σ := Int64 × Sx) (fun x => [.ref 14, .long x.1]) (fun x => wX x.2) (fun _ => True) (fun x v w => v = none ∧ w = wX (xz x.2 x.1))
def rm_X0_start : Room := { frames := 0, cells := 0, slots := 0, locals := 0 }
def t_X0_start : en_T := ((3, 0, 0), tb_X0_start, fl_X0, cn_X0, [], [], 0, none)
set_option maxRecDepth 100000 in
theorem tB_X0_start (D : va_G) (dT : Nat → Nat) (l : Launch) : en_TB en_WD D vwCl dT l rm_X0_start t_X0_start RX0 "start" cX0_start := ⟨tk_X0_start, fun s args meth h hn => ⟨fo_X0 h args meth, co_X0 h args, fun _ h => absurd h List.not_mem_nil, fun _ h => absurd h List.not_mem_nil, Or.inl rfl, en_arr h args⟩⟩
set_option maxHeartbeats 4000000 in
set_option maxRecDepth 100000 in
theorem bd_X0_start : en_B (σ := Int64 × Sx) t_X0_start (fun x => [.ref 14, .long x.1]) (fun x => wX x.2) (fun _ => True) (fun x v w => v = none ∧ w = wX (xz x.2 x.1)) := by
  rintro ⟨z, S⟩ - G hG OK ⟨run, sub⟩
  dsimp only at hG ⊢
  refine run [] 60 _ _ _ _ _ _ ?_
  conv => whnf
  exact hG _ _ ⟨rfl, rfl⟩
theorem ct_X0_start (D : va_G) (dT : Nat → Nat) (l : Launch) : en_CT en_WD D vwCl dT l yX0_start cX0_start 3 (none) rm_X0_start f_X0_start := en_met en_WD1 en_WD2 (by decide) rfl rfl (tB_X0_start D dT l) (en_f_ln (fun _ => Nat.le_of_ble_eq_true rfl)) (en_f_bd bd_X0_start)
set_option maxRecDepth 100000 in
theorem mk_X0_start {D : va_G} {dT : Nat → Nat} {l : Launch} {R : Room} {s : State} {args : Array Value} {own : String} {idx : Nat} (h : en_WD s) (h1 : rm_X0_start.frames + 1 ≤ R.frames) (h2 : 8 + (3 + 11) + rm_X0_start.locals ≤ R.locals) (hl : (Jvm.Cond.methodLink own idx yX0_start).before args s = true ∨ ∃ host, (Jvm.Cond.methodLinkNest own idx yX0_start host).before args s = true) : en_mok en_WD D vwCl dT l R s args own (idx, 2, 2, 0, 0, f_X0_start) :=
  ⟨yX0_start, cX0_start, 3, none, rm_X0_start, 1, ct_X0_start D dT l, rfl, rfl, h1, h2, en_wd h 332 rfl rfl args, en_wd h 63 (by decide +kernel) rfl args, by decide, by decide, hl, ⟨RX0, TX0, 1, rfl, en_wd h 330 (by decide +kernel) rfl args, en_wd h 331 (by decide +kernel) rfl args, rfl⟩⟩
def f_X0_draw := en_f (σ := Nat × Sx) (fun x => [.ref 14, .int (nI x.1)]) (fun x => wX x.2) (fun x => 0 < x.1 ∧ x.1 < 1000) (fun x v w => v = some (.int (nI (dw (nz x.2.2.1) x.1))) ∧ w = wX (xz x.2 (nz x.2.2.1)))
def rm_X0_draw : Room := { frames := 0, cells := 0, slots := 0, locals := 0 }
def t_X0_draw : en_T := ((2, 0, 0), tb_X0_draw, fl_X0, cn_X0, [], [], 0, some .int)
set_option maxRecDepth 100000 in
theorem tB_X0_draw (D : va_G) (dT : Nat → Nat) (l : Launch) : en_TB en_WD D vwCl dT l rm_X0_draw t_X0_draw RX0 "draw" cX0_draw := ⟨tk_X0_draw, fun s args meth h hn => ⟨fo_X0 h args meth, co_X0 h args, fun _ h => absurd h List.not_mem_nil, fun _ h => absurd h List.not_mem_nil, Or.inl rfl, en_arr h args⟩⟩
set_option maxHeartbeats 4000000 in
set_option maxRecDepth 100000 in
theorem bd_X0_draw : en_B (σ := Nat × Sx) t_X0_draw (fun x => [.ref 14, .int (nI x.1)]) (fun x => wX x.2) (fun x => 0 < x.1 ∧ x.1 < 1000) (fun x v w => v = some (.int (nI (dw (nz x.2.2.1) x.1))) ∧ w = wX (xz x.2 (nz x.2.2.1))) := by
  rintro ⟨n, S⟩ ⟨h0, hn⟩ G hG OK ⟨run, sub⟩
  dsimp only at h0 hn hG ⊢
  refine run [] 60 _ _ _ _ _ _ ?_
  conv => whnf
  refine pk_le n 0 (fun h => absurd h (by omega)) (fun h => ?_)
  conv => whnf
  refine ⟨fun e => ?_, ?_⟩
  · rw [nI_l (by omega)] at e
    exact absurd ((pk_lEQ (b := 0) (by omega) (by omega)).mp e) (by omega)
  · conv => whnf
    refine hG _ _ ⟨?_, rfl⟩
    rw [← dw_is (nz S.2.1) h0 (by omega)]
    rfl
theorem ct_X0_draw (D : va_G) (dT : Nat → Nat) (l : Launch) : en_CT en_WD D vwCl dT l yX0_draw cX0_draw 2 (some .int) rm_X0_draw f_X0_draw := en_met en_WD1 en_WD2 (by decide) rfl rfl (tB_X0_draw D dT l) (en_f_ln (fun _ => Nat.le_of_ble_eq_true rfl)) (en_f_bd bd_X0_draw)
set_option maxRecDepth 100000 in
theorem mk_X0_draw {D : va_G} {dT : Nat → Nat} {l : Launch} {R : Room} {s : State} {args : Array Value} {own : String} {idx : Nat} (h : en_WD s) (h1 : rm_X0_draw.frames + 1 ≤ R.frames) (h2 : 8 + (2 + 11) + rm_X0_draw.locals ≤ R.locals) (hl : (Jvm.Cond.methodLink own idx yX0_draw).before args s = true ∨ ∃ host, (Jvm.Cond.methodLinkNest own idx yX0_draw host).before args s = true) : en_mok en_WD D vwCl dT l R s args own (idx, 2, 2, 0, 0, f_X0_draw) :=
  ⟨yX0_draw, cX0_draw, 2, some .int, rm_X0_draw, 1, ct_X0_draw D dT l, rfl, rfl, h1, h2, en_wd h 348 rfl rfl args, en_wd h 63 (by decide +kernel) rfl args, by decide, by decide, hl, ⟨RX0, TX0, 1, rfl, en_wd h 347 (by decide +kernel) rfl args, en_wd h 3 (by decide +kernel) rfl args, rfl⟩⟩
/-- a shuffling, the highest place being i -/
def shf : Nat → Int64 → (Nat → Int32) → Int64 × (Nat → Int32)
  | 0, z, f => (z, f)
  | i + 1, z, f => shf i (nz z) (upd (upd f (i + 1) (f (dw (nz z) (i + 2)))) (dw (nz z) (i + 2)) (f (i + 1)))
/-- a shuffling of m things -/
def shm (m : Nat) (z : Int64) (f : Nat → Int32) : Int64 × (Nat → Int32) := shf (m - 1) z f
def f_X0_shuffle := en_f (σ := Nat × Sx) (fun x => [.ref 14, .ref 16, .int (nI x.1)]) (fun x => wX x.2) (fun x => x.1 ≤ 100) (fun x v w => v = none ∧ w = wX (xa (xz x.2 (shm x.1 x.2.2.1 (x.2.2.2.1 16)).1) 16 (shm x.1 x.2.2.1 (x.2.2.2.1 16)).2))
def rm_X0_shuffle : Room := { frames := 1, cells := 0, slots := 0, locals := 21 }
def t_X0_shuffle : en_T := ((6, 0, 0), tb_X0_shuffle, fl_X0, cn_X0, [(13, 2, 2, 0, 0, f_X0_draw)], [], 0, none)
set_option maxRecDepth 100000 in
theorem tB_X0_shuffle (D : va_G) (dT : Nat → Nat) (l : Launch) : en_TB en_WD D vwCl dT l rm_X0_shuffle t_X0_shuffle RX0 "shuffle" cX0_shuffle := ⟨tk_X0_shuffle, fun s args meth h hn => ⟨fo_X0 h args meth, co_X0 h args, List.forall_mem_cons.mpr ⟨mk_X0_draw (own := RX0) h (Nat.le_of_ble_eq_true rfl) (Nat.le_of_ble_eq_true rfl) (Or.inl (en_wd h 345 (by decide +kernel) rfl args)), fun _ h => absurd h List.not_mem_nil⟩, fun _ h => absurd h List.not_mem_nil, Or.inl rfl, en_arr h args⟩⟩
set_option maxHeartbeats 4000000 in
set_option maxRecDepth 100000 in
theorem bd_X0_shuffle : en_B (σ := Nat × Sx) t_X0_shuffle (fun x => [.ref 14, .ref 16, .int (nI x.1)]) (fun x => wX x.2) (fun x => x.1 ≤ 100) (fun x v w => v = none ∧ w = wX (xa (xz x.2 (shm x.1 x.2.2.1 (x.2.2.2.1 16)).1) 16 (shm x.1 x.2.2.1 (x.2.2.2.1 16)).2)) := by
  rintro ⟨m, S⟩ hm G hG OK ⟨run, sub⟩
  dsimp only at hm hG ⊢
  have loop : ∀ i, i < 100 → ∀ (z : Int64) (f : Nat → Int32), shf i z f = shm m S.2.1 (S.2.2.1 16) → OK 0 0 4 [(0, .ref 14), (1, .ref 16), (2, .int (nI m)), (3, .int (nI i))] [] (wX (xa (xz S z) 16 f)) := by
    intro i
    induction i with
    | zero =>
      intro _ z f he
      refine run [4] 60 _ _ _ _ _ _ ?_
      conv => whnf
      refine pk_lt 0 1 (fun h => ?_) (fun h => absurd h (by omega))
      conv => whnf
      refine hG _ _ ⟨rfl, ?_⟩
      rw [← he]
      rfl
    | succ i ih =>
      intro hi z f he
      refine run [4] 60 _ _ _ _ _ _ ?_
      conv => whnf
      refine pk_lt (i + 1) 1 (fun h => absurd h (by omega)) (fun h => ?_)
      conv => whnf
      refine ⟨(i + 2, xa (xz S z) 16 f), (by show [Value.ref 14, Value.int (nI (i + 1) + 1)] = [Value.ref 14, Value.int (nI (i + 1 + 1))]; rw [nI_succ (i + 1)]), rfl, ⟨by dsimp only; omega, by dsimp only; omega⟩, ?_⟩
      intro v w hvw
      obtain ⟨rfl, rfl⟩ : v = some (.int (nI (dw (nz z) (i + 2)))) ∧ w = wX (xa (xz S (nz z)) 16 f) := hvw
      have hj := dw_lt (z := nz z) (n := i + 2) (by omega)
      generalize hje : dw (nz z) (i + 2) = j at hj ⊢
      conv => whnf
      refine ⟨vp_in_nI (by omega) (by decide), ?_⟩
      rw [nI_clamp (by omega)]
      conv => whnf
      refine ⟨vp_in_nI (by omega) (by decide), ?_⟩
      rw [nI_clamp (by omega)]
      conv => whnf
      refine ⟨vp_in_nI (by omega) (by decide), ?_⟩
      rw [nI_clamp (by omega)]
      conv => whnf
      refine ⟨vp_in_nI (by omega) (by decide), ?_⟩
      rw [nI_clamp (by omega)]
      conv => whnf
      have h2 := ih (by omega) (nz z) (upd (upd f (i + 1) (f j)) j (f (i + 1))) (by rw [← hje]; exact he)
      rw [← pk_m1 i] at h2
      exact sub [0, 1, 2, 3] _ _ _ _ _ _ _ rfl h2
  by_cases h0 : m = 0
  · subst h0
    refine run [] 60 _ _ _ _ _ _ ?_
    conv => whnf
    refine ⟨fun _ => ?_, fun h => absurd (show nI 0 - 1 < 1 by decide) h⟩
    conv => whnf
    exact hG _ _ ⟨rfl, rfl⟩
  · obtain ⟨q, rfl⟩ : ∃ q, m = q + 1 := ⟨m - 1, by omega⟩
    refine run [4] 60 _ _ _ _ _ _ ?_
    conv => whnf
    have h2 := loop q (by omega) S.2.1 (S.2.2.1 16) rfl
    rw [← nI_pred q] at h2
    exact h2
theorem ct_X0_shuffle (D : va_G) (dT : Nat → Nat) (l : Launch) : en_CT en_WD D vwCl dT l yX0_shuffle cX0_shuffle 6 (none) rm_X0_shuffle f_X0_shuffle := en_met en_WD1 en_WD2 (by decide) rfl rfl (tB_X0_shuffle D dT l) (en_f_ln (fun _ => Nat.le_of_ble_eq_true rfl)) (en_f_bd bd_X0_shuffle)
set_option maxRecDepth 100000 in
theorem mk_X0_shuffle {D : va_G} {dT : Nat → Nat} {l : Launch} {R : Room} {s : State} {args : Array Value} {own : String} {idx : Nat} (h : en_WD s) (h1 : rm_X0_shuffle.frames + 1 ≤ R.frames) (h2 : 8 + (6 + 11) + rm_X0_shuffle.locals ≤ R.locals) (hl : (Jvm.Cond.methodLink own idx yX0_shuffle).before args s = true ∨ ∃ host, (Jvm.Cond.methodLinkNest own idx yX0_shuffle host).before args s = true) : en_mok en_WD D vwCl dT l R s args own (idx, 3, 2, 0, 0, f_X0_shuffle) :=
  ⟨yX0_shuffle, cX0_shuffle, 6, none, rm_X0_shuffle, 2, ct_X0_shuffle D dT l, rfl, rfl, h1, h2, en_wd h 344 rfl rfl args, en_wd h 63 (by decide +kernel) rfl args, by decide, by decide, hl, ⟨RX0, TX0, 1, rfl, en_wd h 342 (by decide +kernel) rfl args, en_wd h 343 (by decide +kernel) rfl args, rfl⟩⟩
end
section
/-! SplitLeaks$Weights -/
def f_X5_become := en_f (σ := Int32 × Int32 × Int32 × Int32 × Int32 × Sx) (fun x => [.ref 9, .int x.1, .int x.2.1, .int x.2.2.1, .int x.2.2.2.1, .int x.2.2.2.2.1]) (fun x => wX x.2.2.2.2.2) (fun _ => True) (fun x v w => v = none ∧ w = wX (xi (xa (xi x.2.2.2.2.2 2 x.1) 10 (upd (upd (upd (upd (x.2.2.2.2.2.2.2.1 10) 0 x.2.1) 1 x.2.2.1) 2 x.2.2.2.1) 3 x.2.2.2.2.1)) 3 (x.2.1 + x.2.2.1 + x.2.2.2.1 + x.2.2.2.2.1)))
def rm_X5_become : Room := { frames := 0, cells := 0, slots := 0, locals := 0 }
def t_X5_become : en_T := ((6, 0, 0), tb_X5_become, fl_X5, cn_X5, [], [], 0, none)
set_option maxRecDepth 100000 in
theorem tB_X5_become (D : va_G) (dT : Nat → Nat) (l : Launch) : en_TB en_WD D vwCl dT l rm_X5_become t_X5_become RX5 "become" cX5_become := ⟨tk_X5_become, fun s args meth h hn => ⟨fo_X5 h args meth, co_X5 h args, fun _ h => absurd h List.not_mem_nil, fun _ h => absurd h List.not_mem_nil, Or.inl rfl, en_arr h args⟩⟩
set_option maxHeartbeats 4000000 in
set_option maxRecDepth 100000 in
theorem bd_X5_become : en_B (σ := Int32 × Int32 × Int32 × Int32 × Int32 × Sx) t_X5_become (fun x => [.ref 9, .int x.1, .int x.2.1, .int x.2.2.1, .int x.2.2.2.1, .int x.2.2.2.2.1]) (fun x => wX x.2.2.2.2.2) (fun _ => True) (fun x v w => v = none ∧ w = wX (xi (xa (xi x.2.2.2.2.2 2 x.1) 10 (upd (upd (upd (upd (x.2.2.2.2.2.2.2.1 10) 0 x.2.1) 1 x.2.2.1) 2 x.2.2.2.1) 3 x.2.2.2.2.1)) 3 (x.2.1 + x.2.2.1 + x.2.2.2.1 + x.2.2.2.2.1))) := by
  rintro ⟨k, a, b, c, d, S⟩ - G hG OK ⟨run, sub⟩
  dsimp only at hG ⊢
  refine run [] 60 _ _ _ _ _ _ ?_
  conv => whnf
  refine ⟨vp_in_nI (n := 0) (by omega) (by decide), ?_⟩
  conv => whnf
  refine ⟨vp_in_nI (n := 1) (by omega) (by decide), ?_⟩
  conv => whnf
  refine ⟨vp_in_nI (n := 2) (by omega) (by decide), ?_⟩
  conv => whnf
  refine ⟨vp_in_nI (n := 3) (by omega) (by decide), ?_⟩
  conv => whnf
  exact hG _ _ ⟨rfl, rfl⟩
theorem ct_X5_become (D : va_G) (dT : Nat → Nat) (l : Launch) : en_CT en_WD D vwCl dT l yX5_become cX5_become 6 (none) rm_X5_become f_X5_become := en_met en_WD1 en_WD2 (by decide) rfl rfl (tB_X5_become D dT l) (en_f_ln (fun _ => Nat.le_of_ble_eq_true rfl)) (en_f_bd bd_X5_become)
set_option maxRecDepth 100000 in
theorem mk_X5_become {D : va_G} {dT : Nat → Nat} {l : Launch} {R : Room} {s : State} {args : Array Value} {own : String} {idx : Nat} (h : en_WD s) (h1 : rm_X5_become.frames + 1 ≤ R.frames) (h2 : 8 + (6 + 11) + rm_X5_become.locals ≤ R.locals) (hl : (Jvm.Cond.methodLink own idx yX5_become).before args s = true ∨ ∃ host, (Jvm.Cond.methodLinkNest own idx yX5_become host).before args s = true) : en_mok en_WD D vwCl dT l R s args own (idx, 6, 7, 0, 0, f_X5_become) :=
  ⟨yX5_become, cX5_become, 6, none, rm_X5_become, 5, ct_X5_become D dT l, rfl, rfl, h1, h2, en_wd h 305 rfl rfl args, en_wd h 61 (by decide +kernel) rfl args, by decide, by decide, hl, ⟨RX5, TX5, 5, rfl, en_wd h 303 (by decide +kernel) rfl args, en_wd h 304 (by decide +kernel) rfl args, rfl⟩⟩
/-- the first of the greatest among the places 0 .. m -/
def ag (f : Nat → Int32) : Nat → Nat
  | 0 => 0
  | p + 1 => if f (ag f p) < f (p + 1) then p + 1 else ag f p
theorem ag_le (f : Nat → Int32) : ∀ m, ag f m ≤ m
  | 0 => Nat.le_refl 0
  | p + 1 => by
    have := ag_le f p
    simp only [ag]
    split <;> omega
theorem ag_c {f g : Nat → Int32} : ∀ {m : Nat}, (∀ p, p ≤ m → f p = g p) → ag f m = ag g m
  | 0, _ => rfl
  | p + 1, h => by
    have h1 := ag_c (m := p) (fun q hq => h q (by omega))
    have h2 := ag_le g p
    simp only [ag]
    rw [h1, h (p + 1) (by omega), h (ag g p) (by omega)]
def f_X5_withGreatestRest := en_f (σ := Nat × Sx) (fun _ => [.ref 9]) (fun x => wX x.2) (fun x => 1 ≤ x.1 ∧ x.1 ≤ 4 ∧ x.2.1 2 = nI x.1) (fun x v w => v = some (.int (nI (ag (x.2.2.2.1 12) (x.1 - 1)))) ∧ w = wX x.2)
def rm_X5_withGreatestRest : Room := { frames := 0, cells := 0, slots := 0, locals := 0 }
def t_X5_withGreatestRest : en_T := ((3, 0, 0), tb_X5_withGreatestRest, fl_X5, cn_X5, [], [], 0, some .int)
set_option maxRecDepth 100000 in
theorem tB_X5_withGreatestRest (D : va_G) (dT : Nat → Nat) (l : Launch) : en_TB en_WD D vwCl dT l rm_X5_withGreatestRest t_X5_withGreatestRest RX5 "withGreatestRest" cX5_withGreatestRest := ⟨tk_X5_withGreatestRest, fun s args meth h hn => ⟨fo_X5 h args meth, co_X5 h args, fun _ h => absurd h List.not_mem_nil, fun _ h => absurd h List.not_mem_nil, Or.inl rfl, en_arr h args⟩⟩
set_option maxHeartbeats 4000000 in
set_option maxRecDepth 100000 in
theorem bd_X5_withGreatestRest : en_B (σ := Nat × Sx) t_X5_withGreatestRest (fun _ => [.ref 9]) (fun x => wX x.2) (fun x => 1 ≤ x.1 ∧ x.1 ≤ 4 ∧ x.2.1 2 = nI x.1) (fun x v w => v = some (.int (nI (ag (x.2.2.2.1 12) (x.1 - 1)))) ∧ w = wX x.2) := by
  rintro ⟨k, S⟩ ⟨hk1, hk4, hk⟩ G hG OK ⟨run, sub⟩
  dsimp only at hk1 hk4 hk hG ⊢
  have loop := lp_up (fun p => 1 ≤ p → OK 0 0 4 [(0, .ref 9), (1, .int (nI (ag (S.2.2.1 12) (p - 1)))), (2, .int (nI p))] [] (wX S)) k
    (fun _ => by
      refine run [4] 60 _ _ _ _ _ _ ?_
      conv => whnf
      refine pk_le k k (fun h => ?_) (fun h => absurd h (by omega)) hk
      conv => whnf
      exact hG _ _ ⟨rfl, rfl⟩)
    (fun p hp ih h1 => by
      obtain ⟨q, rfl⟩ : ∃ q, p = q + 1 := ⟨p - 1, by omega⟩
      have ih := ih (by omega)
      have hle := ag_le (S.2.2.1 12) q
      show OK 0 0 4 [(0, .ref 9), (1, .int (nI (ag (S.2.2.1 12) q))), (2, .int (nI (q + 1)))] [] (wX S)
      refine run [4] 60 _ _ _ _ _ _ ?_
      conv => whnf
      refine pk_le k (q + 1) (fun h => absurd h (by omega)) (fun h => ?_) hk
      conv => whnf
      refine ⟨vp_in_nI (by omega) (by decide), ?_⟩
      rw [nI_clamp (by omega)]
      conv => whnf
      refine ⟨vp_in_nI (by omega) (by decide), ?_⟩
      rw [nI_clamp (by omega)]
      conv => whnf
      have ih : OK 0 0 4 [(0, .ref 9), (1, .int (nI (ag (S.2.2.1 12) (q + 1)))), (2, .int (nI (q + 1 + 1)))] [] (wX S) := ih
      simp only [ag] at ih
      rw [nI_succ (q + 1)] at ih
      refine ⟨fun hc => ?_, fun hc => ?_⟩
      · conv => whnf
        rw [if_neg (Int32.not_lt.mpr hc)] at ih
        exact ih
      · conv => whnf
        rw [if_pos (Int32.not_le.mp hc)] at ih
        exact ih)
  refine run [4] 60 _ _ _ _ _ _ ?_
  conv => whnf
  exact loop 1 (by omega) (Nat.le_refl 1)
theorem ct_X5_withGreatestRest (D : va_G) (dT : Nat → Nat) (l : Launch) : en_CT en_WD D vwCl dT l yX5_withGreatestRest cX5_withGreatestRest 3 (some .int) rm_X5_withGreatestRest f_X5_withGreatestRest := en_met en_WD1 en_WD2 (by decide) rfl rfl (tB_X5_withGreatestRest D dT l) (en_f_ln (fun _ => Nat.le_of_ble_eq_true rfl)) (en_f_bd bd_X5_withGreatestRest)
set_option maxRecDepth 100000 in
theorem mk_X5_withGreatestRest {D : va_G} {dT : Nat → Nat} {l : Launch} {R : Room} {s : State} {args : Array Value} {own : String} {idx : Nat} (h : en_WD s) (h1 : rm_X5_withGreatestRest.frames + 1 ≤ R.frames) (h2 : 8 + (3 + 11) + rm_X5_withGreatestRest.locals ≤ R.locals) (hl : (Jvm.Cond.methodLink own idx yX5_withGreatestRest).before args s = true ∨ ∃ host, (Jvm.Cond.methodLinkNest own idx yX5_withGreatestRest host).before args s = true) : en_mok en_WD D vwCl dT l R s args own (idx, 1, 7, 0, 0, f_X5_withGreatestRest) :=
  ⟨yX5_withGreatestRest, cX5_withGreatestRest, 3, some .int, rm_X5_withGreatestRest, 0, ct_X5_withGreatestRest D dT l, rfl, rfl, h1, h2, en_wd h 317 rfl rfl args, en_wd h 61 (by decide +kernel) rfl args, by decide, by decide, hl, ⟨RX5, TX5, 5, rfl, en_wd h 316 (by decide +kernel) rfl args, en_wd h 0 (by decide +kernel) rfl args, rfl⟩⟩
/-- f below k, g from k on -/
def mx {α : Type} (k : Nat) (f g : Nat → α) : Nat → α := fun j => if j < k then f j else g j
theorem mx_lt {α : Type} {k j : Nat} {f g : Nat → α} (h : j < k) : mx k f g j = f j := if_pos h
theorem mx_ge {α : Type} {k j : Nat} {f g : Nat → α} (h : k ≤ j) : mx k f g j = g j := if_neg (by omega)
theorem mx_s {k : Nat} {f g : Nat → Int32} : upd (mx k f g) k (f k) = mx (k + 1) f g := by
  funext j
  unfold upd mx
  by_cases h : j = k
  · subst h; rw [if_pos rfl, if_pos (by omega)]
  · rw [if_neg h]
    by_cases h2 : j < k
    · rw [if_pos h2, if_pos (by omega)]
    · rw [if_neg h2, if_neg (by omega)]
theorem mx_0 {α : Type} {f g : Nat → α} : mx 0 f g = g := by
  funext j; exact if_neg (by omega)
theorem mx_u {k p : Nat} {f g : Nat → Int32} {x : Int32} (h : p < k) : upd (mx k f g) p x = mx k (upd f p x) g := by
  funext j
  unfold upd mx
  by_cases e : j = p
  · subst e; rw [if_pos rfl, if_pos h]; exact (if_pos rfl).symm
  · rw [if_neg e]
    by_cases h2 : j < k
    · rw [if_pos h2, if_pos h2]; exact (if_neg e).symm
    · rw [if_neg h2, if_neg h2]
/-- quotas and rests: one more goes to the greatest rest -/
def qs (k : Nat) (s : (Nat → Nat) × (Nat → Int32)) : (Nat → Nat) × (Nat → Int32) := (fun j => if j = ag s.2 (k - 1) then s.1 j + 1 else s.1 j, upd s.2 (ag s.2 (k - 1)) (-1))
def qi (k : Nat) : Nat → (Nat → Nat) × (Nat → Int32) → (Nat → Nat) × (Nat → Int32)
  | 0, s => s
  | i + 1, s => qs k (qi k i s)
def q0 (w : Nat → Nat) (W n : Nat) : (Nat → Nat) × (Nat → Int32) := (fun j => n * w j / W, fun j => nI (n * w j % W))
/-- what is missing -/
def qm (w : Nat → Nat) (W k n : Nat) : Nat := n - sm (fun j => n * w j / W) k
/-- the quotas of n things -/
def qf (w : Nat → Nat) (W k n : Nat) : Nat → Nat := (qi k (qm w W k n) (q0 w W n)).1
/-- weights as they must be -/
def wok (w : Nat → Nat) (W k : Nat) : Prop := 1 ≤ k ∧ k ≤ 4 ∧ (∀ j, w j ≤ 1000) ∧ sm w k = W ∧ 1 ≤ W ∧ W ≤ 4000
theorem sm_mul (w : Nat → Nat) (n : Nat) : ∀ k, sm (fun j => n * w j) k = n * sm w k
  | 0 => rfl
  | k + 1 => by
    show sm (fun j => n * w j) k + n * w k = n * (sm w k + w k)
    rw [sm_mul w n k, Nat.mul_add]
theorem sm_div (f : Nat → Nat) (W : Nat) : ∀ k, sm f k = W * sm (fun j => f j / W) k + sm (fun j => f j % W) k
  | 0 => by simp [sm]
  | k + 1 => by
    have h := sm_div f W k
    have h2 := Nat.div_add_mod (f k) W
    simp only [sm]
    rw [Nat.mul_add]
    omega
theorem sm_lt (f : Nat → Nat) (W : Nat) (hW : 0 < W) : ∀ k, sm (fun j => f j % W) k + k ≤ k * W
  | 0 => by simp [sm]
  | k + 1 => by
    have h := sm_lt f W hW k
    have h2 := Nat.mod_lt (f k) hW
    simp only [sm]
    rw [Nat.add_mul]
    omega
/-- fewer are missing than there are parts -/
theorem qm_lt {w : Nat → Nat} {W k n : Nat} (h : wok w W k) : sm (fun j => n * w j / W) k ≤ n ∧ qm w W k n < k := by
  obtain ⟨h1, h4, hw, hs, hW, -⟩ := h
  have a := sm_div (fun j => n * w j) W k
  have b := sm_lt (fun j => n * w j) W hW k
  rw [sm_mul, hs] at a
  unfold qm
  generalize sm (fun j => n * w j / W) k = q at a ⊢
  generalize sm (fun j => n * w j % W) k = r at a b
  have c1 : q ≤ n := Nat.le_of_mul_le_mul_left (show W * q ≤ W * n by rw [Nat.mul_comm W n]; omega) hW
  refine ⟨c1, Nat.lt_of_not_le fun hc => ?_⟩
  have c2 := Nat.mul_le_mul_left W hc
  rw [Nat.mul_sub, Nat.mul_comm W n, Nat.mul_comm W k] at c2
  omega
end
section
/-! SplitLeaks$Weights.apportion -/
theorem qi_le (k : Nat) (hk : 1 ≤ k) (s : (Nat → Nat) × (Nat → Int32)) (i : Nat) : ag (qi k i s).2 (k - 1) < k := by
  have := ag_le (qi k i s).2 (k - 1)
  omega
theorem sm_dv {w : Nat → Nat} {W n k : Nat} (h : wok w W k) {p : Nat} (hp : p ≤ k) : sm (fun j => n * w j / W) p ≤ n := by
  have h1 := (qm_lt (n := n) h).1
  have : ∀ q, p ≤ q → sm (fun j => n * w j / W) p ≤ sm (fun j => n * w j / W) q := by
    intro q hq
    obtain ⟨d, rfl⟩ : ∃ d, q = p + d := ⟨q - p, by omega⟩
    induction d with
    | zero => exact Nat.le_refl _
    | succ d ih => exact Nat.le_trans (ih (by omega)) (Nat.le_add_right _ _)
  exact Nat.le_trans (this k hp) h1
def f_X5_apportion := en_f (σ := (Nat → Nat) × Nat × Nat × Nat × Sx) (fun x => [.ref 9, .int (nI x.2.2.2.1)]) (fun x => wX x.2.2.2.2) (fun x => wok x.1 x.2.1 x.2.2.1 ∧ x.2.2.2.1 ≤ 100000 ∧ x.2.2.2.2.1 2 = nI x.2.2.1 ∧ x.2.2.2.2.1 3 = nI x.2.1 ∧ ∀ j, j < x.2.2.1 → x.2.2.2.2.2.2.1 10 j = nI (x.1 j)) (fun x v w => v = none ∧ ∃ r, w = wX (xa (xa x.2.2.2.2 11 (mx x.2.2.1 (fun j => nI (qf x.1 x.2.1 x.2.2.1 x.2.2.2.1 j)) (x.2.2.2.2.2.2.1 11))) 12 r))
def rm_X5_apportion : Room := { frames := 1, cells := 0, slots := 0, locals := 22 }
def t_X5_apportion : en_T := ((5, 0, 0), tb_X5_apportion, fl_X5, cn_X5, [(32, 1, 7, 0, 0, f_X5_withGreatestRest)], [], 0, none)
set_option maxRecDepth 100000 in
theorem tB_X5_apportion (D : va_G) (dT : Nat → Nat) (l : Launch) : en_TB en_WD D vwCl dT l rm_X5_apportion t_X5_apportion RX5 "apportion" cX5_apportion := ⟨tk_X5_apportion, fun s args meth h hn => ⟨fo_X5 h args meth, co_X5 h args, List.forall_mem_cons.mpr ⟨mk_X5_withGreatestRest (own := RX5) h (Nat.le_of_ble_eq_true rfl) (Nat.le_of_ble_eq_true rfl) (Or.inl (en_wd h 314 (by decide +kernel) rfl args)), fun _ h => absurd h List.not_mem_nil⟩, fun _ h => absurd h List.not_mem_nil, Or.inl rfl, en_arr h args⟩⟩
set_option maxHeartbeats 4000000 in
set_option maxRecDepth 100000 in
theorem bd_X5_apportion : en_B (σ := (Nat → Nat) × Nat × Nat × Nat × Sx) t_X5_apportion (fun x => [.ref 9, .int (nI x.2.2.2.1)]) (fun x => wX x.2.2.2.2) (fun x => wok x.1 x.2.1 x.2.2.1 ∧ x.2.2.2.1 ≤ 100000 ∧ x.2.2.2.2.1 2 = nI x.2.2.1 ∧ x.2.2.2.2.1 3 = nI x.2.1 ∧ ∀ j, j < x.2.2.1 → x.2.2.2.2.2.2.1 10 j = nI (x.1 j)) (fun x v w => v = none ∧ ∃ r, w = wX (xa (xa x.2.2.2.2 11 (mx x.2.2.1 (fun j => nI (qf x.1 x.2.1 x.2.2.1 x.2.2.2.1 j)) (x.2.2.2.2.2.2.1 11))) 12 r)) := by
  rintro ⟨w, W, k, n, S⟩ ⟨hok, hn, hk, hW, hw⟩ G hG OK ⟨run, sub⟩
  dsimp only at hok hn hk hW hw hG ⊢
  have hok' := hok
  obtain ⟨hk1, hk4, hw1, hs, hW1, hW4⟩ := hok'
  obtain ⟨hq1, hq2⟩ := qm_lt (n := n) hok
  have loop2 : ∀ i, i ≤ qm w W k n → OK 0 0 72 [(0, .ref 9), (1, .int (nI n)), (2, .int (nI (qm w W k n))), (3, .int (nI i))] [] (wX (xa (xa S 11 (mx k (fun j => nI ((qi k i (q0 w W n)).1 j)) (S.2.2.1 11))) 12 (mx k (qi k i (q0 w W n)).2 (S.2.2.1 12)))) := by
    refine lp_up (fun i => OK 0 0 72 [(0, .ref 9), (1, .int (nI n)), (2, .int (nI (qm w W k n))), (3, .int (nI i))] [] (wX (xa (xa S 11 (mx k (fun j => nI ((qi k i (q0 w W n)).1 j)) (S.2.2.1 11))) 12 (mx k (qi k i (q0 w W n)).2 (S.2.2.1 12))))) (qm w W k n) ?_ ?_
    · refine run [72] 60 _ _ _ _ _ _ ?_
      conv => whnf
      refine pk_le (qm w W k n) (qm w W k n) (fun h => ?_) (fun h => absurd h (by omega))
      conv => whnf
      exact hG _ _ ⟨rfl, _, rfl⟩
    · intro i hi ih
      have hp := qi_le k hk1 (q0 w W n) i
      refine run [72] 60 _ _ _ _ _ _ ?_
      conv => whnf
      refine pk_le (qm w W k n) i (fun h => absurd h (by omega)) (fun h => ?_)
      conv => whnf
      refine pk_le k i (fun h => absurd h (by omega)) (fun h => ?_) hk
      conv => whnf
      refine ⟨(k, xa (xa S 11 (mx k (fun j => nI ((qi k i (q0 w W n)).1 j)) (S.2.2.1 11))) 12 (mx k (qi k i (q0 w W n)).2 (S.2.2.1 12))), rfl, rfl, ⟨hk1, hk4, hk⟩, ?_⟩
      intro v u hvu
      obtain ⟨rfl, rfl⟩ : v = some (.int (nI (ag (mx k (qi k i (q0 w W n)).2 (S.2.2.1 12)) (k - 1)))) ∧ u = wX (xa (xa S 11 (mx k (fun j => nI ((qi k i (q0 w W n)).1 j)) (S.2.2.1 11))) 12 (mx k (qi k i (q0 w W n)).2 (S.2.2.1 12))) := hvu
      rw [ag_c (g := (qi k i (q0 w W n)).2) (fun p hp => mx_lt (by omega))]
      have e1 : (qi k (i + 1) (q0 w W n)).1 = fun j => if j = ag (qi k i (q0 w W n)).2 (k - 1) then (qi k i (q0 w W n)).1 j + 1 else (qi k i (q0 w W n)).1 j := rfl
      have e2 : (qi k (i + 1) (q0 w W n)).2 = upd (qi k i (q0 w W n)).2 (ag (qi k i (q0 w W n)).2 (k - 1)) (-1) := rfl
      rw [e1, e2] at ih
      generalize qi k i (q0 w W n) = Z at hp ih ⊢
      generalize ag Z.2 (k - 1) = a at hp ih ⊢
      conv => whnf
      refine ⟨vp_in_nI (by omega) (by decide), ?_⟩
      rw [nI_clamp (by omega)]
      conv => whnf
      refine ⟨vp_in_nI (by omega) (by decide), ?_⟩
      conv => whnf
      refine ⟨vp_in_nI (by omega) (by decide), ?_⟩
      conv => whnf
      rw [nI_succ] at ih
      rw [nI_clamp (by omega)]
      refine sub [0, 1, 2, 3] _ _ _ _ _ _ _ rfl ?_
      have e3 : (mx k (fun j => nI (if j = a then Z.1 j + 1 else Z.1 j)) (S.2.2.1 11)) = upd (mx k (fun j => nI (Z.1 j)) (S.2.2.1 11)) a (mx k (fun j => nI (Z.1 j)) (S.2.2.1 11) a + 1) := by
        rw [mx_u hp, mx_lt hp, ← nI_succ]
        congr 1
        funext j
        unfold upd
        by_cases e : j = a
        · rw [if_pos e, if_pos e, e]
        · rw [if_neg e, if_neg e]
      rw [e3, ← mx_u hp] at ih
      exact ih
  have loop1 : ∀ p, p ≤ k → OK 0 0 4 [(0, .ref 9), (1, .int (nI n)), (2, .int (nI (n - sm (fun j => n * w j / W) p))), (3, .int (nI p))] [] (wX (xa (xa S 11 (mx p (fun j => nI (n * w j / W)) (S.2.2.1 11))) 12 (mx p (fun j => nI (n * w j % W)) (S.2.2.1 12)))) := by
    refine lp_up (fun p => OK 0 0 4 [(0, .ref 9), (1, .int (nI n)), (2, .int (nI (n - sm (fun j => n * w j / W) p))), (3, .int (nI p))] [] (wX (xa (xa S 11 (mx p (fun j => nI (n * w j / W)) (S.2.2.1 11))) 12 (mx p (fun j => nI (n * w j % W)) (S.2.2.1 12))))) k ?_ ?_
    · refine run [4, 72] 60 _ _ _ _ _ _ ?_
      conv => whnf
      refine pk_le k k (fun h => ?_) (fun h => absurd h (by omega)) hk
      conv => whnf
      exact loop2 0 (by omega)
    · intro p hp ih
      have hpw : n * w p ≤ 100000000 := Nat.mul_le_mul hn (hw1 p)
      refine run [4] 60 _ _ _ _ _ _ ?_
      conv => whnf
      refine pk_le k p (fun h => absurd h (by omega)) (fun h => ?_) hk
      conv => whnf
      refine pk_le W 0 (fun h => absurd h (by omega)) (fun h => ?_) hW
      conv => whnf
      refine ⟨vp_in_nI (by omega) (by decide), ?_⟩
      rw [nI_clamp (by omega)]
      conv => whnf
      refine ⟨fun e => absurd ((nI_eq (b := 0) (by omega) (by decide)).mp (hW.symm.trans e)) (by omega), ?_⟩
      conv => whnf
      refine ⟨vp_in_nI (by omega) (by decide), ?_⟩
      rw [nI_clamp (by omega)]
      conv => whnf
      refine ⟨fun e => absurd ((nI_eq (b := 0) (by omega) (by decide)).mp (hW.symm.trans e)) (by omega), ?_⟩
      conv => whnf
      refine ⟨vp_in_nI (by omega) (by decide), ?_⟩
      rw [nI_clamp (by omega)]
      conv => whnf
      refine ⟨vp_in_nI (by omega) (by decide), ?_⟩
      rw [nI_clamp (by omega)]
      conv => whnf
      rw [nI_succ] at ih
      have d1 : nI n * S.2.2.1 10 p / S.1 3 = nI (n * w p / W) := by rw [hw p hp, hW, pk_mul, pk_div (by omega) (by omega) (by omega)]
      have d2 : nI n * S.2.2.1 10 p - nI n * S.2.2.1 10 p / S.1 3 * S.1 3 = nI (n * w p % W) := by rw [hw p hp, hW, pk_mul, pk_rem (by omega) (by omega) (by omega)]
      refine sub [0, 1, 2, 3] _ _ _ _ _ _ _ rfl ?_
      have e1 : mx (p + 1) (fun j => nI (n * w j / W)) (S.2.2.1 11) = upd (mx p (fun j => nI (n * w j / W)) (S.2.2.1 11)) p (nI n * S.2.2.1 10 p / S.1 3) := by rw [d1]; exact (mx_s (f := fun j => nI (n * w j / W))).symm
      have e2 : mx (p + 1) (fun j => nI (n * w j % W)) (S.2.2.1 12) = upd (mx p (fun j => nI (n * w j % W)) (S.2.2.1 12)) p (nI n * S.2.2.1 10 p - nI n * S.2.2.1 10 p / S.1 3 * S.1 3) := by rw [d2]; exact (mx_s (f := fun j => nI (n * w j % W))).symm
      have e3 : nI (n - sm (fun j => n * w j / W) (p + 1)) = nI (n - sm (fun j => n * w j / W) p) - upd (mx p (fun j => nI (n * w j / W)) (S.2.2.1 11)) p (nI n * S.2.2.1 10 p / S.1 3) p := by
        rw [pk_us, d1]
        have a1 := sm_dv (n := n) hok (p := p + 1) (by omega)
        simp only [sm] at a1 ⊢
        rw [pk_sub (by omega)]
        congr 1
        omega
      rw [e1, e2, e3] at ih
      exact ih
  refine run [4] 60 _ _ _ _ _ _ ?_
  conv => whnf
  have h0 := loop1 0 (by omega)
  rw [mx_0, mx_0] at h0
  exact h0
theorem ct_X5_apportion (D : va_G) (dT : Nat → Nat) (l : Launch) : en_CT en_WD D vwCl dT l yX5_apportion cX5_apportion 5 (none) rm_X5_apportion f_X5_apportion := en_met en_WD1 en_WD2 (by decide) rfl rfl (tB_X5_apportion D dT l) (en_f_ln (fun _ => Nat.le_of_ble_eq_true rfl)) (en_f_bd bd_X5_apportion)
set_option maxRecDepth 100000 in
theorem mk_X5_apportion {D : va_G} {dT : Nat → Nat} {l : Launch} {R : Room} {s : State} {args : Array Value} {own : String} {idx : Nat} (h : en_WD s) (h1 : rm_X5_apportion.frames + 1 ≤ R.frames) (h2 : 8 + (5 + 11) + rm_X5_apportion.locals ≤ R.locals) (hl : (Jvm.Cond.methodLink own idx yX5_apportion).before args s = true ∨ ∃ host, (Jvm.Cond.methodLinkNest own idx yX5_apportion host).before args s = true) : en_mok en_WD D vwCl dT l R s args own (idx, 2, 7, 0, 0, f_X5_apportion) :=
  ⟨yX5_apportion, cX5_apportion, 5, none, rm_X5_apportion, 1, ct_X5_apportion D dT l, rfl, rfl, h1, h2, en_wd h 313 rfl rfl args, en_wd h 61 (by decide +kernel) rfl args, by decide, by decide, hl, ⟨RX5, TX5, 5, rfl, en_wd h 311 (by decide +kernel) rfl args, en_wd h 312 (by decide +kernel) rfl args, rfl⟩⟩
end
section
/-! pure words of the splits -/
/-- the rows that have p, one behind another -/
def sel (p : Nat → Prop) [DecidablePred p] (old : Nat → Int32) : Nat → (Nat → Int32)
  | 0 => old
  | i + 1 => if p i then upd (sel p old i) (ct p i) (nI i) else sel p old i
theorem sel_t {p : Nat → Prop} [DecidablePred p] {old : Nat → Int32} {i : Nat} (h : p i) : sel p old (i + 1) = upd (sel p old i) (ct p i) (nI i) := if_pos h
theorem sel_f {p : Nat → Prop} [DecidablePred p] {old : Nat → Int32} {i : Nat} (h : ¬ p i) : sel p old (i + 1) = sel p old i := if_neg h
/-- all things are numbers below b -/
def vld (f : Nat → Int32) (m b : Nat) : Prop := ∀ i, i < m → ∃ r, r < b ∧ f i = nI r
theorem vld_in {f : Nat → Int32} {m b i : Nat} (h : vld f m b) (hi : i < m) (hb : b < 2 ^ 31) : vp_in (f i) b := by
  obtain ⟨r, hr, e⟩ := h i hi
  rw [e]
  exact vp_in_nI hr hb
theorem vld_lt {f : Nat → Int32} {m b i : Nat} (h : vld f m b) (hi : i < m) (hb : b < 2 ^ 31) : (f i).toNatClampNeg < b ∧ f i = nI (f i).toNatClampNeg := by
  obtain ⟨r, hr, e⟩ := h i hi
  rw [e, nI_clamp (by omega)]
  exact ⟨hr, rfl⟩
theorem sel_v {p : Nat → Prop} [DecidablePred p] {old : Nat → Int32} : ∀ n, vld (sel p old n) (ct p n) n
  | 0 => fun i hi => by cases hi
  | n + 1 => fun i hi => by
    have ih := sel_v (p := p) (old := old) n
    by_cases h : p n
    · rw [sel_t h]
      rw [ct_t h] at hi
      by_cases e : i = ct p n
      · subst e; rw [pk_us]; exact ⟨n, by omega, rfl⟩
      · rw [pk_un e]
        obtain ⟨r, hr, e2⟩ := ih i (by omega)
        exact ⟨r, by omega, e2⟩
    · rw [sel_f h]
      rw [ct_f h] at hi
      obtain ⟨r, hr, e2⟩ := ih i hi
      exact ⟨r, by omega, e2⟩
theorem mx_v {n b : Nat} (h : n ≤ b) {old : Nat → Int32} : vld (mx n nI old) n b := fun i hi => ⟨i, by omega, mx_lt hi⟩
/-- a shuffling's things are those that were there -/
theorem shf_in : ∀ (t : Nat) (z : Int64) (f : Nat → Int32) (i : Nat), i ≤ t → ∃ j, j ≤ t ∧ (shf t z f).2 i = f j
  | 0, z, f, i, hi => ⟨i, hi, rfl⟩
  | t + 1, z, f, i, hi => by
    have hd := dw_lt (z := nz z) (n := t + 2) (by omega)
    show ∃ j, j ≤ t + 1 ∧ (shf t (nz z) (upd (upd f (t + 1) (f (dw (nz z) (t + 2)))) (dw (nz z) (t + 2)) (f (t + 1)))).2 i = f j
    generalize dw (nz z) (t + 2) = d at hd ⊢
    have key : ∀ q, q ≤ t + 1 → ∃ j, j ≤ t + 1 ∧ upd (upd f (t + 1) (f d)) d (f (t + 1)) q = f j := by
      intro q hq
      by_cases e : q = d
      · rw [e, pk_us]; exact ⟨t + 1, by omega, rfl⟩
      · rw [pk_un e]
        by_cases e2 : q = t + 1
        · rw [e2, pk_us]; exact ⟨d, by omega, rfl⟩
        · rw [pk_un e2]; exact ⟨q, by omega, rfl⟩
    by_cases e : i ≤ t
    · obtain ⟨q, hq, h⟩ := shf_in t (nz z) (upd (upd f (t + 1) (f d)) d (f (t + 1))) i e
      rw [h]
      exact key q (by omega)
    · have : i = t + 1 := by omega
      subst this
      rw [shf_hi t (nz z) _ (t + 1) (by omega)]
      exact key (t + 1) (by omega)
where
  shf_hi : ∀ (t : Nat) (z : Int64) (f : Nat → Int32) (i : Nat), t < i → (shf t z f).2 i = f i
  | 0, z, f, i, hi => rfl
  | t + 1, z, f, i, hi => by
    have hd := dw_lt (z := nz z) (n := t + 2) (by omega)
    show (shf t (nz z) (upd (upd f (t + 1) (f (dw (nz z) (t + 2)))) (dw (nz z) (t + 2)) (f (t + 1)))).2 i = f i
    rw [shf_hi t (nz z) _ i (by omega), pk_un (by omega), pk_un (by omega)]
theorem shm_v {m b : Nat} {z : Int64} {f : Nat → Int32} (h : vld f m b) : vld (shm m z f).2 m b := by
  intro i hi
  obtain ⟨j, hj, e⟩ := shf_in (m - 1) z f i (by omega)
  obtain ⟨r, hr, e2⟩ := h j (by omega)
  exact ⟨r, hr, by rw [← e2, ← e]; rfl⟩
/-- things are dealt: the i-th one's number stands for g i -/
def dl (O : Nat → Int32) (g : Nat → Int32) (old : Nat → Int32) : Nat → (Nat → Int32)
  | 0 => old
  | i + 1 => upd (dl O g old i) (O i).toNatClampNeg (g i)
/-- the part of the at-th thing, by quotas -/
def pt (q : Nat → Nat) (a : Nat) : Nat → Nat
  | 0 => 0
  | k + 1 => if sm q k ≤ a then k else pt q a k
theorem sm_mono (f : Nat → Nat) {a b : Nat} (h : a ≤ b) : sm f a ≤ sm f b := by
  obtain ⟨d, rfl⟩ : ∃ d, b = a + d := ⟨b - a, by omega⟩
  induction d with
  | zero => exact Nat.le_refl _
  | succ d ih => exact Nat.le_trans (ih (by omega)) (Nat.le_add_right _ _)
theorem pt_is {q : Nat → Nat} {a p : Nat} (h1 : sm q p ≤ a) (h2 : a < sm q (p + 1)) : ∀ k, p < k → pt q a k = p := by
  intro k hk
  obtain ⟨d, rfl⟩ : ∃ d, k = p + 1 + d := ⟨k - (p + 1), by omega⟩
  induction d with
  | zero => exact if_pos h1
  | succ d ih =>
    have : ¬ sm q (p + 1 + d) ≤ a := by
      have := sm_mono q (show p + 1 ≤ p + 1 + d by omega)
      omega
    show (if sm q (p + 1 + d) ≤ a then p + 1 + d else pt q a (p + 1 + d)) = p
    rw [if_neg this]
    exact ih (by omega)
/-- the quotas' sum -/
theorem qi_sum (k : Nat) (hk : 1 ≤ k) (s : (Nat → Nat) × (Nat → Int32)) : ∀ i, sm (qi k i s).1 k = sm s.1 k + i
  | 0 => rfl
  | i + 1 => by
    have ih := qi_sum k hk s i
    have hp := qi_le k hk s i
    have key : ∀ (f : Nat → Nat) (a m : Nat), sm (fun j => if j = a then f j + 1 else f j) m = sm f m + (if a < m then 1 else 0) := by
      intro f a m
      induction m with
      | zero => simp [sm]
      | succ m ihm =>
        simp only [sm]
        rw [ihm]
        by_cases e : m = a
        · subst e; rw [if_pos rfl, if_neg (by omega), if_pos (by omega)]; omega
        · rw [if_neg e]
          by_cases h : a < m
          · rw [if_pos h, if_pos (by omega)]; omega
          · rw [if_neg h, if_neg (by omega)]; omega
    show sm (fun j => if j = ag (qi k i s).2 (k - 1) then (qi k i s).1 j + 1 else (qi k i s).1 j) k = _
    rw [key, if_pos hp, ih]
    omega
theorem qf_sum {w : Nat → Nat} {W k n : Nat} (h : wok w W k) : sm (qf w W k n) k = n := by
  unfold qf
  rw [qi_sum k h.1]
  have h1 := (qm_lt (n := n) h).1
  show sm (fun j => n * w j / W) k + qm w W k n = n
  unfold qm
  omega
/-- the next part, going round -/
def nx (k first : Nat) : Nat → Nat
  | 0 => first
  | i + 1 => if nx k first i + 1 < k then nx k first i + 1 else 0
theorem nx_lt {k first : Nat} (h : first < k) : ∀ i, nx k first i < k
  | 0 => h
  | i + 1 => by
    have := nx_lt h i
    simp only [nx]
    split <;> omega
end
section
/-! SplitLeaks$Splitter: what is gathered, settled -/
def f_X3_settle := en_f (σ := Nat × Sx) (fun _ => [.ref 13]) (fun x => wX x.2) (fun x => x.1 ≤ 100 ∧ x.2.1 1 = nI x.1) (fun x v w => v = none ∧ w = wX (xa x.2 5 (mx x.1 (x.2.2.2.1 15) (x.2.2.2.1 5))))
def rm_X3_settle : Room := { frames := 0, cells := 0, slots := 0, locals := 0 }
def t_X3_settle : en_T := ((2, 0, 0), tb_X3_settle, fl_X3, cn_X3, [], [], 0, none)
set_option maxRecDepth 100000 in
theorem tB_X3_settle (D : va_G) (dT : Nat → Nat) (l : Launch) : en_TB en_WD D vwCl dT l rm_X3_settle t_X3_settle RX3 "settle" cX3_settle := ⟨tk_X3_settle, fun s args meth h hn => ⟨fo_X3 h args meth, co_X3 h args, fun _ h => absurd h List.not_mem_nil, fun _ h => absurd h List.not_mem_nil, Or.inl rfl, en_arr h args⟩⟩
set_option maxHeartbeats 4000000 in
set_option maxRecDepth 100000 in
theorem bd_X3_settle : en_B (σ := Nat × Sx) t_X3_settle (fun _ => [.ref 13]) (fun x => wX x.2) (fun x => x.1 ≤ 100 ∧ x.2.1 1 = nI x.1) (fun x v w => v = none ∧ w = wX (xa x.2 5 (mx x.1 (x.2.2.2.1 15) (x.2.2.2.1 5)))) := by
  rintro ⟨n, S⟩ ⟨hn, h1⟩ G hG OK ⟨run, sub⟩
  dsimp only at hn h1 hG ⊢
  have loop := lp_up (fun i => OK 0 0 2 [(0, .ref 13), (1, .int (nI i))] [] (wX (xa S 5 (mx i (S.2.2.1 15) (S.2.2.1 5))))) n
    (by
      refine run [2] 60 _ _ _ _ _ _ ?_
      conv => whnf
      refine pk_le n n (fun h => ?_) (fun h => absurd h (by omega)) h1
      conv => whnf
      exact hG _ _ ⟨rfl, rfl⟩)
    (fun i hi ih => by
      refine run [2] 60 _ _ _ _ _ _ ?_
      conv => whnf
      refine pk_le n i (fun h => absurd h (by omega)) (fun h => ?_) h1
      conv => whnf
      refine ⟨vp_in_nI (by omega) (by decide), ?_⟩
      rw [nI_clamp (by omega)]
      conv => whnf
      refine ⟨vp_in_nI (by omega) (by decide), ?_⟩
      rw [nI_clamp (by omega)]
      conv => whnf
      rw [nI_succ, ← mx_s] at ih
      exact ih)
  refine run [2] 60 _ _ _ _ _ _ ?_
  conv => whnf
  have h0 := loop 0 (by omega)
  rw [mx_0] at h0
  exact h0
theorem ct_X3_settle (D : va_G) (dT : Nat → Nat) (l : Launch) : en_CT en_WD D vwCl dT l yX3_settle cX3_settle 2 (none) rm_X3_settle f_X3_settle := en_met en_WD1 en_WD2 (by decide) rfl rfl (tB_X3_settle D dT l) (en_f_ln (fun _ => Nat.le_of_ble_eq_true rfl)) (en_f_bd bd_X3_settle)
set_option maxRecDepth 100000 in
theorem mk_X3_settle {D : va_G} {dT : Nat → Nat} {l : Launch} {R : Room} {s : State} {args : Array Value} {own : String} {idx : Nat} (h : en_WD s) (h1 : rm_X3_settle.frames + 1 ≤ R.frames) (h2 : 8 + (2 + 11) + rm_X3_settle.locals ≤ R.locals) (hl : (Jvm.Cond.methodLink own idx yX3_settle).before args s = true ∨ ∃ host, (Jvm.Cond.methodLinkNest own idx yX3_settle host).before args s = true) : en_mok en_WD D vwCl dT l R s args own (idx, 1, 5, 0, 0, f_X3_settle) :=
  ⟨yX3_settle, cX3_settle, 2, none, rm_X3_settle, 0, ct_X3_settle D dT l, rfl, rfl, h1, h2, en_wd h 412 rfl rfl args, en_wd h 62 (by decide +kernel) rfl args, by decide, by decide, hl, ⟨RX3, TX3, 8, rfl, en_wd h 410 (by decide +kernel) rfl args, en_wd h 411 (by decide +kernel) rfl args, rfl⟩⟩
def f_X3_isSettled := en_f (σ := Nat × Sx) (fun _ => [.ref 13]) (fun x => wX x.2) (fun x => x.1 ≤ 100 ∧ x.2.1 1 = nI x.1) (fun x v w => v = some (.int (bl (fs (fun r => x.2.2.2.1 5 r ≠ x.2.2.2.1 15 r) x.1 = none))) ∧ w = wX x.2)
def rm_X3_isSettled : Room := { frames := 0, cells := 0, slots := 0, locals := 0 }
def t_X3_isSettled : en_T := ((2, 0, 0), tb_X3_isSettled, fl_X3, cn_X3, [], [], 0, some .boolean)
set_option maxRecDepth 100000 in
theorem tB_X3_isSettled (D : va_G) (dT : Nat → Nat) (l : Launch) : en_TB en_WD D vwCl dT l rm_X3_isSettled t_X3_isSettled RX3 "isSettled" cX3_isSettled := ⟨tk_X3_isSettled, fun s args meth h hn => ⟨fo_X3 h args meth, co_X3 h args, fun _ h => absurd h List.not_mem_nil, fun _ h => absurd h List.not_mem_nil, Or.inl rfl, en_arr h args⟩⟩
set_option maxHeartbeats 4000000 in
set_option maxRecDepth 100000 in
theorem bd_X3_isSettled : en_B (σ := Nat × Sx) t_X3_isSettled (fun _ => [.ref 13]) (fun x => wX x.2) (fun x => x.1 ≤ 100 ∧ x.2.1 1 = nI x.1) (fun x v w => v = some (.int (bl (fs (fun r => x.2.2.2.1 5 r ≠ x.2.2.2.1 15 r) x.1 = none))) ∧ w = wX x.2) := by
  rintro ⟨n, S⟩ ⟨hn, h1⟩ G hG OK ⟨run, sub⟩
  dsimp only at hn h1 hG ⊢
  have loop := lp_up (fun i => fs (fun r => S.2.2.1 5 r ≠ S.2.2.1 15 r) i = none → OK 0 0 2 [(0, .ref 13), (1, .int (nI i))] [] (wX S)) n
    (fun hf => by
      refine run [2] 60 _ _ _ _ _ _ ?_
      conv => whnf
      refine pk_le n n (fun h => ?_) (fun h => absurd h (by omega)) h1
      conv => whnf
      exact ⟨rfl, hG _ _ ⟨bl_at hf rfl, rfl⟩⟩)
    (fun i hi ih hf => by
      refine run [2] 60 _ _ _ _ _ _ ?_
      conv => whnf
      refine pk_le n i (fun h => absurd h (by omega)) (fun h => ?_) h1
      conv => whnf
      refine ⟨vp_in_nI (by omega) (by decide), ?_⟩
      rw [nI_clamp (by omega)]
      conv => whnf
      refine ⟨vp_in_nI (by omega) (by decide), ?_⟩
      rw [nI_clamp (by omega)]
      conv => whnf
      rw [nI_succ] at ih
      refine ⟨fun hp => ?_, fun hp => ?_⟩
      · conv => whnf
        exact ih (fs_f hf (fun z => z hp))
      · conv => whnf
        have := fs_s (fs_t (p := fun r => S.2.2.1 5 r ≠ S.2.2.1 15 r) hf hp) n (by omega)
        exact ⟨rfl, hG _ _ ⟨bl_af (fun z => by rw [this] at z; cases z) rfl, rfl⟩⟩)
  refine run [2] 60 _ _ _ _ _ _ ?_
  conv => whnf
  exact loop 0 (by omega) rfl
theorem ct_X3_isSettled (D : va_G) (dT : Nat → Nat) (l : Launch) : en_CT en_WD D vwCl dT l yX3_isSettled cX3_isSettled 2 (some .boolean) rm_X3_isSettled f_X3_isSettled := en_met en_WD1 en_WD2 (by decide) rfl rfl (tB_X3_isSettled D dT l) (en_f_ln (fun _ => Nat.le_of_ble_eq_true rfl)) (en_f_bd bd_X3_isSettled)
set_option maxRecDepth 100000 in
theorem mk_X3_isSettled {D : va_G} {dT : Nat → Nat} {l : Launch} {R : Room} {s : State} {args : Array Value} {own : String} {idx : Nat} (h : en_WD s) (h1 : rm_X3_isSettled.frames + 1 ≤ R.frames) (h2 : 8 + (2 + 11) + rm_X3_isSettled.locals ≤ R.locals) (hl : (Jvm.Cond.methodLink own idx yX3_isSettled).before args s = true ∨ ∃ host, (Jvm.Cond.methodLinkNest own idx yX3_isSettled host).before args s = true) : en_mok en_WD D vwCl dT l R s args own (idx, 1, 5, 0, 0, f_X3_isSettled) :=
  ⟨yX3_isSettled, cX3_isSettled, 2, some .boolean, rm_X3_isSettled, 0, ct_X3_isSettled D dT l, rfl, rfl, h1, h2, en_wd h 622 rfl rfl args, en_wd h 62 (by decide +kernel) rfl args, by decide, by decide, hl, ⟨RX3, TX3, 8, rfl, en_wd h 620 (by decide +kernel) rfl args, en_wd h 621 (by decide +kernel) rfl args, rfl⟩⟩
def f_X3_gatherAll := en_f (σ := Nat × Sx) (fun _ => [.ref 13]) (fun x => wX x.2) (fun x => x.1 ≤ 100 ∧ x.2.1 1 = nI x.1) (fun x v w => v = none ∧ w = wX (xi (xa x.2 16 (mx x.1 nI (x.2.2.2.1 16))) 4 (nI x.1)))
def rm_X3_gatherAll : Room := { frames := 0, cells := 0, slots := 0, locals := 0 }
def t_X3_gatherAll : en_T := ((2, 0, 0), tb_X3_gatherAll, fl_X3, cn_X3, [], [], 0, none)
set_option maxRecDepth 100000 in
theorem tB_X3_gatherAll (D : va_G) (dT : Nat → Nat) (l : Launch) : en_TB en_WD D vwCl dT l rm_X3_gatherAll t_X3_gatherAll RX3 "gatherAll" cX3_gatherAll := ⟨tk_X3_gatherAll, fun s args meth h hn => ⟨fo_X3 h args meth, co_X3 h args, fun _ h => absurd h List.not_mem_nil, fun _ h => absurd h List.not_mem_nil, Or.inl rfl, en_arr h args⟩⟩
set_option maxHeartbeats 4000000 in
set_option maxRecDepth 100000 in
theorem bd_X3_gatherAll : en_B (σ := Nat × Sx) t_X3_gatherAll (fun _ => [.ref 13]) (fun x => wX x.2) (fun x => x.1 ≤ 100 ∧ x.2.1 1 = nI x.1) (fun x v w => v = none ∧ w = wX (xi (xa x.2 16 (mx x.1 nI (x.2.2.2.1 16))) 4 (nI x.1))) := by
  rintro ⟨n, S⟩ ⟨hn, h1⟩ G hG OK ⟨run, sub⟩
  dsimp only at hn h1 hG ⊢
  have loop := lp_up (fun i => OK 0 0 2 [(0, .ref 13), (1, .int (nI i))] [] (wX (xa S 16 (mx i nI (S.2.2.1 16))))) n
    (by
      refine run [2] 60 _ _ _ _ _ _ ?_
      conv => whnf
      refine pk_le n n (fun h => ?_) (fun h => absurd h (by omega)) h1
      conv => whnf
      refine hG _ _ ⟨rfl, ?_⟩
      rw [← h1]
      rfl)
    (fun i hi ih => by
      refine run [2] 60 _ _ _ _ _ _ ?_
      conv => whnf
      refine pk_le n i (fun h => absurd h (by omega)) (fun h => ?_) h1
      conv => whnf
      refine ⟨vp_in_nI (by omega) (by decide), ?_⟩
      rw [nI_clamp (by omega)]
      conv => whnf
      rw [nI_succ, ← mx_s] at ih
      exact ih)
  refine run [2] 60 _ _ _ _ _ _ ?_
  conv => whnf
  have h0 := loop 0 (by omega)
  rw [mx_0] at h0
  exact h0
theorem ct_X3_gatherAll (D : va_G) (dT : Nat → Nat) (l : Launch) : en_CT en_WD D vwCl dT l yX3_gatherAll cX3_gatherAll 2 (none) rm_X3_gatherAll f_X3_gatherAll := en_met en_WD1 en_WD2 (by decide) rfl rfl (tB_X3_gatherAll D dT l) (en_f_ln (fun _ => Nat.le_of_ble_eq_true rfl)) (en_f_bd bd_X3_gatherAll)
set_option maxRecDepth 100000 in
theorem mk_X3_gatherAll {D : va_G} {dT : Nat → Nat} {l : Launch} {R : Room} {s : State} {args : Array Value} {own : String} {idx : Nat} (h : en_WD s) (h1 : rm_X3_gatherAll.frames + 1 ≤ R.frames) (h2 : 8 + (2 + 11) + rm_X3_gatherAll.locals ≤ R.locals) (hl : (Jvm.Cond.methodLink own idx yX3_gatherAll).before args s = true ∨ ∃ host, (Jvm.Cond.methodLinkNest own idx yX3_gatherAll host).before args s = true) : en_mok en_WD D vwCl dT l R s args own (idx, 1, 5, 0, 0, f_X3_gatherAll) :=
  ⟨yX3_gatherAll, cX3_gatherAll, 2, none, rm_X3_gatherAll, 0, ct_X3_gatherAll D dT l, rfl, rfl, h1, h2, en_wd h 340 rfl rfl args, en_wd h 62 (by decide +kernel) rfl args, by decide, by decide, hl, ⟨RX3, TX3, 8, rfl, en_wd h 339 (by decide +kernel) rfl args, en_wd h 2 (by decide +kernel) rfl args, rfl⟩⟩
def f_X3_gatherLabel := en_f (σ := Nat × Int32 × Sx) (fun x => [.ref 13, .int x.2.1]) (fun x => wX x.2.2) (fun x => x.1 ≤ 100 ∧ x.2.2.1 1 = nI x.1) (fun x v w => v = none ∧ w = wX (xi (xa x.2.2 16 (sel (fun r => x.2.2.2.2.1 3 r = x.2.1) (x.2.2.2.2.1 16) x.1)) 4 (nI (ct (fun r => x.2.2.2.2.1 3 r = x.2.1) x.1))))
def rm_X3_gatherLabel : Room := { frames := 0, cells := 0, slots := 0, locals := 0 }
def t_X3_gatherLabel : en_T := ((3, 0, 0), tb_X3_gatherLabel, fl_X3, cn_X3, [], [], 0, none)
set_option maxRecDepth 100000 in
theorem tB_X3_gatherLabel (D : va_G) (dT : Nat → Nat) (l : Launch) : en_TB en_WD D vwCl dT l rm_X3_gatherLabel t_X3_gatherLabel RX3 "gatherLabel" cX3_gatherLabel := ⟨tk_X3_gatherLabel, fun s args meth h hn => ⟨fo_X3 h args meth, co_X3 h args, fun _ h => absurd h List.not_mem_nil, fun _ h => absurd h List.not_mem_nil, Or.inl rfl, en_arr h args⟩⟩
set_option maxHeartbeats 4000000 in
set_option maxRecDepth 100000 in
theorem bd_X3_gatherLabel : en_B (σ := Nat × Int32 × Sx) t_X3_gatherLabel (fun x => [.ref 13, .int x.2.1]) (fun x => wX x.2.2) (fun x => x.1 ≤ 100 ∧ x.2.2.1 1 = nI x.1) (fun x v w => v = none ∧ w = wX (xi (xa x.2.2 16 (sel (fun r => x.2.2.2.2.1 3 r = x.2.1) (x.2.2.2.2.1 16) x.1)) 4 (nI (ct (fun r => x.2.2.2.2.1 3 r = x.2.1) x.1)))) := by
  rintro ⟨n, l, S⟩ ⟨hn, h1⟩ G hG OK ⟨run, sub⟩
  dsimp only at hn h1 hG ⊢
  have loop := lp_up (fun i => OK 0 0 7 [(0, .ref 13), (1, .int l), (2, .int (nI i))] [] (wX (xi (xa S 16 (sel (fun r => S.2.2.1 3 r = l) (S.2.2.1 16) i)) 4 (nI (ct (fun r => S.2.2.1 3 r = l) i))))) n
    (by
      refine run [7] 60 _ _ _ _ _ _ ?_
      conv => whnf
      refine pk_le n n (fun h => ?_) (fun h => absurd h (by omega)) h1
      conv => whnf
      exact hG _ _ ⟨rfl, rfl⟩)
    (fun i hi ih => by
      have hc := ct_le (fun r => S.2.2.1 3 r = l) i
      refine run [7] 60 _ _ _ _ _ _ ?_
      conv => whnf
      refine pk_le n i (fun h => absurd h (by omega)) (fun h => ?_) h1
      conv => whnf
      refine ⟨vp_in_nI (by omega) (by decide), ?_⟩
      rw [nI_clamp (by omega)]
      conv => whnf
      rw [nI_succ] at ih
      refine ⟨fun hp => ?_, fun hp => ?_⟩
      · conv => whnf
        rw [ct_f (p := fun r => S.2.2.1 3 r = l) hp, sel_f (p := fun r => S.2.2.1 3 r = l) hp] at ih
        exact ih
      · conv => whnf
        refine ⟨vp_in_nI (n := ct (fun r => S.2.2.1 3 r = l) i) (by omega) (by decide), ?_⟩
        conv => whnf
        rw [ct_t (p := fun r => S.2.2.1 3 r = l) hp, sel_t (p := fun r => S.2.2.1 3 r = l) hp, nI_succ] at ih
        have hu : upd (sel (fun r => S.2.2.1 3 r = l) (S.2.2.1 16) i) (ct (fun r => S.2.2.1 3 r = l) i) (nI i) = upd (sel (fun r => S.2.2.1 3 r = l) (S.2.2.1 16) i) (nI (ct (fun r => S.2.2.1 3 r = l) i)).toNatClampNeg (nI i) := by rw [nI_clamp (by omega)]
        rw [hu] at ih
        exact ih)
  refine run [7] 60 _ _ _ _ _ _ ?_
  conv => whnf
  exact loop 0 (by omega)
theorem ct_X3_gatherLabel (D : va_G) (dT : Nat → Nat) (l : Launch) : en_CT en_WD D vwCl dT l yX3_gatherLabel cX3_gatherLabel 3 (none) rm_X3_gatherLabel f_X3_gatherLabel := en_met en_WD1 en_WD2 (by decide) rfl rfl (tB_X3_gatherLabel D dT l) (en_f_ln (fun _ => Nat.le_of_ble_eq_true rfl)) (en_f_bd bd_X3_gatherLabel)
set_option maxRecDepth 100000 in
theorem mk_X3_gatherLabel {D : va_G} {dT : Nat → Nat} {l : Launch} {R : Room} {s : State} {args : Array Value} {own : String} {idx : Nat} (h : en_WD s) (h1 : rm_X3_gatherLabel.frames + 1 ≤ R.frames) (h2 : 8 + (3 + 11) + rm_X3_gatherLabel.locals ≤ R.locals) (hl : (Jvm.Cond.methodLink own idx yX3_gatherLabel).before args s = true ∨ ∃ host, (Jvm.Cond.methodLinkNest own idx yX3_gatherLabel host).before args s = true) : en_mok en_WD D vwCl dT l R s args own (idx, 2, 5, 0, 0, f_X3_gatherLabel) :=
  ⟨yX3_gatherLabel, cX3_gatherLabel, 3, none, rm_X3_gatherLabel, 1, ct_X3_gatherLabel D dT l, rfl, rfl, h1, h2, en_wd h 408 rfl rfl args, en_wd h 62 (by decide +kernel) rfl args, by decide, by decide, hl, ⟨RX3, TX3, 8, rfl, en_wd h 407 (by decide +kernel) rfl args, en_wd h 16 (by decide +kernel) rfl args, rfl⟩⟩
def f_X3_gatherLabelInside := en_f (σ := Nat × Int32 × Int32 × Sx) (fun x => [.ref 13, .int x.2.1, .int x.2.2.1]) (fun x => wX x.2.2.2) (fun x => x.1 ≤ 100 ∧ x.2.2.2.1 1 = nI x.1) (fun x v w => v = none ∧ w = wX (xi (xa x.2.2.2 16 (sel (fun r => x.2.2.2.2.2.1 3 r = x.2.1 ∧ x.2.2.2.2.2.1 5 r ≠ -1 ∧ x.2.2.2.2.2.1 5 r ≠ x.2.2.1) (x.2.2.2.2.2.1 16) x.1)) 4 (nI (ct (fun r => x.2.2.2.2.2.1 3 r = x.2.1 ∧ x.2.2.2.2.2.1 5 r ≠ -1 ∧ x.2.2.2.2.2.1 5 r ≠ x.2.2.1) x.1))))
def rm_X3_gatherLabelInside : Room := { frames := 1, cells := 0, slots := 0, locals := 21 }
def t_X3_gatherLabelInside : en_T := ((4, 0, 0), tb_X3_gatherLabelInside, fl_X3, cn_X3, [(115, 2, 4, 0, 0, f_X2_isPlaced)], [], 0, none)
set_option maxRecDepth 100000 in
theorem tB_X3_gatherLabelInside (D : va_G) (dT : Nat → Nat) (l : Launch) : en_TB en_WD D vwCl dT l rm_X3_gatherLabelInside t_X3_gatherLabelInside RX3 "gatherLabelInside" cX3_gatherLabelInside := ⟨tk_X3_gatherLabelInside, fun s args meth h hn => ⟨fo_X3 h args meth, co_X3 h args, List.forall_mem_cons.mpr ⟨mk_X2_isPlaced (own := RX3) h (Nat.le_of_ble_eq_true rfl) (Nat.le_of_ble_eq_true rfl) (Or.inl (en_wd h 466 (by decide +kernel) rfl args)), fun _ h => absurd h List.not_mem_nil⟩, fun _ h => absurd h List.not_mem_nil, Or.inl rfl, en_arr h args⟩⟩
set_option maxHeartbeats 4000000 in
set_option maxRecDepth 100000 in
theorem bd_X3_gatherLabelInside : en_B (σ := Nat × Int32 × Int32 × Sx) t_X3_gatherLabelInside (fun x => [.ref 13, .int x.2.1, .int x.2.2.1]) (fun x => wX x.2.2.2) (fun x => x.1 ≤ 100 ∧ x.2.2.2.1 1 = nI x.1) (fun x v w => v = none ∧ w = wX (xi (xa x.2.2.2 16 (sel (fun r => x.2.2.2.2.2.1 3 r = x.2.1 ∧ x.2.2.2.2.2.1 5 r ≠ -1 ∧ x.2.2.2.2.2.1 5 r ≠ x.2.2.1) (x.2.2.2.2.2.1 16) x.1)) 4 (nI (ct (fun r => x.2.2.2.2.2.1 3 r = x.2.1 ∧ x.2.2.2.2.2.1 5 r ≠ -1 ∧ x.2.2.2.2.2.1 5 r ≠ x.2.2.1) x.1)))) := by
  rintro ⟨n, l, o, S⟩ ⟨hn, h1⟩ G hG OK ⟨run, sub⟩
  dsimp only at hn h1 hG ⊢
  have loop := lp_up (fun i => OK 0 0 7 [(0, .ref 13), (1, .int l), (2, .int o), (3, .int (nI i))] [] (wX (xi (xa S 16 (sel (fun r => S.2.2.1 3 r = l ∧ S.2.2.1 5 r ≠ -1 ∧ S.2.2.1 5 r ≠ o) (S.2.2.1 16) i)) 4 (nI (ct (fun r => S.2.2.1 3 r = l ∧ S.2.2.1 5 r ≠ -1 ∧ S.2.2.1 5 r ≠ o) i))))) n
    (by
      refine run [7] 60 _ _ _ _ _ _ ?_
      conv => whnf
      refine pk_le n n (fun h => ?_) (fun h => absurd h (by omega)) h1
      conv => whnf
      exact hG _ _ ⟨rfl, rfl⟩)
    (fun i hi ih => by
      have hc := ct_le (fun r => S.2.2.1 3 r = l ∧ S.2.2.1 5 r ≠ -1 ∧ S.2.2.1 5 r ≠ o) i
      rw [nI_succ] at ih
      have hno : ¬ (S.2.2.1 3 i = l ∧ S.2.2.1 5 i ≠ -1 ∧ S.2.2.1 5 i ≠ o) → OK 0 0 7 [(0, .ref 13), (1, .int l), (2, .int o), (3, .int (nI i + 1))] [] (wX (xi (xa S 16 (sel (fun r => S.2.2.1 3 r = l ∧ S.2.2.1 5 r ≠ -1 ∧ S.2.2.1 5 r ≠ o) (S.2.2.1 16) i)) 4 (nI (ct (fun r => S.2.2.1 3 r = l ∧ S.2.2.1 5 r ≠ -1 ∧ S.2.2.1 5 r ≠ o) i)))) := fun hp => by
        rw [ct_f (p := fun r => S.2.2.1 3 r = l ∧ S.2.2.1 5 r ≠ -1 ∧ S.2.2.1 5 r ≠ o) hp, sel_f (p := fun r => S.2.2.1 3 r = l ∧ S.2.2.1 5 r ≠ -1 ∧ S.2.2.1 5 r ≠ o) hp] at ih
        exact ih
      refine run [7] 60 _ _ _ _ _ _ ?_
      conv => whnf
      refine pk_le n i (fun h => absurd h (by omega)) (fun h => ?_) h1
      conv => whnf
      refine ⟨vp_in_nI (by omega) (by decide), ?_⟩
      rw [nI_clamp (by omega)]
      conv => whnf
      refine ⟨fun hp => ?_, fun hp => ?_⟩
      · conv => whnf
        exact hno (fun z => hp z.1)
      · conv => whnf
        refine ⟨(i, xi (xa S 16 (sel (fun r => S.2.2.1 3 r = l ∧ S.2.2.1 5 r ≠ -1 ∧ S.2.2.1 5 r ≠ o) (S.2.2.1 16) i)) 4 (nI (ct (fun r => S.2.2.1 3 r = l ∧ S.2.2.1 5 r ≠ -1 ∧ S.2.2.1 5 r ≠ o) i))), rfl, rfl, (by dsimp only; omega), ?_⟩
        rintro _ _ ⟨rfl, rfl⟩
        conv => whnf
        refine bl_br (fun hq => ?_) (fun hq => ?_)
        · conv => whnf
          exact hno (fun z => hq z.2.1)
        · conv => whnf
          refine ⟨vp_in_nI (by omega) (by decide), ?_⟩
          rw [nI_clamp (by omega)]
          conv => whnf
          refine ⟨fun hr => ?_, fun hr => ?_⟩
          · conv => whnf
            exact hno (fun z => z.2.2 hr)
          · conv => whnf
            refine ⟨vp_in_nI (n := ct (fun r => S.2.2.1 3 r = l ∧ S.2.2.1 5 r ≠ -1 ∧ S.2.2.1 5 r ≠ o) i) (by omega) (by decide), ?_⟩
            conv => whnf
            rw [ct_t (p := fun r => S.2.2.1 3 r = l ∧ S.2.2.1 5 r ≠ -1 ∧ S.2.2.1 5 r ≠ o) ⟨hp, hq, hr⟩, sel_t (p := fun r => S.2.2.1 3 r = l ∧ S.2.2.1 5 r ≠ -1 ∧ S.2.2.1 5 r ≠ o) ⟨hp, hq, hr⟩, nI_succ] at ih
            have hu : upd (sel (fun r => S.2.2.1 3 r = l ∧ S.2.2.1 5 r ≠ -1 ∧ S.2.2.1 5 r ≠ o) (S.2.2.1 16) i) (ct (fun r => S.2.2.1 3 r = l ∧ S.2.2.1 5 r ≠ -1 ∧ S.2.2.1 5 r ≠ o) i) (nI i) = upd (sel (fun r => S.2.2.1 3 r = l ∧ S.2.2.1 5 r ≠ -1 ∧ S.2.2.1 5 r ≠ o) (S.2.2.1 16) i) (nI (ct (fun r => S.2.2.1 3 r = l ∧ S.2.2.1 5 r ≠ -1 ∧ S.2.2.1 5 r ≠ o) i)).toNatClampNeg (nI i) := by rw [nI_clamp (by omega)]
            rw [hu] at ih
            exact ih)
  refine run [7] 60 _ _ _ _ _ _ ?_
  conv => whnf
  exact loop 0 (by omega)
theorem ct_X3_gatherLabelInside (D : va_G) (dT : Nat → Nat) (l : Launch) : en_CT en_WD D vwCl dT l yX3_gatherLabelInside cX3_gatherLabelInside 4 (none) rm_X3_gatherLabelInside f_X3_gatherLabelInside := en_met en_WD1 en_WD2 (by decide) rfl rfl (tB_X3_gatherLabelInside D dT l) (en_f_ln (fun _ => Nat.le_of_ble_eq_true rfl)) (en_f_bd bd_X3_gatherLabelInside)
set_option maxRecDepth 100000 in
theorem mk_X3_gatherLabelInside {D : va_G} {dT : Nat → Nat} {l : Launch} {R : Room} {s : State} {args : Array Value} {own : String} {idx : Nat} (h : en_WD s) (h1 : rm_X3_gatherLabelInside.frames + 1 ≤ R.frames) (h2 : 8 + (4 + 11) + rm_X3_gatherLabelInside.locals ≤ R.locals) (hl : (Jvm.Cond.methodLink own idx yX3_gatherLabelInside).before args s = true ∨ ∃ host, (Jvm.Cond.methodLinkNest own idx yX3_gatherLabelInside host).before args s = true) : en_mok en_WD D vwCl dT l R s args own (idx, 3, 5, 0, 0, f_X3_gatherLabelInside) :=
  ⟨yX3_gatherLabelInside, cX3_gatherLabelInside, 4, none, rm_X3_gatherLabelInside, 2, ct_X3_gatherLabelInside D dT l, rfl, rfl, h1, h2, en_wd h 465 rfl rfl args, en_wd h 62 (by decide +kernel) rfl args, by decide, by decide, hl, ⟨RX3, TX3, 8, rfl, en_wd h 464 (by decide +kernel) rfl args, en_wd h 18 (by decide +kernel) rfl args, rfl⟩⟩
def f_X3_gatherGroups := en_f (σ := Nat × Sx) (fun _ => [.ref 13]) (fun x => wX x.2) (fun x => x.1 ≤ 100 ∧ x.2.1 1 = nI x.1) (fun x v w => v = none ∧ w = wX (xi (xa x.2 16 (sel (fun g => fs (fun r => x.2.2.2.1 2 r = nI g) x.1 ≠ none) (x.2.2.2.1 16) 30)) 4 (nI (ct (fun g => fs (fun r => x.2.2.2.1 2 r = nI g) x.1 ≠ none) 30))))
def rm_X3_gatherGroups : Room := { frames := 1, cells := 0, slots := 0, locals := 22 }
def t_X3_gatherGroups : en_T := ((2, 0, 0), tb_X3_gatherGroups, fl_X3, cn_X3, [(119, 2, 4, 0, 0, f_X2_firstOfGroup)], [], 0, none)
set_option maxRecDepth 100000 in
theorem tB_X3_gatherGroups (D : va_G) (dT : Nat → Nat) (l : Launch) : en_TB en_WD D vwCl dT l rm_X3_gatherGroups t_X3_gatherGroups RX3 "gatherGroups" cX3_gatherGroups := ⟨tk_X3_gatherGroups, fun s args meth h hn => ⟨fo_X3 h args meth, co_X3 h args, List.forall_mem_cons.mpr ⟨mk_X2_firstOfGroup (own := RX3) h (Nat.le_of_ble_eq_true rfl) (Nat.le_of_ble_eq_true rfl) (Or.inl (en_wd h 364 (by decide +kernel) rfl args)), fun _ h => absurd h List.not_mem_nil⟩, fun _ h => absurd h List.not_mem_nil, Or.inl rfl, en_arr h args⟩⟩
set_option maxHeartbeats 4000000 in
set_option maxRecDepth 100000 in
theorem bd_X3_gatherGroups : en_B (σ := Nat × Sx) t_X3_gatherGroups (fun _ => [.ref 13]) (fun x => wX x.2) (fun x => x.1 ≤ 100 ∧ x.2.1 1 = nI x.1) (fun x v w => v = none ∧ w = wX (xi (xa x.2 16 (sel (fun g => fs (fun r => x.2.2.2.1 2 r = nI g) x.1 ≠ none) (x.2.2.2.1 16) 30)) 4 (nI (ct (fun g => fs (fun r => x.2.2.2.1 2 r = nI g) x.1 ≠ none) 30)))) := by
  rintro ⟨n, S⟩ ⟨hn, h1⟩ G hG OK ⟨run, sub⟩
  dsimp only at hn h1 hG ⊢
  have loop := lp_up (fun i => OK 0 0 7 [(0, .ref 13), (1, .int (nI i))] [] (wX (xi (xa S 16 (sel (fun g => fs (fun r => S.2.2.1 2 r = nI g) n ≠ none) (S.2.2.1 16) i)) 4 (nI (ct (fun g => fs (fun r => S.2.2.1 2 r = nI g) n ≠ none) i))))) 30
    (by
      refine run [7] 60 _ _ _ _ _ _ ?_
      conv => whnf
      refine pk_le 30 30 (fun h => ?_) (fun h => absurd h (by omega))
      conv => whnf
      exact hG _ _ ⟨rfl, rfl⟩)
    (fun i hi ih => by
      have hc := ct_le (fun g => fs (fun r => S.2.2.1 2 r = nI g) n ≠ none) i
      rw [nI_succ] at ih
      refine run [7] 60 _ _ _ _ _ _ ?_
      conv => whnf
      refine pk_le 30 i (fun h => absurd h (by omega)) (fun h => ?_)
      conv => whnf
      refine ⟨(n, nI i, xi (xa S 16 (sel (fun g => fs (fun r => S.2.2.1 2 r = nI g) n ≠ none) (S.2.2.1 16) i)) 4 (nI (ct (fun g => fs (fun r => S.2.2.1 2 r = nI g) n ≠ none) i))), rfl, rfl, ⟨hn, h1⟩, ?_⟩
      intro v w hvw
      obtain ⟨rfl, rfl⟩ : v = some (.int (oI (fs (fun r => S.2.2.1 2 r = nI i) n))) ∧ w = wX (xi (xa S 16 (sel (fun g => fs (fun r => S.2.2.1 2 r = nI g) n ≠ none) (S.2.2.1 16) i)) 4 (nI (ct (fun g => fs (fun r => S.2.2.1 2 r = nI g) n ≠ none) i))) := hvw
      have hone : oI (fs (fun r => S.2.2.1 2 r = nI i) n) = -1 ↔ fs (fun r => S.2.2.1 2 r = nI i) n = none := by
        cases hf : fs (fun r => S.2.2.1 2 r = nI i) n with
        | none => exact ⟨fun _ => rfl, fun _ => rfl⟩
        | some r =>
          have hr := (fs_lt hf).1
          exact ⟨fun z => absurd z (fun z => by
            have z2 : nI r < 0 := by
              rw [show nI r = -1 from z]; decide
            exact absurd z2 (nI_pos (by omega))), fun z => by cases z⟩
      conv => whnf
      refine ⟨fun hp => ?_, fun hp => ?_⟩
      · have hp := hone.mp hp
        conv => whnf
        rw [ct_f (p := fun g => fs (fun r => S.2.2.1 2 r = nI g) n ≠ none) (fun z => z hp), sel_f (p := fun g => fs (fun r => S.2.2.1 2 r = nI g) n ≠ none) (fun z => z hp)] at ih
        exact ih
      · have hp : fs (fun r => S.2.2.1 2 r = nI i) n ≠ none := fun z => hp (hone.mpr z)
        conv => whnf
        refine ⟨vp_in_nI (n := ct (fun g => fs (fun r => S.2.2.1 2 r = nI g) n ≠ none) i) (by omega) (by decide), ?_⟩
        conv => whnf
        rw [ct_t (p := fun g => fs (fun r => S.2.2.1 2 r = nI g) n ≠ none) hp, sel_t (p := fun g => fs (fun r => S.2.2.1 2 r = nI g) n ≠ none) hp, nI_succ] at ih
        have hu : upd (sel (fun g => fs (fun r => S.2.2.1 2 r = nI g) n ≠ none) (S.2.2.1 16) i) (ct (fun g => fs (fun r => S.2.2.1 2 r = nI g) n ≠ none) i) (nI i) = upd (sel (fun g => fs (fun r => S.2.2.1 2 r = nI g) n ≠ none) (S.2.2.1 16) i) (nI (ct (fun g => fs (fun r => S.2.2.1 2 r = nI g) n ≠ none) i)).toNatClampNeg (nI i) := by rw [nI_clamp (by omega)]
        rw [hu] at ih
        exact ih)
  refine run [7] 60 _ _ _ _ _ _ ?_
  conv => whnf
  exact loop 0 (by omega)
theorem ct_X3_gatherGroups (D : va_G) (dT : Nat → Nat) (l : Launch) : en_CT en_WD D vwCl dT l yX3_gatherGroups cX3_gatherGroups 2 (none) rm_X3_gatherGroups f_X3_gatherGroups := en_met en_WD1 en_WD2 (by decide) rfl rfl (tB_X3_gatherGroups D dT l) (en_f_ln (fun _ => Nat.le_of_ble_eq_true rfl)) (en_f_bd bd_X3_gatherGroups)
set_option maxRecDepth 100000 in
theorem mk_X3_gatherGroups {D : va_G} {dT : Nat → Nat} {l : Launch} {R : Room} {s : State} {args : Array Value} {own : String} {idx : Nat} (h : en_WD s) (h1 : rm_X3_gatherGroups.frames + 1 ≤ R.frames) (h2 : 8 + (2 + 11) + rm_X3_gatherGroups.locals ≤ R.locals) (hl : (Jvm.Cond.methodLink own idx yX3_gatherGroups).before args s = true ∨ ∃ host, (Jvm.Cond.methodLinkNest own idx yX3_gatherGroups host).before args s = true) : en_mok en_WD D vwCl dT l R s args own (idx, 1, 5, 0, 0, f_X3_gatherGroups) :=
  ⟨yX3_gatherGroups, cX3_gatherGroups, 2, none, rm_X3_gatherGroups, 0, ct_X3_gatherGroups D dT l, rfl, rfl, h1, h2, en_wd h 363 rfl rfl args, en_wd h 62 (by decide +kernel) rfl args, by decide, by decide, hl, ⟨RX3, TX3, 8, rfl, en_wd h 362 (by decide +kernel) rfl args, en_wd h 6 (by decide +kernel) rfl args, rfl⟩⟩
end
section
/-! SplitLeaks$Splitter: filling and dealing -/
def f_X3_fillByQuotas := en_f (σ := (Nat → Nat) × Nat × Nat × Nat × Sx) (fun _ => [.ref 13]) (fun x => wX x.2.2.2.2) (fun x => wok x.1 x.2.1 x.2.2.1 ∧ x.2.2.2.1 ≤ 100 ∧ x.2.2.2.2.1 2 = nI x.2.2.1 ∧ x.2.2.2.2.1 3 = nI x.2.1 ∧ (∀ j, j < x.2.2.1 → x.2.2.2.2.2.2.1 10 j = nI (x.1 j)) ∧ x.2.2.2.2.1 4 = nI x.2.2.2.1 ∧ vld (x.2.2.2.2.2.2.1 16) x.2.2.2.1 100) (fun x v w => v = none ∧ ∃ q r, w = wX (xa (xa (xa x.2.2.2.2 11 q) 12 r) 15 (dl (x.2.2.2.2.2.2.1 16) (fun a => nI (pt (qf x.1 x.2.1 x.2.2.1 x.2.2.2.1) a x.2.2.1)) (x.2.2.2.2.2.2.1 15) x.2.2.2.1)))
def rm_X3_fillByQuotas : Room := { frames := 2, cells := 0, slots := 0, locals := 46 }
def t_X3_fillByQuotas : en_T := ((4, 0, 0), tb_X3_fillByQuotas, fl_X3, cn_X3, [(122, 2, 7, 0, 0, f_X5_apportion)], [], 0, none)
set_option maxRecDepth 100000 in
theorem tB_X3_fillByQuotas (D : va_G) (dT : Nat → Nat) (l : Launch) : en_TB en_WD D vwCl dT l rm_X3_fillByQuotas t_X3_fillByQuotas RX3 "fillByQuotas" cX3_fillByQuotas := ⟨tk_X3_fillByQuotas, fun s args meth h hn => ⟨fo_X3 h args meth, co_X3 h args, List.forall_mem_cons.mpr ⟨mk_X5_apportion (own := RX3) h (Nat.le_of_ble_eq_true rfl) (Nat.le_of_ble_eq_true rfl) (Or.inl (en_wd h 355 (by decide +kernel) rfl args)), fun _ h => absurd h List.not_mem_nil⟩, fun _ h => absurd h List.not_mem_nil, Or.inl rfl, en_arr h args⟩⟩
set_option maxHeartbeats 4000000 in
set_option maxRecDepth 100000 in
theorem bd_X3_fillByQuotas : en_B (σ := (Nat → Nat) × Nat × Nat × Nat × Sx) t_X3_fillByQuotas (fun _ => [.ref 13]) (fun x => wX x.2.2.2.2) (fun x => wok x.1 x.2.1 x.2.2.1 ∧ x.2.2.2.1 ≤ 100 ∧ x.2.2.2.2.1 2 = nI x.2.2.1 ∧ x.2.2.2.2.1 3 = nI x.2.1 ∧ (∀ j, j < x.2.2.1 → x.2.2.2.2.2.2.1 10 j = nI (x.1 j)) ∧ x.2.2.2.2.1 4 = nI x.2.2.2.1 ∧ vld (x.2.2.2.2.2.2.1 16) x.2.2.2.1 100) (fun x v w => v = none ∧ ∃ q r, w = wX (xa (xa (xa x.2.2.2.2 11 q) 12 r) 15 (dl (x.2.2.2.2.2.2.1 16) (fun a => nI (pt (qf x.1 x.2.1 x.2.2.1 x.2.2.2.1) a x.2.2.1)) (x.2.2.2.2.2.2.1 15) x.2.2.2.1))) := by
  rintro ⟨w, W, k, m, S⟩ ⟨hok, hm, hk, hW, hw, h4, hv⟩ G hG OK ⟨run, sub⟩
  dsimp only at hok hm hk hW hw h4 hv hG ⊢
  have hk4 : k ≤ 4 := hok.2.1
  refine run [15] 60 _ _ _ _ _ _ ?_
  conv => whnf
  refine ⟨(w, W, k, m, S), (by show [Value.ref 9, Value.int (S.1 4)] = [Value.ref 9, Value.int (nI m)]; rw [h4]), rfl, ⟨hok, by dsimp only; omega, hk, hW, hw⟩, ?_⟩
  rintro v u ⟨hv0, r, hu⟩
  obtain rfl : v = none := hv0
  obtain rfl : u = wX (xa (xa S 11 (mx k (fun j => nI (qf w W k m j)) (S.2.2.1 11))) 12 r) := hu
  have hsum := qf_sum (n := m) hok
  generalize hQ : qf w W k m = q at hsum hG ⊢
  have hle : ∀ p, p ≤ k → sm q p ≤ m := fun p hp => by rw [← hsum]; exact sm_mono q hp
  have outer : ∀ p, p ≤ k → OK 0 0 15 [(0, .ref 13), (1, .int (nI (sm q p))), (2, .int (nI p))] [] (wX (xa (xa (xa S 11 (mx k (fun j => nI (q j)) (S.2.2.1 11))) 12 r) 15 (dl (S.2.2.1 16) (fun a => nI (pt q a k)) (S.2.2.1 15) (sm q p)))) := by
    refine lp_up (fun p => OK 0 0 15 [(0, .ref 13), (1, .int (nI (sm q p))), (2, .int (nI p))] [] (wX (xa (xa (xa S 11 (mx k (fun j => nI (q j)) (S.2.2.1 11))) 12 r) 15 (dl (S.2.2.1 16) (fun a => nI (pt q a k)) (S.2.2.1 15) (sm q p))))) k ?_ ?_
    · refine run [15] 60 _ _ _ _ _ _ ?_
      conv => whnf
      refine pk_le k k (fun h => ?_) (fun h => absurd h (by omega)) hk
      conv => whnf
      refine hG _ _ ⟨rfl, mx k (fun j => nI (q j)) (S.2.2.1 11), r, ?_⟩
      rw [hsum]
    · intro p hp ih
      have hp1 := hle (p + 1) (by omega)
      have hsp : sm q (p + 1) = sm q p + q p := rfl
      have inner : ∀ a, a ≤ sm q (p + 1) → sm q p ≤ a → OK 0 0 38 [(0, .ref 13), (1, .int (nI a)), (2, .int (nI p)), (3, .int (nI (sm q (p + 1))))] [] (wX (xa (xa (xa S 11 (mx k (fun j => nI (q j)) (S.2.2.1 11))) 12 r) 15 (dl (S.2.2.1 16) (fun a => nI (pt q a k)) (S.2.2.1 15) a))) := by
        refine lp_up (fun a => sm q p ≤ a → OK 0 0 38 [(0, .ref 13), (1, .int (nI a)), (2, .int (nI p)), (3, .int (nI (sm q (p + 1))))] [] (wX (xa (xa (xa S 11 (mx k (fun j => nI (q j)) (S.2.2.1 11))) 12 r) 15 (dl (S.2.2.1 16) (fun a => nI (pt q a k)) (S.2.2.1 15) a)))) (sm q (p + 1)) ?_ ?_
        · intro _
          refine run [15, 38] 60 _ _ _ _ _ _ ?_
          conv => whnf
          refine pk_le (sm q (p + 1)) (sm q (p + 1)) (fun h => ?_) (fun h => absurd h (by omega))
          conv => whnf
          rw [nI_succ] at ih
          exact sub [0, 1, 2] _ _ _ _ _ _ _ rfl ih
        · intro a ha iha hpa
          have iha := iha (by omega)
          refine run [15, 38] 60 _ _ _ _ _ _ ?_
          conv => whnf
          refine pk_le (sm q (p + 1)) a (fun h => absurd h (by omega)) (fun h => ?_)
          conv => whnf
          refine pk_le m a (fun h => absurd h (by omega)) (fun h => ?_) h4
          conv => whnf
          refine ⟨vp_in_nI (by omega) (by decide), ?_⟩
          rw [nI_clamp (by omega)]
          conv => whnf
          refine ⟨vld_in hv (by omega) (by decide), ?_⟩
          conv => whnf
          rw [nI_succ] at iha
          have e : dl (S.2.2.1 16) (fun a => nI (pt q a k)) (S.2.2.1 15) (a + 1) = upd (dl (S.2.2.1 16) (fun a => nI (pt q a k)) (S.2.2.1 15) a) (S.2.2.1 16 a).toNatClampNeg (nI p) := by
            show upd _ _ (nI (pt q a k)) = _
            rw [pt_is hpa ha k hp]
          rw [e] at iha
          exact iha
      refine run [15, 38] 60 _ _ _ _ _ _ ?_
      conv => whnf
      refine pk_le k p (fun h => absurd h (by omega)) (fun h => ?_) hk
      conv => whnf
      refine ⟨vp_in_nI (by omega) (by decide), ?_⟩
      rw [nI_clamp (by omega)]
      conv => whnf
      have hi := inner (sm q p) (by omega) (Nat.le_refl _)
      have e : nI (sm q (p + 1)) = nI (sm q p) + mx k (fun j => nI (q j)) (S.2.2.1 11) p := by rw [mx_lt hp, hsp, nI_add]
      rw [e] at hi
      exact hi
  conv => whnf
  exact outer 0 (by omega)
theorem ct_X3_fillByQuotas (D : va_G) (dT : Nat → Nat) (l : Launch) : en_CT en_WD D vwCl dT l yX3_fillByQuotas cX3_fillByQuotas 4 (none) rm_X3_fillByQuotas f_X3_fillByQuotas := en_met en_WD1 en_WD2 (by decide) rfl rfl (tB_X3_fillByQuotas D dT l) (en_f_ln (fun _ => Nat.le_of_ble_eq_true rfl)) (en_f_bd bd_X3_fillByQuotas)
set_option maxRecDepth 100000 in
theorem mk_X3_fillByQuotas {D : va_G} {dT : Nat → Nat} {l : Launch} {R : Room} {s : State} {args : Array Value} {own : String} {idx : Nat} (h : en_WD s) (h1 : rm_X3_fillByQuotas.frames + 1 ≤ R.frames) (h2 : 8 + (4 + 11) + rm_X3_fillByQuotas.locals ≤ R.locals) (hl : (Jvm.Cond.methodLink own idx yX3_fillByQuotas).before args s = true ∨ ∃ host, (Jvm.Cond.methodLinkNest own idx yX3_fillByQuotas host).before args s = true) : en_mok en_WD D vwCl dT l R s args own (idx, 1, 5, 0, 0, f_X3_fillByQuotas) :=
  ⟨yX3_fillByQuotas, cX3_fillByQuotas, 4, none, rm_X3_fillByQuotas, 0, ct_X3_fillByQuotas D dT l, rfl, rfl, h1, h2, en_wd h 354 rfl rfl args, en_wd h 62 (by decide +kernel) rfl args, by decide, by decide, hl, ⟨RX3, TX3, 8, rfl, en_wd h 353 (by decide +kernel) rfl args, en_wd h 4 (by decide +kernel) rfl args, rfl⟩⟩
def f_X3_dealFrom := en_f (σ := Nat × Nat × Nat × Sx) (fun x => [.ref 13, .int (nI x.2.2.1)]) (fun x => wX x.2.2.2) (fun x => x.1 ≤ 4 ∧ x.2.1 ≤ 100 ∧ x.2.2.1 < x.1 ∧ x.2.2.2.1 2 = nI x.1 ∧ x.2.2.2.1 4 = nI x.2.1 ∧ vld (x.2.2.2.2.2.1 16) x.2.1 100) (fun x v w => v = some (.int (nI (nx x.1 x.2.2.1 x.2.1))) ∧ w = wX (xa (xa (xz x.2.2.2 (shm x.2.1 x.2.2.2.2.1 (x.2.2.2.2.2.1 16)).1) 16 (shm x.2.1 x.2.2.2.2.1 (x.2.2.2.2.2.1 16)).2) 15 (dl (shm x.2.1 x.2.2.2.2.1 (x.2.2.2.2.2.1 16)).2 (fun i => nI (nx x.1 x.2.2.1 i)) (x.2.2.2.2.2.1 15) x.2.1)))
def rm_X3_dealFrom : Room := { frames := 2, cells := 0, slots := 0, locals := 46 }
def t_X3_dealFrom : en_T := ((4, 0, 0), tb_X3_dealFrom, fl_X3, cn_X3, [(82, 3, 2, 0, 0, f_X0_shuffle)], [], 0, some .int)
set_option maxRecDepth 100000 in
theorem tB_X3_dealFrom (D : va_G) (dT : Nat → Nat) (l : Launch) : en_TB en_WD D vwCl dT l rm_X3_dealFrom t_X3_dealFrom RX3 "dealFrom" cX3_dealFrom := ⟨tk_X3_dealFrom, fun s args meth h hn => ⟨fo_X3 h args meth, co_X3 h args, List.forall_mem_cons.mpr ⟨mk_X0_shuffle (own := RX3) h (Nat.le_of_ble_eq_true rfl) (Nat.le_of_ble_eq_true rfl) (Or.inl (en_wd h 341 (by decide +kernel) rfl args)), fun _ h => absurd h List.not_mem_nil⟩, fun _ h => absurd h List.not_mem_nil, Or.inl rfl, en_arr h args⟩⟩
set_option maxHeartbeats 4000000 in
set_option maxRecDepth 100000 in
theorem bd_X3_dealFrom : en_B (σ := Nat × Nat × Nat × Sx) t_X3_dealFrom (fun x => [.ref 13, .int (nI x.2.2.1)]) (fun x => wX x.2.2.2) (fun x => x.1 ≤ 4 ∧ x.2.1 ≤ 100 ∧ x.2.2.1 < x.1 ∧ x.2.2.2.1 2 = nI x.1 ∧ x.2.2.2.1 4 = nI x.2.1 ∧ vld (x.2.2.2.2.2.1 16) x.2.1 100) (fun x v w => v = some (.int (nI (nx x.1 x.2.2.1 x.2.1))) ∧ w = wX (xa (xa (xz x.2.2.2 (shm x.2.1 x.2.2.2.2.1 (x.2.2.2.2.2.1 16)).1) 16 (shm x.2.1 x.2.2.2.2.1 (x.2.2.2.2.2.1 16)).2) 15 (dl (shm x.2.1 x.2.2.2.2.1 (x.2.2.2.2.2.1 16)).2 (fun i => nI (nx x.1 x.2.2.1 i)) (x.2.2.2.2.2.1 15) x.2.1))) := by
  rintro ⟨k, m, f, S⟩ ⟨hk, hm, hf, h2, h4, hv⟩ G hG OK ⟨run, sub⟩
  dsimp only at hk hm hf h2 h4 hv hG ⊢
  have hv' := shm_v (z := S.2.1) hv
  refine run [19] 60 _ _ _ _ _ _ ?_
  conv => whnf
  refine ⟨(m, S), (by show [Value.ref 14, Value.ref 16, Value.int (S.1 4)] = [Value.ref 14, Value.ref 16, Value.int (nI m)]; rw [h4]), rfl, hm, ?_⟩
  rintro v u ⟨hv0, hu⟩
  obtain rfl : v = none := hv0
  obtain rfl : u = wX (xa (xz S (shm m S.2.1 (S.2.2.1 16)).1) 16 (shm m S.2.1 (S.2.2.1 16)).2) := hu
  generalize shm m S.2.1 (S.2.2.1 16) = Z at hv' hG ⊢
  have loop : ∀ i, i ≤ m → OK 0 0 19 [(0, .ref 13), (1, .int (nI f)), (2, .int (nI (nx k f i))), (3, .int (nI i))] [] (wX (xa (xa (xz S Z.1) 16 Z.2) 15 (dl Z.2 (fun i => nI (nx k f i)) (S.2.2.1 15) i))) := by
    refine lp_up (fun i => OK 0 0 19 [(0, .ref 13), (1, .int (nI f)), (2, .int (nI (nx k f i))), (3, .int (nI i))] [] (wX (xa (xa (xz S Z.1) 16 Z.2) 15 (dl Z.2 (fun i => nI (nx k f i)) (S.2.2.1 15) i)))) m ?_ ?_
    · refine run [19] 60 _ _ _ _ _ _ ?_
      conv => whnf
      refine pk_le m m (fun h => ?_) (fun h => absurd h (by omega)) h4
      conv => whnf
      exact hG _ _ ⟨rfl, rfl⟩
    · intro i hi ih
      have hn := nx_lt hf i
      refine run [19] 60 _ _ _ _ _ _ ?_
      conv => whnf
      refine pk_le m i (fun h => absurd h (by omega)) (fun h => ?_) h4
      conv => whnf
      refine ⟨vp_in_nI (by omega) (by decide), ?_⟩
      rw [nI_clamp (by omega)]
      conv => whnf
      refine ⟨vld_in hv' hi (by decide), ?_⟩
      conv => whnf
      rw [nI_succ] at ih
      simp only [nx] at ih
      refine pk_le k (nx k f i + 1) (fun h => ?_) (fun h => ?_) h2 (nI_succ _).symm
      · conv => whnf
        rw [if_neg (by omega)] at ih
        exact ih
      · conv => whnf
        rw [if_pos h, nI_succ] at ih
        exact ih
  conv => whnf
  exact loop 0 (by omega)
theorem ct_X3_dealFrom (D : va_G) (dT : Nat → Nat) (l : Launch) : en_CT en_WD D vwCl dT l yX3_dealFrom cX3_dealFrom 4 (some .int) rm_X3_dealFrom f_X3_dealFrom := en_met en_WD1 en_WD2 (by decide) rfl rfl (tB_X3_dealFrom D dT l) (en_f_ln (fun _ => Nat.le_of_ble_eq_true rfl)) (en_f_bd bd_X3_dealFrom)
set_option maxRecDepth 100000 in
theorem mk_X3_dealFrom {D : va_G} {dT : Nat → Nat} {l : Launch} {R : Room} {s : State} {args : Array Value} {own : String} {idx : Nat} (h : en_WD s) (h1 : rm_X3_dealFrom.frames + 1 ≤ R.frames) (h2 : 8 + (4 + 11) + rm_X3_dealFrom.locals ≤ R.locals) (hl : (Jvm.Cond.methodLink own idx yX3_dealFrom).before args s = true ∨ ∃ host, (Jvm.Cond.methodLinkNest own idx yX3_dealFrom host).before args s = true) : en_mok en_WD D vwCl dT l R s args own (idx, 2, 5, 0, 0, f_X3_dealFrom) :=
  ⟨yX3_dealFrom, cX3_dealFrom, 4, some .int, rm_X3_dealFrom, 1, ct_X3_dealFrom D dT l, rfl, rfl, h1, h2, en_wd h 440 rfl rfl args, en_wd h 62 (by decide +kernel) rfl args, by decide, by decide, hl, ⟨RX3, TX3, 8, rfl, en_wd h 439 (by decide +kernel) rfl args, en_wd h 17 (by decide +kernel) rfl args, rfl⟩⟩
end
section
/-! SplitLeaks$Splitter: groups -/
/-- how much a part needs -/
def need (w H : Nat → Int32) (n W : Int32) (p : Nat) : Int32 := w p * n - W * H p
def f_X3_need := en_f (σ := Nat × Sx) (fun x => [.ref 13, .int (nI x.1)]) (fun x => wX x.2) (fun x => x.1 < 4) (fun x v w => v = some (.int (need (x.2.2.2.1 10) (x.2.2.2.1 17) (x.2.1 1) (x.2.1 3) x.1)) ∧ w = wX x.2)
def rm_X3_need : Room := { frames := 0, cells := 0, slots := 0, locals := 0 }
def t_X3_need : en_T := ((2, 0, 0), tb_X3_need, fl_X3, cn_X3, [], [], 0, some .int)
set_option maxRecDepth 100000 in
theorem tB_X3_need (D : va_G) (dT : Nat → Nat) (l : Launch) : en_TB en_WD D vwCl dT l rm_X3_need t_X3_need RX3 "need" cX3_need := ⟨tk_X3_need, fun s args meth h hn => ⟨fo_X3 h args meth, co_X3 h args, fun _ h => absurd h List.not_mem_nil, fun _ h => absurd h List.not_mem_nil, Or.inl rfl, en_arr h args⟩⟩
set_option maxHeartbeats 4000000 in
set_option maxRecDepth 100000 in
theorem bd_X3_need : en_B (σ := Nat × Sx) t_X3_need (fun x => [.ref 13, .int (nI x.1)]) (fun x => wX x.2) (fun x => x.1 < 4) (fun x v w => v = some (.int (need (x.2.2.2.1 10) (x.2.2.2.1 17) (x.2.1 1) (x.2.1 3) x.1)) ∧ w = wX x.2) := by
  rintro ⟨p, S⟩ hp G hG OK ⟨run, sub⟩
  dsimp only at hp hG ⊢
  refine run [] 60 _ _ _ _ _ _ ?_
  conv => whnf
  refine ⟨vp_in_nI hp (by decide), ?_⟩
  rw [nI_clamp (by omega)]
  conv => whnf
  refine ⟨vp_in_nI hp (by decide), ?_⟩
  rw [nI_clamp (by omega)]
  conv => whnf
  exact hG _ _ ⟨rfl, rfl⟩
theorem ct_X3_need (D : va_G) (dT : Nat → Nat) (l : Launch) : en_CT en_WD D vwCl dT l yX3_need cX3_need 2 (some .int) rm_X3_need f_X3_need := en_met en_WD1 en_WD2 (by decide) rfl rfl (tB_X3_need D dT l) (en_f_ln (fun _ => Nat.le_of_ble_eq_true rfl)) (en_f_bd bd_X3_need)
set_option maxRecDepth 100000 in
theorem mk_X3_need {D : va_G} {dT : Nat → Nat} {l : Launch} {R : Room} {s : State} {args : Array Value} {own : String} {idx : Nat} (h : en_WD s) (h1 : rm_X3_need.frames + 1 ≤ R.frames) (h2 : 8 + (2 + 11) + rm_X3_need.locals ≤ R.locals) (hl : (Jvm.Cond.methodLink own idx yX3_need).before args s = true ∨ ∃ host, (Jvm.Cond.methodLinkNest own idx yX3_need host).before args s = true) : en_mok en_WD D vwCl dT l R s args own (idx, 2, 5, 0, 0, f_X3_need) :=
  ⟨yX3_need, cX3_need, 2, some .int, rm_X3_need, 1, ct_X3_need D dT l, rfl, rfl, h1, h2, en_wd h 375 rfl rfl args, en_wd h 62 (by decide +kernel) rfl args, by decide, by decide, hl, ⟨RX3, TX3, 8, rfl, en_wd h 374 (by decide +kernel) rfl args, en_wd h 8 (by decide +kernel) rfl args, rfl⟩⟩
def f_X3_neediestPart := en_f (σ := Nat × Sx) (fun _ => [.ref 13]) (fun x => wX x.2) (fun x => 1 ≤ x.1 ∧ x.1 ≤ 4 ∧ x.2.1 2 = nI x.1) (fun x v w => v = some (.int (nI (ag (need (x.2.2.2.1 10) (x.2.2.2.1 17) (x.2.1 1) (x.2.1 3)) (x.1 - 1)))) ∧ w = wX x.2)
def rm_X3_neediestPart : Room := { frames := 1, cells := 0, slots := 0, locals := 21 }
def t_X3_neediestPart : en_T := ((3, 0, 0), tb_X3_neediestPart, fl_X3, cn_X3, [(131, 2, 5, 0, 0, f_X3_need)], [], 0, some .int)
set_option maxRecDepth 100000 in
theorem tB_X3_neediestPart (D : va_G) (dT : Nat → Nat) (l : Launch) : en_TB en_WD D vwCl dT l rm_X3_neediestPart t_X3_neediestPart RX3 "neediestPart" cX3_neediestPart := ⟨tk_X3_neediestPart, fun s args meth h hn => ⟨fo_X3 h args meth, co_X3 h args, List.forall_mem_cons.mpr ⟨mk_X3_need (own := RX3) h (Nat.le_of_ble_eq_true rfl) (Nat.le_of_ble_eq_true rfl) (Or.inl (en_wd h 372 (by decide +kernel) rfl args)), fun _ h => absurd h List.not_mem_nil⟩, fun _ h => absurd h List.not_mem_nil, Or.inl rfl, en_arr h args⟩⟩
set_option maxHeartbeats 4000000 in
set_option maxRecDepth 100000 in
theorem bd_X3_neediestPart : en_B (σ := Nat × Sx) t_X3_neediestPart (fun _ => [.ref 13]) (fun x => wX x.2) (fun x => 1 ≤ x.1 ∧ x.1 ≤ 4 ∧ x.2.1 2 = nI x.1) (fun x v w => v = some (.int (nI (ag (need (x.2.2.2.1 10) (x.2.2.2.1 17) (x.2.1 1) (x.2.1 3)) (x.1 - 1)))) ∧ w = wX x.2) := by
  rintro ⟨k, S⟩ ⟨hk1, hk4, hk⟩ G hG OK ⟨run, sub⟩
  dsimp only at hk1 hk4 hk hG ⊢
  generalize hN : need (S.2.2.1 10) (S.2.2.1 17) (S.1 1) (S.1 3) = N at hG
  have loop := lp_up (fun p => 1 ≤ p → OK 0 0 4 [(0, .ref 13), (1, .int (nI (ag N (p - 1)))), (2, .int (nI p))] [] (wX S)) k
    (fun _ => by
      refine run [4] 60 _ _ _ _ _ _ ?_
      conv => whnf
      refine pk_le k k (fun h => ?_) (fun h => absurd h (by omega)) hk
      conv => whnf
      exact hG _ _ ⟨rfl, rfl⟩)
    (fun p hp ih h1 => by
      obtain ⟨q, rfl⟩ : ∃ q, p = q + 1 := ⟨p - 1, by omega⟩
      have ih : OK 0 0 4 [(0, .ref 13), (1, .int (nI (ag N (q + 1)))), (2, .int (nI (q + 1 + 1)))] [] (wX S) := ih (by omega)
      have hle := ag_le N q
      show OK 0 0 4 [(0, .ref 13), (1, .int (nI (ag N q))), (2, .int (nI (q + 1)))] [] (wX S)
      refine run [4] 60 _ _ _ _ _ _ ?_
      conv => whnf
      refine pk_le k (q + 1) (fun h => absurd h (by omega)) (fun h => ?_) hk
      conv => whnf
      refine ⟨(q + 1, S), rfl, rfl, (by dsimp only; omega), ?_⟩
      intro v u hvu
      obtain ⟨rfl, rfl⟩ : v = some (.int (N (q + 1))) ∧ u = wX S := by rw [← hN]; exact hvu
      conv => whnf
      refine ⟨(ag N q, S), rfl, rfl, (by dsimp only; omega), ?_⟩
      intro v u hvu
      obtain ⟨rfl, rfl⟩ : v = some (.int (N (ag N q))) ∧ u = wX S := by rw [← hN] at hvu ⊢; exact hvu
      conv => whnf
      simp only [ag] at ih
      rw [nI_succ (q + 1)] at ih
      refine ⟨fun hc => ?_, fun hc => ?_⟩
      · conv => whnf
        rw [if_neg (Int32.not_lt.mpr hc)] at ih
        exact ih
      · conv => whnf
        rw [if_pos (Int32.not_le.mp hc)] at ih
        exact ih)
  refine run [4] 60 _ _ _ _ _ _ ?_
  conv => whnf
  exact loop 1 (by omega) (Nat.le_refl 1)
theorem ct_X3_neediestPart (D : va_G) (dT : Nat → Nat) (l : Launch) : en_CT en_WD D vwCl dT l yX3_neediestPart cX3_neediestPart 3 (some .int) rm_X3_neediestPart f_X3_neediestPart := en_met en_WD1 en_WD2 (by decide) rfl rfl (tB_X3_neediestPart D dT l) (en_f_ln (fun _ => Nat.le_of_ble_eq_true rfl)) (en_f_bd bd_X3_neediestPart)
set_option maxRecDepth 100000 in
theorem mk_X3_neediestPart {D : va_G} {dT : Nat → Nat} {l : Launch} {R : Room} {s : State} {args : Array Value} {own : String} {idx : Nat} (h : en_WD s) (h1 : rm_X3_neediestPart.frames + 1 ≤ R.frames) (h2 : 8 + (3 + 11) + rm_X3_neediestPart.locals ≤ R.locals) (hl : (Jvm.Cond.methodLink own idx yX3_neediestPart).before args s = true ∨ ∃ host, (Jvm.Cond.methodLinkNest own idx yX3_neediestPart host).before args s = true) : en_mok en_WD D vwCl dT l R s args own (idx, 1, 5, 0, 0, f_X3_neediestPart) :=
  ⟨yX3_neediestPart, cX3_neediestPart, 3, some .int, rm_X3_neediestPart, 0, ct_X3_neediestPart D dT l, rfl, rfl, h1, h2, en_wd h 371 rfl rfl args, en_wd h 62 (by decide +kernel) rfl args, by decide, by decide, hl, ⟨RX3, TX3, 8, rfl, en_wd h 370 (by decide +kernel) rfl args, en_wd h 7 (by decide +kernel) rfl args, rfl⟩⟩
/-- all rows of a group (below i) are put into a part -/
def pgr (Gp : Nat → Int32) (g x : Int32) (old : Nat → Int32) (i : Nat) : Nat → Int32 := fun r => if r < i ∧ Gp r = g then x else old r
theorem pgr_0 {Gp : Nat → Int32} {g x : Int32} {old : Nat → Int32} : pgr Gp g x old 0 = old := by
  funext r; exact if_neg (by omega)
theorem pgr_f {Gp : Nat → Int32} {g x : Int32} {old : Nat → Int32} {i : Nat} (h : ¬ Gp i = g) : pgr Gp g x old (i + 1) = pgr Gp g x old i := by
  funext r
  unfold pgr
  by_cases e : r = i
  · subst e; rw [if_neg (fun z => h z.2), if_neg (fun z => h z.2)]
  · by_cases h2 : r < i ∧ Gp r = g
    · rw [if_pos ⟨by omega, h2.2⟩, if_pos h2]
    · rw [if_neg (fun z => h2 ⟨by omega, z.2⟩), if_neg h2]
theorem pgr_t {Gp : Nat → Int32} {g x : Int32} {old : Nat → Int32} {i : Nat} (h : Gp i = g) : pgr Gp g x old (i + 1) = upd (pgr Gp g x old i) i x := by
  funext r
  unfold upd pgr
  by_cases e : r = i
  · subst e; rw [if_pos ⟨by omega, h⟩, if_pos rfl]
  · rw [if_neg e]
    by_cases h2 : r < i ∧ Gp r = g
    · rw [if_pos ⟨by omega, h2.2⟩, if_pos h2]
    · rw [if_neg (fun z => h2 ⟨by omega, z.2⟩), if_neg h2]
theorem upd_uu (f : Nat → Int32) (k : Nat) (v w : Int32) : upd (upd f k v) k w = upd f k w := by
  funext j; unfold upd
  by_cases e : j = k
  · rw [if_pos e, if_pos e]
  · rw [if_neg e, if_neg e, if_neg e]
theorem upd_id (f : Nat → Int32) (k : Nat) : upd f k (f k) = f := by
  funext j; unfold upd
  by_cases e : j = k
  · rw [if_pos e, e]
  · rw [if_neg e]
def f_X3_placeGroup := en_f (σ := Nat × Int32 × Nat × Sx) (fun x => [.ref 13, .int x.2.1, .int (nI x.2.2.1)]) (fun x => wX x.2.2.2) (fun x => x.1 ≤ 100 ∧ x.2.2.2.1 1 = nI x.1 ∧ x.2.2.1 < 4) (fun x v w => v = none ∧ w = wX (xa (xa x.2.2.2 15 (pgr (x.2.2.2.2.2.1 2) x.2.1 (nI x.2.2.1) (x.2.2.2.2.2.1 15) x.1)) 17 (upd (x.2.2.2.2.2.1 17) x.2.2.1 (x.2.2.2.2.2.1 17 x.2.2.1 + nI (ct (fun r => x.2.2.2.2.2.1 2 r = x.2.1) x.1)))))
def rm_X3_placeGroup : Room := { frames := 0, cells := 0, slots := 0, locals := 0 }
def t_X3_placeGroup : en_T := ((4, 0, 0), tb_X3_placeGroup, fl_X3, cn_X3, [], [], 0, none)
set_option maxRecDepth 100000 in
theorem tB_X3_placeGroup (D : va_G) (dT : Nat → Nat) (l : Launch) : en_TB en_WD D vwCl dT l rm_X3_placeGroup t_X3_placeGroup RX3 "placeGroup" cX3_placeGroup := ⟨tk_X3_placeGroup, fun s args meth h hn => ⟨fo_X3 h args meth, co_X3 h args, fun _ h => absurd h List.not_mem_nil, fun _ h => absurd h List.not_mem_nil, Or.inl rfl, en_arr h args⟩⟩
set_option maxHeartbeats 4000000 in
set_option maxRecDepth 100000 in
theorem bd_X3_placeGroup : en_B (σ := Nat × Int32 × Nat × Sx) t_X3_placeGroup (fun x => [.ref 13, .int x.2.1, .int (nI x.2.2.1)]) (fun x => wX x.2.2.2) (fun x => x.1 ≤ 100 ∧ x.2.2.2.1 1 = nI x.1 ∧ x.2.2.1 < 4) (fun x v w => v = none ∧ w = wX (xa (xa x.2.2.2 15 (pgr (x.2.2.2.2.2.1 2) x.2.1 (nI x.2.2.1) (x.2.2.2.2.2.1 15) x.1)) 17 (upd (x.2.2.2.2.2.1 17) x.2.2.1 (x.2.2.2.2.2.1 17 x.2.2.1 + nI (ct (fun r => x.2.2.2.2.2.1 2 r = x.2.1) x.1))))) := by
  rintro ⟨n, g, p, S⟩ ⟨hn, h1, hp⟩ G hG OK ⟨run, sub⟩
  dsimp only at hn h1 hp hG ⊢
  have loop := lp_up (fun i => OK 0 0 2 [(0, .ref 13), (1, .int g), (2, .int (nI p)), (3, .int (nI i))] [] (wX (xa (xa S 15 (pgr (S.2.2.1 2) g (nI p) (S.2.2.1 15) i)) 17 (upd (S.2.2.1 17) p (S.2.2.1 17 p + nI (ct (fun r => S.2.2.1 2 r = g) i)))))) n
    (by
      refine run [2] 60 _ _ _ _ _ _ ?_
      conv => whnf
      refine pk_le n n (fun h => ?_) (fun h => absurd h (by omega)) h1
      conv => whnf
      exact hG _ _ ⟨rfl, rfl⟩)
    (fun i hi ih => by
      rw [nI_succ] at ih
      refine run [2] 60 _ _ _ _ _ _ ?_
      conv => whnf
      refine pk_le n i (fun h => absurd h (by omega)) (fun h => ?_) h1
      conv => whnf
      refine ⟨vp_in_nI (by omega) (by decide), ?_⟩
      rw [nI_clamp (by omega)]
      conv => whnf
      refine ⟨fun hc => ?_, fun hc => ?_⟩
      · conv => whnf
        have hc : ¬ S.2.2.1 2 i = g := hc
        rw [ct_f (p := fun r => S.2.2.1 2 r = g) hc, pgr_f hc] at ih
        exact ih
      · conv => whnf
        refine ⟨vp_in_nI (by omega) (by decide), ?_⟩
        rw [nI_clamp (by omega)]
        conv => whnf
        refine ⟨vp_in_nI hp (by decide), ?_⟩
        rw [nI_clamp (by omega)]
        conv => whnf
        refine ⟨vp_in_nI hp (by decide), ?_⟩
        conv => whnf
        rw [nI_clamp (by omega)]
        have hc : S.2.2.1 2 i = g := hc
        rw [ct_t (p := fun r => S.2.2.1 2 r = g) hc, pgr_t hc, nI_succ] at ih
        have e : upd (S.2.2.1 17) p (S.2.2.1 17 p + (nI (ct (fun r => S.2.2.1 2 r = g) i) + 1)) = upd (upd (S.2.2.1 17) p (S.2.2.1 17 p + nI (ct (fun r => S.2.2.1 2 r = g) i))) p (upd (S.2.2.1 17) p (S.2.2.1 17 p + nI (ct (fun r => S.2.2.1 2 r = g) i)) p + 1) := by
          rw [upd_uu, pk_us, Int32.add_assoc]
        rw [e] at ih
        exact ih)
  refine run [2] 60 _ _ _ _ _ _ ?_
  conv => whnf
  have h0 := loop 0 (by omega)
  rw [pgr_0, show ct (fun r => S.2.2.1 2 r = g) 0 = 0 from rfl, show S.2.2.1 17 p + nI 0 = S.2.2.1 17 p from Int32.add_zero _, upd_id] at h0
  exact h0
theorem ct_X3_placeGroup (D : va_G) (dT : Nat → Nat) (l : Launch) : en_CT en_WD D vwCl dT l yX3_placeGroup cX3_placeGroup 4 (none) rm_X3_placeGroup f_X3_placeGroup := en_met en_WD1 en_WD2 (by decide) rfl rfl (tB_X3_placeGroup D dT l) (en_f_ln (fun _ => Nat.le_of_ble_eq_true rfl)) (en_f_bd bd_X3_placeGroup)
set_option maxRecDepth 100000 in
theorem mk_X3_placeGroup {D : va_G} {dT : Nat → Nat} {l : Launch} {R : Room} {s : State} {args : Array Value} {own : String} {idx : Nat} (h : en_WD s) (h1 : rm_X3_placeGroup.frames + 1 ≤ R.frames) (h2 : 8 + (4 + 11) + rm_X3_placeGroup.locals ≤ R.locals) (hl : (Jvm.Cond.methodLink own idx yX3_placeGroup).before args s = true ∨ ∃ host, (Jvm.Cond.methodLinkNest own idx yX3_placeGroup host).before args s = true) : en_mok en_WD D vwCl dT l R s args own (idx, 3, 5, 0, 0, f_X3_placeGroup) :=
  ⟨yX3_placeGroup, cX3_placeGroup, 4, none, rm_X3_placeGroup, 2, ct_X3_placeGroup D dT l, rfl, rfl, h1, h2, en_wd h 379 rfl rfl args, en_wd h 62 (by decide +kernel) rfl args, by decide, by decide, hl, ⟨RX3, TX3, 8, rfl, en_wd h 378 (by decide +kernel) rfl args, en_wd h 9 (by decide +kernel) rfl args, rfl⟩⟩
end
section
/-! SplitLeaks$Splitter: times -/
/-- the place of a value -/
abbrev tn (x : Int32) : Nat := x.toNatClampNeg
/-- a row goes in, from the place a down -/
def insS (T : Nat → Int32) (row : Int32) : Nat → (Nat → Int32) → (Nat → Int32)
  | 0, f => upd f 0 row
  | a + 1, f => if T (tn (f a)) ≤ T (tn row) then upd f (a + 1) row else insS T row a (upd f (a + 1) (f a))
/-- sorted by insertion, the first i things -/
def srt (T : Nat → Int32) (f : Nat → Int32) : Nat → (Nat → Int32)
  | 0 => f
  | i + 1 => insS T (srt T f i i) i (srt T f i)
theorem insS_v (T : Nat → Int32) {row : Int32} {b : Nat} (hr : ∃ r, r < b ∧ row = nI r) : ∀ (a : Nat) (f : Nat → Int32) (m : Nat), a < m → vld f m b → vld (insS T row a f) m b
  | 0, f, m, ha, h => fun i hi => by
    simp only [insS]
    by_cases e : i = 0
    · rw [e, pk_us]; exact hr
    · rw [pk_un e]; exact h i hi
  | a + 1, f, m, ha, h => fun i hi => by
    simp only [insS]
    split
    · by_cases e : i = a + 1
      · rw [e, pk_us]; exact hr
      · rw [pk_un e]; exact h i hi
    · refine insS_v T hr a _ m (by omega) (fun j hj => ?_) i hi
      by_cases e : j = a + 1
      · rw [e, pk_us]; exact h a (by omega)
      · rw [pk_un e]; exact h j hj
theorem srt_v (T : Nat → Int32) {f : Nat → Int32} {m b : Nat} (h : vld f m b) : ∀ i, i ≤ m → vld (srt T f i) m b
  | 0, _ => h
  | i + 1, hi => insS_v T (srt_v T h i (by omega) i (by omega)) i _ m (by omega) (srt_v T h i (by omega))
def f_X3_sortByTime := en_f (σ := Nat × Sx) (fun _ => [.ref 13]) (fun x => wX x.2) (fun x => x.1 ≤ 100 ∧ x.2.1 4 = nI x.1 ∧ vld (x.2.2.2.1 16) x.1 100) (fun x v w => v = none ∧ w = wX (xa x.2 16 (srt (x.2.2.2.1 4) (x.2.2.2.1 16) x.1)))
def rm_X3_sortByTime : Room := { frames := 0, cells := 0, slots := 0, locals := 0 }
def t_X3_sortByTime : en_T := ((4, 0, 0), tb_X3_sortByTime, fl_X3, cn_X3, [], [], 0, none)
set_option maxRecDepth 100000 in
theorem tB_X3_sortByTime (D : va_G) (dT : Nat → Nat) (l : Launch) : en_TB en_WD D vwCl dT l rm_X3_sortByTime t_X3_sortByTime RX3 "sortByTime" cX3_sortByTime := ⟨tk_X3_sortByTime, fun s args meth h hn => ⟨fo_X3 h args meth, co_X3 h args, fun _ h => absurd h List.not_mem_nil, fun _ h => absurd h List.not_mem_nil, Or.inl rfl, en_arr h args⟩⟩
set_option maxHeartbeats 4000000 in
set_option maxRecDepth 100000 in
theorem bd_X3_sortByTime : en_B (σ := Nat × Sx) t_X3_sortByTime (fun _ => [.ref 13]) (fun x => wX x.2) (fun x => x.1 ≤ 100 ∧ x.2.1 4 = nI x.1 ∧ vld (x.2.2.2.1 16) x.1 100) (fun x v w => v = none ∧ w = wX (xa x.2 16 (srt (x.2.2.2.1 4) (x.2.2.2.1 16) x.1))) := by
  rintro ⟨m, S⟩ ⟨hm, h4, hv⟩ G hG OK ⟨run, sub⟩
  dsimp only at hm h4 hv hG ⊢
  have hs1 : srt (S.2.2.1 4) (S.2.2.1 16) 1 = S.2.2.1 16 := upd_id _ 0
  have inner : ∀ (i : Nat) (row : Int32), i < m → (∃ r, r < 100 ∧ row = nI r) → ∀ (a : Nat) (f : Nat → Int32), a ≤ i → vld f m 100 → OK 0 0 2 [(0, .ref 13), (1, .int (nI (i + 1)))] [] (wX (xa S 16 (insS (S.2.2.1 4) row a f))) → OK 0 0 19 [(0, .ref 13), (1, .int (nI i)), (2, .int row), (3, .int (nI a))] [] (wX (xa S 16 f)) := by
    intro i row hi hrow a
    obtain ⟨rw, hrw, hrow⟩ := hrow
    induction a with
    | zero =>
      intro f ha hf hN
      rw [nI_succ] at hN
      refine run [2, 19] 60 _ _ _ _ _ _ ?_
      conv => whnf
      refine pk_le 0 0 (fun _ => ?_) (fun h => absurd h (by omega))
      conv => whnf
      refine ⟨vp_in_nI (n := 0) (by omega) (by decide), ?_⟩
      conv => whnf
      exact sub [0, 1] _ _ _ _ _ _ _ rfl hN
    | succ a ih =>
      intro f ha hf hN
      have hfa := vld_lt hf (i := a) (by omega) (by decide)
      refine run [2, 19] 60 _ _ _ _ _ _ ?_
      conv => whnf
      refine pk_le (a + 1) 0 (fun h => absurd h (by omega)) (fun _ => ?_)
      conv => whnf
      rw [show nI (a + 1) - Int32.ofInt 1 = nI a from nI_pred a]
      refine ⟨vp_in_nI (by omega) (by decide), ?_⟩
      rw [nI_clamp (by omega)]
      conv => whnf
      refine ⟨vld_in hf (by omega) (by decide), ?_⟩
      conv => whnf
      refine ⟨by rw [hrow]; exact vp_in_nI hrw (by decide), ?_⟩
      conv => whnf
      refine ⟨fun hc => ?_, fun hc => ?_⟩
      · have hc : S.2.2.1 4 (tn (f a)) ≤ S.2.2.1 4 (tn row) := hc
        conv => whnf
        refine ⟨vp_in_nI (by omega) (by decide), ?_⟩
        rw [nI_clamp (by omega)]
        conv => whnf
        simp only [insS] at hN
        rw [if_pos hc, nI_succ] at hN
        exact sub [0, 1] _ _ _ _ _ _ _ rfl hN
      · have hc : ¬ S.2.2.1 4 (tn (f a)) ≤ S.2.2.1 4 (tn row) := hc
        conv => whnf
        rw [show nI (a + 1) - Int32.ofInt 1 = nI a from nI_pred a]
        refine ⟨vp_in_nI (by omega) (by decide), ?_⟩
        rw [nI_clamp (by omega)]
        conv => whnf
        refine ⟨vp_in_nI (by omega) (by decide), ?_⟩
        rw [nI_clamp (by omega)]
        conv => whnf
        simp only [insS] at hN
        rw [if_neg hc] at hN
        have h2 := ih (upd f (a + 1) (f a)) (by omega) (fun j hj => by
          by_cases e : j = a + 1
          · rw [e, pk_us]; exact hf a (by omega)
          · rw [pk_un e]; exact hf j hj) hN
        have hN2 := h2
        rw [← pk_m1 a] at hN2
        exact sub [0, 1, 2, 3] _ _ _ _ _ _ _ rfl hN2
  have loop := lp_up (fun i => 1 ≤ i → OK 0 0 2 [(0, .ref 13), (1, .int (nI i))] [] (wX (xa S 16 (srt (S.2.2.1 4) (S.2.2.1 16) i)))) m
    (fun _ => by
      refine run [2, 19] 60 _ _ _ _ _ _ ?_
      conv => whnf
      refine pk_le m m (fun h => ?_) (fun h => absurd h (by omega)) h4
      conv => whnf
      exact hG _ _ ⟨rfl, rfl⟩)
    (fun i hi ih h1 => by
      have hvi := srt_v (S.2.2.1 4) hv i (by omega)
      refine run [2, 19] 60 _ _ _ _ _ _ ?_
      conv => whnf
      refine pk_le m i (fun h => absurd h (by omega)) (fun h => ?_) h4
      conv => whnf
      refine ⟨vp_in_nI (by omega) (by decide), ?_⟩
      rw [nI_clamp (by omega)]
      conv => whnf
      exact inner i _ hi (hvi i hi) i _ (Nat.le_refl _) hvi (ih (by omega)))
  by_cases h0 : m = 0
  · subst h0
    refine run [] 60 _ _ _ _ _ _ ?_
    conv => whnf
    refine pk_le 0 1 (fun _ => ?_) (fun h => absurd h (by omega)) h4
    conv => whnf
    exact hG _ _ ⟨rfl, rfl⟩
  · refine run [2] 60 _ _ _ _ _ _ ?_
    conv => whnf
    have h2 := loop 1 (by omega) (Nat.le_refl 1)
    rw [hs1] at h2
    exact h2
theorem ct_X3_sortByTime (D : va_G) (dT : Nat → Nat) (l : Launch) : en_CT en_WD D vwCl dT l yX3_sortByTime cX3_sortByTime 4 (none) rm_X3_sortByTime f_X3_sortByTime := en_met en_WD1 en_WD2 (by decide) rfl rfl (tB_X3_sortByTime D dT l) (en_f_ln (fun _ => Nat.le_of_ble_eq_true rfl)) (en_f_bd bd_X3_sortByTime)
set_option maxRecDepth 100000 in
theorem mk_X3_sortByTime {D : va_G} {dT : Nat → Nat} {l : Launch} {R : Room} {s : State} {args : Array Value} {own : String} {idx : Nat} (h : en_WD s) (h1 : rm_X3_sortByTime.frames + 1 ≤ R.frames) (h2 : 8 + (4 + 11) + rm_X3_sortByTime.locals ≤ R.locals) (hl : (Jvm.Cond.methodLink own idx yX3_sortByTime).before args s = true ∨ ∃ host, (Jvm.Cond.methodLinkNest own idx yX3_sortByTime host).before args s = true) : en_mok en_WD D vwCl dT l R s args own (idx, 1, 5, 0, 0, f_X3_sortByTime) :=
  ⟨yX3_sortByTime, cX3_sortByTime, 4, none, rm_X3_sortByTime, 0, ct_X3_sortByTime D dT l, rfl, rfl, h1, h2, en_wd h 387 rfl rfl args, en_wd h 62 (by decide +kernel) rfl args, by decide, by decide, hl, ⟨RX3, TX3, 8, rfl, en_wd h 386 (by decide +kernel) rfl args, en_wd h 11 (by decide +kernel) rfl args, rfl⟩⟩
/-- rows of like times are joined: up to the i-th -/
def jn (T O : Nat → Int32) (pl : Nat → Int32) : Nat → (Nat → Int32)
  | 0 => pl
  | i + 1 => if T (tn (O (i + 1))) = T (tn (O i)) then upd (jn T O pl i) (tn (O (i + 1))) (jn T O pl i (tn (O i))) else jn T O pl i
def f_X3_joinLikeTimes := en_f (σ := Nat × Sx) (fun _ => [.ref 13]) (fun x => wX x.2) (fun x => x.1 ≤ 100 ∧ x.2.1 4 = nI x.1 ∧ vld (x.2.2.2.1 16) x.1 100) (fun x v w => v = none ∧ w = wX (xa x.2 15 (jn (x.2.2.2.1 4) (x.2.2.2.1 16) (x.2.2.2.1 15) (x.1 - 1))))
def rm_X3_joinLikeTimes : Room := { frames := 0, cells := 0, slots := 0, locals := 0 }
def t_X3_joinLikeTimes : en_T := ((2, 0, 0), tb_X3_joinLikeTimes, fl_X3, cn_X3, [], [], 0, none)
set_option maxRecDepth 100000 in
theorem tB_X3_joinLikeTimes (D : va_G) (dT : Nat → Nat) (l : Launch) : en_TB en_WD D vwCl dT l rm_X3_joinLikeTimes t_X3_joinLikeTimes RX3 "joinLikeTimes" cX3_joinLikeTimes := ⟨tk_X3_joinLikeTimes, fun s args meth h hn => ⟨fo_X3 h args meth, co_X3 h args, fun _ h => absurd h List.not_mem_nil, fun _ h => absurd h List.not_mem_nil, Or.inl rfl, en_arr h args⟩⟩
set_option maxHeartbeats 4000000 in
set_option maxRecDepth 100000 in
theorem bd_X3_joinLikeTimes : en_B (σ := Nat × Sx) t_X3_joinLikeTimes (fun _ => [.ref 13]) (fun x => wX x.2) (fun x => x.1 ≤ 100 ∧ x.2.1 4 = nI x.1 ∧ vld (x.2.2.2.1 16) x.1 100) (fun x v w => v = none ∧ w = wX (xa x.2 15 (jn (x.2.2.2.1 4) (x.2.2.2.1 16) (x.2.2.2.1 15) (x.1 - 1)))) := by
  rintro ⟨m, S⟩ ⟨hm, h4, hv⟩ G hG OK ⟨run, sub⟩
  dsimp only at hm h4 hv hG ⊢
  have loop := lp_up (fun i => 1 ≤ i → OK 0 0 2 [(0, .ref 13), (1, .int (nI i))] [] (wX (xa S 15 (jn (S.2.2.1 4) (S.2.2.1 16) (S.2.2.1 15) (i - 1))))) m
    (fun _ => by
      refine run [2] 60 _ _ _ _ _ _ ?_
      conv => whnf
      refine pk_le m m (fun h => ?_) (fun h => absurd h (by omega)) h4
      conv => whnf
      exact hG _ _ ⟨rfl, rfl⟩)
    (fun i hi ih h1 => by
      obtain ⟨q, rfl⟩ : ∃ q, i = q + 1 := ⟨i - 1, by omega⟩
      have ih : OK 0 0 2 [(0, .ref 13), (1, .int (nI (q + 1 + 1)))] [] (wX (xa S 15 (jn (S.2.2.1 4) (S.2.2.1 16) (S.2.2.1 15) (q + 1)))) := ih (by omega)
      show OK 0 0 2 [(0, .ref 13), (1, .int (nI (q + 1)))] [] (wX (xa S 15 (jn (S.2.2.1 4) (S.2.2.1 16) (S.2.2.1 15) q)))
      rw [nI_succ (q + 1)] at ih
      refine run [2] 60 _ _ _ _ _ _ ?_
      conv => whnf
      refine pk_le m (q + 1) (fun h => absurd h (by omega)) (fun h => ?_) h4
      conv => whnf
      refine ⟨vp_in_nI (by omega) (by decide), ?_⟩
      rw [nI_clamp (by omega)]
      conv => whnf
      refine ⟨vld_in hv (by omega) (by decide), ?_⟩
      conv => whnf
      rw [show nI (q + 1) - Int32.ofInt 1 = nI q from nI_pred q]
      refine ⟨vp_in_nI (by omega) (by decide), ?_⟩
      rw [nI_clamp (by omega)]
      conv => whnf
      refine ⟨vld_in hv (by omega) (by decide), ?_⟩
      conv => whnf
      simp only [jn] at ih
      refine ⟨fun hc => ?_, fun hc => ?_⟩
      · have hc : ¬ S.2.2.1 4 (tn (S.2.2.1 16 (q + 1))) = S.2.2.1 4 (tn (S.2.2.1 16 q)) := hc
        conv => whnf
        rw [if_neg hc] at ih
        exact ih
      · have hc : S.2.2.1 4 (tn (S.2.2.1 16 (q + 1))) = S.2.2.1 4 (tn (S.2.2.1 16 q)) := hc
        conv => whnf
        refine ⟨vp_in_nI (by omega) (by decide), ?_⟩
        rw [nI_clamp (by omega)]
        conv => whnf
        rw [show nI (q + 1) - Int32.ofInt 1 = nI q from nI_pred q]
        refine ⟨vp_in_nI (by omega) (by decide), ?_⟩
        rw [nI_clamp (by omega)]
        conv => whnf
        refine ⟨vld_in hv (by omega) (by decide), ?_⟩
        conv => whnf
        refine ⟨vld_in hv (by omega) (by decide), ?_⟩
        conv => whnf
        rw [if_pos hc] at ih
        exact ih)
  by_cases h0 : m = 0
  · subst h0
    refine run [] 60 _ _ _ _ _ _ ?_
    conv => whnf
    refine pk_le 0 1 (fun _ => ?_) (fun h => absurd h (by omega)) h4
    conv => whnf
    exact hG _ _ ⟨rfl, rfl⟩
  · refine run [2] 60 _ _ _ _ _ _ ?_
    conv => whnf
    exact loop 1 (by omega) (Nat.le_refl 1)
theorem ct_X3_joinLikeTimes (D : va_G) (dT : Nat → Nat) (l : Launch) : en_CT en_WD D vwCl dT l yX3_joinLikeTimes cX3_joinLikeTimes 2 (none) rm_X3_joinLikeTimes f_X3_joinLikeTimes := en_met en_WD1 en_WD2 (by decide) rfl rfl (tB_X3_joinLikeTimes D dT l) (en_f_ln (fun _ => Nat.le_of_ble_eq_true rfl)) (en_f_bd bd_X3_joinLikeTimes)
set_option maxRecDepth 100000 in
theorem mk_X3_joinLikeTimes {D : va_G} {dT : Nat → Nat} {l : Launch} {R : Room} {s : State} {args : Array Value} {own : String} {idx : Nat} (h : en_WD s) (h1 : rm_X3_joinLikeTimes.frames + 1 ≤ R.frames) (h2 : 8 + (2 + 11) + rm_X3_joinLikeTimes.locals ≤ R.locals) (hl : (Jvm.Cond.methodLink own idx yX3_joinLikeTimes).before args s = true ∨ ∃ host, (Jvm.Cond.methodLinkNest own idx yX3_joinLikeTimes host).before args s = true) : en_mok en_WD D vwCl dT l R s args own (idx, 1, 5, 0, 0, f_X3_joinLikeTimes) :=
  ⟨yX3_joinLikeTimes, cX3_joinLikeTimes, 2, none, rm_X3_joinLikeTimes, 0, ct_X3_joinLikeTimes D dT l, rfl, rfl, h1, h2, en_wd h 391 rfl rfl args, en_wd h 62 (by decide +kernel) rfl args, by decide, by decide, hl, ⟨RX3, TX3, 8, rfl, en_wd h 390 (by decide +kernel) rfl args, en_wd h 12 (by decide +kernel) rfl args, rfl⟩⟩
end
section
/-! SplitLeaks$Splitter: gaps -/
theorem in_of {x : Int32} {b : Nat} (hb : b < 2 ^ 31) (h : 0 ≤ x ∧ x < nI b) : ∃ j, j < b ∧ x = nI j := by
  rcases pk_ix x hb with h1 | h1 | h1
  · exact absurd h1 (Int32.not_lt.mpr h.1)
  · exact absurd h.2 (Int32.not_lt.mpr h1)
  · exact h1
theorem of_in {j b : Nat} (hj : j < b) (hb : b < 2 ^ 31) : 0 ≤ nI j ∧ nI j < nI b := ⟨nI_pos' (by omega), nI_lt hj hb⟩
/-- the latest time of each part, after r rows -/
def lat (T Pl : Nat → Int32) (old : Nat → Int32) : Nat → (Nat → Int32)
  | 0 => mx 4 (fun _ => -1) old
  | r + 1 => if (0 ≤ Pl r ∧ Pl r < 4) ∧ lat T Pl old r (tn (Pl r)) < T r then upd (lat T Pl old r) (tn (Pl r)) (T r) else lat T Pl old r
def f_X3_findLatest := en_f (σ := Nat × Sx) (fun _ => [.ref 13]) (fun x => wX x.2) (fun x => x.1 ≤ 100 ∧ x.2.1 1 = nI x.1) (fun x v w => v = none ∧ w = wX (xa x.2 18 (lat (x.2.2.2.1 4) (x.2.2.2.1 15) (x.2.2.2.1 18) x.1)))
def rm_X3_findLatest : Room := { frames := 1, cells := 0, slots := 0, locals := 21 }
def t_X3_findLatest : en_T := ((3, 0, 0), tb_X3_findLatest, fl_X3, cn_X3, [(146, 2, 0, 0, 0, f_X6_isWithin)], [], 0, none)
set_option maxRecDepth 100000 in
theorem tB_X3_findLatest (D : va_G) (dT : Nat → Nat) (l : Launch) : en_TB en_WD D vwCl dT l rm_X3_findLatest t_X3_findLatest RX3 "findLatest" cX3_findLatest := ⟨tk_X3_findLatest, fun s args meth h hn => ⟨fo_X3 h args meth, co_X3 h args, List.forall_mem_cons.mpr ⟨mk_X6_isWithin (own := RX3) h (Nat.le_of_ble_eq_true rfl) (Nat.le_of_ble_eq_true rfl) (Or.inr ⟨"SplitLeaks", en_wd h 396 (by decide +kernel) rfl args⟩), fun _ h => absurd h List.not_mem_nil⟩, fun _ h => absurd h List.not_mem_nil, Or.inl rfl, en_arr h args⟩⟩
set_option maxHeartbeats 4000000 in
set_option maxRecDepth 100000 in
theorem bd_X3_findLatest : en_B (σ := Nat × Sx) t_X3_findLatest (fun _ => [.ref 13]) (fun x => wX x.2) (fun x => x.1 ≤ 100 ∧ x.2.1 1 = nI x.1) (fun x v w => v = none ∧ w = wX (xa x.2 18 (lat (x.2.2.2.1 4) (x.2.2.2.1 15) (x.2.2.2.1 18) x.1))) := by
  rintro ⟨n, S⟩ ⟨hn, h1⟩ G hG OK ⟨run, sub⟩
  dsimp only at hn h1 hG ⊢
  have loop2 := lp_up (fun i => OK 0 0 22 [(0, .ref 13), (1, .int (nI i))] [] (wX (xa S 18 (lat (S.2.2.1 4) (S.2.2.1 15) (S.2.2.1 18) i)))) n
    (by
      refine run [22] 60 _ _ _ _ _ _ ?_
      conv => whnf
      refine pk_le n n (fun h => ?_) (fun h => absurd h (by omega)) h1
      conv => whnf
      exact hG _ _ ⟨rfl, rfl⟩)
    (fun i hi ih => by
      rw [nI_succ] at ih
      refine run [22] 60 _ _ _ _ _ _ ?_
      conv => whnf
      refine pk_le n i (fun h => absurd h (by omega)) (fun h => ?_) h1
      conv => whnf
      refine ⟨vp_in_nI (by omega) (by decide), ?_⟩
      rw [nI_clamp (by omega)]
      conv => whnf
      refine ⟨(S.2.2.1 15 i, 4, wX (xa S 18 (lat (S.2.2.1 4) (S.2.2.1 15) (S.2.2.1 18) i))), rfl, rfl, trivial, ?_⟩
      intro v u hvu
      obtain ⟨rfl, rfl⟩ : v = some (.int (bl (0 ≤ S.2.2.1 15 i ∧ S.2.2.1 15 i < 4))) ∧ u = wX (xa S 18 (lat (S.2.2.1 4) (S.2.2.1 15) (S.2.2.1 18) i)) := hvu
      simp only [lat] at ih
      conv => whnf
      refine bl_br (fun hc => ?_) (fun hc => ?_)
      · conv => whnf
        rw [if_neg (fun z => hc z.1)] at ih
        exact sub [0, 1] _ _ _ _ _ _ _ rfl ih
      · obtain ⟨c, hc4, hcc⟩ := in_of (b := 4) (by decide) hc
        have hin : vp_in (S.2.2.1 15 i) 4 := by rw [hcc]; exact vp_in_nI hc4 (by decide)
        conv => whnf
        refine ⟨vp_in_nI (by omega) (by decide), ?_⟩
        rw [nI_clamp (by omega)]
        conv => whnf
        refine ⟨hin, ?_⟩
        conv => whnf
        refine ⟨fun hd => ?_, fun hd => ?_⟩
        · have hd : S.2.2.1 4 i ≤ lat (S.2.2.1 4) (S.2.2.1 15) (S.2.2.1 18) i (tn (S.2.2.1 15 i)) := hd
          conv => whnf
          rw [if_neg (fun z => absurd z.2 (Int32.not_lt.mpr hd))] at ih
          exact sub [0, 1] _ _ _ _ _ _ _ rfl ih
        · have hd : ¬ S.2.2.1 4 i ≤ lat (S.2.2.1 4) (S.2.2.1 15) (S.2.2.1 18) i (tn (S.2.2.1 15 i)) := hd
          conv => whnf
          refine ⟨vp_in_nI (by omega) (by decide), ?_⟩
          rw [nI_clamp (by omega)]
          conv => whnf
          refine ⟨hin, ?_⟩
          conv => whnf
          rw [if_pos ⟨hc, Int32.not_le.mp hd⟩] at ih
          exact sub [0, 1] _ _ _ _ _ _ _ rfl ih)
  have loop1 := lp_up (fun p => OK 0 0 2 [(0, .ref 13), (1, .int (nI p))] [] (wX (xa S 18 (mx p (fun _ => -1) (S.2.2.1 18))))) 4
    (by
      refine run [2, 22] 60 _ _ _ _ _ _ ?_
      conv => whnf
      refine pk_le 4 4 (fun h => ?_) (fun h => absurd h (by omega))
      conv => whnf
      exact loop2 0 (by omega))
    (fun p hp ih => by
      rw [nI_succ, ← mx_s] at ih
      refine run [2, 22] 60 _ _ _ _ _ _ ?_
      conv => whnf
      refine pk_le 4 p (fun h => absurd h (by omega)) (fun h => ?_)
      conv => whnf
      refine ⟨vp_in_nI (by omega) (by decide), ?_⟩
      rw [nI_clamp (by omega)]
      conv => whnf
      exact ih)
  refine run [2] 60 _ _ _ _ _ _ ?_
  conv => whnf
  have h0 := loop1 0 (by omega)
  rw [mx_0] at h0
  exact h0
theorem ct_X3_findLatest (D : va_G) (dT : Nat → Nat) (l : Launch) : en_CT en_WD D vwCl dT l yX3_findLatest cX3_findLatest 3 (none) rm_X3_findLatest f_X3_findLatest := en_met en_WD1 en_WD2 (by decide) rfl rfl (tB_X3_findLatest D dT l) (en_f_ln (fun _ => Nat.le_of_ble_eq_true rfl)) (en_f_bd bd_X3_findLatest)
set_option maxRecDepth 100000 in
theorem mk_X3_findLatest {D : va_G} {dT : Nat → Nat} {l : Launch} {R : Room} {s : State} {args : Array Value} {own : String} {idx : Nat} (h : en_WD s) (h1 : rm_X3_findLatest.frames + 1 ≤ R.frames) (h2 : 8 + (3 + 11) + rm_X3_findLatest.locals ≤ R.locals) (hl : (Jvm.Cond.methodLink own idx yX3_findLatest).before args s = true ∨ ∃ host, (Jvm.Cond.methodLinkNest own idx yX3_findLatest host).before args s = true) : en_mok en_WD D vwCl dT l R s args own (idx, 1, 5, 0, 0, f_X3_findLatest) :=
  ⟨yX3_findLatest, cX3_findLatest, 3, none, rm_X3_findLatest, 0, ct_X3_findLatest D dT l, rfl, rfl, h1, h2, en_wd h 395 rfl rfl args, en_wd h 62 (by decide +kernel) rfl args, by decide, by decide, hl, ⟨RX3, TX3, 8, rfl, en_wd h 394 (by decide +kernel) rfl args, en_wd h 13 (by decide +kernel) rfl args, rfl⟩⟩
def f_X3_isInGap := en_f (σ := Nat × Int32 × Nat × Sx) (fun x => [.ref 13, .int (nI x.1), .int x.2.1]) (fun x => wX x.2.2.2) (fun x => x.1 < 100 ∧ x.2.2.1 ≤ 4 ∧ x.2.2.2.2.2.1 15 x.1 = nI x.2.2.1) (fun x v w => v = some (.int (bl (fs (fun p => x.2.2.2.2.2.1 18 p ≠ -1 ∧ x.2.2.2.2.2.1 4 x.1 < x.2.2.2.2.2.1 18 p + x.2.1) x.2.2.1 ≠ none))) ∧ w = wX x.2.2.2)
def rm_X3_isInGap : Room := { frames := 0, cells := 0, slots := 0, locals := 0 }
def t_X3_isInGap : en_T := ((4, 0, 0), tb_X3_isInGap, fl_X3, cn_X3, [], [], 0, some .boolean)
set_option maxRecDepth 100000 in
theorem tB_X3_isInGap (D : va_G) (dT : Nat → Nat) (l : Launch) : en_TB en_WD D vwCl dT l rm_X3_isInGap t_X3_isInGap RX3 "isInGap" cX3_isInGap := ⟨tk_X3_isInGap, fun s args meth h hn => ⟨fo_X3 h args meth, co_X3 h args, fun _ h => absurd h List.not_mem_nil, fun _ h => absurd h List.not_mem_nil, Or.inl rfl, en_arr h args⟩⟩
set_option maxHeartbeats 4000000 in
set_option maxRecDepth 100000 in
theorem bd_X3_isInGap : en_B (σ := Nat × Int32 × Nat × Sx) t_X3_isInGap (fun x => [.ref 13, .int (nI x.1), .int x.2.1]) (fun x => wX x.2.2.2) (fun x => x.1 < 100 ∧ x.2.2.1 ≤ 4 ∧ x.2.2.2.2.2.1 15 x.1 = nI x.2.2.1) (fun x v w => v = some (.int (bl (fs (fun p => x.2.2.2.2.2.1 18 p ≠ -1 ∧ x.2.2.2.2.2.1 4 x.1 < x.2.2.2.2.2.1 18 p + x.2.1) x.2.2.1 ≠ none))) ∧ w = wX x.2.2.2) := by
  rintro ⟨r, g, c, S⟩ ⟨hr, hc, h15⟩ G hG OK ⟨run, sub⟩
  dsimp only at hr hc h15 hG ⊢
  have loop := lp_up (fun i => fs (fun p => S.2.2.1 18 p ≠ -1 ∧ S.2.2.1 4 r < S.2.2.1 18 p + g) i = none → OK 0 0 2 [(0, .ref 13), (1, .int (nI r)), (2, .int g), (3, .int (nI i))] [] (wX S)) c
    (fun hf => by
      refine run [2] 60 _ _ _ _ _ _ ?_
      conv => whnf
      refine ⟨vp_in_nI (by omega) (by decide), ?_⟩
      rw [nI_clamp (by omega)]
      conv => whnf
      refine pk_le c c (fun h => ?_) (fun h => absurd h (by omega)) h15
      conv => whnf
      exact ⟨rfl, hG _ _ ⟨bl_af (fun z => z hf) rfl, rfl⟩⟩)
    (fun i hi ih hf => by
      rw [nI_succ] at ih
      refine run [2] 60 _ _ _ _ _ _ ?_
      conv => whnf
      refine ⟨vp_in_nI (by omega) (by decide), ?_⟩
      rw [nI_clamp (by omega)]
      conv => whnf
      refine pk_le c i (fun h => absurd h (by omega)) (fun h => ?_) h15
      conv => whnf
      refine ⟨vp_in_nI (by omega) (by decide), ?_⟩
      rw [nI_clamp (by omega)]
      conv => whnf
      refine ⟨fun hp => ?_, fun hp => ?_⟩
      · conv => whnf
        exact ih (fs_f hf (fun z => z.1 hp))
      · conv => whnf
        refine ⟨vp_in_nI (by omega) (by decide), ?_⟩
        rw [nI_clamp (by omega)]
        conv => whnf
        refine ⟨vp_in_nI (by omega) (by decide), ?_⟩
        rw [nI_clamp (by omega)]
        conv => whnf
        refine ⟨fun hq => ?_, fun hq => ?_⟩
        · conv => whnf
          exact ih (fs_f hf (fun z => absurd z.2 (Int32.not_lt.mpr hq)))
        · conv => whnf
          have := fs_s (fs_t (p := fun p => S.2.2.1 18 p ≠ -1 ∧ S.2.2.1 4 r < S.2.2.1 18 p + g) hf ⟨hp, Int32.not_le.mp hq⟩) c (by omega)
          exact ⟨rfl, hG _ _ ⟨bl_at (fun z => by rw [this] at z; cases z) rfl, rfl⟩⟩)
  refine run [2] 60 _ _ _ _ _ _ ?_
  conv => whnf
  exact loop 0 (by omega) rfl
theorem ct_X3_isInGap (D : va_G) (dT : Nat → Nat) (l : Launch) : en_CT en_WD D vwCl dT l yX3_isInGap cX3_isInGap 4 (some .boolean) rm_X3_isInGap f_X3_isInGap := en_met en_WD1 en_WD2 (by decide) rfl rfl (tB_X3_isInGap D dT l) (en_f_ln (fun _ => Nat.le_of_ble_eq_true rfl)) (en_f_bd bd_X3_isInGap)
set_option maxRecDepth 100000 in
theorem mk_X3_isInGap {D : va_G} {dT : Nat → Nat} {l : Launch} {R : Room} {s : State} {args : Array Value} {own : String} {idx : Nat} (h : en_WD s) (h1 : rm_X3_isInGap.frames + 1 ≤ R.frames) (h2 : 8 + (4 + 11) + rm_X3_isInGap.locals ≤ R.locals) (hl : (Jvm.Cond.methodLink own idx yX3_isInGap).before args s = true ∨ ∃ host, (Jvm.Cond.methodLinkNest own idx yX3_isInGap host).before args s = true) : en_mok en_WD D vwCl dT l R s args own (idx, 3, 5, 0, 0, f_X3_isInGap) :=
  ⟨yX3_isInGap, cX3_isInGap, 4, some .boolean, rm_X3_isInGap, 2, ct_X3_isInGap D dT l, rfl, rfl, h1, h2, en_wd h 400 rfl rfl args, en_wd h 62 (by decide +kernel) rfl args, by decide, by decide, hl, ⟨RX3, TX3, 8, rfl, en_wd h 399 (by decide +kernel) rfl args, en_wd h 14 (by decide +kernel) rfl args, rfl⟩⟩
end
section
/-! pure: things that cover all rows; what is dealt -/
def cov (O : Nat → Int32) (n : Nat) : Prop := ∀ r, r < n → ∃ i, i < n ∧ O i = nI r
theorem mx_cov {n : Nat} {old : Nat → Int32} : cov (mx n nI old) n := fun r hr => ⟨r, hr, mx_lt hr⟩
theorem shf_top : ∀ (t : Nat) (z : Int64) (f : Nat → Int32) (i : Nat), t < i → (shf t z f).2 i = f i
  | 0, z, f, i, hi => rfl
  | t + 1, z, f, i, hi => by
    have hd := dw_lt (z := nz z) (n := t + 2) (by omega)
    show (shf t (nz z) (upd (upd f (t + 1) (f (dw (nz z) (t + 2)))) (dw (nz z) (t + 2)) (f (t + 1)))).2 i = f i
    rw [shf_top t (nz z) _ i (by omega), pk_un (by omega), pk_un (by omega)]
theorem shf_cov : ∀ (t : Nat) (z : Int64) (f : Nat → Int32) (j : Nat), j ≤ t → ∃ i, i ≤ t ∧ (shf t z f).2 i = f j
  | 0, z, f, j, hj => ⟨j, hj, rfl⟩
  | t + 1, z, f, j, hj => by
    have hd := dw_lt (z := nz z) (n := t + 2) (by omega)
    show ∃ i, i ≤ t + 1 ∧ (shf t (nz z) (upd (upd f (t + 1) (f (dw (nz z) (t + 2)))) (dw (nz z) (t + 2)) (f (t + 1)))).2 i = f j
    generalize dw (nz z) (t + 2) = d at hd ⊢
    have key : ∃ q, q ≤ t + 1 ∧ upd (upd f (t + 1) (f d)) d (f (t + 1)) q = f j := by
      by_cases e : j = t + 1
      · exact ⟨d, by omega, by rw [pk_us, e]⟩
      · by_cases e2 : j = d
        · refine ⟨t + 1, by omega, ?_⟩
          rw [pk_un (by omega), pk_us, e2]
        · exact ⟨j, by omega, by rw [pk_un e2, pk_un e]⟩
    obtain ⟨q, hq, h⟩ := key
    by_cases e : q ≤ t
    · obtain ⟨i, hi, h2⟩ := shf_cov t (nz z) (upd (upd f (t + 1) (f d)) d (f (t + 1))) q e
      exact ⟨i, by omega, h2.trans h⟩
    · have : q = t + 1 := by omega
      subst this
      exact ⟨t + 1, by omega, (shf_top t (nz z) _ (t + 1) (by omega)).trans h⟩
theorem shm_cov {m : Nat} {z : Int64} {f : Nat → Int32} {j : Nat} (hj : j < m) : ∃ i, i < m ∧ (shm m z f).2 i = f j := by
  obtain ⟨i, hi, h⟩ := shf_cov (m - 1) z f j (by omega)
  exact ⟨i, by omega, h⟩
theorem insS_cov (T : Nat → Int32) {row : Int32} : ∀ (a : Nat) (f : Nat → Int32), (∃ i, i ≤ a ∧ insS T row a f i = row) ∧ ∀ j, j < a → ∃ i, i ≤ a ∧ insS T row a f i = f j
  | 0, f => ⟨⟨0, Nat.le_refl 0, pk_us⟩, fun j hj => by omega⟩
  | a + 1, f => by
    simp only [insS]
    split
    · refine ⟨⟨a + 1, Nat.le_refl _, pk_us⟩, fun j hj => ⟨j, by omega, pk_un (by omega)⟩⟩
    · obtain ⟨⟨i, hi, h1⟩, h2⟩ := insS_cov T (row := row) a (upd f (a + 1) (f a))
      refine ⟨⟨i, by omega, h1⟩, fun j hj => ?_⟩
      by_cases e : j = a
      · refine ⟨a + 1, Nat.le_refl _, ?_⟩
        rw [insS_hi T a (upd f (a + 1) (f a)) (a + 1) (by omega), pk_us, e]
      · obtain ⟨q, hq, h3⟩ := h2 j (by omega)
        rw [pk_un (by omega)] at h3
        exact ⟨q, by omega, h3⟩
where
  insS_hi (T : Nat → Int32) {row : Int32} : ∀ (a : Nat) (f : Nat → Int32) (i : Nat), a < i → insS T row a f i = f i
  | 0, f, i, h => pk_un (by omega)
  | a + 1, f, i, h => by
    simp only [insS]
    split
    · exact pk_un (by omega)
    · rw [insS_hi T a _ i (by omega), pk_un (by omega)]
theorem srt_hi (T : Nat → Int32) (f : Nat → Int32) : ∀ (i j : Nat), i ≤ j → srt T f i j = f j
  | 0, j, _ => rfl
  | i + 1, j, h => by
    show insS T (srt T f i i) i (srt T f i) j = f j
    rw [insS_cov.insS_hi T i _ j (by omega), srt_hi T f i j (by omega)]
theorem srt_cov (T : Nat → Int32) (f : Nat → Int32) : ∀ (m j : Nat), j < m → ∃ i, i < m ∧ srt T f m i = f j
  | 0, j, h => by omega
  | m + 1, j, h => by
    show ∃ i, i < m + 1 ∧ insS T (srt T f m m) m (srt T f m) i = f j
    obtain ⟨⟨i, hi, h1⟩, h2⟩ := insS_cov T (row := srt T f m m) m (srt T f m)
    by_cases e : j = m
    · refine ⟨i, by omega, ?_⟩
      rw [h1, srt_hi T f m m (Nat.le_refl _), e]
    · obtain ⟨q, hq, h3⟩ := srt_cov T f m j (by omega)
      obtain ⟨i2, hi2, h4⟩ := h2 q hq
      exact ⟨i2, by omega, h4.trans h3⟩
/-- what is dealt to a thing that is there -/
theorem dl_hit {O g old : Nat → Int32} : ∀ {m r : Nat}, (∃ i, i < m ∧ tn (O i) = r) → ∃ i, i < m ∧ dl O g old m r = g i
  | 0, r, ⟨i, hi, _⟩ => by omega
  | m + 1, r, ⟨i, hi, e⟩ => by
    by_cases e2 : r = tn (O m)
    · refine ⟨m, by omega, ?_⟩
      show upd (dl O g old m) (tn (O m)) (g m) r = g m
      rw [e2, pk_us]
    · have hi2 : i ≠ m := fun z => e2 (by rw [← e, z])
      obtain ⟨q, hq, h⟩ := dl_hit (O := O) (g := g) (old := old) (m := m) ⟨i, by omega, e⟩
      refine ⟨q, by omega, ?_⟩
      show upd (dl O g old m) (tn (O m)) (g m) r = g q
      rw [pk_un e2, h]
theorem dl_not {O g old : Nat → Int32} : ∀ {m r : Nat}, (∀ i, i < m → tn (O i) ≠ r) → dl O g old m r = old r
  | 0, r, _ => rfl
  | m + 1, r, h => by
    show upd (dl O g old m) (tn (O m)) (g m) r = old r
    rw [pk_un (fun z => h m (by omega) z.symm), dl_not (fun i hi => h i (by omega))]
/-- what is dealt hangs on the things alone -/
theorem dl_c {O O' g g' old old' : Nat → Int32} : ∀ {m r : Nat}, (∀ i, i < m → O i = O' i ∧ g i = g' i) → ((∃ i, i < m ∧ tn (O i) = r) ∨ old r = old' r) → dl O g old m r = dl O' g' old' m r
  | 0, r, _, h => by
    rcases h with ⟨i, hi, _⟩ | h
    · omega
    · exact h
  | m + 1, r, hO, h => by
    show upd (dl O g old m) (tn (O m)) (g m) r = upd (dl O' g' old' m) (tn (O' m)) (g' m) r
    rw [← (hO m (by omega)).1, ← (hO m (by omega)).2]
    by_cases e : r = tn (O m)
    · rw [e, pk_us, pk_us]
    · rw [pk_un e, pk_un e]
      refine dl_c (fun i hi => hO i (by omega)) ?_
      rcases h with ⟨i, hi, h⟩ | h
      · exact Or.inl ⟨i, by
          have : i ≠ m := fun z => e (by rw [← h, z])
          omega, h⟩
      · exact Or.inr h
theorem pt_lt {q : Nat → Nat} {a : Nat} : ∀ {k : Nat}, 0 < k → pt q a k < k
  | 0, h => by omega
  | k + 1, _ => by
    show (if sm q k ≤ a then k else pt q a k) < k + 1
    split
    · omega
    · by_cases h : 0 < k
      · have := pt_lt (q := q) (a := a) h
        omega
      · have : k = 0 := by omega
        subst this
        exact Nat.lt_succ_self 0
/-- joined rows are in parts that were dealt -/
theorem jn_in {T O pl : Nat → Int32} {P : Int32 → Prop} {n : Nat} (h : ∀ r, r < n → P (pl r)) : ∀ i, (∀ j, j ≤ i → tn (O j) < n) → ∀ r, r < n → P (jn T O pl i r)
  | 0, _, r, hr => h r hr
  | i + 1, hO, r, hr => by
    have ih := jn_in (T := T) (O := O) h i (fun j hj => hO j (by omega))
    show P ((if T (tn (O (i + 1))) = T (tn (O i)) then upd (jn T O pl i) (tn (O (i + 1))) (jn T O pl i (tn (O i))) else jn T O pl i) r)
    split
    · by_cases e : r = tn (O (i + 1))
      · rw [e, pk_us]; exact ih _ (hO i (by omega))
      · rw [pk_un e]; exact ih r hr
    · exact ih r hr
end
section
/-! SplitLeaks$Splitter: the plans -/
/-- the plain split: what is planned -/
def PL0 (w : Nat → Nat) (W k n : Nat) (z : Int64) (o16 o15 : Nat → Int32) : Nat → Int32 := dl (shm n z (mx n nI o16)).2 (fun a => nI (pt (qf w W k n) a k)) o15 n
/-- what stays while a plan is made -/
def kept (S S' : Sx) : Prop := (∀ j, j ≠ 4 → S'.1 j = S.1 j) ∧ (∀ a, a ≠ 11 → a ≠ 12 → a ≠ 15 → a ≠ 16 → a ≠ 17 → a ≠ 18 → S'.2.2.1 a = S.2.2.1 a) ∧ S'.2.2.2 = S.2.2.2
theorem kept_rf (S : Sx) : kept S S := ⟨fun _ _ => rfl, fun _ _ _ _ _ _ _ => rfl, rfl⟩
theorem kept_tr {S T U : Sx} (h : kept S T) (g : kept T U) : kept S U := ⟨fun j hj => (g.1 j hj).trans (h.1 j hj), fun a a1 a2 a3 a4 a5 a6 => (g.2.1 a a1 a2 a3 a4 a5 a6).trans (h.2.1 a a1 a2 a3 a4 a5 a6), g.2.2.trans h.2.2⟩
theorem kept_i {S : Sx} {v : Int32} : kept S (xi S 4 v) := ⟨fun j hj => if_neg hj, fun _ _ _ _ _ _ _ => rfl, rfl⟩
theorem kept_z {S : Sx} {v : Int64} : kept S (xz S v) := ⟨fun _ _ => rfl, fun _ _ _ _ _ _ _ => rfl, rfl⟩
theorem kept_a {S : Sx} {k : Nat} {f : Nat → Int32} (h : k = 11 ∨ k = 12 ∨ k = 15 ∨ k = 16 ∨ k = 17 ∨ k = 18) : kept S (xa S k f) := ⟨fun _ _ => rfl, fun a a1 a2 a3 a4 a5 a6 => if_neg (by omega), rfl⟩
/-- the weights of the world -/
def wgt (S : Sx) (w : Nat → Nat) (W k : Nat) : Prop := wok w W k ∧ S.1 2 = nI k ∧ S.1 3 = nI W ∧ ∀ j, j < k → S.2.2.1 10 j = nI (w j)
theorem wgt_k {S S' : Sx} {w : Nat → Nat} {W k : Nat} (h : wgt S w W k) (g : kept S S') : wgt S' w W k :=
  ⟨h.1, (g.1 2 (by decide)).trans h.2.1, (g.1 3 (by decide)).trans h.2.2.1, fun j hj => by rw [g.2.1 10 (by decide) (by decide) (by decide) (by decide) (by decide) (by decide)]; exact h.2.2.2 j hj⟩
def f_X3_planPlain := en_f (σ := (Nat → Nat) × Nat × Nat × Nat × Sx) (fun _ => [.ref 13]) (fun x => wX x.2.2.2.2) (fun x => wgt x.2.2.2.2 x.1 x.2.1 x.2.2.1 ∧ x.2.2.2.1 ≤ 100 ∧ x.2.2.2.2.1 1 = nI x.2.2.2.1) (fun x v w => v = none ∧ ∃ S', w = wX S' ∧ kept x.2.2.2.2 S' ∧ S'.2.2.1 15 = PL0 x.1 x.2.1 x.2.2.1 x.2.2.2.1 x.2.2.2.2.2.1 (x.2.2.2.2.2.2.1 16) (x.2.2.2.2.2.2.1 15))
def rm_X3_planPlain : Room := { frames := 3, cells := 0, slots := 0, locals := 69 }
def t_X3_planPlain : en_T := ((1, 0, 0), tb_X3_planPlain, fl_X3, cn_X3, [(79, 1, 5, 0, 0, f_X3_gatherAll), (82, 3, 2, 0, 0, f_X0_shuffle), (86, 1, 5, 0, 0, f_X3_fillByQuotas)], [], 0, none)
set_option maxRecDepth 100000 in
theorem tB_X3_planPlain (D : va_G) (dT : Nat → Nat) (l : Launch) : en_TB en_WD D vwCl dT l rm_X3_planPlain t_X3_planPlain RX3 "planPlain" cX3_planPlain := ⟨tk_X3_planPlain, fun s args meth h hn => ⟨fo_X3 h args meth, co_X3 h args, List.forall_mem_cons.mpr ⟨mk_X3_gatherAll (own := RX3) h (Nat.le_of_ble_eq_true rfl) (Nat.le_of_ble_eq_true rfl) (Or.inl (en_wd h 337 (by decide +kernel) rfl args)), List.forall_mem_cons.mpr ⟨mk_X0_shuffle (own := RX3) h (Nat.le_of_ble_eq_true rfl) (Nat.le_of_ble_eq_true rfl) (Or.inl (en_wd h 341 (by decide +kernel) rfl args)), List.forall_mem_cons.mpr ⟨mk_X3_fillByQuotas (own := RX3) h (Nat.le_of_ble_eq_true rfl) (Nat.le_of_ble_eq_true rfl) (Or.inl (en_wd h 351 (by decide +kernel) rfl args)), fun _ h => absurd h List.not_mem_nil⟩⟩⟩, fun _ h => absurd h List.not_mem_nil, Or.inl rfl, en_arr h args⟩⟩
set_option maxHeartbeats 4000000 in
set_option maxRecDepth 100000 in
theorem bd_X3_planPlain : en_B (σ := (Nat → Nat) × Nat × Nat × Nat × Sx) t_X3_planPlain (fun _ => [.ref 13]) (fun x => wX x.2.2.2.2) (fun x => wgt x.2.2.2.2 x.1 x.2.1 x.2.2.1 ∧ x.2.2.2.1 ≤ 100 ∧ x.2.2.2.2.1 1 = nI x.2.2.2.1) (fun x v w => v = none ∧ ∃ S', w = wX S' ∧ kept x.2.2.2.2 S' ∧ S'.2.2.1 15 = PL0 x.1 x.2.1 x.2.2.1 x.2.2.2.1 x.2.2.2.2.2.1 (x.2.2.2.2.2.2.1 16) (x.2.2.2.2.2.2.1 15)) := by
  rintro ⟨w, W, k, n, S⟩ ⟨hwg, hn, h1⟩ G hG OK ⟨run, sub⟩
  dsimp only at hwg hn h1 hG ⊢
  obtain ⟨hok, hk, hW, hw⟩ := hwg
  refine run [] 60 _ _ _ _ _ _ ?_
  conv => whnf
  refine ⟨(n, S), rfl, rfl, ⟨hn, h1⟩, ?_⟩
  intro v u hvu
  obtain ⟨rfl, rfl⟩ : v = none ∧ u = wX (xi (xa S 16 (mx n nI (S.2.2.1 16))) 4 (nI n)) := hvu
  conv => whnf
  refine ⟨(n, xi (xa S 16 (mx n nI (S.2.2.1 16))) 4 (nI n)), rfl, rfl, hn, ?_⟩
  intro v u hvu
  obtain ⟨rfl, rfl⟩ : v = none ∧ u = wX (xa (xz (xi (xa S 16 (mx n nI (S.2.2.1 16))) 4 (nI n)) (shm n S.2.1 (mx n nI (S.2.2.1 16))).1) 16 (shm n S.2.1 (mx n nI (S.2.2.1 16))).2) := hvu
  have hv := shm_v (z := S.2.1) (mx_v (n := n) (b := 100) hn (old := S.2.2.1 16))
  unfold PL0 at hG
  generalize shm n S.2.1 (mx n nI (S.2.2.1 16)) = Z at hv hG ⊢
  conv => whnf
  refine ⟨(w, W, k, n, xa (xz (xi (xa S 16 (mx n nI (S.2.2.1 16))) 4 (nI n)) Z.1) 16 Z.2), rfl, rfl, ⟨hok, hn, hk, hW, hw, rfl, hv⟩, ?_⟩
  rintro v u ⟨hv0, q, r, hu⟩
  obtain rfl : v = none := hv0
  obtain rfl : u = wX (xa (xa (xa (xa (xz (xi (xa S 16 (mx n nI (S.2.2.1 16))) 4 (nI n)) Z.1) 16 Z.2) 11 q) 12 r) 15 (dl Z.2 (fun a => nI (pt (qf w W k n) a k)) (S.2.2.1 15) n)) := hu
  conv => whnf
  exact hG _ _ ⟨rfl, _, rfl, kept_tr (kept_tr (kept_tr (kept_tr (kept_tr (kept_tr (kept_a (by omega)) kept_i) kept_z) (kept_a (by omega))) (kept_a (by omega))) (kept_a (by omega))) (kept_a (by omega)), rfl⟩
theorem ct_X3_planPlain (D : va_G) (dT : Nat → Nat) (l : Launch) : en_CT en_WD D vwCl dT l yX3_planPlain cX3_planPlain 1 (none) rm_X3_planPlain f_X3_planPlain := en_met en_WD1 en_WD2 (by decide) rfl rfl (tB_X3_planPlain D dT l) (en_f_ln (fun _ => Nat.le_of_ble_eq_true rfl)) (en_f_bd bd_X3_planPlain)
set_option maxRecDepth 100000 in
theorem mk_X3_planPlain {D : va_G} {dT : Nat → Nat} {l : Launch} {R : Room} {s : State} {args : Array Value} {own : String} {idx : Nat} (h : en_WD s) (h1 : rm_X3_planPlain.frames + 1 ≤ R.frames) (h2 : 8 + (1 + 11) + rm_X3_planPlain.locals ≤ R.locals) (hl : (Jvm.Cond.methodLink own idx yX3_planPlain).before args s = true ∨ ∃ host, (Jvm.Cond.methodLinkNest own idx yX3_planPlain host).before args s = true) : en_mok en_WD D vwCl dT l R s args own (idx, 1, 5, 0, 0, f_X3_planPlain) :=
  ⟨yX3_planPlain, cX3_planPlain, 1, none, rm_X3_planPlain, 0, ct_X3_planPlain D dT l, rfl, rfl, h1, h2, en_wd h 336 rfl rfl args, en_wd h 62 (by decide +kernel) rfl args, by decide, by decide, hl, ⟨RX3, TX3, 8, rfl, en_wd h 335 (by decide +kernel) rfl args, en_wd h 1 (by decide +kernel) rfl args, rfl⟩⟩
end
section
/-! SplitLeaks$Splitter: by labels, folds, nested -/
theorem kept1 {S S' : Sx} (h : kept S S') : S'.1 1 = S.1 1 := h.1 1 (by decide)
theorem keptA {S S' : Sx} (h : kept S S') {a : Nat} (h1 : a < 11) : S'.2.2.1 a = S.2.2.1 a := h.2.1 a (by omega) (by omega) (by omega) (by omega) (by omega) (by omega)
/-- label by label: z, the things, what is planned -/
def lst (Lb : Nat → Int32) (w : Nat → Nat) (W k n : Nat) (z : Int64) (o16 o15 : Nat → Int32) : Nat → Int64 × (Nat → Int32) × (Nat → Int32)
  | 0 => (z, o16, o15)
  | l + 1 =>
    ((shm (ct (fun r => Lb r = nI l) n) (lst Lb w W k n z o16 o15 l).1 (sel (fun r => Lb r = nI l) (lst Lb w W k n z o16 o15 l).2.1 n)).1,
     (shm (ct (fun r => Lb r = nI l) n) (lst Lb w W k n z o16 o15 l).1 (sel (fun r => Lb r = nI l) (lst Lb w W k n z o16 o15 l).2.1 n)).2,
     dl (shm (ct (fun r => Lb r = nI l) n) (lst Lb w W k n z o16 o15 l).1 (sel (fun r => Lb r = nI l) (lst Lb w W k n z o16 o15 l).2.1 n)).2 (fun a => nI (pt (qf w W k (ct (fun r => Lb r = nI l) n)) a k)) (lst Lb w W k n z o16 o15 l).2.2 (ct (fun r => Lb r = nI l) n))
theorem vld_mono {f : Nat → Int32} {m b c : Nat} (h : vld f m b) (hc : b ≤ c) : vld f m c := fun i hi => by
  obtain ⟨r, hr, e⟩ := h i hi
  exact ⟨r, by omega, e⟩
def f_X3_planLabels := en_f (σ := (Nat → Nat) × Nat × Nat × Nat × Sx) (fun _ => [.ref 13]) (fun x => wX x.2.2.2.2) (fun x => wgt x.2.2.2.2 x.1 x.2.1 x.2.2.1 ∧ x.2.2.2.1 ≤ 100 ∧ x.2.2.2.2.1 1 = nI x.2.2.2.1) (fun x v w => v = none ∧ ∃ S', w = wX S' ∧ kept x.2.2.2.2 S' ∧ S'.2.2.1 15 = (lst (x.2.2.2.2.2.2.1 3) x.1 x.2.1 x.2.2.1 x.2.2.2.1 x.2.2.2.2.2.1 (x.2.2.2.2.2.2.1 16) (x.2.2.2.2.2.2.1 15) 5).2.2)
def rm_X3_planLabels : Room := { frames := 3, cells := 0, slots := 0, locals := 69 }
def t_X3_planLabels : en_T := ((2, 0, 0), tb_X3_planLabels, fl_X3, cn_X3, [(68, 2, 5, 0, 0, f_X3_gatherLabel), (82, 3, 2, 0, 0, f_X0_shuffle), (86, 1, 5, 0, 0, f_X3_fillByQuotas)], [], 0, none)
set_option maxRecDepth 100000 in
theorem tB_X3_planLabels (D : va_G) (dT : Nat → Nat) (l : Launch) : en_TB en_WD D vwCl dT l rm_X3_planLabels t_X3_planLabels RX3 "planLabels" cX3_planLabels := ⟨tk_X3_planLabels, fun s args meth h hn => ⟨fo_X3 h args meth, co_X3 h args, List.forall_mem_cons.mpr ⟨mk_X3_gatherLabel (own := RX3) h (Nat.le_of_ble_eq_true rfl) (Nat.le_of_ble_eq_true rfl) (Or.inl (en_wd h 405 (by decide +kernel) rfl args)), List.forall_mem_cons.mpr ⟨mk_X0_shuffle (own := RX3) h (Nat.le_of_ble_eq_true rfl) (Nat.le_of_ble_eq_true rfl) (Or.inl (en_wd h 341 (by decide +kernel) rfl args)), List.forall_mem_cons.mpr ⟨mk_X3_fillByQuotas (own := RX3) h (Nat.le_of_ble_eq_true rfl) (Nat.le_of_ble_eq_true rfl) (Or.inl (en_wd h 351 (by decide +kernel) rfl args)), fun _ h => absurd h List.not_mem_nil⟩⟩⟩, fun _ h => absurd h List.not_mem_nil, Or.inl rfl, en_arr h args⟩⟩
set_option maxHeartbeats 4000000 in
set_option maxRecDepth 100000 in
theorem bd_X3_planLabels : en_B (σ := (Nat → Nat) × Nat × Nat × Nat × Sx) t_X3_planLabels (fun _ => [.ref 13]) (fun x => wX x.2.2.2.2) (fun x => wgt x.2.2.2.2 x.1 x.2.1 x.2.2.1 ∧ x.2.2.2.1 ≤ 100 ∧ x.2.2.2.2.1 1 = nI x.2.2.2.1) (fun x v w => v = none ∧ ∃ S', w = wX S' ∧ kept x.2.2.2.2 S' ∧ S'.2.2.1 15 = (lst (x.2.2.2.2.2.2.1 3) x.1 x.2.1 x.2.2.1 x.2.2.2.1 x.2.2.2.2.2.1 (x.2.2.2.2.2.2.1 16) (x.2.2.2.2.2.2.1 15) 5).2.2) := by
  rintro ⟨w, W, k, n, S⟩ ⟨hwg, hn, h1⟩ G hG OK ⟨run, sub⟩
  dsimp only at hwg hn h1 hG ⊢
  have loop := lp_up (fun l => ∀ S' : Sx, kept S S' → S'.2.1 = (lst (S.2.2.1 3) w W k n S.2.1 (S.2.2.1 16) (S.2.2.1 15) l).1 → S'.2.2.1 16 = (lst (S.2.2.1 3) w W k n S.2.1 (S.2.2.1 16) (S.2.2.1 15) l).2.1 → S'.2.2.1 15 = (lst (S.2.2.1 3) w W k n S.2.1 (S.2.2.1 16) (S.2.2.1 15) l).2.2 → OK 0 0 2 [(0, .ref 13), (1, .int (nI l))] [] (wX S')) 5
    (fun S' hS' hz h16 h15 => by
      refine run [2] 60 _ _ _ _ _ _ ?_
      conv => whnf
      refine pk_le 5 5 (fun h => ?_) (fun h => absurd h (by omega))
      conv => whnf
      exact hG _ _ ⟨rfl, S', rfl, hS', h15⟩)
    (fun l hl ih S' hS' hz h16 h15 => by
      have h1' : S'.1 1 = nI n := (kept1 hS').trans h1
      have h3' : S'.2.2.1 3 = S.2.2.1 3 := keptA hS' (by decide)
      obtain ⟨hok, hk, hW, hw⟩ := wgt_k hwg hS'
      refine run [2] 60 _ _ _ _ _ _ ?_
      conv => whnf
      refine pk_le 5 l (fun h => absurd h (by omega)) (fun h => ?_)
      conv => whnf
      refine ⟨(n, nI l, S'), rfl, rfl, ⟨hn, h1'⟩, ?_⟩
      intro v u hvu
      have hc := ct_le (fun r => S'.2.2.1 3 r = nI l) n
      obtain ⟨rfl, rfl⟩ : v = none ∧ u = wX (xi (xa S' 16 (sel (fun r => S'.2.2.1 3 r = nI l) (S'.2.2.1 16) n)) 4 (nI (ct (fun r => S'.2.2.1 3 r = nI l) n))) := hvu
      conv => whnf
      refine ⟨(ct (fun r => S'.2.2.1 3 r = nI l) n, xi (xa S' 16 (sel (fun r => S'.2.2.1 3 r = nI l) (S'.2.2.1 16) n)) 4 (nI (ct (fun r => S'.2.2.1 3 r = nI l) n))), rfl, rfl, (by dsimp only; omega), ?_⟩
      intro v u hvu
      obtain ⟨rfl, rfl⟩ : v = none ∧ u = wX (xa (xz (xi (xa S' 16 (sel (fun r => S'.2.2.1 3 r = nI l) (S'.2.2.1 16) n)) 4 (nI (ct (fun r => S'.2.2.1 3 r = nI l) n))) (shm (ct (fun r => S'.2.2.1 3 r = nI l) n) S'.2.1 (sel (fun r => S'.2.2.1 3 r = nI l) (S'.2.2.1 16) n)).1) 16 (shm (ct (fun r => S'.2.2.1 3 r = nI l) n) S'.2.1 (sel (fun r => S'.2.2.1 3 r = nI l) (S'.2.2.1 16) n)).2) := hvu
      have hv := vld_mono (shm_v (z := S'.2.1) (sel_v (p := fun r => S'.2.2.1 3 r = nI l) (old := S'.2.2.1 16) n)) hn
      conv => whnf
      refine ⟨(w, W, k, ct (fun r => S'.2.2.1 3 r = nI l) n, xa (xz (xi (xa S' 16 (sel (fun r => S'.2.2.1 3 r = nI l) (S'.2.2.1 16) n)) 4 (nI (ct (fun r => S'.2.2.1 3 r = nI l) n))) (shm (ct (fun r => S'.2.2.1 3 r = nI l) n) S'.2.1 (sel (fun r => S'.2.2.1 3 r = nI l) (S'.2.2.1 16) n)).1) 16 (shm (ct (fun r => S'.2.2.1 3 r = nI l) n) S'.2.1 (sel (fun r => S'.2.2.1 3 r = nI l) (S'.2.2.1 16) n)).2), rfl, rfl, ⟨hok, by dsimp only; omega, hk, hW, hw, rfl, hv⟩, ?_⟩
      rintro v u ⟨hv0, q, r, hu⟩
      obtain rfl : v = none := hv0
      obtain rfl : u = wX (xa (xa (xa (xa (xz (xi (xa S' 16 (sel (fun r => S'.2.2.1 3 r = nI l) (S'.2.2.1 16) n)) 4 (nI (ct (fun r => S'.2.2.1 3 r = nI l) n))) (shm (ct (fun r => S'.2.2.1 3 r = nI l) n) S'.2.1 (sel (fun r => S'.2.2.1 3 r = nI l) (S'.2.2.1 16) n)).1) 16 (shm (ct (fun r => S'.2.2.1 3 r = nI l) n) S'.2.1 (sel (fun r => S'.2.2.1 3 r = nI l) (S'.2.2.1 16) n)).2) 11 q) 12 r) 15 (dl (shm (ct (fun r => S'.2.2.1 3 r = nI l) n) S'.2.1 (sel (fun r => S'.2.2.1 3 r = nI l) (S'.2.2.1 16) n)).2 (fun a => nI (pt (qf w W k (ct (fun r => S'.2.2.1 3 r = nI l) n)) a k)) (S'.2.2.1 15) (ct (fun r => S'.2.2.1 3 r = nI l) n))) := hu
      conv => whnf
      have hih := ih _ (kept_tr hS' (kept_tr (kept_tr (kept_tr (kept_tr (kept_tr (kept_tr (kept_a (k := 16) (f := sel (fun r => S'.2.2.1 3 r = nI l) (S'.2.2.1 16) n) (by omega)) (kept_i (v := nI (ct (fun r => S'.2.2.1 3 r = nI l) n)))) (kept_z (v := (shm (ct (fun r => S'.2.2.1 3 r = nI l) n) S'.2.1 (sel (fun r => S'.2.2.1 3 r = nI l) (S'.2.2.1 16) n)).1))) (kept_a (k := 16) (f := (shm (ct (fun r => S'.2.2.1 3 r = nI l) n) S'.2.1 (sel (fun r => S'.2.2.1 3 r = nI l) (S'.2.2.1 16) n)).2) (by omega))) (kept_a (k := 11) (f := q) (by omega))) (kept_a (k := 12) (f := r) (by omega))) (kept_a (k := 15) (f := dl (shm (ct (fun r => S'.2.2.1 3 r = nI l) n) S'.2.1 (sel (fun r => S'.2.2.1 3 r = nI l) (S'.2.2.1 16) n)).2 (fun a => nI (pt (qf w W k (ct (fun r => S'.2.2.1 3 r = nI l) n)) a k)) (S'.2.2.1 15) (ct (fun r => S'.2.2.1 3 r = nI l) n)) (by omega))))
        (by show (shm (ct (fun r => S'.2.2.1 3 r = nI l) n) S'.2.1 (sel (fun r => S'.2.2.1 3 r = nI l) (S'.2.2.1 16) n)).1 = _; rw [h3', hz, h16]; rfl)
        (by show (shm (ct (fun r => S'.2.2.1 3 r = nI l) n) S'.2.1 (sel (fun r => S'.2.2.1 3 r = nI l) (S'.2.2.1 16) n)).2 = _; rw [h3', hz, h16]; rfl)
        (by show dl (shm (ct (fun r => S'.2.2.1 3 r = nI l) n) S'.2.1 (sel (fun r => S'.2.2.1 3 r = nI l) (S'.2.2.1 16) n)).2 (fun a => nI (pt (qf w W k (ct (fun r => S'.2.2.1 3 r = nI l) n)) a k)) (S'.2.2.1 15) (ct (fun r => S'.2.2.1 3 r = nI l) n) = _; rw [h3', hz, h16, h15]; rfl)
      rw [nI_succ] at hih
      exact hih)
  refine run [2] 60 _ _ _ _ _ _ ?_
  conv => whnf
  exact loop 0 (by omega) S (kept_rf S) rfl rfl rfl
theorem ct_X3_planLabels (D : va_G) (dT : Nat → Nat) (l : Launch) : en_CT en_WD D vwCl dT l yX3_planLabels cX3_planLabels 2 (none) rm_X3_planLabels f_X3_planLabels := en_met en_WD1 en_WD2 (by decide) rfl rfl (tB_X3_planLabels D dT l) (en_f_ln (fun _ => Nat.le_of_ble_eq_true rfl)) (en_f_bd bd_X3_planLabels)
set_option maxRecDepth 100000 in
theorem mk_X3_planLabels {D : va_G} {dT : Nat → Nat} {l : Launch} {R : Room} {s : State} {args : Array Value} {own : String} {idx : Nat} (h : en_WD s) (h1 : rm_X3_planLabels.frames + 1 ≤ R.frames) (h2 : 8 + (2 + 11) + rm_X3_planLabels.locals ≤ R.locals) (hl : (Jvm.Cond.methodLink own idx yX3_planLabels).before args s = true ∨ ∃ host, (Jvm.Cond.methodLinkNest own idx yX3_planLabels host).before args s = true) : en_mok en_WD D vwCl dT l R s args own (idx, 1, 5, 0, 0, f_X3_planLabels) :=
  ⟨yX3_planLabels, cX3_planLabels, 2, none, rm_X3_planLabels, 0, ct_X3_planLabels D dT l, rfl, rfl, h1, h2, en_wd h 404 rfl rfl args, en_wd h 62 (by decide +kernel) rfl args, by decide, by decide, hl, ⟨RX3, TX3, 8, rfl, en_wd h 403 (by decide +kernel) rfl args, en_wd h 15 (by decide +kernel) rfl args, rfl⟩⟩
/-- label by label, dealt round: z, the things, what is planned, the next part -/
def fst (p : Nat → Nat → Prop) [∀ l, DecidablePred (p l)] (k n : Nat) (z : Int64) (o16 o15 : Nat → Int32) : Nat → Int64 × (Nat → Int32) × (Nat → Int32) × Nat
  | 0 => (z, o16, o15, 0)
  | l + 1 =>
    ((shm (ct (p l) n) (fst p k n z o16 o15 l).1 (sel (p l) (fst p k n z o16 o15 l).2.1 n)).1,
     (shm (ct (p l) n) (fst p k n z o16 o15 l).1 (sel (p l) (fst p k n z o16 o15 l).2.1 n)).2,
     dl (shm (ct (p l) n) (fst p k n z o16 o15 l).1 (sel (p l) (fst p k n z o16 o15 l).2.1 n)).2 (fun i => nI (nx k (fst p k n z o16 o15 l).2.2.2 i)) (fst p k n z o16 o15 l).2.2.1 (ct (p l) n),
     nx k (fst p k n z o16 o15 l).2.2.2 (ct (p l) n))
theorem fst_lt {p : Nat → Nat → Prop} [∀ l, DecidablePred (p l)] {k n : Nat} {z : Int64} {o16 o15 : Nat → Int32} (hk : 0 < k) : ∀ l, (fst p k n z o16 o15 l).2.2.2 < k
  | 0 => hk
  | l + 1 => nx_lt (fst_lt hk l) _
def f_X3_planFolds := en_f (σ := Int64 × Nat × Nat × Sx) (fun x => [.ref 13, .long x.1]) (fun x => wX x.2.2.2) (fun x => 1 ≤ x.2.1 ∧ x.2.1 ≤ 4 ∧ x.2.2.2.1 2 = nI x.2.1 ∧ x.2.2.1 ≤ 100 ∧ x.2.2.2.1 1 = nI x.2.2.1) (fun x v w => v = none ∧ ∃ S', w = wX S' ∧ kept x.2.2.2 S' ∧ S'.2.2.1 15 = (fst (fun l r => x.2.2.2.2.2.1 3 r = nI l) x.2.1 x.2.2.1 x.1 (x.2.2.2.2.2.1 16) (x.2.2.2.2.2.1 15) 5).2.2.1)
def rm_X3_planFolds : Room := { frames := 3, cells := 0, slots := 0, locals := 69 }
def t_X3_planFolds : en_T := ((5, 0, 0), tb_X3_planFolds, fl_X3, cn_X3, [(51, 2, 2, 0, 0, f_X0_start), (68, 2, 5, 0, 0, f_X3_gatherLabel), (71, 2, 5, 0, 0, f_X3_dealFrom)], [], 0, none)
set_option maxRecDepth 100000 in
theorem tB_X3_planFolds (D : va_G) (dT : Nat → Nat) (l : Launch) : en_TB en_WD D vwCl dT l rm_X3_planFolds t_X3_planFolds RX3 "planFolds" cX3_planFolds := ⟨tk_X3_planFolds, fun s args meth h hn => ⟨fo_X3 h args meth, co_X3 h args, List.forall_mem_cons.mpr ⟨mk_X0_start (own := RX3) h (Nat.le_of_ble_eq_true rfl) (Nat.le_of_ble_eq_true rfl) (Or.inl (en_wd h 329 (by decide +kernel) rfl args)), List.forall_mem_cons.mpr ⟨mk_X3_gatherLabel (own := RX3) h (Nat.le_of_ble_eq_true rfl) (Nat.le_of_ble_eq_true rfl) (Or.inl (en_wd h 405 (by decide +kernel) rfl args)), List.forall_mem_cons.mpr ⟨mk_X3_dealFrom (own := RX3) h (Nat.le_of_ble_eq_true rfl) (Nat.le_of_ble_eq_true rfl) (Or.inl (en_wd h 437 (by decide +kernel) rfl args)), fun _ h => absurd h List.not_mem_nil⟩⟩⟩, fun _ h => absurd h List.not_mem_nil, Or.inl rfl, en_arr h args⟩⟩
set_option maxHeartbeats 4000000 in
set_option maxRecDepth 100000 in
theorem bd_X3_planFolds : en_B (σ := Int64 × Nat × Nat × Sx) t_X3_planFolds (fun x => [.ref 13, .long x.1]) (fun x => wX x.2.2.2) (fun x => 1 ≤ x.2.1 ∧ x.2.1 ≤ 4 ∧ x.2.2.2.1 2 = nI x.2.1 ∧ x.2.2.1 ≤ 100 ∧ x.2.2.2.1 1 = nI x.2.2.1) (fun x v w => v = none ∧ ∃ S', w = wX S' ∧ kept x.2.2.2 S' ∧ S'.2.2.1 15 = (fst (fun l r => x.2.2.2.2.2.1 3 r = nI l) x.2.1 x.2.2.1 x.1 (x.2.2.2.2.2.1 16) (x.2.2.2.2.2.1 15) 5).2.2.1) := by
  rintro ⟨z0, k, n, S⟩ ⟨hk1, hk4, hk, hn, h1⟩ G hG OK ⟨run, sub⟩
  dsimp only at hk1 hk4 hk hn h1 hG ⊢
  have loop := lp_up (fun l => ∀ S' : Sx, kept S S' → S'.2.1 = (fst (fun l r => S.2.2.1 3 r = nI l) k n z0 (S.2.2.1 16) (S.2.2.1 15) l).1 → S'.2.2.1 16 = (fst (fun l r => S.2.2.1 3 r = nI l) k n z0 (S.2.2.1 16) (S.2.2.1 15) l).2.1 → S'.2.2.1 15 = (fst (fun l r => S.2.2.1 3 r = nI l) k n z0 (S.2.2.1 16) (S.2.2.1 15) l).2.2.1 → OK 0 0 13 [(0, .ref 13), (1, .long z0), (3, .int (nI (fst (fun l r => S.2.2.1 3 r = nI l) k n z0 (S.2.2.1 16) (S.2.2.1 15) l).2.2.2)), (4, .int (nI l))] [] (wX S')) 5
    (fun S' hS' hz h16 h15 => by
      refine run [13] 60 _ _ _ _ _ _ ?_
      conv => whnf
      refine pk_le 5 5 (fun h => ?_) (fun h => absurd h (by omega))
      conv => whnf
      exact hG _ _ ⟨rfl, S', rfl, hS', h15⟩)
    (fun l hl ih S' hS' hz h16 h15 => by
      have h1' : S'.1 1 = nI n := (kept1 hS').trans h1
      have h3' : S'.2.2.1 3 = S.2.2.1 3 := keptA hS' (by decide)
      have hk' : S'.1 2 = nI k := (hS'.1 2 (by decide)).trans hk
      have hlt := fst_lt (p := fun l r => S.2.2.1 3 r = nI l) (n := n) (z := z0) (o16 := S.2.2.1 16) (o15 := S.2.2.1 15) hk1 l
      refine run [13] 60 _ _ _ _ _ _ ?_
      conv => whnf
      refine pk_le 5 l (fun h => absurd h (by omega)) (fun h => ?_)
      conv => whnf
      refine ⟨(n, nI l, S'), rfl, rfl, ⟨hn, h1'⟩, ?_⟩
      intro v u hvu
      have hc := ct_le (fun r => S'.2.2.1 3 r = nI l) n
      obtain ⟨rfl, rfl⟩ : v = none ∧ u = wX (xi (xa S' 16 (sel (fun r => S'.2.2.1 3 r = nI l) (S'.2.2.1 16) n)) 4 (nI (ct (fun r => S'.2.2.1 3 r = nI l) n))) := hvu
      have hv := vld_mono (sel_v (p := fun r => S'.2.2.1 3 r = nI l) (old := S'.2.2.1 16) n) hn
      generalize hff : (fst (fun l r => S.2.2.1 3 r = nI l) k n z0 (S.2.2.1 16) (S.2.2.1 15) l).2.2.2 = ff at hlt ⊢
      conv => whnf
      refine ⟨(k, ct (fun r => S'.2.2.1 3 r = nI l) n, ff, xi (xa S' 16 (sel (fun r => S'.2.2.1 3 r = nI l) (S'.2.2.1 16) n)) 4 (nI (ct (fun r => S'.2.2.1 3 r = nI l) n))), rfl, rfl, ⟨hk4, by dsimp only; omega, hlt, hk', rfl, hv⟩, ?_⟩
      intro v u hvu
      obtain ⟨rfl, rfl⟩ : v = some (.int (nI (nx k ff (ct (fun r => S'.2.2.1 3 r = nI l) n)))) ∧ u = wX (xa (xa (xz (xi (xa S' 16 (sel (fun r => S'.2.2.1 3 r = nI l) (S'.2.2.1 16) n)) 4 (nI (ct (fun r => S'.2.2.1 3 r = nI l) n))) (shm (ct (fun r => S'.2.2.1 3 r = nI l) n) S'.2.1 (sel (fun r => S'.2.2.1 3 r = nI l) (S'.2.2.1 16) n)).1) 16 (shm (ct (fun r => S'.2.2.1 3 r = nI l) n) S'.2.1 (sel (fun r => S'.2.2.1 3 r = nI l) (S'.2.2.1 16) n)).2) 15 (dl (shm (ct (fun r => S'.2.2.1 3 r = nI l) n) S'.2.1 (sel (fun r => S'.2.2.1 3 r = nI l) (S'.2.2.1 16) n)).2 (fun i => nI (nx k ff i)) (S'.2.2.1 15) (ct (fun r => S'.2.2.1 3 r = nI l) n))) := hvu
      conv => whnf
      have hih := ih _ (kept_tr hS' (kept_tr (kept_tr (kept_tr (kept_tr (kept_a (k := 16) (f := sel (fun r => S'.2.2.1 3 r = nI l) (S'.2.2.1 16) n) (by omega)) (kept_i (v := nI (ct (fun r => S'.2.2.1 3 r = nI l) n)))) (kept_z (v := (shm (ct (fun r => S'.2.2.1 3 r = nI l) n) S'.2.1 (sel (fun r => S'.2.2.1 3 r = nI l) (S'.2.2.1 16) n)).1))) (kept_a (k := 16) (f := (shm (ct (fun r => S'.2.2.1 3 r = nI l) n) S'.2.1 (sel (fun r => S'.2.2.1 3 r = nI l) (S'.2.2.1 16) n)).2) (by omega))) (kept_a (k := 15) (f := dl (shm (ct (fun r => S'.2.2.1 3 r = nI l) n) S'.2.1 (sel (fun r => S'.2.2.1 3 r = nI l) (S'.2.2.1 16) n)).2 (fun i => nI (nx k ff i)) (S'.2.2.1 15) (ct (fun r => S'.2.2.1 3 r = nI l) n)) (by omega))))
        (by show (shm (ct (fun r => S'.2.2.1 3 r = nI l) n) S'.2.1 (sel (fun r => S'.2.2.1 3 r = nI l) (S'.2.2.1 16) n)).1 = _; rw [h3', hz, h16]; rfl)
        (by show (shm (ct (fun r => S'.2.2.1 3 r = nI l) n) S'.2.1 (sel (fun r => S'.2.2.1 3 r = nI l) (S'.2.2.1 16) n)).2 = _; rw [h3', hz, h16]; rfl)
        (by show dl (shm (ct (fun r => S'.2.2.1 3 r = nI l) n) S'.2.1 (sel (fun r => S'.2.2.1 3 r = nI l) (S'.2.2.1 16) n)).2 (fun i => nI (nx k ff i)) (S'.2.2.1 15) (ct (fun r => S'.2.2.1 3 r = nI l) n) = _; rw [h3', hz, h16, h15, ← hff]; rfl)
      rw [nI_succ] at hih
      have e : (fst (fun l r => S.2.2.1 3 r = nI l) k n z0 (S.2.2.1 16) (S.2.2.1 15) (l + 1)).2.2.2 = nx k ff (ct (fun r => S'.2.2.1 3 r = nI l) n) := by
        show nx k _ _ = _
        rw [hff, h3']
      rw [e] at hih
      exact hih)
  refine run [13] 60 _ _ _ _ _ _ ?_
  conv => whnf
  refine ⟨(z0, S), rfl, rfl, trivial, ?_⟩
  intro v u hvu
  obtain ⟨rfl, rfl⟩ : v = none ∧ u = wX (xz S z0) := hvu
  conv => whnf
  exact loop 0 (by omega) (xz S z0) kept_z rfl rfl rfl
theorem ct_X3_planFolds (D : va_G) (dT : Nat → Nat) (l : Launch) : en_CT en_WD D vwCl dT l yX3_planFolds cX3_planFolds 5 (none) rm_X3_planFolds f_X3_planFolds := en_met en_WD1 en_WD2 (by decide) rfl rfl (tB_X3_planFolds D dT l) (en_f_ln (fun _ => Nat.le_of_ble_eq_true rfl)) (en_f_bd bd_X3_planFolds)
set_option maxRecDepth 100000 in
theorem mk_X3_planFolds {D : va_G} {dT : Nat → Nat} {l : Launch} {R : Room} {s : State} {args : Array Value} {own : String} {idx : Nat} (h : en_WD s) (h1 : rm_X3_planFolds.frames + 1 ≤ R.frames) (h2 : 8 + (5 + 11) + rm_X3_planFolds.locals ≤ R.locals) (hl : (Jvm.Cond.methodLink own idx yX3_planFolds).before args s = true ∨ ∃ host, (Jvm.Cond.methodLinkNest own idx yX3_planFolds host).before args s = true) : en_mok en_WD D vwCl dT l R s args own (idx, 2, 5, 0, 0, f_X3_planFolds) :=
  ⟨yX3_planFolds, cX3_planFolds, 5, none, rm_X3_planFolds, 1, ct_X3_planFolds D dT l, rfl, rfl, h1, h2, en_wd h 436 rfl rfl args, en_wd h 62 (by decide +kernel) rfl args, by decide, by decide, hl, ⟨RX3, TX3, 8, rfl, en_wd h 434 (by decide +kernel) rfl args, en_wd h 435 (by decide +kernel) rfl args, rfl⟩⟩
end
section
/-! SplitLeaks$Splitter: nested, groups, times, the plan by its kind -/
def f_X3_planNested := en_f (σ := Int32 × Int64 × Nat × Nat × Sx) (fun x => [.ref 13, .int x.1, .long x.2.1]) (fun x => wX x.2.2.2.2) (fun x => 1 ≤ x.2.2.1 ∧ x.2.2.1 ≤ 4 ∧ x.2.2.2.2.1 2 = nI x.2.2.1 ∧ x.2.2.2.1 ≤ 100 ∧ x.2.2.2.2.1 1 = nI x.2.2.2.1) (fun x v w => v = none ∧ ∃ S', w = wX S' ∧ kept x.2.2.2.2 S' ∧ S'.2.2.1 15 = (fst (fun l r => x.2.2.2.2.2.2.1 3 r = nI l ∧ x.2.2.2.2.2.2.1 5 r ≠ -1 ∧ x.2.2.2.2.2.2.1 5 r ≠ x.1) x.2.2.1 x.2.2.2.1 (x.2.1 + x.1.toInt64) (x.2.2.2.2.2.2.1 16) (mx x.2.2.2.1 (fun _ => -1) (x.2.2.2.2.2.2.1 15)) 5).2.2.1)
def rm_X3_planNested : Room := { frames := 3, cells := 0, slots := 0, locals := 69 }
def t_X3_planNested : en_T := ((6, 0, 0), tb_X3_planNested, fl_X3, cn_X3, [(51, 2, 2, 0, 0, f_X0_start), (75, 3, 5, 0, 0, f_X3_gatherLabelInside), (71, 2, 5, 0, 0, f_X3_dealFrom)], [], 0, none)
set_option maxRecDepth 100000 in
theorem tB_X3_planNested (D : va_G) (dT : Nat → Nat) (l : Launch) : en_TB en_WD D vwCl dT l rm_X3_planNested t_X3_planNested RX3 "planNested" cX3_planNested := ⟨tk_X3_planNested, fun s args meth h hn => ⟨fo_X3 h args meth, co_X3 h args, List.forall_mem_cons.mpr ⟨mk_X0_start (own := RX3) h (Nat.le_of_ble_eq_true rfl) (Nat.le_of_ble_eq_true rfl) (Or.inl (en_wd h 329 (by decide +kernel) rfl args)), List.forall_mem_cons.mpr ⟨mk_X3_gatherLabelInside (own := RX3) h (Nat.le_of_ble_eq_true rfl) (Nat.le_of_ble_eq_true rfl) (Or.inl (en_wd h 462 (by decide +kernel) rfl args)), List.forall_mem_cons.mpr ⟨mk_X3_dealFrom (own := RX3) h (Nat.le_of_ble_eq_true rfl) (Nat.le_of_ble_eq_true rfl) (Or.inl (en_wd h 437 (by decide +kernel) rfl args)), fun _ h => absurd h List.not_mem_nil⟩⟩⟩, fun _ h => absurd h List.not_mem_nil, Or.inl rfl, en_arr h args⟩⟩
set_option maxHeartbeats 4000000 in
set_option maxRecDepth 100000 in
theorem bd_X3_planNested : en_B (σ := Int32 × Int64 × Nat × Nat × Sx) t_X3_planNested (fun x => [.ref 13, .int x.1, .long x.2.1]) (fun x => wX x.2.2.2.2) (fun x => 1 ≤ x.2.2.1 ∧ x.2.2.1 ≤ 4 ∧ x.2.2.2.2.1 2 = nI x.2.2.1 ∧ x.2.2.2.1 ≤ 100 ∧ x.2.2.2.2.1 1 = nI x.2.2.2.1) (fun x v w => v = none ∧ ∃ S', w = wX S' ∧ kept x.2.2.2.2 S' ∧ S'.2.2.1 15 = (fst (fun l r => x.2.2.2.2.2.2.1 3 r = nI l ∧ x.2.2.2.2.2.2.1 5 r ≠ -1 ∧ x.2.2.2.2.2.2.1 5 r ≠ x.1) x.2.2.1 x.2.2.2.1 (x.2.1 + x.1.toInt64) (x.2.2.2.2.2.2.1 16) (mx x.2.2.2.1 (fun _ => -1) (x.2.2.2.2.2.2.1 15)) 5).2.2.1) := by
  rintro ⟨o, z0, k, n, S⟩ ⟨hk1, hk4, hk, hn, h1⟩ G hG OK ⟨run, sub⟩
  dsimp only at hk1 hk4 hk hn h1 hG ⊢
  generalize hz1 : z0 + o.toInt64 = z1 at hG
  generalize ho15 : mx n (fun _ => -1) (S.2.2.1 15) = o15 at hG
  have loop := lp_up (fun l => ∀ S' : Sx, kept S S' → S'.2.1 = (fst (fun l r => S.2.2.1 3 r = nI l ∧ S.2.2.1 5 r ≠ -1 ∧ S.2.2.1 5 r ≠ o) k n z1 (S.2.2.1 16) o15 l).1 → S'.2.2.1 16 = (fst (fun l r => S.2.2.1 3 r = nI l ∧ S.2.2.1 5 r ≠ -1 ∧ S.2.2.1 5 r ≠ o) k n z1 (S.2.2.1 16) o15 l).2.1 → S'.2.2.1 15 = (fst (fun l r => S.2.2.1 3 r = nI l ∧ S.2.2.1 5 r ≠ -1 ∧ S.2.2.1 5 r ≠ o) k n z1 (S.2.2.1 16) o15 l).2.2.1 → OK 0 0 46 [(0, .ref 13), (1, .int o), (4, .int (nI (fst (fun l r => S.2.2.1 3 r = nI l ∧ S.2.2.1 5 r ≠ -1 ∧ S.2.2.1 5 r ≠ o) k n z1 (S.2.2.1 16) o15 l).2.2.2)), (5, .int (nI l))] [] (wX S')) 5
    (fun S' hS' hz h16 h15 => by
      refine run [46] 60 _ _ _ _ _ _ ?_
      conv => whnf
      refine pk_le 5 5 (fun h => ?_) (fun h => absurd h (by omega))
      conv => whnf
      exact hG _ _ ⟨rfl, S', rfl, hS', h15⟩)
    (fun l hl ih S' hS' hz h16 h15 => by
      have h1' : S'.1 1 = nI n := (kept1 hS').trans h1
      have h3' : S'.2.2.1 3 = S.2.2.1 3 := keptA hS' (by decide)
      have h5' : S'.2.2.1 5 = S.2.2.1 5 := keptA hS' (by decide)
      have hk' : S'.1 2 = nI k := (hS'.1 2 (by decide)).trans hk
      have hlt := fst_lt (p := fun l r => S.2.2.1 3 r = nI l ∧ S.2.2.1 5 r ≠ -1 ∧ S.2.2.1 5 r ≠ o) (n := n) (z := z1) (o16 := S.2.2.1 16) (o15 := o15) hk1 l
      refine run [46] 60 _ _ _ _ _ _ ?_
      conv => whnf
      refine pk_le 5 l (fun h => absurd h (by omega)) (fun h => ?_)
      conv => whnf
      refine ⟨(n, nI l, o, S'), rfl, rfl, ⟨hn, h1'⟩, ?_⟩
      intro v u hvu
      have hc := ct_le (fun r => S'.2.2.1 3 r = nI l ∧ S'.2.2.1 5 r ≠ -1 ∧ S'.2.2.1 5 r ≠ o) n
      obtain ⟨rfl, rfl⟩ : v = none ∧ u = wX (xi (xa S' 16 (sel (fun r => S'.2.2.1 3 r = nI l ∧ S'.2.2.1 5 r ≠ -1 ∧ S'.2.2.1 5 r ≠ o) (S'.2.2.1 16) n)) 4 (nI (ct (fun r => S'.2.2.1 3 r = nI l ∧ S'.2.2.1 5 r ≠ -1 ∧ S'.2.2.1 5 r ≠ o) n))) := hvu
      have hv := vld_mono (sel_v (p := fun r => S'.2.2.1 3 r = nI l ∧ S'.2.2.1 5 r ≠ -1 ∧ S'.2.2.1 5 r ≠ o) (old := S'.2.2.1 16) n) hn
      generalize hff : (fst (fun l r => S.2.2.1 3 r = nI l ∧ S.2.2.1 5 r ≠ -1 ∧ S.2.2.1 5 r ≠ o) k n z1 (S.2.2.1 16) o15 l).2.2.2 = ff at hlt ⊢
      have eS : sel (fun r => S'.2.2.1 3 r = nI l ∧ S'.2.2.1 5 r ≠ -1 ∧ S'.2.2.1 5 r ≠ o) (S'.2.2.1 16) n = sel (fun r => S.2.2.1 3 r = nI l ∧ S.2.2.1 5 r ≠ -1 ∧ S.2.2.1 5 r ≠ o) (fst (fun l r => S.2.2.1 3 r = nI l ∧ S.2.2.1 5 r ≠ -1 ∧ S.2.2.1 5 r ≠ o) k n z1 (S.2.2.1 16) o15 l).2.1 n := by rw [h3', h5', h16]
      have eC : ct (fun r => S'.2.2.1 3 r = nI l ∧ S'.2.2.1 5 r ≠ -1 ∧ S'.2.2.1 5 r ≠ o) n = ct (fun r => S.2.2.1 3 r = nI l ∧ S.2.2.1 5 r ≠ -1 ∧ S.2.2.1 5 r ≠ o) n := by rw [h3', h5']
      have e3 : (fst (fun l r => S.2.2.1 3 r = nI l ∧ S.2.2.1 5 r ≠ -1 ∧ S.2.2.1 5 r ≠ o) k n z1 (S.2.2.1 16) o15 (l + 1)).2.2.1 = dl (shm (ct (fun r => S.2.2.1 3 r = nI l ∧ S.2.2.1 5 r ≠ -1 ∧ S.2.2.1 5 r ≠ o) n) (fst (fun l r => S.2.2.1 3 r = nI l ∧ S.2.2.1 5 r ≠ -1 ∧ S.2.2.1 5 r ≠ o) k n z1 (S.2.2.1 16) o15 l).1 (sel (fun r => S.2.2.1 3 r = nI l ∧ S.2.2.1 5 r ≠ -1 ∧ S.2.2.1 5 r ≠ o) (fst (fun l r => S.2.2.1 3 r = nI l ∧ S.2.2.1 5 r ≠ -1 ∧ S.2.2.1 5 r ≠ o) k n z1 (S.2.2.1 16) o15 l).2.1 n)).2 (fun i => nI (nx k ff i)) (fst (fun l r => S.2.2.1 3 r = nI l ∧ S.2.2.1 5 r ≠ -1 ∧ S.2.2.1 5 r ≠ o) k n z1 (S.2.2.1 16) o15 l).2.2.1 (ct (fun r => S.2.2.1 3 r = nI l ∧ S.2.2.1 5 r ≠ -1 ∧ S.2.2.1 5 r ≠ o) n) := by rw [← hff]; rfl
      have e4 : (fst (fun l r => S.2.2.1 3 r = nI l ∧ S.2.2.1 5 r ≠ -1 ∧ S.2.2.1 5 r ≠ o) k n z1 (S.2.2.1 16) o15 (l + 1)).2.2.2 = nx k ff (ct (fun r => S.2.2.1 3 r = nI l ∧ S.2.2.1 5 r ≠ -1 ∧ S.2.2.1 5 r ≠ o) n) := by rw [← hff]; rfl
      have ih : ∀ S' : Sx, kept S S' → S'.2.1 = (shm (ct (fun r => S.2.2.1 3 r = nI l ∧ S.2.2.1 5 r ≠ -1 ∧ S.2.2.1 5 r ≠ o) n) (fst (fun l r => S.2.2.1 3 r = nI l ∧ S.2.2.1 5 r ≠ -1 ∧ S.2.2.1 5 r ≠ o) k n z1 (S.2.2.1 16) o15 l).1 (sel (fun r => S.2.2.1 3 r = nI l ∧ S.2.2.1 5 r ≠ -1 ∧ S.2.2.1 5 r ≠ o) (fst (fun l r => S.2.2.1 3 r = nI l ∧ S.2.2.1 5 r ≠ -1 ∧ S.2.2.1 5 r ≠ o) k n z1 (S.2.2.1 16) o15 l).2.1 n)).1 → S'.2.2.1 16 = (shm (ct (fun r => S.2.2.1 3 r = nI l ∧ S.2.2.1 5 r ≠ -1 ∧ S.2.2.1 5 r ≠ o) n) (fst (fun l r => S.2.2.1 3 r = nI l ∧ S.2.2.1 5 r ≠ -1 ∧ S.2.2.1 5 r ≠ o) k n z1 (S.2.2.1 16) o15 l).1 (sel (fun r => S.2.2.1 3 r = nI l ∧ S.2.2.1 5 r ≠ -1 ∧ S.2.2.1 5 r ≠ o) (fst (fun l r => S.2.2.1 3 r = nI l ∧ S.2.2.1 5 r ≠ -1 ∧ S.2.2.1 5 r ≠ o) k n z1 (S.2.2.1 16) o15 l).2.1 n)).2 → _ := ih
      rw [e3, e4] at ih
      rw [← eS, ← eC, ← hz, ← h15] at ih
      generalize sel (fun r => S'.2.2.1 3 r = nI l ∧ S'.2.2.1 5 r ≠ -1 ∧ S'.2.2.1 5 r ≠ o) (S'.2.2.1 16) n = SE at hv ih ⊢
      generalize ct (fun r => S'.2.2.1 3 r = nI l ∧ S'.2.2.1 5 r ≠ -1 ∧ S'.2.2.1 5 r ≠ o) n = C at hc hv ih ⊢
      conv => whnf
      refine ⟨(k, C, ff, xi (xa S' 16 SE) 4 (nI C)), rfl, rfl, ⟨hk4, by dsimp only; omega, hlt, hk', rfl, hv⟩, ?_⟩
      intro v u hvu
      obtain ⟨rfl, rfl⟩ : v = some (.int (nI (nx k ff C))) ∧ u = wX (xa (xa (xz (xi (xa S' 16 SE) 4 (nI C)) (shm C S'.2.1 SE).1) 16 (shm C S'.2.1 SE).2) 15 (dl (shm C S'.2.1 SE).2 (fun i => nI (nx k ff i)) (S'.2.2.1 15) C)) := hvu
      conv => whnf
      have hih := ih _ (kept_tr hS' (kept_tr (kept_tr (kept_tr (kept_tr (kept_a (k := 16) (f := SE) (by omega)) (kept_i (v := nI C))) (kept_z (v := (shm C S'.2.1 SE).1))) (kept_a (k := 16) (f := (shm C S'.2.1 SE).2) (by omega))) (kept_a (k := 15) (f := dl (shm C S'.2.1 SE).2 (fun i => nI (nx k ff i)) (S'.2.2.1 15) C) (by omega)))) rfl rfl rfl
      rw [nI_succ] at hih
      exact hih)
  have loop1 := lp_up (fun i => OK 0 0 14 [(0, .ref 13), (1, .int o), (2, .long z0), (4, .int (nI i))] [] (wX (xa (xz S z1) 15 (mx i (fun _ => -1) (S.2.2.1 15))))) n
    (by
      refine run [14, 46] 60 _ _ _ _ _ _ ?_
      conv => whnf
      refine pk_le n n (fun h => ?_) (fun h => absurd h (by omega)) h1
      conv => whnf
      rw [ho15]
      exact sub [0, 1, 3, 4] _ _ _ _ _ _ _ rfl (loop 0 (by omega) (xa (xz S z1) 15 o15) (kept_tr kept_z (kept_a (by omega))) rfl rfl rfl))
    (fun i hi ih => by
      rw [nI_succ, ← mx_s] at ih
      refine run [14, 46] 60 _ _ _ _ _ _ ?_
      conv => whnf
      refine pk_le n i (fun h => absurd h (by omega)) (fun h => ?_) h1
      conv => whnf
      refine ⟨vp_in_nI (by omega) (by decide), ?_⟩
      rw [nI_clamp (by omega)]
      conv => whnf
      exact ih)
  refine run [14] 60 _ _ _ _ _ _ ?_
  conv => whnf
  refine ⟨(z0 + o.toInt64, S), rfl, rfl, trivial, ?_⟩
  intro v u hvu
  obtain ⟨rfl, rfl⟩ : v = none ∧ u = wX (xz S z1) := by rw [← hz1]; exact hvu
  conv => whnf
  have h0 := loop1 0 (by omega)
  rw [mx_0] at h0
  exact h0
theorem ct_X3_planNested (D : va_G) (dT : Nat → Nat) (l : Launch) : en_CT en_WD D vwCl dT l yX3_planNested cX3_planNested 6 (none) rm_X3_planNested f_X3_planNested := en_met en_WD1 en_WD2 (by decide) rfl rfl (tB_X3_planNested D dT l) (en_f_ln (fun _ => Nat.le_of_ble_eq_true rfl)) (en_f_bd bd_X3_planNested)
set_option maxRecDepth 100000 in
theorem mk_X3_planNested {D : va_G} {dT : Nat → Nat} {l : Launch} {R : Room} {s : State} {args : Array Value} {own : String} {idx : Nat} (h : en_WD s) (h1 : rm_X3_planNested.frames + 1 ≤ R.frames) (h2 : 8 + (6 + 11) + rm_X3_planNested.locals ≤ R.locals) (hl : (Jvm.Cond.methodLink own idx yX3_planNested).before args s = true ∨ ∃ host, (Jvm.Cond.methodLinkNest own idx yX3_planNested host).before args s = true) : en_mok en_WD D vwCl dT l R s args own (idx, 3, 5, 0, 0, f_X3_planNested) :=
  ⟨yX3_planNested, cX3_planNested, 6, none, rm_X3_planNested, 2, ct_X3_planNested D dT l, rfl, rfl, h1, h2, en_wd h 461 rfl rfl args, en_wd h 62 (by decide +kernel) rfl args, by decide, by decide, hl, ⟨RX3, TX3, 8, rfl, en_wd h 459 (by decide +kernel) rfl args, en_wd h 460 (by decide +kernel) rfl args, rfl⟩⟩
end
section
/-! SplitLeaks$Splitter: by groups -/
/-- group by group: what is planned, how many each part has -/
def gst (Gp w O : Nat → Int32) (nI_ Wi : Int32) (k n : Nat) (pl0 H0 : Nat → Int32) : Nat → (Nat → Int32) × (Nat → Int32)
  | 0 => (pl0, H0)
  | i + 1 =>
    (pgr Gp (O i) (nI (ag (need w (gst Gp w O nI_ Wi k n pl0 H0 i).2 nI_ Wi) (k - 1))) (gst Gp w O nI_ Wi k n pl0 H0 i).1 n,
     upd (gst Gp w O nI_ Wi k n pl0 H0 i).2 (ag (need w (gst Gp w O nI_ Wi k n pl0 H0 i).2 nI_ Wi) (k - 1)) ((gst Gp w O nI_ Wi k n pl0 H0 i).2 (ag (need w (gst Gp w O nI_ Wi k n pl0 H0 i).2 nI_ Wi) (k - 1)) + nI (ct (fun r => Gp r = O i) n)))
/-- has a group rows -/
abbrev hasg (Gp : Nat → Int32) (n g : Nat) : Prop := fs (fun r => Gp r = nI g) n ≠ none
/-- the split by groups: what is planned -/
def PL1 (Gp w : Nat → Int32) (Wi : Int32) (k n : Nat) (z : Int64) (o16 o15 o17 : Nat → Int32) : Nat → Int32 :=
  (gst Gp w (shm (ct (hasg Gp n) 30) z (sel (hasg Gp n) o16 30)).2 (nI n) Wi k n o15 (mx 4 (fun _ => 0) o17) (ct (hasg Gp n) 30)).1
def f_X3_planGroups := en_f (σ := Nat × Nat × Sx) (fun _ => [.ref 13]) (fun x => wX x.2.2) (fun x => 1 ≤ x.1 ∧ x.1 ≤ 4 ∧ x.2.2.1 2 = nI x.1 ∧ x.2.1 ≤ 100 ∧ x.2.2.1 1 = nI x.2.1) (fun x v w => v = none ∧ ∃ S', w = wX S' ∧ kept x.2.2 S' ∧ S'.2.2.1 15 = PL1 (x.2.2.2.2.1 2) (x.2.2.2.2.1 10) (x.2.2.1 3) x.1 x.2.1 x.2.2.2.1 (x.2.2.2.2.1 16) (x.2.2.2.2.1 15) (x.2.2.2.2.1 17))
def rm_X3_planGroups : Room := { frames := 2, cells := 0, slots := 0, locals := 46 }
def t_X3_planGroups : en_T := ((2, 0, 0), tb_X3_planGroups, fl_X3, cn_X3, [(89, 1, 5, 0, 0, f_X3_gatherGroups), (82, 3, 2, 0, 0, f_X0_shuffle), (92, 1, 5, 0, 0, f_X3_neediestPart), (96, 3, 5, 0, 0, f_X3_placeGroup)], [], 0, none)
set_option maxRecDepth 100000 in
theorem tB_X3_planGroups (D : va_G) (dT : Nat → Nat) (l : Launch) : en_TB en_WD D vwCl dT l rm_X3_planGroups t_X3_planGroups RX3 "planGroups" cX3_planGroups := ⟨tk_X3_planGroups, fun s args meth h hn => ⟨fo_X3 h args meth, co_X3 h args, List.forall_mem_cons.mpr ⟨mk_X3_gatherGroups (own := RX3) h (Nat.le_of_ble_eq_true rfl) (Nat.le_of_ble_eq_true rfl) (Or.inl (en_wd h 360 (by decide +kernel) rfl args)), List.forall_mem_cons.mpr ⟨mk_X0_shuffle (own := RX3) h (Nat.le_of_ble_eq_true rfl) (Nat.le_of_ble_eq_true rfl) (Or.inl (en_wd h 341 (by decide +kernel) rfl args)), List.forall_mem_cons.mpr ⟨mk_X3_neediestPart (own := RX3) h (Nat.le_of_ble_eq_true rfl) (Nat.le_of_ble_eq_true rfl) (Or.inl (en_wd h 368 (by decide +kernel) rfl args)), List.forall_mem_cons.mpr ⟨mk_X3_placeGroup (own := RX3) h (Nat.le_of_ble_eq_true rfl) (Nat.le_of_ble_eq_true rfl) (Or.inl (en_wd h 376 (by decide +kernel) rfl args)), fun _ h => absurd h List.not_mem_nil⟩⟩⟩⟩, fun _ h => absurd h List.not_mem_nil, Or.inl rfl, en_arr h args⟩⟩
set_option maxHeartbeats 4000000 in
set_option maxRecDepth 100000 in
theorem bd_X3_planGroups : en_B (σ := Nat × Nat × Sx) t_X3_planGroups (fun _ => [.ref 13]) (fun x => wX x.2.2) (fun x => 1 ≤ x.1 ∧ x.1 ≤ 4 ∧ x.2.2.1 2 = nI x.1 ∧ x.2.1 ≤ 100 ∧ x.2.2.1 1 = nI x.2.1) (fun x v w => v = none ∧ ∃ S', w = wX S' ∧ kept x.2.2 S' ∧ S'.2.2.1 15 = PL1 (x.2.2.2.2.1 2) (x.2.2.2.2.1 10) (x.2.2.1 3) x.1 x.2.1 x.2.2.2.1 (x.2.2.2.2.1 16) (x.2.2.2.2.1 15) (x.2.2.2.2.1 17)) := by
  rintro ⟨k, n, S⟩ ⟨hk1, hk4, hk, hn, h1⟩ G hG OK ⟨run, sub⟩
  dsimp only at hk1 hk4 hk hn h1 hG ⊢
  refine run [21] 60 _ _ _ _ _ _ ?_
  conv => whnf
  refine ⟨(n, S), rfl, rfl, ⟨hn, h1⟩, ?_⟩
  intro v u hvu
  obtain ⟨rfl, rfl⟩ : v = none ∧ u = wX (xi (xa S 16 (sel (hasg (S.2.2.1 2) n) (S.2.2.1 16) 30)) 4 (nI (ct (hasg (S.2.2.1 2) n) 30))) := hvu
  have hc := ct_le (hasg (S.2.2.1 2) n) 30
  unfold PL1 at hG
  generalize ct (hasg (S.2.2.1 2) n) 30 = m at hc hG ⊢
  generalize sel (hasg (S.2.2.1 2) n) (S.2.2.1 16) 30 = SE at hG ⊢
  conv => whnf
  refine ⟨(m, xi (xa S 16 SE) 4 (nI m)), rfl, rfl, (by dsimp only; omega), ?_⟩
  intro v u hvu
  obtain ⟨rfl, rfl⟩ : v = none ∧ u = wX (xa (xz (xi (xa S 16 SE) 4 (nI m)) (shm m S.2.1 SE).1) 16 (shm m S.2.1 SE).2) := hvu
  generalize shm m S.2.1 SE = Z at hG ⊢
  have loop2 : ∀ i, i ≤ m → OK 0 0 41 [(0, .ref 13), (1, .int (nI i))] [] (wX (xa (xa (xa (xz (xi (xa S 16 SE) 4 (nI m)) Z.1) 16 Z.2) 15 (gst (S.2.2.1 2) (S.2.2.1 10) Z.2 (nI n) (S.1 3) k n (S.2.2.1 15) (mx 4 (fun _ => 0) (S.2.2.1 17)) i).1) 17 (gst (S.2.2.1 2) (S.2.2.1 10) Z.2 (nI n) (S.1 3) k n (S.2.2.1 15) (mx 4 (fun _ => 0) (S.2.2.1 17)) i).2)) := by
    refine lp_up (fun i => OK 0 0 41 [(0, .ref 13), (1, .int (nI i))] [] (wX (xa (xa (xa (xz (xi (xa S 16 SE) 4 (nI m)) Z.1) 16 Z.2) 15 (gst (S.2.2.1 2) (S.2.2.1 10) Z.2 (nI n) (S.1 3) k n (S.2.2.1 15) (mx 4 (fun _ => 0) (S.2.2.1 17)) i).1) 17 (gst (S.2.2.1 2) (S.2.2.1 10) Z.2 (nI n) (S.1 3) k n (S.2.2.1 15) (mx 4 (fun _ => 0) (S.2.2.1 17)) i).2))) m ?_ ?_
    · refine run [41] 60 _ _ _ _ _ _ ?_
      conv => whnf
      refine pk_le m m (fun h => ?_) (fun h => absurd h (by omega))
      conv => whnf
      exact hG _ _ ⟨rfl, _, rfl, kept_tr (kept_tr (kept_tr (kept_tr (kept_tr (kept_a (by omega)) kept_i) kept_z) (kept_a (by omega))) (kept_a (by omega))) (kept_a (by omega)), rfl⟩
    · intro i hi ih
      rw [nI_succ] at ih
      simp only [gst] at ih
      generalize gst (S.2.2.1 2) (S.2.2.1 10) Z.2 (nI n) (S.1 3) k n (S.2.2.1 15) (mx 4 (fun _ => 0) (S.2.2.1 17)) i = Y at ih ⊢
      have ha := ag_le (need (S.2.2.1 10) Y.2 (nI n) (S.1 3)) (k - 1)
      refine run [41] 60 _ _ _ _ _ _ ?_
      conv => whnf
      refine pk_le m i (fun h => absurd h (by omega)) (fun h => ?_)
      conv => whnf
      refine ⟨vp_in_nI (by omega) (by decide), ?_⟩
      rw [nI_clamp (by omega)]
      conv => whnf
      refine ⟨(k, xa (xa (xa (xz (xi (xa S 16 SE) 4 (nI m)) Z.1) 16 Z.2) 15 Y.1) 17 Y.2), rfl, rfl, ⟨hk1, hk4, hk⟩, ?_⟩
      intro v u hvu
      obtain ⟨rfl, rfl⟩ : v = some (.int (nI (ag (need (S.2.2.1 10) Y.2 (nI n) (S.1 3)) (k - 1)))) ∧ u = wX (xa (xa (xa (xz (xi (xa S 16 SE) 4 (nI m)) Z.1) 16 Z.2) 15 Y.1) 17 Y.2) := by rw [← h1]; exact hvu
      generalize ag (need (S.2.2.1 10) Y.2 (nI n) (S.1 3)) (k - 1) = p at ha ih ⊢
      conv => whnf
      refine ⟨(n, Z.2 i, p, xa (xa (xa (xz (xi (xa S 16 SE) 4 (nI m)) Z.1) 16 Z.2) 15 Y.1) 17 Y.2), rfl, rfl, ⟨hn, h1, by dsimp only; omega⟩, ?_⟩
      intro v u hvu
      obtain ⟨rfl, rfl⟩ : v = none ∧ u = wX (xa (xa (xa (xz (xi (xa S 16 SE) 4 (nI m)) Z.1) 16 Z.2) 15 (pgr (S.2.2.1 2) (Z.2 i) (nI p) Y.1 n)) 17 (upd Y.2 p (Y.2 p + nI (ct (fun r => S.2.2.1 2 r = Z.2 i) n)))) := hvu
      conv => whnf
      exact ih
  have loop1 := lp_up (fun p => OK 0 0 21 [(0, .ref 13), (1, .int (nI p))] [] (wX (xa (xa (xz (xi (xa S 16 SE) 4 (nI m)) Z.1) 16 Z.2) 17 (mx p (fun _ => 0) (S.2.2.1 17))))) 4
    (by
      refine run [21, 41] 60 _ _ _ _ _ _ ?_
      conv => whnf
      refine pk_le 4 4 (fun h => ?_) (fun h => absurd h (by omega))
      conv => whnf
      exact loop2 0 (by omega))
    (fun p hp ih => by
      rw [nI_succ, ← mx_s] at ih
      refine run [21, 41] 60 _ _ _ _ _ _ ?_
      conv => whnf
      refine pk_le 4 p (fun h => absurd h (by omega)) (fun h => ?_)
      conv => whnf
      refine ⟨vp_in_nI (by omega) (by decide), ?_⟩
      rw [nI_clamp (by omega)]
      conv => whnf
      exact ih)
  conv => whnf
  have h0 := loop1 0 (by omega)
  rw [mx_0] at h0
  exact h0
theorem ct_X3_planGroups (D : va_G) (dT : Nat → Nat) (l : Launch) : en_CT en_WD D vwCl dT l yX3_planGroups cX3_planGroups 2 (none) rm_X3_planGroups f_X3_planGroups := en_met en_WD1 en_WD2 (by decide) rfl rfl (tB_X3_planGroups D dT l) (en_f_ln (fun _ => Nat.le_of_ble_eq_true rfl)) (en_f_bd bd_X3_planGroups)
set_option maxRecDepth 100000 in
theorem mk_X3_planGroups {D : va_G} {dT : Nat → Nat} {l : Launch} {R : Room} {s : State} {args : Array Value} {own : String} {idx : Nat} (h : en_WD s) (h1 : rm_X3_planGroups.frames + 1 ≤ R.frames) (h2 : 8 + (2 + 11) + rm_X3_planGroups.locals ≤ R.locals) (hl : (Jvm.Cond.methodLink own idx yX3_planGroups).before args s = true ∨ ∃ host, (Jvm.Cond.methodLinkNest own idx yX3_planGroups host).before args s = true) : en_mok en_WD D vwCl dT l R s args own (idx, 1, 5, 0, 0, f_X3_planGroups) :=
  ⟨yX3_planGroups, cX3_planGroups, 2, none, rm_X3_planGroups, 0, ct_X3_planGroups D dT l, rfl, rfl, h1, h2, en_wd h 359 rfl rfl args, en_wd h 62 (by decide +kernel) rfl args, by decide, by decide, hl, ⟨RX3, TX3, 8, rfl, en_wd h 358 (by decide +kernel) rfl args, en_wd h 5 (by decide +kernel) rfl args, rfl⟩⟩
end
section
/-! SplitLeaks$Splitter: by times; the plan by its kind -/
/-- by times: the things; the parts before the gap -/
def tO (T : Nat → Int32) (n : Nat) (o16 : Nat → Int32) : Nat → Int32 := srt T (mx n nI o16) n
def tPl (T : Nat → Int32) (w : Nat → Nat) (W k n : Nat) (o16 o15 : Nat → Int32) : Nat → Int32 := jn T (tO T n o16) (dl (tO T n o16) (fun a => nI (pt (qf w W k n) a k)) o15 n) (n - 1)
/-- is a row in a gap -/
abbrev ingap (T La : Nat → Int32) (g : Int32) (r c : Nat) : Prop := fs (fun p => La p ≠ -1 ∧ T r < La p + g) c ≠ none
def PL2 (T : Nat → Int32) (w : Nat → Nat) (W k n : Nat) (g : Int32) (o16 o15 o18 : Nat → Int32) : Nat → Int32 :=
  mx n (fun r => if ingap T (lat T (tPl T w W k n o16 o15) o18 n) g r (tn (tPl T w W k n o16 o15 r)) then -1 else tPl T w W k n o16 o15 r) (tPl T w W k n o16 o15)
theorem tO_v {T : Nat → Int32} {n : Nat} (hn : n ≤ 100) {o16 : Nat → Int32} : vld (tO T n o16) n n := srt_v T (mx_v (Nat.le_refl n)) n (Nat.le_refl n)
theorem tO_cov {T : Nat → Int32} {n : Nat} {o16 : Nat → Int32} : cov (tO T n o16) n := fun r hr => by
  obtain ⟨i, hi, h⟩ := srt_cov T (mx n nI o16) n r hr
  exact ⟨i, hi, h.trans (mx_lt hr)⟩
theorem tPl_in {T : Nat → Int32} {w : Nat → Nat} {W k n : Nat} {o16 o15 : Nat → Int32} (hk : 0 < k) (hn : n ≤ 100) : ∀ r, r < n → ∃ c, c < k ∧ tPl T w W k n o16 o15 r = nI c := by
  intro r hr
  have hv := tO_v (T := T) hn (o16 := o16)
  refine jn_in (P := fun x => ∃ c, c < k ∧ x = nI c) (n := n) (fun r hr => ?_) (n - 1) (fun j hj => (vld_lt hv (by omega) (by omega)).1) r hr
  obtain ⟨i, hi, h⟩ := tO_cov (T := T) (o16 := o16) r hr
  obtain ⟨q, hq, e⟩ := dl_hit (O := tO T n o16) (g := fun a => nI (pt (qf w W k n) a k)) (old := o15) (m := n) (r := r) ⟨i, hi, by rw [h]; exact nI_clamp (by omega)⟩
  exact ⟨_, pt_lt hk, e⟩
def f_X3_planTimes := en_f (σ := (Nat → Nat) × Nat × Nat × Nat × Int32 × Sx) (fun x => [.ref 13, .int x.2.2.2.2.1]) (fun x => wX x.2.2.2.2.2) (fun x => wgt x.2.2.2.2.2 x.1 x.2.1 x.2.2.1 ∧ x.2.2.2.1 ≤ 100 ∧ x.2.2.2.2.2.1 1 = nI x.2.2.2.1) (fun x v w => v = none ∧ ∃ S', w = wX S' ∧ kept x.2.2.2.2.2 S' ∧ S'.2.2.1 15 = PL2 (x.2.2.2.2.2.2.2.1 4) x.1 x.2.1 x.2.2.1 x.2.2.2.1 x.2.2.2.2.1 (x.2.2.2.2.2.2.2.1 16) (x.2.2.2.2.2.2.2.1 15) (x.2.2.2.2.2.2.2.1 18))
def rm_X3_planTimes : Room := { frames := 3, cells := 0, slots := 0, locals := 69 }
def t_X3_planTimes : en_T := ((3, 0, 0), tb_X3_planTimes, fl_X3, cn_X3, [(79, 1, 5, 0, 0, f_X3_gatherAll), (99, 1, 5, 0, 0, f_X3_sortByTime), (86, 1, 5, 0, 0, f_X3_fillByQuotas), (102, 1, 5, 0, 0, f_X3_joinLikeTimes), (105, 1, 5, 0, 0, f_X3_findLatest), (108, 3, 5, 0, 0, f_X3_isInGap)], [], 0, none)
set_option maxRecDepth 100000 in
theorem tB_X3_planTimes (D : va_G) (dT : Nat → Nat) (l : Launch) : en_TB en_WD D vwCl dT l rm_X3_planTimes t_X3_planTimes RX3 "planTimes" cX3_planTimes := ⟨tk_X3_planTimes, fun s args meth h hn => ⟨fo_X3 h args meth, co_X3 h args, List.forall_mem_cons.mpr ⟨mk_X3_gatherAll (own := RX3) h (Nat.le_of_ble_eq_true rfl) (Nat.le_of_ble_eq_true rfl) (Or.inl (en_wd h 337 (by decide +kernel) rfl args)), List.forall_mem_cons.mpr ⟨mk_X3_sortByTime (own := RX3) h (Nat.le_of_ble_eq_true rfl) (Nat.le_of_ble_eq_true rfl) (Or.inl (en_wd h 384 (by decide +kernel) rfl args)), List.forall_mem_cons.mpr ⟨mk_X3_fillByQuotas (own := RX3) h (Nat.le_of_ble_eq_true rfl) (Nat.le_of_ble_eq_true rfl) (Or.inl (en_wd h 351 (by decide +kernel) rfl args)), List.forall_mem_cons.mpr ⟨mk_X3_joinLikeTimes (own := RX3) h (Nat.le_of_ble_eq_true rfl) (Nat.le_of_ble_eq_true rfl) (Or.inl (en_wd h 388 (by decide +kernel) rfl args)), List.forall_mem_cons.mpr ⟨mk_X3_findLatest (own := RX3) h (Nat.le_of_ble_eq_true rfl) (Nat.le_of_ble_eq_true rfl) (Or.inl (en_wd h 392 (by decide +kernel) rfl args)), List.forall_mem_cons.mpr ⟨mk_X3_isInGap (own := RX3) h (Nat.le_of_ble_eq_true rfl) (Nat.le_of_ble_eq_true rfl) (Or.inl (en_wd h 397 (by decide +kernel) rfl args)), fun _ h => absurd h List.not_mem_nil⟩⟩⟩⟩⟩⟩, fun _ h => absurd h List.not_mem_nil, Or.inl rfl, en_arr h args⟩⟩
set_option maxHeartbeats 4000000 in
set_option maxRecDepth 100000 in
theorem bd_X3_planTimes : en_B (σ := (Nat → Nat) × Nat × Nat × Nat × Int32 × Sx) t_X3_planTimes (fun x => [.ref 13, .int x.2.2.2.2.1]) (fun x => wX x.2.2.2.2.2) (fun x => wgt x.2.2.2.2.2 x.1 x.2.1 x.2.2.1 ∧ x.2.2.2.1 ≤ 100 ∧ x.2.2.2.2.2.1 1 = nI x.2.2.2.1) (fun x v w => v = none ∧ ∃ S', w = wX S' ∧ kept x.2.2.2.2.2 S' ∧ S'.2.2.1 15 = PL2 (x.2.2.2.2.2.2.2.1 4) x.1 x.2.1 x.2.2.1 x.2.2.2.1 x.2.2.2.2.1 (x.2.2.2.2.2.2.2.1 16) (x.2.2.2.2.2.2.2.1 15) (x.2.2.2.2.2.2.2.1 18)) := by
  rintro ⟨w, W, k, n, g, S⟩ ⟨hwg, hn, h1⟩ G hG OK ⟨run, sub⟩
  dsimp only at hwg hn h1 hG ⊢
  obtain ⟨hok, hk, hW, hw⟩ := hwg
  have hpi := tPl_in (T := S.2.2.1 4) (w := w) (W := W) (k := k) (o16 := S.2.2.1 16) (o15 := S.2.2.1 15) hok.1 hn
  have hvO := vld_mono (tO_v (T := S.2.2.1 4) hn (o16 := S.2.2.1 16)) hn
  have hk4 : k ≤ 4 := hok.2.1
  refine run [22] 60 _ _ _ _ _ _ ?_
  conv => whnf
  refine ⟨(n, S), rfl, rfl, ⟨hn, h1⟩, ?_⟩
  intro v u hvu
  obtain ⟨rfl, rfl⟩ : v = none ∧ u = wX (xi (xa S 16 (mx n nI (S.2.2.1 16))) 4 (nI n)) := hvu
  conv => whnf
  refine ⟨(n, xi (xa S 16 (mx n nI (S.2.2.1 16))) 4 (nI n)), rfl, rfl, ⟨hn, rfl, mx_v hn⟩, ?_⟩
  intro v u hvu
  obtain ⟨rfl, rfl⟩ : v = none ∧ u = wX (xi (xa S 16 (tO (S.2.2.1 4) n (S.2.2.1 16))) 4 (nI n)) := hvu
  conv => whnf
  refine ⟨(w, W, k, n, xi (xa S 16 (tO (S.2.2.1 4) n (S.2.2.1 16))) 4 (nI n)), rfl, rfl, ⟨hok, hn, hk, hW, hw, rfl, hvO⟩, ?_⟩
  rintro v u ⟨hv0, q, r, hu⟩
  obtain rfl : v = none := hv0
  obtain rfl : u = wX (xa (xa (xa (xi (xa S 16 (tO (S.2.2.1 4) n (S.2.2.1 16))) 4 (nI n)) 11 q) 12 r) 15 (dl (tO (S.2.2.1 4) n (S.2.2.1 16)) (fun a => nI (pt (qf w W k n) a k)) (S.2.2.1 15) n)) := hu
  conv => whnf
  refine ⟨(n, xa (xa (xa (xi (xa S 16 (tO (S.2.2.1 4) n (S.2.2.1 16))) 4 (nI n)) 11 q) 12 r) 15 (dl (tO (S.2.2.1 4) n (S.2.2.1 16)) (fun a => nI (pt (qf w W k n) a k)) (S.2.2.1 15) n)), rfl, rfl, ⟨hn, rfl, hvO⟩, ?_⟩
  intro v u hvu
  obtain ⟨rfl, rfl⟩ : v = none ∧ u = wX (xa (xa (xa (xi (xa S 16 (tO (S.2.2.1 4) n (S.2.2.1 16))) 4 (nI n)) 11 q) 12 r) 15 (tPl (S.2.2.1 4) w W k n (S.2.2.1 16) (S.2.2.1 15))) := hvu
  unfold PL2 at hG
  generalize tPl (S.2.2.1 4) w W k n (S.2.2.1 16) (S.2.2.1 15) = Pl at hpi hG ⊢
  generalize tO (S.2.2.1 4) n (S.2.2.1 16) = O at ⊢
  conv => whnf
  refine ⟨(n, xa (xa (xa (xi (xa S 16 O) 4 (nI n)) 11 q) 12 r) 15 Pl), rfl, rfl, ⟨hn, h1⟩, ?_⟩
  intro v u hvu
  obtain ⟨rfl, rfl⟩ : v = none ∧ u = wX (xa (xa (xa (xa (xi (xa S 16 O) 4 (nI n)) 11 q) 12 r) 15 Pl) 18 (lat (S.2.2.1 4) Pl (S.2.2.1 18) n)) := hvu
  generalize lat (S.2.2.1 4) Pl (S.2.2.1 18) n = La at hG ⊢
  have loop := lp_up (fun i => OK 0 0 22 [(0, .ref 13), (1, .int g), (2, .int (nI i))] [] (wX (xa (xa (xa (xa (xi (xa S 16 O) 4 (nI n)) 11 q) 12 r) 15 (mx i (fun r => if ingap (S.2.2.1 4) La g r (tn (Pl r)) then -1 else Pl r) Pl)) 18 La))) n
    (by
      refine run [22] 60 _ _ _ _ _ _ ?_
      conv => whnf
      refine pk_le n n (fun h => ?_) (fun h => absurd h (by omega)) h1
      conv => whnf
      exact hG _ _ ⟨rfl, _, rfl, kept_tr (kept_tr (kept_tr (kept_tr (kept_tr (kept_a (by omega)) kept_i) (kept_a (by omega))) (kept_a (by omega))) (kept_a (by omega))) (kept_a (by omega)), rfl⟩)
    (fun i hi ih => by
      obtain ⟨c, hc, hce⟩ := hpi i hi
      have htc : tn (Pl i) = c := by rw [hce]; exact nI_clamp (by omega)
      rw [nI_succ] at ih
      have hmi : mx i (fun r => if ingap (S.2.2.1 4) La g r (tn (Pl r)) then -1 else Pl r) Pl i = nI c := (mx_ge (Nat.le_refl i)).trans hce
      refine run [22] 60 _ _ _ _ _ _ ?_
      conv => whnf
      refine pk_le n i (fun h => absurd h (by omega)) (fun h => ?_) h1
      conv => whnf
      refine ⟨(i, g, c, xa (xa (xa (xa (xi (xa S 16 O) 4 (nI n)) 11 q) 12 r) 15 (mx i (fun r => if ingap (S.2.2.1 4) La g r (tn (Pl r)) then -1 else Pl r) Pl)) 18 La), rfl, rfl, ⟨by dsimp only; omega, by dsimp only; omega, hmi⟩, ?_⟩
      intro v u hvu
      obtain ⟨rfl, rfl⟩ : v = some (.int (bl (ingap (S.2.2.1 4) La g i c))) ∧ u = wX (xa (xa (xa (xa (xi (xa S 16 O) 4 (nI n)) 11 q) 12 r) 15 (mx i (fun r => if ingap (S.2.2.1 4) La g r (tn (Pl r)) then -1 else Pl r) Pl)) 18 La) := hvu
      rw [← mx_s] at ih
      try dsimp only at ih
      rw [htc] at ih
      conv => whnf
      refine bl_br (fun hq => ?_) (fun hq => ?_)
      · conv => whnf
        rw [if_neg hq] at ih
        have e : upd (mx i (fun r => if ingap (S.2.2.1 4) La g r (tn (Pl r)) then -1 else Pl r) Pl) i (Pl i) = mx i (fun r => if ingap (S.2.2.1 4) La g r (tn (Pl r)) then -1 else Pl r) Pl := by
          have := upd_id (mx i (fun r => if ingap (S.2.2.1 4) La g r (tn (Pl r)) then -1 else Pl r) Pl) i
          rw [mx_ge (Nat.le_refl i)] at this
          exact this
        rw [e] at ih
        exact ih
      · conv => whnf
        refine ⟨vp_in_nI (by omega) (by decide), ?_⟩
        rw [nI_clamp (by omega)]
        conv => whnf
        rw [if_pos hq] at ih
        exact ih)
  conv => whnf
  have h0 := loop 0 (by omega)
  rw [mx_0] at h0
  exact h0
theorem ct_X3_planTimes (D : va_G) (dT : Nat → Nat) (l : Launch) : en_CT en_WD D vwCl dT l yX3_planTimes cX3_planTimes 3 (none) rm_X3_planTimes f_X3_planTimes := en_met en_WD1 en_WD2 (by decide) rfl rfl (tB_X3_planTimes D dT l) (en_f_ln (fun _ => Nat.le_of_ble_eq_true rfl)) (en_f_bd bd_X3_planTimes)
set_option maxRecDepth 100000 in
theorem mk_X3_planTimes {D : va_G} {dT : Nat → Nat} {l : Launch} {R : Room} {s : State} {args : Array Value} {own : String} {idx : Nat} (h : en_WD s) (h1 : rm_X3_planTimes.frames + 1 ≤ R.frames) (h2 : 8 + (3 + 11) + rm_X3_planTimes.locals ≤ R.locals) (hl : (Jvm.Cond.methodLink own idx yX3_planTimes).before args s = true ∨ ∃ host, (Jvm.Cond.methodLinkNest own idx yX3_planTimes host).before args s = true) : en_mok en_WD D vwCl dT l R s args own (idx, 2, 5, 0, 0, f_X3_planTimes) :=
  ⟨yX3_planTimes, cX3_planTimes, 3, none, rm_X3_planTimes, 1, ct_X3_planTimes D dT l, rfl, rfl, h1, h2, en_wd h 383 rfl rfl args, en_wd h 62 (by decide +kernel) rfl args, by decide, by decide, hl, ⟨RX3, TX3, 8, rfl, en_wd h 382 (by decide +kernel) rfl args, en_wd h 10 (by decide +kernel) rfl args, rfl⟩⟩
/-- what is planned, by its kind -/
def PLN (S : Sx) (w : Nat → Nat) (W k n : Nat) (kind : Nat) (z : Int64) (g : Int32) : Nat → Int32 := match kind with
  | 0 => PL0 w W k n z (S.2.2.1 16) (S.2.2.1 15)
  | 1 => PL1 (S.2.2.1 2) (S.2.2.1 10) (S.1 3) k n z (S.2.2.1 16) (S.2.2.1 15) (S.2.2.1 17)
  | 2 => PL2 (S.2.2.1 4) w W k n g (S.2.2.1 16) (S.2.2.1 15) (S.2.2.1 18)
  | _ => (lst (S.2.2.1 3) w W k n z (S.2.2.1 16) (S.2.2.1 15) 5).2.2
theorem nI_int {a : Nat} (h : a < 2 ^ 31) {i : Int} (e : (nI a).toInt = i) : (a : Int) = i := by rw [nI_toInt h] at e; exact e
def f_X3_plan := en_f (σ := Nat × Int64 × Int32 × (Nat → Nat) × Nat × Nat × Nat × Sx) (fun x => [.ref 13, .int (nI x.1), .long x.2.1, .int x.2.2.1]) (fun x => wX x.2.2.2.2.2.2.2) (fun x => x.1 ≤ 3 ∧ wgt x.2.2.2.2.2.2.2 x.2.2.2.1 x.2.2.2.2.1 x.2.2.2.2.2.1 ∧ x.2.2.2.2.2.2.1 ≤ 100 ∧ x.2.2.2.2.2.2.2.1 1 = nI x.2.2.2.2.2.2.1) (fun x v w => v = none ∧ ∃ S', w = wX S' ∧ kept x.2.2.2.2.2.2.2 S' ∧ S'.2.2.1 15 = PLN x.2.2.2.2.2.2.2 x.2.2.2.1 x.2.2.2.2.1 x.2.2.2.2.2.1 x.2.2.2.2.2.2.1 x.1 x.2.1 x.2.2.1)
def rm_X3_plan : Room := { frames := 4, cells := 0, slots := 0, locals := 91 }
def t_X3_plan : en_T := ((5, 0, 0), tb_X3_plan, fl_X3, cn_X3, [(51, 2, 2, 0, 0, f_X0_start), (55, 1, 5, 0, 0, f_X3_planPlain), (58, 1, 5, 0, 0, f_X3_planGroups), (61, 2, 5, 0, 0, f_X3_planTimes), (65, 1, 5, 0, 0, f_X3_planLabels)], [], 0, none)
set_option maxRecDepth 100000 in
theorem tB_X3_plan (D : va_G) (dT : Nat → Nat) (l : Launch) : en_TB en_WD D vwCl dT l rm_X3_plan t_X3_plan RX3 "plan" cX3_plan := ⟨tk_X3_plan, fun s args meth h hn => ⟨fo_X3 h args meth, co_X3 h args, List.forall_mem_cons.mpr ⟨mk_X0_start (own := RX3) h (Nat.le_of_ble_eq_true rfl) (Nat.le_of_ble_eq_true rfl) (Or.inl (en_wd h 329 (by decide +kernel) rfl args)), List.forall_mem_cons.mpr ⟨mk_X3_planPlain (own := RX3) h (Nat.le_of_ble_eq_true rfl) (Nat.le_of_ble_eq_true rfl) (Or.inl (en_wd h 333 (by decide +kernel) rfl args)), List.forall_mem_cons.mpr ⟨mk_X3_planGroups (own := RX3) h (Nat.le_of_ble_eq_true rfl) (Nat.le_of_ble_eq_true rfl) (Or.inl (en_wd h 356 (by decide +kernel) rfl args)), List.forall_mem_cons.mpr ⟨mk_X3_planTimes (own := RX3) h (Nat.le_of_ble_eq_true rfl) (Nat.le_of_ble_eq_true rfl) (Or.inl (en_wd h 380 (by decide +kernel) rfl args)), List.forall_mem_cons.mpr ⟨mk_X3_planLabels (own := RX3) h (Nat.le_of_ble_eq_true rfl) (Nat.le_of_ble_eq_true rfl) (Or.inl (en_wd h 401 (by decide +kernel) rfl args)), fun _ h => absurd h List.not_mem_nil⟩⟩⟩⟩⟩, fun _ h => absurd h List.not_mem_nil, Or.inl rfl, en_arr h args⟩⟩
set_option maxHeartbeats 4000000 in
set_option maxRecDepth 100000 in
theorem bd_X3_plan : en_B (σ := Nat × Int64 × Int32 × (Nat → Nat) × Nat × Nat × Nat × Sx) t_X3_plan (fun x => [.ref 13, .int (nI x.1), .long x.2.1, .int x.2.2.1]) (fun x => wX x.2.2.2.2.2.2.2) (fun x => x.1 ≤ 3 ∧ wgt x.2.2.2.2.2.2.2 x.2.2.2.1 x.2.2.2.2.1 x.2.2.2.2.2.1 ∧ x.2.2.2.2.2.2.1 ≤ 100 ∧ x.2.2.2.2.2.2.2.1 1 = nI x.2.2.2.2.2.2.1) (fun x v w => v = none ∧ ∃ S', w = wX S' ∧ kept x.2.2.2.2.2.2.2 S' ∧ S'.2.2.1 15 = PLN x.2.2.2.2.2.2.2 x.2.2.2.1 x.2.2.2.2.1 x.2.2.2.2.2.1 x.2.2.2.2.2.2.1 x.1 x.2.1 x.2.2.1) := by
  rintro ⟨kd, z, g, w, W, k, n, S⟩ ⟨hkd, hwg, hn, h1⟩ G hG OK ⟨run, sub⟩
  dsimp only at hkd hwg hn h1 hG ⊢
  refine run [] 60 _ _ _ _ _ _ ?_
  conv => whnf
  refine ⟨(z, S), rfl, rfl, trivial, ?_⟩
  intro v u hvu
  obtain ⟨rfl, rfl⟩ : v = none ∧ u = wX (xz S z) := hvu
  conv => whnf
  refine ⟨fun h => ?_, fun h => ?_, fun h => ?_, fun h => ?_, trivial⟩
  · have hk3 : kd = 3 := by
      rw [nI_toInt (by omega)] at h
      omega
    subst hk3
    conv => whnf
    refine ⟨(w, W, k, n, xz S z), rfl, rfl, ⟨wgt_k hwg kept_z, hn, h1⟩, ?_⟩
    rintro v u ⟨hv0, S', hu, hS', h15⟩
    obtain rfl : v = none := hv0
    subst hu
    conv => whnf
    exact hG _ _ ⟨rfl, S', rfl, kept_tr kept_z hS', h15⟩
  · have hk0 : kd = 0 := by have := nI_int (by omega) h; omega
    subst hk0
    conv => whnf
    refine ⟨(w, W, k, n, xz S z), rfl, rfl, ⟨wgt_k hwg kept_z, hn, h1⟩, ?_⟩
    rintro v u ⟨hv0, S', hu, hS', h15⟩
    obtain rfl : v = none := hv0
    subst hu
    conv => whnf
    exact hG _ _ ⟨rfl, S', rfl, kept_tr kept_z hS', h15⟩
  · have hk1 : kd = 1 := by have := nI_int (by omega) h; omega
    subst hk1
    conv => whnf
    refine ⟨(k, n, xz S z), rfl, rfl, ⟨hwg.1.1, hwg.1.2.1, hwg.2.1, hn, h1⟩, ?_⟩
    rintro v u ⟨hv0, S', hu, hS', h15⟩
    obtain rfl : v = none := hv0
    subst hu
    conv => whnf
    exact hG _ _ ⟨rfl, S', rfl, kept_tr kept_z hS', h15⟩
  · have hk2 : kd = 2 := by have := nI_int (by omega) h; omega
    subst hk2
    conv => whnf
    refine ⟨(w, W, k, n, g, xz S z), rfl, rfl, ⟨wgt_k hwg kept_z, hn, h1⟩, ?_⟩
    rintro v u ⟨hv0, S', hu, hS', h15⟩
    obtain rfl : v = none := hv0
    subst hu
    conv => whnf
    exact hG _ _ ⟨rfl, S', rfl, kept_tr kept_z hS', h15⟩
theorem ct_X3_plan (D : va_G) (dT : Nat → Nat) (l : Launch) : en_CT en_WD D vwCl dT l yX3_plan cX3_plan 5 (none) rm_X3_plan f_X3_plan := en_met en_WD1 en_WD2 (by decide) rfl rfl (tB_X3_plan D dT l) (en_f_ln (fun _ => Nat.le_of_ble_eq_true rfl)) (en_f_bd bd_X3_plan)
set_option maxRecDepth 100000 in
theorem mk_X3_plan {D : va_G} {dT : Nat → Nat} {l : Launch} {R : Room} {s : State} {args : Array Value} {own : String} {idx : Nat} (h : en_WD s) (h1 : rm_X3_plan.frames + 1 ≤ R.frames) (h2 : 8 + (5 + 11) + rm_X3_plan.locals ≤ R.locals) (hl : (Jvm.Cond.methodLink own idx yX3_plan).before args s = true ∨ ∃ host, (Jvm.Cond.methodLinkNest own idx yX3_plan host).before args s = true) : en_mok en_WD D vwCl dT l R s args own (idx, 4, 5, 0, 0, f_X3_plan) :=
  ⟨yX3_plan, cX3_plan, 5, none, rm_X3_plan, 3, ct_X3_plan D dT l, rfl, rfl, h1, h2, en_wd h 328 rfl rfl args, en_wd h 62 (by decide +kernel) rfl args, by decide, by decide, hl, ⟨RX3, TX3, 8, rfl, en_wd h 326 (by decide +kernel) rfl args, en_wd h 327 (by decide +kernel) rfl args, rfl⟩⟩
end
section
/-! java.lang.Long.bitCount: its names and rows -/
def RJL : String := "java/lang/Long"
abbrev cJL_bitCount : ByteArray := prog_14_method_50_code
def yJL_bitCount : MethodName := ⟨RJL, "bitCount", "(J)I"⟩
def tb_JL_bitCount : List en_I := [(0, .lload_n 0, 1, []), (1, .lload_n 0, 2, []), (2, .iconst 1, 3, []), (3, .lushr, 4, []), (4, .ldc2_w 314, 7, []), (7, .land, 8, []), (8, .lsub, 9, []), (9, .lstore_n 0, 10, []), (10, .lload_n 0, 11, []), (11, .ldc2_w 316, 14, []), (14, .land, 15, []), (15, .lload_n 0, 16, []), (16, .iconst 2, 17, []), (17, .lushr, 18, []), (18, .ldc2_w 316, 21, []), (21, .land, 22, []), (22, .ladd, 23, []), (23, .lstore_n 0, 24, []), (24, .lload_n 0, 25, []), (25, .lload_n 0, 26, []), (26, .iconst 4, 27, []), (27, .lushr, 28, []), (28, .ladd, 29, []), (29, .ldc2_w 318, 32, []), (32, .land, 33, []), (33, .lstore_n 0, 34, []), (34, .lload_n 0, 35, []), (35, .lload_n 0, 36, []), (36, .bipush 8, 38, []), (38, .lushr, 39, []), (39, .ladd, 40, []), (40, .lstore_n 0, 41, []), (41, .lload_n 0, 42, []), (42, .lload_n 0, 43, []), (43, .bipush 16, 45, []), (45, .lushr, 46, []), (46, .ladd, 47, []), (47, .lstore_n 0, 48, []), (48, .lload_n 0, 49, []), (49, .lload_n 0, 50, []), (50, .bipush 32, 52, []), (52, .lushr, 53, []), (53, .ladd, 54, []), (54, .lstore_n 0, 55, []), (55, .lload_n 0, 56, []), (56, .l2i, 57, []), (57, .bipush 127, 59, []), (59, .iand, 60, []), (60, .ireturn, 61, [])]
set_option maxRecDepth 100000 in
theorem tk_JL_bitCount : ∀ q ∈ tb_JL_bitCount, decode cJL_bitCount q.1 = .ok (q.2.1, q.2.2.1 - q.1) ∧ en_ck q = true := by decide +kernel
def cn_JL : List (Nat × Value) := [(314, .long (6148914691236517205)), (316, .long (3689348814741910323)), (318, .long (1085102592571150095))]
theorem co_JL {s : State} (h : en_WD s) (args : Array Value) : ∀ q ∈ cn_JL, en_cok s args RJL q := List.forall_mem_cons.mpr ⟨en_wd h 292 (by decide +kernel) rfl args, List.forall_mem_cons.mpr ⟨en_wd h 293 (by decide +kernel) rfl args, List.forall_mem_cons.mpr ⟨en_wd h 294 (by decide +kernel) rfl args, fun _ h => absurd h List.not_mem_nil⟩⟩⟩
/-- how many bits are set -/
def pc (x : Int64) : Nat := ct (fun i => x.toBitVec.toNat.testBit i = true) 64
/-- the ways of Long.bitCount -/
def pc1 (x : Int64) : Int64 := x - ((x.toUInt64 >>> ((Int32.ofInt 1).toInt64.toUInt64 &&& Int64.toUInt64 63)).toInt64 &&& 6148914691236517205)
def pc2 (x : Int64) : Int64 := (x &&& 3689348814741910323) + ((x.toUInt64 >>> ((Int32.ofInt 2).toInt64.toUInt64 &&& Int64.toUInt64 63)).toInt64 &&& 3689348814741910323)
def pc3 (x : Int64) : Int64 := (x + (x.toUInt64 >>> ((Int32.ofInt 4).toInt64.toUInt64 &&& Int64.toUInt64 63)).toInt64) &&& 1085102592571150095
def pcs (k : Int32) (x : Int64) : Int64 := x + (x.toUInt64 >>> (k.toInt64.toUInt64 &&& Int64.toUInt64 63)).toInt64
def pcr (x : Int64) : Int32 := (pcs (Int8.ofInt 32).toInt32 (pcs (Int8.ofInt 16).toInt32 (pcs (Int8.ofInt 8).toInt32 (pc3 (pc2 (pc1 x)))))).toInt32 &&& (Int8.ofInt 127).toInt32
def f_JL_bitCount := en_f (σ := Int64 × List va_E) (fun x => [.long x.1]) (fun x => x.2) (fun _ => True) (fun x v w => v = some (.int (pcr x.1)) ∧ w = x.2)
def rm_JL_bitCount : Room := { frames := 0, cells := 0, slots := 0, locals := 0 }
def t_JL_bitCount : en_T := ((2, 0, 0), tb_JL_bitCount, [], cn_JL, [], [], 0, some .int)
set_option maxRecDepth 100000 in
theorem tB_JL_bitCount (D : va_G) (dT : Nat → Nat) (l : Launch) : en_TB en_WD D vwCl dT l rm_JL_bitCount t_JL_bitCount RJL "bitCount" cJL_bitCount := ⟨tk_JL_bitCount, fun s args meth h hn => ⟨fun _ h => absurd h List.not_mem_nil, co_JL h args, fun _ h => absurd h List.not_mem_nil, fun _ h => absurd h List.not_mem_nil, Or.inl rfl, en_arr h args⟩⟩
set_option maxHeartbeats 4000000 in
set_option maxRecDepth 100000 in
theorem bd_JL_bitCount : en_B (σ := Int64 × List va_E) t_JL_bitCount (fun x => [.long x.1]) (fun x => x.2) (fun _ => True) (fun x v w => v = some (.int (pcr x.1)) ∧ w = x.2) := by
  rintro ⟨x, ws⟩ - G hG OK ⟨run, sub⟩
  dsimp only at hG ⊢
  refine run [] 80 _ _ _ _ _ _ ?_
  conv => whnf
  exact hG _ _ ⟨rfl, rfl⟩
theorem ct_JL_bitCount (D : va_G) (dT : Nat → Nat) (l : Launch) : en_CT en_WD D vwCl dT l yJL_bitCount cJL_bitCount 2 (some .int) rm_JL_bitCount f_JL_bitCount := en_met en_WD1 en_WD2 (by decide) rfl rfl (tB_JL_bitCount D dT l) (en_f_ln (fun _ => Nat.le_of_ble_eq_true rfl)) (en_f_bd bd_JL_bitCount)
set_option maxRecDepth 100000 in
theorem mk_JL_bitCount {D : va_G} {dT : Nat → Nat} {l : Launch} {R : Room} {s : State} {args : Array Value} {own : String} {idx : Nat} (h : en_WD s) (h1 : rm_JL_bitCount.frames + 1 ≤ R.frames) (h2 : 8 + (2 + 11) + rm_JL_bitCount.locals ≤ R.locals) (hl : (Jvm.Cond.methodLink own idx yJL_bitCount).before args s = true ∨ ∃ host, (Jvm.Cond.methodLinkNest own idx yJL_bitCount host).before args s = true) : en_mok en_WD D vwCl dT l R s args own (idx, 1, 0, 0, 0, f_JL_bitCount) :=
  ⟨yJL_bitCount, cJL_bitCount, 2, some .int, rm_JL_bitCount, 1, ct_JL_bitCount D dT l, rfl, rfl, h1, h2, en_wd h 291 rfl rfl args, en_wd h 67 (by decide +kernel) rfl args, by decide, by decide, hl, ⟨en_wd h 290 (by decide +kernel) rfl args, rfl⟩⟩
end
section
/-! SplitLeaks$Finder: pairs, groups, late ones, fitted ones -/
/-- a leak is told: found, first, second -/
def tk (wt : Int32) (s : Int32 × Int32 × Int32) (a b : Int32) : Int32 × Int32 × Int32 := (s.1 + 1, if s.1 = wt then a else s.2.1, if s.1 = wt then b else s.2.2)
def tks (wt : Int32) (s : Int32 × Int32 × Int32) (L : List (Int32 × Int32)) : Int32 × Int32 × Int32 := L.foldl (fun s ab => tk wt s ab.1 ab.2) s
theorem tks_app {wt : Int32} {s : Int32 × Int32 × Int32} {L M : List (Int32 × Int32)} : tks wt s (L ++ M) = tks wt (tks wt s L) M := List.foldl_append
theorem tks_1 {wt : Int32} {s : Int32 × Int32 × Int32} {a b : Int32} : tks wt s [(a, b)] = tk wt s a b := rfl
theorem tks_0 {wt : Int32} {s : Int32 × Int32 × Int32} : tks wt s [] = s := rfl
/-- lists, one behind another -/
def lsn (f : Nat → List (Int32 × Int32)) : Nat → List (Int32 × Int32)
  | 0 => []
  | n + 1 => lsn f n ++ f n
/-- one, if p -/
def ifl (p : Prop) [Decidable p] (a b : Int32) : List (Int32 × Int32) := if p then [(a, b)] else []
theorem ifl_t {p : Prop} [Decidable p] {a b : Int32} (h : p) : ifl p a b = [(a, b)] := if_pos h
theorem ifl_f {p : Prop} [Decidable p] {a b : Int32} (h : ¬ p) : ifl p a b = [] := if_neg h
def xf (S : Sx) (f : Int32 × Int32 × Int32) : Sx := xi (xi (xi S 6 f.1) 7 f.2.1) 8 f.2.2
abbrev s3 (S : Sx) : Int32 × Int32 × Int32 := (S.1 6, S.1 7, S.1 8)
def f_X1_take := en_f (σ := Int32 × Int32 × Sx) (fun x => [.ref 23, .int x.1, .int x.2.1]) (fun x => wX x.2.2) (fun _ => True) (fun x v w => v = none ∧ w = wX (xf x.2.2 (tk (x.2.2.1 5) (s3 x.2.2) x.1 x.2.1)))
def rm_X1_take : Room := { frames := 0, cells := 0, slots := 0, locals := 0 }
def t_X1_take : en_T := ((3, 0, 0), tb_X1_take, fl_X1, cn_X1, [], [], 0, none)
set_option maxRecDepth 100000 in
theorem tB_X1_take (D : va_G) (dT : Nat → Nat) (l : Launch) : en_TB en_WD D vwCl dT l rm_X1_take t_X1_take RX1 "take" cX1_take := ⟨tk_X1_take, fun s args meth h hn => ⟨fo_X1 h args meth, co_X1 h args, fun _ h => absurd h List.not_mem_nil, fun _ h => absurd h List.not_mem_nil, Or.inl rfl, en_arr h args⟩⟩
set_option maxHeartbeats 4000000 in
set_option maxRecDepth 100000 in
theorem bd_X1_take : en_B (σ := Int32 × Int32 × Sx) t_X1_take (fun x => [.ref 23, .int x.1, .int x.2.1]) (fun x => wX x.2.2) (fun _ => True) (fun x v w => v = none ∧ w = wX (xf x.2.2 (tk (x.2.2.1 5) (s3 x.2.2) x.1 x.2.1))) := by
  rintro ⟨a, b, S⟩ - G hG OK ⟨run, sub⟩
  dsimp only at hG ⊢
  refine run [] 60 _ _ _ _ _ _ ?_
  conv => whnf
  refine ⟨fun h => ?_, fun h => ?_⟩
  · conv => whnf
    refine hG _ _ ⟨rfl, ?_⟩
    unfold tk
    rw [if_neg h, if_neg h]
    rfl
  · conv => whnf
    refine hG _ _ ⟨rfl, ?_⟩
    unfold tk
    rw [if_pos h, if_pos h]
    rfl
theorem ct_X1_take (D : va_G) (dT : Nat → Nat) (l : Launch) : en_CT en_WD D vwCl dT l yX1_take cX1_take 3 (none) rm_X1_take f_X1_take := en_met en_WD1 en_WD2 (by decide) rfl rfl (tB_X1_take D dT l) (en_f_ln (fun _ => Nat.le_of_ble_eq_true rfl)) (en_f_bd bd_X1_take)
set_option maxRecDepth 100000 in
theorem mk_X1_take {D : va_G} {dT : Nat → Nat} {l : Launch} {R : Room} {s : State} {args : Array Value} {own : String} {idx : Nat} (h : en_WD s) (h1 : rm_X1_take.frames + 1 ≤ R.frames) (h2 : 8 + (3 + 11) + rm_X1_take.locals ≤ R.locals) (hl : (Jvm.Cond.methodLink own idx yX1_take).before args s = true ∨ ∃ host, (Jvm.Cond.methodLinkNest own idx yX1_take host).before args s = true) : en_mok en_WD D vwCl dT l R s args own (idx, 3, 3, 0, 0, f_X1_take) :=
  ⟨yX1_take, cX1_take, 3, none, rm_X1_take, 2, ct_X1_take D dT l, rfl, rfl, h1, h2, en_wd h 539 rfl rfl args, en_wd h 65 (by decide +kernel) rfl args, by decide, by decide, hl, ⟨RX1, TX1, 6, rfl, en_wd h 538 (by decide +kernel) rfl args, en_wd h 21 (by decide +kernel) rfl args, rfl⟩⟩
/-- near, but not alike -/
abbrev nearq (N Wd : Nat → Int64) (nn : Int32) (a b : Nat) : Prop := Wd a ≠ 0 ∧ Wd b ≠ 0 ∧ ¬ alike N Wd a b ∧ ¬ pcr (Wd a &&& Wd b) * (Int8.ofInt 100).toInt32 < nn * pcr (Wd a ||| Wd b)
def f_X1_areNear := en_f (σ := Nat × Nat × Int32 × Sx) (fun x => [.ref 23, .int (nI x.1), .int (nI x.2.1), .int x.2.2.1]) (fun x => wX x.2.2.2) (fun x => x.1 < 100 ∧ x.2.1 < 100) (fun x v w => v = some (.int (bl (nearq (x.2.2.2.2.2.2 6) (x.2.2.2.2.2.2 7) x.2.2.1 x.1 x.2.1))) ∧ w = wX x.2.2.2)
def rm_X1_areNear : Room := { frames := 2, cells := 0, slots := 0, locals := 46 }
def t_X1_areNear : en_T := ((8, 0, 0), tb_X1_areNear, fl_X1, cn_X1, [(57, 3, 4, 0, 0, f_X2_areAlike), (71, 1, 0, 0, 0, f_JL_bitCount)], [], 0, some .boolean)
set_option maxRecDepth 100000 in
theorem tB_X1_areNear (D : va_G) (dT : Nat → Nat) (l : Launch) : en_TB en_WD D vwCl dT l rm_X1_areNear t_X1_areNear RX1 "areNear" cX1_areNear := ⟨tk_X1_areNear, fun s args meth h hn => ⟨fo_X1 h args meth, co_X1 h args, List.forall_mem_cons.mpr ⟨mk_X2_areAlike (own := RX1) h (Nat.le_of_ble_eq_true rfl) (Nat.le_of_ble_eq_true rfl) (Or.inl (en_wd h 523 (by decide +kernel) rfl args)), List.forall_mem_cons.mpr ⟨mk_JL_bitCount (own := RX1) h (Nat.le_of_ble_eq_true rfl) (Nat.le_of_ble_eq_true rfl) (Or.inl (en_wd h 535 (by decide +kernel) rfl args)), fun _ h => absurd h List.not_mem_nil⟩⟩, fun _ h => absurd h List.not_mem_nil, Or.inl rfl, en_arr h args⟩⟩
set_option maxHeartbeats 4000000 in
set_option maxRecDepth 100000 in
theorem bd_X1_areNear : en_B (σ := Nat × Nat × Int32 × Sx) t_X1_areNear (fun x => [.ref 23, .int (nI x.1), .int (nI x.2.1), .int x.2.2.1]) (fun x => wX x.2.2.2) (fun x => x.1 < 100 ∧ x.2.1 < 100) (fun x v w => v = some (.int (bl (nearq (x.2.2.2.2.2.2 6) (x.2.2.2.2.2.2 7) x.2.2.1 x.1 x.2.1))) ∧ w = wX x.2.2.2) := by
  rintro ⟨a, b, nn, S⟩ ⟨ha, hb⟩ G hG OK ⟨run, sub⟩
  dsimp only at ha hb hG ⊢
  refine run [] 80 _ _ _ _ _ _ ?_
  conv => whnf
  refine ⟨vp_in_nI ha (by decide), ?_⟩
  rw [nI_clamp (by omega)]
  conv => whnf
  refine ⟨vp_in_nI hb (by decide), ?_⟩
  rw [nI_clamp (by omega)]
  conv => whnf
  refine lc_br (fun h1 => ?_) (fun h1 => ?_)
  · conv => whnf
    exact ⟨rfl, hG _ _ ⟨bl_af (fun z => z.1 h1) rfl, rfl⟩⟩
  · conv => whnf
    refine lc_br (fun h2 => ?_) (fun h2 => ?_)
    · conv => whnf
      exact ⟨rfl, hG _ _ ⟨bl_af (fun z => z.2.1 h2) rfl, rfl⟩⟩
    · conv => whnf
      refine ⟨(a, b, S), rfl, rfl, ⟨ha, hb⟩, ?_⟩
      rintro _ _ ⟨rfl, rfl⟩
      conv => whnf
      refine bl_br (fun h3 => ?_) (fun h3 => ?_)
      · conv => whnf
        refine ⟨(S.2.2.2 7 a &&& S.2.2.2 7 b, wX S), rfl, rfl, trivial, ?_⟩
        intro v u hvu
        obtain ⟨rfl, rfl⟩ : v = some (.int (pcr (S.2.2.2 7 a &&& S.2.2.2 7 b))) ∧ u = wX S := hvu
        conv => whnf
        refine ⟨(S.2.2.2 7 a ||| S.2.2.2 7 b, wX S), rfl, rfl, trivial, ?_⟩
        intro v u hvu
        obtain ⟨rfl, rfl⟩ : v = some (.int (pcr (S.2.2.2 7 a ||| S.2.2.2 7 b))) ∧ u = wX S := hvu
        conv => whnf
        refine ⟨fun h4 => ?_, fun h4 => ?_⟩
        · conv => whnf
          exact ⟨rfl, hG _ _ ⟨bl_af (fun z => z.2.2.2 h4) rfl, rfl⟩⟩
        · conv => whnf
          exact ⟨rfl, hG _ _ ⟨bl_at ⟨h1, h2, h3, h4⟩ rfl, rfl⟩⟩
      · conv => whnf
        exact ⟨rfl, hG _ _ ⟨bl_af (fun z => z.2.2.1 h3) rfl, rfl⟩⟩
theorem ct_X1_areNear (D : va_G) (dT : Nat → Nat) (l : Launch) : en_CT en_WD D vwCl dT l yX1_areNear cX1_areNear 8 (some .boolean) rm_X1_areNear f_X1_areNear := en_met en_WD1 en_WD2 (by decide) rfl rfl (tB_X1_areNear D dT l) (en_f_ln (fun _ => Nat.le_of_ble_eq_true rfl)) (en_f_bd bd_X1_areNear)
set_option maxRecDepth 100000 in
theorem mk_X1_areNear {D : va_G} {dT : Nat → Nat} {l : Launch} {R : Room} {s : State} {args : Array Value} {own : String} {idx : Nat} (h : en_WD s) (h1 : rm_X1_areNear.frames + 1 ≤ R.frames) (h2 : 8 + (8 + 11) + rm_X1_areNear.locals ≤ R.locals) (hl : (Jvm.Cond.methodLink own idx yX1_areNear).before args s = true ∨ ∃ host, (Jvm.Cond.methodLinkNest own idx yX1_areNear host).before args s = true) : en_mok en_WD D vwCl dT l R s args own (idx, 4, 3, 0, 0, f_X1_areNear) :=
  ⟨yX1_areNear, cX1_areNear, 8, some .boolean, rm_X1_areNear, 3, ct_X1_areNear D dT l, rfl, rfl, h1, h2, en_wd h 534 rfl rfl args, en_wd h 65 (by decide +kernel) rfl args, by decide, by decide, hl, ⟨RX1, TX1, 6, rfl, en_wd h 533 (by decide +kernel) rfl args, en_wd h 20 (by decide +kernel) rfl args, rfl⟩⟩
/-- leaks of the kinds 0 and 1 -/
abbrev pairq (N Wd : Nat → Int64) (P : Nat → Int32) (kd nn : Int32) (a b : Nat) : Prop := a + 1 ≤ b ∧ (P a ≠ -1 ∧ P b ≠ -1 ∧ P a ≠ P b) ∧ (if kd = 0 then alike N Wd a b else nearq N Wd nn a b)
def Lpair (N Wd : Nat → Int64) (P : Nat → Int32) (kd nn : Int32) (n : Nat) : List (Int32 × Int32) := lsn (fun a => lsn (fun b => ifl (pairq N Wd P kd nn a b) (nI a) (nI b)) n) n
theorem lsn_0 {f : Nat → List (Int32 × Int32)} : ∀ {n : Nat}, (∀ i, i < n → f i = []) → lsn f n = []
  | 0, _ => rfl
  | n + 1, h => by
    show lsn f n ++ f n = []
    rw [lsn_0 (fun i hi => h i (by omega)), h n (by omega)]
    rfl
theorem xf_s3 (S : Sx) : wX (xf S (s3 S)) = wX S := rfl
def f_X1_findPairs := en_f (σ := Nat × Int32 × Int32 × Sx) (fun x => [.ref 23, .int x.2.1, .int x.2.2.1]) (fun x => wX x.2.2.2) (fun x => x.1 ≤ 100 ∧ x.2.2.2.1 1 = nI x.1) (fun x v w => v = none ∧ w = wX (xf x.2.2.2 (tks (x.2.2.2.1 5) (s3 x.2.2.2) (Lpair (x.2.2.2.2.2.2 6) (x.2.2.2.2.2.2 7) (x.2.2.2.2.2.1 5) x.2.1 x.2.2.1 x.1))))
def rm_X1_findPairs : Room := { frames := 3, cells := 0, slots := 0, locals := 73 }
def t_X1_findPairs : en_T := ((5, 0, 0), tb_X1_findPairs, fl_X1, cn_X1, [(53, 3, 4, 0, 0, f_X2_areParted), (57, 3, 4, 0, 0, f_X2_areAlike), (60, 4, 3, 0, 0, f_X1_areNear), (64, 3, 3, 0, 0, f_X1_take)], [], 0, none)
set_option maxRecDepth 100000 in
theorem tB_X1_findPairs (D : va_G) (dT : Nat → Nat) (l : Launch) : en_TB en_WD D vwCl dT l rm_X1_findPairs t_X1_findPairs RX1 "findPairs" cX1_findPairs := ⟨tk_X1_findPairs, fun s args meth h hn => ⟨fo_X1 h args meth, co_X1 h args, List.forall_mem_cons.mpr ⟨mk_X2_areParted (own := RX1) h (Nat.le_of_ble_eq_true rfl) (Nat.le_of_ble_eq_true rfl) (Or.inl (en_wd h 519 (by decide +kernel) rfl args)), List.forall_mem_cons.mpr ⟨mk_X2_areAlike (own := RX1) h (Nat.le_of_ble_eq_true rfl) (Nat.le_of_ble_eq_true rfl) (Or.inl (en_wd h 523 (by decide +kernel) rfl args)), List.forall_mem_cons.mpr ⟨mk_X1_areNear (own := RX1) h (Nat.le_of_ble_eq_true rfl) (Nat.le_of_ble_eq_true rfl) (Or.inl (en_wd h 531 (by decide +kernel) rfl args)), List.forall_mem_cons.mpr ⟨mk_X1_take (own := RX1) h (Nat.le_of_ble_eq_true rfl) (Nat.le_of_ble_eq_true rfl) (Or.inl (en_wd h 536 (by decide +kernel) rfl args)), fun _ h => absurd h List.not_mem_nil⟩⟩⟩⟩, fun _ h => absurd h List.not_mem_nil, Or.inl rfl, en_arr h args⟩⟩
set_option maxHeartbeats 4000000 in
set_option maxRecDepth 100000 in
theorem bd_X1_findPairs : en_B (σ := Nat × Int32 × Int32 × Sx) t_X1_findPairs (fun x => [.ref 23, .int x.2.1, .int x.2.2.1]) (fun x => wX x.2.2.2) (fun x => x.1 ≤ 100 ∧ x.2.2.2.1 1 = nI x.1) (fun x v w => v = none ∧ w = wX (xf x.2.2.2 (tks (x.2.2.2.1 5) (s3 x.2.2.2) (Lpair (x.2.2.2.2.2.2 6) (x.2.2.2.2.2.2 7) (x.2.2.2.2.2.1 5) x.2.1 x.2.2.1 x.1)))) := by
  rintro ⟨n, kd, nn, S⟩ ⟨hn, h1⟩ G hG OK ⟨run, sub⟩
  dsimp only at hn h1 hG ⊢
  unfold Lpair at hG
  have outer := lp_up (fun a => OK 0 0 2 [(0, .ref 23), (1, .int kd), (2, .int nn), (3, .int (nI a))] [] (wX (xf S (tks (S.1 5) (s3 S) (lsn (fun a => lsn (fun b => ifl (pairq (S.2.2.2 6) (S.2.2.2 7) (S.2.2.1 5) kd nn a b) (nI a) (nI b)) n) a))))) n
    (by
      refine run [2] 60 _ _ _ _ _ _ ?_
      conv => whnf
      refine pk_le n n (fun h => ?_) (fun h => absurd h (by omega)) h1
      conv => whnf
      exact hG _ _ ⟨rfl, rfl⟩)
    (fun a ha iha => by
      simp only [lsn] at iha
      rw [tks_app, nI_succ] at iha
      generalize tks (S.1 5) (s3 S) (lsn (fun a => lsn (fun b => ifl (pairq (S.2.2.2 6) (S.2.2.2 7) (S.2.2.1 5) kd nn a b) (nI a) (nI b)) n) a) = Y at iha ⊢
      have inner := lp_up (fun b => a + 1 ≤ b → OK 0 0 18 [(0, .ref 23), (1, .int kd), (2, .int nn), (3, .int (nI a)), (4, .int (nI b))] [] (wX (xf S (tks (S.1 5) Y (lsn (fun b => ifl (pairq (S.2.2.2 6) (S.2.2.2 7) (S.2.2.1 5) kd nn a b) (nI a) (nI b)) b))))) n
        (fun _ => by
          refine run [2, 18] 60 _ _ _ _ _ _ ?_
          conv => whnf
          refine pk_le n n (fun h => ?_) (fun h => absurd h (by omega)) h1
          conv => whnf
          exact sub [0, 1, 2, 3] _ _ _ _ _ _ _ rfl iha)
        (fun b hb ihb hab => by
          have ihb := ihb (by omega)
          simp only [lsn] at ihb
          rw [tks_app, nI_succ] at ihb
          generalize tks (S.1 5) Y (lsn (fun b => ifl (pairq (S.2.2.2 6) (S.2.2.2 7) (S.2.2.1 5) kd nn a b) (nI a) (nI b)) b) = X at ihb ⊢
          have hno : ¬ pairq (S.2.2.2 6) (S.2.2.2 7) (S.2.2.1 5) kd nn a b → OK 0 0 18 [(0, .ref 23), (1, .int kd), (2, .int nn), (3, .int (nI a)), (4, .int (nI b + 1))] [] (wX (xf S X)) := fun h => by
            rw [ifl_f h, tks_0] at ihb; exact ihb
          refine run [2, 18] 80 _ _ _ _ _ _ ?_
          conv => whnf
          refine pk_le n b (fun h => absurd h (by omega)) (fun h => ?_) h1
          conv => whnf
          refine ⟨(a, b, xf S X), rfl, rfl, (by dsimp only; omega), ?_⟩
          intro v u hvu
          obtain ⟨rfl, rfl⟩ : v = some (.int (bl (S.2.2.1 5 a ≠ -1 ∧ S.2.2.1 5 b ≠ -1 ∧ S.2.2.1 5 a ≠ S.2.2.1 5 b))) ∧ u = wX (xf S X) := hvu
          conv => whnf
          refine bl_br (fun hp => ?_) (fun hp => ?_)
          · conv => whnf
            exact hno (fun z => hp z.2.1)
          · have htake : pairq (S.2.2.2 6) (S.2.2.2 7) (S.2.2.1 5) kd nn a b → ∀ (v : Option Value) (u : List va_E), (v = none ∧ u = wX (xf (xf S X) (tk ((xf S X).1 5) (s3 (xf S X)) (nI a) (nI b)))) → v = none ∧ OK 0 0 18 [(0, .ref 23), (1, .int kd), (2, .int nn), (3, .int (nI a)), (4, .int (nI b + 1))] [] u := fun hq v u hvu => by
              obtain ⟨rfl, rfl⟩ := hvu
              rw [ifl_t hq, tks_1] at ihb
              exact ⟨rfl, ihb⟩
            conv => whnf
            refine ⟨fun hk => ?_, fun hk => ?_⟩
            · conv => whnf
              refine ⟨(a, b, nn, xf S X), rfl, rfl, (by dsimp only; omega), ?_⟩
              intro v u hvu
              obtain ⟨rfl, rfl⟩ : v = some (.int (bl (nearq (S.2.2.2 6) (S.2.2.2 7) nn a b))) ∧ u = wX (xf S X) := hvu
              conv => whnf
              refine bl_br (fun hq => ?_) (fun hq => ?_)
              · conv => whnf
                exact hno (fun z => hq (by have := z.2.2; rw [if_neg hk] at this; exact this))
              · conv => whnf
                refine ⟨(nI a, nI b, xf S X), rfl, rfl, trivial, ?_⟩
                intro v u hvu
                obtain ⟨rfl, h2⟩ := htake ⟨hab, hp, by rw [if_neg hk]; exact hq⟩ v u hvu
                conv => whnf
                exact h2
            · conv => whnf
              refine ⟨(a, b, xf S X), rfl, rfl, (by dsimp only; omega), ?_⟩
              intro v u hvu
              obtain ⟨rfl, rfl⟩ : v = some (.int (bl (alike (S.2.2.2 6) (S.2.2.2 7) a b))) ∧ u = wX (xf S X) := hvu
              conv => whnf
              refine bl_br (fun hq => ?_) (fun hq => ?_)
              · conv => whnf
                exact hno (fun z => hq (by have := z.2.2; rw [if_pos hk] at this; exact this))
              · conv => whnf
                refine ⟨(nI a, nI b, xf S X), rfl, rfl, trivial, ?_⟩
                intro v u hvu
                obtain ⟨rfl, h2⟩ := htake ⟨hab, hp, by rw [if_pos hk]; exact hq⟩ v u hvu
                conv => whnf
                exact h2)
      have hi := inner (a + 1) (by omega) (Nat.le_refl _)
      rw [lsn_0 (fun i hi => ifl_f (fun z => by have := z.1; omega)), tks_0, nI_succ] at hi
      refine run [2, 18] 60 _ _ _ _ _ _ ?_
      conv => whnf
      refine pk_le n a (fun h => absurd h (by omega)) (fun h => ?_) h1
      conv => whnf
      exact hi)
  refine run [2] 60 _ _ _ _ _ _ ?_
  conv => whnf
  exact outer 0 (by omega)
theorem ct_X1_findPairs (D : va_G) (dT : Nat → Nat) (l : Launch) : en_CT en_WD D vwCl dT l yX1_findPairs cX1_findPairs 5 (none) rm_X1_findPairs f_X1_findPairs := en_met en_WD1 en_WD2 (by decide) rfl rfl (tB_X1_findPairs D dT l) (en_f_ln (fun _ => Nat.le_of_ble_eq_true rfl)) (en_f_bd bd_X1_findPairs)
set_option maxRecDepth 100000 in
theorem mk_X1_findPairs {D : va_G} {dT : Nat → Nat} {l : Launch} {R : Room} {s : State} {args : Array Value} {own : String} {idx : Nat} (h : en_WD s) (h1 : rm_X1_findPairs.frames + 1 ≤ R.frames) (h2 : 8 + (5 + 11) + rm_X1_findPairs.locals ≤ R.locals) (hl : (Jvm.Cond.methodLink own idx yX1_findPairs).before args s = true ∨ ∃ host, (Jvm.Cond.methodLinkNest own idx yX1_findPairs host).before args s = true) : en_mok en_WD D vwCl dT l R s args own (idx, 3, 3, 0, 0, f_X1_findPairs) :=
  ⟨yX1_findPairs, cX1_findPairs, 5, none, rm_X1_findPairs, 2, ct_X1_findPairs D dT l, rfl, rfl, h1, h2, en_wd h 518 rfl rfl args, en_wd h 65 (by decide +kernel) rfl args, by decide, by decide, hl, ⟨RX1, TX1, 6, rfl, en_wd h 517 (by decide +kernel) rfl args, en_wd h 19 (by decide +kernel) rfl args, rfl⟩⟩
end
section
/-! SplitLeaks$Finder: groups, late ones, fitted ones -/
def Lgrp (Gp P : Nat → Int32) (n : Nat) : List (Int32 × Int32) := lsn (fun g => ifl (2 ≤ pog Gp P n (nI g)) (nI g) (nI (pog Gp P n (nI g)))) 30
theorem pog_le {Gp P : Nat → Int32} {n : Nat} {g : Int32} : pog Gp P n g ≤ 4 := ct_le _ 4
def f_X1_findGroups := en_f (σ := Nat × Sx) (fun _ => [.ref 23]) (fun x => wX x.2) (fun x => x.1 ≤ 100 ∧ x.2.1 1 = nI x.1) (fun x v w => v = none ∧ w = wX (xf x.2 (tks (x.2.1 5) (s3 x.2) (Lgrp (x.2.2.2.1 2) (x.2.2.2.1 5) x.1))))
def rm_X1_findGroups : Room := { frames := 2, cells := 0, slots := 0, locals := 46 }
def t_X1_findGroups : en_T := ((3, 0, 0), tb_X1_findGroups, fl_X1, cn_X1, [(77, 2, 4, 0, 0, f_X2_countPartsOfGroup), (64, 3, 3, 0, 0, f_X1_take)], [], 0, none)
set_option maxRecDepth 100000 in
theorem tB_X1_findGroups (D : va_G) (dT : Nat → Nat) (l : Launch) : en_TB en_WD D vwCl dT l rm_X1_findGroups t_X1_findGroups RX1 "findGroups" cX1_findGroups := ⟨tk_X1_findGroups, fun s args meth h hn => ⟨fo_X1 h args meth, co_X1 h args, List.forall_mem_cons.mpr ⟨mk_X2_countPartsOfGroup (own := RX1) h (Nat.le_of_ble_eq_true rfl) (Nat.le_of_ble_eq_true rfl) (Or.inl (en_wd h 544 (by decide +kernel) rfl args)), List.forall_mem_cons.mpr ⟨mk_X1_take (own := RX1) h (Nat.le_of_ble_eq_true rfl) (Nat.le_of_ble_eq_true rfl) (Or.inl (en_wd h 536 (by decide +kernel) rfl args)), fun _ h => absurd h List.not_mem_nil⟩⟩, fun _ h => absurd h List.not_mem_nil, Or.inl rfl, en_arr h args⟩⟩
set_option maxHeartbeats 4000000 in
set_option maxRecDepth 100000 in
theorem bd_X1_findGroups : en_B (σ := Nat × Sx) t_X1_findGroups (fun _ => [.ref 23]) (fun x => wX x.2) (fun x => x.1 ≤ 100 ∧ x.2.1 1 = nI x.1) (fun x v w => v = none ∧ w = wX (xf x.2 (tks (x.2.1 5) (s3 x.2) (Lgrp (x.2.2.2.1 2) (x.2.2.2.1 5) x.1)))) := by
  rintro ⟨n, S⟩ ⟨hn, h1⟩ G hG OK ⟨run, sub⟩
  dsimp only at hn h1 hG ⊢
  unfold Lgrp at hG
  have outer := lp_up (fun g => OK 0 0 2 [(0, .ref 23), (1, .int (nI g))] [] (wX (xf S (tks (S.1 5) (s3 S) (lsn (fun g => ifl (2 ≤ pog (S.2.2.1 2) (S.2.2.1 5) n (nI g)) (nI g) (nI (pog (S.2.2.1 2) (S.2.2.1 5) n (nI g)))) g))))) 30
    (by
      refine run [2] 60 _ _ _ _ _ _ ?_
      conv => whnf
      refine pk_le 30 30 (fun h => ?_) (fun h => absurd h (by omega))
      conv => whnf
      exact hG _ _ ⟨rfl, rfl⟩)
    (fun g hg ih => by
      simp only [lsn] at ih
      rw [tks_app, nI_succ] at ih
      generalize tks (S.1 5) (s3 S) (lsn (fun g => ifl (2 ≤ pog (S.2.2.1 2) (S.2.2.1 5) n (nI g)) (nI g) (nI (pog (S.2.2.1 2) (S.2.2.1 5) n (nI g)))) g) = Y at ih ⊢
      have hle := pog_le (Gp := S.2.2.1 2) (P := S.2.2.1 5) (n := n) (g := nI g)
      refine run [2] 60 _ _ _ _ _ _ ?_
      conv => whnf
      refine pk_le 30 g (fun h => absurd h (by omega)) (fun h => ?_)
      conv => whnf
      refine ⟨(n, nI g, xf S Y), rfl, rfl, ⟨hn, h1⟩, ?_⟩
      intro v u hvu
      obtain ⟨rfl, rfl⟩ : v = some (.int (nI (pog (S.2.2.1 2) (S.2.2.1 5) n (nI g)))) ∧ u = wX (xf S Y) := hvu
      conv => whnf
      refine pk_lt (pog (S.2.2.1 2) (S.2.2.1 5) n (nI g)) 2 (fun hc => ?_) (fun hc => ?_)
      · conv => whnf
        rw [ifl_f (by omega), tks_0] at ih
        exact sub [0, 1] _ _ _ _ _ _ _ rfl ih
      · conv => whnf
        refine ⟨(nI g, nI (pog (S.2.2.1 2) (S.2.2.1 5) n (nI g)), xf S Y), rfl, rfl, trivial, ?_⟩
        rintro _ _ ⟨rfl, rfl⟩
        conv => whnf
        rw [ifl_t hc, tks_1] at ih
        exact sub [0, 1] _ _ _ _ _ _ _ rfl ih)
  refine run [2] 60 _ _ _ _ _ _ ?_
  conv => whnf
  exact outer 0 (by omega)
theorem ct_X1_findGroups (D : va_G) (dT : Nat → Nat) (l : Launch) : en_CT en_WD D vwCl dT l yX1_findGroups cX1_findGroups 3 (none) rm_X1_findGroups f_X1_findGroups := en_met en_WD1 en_WD2 (by decide) rfl rfl (tB_X1_findGroups D dT l) (en_f_ln (fun _ => Nat.le_of_ble_eq_true rfl)) (en_f_bd bd_X1_findGroups)
set_option maxRecDepth 100000 in
theorem mk_X1_findGroups {D : va_G} {dT : Nat → Nat} {l : Launch} {R : Room} {s : State} {args : Array Value} {own : String} {idx : Nat} (h : en_WD s) (h1 : rm_X1_findGroups.frames + 1 ≤ R.frames) (h2 : 8 + (3 + 11) + rm_X1_findGroups.locals ≤ R.locals) (hl : (Jvm.Cond.methodLink own idx yX1_findGroups).before args s = true ∨ ∃ host, (Jvm.Cond.methodLinkNest own idx yX1_findGroups host).before args s = true) : en_mok en_WD D vwCl dT l R s args own (idx, 1, 3, 0, 0, f_X1_findGroups) :=
  ⟨yX1_findGroups, cX1_findGroups, 3, none, rm_X1_findGroups, 0, ct_X1_findGroups D dT l, rfl, rfl, h1, h2, en_wd h 543 rfl rfl args, en_wd h 65 (by decide +kernel) rfl args, by decide, by decide, hl, ⟨RX1, TX1, 6, rfl, en_wd h 542 (by decide +kernel) rfl args, en_wd h 22 (by decide +kernel) rfl args, rfl⟩⟩
/-- the first row of the least time outside part 0 -/
def elt (P T : Nat → Int32) : Nat → Int32
  | 0 => -1
  | r + 1 => if 0 < P r ∧ (elt P T r = -1 ∨ T r < T (tn (elt P T r))) then nI r else elt P T r
theorem elt_in (P T : Nat → Int32) : ∀ n, elt P T n = -1 ∨ ∃ r, r < n ∧ elt P T n = nI r
  | 0 => Or.inl rfl
  | n + 1 => by
    have ih := elt_in P T n
    simp only [elt]
    split
    · exact Or.inr ⟨n, by omega, rfl⟩
    · rcases ih with h | ⟨r, hr, h⟩
      · exact Or.inl h
      · exact Or.inr ⟨r, by omega, h⟩
def f_X1_earliestOutsideFirstPart := en_f (σ := Nat × Sx) (fun _ => [.ref 23]) (fun x => wX x.2) (fun x => x.1 ≤ 100 ∧ x.2.1 1 = nI x.1) (fun x v w => v = some (.int (elt (x.2.2.2.1 5) (x.2.2.2.1 4) x.1)) ∧ w = wX x.2)
def rm_X1_earliestOutsideFirstPart : Room := { frames := 0, cells := 0, slots := 0, locals := 0 }
def t_X1_earliestOutsideFirstPart : en_T := ((3, 0, 0), tb_X1_earliestOutsideFirstPart, fl_X1, cn_X1, [], [], 0, some .int)
set_option maxRecDepth 100000 in
theorem tB_X1_earliestOutsideFirstPart (D : va_G) (dT : Nat → Nat) (l : Launch) : en_TB en_WD D vwCl dT l rm_X1_earliestOutsideFirstPart t_X1_earliestOutsideFirstPart RX1 "earliestOutsideFirstPart" cX1_earliestOutsideFirstPart := ⟨tk_X1_earliestOutsideFirstPart, fun s args meth h hn => ⟨fo_X1 h args meth, co_X1 h args, fun _ h => absurd h List.not_mem_nil, fun _ h => absurd h List.not_mem_nil, Or.inl rfl, en_arr h args⟩⟩
set_option maxHeartbeats 4000000 in
set_option maxRecDepth 100000 in
theorem bd_X1_earliestOutsideFirstPart : en_B (σ := Nat × Sx) t_X1_earliestOutsideFirstPart (fun _ => [.ref 23]) (fun x => wX x.2) (fun x => x.1 ≤ 100 ∧ x.2.1 1 = nI x.1) (fun x v w => v = some (.int (elt (x.2.2.2.1 5) (x.2.2.2.1 4) x.1)) ∧ w = wX x.2) := by
  rintro ⟨n, S⟩ ⟨hn, h1⟩ G hG OK ⟨run, sub⟩
  dsimp only at hn h1 hG ⊢
  have loop := lp_up (fun i => OK 0 0 4 [(0, .ref 23), (1, .int (elt (S.2.2.1 5) (S.2.2.1 4) i)), (2, .int (nI i))] [] (wX S)) n
    (by
      refine run [4] 60 _ _ _ _ _ _ ?_
      conv => whnf
      refine pk_le n n (fun h => ?_) (fun h => absurd h (by omega)) h1
      conv => whnf
      exact hG _ _ ⟨rfl, rfl⟩)
    (fun i hi ih => by
      rw [nI_succ] at ih
      simp only [elt] at ih
      have hei := elt_in (S.2.2.1 5) (S.2.2.1 4) i
      generalize elt (S.2.2.1 5) (S.2.2.1 4) i = e at hei ih ⊢
      refine run [4] 60 _ _ _ _ _ _ ?_
      conv => whnf
      refine pk_le n i (fun h => absurd h (by omega)) (fun h => ?_) h1
      conv => whnf
      refine ⟨vp_in_nI (by omega) (by decide), ?_⟩
      rw [nI_clamp (by omega)]
      conv => whnf
      refine ⟨fun hp => ?_, fun hp => ?_⟩
      · conv => whnf
        rw [if_neg (fun z => absurd z.1 (Int32.not_lt.mpr hp))] at ih
        exact ih
      · have hp : 0 < S.2.2.1 5 i := Int32.not_le.mp hp
        conv => whnf
        refine ⟨fun he => ?_, fun he => ?_⟩
        · conv => whnf
          rw [if_pos ⟨hp, Or.inl he⟩] at ih
          exact ih
        · obtain ⟨q, hq, rfl⟩ := hei.resolve_left he
          conv => whnf
          refine ⟨vp_in_nI (by omega) (by decide), ?_⟩
          rw [nI_clamp (by omega)]
          conv => whnf
          refine ⟨vp_in_nI (by omega) (by decide), ?_⟩
          conv => whnf
          refine ⟨fun ht => ?_, fun ht => ?_⟩
          · have ht : S.2.2.1 4 (tn (nI q)) ≤ S.2.2.1 4 i := ht
            conv => whnf
            rw [if_neg (fun z => z.2.elim he (fun w => absurd w (Int32.not_lt.mpr ht)))] at ih
            exact ih
          · have ht : ¬ S.2.2.1 4 (tn (nI q)) ≤ S.2.2.1 4 i := ht
            conv => whnf
            rw [if_pos ⟨hp, Or.inr (Int32.not_le.mp ht)⟩] at ih
            exact ih)
  refine run [4] 60 _ _ _ _ _ _ ?_
  conv => whnf
  exact loop 0 (by omega)
theorem ct_X1_earliestOutsideFirstPart (D : va_G) (dT : Nat → Nat) (l : Launch) : en_CT en_WD D vwCl dT l yX1_earliestOutsideFirstPart cX1_earliestOutsideFirstPart 3 (some .int) rm_X1_earliestOutsideFirstPart f_X1_earliestOutsideFirstPart := en_met en_WD1 en_WD2 (by decide) rfl rfl (tB_X1_earliestOutsideFirstPart D dT l) (en_f_ln (fun _ => Nat.le_of_ble_eq_true rfl)) (en_f_bd bd_X1_earliestOutsideFirstPart)
set_option maxRecDepth 100000 in
theorem mk_X1_earliestOutsideFirstPart {D : va_G} {dT : Nat → Nat} {l : Launch} {R : Room} {s : State} {args : Array Value} {own : String} {idx : Nat} (h : en_WD s) (h1 : rm_X1_earliestOutsideFirstPart.frames + 1 ≤ R.frames) (h2 : 8 + (3 + 11) + rm_X1_earliestOutsideFirstPart.locals ≤ R.locals) (hl : (Jvm.Cond.methodLink own idx yX1_earliestOutsideFirstPart).before args s = true ∨ ∃ host, (Jvm.Cond.methodLinkNest own idx yX1_earliestOutsideFirstPart host).before args s = true) : en_mok en_WD D vwCl dT l R s args own (idx, 1, 3, 0, 0, f_X1_earliestOutsideFirstPart) :=
  ⟨yX1_earliestOutsideFirstPart, cX1_earliestOutsideFirstPart, 3, some .int, rm_X1_earliestOutsideFirstPart, 0, ct_X1_earliestOutsideFirstPart D dT l, rfl, rfl, h1, h2, en_wd h 559 rfl rfl args, en_wd h 65 (by decide +kernel) rfl args, by decide, by decide, hl, ⟨RX1, TX1, 6, rfl, en_wd h 558 (by decide +kernel) rfl args, en_wd h 25 (by decide +kernel) rfl args, rfl⟩⟩
/-- leaks of the kind 3 -/
def Llate (P T : Nat → Int32) (e : Int32) (n : Nat) : List (Int32 × Int32) := if e = -1 then [] else lsn (fun r => ifl (P r = 0 ∧ ¬ T r < T (tn e)) (nI r) e) n
def f_X1_findLate := en_f (σ := Nat × Sx) (fun _ => [.ref 23]) (fun x => wX x.2) (fun x => x.1 ≤ 100 ∧ x.2.1 1 = nI x.1) (fun x v w => v = none ∧ w = wX (xf x.2 (tks (x.2.1 5) (s3 x.2) (Llate (x.2.2.2.1 5) (x.2.2.2.1 4) (elt (x.2.2.2.1 5) (x.2.2.2.1 4) x.1) x.1))))
def rm_X1_findLate : Room := { frames := 1, cells := 0, slots := 0, locals := 22 }
def t_X1_findLate : en_T := ((3, 0, 0), tb_X1_findLate, fl_X1, cn_X1, [(81, 1, 3, 0, 0, f_X1_earliestOutsideFirstPart), (64, 3, 3, 0, 0, f_X1_take)], [], 0, none)
set_option maxRecDepth 100000 in
theorem tB_X1_findLate (D : va_G) (dT : Nat → Nat) (l : Launch) : en_TB en_WD D vwCl dT l rm_X1_findLate t_X1_findLate RX1 "findLate" cX1_findLate := ⟨tk_X1_findLate, fun s args meth h hn => ⟨fo_X1 h args meth, co_X1 h args, List.forall_mem_cons.mpr ⟨mk_X1_earliestOutsideFirstPart (own := RX1) h (Nat.le_of_ble_eq_true rfl) (Nat.le_of_ble_eq_true rfl) (Or.inl (en_wd h 556 (by decide +kernel) rfl args)), List.forall_mem_cons.mpr ⟨mk_X1_take (own := RX1) h (Nat.le_of_ble_eq_true rfl) (Nat.le_of_ble_eq_true rfl) (Or.inl (en_wd h 536 (by decide +kernel) rfl args)), fun _ h => absurd h List.not_mem_nil⟩⟩, fun _ h => absurd h List.not_mem_nil, Or.inl rfl, en_arr h args⟩⟩
set_option maxHeartbeats 4000000 in
set_option maxRecDepth 100000 in
theorem bd_X1_findLate : en_B (σ := Nat × Sx) t_X1_findLate (fun _ => [.ref 23]) (fun x => wX x.2) (fun x => x.1 ≤ 100 ∧ x.2.1 1 = nI x.1) (fun x v w => v = none ∧ w = wX (xf x.2 (tks (x.2.1 5) (s3 x.2) (Llate (x.2.2.2.1 5) (x.2.2.2.1 4) (elt (x.2.2.2.1 5) (x.2.2.2.1 4) x.1) x.1)))) := by
  rintro ⟨n, S⟩ ⟨hn, h1⟩ G hG OK ⟨run, sub⟩
  dsimp only at hn h1 hG ⊢
  have hei := elt_in (S.2.2.1 5) (S.2.2.1 4) n
  refine run [13] 60 _ _ _ _ _ _ ?_
  conv => whnf
  refine ⟨(n, S), rfl, rfl, ⟨hn, h1⟩, ?_⟩
  intro v u hvu
  obtain ⟨rfl, rfl⟩ : v = some (.int (elt (S.2.2.1 5) (S.2.2.1 4) n)) ∧ u = wX S := hvu
  generalize elt (S.2.2.1 5) (S.2.2.1 4) n = e at hei hG ⊢
  unfold Llate at hG
  conv => whnf
  refine ⟨fun he => ?_, fun he => ?_⟩
  rotate_left
  · conv => whnf
    have he : e = -1 := he
    rw [if_pos he, tks_0] at hG
    exact hG _ _ ⟨rfl, rfl⟩
  have he : ¬ e = -1 := he
  rw [if_neg he] at hG
  obtain ⟨q, hq, hqe⟩ := hei.resolve_left he
  have hinq : vp_in e 100 := by rw [hqe]; exact vp_in_nI (by omega) (by decide)
  have loop := lp_up (fun i => OK 0 0 13 [(0, .ref 23), (1, .int e), (2, .int (nI i))] [] (wX (xf S (tks (S.1 5) (s3 S) (lsn (fun r => ifl (S.2.2.1 5 r = 0 ∧ ¬ S.2.2.1 4 r < S.2.2.1 4 (tn e)) (nI r) e) i))))) n
    (by
      refine run [13] 60 _ _ _ _ _ _ ?_
      conv => whnf
      refine pk_le n n (fun h => ?_) (fun h => absurd h (by omega)) h1
      conv => whnf
      exact hG _ _ ⟨rfl, rfl⟩)
    (fun i hi ih => by
      simp only [lsn] at ih
      rw [tks_app, nI_succ] at ih
      generalize tks (S.1 5) (s3 S) (lsn (fun r => ifl (S.2.2.1 5 r = 0 ∧ ¬ S.2.2.1 4 r < S.2.2.1 4 (tn e)) (nI r) e) i) = Y at ih ⊢
      refine run [13] 60 _ _ _ _ _ _ ?_
      conv => whnf
      refine pk_le n i (fun h => absurd h (by omega)) (fun h => ?_) h1
      conv => whnf
      refine ⟨vp_in_nI (by omega) (by decide), ?_⟩
      rw [nI_clamp (by omega)]
      conv => whnf
      refine ⟨fun hp => ?_, fun hp => ?_⟩
      · conv => whnf
        rw [ifl_f (fun z => hp z.1), tks_0] at ih
        exact ih
      · conv => whnf
        refine ⟨vp_in_nI (by omega) (by decide), ?_⟩
        rw [nI_clamp (by omega)]
        conv => whnf
        refine ⟨hinq, ?_⟩
        conv => whnf
        refine ⟨fun ht => ?_, fun ht => ?_⟩
        · have ht : S.2.2.1 4 i < S.2.2.1 4 (tn e) := ht
          conv => whnf
          rw [ifl_f (fun z => z.2 ht), tks_0] at ih
          exact ih
        · have ht : ¬ S.2.2.1 4 i < S.2.2.1 4 (tn e) := ht
          conv => whnf
          refine ⟨(nI i, e, xf S Y), rfl, rfl, trivial, ?_⟩
          rintro _ _ ⟨rfl, rfl⟩
          conv => whnf
          rw [ifl_t ⟨hp, ht⟩, tks_1] at ih
          exact ih)
  conv => whnf
  exact loop 0 (by omega)
theorem ct_X1_findLate (D : va_G) (dT : Nat → Nat) (l : Launch) : en_CT en_WD D vwCl dT l yX1_findLate cX1_findLate 3 (none) rm_X1_findLate f_X1_findLate := en_met en_WD1 en_WD2 (by decide) rfl rfl (tB_X1_findLate D dT l) (en_f_ln (fun _ => Nat.le_of_ble_eq_true rfl)) (en_f_bd bd_X1_findLate)
set_option maxRecDepth 100000 in
theorem mk_X1_findLate {D : va_G} {dT : Nat → Nat} {l : Launch} {R : Room} {s : State} {args : Array Value} {own : String} {idx : Nat} (h : en_WD s) (h1 : rm_X1_findLate.frames + 1 ≤ R.frames) (h2 : 8 + (3 + 11) + rm_X1_findLate.locals ≤ R.locals) (hl : (Jvm.Cond.methodLink own idx yX1_findLate).before args s = true ∨ ∃ host, (Jvm.Cond.methodLinkNest own idx yX1_findLate host).before args s = true) : en_mok en_WD D vwCl dT l R s args own (idx, 1, 3, 0, 0, f_X1_findLate) :=
  ⟨yX1_findLate, cX1_findLate, 3, none, rm_X1_findLate, 0, ct_X1_findLate D dT l, rfl, rfl, h1, h2, en_wd h 555 rfl rfl args, en_wd h 65 (by decide +kernel) rfl args, by decide, by decide, hl, ⟨RX1, TX1, 6, rfl, en_wd h 554 (by decide +kernel) rfl args, en_wd h 24 (by decide +kernel) rfl args, rfl⟩⟩
/-- leaks of the kind 5 -/
def Lfit (By Ft P : Nat → Int32) (n : Nat) : List (Int32 × Int32) := lsn (fun s => lsn (fun r => ifl (0 < P r ∧ chn By Ft r 8 (nI s) = true) (nI s) (nI r)) n) 8
def f_X1_findFitted := en_f (σ := Nat × Sx) (fun _ => [.ref 23]) (fun x => wX x.2) (fun x => x.1 ≤ 100 ∧ x.2.1 1 = nI x.1 ∧ zb (x.2.2.2.1 22) ∧ byok (x.2.2.2.1 20)) (fun x v w => v = none ∧ w = wX (xf x.2 (tks (x.2.1 5) (s3 x.2) (Lfit (x.2.2.2.1 20) (x.2.2.2.1 22) (x.2.2.2.1 5) x.1))))
def rm_X1_findFitted : Room := { frames := 2, cells := 0, slots := 0, locals := 46 }
def t_X1_findFitted : en_T := ((3, 0, 0), tb_X1_findFitted, fl_X1, cn_X1, [(114, 3, 6, 0, 0, f_X4_isFitted), (64, 3, 3, 0, 0, f_X1_take)], [], 0, none)
set_option maxRecDepth 100000 in
theorem tB_X1_findFitted (D : va_G) (dT : Nat → Nat) (l : Launch) : en_TB en_WD D vwCl dT l rm_X1_findFitted t_X1_findFitted RX1 "findFitted" cX1_findFitted := ⟨tk_X1_findFitted, fun s args meth h hn => ⟨fo_X1 h args meth, co_X1 h args, List.forall_mem_cons.mpr ⟨mk_X4_isFitted (own := RX1) h (Nat.le_of_ble_eq_true rfl) (Nat.le_of_ble_eq_true rfl) (Or.inl (en_wd h 586 (by decide +kernel) rfl args)), List.forall_mem_cons.mpr ⟨mk_X1_take (own := RX1) h (Nat.le_of_ble_eq_true rfl) (Nat.le_of_ble_eq_true rfl) (Or.inl (en_wd h 536 (by decide +kernel) rfl args)), fun _ h => absurd h List.not_mem_nil⟩⟩, fun _ h => absurd h List.not_mem_nil, Or.inl rfl, en_arr h args⟩⟩
set_option maxHeartbeats 4000000 in
set_option maxRecDepth 100000 in
theorem bd_X1_findFitted : en_B (σ := Nat × Sx) t_X1_findFitted (fun _ => [.ref 23]) (fun x => wX x.2) (fun x => x.1 ≤ 100 ∧ x.2.1 1 = nI x.1 ∧ zb (x.2.2.2.1 22) ∧ byok (x.2.2.2.1 20)) (fun x v w => v = none ∧ w = wX (xf x.2 (tks (x.2.1 5) (s3 x.2) (Lfit (x.2.2.2.1 20) (x.2.2.2.1 22) (x.2.2.2.1 5) x.1)))) := by
  rintro ⟨n, S⟩ ⟨hn, h1, hz, hby⟩ G hG OK ⟨run, sub⟩
  dsimp only at hn h1 hz hby hG ⊢
  unfold Lfit at hG
  have outer := lp_up (fun s => OK 0 0 2 [(0, .ref 23), (1, .int (nI s))] [] (wX (xf S (tks (S.1 5) (s3 S) (lsn (fun s => lsn (fun r => ifl (0 < S.2.2.1 5 r ∧ chn (S.2.2.1 20) (S.2.2.1 22) r 8 (nI s) = true) (nI s) (nI r)) n) s))))) 8
    (by
      refine run [2] 60 _ _ _ _ _ _ ?_
      conv => whnf
      refine pk_le 8 8 (fun h => ?_) (fun h => absurd h (by omega))
      conv => whnf
      exact hG _ _ ⟨rfl, rfl⟩)
    (fun s hs ih => by
      simp only [lsn] at ih
      rw [tks_app, nI_succ] at ih
      generalize tks (S.1 5) (s3 S) (lsn (fun s => lsn (fun r => ifl (0 < S.2.2.1 5 r ∧ chn (S.2.2.1 20) (S.2.2.1 22) r 8 (nI s) = true) (nI s) (nI r)) n) s) = Y at ih ⊢
      have inner := lp_up (fun r => OK 0 0 10 [(0, .ref 23), (1, .int (nI s)), (2, .int (nI r))] [] (wX (xf S (tks (S.1 5) Y (lsn (fun r => ifl (0 < S.2.2.1 5 r ∧ chn (S.2.2.1 20) (S.2.2.1 22) r 8 (nI s) = true) (nI s) (nI r)) r))))) n
        (by
          refine run [2, 10] 60 _ _ _ _ _ _ ?_
          conv => whnf
          refine pk_le n n (fun h => ?_) (fun h => absurd h (by omega)) h1
          conv => whnf
          exact sub [0, 1] _ _ _ _ _ _ _ rfl ih)
        (fun r hr ihr => by
          simp only [lsn] at ihr
          rw [tks_app, nI_succ] at ihr
          generalize tks (S.1 5) Y (lsn (fun r => ifl (0 < S.2.2.1 5 r ∧ chn (S.2.2.1 20) (S.2.2.1 22) r 8 (nI s) = true) (nI s) (nI r)) r) = X at ihr ⊢
          refine run [2, 10] 60 _ _ _ _ _ _ ?_
          conv => whnf
          refine pk_le n r (fun h => absurd h (by omega)) (fun h => ?_) h1
          conv => whnf
          refine ⟨vp_in_nI (by omega) (by decide), ?_⟩
          rw [nI_clamp (by omega)]
          conv => whnf
          refine ⟨fun hp => ?_, fun hp => ?_⟩
          · have hp : S.2.2.1 5 r ≤ 0 := hp
            conv => whnf
            rw [ifl_f (fun z => absurd z.1 (Int32.not_lt.mpr hp)), tks_0] at ihr
            exact ihr
          · have hp : ¬ S.2.2.1 5 r ≤ 0 := hp
            conv => whnf
            refine ⟨(s, r, xf S X), rfl, rfl, ⟨by dsimp only; omega, by dsimp only; omega, hz, hby⟩, ?_⟩
            intro v u hvu
            obtain ⟨rfl, rfl⟩ : v = some (.int (bl (chn (S.2.2.1 20) (S.2.2.1 22) r 8 (nI s) = true))) ∧ u = wX (xf S X) := hvu
            conv => whnf
            refine bl_br (fun hc => ?_) (fun hc => ?_)
            · conv => whnf
              rw [ifl_f (fun z => hc z.2), tks_0] at ihr
              exact ihr
            · conv => whnf
              refine ⟨(nI s, nI r, xf S X), rfl, rfl, trivial, ?_⟩
              rintro _ _ ⟨rfl, rfl⟩
              conv => whnf
              rw [ifl_t ⟨Int32.not_le.mp hp, hc⟩, tks_1] at ihr
              exact ihr)
      refine run [2, 10] 60 _ _ _ _ _ _ ?_
      conv => whnf
      refine pk_le 8 s (fun h => absurd h (by omega)) (fun h => ?_)
      conv => whnf
      exact inner 0 (by omega))
  refine run [2] 60 _ _ _ _ _ _ ?_
  conv => whnf
  exact outer 0 (by omega)
theorem ct_X1_findFitted (D : va_G) (dT : Nat → Nat) (l : Launch) : en_CT en_WD D vwCl dT l yX1_findFitted cX1_findFitted 3 (none) rm_X1_findFitted f_X1_findFitted := en_met en_WD1 en_WD2 (by decide) rfl rfl (tB_X1_findFitted D dT l) (en_f_ln (fun _ => Nat.le_of_ble_eq_true rfl)) (en_f_bd bd_X1_findFitted)
set_option maxRecDepth 100000 in
theorem mk_X1_findFitted {D : va_G} {dT : Nat → Nat} {l : Launch} {R : Room} {s : State} {args : Array Value} {own : String} {idx : Nat} (h : en_WD s) (h1 : rm_X1_findFitted.frames + 1 ≤ R.frames) (h2 : 8 + (3 + 11) + rm_X1_findFitted.locals ≤ R.locals) (hl : (Jvm.Cond.methodLink own idx yX1_findFitted).before args s = true ∨ ∃ host, (Jvm.Cond.methodLinkNest own idx yX1_findFitted host).before args s = true) : en_mok en_WD D vwCl dT l R s args own (idx, 1, 3, 0, 0, f_X1_findFitted) :=
  ⟨yX1_findFitted, cX1_findFitted, 3, none, rm_X1_findFitted, 0, ct_X1_findFitted D dT l, rfl, rfl, h1, h2, en_wd h 585 rfl rfl args, en_wd h 65 (by decide +kernel) rfl args, by decide, by decide, hl, ⟨RX1, TX1, 6, rfl, en_wd h 584 (by decide +kernel) rfl args, en_wd h 31 (by decide +kernel) rfl args, rfl⟩⟩
end
section
/-! SplitLeaks$Finder: columns that tell; the search -/
theorem fs_none {p : Nat → Prop} [DecidablePred p] : ∀ {n : Nat}, (∀ j, j < n → ¬ p j) → fs p n = none
  | 0, _ => rfl
  | n + 1, h => fs_f (fs_none (fun j hj => h j (by omega))) (h n (by omega))
/-- the number of a row stands again behind it; with another label -/
abbrev sab (N : Nat → Int64) (P : Nat → Int32) (n c a : Nat) : Prop := fs (fun b => a + 1 ≤ b ∧ P b ≠ -1 ∧ N (a * 3 + c) = N (b * 3 + c)) n ≠ none
abbrev swo (N : Nat → Int64) (P Lb : Nat → Int32) (n c a : Nat) : Prop := fs (fun b => a + 1 ≤ b ∧ P b ≠ -1 ∧ N (a * 3 + c) = N (b * 3 + c) ∧ Lb a ≠ Lb b) n ≠ none
def f_X1_standsAgainBehind := en_f (σ := Nat × Nat × Nat × Sx) (fun x => [.ref 23, .int (nI x.2.1), .int (nI x.2.2.1)]) (fun x => wX x.2.2.2) (fun x => x.1 ≤ 100 ∧ x.2.2.2.1 1 = nI x.1 ∧ x.2.1 < x.1 ∧ x.2.2.1 < 3) (fun x v w => v = some (.int (bl (sab (x.2.2.2.2.2.2 6) (x.2.2.2.2.2.1 5) x.1 x.2.2.1 x.2.1))) ∧ w = wX x.2.2.2)
def rm_X1_standsAgainBehind : Room := { frames := 1, cells := 0, slots := 0, locals := 23 }
def t_X1_standsAgainBehind : en_T := ((4, 0, 0), tb_X1_standsAgainBehind, fl_X1, cn_X1, [(99, 2, 4, 0, 0, f_X2_isPlaced), (111, 4, 4, 0, 0, f_X2_haveSameNumber)], [], 0, some .boolean)
set_option maxRecDepth 100000 in
theorem tB_X1_standsAgainBehind (D : va_G) (dT : Nat → Nat) (l : Launch) : en_TB en_WD D vwCl dT l rm_X1_standsAgainBehind t_X1_standsAgainBehind RX1 "standsAgainBehind" cX1_standsAgainBehind := ⟨tk_X1_standsAgainBehind, fun s args meth h hn => ⟨fo_X1 h args meth, co_X1 h args, List.forall_mem_cons.mpr ⟨mk_X2_isPlaced (own := RX1) h (Nat.le_of_ble_eq_true rfl) (Nat.le_of_ble_eq_true rfl) (Or.inl (en_wd h 568 (by decide +kernel) rfl args)), List.forall_mem_cons.mpr ⟨mk_X2_haveSameNumber (own := RX1) h (Nat.le_of_ble_eq_true rfl) (Nat.le_of_ble_eq_true rfl) (Or.inl (en_wd h 573 (by decide +kernel) rfl args)), fun _ h => absurd h List.not_mem_nil⟩⟩, fun _ h => absurd h List.not_mem_nil, Or.inl rfl, en_arr h args⟩⟩
set_option maxHeartbeats 4000000 in
set_option maxRecDepth 100000 in
theorem bd_X1_standsAgainBehind : en_B (σ := Nat × Nat × Nat × Sx) t_X1_standsAgainBehind (fun x => [.ref 23, .int (nI x.2.1), .int (nI x.2.2.1)]) (fun x => wX x.2.2.2) (fun x => x.1 ≤ 100 ∧ x.2.2.2.1 1 = nI x.1 ∧ x.2.1 < x.1 ∧ x.2.2.1 < 3) (fun x v w => v = some (.int (bl (sab (x.2.2.2.2.2.2 6) (x.2.2.2.2.2.1 5) x.1 x.2.2.1 x.2.1))) ∧ w = wX x.2.2.2) := by
  rintro ⟨n, a, c, S⟩ ⟨hn, h1, ha, hc⟩ G hG OK ⟨run, sub⟩
  dsimp only at hn h1 ha hc hG ⊢
  have loop := lp_up (fun i => a + 1 ≤ i → fs (fun b => a + 1 ≤ b ∧ S.2.2.1 5 b ≠ -1 ∧ S.2.2.2 6 (a * 3 + c) = S.2.2.2 6 (b * 3 + c)) i = none → OK 0 0 4 [(0, .ref 23), (1, .int (nI a)), (2, .int (nI c)), (3, .int (nI i))] [] (wX S)) n
    (fun _ hf => by
      refine run [4] 60 _ _ _ _ _ _ ?_
      conv => whnf
      refine pk_le n n (fun h => ?_) (fun h => absurd h (by omega)) h1
      conv => whnf
      exact ⟨rfl, hG _ _ ⟨bl_af (fun z => z hf) rfl, rfl⟩⟩)
    (fun i hi ih hai hf => by
      have ih := ih (by omega)
      rw [nI_succ] at ih
      refine run [4] 60 _ _ _ _ _ _ ?_
      conv => whnf
      refine pk_le n i (fun h => absurd h (by omega)) (fun h => ?_) h1
      conv => whnf
      refine ⟨(i, S), rfl, rfl, (by dsimp only; omega), ?_⟩
      rintro _ _ ⟨rfl, rfl⟩
      conv => whnf
      refine bl_br (fun hp => ?_) (fun hp => ?_)
      · conv => whnf
        exact ih (fs_f hf (fun z => hp z.2.1))
      · conv => whnf
        refine ⟨(a, i, c, S), rfl, rfl, ⟨by dsimp only; omega, by dsimp only; omega, hc⟩, ?_⟩
        rintro _ _ ⟨rfl, rfl⟩
        conv => whnf
        refine bl_br (fun hq => ?_) (fun hq => ?_)
        · conv => whnf
          exact ih (fs_f hf (fun z => hq z.2.2))
        · conv => whnf
          have := fs_s (fs_t (p := fun b => a + 1 ≤ b ∧ S.2.2.1 5 b ≠ -1 ∧ S.2.2.2 6 (a * 3 + c) = S.2.2.2 6 (b * 3 + c)) hf ⟨hai, hp, hq⟩) n (by omega)
          exact ⟨rfl, hG _ _ ⟨bl_at (fun z => by rw [this] at z; cases z) rfl, rfl⟩⟩)
  refine run [4] 60 _ _ _ _ _ _ ?_
  conv => whnf
  have h0 := loop (a + 1) (by omega) (Nat.le_refl _) (fs_none (fun j hj z => by omega))
  rw [nI_succ] at h0
  exact h0
theorem ct_X1_standsAgainBehind (D : va_G) (dT : Nat → Nat) (l : Launch) : en_CT en_WD D vwCl dT l yX1_standsAgainBehind cX1_standsAgainBehind 4 (some .boolean) rm_X1_standsAgainBehind f_X1_standsAgainBehind := en_met en_WD1 en_WD2 (by decide) rfl rfl (tB_X1_standsAgainBehind D dT l) (en_f_ln (fun _ => Nat.le_of_ble_eq_true rfl)) (en_f_bd bd_X1_standsAgainBehind)
set_option maxRecDepth 100000 in
theorem mk_X1_standsAgainBehind {D : va_G} {dT : Nat → Nat} {l : Launch} {R : Room} {s : State} {args : Array Value} {own : String} {idx : Nat} (h : en_WD s) (h1 : rm_X1_standsAgainBehind.frames + 1 ≤ R.frames) (h2 : 8 + (4 + 11) + rm_X1_standsAgainBehind.locals ≤ R.locals) (hl : (Jvm.Cond.methodLink own idx yX1_standsAgainBehind).before args s = true ∨ ∃ host, (Jvm.Cond.methodLinkNest own idx yX1_standsAgainBehind host).before args s = true) : en_mok en_WD D vwCl dT l R s args own (idx, 3, 3, 0, 0, f_X1_standsAgainBehind) :=
  ⟨yX1_standsAgainBehind, cX1_standsAgainBehind, 4, some .boolean, rm_X1_standsAgainBehind, 2, ct_X1_standsAgainBehind D dT l, rfl, rfl, h1, h2, en_wd h 577 rfl rfl args, en_wd h 65 (by decide +kernel) rfl args, by decide, by decide, hl, ⟨RX1, TX1, 6, rfl, en_wd h 576 (by decide +kernel) rfl args, en_wd h 29 (by decide +kernel) rfl args, rfl⟩⟩
def f_X1_standsWithOtherLabel := en_f (σ := Nat × Nat × Nat × Sx) (fun x => [.ref 23, .int (nI x.2.1), .int (nI x.2.2.1)]) (fun x => wX x.2.2.2) (fun x => x.1 ≤ 100 ∧ x.2.2.2.1 1 = nI x.1 ∧ x.2.1 < x.1 ∧ x.2.2.1 < 3) (fun x v w => v = some (.int (bl (swo (x.2.2.2.2.2.2 6) (x.2.2.2.2.2.1 5) (x.2.2.2.2.2.1 3) x.1 x.2.2.1 x.2.1))) ∧ w = wX x.2.2.2)
def rm_X1_standsWithOtherLabel : Room := { frames := 1, cells := 0, slots := 0, locals := 23 }
def t_X1_standsWithOtherLabel : en_T := ((4, 0, 0), tb_X1_standsWithOtherLabel, fl_X1, cn_X1, [(99, 2, 4, 0, 0, f_X2_isPlaced), (111, 4, 4, 0, 0, f_X2_haveSameNumber)], [], 0, some .boolean)
set_option maxRecDepth 100000 in
theorem tB_X1_standsWithOtherLabel (D : va_G) (dT : Nat → Nat) (l : Launch) : en_TB en_WD D vwCl dT l rm_X1_standsWithOtherLabel t_X1_standsWithOtherLabel RX1 "standsWithOtherLabel" cX1_standsWithOtherLabel := ⟨tk_X1_standsWithOtherLabel, fun s args meth h hn => ⟨fo_X1 h args meth, co_X1 h args, List.forall_mem_cons.mpr ⟨mk_X2_isPlaced (own := RX1) h (Nat.le_of_ble_eq_true rfl) (Nat.le_of_ble_eq_true rfl) (Or.inl (en_wd h 568 (by decide +kernel) rfl args)), List.forall_mem_cons.mpr ⟨mk_X2_haveSameNumber (own := RX1) h (Nat.le_of_ble_eq_true rfl) (Nat.le_of_ble_eq_true rfl) (Or.inl (en_wd h 573 (by decide +kernel) rfl args)), fun _ h => absurd h List.not_mem_nil⟩⟩, fun _ h => absurd h List.not_mem_nil, Or.inl rfl, en_arr h args⟩⟩
set_option maxHeartbeats 4000000 in
set_option maxRecDepth 100000 in
theorem bd_X1_standsWithOtherLabel : en_B (σ := Nat × Nat × Nat × Sx) t_X1_standsWithOtherLabel (fun x => [.ref 23, .int (nI x.2.1), .int (nI x.2.2.1)]) (fun x => wX x.2.2.2) (fun x => x.1 ≤ 100 ∧ x.2.2.2.1 1 = nI x.1 ∧ x.2.1 < x.1 ∧ x.2.2.1 < 3) (fun x v w => v = some (.int (bl (swo (x.2.2.2.2.2.2 6) (x.2.2.2.2.2.1 5) (x.2.2.2.2.2.1 3) x.1 x.2.2.1 x.2.1))) ∧ w = wX x.2.2.2) := by
  rintro ⟨n, a, c, S⟩ ⟨hn, h1, ha, hc⟩ G hG OK ⟨run, sub⟩
  dsimp only at hn h1 ha hc hG ⊢
  have loop := lp_up (fun i => a + 1 ≤ i → fs (fun b => a + 1 ≤ b ∧ S.2.2.1 5 b ≠ -1 ∧ S.2.2.2 6 (a * 3 + c) = S.2.2.2 6 (b * 3 + c) ∧ S.2.2.1 3 a ≠ S.2.2.1 3 b) i = none → OK 0 0 4 [(0, .ref 23), (1, .int (nI a)), (2, .int (nI c)), (3, .int (nI i))] [] (wX S)) n
    (fun _ hf => by
      refine run [4] 60 _ _ _ _ _ _ ?_
      conv => whnf
      refine pk_le n n (fun h => ?_) (fun h => absurd h (by omega)) h1
      conv => whnf
      exact ⟨rfl, hG _ _ ⟨bl_af (fun z => z hf) rfl, rfl⟩⟩)
    (fun i hi ih hai hf => by
      have ih := ih (by omega)
      rw [nI_succ] at ih
      refine run [4] 60 _ _ _ _ _ _ ?_
      conv => whnf
      refine pk_le n i (fun h => absurd h (by omega)) (fun h => ?_) h1
      conv => whnf
      refine ⟨(i, S), rfl, rfl, (by dsimp only; omega), ?_⟩
      rintro _ _ ⟨rfl, rfl⟩
      conv => whnf
      refine bl_br (fun hp => ?_) (fun hp => ?_)
      · conv => whnf
        exact ih (fs_f hf (fun z => hp z.2.1))
      · conv => whnf
        refine ⟨(a, i, c, S), rfl, rfl, ⟨by dsimp only; omega, by dsimp only; omega, hc⟩, ?_⟩
        rintro _ _ ⟨rfl, rfl⟩
        conv => whnf
        refine bl_br (fun hq => ?_) (fun hq => ?_)
        · conv => whnf
          exact ih (fs_f hf (fun z => hq z.2.2.1))
        · conv => whnf
          refine ⟨vp_in_nI (by omega) (by decide), ?_⟩
          rw [nI_clamp (by omega)]
          conv => whnf
          refine ⟨vp_in_nI (by omega) (by decide), ?_⟩
          rw [nI_clamp (by omega)]
          conv => whnf
          refine ⟨fun hr => ?_, fun hr => ?_⟩
          · conv => whnf
            exact ih (fs_f hf (fun z => z.2.2.2 hr))
          · conv => whnf
            have := fs_s (fs_t (p := fun b => a + 1 ≤ b ∧ S.2.2.1 5 b ≠ -1 ∧ S.2.2.2 6 (a * 3 + c) = S.2.2.2 6 (b * 3 + c) ∧ S.2.2.1 3 a ≠ S.2.2.1 3 b) hf ⟨hai, hp, hq, hr⟩) n (by omega)
            exact ⟨rfl, hG _ _ ⟨bl_at (fun z => by rw [this] at z; cases z) rfl, rfl⟩⟩)
  refine run [4] 60 _ _ _ _ _ _ ?_
  conv => whnf
  have h0 := loop (a + 1) (by omega) (Nat.le_refl _) (fs_none (fun j hj z => by omega))
  rw [nI_succ] at h0
  exact h0
theorem ct_X1_standsWithOtherLabel (D : va_G) (dT : Nat → Nat) (l : Launch) : en_CT en_WD D vwCl dT l yX1_standsWithOtherLabel cX1_standsWithOtherLabel 4 (some .boolean) rm_X1_standsWithOtherLabel f_X1_standsWithOtherLabel := en_met en_WD1 en_WD2 (by decide) rfl rfl (tB_X1_standsWithOtherLabel D dT l) (en_f_ln (fun _ => Nat.le_of_ble_eq_true rfl)) (en_f_bd bd_X1_standsWithOtherLabel)
set_option maxRecDepth 100000 in
theorem mk_X1_standsWithOtherLabel {D : va_G} {dT : Nat → Nat} {l : Launch} {R : Room} {s : State} {args : Array Value} {own : String} {idx : Nat} (h : en_WD s) (h1 : rm_X1_standsWithOtherLabel.frames + 1 ≤ R.frames) (h2 : 8 + (4 + 11) + rm_X1_standsWithOtherLabel.locals ≤ R.locals) (hl : (Jvm.Cond.methodLink own idx yX1_standsWithOtherLabel).before args s = true ∨ ∃ host, (Jvm.Cond.methodLinkNest own idx yX1_standsWithOtherLabel host).before args s = true) : en_mok en_WD D vwCl dT l R s args own (idx, 3, 3, 0, 0, f_X1_standsWithOtherLabel) :=
  ⟨yX1_standsWithOtherLabel, cX1_standsWithOtherLabel, 4, some .boolean, rm_X1_standsWithOtherLabel, 2, ct_X1_standsWithOtherLabel D dT l, rfl, rfl, h1, h2, en_wd h 572 rfl rfl args, en_wd h 65 (by decide +kernel) rfl args, by decide, by decide, hl, ⟨RX1, TX1, 6, rfl, en_wd h 571 (by decide +kernel) rfl args, en_wd h 28 (by decide +kernel) rfl args, rfl⟩⟩
def f_X1_countNumbers := en_f (σ := Nat × Nat × Sx) (fun x => [.ref 23, .int (nI x.2.1)]) (fun x => wX x.2.2) (fun x => x.1 ≤ 100 ∧ x.2.2.1 1 = nI x.1 ∧ x.2.1 < 3) (fun x v w => v = some (.int (nI (ct (fun a => x.2.2.2.2.1 5 a ≠ -1 ∧ ¬ sab (x.2.2.2.2.2 6) (x.2.2.2.2.1 5) x.1 x.2.1 a) x.1))) ∧ w = wX x.2.2)
def rm_X1_countNumbers : Room := { frames := 2, cells := 0, slots := 0, locals := 46 }
def t_X1_countNumbers : en_T := ((4, 0, 0), tb_X1_countNumbers, fl_X1, cn_X1, [(99, 2, 4, 0, 0, f_X2_isPlaced), (105, 3, 3, 0, 0, f_X1_standsAgainBehind)], [], 0, some .int)
set_option maxRecDepth 100000 in
theorem tB_X1_countNumbers (D : va_G) (dT : Nat → Nat) (l : Launch) : en_TB en_WD D vwCl dT l rm_X1_countNumbers t_X1_countNumbers RX1 "countNumbers" cX1_countNumbers := ⟨tk_X1_countNumbers, fun s args meth h hn => ⟨fo_X1 h args meth, co_X1 h args, List.forall_mem_cons.mpr ⟨mk_X2_isPlaced (own := RX1) h (Nat.le_of_ble_eq_true rfl) (Nat.le_of_ble_eq_true rfl) (Or.inl (en_wd h 568 (by decide +kernel) rfl args)), List.forall_mem_cons.mpr ⟨mk_X1_standsAgainBehind (own := RX1) h (Nat.le_of_ble_eq_true rfl) (Nat.le_of_ble_eq_true rfl) (Or.inl (en_wd h 574 (by decide +kernel) rfl args)), fun _ h => absurd h List.not_mem_nil⟩⟩, fun _ h => absurd h List.not_mem_nil, Or.inl rfl, en_arr h args⟩⟩
set_option maxHeartbeats 4000000 in
set_option maxRecDepth 100000 in
theorem bd_X1_countNumbers : en_B (σ := Nat × Nat × Sx) t_X1_countNumbers (fun x => [.ref 23, .int (nI x.2.1)]) (fun x => wX x.2.2) (fun x => x.1 ≤ 100 ∧ x.2.2.1 1 = nI x.1 ∧ x.2.1 < 3) (fun x v w => v = some (.int (nI (ct (fun a => x.2.2.2.2.1 5 a ≠ -1 ∧ ¬ sab (x.2.2.2.2.2 6) (x.2.2.2.2.1 5) x.1 x.2.1 a) x.1))) ∧ w = wX x.2.2) := by
  rintro ⟨n, c, S⟩ ⟨hn, h1, hc⟩ G hG OK ⟨run, sub⟩
  dsimp only at hn h1 hc hG ⊢
  have loop := lp_up (fun i => OK 0 0 4 [(0, .ref 23), (1, .int (nI c)), (2, .int (nI (ct (fun a => S.2.2.1 5 a ≠ -1 ∧ ¬ sab (S.2.2.2 6) (S.2.2.1 5) n c a) i))), (3, .int (nI i))] [] (wX S)) n
    (by
      refine run [4] 60 _ _ _ _ _ _ ?_
      conv => whnf
      refine pk_le n n (fun h => ?_) (fun h => absurd h (by omega)) h1
      conv => whnf
      exact hG _ _ ⟨rfl, rfl⟩)
    (fun i hi ih => by
      rw [nI_succ] at ih
      refine run [4] 60 _ _ _ _ _ _ ?_
      conv => whnf
      refine pk_le n i (fun h => absurd h (by omega)) (fun h => ?_) h1
      conv => whnf
      refine ⟨(i, S), rfl, rfl, (by dsimp only; omega), ?_⟩
      rintro _ _ ⟨rfl, rfl⟩
      conv => whnf
      refine bl_br (fun hp => ?_) (fun hp => ?_)
      · conv => whnf
        rw [ct_f (p := fun a => S.2.2.1 5 a ≠ -1 ∧ ¬ sab (S.2.2.2 6) (S.2.2.1 5) n c a) (fun z => hp z.1)] at ih
        exact ih
      · conv => whnf
        refine ⟨(n, i, c, S), rfl, rfl, ⟨hn, h1, hi, hc⟩, ?_⟩
        rintro _ _ ⟨rfl, rfl⟩
        conv => whnf
        refine bl_br2 (fun hq => ?_) (fun hq => ?_)
        · conv => whnf
          rw [ct_f (p := fun a => S.2.2.1 5 a ≠ -1 ∧ ¬ sab (S.2.2.2 6) (S.2.2.1 5) n c a) (fun z => z.2 hq)] at ih
          exact ih
        · conv => whnf
          rw [ct_t (p := fun a => S.2.2.1 5 a ≠ -1 ∧ ¬ sab (S.2.2.2 6) (S.2.2.1 5) n c a) ⟨hp, hq⟩, nI_succ] at ih
          exact ih)
  refine run [4] 60 _ _ _ _ _ _ ?_
  conv => whnf
  exact loop 0 (by omega)
theorem ct_X1_countNumbers (D : va_G) (dT : Nat → Nat) (l : Launch) : en_CT en_WD D vwCl dT l yX1_countNumbers cX1_countNumbers 4 (some .int) rm_X1_countNumbers f_X1_countNumbers := en_met en_WD1 en_WD2 (by decide) rfl rfl (tB_X1_countNumbers D dT l) (en_f_ln (fun _ => Nat.le_of_ble_eq_true rfl)) (en_f_bd bd_X1_countNumbers)
set_option maxRecDepth 100000 in
theorem mk_X1_countNumbers {D : va_G} {dT : Nat → Nat} {l : Launch} {R : Room} {s : State} {args : Array Value} {own : String} {idx : Nat} (h : en_WD s) (h1 : rm_X1_countNumbers.frames + 1 ≤ R.frames) (h2 : 8 + (4 + 11) + rm_X1_countNumbers.locals ≤ R.locals) (hl : (Jvm.Cond.methodLink own idx yX1_countNumbers).before args s = true ∨ ∃ host, (Jvm.Cond.methodLinkNest own idx yX1_countNumbers host).before args s = true) : en_mok en_WD D vwCl dT l R s args own (idx, 2, 3, 0, 0, f_X1_countNumbers) :=
  ⟨yX1_countNumbers, cX1_countNumbers, 4, some .int, rm_X1_countNumbers, 1, ct_X1_countNumbers D dT l, rfl, rfl, h1, h2, en_wd h 581 rfl rfl args, en_wd h 65 (by decide +kernel) rfl args, by decide, by decide, hl, ⟨RX1, TX1, 6, rfl, en_wd h 580 (by decide +kernel) rfl args, en_wd h 30 (by decide +kernel) rfl args, rfl⟩⟩
/-- the last repeated number's label; are there unlike ones -/
def tst (N : Nat → Int64) (P Lb : Nat → Int32) (n c : Nat) : Nat → Int32 × Bool
  | 0 => (-1, false)
  | a + 1 => if P a ≠ -1 ∧ sab N P n c a then (Lb a, (tst N P Lb n c a).2 || decide ((tst N P Lb n c a).1 ≠ -1 ∧ (tst N P Lb n c a).1 ≠ Lb a)) else tst N P Lb n c a
theorem tst_t {N : Nat → Int64} {P Lb : Nat → Int32} {n c a : Nat} (h : P a ≠ -1 ∧ sab N P n c a) : tst N P Lb n c (a + 1) = (Lb a, (tst N P Lb n c a).2 || decide ((tst N P Lb n c a).1 ≠ -1 ∧ (tst N P Lb n c a).1 ≠ Lb a)) := if_pos h
theorem tst_f {N : Nat → Int64} {P Lb : Nat → Int32} {n c a : Nat} (h : ¬ (P a ≠ -1 ∧ sab N P n c a)) : tst N P Lb n c (a + 1) = tst N P Lb n c a := if_neg h
abbrev tells (N : Nat → Int64) (P Lb : Nat → Int32) (n c : Nat) : Prop := fs (fun a => P a ≠ -1 ∧ swo N P Lb n c a) n = none ∧ (tst N P Lb n c n).2 = true
def f_X1_tellsLabel := en_f (σ := Nat × Nat × Sx) (fun x => [.ref 23, .int (nI x.2.1)]) (fun x => wX x.2.2) (fun x => x.1 ≤ 100 ∧ x.2.2.1 1 = nI x.1 ∧ x.2.1 < 3) (fun x v w => v = some (.int (bl (tells (x.2.2.2.2.2 6) (x.2.2.2.2.1 5) (x.2.2.2.2.1 3) x.1 x.2.1))) ∧ w = wX x.2.2)
def rm_X1_tellsLabel : Room := { frames := 2, cells := 0, slots := 0, locals := 46 }
def t_X1_tellsLabel : en_T := ((5, 0, 0), tb_X1_tellsLabel, fl_X1, cn_X1, [(99, 2, 4, 0, 0, f_X2_isPlaced), (102, 3, 3, 0, 0, f_X1_standsWithOtherLabel), (105, 3, 3, 0, 0, f_X1_standsAgainBehind)], [], 0, some .boolean)
set_option maxRecDepth 100000 in
theorem tB_X1_tellsLabel (D : va_G) (dT : Nat → Nat) (l : Launch) : en_TB en_WD D vwCl dT l rm_X1_tellsLabel t_X1_tellsLabel RX1 "tellsLabel" cX1_tellsLabel := ⟨tk_X1_tellsLabel, fun s args meth h hn => ⟨fo_X1 h args meth, co_X1 h args, List.forall_mem_cons.mpr ⟨mk_X2_isPlaced (own := RX1) h (Nat.le_of_ble_eq_true rfl) (Nat.le_of_ble_eq_true rfl) (Or.inl (en_wd h 568 (by decide +kernel) rfl args)), List.forall_mem_cons.mpr ⟨mk_X1_standsWithOtherLabel (own := RX1) h (Nat.le_of_ble_eq_true rfl) (Nat.le_of_ble_eq_true rfl) (Or.inl (en_wd h 569 (by decide +kernel) rfl args)), List.forall_mem_cons.mpr ⟨mk_X1_standsAgainBehind (own := RX1) h (Nat.le_of_ble_eq_true rfl) (Nat.le_of_ble_eq_true rfl) (Or.inl (en_wd h 574 (by decide +kernel) rfl args)), fun _ h => absurd h List.not_mem_nil⟩⟩⟩, fun _ h => absurd h List.not_mem_nil, Or.inl rfl, en_arr h args⟩⟩
set_option maxHeartbeats 4000000 in
set_option maxRecDepth 100000 in
theorem bd_X1_tellsLabel : en_B (σ := Nat × Nat × Sx) t_X1_tellsLabel (fun x => [.ref 23, .int (nI x.2.1)]) (fun x => wX x.2.2) (fun x => x.1 ≤ 100 ∧ x.2.2.1 1 = nI x.1 ∧ x.2.1 < 3) (fun x v w => v = some (.int (bl (tells (x.2.2.2.2.2 6) (x.2.2.2.2.1 5) (x.2.2.2.2.1 3) x.1 x.2.1))) ∧ w = wX x.2.2) := by
  rintro ⟨n, c, S⟩ ⟨hn, h1, hc⟩ G hG OK ⟨run, sub⟩
  dsimp only at hn h1 hc hG ⊢
  have loop := lp_up (fun i => fs (fun a => S.2.2.1 5 a ≠ -1 ∧ swo (S.2.2.2 6) (S.2.2.1 5) (S.2.2.1 3) n c a) i = none → OK 0 0 7 [(0, .ref 23), (1, .int (nI c)), (2, .int (tst (S.2.2.2 6) (S.2.2.1 5) (S.2.2.1 3) n c i).1), (3, .int (bl ((tst (S.2.2.2 6) (S.2.2.1 5) (S.2.2.1 3) n c i).2 = true))), (4, .int (nI i))] [] (wX S)) n
    (fun hf => by
      refine run [7] 60 _ _ _ _ _ _ ?_
      conv => whnf
      refine pk_le n n (fun h => ?_) (fun h => absurd h (by omega)) h1
      conv => whnf
      refine ⟨bl_b, hG _ _ ⟨?_, rfl⟩⟩
      rw [bl_c (q := tells (S.2.2.2 6) (S.2.2.1 5) (S.2.2.1 3) n c) ⟨fun z => ⟨hf, z⟩, fun z => z.2⟩])
    (fun i hi ih hf => by
      rw [nI_succ] at ih
      generalize hY : tst (S.2.2.2 6) (S.2.2.1 5) (S.2.2.1 3) n c i = Y
      have hno : ¬ (S.2.2.1 5 i ≠ -1 ∧ swo (S.2.2.2 6) (S.2.2.1 5) (S.2.2.1 3) n c i) → ¬ (S.2.2.1 5 i ≠ -1 ∧ sab (S.2.2.2 6) (S.2.2.1 5) n c i) → OK 0 0 7 [(0, .ref 23), (1, .int (nI c)), (2, .int Y.1), (3, .int (bl (Y.2 = true))), (4, .int (nI i + 1))] [] (wX S) := fun h1 h2 => by
        rw [tst_f h2, hY] at ih
        exact ih (fs_f hf h1)
      refine run [7] 60 _ _ _ _ _ _ ?_
      conv => whnf
      refine pk_le n i (fun h => absurd h (by omega)) (fun h => ?_) h1
      conv => whnf
      refine ⟨(i, S), rfl, rfl, (by dsimp only; omega), ?_⟩
      rintro _ _ ⟨rfl, rfl⟩
      conv => whnf
      refine bl_br (fun hp => ?_) (fun hp => ?_)
      · conv => whnf
        exact hno (fun z => hp z.1) (fun z => hp z.1)
      · have hp : S.2.2.1 5 i ≠ -1 := hp
        conv => whnf
        refine ⟨(n, i, c, S), rfl, rfl, ⟨hn, h1, hi, hc⟩, ?_⟩
        rintro _ _ ⟨rfl, rfl⟩
        conv => whnf
        refine bl_br (fun hq => ?_) (fun hq => ?_)
        · have hq : ¬ swo (S.2.2.2 6) (S.2.2.1 5) (S.2.2.1 3) n c i := hq
          conv => whnf
          refine ⟨(n, i, c, S), rfl, rfl, ⟨hn, h1, hi, hc⟩, ?_⟩
          rintro _ _ ⟨rfl, rfl⟩
          conv => whnf
          refine bl_br (fun hr => ?_) (fun hr => ?_)
          · conv => whnf
            exact hno (fun z => hq z.2) (fun z => hr z.2)
          · have hr : sab (S.2.2.2 6) (S.2.2.1 5) n c i := hr
            rw [tst_t ⟨hp, hr⟩, hY] at ih
            have ih := ih (fs_f hf (fun z => hq z.2))
            conv => whnf
            refine bl_br2 (fun hu => ?_) (fun hu => ?_)
            · conv => whnf
              refine ⟨vp_in_nI (by omega) (by decide), ?_⟩
              rw [nI_clamp (by omega)]
              conv => whnf
              rw [hu] at ih
              exact ih
            · have hu : Y.2 = false := by simpa using hu
              rw [hu] at ih
              conv => whnf
              refine ⟨fun hl => ?_, fun hl => ?_⟩
              · have hl : Y.1 = -1 := hl
                conv => whnf
                refine ⟨vp_in_nI (by omega) (by decide), ?_⟩
                rw [nI_clamp (by omega)]
                conv => whnf
                rw [show (false || decide (Y.1 ≠ -1 ∧ Y.1 ≠ S.2.2.1 3 i)) = false by simp [hl]] at ih
                exact ih
              · have hl : ¬ Y.1 = -1 := hl
                conv => whnf
                refine ⟨vp_in_nI (by omega) (by decide), ?_⟩
                rw [nI_clamp (by omega)]
                conv => whnf
                refine ⟨fun hm => ?_, fun hm => ?_⟩
                · have hm : Y.1 = S.2.2.1 3 i := hm
                  conv => whnf
                  refine ⟨vp_in_nI (by omega) (by decide), ?_⟩
                  rw [nI_clamp (by omega)]
                  conv => whnf
                  rw [show (false || decide (Y.1 ≠ -1 ∧ Y.1 ≠ S.2.2.1 3 i)) = false by simp [hm]] at ih
                  exact ih
                · have hm : ¬ Y.1 = S.2.2.1 3 i := hm
                  conv => whnf
                  refine ⟨vp_in_nI (by omega) (by decide), ?_⟩
                  rw [nI_clamp (by omega)]
                  conv => whnf
                  rw [show (false || decide (Y.1 ≠ -1 ∧ Y.1 ≠ S.2.2.1 3 i)) = true by simp [hm, hl]] at ih
                  exact ih
        · conv => whnf
          have := fs_s (fs_t (p := fun a => S.2.2.1 5 a ≠ -1 ∧ swo (S.2.2.2 6) (S.2.2.1 5) (S.2.2.1 3) n c a) hf ⟨hp, hq⟩) n (by omega)
          exact ⟨rfl, hG _ _ ⟨bl_af (fun z => by have z1 := z.1; rw [this] at z1; cases z1) rfl, rfl⟩⟩)
  refine run [7] 60 _ _ _ _ _ _ ?_
  conv => whnf
  exact loop 0 (by omega) rfl
theorem ct_X1_tellsLabel (D : va_G) (dT : Nat → Nat) (l : Launch) : en_CT en_WD D vwCl dT l yX1_tellsLabel cX1_tellsLabel 5 (some .boolean) rm_X1_tellsLabel f_X1_tellsLabel := en_met en_WD1 en_WD2 (by decide) rfl rfl (tB_X1_tellsLabel D dT l) (en_f_ln (fun _ => Nat.le_of_ble_eq_true rfl)) (en_f_bd bd_X1_tellsLabel)
set_option maxRecDepth 100000 in
theorem mk_X1_tellsLabel {D : va_G} {dT : Nat → Nat} {l : Launch} {R : Room} {s : State} {args : Array Value} {own : String} {idx : Nat} (h : en_WD s) (h1 : rm_X1_tellsLabel.frames + 1 ≤ R.frames) (h2 : 8 + (5 + 11) + rm_X1_tellsLabel.locals ≤ R.locals) (hl : (Jvm.Cond.methodLink own idx yX1_tellsLabel).before args s = true ∨ ∃ host, (Jvm.Cond.methodLinkNest own idx yX1_tellsLabel host).before args s = true) : en_mok en_WD D vwCl dT l R s args own (idx, 2, 3, 0, 0, f_X1_tellsLabel) :=
  ⟨yX1_tellsLabel, cX1_tellsLabel, 5, some .boolean, rm_X1_tellsLabel, 1, ct_X1_tellsLabel D dT l, rfl, rfl, h1, h2, en_wd h 567 rfl rfl args, en_wd h 65 (by decide +kernel) rfl args, by decide, by decide, hl, ⟨RX1, TX1, 6, rfl, en_wd h 566 (by decide +kernel) rfl args, en_wd h 27 (by decide +kernel) rfl args, rfl⟩⟩
end
section
/-! SplitLeaks$Finder: the search -/
theorem xf_xi (S : Sx) (v : Int32) (Y : Int32 × Int32 × Int32) : wX (xf (xi S 6 v) Y) = wX (xf S Y) := rfl
/-- leaks of the kind 4 -/
def Ltell (N : Nat → Int64) (P Lb : Nat → Int32) (n : Nat) : List (Int32 × Int32) := lsn (fun c => ifl (tells N P Lb n c) (nI c) (nI (ct (fun a => P a ≠ -1 ∧ ¬ sab N P n c a) n))) 3
def f_X1_findTelling := en_f (σ := Nat × Sx) (fun _ => [.ref 23]) (fun x => wX x.2) (fun x => x.1 ≤ 100 ∧ x.2.1 1 = nI x.1) (fun x v w => v = none ∧ w = wX (xf x.2 (tks (x.2.1 5) (s3 x.2) (Ltell (x.2.2.2.2 6) (x.2.2.2.1 5) (x.2.2.2.1 3) x.1))))
def rm_X1_findTelling : Room := { frames := 3, cells := 0, slots := 0, locals := 70 }
def t_X1_findTelling : en_T := ((2, 0, 0), tb_X1_findTelling, fl_X1, cn_X1, [(92, 2, 3, 0, 0, f_X1_tellsLabel), (96, 2, 3, 0, 0, f_X1_countNumbers), (64, 3, 3, 0, 0, f_X1_take)], [], 0, none)
set_option maxRecDepth 100000 in
theorem tB_X1_findTelling (D : va_G) (dT : Nat → Nat) (l : Launch) : en_TB en_WD D vwCl dT l rm_X1_findTelling t_X1_findTelling RX1 "findTelling" cX1_findTelling := ⟨tk_X1_findTelling, fun s args meth h hn => ⟨fo_X1 h args meth, co_X1 h args, List.forall_mem_cons.mpr ⟨mk_X1_tellsLabel (own := RX1) h (Nat.le_of_ble_eq_true rfl) (Nat.le_of_ble_eq_true rfl) (Or.inl (en_wd h 564 (by decide +kernel) rfl args)), List.forall_mem_cons.mpr ⟨mk_X1_countNumbers (own := RX1) h (Nat.le_of_ble_eq_true rfl) (Nat.le_of_ble_eq_true rfl) (Or.inl (en_wd h 578 (by decide +kernel) rfl args)), List.forall_mem_cons.mpr ⟨mk_X1_take (own := RX1) h (Nat.le_of_ble_eq_true rfl) (Nat.le_of_ble_eq_true rfl) (Or.inl (en_wd h 536 (by decide +kernel) rfl args)), fun _ h => absurd h List.not_mem_nil⟩⟩⟩, fun _ h => absurd h List.not_mem_nil, Or.inl rfl, en_arr h args⟩⟩
set_option maxHeartbeats 4000000 in
set_option maxRecDepth 100000 in
theorem bd_X1_findTelling : en_B (σ := Nat × Sx) t_X1_findTelling (fun _ => [.ref 23]) (fun x => wX x.2) (fun x => x.1 ≤ 100 ∧ x.2.1 1 = nI x.1) (fun x v w => v = none ∧ w = wX (xf x.2 (tks (x.2.1 5) (s3 x.2) (Ltell (x.2.2.2.2 6) (x.2.2.2.1 5) (x.2.2.2.1 3) x.1)))) := by
  rintro ⟨n, S⟩ ⟨hn, h1⟩ G hG OK ⟨run, sub⟩
  dsimp only at hn h1 hG ⊢
  unfold Ltell at hG
  have outer := lp_up (fun c => OK 0 0 2 [(0, .ref 23), (1, .int (nI c))] [] (wX (xf S (tks (S.1 5) (s3 S) (lsn (fun c => ifl (tells (S.2.2.2 6) (S.2.2.1 5) (S.2.2.1 3) n c) (nI c) (nI (ct (fun a => S.2.2.1 5 a ≠ -1 ∧ ¬ sab (S.2.2.2 6) (S.2.2.1 5) n c a) n))) c))))) 3
    (by
      refine run [2] 60 _ _ _ _ _ _ ?_
      conv => whnf
      refine pk_le 3 3 (fun h => ?_) (fun h => absurd h (by omega))
      conv => whnf
      exact hG _ _ ⟨rfl, rfl⟩)
    (fun c hc ih => by
      simp only [lsn] at ih
      rw [tks_app, nI_succ] at ih
      generalize tks (S.1 5) (s3 S) (lsn (fun c => ifl (tells (S.2.2.2 6) (S.2.2.1 5) (S.2.2.1 3) n c) (nI c) (nI (ct (fun a => S.2.2.1 5 a ≠ -1 ∧ ¬ sab (S.2.2.2 6) (S.2.2.1 5) n c a) n))) c) = Y at ih ⊢
      refine run [2] 60 _ _ _ _ _ _ ?_
      conv => whnf
      refine pk_le 3 c (fun h => absurd h (by omega)) (fun h => ?_)
      conv => whnf
      refine ⟨(n, c, xf S Y), rfl, rfl, ⟨hn, h1, hc⟩, ?_⟩
      intro v u hvu
      obtain ⟨rfl, rfl⟩ : v = some (.int (bl (tells (S.2.2.2 6) (S.2.2.1 5) (S.2.2.1 3) n c))) ∧ u = wX (xf S Y) := hvu
      conv => whnf
      refine bl_br (fun hp => ?_) (fun hp => ?_)
      · conv => whnf
        rw [ifl_f hp, tks_0] at ih
        exact ih
      · conv => whnf
        refine ⟨(n, c, xf S Y), rfl, rfl, ⟨hn, h1, hc⟩, ?_⟩
        intro v u hvu
        obtain ⟨rfl, rfl⟩ : v = some (.int (nI (ct (fun a => S.2.2.1 5 a ≠ -1 ∧ ¬ sab (S.2.2.2 6) (S.2.2.1 5) n c a) n))) ∧ u = wX (xf S Y) := hvu
        conv => whnf
        refine ⟨(nI c, nI (ct (fun a => S.2.2.1 5 a ≠ -1 ∧ ¬ sab (S.2.2.2 6) (S.2.2.1 5) n c a) n), xf S Y), rfl, rfl, trivial, ?_⟩
        rintro _ _ ⟨rfl, rfl⟩
        conv => whnf
        rw [ifl_t hp, tks_1] at ih
        exact ih)
  refine run [2] 60 _ _ _ _ _ _ ?_
  conv => whnf
  exact outer 0 (by omega)
theorem ct_X1_findTelling (D : va_G) (dT : Nat → Nat) (l : Launch) : en_CT en_WD D vwCl dT l yX1_findTelling cX1_findTelling 2 (none) rm_X1_findTelling f_X1_findTelling := en_met en_WD1 en_WD2 (by decide) rfl rfl (tB_X1_findTelling D dT l) (en_f_ln (fun _ => Nat.le_of_ble_eq_true rfl)) (en_f_bd bd_X1_findTelling)
set_option maxRecDepth 100000 in
theorem mk_X1_findTelling {D : va_G} {dT : Nat → Nat} {l : Launch} {R : Room} {s : State} {args : Array Value} {own : String} {idx : Nat} (h : en_WD s) (h1 : rm_X1_findTelling.frames + 1 ≤ R.frames) (h2 : 8 + (2 + 11) + rm_X1_findTelling.locals ≤ R.locals) (hl : (Jvm.Cond.methodLink own idx yX1_findTelling).before args s = true ∨ ∃ host, (Jvm.Cond.methodLinkNest own idx yX1_findTelling host).before args s = true) : en_mok en_WD D vwCl dT l R s args own (idx, 1, 3, 0, 0, f_X1_findTelling) :=
  ⟨yX1_findTelling, cX1_findTelling, 2, none, rm_X1_findTelling, 0, ct_X1_findTelling D dT l, rfl, rfl, h1, h2, en_wd h 563 rfl rfl args, en_wd h 65 (by decide +kernel) rfl args, by decide, by decide, hl, ⟨RX1, TX1, 6, rfl, en_wd h 562 (by decide +kernel) rfl args, en_wd h 26 (by decide +kernel) rfl args, rfl⟩⟩
/-- the leaks of a kind -/
def LK (N Wd : Nat → Int64) (Gp Lb T P By Ft : Nat → Int32) (n : Nat) (kd : Nat) (nn : Int32) : List (Int32 × Int32) := match kd with
  | 0 => Lpair N Wd P (nI 0) nn n
  | 1 => Lpair N Wd P (nI 1) nn n
  | 2 => Lgrp Gp P n
  | 3 => Llate P T (elt P T n) n
  | 4 => Ltell N P Lb n
  | _ => Lfit By Ft P n
abbrev LKX (S : Sx) (n : Nat) (kd : Nat) (nn : Int32) : List (Int32 × Int32) := LK (S.2.2.2 6) (S.2.2.2 7) (S.2.2.1 2) (S.2.2.1 3) (S.2.2.1 4) (S.2.2.1 5) (S.2.2.1 20) (S.2.2.1 22) n kd nn
def f_X1_search := en_f (σ := Nat × Nat × Int32 × Int32 × Sx) (fun x => [.ref 23, .int (nI x.2.1), .int x.2.2.1, .int x.2.2.2.1]) (fun x => wX x.2.2.2.2) (fun x => x.1 ≤ 100 ∧ x.2.2.2.2.1 1 = nI x.1 ∧ x.2.1 ≤ 5 ∧ zb (x.2.2.2.2.2.2.1 22) ∧ byok (x.2.2.2.2.2.2.1 20)) (fun x v w => v = some (.int (tks x.2.2.2.1 (0, x.2.2.2.2.1 7, x.2.2.2.2.1 8) (LKX x.2.2.2.2 x.1 x.2.1 x.2.2.1)).1) ∧ w = wX (xf (xi x.2.2.2.2 5 x.2.2.2.1) (tks x.2.2.2.1 (0, x.2.2.2.2.1 7, x.2.2.2.2.1 8) (LKX x.2.2.2.2 x.1 x.2.1 x.2.2.1))))
def rm_X1_search : Room := { frames := 4, cells := 0, slots := 0, locals := 97 }
def t_X1_search : en_T := ((4, 0, 0), tb_X1_search, fl_X1, cn_X1, [(32, 3, 3, 0, 0, f_X1_findPairs), (36, 1, 3, 0, 0, f_X1_findGroups), (39, 1, 3, 0, 0, f_X1_findLate), (42, 1, 3, 0, 0, f_X1_findTelling), (45, 1, 3, 0, 0, f_X1_findFitted)], [], 0, some .int)
set_option maxRecDepth 100000 in
theorem tB_X1_search (D : va_G) (dT : Nat → Nat) (l : Launch) : en_TB en_WD D vwCl dT l rm_X1_search t_X1_search RX1 "search" cX1_search := ⟨tk_X1_search, fun s args meth h hn => ⟨fo_X1 h args meth, co_X1 h args, List.forall_mem_cons.mpr ⟨mk_X1_findPairs (own := RX1) h (Nat.le_of_ble_eq_true rfl) (Nat.le_of_ble_eq_true rfl) (Or.inl (en_wd h 515 (by decide +kernel) rfl args)), List.forall_mem_cons.mpr ⟨mk_X1_findGroups (own := RX1) h (Nat.le_of_ble_eq_true rfl) (Nat.le_of_ble_eq_true rfl) (Or.inl (en_wd h 540 (by decide +kernel) rfl args)), List.forall_mem_cons.mpr ⟨mk_X1_findLate (own := RX1) h (Nat.le_of_ble_eq_true rfl) (Nat.le_of_ble_eq_true rfl) (Or.inl (en_wd h 552 (by decide +kernel) rfl args)), List.forall_mem_cons.mpr ⟨mk_X1_findTelling (own := RX1) h (Nat.le_of_ble_eq_true rfl) (Nat.le_of_ble_eq_true rfl) (Or.inl (en_wd h 560 (by decide +kernel) rfl args)), List.forall_mem_cons.mpr ⟨mk_X1_findFitted (own := RX1) h (Nat.le_of_ble_eq_true rfl) (Nat.le_of_ble_eq_true rfl) (Or.inl (en_wd h 582 (by decide +kernel) rfl args)), fun _ h => absurd h List.not_mem_nil⟩⟩⟩⟩⟩, fun _ h => absurd h List.not_mem_nil, Or.inl rfl, en_arr h args⟩⟩
set_option maxHeartbeats 4000000 in
set_option maxRecDepth 100000 in
theorem bd_X1_search : en_B (σ := Nat × Nat × Int32 × Int32 × Sx) t_X1_search (fun x => [.ref 23, .int (nI x.2.1), .int x.2.2.1, .int x.2.2.2.1]) (fun x => wX x.2.2.2.2) (fun x => x.1 ≤ 100 ∧ x.2.2.2.2.1 1 = nI x.1 ∧ x.2.1 ≤ 5 ∧ zb (x.2.2.2.2.2.2.1 22) ∧ byok (x.2.2.2.2.2.2.1 20)) (fun x v w => v = some (.int (tks x.2.2.2.1 (0, x.2.2.2.2.1 7, x.2.2.2.2.1 8) (LKX x.2.2.2.2 x.1 x.2.1 x.2.2.1)).1) ∧ w = wX (xf (xi x.2.2.2.2 5 x.2.2.2.1) (tks x.2.2.2.1 (0, x.2.2.2.2.1 7, x.2.2.2.2.1 8) (LKX x.2.2.2.2 x.1 x.2.1 x.2.2.1)))) := by
  rintro ⟨n, kd, nn, wh, S⟩ ⟨hn, h1, hkd, hz, hby⟩ G hG OK ⟨run, sub⟩
  dsimp only at hn h1 hkd hz hby hG ⊢
  refine run [] 60 _ _ _ _ _ _ ?_
  conv => whnf
  refine ⟨fun h => ?_, fun h => ?_, fun h => ?_, fun h => ?_, fun h => ?_, fun h => ?_, trivial⟩
  · have : kd = 5 := by rw [nI_toInt (by omega)] at h; omega
    subst this
    conv => whnf
    refine ⟨(n, xi (xi S 5 wh) 6 0), rfl, rfl, ⟨hn, h1, hz, hby⟩, ?_⟩
    intro v u hvu
    obtain ⟨rfl, rfl⟩ : v = none ∧ u = wX (xf (xi (xi S 5 wh) 6 0) (tks wh (0, S.1 7, S.1 8) (LKX S n 5 nn))) := hvu
    rw [xf_xi]
    generalize tks wh (0, S.1 7, S.1 8) (LKX S n 5 nn) = Y at hG ⊢
    conv => whnf
    exact hG _ _ ⟨rfl, rfl⟩
  · have : kd = 0 := by have := nI_int (by omega) h; omega
    subst this
    conv => whnf
    refine ⟨(n, nI 0, nn, xi (xi S 5 wh) 6 0), rfl, rfl, ⟨hn, h1⟩, ?_⟩
    intro v u hvu
    obtain ⟨rfl, rfl⟩ : v = none ∧ u = wX (xf (xi (xi S 5 wh) 6 0) (tks wh (0, S.1 7, S.1 8) (LKX S n 0 nn))) := hvu
    rw [xf_xi]
    generalize tks wh (0, S.1 7, S.1 8) (LKX S n 0 nn) = Y at hG ⊢
    conv => whnf
    exact hG _ _ ⟨rfl, rfl⟩
  · have : kd = 1 := by have := nI_int (by omega) h; omega
    subst this
    conv => whnf
    refine ⟨(n, nI 1, nn, xi (xi S 5 wh) 6 0), rfl, rfl, ⟨hn, h1⟩, ?_⟩
    intro v u hvu
    obtain ⟨rfl, rfl⟩ : v = none ∧ u = wX (xf (xi (xi S 5 wh) 6 0) (tks wh (0, S.1 7, S.1 8) (LKX S n 1 nn))) := hvu
    rw [xf_xi]
    generalize tks wh (0, S.1 7, S.1 8) (LKX S n 1 nn) = Y at hG ⊢
    conv => whnf
    exact hG _ _ ⟨rfl, rfl⟩
  · have : kd = 2 := by have := nI_int (by omega) h; omega
    subst this
    conv => whnf
    refine ⟨(n, xi (xi S 5 wh) 6 0), rfl, rfl, ⟨hn, h1⟩, ?_⟩
    intro v u hvu
    obtain ⟨rfl, rfl⟩ : v = none ∧ u = wX (xf (xi (xi S 5 wh) 6 0) (tks wh (0, S.1 7, S.1 8) (LKX S n 2 nn))) := hvu
    rw [xf_xi]
    generalize tks wh (0, S.1 7, S.1 8) (LKX S n 2 nn) = Y at hG ⊢
    conv => whnf
    exact hG _ _ ⟨rfl, rfl⟩
  · have : kd = 3 := by have := nI_int (by omega) h; omega
    subst this
    conv => whnf
    refine ⟨(n, xi (xi S 5 wh) 6 0), rfl, rfl, ⟨hn, h1⟩, ?_⟩
    intro v u hvu
    obtain ⟨rfl, rfl⟩ : v = none ∧ u = wX (xf (xi (xi S 5 wh) 6 0) (tks wh (0, S.1 7, S.1 8) (LKX S n 3 nn))) := hvu
    rw [xf_xi]
    generalize tks wh (0, S.1 7, S.1 8) (LKX S n 3 nn) = Y at hG ⊢
    conv => whnf
    exact hG _ _ ⟨rfl, rfl⟩
  · have : kd = 4 := by have := nI_int (by omega) h; omega
    subst this
    conv => whnf
    refine ⟨(n, xi (xi S 5 wh) 6 0), rfl, rfl, ⟨hn, h1⟩, ?_⟩
    intro v u hvu
    obtain ⟨rfl, rfl⟩ : v = none ∧ u = wX (xf (xi (xi S 5 wh) 6 0) (tks wh (0, S.1 7, S.1 8) (LKX S n 4 nn))) := hvu
    rw [xf_xi]
    generalize tks wh (0, S.1 7, S.1 8) (LKX S n 4 nn) = Y at hG ⊢
    conv => whnf
    exact hG _ _ ⟨rfl, rfl⟩
theorem ct_X1_search (D : va_G) (dT : Nat → Nat) (l : Launch) : en_CT en_WD D vwCl dT l yX1_search cX1_search 4 (some .int) rm_X1_search f_X1_search := en_met en_WD1 en_WD2 (by decide) rfl rfl (tB_X1_search D dT l) (en_f_ln (fun _ => Nat.le_of_ble_eq_true rfl)) (en_f_bd bd_X1_search)
set_option maxRecDepth 100000 in
theorem mk_X1_search {D : va_G} {dT : Nat → Nat} {l : Launch} {R : Room} {s : State} {args : Array Value} {own : String} {idx : Nat} (h : en_WD s) (h1 : rm_X1_search.frames + 1 ≤ R.frames) (h2 : 8 + (4 + 11) + rm_X1_search.locals ≤ R.locals) (hl : (Jvm.Cond.methodLink own idx yX1_search).before args s = true ∨ ∃ host, (Jvm.Cond.methodLinkNest own idx yX1_search host).before args s = true) : en_mok en_WD D vwCl dT l R s args own (idx, 4, 3, 0, 0, f_X1_search) :=
  ⟨yX1_search, cX1_search, 4, some .int, rm_X1_search, 3, ct_X1_search D dT l, rfl, rfl, h1, h2, en_wd h 514 rfl rfl args, en_wd h 65 (by decide +kernel) rfl args, by decide, by decide, hl, ⟨RX1, TX1, 6, rfl, en_wd h 512 (by decide +kernel) rfl args, en_wd h 513 (by decide +kernel) rfl args, rfl⟩⟩
end
section
/-! SplitLeaks: the public methods, first half -/
def f_X6_isWeight := en_f (σ := Int32 × List va_E) (fun x => [.int x.1]) (fun x => x.2) (fun _ => True) (fun x v w => v = some (.int (bl (0 ≤ x.1 ∧ x.1 < 1001))) ∧ w = x.2)
def rm_X6_isWeight : Room := { frames := 1, cells := 0, slots := 0, locals := 21 }
def t_X6_isWeight : en_T := ((1, 0, 0), tb_X6_isWeight, fl_X6, cn_X6, [(52, 2, 0, 0, 0, f_X6_isWithin)], [], 0, some .boolean)
set_option maxRecDepth 100000 in
theorem tB_X6_isWeight (D : va_G) (dT : Nat → Nat) (l : Launch) : en_TB en_WD D vwCl dT l rm_X6_isWeight t_X6_isWeight RX6 "isWeight" cX6_isWeight := ⟨tk_X6_isWeight, fun s args meth h hn => ⟨fo_X6 h args meth, co_X6 h args, List.forall_mem_cons.mpr ⟨mk_X6_isWithin (own := RX6) h (Nat.le_of_ble_eq_true rfl) (Nat.le_of_ble_eq_true rfl) (Or.inl (en_wd h 267 (by decide +kernel) rfl args)), fun _ h => absurd h List.not_mem_nil⟩, fun _ h => absurd h List.not_mem_nil, Or.inl rfl, en_arr h args⟩⟩
set_option maxHeartbeats 4000000 in
set_option maxRecDepth 100000 in
theorem bd_X6_isWeight : en_B (σ := Int32 × List va_E) t_X6_isWeight (fun x => [.int x.1]) (fun x => x.2) (fun _ => True) (fun x v w => v = some (.int (bl (0 ≤ x.1 ∧ x.1 < 1001))) ∧ w = x.2) := by
  rintro ⟨x, ws⟩ - G hG OK ⟨run, sub⟩
  dsimp only at hG ⊢
  refine run [] 20 _ _ _ _ _ _ ?_
  conv => whnf
  refine ⟨(x, 1001, ws), rfl, rfl, trivial, ?_⟩
  rintro _ _ ⟨rfl, rfl⟩
  conv => whnf
  exact ⟨bl_b, hG _ _ ⟨rfl, rfl⟩⟩
theorem ct_X6_isWeight (D : va_G) (dT : Nat → Nat) (l : Launch) : en_CT en_WD D vwCl dT l yX6_isWeight cX6_isWeight 1 (some .boolean) rm_X6_isWeight f_X6_isWeight := en_met en_WD1 en_WD2 (by decide) rfl rfl (tB_X6_isWeight D dT l) (en_f_ln (fun _ => Nat.le_of_ble_eq_true rfl)) (en_f_bd bd_X6_isWeight)
set_option maxRecDepth 100000 in
theorem mk_X6_isWeight {D : va_G} {dT : Nat → Nat} {l : Launch} {R : Room} {s : State} {args : Array Value} {own : String} {idx : Nat} (h : en_WD s) (h1 : rm_X6_isWeight.frames + 1 ≤ R.frames) (h2 : 8 + (1 + 11) + rm_X6_isWeight.locals ≤ R.locals) (hl : (Jvm.Cond.methodLink own idx yX6_isWeight).before args s = true ∨ ∃ host, (Jvm.Cond.methodLinkNest own idx yX6_isWeight host).before args s = true) : en_mok en_WD D vwCl dT l R s args own (idx, 1, 0, 0, 0, f_X6_isWeight) :=
  ⟨yX6_isWeight, cX6_isWeight, 1, some .boolean, rm_X6_isWeight, 1, ct_X6_isWeight D dT l, rfl, rfl, h1, h2, en_wd h 301 rfl rfl args, en_wd h 59 (by decide +kernel) rfl args, by decide, by decide, hl, ⟨en_wd h 300 (by decide +kernel) rfl args, rfl⟩⟩
abbrev splq (kd g : Int32) : Prop := (0 ≤ kd ∧ kd ≤ 3) ∧ (0 ≤ g ∧ g < 100001)
def f_X6_isSplit := en_f (σ := Int32 × Int32 × List va_E) (fun x => [.int x.1, .int x.2.1]) (fun x => x.2.2) (fun _ => True) (fun x v w => v = some (.int (bl (splq x.1 x.2.1))) ∧ w = x.2.2)
def rm_X6_isSplit : Room := { frames := 1, cells := 0, slots := 0, locals := 21 }
def t_X6_isSplit : en_T := ((2, 0, 0), tb_X6_isSplit, fl_X6, cn_X6, [(52, 2, 0, 0, 0, f_X6_isWithin)], [], 0, some .boolean)
set_option maxRecDepth 100000 in
theorem tB_X6_isSplit (D : va_G) (dT : Nat → Nat) (l : Launch) : en_TB en_WD D vwCl dT l rm_X6_isSplit t_X6_isSplit RX6 "isSplit" cX6_isSplit := ⟨tk_X6_isSplit, fun s args meth h hn => ⟨fo_X6 h args meth, co_X6 h args, List.forall_mem_cons.mpr ⟨mk_X6_isWithin (own := RX6) h (Nat.le_of_ble_eq_true rfl) (Nat.le_of_ble_eq_true rfl) (Or.inl (en_wd h 267 (by decide +kernel) rfl args)), fun _ h => absurd h List.not_mem_nil⟩, fun _ h => absurd h List.not_mem_nil, Or.inl rfl, en_arr h args⟩⟩
set_option maxHeartbeats 4000000 in
set_option maxRecDepth 100000 in
theorem bd_X6_isSplit : en_B (σ := Int32 × Int32 × List va_E) t_X6_isSplit (fun x => [.int x.1, .int x.2.1]) (fun x => x.2.2) (fun _ => True) (fun x v w => v = some (.int (bl (splq x.1 x.2.1))) ∧ w = x.2.2) := by
  rintro ⟨kd, g, ws⟩ - G hG OK ⟨run, sub⟩
  dsimp only at hG ⊢
  refine run [] 40 _ _ _ _ _ _ ?_
  conv => whnf
  refine ⟨fun h => ?_, fun h => ?_⟩
  · conv => whnf
    exact ⟨rfl, hG _ _ ⟨bl_af (fun z => absurd h (Int32.not_lt.mpr z.1.1)) rfl, rfl⟩⟩
  · conv => whnf
    refine ⟨fun h2 => ?_, fun h2 => ?_⟩
    · conv => whnf
      exact ⟨rfl, hG _ _ ⟨bl_af (fun z => absurd h2 (Int32.not_lt.mpr z.1.2)) rfl, rfl⟩⟩
    · conv => whnf
      refine ⟨(g, 100001, ws), rfl, rfl, trivial, ?_⟩
      rintro _ _ ⟨rfl, rfl⟩
      conv => whnf
      refine bl_br (fun h3 => ?_) (fun h3 => ?_)
      · conv => whnf
        exact ⟨rfl, hG _ _ ⟨bl_af (fun z => h3 z.2) rfl, rfl⟩⟩
      · conv => whnf
        exact ⟨rfl, hG _ _ ⟨bl_at ⟨⟨Int32.not_lt.mp h, Int32.not_lt.mp h2⟩, h3⟩ rfl, rfl⟩⟩
theorem ct_X6_isSplit (D : va_G) (dT : Nat → Nat) (l : Launch) : en_CT en_WD D vwCl dT l yX6_isSplit cX6_isSplit 2 (some .boolean) rm_X6_isSplit f_X6_isSplit := en_met en_WD1 en_WD2 (by decide) rfl rfl (tB_X6_isSplit D dT l) (en_f_ln (fun _ => Nat.le_of_ble_eq_true rfl)) (en_f_bd bd_X6_isSplit)
set_option maxRecDepth 100000 in
theorem mk_X6_isSplit {D : va_G} {dT : Nat → Nat} {l : Launch} {R : Room} {s : State} {args : Array Value} {own : String} {idx : Nat} (h : en_WD s) (h1 : rm_X6_isSplit.frames + 1 ≤ R.frames) (h2 : 8 + (2 + 11) + rm_X6_isSplit.locals ≤ R.locals) (hl : (Jvm.Cond.methodLink own idx yX6_isSplit).before args s = true ∨ ∃ host, (Jvm.Cond.methodLinkNest own idx yX6_isSplit host).before args s = true) : en_mok en_WD D vwCl dT l R s args own (idx, 2, 0, 0, 0, f_X6_isSplit) :=
  ⟨yX6_isSplit, cX6_isSplit, 2, some .boolean, rm_X6_isSplit, 2, ct_X6_isSplit D dT l, rfl, rfl, h1, h2, en_wd h 324 rfl rfl args, en_wd h 59 (by decide +kernel) rfl args, by decide, by decide, hl, ⟨en_wd h 323 (by decide +kernel) rfl args, rfl⟩⟩
def f_X6_isFolds := en_f (σ := Int32 × List va_E) (fun x => [.int x.1]) (fun x => x.2) (fun _ => True) (fun x v w => v = some (.int (bl (2 ≤ x.1 ∧ x.1 ≤ 4))) ∧ w = x.2)
def rm_X6_isFolds : Room := { frames := 0, cells := 0, slots := 0, locals := 0 }
def t_X6_isFolds : en_T := ((1, 0, 0), tb_X6_isFolds, fl_X6, cn_X6, [], [], 0, some .boolean)
set_option maxRecDepth 100000 in
theorem tB_X6_isFolds (D : va_G) (dT : Nat → Nat) (l : Launch) : en_TB en_WD D vwCl dT l rm_X6_isFolds t_X6_isFolds RX6 "isFolds" cX6_isFolds := ⟨tk_X6_isFolds, fun s args meth h hn => ⟨fo_X6 h args meth, co_X6 h args, fun _ h => absurd h List.not_mem_nil, fun _ h => absurd h List.not_mem_nil, Or.inl rfl, en_arr h args⟩⟩
set_option maxHeartbeats 4000000 in
set_option maxRecDepth 100000 in
theorem bd_X6_isFolds : en_B (σ := Int32 × List va_E) t_X6_isFolds (fun x => [.int x.1]) (fun x => x.2) (fun _ => True) (fun x v w => v = some (.int (bl (2 ≤ x.1 ∧ x.1 ≤ 4))) ∧ w = x.2) := by
  rintro ⟨kd, ws⟩ - G hG OK ⟨run, sub⟩
  dsimp only at hG ⊢
  refine run [] 40 _ _ _ _ _ _ ?_
  conv => whnf
  refine ⟨fun h => ?_, fun h => ?_⟩
  · conv => whnf
    exact ⟨rfl, hG _ _ ⟨bl_af (fun z => absurd h (Int32.not_lt.mpr z.1)) rfl, rfl⟩⟩
  · conv => whnf
    refine ⟨fun h2 => ?_, fun h2 => ?_⟩
    · conv => whnf
      exact ⟨rfl, hG _ _ ⟨bl_af (fun z => absurd h2 (Int32.not_lt.mpr z.2)) rfl, rfl⟩⟩
    · conv => whnf
      exact ⟨rfl, hG _ _ ⟨bl_at ⟨Int32.not_lt.mp h, Int32.not_lt.mp h2⟩ rfl, rfl⟩⟩
theorem ct_X6_isFolds (D : va_G) (dT : Nat → Nat) (l : Launch) : en_CT en_WD D vwCl dT l yX6_isFolds cX6_isFolds 1 (some .boolean) rm_X6_isFolds f_X6_isFolds := en_met en_WD1 en_WD2 (by decide) rfl rfl (tB_X6_isFolds D dT l) (en_f_ln (fun _ => Nat.le_of_ble_eq_true rfl)) (en_f_bd bd_X6_isFolds)
set_option maxRecDepth 100000 in
theorem mk_X6_isFolds {D : va_G} {dT : Nat → Nat} {l : Launch} {R : Room} {s : State} {args : Array Value} {own : String} {idx : Nat} (h : en_WD s) (h1 : rm_X6_isFolds.frames + 1 ≤ R.frames) (h2 : 8 + (1 + 11) + rm_X6_isFolds.locals ≤ R.locals) (hl : (Jvm.Cond.methodLink own idx yX6_isFolds).before args s = true ∨ ∃ host, (Jvm.Cond.methodLinkNest own idx yX6_isFolds host).before args s = true) : en_mok en_WD D vwCl dT l R s args own (idx, 1, 0, 0, 0, f_X6_isFolds) :=
  ⟨yX6_isFolds, cX6_isFolds, 1, some .boolean, rm_X6_isFolds, 1, ct_X6_isFolds D dT l, rfl, rfl, h1, h2, en_wd h 427 rfl rfl args, en_wd h 59 (by decide +kernel) rfl args, by decide, by decide, hl, ⟨en_wd h 426 (by decide +kernel) rfl args, rfl⟩⟩
def f_X6_isLeakKind := en_f (σ := Int32 × List va_E) (fun x => [.int x.1]) (fun x => x.2) (fun _ => True) (fun x v w => v = some (.int (bl (0 ≤ x.1 ∧ x.1 ≤ 5))) ∧ w = x.2)
def rm_X6_isLeakKind : Room := { frames := 0, cells := 0, slots := 0, locals := 0 }
def t_X6_isLeakKind : en_T := ((1, 0, 0), tb_X6_isLeakKind, fl_X6, cn_X6, [], [], 0, some .boolean)
set_option maxRecDepth 100000 in
theorem tB_X6_isLeakKind (D : va_G) (dT : Nat → Nat) (l : Launch) : en_TB en_WD D vwCl dT l rm_X6_isLeakKind t_X6_isLeakKind RX6 "isLeakKind" cX6_isLeakKind := ⟨tk_X6_isLeakKind, fun s args meth h hn => ⟨fo_X6 h args meth, co_X6 h args, fun _ h => absurd h List.not_mem_nil, fun _ h => absurd h List.not_mem_nil, Or.inl rfl, en_arr h args⟩⟩
set_option maxHeartbeats 4000000 in
set_option maxRecDepth 100000 in
theorem bd_X6_isLeakKind : en_B (σ := Int32 × List va_E) t_X6_isLeakKind (fun x => [.int x.1]) (fun x => x.2) (fun _ => True) (fun x v w => v = some (.int (bl (0 ≤ x.1 ∧ x.1 ≤ 5))) ∧ w = x.2) := by
  rintro ⟨kd, ws⟩ - G hG OK ⟨run, sub⟩
  dsimp only at hG ⊢
  refine run [] 40 _ _ _ _ _ _ ?_
  conv => whnf
  refine ⟨fun h => ?_, fun h => ?_⟩
  · conv => whnf
    exact ⟨rfl, hG _ _ ⟨bl_af (fun z => absurd h (Int32.not_lt.mpr z.1)) rfl, rfl⟩⟩
  · conv => whnf
    refine ⟨fun h2 => ?_, fun h2 => ?_⟩
    · conv => whnf
      exact ⟨rfl, hG _ _ ⟨bl_af (fun z => absurd h2 (Int32.not_lt.mpr z.2)) rfl, rfl⟩⟩
    · conv => whnf
      exact ⟨rfl, hG _ _ ⟨bl_at ⟨Int32.not_lt.mp h, Int32.not_lt.mp h2⟩ rfl, rfl⟩⟩
theorem ct_X6_isLeakKind (D : va_G) (dT : Nat → Nat) (l : Launch) : en_CT en_WD D vwCl dT l yX6_isLeakKind cX6_isLeakKind 1 (some .boolean) rm_X6_isLeakKind f_X6_isLeakKind := en_met en_WD1 en_WD2 (by decide) rfl rfl (tB_X6_isLeakKind D dT l) (en_f_ln (fun _ => Nat.le_of_ble_eq_true rfl)) (en_f_bd bd_X6_isLeakKind)
set_option maxRecDepth 100000 in
theorem mk_X6_isLeakKind {D : va_G} {dT : Nat → Nat} {l : Launch} {R : Room} {s : State} {args : Array Value} {own : String} {idx : Nat} (h : en_WD s) (h1 : rm_X6_isLeakKind.frames + 1 ≤ R.frames) (h2 : 8 + (1 + 11) + rm_X6_isLeakKind.locals ≤ R.locals) (hl : (Jvm.Cond.methodLink own idx yX6_isLeakKind).before args s = true ∨ ∃ host, (Jvm.Cond.methodLinkNest own idx yX6_isLeakKind host).before args s = true) : en_mok en_WD D vwCl dT l R s args own (idx, 1, 0, 0, 0, f_X6_isLeakKind) :=
  ⟨yX6_isLeakKind, cX6_isLeakKind, 1, some .boolean, rm_X6_isLeakKind, 1, ct_X6_isLeakKind D dT l, rfl, rfl, h1, h2, en_wd h 510 rfl rfl args, en_wd h 59 (by decide +kernel) rfl args, by decide, by decide, hl, ⟨en_wd h 509 (by decide +kernel) rfl args, rfl⟩⟩
/-- what the class's world keeps -/
def okx (S : Sx) (n : Nat) (w : Nat → Nat) (W k : Nat) : Prop := n ≤ 100 ∧ S.1 1 = nI n ∧ wgt S w W k ∧ zb (S.2.2.1 22) ∧ byok (S.2.2.1 20)
abbrev rowq (g l t : Int32) : Prop := (0 ≤ g ∧ g < 30) ∧ (0 ≤ l ∧ l < 5) ∧ (0 ≤ t ∧ t < 100001)
def apx (S : Sx) (n : Nat) (g l t : Int32) : Sx := xi (xa (xa (xa (xa S 2 (upd (S.2.2.1 2) n g)) 3 (upd (S.2.2.1 3) n l)) 4 (upd (S.2.2.1 4) n t)) 5 (upd (S.2.2.1 5) n (-1))) 1 (nI (n + 1))
/-- an answer by cases: the one that is so -/
def ans (v : Option Value) (w : List va_E) (x : Int32) (S : Sx) : Prop := v = some (.int x) ∧ w = wX S
def f_X6_row := en_f (σ := Int32 × Int32 × Int32 × Nat × Sx) (fun x => [.ref 0, .int x.1, .int x.2.1, .int x.2.2.1]) (fun x => wX x.2.2.2.2) (fun x => x.2.2.2.1 ≤ 100 ∧ x.2.2.2.2.1 1 = nI x.2.2.2.1) (fun x v w => (¬ rowq x.1 x.2.1 x.2.2.1 ∧ ans v w (-2) x.2.2.2.2) ∨ (rowq x.1 x.2.1 x.2.2.1 ∧ x.2.2.2.1 = 100 ∧ ans v w (-3) x.2.2.2.2) ∨ (rowq x.1 x.2.1 x.2.2.1 ∧ x.2.2.2.1 < 100 ∧ ans v w (nI x.2.2.2.1) (apx x.2.2.2.2 x.2.2.2.1 x.1 x.2.1 x.2.2.1)))
def rm_X6_row : Room := { frames := 1, cells := 0, slots := 0, locals := 24 }
def t_X6_row : en_T := ((4, 0, 0), tb_X6_row, fl_X6, cn_X6, [(52, 2, 0, 0, 0, f_X6_isWithin), (60, 4, 4, 0, 0, f_X2_append)], [], 0, some .int)
set_option maxRecDepth 100000 in
theorem tB_X6_row (D : va_G) (dT : Nat → Nat) (l : Launch) : en_TB en_WD D vwCl dT l rm_X6_row t_X6_row RX6 "row" cX6_row := ⟨tk_X6_row, fun s args meth h hn => ⟨fo_X6 h args meth, co_X6 h args, List.forall_mem_cons.mpr ⟨mk_X6_isWithin (own := RX6) h (Nat.le_of_ble_eq_true rfl) (Nat.le_of_ble_eq_true rfl) (Or.inl (en_wd h 267 (by decide +kernel) rfl args)), List.forall_mem_cons.mpr ⟨mk_X2_append (own := RX6) h (Nat.le_of_ble_eq_true rfl) (Nat.le_of_ble_eq_true rfl) (Or.inl (en_wd h 271 (by decide +kernel) rfl args)), fun _ h => absurd h List.not_mem_nil⟩⟩, fun _ h => absurd h List.not_mem_nil, Or.inl rfl, en_arr h args⟩⟩
set_option maxHeartbeats 4000000 in
set_option maxRecDepth 100000 in
theorem bd_X6_row : en_B (σ := Int32 × Int32 × Int32 × Nat × Sx) t_X6_row (fun x => [.ref 0, .int x.1, .int x.2.1, .int x.2.2.1]) (fun x => wX x.2.2.2.2) (fun x => x.2.2.2.1 ≤ 100 ∧ x.2.2.2.2.1 1 = nI x.2.2.2.1) (fun x v w => (¬ rowq x.1 x.2.1 x.2.2.1 ∧ ans v w (-2) x.2.2.2.2) ∨ (rowq x.1 x.2.1 x.2.2.1 ∧ x.2.2.2.1 = 100 ∧ ans v w (-3) x.2.2.2.2) ∨ (rowq x.1 x.2.1 x.2.2.1 ∧ x.2.2.2.1 < 100 ∧ ans v w (nI x.2.2.2.1) (apx x.2.2.2.2 x.2.2.2.1 x.1 x.2.1 x.2.2.1))) := by
  rintro ⟨g, l, t, n, S⟩ ⟨hn, h1⟩ G hG OK ⟨run, sub⟩
  dsimp only at hn h1 hG ⊢
  refine run [] 60 _ _ _ _ _ _ ?_
  conv => whnf
  refine ⟨(g, 30, wX S), rfl, rfl, trivial, ?_⟩
  rintro _ _ ⟨rfl, rfl⟩
  conv => whnf
  refine bl_br (fun c1 => ?_) (fun c1 => ?_)
  · conv => whnf
    exact hG _ _ (Or.inl ⟨fun z => c1 z.1, rfl, rfl⟩)
  conv => whnf
  refine ⟨(l, 5, wX S), rfl, rfl, trivial, ?_⟩
  rintro _ _ ⟨rfl, rfl⟩
  conv => whnf
  refine bl_br (fun c2 => ?_) (fun c2 => ?_)
  · conv => whnf
    exact hG _ _ (Or.inl ⟨fun z => c2 z.2.1, rfl, rfl⟩)
  conv => whnf
  refine ⟨(t, 100001, wX S), rfl, rfl, trivial, ?_⟩
  rintro _ _ ⟨rfl, rfl⟩
  conv => whnf
  refine bl_br2 (fun c3 => ?_) (fun c3 => ?_)
  rotate_left
  · conv => whnf
    exact hG _ _ (Or.inl ⟨fun z => c3 z.2.2, rfl, rfl⟩)
  conv => whnf
  refine pk_lt n 100 (fun h => ?_) (fun h => ?_) h1
  · conv => whnf
    refine ⟨(n, g, l, t, S), rfl, rfl, ⟨h, h1⟩, ?_⟩
    rintro _ _ ⟨rfl, rfl⟩
    conv => whnf
    exact hG _ _ (Or.inr (Or.inr ⟨⟨c1, c2, c3⟩, h, rfl, rfl⟩))
  · conv => whnf
    exact hG _ _ (Or.inr (Or.inl ⟨⟨c1, c2, c3⟩, by omega, rfl, rfl⟩))
theorem ct_X6_row (D : va_G) (dT : Nat → Nat) (l : Launch) : en_CT en_WD D vwCl dT l yX6_row cX6_row 4 (some .int) rm_X6_row f_X6_row := en_met en_WD1 en_WD2 (by decide) rfl rfl (tB_X6_row D dT l) (en_f_ln (fun _ => Nat.le_of_ble_eq_true rfl)) (en_f_bd bd_X6_row)
set_option maxRecDepth 100000 in
theorem mk_X6_row {D : va_G} {dT : Nat → Nat} {l : Launch} {R : Room} {s : State} {args : Array Value} {own : String} {idx : Nat} (h : en_WD s) (h1 : rm_X6_row.frames + 1 ≤ R.frames) (h2 : 8 + (4 + 11) + rm_X6_row.locals ≤ R.locals) (hl : (Jvm.Cond.methodLink own idx yX6_row).before args s = true ∨ ∃ host, (Jvm.Cond.methodLinkNest own idx yX6_row host).before args s = true) : en_mok en_WD D vwCl dT l R s args own (idx, 4, 8, 0, 0, f_X6_row) :=
  ⟨yX6_row, cX6_row, 4, some .int, rm_X6_row, 3, ct_X6_row D dT l, rfl, rfl, h1, h2, en_wd h 266 rfl rfl args, en_wd h 59 (by decide +kernel) rfl args, by decide, by decide, hl, ⟨RX6, TX6, 6, rfl, en_wd h 264 (by decide +kernel) rfl args, en_wd h 265 (by decide +kernel) rfl args, rfl⟩⟩
abbrev inr_ (x : Int32) (n : Nat) : Prop := 0 ≤ x ∧ x < nI n
def f_X6_column := en_f (σ := Int32 × Int32 × Int64 × Nat × Sx) (fun x => [.ref 0, .int x.1, .int x.2.1, .long x.2.2.1]) (fun x => wX x.2.2.2.2) (fun x => x.2.2.2.1 ≤ 100 ∧ x.2.2.2.2.1 1 = nI x.2.2.2.1) (fun x v w => (¬ (inr_ x.1 x.2.2.2.1 ∧ inr_ x.2.1 3) ∧ ans v w (-2) x.2.2.2.2) ∨ ((inr_ x.1 x.2.2.2.1 ∧ inr_ x.2.1 3) ∧ ans v w 1 (xl x.2.2.2.2 6 (vp_updL (x.2.2.2.2.2.2.2 6) (tn x.1 * 3 + tn x.2.1) x.2.2.1))))
def rm_X6_column : Room := { frames := 2, cells := 0, slots := 0, locals := 42 }
def t_X6_column : en_T := ((5, 0, 0), tb_X6_column, fl_X6, cn_X6, [(64, 2, 4, 0, 0, f_X2_has), (52, 2, 0, 0, 0, f_X6_isWithin)], [], 0, some .int)
set_option maxRecDepth 100000 in
theorem tB_X6_column (D : va_G) (dT : Nat → Nat) (l : Launch) : en_TB en_WD D vwCl dT l rm_X6_column t_X6_column RX6 "column" cX6_column := ⟨tk_X6_column, fun s args meth h hn => ⟨fo_X6 h args meth, co_X6 h args, List.forall_mem_cons.mpr ⟨mk_X2_has (own := RX6) h (Nat.le_of_ble_eq_true rfl) (Nat.le_of_ble_eq_true rfl) (Or.inl (en_wd h 279 (by decide +kernel) rfl args)), List.forall_mem_cons.mpr ⟨mk_X6_isWithin (own := RX6) h (Nat.le_of_ble_eq_true rfl) (Nat.le_of_ble_eq_true rfl) (Or.inl (en_wd h 267 (by decide +kernel) rfl args)), fun _ h => absurd h List.not_mem_nil⟩⟩, fun _ h => absurd h List.not_mem_nil, Or.inl rfl, en_arr h args⟩⟩
set_option maxHeartbeats 4000000 in
set_option maxRecDepth 100000 in
theorem bd_X6_column : en_B (σ := Int32 × Int32 × Int64 × Nat × Sx) t_X6_column (fun x => [.ref 0, .int x.1, .int x.2.1, .long x.2.2.1]) (fun x => wX x.2.2.2.2) (fun x => x.2.2.2.1 ≤ 100 ∧ x.2.2.2.2.1 1 = nI x.2.2.2.1) (fun x v w => (¬ (inr_ x.1 x.2.2.2.1 ∧ inr_ x.2.1 3) ∧ ans v w (-2) x.2.2.2.2) ∨ ((inr_ x.1 x.2.2.2.1 ∧ inr_ x.2.1 3) ∧ ans v w 1 (xl x.2.2.2.2 6 (vp_updL (x.2.2.2.2.2.2.2 6) (tn x.1 * 3 + tn x.2.1) x.2.2.1)))) := by
  rintro ⟨r, c, y, n, S⟩ ⟨hn, h1⟩ G hG OK ⟨run, sub⟩
  dsimp only at hn h1 hG ⊢
  refine run [] 60 _ _ _ _ _ _ ?_
  conv => whnf
  refine ⟨(r, S), rfl, rfl, trivial, ?_⟩
  intro v u hvu
  obtain ⟨rfl, rfl⟩ : v = some (.int (bl (inr_ r n))) ∧ u = wX S := by unfold inr_; rw [← h1]; exact hvu
  conv => whnf
  refine bl_br (fun c1 => ?_) (fun c1 => ?_)
  · conv => whnf
    exact hG _ _ (Or.inl ⟨fun z => c1 z.1, rfl, rfl⟩)
  conv => whnf
  refine ⟨(c, 3, wX S), rfl, rfl, trivial, ?_⟩
  intro v u hvu
  obtain ⟨rfl, rfl⟩ : v = some (.int (bl (inr_ c 3))) ∧ u = wX S := hvu
  conv => whnf
  refine bl_br2 (fun c2 => ?_) (fun c2 => ?_)
  rotate_left
  · conv => whnf
    exact hG _ _ (Or.inl ⟨fun z => c2 z.2, rfl, rfl⟩)
  obtain ⟨i, hi, rfl⟩ := in_of (by omega) c1
  obtain ⟨j, hj, rfl⟩ := in_of (by decide) c2
  conv => whnf
  rw [mul3]
  refine ⟨vp_in_nI (by omega) (by decide), ?_⟩
  rw [nI_clamp (by omega)]
  conv => whnf
  refine hG _ _ (Or.inr ⟨⟨c1, c2⟩, rfl, ?_⟩)
  rw [show tn (nI i) = i from nI_clamp (by omega), show tn (nI j) = j from nI_clamp (by omega)]
  rfl
theorem ct_X6_column (D : va_G) (dT : Nat → Nat) (l : Launch) : en_CT en_WD D vwCl dT l yX6_column cX6_column 5 (some .int) rm_X6_column f_X6_column := en_met en_WD1 en_WD2 (by decide) rfl rfl (tB_X6_column D dT l) (en_f_ln (fun _ => Nat.le_of_ble_eq_true rfl)) (en_f_bd bd_X6_column)
set_option maxRecDepth 100000 in
theorem mk_X6_column {D : va_G} {dT : Nat → Nat} {l : Launch} {R : Room} {s : State} {args : Array Value} {own : String} {idx : Nat} (h : en_WD s) (h1 : rm_X6_column.frames + 1 ≤ R.frames) (h2 : 8 + (5 + 11) + rm_X6_column.locals ≤ R.locals) (hl : (Jvm.Cond.methodLink own idx yX6_column).before args s = true ∨ ∃ host, (Jvm.Cond.methodLinkNest own idx yX6_column host).before args s = true) : en_mok en_WD D vwCl dT l R s args own (idx, 4, 8, 0, 0, f_X6_column) :=
  ⟨yX6_column, cX6_column, 5, some .int, rm_X6_column, 3, ct_X6_column D dT l, rfl, rfl, h1, h2, en_wd h 278 rfl rfl args, en_wd h 59 (by decide +kernel) rfl args, by decide, by decide, hl, ⟨RX6, TX6, 6, rfl, en_wd h 276 (by decide +kernel) rfl args, en_wd h 277 (by decide +kernel) rfl args, rfl⟩⟩
/-- words with one that comes or goes -/
def nwd (x : Int64) (wd c : Int32) : Int64 := if c = 0 then x &&& ((1 <<< (wd.toInt64 &&& 63)) ^^^ (-1)) else x ||| (1 <<< (wd.toInt64 &&& 63))
def f_X6_word := en_f (σ := Int32 × Int32 × Int32 × Nat × Sx) (fun x => [.ref 0, .int x.1, .int x.2.1, .int x.2.2.1]) (fun x => wX x.2.2.2.2) (fun x => x.2.2.2.1 ≤ 100 ∧ x.2.2.2.2.1 1 = nI x.2.2.2.1) (fun x v w => (¬ (inr_ x.1 x.2.2.2.1 ∧ inr_ x.2.1 64) ∧ ans v w (-2) x.2.2.2.2) ∨ ((inr_ x.1 x.2.2.2.1 ∧ inr_ x.2.1 64) ∧ ans v w (pcr (nwd (x.2.2.2.2.2.2.2 7 (tn x.1)) x.2.1 x.2.2.1)) (xl x.2.2.2.2 7 (vp_updL (x.2.2.2.2.2.2.2 7) (tn x.1) (nwd (x.2.2.2.2.2.2.2 7 (tn x.1)) x.2.1 x.2.2.1)))))
def rm_X6_word : Room := { frames := 2, cells := 0, slots := 0, locals := 42 }
def t_X6_word : en_T := ((6, 0, 0), tb_X6_word, fl_X6, cn_X6, [(64, 2, 4, 0, 0, f_X2_has), (52, 2, 0, 0, 0, f_X6_isWithin), (77, 1, 0, 0, 0, f_JL_bitCount)], [], 0, some .int)
set_option maxRecDepth 100000 in
theorem tB_X6_word (D : va_G) (dT : Nat → Nat) (l : Launch) : en_TB en_WD D vwCl dT l rm_X6_word t_X6_word RX6 "word" cX6_word := ⟨tk_X6_word, fun s args meth h hn => ⟨fo_X6 h args meth, co_X6 h args, List.forall_mem_cons.mpr ⟨mk_X2_has (own := RX6) h (Nat.le_of_ble_eq_true rfl) (Nat.le_of_ble_eq_true rfl) (Or.inl (en_wd h 279 (by decide +kernel) rfl args)), List.forall_mem_cons.mpr ⟨mk_X6_isWithin (own := RX6) h (Nat.le_of_ble_eq_true rfl) (Nat.le_of_ble_eq_true rfl) (Or.inl (en_wd h 267 (by decide +kernel) rfl args)), List.forall_mem_cons.mpr ⟨mk_JL_bitCount (own := RX6) h (Nat.le_of_ble_eq_true rfl) (Nat.le_of_ble_eq_true rfl) (Or.inl (en_wd h 289 (by decide +kernel) rfl args)), fun _ h => absurd h List.not_mem_nil⟩⟩⟩, fun _ h => absurd h List.not_mem_nil, Or.inl rfl, en_arr h args⟩⟩
set_option maxHeartbeats 4000000 in
set_option maxRecDepth 100000 in
theorem bd_X6_word : en_B (σ := Int32 × Int32 × Int32 × Nat × Sx) t_X6_word (fun x => [.ref 0, .int x.1, .int x.2.1, .int x.2.2.1]) (fun x => wX x.2.2.2.2) (fun x => x.2.2.2.1 ≤ 100 ∧ x.2.2.2.2.1 1 = nI x.2.2.2.1) (fun x v w => (¬ (inr_ x.1 x.2.2.2.1 ∧ inr_ x.2.1 64) ∧ ans v w (-2) x.2.2.2.2) ∨ ((inr_ x.1 x.2.2.2.1 ∧ inr_ x.2.1 64) ∧ ans v w (pcr (nwd (x.2.2.2.2.2.2.2 7 (tn x.1)) x.2.1 x.2.2.1)) (xl x.2.2.2.2 7 (vp_updL (x.2.2.2.2.2.2.2 7) (tn x.1) (nwd (x.2.2.2.2.2.2.2 7 (tn x.1)) x.2.1 x.2.2.1))))) := by
  rintro ⟨r, c, y, n, S⟩ ⟨hn, h1⟩ G hG OK ⟨run, sub⟩
  dsimp only at hn h1 hG ⊢
  refine run [] 80 _ _ _ _ _ _ ?_
  conv => whnf
  refine ⟨(r, S), rfl, rfl, trivial, ?_⟩
  intro v u hvu
  obtain ⟨rfl, rfl⟩ : v = some (.int (bl (inr_ r n))) ∧ u = wX S := by unfold inr_; rw [← h1]; exact hvu
  conv => whnf
  refine bl_br (fun c1 => ?_) (fun c1 => ?_)
  · conv => whnf
    exact hG _ _ (Or.inl ⟨fun z => c1 z.1, rfl, rfl⟩)
  conv => whnf
  refine ⟨(c, 64, wX S), rfl, rfl, trivial, ?_⟩
  intro v u hvu
  obtain ⟨rfl, rfl⟩ : v = some (.int (bl (inr_ c 64))) ∧ u = wX S := hvu
  conv => whnf
  refine bl_br2 (fun c2 => ?_) (fun c2 => ?_)
  rotate_left
  · conv => whnf
    exact hG _ _ (Or.inl ⟨fun z => c2 z.2, rfl, rfl⟩)
  obtain ⟨i, hi, rfl⟩ := in_of (by omega) c1
  have hti : tn (nI i) = i := nI_clamp (by omega)
  rw [hti] at hG
  unfold nwd at hG
  conv => whnf
  refine ⟨fun hy => ?_, fun hy => ?_⟩
  · rw [if_pos hy] at hG
    conv => whnf
    refine ⟨vp_in_nI (by omega) (by decide), ?_⟩
    rw [nI_clamp (by omega)]
    conv => whnf
    refine ⟨vp_in_nI (by omega) (by decide), ?_⟩
    conv => whnf
    refine ⟨vp_in_nI (by omega) (by decide), ?_⟩
    rw [nI_clamp (by omega)]
    conv => whnf
    refine ⟨(vp_updL (S.2.2.2 7) i (S.2.2.2 7 i &&& ((1 <<< (c.toInt64 &&& 63)) ^^^ (-1))) i, wX (xl S 7 (vp_updL (S.2.2.2 7) i (S.2.2.2 7 i &&& ((1 <<< (c.toInt64 &&& 63)) ^^^ (-1)))))), rfl, rfl, trivial, ?_⟩
    intro v u hvu
    obtain ⟨rfl, rfl⟩ : v = some (.int (pcr (S.2.2.2 7 i &&& ((1 <<< (c.toInt64 &&& 63)) ^^^ (-1))))) ∧ u = wX (xl S 7 (vp_updL (S.2.2.2 7) i (S.2.2.2 7 i &&& ((1 <<< (c.toInt64 &&& 63)) ^^^ (-1))))) := ⟨hvu.1.trans (by show some (Value.int (pcr (vp_updL _ i _ i))) = _; rw [pk_uLs]), hvu.2⟩
    conv => whnf
    exact hG _ _ (Or.inr ⟨⟨c1, c2⟩, rfl, rfl⟩)
  · rw [if_neg hy] at hG
    conv => whnf
    refine ⟨vp_in_nI (by omega) (by decide), ?_⟩
    rw [nI_clamp (by omega)]
    conv => whnf
    refine ⟨vp_in_nI (by omega) (by decide), ?_⟩
    conv => whnf
    refine ⟨vp_in_nI (by omega) (by decide), ?_⟩
    rw [nI_clamp (by omega)]
    conv => whnf
    refine ⟨(vp_updL (S.2.2.2 7) i (S.2.2.2 7 i ||| (1 <<< (c.toInt64 &&& 63))) i, wX (xl S 7 (vp_updL (S.2.2.2 7) i (S.2.2.2 7 i ||| (1 <<< (c.toInt64 &&& 63)))))), rfl, rfl, trivial, ?_⟩
    intro v u hvu
    obtain ⟨rfl, rfl⟩ : v = some (.int (pcr (S.2.2.2 7 i ||| (1 <<< (c.toInt64 &&& 63))))) ∧ u = wX (xl S 7 (vp_updL (S.2.2.2 7) i (S.2.2.2 7 i ||| (1 <<< (c.toInt64 &&& 63))))) := ⟨hvu.1.trans (by show some (Value.int (pcr (vp_updL _ i _ i))) = _; rw [pk_uLs]), hvu.2⟩
    conv => whnf
    exact hG _ _ (Or.inr ⟨⟨c1, c2⟩, rfl, rfl⟩)
theorem ct_X6_word (D : va_G) (dT : Nat → Nat) (l : Launch) : en_CT en_WD D vwCl dT l yX6_word cX6_word 6 (some .int) rm_X6_word f_X6_word := en_met en_WD1 en_WD2 (by decide) rfl rfl (tB_X6_word D dT l) (en_f_ln (fun _ => Nat.le_of_ble_eq_true rfl)) (en_f_bd bd_X6_word)
set_option maxRecDepth 100000 in
theorem mk_X6_word {D : va_G} {dT : Nat → Nat} {l : Launch} {R : Room} {s : State} {args : Array Value} {own : String} {idx : Nat} (h : en_WD s) (h1 : rm_X6_word.frames + 1 ≤ R.frames) (h2 : 8 + (6 + 11) + rm_X6_word.locals ≤ R.locals) (hl : (Jvm.Cond.methodLink own idx yX6_word).before args s = true ∨ ∃ host, (Jvm.Cond.methodLinkNest own idx yX6_word host).before args s = true) : en_mok en_WD D vwCl dT l R s args own (idx, 4, 8, 0, 0, f_X6_word) :=
  ⟨yX6_word, cX6_word, 6, some .int, rm_X6_word, 3, ct_X6_word D dT l, rfl, rfl, h1, h2, en_wd h 287 rfl rfl args, en_wd h 59 (by decide +kernel) rfl args, by decide, by decide, hl, ⟨RX6, TX6, 6, rfl, en_wd h 285 (by decide +kernel) rfl args, en_wd h 286 (by decide +kernel) rfl args, rfl⟩⟩
end
section
/-! SplitLeaks: parts, quota, of, many, near, fit, base, meets, told -/
abbrev wq (x : Int32) : Prop := 0 ≤ x ∧ x < 1001
/-- the world with new weights -/
def bcx (S : Sx) (k a b c d : Int32) : Sx := xi (xa (xi S 2 k) 10 (upd (upd (upd (upd (S.2.2.1 10) 0 a) 1 b) 2 c) 3 d)) 3 (a + b + c + d)
abbrev parq (k a b c d : Int32) : Prop := (1 ≤ k ∧ k ≤ 4) ∧ wq a ∧ wq (if 1 < k then b else 0) ∧ wq (if 2 < k then c else 0) ∧ wq (if 3 < k then d else 0) ∧ a + (if 1 < k then b else 0) + (if 2 < k then c else 0) + (if 3 < k then d else 0) ≠ 0
def f_X6_parts := en_f (σ := Int32 × Int32 × Int32 × Int32 × Int32 × Sx) (fun x => [.ref 0, .int x.1, .int x.2.1, .int x.2.2.1, .int x.2.2.2.1, .int x.2.2.2.2.1]) (fun x => wX x.2.2.2.2.2) (fun _ => True) (fun x v w => (¬ parq x.1 x.2.1 x.2.2.1 x.2.2.2.1 x.2.2.2.2.1 ∧ ans v w (-2) x.2.2.2.2.2) ∨ (parq x.1 x.2.1 x.2.2.1 x.2.2.2.1 x.2.2.2.2.1 ∧ ans v w (x.2.1 + (if 1 < x.1 then x.2.2.1 else 0) + (if 2 < x.1 then x.2.2.2.1 else 0) + (if 3 < x.1 then x.2.2.2.2.1 else 0)) (bcx x.2.2.2.2.2 x.1 x.2.1 (if 1 < x.1 then x.2.2.1 else 0) (if 2 < x.1 then x.2.2.2.1 else 0) (if 3 < x.1 then x.2.2.2.2.1 else 0))))
def rm_X6_parts : Room := { frames := 2, cells := 0, slots := 0, locals := 41 }
def t_X6_parts : en_T := ((9, 0, 0), tb_X6_parts, fl_X6, cn_X6, [(83, 1, 0, 0, 0, f_X6_isWeight), (86, 6, 7, 0, 0, f_X5_become)], [], 0, some .int)
set_option maxRecDepth 100000 in
theorem tB_X6_parts (D : va_G) (dT : Nat → Nat) (l : Launch) : en_TB en_WD D vwCl dT l rm_X6_parts t_X6_parts RX6 "parts" cX6_parts := ⟨tk_X6_parts, fun s args meth h hn => ⟨fo_X6 h args meth, co_X6 h args, List.forall_mem_cons.mpr ⟨mk_X6_isWeight (own := RX6) h (Nat.le_of_ble_eq_true rfl) (Nat.le_of_ble_eq_true rfl) (Or.inl (en_wd h 299 (by decide +kernel) rfl args)), List.forall_mem_cons.mpr ⟨mk_X5_become (own := RX6) h (Nat.le_of_ble_eq_true rfl) (Nat.le_of_ble_eq_true rfl) (Or.inl (en_wd h 302 (by decide +kernel) rfl args)), fun _ h => absurd h List.not_mem_nil⟩⟩, fun _ h => absurd h List.not_mem_nil, Or.inl rfl, en_arr h args⟩⟩
set_option maxHeartbeats 4000000 in
set_option maxRecDepth 100000 in
theorem bd_X6_parts : en_B (σ := Int32 × Int32 × Int32 × Int32 × Int32 × Sx) t_X6_parts (fun x => [.ref 0, .int x.1, .int x.2.1, .int x.2.2.1, .int x.2.2.2.1, .int x.2.2.2.2.1]) (fun x => wX x.2.2.2.2.2) (fun _ => True) (fun x v w => (¬ parq x.1 x.2.1 x.2.2.1 x.2.2.2.1 x.2.2.2.2.1 ∧ ans v w (-2) x.2.2.2.2.2) ∨ (parq x.1 x.2.1 x.2.2.1 x.2.2.2.1 x.2.2.2.2.1 ∧ ans v w (x.2.1 + (if 1 < x.1 then x.2.2.1 else 0) + (if 2 < x.1 then x.2.2.2.1 else 0) + (if 3 < x.1 then x.2.2.2.2.1 else 0)) (bcx x.2.2.2.2.2 x.1 x.2.1 (if 1 < x.1 then x.2.2.1 else 0) (if 2 < x.1 then x.2.2.2.1 else 0) (if 3 < x.1 then x.2.2.2.2.1 else 0)))) := by
  rintro ⟨k, a, b, c, d, S⟩ - G hG OK ⟨run, sub⟩
  dsimp only at hG ⊢
  have tail : (1 ≤ k ∧ k ≤ 4) → OK 0 0 51 [(0, .ref 0), (1, .int k), (2, .int a), (6, .int (if 1 < k then b else 0)), (7, .int (if 2 < k then c else 0)), (8, .int (if 3 < k then d else 0))] [] (wX S) := by
    intro hk
    generalize hb : (if 1 < k then b else 0) = b' at hG ⊢
    generalize hc : (if 2 < k then c else 0) = c' at hG ⊢
    generalize hd : (if 3 < k then d else 0) = d' at hG ⊢
    have hG : ∀ (v : Option Value) (w : List va_E), (¬ ((1 ≤ k ∧ k ≤ 4) ∧ wq a ∧ wq b' ∧ wq c' ∧ wq d' ∧ a + b' + c' + d' ≠ 0) ∧ ans v w (-2) S) ∨ (((1 ≤ k ∧ k ≤ 4) ∧ wq a ∧ wq b' ∧ wq c' ∧ wq d' ∧ a + b' + c' + d' ≠ 0) ∧ ans v w (a + b' + c' + d') (bcx S k a b' c' d')) → G v w := by
      intro v w h
      apply hG v w
      subst hb hc hd
      exact h
    refine run [] 80 _ _ _ _ _ _ ?_
    conv => whnf
    refine ⟨(a, wX S), rfl, rfl, trivial, ?_⟩
    rintro _ _ ⟨rfl, rfl⟩
    conv => whnf
    refine bl_br (fun c1 => ?_) (fun c1 => ?_)
    · conv => whnf
      exact hG _ _ (Or.inl ⟨fun z => c1 z.2.1, rfl, rfl⟩)
    conv => whnf
    refine ⟨(b', wX S), rfl, rfl, trivial, ?_⟩
    rintro _ _ ⟨rfl, rfl⟩
    conv => whnf
    refine bl_br (fun c2 => ?_) (fun c2 => ?_)
    · conv => whnf
      exact hG _ _ (Or.inl ⟨fun z => c2 z.2.2.1, rfl, rfl⟩)
    conv => whnf
    refine ⟨(c', wX S), rfl, rfl, trivial, ?_⟩
    rintro _ _ ⟨rfl, rfl⟩
    conv => whnf
    refine bl_br (fun c3 => ?_) (fun c3 => ?_)
    · conv => whnf
      exact hG _ _ (Or.inl ⟨fun z => c3 z.2.2.2.1, rfl, rfl⟩)
    conv => whnf
    refine ⟨(d', wX S), rfl, rfl, trivial, ?_⟩
    rintro _ _ ⟨rfl, rfl⟩
    conv => whnf
    refine bl_br2 (fun c4 => ?_) (fun c4 => ?_)
    rotate_left
    · conv => whnf
      exact hG _ _ (Or.inl ⟨fun z => c4 z.2.2.2.2.1, rfl, rfl⟩)
    conv => whnf
    refine ⟨fun c5 => ?_, fun c5 => ?_⟩
    · conv => whnf
      refine ⟨(k, a, b', c', d', S), rfl, rfl, trivial, ?_⟩
      rintro _ _ ⟨rfl, rfl⟩
      conv => whnf
      exact hG _ _ (Or.inr ⟨⟨hk, c1, c2, c3, c4, c5⟩, rfl, rfl⟩)
    · conv => whnf
      exact hG _ _ (Or.inl ⟨fun z => z.2.2.2.2.2 c5, rfl, rfl⟩)
  have step3 : (1 ≤ k ∧ k ≤ 4) → OK 0 0 38 [(0, .ref 0), (1, .int k), (2, .int a), (5, .int d), (6, .int (if 1 < k then b else 0)), (7, .int (if 2 < k then c else 0))] [] (wX S) := by
    intro hk
    have tl := tail hk
    refine run [51] 60 _ _ _ _ _ _ ?_
    conv => whnf
    refine ⟨fun h => ?_, fun h => ?_⟩
    · rw [if_neg (c := 3 < k) (Int32.not_lt.mpr h)] at tl
      conv => whnf
      exact sub [0, 1, 2, 4, 5, 6] _ _ _ _ _ _ _ rfl tl
    · rw [if_pos (c := 3 < k) (Int32.not_le.mp h)] at tl
      conv => whnf
      exact sub [0, 1, 2, 4, 5, 6] _ _ _ _ _ _ _ rfl tl
  have step2 : (1 ≤ k ∧ k ≤ 4) → OK 0 0 25 [(0, .ref 0), (1, .int k), (2, .int a), (4, .int c), (5, .int d), (6, .int (if 1 < k then b else 0))] [] (wX S) := by
    intro hk
    have tl := step3 hk
    refine run [38] 60 _ _ _ _ _ _ ?_
    conv => whnf
    refine ⟨fun h => ?_, fun h => ?_⟩
    · rw [if_neg (c := 2 < k) (Int32.not_lt.mpr h)] at tl
      conv => whnf
      exact sub [0, 1, 2, 4, 5, 6] _ _ _ _ _ _ _ rfl tl
    · rw [if_pos (c := 2 < k) (Int32.not_le.mp h)] at tl
      conv => whnf
      exact sub [0, 1, 2, 4, 5, 6] _ _ _ _ _ _ _ rfl tl
  refine run [25] 60 _ _ _ _ _ _ ?_
  conv => whnf
  refine ⟨fun h1 => ?_, fun h1 => ?_⟩
  · conv => whnf
    exact hG _ _ (Or.inl ⟨fun z => absurd h1 (Int32.not_lt.mpr z.1.1), rfl, rfl⟩)
  conv => whnf
  refine ⟨fun h2 => ?_, fun h2 => ?_⟩
  rotate_left
  · conv => whnf
    exact hG _ _ (Or.inl ⟨fun z => h2 z.1.2, rfl, rfl⟩)
  have tl := step2 ⟨Int32.not_lt.mp h1, h2⟩
  conv => whnf
  refine ⟨fun h => ?_, fun h => ?_⟩
  · rw [if_neg (c := 1 < k) (Int32.not_lt.mpr h)] at tl
    conv => whnf
    exact sub [0, 1, 2, 4, 5, 6] _ _ _ _ _ _ _ rfl tl
  · rw [if_pos (c := 1 < k) (Int32.not_le.mp h)] at tl
    conv => whnf
    exact sub [0, 1, 2, 4, 5, 6] _ _ _ _ _ _ _ rfl tl
theorem ct_X6_parts (D : va_G) (dT : Nat → Nat) (l : Launch) : en_CT en_WD D vwCl dT l yX6_parts cX6_parts 9 (some .int) rm_X6_parts f_X6_parts := en_met en_WD1 en_WD2 (by decide) rfl rfl (tB_X6_parts D dT l) (en_f_ln (fun _ => Nat.le_of_ble_eq_true rfl)) (en_f_bd bd_X6_parts)
set_option maxRecDepth 100000 in
theorem mk_X6_parts {D : va_G} {dT : Nat → Nat} {l : Launch} {R : Room} {s : State} {args : Array Value} {own : String} {idx : Nat} (h : en_WD s) (h1 : rm_X6_parts.frames + 1 ≤ R.frames) (h2 : 8 + (9 + 11) + rm_X6_parts.locals ≤ R.locals) (hl : (Jvm.Cond.methodLink own idx yX6_parts).before args s = true ∨ ∃ host, (Jvm.Cond.methodLinkNest own idx yX6_parts host).before args s = true) : en_mok en_WD D vwCl dT l R s args own (idx, 6, 8, 0, 0, f_X6_parts) :=
  ⟨yX6_parts, cX6_parts, 9, some .int, rm_X6_parts, 5, ct_X6_parts D dT l, rfl, rfl, h1, h2, en_wd h 298 rfl rfl args, en_wd h 59 (by decide +kernel) rfl args, by decide, by decide, hl, ⟨RX6, TX6, 6, rfl, en_wd h 296 (by decide +kernel) rfl args, en_wd h 297 (by decide +kernel) rfl args, rfl⟩⟩
/-- an answer, scratch rows apart -/
def ansE (v : Option Value) (w : List va_E) (x : Int32) (S : Sx) : Prop := v = some (.int x) ∧ ∃ S', w = wX S' ∧ kept S S'
def f_X6_quota := en_f (σ := Int32 × Int32 × (Nat → Nat) × Nat × Nat × Sx) (fun x => [.ref 0, .int x.1, .int x.2.1]) (fun x => wX x.2.2.2.2.2) (fun x => wgt x.2.2.2.2.2 x.2.2.1 x.2.2.2.1 x.2.2.2.2.1) (fun x v w => (¬ (inr_ x.1 x.2.2.2.2.1 ∧ (0 ≤ x.2.1 ∧ x.2.1 < 100001)) ∧ ansE v w (-2) x.2.2.2.2.2) ∨ ((inr_ x.1 x.2.2.2.2.1 ∧ (0 ≤ x.2.1 ∧ x.2.1 < 100001)) ∧ ansE v w (nI (qf x.2.2.1 x.2.2.2.1 x.2.2.2.2.1 (tn x.2.1) (tn x.1))) x.2.2.2.2.2))
def rm_X6_quota : Room := { frames := 2, cells := 0, slots := 0, locals := 46 }
def t_X6_quota : en_T := ((3, 0, 0), tb_X6_quota, fl_X6, cn_X6, [(52, 2, 0, 0, 0, f_X6_isWithin), (94, 2, 7, 0, 0, f_X5_apportion)], [], 0, some .int)
set_option maxRecDepth 100000 in
theorem tB_X6_quota (D : va_G) (dT : Nat → Nat) (l : Launch) : en_TB en_WD D vwCl dT l rm_X6_quota t_X6_quota RX6 "quota" cX6_quota := ⟨tk_X6_quota, fun s args meth h hn => ⟨fo_X6 h args meth, co_X6 h args, List.forall_mem_cons.mpr ⟨mk_X6_isWithin (own := RX6) h (Nat.le_of_ble_eq_true rfl) (Nat.le_of_ble_eq_true rfl) (Or.inl (en_wd h 267 (by decide +kernel) rfl args)), List.forall_mem_cons.mpr ⟨mk_X5_apportion (own := RX6) h (Nat.le_of_ble_eq_true rfl) (Nat.le_of_ble_eq_true rfl) (Or.inl (en_wd h 310 (by decide +kernel) rfl args)), fun _ h => absurd h List.not_mem_nil⟩⟩, fun _ h => absurd h List.not_mem_nil, Or.inl rfl, en_arr h args⟩⟩
set_option maxHeartbeats 4000000 in
set_option maxRecDepth 100000 in
theorem bd_X6_quota : en_B (σ := Int32 × Int32 × (Nat → Nat) × Nat × Nat × Sx) t_X6_quota (fun x => [.ref 0, .int x.1, .int x.2.1]) (fun x => wX x.2.2.2.2.2) (fun x => wgt x.2.2.2.2.2 x.2.2.1 x.2.2.2.1 x.2.2.2.2.1) (fun x v w => (¬ (inr_ x.1 x.2.2.2.2.1 ∧ (0 ≤ x.2.1 ∧ x.2.1 < 100001)) ∧ ansE v w (-2) x.2.2.2.2.2) ∨ ((inr_ x.1 x.2.2.2.2.1 ∧ (0 ≤ x.2.1 ∧ x.2.1 < 100001)) ∧ ansE v w (nI (qf x.2.2.1 x.2.2.2.1 x.2.2.2.2.1 (tn x.2.1) (tn x.1))) x.2.2.2.2.2)) := by
  rintro ⟨p, m, w, W, k, S⟩ hwg G hG OK ⟨run, sub⟩
  dsimp only at hwg hG ⊢
  obtain ⟨hok, hk, hW, hw⟩ := hwg
  have hk4 : k ≤ 4 := hok.2.1
  refine run [] 60 _ _ _ _ _ _ ?_
  conv => whnf
  refine ⟨(p, S.1 2, wX S), rfl, rfl, trivial, ?_⟩
  intro v u hvu
  obtain ⟨rfl, rfl⟩ : v = some (.int (bl (inr_ p k))) ∧ u = wX S := by unfold inr_; rw [← hk]; exact hvu
  conv => whnf
  refine bl_br (fun c1 => ?_) (fun c1 => ?_)
  · conv => whnf
    exact hG _ _ (Or.inl ⟨fun z => c1 z.1, rfl, S, rfl, kept_rf S⟩)
  conv => whnf
  refine ⟨(m, 100001, wX S), rfl, rfl, trivial, ?_⟩
  rintro _ _ ⟨rfl, rfl⟩
  conv => whnf
  refine bl_br2 (fun c2 => ?_) (fun c2 => ?_)
  rotate_left
  · conv => whnf
    exact hG _ _ (Or.inl ⟨fun z => c2 z.2, rfl, S, rfl, kept_rf S⟩)
  obtain ⟨i, hi, rfl⟩ := in_of (by omega) c1
  obtain ⟨j, hj, rfl⟩ := in_of (b := 100001) (by decide) c2
  conv => whnf
  refine ⟨(w, W, k, j, S), rfl, rfl, ⟨hok, (by dsimp only; omega), hk, hW, hw⟩, ?_⟩
  rintro v u ⟨hv0, r, hu⟩
  obtain rfl : v = none := hv0
  obtain rfl : u = wX (xa (xa S 11 (mx k (fun j_1 => nI (qf w W k j j_1)) (S.2.2.1 11))) 12 r) := hu
  conv => whnf
  refine ⟨vp_in_nI (by omega) (by decide), ?_⟩
  rw [nI_clamp (by omega)]
  conv => whnf
  refine hG _ _ (Or.inr ⟨⟨c1, c2⟩, ?_, _, rfl, kept_tr (kept_a (by omega)) (kept_a (by omega))⟩)
  rw [show tn (nI i) = i from nI_clamp (by omega), show tn (nI j) = j from nI_clamp (by omega)]
  show some (Value.int (mx k (fun j_1 => nI (qf w W k j j_1)) (S.2.2.1 11) i)) = _
  rw [mx_lt hi]
theorem ct_X6_quota (D : va_G) (dT : Nat → Nat) (l : Launch) : en_CT en_WD D vwCl dT l yX6_quota cX6_quota 3 (some .int) rm_X6_quota f_X6_quota := en_met en_WD1 en_WD2 (by decide) rfl rfl (tB_X6_quota D dT l) (en_f_ln (fun _ => Nat.le_of_ble_eq_true rfl)) (en_f_bd bd_X6_quota)
set_option maxRecDepth 100000 in
theorem mk_X6_quota {D : va_G} {dT : Nat → Nat} {l : Launch} {R : Room} {s : State} {args : Array Value} {own : String} {idx : Nat} (h : en_WD s) (h1 : rm_X6_quota.frames + 1 ≤ R.frames) (h2 : 8 + (3 + 11) + rm_X6_quota.locals ≤ R.locals) (hl : (Jvm.Cond.methodLink own idx yX6_quota).before args s = true ∨ ∃ host, (Jvm.Cond.methodLinkNest own idx yX6_quota host).before args s = true) : en_mok en_WD D vwCl dT l R s args own (idx, 3, 8, 0, 0, f_X6_quota) :=
  ⟨yX6_quota, cX6_quota, 3, some .int, rm_X6_quota, 2, ct_X6_quota D dT l, rfl, rfl, h1, h2, en_wd h 309 rfl rfl args, en_wd h 59 (by decide +kernel) rfl args, by decide, by decide, hl, ⟨RX6, TX6, 6, rfl, en_wd h 307 (by decide +kernel) rfl args, en_wd h 308 (by decide +kernel) rfl args, rfl⟩⟩
def f_X6_of := en_f (σ := Int32 × Nat × Sx) (fun x => [.ref 0, .int x.1]) (fun x => wX x.2.2) (fun x => x.2.1 ≤ 100 ∧ x.2.2.1 1 = nI x.2.1) (fun x v w => ans v w (if inr_ x.1 x.2.1 then x.2.2.2.2.1 5 (tn x.1) else -2) x.2.2)
def rm_X6_of : Room := { frames := 2, cells := 0, slots := 0, locals := 42 }
def t_X6_of : en_T := ((2, 0, 0), tb_X6_of, fl_X6, cn_X6, [(64, 2, 4, 0, 0, f_X2_has)], [], 0, some .int)
set_option maxRecDepth 100000 in
theorem tB_X6_of (D : va_G) (dT : Nat → Nat) (l : Launch) : en_TB en_WD D vwCl dT l rm_X6_of t_X6_of RX6 "of" cX6_of := ⟨tk_X6_of, fun s args meth h hn => ⟨fo_X6 h args meth, co_X6 h args, List.forall_mem_cons.mpr ⟨mk_X2_has (own := RX6) h (Nat.le_of_ble_eq_true rfl) (Nat.le_of_ble_eq_true rfl) (Or.inl (en_wd h 279 (by decide +kernel) rfl args)), fun _ h => absurd h List.not_mem_nil⟩, fun _ h => absurd h List.not_mem_nil, Or.inl rfl, en_arr h args⟩⟩
set_option maxHeartbeats 4000000 in
set_option maxRecDepth 100000 in
theorem bd_X6_of : en_B (σ := Int32 × Nat × Sx) t_X6_of (fun x => [.ref 0, .int x.1]) (fun x => wX x.2.2) (fun x => x.2.1 ≤ 100 ∧ x.2.2.1 1 = nI x.2.1) (fun x v w => ans v w (if inr_ x.1 x.2.1 then x.2.2.2.2.1 5 (tn x.1) else -2) x.2.2) := by
  rintro ⟨r, n, S⟩ ⟨hn, h1⟩ G hG OK ⟨run, sub⟩
  dsimp only at hn h1 hG ⊢
  refine run [] 60 _ _ _ _ _ _ ?_
  conv => whnf
  refine ⟨(r, S), rfl, rfl, trivial, ?_⟩
  intro v u hvu
  obtain ⟨rfl, rfl⟩ : v = some (.int (bl (inr_ r n))) ∧ u = wX S := by unfold inr_; rw [← h1]; exact hvu
  conv => whnf
  refine bl_br (fun c1 => ?_) (fun c1 => ?_)
  · conv => whnf
    exact hG _ _ ⟨by rw [if_neg c1]; rfl, rfl⟩
  · obtain ⟨i, hi, rfl⟩ := in_of (by omega) c1
    conv => whnf
    refine ⟨vp_in_nI (by omega) (by decide), ?_⟩
    conv => whnf
    exact hG _ _ ⟨by rw [if_pos c1], rfl⟩
theorem ct_X6_of (D : va_G) (dT : Nat → Nat) (l : Launch) : en_CT en_WD D vwCl dT l yX6_of cX6_of 2 (some .int) rm_X6_of f_X6_of := en_met en_WD1 en_WD2 (by decide) rfl rfl (tB_X6_of D dT l) (en_f_ln (fun _ => Nat.le_of_ble_eq_true rfl)) (en_f_bd bd_X6_of)
set_option maxRecDepth 100000 in
theorem mk_X6_of {D : va_G} {dT : Nat → Nat} {l : Launch} {R : Room} {s : State} {args : Array Value} {own : String} {idx : Nat} (h : en_WD s) (h1 : rm_X6_of.frames + 1 ≤ R.frames) (h2 : 8 + (2 + 11) + rm_X6_of.locals ≤ R.locals) (hl : (Jvm.Cond.methodLink own idx yX6_of).before args s = true ∨ ∃ host, (Jvm.Cond.methodLinkNest own idx yX6_of host).before args s = true) : en_mok en_WD D vwCl dT l R s args own (idx, 2, 8, 0, 0, f_X6_of) :=
  ⟨yX6_of, cX6_of, 2, some .int, rm_X6_of, 1, ct_X6_of D dT l, rfl, rfl, h1, h2, en_wd h 470 rfl rfl args, en_wd h 59 (by decide +kernel) rfl args, by decide, by decide, hl, ⟨RX6, TX6, 6, rfl, en_wd h 468 (by decide +kernel) rfl args, en_wd h 469 (by decide +kernel) rfl args, rfl⟩⟩
abbrev manq (p l : Int32) : Prop := (0 ≤ p ∧ p < 4) ∧ (l = -1 ∨ (0 ≤ l ∧ l < 5))
def f_X6_many := en_f (σ := Int32 × Int32 × Nat × Sx) (fun x => [.ref 0, .int x.1, .int x.2.1]) (fun x => wX x.2.2.2) (fun x => x.2.2.1 ≤ 100 ∧ x.2.2.2.1 1 = nI x.2.2.1) (fun x v w => ans v w (if manq x.1 x.2.1 then nI (cin (x.2.2.2.2.2.1 5) (x.2.2.2.2.2.1 3) x.2.2.1 x.1 x.2.1) else -2) x.2.2.2)
def rm_X6_many : Room := { frames := 1, cells := 0, slots := 0, locals := 24 }
def t_X6_many : en_T := ((3, 0, 0), tb_X6_many, fl_X6, cn_X6, [(52, 2, 0, 0, 0, f_X6_isWithin), (130, 3, 4, 0, 0, f_X2_countIn)], [], 0, some .int)
set_option maxRecDepth 100000 in
theorem tB_X6_many (D : va_G) (dT : Nat → Nat) (l : Launch) : en_TB en_WD D vwCl dT l rm_X6_many t_X6_many RX6 "many" cX6_many := ⟨tk_X6_many, fun s args meth h hn => ⟨fo_X6 h args meth, co_X6 h args, List.forall_mem_cons.mpr ⟨mk_X6_isWithin (own := RX6) h (Nat.le_of_ble_eq_true rfl) (Nat.le_of_ble_eq_true rfl) (Or.inl (en_wd h 267 (by decide +kernel) rfl args)), List.forall_mem_cons.mpr ⟨mk_X2_countIn (own := RX6) h (Nat.le_of_ble_eq_true rfl) (Nat.le_of_ble_eq_true rfl) (Or.inl (en_wd h 457 (by decide +kernel) rfl args)), fun _ h => absurd h List.not_mem_nil⟩⟩, fun _ h => absurd h List.not_mem_nil, Or.inl rfl, en_arr h args⟩⟩
set_option maxHeartbeats 4000000 in
set_option maxRecDepth 100000 in
theorem bd_X6_many : en_B (σ := Int32 × Int32 × Nat × Sx) t_X6_many (fun x => [.ref 0, .int x.1, .int x.2.1]) (fun x => wX x.2.2.2) (fun x => x.2.2.1 ≤ 100 ∧ x.2.2.2.1 1 = nI x.2.2.1) (fun x v w => ans v w (if manq x.1 x.2.1 then nI (cin (x.2.2.2.2.2.1 5) (x.2.2.2.2.2.1 3) x.2.2.1 x.1 x.2.1) else -2) x.2.2.2) := by
  rintro ⟨p, l, n, S⟩ ⟨hn, h1⟩ G hG OK ⟨run, sub⟩
  dsimp only at hn h1 hG ⊢
  refine run [] 60 _ _ _ _ _ _ ?_
  conv => whnf
  refine ⟨(p, 4, wX S), rfl, rfl, trivial, ?_⟩
  rintro _ _ ⟨rfl, rfl⟩
  conv => whnf
  refine bl_br (fun c1 => ?_) (fun c1 => ?_)
  · conv => whnf
    exact hG _ _ ⟨by rw [if_neg (fun z => c1 z.1)]; rfl, rfl⟩
  conv => whnf
  refine ⟨fun c2 => ?_, fun c2 => ?_⟩
  · have c2 : l = -1 := c2
    conv => whnf
    refine ⟨(n, p, l, S), rfl, rfl, ⟨hn, h1⟩, ?_⟩
    rintro _ _ ⟨rfl, rfl⟩
    conv => whnf
    exact hG _ _ ⟨by rw [if_pos (c := manq p l) ⟨c1, Or.inl c2⟩], rfl⟩
  · have c2 : ¬ l = -1 := c2
    conv => whnf
    refine ⟨(l, 5, wX S), rfl, rfl, trivial, ?_⟩
    rintro _ _ ⟨rfl, rfl⟩
    conv => whnf
    refine bl_br2 (fun c3 => ?_) (fun c3 => ?_)
    · conv => whnf
      refine ⟨(n, p, l, S), rfl, rfl, ⟨hn, h1⟩, ?_⟩
      rintro _ _ ⟨rfl, rfl⟩
      conv => whnf
      exact hG _ _ ⟨by rw [if_pos (c := manq p l) ⟨c1, Or.inr c3⟩], rfl⟩
    · conv => whnf
      exact hG _ _ ⟨by rw [if_neg (c := manq p l) (fun z => z.2.elim c2 c3)]; rfl, rfl⟩
theorem ct_X6_many (D : va_G) (dT : Nat → Nat) (l : Launch) : en_CT en_WD D vwCl dT l yX6_many cX6_many 3 (some .int) rm_X6_many f_X6_many := en_met en_WD1 en_WD2 (by decide) rfl rfl (tB_X6_many D dT l) (en_f_ln (fun _ => Nat.le_of_ble_eq_true rfl)) (en_f_bd bd_X6_many)
set_option maxRecDepth 100000 in
theorem mk_X6_many {D : va_G} {dT : Nat → Nat} {l : Launch} {R : Room} {s : State} {args : Array Value} {own : String} {idx : Nat} (h : en_WD s) (h1 : rm_X6_many.frames + 1 ≤ R.frames) (h2 : 8 + (3 + 11) + rm_X6_many.locals ≤ R.locals) (hl : (Jvm.Cond.methodLink own idx yX6_many).before args s = true ∨ ∃ host, (Jvm.Cond.methodLinkNest own idx yX6_many host).before args s = true) : en_mok en_WD D vwCl dT l R s args own (idx, 3, 8, 0, 0, f_X6_many) :=
  ⟨yX6_many, cX6_many, 3, some .int, rm_X6_many, 2, ct_X6_many D dT l, rfl, rfl, h1, h2, en_wd h 474 rfl rfl args, en_wd h 59 (by decide +kernel) rfl args, by decide, by decide, hl, ⟨RX6, TX6, 6, rfl, en_wd h 472 (by decide +kernel) rfl args, en_wd h 473 (by decide +kernel) rfl args, rfl⟩⟩
def f_X6_near := en_f (σ := Int32 × Sx) (fun x => [.ref 0, .int x.1]) (fun x => wX x.2) (fun _ => True) (fun x v w => (¬ (1 ≤ x.1 ∧ x.1 ≤ 100) ∧ ans v w (-2) x.2) ∨ ((1 ≤ x.1 ∧ x.1 ≤ 100) ∧ ans v w (x.2.1 0) (xi x.2 0 x.1)))
def rm_X6_near : Room := { frames := 0, cells := 0, slots := 0, locals := 0 }
def t_X6_near : en_T := ((3, 0, 0), tb_X6_near, fl_X6, cn_X6, [], [], 0, some .int)
set_option maxRecDepth 100000 in
theorem tB_X6_near (D : va_G) (dT : Nat → Nat) (l : Launch) : en_TB en_WD D vwCl dT l rm_X6_near t_X6_near RX6 "near" cX6_near := ⟨tk_X6_near, fun s args meth h hn => ⟨fo_X6 h args meth, co_X6 h args, fun _ h => absurd h List.not_mem_nil, fun _ h => absurd h List.not_mem_nil, Or.inl rfl, en_arr h args⟩⟩
set_option maxHeartbeats 4000000 in
set_option maxRecDepth 100000 in
theorem bd_X6_near : en_B (σ := Int32 × Sx) t_X6_near (fun x => [.ref 0, .int x.1]) (fun x => wX x.2) (fun _ => True) (fun x v w => (¬ (1 ≤ x.1 ∧ x.1 ≤ 100) ∧ ans v w (-2) x.2) ∨ ((1 ≤ x.1 ∧ x.1 ≤ 100) ∧ ans v w (x.2.1 0) (xi x.2 0 x.1))) := by
  rintro ⟨p, S⟩ - G hG OK ⟨run, sub⟩
  dsimp only at hG ⊢
  refine run [] 60 _ _ _ _ _ _ ?_
  conv => whnf
  refine ⟨fun c1 => ?_, fun c1 => ?_⟩
  · conv => whnf
    exact hG _ _ (Or.inl ⟨fun z => absurd c1 (Int32.not_lt.mpr z.1), rfl, rfl⟩)
  conv => whnf
  refine ⟨fun c2 => ?_, fun c2 => ?_⟩
  · conv => whnf
    exact hG _ _ (Or.inr ⟨⟨Int32.not_lt.mp c1, c2⟩, rfl, rfl⟩)
  · conv => whnf
    exact hG _ _ (Or.inl ⟨fun z => c2 z.2, rfl, rfl⟩)
theorem ct_X6_near (D : va_G) (dT : Nat → Nat) (l : Launch) : en_CT en_WD D vwCl dT l yX6_near cX6_near 3 (some .int) rm_X6_near f_X6_near := en_met en_WD1 en_WD2 (by decide) rfl rfl (tB_X6_near D dT l) (en_f_ln (fun _ => Nat.le_of_ble_eq_true rfl)) (en_f_bd bd_X6_near)
set_option maxRecDepth 100000 in
theorem mk_X6_near {D : va_G} {dT : Nat → Nat} {l : Launch} {R : Room} {s : State} {args : Array Value} {own : String} {idx : Nat} (h : en_WD s) (h1 : rm_X6_near.frames + 1 ≤ R.frames) (h2 : 8 + (3 + 11) + rm_X6_near.locals ≤ R.locals) (hl : (Jvm.Cond.methodLink own idx yX6_near).before args s = true ∨ ∃ host, (Jvm.Cond.methodLinkNest own idx yX6_near host).before args s = true) : en_mok en_WD D vwCl dT l R s args own (idx, 2, 8, 0, 0, f_X6_near) :=
  ⟨yX6_near, cX6_near, 3, some .int, rm_X6_near, 1, ct_X6_near D dT l, rfl, rfl, h1, h2, en_wd h 487 rfl rfl args, en_wd h 59 (by decide +kernel) rfl args, by decide, by decide, hl, ⟨RX6, TX6, 6, rfl, en_wd h 485 (by decide +kernel) rfl args, en_wd h 486 (by decide +kernel) rfl args, rfl⟩⟩
end
section
/-! SplitLeaks: fit, base, leaks, leak, meets, told -/
/-- all but scratch is as it was -/
def dat (S S' : Sx) : Prop := (∀ j, j < 4 → S'.1 j = S.1 j) ∧ (S'.2.2.1 2 = S.2.2.1 2 ∧ S'.2.2.1 3 = S.2.2.1 3 ∧ S'.2.2.1 4 = S.2.2.1 4 ∧ S'.2.2.1 5 = S.2.2.1 5 ∧ S'.2.2.1 10 = S.2.2.1 10 ∧ S'.2.2.1 20 = S.2.2.1 20 ∧ S'.2.2.1 21 = S.2.2.1 21 ∧ S'.2.2.1 22 = S.2.2.1 22) ∧ S'.2.2.2 = S.2.2.2
theorem dat_rf (S : Sx) : dat S S := ⟨fun _ _ => rfl, ⟨rfl, rfl, rfl, rfl, rfl, rfl, rfl, rfl⟩, rfl⟩
theorem dat_k {S S' : Sx} (h : kept S S') : dat S S' := ⟨fun j hj => h.1 j (by omega), ⟨h.2.1 2 (by decide) (by decide) (by decide) (by decide) (by decide) (by decide), h.2.1 3 (by decide) (by decide) (by decide) (by decide) (by decide) (by decide), h.2.1 4 (by decide) (by decide) (by decide) (by decide) (by decide) (by decide), h.2.1 5 (by decide) (by decide) (by decide) (by decide) (by decide) (by decide), h.2.1 10 (by decide) (by decide) (by decide) (by decide) (by decide) (by decide), h.2.1 20 (by decide) (by decide) (by decide) (by decide) (by decide) (by decide), h.2.1 21 (by decide) (by decide) (by decide) (by decide) (by decide) (by decide), h.2.1 22 (by decide) (by decide) (by decide) (by decide) (by decide) (by decide)⟩, h.2.2⟩
theorem dat_f {S : Sx} {wt : Int32} {Y : Int32 × Int32 × Int32} : dat S (xf (xi S 5 wt) Y) := ⟨fun j hj => by
    show (if j = 8 then _ else if j = 7 then _ else if j = 6 then _ else if j = 5 then _ else S.1 j) = S.1 j
    rw [if_neg (by omega), if_neg (by omega), if_neg (by omega), if_neg (by omega)], ⟨rfl, rfl, rfl, rfl, rfl, rfl, rfl, rfl⟩, rfl⟩
def ansD (v : Option Value) (w : List va_E) (x : Int32) (S : Sx) : Prop := v = some (.int x) ∧ ∃ S', w = wX S' ∧ dat S S'
abbrev fitq (s r : Int32) (n : Nat) : Prop := (0 ≤ s ∧ s < 8) ∧ inr_ r n
def f_X6_fit := en_f (σ := Int32 × Int32 × Nat × Sx) (fun x => [.ref 0, .int x.1, .int x.2.1]) (fun x => wX x.2.2.2) (fun x => x.2.2.1 ≤ 100 ∧ x.2.2.2.1 1 = nI x.2.2.1 ∧ zb (x.2.2.2.2.2.1 22)) (fun x v w => (¬ fitq x.1 x.2.1 x.2.2.1 ∧ ans v w (-2) x.2.2.2) ∨ (fitq x.1 x.2.1 x.2.2.1 ∧ ¬ x.2.2.2.2.2.1 22 (tn x.1 * 100 + tn x.2.1) = 0 ∧ ans v w (-4) x.2.2.2) ∨ (fitq x.1 x.2.1 x.2.2.1 ∧ x.2.2.2.2.2.1 22 (tn x.1 * 100 + tn x.2.1) = 0 ∧ ans v w (x.2.2.2.2.2.1 21 (tn x.1) + 1) (xa (xa x.2.2.2 22 (upd (x.2.2.2.2.2.1 22) (tn x.1 * 100 + tn x.2.1) 1)) 21 (upd (x.2.2.2.2.2.1 21) (tn x.1) (x.2.2.2.2.2.1 21 (tn x.1) + 1)))))
def rm_X6_fit : Room := { frames := 2, cells := 0, slots := 0, locals := 42 }
def t_X6_fit : en_T := ((3, 0, 0), tb_X6_fit, fl_X6, cn_X6, [(52, 2, 0, 0, 0, f_X6_isWithin), (64, 2, 4, 0, 0, f_X2_has), (170, 3, 6, 0, 0, f_X4_isFittedItself), (173, 3, 6, 0, 0, f_X4_addRow)], [], 0, some .int)
set_option maxRecDepth 100000 in
theorem tB_X6_fit (D : va_G) (dT : Nat → Nat) (l : Launch) : en_TB en_WD D vwCl dT l rm_X6_fit t_X6_fit RX6 "fit" cX6_fit := ⟨tk_X6_fit, fun s args meth h hn => ⟨fo_X6 h args meth, co_X6 h args, List.forall_mem_cons.mpr ⟨mk_X6_isWithin (own := RX6) h (Nat.le_of_ble_eq_true rfl) (Nat.le_of_ble_eq_true rfl) (Or.inl (en_wd h 267 (by decide +kernel) rfl args)), List.forall_mem_cons.mpr ⟨mk_X2_has (own := RX6) h (Nat.le_of_ble_eq_true rfl) (Nat.le_of_ble_eq_true rfl) (Or.inl (en_wd h 279 (by decide +kernel) rfl args)), List.forall_mem_cons.mpr ⟨mk_X4_isFittedItself (own := RX6) h (Nat.le_of_ble_eq_true rfl) (Nat.le_of_ble_eq_true rfl) (Or.inl (en_wd h 492 (by decide +kernel) rfl args)), List.forall_mem_cons.mpr ⟨mk_X4_addRow (own := RX6) h (Nat.le_of_ble_eq_true rfl) (Nat.le_of_ble_eq_true rfl) (Or.inl (en_wd h 496 (by decide +kernel) rfl args)), fun _ h => absurd h List.not_mem_nil⟩⟩⟩⟩, fun _ h => absurd h List.not_mem_nil, Or.inl rfl, en_arr h args⟩⟩
set_option maxHeartbeats 4000000 in
set_option maxRecDepth 100000 in
theorem bd_X6_fit : en_B (σ := Int32 × Int32 × Nat × Sx) t_X6_fit (fun x => [.ref 0, .int x.1, .int x.2.1]) (fun x => wX x.2.2.2) (fun x => x.2.2.1 ≤ 100 ∧ x.2.2.2.1 1 = nI x.2.2.1 ∧ zb (x.2.2.2.2.2.1 22)) (fun x v w => (¬ fitq x.1 x.2.1 x.2.2.1 ∧ ans v w (-2) x.2.2.2) ∨ (fitq x.1 x.2.1 x.2.2.1 ∧ ¬ x.2.2.2.2.2.1 22 (tn x.1 * 100 + tn x.2.1) = 0 ∧ ans v w (-4) x.2.2.2) ∨ (fitq x.1 x.2.1 x.2.2.1 ∧ x.2.2.2.2.2.1 22 (tn x.1 * 100 + tn x.2.1) = 0 ∧ ans v w (x.2.2.2.2.2.1 21 (tn x.1) + 1) (xa (xa x.2.2.2 22 (upd (x.2.2.2.2.2.1 22) (tn x.1 * 100 + tn x.2.1) 1)) 21 (upd (x.2.2.2.2.2.1 21) (tn x.1) (x.2.2.2.2.2.1 21 (tn x.1) + 1))))) := by
  rintro ⟨s, r, n, S⟩ ⟨hn, h1, hz⟩ G hG OK ⟨run, sub⟩
  dsimp only at hn h1 hz hG ⊢
  refine run [] 60 _ _ _ _ _ _ ?_
  conv => whnf
  refine ⟨(s, 8, wX S), rfl, rfl, trivial, ?_⟩
  rintro _ _ ⟨rfl, rfl⟩
  conv => whnf
  refine bl_br (fun c1 => ?_) (fun c1 => ?_)
  · conv => whnf
    exact hG _ _ (Or.inl ⟨fun z => c1 z.1, rfl, rfl⟩)
  conv => whnf
  refine ⟨(r, S), rfl, rfl, trivial, ?_⟩
  intro v u hvu
  obtain ⟨rfl, rfl⟩ : v = some (.int (bl (inr_ r n))) ∧ u = wX S := by unfold inr_; rw [← h1]; exact hvu
  conv => whnf
  refine bl_br2 (fun c2 => ?_) (fun c2 => ?_)
  rotate_left
  · conv => whnf
    exact hG _ _ (Or.inl ⟨fun z => c2 z.2, rfl, rfl⟩)
  obtain ⟨i, hi, rfl⟩ := in_of (b := 8) (by decide) c1
  obtain ⟨j, hj, rfl⟩ := in_of (by omega) c2
  rw [show tn (nI i) = i from nI_clamp (by omega), show tn (nI j) = j from nI_clamp (by omega)] at hG
  conv => whnf
  refine ⟨(i, j, S), rfl, rfl, ⟨hi, (by dsimp only; omega), hz⟩, ?_⟩
  rintro _ _ ⟨rfl, rfl⟩
  conv => whnf
  refine ⟨fun c3 => ?_, fun c3 => ?_⟩
  · conv => whnf
    refine ⟨(i, j, S), rfl, rfl, ⟨hi, by dsimp only; omega⟩, ?_⟩
    rintro _ _ ⟨rfl, rfl⟩
    conv => whnf
    exact hG _ _ (Or.inr (Or.inr ⟨⟨c1, c2⟩, c3, rfl, rfl⟩))
  · conv => whnf
    exact hG _ _ (Or.inr (Or.inl ⟨⟨c1, c2⟩, c3, rfl, rfl⟩))
theorem ct_X6_fit (D : va_G) (dT : Nat → Nat) (l : Launch) : en_CT en_WD D vwCl dT l yX6_fit cX6_fit 3 (some .int) rm_X6_fit f_X6_fit := en_met en_WD1 en_WD2 (by decide) rfl rfl (tB_X6_fit D dT l) (en_f_ln (fun _ => Nat.le_of_ble_eq_true rfl)) (en_f_bd bd_X6_fit)
set_option maxRecDepth 100000 in
theorem mk_X6_fit {D : va_G} {dT : Nat → Nat} {l : Launch} {R : Room} {s : State} {args : Array Value} {own : String} {idx : Nat} (h : en_WD s) (h1 : rm_X6_fit.frames + 1 ≤ R.frames) (h2 : 8 + (3 + 11) + rm_X6_fit.locals ≤ R.locals) (hl : (Jvm.Cond.methodLink own idx yX6_fit).before args s = true ∨ ∃ host, (Jvm.Cond.methodLinkNest own idx yX6_fit host).before args s = true) : en_mok en_WD D vwCl dT l R s args own (idx, 3, 8, 0, 0, f_X6_fit) :=
  ⟨yX6_fit, cX6_fit, 3, some .int, rm_X6_fit, 2, ct_X6_fit D dT l, rfl, rfl, h1, h2, en_wd h 491 rfl rfl args, en_wd h 59 (by decide +kernel) rfl args, by decide, by decide, hl, ⟨RX6, TX6, 6, rfl, en_wd h 489 (by decide +kernel) rfl args, en_wd h 490 (by decide +kernel) rfl args, rfl⟩⟩
abbrev basq (s b : Int32) : Prop := (0 ≤ s ∧ s < 8) ∧ (b = -1 ∨ (0 ≤ b ∧ b < s))
def f_X6_base := en_f (σ := Int32 × Int32 × Sx) (fun x => [.ref 0, .int x.1, .int x.2.1]) (fun x => wX x.2.2) (fun _ => True) (fun x v w => (¬ basq x.1 x.2.1 ∧ ans v w (-2) x.2.2) ∨ (basq x.1 x.2.1 ∧ ans v w (x.2.2.2.2.1 20 (tn x.1)) (xa x.2.2 20 (upd (x.2.2.2.2.1 20) (tn x.1) x.2.1))))
def rm_X6_base : Room := { frames := 1, cells := 0, slots := 0, locals := 21 }
def t_X6_base : en_T := ((4, 0, 0), tb_X6_base, fl_X6, cn_X6, [(52, 2, 0, 0, 0, f_X6_isWithin)], [], 0, some .int)
set_option maxRecDepth 100000 in
theorem tB_X6_base (D : va_G) (dT : Nat → Nat) (l : Launch) : en_TB en_WD D vwCl dT l rm_X6_base t_X6_base RX6 "base" cX6_base := ⟨tk_X6_base, fun s args meth h hn => ⟨fo_X6 h args meth, co_X6 h args, List.forall_mem_cons.mpr ⟨mk_X6_isWithin (own := RX6) h (Nat.le_of_ble_eq_true rfl) (Nat.le_of_ble_eq_true rfl) (Or.inl (en_wd h 267 (by decide +kernel) rfl args)), fun _ h => absurd h List.not_mem_nil⟩, fun _ h => absurd h List.not_mem_nil, Or.inl rfl, en_arr h args⟩⟩
set_option maxHeartbeats 4000000 in
set_option maxRecDepth 100000 in
theorem bd_X6_base : en_B (σ := Int32 × Int32 × Sx) t_X6_base (fun x => [.ref 0, .int x.1, .int x.2.1]) (fun x => wX x.2.2) (fun _ => True) (fun x v w => (¬ basq x.1 x.2.1 ∧ ans v w (-2) x.2.2) ∨ (basq x.1 x.2.1 ∧ ans v w (x.2.2.2.2.1 20 (tn x.1)) (xa x.2.2 20 (upd (x.2.2.2.2.1 20) (tn x.1) x.2.1)))) := by
  rintro ⟨s, b, S⟩ - G hG OK ⟨run, sub⟩
  dsimp only at hG ⊢
  have tail : basq s b → OK 0 0 25 [(0, .ref 0), (1, .int s), (2, .int b)] [] (wX S) := by
    intro hq
    obtain ⟨i, hi, rfl⟩ := in_of (b := 8) (by decide) hq.1
    rw [show tn (nI i) = i from nI_clamp (by omega)] at hG
    refine run [] 60 _ _ _ _ _ _ ?_
    conv => whnf
    refine ⟨vp_in_nI (by omega) (by decide), ?_⟩
    rw [nI_clamp (by omega)]
    conv => whnf
    refine ⟨vp_in_nI (by omega) (by decide), ?_⟩
    rw [nI_clamp (by omega)]
    conv => whnf
    exact hG _ _ (Or.inr ⟨hq, rfl, rfl⟩)
  refine run [25] 60 _ _ _ _ _ _ ?_
  conv => whnf
  refine ⟨(s, 8, wX S), rfl, rfl, trivial, ?_⟩
  rintro _ _ ⟨rfl, rfl⟩
  conv => whnf
  refine bl_br (fun c1 => ?_) (fun c1 => ?_)
  · conv => whnf
    exact hG _ _ (Or.inl ⟨fun z => c1 z.1, rfl, rfl⟩)
  conv => whnf
  refine ⟨fun c2 => ?_, fun c2 => ?_⟩
  · conv => whnf
    exact tail ⟨c1, Or.inl c2⟩
  · conv => whnf
    refine ⟨(b, s, wX S), rfl, rfl, trivial, ?_⟩
    rintro _ _ ⟨rfl, rfl⟩
    conv => whnf
    refine bl_br2 (fun c3 => ?_) (fun c3 => ?_)
    · conv => whnf
      exact tail ⟨c1, Or.inr c3⟩
    · conv => whnf
      exact hG _ _ (Or.inl ⟨fun z => z.2.elim c2 c3, rfl, rfl⟩)
theorem ct_X6_base (D : va_G) (dT : Nat → Nat) (l : Launch) : en_CT en_WD D vwCl dT l yX6_base cX6_base 4 (some .int) rm_X6_base f_X6_base := en_met en_WD1 en_WD2 (by decide) rfl rfl (tB_X6_base D dT l) (en_f_ln (fun _ => Nat.le_of_ble_eq_true rfl)) (en_f_bd bd_X6_base)
set_option maxRecDepth 100000 in
theorem mk_X6_base {D : va_G} {dT : Nat → Nat} {l : Launch} {R : Room} {s : State} {args : Array Value} {own : String} {idx : Nat} (h : en_WD s) (h1 : rm_X6_base.frames + 1 ≤ R.frames) (h2 : 8 + (4 + 11) + rm_X6_base.locals ≤ R.locals) (hl : (Jvm.Cond.methodLink own idx yX6_base).before args s = true ∨ ∃ host, (Jvm.Cond.methodLinkNest own idx yX6_base host).before args s = true) : en_mok en_WD D vwCl dT l R s args own (idx, 3, 8, 0, 0, f_X6_base) :=
  ⟨yX6_base, cX6_base, 4, some .int, rm_X6_base, 2, ct_X6_base D dT l, rfl, rfl, h1, h2, en_wd h 503 rfl rfl args, en_wd h 59 (by decide +kernel) rfl args, by decide, by decide, hl, ⟨RX6, TX6, 6, rfl, en_wd h 501 (by decide +kernel) rfl args, en_wd h 502 (by decide +kernel) rfl args, rfl⟩⟩
theorem le_of {x : Int32} {b : Nat} (hb : b < 2 ^ 31) (h : 0 ≤ x ∧ x ≤ nI b) : ∃ j, j ≤ b ∧ x = nI j := nI_of2 (nI_toInt hb) (Int32.not_lt.mpr h.1) h.2
def f_X6_leaks := en_f (σ := Int32 × Nat × Sx) (fun x => [.ref 0, .int x.1]) (fun x => wX x.2.2) (fun x => x.2.1 ≤ 100 ∧ x.2.2.1 1 = nI x.2.1 ∧ zb (x.2.2.2.2.1 22) ∧ byok (x.2.2.2.2.1 20)) (fun x v w => ansD v w (if 0 ≤ x.1 ∧ x.1 ≤ 5 then (tks (-1) (0, x.2.2.1 7, x.2.2.1 8) (LKX x.2.2 x.2.1 (tn x.1) (x.2.2.1 0))).1 else -2) x.2.2)
def rm_X6_leaks : Room := { frames := 5, cells := 0, slots := 0, locals := 120 }
def t_X6_leaks : en_T := ((2, 0, 0), tb_X6_leaks, fl_X6, cn_X6, [(179, 1, 0, 0, 0, f_X6_isLeakKind), (182, 4, 3, 0, 0, f_X1_search)], [], 0, some .int)
set_option maxRecDepth 100000 in
theorem tB_X6_leaks (D : va_G) (dT : Nat → Nat) (l : Launch) : en_TB en_WD D vwCl dT l rm_X6_leaks t_X6_leaks RX6 "leaks" cX6_leaks := ⟨tk_X6_leaks, fun s args meth h hn => ⟨fo_X6 h args meth, co_X6 h args, List.forall_mem_cons.mpr ⟨mk_X6_isLeakKind (own := RX6) h (Nat.le_of_ble_eq_true rfl) (Nat.le_of_ble_eq_true rfl) (Or.inl (en_wd h 508 (by decide +kernel) rfl args)), List.forall_mem_cons.mpr ⟨mk_X1_search (own := RX6) h (Nat.le_of_ble_eq_true rfl) (Nat.le_of_ble_eq_true rfl) (Or.inl (en_wd h 511 (by decide +kernel) rfl args)), fun _ h => absurd h List.not_mem_nil⟩⟩, fun _ h => absurd h List.not_mem_nil, Or.inl rfl, en_arr h args⟩⟩
set_option maxHeartbeats 4000000 in
set_option maxRecDepth 100000 in
theorem bd_X6_leaks : en_B (σ := Int32 × Nat × Sx) t_X6_leaks (fun x => [.ref 0, .int x.1]) (fun x => wX x.2.2) (fun x => x.2.1 ≤ 100 ∧ x.2.2.1 1 = nI x.2.1 ∧ zb (x.2.2.2.2.1 22) ∧ byok (x.2.2.2.2.1 20)) (fun x v w => ansD v w (if 0 ≤ x.1 ∧ x.1 ≤ 5 then (tks (-1) (0, x.2.2.1 7, x.2.2.1 8) (LKX x.2.2 x.2.1 (tn x.1) (x.2.2.1 0))).1 else -2) x.2.2) := by
  rintro ⟨kd, n, S⟩ ⟨hn, h1, hz, hby⟩ G hG OK ⟨run, sub⟩
  dsimp only at hn h1 hz hby hG ⊢
  refine run [] 60 _ _ _ _ _ _ ?_
  conv => whnf
  refine ⟨(kd, wX S), rfl, rfl, trivial, ?_⟩
  rintro _ _ ⟨rfl, rfl⟩
  conv => whnf
  refine bl_br2 (fun c1 => ?_) (fun c1 => ?_)
  rotate_left
  · conv => whnf
    rw [if_neg c1] at hG
    exact hG _ _ ⟨rfl, S, rfl, dat_rf S⟩
  obtain ⟨j, hj, rfl⟩ := le_of (b := 5) (by decide) c1
  rw [if_pos c1, show tn (nI j) = j from nI_clamp (by omega)] at hG
  conv => whnf
  refine ⟨(n, j, S.1 0, -1, S), rfl, rfl, ⟨hn, h1, hj, hz, hby⟩, ?_⟩
  intro v u hvu
  obtain ⟨rfl, rfl⟩ : v = some (.int (tks (-1) (0, S.1 7, S.1 8) (LKX S n j (S.1 0))).1) ∧ u = wX (xf (xi S 5 (-1)) (tks (-1) (0, S.1 7, S.1 8) (LKX S n j (S.1 0)))) := hvu
  generalize tks (-1) (0, S.1 7, S.1 8) (LKX S n j (S.1 0)) = Y at hG ⊢
  conv => whnf
  exact hG _ _ ⟨rfl, _, rfl, dat_f⟩
theorem ct_X6_leaks (D : va_G) (dT : Nat → Nat) (l : Launch) : en_CT en_WD D vwCl dT l yX6_leaks cX6_leaks 2 (some .int) rm_X6_leaks f_X6_leaks := en_met en_WD1 en_WD2 (by decide) rfl rfl (tB_X6_leaks D dT l) (en_f_ln (fun _ => Nat.le_of_ble_eq_true rfl)) (en_f_bd bd_X6_leaks)
set_option maxRecDepth 100000 in
theorem mk_X6_leaks {D : va_G} {dT : Nat → Nat} {l : Launch} {R : Room} {s : State} {args : Array Value} {own : String} {idx : Nat} (h : en_WD s) (h1 : rm_X6_leaks.frames + 1 ≤ R.frames) (h2 : 8 + (2 + 11) + rm_X6_leaks.locals ≤ R.locals) (hl : (Jvm.Cond.methodLink own idx yX6_leaks).before args s = true ∨ ∃ host, (Jvm.Cond.methodLinkNest own idx yX6_leaks host).before args s = true) : en_mok en_WD D vwCl dT l R s args own (idx, 2, 8, 0, 0, f_X6_leaks) :=
  ⟨yX6_leaks, cX6_leaks, 2, some .int, rm_X6_leaks, 1, ct_X6_leaks D dT l, rfl, rfl, h1, h2, en_wd h 507 rfl rfl args, en_wd h 59 (by decide +kernel) rfl args, by decide, by decide, hl, ⟨RX6, TX6, 6, rfl, en_wd h 505 (by decide +kernel) rfl args, en_wd h 506 (by decide +kernel) rfl args, rfl⟩⟩
abbrev lkq (kd i wh : Int32) : Prop := (0 ≤ kd ∧ kd ≤ 5) ∧ 0 ≤ i ∧ (wh = 0 ∨ wh = 1)
def f_X6_leak := en_f (σ := Int32 × Int32 × Int32 × Nat × Sx) (fun x => [.ref 0, .int x.1, .int x.2.1, .int x.2.2.1]) (fun x => wX x.2.2.2.2) (fun x => x.2.2.2.1 ≤ 100 ∧ x.2.2.2.2.1 1 = nI x.2.2.2.1 ∧ zb (x.2.2.2.2.2.2.1 22) ∧ byok (x.2.2.2.2.2.2.1 20)) (fun x v w => ansD v w (if lkq x.1 x.2.1 x.2.2.1 then (if x.2.1 < (tks x.2.1 (0, x.2.2.2.2.1 7, x.2.2.2.2.1 8) (LKX x.2.2.2.2 x.2.2.2.1 (tn x.1) (x.2.2.2.2.1 0))).1 then (if x.2.2.1 = 0 then (tks x.2.1 (0, x.2.2.2.2.1 7, x.2.2.2.2.1 8) (LKX x.2.2.2.2 x.2.2.2.1 (tn x.1) (x.2.2.2.2.1 0))).2.1 else (tks x.2.1 (0, x.2.2.2.2.1 7, x.2.2.2.2.1 8) (LKX x.2.2.2.2 x.2.2.2.1 (tn x.1) (x.2.2.2.2.1 0))).2.2) else -2) else -2) x.2.2.2.2)
def rm_X6_leak : Room := { frames := 5, cells := 0, slots := 0, locals := 120 }
def t_X6_leak : en_T := ((4, 0, 0), tb_X6_leak, fl_X6, cn_X6, [(179, 1, 0, 0, 0, f_X6_isLeakKind), (182, 4, 3, 0, 0, f_X1_search)], [], 0, some .int)
set_option maxRecDepth 100000 in
theorem tB_X6_leak (D : va_G) (dT : Nat → Nat) (l : Launch) : en_TB en_WD D vwCl dT l rm_X6_leak t_X6_leak RX6 "leak" cX6_leak := ⟨tk_X6_leak, fun s args meth h hn => ⟨fo_X6 h args meth, co_X6 h args, List.forall_mem_cons.mpr ⟨mk_X6_isLeakKind (own := RX6) h (Nat.le_of_ble_eq_true rfl) (Nat.le_of_ble_eq_true rfl) (Or.inl (en_wd h 508 (by decide +kernel) rfl args)), List.forall_mem_cons.mpr ⟨mk_X1_search (own := RX6) h (Nat.le_of_ble_eq_true rfl) (Nat.le_of_ble_eq_true rfl) (Or.inl (en_wd h 511 (by decide +kernel) rfl args)), fun _ h => absurd h List.not_mem_nil⟩⟩, fun _ h => absurd h List.not_mem_nil, Or.inl rfl, en_arr h args⟩⟩
set_option maxHeartbeats 4000000 in
set_option maxRecDepth 100000 in
theorem bd_X6_leak : en_B (σ := Int32 × Int32 × Int32 × Nat × Sx) t_X6_leak (fun x => [.ref 0, .int x.1, .int x.2.1, .int x.2.2.1]) (fun x => wX x.2.2.2.2) (fun x => x.2.2.2.1 ≤ 100 ∧ x.2.2.2.2.1 1 = nI x.2.2.2.1 ∧ zb (x.2.2.2.2.2.2.1 22) ∧ byok (x.2.2.2.2.2.2.1 20)) (fun x v w => ansD v w (if lkq x.1 x.2.1 x.2.2.1 then (if x.2.1 < (tks x.2.1 (0, x.2.2.2.2.1 7, x.2.2.2.2.1 8) (LKX x.2.2.2.2 x.2.2.2.1 (tn x.1) (x.2.2.2.2.1 0))).1 then (if x.2.2.1 = 0 then (tks x.2.1 (0, x.2.2.2.2.1 7, x.2.2.2.2.1 8) (LKX x.2.2.2.2 x.2.2.2.1 (tn x.1) (x.2.2.2.2.1 0))).2.1 else (tks x.2.1 (0, x.2.2.2.2.1 7, x.2.2.2.2.1 8) (LKX x.2.2.2.2 x.2.2.2.1 (tn x.1) (x.2.2.2.2.1 0))).2.2) else -2) else -2) x.2.2.2.2) := by
  rintro ⟨kd, i, wh, n, S⟩ ⟨hn, h1, hz, hby⟩ G hG OK ⟨run, sub⟩
  dsimp only at hn h1 hz hby hG ⊢
  have tail : lkq kd i wh → OK 0 0 23 [(0, .ref 0), (1, .int kd), (2, .int i), (3, .int wh)] [] (wX S) := by
    intro hq
    obtain ⟨j, hj, rfl⟩ := le_of (b := 5) (by decide) hq.1
    rw [if_pos hq, show tn (nI j) = j from nI_clamp (by omega)] at hG
    refine run [] 60 _ _ _ _ _ _ ?_
    conv => whnf
    refine ⟨(n, j, S.1 0, i, S), rfl, rfl, ⟨hn, h1, hj, hz, hby⟩, ?_⟩
    intro v u hvu
    obtain ⟨rfl, rfl⟩ : v = some (.int (tks i (0, S.1 7, S.1 8) (LKX S n j (S.1 0))).1) ∧ u = wX (xf (xi S 5 i) (tks i (0, S.1 7, S.1 8) (LKX S n j (S.1 0)))) := hvu
    generalize tks i (0, S.1 7, S.1 8) (LKX S n j (S.1 0)) = Y at hG ⊢
    conv => whnf
    refine ⟨fun c => ?_, fun c => ?_⟩
    · rw [if_pos c] at hG
      conv => whnf
      refine ⟨fun c2 => ?_, fun c2 => ?_⟩
      · rw [if_neg c2] at hG
        conv => whnf
        exact hG _ _ ⟨rfl, _, rfl, dat_f⟩
      · rw [if_pos c2] at hG
        conv => whnf
        exact hG _ _ ⟨rfl, _, rfl, dat_f⟩
    · rw [if_neg c] at hG
      conv => whnf
      exact hG _ _ ⟨rfl, _, rfl, dat_f⟩
  refine run [23] 60 _ _ _ _ _ _ ?_
  conv => whnf
  refine ⟨(kd, wX S), rfl, rfl, trivial, ?_⟩
  rintro _ _ ⟨rfl, rfl⟩
  conv => whnf
  refine bl_br (fun c1 => ?_) (fun c1 => ?_)
  · conv => whnf
    rw [if_neg (fun z => c1 z.1)] at hG
    exact hG _ _ ⟨rfl, S, rfl, dat_rf S⟩
  conv => whnf
  refine ⟨fun c2 => ?_, fun c2 => ?_⟩
  · conv => whnf
    rw [if_neg (fun z => absurd c2 (Int32.not_lt.mpr z.2.1))] at hG
    exact hG _ _ ⟨rfl, S, rfl, dat_rf S⟩
  conv => whnf
  refine ⟨fun c3 => ?_, fun c3 => ?_⟩
  · conv => whnf
    exact tail ⟨c1, Int32.not_lt.mp c2, Or.inl c3⟩
  conv => whnf
  refine ⟨fun c4 => ?_, fun c4 => ?_⟩
  · conv => whnf
    exact tail ⟨c1, Int32.not_lt.mp c2, Or.inr c4⟩
  · conv => whnf
    rw [if_neg (fun z => z.2.2.elim c3 c4)] at hG
    exact hG _ _ ⟨rfl, S, rfl, dat_rf S⟩
theorem ct_X6_leak (D : va_G) (dT : Nat → Nat) (l : Launch) : en_CT en_WD D vwCl dT l yX6_leak cX6_leak 4 (some .int) rm_X6_leak f_X6_leak := en_met en_WD1 en_WD2 (by decide) rfl rfl (tB_X6_leak D dT l) (en_f_ln (fun _ => Nat.le_of_ble_eq_true rfl)) (en_f_bd bd_X6_leak)
set_option maxRecDepth 100000 in
theorem mk_X6_leak {D : va_G} {dT : Nat → Nat} {l : Launch} {R : Room} {s : State} {args : Array Value} {own : String} {idx : Nat} (h : en_WD s) (h1 : rm_X6_leak.frames + 1 ≤ R.frames) (h2 : 8 + (4 + 11) + rm_X6_leak.locals ≤ R.locals) (hl : (Jvm.Cond.methodLink own idx yX6_leak).before args s = true ∨ ∃ host, (Jvm.Cond.methodLinkNest own idx yX6_leak host).before args s = true) : en_mok en_WD D vwCl dT l R s args own (idx, 4, 8, 0, 0, f_X6_leak) :=
  ⟨yX6_leak, cX6_leak, 4, some .int, rm_X6_leak, 3, ct_X6_leak D dT l, rfl, rfl, h1, h2, en_wd h 594 rfl rfl args, en_wd h 59 (by decide +kernel) rfl args, by decide, by decide, hl, ⟨RX6, TX6, 6, rfl, en_wd h 592 (by decide +kernel) rfl args, en_wd h 593 (by decide +kernel) rfl args, rfl⟩⟩
def f_X6_meets := en_f (σ := Nat × Sx) (fun _ => [.ref 0]) (fun x => wX x.2) (fun x => x.1 ≤ 100 ∧ x.2.1 1 = nI x.1) (fun x v w => ansD v w (nI (mts (x.2.2.2.2 6) (x.2.2.2.2 7) (x.2.2.2.1 5) x.1)) x.2)
def rm_X6_meets : Room := { frames := 4, cells := 0, slots := 0, locals := 91 }
def t_X6_meets : en_T := ((1, 0, 0), tb_X6_meets, fl_X6, cn_X6, [(191, 1, 4, 0, 0, f_X2_countMeetings)], [], 0, some .int)
set_option maxRecDepth 100000 in
theorem tB_X6_meets (D : va_G) (dT : Nat → Nat) (l : Launch) : en_TB en_WD D vwCl dT l rm_X6_meets t_X6_meets RX6 "meets" cX6_meets := ⟨tk_X6_meets, fun s args meth h hn => ⟨fo_X6 h args meth, co_X6 h args, List.forall_mem_cons.mpr ⟨mk_X2_countMeetings (own := RX6) h (Nat.le_of_ble_eq_true rfl) (Nat.le_of_ble_eq_true rfl) (Or.inl (en_wd h 599 (by decide +kernel) rfl args)), fun _ h => absurd h List.not_mem_nil⟩, fun _ h => absurd h List.not_mem_nil, Or.inl rfl, en_arr h args⟩⟩
set_option maxHeartbeats 4000000 in
set_option maxRecDepth 100000 in
theorem bd_X6_meets : en_B (σ := Nat × Sx) t_X6_meets (fun _ => [.ref 0]) (fun x => wX x.2) (fun x => x.1 ≤ 100 ∧ x.2.1 1 = nI x.1) (fun x v w => ansD v w (nI (mts (x.2.2.2.2 6) (x.2.2.2.2 7) (x.2.2.2.1 5) x.1)) x.2) := by
  rintro ⟨n, S⟩ ⟨hn, h1⟩ G hG OK ⟨run, sub⟩
  dsimp only at hn h1 hG ⊢
  refine run [] 60 _ _ _ _ _ _ ?_
  conv => whnf
  refine ⟨(n, S), rfl, rfl, ⟨hn, h1⟩, ?_⟩
  rintro v u ⟨hv0, f, hu⟩
  obtain rfl : v = some (.int (nI (mts (S.2.2.2 6) (S.2.2.2 7) (S.2.2.1 5) n))) := hv0
  obtain rfl : u = wX (xa S 8 f) := hu
  conv => whnf
  exact hG _ _ ⟨rfl, xa S 8 f, rfl, fun _ _ => rfl, ⟨rfl, rfl, rfl, rfl, rfl, rfl, rfl, rfl⟩, rfl⟩
theorem ct_X6_meets (D : va_G) (dT : Nat → Nat) (l : Launch) : en_CT en_WD D vwCl dT l yX6_meets cX6_meets 1 (some .int) rm_X6_meets f_X6_meets := en_met en_WD1 en_WD2 (by decide) rfl rfl (tB_X6_meets D dT l) (en_f_ln (fun _ => Nat.le_of_ble_eq_true rfl)) (en_f_bd bd_X6_meets)
set_option maxRecDepth 100000 in
theorem mk_X6_meets {D : va_G} {dT : Nat → Nat} {l : Launch} {R : Room} {s : State} {args : Array Value} {own : String} {idx : Nat} (h : en_WD s) (h1 : rm_X6_meets.frames + 1 ≤ R.frames) (h2 : 8 + (1 + 11) + rm_X6_meets.locals ≤ R.locals) (hl : (Jvm.Cond.methodLink own idx yX6_meets).before args s = true ∨ ∃ host, (Jvm.Cond.methodLinkNest own idx yX6_meets host).before args s = true) : en_mok en_WD D vwCl dT l R s args own (idx, 1, 8, 0, 0, f_X6_meets) :=
  ⟨yX6_meets, cX6_meets, 1, some .int, rm_X6_meets, 0, ct_X6_meets D dT l, rfl, rfl, h1, h2, en_wd h 598 rfl rfl args, en_wd h 59 (by decide +kernel) rfl args, by decide, by decide, hl, ⟨RX6, TX6, 6, rfl, en_wd h 596 (by decide +kernel) rfl args, en_wd h 597 (by decide +kernel) rfl args, rfl⟩⟩
def f_X6_told := en_f (σ := Int32 × Nat × Sx) (fun x => [.ref 0, .int x.1]) (fun x => wX x.2.2) (fun x => x.2.1 ≤ 100 ∧ x.2.2.1 1 = nI x.2.1) (fun x v w => ans v w (if x.1 = 0 then nI x.2.1 else if x.1 = 1 then x.2.2.1 2 else if x.1 = 2 then x.2.2.1 3 else if x.1 = 3 then nI (ct (fun r => x.2.2.2.2.1 5 r ≠ -1) x.2.1) else if x.1 = 4 then x.2.2.1 0 else -2) x.2.2)
def rm_X6_told : Room := { frames := 2, cells := 0, slots := 0, locals := 43 }
def t_X6_told : en_T := ((2, 0, 0), tb_X6_told, fl_X6, cn_X6, [(112, 1, 4, 0, 0, f_X2_countPlaced)], [], 0, some .int)
set_option maxRecDepth 100000 in
theorem tB_X6_told (D : va_G) (dT : Nat → Nat) (l : Launch) : en_TB en_WD D vwCl dT l rm_X6_told t_X6_told RX6 "told" cX6_told := ⟨tk_X6_told, fun s args meth h hn => ⟨fo_X6 h args meth, co_X6 h args, List.forall_mem_cons.mpr ⟨mk_X2_countPlaced (own := RX6) h (Nat.le_of_ble_eq_true rfl) (Nat.le_of_ble_eq_true rfl) (Or.inl (en_wd h 413 (by decide +kernel) rfl args)), fun _ h => absurd h List.not_mem_nil⟩, fun _ h => absurd h List.not_mem_nil, Or.inl rfl, en_arr h args⟩⟩
set_option maxHeartbeats 4000000 in
set_option maxRecDepth 100000 in
theorem bd_X6_told : en_B (σ := Int32 × Nat × Sx) t_X6_told (fun x => [.ref 0, .int x.1]) (fun x => wX x.2.2) (fun x => x.2.1 ≤ 100 ∧ x.2.2.1 1 = nI x.2.1) (fun x v w => ans v w (if x.1 = 0 then nI x.2.1 else if x.1 = 1 then x.2.2.1 2 else if x.1 = 2 then x.2.2.1 3 else if x.1 = 3 then nI (ct (fun r => x.2.2.2.2.1 5 r ≠ -1) x.2.1) else if x.1 = 4 then x.2.2.1 0 else -2) x.2.2) := by
  rintro ⟨x, n, S⟩ ⟨hn, h1⟩ G hG OK ⟨run, sub⟩
  dsimp only at hn h1 hG ⊢
  have inj : ∀ y : Int32, x.toInt = y.toInt → x = y := fun y h => Int32.toInt_inj.mp h
  refine run [] 60 _ _ _ _ _ _ ?_
  conv => whnf
  refine ⟨fun h => ?_, fun h => ?_, fun h => ?_, fun h => ?_, fun h => ?_, fun h => ?_, trivial⟩
  · have hne : ∀ y : Int32, 0 ≤ y.toInt → y.toInt ≤ 4 → x ≠ y := fun y a b e => by rw [e] at h; omega
    rw [if_neg (hne 0 (by decide) (by decide)), if_neg (hne 1 (by decide) (by decide)), if_neg (hne 2 (by decide) (by decide)), if_neg (hne 3 (by decide) (by decide)), if_neg (hne 4 (by decide) (by decide))] at hG
    conv => whnf
    exact hG _ _ ⟨rfl, rfl⟩
  · obtain rfl := inj 0 h
    rw [if_pos rfl, ← h1] at hG
    conv => whnf
    exact hG _ _ ⟨rfl, rfl⟩
  · obtain rfl := inj 1 h
    rw [if_neg (by decide), if_pos rfl] at hG
    conv => whnf
    exact hG _ _ ⟨rfl, rfl⟩
  · obtain rfl := inj 2 h
    rw [if_neg (by decide), if_neg (by decide), if_pos rfl] at hG
    conv => whnf
    exact hG _ _ ⟨rfl, rfl⟩
  · obtain rfl := inj 3 h
    rw [if_neg (by decide), if_neg (by decide), if_neg (by decide), if_pos rfl] at hG
    conv => whnf
    refine ⟨(n, S), rfl, rfl, ⟨hn, h1⟩, ?_⟩
    rintro _ _ ⟨rfl, rfl⟩
    conv => whnf
    exact hG _ _ ⟨rfl, rfl⟩
  · obtain rfl := inj 4 h
    rw [if_neg (by decide), if_neg (by decide), if_neg (by decide), if_neg (by decide), if_pos rfl] at hG
    conv => whnf
    exact hG _ _ ⟨rfl, rfl⟩
theorem ct_X6_told (D : va_G) (dT : Nat → Nat) (l : Launch) : en_CT en_WD D vwCl dT l yX6_told cX6_told 2 (some .int) rm_X6_told f_X6_told := en_met en_WD1 en_WD2 (by decide) rfl rfl (tB_X6_told D dT l) (en_f_ln (fun _ => Nat.le_of_ble_eq_true rfl)) (en_f_bd bd_X6_told)
set_option maxRecDepth 100000 in
theorem mk_X6_told {D : va_G} {dT : Nat → Nat} {l : Launch} {R : Room} {s : State} {args : Array Value} {own : String} {idx : Nat} (h : en_WD s) (h1 : rm_X6_told.frames + 1 ≤ R.frames) (h2 : 8 + (2 + 11) + rm_X6_told.locals ≤ R.locals) (hl : (Jvm.Cond.methodLink own idx yX6_told).before args s = true ∨ ∃ host, (Jvm.Cond.methodLinkNest own idx yX6_told host).before args s = true) : en_mok en_WD D vwCl dT l R s args own (idx, 2, 8, 0, 0, f_X6_told) :=
  ⟨yX6_told, cX6_told, 2, some .int, rm_X6_told, 1, ct_X6_told D dT l, rfl, rfl, h1, h2, en_wd h 626 rfl rfl args, en_wd h 59 (by decide +kernel) rfl args, by decide, by decide, hl, ⟨RX6, TX6, 6, rfl, en_wd h 624 (by decide +kernel) rfl args, en_wd h 625 (by decide +kernel) rfl args, rfl⟩⟩
end
section
/-! SplitLeaks: split, same, folds, nested, over -/
def f_X6_split := en_f (σ := Int32 × Int64 × Int32 × Nat × (Nat → Nat) × Nat × Nat × Sx) (fun x => [.ref 0, .int x.1, .long x.2.1, .int x.2.2.1]) (fun x => wX x.2.2.2.2.2.2.2) (fun x => x.2.2.2.1 ≤ 100 ∧ x.2.2.2.2.2.2.2.1 1 = nI x.2.2.2.1 ∧ wgt x.2.2.2.2.2.2.2 x.2.2.2.2.1 x.2.2.2.2.2.1 x.2.2.2.2.2.2.1) (fun x v w => (¬ splq x.1 x.2.2.1 ∧ ansD v w (-2) x.2.2.2.2.2.2.2) ∨ (splq x.1 x.2.2.1 ∧ ansD v w (nI (ct (fun r => PLN x.2.2.2.2.2.2.2 x.2.2.2.2.1 x.2.2.2.2.2.1 x.2.2.2.2.2.2.1 x.2.2.2.1 (tn x.1) x.2.1 x.2.2.1 r ≠ -1) x.2.2.2.1)) (xa x.2.2.2.2.2.2.2 5 (mx x.2.2.2.1 (PLN x.2.2.2.2.2.2.2 x.2.2.2.2.1 x.2.2.2.2.2.1 x.2.2.2.2.2.2.1 x.2.2.2.1 (tn x.1) x.2.1 x.2.2.1) (x.2.2.2.2.2.2.2.2.2.1 5)))))
def rm_X6_split : Room := { frames := 5, cells := 0, slots := 0, locals := 115 }
def t_X6_split : en_T := ((5, 0, 0), tb_X6_split, fl_X6, cn_X6, [(102, 2, 0, 0, 0, f_X6_isSplit), (105, 4, 5, 0, 0, f_X3_plan), (109, 1, 5, 0, 0, f_X3_settle), (112, 1, 4, 0, 0, f_X2_countPlaced)], [], 0, some .int)
set_option maxRecDepth 100000 in
theorem tB_X6_split (D : va_G) (dT : Nat → Nat) (l : Launch) : en_TB en_WD D vwCl dT l rm_X6_split t_X6_split RX6 "split" cX6_split := ⟨tk_X6_split, fun s args meth h hn => ⟨fo_X6 h args meth, co_X6 h args, List.forall_mem_cons.mpr ⟨mk_X6_isSplit (own := RX6) h (Nat.le_of_ble_eq_true rfl) (Nat.le_of_ble_eq_true rfl) (Or.inl (en_wd h 322 (by decide +kernel) rfl args)), List.forall_mem_cons.mpr ⟨mk_X3_plan (own := RX6) h (Nat.le_of_ble_eq_true rfl) (Nat.le_of_ble_eq_true rfl) (Or.inl (en_wd h 325 (by decide +kernel) rfl args)), List.forall_mem_cons.mpr ⟨mk_X3_settle (own := RX6) h (Nat.le_of_ble_eq_true rfl) (Nat.le_of_ble_eq_true rfl) (Or.inl (en_wd h 409 (by decide +kernel) rfl args)), List.forall_mem_cons.mpr ⟨mk_X2_countPlaced (own := RX6) h (Nat.le_of_ble_eq_true rfl) (Nat.le_of_ble_eq_true rfl) (Or.inl (en_wd h 413 (by decide +kernel) rfl args)), fun _ h => absurd h List.not_mem_nil⟩⟩⟩⟩, fun _ h => absurd h List.not_mem_nil, Or.inl rfl, en_arr h args⟩⟩
set_option maxHeartbeats 4000000 in
set_option maxRecDepth 100000 in
theorem bd_X6_split : en_B (σ := Int32 × Int64 × Int32 × Nat × (Nat → Nat) × Nat × Nat × Sx) t_X6_split (fun x => [.ref 0, .int x.1, .long x.2.1, .int x.2.2.1]) (fun x => wX x.2.2.2.2.2.2.2) (fun x => x.2.2.2.1 ≤ 100 ∧ x.2.2.2.2.2.2.2.1 1 = nI x.2.2.2.1 ∧ wgt x.2.2.2.2.2.2.2 x.2.2.2.2.1 x.2.2.2.2.2.1 x.2.2.2.2.2.2.1) (fun x v w => (¬ splq x.1 x.2.2.1 ∧ ansD v w (-2) x.2.2.2.2.2.2.2) ∨ (splq x.1 x.2.2.1 ∧ ansD v w (nI (ct (fun r => PLN x.2.2.2.2.2.2.2 x.2.2.2.2.1 x.2.2.2.2.2.1 x.2.2.2.2.2.2.1 x.2.2.2.1 (tn x.1) x.2.1 x.2.2.1 r ≠ -1) x.2.2.2.1)) (xa x.2.2.2.2.2.2.2 5 (mx x.2.2.2.1 (PLN x.2.2.2.2.2.2.2 x.2.2.2.2.1 x.2.2.2.2.2.1 x.2.2.2.2.2.2.1 x.2.2.2.1 (tn x.1) x.2.1 x.2.2.1) (x.2.2.2.2.2.2.2.2.2.1 5))))) := by
  rintro ⟨kd, z, g, n, w, W, k, S⟩ ⟨hn, h1, hwg⟩ G hG OK ⟨run, sub⟩
  dsimp only at hn h1 hwg hG ⊢
  refine run [] 60 _ _ _ _ _ _ ?_
  conv => whnf
  refine ⟨(kd, g, wX S), rfl, rfl, trivial, ?_⟩
  rintro _ _ ⟨rfl, rfl⟩
  conv => whnf
  refine bl_br2 (fun c1 => ?_) (fun c1 => ?_)
  rotate_left
  · conv => whnf
    exact hG _ _ (Or.inl ⟨c1, rfl, S, rfl, dat_rf S⟩)
  obtain ⟨j, hj, rfl⟩ := le_of (b := 3) (by decide) c1.1
  rw [show tn (nI j) = j from nI_clamp (by omega)] at hG
  conv => whnf
  refine ⟨(j, z, g, w, W, k, n, S), rfl, rfl, ⟨hj, hwg, hn, h1⟩, ?_⟩
  rintro v u ⟨hv0, S', hu, hS', h15⟩
  obtain rfl : v = none := hv0
  subst hu
  have h15 : S'.2.2.1 15 = PLN S w W k n j z g := h15
  have hS' : kept S S' := hS'
  generalize PLN S w W k n j z g = F at h15 hG
  have h1' : S'.1 1 = nI n := (kept1 hS').trans h1
  conv => whnf
  refine ⟨(n, S'), rfl, rfl, ⟨hn, h1'⟩, ?_⟩
  intro v u hvu
  obtain ⟨rfl, rfl⟩ : v = none ∧ u = wX (xa S' 5 (mx n F (S.2.2.1 5))) := by
    rw [← h15, ← keptA hS' (a := 5) (by decide)]; exact hvu
  conv => whnf
  refine ⟨(n, xa S' 5 (mx n F (S.2.2.1 5))), rfl, rfl, ⟨hn, h1'⟩, ?_⟩
  intro v u hvu
  obtain ⟨rfl, rfl⟩ : v = some (.int (nI (ct (fun r => mx n F (S.2.2.1 5) r ≠ -1) n))) ∧ u = wX (xa S' 5 (mx n F (S.2.2.1 5))) := hvu
  conv => whnf
  refine hG _ _ (Or.inr ⟨c1, ?_, _, rfl, ?_⟩)
  · rw [ct_c (q := fun r => F r ≠ -1) (fun i hi => by rw [mx_lt hi])]
  · have d := dat_k hS'
    exact ⟨d.1, ⟨d.2.1.1, d.2.1.2.1, d.2.1.2.2.1, rfl, d.2.1.2.2.2.2.1, d.2.1.2.2.2.2.2.1, d.2.1.2.2.2.2.2.2.1, d.2.1.2.2.2.2.2.2.2⟩, d.2.2⟩
theorem ct_X6_split (D : va_G) (dT : Nat → Nat) (l : Launch) : en_CT en_WD D vwCl dT l yX6_split cX6_split 5 (some .int) rm_X6_split f_X6_split := en_met en_WD1 en_WD2 (by decide) rfl rfl (tB_X6_split D dT l) (en_f_ln (fun _ => Nat.le_of_ble_eq_true rfl)) (en_f_bd bd_X6_split)
set_option maxRecDepth 100000 in
theorem mk_X6_split {D : va_G} {dT : Nat → Nat} {l : Launch} {R : Room} {s : State} {args : Array Value} {own : String} {idx : Nat} (h : en_WD s) (h1 : rm_X6_split.frames + 1 ≤ R.frames) (h2 : 8 + (5 + 11) + rm_X6_split.locals ≤ R.locals) (hl : (Jvm.Cond.methodLink own idx yX6_split).before args s = true ∨ ∃ host, (Jvm.Cond.methodLinkNest own idx yX6_split host).before args s = true) : en_mok en_WD D vwCl dT l R s args own (idx, 4, 8, 0, 0, f_X6_split) :=
  ⟨yX6_split, cX6_split, 5, some .int, rm_X6_split, 3, ct_X6_split D dT l, rfl, rfl, h1, h2, en_wd h 321 rfl rfl args, en_wd h 59 (by decide +kernel) rfl args, by decide, by decide, hl, ⟨RX6, TX6, 6, rfl, en_wd h 319 (by decide +kernel) rfl args, en_wd h 320 (by decide +kernel) rfl args, rfl⟩⟩
def f_X6_same := en_f (σ := Int32 × Int64 × Int32 × Nat × (Nat → Nat) × Nat × Nat × Sx) (fun x => [.ref 0, .int x.1, .long x.2.1, .int x.2.2.1]) (fun x => wX x.2.2.2.2.2.2.2) (fun x => x.2.2.2.1 ≤ 100 ∧ x.2.2.2.2.2.2.2.1 1 = nI x.2.2.2.1 ∧ wgt x.2.2.2.2.2.2.2 x.2.2.2.2.1 x.2.2.2.2.2.1 x.2.2.2.2.2.2.1) (fun x v w => (¬ splq x.1 x.2.2.1 ∧ ansD v w 0 x.2.2.2.2.2.2.2) ∨ (splq x.1 x.2.2.1 ∧ ansD v w (bl (fs (fun r => x.2.2.2.2.2.2.2.2.2.1 5 r ≠ PLN x.2.2.2.2.2.2.2 x.2.2.2.2.1 x.2.2.2.2.2.1 x.2.2.2.2.2.2.1 x.2.2.2.1 (tn x.1) x.2.1 x.2.2.1 r) x.2.2.2.1 = none)) x.2.2.2.2.2.2.2))
def rm_X6_same : Room := { frames := 5, cells := 0, slots := 0, locals := 115 }
def t_X6_same : en_T := ((5, 0, 0), tb_X6_same, fl_X6, cn_X6, [(102, 2, 0, 0, 0, f_X6_isSplit), (105, 4, 5, 0, 0, f_X3_plan), (194, 1, 5, 0, 0, f_X3_isSettled)], [], 0, some .boolean)
set_option maxRecDepth 100000 in
theorem tB_X6_same (D : va_G) (dT : Nat → Nat) (l : Launch) : en_TB en_WD D vwCl dT l rm_X6_same t_X6_same RX6 "same" cX6_same := ⟨tk_X6_same, fun s args meth h hn => ⟨fo_X6 h args meth, co_X6 h args, List.forall_mem_cons.mpr ⟨mk_X6_isSplit (own := RX6) h (Nat.le_of_ble_eq_true rfl) (Nat.le_of_ble_eq_true rfl) (Or.inl (en_wd h 322 (by decide +kernel) rfl args)), List.forall_mem_cons.mpr ⟨mk_X3_plan (own := RX6) h (Nat.le_of_ble_eq_true rfl) (Nat.le_of_ble_eq_true rfl) (Or.inl (en_wd h 325 (by decide +kernel) rfl args)), List.forall_mem_cons.mpr ⟨mk_X3_isSettled (own := RX6) h (Nat.le_of_ble_eq_true rfl) (Nat.le_of_ble_eq_true rfl) (Or.inl (en_wd h 619 (by decide +kernel) rfl args)), fun _ h => absurd h List.not_mem_nil⟩⟩⟩, fun _ h => absurd h List.not_mem_nil, Or.inl rfl, en_arr h args⟩⟩
set_option maxHeartbeats 4000000 in
set_option maxRecDepth 100000 in
theorem bd_X6_same : en_B (σ := Int32 × Int64 × Int32 × Nat × (Nat → Nat) × Nat × Nat × Sx) t_X6_same (fun x => [.ref 0, .int x.1, .long x.2.1, .int x.2.2.1]) (fun x => wX x.2.2.2.2.2.2.2) (fun x => x.2.2.2.1 ≤ 100 ∧ x.2.2.2.2.2.2.2.1 1 = nI x.2.2.2.1 ∧ wgt x.2.2.2.2.2.2.2 x.2.2.2.2.1 x.2.2.2.2.2.1 x.2.2.2.2.2.2.1) (fun x v w => (¬ splq x.1 x.2.2.1 ∧ ansD v w 0 x.2.2.2.2.2.2.2) ∨ (splq x.1 x.2.2.1 ∧ ansD v w (bl (fs (fun r => x.2.2.2.2.2.2.2.2.2.1 5 r ≠ PLN x.2.2.2.2.2.2.2 x.2.2.2.2.1 x.2.2.2.2.2.1 x.2.2.2.2.2.2.1 x.2.2.2.1 (tn x.1) x.2.1 x.2.2.1 r) x.2.2.2.1 = none)) x.2.2.2.2.2.2.2)) := by
  rintro ⟨kd, z, g, n, w, W, k, S⟩ ⟨hn, h1, hwg⟩ G hG OK ⟨run, sub⟩
  dsimp only at hn h1 hwg hG ⊢
  refine run [] 60 _ _ _ _ _ _ ?_
  conv => whnf
  refine ⟨(kd, g, wX S), rfl, rfl, trivial, ?_⟩
  rintro _ _ ⟨rfl, rfl⟩
  conv => whnf
  refine bl_br2 (fun c1 => ?_) (fun c1 => ?_)
  rotate_left
  · conv => whnf
    exact ⟨rfl, hG _ _ (Or.inl ⟨c1, rfl, S, rfl, dat_rf S⟩)⟩
  obtain ⟨j, hj, rfl⟩ := le_of (b := 3) (by decide) c1.1
  rw [show tn (nI j) = j from nI_clamp (by omega)] at hG
  conv => whnf
  refine ⟨(j, z, g, w, W, k, n, S), rfl, rfl, ⟨hj, hwg, hn, h1⟩, ?_⟩
  rintro v u ⟨hv0, S', hu, hS', h15⟩
  obtain rfl : v = none := hv0
  subst hu
  have h15 : S'.2.2.1 15 = PLN S w W k n j z g := h15
  have hS' : kept S S' := hS'
  generalize PLN S w W k n j z g = F at h15 hG
  have h1' : S'.1 1 = nI n := (kept1 hS').trans h1
  conv => whnf
  refine ⟨(n, S'), rfl, rfl, ⟨hn, h1'⟩, ?_⟩
  intro v u hvu
  obtain ⟨rfl, rfl⟩ : v = some (.int (bl (fs (fun r => S.2.2.1 5 r ≠ F r) n = none))) ∧ u = wX S' := by
    rw [← h15, ← keptA hS' (a := 5) (by decide)]; exact hvu
  conv => whnf
  exact ⟨bl_b, hG _ _ (Or.inr ⟨c1, rfl, S', rfl, dat_k hS'⟩)⟩
theorem ct_X6_same (D : va_G) (dT : Nat → Nat) (l : Launch) : en_CT en_WD D vwCl dT l yX6_same cX6_same 5 (some .boolean) rm_X6_same f_X6_same := en_met en_WD1 en_WD2 (by decide) rfl rfl (tB_X6_same D dT l) (en_f_ln (fun _ => Nat.le_of_ble_eq_true rfl)) (en_f_bd bd_X6_same)
set_option maxRecDepth 100000 in
theorem mk_X6_same {D : va_G} {dT : Nat → Nat} {l : Launch} {R : Room} {s : State} {args : Array Value} {own : String} {idx : Nat} (h : en_WD s) (h1 : rm_X6_same.frames + 1 ≤ R.frames) (h2 : 8 + (5 + 11) + rm_X6_same.locals ≤ R.locals) (hl : (Jvm.Cond.methodLink own idx yX6_same).before args s = true ∨ ∃ host, (Jvm.Cond.methodLinkNest own idx yX6_same host).before args s = true) : en_mok en_WD D vwCl dT l R s args own (idx, 4, 8, 0, 0, f_X6_same) :=
  ⟨yX6_same, cX6_same, 5, some .boolean, rm_X6_same, 3, ct_X6_same D dT l, rfl, rfl, h1, h2, en_wd h 618 rfl rfl args, en_wd h 59 (by decide +kernel) rfl args, by decide, by decide, hl, ⟨RX6, TX6, 6, rfl, en_wd h 616 (by decide +kernel) rfl args, en_wd h 617 (by decide +kernel) rfl args, rfl⟩⟩
/-- the world with k even weights -/
def evx (S : Sx) (k : Nat) : Sx := bcx S (nI k) 1 1 (if 2 < k then 1 else 0) (if 3 < k then 1 else 0)
def f_X5_becomeEven := en_f (σ := Nat × Sx) (fun x => [.ref 9, .int (nI x.1)]) (fun x => wX x.2) (fun x => 2 ≤ x.1 ∧ x.1 ≤ 4) (fun x v w => v = none ∧ w = wX (evx x.2 x.1))
def rm_X5_becomeEven : Room := { frames := 1, cells := 0, slots := 0, locals := 25 }
def t_X5_becomeEven : en_T := ((2, 0, 0), tb_X5_becomeEven, fl_X5, cn_X5, [(28, 6, 7, 0, 0, f_X5_become)], [], 0, none)
set_option maxRecDepth 100000 in
theorem tB_X5_becomeEven (D : va_G) (dT : Nat → Nat) (l : Launch) : en_TB en_WD D vwCl dT l rm_X5_becomeEven t_X5_becomeEven RX5 "becomeEven" cX5_becomeEven := ⟨tk_X5_becomeEven, fun s args meth h hn => ⟨fo_X5 h args meth, co_X5 h args, List.forall_mem_cons.mpr ⟨mk_X5_become (own := RX5) h (Nat.le_of_ble_eq_true rfl) (Nat.le_of_ble_eq_true rfl) (Or.inl (en_wd h 432 (by decide +kernel) rfl args)), fun _ h => absurd h List.not_mem_nil⟩, fun _ h => absurd h List.not_mem_nil, Or.inl rfl, en_arr h args⟩⟩
set_option maxHeartbeats 4000000 in
set_option maxRecDepth 100000 in
theorem bd_X5_becomeEven : en_B (σ := Nat × Sx) t_X5_becomeEven (fun x => [.ref 9, .int (nI x.1)]) (fun x => wX x.2) (fun x => 2 ≤ x.1 ∧ x.1 ≤ 4) (fun x v w => v = none ∧ w = wX (evx x.2 x.1)) := by
  rintro ⟨k, S⟩ ⟨hk2, hk4⟩ G hG OK ⟨run, sub⟩
  dsimp only at hk2 hk4 hG ⊢
  unfold evx at hG
  refine run [] 60 _ _ _ _ _ _ ?_
  conv => whnf
  refine pk_le k 2 (fun h => ?_) (fun h => ?_)
  · rw [if_neg (c := 2 < k) (by omega), if_neg (c := 3 < k) (by omega)] at hG
    conv => whnf
    refine pk_le k 3 (fun h2 => ?_) (fun h2 => absurd h2 (by omega))
    conv => whnf
    refine ⟨(nI k, 1, 1, 0, 0, S), rfl, rfl, trivial, ?_⟩
    rintro _ _ ⟨rfl, rfl⟩
    conv => whnf
    exact hG _ _ ⟨rfl, rfl⟩
  · rw [if_pos (c := 2 < k) h] at hG
    conv => whnf
    refine pk_le k 3 (fun h2 => ?_) (fun h2 => ?_)
    · rw [if_neg (c := 3 < k) (by omega)] at hG
      conv => whnf
      refine ⟨(nI k, 1, 1, 1, 0, S), rfl, rfl, trivial, ?_⟩
      rintro _ _ ⟨rfl, rfl⟩
      conv => whnf
      exact hG _ _ ⟨rfl, rfl⟩
    · rw [if_pos (c := 3 < k) h2] at hG
      conv => whnf
      refine ⟨(nI k, 1, 1, 1, 1, S), rfl, rfl, trivial, ?_⟩
      rintro _ _ ⟨rfl, rfl⟩
      conv => whnf
      exact hG _ _ ⟨rfl, rfl⟩
theorem ct_X5_becomeEven (D : va_G) (dT : Nat → Nat) (l : Launch) : en_CT en_WD D vwCl dT l yX5_becomeEven cX5_becomeEven 2 (none) rm_X5_becomeEven f_X5_becomeEven := en_met en_WD1 en_WD2 (by decide) rfl rfl (tB_X5_becomeEven D dT l) (en_f_ln (fun _ => Nat.le_of_ble_eq_true rfl)) (en_f_bd bd_X5_becomeEven)
set_option maxRecDepth 100000 in
theorem mk_X5_becomeEven {D : va_G} {dT : Nat → Nat} {l : Launch} {R : Room} {s : State} {args : Array Value} {own : String} {idx : Nat} (h : en_WD s) (h1 : rm_X5_becomeEven.frames + 1 ≤ R.frames) (h2 : 8 + (2 + 11) + rm_X5_becomeEven.locals ≤ R.locals) (hl : (Jvm.Cond.methodLink own idx yX5_becomeEven).before args s = true ∨ ∃ host, (Jvm.Cond.methodLinkNest own idx yX5_becomeEven host).before args s = true) : en_mok en_WD D vwCl dT l R s args own (idx, 2, 7, 0, 0, f_X5_becomeEven) :=
  ⟨yX5_becomeEven, cX5_becomeEven, 2, none, rm_X5_becomeEven, 1, ct_X5_becomeEven D dT l, rfl, rfl, h1, h2, en_wd h 431 rfl rfl args, en_wd h 61 (by decide +kernel) rfl args, by decide, by decide, hl, ⟨RX5, TX5, 5, rfl, en_wd h 429 (by decide +kernel) rfl args, en_wd h 430 (by decide +kernel) rfl args, rfl⟩⟩
/-- what folds plan -/
def PLF (S : Sx) (k n : Nat) (z : Int64) : Nat → Int32 := (fst (fun l r => S.2.2.1 3 r = nI l) k n z (S.2.2.1 16) (S.2.2.1 15) 5).2.2.1
/-- what nested folds plan -/
def PLG (S : Sx) (k n : Nat) (z : Int64) (o : Int32) : Nat → Int32 := (fst (fun l r => S.2.2.1 3 r = nI l ∧ S.2.2.1 5 r ≠ -1 ∧ S.2.2.1 5 r ≠ o) k n (z + o.toInt64) (S.2.2.1 16) (mx n (fun _ => -1) (S.2.2.1 15)) 5).2.2.1
/-- the world, the rows in new parts, other weights -/
def ansW (v : Option Value) (w : List va_E) (x : Int32) (S : Sx) (k : Nat) (f : Nat → Int32) : Prop := v = some (.int x) ∧ ∃ S', w = wX S' ∧ dat (xa (evx S k) 5 f) S'
def f_X6_folds := en_f (σ := Int32 × Int64 × Nat × Sx) (fun x => [.ref 0, .int x.1, .long x.2.1]) (fun x => wX x.2.2.2) (fun x => x.2.2.1 ≤ 100 ∧ x.2.2.2.1 1 = nI x.2.2.1) (fun x v w => (¬ (2 ≤ x.1 ∧ x.1 ≤ 4) ∧ ansD v w (-2) x.2.2.2) ∨ ((2 ≤ x.1 ∧ x.1 ≤ 4) ∧ ansW v w (nI (ct (fun l => 0 < cpl (mx x.2.2.1 (PLF x.2.2.2 (tn x.1) x.2.2.1 x.2.1) (x.2.2.2.2.2.1 5)) (x.2.2.2.2.2.1 3) x.2.2.1 (nI l) ∧ cpl (mx x.2.2.1 (PLF x.2.2.2 (tn x.1) x.2.2.1 x.2.1) (x.2.2.2.2.2.1 5)) (x.2.2.2.2.2.1 3) x.2.2.1 (nI l) < tn x.1) 5)) x.2.2.2 (tn x.1) (mx x.2.2.1 (PLF x.2.2.2 (tn x.1) x.2.2.1 x.2.1) (x.2.2.2.2.2.1 5))))
def rm_X6_folds : Room := { frames := 4, cells := 0, slots := 0, locals := 93 }
def t_X6_folds : en_T := ((4, 0, 0), tb_X6_folds, fl_X6, cn_X6, [(116, 1, 0, 0, 0, f_X6_isFolds), (119, 2, 7, 0, 0, f_X5_becomeEven), (122, 2, 5, 0, 0, f_X3_planFolds), (109, 1, 5, 0, 0, f_X3_settle), (126, 2, 4, 0, 0, f_X2_countPlacedLabelsBelow)], [], 0, some .int)
set_option maxRecDepth 100000 in
theorem tB_X6_folds (D : va_G) (dT : Nat → Nat) (l : Launch) : en_TB en_WD D vwCl dT l rm_X6_folds t_X6_folds RX6 "folds" cX6_folds := ⟨tk_X6_folds, fun s args meth h hn => ⟨fo_X6 h args meth, co_X6 h args, List.forall_mem_cons.mpr ⟨mk_X6_isFolds (own := RX6) h (Nat.le_of_ble_eq_true rfl) (Nat.le_of_ble_eq_true rfl) (Or.inl (en_wd h 425 (by decide +kernel) rfl args)), List.forall_mem_cons.mpr ⟨mk_X5_becomeEven (own := RX6) h (Nat.le_of_ble_eq_true rfl) (Nat.le_of_ble_eq_true rfl) (Or.inl (en_wd h 428 (by decide +kernel) rfl args)), List.forall_mem_cons.mpr ⟨mk_X3_planFolds (own := RX6) h (Nat.le_of_ble_eq_true rfl) (Nat.le_of_ble_eq_true rfl) (Or.inl (en_wd h 433 (by decide +kernel) rfl args)), List.forall_mem_cons.mpr ⟨mk_X3_settle (own := RX6) h (Nat.le_of_ble_eq_true rfl) (Nat.le_of_ble_eq_true rfl) (Or.inl (en_wd h 409 (by decide +kernel) rfl args)), List.forall_mem_cons.mpr ⟨mk_X2_countPlacedLabelsBelow (own := RX6) h (Nat.le_of_ble_eq_true rfl) (Nat.le_of_ble_eq_true rfl) (Or.inl (en_wd h 441 (by decide +kernel) rfl args)), fun _ h => absurd h List.not_mem_nil⟩⟩⟩⟩⟩, fun _ h => absurd h List.not_mem_nil, Or.inl rfl, en_arr h args⟩⟩
set_option maxHeartbeats 4000000 in
set_option maxRecDepth 100000 in
theorem bd_X6_folds : en_B (σ := Int32 × Int64 × Nat × Sx) t_X6_folds (fun x => [.ref 0, .int x.1, .long x.2.1]) (fun x => wX x.2.2.2) (fun x => x.2.2.1 ≤ 100 ∧ x.2.2.2.1 1 = nI x.2.2.1) (fun x v w => (¬ (2 ≤ x.1 ∧ x.1 ≤ 4) ∧ ansD v w (-2) x.2.2.2) ∨ ((2 ≤ x.1 ∧ x.1 ≤ 4) ∧ ansW v w (nI (ct (fun l => 0 < cpl (mx x.2.2.1 (PLF x.2.2.2 (tn x.1) x.2.2.1 x.2.1) (x.2.2.2.2.2.1 5)) (x.2.2.2.2.2.1 3) x.2.2.1 (nI l) ∧ cpl (mx x.2.2.1 (PLF x.2.2.2 (tn x.1) x.2.2.1 x.2.1) (x.2.2.2.2.2.1 5)) (x.2.2.2.2.2.1 3) x.2.2.1 (nI l) < tn x.1) 5)) x.2.2.2 (tn x.1) (mx x.2.2.1 (PLF x.2.2.2 (tn x.1) x.2.2.1 x.2.1) (x.2.2.2.2.2.1 5)))) := by
  rintro ⟨kk, z, n, S⟩ ⟨hn, h1⟩ G hG OK ⟨run, sub⟩
  dsimp only at hn h1 hG ⊢
  refine run [] 60 _ _ _ _ _ _ ?_
  conv => whnf
  refine ⟨(kk, wX S), rfl, rfl, trivial, ?_⟩
  rintro _ _ ⟨rfl, rfl⟩
  conv => whnf
  refine bl_br2 (fun c1 => ?_) (fun c1 => ?_)
  rotate_left
  · conv => whnf
    exact hG _ _ (Or.inl ⟨c1, rfl, S, rfl, dat_rf S⟩)
  obtain ⟨k, hk4, rfl⟩ := le_of (b := 4) (by decide) ⟨Int32.le_trans (by decide) c1.1, c1.2⟩
  have hk2 : 2 ≤ k := (nI_leI (by decide) (by omega)).mp c1.1
  rw [show tn (nI k) = k from nI_clamp (by omega)] at hG
  conv => whnf
  refine ⟨(k, S), rfl, rfl, ⟨hk2, hk4⟩, ?_⟩
  intro v u hvu
  obtain ⟨rfl, rfl⟩ : v = none ∧ u = wX (evx S k) := hvu
  conv => whnf
  refine ⟨(z, k, n, evx S k), rfl, rfl, ⟨by dsimp only; omega, hk4, rfl, hn, h1⟩, ?_⟩
  rintro v u ⟨hv0, S', hu, hS', h15⟩
  obtain rfl : v = none := hv0
  subst hu
  have h15 : S'.2.2.1 15 = PLF S k n z := h15
  have hS' : kept (evx S k) S' := hS'
  generalize PLF S k n z = F at h15 hG
  have h1' : S'.1 1 = nI n := (kept1 hS').trans h1
  have h3' : S'.2.2.1 3 = S.2.2.1 3 := keptA hS' (by decide)
  conv => whnf
  refine ⟨(n, S'), rfl, rfl, ⟨hn, h1'⟩, ?_⟩
  intro v u hvu
  obtain ⟨rfl, rfl⟩ : v = none ∧ u = wX (xa S' 5 (mx n F (S.2.2.1 5))) := by
    rw [← h15, show S.2.2.1 5 = S'.2.2.1 5 from (keptA hS' (a := 5) (by decide)).symm]; exact hvu
  conv => whnf
  refine ⟨(n, k, xa S' 5 (mx n F (S.2.2.1 5))), rfl, rfl, ⟨hn, h1', hk4⟩, ?_⟩
  intro v u hvu
  obtain ⟨rfl, rfl⟩ : v = some (.int (nI (ct (fun l => 0 < cpl (mx n F (S.2.2.1 5)) (S.2.2.1 3) n (nI l) ∧ cpl (mx n F (S.2.2.1 5)) (S.2.2.1 3) n (nI l) < k) 5))) ∧ u = wX (xa S' 5 (mx n F (S.2.2.1 5))) := by rw [← h3']; exact hvu
  conv => whnf
  refine hG _ _ (Or.inr ⟨c1, rfl, _, rfl, ?_⟩)
  have d := dat_k hS'
  exact ⟨d.1, ⟨d.2.1.1, d.2.1.2.1, d.2.1.2.2.1, rfl, d.2.1.2.2.2.2.1, d.2.1.2.2.2.2.2.1, d.2.1.2.2.2.2.2.2.1, d.2.1.2.2.2.2.2.2.2⟩, d.2.2⟩
theorem ct_X6_folds (D : va_G) (dT : Nat → Nat) (l : Launch) : en_CT en_WD D vwCl dT l yX6_folds cX6_folds 4 (some .int) rm_X6_folds f_X6_folds := en_met en_WD1 en_WD2 (by decide) rfl rfl (tB_X6_folds D dT l) (en_f_ln (fun _ => Nat.le_of_ble_eq_true rfl)) (en_f_bd bd_X6_folds)
set_option maxRecDepth 100000 in
theorem mk_X6_folds {D : va_G} {dT : Nat → Nat} {l : Launch} {R : Room} {s : State} {args : Array Value} {own : String} {idx : Nat} (h : en_WD s) (h1 : rm_X6_folds.frames + 1 ≤ R.frames) (h2 : 8 + (4 + 11) + rm_X6_folds.locals ≤ R.locals) (hl : (Jvm.Cond.methodLink own idx yX6_folds).before args s = true ∨ ∃ host, (Jvm.Cond.methodLinkNest own idx yX6_folds host).before args s = true) : en_mok en_WD D vwCl dT l R s args own (idx, 3, 8, 0, 0, f_X6_folds) :=
  ⟨yX6_folds, cX6_folds, 4, some .int, rm_X6_folds, 2, ct_X6_folds D dT l, rfl, rfl, h1, h2, en_wd h 424 rfl rfl args, en_wd h 59 (by decide +kernel) rfl args, by decide, by decide, hl, ⟨RX6, TX6, 6, rfl, en_wd h 422 (by decide +kernel) rfl args, en_wd h 423 (by decide +kernel) rfl args, rfl⟩⟩
abbrev nesq (o k : Int32) : Prop := (0 ≤ o ∧ o < 4) ∧ (2 ≤ k ∧ k ≤ 4)
def f_X6_nested := en_f (σ := Int32 × Int32 × Int64 × Nat × Sx) (fun x => [.ref 0, .int x.1, .int x.2.1, .long x.2.2.1]) (fun x => wX x.2.2.2.2) (fun x => x.2.2.2.1 ≤ 100 ∧ x.2.2.2.2.1 1 = nI x.2.2.2.1) (fun x v w => (¬ nesq x.1 x.2.1 ∧ ansD v w (-2) x.2.2.2.2) ∨ (nesq x.1 x.2.1 ∧ cin (x.2.2.2.2.2.2.1 5) (x.2.2.2.2.2.2.1 3) x.2.2.2.1 x.1 (-1) = 0 ∧ ansD v w (-4) x.2.2.2.2) ∨ (nesq x.1 x.2.1 ∧ cin (x.2.2.2.2.2.2.1 5) (x.2.2.2.2.2.2.1 3) x.2.2.2.1 x.1 (-1) ≠ 0 ∧ ansW v w (nI (ct (fun r => PLG x.2.2.2.2 (tn x.2.1) x.2.2.2.1 x.2.2.1 x.1 r ≠ -1) x.2.2.2.1)) x.2.2.2.2 (tn x.2.1) (mx x.2.2.2.1 (PLG x.2.2.2.2 (tn x.2.1) x.2.2.2.1 x.2.2.1 x.1) (x.2.2.2.2.2.2.1 5))))
def rm_X6_nested : Room := { frames := 4, cells := 0, slots := 0, locals := 94 }
def t_X6_nested : en_T := ((5, 0, 0), tb_X6_nested, fl_X6, cn_X6, [(52, 2, 0, 0, 0, f_X6_isWithin), (116, 1, 0, 0, 0, f_X6_isFolds), (130, 3, 4, 0, 0, f_X2_countIn), (119, 2, 7, 0, 0, f_X5_becomeEven), (134, 3, 5, 0, 0, f_X3_planNested), (109, 1, 5, 0, 0, f_X3_settle), (112, 1, 4, 0, 0, f_X2_countPlaced)], [], 0, some .int)
set_option maxRecDepth 100000 in
theorem tB_X6_nested (D : va_G) (dT : Nat → Nat) (l : Launch) : en_TB en_WD D vwCl dT l rm_X6_nested t_X6_nested RX6 "nested" cX6_nested := ⟨tk_X6_nested, fun s args meth h hn => ⟨fo_X6 h args meth, co_X6 h args, List.forall_mem_cons.mpr ⟨mk_X6_isWithin (own := RX6) h (Nat.le_of_ble_eq_true rfl) (Nat.le_of_ble_eq_true rfl) (Or.inl (en_wd h 267 (by decide +kernel) rfl args)), List.forall_mem_cons.mpr ⟨mk_X6_isFolds (own := RX6) h (Nat.le_of_ble_eq_true rfl) (Nat.le_of_ble_eq_true rfl) (Or.inl (en_wd h 425 (by decide +kernel) rfl args)), List.forall_mem_cons.mpr ⟨mk_X2_countIn (own := RX6) h (Nat.le_of_ble_eq_true rfl) (Nat.le_of_ble_eq_true rfl) (Or.inl (en_wd h 457 (by decide +kernel) rfl args)), List.forall_mem_cons.mpr ⟨mk_X5_becomeEven (own := RX6) h (Nat.le_of_ble_eq_true rfl) (Nat.le_of_ble_eq_true rfl) (Or.inl (en_wd h 428 (by decide +kernel) rfl args)), List.forall_mem_cons.mpr ⟨mk_X3_planNested (own := RX6) h (Nat.le_of_ble_eq_true rfl) (Nat.le_of_ble_eq_true rfl) (Or.inl (en_wd h 458 (by decide +kernel) rfl args)), List.forall_mem_cons.mpr ⟨mk_X3_settle (own := RX6) h (Nat.le_of_ble_eq_true rfl) (Nat.le_of_ble_eq_true rfl) (Or.inl (en_wd h 409 (by decide +kernel) rfl args)), List.forall_mem_cons.mpr ⟨mk_X2_countPlaced (own := RX6) h (Nat.le_of_ble_eq_true rfl) (Nat.le_of_ble_eq_true rfl) (Or.inl (en_wd h 413 (by decide +kernel) rfl args)), fun _ h => absurd h List.not_mem_nil⟩⟩⟩⟩⟩⟩⟩, fun _ h => absurd h List.not_mem_nil, Or.inl rfl, en_arr h args⟩⟩
set_option maxHeartbeats 4000000 in
set_option maxRecDepth 100000 in
theorem bd_X6_nested : en_B (σ := Int32 × Int32 × Int64 × Nat × Sx) t_X6_nested (fun x => [.ref 0, .int x.1, .int x.2.1, .long x.2.2.1]) (fun x => wX x.2.2.2.2) (fun x => x.2.2.2.1 ≤ 100 ∧ x.2.2.2.2.1 1 = nI x.2.2.2.1) (fun x v w => (¬ nesq x.1 x.2.1 ∧ ansD v w (-2) x.2.2.2.2) ∨ (nesq x.1 x.2.1 ∧ cin (x.2.2.2.2.2.2.1 5) (x.2.2.2.2.2.2.1 3) x.2.2.2.1 x.1 (-1) = 0 ∧ ansD v w (-4) x.2.2.2.2) ∨ (nesq x.1 x.2.1 ∧ cin (x.2.2.2.2.2.2.1 5) (x.2.2.2.2.2.2.1 3) x.2.2.2.1 x.1 (-1) ≠ 0 ∧ ansW v w (nI (ct (fun r => PLG x.2.2.2.2 (tn x.2.1) x.2.2.2.1 x.2.2.1 x.1 r ≠ -1) x.2.2.2.1)) x.2.2.2.2 (tn x.2.1) (mx x.2.2.2.1 (PLG x.2.2.2.2 (tn x.2.1) x.2.2.2.1 x.2.2.1 x.1) (x.2.2.2.2.2.2.1 5)))) := by
  rintro ⟨o, kk, z, n, S⟩ ⟨hn, h1⟩ G hG OK ⟨run, sub⟩
  dsimp only at hn h1 hG ⊢
  refine run [] 60 _ _ _ _ _ _ ?_
  conv => whnf
  refine ⟨(o, 4, wX S), rfl, rfl, trivial, ?_⟩
  rintro _ _ ⟨rfl, rfl⟩
  conv => whnf
  refine bl_br (fun c1 => ?_) (fun c1 => ?_)
  · conv => whnf
    exact hG _ _ (Or.inl ⟨fun z => c1 z.1, rfl, S, rfl, dat_rf S⟩)
  conv => whnf
  refine ⟨(kk, wX S), rfl, rfl, trivial, ?_⟩
  rintro _ _ ⟨rfl, rfl⟩
  conv => whnf
  refine bl_br2 (fun c2 => ?_) (fun c2 => ?_)
  rotate_left
  · conv => whnf
    exact hG _ _ (Or.inl ⟨fun z => c2 z.2, rfl, S, rfl, dat_rf S⟩)
  conv => whnf
  refine ⟨(n, o, -1, S), rfl, rfl, ⟨hn, h1⟩, ?_⟩
  intro v u hvu
  obtain ⟨rfl, rfl⟩ : v = some (.int (nI (cin (S.2.2.1 5) (S.2.2.1 3) n o (-1)))) ∧ u = wX S := hvu
  have hcl : cin (S.2.2.1 5) (S.2.2.1 3) n o (-1) ≤ n := ct_le _ n
  have hc0 : nI (cin (S.2.2.1 5) (S.2.2.1 3) n o (-1)) = 0 ↔ cin (S.2.2.1 5) (S.2.2.1 3) n o (-1) = 0 := nI_eq (b := 0) (by omega) (by decide)
  conv => whnf
  refine ⟨fun c3 => ?_, fun c3 => ?_⟩
  rotate_left
  · conv => whnf
    exact hG _ _ (Or.inr (Or.inl ⟨⟨c1, c2⟩, hc0.mp c3, rfl, S, rfl, dat_rf S⟩))
  have c3 : cin (S.2.2.1 5) (S.2.2.1 3) n o (-1) ≠ 0 := fun z => c3 (hc0.mpr z)
  obtain ⟨k, hk4, rfl⟩ := le_of (b := 4) (by decide) ⟨Int32.le_trans (by decide) c2.1, c2.2⟩
  have hk2 : 2 ≤ k := (nI_leI (by decide) (by omega)).mp c2.1
  rw [show tn (nI k) = k from nI_clamp (by omega)] at hG
  conv => whnf
  refine ⟨(k, S), rfl, rfl, ⟨hk2, hk4⟩, ?_⟩
  intro v u hvu
  obtain ⟨rfl, rfl⟩ : v = none ∧ u = wX (evx S k) := hvu
  conv => whnf
  refine ⟨(o, z, k, n, evx S k), rfl, rfl, ⟨by dsimp only; omega, hk4, rfl, hn, h1⟩, ?_⟩
  rintro v u ⟨hv0, S', hu, hS', h15⟩
  obtain rfl : v = none := hv0
  subst hu
  have h15 : S'.2.2.1 15 = PLG S k n z o := h15
  have hS' : kept (evx S k) S' := hS'
  generalize PLG S k n z o = F at h15 hG
  have h1' : S'.1 1 = nI n := (kept1 hS').trans h1
  conv => whnf
  refine ⟨(n, S'), rfl, rfl, ⟨hn, h1'⟩, ?_⟩
  intro v u hvu
  obtain ⟨rfl, rfl⟩ : v = none ∧ u = wX (xa S' 5 (mx n F (S.2.2.1 5))) := by
    rw [← h15, show S.2.2.1 5 = S'.2.2.1 5 from (keptA hS' (a := 5) (by decide)).symm]; exact hvu
  conv => whnf
  refine ⟨(n, xa S' 5 (mx n F (S.2.2.1 5))), rfl, rfl, ⟨hn, h1'⟩, ?_⟩
  intro v u hvu
  obtain ⟨rfl, rfl⟩ : v = some (.int (nI (ct (fun r => mx n F (S.2.2.1 5) r ≠ -1) n))) ∧ u = wX (xa S' 5 (mx n F (S.2.2.1 5))) := hvu
  conv => whnf
  refine hG _ _ (Or.inr (Or.inr ⟨⟨c1, c2⟩, c3, ?_, _, rfl, ?_⟩))
  · rw [ct_c (q := fun r => F r ≠ -1) (fun i hi => by rw [mx_lt hi])]
  · have d := dat_k hS'
    exact ⟨d.1, ⟨d.2.1.1, d.2.1.2.1, d.2.1.2.2.1, rfl, d.2.1.2.2.2.2.1, d.2.1.2.2.2.2.2.1, d.2.1.2.2.2.2.2.2.1, d.2.1.2.2.2.2.2.2.2⟩, d.2.2⟩
theorem ct_X6_nested (D : va_G) (dT : Nat → Nat) (l : Launch) : en_CT en_WD D vwCl dT l yX6_nested cX6_nested 5 (some .int) rm_X6_nested f_X6_nested := en_met en_WD1 en_WD2 (by decide) rfl rfl (tB_X6_nested D dT l) (en_f_ln (fun _ => Nat.le_of_ble_eq_true rfl)) (en_f_bd bd_X6_nested)
set_option maxRecDepth 100000 in
theorem mk_X6_nested {D : va_G} {dT : Nat → Nat} {l : Launch} {R : Room} {s : State} {args : Array Value} {own : String} {idx : Nat} (h : en_WD s) (h1 : rm_X6_nested.frames + 1 ≤ R.frames) (h2 : 8 + (5 + 11) + rm_X6_nested.locals ≤ R.locals) (hl : (Jvm.Cond.methodLink own idx yX6_nested).before args s = true ∨ ∃ host, (Jvm.Cond.methodLinkNest own idx yX6_nested host).before args s = true) : en_mok en_WD D vwCl dT l R s args own (idx, 4, 8, 0, 0, f_X6_nested) :=
  ⟨yX6_nested, cX6_nested, 5, some .int, rm_X6_nested, 3, ct_X6_nested D dT l, rfl, rfl, h1, h2, en_wd h 456 rfl rfl args, en_wd h 59 (by decide +kernel) rfl args, by decide, by decide, hl, ⟨RX6, TX6, 6, rfl, en_wd h 454 (by decide +kernel) rfl args, en_wd h 455 (by decide +kernel) rfl args, rfl⟩⟩
end
section
/-! THE REFERENCE: its world: ints (0 rows, 1 parts, 2 weights, 3 nearness, 4 thrown, 5 many, 6 ahead, 7 one, 8 two), z, the arrays by their places (1 group, 2 label, 3 time, 4 number, 5 words, 6 part, 7 weight, 8 fitted, 9 by, 10 quotas, 11 more, 12 dealt, 13 things, 14 has) -/
def wM (S : Sx) : List va_E := [
  .inr (7, [.int (S.1 0), .ref 1, .ref 2, .ref 3, .ref 4, .ref 5, .ref 6, .int (S.1 1), .int (S.1 2), .ref 7, .int (S.1 3), .ref 8, .ref 9, .int (S.1 4), .ref 10, .ref 11, .long S.2.1, .ref 12, .ref 13, .int (S.1 5), .ref 14, .int (S.1 6), .int (S.1 7), .int (S.1 8)]),
  .inl (0, 100, .inl (S.2.2.1 1)), .inl (0, 100, .inl (S.2.2.1 2)), .inl (0, 100, .inl (S.2.2.1 3)), .inl (1, 300, .inr (.inl (S.2.2.2 4))), .inl (1, 100, .inr (.inl (S.2.2.2 5))), .inl (0, 100, .inl (S.2.2.1 6)), .inl (0, 4, .inl (S.2.2.1 7)), .inl (2, 800, .inl (S.2.2.1 8)), .inl (0, 8, .inl (S.2.2.1 9)), .inl (0, 4, .inl (S.2.2.1 10)), .inl (2, 4, .inl (S.2.2.1 11)), .inl (0, 100, .inl (S.2.2.1 12)), .inl (0, 100, .inl (S.2.2.1 13)), .inl (0, 30, .inl (S.2.2.1 14))]
theorem le_lt {x : Int32} {b : Nat} (hb : b + 1 < 2 ^ 31) : x ≤ nI b ↔ x < nI (b + 1) := by
  rw [Int32.le_iff_toInt_le, Int32.lt_iff_toInt_lt, nI_toInt (by omega), nI_toInt hb]
  omega
theorem le_pr {x : Int32} {n : Nat} (hn : n < 2 ^ 31) : x ≤ nI n - 1 ↔ x < nI n := by
  have h : (nI n - 1).toInt = (n : Int) - 1 := by
    by_cases h0 : n = 0
    · subst h0; decide
    · obtain ⟨m, rfl⟩ : ∃ m, n = m + 1 := ⟨n - 1, by omega⟩
      rw [nI_pred, nI_toInt (by omega)]
      omega
  rw [Int32.le_iff_toInt_le, Int32.lt_iff_toInt_lt, h, nI_toInt hn]
  omega
def ansM (v : Option Value) (w : List va_E) (x : Int32) (S : Sx) : Prop := v = some (.int x) ∧ w = wM S
def f_X7_in := en_f (σ := Int32 × Int32 × Int32 × List va_E) (fun x => [.int x.1, .int x.2.1, .int x.2.2.1]) (fun x => x.2.2.2) (fun _ => True) (fun x v w => v = some (.int (bl (x.2.1 ≤ x.1 ∧ x.1 ≤ x.2.2.1))) ∧ w = x.2.2.2)
def rm_X7_in : Room := { frames := 0, cells := 0, slots := 0, locals := 0 }
def t_X7_in : en_T := ((3, 0, 0), tb_X7_in, fl_X7, cn_X7, [], [], 0, some .boolean)
set_option maxRecDepth 100000 in
theorem tB_X7_in (D : va_G) (dT : Nat → Nat) (l : Launch) : en_TB en_WD D vwCl dT l rm_X7_in t_X7_in RX7 "in" cX7_in := ⟨tk_X7_in, fun s args meth h hn => ⟨fo_X7 h args meth, co_X7 h args, fun _ h => absurd h List.not_mem_nil, fun _ h => absurd h List.not_mem_nil, Or.inl rfl, en_arr h args⟩⟩
set_option maxHeartbeats 4000000 in
set_option maxRecDepth 100000 in
theorem bd_X7_in : en_B (σ := Int32 × Int32 × Int32 × List va_E) t_X7_in (fun x => [.int x.1, .int x.2.1, .int x.2.2.1]) (fun x => x.2.2.2) (fun _ => True) (fun x v w => v = some (.int (bl (x.2.1 ≤ x.1 ∧ x.1 ≤ x.2.2.1))) ∧ w = x.2.2.2) := by
  rintro ⟨x, a, b, ws⟩ - G hG OK ⟨run, sub⟩
  dsimp only at hG ⊢
  refine run [] 20 _ _ _ _ _ _ ?_
  conv => whnf
  refine ⟨fun h => ?_, fun h => ?_⟩
  · conv => whnf
    exact ⟨rfl, hG _ _ ⟨bl_af (fun z => absurd h (Int32.not_lt.mpr z.1)) rfl, rfl⟩⟩
  · conv => whnf
    refine ⟨fun h2 => ?_, fun h2 => ?_⟩
    · conv => whnf
      exact ⟨rfl, hG _ _ ⟨bl_af (fun z => absurd h2 (Int32.not_lt.mpr z.2)) rfl, rfl⟩⟩
    · conv => whnf
      exact ⟨rfl, hG _ _ ⟨bl_at ⟨Int32.not_lt.mp h, Int32.not_lt.mp h2⟩ rfl, rfl⟩⟩
theorem ct_X7_in (D : va_G) (dT : Nat → Nat) (l : Launch) : en_CT en_WD D vwCl dT l yX7_in cX7_in 3 (some .boolean) rm_X7_in f_X7_in := en_met en_WD1 en_WD2 (by decide) rfl rfl (tB_X7_in D dT l) (en_f_ln (fun _ => Nat.le_of_ble_eq_true rfl)) (en_f_bd bd_X7_in)
set_option maxRecDepth 100000 in
theorem mk_X7_in {D : va_G} {dT : Nat → Nat} {l : Launch} {R : Room} {s : State} {args : Array Value} {own : String} {idx : Nat} (h : en_WD s) (h1 : rm_X7_in.frames + 1 ≤ R.frames) (h2 : 8 + (3 + 11) + rm_X7_in.locals ≤ R.locals) (hl : (Jvm.Cond.methodLink own idx yX7_in).before args s = true ∨ ∃ host, (Jvm.Cond.methodLinkNest own idx yX7_in host).before args s = true) : en_mok en_WD D vwCl dT l R s args own (idx, 3, 0, 0, 0, f_X7_in) :=
  ⟨yX7_in, cX7_in, 3, some .boolean, rm_X7_in, 3, ct_X7_in D dT l, rfl, rfl, h1, h2, en_wd h 830 rfl rfl args, en_wd h 66 (by decide +kernel) rfl args, by decide, by decide, hl, ⟨en_wd h 829 (by decide +kernel) rfl args, rfl⟩⟩
def f_X7_thrown := en_f (σ := Sx) (fun _ => [.ref 0]) (fun x => wM x) (fun _ => True) (fun x v w => ansM v w (x.1 4) x)
def rm_X7_thrown : Room := { frames := 0, cells := 0, slots := 0, locals := 0 }
def t_X7_thrown : en_T := ((1, 0, 0), tb_X7_thrown, fl_X7, cn_X7, [], [], 0, some .int)
set_option maxRecDepth 100000 in
theorem tB_X7_thrown (D : va_G) (dT : Nat → Nat) (l : Launch) : en_TB en_WD D vwCl dT l rm_X7_thrown t_X7_thrown RX7 "thrown" cX7_thrown := ⟨tk_X7_thrown, fun s args meth h hn => ⟨fo_X7 h args meth, co_X7 h args, fun _ h => absurd h List.not_mem_nil, fun _ h => absurd h List.not_mem_nil, Or.inl rfl, en_arr h args⟩⟩
set_option maxHeartbeats 4000000 in
set_option maxRecDepth 100000 in
theorem bd_X7_thrown : en_B (σ := Sx) t_X7_thrown (fun _ => [.ref 0]) (fun x => wM x) (fun _ => True) (fun x v w => ansM v w (x.1 4) x) := by
  rintro S - G hG OK ⟨run, sub⟩
  dsimp only at hG ⊢
  refine run [] 20 _ _ _ _ _ _ ?_
  conv => whnf
  exact hG _ _ ⟨rfl, rfl⟩
theorem ct_X7_thrown (D : va_G) (dT : Nat → Nat) (l : Launch) : en_CT en_WD D vwCl dT l yX7_thrown cX7_thrown 1 (some .int) rm_X7_thrown f_X7_thrown := en_met en_WD1 en_WD2 (by decide) rfl rfl (tB_X7_thrown D dT l) (en_f_ln (fun _ => Nat.le_of_ble_eq_true rfl)) (en_f_bd bd_X7_thrown)
set_option maxRecDepth 100000 in
theorem mk_X7_thrown {D : va_G} {dT : Nat → Nat} {l : Launch} {R : Room} {s : State} {args : Array Value} {own : String} {idx : Nat} (h : en_WD s) (h1 : rm_X7_thrown.frames + 1 ≤ R.frames) (h2 : 8 + (1 + 11) + rm_X7_thrown.locals ≤ R.locals) (hl : (Jvm.Cond.methodLink own idx yX7_thrown).before args s = true ∨ ∃ host, (Jvm.Cond.methodLinkNest own idx yX7_thrown host).before args s = true) : en_mok en_WD D vwCl dT l R s args own (idx, 1, 9, 0, 0, f_X7_thrown) :=
  ⟨yX7_thrown, cX7_thrown, 1, some .int, rm_X7_thrown, 0, ct_X7_thrown D dT l, rfl, rfl, h1, h2, en_wd h 823 rfl rfl args, en_wd h 66 (by decide +kernel) rfl args, by decide, by decide, hl, ⟨RX7, TX7, 24, rfl, en_wd h 821 (by decide +kernel) rfl args, en_wd h 822 (by decide +kernel) rfl args, rfl⟩⟩
def f_X7_isRow := en_f (σ := Int32 × Nat × Sx) (fun x => [.ref 0, .int x.1]) (fun x => wM x.2.2) (fun x => x.2.1 ≤ 100 ∧ x.2.2.1 0 = nI x.2.1) (fun x v w => v = some (.int (bl (inr_ x.1 x.2.1))) ∧ w = wM x.2.2)
def rm_X7_isRow : Room := { frames := 1, cells := 0, slots := 0, locals := 22 }
def t_X7_isRow : en_T := ((2, 0, 0), tb_X7_isRow, fl_X7, cn_X7, [(70, 3, 0, 0, 0, f_X7_in)], [], 0, some .boolean)
set_option maxRecDepth 100000 in
theorem tB_X7_isRow (D : va_G) (dT : Nat → Nat) (l : Launch) : en_TB en_WD D vwCl dT l rm_X7_isRow t_X7_isRow RX7 "isRow" cX7_isRow := ⟨tk_X7_isRow, fun s args meth h hn => ⟨fo_X7 h args meth, co_X7 h args, List.forall_mem_cons.mpr ⟨mk_X7_in (own := RX7) h (Nat.le_of_ble_eq_true rfl) (Nat.le_of_ble_eq_true rfl) (Or.inl (en_wd h 828 (by decide +kernel) rfl args)), fun _ h => absurd h List.not_mem_nil⟩, fun _ h => absurd h List.not_mem_nil, Or.inl rfl, en_arr h args⟩⟩
set_option maxHeartbeats 4000000 in
set_option maxRecDepth 100000 in
theorem bd_X7_isRow : en_B (σ := Int32 × Nat × Sx) t_X7_isRow (fun x => [.ref 0, .int x.1]) (fun x => wM x.2.2) (fun x => x.2.1 ≤ 100 ∧ x.2.2.1 0 = nI x.2.1) (fun x v w => v = some (.int (bl (inr_ x.1 x.2.1))) ∧ w = wM x.2.2) := by
  rintro ⟨r, n, S⟩ ⟨hn, h1⟩ G hG OK ⟨run, sub⟩
  dsimp only at hn h1 hG ⊢
  refine run [] 20 _ _ _ _ _ _ ?_
  conv => whnf
  refine ⟨(r, 0, S.1 0 - 1, wM S), rfl, rfl, trivial, ?_⟩
  intro v u hvu
  obtain ⟨rfl, rfl⟩ : v = some (.int (bl (inr_ r n))) ∧ u = wM S := by
    refine ⟨hvu.1.trans ?_, hvu.2⟩
    show some (Value.int (bl (0 ≤ r ∧ r ≤ S.1 0 - 1))) = _
    rw [bl_c (q := inr_ r n) (by rw [h1, le_pr (by omega)])]
  conv => whnf
  exact ⟨bl_b, hG _ _ ⟨rfl, rfl⟩⟩
theorem ct_X7_isRow (D : va_G) (dT : Nat → Nat) (l : Launch) : en_CT en_WD D vwCl dT l yX7_isRow cX7_isRow 2 (some .boolean) rm_X7_isRow f_X7_isRow := en_met en_WD1 en_WD2 (by decide) rfl rfl (tB_X7_isRow D dT l) (en_f_ln (fun _ => Nat.le_of_ble_eq_true rfl)) (en_f_bd bd_X7_isRow)
set_option maxRecDepth 100000 in
theorem mk_X7_isRow {D : va_G} {dT : Nat → Nat} {l : Launch} {R : Room} {s : State} {args : Array Value} {own : String} {idx : Nat} (h : en_WD s) (h1 : rm_X7_isRow.frames + 1 ≤ R.frames) (h2 : 8 + (2 + 11) + rm_X7_isRow.locals ≤ R.locals) (hl : (Jvm.Cond.methodLink own idx yX7_isRow).before args s = true ∨ ∃ host, (Jvm.Cond.methodLinkNest own idx yX7_isRow host).before args s = true) : en_mok en_WD D vwCl dT l R s args own (idx, 2, 9, 0, 0, f_X7_isRow) :=
  ⟨yX7_isRow, cX7_isRow, 2, some .boolean, rm_X7_isRow, 1, ct_X7_isRow D dT l, rfl, rfl, h1, h2, en_wd h 839 rfl rfl args, en_wd h 66 (by decide +kernel) rfl args, by decide, by decide, hl, ⟨RX7, TX7, 24, rfl, en_wd h 838 (by decide +kernel) rfl args, en_wd h 35 (by decide +kernel) rfl args, rfl⟩⟩
/-- the reference's new row -/
def apm (S : Sx) (n : Nat) (g l t : Int32) : Sx := xi (xa (xa (xa (xa (xi S 4 0) 1 (upd (S.2.2.1 1) n g)) 2 (upd (S.2.2.1 2) n l)) 3 (upd (S.2.2.1 3) n t)) 6 (upd (S.2.2.1 6) n (-1))) 0 (nI (n + 1))
def f_X7_row := en_f (σ := Int32 × Int32 × Int32 × Nat × Sx) (fun x => [.ref 0, .int x.1, .int x.2.1, .int x.2.2.1]) (fun x => wM x.2.2.2.2) (fun x => x.2.2.2.1 ≤ 100 ∧ x.2.2.2.2.1 0 = nI x.2.2.2.1) (fun x v w => (¬ rowq x.1 x.2.1 x.2.2.1 ∧ ansM v w (-2) (xi x.2.2.2.2 4 0)) ∨ (rowq x.1 x.2.1 x.2.2.1 ∧ x.2.2.2.1 = 100 ∧ ansM v w (-3) (xi x.2.2.2.2 4 0)) ∨ (rowq x.1 x.2.1 x.2.2.1 ∧ x.2.2.2.1 < 100 ∧ ansM v w (nI x.2.2.2.1) (apm x.2.2.2.2 x.2.2.2.1 x.1 x.2.1 x.2.2.1)))
def rm_X7_row : Room := { frames := 1, cells := 0, slots := 0, locals := 22 }
def t_X7_row : en_T := ((4, 0, 0), tb_X7_row, fl_X7, cn_X7, [(70, 3, 0, 0, 0, f_X7_in)], [], 0, some .int)
set_option maxRecDepth 100000 in
theorem tB_X7_row (D : va_G) (dT : Nat → Nat) (l : Launch) : en_TB en_WD D vwCl dT l rm_X7_row t_X7_row RX7 "row" cX7_row := ⟨tk_X7_row, fun s args meth h hn => ⟨fo_X7 h args meth, co_X7 h args, List.forall_mem_cons.mpr ⟨mk_X7_in (own := RX7) h (Nat.le_of_ble_eq_true rfl) (Nat.le_of_ble_eq_true rfl) (Or.inl (en_wd h 828 (by decide +kernel) rfl args)), fun _ h => absurd h List.not_mem_nil⟩, fun _ h => absurd h List.not_mem_nil, Or.inl rfl, en_arr h args⟩⟩
set_option maxHeartbeats 4000000 in
set_option maxRecDepth 100000 in
theorem bd_X7_row : en_B (σ := Int32 × Int32 × Int32 × Nat × Sx) t_X7_row (fun x => [.ref 0, .int x.1, .int x.2.1, .int x.2.2.1]) (fun x => wM x.2.2.2.2) (fun x => x.2.2.2.1 ≤ 100 ∧ x.2.2.2.2.1 0 = nI x.2.2.2.1) (fun x v w => (¬ rowq x.1 x.2.1 x.2.2.1 ∧ ansM v w (-2) (xi x.2.2.2.2 4 0)) ∨ (rowq x.1 x.2.1 x.2.2.1 ∧ x.2.2.2.1 = 100 ∧ ansM v w (-3) (xi x.2.2.2.2 4 0)) ∨ (rowq x.1 x.2.1 x.2.2.1 ∧ x.2.2.2.1 < 100 ∧ ansM v w (nI x.2.2.2.1) (apm x.2.2.2.2 x.2.2.2.1 x.1 x.2.1 x.2.2.1))) := by
  rintro ⟨g, l, t, n, S⟩ ⟨hn, h1⟩ G hG OK ⟨run, sub⟩
  dsimp only at hn h1 hG ⊢
  refine run [] 80 _ _ _ _ _ _ ?_
  conv => whnf
  refine ⟨(g, 0, 29, wM (xi S 4 0)), rfl, rfl, trivial, ?_⟩
  rintro _ _ ⟨rfl, rfl⟩
  conv => whnf
  refine bl_br (fun c1 => ?_) (fun c1 => ?_)
  · conv => whnf
    exact hG _ _ (Or.inl ⟨fun z => c1 ⟨z.1.1, (le_lt (b := 29) (by decide)).mpr z.1.2⟩, rfl, rfl⟩)
  have c1 : 0 ≤ g ∧ g < 30 := ⟨c1.1, (le_lt (b := 29) (by decide)).mp c1.2⟩
  conv => whnf
  refine ⟨(l, 0, 4, wM (xi S 4 0)), rfl, rfl, trivial, ?_⟩
  rintro _ _ ⟨rfl, rfl⟩
  conv => whnf
  refine bl_br (fun c2 => ?_) (fun c2 => ?_)
  · conv => whnf
    exact hG _ _ (Or.inl ⟨fun z => c2 ⟨z.2.1.1, (le_lt (b := 4) (by decide)).mpr z.2.1.2⟩, rfl, rfl⟩)
  have c2 : 0 ≤ l ∧ l < 5 := ⟨c2.1, (le_lt (b := 4) (by decide)).mp c2.2⟩
  conv => whnf
  refine ⟨(t, 0, 100000, wM (xi S 4 0)), rfl, rfl, trivial, ?_⟩
  rintro _ _ ⟨rfl, rfl⟩
  conv => whnf
  refine bl_br2 (fun c3 => ?_) (fun c3 => ?_)
  rotate_left
  · conv => whnf
    exact hG _ _ (Or.inl ⟨fun z => c3 ⟨z.2.2.1, (le_lt (b := 100000) (by decide)).mpr z.2.2.2⟩, rfl, rfl⟩)
  have c3 : 0 ≤ t ∧ t < 100001 := ⟨c3.1, (le_lt (b := 100000) (by decide)).mp c3.2⟩
  conv => whnf
  refine ⟨fun h => ?_, fun h => ?_⟩
  · have hlt : n < 100 := by
      have : n ≠ 100 := fun e => h (by show S.1 0 = _; rw [h1, e]; rfl)
      omega
    have hin : vp_in (S.1 0) 100 := by rw [h1]; exact vp_in_nI hlt (by decide)
    conv => whnf
    refine ⟨hin, ?_⟩
    conv => whnf
    refine ⟨hin, ?_⟩
    conv => whnf
    refine ⟨hin, ?_⟩
    conv => whnf
    refine ⟨hin, ?_⟩
    conv => whnf
    refine hG _ _ (Or.inr (Or.inr ⟨⟨c1, c2, c3⟩, hlt, ?_, ?_⟩))
    · show some (Value.int (S.1 0 + 1 - 1)) = _
      rw [h1, ← nI_succ, nI_pred]
    · unfold apm
      have e : (nI n).toNatClampNeg = n := nI_clamp (by omega)
      show wM (xi (xa (xa (xa (xa (xi S 4 0) 1 (upd (S.2.2.1 1) (S.1 0).toNatClampNeg g)) 2 (upd (S.2.2.1 2) (S.1 0).toNatClampNeg l)) 3 (upd (S.2.2.1 3) (S.1 0).toNatClampNeg t)) 6 (upd (S.2.2.1 6) (S.1 0).toNatClampNeg (-1))) 0 (S.1 0 + 1)) = _
      rw [h1, e, nI_succ]
  · conv => whnf
    refine hG _ _ (Or.inr (Or.inl ⟨⟨c1, c2, c3⟩, ?_, rfl, rfl⟩))
    have h : S.1 0 = 100 := h
    rw [h1] at h
    exact (nI_eq (b := 100) (by omega) (by decide)).mp h
theorem ct_X7_row (D : va_G) (dT : Nat → Nat) (l : Launch) : en_CT en_WD D vwCl dT l yX7_row cX7_row 4 (some .int) rm_X7_row f_X7_row := en_met en_WD1 en_WD2 (by decide) rfl rfl (tB_X7_row D dT l) (en_f_ln (fun _ => Nat.le_of_ble_eq_true rfl)) (en_f_bd bd_X7_row)
set_option maxRecDepth 100000 in
theorem mk_X7_row {D : va_G} {dT : Nat → Nat} {l : Launch} {R : Room} {s : State} {args : Array Value} {own : String} {idx : Nat} (h : en_WD s) (h1 : rm_X7_row.frames + 1 ≤ R.frames) (h2 : 8 + (4 + 11) + rm_X7_row.locals ≤ R.locals) (hl : (Jvm.Cond.methodLink own idx yX7_row).before args s = true ∨ ∃ host, (Jvm.Cond.methodLinkNest own idx yX7_row host).before args s = true) : en_mok en_WD D vwCl dT l R s args own (idx, 4, 9, 0, 0, f_X7_row) :=
  ⟨yX7_row, cX7_row, 4, some .int, rm_X7_row, 3, ct_X7_row D dT l, rfl, rfl, h1, h2, en_wd h 827 rfl rfl args, en_wd h 66 (by decide +kernel) rfl args, by decide, by decide, hl, ⟨RX7, TX7, 24, rfl, en_wd h 825 (by decide +kernel) rfl args, en_wd h 826 (by decide +kernel) rfl args, rfl⟩⟩
theorem mul3' (a c : Nat) : Int32.ofInt 3 * nI a + nI c = nI (a * 3 + c) := by rw [Int32.mul_comm, mul3]
def f_X7_column := en_f (σ := Int32 × Int32 × Int64 × Nat × Sx) (fun x => [.ref 0, .int x.1, .int x.2.1, .long x.2.2.1]) (fun x => wM x.2.2.2.2) (fun x => x.2.2.2.1 ≤ 100 ∧ x.2.2.2.2.1 0 = nI x.2.2.2.1) (fun x v w => (¬ (inr_ x.1 x.2.2.2.1 ∧ inr_ x.2.1 3) ∧ ansM v w (-2) (xi x.2.2.2.2 4 0)) ∨ ((inr_ x.1 x.2.2.2.1 ∧ inr_ x.2.1 3) ∧ ansM v w 1 (xl (xi x.2.2.2.2 4 0) 4 (vp_updL (x.2.2.2.2.2.2.2 4) (tn x.1 * 3 + tn x.2.1) x.2.2.1))))
def rm_X7_column : Room := { frames := 2, cells := 0, slots := 0, locals := 43 }
def t_X7_column : en_T := ((5, 0, 0), tb_X7_column, fl_X7, cn_X7, [(75, 2, 9, 0, 0, f_X7_isRow), (70, 3, 0, 0, 0, f_X7_in)], [], 0, some .int)
set_option maxRecDepth 100000 in
theorem tB_X7_column (D : va_G) (dT : Nat → Nat) (l : Launch) : en_TB en_WD D vwCl dT l rm_X7_column t_X7_column RX7 "column" cX7_column := ⟨tk_X7_column, fun s args meth h hn => ⟨fo_X7 h args meth, co_X7 h args, List.forall_mem_cons.mpr ⟨mk_X7_isRow (own := RX7) h (Nat.le_of_ble_eq_true rfl) (Nat.le_of_ble_eq_true rfl) (Or.inl (en_wd h 836 (by decide +kernel) rfl args)), List.forall_mem_cons.mpr ⟨mk_X7_in (own := RX7) h (Nat.le_of_ble_eq_true rfl) (Nat.le_of_ble_eq_true rfl) (Or.inl (en_wd h 828 (by decide +kernel) rfl args)), fun _ h => absurd h List.not_mem_nil⟩⟩, fun _ h => absurd h List.not_mem_nil, Or.inl rfl, en_arr h args⟩⟩
set_option maxHeartbeats 4000000 in
set_option maxRecDepth 100000 in
theorem bd_X7_column : en_B (σ := Int32 × Int32 × Int64 × Nat × Sx) t_X7_column (fun x => [.ref 0, .int x.1, .int x.2.1, .long x.2.2.1]) (fun x => wM x.2.2.2.2) (fun x => x.2.2.2.1 ≤ 100 ∧ x.2.2.2.2.1 0 = nI x.2.2.2.1) (fun x v w => (¬ (inr_ x.1 x.2.2.2.1 ∧ inr_ x.2.1 3) ∧ ansM v w (-2) (xi x.2.2.2.2 4 0)) ∨ ((inr_ x.1 x.2.2.2.1 ∧ inr_ x.2.1 3) ∧ ansM v w 1 (xl (xi x.2.2.2.2 4 0) 4 (vp_updL (x.2.2.2.2.2.2.2 4) (tn x.1 * 3 + tn x.2.1) x.2.2.1)))) := by
  rintro ⟨r, c, y, n, S⟩ ⟨hn, h1⟩ G hG OK ⟨run, sub⟩
  dsimp only at hn h1 hG ⊢
  refine run [] 60 _ _ _ _ _ _ ?_
  conv => whnf
  refine ⟨(r, n, xi S 4 0), rfl, rfl, ⟨hn, h1⟩, ?_⟩
  rintro _ _ ⟨rfl, rfl⟩
  conv => whnf
  refine bl_br (fun c1 => ?_) (fun c1 => ?_)
  · conv => whnf
    exact hG _ _ (Or.inl ⟨fun z => c1 z.1, rfl, rfl⟩)
  have c1 : inr_ r n := c1
  conv => whnf
  refine ⟨(c, 0, 2, wM (xi S 4 0)), rfl, rfl, trivial, ?_⟩
  rintro _ _ ⟨rfl, rfl⟩
  conv => whnf
  refine bl_br2 (fun c2 => ?_) (fun c2 => ?_)
  rotate_left
  · conv => whnf
    exact hG _ _ (Or.inl ⟨fun z => c2 ⟨z.2.1, (le_lt (b := 2) (by decide)).mpr z.2.2⟩, rfl, rfl⟩)
  have c2 : inr_ c 3 := ⟨c2.1, (le_lt (b := 2) (by decide)).mp c2.2⟩
  obtain ⟨i, hi, rfl⟩ := in_of (by omega) c1
  obtain ⟨j, hj, rfl⟩ := in_of (by decide) c2
  conv => whnf
  rw [mul3']
  refine ⟨vp_in_nI (by omega) (by decide), ?_⟩
  rw [nI_clamp (by omega)]
  conv => whnf
  refine hG _ _ (Or.inr ⟨⟨c1, c2⟩, rfl, ?_⟩)
  rw [show tn (nI i) = i from nI_clamp (by omega), show tn (nI j) = j from nI_clamp (by omega)]
  rfl
theorem ct_X7_column (D : va_G) (dT : Nat → Nat) (l : Launch) : en_CT en_WD D vwCl dT l yX7_column cX7_column 5 (some .int) rm_X7_column f_X7_column := en_met en_WD1 en_WD2 (by decide) rfl rfl (tB_X7_column D dT l) (en_f_ln (fun _ => Nat.le_of_ble_eq_true rfl)) (en_f_bd bd_X7_column)
set_option maxRecDepth 100000 in
theorem mk_X7_column {D : va_G} {dT : Nat → Nat} {l : Launch} {R : Room} {s : State} {args : Array Value} {own : String} {idx : Nat} (h : en_WD s) (h1 : rm_X7_column.frames + 1 ≤ R.frames) (h2 : 8 + (5 + 11) + rm_X7_column.locals ≤ R.locals) (hl : (Jvm.Cond.methodLink own idx yX7_column).before args s = true ∨ ∃ host, (Jvm.Cond.methodLinkNest own idx yX7_column host).before args s = true) : en_mok en_WD D vwCl dT l R s args own (idx, 4, 9, 0, 0, f_X7_column) :=
  ⟨yX7_column, cX7_column, 5, some .int, rm_X7_column, 3, ct_X7_column D dT l, rfl, rfl, h1, h2, en_wd h 835 rfl rfl args, en_wd h 66 (by decide +kernel) rfl args, by decide, by decide, hl, ⟨RX7, TX7, 24, rfl, en_wd h 833 (by decide +kernel) rfl args, en_wd h 834 (by decide +kernel) rfl args, rfl⟩⟩
/-- the loop over 64 bits -/
def bcn (x : Int64) : Nat → Int32
  | 0 => 0
  | k + 1 => bcn x k + (if (x.toUInt64 >>> ((nI k).toInt64.toUInt64 &&& Int64.toUInt64 63)).toInt64 &&& 1 = 1 then 1 else 0)
def f_X7_bits := en_f (σ := Int64 × List va_E) (fun x => [.long x.1]) (fun x => x.2) (fun _ => True) (fun x v w => v = some (.int (bcn x.1 64)) ∧ w = x.2)
def rm_X7_bits : Room := { frames := 0, cells := 0, slots := 0, locals := 0 }
def t_X7_bits : en_T := ((4, 0, 0), tb_X7_bits, fl_X7, cn_X7, [], [], 0, some .int)
set_option maxRecDepth 100000 in
theorem tB_X7_bits (D : va_G) (dT : Nat → Nat) (l : Launch) : en_TB en_WD D vwCl dT l rm_X7_bits t_X7_bits RX7 "bits" cX7_bits := ⟨tk_X7_bits, fun s args meth h hn => ⟨fo_X7 h args meth, co_X7 h args, fun _ h => absurd h List.not_mem_nil, fun _ h => absurd h List.not_mem_nil, Or.inl rfl, en_arr h args⟩⟩
set_option maxHeartbeats 4000000 in
set_option maxRecDepth 100000 in
theorem bd_X7_bits : en_B (σ := Int64 × List va_E) t_X7_bits (fun x => [.long x.1]) (fun x => x.2) (fun _ => True) (fun x v w => v = some (.int (bcn x.1 64)) ∧ w = x.2) := by
  rintro ⟨x, ws⟩ - G hG OK ⟨run, sub⟩
  dsimp only at hG ⊢
  generalize hB : bcn x 64 = B at hG
  have loop := lp_up (fun i => OK 0 0 4 [(0, .long x), (2, .int (bcn x i)), (3, .int (nI i))] [] ws) 64
    (by
      rw [hB]
      refine run [4] 60 _ _ _ _ _ _ ?_
      conv => whnf
      refine pk_le 64 64 (fun h => ?_) (fun h => absurd h (by omega))
      conv => whnf
      exact hG _ _ ⟨rfl, rfl⟩)
    (fun i hi ih => by
      rw [nI_succ] at ih
      simp only [bcn] at ih
      generalize bcn x i = Y at ih ⊢
      refine run [4] 60 _ _ _ _ _ _ ?_
      conv => whnf
      refine pk_le 64 i (fun h => absurd h (by omega)) (fun h => ?_)
      conv => whnf
      refine lc_br2 (fun hc => ?_) (fun hc => ?_)
      · have hc : ¬ (x.toUInt64 >>> ((nI i).toInt64.toUInt64 &&& Int64.toUInt64 63)).toInt64 &&& 1 = 1 := hc
        rw [if_neg hc] at ih
        conv => whnf
        exact ih
      · have hc : (x.toUInt64 >>> ((nI i).toInt64.toUInt64 &&& Int64.toUInt64 63)).toInt64 &&& 1 = 1 := hc
        rw [if_pos hc] at ih
        conv => whnf
        exact ih)
  refine run [4] 60 _ _ _ _ _ _ ?_
  conv => whnf
  exact loop 0 (by omega)
theorem ct_X7_bits (D : va_G) (dT : Nat → Nat) (l : Launch) : en_CT en_WD D vwCl dT l yX7_bits cX7_bits 4 (some .int) rm_X7_bits f_X7_bits := en_met en_WD1 en_WD2 (by decide) rfl rfl (tB_X7_bits D dT l) (en_f_ln (fun _ => Nat.le_of_ble_eq_true rfl)) (en_f_bd bd_X7_bits)
set_option maxRecDepth 100000 in
theorem mk_X7_bits {D : va_G} {dT : Nat → Nat} {l : Launch} {R : Room} {s : State} {args : Array Value} {own : String} {idx : Nat} (h : en_WD s) (h1 : rm_X7_bits.frames + 1 ≤ R.frames) (h2 : 8 + (4 + 11) + rm_X7_bits.locals ≤ R.locals) (hl : (Jvm.Cond.methodLink own idx yX7_bits).before args s = true ∨ ∃ host, (Jvm.Cond.methodLinkNest own idx yX7_bits host).before args s = true) : en_mok en_WD D vwCl dT l R s args own (idx, 1, 0, 0, 0, f_X7_bits) :=
  ⟨yX7_bits, cX7_bits, 4, some .int, rm_X7_bits, 1, ct_X7_bits D dT l, rfl, rfl, h1, h2, en_wd h 847 rfl rfl args, en_wd h 66 (by decide +kernel) rfl args, by decide, by decide, hl, ⟨en_wd h 846 (by decide +kernel) rfl args, rfl⟩⟩
end
section
/-! the reference: word, near, base, fit, of, many -/
def f_X7_word := en_f (σ := Int32 × Int32 × Int32 × Nat × Sx) (fun x => [.ref 0, .int x.1, .int x.2.1, .int x.2.2.1]) (fun x => wM x.2.2.2.2) (fun x => x.2.2.2.1 ≤ 100 ∧ x.2.2.2.2.1 0 = nI x.2.2.2.1) (fun x v w => (¬ (inr_ x.1 x.2.2.2.1 ∧ inr_ x.2.1 64) ∧ ansM v w (-2) (xi x.2.2.2.2 4 0)) ∨ ((inr_ x.1 x.2.2.2.1 ∧ inr_ x.2.1 64) ∧ ansM v w (bcn (nwd (x.2.2.2.2.2.2.2 5 (tn x.1)) x.2.1 x.2.2.1) 64) (xl (xi x.2.2.2.2 4 0) 5 (vp_updL (x.2.2.2.2.2.2.2 5) (tn x.1) (nwd (x.2.2.2.2.2.2.2 5 (tn x.1)) x.2.1 x.2.2.1)))))
def rm_X7_word : Room := { frames := 2, cells := 0, slots := 0, locals := 43 }
def t_X7_word : en_T := ((6, 0, 0), tb_X7_word, fl_X7, cn_X7, [(75, 2, 9, 0, 0, f_X7_isRow), (70, 3, 0, 0, 0, f_X7_in), (81, 1, 0, 0, 0, f_X7_bits)], [], 0, some .int)
set_option maxRecDepth 100000 in
theorem tB_X7_word (D : va_G) (dT : Nat → Nat) (l : Launch) : en_TB en_WD D vwCl dT l rm_X7_word t_X7_word RX7 "word" cX7_word := ⟨tk_X7_word, fun s args meth h hn => ⟨fo_X7 h args meth, co_X7 h args, List.forall_mem_cons.mpr ⟨mk_X7_isRow (own := RX7) h (Nat.le_of_ble_eq_true rfl) (Nat.le_of_ble_eq_true rfl) (Or.inl (en_wd h 836 (by decide +kernel) rfl args)), List.forall_mem_cons.mpr ⟨mk_X7_in (own := RX7) h (Nat.le_of_ble_eq_true rfl) (Nat.le_of_ble_eq_true rfl) (Or.inl (en_wd h 828 (by decide +kernel) rfl args)), List.forall_mem_cons.mpr ⟨mk_X7_bits (own := RX7) h (Nat.le_of_ble_eq_true rfl) (Nat.le_of_ble_eq_true rfl) (Or.inl (en_wd h 845 (by decide +kernel) rfl args)), fun _ h => absurd h List.not_mem_nil⟩⟩⟩, fun _ h => absurd h List.not_mem_nil, Or.inl rfl, en_arr h args⟩⟩
set_option maxHeartbeats 4000000 in
set_option maxRecDepth 100000 in
theorem bd_X7_word : en_B (σ := Int32 × Int32 × Int32 × Nat × Sx) t_X7_word (fun x => [.ref 0, .int x.1, .int x.2.1, .int x.2.2.1]) (fun x => wM x.2.2.2.2) (fun x => x.2.2.2.1 ≤ 100 ∧ x.2.2.2.2.1 0 = nI x.2.2.2.1) (fun x v w => (¬ (inr_ x.1 x.2.2.2.1 ∧ inr_ x.2.1 64) ∧ ansM v w (-2) (xi x.2.2.2.2 4 0)) ∨ ((inr_ x.1 x.2.2.2.1 ∧ inr_ x.2.1 64) ∧ ansM v w (bcn (nwd (x.2.2.2.2.2.2.2 5 (tn x.1)) x.2.1 x.2.2.1) 64) (xl (xi x.2.2.2.2 4 0) 5 (vp_updL (x.2.2.2.2.2.2.2 5) (tn x.1) (nwd (x.2.2.2.2.2.2.2 5 (tn x.1)) x.2.1 x.2.2.1))))) := by
  rintro ⟨r, c, y, n, S⟩ ⟨hn, h1⟩ G hG OK ⟨run, sub⟩
  dsimp only at hn h1 hG ⊢
  refine run [] 80 _ _ _ _ _ _ ?_
  conv => whnf
  refine ⟨(r, n, xi S 4 0), rfl, rfl, ⟨hn, h1⟩, ?_⟩
  rintro _ _ ⟨rfl, rfl⟩
  conv => whnf
  refine bl_br (fun c1 => ?_) (fun c1 => ?_)
  · conv => whnf
    exact hG _ _ (Or.inl ⟨fun z => c1 z.1, rfl, rfl⟩)
  have c1 : inr_ r n := c1
  conv => whnf
  refine ⟨(c, 0, 63, wM (xi S 4 0)), rfl, rfl, trivial, ?_⟩
  rintro _ _ ⟨rfl, rfl⟩
  conv => whnf
  refine bl_br2 (fun c2 => ?_) (fun c2 => ?_)
  rotate_left
  · conv => whnf
    exact hG _ _ (Or.inl ⟨fun z => c2 ⟨z.2.1, (le_lt (b := 63) (by decide)).mpr z.2.2⟩, rfl, rfl⟩)
  have c2 : inr_ c 64 := ⟨c2.1, (le_lt (b := 63) (by decide)).mp c2.2⟩
  obtain ⟨i, hi, rfl⟩ := in_of (by omega) c1
  have hti : tn (nI i) = i := nI_clamp (by omega)
  rw [hti] at hG
  unfold nwd at hG
  conv => whnf
  refine ⟨fun hy => ?_, fun hy => ?_⟩
  · have hy : y = 0 := hy
    rw [if_pos hy] at hG
    conv => whnf
    refine ⟨vp_in_nI (by omega) (by decide), ?_⟩
    rw [nI_clamp (by omega)]
    conv => whnf
    refine ⟨vp_in_nI (by omega) (by decide), ?_⟩
    conv => whnf
    refine ⟨vp_in_nI (by omega) (by decide), ?_⟩
    rw [nI_clamp (by omega)]
    conv => whnf
    refine ⟨(vp_updL (S.2.2.2 5) i (S.2.2.2 5 i &&& ((1 <<< (c.toInt64 &&& 63)) ^^^ (-1))) i, wM (xl (xi S 4 0) 5 (vp_updL (S.2.2.2 5) i (S.2.2.2 5 i &&& ((1 <<< (c.toInt64 &&& 63)) ^^^ (-1)))))), rfl, rfl, trivial, ?_⟩
    intro v u hvu
    obtain ⟨rfl, rfl⟩ : v = some (.int (bcn (S.2.2.2 5 i &&& ((1 <<< (c.toInt64 &&& 63)) ^^^ (-1))) 64)) ∧ u = wM (xl (xi S 4 0) 5 (vp_updL (S.2.2.2 5) i (S.2.2.2 5 i &&& ((1 <<< (c.toInt64 &&& 63)) ^^^ (-1))))) := ⟨hvu.1.trans (by show some (Value.int (bcn (vp_updL _ i _ i) 64)) = _; rw [pk_uLs]), hvu.2⟩
    generalize bcn (S.2.2.2 5 i &&& ((1 <<< (c.toInt64 &&& 63)) ^^^ (-1))) 64 = B at hG ⊢
    conv => whnf
    exact hG _ _ (Or.inr ⟨⟨c1, c2⟩, rfl, rfl⟩)
  · have hy : ¬ y = 0 := hy
    rw [if_neg hy] at hG
    conv => whnf
    refine ⟨vp_in_nI (by omega) (by decide), ?_⟩
    rw [nI_clamp (by omega)]
    conv => whnf
    refine ⟨vp_in_nI (by omega) (by decide), ?_⟩
    conv => whnf
    refine ⟨vp_in_nI (by omega) (by decide), ?_⟩
    rw [nI_clamp (by omega)]
    conv => whnf
    refine ⟨(vp_updL (S.2.2.2 5) i (S.2.2.2 5 i ||| (1 <<< (c.toInt64 &&& 63))) i, wM (xl (xi S 4 0) 5 (vp_updL (S.2.2.2 5) i (S.2.2.2 5 i ||| (1 <<< (c.toInt64 &&& 63)))))), rfl, rfl, trivial, ?_⟩
    intro v u hvu
    obtain ⟨rfl, rfl⟩ : v = some (.int (bcn (S.2.2.2 5 i ||| (1 <<< (c.toInt64 &&& 63))) 64)) ∧ u = wM (xl (xi S 4 0) 5 (vp_updL (S.2.2.2 5) i (S.2.2.2 5 i ||| (1 <<< (c.toInt64 &&& 63))))) := ⟨hvu.1.trans (by show some (Value.int (bcn (vp_updL _ i _ i) 64)) = _; rw [pk_uLs]), hvu.2⟩
    generalize bcn (S.2.2.2 5 i ||| (1 <<< (c.toInt64 &&& 63))) 64 = B at hG ⊢
    conv => whnf
    exact hG _ _ (Or.inr ⟨⟨c1, c2⟩, rfl, rfl⟩)
theorem ct_X7_word (D : va_G) (dT : Nat → Nat) (l : Launch) : en_CT en_WD D vwCl dT l yX7_word cX7_word 6 (some .int) rm_X7_word f_X7_word := en_met en_WD1 en_WD2 (by decide) rfl rfl (tB_X7_word D dT l) (en_f_ln (fun _ => Nat.le_of_ble_eq_true rfl)) (en_f_bd bd_X7_word)
set_option maxRecDepth 100000 in
theorem mk_X7_word {D : va_G} {dT : Nat → Nat} {l : Launch} {R : Room} {s : State} {args : Array Value} {own : String} {idx : Nat} (h : en_WD s) (h1 : rm_X7_word.frames + 1 ≤ R.frames) (h2 : 8 + (6 + 11) + rm_X7_word.locals ≤ R.locals) (hl : (Jvm.Cond.methodLink own idx yX7_word).before args s = true ∨ ∃ host, (Jvm.Cond.methodLinkNest own idx yX7_word host).before args s = true) : en_mok en_WD D vwCl dT l R s args own (idx, 4, 9, 0, 0, f_X7_word) :=
  ⟨yX7_word, cX7_word, 6, some .int, rm_X7_word, 3, ct_X7_word D dT l, rfl, rfl, h1, h2, en_wd h 843 rfl rfl args, en_wd h 66 (by decide +kernel) rfl args, by decide, by decide, hl, ⟨RX7, TX7, 24, rfl, en_wd h 841 (by decide +kernel) rfl args, en_wd h 842 (by decide +kernel) rfl args, rfl⟩⟩
def f_X7_near := en_f (σ := Int32 × Sx) (fun x => [.ref 0, .int x.1]) (fun x => wM x.2) (fun _ => True) (fun x v w => (¬ (1 ≤ x.1 ∧ x.1 ≤ 100) ∧ ansM v w (-2) (xi x.2 4 0)) ∨ ((1 ≤ x.1 ∧ x.1 ≤ 100) ∧ ansM v w (x.2.1 3) (xi (xi x.2 4 0) 3 x.1)))
def rm_X7_near : Room := { frames := 1, cells := 0, slots := 0, locals := 22 }
def t_X7_near : en_T := ((3, 0, 0), tb_X7_near, fl_X7, cn_X7, [(70, 3, 0, 0, 0, f_X7_in)], [], 0, some .int)
set_option maxRecDepth 100000 in
theorem tB_X7_near (D : va_G) (dT : Nat → Nat) (l : Launch) : en_TB en_WD D vwCl dT l rm_X7_near t_X7_near RX7 "near" cX7_near := ⟨tk_X7_near, fun s args meth h hn => ⟨fo_X7 h args meth, co_X7 h args, List.forall_mem_cons.mpr ⟨mk_X7_in (own := RX7) h (Nat.le_of_ble_eq_true rfl) (Nat.le_of_ble_eq_true rfl) (Or.inl (en_wd h 828 (by decide +kernel) rfl args)), fun _ h => absurd h List.not_mem_nil⟩, fun _ h => absurd h List.not_mem_nil, Or.inl rfl, en_arr h args⟩⟩
set_option maxHeartbeats 4000000 in
set_option maxRecDepth 100000 in
theorem bd_X7_near : en_B (σ := Int32 × Sx) t_X7_near (fun x => [.ref 0, .int x.1]) (fun x => wM x.2) (fun _ => True) (fun x v w => (¬ (1 ≤ x.1 ∧ x.1 ≤ 100) ∧ ansM v w (-2) (xi x.2 4 0)) ∨ ((1 ≤ x.1 ∧ x.1 ≤ 100) ∧ ansM v w (x.2.1 3) (xi (xi x.2 4 0) 3 x.1))) := by
  rintro ⟨p, S⟩ - G hG OK ⟨run, sub⟩
  dsimp only at hG ⊢
  refine run [] 60 _ _ _ _ _ _ ?_
  conv => whnf
  refine ⟨(p, 1, 100, wM (xi S 4 0)), rfl, rfl, trivial, ?_⟩
  rintro _ _ ⟨rfl, rfl⟩
  conv => whnf
  refine bl_br2 (fun c1 => ?_) (fun c1 => ?_)
  · conv => whnf
    exact hG _ _ (Or.inr ⟨c1, rfl, rfl⟩)
  · conv => whnf
    exact hG _ _ (Or.inl ⟨c1, rfl, rfl⟩)
theorem ct_X7_near (D : va_G) (dT : Nat → Nat) (l : Launch) : en_CT en_WD D vwCl dT l yX7_near cX7_near 3 (some .int) rm_X7_near f_X7_near := en_met en_WD1 en_WD2 (by decide) rfl rfl (tB_X7_near D dT l) (en_f_ln (fun _ => Nat.le_of_ble_eq_true rfl)) (en_f_bd bd_X7_near)
set_option maxRecDepth 100000 in
theorem mk_X7_near {D : va_G} {dT : Nat → Nat} {l : Launch} {R : Room} {s : State} {args : Array Value} {own : String} {idx : Nat} (h : en_WD s) (h1 : rm_X7_near.frames + 1 ≤ R.frames) (h2 : 8 + (3 + 11) + rm_X7_near.locals ≤ R.locals) (hl : (Jvm.Cond.methodLink own idx yX7_near).before args s = true ∨ ∃ host, (Jvm.Cond.methodLinkNest own idx yX7_near host).before args s = true) : en_mok en_WD D vwCl dT l R s args own (idx, 2, 9, 0, 0, f_X7_near) :=
  ⟨yX7_near, cX7_near, 3, some .int, rm_X7_near, 1, ct_X7_near D dT l, rfl, rfl, h1, h2, en_wd h 938 rfl rfl args, en_wd h 66 (by decide +kernel) rfl args, by decide, by decide, hl, ⟨RX7, TX7, 24, rfl, en_wd h 936 (by decide +kernel) rfl args, en_wd h 937 (by decide +kernel) rfl args, rfl⟩⟩
theorem by_eq {b s : Int32} (hs : 0 ≤ s ∧ s < 8) : (-1 ≤ b ∧ b ≤ s - 1) ↔ (b = -1 ∨ (0 ≤ b ∧ b < s)) := by
  obtain ⟨i, hi, rfl⟩ := in_of (b := 8) (by decide) hs
  rw [le_pr (by omega)]
  constructor
  · rintro ⟨h1, h2⟩
    by_cases h0 : 0 ≤ b
    · exact Or.inr ⟨h0, h2⟩
    · left
      apply Int32.toInt_inj.mp
      rw [Int32.le_iff_toInt_le] at h1 h0
      have e1 : (-1 : Int32).toInt = -1 := by decide
      have e0 : (0 : Int32).toInt = 0 := by decide
      omega
  · rintro (rfl | ⟨h1, h2⟩)
    · refine ⟨Int32.le_refl _, ?_⟩
      rw [Int32.lt_iff_toInt_lt, nI_toInt (by omega)]
      have e1 : (-1 : Int32).toInt = -1 := by decide
      omega
    · exact ⟨Int32.le_trans (by decide) h1, h2⟩
def f_X7_base := en_f (σ := Int32 × Int32 × Sx) (fun x => [.ref 0, .int x.1, .int x.2.1]) (fun x => wM x.2.2) (fun _ => True) (fun x v w => (¬ basq x.1 x.2.1 ∧ ansM v w (-2) (xi x.2.2 4 0)) ∨ (basq x.1 x.2.1 ∧ ansM v w (x.2.2.2.2.1 9 (tn x.1)) (xa (xi x.2.2 4 0) 9 (upd (x.2.2.2.2.1 9) (tn x.1) x.2.1))))
def rm_X7_base : Room := { frames := 1, cells := 0, slots := 0, locals := 22 }
def t_X7_base : en_T := ((4, 0, 0), tb_X7_base, fl_X7, cn_X7, [(70, 3, 0, 0, 0, f_X7_in)], [], 0, some .int)
set_option maxRecDepth 100000 in
theorem tB_X7_base (D : va_G) (dT : Nat → Nat) (l : Launch) : en_TB en_WD D vwCl dT l rm_X7_base t_X7_base RX7 "base" cX7_base := ⟨tk_X7_base, fun s args meth h hn => ⟨fo_X7 h args meth, co_X7 h args, List.forall_mem_cons.mpr ⟨mk_X7_in (own := RX7) h (Nat.le_of_ble_eq_true rfl) (Nat.le_of_ble_eq_true rfl) (Or.inl (en_wd h 828 (by decide +kernel) rfl args)), fun _ h => absurd h List.not_mem_nil⟩, fun _ h => absurd h List.not_mem_nil, Or.inl rfl, en_arr h args⟩⟩
set_option maxHeartbeats 4000000 in
set_option maxRecDepth 100000 in
theorem bd_X7_base : en_B (σ := Int32 × Int32 × Sx) t_X7_base (fun x => [.ref 0, .int x.1, .int x.2.1]) (fun x => wM x.2.2) (fun _ => True) (fun x v w => (¬ basq x.1 x.2.1 ∧ ansM v w (-2) (xi x.2.2 4 0)) ∨ (basq x.1 x.2.1 ∧ ansM v w (x.2.2.2.2.1 9 (tn x.1)) (xa (xi x.2.2 4 0) 9 (upd (x.2.2.2.2.1 9) (tn x.1) x.2.1)))) := by
  rintro ⟨s, b, S⟩ - G hG OK ⟨run, sub⟩
  dsimp only at hG ⊢
  refine run [] 60 _ _ _ _ _ _ ?_
  conv => whnf
  refine ⟨(s, 0, 7, wM (xi S 4 0)), rfl, rfl, trivial, ?_⟩
  rintro _ _ ⟨rfl, rfl⟩
  conv => whnf
  refine bl_br (fun c1 => ?_) (fun c1 => ?_)
  · conv => whnf
    exact hG _ _ (Or.inl ⟨fun z => c1 ⟨z.1.1, (le_lt (b := 7) (by decide)).mpr z.1.2⟩, rfl, rfl⟩)
  have c1 : 0 ≤ s ∧ s < 8 := ⟨c1.1, (le_lt (b := 7) (by decide)).mp c1.2⟩
  conv => whnf
  refine ⟨(b, -1, s - 1, wM (xi S 4 0)), rfl, rfl, trivial, ?_⟩
  rintro _ _ ⟨rfl, rfl⟩
  conv => whnf
  refine bl_br2 (fun c2 => ?_) (fun c2 => ?_)
  rotate_left
  · conv => whnf
    exact hG _ _ (Or.inl ⟨fun z => c2 ((by_eq c1).mpr z.2), rfl, rfl⟩)
  have c2 := (by_eq c1).mp c2
  obtain ⟨i, hi, rfl⟩ := in_of (b := 8) (by decide) c1
  rw [show tn (nI i) = i from nI_clamp (by omega)] at hG
  conv => whnf
  refine ⟨vp_in_nI (by omega) (by decide), ?_⟩
  rw [nI_clamp (by omega)]
  conv => whnf
  refine ⟨vp_in_nI (by omega) (by decide), ?_⟩
  rw [nI_clamp (by omega)]
  conv => whnf
  exact hG _ _ (Or.inr ⟨⟨c1, c2⟩, rfl, rfl⟩)
theorem ct_X7_base (D : va_G) (dT : Nat → Nat) (l : Launch) : en_CT en_WD D vwCl dT l yX7_base cX7_base 4 (some .int) rm_X7_base f_X7_base := en_met en_WD1 en_WD2 (by decide) rfl rfl (tB_X7_base D dT l) (en_f_ln (fun _ => Nat.le_of_ble_eq_true rfl)) (en_f_bd bd_X7_base)
set_option maxRecDepth 100000 in
theorem mk_X7_base {D : va_G} {dT : Nat → Nat} {l : Launch} {R : Room} {s : State} {args : Array Value} {own : String} {idx : Nat} (h : en_WD s) (h1 : rm_X7_base.frames + 1 ≤ R.frames) (h2 : 8 + (4 + 11) + rm_X7_base.locals ≤ R.locals) (hl : (Jvm.Cond.methodLink own idx yX7_base).before args s = true ∨ ∃ host, (Jvm.Cond.methodLinkNest own idx yX7_base host).before args s = true) : en_mok en_WD D vwCl dT l R s args own (idx, 3, 9, 0, 0, f_X7_base) :=
  ⟨yX7_base, cX7_base, 4, some .int, rm_X7_base, 2, ct_X7_base D dT l, rfl, rfl, h1, h2, en_wd h 946 rfl rfl args, en_wd h 66 (by decide +kernel) rfl args, by decide, by decide, hl, ⟨RX7, TX7, 24, rfl, en_wd h 944 (by decide +kernel) rfl args, en_wd h 945 (by decide +kernel) rfl args, rfl⟩⟩
theorem mul100' (a c : Nat) : (Int8.ofInt 100).toInt32 * nI a + nI c = nI (a * 100 + c) := by rw [Int32.mul_comm, mul100]
def f_X7_fit := en_f (σ := Int32 × Int32 × Nat × Sx) (fun x => [.ref 0, .int x.1, .int x.2.1]) (fun x => wM x.2.2.2) (fun x => x.2.2.1 ≤ 100 ∧ x.2.2.2.1 0 = nI x.2.2.1) (fun x v w => (¬ fitq x.1 x.2.1 x.2.2.1 ∧ ansM v w (-2) (xi x.2.2.2 4 0)) ∨ (fitq x.1 x.2.1 x.2.2.1 ∧ ¬ x.2.2.2.2.2.1 8 (tn x.1 * 100 + tn x.2.1) = 0 ∧ ansM v w (-4) (xi x.2.2.2 4 0)) ∨ (fitq x.1 x.2.1 x.2.2.1 ∧ x.2.2.2.2.2.1 8 (tn x.1 * 100 + tn x.2.1) = 0 ∧ ansM v w (nI (ct (fun r => upd (x.2.2.2.2.2.1 8) (tn x.1 * 100 + tn x.2.1) 1 (tn x.1 * 100 + r) ≠ 0) 100)) (xa (xi x.2.2.2 4 0) 8 (upd (x.2.2.2.2.2.1 8) (tn x.1 * 100 + tn x.2.1) 1))))
def rm_X7_fit : Room := { frames := 2, cells := 0, slots := 0, locals := 43 }
def t_X7_fit : en_T := ((5, 0, 0), tb_X7_fit, fl_X7, cn_X7, [(70, 3, 0, 0, 0, f_X7_in), (75, 2, 9, 0, 0, f_X7_isRow)], [], 0, some .int)
set_option maxRecDepth 100000 in
theorem tB_X7_fit (D : va_G) (dT : Nat → Nat) (l : Launch) : en_TB en_WD D vwCl dT l rm_X7_fit t_X7_fit RX7 "fit" cX7_fit := ⟨tk_X7_fit, fun s args meth h hn => ⟨fo_X7 h args meth, co_X7 h args, List.forall_mem_cons.mpr ⟨mk_X7_in (own := RX7) h (Nat.le_of_ble_eq_true rfl) (Nat.le_of_ble_eq_true rfl) (Or.inl (en_wd h 828 (by decide +kernel) rfl args)), List.forall_mem_cons.mpr ⟨mk_X7_isRow (own := RX7) h (Nat.le_of_ble_eq_true rfl) (Nat.le_of_ble_eq_true rfl) (Or.inl (en_wd h 836 (by decide +kernel) rfl args)), fun _ h => absurd h List.not_mem_nil⟩⟩, fun _ h => absurd h List.not_mem_nil, Or.inl rfl, en_arr h args⟩⟩
set_option maxHeartbeats 4000000 in
set_option maxRecDepth 100000 in
theorem bd_X7_fit : en_B (σ := Int32 × Int32 × Nat × Sx) t_X7_fit (fun x => [.ref 0, .int x.1, .int x.2.1]) (fun x => wM x.2.2.2) (fun x => x.2.2.1 ≤ 100 ∧ x.2.2.2.1 0 = nI x.2.2.1) (fun x v w => (¬ fitq x.1 x.2.1 x.2.2.1 ∧ ansM v w (-2) (xi x.2.2.2 4 0)) ∨ (fitq x.1 x.2.1 x.2.2.1 ∧ ¬ x.2.2.2.2.2.1 8 (tn x.1 * 100 + tn x.2.1) = 0 ∧ ansM v w (-4) (xi x.2.2.2 4 0)) ∨ (fitq x.1 x.2.1 x.2.2.1 ∧ x.2.2.2.2.2.1 8 (tn x.1 * 100 + tn x.2.1) = 0 ∧ ansM v w (nI (ct (fun r => upd (x.2.2.2.2.2.1 8) (tn x.1 * 100 + tn x.2.1) 1 (tn x.1 * 100 + r) ≠ 0) 100)) (xa (xi x.2.2.2 4 0) 8 (upd (x.2.2.2.2.2.1 8) (tn x.1 * 100 + tn x.2.1) 1)))) := by
  rintro ⟨s, r, n, S⟩ ⟨hn, h1⟩ G hG OK ⟨run, sub⟩
  dsimp only at hn h1 hG ⊢
  refine run [60] 60 _ _ _ _ _ _ ?_
  conv => whnf
  refine ⟨(s, 0, 7, wM (xi S 4 0)), rfl, rfl, trivial, ?_⟩
  rintro _ _ ⟨rfl, rfl⟩
  conv => whnf
  refine bl_br (fun c1 => ?_) (fun c1 => ?_)
  · conv => whnf
    exact hG _ _ (Or.inl ⟨fun z => c1 ⟨z.1.1, (le_lt (b := 7) (by decide)).mpr z.1.2⟩, rfl, rfl⟩)
  have c1 : 0 ≤ s ∧ s < 8 := ⟨c1.1, (le_lt (b := 7) (by decide)).mp c1.2⟩
  conv => whnf
  refine ⟨(r, n, xi S 4 0), rfl, rfl, ⟨hn, h1⟩, ?_⟩
  rintro _ _ ⟨rfl, rfl⟩
  conv => whnf
  refine bl_br2 (fun c2 => ?_) (fun c2 => ?_)
  rotate_left
  · conv => whnf
    exact hG _ _ (Or.inl ⟨fun z => c2 z.2, rfl, rfl⟩)
  have c2 : inr_ r n := c2
  obtain ⟨i, hi, rfl⟩ := in_of (b := 8) (by decide) c1
  obtain ⟨j, hj, rfl⟩ := in_of (by omega) c2
  rw [show tn (nI i) = i from nI_clamp (by omega), show tn (nI j) = j from nI_clamp (by omega)] at hG
  conv => whnf
  rw [mul100']
  refine ⟨vp_in_nI (by omega) (by decide), ?_⟩
  rw [nI_clamp (by omega)]
  conv => whnf
  refine ⟨fun c3 => ?_, fun c3 => ?_⟩
  rotate_left
  · conv => whnf
    exact hG _ _ (Or.inr (Or.inl ⟨⟨c1, c2⟩, c3, rfl, rfl⟩))
  conv => whnf
  rw [mul100']
  refine ⟨vp_in_nI (by omega) (by decide), ?_⟩
  rw [nI_clamp (by omega)]
  conv => whnf
  generalize hF : upd (S.2.2.1 8) (i * 100 + j) 1 = F at hG
  have loop := lp_up (fun q => OK 0 0 60 [(0, .ref 0), (1, .int (nI i)), (3, .int (nI (ct (fun r => F (i * 100 + r) ≠ 0) q))), (4, .int (nI q))] [] (wM (xa (xi S 4 0) 8 F))) 100
    (by
      refine run [60] 60 _ _ _ _ _ _ ?_
      conv => whnf
      refine pk_le 100 100 (fun h => ?_) (fun h => absurd h (by omega))
      conv => whnf
      exact hG _ _ (Or.inr (Or.inr ⟨⟨c1, c2⟩, c3, rfl, rfl⟩)))
    (fun q hq ih => by
      rw [nI_succ] at ih
      refine run [60] 60 _ _ _ _ _ _ ?_
      conv => whnf
      refine pk_le 100 q (fun h => absurd h (by omega)) (fun h => ?_)
      conv => whnf
      rw [mul100']
      refine ⟨vp_in_nI (by omega) (by decide), ?_⟩
      rw [nI_clamp (by omega)]
      conv => whnf
      refine ⟨fun hc => ?_, fun hc => ?_⟩
      · have hc : F (i * 100 + q) = 0 := hc
        rw [ct_f (p := fun r => F (i * 100 + r) ≠ 0) (fun z => z hc)] at ih
        conv => whnf
        have e : nI (ct (fun r => F (i * 100 + r) ≠ 0) q) = nI (ct (fun r => F (i * 100 + r) ≠ 0) q) + 0 := (Int32.add_zero _).symm
        rw [e] at ih
        exact ih
      · have hc : ¬ F (i * 100 + q) = 0 := hc
        rw [ct_t (p := fun r => F (i * 100 + r) ≠ 0) hc, nI_succ] at ih
        conv => whnf
        exact ih)
  have h0 := loop 0 (by omega)
  rw [← hF] at h0
  exact sub [0, 1, 3, 4] _ _ _ _ _ _ _ rfl h0
theorem ct_X7_fit (D : va_G) (dT : Nat → Nat) (l : Launch) : en_CT en_WD D vwCl dT l yX7_fit cX7_fit 5 (some .int) rm_X7_fit f_X7_fit := en_met en_WD1 en_WD2 (by decide) rfl rfl (tB_X7_fit D dT l) (en_f_ln (fun _ => Nat.le_of_ble_eq_true rfl)) (en_f_bd bd_X7_fit)
set_option maxRecDepth 100000 in
theorem mk_X7_fit {D : va_G} {dT : Nat → Nat} {l : Launch} {R : Room} {s : State} {args : Array Value} {own : String} {idx : Nat} (h : en_WD s) (h1 : rm_X7_fit.frames + 1 ≤ R.frames) (h2 : 8 + (5 + 11) + rm_X7_fit.locals ≤ R.locals) (hl : (Jvm.Cond.methodLink own idx yX7_fit).before args s = true ∨ ∃ host, (Jvm.Cond.methodLinkNest own idx yX7_fit host).before args s = true) : en_mok en_WD D vwCl dT l R s args own (idx, 3, 9, 0, 0, f_X7_fit) :=
  ⟨yX7_fit, cX7_fit, 5, some .int, rm_X7_fit, 2, ct_X7_fit D dT l, rfl, rfl, h1, h2, en_wd h 942 rfl rfl args, en_wd h 66 (by decide +kernel) rfl args, by decide, by decide, hl, ⟨RX7, TX7, 24, rfl, en_wd h 940 (by decide +kernel) rfl args, en_wd h 941 (by decide +kernel) rfl args, rfl⟩⟩
def f_X7_of := en_f (σ := Int32 × Nat × Sx) (fun x => [.ref 0, .int x.1]) (fun x => wM x.2.2) (fun x => x.2.1 ≤ 100 ∧ x.2.2.1 0 = nI x.2.1) (fun x v w => ansM v w (if inr_ x.1 x.2.1 then x.2.2.2.2.1 6 (tn x.1) else -2) (xi x.2.2 4 0))
def rm_X7_of : Room := { frames := 2, cells := 0, slots := 0, locals := 43 }
def t_X7_of : en_T := ((2, 0, 0), tb_X7_of, fl_X7, cn_X7, [(75, 2, 9, 0, 0, f_X7_isRow)], [], 0, some .int)
set_option maxRecDepth 100000 in
theorem tB_X7_of (D : va_G) (dT : Nat → Nat) (l : Launch) : en_TB en_WD D vwCl dT l rm_X7_of t_X7_of RX7 "of" cX7_of := ⟨tk_X7_of, fun s args meth h hn => ⟨fo_X7 h args meth, co_X7 h args, List.forall_mem_cons.mpr ⟨mk_X7_isRow (own := RX7) h (Nat.le_of_ble_eq_true rfl) (Nat.le_of_ble_eq_true rfl) (Or.inl (en_wd h 836 (by decide +kernel) rfl args)), fun _ h => absurd h List.not_mem_nil⟩, fun _ h => absurd h List.not_mem_nil, Or.inl rfl, en_arr h args⟩⟩
set_option maxHeartbeats 4000000 in
set_option maxRecDepth 100000 in
theorem bd_X7_of : en_B (σ := Int32 × Nat × Sx) t_X7_of (fun x => [.ref 0, .int x.1]) (fun x => wM x.2.2) (fun x => x.2.1 ≤ 100 ∧ x.2.2.1 0 = nI x.2.1) (fun x v w => ansM v w (if inr_ x.1 x.2.1 then x.2.2.2.2.1 6 (tn x.1) else -2) (xi x.2.2 4 0)) := by
  rintro ⟨r, n, S⟩ ⟨hn, h1⟩ G hG OK ⟨run, sub⟩
  dsimp only at hn h1 hG ⊢
  refine run [] 60 _ _ _ _ _ _ ?_
  conv => whnf
  refine ⟨(r, n, xi S 4 0), rfl, rfl, ⟨hn, h1⟩, ?_⟩
  rintro _ _ ⟨rfl, rfl⟩
  conv => whnf
  refine bl_br (fun c1 => ?_) (fun c1 => ?_)
  · have c1 : ¬ inr_ r n := c1
    conv => whnf
    exact hG _ _ ⟨by rw [if_neg c1]; rfl, rfl⟩
  · have c1 : inr_ r n := c1
    obtain ⟨i, hi, rfl⟩ := in_of (by omega) c1
    conv => whnf
    refine ⟨vp_in_nI (by omega) (by decide), ?_⟩
    conv => whnf
    exact hG _ _ ⟨by rw [if_pos c1]; rfl, rfl⟩
theorem ct_X7_of (D : va_G) (dT : Nat → Nat) (l : Launch) : en_CT en_WD D vwCl dT l yX7_of cX7_of 2 (some .int) rm_X7_of f_X7_of := en_met en_WD1 en_WD2 (by decide) rfl rfl (tB_X7_of D dT l) (en_f_ln (fun _ => Nat.le_of_ble_eq_true rfl)) (en_f_bd bd_X7_of)
set_option maxRecDepth 100000 in
theorem mk_X7_of {D : va_G} {dT : Nat → Nat} {l : Launch} {R : Room} {s : State} {args : Array Value} {own : String} {idx : Nat} (h : en_WD s) (h1 : rm_X7_of.frames + 1 ≤ R.frames) (h2 : 8 + (2 + 11) + rm_X7_of.locals ≤ R.locals) (hl : (Jvm.Cond.methodLink own idx yX7_of).before args s = true ∨ ∃ host, (Jvm.Cond.methodLinkNest own idx yX7_of host).before args s = true) : en_mok en_WD D vwCl dT l R s args own (idx, 2, 9, 0, 0, f_X7_of) :=
  ⟨yX7_of, cX7_of, 2, some .int, rm_X7_of, 1, ct_X7_of D dT l, rfl, rfl, h1, h2, en_wd h 925 rfl rfl args, en_wd h 66 (by decide +kernel) rfl args, by decide, by decide, hl, ⟨RX7, TX7, 24, rfl, en_wd h 923 (by decide +kernel) rfl args, en_wd h 924 (by decide +kernel) rfl args, rfl⟩⟩
theorem lb_eq {l : Int32} : (-1 ≤ l ∧ l ≤ 4) ↔ (l = -1 ∨ (0 ≤ l ∧ l < 5)) := by
  rw [show (4 : Int32) = nI 4 from rfl, le_lt (b := 4) (by decide)]
  constructor
  · rintro ⟨h1, h2⟩
    by_cases h0 : 0 ≤ l
    · exact Or.inr ⟨h0, h2⟩
    · left
      apply Int32.toInt_inj.mp
      rw [Int32.le_iff_toInt_le] at h1 h0
      have e1 : (-1 : Int32).toInt = -1 := by decide
      have e0 : (0 : Int32).toInt = 0 := by decide
      omega
  · rintro (rfl | ⟨h1, h2⟩)
    · exact ⟨Int32.le_refl _, by decide⟩
    · exact ⟨Int32.le_trans (by decide) h1, h2⟩
def f_X7_many := en_f (σ := Int32 × Int32 × Nat × Sx) (fun x => [.ref 0, .int x.1, .int x.2.1]) (fun x => wM x.2.2.2) (fun x => x.2.2.1 ≤ 100 ∧ x.2.2.2.1 0 = nI x.2.2.1) (fun x v w => ansM v w (if manq x.1 x.2.1 then nI (cin (x.2.2.2.2.2.1 6) (x.2.2.2.2.2.1 2) x.2.2.1 x.1 x.2.1) else -2) (xi x.2.2.2 4 0))
def rm_X7_many : Room := { frames := 1, cells := 0, slots := 0, locals := 22 }
def t_X7_many : en_T := ((5, 0, 0), tb_X7_many, fl_X7, cn_X7, [(70, 3, 0, 0, 0, f_X7_in)], [], 0, some .int)
set_option maxRecDepth 100000 in
theorem tB_X7_many (D : va_G) (dT : Nat → Nat) (l : Launch) : en_TB en_WD D vwCl dT l rm_X7_many t_X7_many RX7 "many" cX7_many := ⟨tk_X7_many, fun s args meth h hn => ⟨fo_X7 h args meth, co_X7 h args, List.forall_mem_cons.mpr ⟨mk_X7_in (own := RX7) h (Nat.le_of_ble_eq_true rfl) (Nat.le_of_ble_eq_true rfl) (Or.inl (en_wd h 828 (by decide +kernel) rfl args)), fun _ h => absurd h List.not_mem_nil⟩, fun _ h => absurd h List.not_mem_nil, Or.inl rfl, en_arr h args⟩⟩
set_option maxHeartbeats 4000000 in
set_option maxRecDepth 100000 in
theorem bd_X7_many : en_B (σ := Int32 × Int32 × Nat × Sx) t_X7_many (fun x => [.ref 0, .int x.1, .int x.2.1]) (fun x => wM x.2.2.2) (fun x => x.2.2.1 ≤ 100 ∧ x.2.2.2.1 0 = nI x.2.2.1) (fun x v w => ansM v w (if manq x.1 x.2.1 then nI (cin (x.2.2.2.2.2.1 6) (x.2.2.2.2.2.1 2) x.2.2.1 x.1 x.2.1) else -2) (xi x.2.2.2 4 0)) := by
  rintro ⟨p, l, n, S⟩ ⟨hn, h1⟩ G hG OK ⟨run, sub⟩
  dsimp only at hn h1 hG ⊢
  refine run [31] 60 _ _ _ _ _ _ ?_
  conv => whnf
  refine ⟨(p, 0, 3, wM (xi S 4 0)), rfl, rfl, trivial, ?_⟩
  rintro _ _ ⟨rfl, rfl⟩
  conv => whnf
  refine bl_br (fun c1 => ?_) (fun c1 => ?_)
  · rw [if_neg (c := manq p l) (fun z => c1 ⟨z.1.1, (le_lt (b := 3) (by decide)).mpr z.1.2⟩)] at hG
    conv => whnf
    exact hG _ _ ⟨rfl, rfl⟩
  have c1 : 0 ≤ p ∧ p < 4 := ⟨c1.1, (le_lt (b := 3) (by decide)).mp c1.2⟩
  conv => whnf
  refine ⟨(l, -1, 4, wM (xi S 4 0)), rfl, rfl, trivial, ?_⟩
  rintro _ _ ⟨rfl, rfl⟩
  conv => whnf
  refine bl_br2 (fun c2 => ?_) (fun c2 => ?_)
  rotate_left
  · rw [if_neg (c := manq p l) (fun z => c2 (lb_eq.mpr z.2))] at hG
    conv => whnf
    exact hG _ _ ⟨rfl, rfl⟩
  rw [if_pos (c := manq p l) ⟨c1, lb_eq.mp c2⟩] at hG
  have loop := lp_up (fun i => OK 0 0 31 [(0, .ref 0), (1, .int p), (2, .int l), (3, .int (nI (cin (S.2.2.1 6) (S.2.2.1 2) i p l))), (4, .int (nI i))] [] (wM (xi S 4 0))) n
    (by
      refine run [31] 60 _ _ _ _ _ _ ?_
      conv => whnf
      refine pk_le n n (fun h => ?_) (fun h => absurd h (by omega)) h1
      conv => whnf
      exact hG _ _ ⟨rfl, rfl⟩)
    (fun i hi ih => by
      rw [nI_succ] at ih
      unfold cin at ih ⊢
      have ih0 : ¬ (S.2.2.1 6 i = p ∧ (l = -1 ∨ S.2.2.1 2 i = l)) → OK 0 0 31 [(0, .ref 0), (1, .int p), (2, .int l), (3, .int (nI (ct (fun r => S.2.2.1 6 r = p ∧ (l = -1 ∨ S.2.2.1 2 r = l)) i) + 0)), (4, .int (nI i + 1))] [] (wM (xi S 4 0)) := fun h => by
        rw [ct_f h] at ih; rw [Int32.add_zero]; exact ih
      have ih1 : (S.2.2.1 6 i = p ∧ (l = -1 ∨ S.2.2.1 2 i = l)) → OK 0 0 31 [(0, .ref 0), (1, .int p), (2, .int l), (3, .int (nI (ct (fun r => S.2.2.1 6 r = p ∧ (l = -1 ∨ S.2.2.1 2 r = l)) i) + 1)), (4, .int (nI i + 1))] [] (wM (xi S 4 0)) := fun h => by
        rw [ct_t h, nI_succ] at ih; exact ih
      refine run [31] 60 _ _ _ _ _ _ ?_
      conv => whnf
      refine pk_le n i (fun h => absurd h (by omega)) (fun h => ?_) h1
      conv => whnf
      refine ⟨vp_in_nI (by omega) (by decide), ?_⟩
      rw [nI_clamp (by omega)]
      conv => whnf
      refine ⟨fun hp => ?_, fun hp => ?_⟩
      · conv => whnf
        exact ih0 (fun z => hp z.1)
      · conv => whnf
        refine ⟨fun hl => ?_, fun hl => ?_⟩
        · conv => whnf
          exact ih1 ⟨hp, Or.inl hl⟩
        · conv => whnf
          refine ⟨vp_in_nI (by omega) (by decide), ?_⟩
          rw [nI_clamp (by omega)]
          conv => whnf
          refine ⟨fun hb => ?_, fun hb => ?_⟩
          · conv => whnf
            exact ih0 (fun z => z.2.elim hl hb)
          · conv => whnf
            exact ih1 ⟨hp, Or.inr hb⟩)
  conv => whnf
  exact loop 0 (by omega)
theorem ct_X7_many (D : va_G) (dT : Nat → Nat) (l : Launch) : en_CT en_WD D vwCl dT l yX7_many cX7_many 5 (some .int) rm_X7_many f_X7_many := en_met en_WD1 en_WD2 (by decide) rfl rfl (tB_X7_many D dT l) (en_f_ln (fun _ => Nat.le_of_ble_eq_true rfl)) (en_f_bd bd_X7_many)
set_option maxRecDepth 100000 in
theorem mk_X7_many {D : va_G} {dT : Nat → Nat} {l : Launch} {R : Room} {s : State} {args : Array Value} {own : String} {idx : Nat} (h : en_WD s) (h1 : rm_X7_many.frames + 1 ≤ R.frames) (h2 : 8 + (5 + 11) + rm_X7_many.locals ≤ R.locals) (hl : (Jvm.Cond.methodLink own idx yX7_many).before args s = true ∨ ∃ host, (Jvm.Cond.methodLinkNest own idx yX7_many host).before args s = true) : en_mok en_WD D vwCl dT l R s args own (idx, 3, 9, 0, 0, f_X7_many) :=
  ⟨yX7_many, cX7_many, 5, some .int, rm_X7_many, 2, ct_X7_many D dT l, rfl, rfl, h1, h2, en_wd h 921 rfl rfl args, en_wd h 66 (by decide +kernel) rfl args, by decide, by decide, hl, ⟨RX7, TX7, 24, rfl, en_wd h 919 (by decide +kernel) rfl args, en_wd h 920 (by decide +kernel) rfl args, rfl⟩⟩
end
section
/-! the reference: equal, near, told leaks -/
def eqb (N Wd : Nat → Int64) (a b : Nat) : Nat → Bool
  | 0 => decide (Wd a = Wd b)
  | c + 1 => eqb N Wd a b c && decide (N (a * 3 + c) = N (b * 3 + c))
theorem eqb_3 {N Wd : Nat → Int64} {a b : Nat} : eqb N Wd a b 3 = true ↔ alike N Wd a b := by
  simp only [eqb, Bool.and_eq_true, decide_eq_true_eq, Nat.add_zero]
  constructor
  · rintro ⟨⟨⟨h0, h1⟩, h2⟩, h3⟩; exact ⟨h1, h2, h3, h0⟩
  · rintro ⟨h1, h2, h3, h0⟩; exact ⟨⟨⟨h0, h1⟩, h2⟩, h3⟩
def f_X7_isEqual := en_f (σ := Nat × Nat × Sx) (fun x => [.ref 0, .int (nI x.1), .int (nI x.2.1)]) (fun x => wM x.2.2) (fun x => x.1 < 100 ∧ x.2.1 < 100) (fun x v w => v = some (.int (bl (alike (x.2.2.2.2.2 4) (x.2.2.2.2.2 5) x.1 x.2.1))) ∧ w = wM x.2.2)
def rm_X7_isEqual : Room := { frames := 0, cells := 0, slots := 0, locals := 0 }
def t_X7_isEqual : en_T := ((5, 0, 0), tb_X7_isEqual, fl_X7, cn_X7, [], [], 0, some .boolean)
set_option maxRecDepth 100000 in
theorem tB_X7_isEqual (D : va_G) (dT : Nat → Nat) (l : Launch) : en_TB en_WD D vwCl dT l rm_X7_isEqual t_X7_isEqual RX7 "isEqual" cX7_isEqual := ⟨tk_X7_isEqual, fun s args meth h hn => ⟨fo_X7 h args meth, co_X7 h args, fun _ h => absurd h List.not_mem_nil, fun _ h => absurd h List.not_mem_nil, Or.inl rfl, en_arr h args⟩⟩
set_option maxHeartbeats 4000000 in
set_option maxRecDepth 100000 in
theorem bd_X7_isEqual : en_B (σ := Nat × Nat × Sx) t_X7_isEqual (fun x => [.ref 0, .int (nI x.1), .int (nI x.2.1)]) (fun x => wM x.2.2) (fun x => x.1 < 100 ∧ x.2.1 < 100) (fun x v w => v = some (.int (bl (alike (x.2.2.2.2.2 4) (x.2.2.2.2.2 5) x.1 x.2.1))) ∧ w = wM x.2.2) := by
  rintro ⟨a, b, S⟩ ⟨ha, hb⟩ G hG OK ⟨run, sub⟩
  dsimp only at ha hb hG ⊢
  rw [← bl_c (p := eqb (S.2.2.2 4) (S.2.2.2 5) a b 3 = true) eqb_3] at hG
  have loop := lp_up (fun c => OK 0 0 25 [(0, .ref 0), (1, .int (nI a)), (2, .int (nI b)), (3, .int (bl (eqb (S.2.2.2 4) (S.2.2.2 5) a b c = true))), (4, .int (nI c))] [] (wM S)) 3
    (by
      refine run [25] 60 _ _ _ _ _ _ ?_
      conv => whnf
      refine pk_le 3 3 (fun h => ?_) (fun h => absurd h (by omega))
      conv => whnf
      exact ⟨bl_b, hG _ _ ⟨rfl, rfl⟩⟩)
    (fun c hc ih => by
      rw [nI_succ] at ih
      refine run [25] 60 _ _ _ _ _ _ ?_
      conv => whnf
      refine pk_le 3 c (fun h => absurd h (by omega)) (fun h => ?_)
      conv => whnf
      refine bl_br (fun h1 => ?_) (fun h1 => ?_)
      · have e : bl (eqb (S.2.2.2 4) (S.2.2.2 5) a b (c + 1) = true) = 0 := bl_f (by
          show ¬ (eqb (S.2.2.2 4) (S.2.2.2 5) a b c && _) = true
          rw [Bool.and_eq_true]; exact fun z => h1 z.1)
        rw [e] at ih
        conv => whnf
        exact ih
      · conv => whnf
        rw [mul3']
        refine ⟨vp_in_nI (by omega) (by decide), ?_⟩
        rw [nI_clamp (by omega)]
        conv => whnf
        rw [mul3']
        refine ⟨vp_in_nI (by omega) (by decide), ?_⟩
        rw [nI_clamp (by omega)]
        conv => whnf
        refine lc_br2 (fun h2 => ?_) (fun h2 => ?_)
        · have e : bl (eqb (S.2.2.2 4) (S.2.2.2 5) a b (c + 1) = true) = 0 := bl_f (by
            show ¬ (eqb (S.2.2.2 4) (S.2.2.2 5) a b c && decide (S.2.2.2 4 (a * 3 + c) = S.2.2.2 4 (b * 3 + c))) = true
            rw [Bool.and_eq_true, decide_eq_true_eq]; exact fun z => h2 z.2)
          rw [e] at ih
          conv => whnf
          exact ih
        · have e : bl (eqb (S.2.2.2 4) (S.2.2.2 5) a b (c + 1) = true) = 1 := bl_t (by
            show (eqb (S.2.2.2 4) (S.2.2.2 5) a b c && decide (S.2.2.2 4 (a * 3 + c) = S.2.2.2 4 (b * 3 + c))) = true
            rw [Bool.and_eq_true, decide_eq_true_eq]; exact ⟨h1, h2⟩)
          rw [e] at ih
          conv => whnf
          exact ih)
  have h0 := loop 0 (by omega)
  refine run [25] 60 _ _ _ _ _ _ ?_
  conv => whnf
  refine ⟨vp_in_nI ha (by decide), ?_⟩
  rw [nI_clamp (by omega)]
  conv => whnf
  refine ⟨vp_in_nI hb (by decide), ?_⟩
  rw [nI_clamp (by omega)]
  conv => whnf
  refine lc_br2 (fun h2 => ?_) (fun h2 => ?_)
  · have h2 : ¬ S.2.2.2 5 a = S.2.2.2 5 b := h2
    rw [bl_f (p := eqb (S.2.2.2 4) (S.2.2.2 5) a b 0 = true) (by show ¬ decide _ = true; rw [decide_eq_true_eq]; exact h2)] at h0
    conv => whnf
    exact h0
  · have h2 : S.2.2.2 5 a = S.2.2.2 5 b := h2
    rw [bl_t (p := eqb (S.2.2.2 4) (S.2.2.2 5) a b 0 = true) (by show decide _ = true; rw [decide_eq_true_eq]; exact h2)] at h0
    conv => whnf
    exact h0
theorem ct_X7_isEqual (D : va_G) (dT : Nat → Nat) (l : Launch) : en_CT en_WD D vwCl dT l yX7_isEqual cX7_isEqual 5 (some .boolean) rm_X7_isEqual f_X7_isEqual := en_met en_WD1 en_WD2 (by decide) rfl rfl (tB_X7_isEqual D dT l) (en_f_ln (fun _ => Nat.le_of_ble_eq_true rfl)) (en_f_bd bd_X7_isEqual)
set_option maxRecDepth 100000 in
theorem mk_X7_isEqual {D : va_G} {dT : Nat → Nat} {l : Launch} {R : Room} {s : State} {args : Array Value} {own : String} {idx : Nat} (h : en_WD s) (h1 : rm_X7_isEqual.frames + 1 ≤ R.frames) (h2 : 8 + (5 + 11) + rm_X7_isEqual.locals ≤ R.locals) (hl : (Jvm.Cond.methodLink own idx yX7_isEqual).before args s = true ∨ ∃ host, (Jvm.Cond.methodLinkNest own idx yX7_isEqual host).before args s = true) : en_mok en_WD D vwCl dT l R s args own (idx, 3, 9, 0, 0, f_X7_isEqual) :=
  ⟨yX7_isEqual, cX7_isEqual, 5, some .boolean, rm_X7_isEqual, 2, ct_X7_isEqual D dT l, rfl, rfl, h1, h2, en_wd h 966 rfl rfl args, en_wd h 66 (by decide +kernel) rfl args, by decide, by decide, hl, ⟨RX7, TX7, 24, rfl, en_wd h 965 (by decide +kernel) rfl args, en_wd h 50 (by decide +kernel) rfl args, rfl⟩⟩
def f_X7_areApart := en_f (σ := Nat × Nat × Sx) (fun x => [.ref 0, .int (nI x.1), .int (nI x.2.1)]) (fun x => wM x.2.2) (fun x => x.1 < 100 ∧ x.2.1 < 100) (fun x v w => v = some (.int (bl (x.2.2.2.2.1 6 x.1 ≠ -1 ∧ x.2.2.2.2.1 6 x.2.1 ≠ -1 ∧ x.2.2.2.2.1 6 x.1 ≠ x.2.2.2.2.1 6 x.2.1))) ∧ w = wM x.2.2)
def rm_X7_areApart : Room := { frames := 0, cells := 0, slots := 0, locals := 0 }
def t_X7_areApart : en_T := ((3, 0, 0), tb_X7_areApart, fl_X7, cn_X7, [], [], 0, some .boolean)
set_option maxRecDepth 100000 in
theorem tB_X7_areApart (D : va_G) (dT : Nat → Nat) (l : Launch) : en_TB en_WD D vwCl dT l rm_X7_areApart t_X7_areApart RX7 "areApart" cX7_areApart := ⟨tk_X7_areApart, fun s args meth h hn => ⟨fo_X7 h args meth, co_X7 h args, fun _ h => absurd h List.not_mem_nil, fun _ h => absurd h List.not_mem_nil, Or.inl rfl, en_arr h args⟩⟩
set_option maxHeartbeats 4000000 in
set_option maxRecDepth 100000 in
theorem bd_X7_areApart : en_B (σ := Nat × Nat × Sx) t_X7_areApart (fun x => [.ref 0, .int (nI x.1), .int (nI x.2.1)]) (fun x => wM x.2.2) (fun x => x.1 < 100 ∧ x.2.1 < 100) (fun x v w => v = some (.int (bl (x.2.2.2.2.1 6 x.1 ≠ -1 ∧ x.2.2.2.2.1 6 x.2.1 ≠ -1 ∧ x.2.2.2.2.1 6 x.1 ≠ x.2.2.2.2.1 6 x.2.1))) ∧ w = wM x.2.2) := by
  rintro ⟨a, b, S⟩ ⟨ha, hb⟩ G hG OK ⟨run, sub⟩
  dsimp only at ha hb hG ⊢
  refine run [] 40 _ _ _ _ _ _ ?_
  conv => whnf
  refine ⟨vp_in_nI ha (by decide), ?_⟩
  rw [nI_clamp (by omega)]
  conv => whnf
  refine ⟨fun h1 => ?_, fun h1 => ?_⟩
  · conv => whnf
    exact ⟨rfl, hG _ _ ⟨bl_af (fun z => z.1 h1) rfl, rfl⟩⟩
  · conv => whnf
    refine ⟨vp_in_nI hb (by decide), ?_⟩
    rw [nI_clamp (by omega)]
    conv => whnf
    refine ⟨fun h2 => ?_, fun h2 => ?_⟩
    · conv => whnf
      exact ⟨rfl, hG _ _ ⟨bl_af (fun z => z.2.1 h2) rfl, rfl⟩⟩
    · conv => whnf
      refine ⟨vp_in_nI ha (by decide), ?_⟩
      rw [nI_clamp (by omega)]
      conv => whnf
      refine ⟨vp_in_nI hb (by decide), ?_⟩
      rw [nI_clamp (by omega)]
      conv => whnf
      refine ⟨fun h => ?_, fun h => ?_⟩
      · conv => whnf
        exact ⟨rfl, hG _ _ ⟨bl_af (fun z => z.2.2 h) rfl, rfl⟩⟩
      · conv => whnf
        exact ⟨rfl, hG _ _ ⟨bl_at ⟨h1, h2, h⟩ rfl, rfl⟩⟩
theorem ct_X7_areApart (D : va_G) (dT : Nat → Nat) (l : Launch) : en_CT en_WD D vwCl dT l yX7_areApart cX7_areApart 3 (some .boolean) rm_X7_areApart f_X7_areApart := en_met en_WD1 en_WD2 (by decide) rfl rfl (tB_X7_areApart D dT l) (en_f_ln (fun _ => Nat.le_of_ble_eq_true rfl)) (en_f_bd bd_X7_areApart)
set_option maxRecDepth 100000 in
theorem mk_X7_areApart {D : va_G} {dT : Nat → Nat} {l : Launch} {R : Room} {s : State} {args : Array Value} {own : String} {idx : Nat} (h : en_WD s) (h1 : rm_X7_areApart.frames + 1 ≤ R.frames) (h2 : 8 + (3 + 11) + rm_X7_areApart.locals ≤ R.locals) (hl : (Jvm.Cond.methodLink own idx yX7_areApart).before args s = true ∨ ∃ host, (Jvm.Cond.methodLinkNest own idx yX7_areApart host).before args s = true) : en_mok en_WD D vwCl dT l R s args own (idx, 3, 9, 0, 0, f_X7_areApart) :=
  ⟨yX7_areApart, cX7_areApart, 3, some .boolean, rm_X7_areApart, 2, ct_X7_areApart D dT l, rfl, rfl, h1, h2, en_wd h 962 rfl rfl args, en_wd h 66 (by decide +kernel) rfl args, by decide, by decide, hl, ⟨RX7, TX7, 24, rfl, en_wd h 961 (by decide +kernel) rfl args, en_wd h 49 (by decide +kernel) rfl args, rfl⟩⟩
/-- near, as the reference says it -/
abbrev nearm (N Wd : Nat → Int64) (nn : Int32) (a b : Nat) : Prop := Wd a ≠ 0 ∧ Wd b ≠ 0 ∧ ¬ alike N Wd a b ∧ ¬ bcn (Wd a &&& Wd b) 64 * (Int8.ofInt 100).toInt32 < nn * bcn (Wd a ||| Wd b) 64
def f_X7_areNear := en_f (σ := Nat × Nat × Sx) (fun x => [.ref 0, .int (nI x.1), .int (nI x.2.1)]) (fun x => wM x.2.2) (fun x => x.1 < 100 ∧ x.2.1 < 100) (fun x v w => v = some (.int (bl (nearm (x.2.2.2.2.2 4) (x.2.2.2.2.2 5) (x.2.2.1 3) x.1 x.2.1))) ∧ w = wM x.2.2)
def rm_X7_areNear : Room := { frames := 1, cells := 0, slots := 0, locals := 24 }
def t_X7_areNear : en_T := ((4, 0, 0), tb_X7_areNear, fl_X7, cn_X7, [(138, 3, 9, 0, 0, f_X7_isEqual), (81, 1, 0, 0, 0, f_X7_bits)], [], 0, some .boolean)
set_option maxRecDepth 100000 in
theorem tB_X7_areNear (D : va_G) (dT : Nat → Nat) (l : Launch) : en_TB en_WD D vwCl dT l rm_X7_areNear t_X7_areNear RX7 "areNear" cX7_areNear := ⟨tk_X7_areNear, fun s args meth h hn => ⟨fo_X7 h args meth, co_X7 h args, List.forall_mem_cons.mpr ⟨mk_X7_isEqual (own := RX7) h (Nat.le_of_ble_eq_true rfl) (Nat.le_of_ble_eq_true rfl) (Or.inl (en_wd h 963 (by decide +kernel) rfl args)), List.forall_mem_cons.mpr ⟨mk_X7_bits (own := RX7) h (Nat.le_of_ble_eq_true rfl) (Nat.le_of_ble_eq_true rfl) (Or.inl (en_wd h 845 (by decide +kernel) rfl args)), fun _ h => absurd h List.not_mem_nil⟩⟩, fun _ h => absurd h List.not_mem_nil, Or.inl rfl, en_arr h args⟩⟩
set_option maxHeartbeats 4000000 in
set_option maxRecDepth 100000 in
theorem bd_X7_areNear : en_B (σ := Nat × Nat × Sx) t_X7_areNear (fun x => [.ref 0, .int (nI x.1), .int (nI x.2.1)]) (fun x => wM x.2.2) (fun x => x.1 < 100 ∧ x.2.1 < 100) (fun x v w => v = some (.int (bl (nearm (x.2.2.2.2.2 4) (x.2.2.2.2.2 5) (x.2.2.1 3) x.1 x.2.1))) ∧ w = wM x.2.2) := by
  rintro ⟨a, b, S⟩ ⟨ha, hb⟩ G hG OK ⟨run, sub⟩
  dsimp only at ha hb hG ⊢
  unfold nearm at hG
  generalize hB1 : bcn (S.2.2.2 5 a &&& S.2.2.2 5 b) 64 = B1 at hG
  generalize hB2 : bcn (S.2.2.2 5 a ||| S.2.2.2 5 b) 64 = B2 at hG
  refine run [] 80 _ _ _ _ _ _ ?_
  conv => whnf
  refine ⟨vp_in_nI ha (by decide), ?_⟩
  rw [nI_clamp (by omega)]
  conv => whnf
  refine lc_br (fun h1 => ?_) (fun h1 => ?_)
  · conv => whnf
    refine ⟨fun _ => ?_, fun z => absurd rfl z⟩
    conv => whnf
    exact ⟨rfl, hG _ _ ⟨bl_af (fun z => z.1 h1) rfl, rfl⟩⟩
  · conv => whnf
    refine ⟨vp_in_nI hb (by decide), ?_⟩
    rw [nI_clamp (by omega)]
    conv => whnf
    refine lc_br (fun h2 => ?_) (fun h2 => ?_)
    · conv => whnf
      refine ⟨fun _ => ?_, fun z => absurd rfl z⟩
      conv => whnf
      exact ⟨rfl, hG _ _ ⟨bl_af (fun z => z.2.1 h2) rfl, rfl⟩⟩
    · conv => whnf
      refine ⟨(a, b, S), rfl, rfl, ⟨ha, hb⟩, ?_⟩
      rintro _ _ ⟨rfl, rfl⟩
      conv => whnf
      refine bl_br2 (fun h3 => ?_) (fun h3 => ?_)
      · conv => whnf
        refine ⟨fun _ => ?_, fun z => absurd rfl z⟩
        conv => whnf
        exact ⟨rfl, hG _ _ ⟨bl_af (fun z => z.2.2.1 h3) rfl, rfl⟩⟩
      · conv => whnf
        refine ⟨fun z => absurd (show (Int32.ofInt 1) = 0 from z) (by decide), fun _ => ?_⟩
        conv => whnf
        refine ⟨vp_in_nI ha (by decide), ?_⟩
        rw [nI_clamp (by omega)]
        conv => whnf
        refine ⟨vp_in_nI hb (by decide), ?_⟩
        rw [nI_clamp (by omega)]
        conv => whnf
        refine ⟨(S.2.2.2 5 a &&& S.2.2.2 5 b, wM S), rfl, rfl, trivial, ?_⟩
        intro v u hvu
        obtain ⟨rfl, rfl⟩ : v = some (.int B1) ∧ u = wM S := by rw [← hB1]; exact hvu
        conv => whnf
        refine ⟨vp_in_nI ha (by decide), ?_⟩
        rw [nI_clamp (by omega)]
        conv => whnf
        refine ⟨vp_in_nI hb (by decide), ?_⟩
        rw [nI_clamp (by omega)]
        conv => whnf
        refine ⟨(S.2.2.2 5 a ||| S.2.2.2 5 b, wM S), rfl, rfl, trivial, ?_⟩
        intro v u hvu
        obtain ⟨rfl, rfl⟩ : v = some (.int B2) ∧ u = wM S := by rw [← hB2]; exact hvu
        conv => whnf
        refine ⟨fun h4 => ?_, fun h4 => ?_⟩
        · conv => whnf
          exact ⟨rfl, hG _ _ ⟨bl_af (fun z => z.2.2.2 h4) rfl, rfl⟩⟩
        · conv => whnf
          exact ⟨rfl, hG _ _ ⟨bl_at ⟨h1, h2, h3, h4⟩ rfl, rfl⟩⟩
theorem ct_X7_areNear (D : va_G) (dT : Nat → Nat) (l : Launch) : en_CT en_WD D vwCl dT l yX7_areNear cX7_areNear 4 (some .boolean) rm_X7_areNear f_X7_areNear := en_met en_WD1 en_WD2 (by decide) rfl rfl (tB_X7_areNear D dT l) (en_f_ln (fun _ => Nat.le_of_ble_eq_true rfl)) (en_f_bd bd_X7_areNear)
set_option maxRecDepth 100000 in
theorem mk_X7_areNear {D : va_G} {dT : Nat → Nat} {l : Launch} {R : Room} {s : State} {args : Array Value} {own : String} {idx : Nat} (h : en_WD s) (h1 : rm_X7_areNear.frames + 1 ≤ R.frames) (h2 : 8 + (4 + 11) + rm_X7_areNear.locals ≤ R.locals) (hl : (Jvm.Cond.methodLink own idx yX7_areNear).before args s = true ∨ ∃ host, (Jvm.Cond.methodLinkNest own idx yX7_areNear host).before args s = true) : en_mok en_WD D vwCl dT l R s args own (idx, 3, 9, 0, 0, f_X7_areNear) :=
  ⟨yX7_areNear, cX7_areNear, 4, some .boolean, rm_X7_areNear, 2, ct_X7_areNear D dT l, rfl, rfl, h1, h2, en_wd h 970 rfl rfl args, en_wd h 66 (by decide +kernel) rfl args, by decide, by decide, hl, ⟨RX7, TX7, 24, rfl, en_wd h 969 (by decide +kernel) rfl args, en_wd h 51 (by decide +kernel) rfl args, rfl⟩⟩
def f_X7_tell := en_f (σ := Int32 × Int32 × Int32 × Sx) (fun x => [.ref 0, .int x.1, .int x.2.1, .int x.2.2.1]) (fun x => wM x.2.2.2) (fun _ => True) (fun x v w => v = none ∧ w = wM (xf x.2.2.2 (tk x.1 (s3 x.2.2.2) x.2.1 x.2.2.1)))
def rm_X7_tell : Room := { frames := 0, cells := 0, slots := 0, locals := 0 }
def t_X7_tell : en_T := ((4, 0, 0), tb_X7_tell, fl_X7, cn_X7, [], [], 0, none)
set_option maxRecDepth 100000 in
theorem tB_X7_tell (D : va_G) (dT : Nat → Nat) (l : Launch) : en_TB en_WD D vwCl dT l rm_X7_tell t_X7_tell RX7 "tell" cX7_tell := ⟨tk_X7_tell, fun s args meth h hn => ⟨fo_X7 h args meth, co_X7 h args, fun _ h => absurd h List.not_mem_nil, fun _ h => absurd h List.not_mem_nil, Or.inl rfl, en_arr h args⟩⟩
set_option maxHeartbeats 4000000 in
set_option maxRecDepth 100000 in
theorem bd_X7_tell : en_B (σ := Int32 × Int32 × Int32 × Sx) t_X7_tell (fun x => [.ref 0, .int x.1, .int x.2.1, .int x.2.2.1]) (fun x => wM x.2.2.2) (fun _ => True) (fun x v w => v = none ∧ w = wM (xf x.2.2.2 (tk x.1 (s3 x.2.2.2) x.2.1 x.2.2.1))) := by
  rintro ⟨i, a, b, S⟩ - G hG OK ⟨run, sub⟩
  dsimp only at hG ⊢
  refine run [] 60 _ _ _ _ _ _ ?_
  conv => whnf
  refine ⟨fun h => ?_, fun h => ?_⟩
  · conv => whnf
    refine hG _ _ ⟨rfl, ?_⟩
    unfold tk
    rw [if_neg h, if_neg h]
    rfl
  · conv => whnf
    refine hG _ _ ⟨rfl, ?_⟩
    unfold tk
    rw [if_pos h, if_pos h]
    rfl
theorem ct_X7_tell (D : va_G) (dT : Nat → Nat) (l : Launch) : en_CT en_WD D vwCl dT l yX7_tell cX7_tell 4 (none) rm_X7_tell f_X7_tell := en_met en_WD1 en_WD2 (by decide) rfl rfl (tB_X7_tell D dT l) (en_f_ln (fun _ => Nat.le_of_ble_eq_true rfl)) (en_f_bd bd_X7_tell)
set_option maxRecDepth 100000 in
theorem mk_X7_tell {D : va_G} {dT : Nat → Nat} {l : Launch} {R : Room} {s : State} {args : Array Value} {own : String} {idx : Nat} (h : en_WD s) (h1 : rm_X7_tell.frames + 1 ≤ R.frames) (h2 : 8 + (4 + 11) + rm_X7_tell.locals ≤ R.locals) (hl : (Jvm.Cond.methodLink own idx yX7_tell).before args s = true ∨ ∃ host, (Jvm.Cond.methodLinkNest own idx yX7_tell host).before args s = true) : en_mok en_WD D vwCl dT l R s args own (idx, 4, 9, 0, 0, f_X7_tell) :=
  ⟨yX7_tell, cX7_tell, 4, none, rm_X7_tell, 3, ct_X7_tell D dT l, rfl, rfl, h1, h2, en_wd h 974 rfl rfl args, en_wd h 66 (by decide +kernel) rfl args, by decide, by decide, hl, ⟨RX7, TX7, 24, rfl, en_wd h 973 (by decide +kernel) rfl args, en_wd h 52 (by decide +kernel) rfl args, rfl⟩⟩
abbrev pairm (N Wd : Nat → Int64) (P : Nat → Int32) (eq nn : Int32) (a b : Nat) : Prop := a + 1 ≤ b ∧ (P a ≠ -1 ∧ P b ≠ -1 ∧ P a ≠ P b) ∧ (if eq = 0 then nearm N Wd nn a b else alike N Wd a b)
def LpairM (N Wd : Nat → Int64) (P : Nat → Int32) (eq nn : Int32) (n : Nat) : List (Int32 × Int32) := lsn (fun a => lsn (fun b => ifl (pairm N Wd P eq nn a b) (nI a) (nI b)) n) n
def f_X7_pairs := en_f (σ := Nat × Int32 × Int32 × Sx) (fun x => [.ref 0, .int x.2.1, .int x.2.2.1]) (fun x => wM x.2.2.2) (fun x => x.1 ≤ 100 ∧ x.2.2.2.1 0 = nI x.1) (fun x v w => v = none ∧ w = wM (xf x.2.2.2 (tks x.2.2.1 (s3 x.2.2.2) (LpairM (x.2.2.2.2.2.2 4) (x.2.2.2.2.2.2 5) (x.2.2.2.2.2.1 6) x.2.1 (x.2.2.2.1 3) x.1))))
def rm_X7_pairs : Room := { frames := 2, cells := 0, slots := 0, locals := 47 }
def t_X7_pairs : en_T := ((5, 0, 0), tb_X7_pairs, fl_X7, cn_X7, [(151, 3, 9, 0, 0, f_X7_areApart), (138, 3, 9, 0, 0, f_X7_isEqual), (154, 3, 9, 0, 0, f_X7_areNear), (157, 4, 9, 0, 0, f_X7_tell)], [], 0, none)
set_option maxRecDepth 100000 in
theorem tB_X7_pairs (D : va_G) (dT : Nat → Nat) (l : Launch) : en_TB en_WD D vwCl dT l rm_X7_pairs t_X7_pairs RX7 "pairs" cX7_pairs := ⟨tk_X7_pairs, fun s args meth h hn => ⟨fo_X7 h args meth, co_X7 h args, List.forall_mem_cons.mpr ⟨mk_X7_areApart (own := RX7) h (Nat.le_of_ble_eq_true rfl) (Nat.le_of_ble_eq_true rfl) (Or.inl (en_wd h 959 (by decide +kernel) rfl args)), List.forall_mem_cons.mpr ⟨mk_X7_isEqual (own := RX7) h (Nat.le_of_ble_eq_true rfl) (Nat.le_of_ble_eq_true rfl) (Or.inl (en_wd h 963 (by decide +kernel) rfl args)), List.forall_mem_cons.mpr ⟨mk_X7_areNear (own := RX7) h (Nat.le_of_ble_eq_true rfl) (Nat.le_of_ble_eq_true rfl) (Or.inl (en_wd h 967 (by decide +kernel) rfl args)), List.forall_mem_cons.mpr ⟨mk_X7_tell (own := RX7) h (Nat.le_of_ble_eq_true rfl) (Nat.le_of_ble_eq_true rfl) (Or.inl (en_wd h 971 (by decide +kernel) rfl args)), fun _ h => absurd h List.not_mem_nil⟩⟩⟩⟩, fun _ h => absurd h List.not_mem_nil, Or.inl rfl, en_arr h args⟩⟩
set_option maxHeartbeats 4000000 in
set_option maxRecDepth 100000 in
theorem bd_X7_pairs : en_B (σ := Nat × Int32 × Int32 × Sx) t_X7_pairs (fun x => [.ref 0, .int x.2.1, .int x.2.2.1]) (fun x => wM x.2.2.2) (fun x => x.1 ≤ 100 ∧ x.2.2.2.1 0 = nI x.1) (fun x v w => v = none ∧ w = wM (xf x.2.2.2 (tks x.2.2.1 (s3 x.2.2.2) (LpairM (x.2.2.2.2.2.2 4) (x.2.2.2.2.2.2 5) (x.2.2.2.2.2.1 6) x.2.1 (x.2.2.2.1 3) x.1)))) := by
  rintro ⟨n, eq, wt, S⟩ ⟨hn, h1⟩ G hG OK ⟨run, sub⟩
  dsimp only at hn h1 hG ⊢
  unfold LpairM at hG
  have outer := lp_up (fun a => OK 0 0 2 [(0, .ref 0), (1, .int eq), (2, .int wt), (3, .int (nI a))] [] (wM (xf S (tks wt (s3 S) (lsn (fun a => lsn (fun b => ifl (pairm (S.2.2.2 4) (S.2.2.2 5) (S.2.2.1 6) eq (S.1 3) a b) (nI a) (nI b)) n) a))))) n
    (by
      generalize tks wt (s3 S) (lsn (fun a => lsn (fun b => ifl (pairm (S.2.2.2 4) (S.2.2.2 5) (S.2.2.1 6) eq (S.1 3) a b) (nI a) (nI b)) n) n) = Y at hG ⊢
      refine run [2] 60 _ _ _ _ _ _ ?_
      conv => whnf
      refine pk_le n n (fun h => ?_) (fun h => absurd h (by omega)) h1
      conv => whnf
      exact hG _ _ ⟨rfl, rfl⟩)
    (fun a ha iha => by
      simp only [lsn] at iha
      rw [tks_app, nI_succ] at iha
      generalize tks wt (s3 S) (lsn (fun a => lsn (fun b => ifl (pairm (S.2.2.2 4) (S.2.2.2 5) (S.2.2.1 6) eq (S.1 3) a b) (nI a) (nI b)) n) a) = Y at iha ⊢
      have inner := lp_up (fun b => a + 1 ≤ b → OK 0 0 15 [(0, .ref 0), (1, .int eq), (2, .int wt), (3, .int (nI a)), (4, .int (nI b))] [] (wM (xf S (tks wt Y (lsn (fun b => ifl (pairm (S.2.2.2 4) (S.2.2.2 5) (S.2.2.1 6) eq (S.1 3) a b) (nI a) (nI b)) b))))) n
        (fun _ => by
          generalize tks wt Y (lsn (fun b => ifl (pairm (S.2.2.2 4) (S.2.2.2 5) (S.2.2.1 6) eq (S.1 3) a b) (nI a) (nI b)) n) = X at iha ⊢
          refine run [2, 15] 60 _ _ _ _ _ _ ?_
          conv => whnf
          refine pk_le n n (fun h => ?_) (fun h => absurd h (by omega)) h1
          conv => whnf
          exact sub [0, 1, 2, 3] _ _ _ _ _ _ _ rfl iha)
        (fun b hb ihb hab => by
          have ihb := ihb (by omega)
          simp only [lsn] at ihb
          rw [tks_app, nI_succ] at ihb
          generalize tks wt Y (lsn (fun b => ifl (pairm (S.2.2.2 4) (S.2.2.2 5) (S.2.2.1 6) eq (S.1 3) a b) (nI a) (nI b)) b) = X at ihb ⊢
          have hno : ¬ pairm (S.2.2.2 4) (S.2.2.2 5) (S.2.2.1 6) eq (S.1 3) a b → OK 0 0 15 [(0, .ref 0), (1, .int eq), (2, .int wt), (3, .int (nI a)), (4, .int (nI b + 1))] [] (wM (xf S X)) := fun h => by
            rw [ifl_f h, tks_0] at ihb; exact ihb
          have htake : pairm (S.2.2.2 4) (S.2.2.2 5) (S.2.2.1 6) eq (S.1 3) a b → ∀ (v : Option Value) (u : List va_E), (v = none ∧ u = wM (xf (xf S X) (tk wt (s3 (xf S X)) (nI a) (nI b)))) → v = none ∧ OK 0 0 15 [(0, .ref 0), (1, .int eq), (2, .int wt), (3, .int (nI a)), (4, .int (nI b + 1))] [] u := fun hq v u hvu => by
            obtain ⟨rfl, rfl⟩ := hvu
            rw [ifl_t hq, tks_1] at ihb
            exact ⟨rfl, ihb⟩
          refine run [2, 15] 80 _ _ _ _ _ _ ?_
          conv => whnf
          refine pk_le n b (fun h => absurd h (by omega)) (fun h => ?_) h1
          conv => whnf
          refine ⟨(a, b, xf S X), rfl, rfl, (by dsimp only; omega), ?_⟩
          intro v u hvu
          obtain ⟨rfl, rfl⟩ : v = some (.int (bl (S.2.2.1 6 a ≠ -1 ∧ S.2.2.1 6 b ≠ -1 ∧ S.2.2.1 6 a ≠ S.2.2.1 6 b))) ∧ u = wM (xf S X) := hvu
          conv => whnf
          refine bl_br (fun hp => ?_) (fun hp => ?_)
          · conv => whnf
            exact hno (fun z => hp z.2.1)
          · conv => whnf
            refine ⟨fun hk => ?_, fun hk => ?_⟩
            · have hk : eq = 0 := hk
              conv => whnf
              refine ⟨(a, b, xf S X), rfl, rfl, (by dsimp only; omega), ?_⟩
              intro v u hvu
              obtain ⟨rfl, rfl⟩ : v = some (.int (bl (nearm (S.2.2.2 4) (S.2.2.2 5) (S.1 3) a b))) ∧ u = wM (xf S X) := hvu
              conv => whnf
              refine bl_br (fun hq => ?_) (fun hq => ?_)
              · conv => whnf
                exact hno (fun z => hq (by have := z.2.2; rw [if_pos hk] at this; exact this))
              · conv => whnf
                refine ⟨(wt, nI a, nI b, xf S X), rfl, rfl, trivial, ?_⟩
                intro v u hvu
                obtain ⟨rfl, h2⟩ := htake ⟨hab, hp, by rw [if_pos hk]; exact hq⟩ v u hvu
                conv => whnf
                exact h2
            · have hk : ¬ eq = 0 := hk
              conv => whnf
              refine ⟨(a, b, xf S X), rfl, rfl, (by dsimp only; omega), ?_⟩
              intro v u hvu
              obtain ⟨rfl, rfl⟩ : v = some (.int (bl (alike (S.2.2.2 4) (S.2.2.2 5) a b))) ∧ u = wM (xf S X) := hvu
              conv => whnf
              refine bl_br (fun hq => ?_) (fun hq => ?_)
              · conv => whnf
                exact hno (fun z => hq (by have := z.2.2; rw [if_neg hk] at this; exact this))
              · conv => whnf
                refine ⟨(wt, nI a, nI b, xf S X), rfl, rfl, trivial, ?_⟩
                intro v u hvu
                obtain ⟨rfl, h2⟩ := htake ⟨hab, hp, by rw [if_neg hk]; exact hq⟩ v u hvu
                conv => whnf
                exact h2)
      have hi := inner (a + 1) (by omega) (Nat.le_refl _)
      rw [lsn_0 (fun i hi => ifl_f (fun z => by have := z.1; omega)), tks_0, nI_succ] at hi
      refine run [2, 15] 60 _ _ _ _ _ _ ?_
      conv => whnf
      refine pk_le n a (fun h => absurd h (by omega)) (fun h => ?_) h1
      conv => whnf
      exact hi)
  refine run [2] 60 _ _ _ _ _ _ ?_
  conv => whnf
  exact outer 0 (by omega)
theorem ct_X7_pairs (D : va_G) (dT : Nat → Nat) (l : Launch) : en_CT en_WD D vwCl dT l yX7_pairs cX7_pairs 5 (none) rm_X7_pairs f_X7_pairs := en_met en_WD1 en_WD2 (by decide) rfl rfl (tB_X7_pairs D dT l) (en_f_ln (fun _ => Nat.le_of_ble_eq_true rfl)) (en_f_bd bd_X7_pairs)
set_option maxRecDepth 100000 in
theorem mk_X7_pairs {D : va_G} {dT : Nat → Nat} {l : Launch} {R : Room} {s : State} {args : Array Value} {own : String} {idx : Nat} (h : en_WD s) (h1 : rm_X7_pairs.frames + 1 ≤ R.frames) (h2 : 8 + (5 + 11) + rm_X7_pairs.locals ≤ R.locals) (hl : (Jvm.Cond.methodLink own idx yX7_pairs).before args s = true ∨ ∃ host, (Jvm.Cond.methodLinkNest own idx yX7_pairs host).before args s = true) : en_mok en_WD D vwCl dT l R s args own (idx, 3, 9, 0, 0, f_X7_pairs) :=
  ⟨yX7_pairs, cX7_pairs, 5, none, rm_X7_pairs, 2, ct_X7_pairs D dT l, rfl, rfl, h1, h2, en_wd h 958 rfl rfl args, en_wd h 66 (by decide +kernel) rfl args, by decide, by decide, hl, ⟨RX7, TX7, 24, rfl, en_wd h 957 (by decide +kernel) rfl args, en_wd h 48 (by decide +kernel) rfl args, rfl⟩⟩
end
section
/-! the reference: groups, late ones, fitted ones, digests -/
def f_X7_groups := en_f (σ := Nat × Int32 × Sx) (fun x => [.ref 0, .int x.2.1]) (fun x => wM x.2.2) (fun x => x.1 ≤ 100 ∧ x.2.2.1 0 = nI x.1) (fun x v w => v = none ∧ w = wM (xf x.2.2 (tks x.2.1 (s3 x.2.2) (Lgrp (x.2.2.2.2.1 1) (x.2.2.2.2.1 6) x.1))))
def rm_X7_groups : Room := { frames := 1, cells := 0, slots := 0, locals := 23 }
def t_X7_groups : en_T := ((7, 0, 0), tb_X7_groups, fl_X7, cn_X7, [(157, 4, 9, 0, 0, f_X7_tell)], [], 0, none)
set_option maxRecDepth 100000 in
theorem tB_X7_groups (D : va_G) (dT : Nat → Nat) (l : Launch) : en_TB en_WD D vwCl dT l rm_X7_groups t_X7_groups RX7 "groups" cX7_groups := ⟨tk_X7_groups, fun s args meth h hn => ⟨fo_X7 h args meth, co_X7 h args, List.forall_mem_cons.mpr ⟨mk_X7_tell (own := RX7) h (Nat.le_of_ble_eq_true rfl) (Nat.le_of_ble_eq_true rfl) (Or.inl (en_wd h 971 (by decide +kernel) rfl args)), fun _ h => absurd h List.not_mem_nil⟩, fun _ h => absurd h List.not_mem_nil, Or.inl rfl, en_arr h args⟩⟩
set_option maxHeartbeats 4000000 in
set_option maxRecDepth 100000 in
theorem bd_X7_groups : en_B (σ := Nat × Int32 × Sx) t_X7_groups (fun x => [.ref 0, .int x.2.1]) (fun x => wM x.2.2) (fun x => x.1 ≤ 100 ∧ x.2.2.1 0 = nI x.1) (fun x v w => v = none ∧ w = wM (xf x.2.2 (tks x.2.1 (s3 x.2.2) (Lgrp (x.2.2.2.2.1 1) (x.2.2.2.2.1 6) x.1)))) := by
  rintro ⟨n, wt, S⟩ ⟨hn, h1⟩ G hG OK ⟨run, sub⟩
  dsimp only at hn h1 hG ⊢
  unfold Lgrp at hG
  have inner2 : ∀ (g p : Nat) (c : Int32) (Y : Int32 × Int32 × Int32), g < 30 → p < 4 → OK 0 0 75 [(0, .ref 0), (1, .int wt), (2, .int (nI g)), (3, .int c), (4, .int (nI p)), (5, .int (bl (fs (fun r => S.2.2.1 1 r = nI g ∧ S.2.2.1 6 r = nI p) n ≠ none)))] [] (wM (xf S Y)) → OK 0 0 25 [(0, .ref 0), (1, .int wt), (2, .int (nI g)), (3, .int c), (4, .int (nI p)), (5, .int 0), (6, .int (nI 0))] [] (wM (xf S Y)) := by
    intro g p c Y hg hp hE
    refine lp_up (fun r => OK 0 0 25 [(0, .ref 0), (1, .int wt), (2, .int (nI g)), (3, .int c), (4, .int (nI p)), (5, .int (bl (fs (fun r => S.2.2.1 1 r = nI g ∧ S.2.2.1 6 r = nI p) r ≠ none))), (6, .int (nI r))] [] (wM (xf S Y))) n ?_ ?_ 0 (by omega)
    · refine run [25, 75] 60 _ _ _ _ _ _ ?_
      conv => whnf
      refine pk_le n n (fun h => ?_) (fun h => absurd h (by omega)) h1
      conv => whnf
      exact sub [0, 1, 2, 3, 4, 5] _ _ _ _ _ _ _ rfl hE
    · intro r hr ih
      rw [nI_succ] at ih
      refine run [25, 75] 60 _ _ _ _ _ _ ?_
      conv => whnf
      refine pk_le n r (fun h => absurd h (by omega)) (fun h => ?_) h1
      conv => whnf
      refine bl_br2 (fun hf => ?_) (fun hf => ?_)
      · obtain ⟨q, hq⟩ : ∃ q, fs (fun r => S.2.2.1 1 r = nI g ∧ S.2.2.1 6 r = nI p) r = some q := Option.ne_none_iff_exists'.mp hf
        rw [bl_t (p := fs (fun r => S.2.2.1 1 r = nI g ∧ S.2.2.1 6 r = nI p) (r + 1) ≠ none) (by rw [fs_s hq (r + 1) (by omega)]; exact fun z => by cases z)] at ih
        conv => whnf
        exact ih
      · have hf : fs (fun r => S.2.2.1 1 r = nI g ∧ S.2.2.1 6 r = nI p) r = none := Decidable.of_not_not hf
        have h0 : ¬ (S.2.2.1 1 r = nI g ∧ S.2.2.1 6 r = nI p) → OK 0 0 25 [(0, .ref 0), (1, .int wt), (2, .int (nI g)), (3, .int c), (4, .int (nI p)), (5, .int 0), (6, .int (nI r + 1))] [] (wM (xf S Y)) := fun z => by
          rw [bl_f (p := fs (fun r => S.2.2.1 1 r = nI g ∧ S.2.2.1 6 r = nI p) (r + 1) ≠ none) (fun w => w (fs_f hf z))] at ih
          exact ih
        conv => whnf
        refine ⟨vp_in_nI (by omega) (by decide), ?_⟩
        rw [nI_clamp (by omega)]
        conv => whnf
        refine ⟨fun h2 => ?_, fun h2 => ?_⟩
        · conv => whnf
          exact h0 (fun z => h2 z.1)
        · have h2 : S.2.2.1 1 r = nI g := h2
          conv => whnf
          refine ⟨vp_in_nI (by omega) (by decide), ?_⟩
          rw [nI_clamp (by omega)]
          conv => whnf
          refine ⟨fun h3 => ?_, fun h3 => ?_⟩
          · conv => whnf
            exact h0 (fun z => h3 z.2)
          · have h3 : S.2.2.1 6 r = nI p := h3
            rw [bl_t (p := fs (fun r => S.2.2.1 1 r = nI g ∧ S.2.2.1 6 r = nI p) (r + 1) ≠ none) (by rw [fs_t hf ⟨h2, h3⟩]; exact fun z => by cases z)] at ih
            conv => whnf
            exact ih
  have inner1 : ∀ (g : Nat) (Y : Int32 × Int32 × Int32), g < 30 → OK 0 0 94 [(0, .ref 0), (1, .int wt), (2, .int (nI g)), (3, .int (nI (pog (S.2.2.1 1) (S.2.2.1 6) n (nI g))))] [] (wM (xf S Y)) → OK 0 0 13 [(0, .ref 0), (1, .int wt), (2, .int (nI g)), (3, .int 0), (4, .int (nI 0))] [] (wM (xf S Y)) := by
    intro g Y hg hE
    unfold pog at hE
    refine lp_up (fun p => OK 0 0 13 [(0, .ref 0), (1, .int wt), (2, .int (nI g)), (3, .int (nI (ct (fun p => fs (fun r => S.2.2.1 1 r = nI g ∧ S.2.2.1 6 r = nI p) n ≠ none) p))), (4, .int (nI p))] [] (wM (xf S Y))) 4 ?_ ?_ 0 (by omega)
    · refine run [13, 94] 60 _ _ _ _ _ _ ?_
      conv => whnf
      refine pk_le 4 4 (fun h => ?_) (fun h => absurd h (by omega))
      conv => whnf
      exact sub [0, 1, 2, 3] _ _ _ _ _ _ _ rfl hE
    · intro p hp ih
      rw [nI_succ] at ih
      generalize hC : nI (ct (fun p => fs (fun r => S.2.2.1 1 r = nI g ∧ S.2.2.1 6 r = nI p) n ≠ none) p) = C at ih ⊢
      have h75 : OK 0 0 75 [(0, .ref 0), (1, .int wt), (2, .int (nI g)), (3, .int C), (4, .int (nI p)), (5, .int (bl (fs (fun r => S.2.2.1 1 r = nI g ∧ S.2.2.1 6 r = nI p) n ≠ none)))] [] (wM (xf S Y)) := by
        refine run [13] 60 _ _ _ _ _ _ ?_
        conv => whnf
        refine bl_br (fun h2 => ?_) (fun h2 => ?_)
        · rw [ct_f (p := fun p => fs (fun r => S.2.2.1 1 r = nI g ∧ S.2.2.1 6 r = nI p) n ≠ none) h2, hC] at ih
          conv => whnf
          rw [← Int32.add_zero C] at ih
          exact sub [0, 1, 2, 3, 4] _ _ _ _ _ _ _ rfl ih
        · rw [ct_t (p := fun p => fs (fun r => S.2.2.1 1 r = nI g ∧ S.2.2.1 6 r = nI p) n ≠ none) h2, nI_succ, hC] at ih
          conv => whnf
          exact sub [0, 1, 2, 3, 4] _ _ _ _ _ _ _ rfl ih
      refine run [13, 25] 60 _ _ _ _ _ _ ?_
      conv => whnf
      refine pk_le 4 p (fun h => absurd h (by omega)) (fun h => ?_)
      conv => whnf
      exact inner2 g p C Y hg hp h75
  have outer := lp_up (fun g => OK 0 0 2 [(0, .ref 0), (1, .int wt), (2, .int (nI g))] [] (wM (xf S (tks wt (s3 S) (lsn (fun g => ifl (2 ≤ pog (S.2.2.1 1) (S.2.2.1 6) n (nI g)) (nI g) (nI (pog (S.2.2.1 1) (S.2.2.1 6) n (nI g)))) g))))) 30
    (by
      generalize tks wt (s3 S) (lsn (fun g => ifl (2 ≤ pog (S.2.2.1 1) (S.2.2.1 6) n (nI g)) (nI g) (nI (pog (S.2.2.1 1) (S.2.2.1 6) n (nI g)))) 30) = Y at hG ⊢
      refine run [2] 60 _ _ _ _ _ _ ?_
      conv => whnf
      refine pk_le 30 30 (fun h => ?_) (fun h => absurd h (by omega))
      conv => whnf
      exact hG _ _ ⟨rfl, rfl⟩)
    (fun g hg ih => by
      simp only [lsn] at ih
      rw [tks_app, nI_succ] at ih
      generalize tks wt (s3 S) (lsn (fun g => ifl (2 ≤ pog (S.2.2.1 1) (S.2.2.1 6) n (nI g)) (nI g) (nI (pog (S.2.2.1 1) (S.2.2.1 6) n (nI g)))) g) = Y at ih ⊢
      have hle := pog_le (Gp := S.2.2.1 1) (P := S.2.2.1 6) (n := n) (g := nI g)
      have h94 : OK 0 0 94 [(0, .ref 0), (1, .int wt), (2, .int (nI g)), (3, .int (nI (pog (S.2.2.1 1) (S.2.2.1 6) n (nI g))))] [] (wM (xf S Y)) := by
        refine run [2] 60 _ _ _ _ _ _ ?_
        conv => whnf
        refine pk_le (pog (S.2.2.1 1) (S.2.2.1 6) n (nI g)) 1 (fun hc => ?_) (fun hc => ?_)
        · rw [ifl_f (by omega), tks_0] at ih
          conv => whnf
          exact sub [0, 1, 2] _ _ _ _ _ _ _ rfl ih
        · rw [ifl_t (by omega), tks_1] at ih
          conv => whnf
          refine ⟨(wt, nI g, nI (pog (S.2.2.1 1) (S.2.2.1 6) n (nI g)), xf S Y), rfl, rfl, trivial, ?_⟩
          rintro _ _ ⟨rfl, rfl⟩
          conv => whnf
          exact sub [0, 1, 2] _ _ _ _ _ _ _ rfl ih
      refine run [2, 13] 60 _ _ _ _ _ _ ?_
      conv => whnf
      refine pk_le 30 g (fun h => absurd h (by omega)) (fun h => ?_)
      conv => whnf
      exact inner1 g Y hg h94)
  refine run [2] 60 _ _ _ _ _ _ ?_
  conv => whnf
  exact outer 0 (by omega)
theorem ct_X7_groups (D : va_G) (dT : Nat → Nat) (l : Launch) : en_CT en_WD D vwCl dT l yX7_groups cX7_groups 7 (none) rm_X7_groups f_X7_groups := en_met en_WD1 en_WD2 (by decide) rfl rfl (tB_X7_groups D dT l) (en_f_ln (fun _ => Nat.le_of_ble_eq_true rfl)) (en_f_bd bd_X7_groups)
set_option maxRecDepth 100000 in
theorem mk_X7_groups {D : va_G} {dT : Nat → Nat} {l : Launch} {R : Room} {s : State} {args : Array Value} {own : String} {idx : Nat} (h : en_WD s) (h1 : rm_X7_groups.frames + 1 ≤ R.frames) (h2 : 8 + (7 + 11) + rm_X7_groups.locals ≤ R.locals) (hl : (Jvm.Cond.methodLink own idx yX7_groups).before args s = true ∨ ∃ host, (Jvm.Cond.methodLinkNest own idx yX7_groups host).before args s = true) : en_mok en_WD D vwCl dT l R s args own (idx, 2, 9, 0, 0, f_X7_groups) :=
  ⟨yX7_groups, cX7_groups, 7, none, rm_X7_groups, 1, ct_X7_groups D dT l, rfl, rfl, h1, h2, en_wd h 978 rfl rfl args, en_wd h 66 (by decide +kernel) rfl args, by decide, by decide, hl, ⟨RX7, TX7, 24, rfl, en_wd h 977 (by decide +kernel) rfl args, en_wd h 53 (by decide +kernel) rfl args, rfl⟩⟩
def f_X7_late := en_f (σ := Nat × Int32 × Sx) (fun x => [.ref 0, .int x.2.1]) (fun x => wM x.2.2) (fun x => x.1 ≤ 100 ∧ x.2.2.1 0 = nI x.1) (fun x v w => v = none ∧ w = wM (xf x.2.2 (tks x.2.1 (s3 x.2.2) (Llate (x.2.2.2.2.1 6) (x.2.2.2.2.1 3) (elt (x.2.2.2.2.1 6) (x.2.2.2.2.1 3) x.1) x.1))))
def rm_X7_late : Room := { frames := 1, cells := 0, slots := 0, locals := 23 }
def t_X7_late : en_T := ((4, 0, 0), tb_X7_late, fl_X7, cn_X7, [(157, 4, 9, 0, 0, f_X7_tell)], [], 0, none)
set_option maxRecDepth 100000 in
theorem tB_X7_late (D : va_G) (dT : Nat → Nat) (l : Launch) : en_TB en_WD D vwCl dT l rm_X7_late t_X7_late RX7 "late" cX7_late := ⟨tk_X7_late, fun s args meth h hn => ⟨fo_X7 h args meth, co_X7 h args, List.forall_mem_cons.mpr ⟨mk_X7_tell (own := RX7) h (Nat.le_of_ble_eq_true rfl) (Nat.le_of_ble_eq_true rfl) (Or.inl (en_wd h 971 (by decide +kernel) rfl args)), fun _ h => absurd h List.not_mem_nil⟩, fun _ h => absurd h List.not_mem_nil, Or.inl rfl, en_arr h args⟩⟩
set_option maxHeartbeats 4000000 in
set_option maxRecDepth 100000 in
theorem bd_X7_late : en_B (σ := Nat × Int32 × Sx) t_X7_late (fun x => [.ref 0, .int x.2.1]) (fun x => wM x.2.2) (fun x => x.1 ≤ 100 ∧ x.2.2.1 0 = nI x.1) (fun x v w => v = none ∧ w = wM (xf x.2.2 (tks x.2.1 (s3 x.2.2) (Llate (x.2.2.2.2.1 6) (x.2.2.2.2.1 3) (elt (x.2.2.2.2.1 6) (x.2.2.2.2.1 3) x.1) x.1)))) := by
  rintro ⟨n, wt, S⟩ ⟨hn, h1⟩ G hG OK ⟨run, sub⟩
  dsimp only at hn h1 hG ⊢
  have hei := elt_in (S.2.2.1 6) (S.2.2.1 3) n
  have second : OK 0 0 55 [(0, .ref 0), (1, .int wt), (2, .int (elt (S.2.2.1 6) (S.2.2.1 3) n)), (3, .int (nI 0))] [] (wM S) := by
    generalize elt (S.2.2.1 6) (S.2.2.1 3) n = e at hei hG ⊢
    unfold Llate at hG
    by_cases he : e = -1
    · rw [if_pos he, tks_0] at hG
      refine run [] 60 _ _ _ _ _ _ ?_
      conv => whnf
      refine ⟨fun h => ?_, fun h => ?_⟩
      · conv => whnf
        exact hG _ _ ⟨rfl, rfl⟩
      · conv => whnf
        refine ⟨fun h => ?_, fun h => absurd he h⟩
        conv => whnf
        exact hG _ _ ⟨rfl, rfl⟩
    · rw [if_neg he] at hG
      obtain ⟨q, hq, hqe⟩ := hei.resolve_left he
      have hinq : vp_in e 100 := by rw [hqe]; exact vp_in_nI (by omega) (by decide)
      have loop := lp_up (fun i => OK 0 0 55 [(0, .ref 0), (1, .int wt), (2, .int e), (3, .int (nI i))] [] (wM (xf S (tks wt (s3 S) (lsn (fun r => ifl (S.2.2.1 6 r = 0 ∧ ¬ S.2.2.1 3 r < S.2.2.1 3 (tn e)) (nI r) e) i))))) n
        (by
          generalize tks wt (s3 S) (lsn (fun r => ifl (S.2.2.1 6 r = 0 ∧ ¬ S.2.2.1 3 r < S.2.2.1 3 (tn e)) (nI r) e) n) = Y at hG ⊢
          refine run [55] 60 _ _ _ _ _ _ ?_
          conv => whnf
          refine pk_le n n (fun h => ?_) (fun h => absurd h (by omega)) h1
          conv => whnf
          exact hG _ _ ⟨rfl, rfl⟩)
        (fun i hi ih => by
          simp only [lsn] at ih
          rw [tks_app, nI_succ] at ih
          generalize tks wt (s3 S) (lsn (fun r => ifl (S.2.2.1 6 r = 0 ∧ ¬ S.2.2.1 3 r < S.2.2.1 3 (tn e)) (nI r) e) i) = Y at ih ⊢
          refine run [55] 60 _ _ _ _ _ _ ?_
          conv => whnf
          refine pk_le n i (fun h => absurd h (by omega)) (fun h => ?_) h1
          conv => whnf
          refine ⟨fun z => absurd z he, fun _ => ?_⟩
          conv => whnf
          refine ⟨vp_in_nI (by omega) (by decide), ?_⟩
          rw [nI_clamp (by omega)]
          conv => whnf
          refine ⟨fun hp => ?_, fun hp => ?_⟩
          · rw [ifl_f (fun z => hp z.1), tks_0] at ih
            conv => whnf
            exact ih
          · conv => whnf
            refine ⟨vp_in_nI (by omega) (by decide), ?_⟩
            rw [nI_clamp (by omega)]
            conv => whnf
            refine ⟨hinq, ?_⟩
            conv => whnf
            refine ⟨fun ht => ?_, fun ht => ?_⟩
            · have ht : S.2.2.1 3 i < S.2.2.1 3 (tn e) := ht
              rw [ifl_f (fun z => z.2 ht), tks_0] at ih
              conv => whnf
              exact ih
            · have ht : ¬ S.2.2.1 3 i < S.2.2.1 3 (tn e) := ht
              rw [ifl_t ⟨hp, ht⟩, tks_1] at ih
              conv => whnf
              refine ⟨(wt, nI i, e, xf S Y), rfl, rfl, trivial, ?_⟩
              rintro _ _ ⟨rfl, rfl⟩
              conv => whnf
              exact ih)
      exact loop 0 (by omega)
  have loop := lp_up (fun i => OK 0 0 4 [(0, .ref 0), (1, .int wt), (2, .int (elt (S.2.2.1 6) (S.2.2.1 3) i)), (3, .int (nI i))] [] (wM S)) n
    (by
      refine run [4, 55] 60 _ _ _ _ _ _ ?_
      conv => whnf
      refine pk_le n n (fun h => ?_) (fun h => absurd h (by omega)) h1
      conv => whnf
      exact second)
    (fun i hi ih => by
      rw [nI_succ] at ih
      simp only [elt] at ih
      have hei := elt_in (S.2.2.1 6) (S.2.2.1 3) i
      generalize elt (S.2.2.1 6) (S.2.2.1 3) i = e at hei ih ⊢
      refine run [4, 55] 60 _ _ _ _ _ _ ?_
      conv => whnf
      refine pk_le n i (fun h => absurd h (by omega)) (fun h => ?_) h1
      conv => whnf
      refine ⟨vp_in_nI (by omega) (by decide), ?_⟩
      rw [nI_clamp (by omega)]
      conv => whnf
      refine ⟨fun hp => ?_, fun hp => ?_⟩
      · rw [if_neg (fun z => absurd z.1 (Int32.not_lt.mpr hp))] at ih
        conv => whnf
        exact ih
      · have hp : 0 < S.2.2.1 6 i := Int32.not_le.mp hp
        conv => whnf
        refine ⟨fun he => ?_, fun he => ?_⟩
        · rw [if_pos ⟨hp, Or.inl he⟩] at ih
          conv => whnf
          exact ih
        · obtain ⟨q, hq, rfl⟩ := hei.resolve_left he
          conv => whnf
          refine ⟨vp_in_nI (by omega) (by decide), ?_⟩
          rw [nI_clamp (by omega)]
          conv => whnf
          refine ⟨vp_in_nI (by omega) (by decide), ?_⟩
          conv => whnf
          refine ⟨fun ht => ?_, fun ht => ?_⟩
          · have ht : S.2.2.1 3 (tn (nI q)) ≤ S.2.2.1 3 i := ht
            rw [if_neg (fun z => z.2.elim he (fun w => absurd w (Int32.not_lt.mpr ht)))] at ih
            conv => whnf
            exact ih
          · have ht : ¬ S.2.2.1 3 (tn (nI q)) ≤ S.2.2.1 3 i := ht
            rw [if_pos ⟨hp, Or.inr (Int32.not_le.mp ht)⟩] at ih
            conv => whnf
            exact ih)
  refine run [4] 60 _ _ _ _ _ _ ?_
  conv => whnf
  exact loop 0 (by omega)
theorem ct_X7_late (D : va_G) (dT : Nat → Nat) (l : Launch) : en_CT en_WD D vwCl dT l yX7_late cX7_late 4 (none) rm_X7_late f_X7_late := en_met en_WD1 en_WD2 (by decide) rfl rfl (tB_X7_late D dT l) (en_f_ln (fun _ => Nat.le_of_ble_eq_true rfl)) (en_f_bd bd_X7_late)
set_option maxRecDepth 100000 in
theorem mk_X7_late {D : va_G} {dT : Nat → Nat} {l : Launch} {R : Room} {s : State} {args : Array Value} {own : String} {idx : Nat} (h : en_WD s) (h1 : rm_X7_late.frames + 1 ≤ R.frames) (h2 : 8 + (4 + 11) + rm_X7_late.locals ≤ R.locals) (hl : (Jvm.Cond.methodLink own idx yX7_late).before args s = true ∨ ∃ host, (Jvm.Cond.methodLinkNest own idx yX7_late host).before args s = true) : en_mok en_WD D vwCl dT l R s args own (idx, 2, 9, 0, 0, f_X7_late) :=
  ⟨yX7_late, cX7_late, 4, none, rm_X7_late, 1, ct_X7_late D dT l, rfl, rfl, h1, h2, en_wd h 982 rfl rfl args, en_wd h 66 (by decide +kernel) rfl args, by decide, by decide, hl, ⟨RX7, TX7, 24, rfl, en_wd h 981 (by decide +kernel) rfl args, en_wd h 54 (by decide +kernel) rfl args, rfl⟩⟩
end
section
/-! the reference: steps, digests, meets, told -/
theorem chn_m1 {By Ft : Nat → Int32} {r : Nat} : ∀ f, chn By Ft r f (-1) = false
  | 0 => rfl
  | f + 1 => rfl
theorem nI_ne {j : Nat} (hj : j < 2 ^ 31) : ¬ nI j = -1 := fun e => absurd (show nI j < 0 by rw [e]; decide) (nI_pos hj)
/-- enough fuel is enough -/
theorem chn_more {By Ft : Nat → Int32} {r : Nat} (hby : byok By) : ∀ (j : Nat), j < 8 → ∀ f, j < f → chn By Ft r f (nI j) = chn By Ft r (j + 1) (nI j) := by
  intro j
  induction j using Nat.strongRecOn with
  | ind j ih =>
    intro hj f hf
    obtain ⟨g, rfl⟩ : ∃ g, f = g + 1 := ⟨f - 1, by omega⟩
    rw [chn_s (by omega) (nI_ne (by omega)), chn_s (by omega) (nI_ne (by omega))]
    congr 1
    rcases hby j hj with h | ⟨q, hq, h⟩
    · rw [h, chn_m1, chn_m1]
    · rw [h, ih q hq (by omega) g (by omega), ih q hq (by omega) j (by omega)]
def f_X7_steps := en_f (σ := Nat × Int32 × Sx) (fun x => [.ref 0, .int x.2.1]) (fun x => wM x.2.2) (fun x => x.1 ≤ 100 ∧ x.2.2.1 0 = nI x.1 ∧ byok (x.2.2.2.2.1 9)) (fun x v w => v = none ∧ w = wM (xf x.2.2 (tks x.2.1 (s3 x.2.2) (Lfit (x.2.2.2.2.1 9) (x.2.2.2.2.1 8) (x.2.2.2.2.1 6) x.1))))
def rm_X7_steps : Room := { frames := 1, cells := 0, slots := 0, locals := 23 }
def t_X7_steps : en_T := ((6, 0, 0), tb_X7_steps, fl_X7, cn_X7, [(157, 4, 9, 0, 0, f_X7_tell)], [], 0, none)
set_option maxRecDepth 100000 in
theorem tB_X7_steps (D : va_G) (dT : Nat → Nat) (l : Launch) : en_TB en_WD D vwCl dT l rm_X7_steps t_X7_steps RX7 "steps" cX7_steps := ⟨tk_X7_steps, fun s args meth h hn => ⟨fo_X7 h args meth, co_X7 h args, List.forall_mem_cons.mpr ⟨mk_X7_tell (own := RX7) h (Nat.le_of_ble_eq_true rfl) (Nat.le_of_ble_eq_true rfl) (Or.inl (en_wd h 971 (by decide +kernel) rfl args)), fun _ h => absurd h List.not_mem_nil⟩, fun _ h => absurd h List.not_mem_nil, Or.inl rfl, en_arr h args⟩⟩
set_option maxHeartbeats 4000000 in
set_option maxRecDepth 100000 in
theorem bd_X7_steps : en_B (σ := Nat × Int32 × Sx) t_X7_steps (fun x => [.ref 0, .int x.2.1]) (fun x => wM x.2.2) (fun x => x.1 ≤ 100 ∧ x.2.2.1 0 = nI x.1 ∧ byok (x.2.2.2.2.1 9)) (fun x v w => v = none ∧ w = wM (xf x.2.2 (tks x.2.1 (s3 x.2.2) (Lfit (x.2.2.2.2.1 9) (x.2.2.2.2.1 8) (x.2.2.2.2.1 6) x.1)))) := by
  rintro ⟨n, wt, S⟩ ⟨hn, h1, hby⟩ G hG OK ⟨run, sub⟩
  dsimp only at hn h1 hby hG ⊢
  unfold Lfit at hG
  have walk : ∀ (s r : Nat) (Y : Int32 × Int32 × Int32), s < 8 → r < n → ∀ (j : Nat), j < 8 → ∀ (acc : Bool), OK 0 0 69 [(0, .ref 0), (1, .int wt), (2, .int (nI s)), (3, .int (nI r)), (4, .int (bl ((acc || chn (S.2.2.1 9) (S.2.2.1 8) r (j + 1) (nI j)) = true)))] [] (wM (xf S Y)) → OK 0 0 24 [(0, .ref 0), (1, .int wt), (2, .int (nI s)), (3, .int (nI r)), (4, .int (bl (acc = true))), (5, .int (nI j))] [] (wM (xf S Y)) := by
    intro s r Y hs hr j
    induction j using Nat.strongRecOn with
    | ind j ih =>
      intro hj acc hE
      rw [chn_s (by omega) (nI_ne (by omega))] at hE
      have hne : ¬ nI j = -1 := nI_ne (by omega)
      have step : ∀ acc2 : Bool, (acc2 = (acc || decide (S.2.2.1 8 (j * 100 + r) ≠ 0))) → OK 0 0 57 [(0, .ref 0), (1, .int wt), (2, .int (nI s)), (3, .int (nI r)), (4, .int (bl (acc2 = true))), (5, .int (nI j))] [] (wM (xf S Y)) := by
        intro acc2 ha2
        rw [← Bool.or_assoc, ← ha2] at hE
        refine run [24] 60 _ _ _ _ _ _ ?_
        conv => whnf
        refine ⟨vp_in_nI (by omega) (by decide), ?_⟩
        rw [nI_clamp (by omega)]
        rcases hby j hj with h | ⟨q, hq, h⟩
        · rw [h, chn_m1, Bool.or_false] at hE
          conv => whnf
          refine Eq.mp ?_ (show OK 0 0 24 [(0, .ref 0), (1, .int wt), (2, .int (nI s)), (3, .int (nI r)), (4, .int (bl (acc2 = true))), (5, .int (-1))] [] (wM (xf S Y)) from ?_)
          · rw [← h]; rfl
          · refine run [69] 60 _ _ _ _ _ _ ?_
            conv => whnf
            refine ⟨fun _ => ?_, fun z => absurd rfl z⟩
            conv => whnf
            exact sub [0, 1, 2, 3, 4] _ _ _ _ _ _ _ rfl hE
        · rw [h, chn_more hby q (by omega) j hq] at hE
          have h2 := ih q hq (by omega) acc2 hE
          conv => whnf
          refine Eq.mp ?_ h2
          rw [← h]; rfl
      refine run [57] 60 _ _ _ _ _ _ ?_
      conv => whnf
      refine ⟨fun z => absurd z hne, fun _ => ?_⟩
      conv => whnf
      refine bl_br2 (fun ha => ?_) (fun ha => ?_)
      · have h2 := step true (by rw [ha]; rfl)
        conv => whnf
        exact h2
      · have ha : acc = false := by simpa using ha
        conv => whnf
        rw [mul100']
        refine ⟨vp_in_nI (by omega) (by decide), ?_⟩
        rw [nI_clamp (by omega)]
        conv => whnf
        refine ⟨fun hc => ?_, fun hc => ?_⟩
        · have hc : S.2.2.1 8 (j * 100 + r) = 0 := hc
          have h2 := step false (by rw [ha]; simp [hc])
          conv => whnf
          exact h2
        · have hc : ¬ S.2.2.1 8 (j * 100 + r) = 0 := hc
          have h2 := step true (by rw [ha]; simp [hc])
          conv => whnf
          exact h2
  have outer := lp_up (fun s => OK 0 0 2 [(0, .ref 0), (1, .int wt), (2, .int (nI s))] [] (wM (xf S (tks wt (s3 S) (lsn (fun s => lsn (fun r => ifl (0 < S.2.2.1 6 r ∧ chn (S.2.2.1 9) (S.2.2.1 8) r 8 (nI s) = true) (nI s) (nI r)) n) s))))) 8
    (by
      generalize tks wt (s3 S) (lsn (fun s => lsn (fun r => ifl (0 < S.2.2.1 6 r ∧ chn (S.2.2.1 9) (S.2.2.1 8) r 8 (nI s) = true) (nI s) (nI r)) n) 8) = Y at hG ⊢
      refine run [2] 60 _ _ _ _ _ _ ?_
      conv => whnf
      refine pk_le 8 8 (fun h => ?_) (fun h => absurd h (by omega))
      conv => whnf
      exact hG _ _ ⟨rfl, rfl⟩)
    (fun s hs ih => by
      simp only [lsn] at ih
      rw [tks_app, nI_succ] at ih
      generalize tks wt (s3 S) (lsn (fun s => lsn (fun r => ifl (0 < S.2.2.1 6 r ∧ chn (S.2.2.1 9) (S.2.2.1 8) r 8 (nI s) = true) (nI s) (nI r)) n) s) = Y at ih ⊢
      have inner := lp_up (fun r => OK 0 0 10 [(0, .ref 0), (1, .int wt), (2, .int (nI s)), (3, .int (nI r))] [] (wM (xf S (tks wt Y (lsn (fun r => ifl (0 < S.2.2.1 6 r ∧ chn (S.2.2.1 9) (S.2.2.1 8) r 8 (nI s) = true) (nI s) (nI r)) r))))) n
        (by
          generalize tks wt Y (lsn (fun r => ifl (0 < S.2.2.1 6 r ∧ chn (S.2.2.1 9) (S.2.2.1 8) r 8 (nI s) = true) (nI s) (nI r)) n) = X at ih ⊢
          refine run [2, 10] 60 _ _ _ _ _ _ ?_
          conv => whnf
          refine pk_le n n (fun h => ?_) (fun h => absurd h (by omega)) h1
          conv => whnf
          exact sub [0, 1, 2] _ _ _ _ _ _ _ rfl ih)
        (fun r hr ihr => by
          simp only [lsn] at ihr
          rw [tks_app, nI_succ] at ihr
          generalize tks wt Y (lsn (fun r => ifl (0 < S.2.2.1 6 r ∧ chn (S.2.2.1 9) (S.2.2.1 8) r 8 (nI s) = true) (nI s) (nI r)) r) = X at ihr ⊢
          rw [chn_more hby s hs 8 hs] at ihr
          have h69 : OK 0 0 69 [(0, .ref 0), (1, .int wt), (2, .int (nI s)), (3, .int (nI r)), (4, .int (bl ((false || chn (S.2.2.1 9) (S.2.2.1 8) r (s + 1) (nI s)) = true)))] [] (wM (xf S X)) := by
            rw [Bool.false_or]
            generalize chn (S.2.2.1 9) (S.2.2.1 8) r (s + 1) (nI s) = C at ihr ⊢
            refine run [10] 60 _ _ _ _ _ _ ?_
            conv => whnf
            refine bl_br (fun hc => ?_) (fun hc => ?_)
            · rw [ifl_f (fun z => hc z.2), tks_0] at ihr
              conv => whnf
              exact sub [0, 1, 2, 3] _ _ _ _ _ _ _ rfl ihr
            · conv => whnf
              refine ⟨vp_in_nI (by omega) (by decide), ?_⟩
              rw [nI_clamp (by omega)]
              conv => whnf
              refine ⟨fun hp => ?_, fun hp => ?_⟩
              · have hp : S.2.2.1 6 r ≤ 0 := hp
                rw [ifl_f (fun z => absurd z.1 (Int32.not_lt.mpr hp)), tks_0] at ihr
                conv => whnf
                exact sub [0, 1, 2, 3] _ _ _ _ _ _ _ rfl ihr
              · have hp : ¬ S.2.2.1 6 r ≤ 0 := hp
                rw [ifl_t ⟨Int32.not_le.mp hp, hc⟩, tks_1] at ihr
                conv => whnf
                refine ⟨(wt, nI s, nI r, xf S X), rfl, rfl, trivial, ?_⟩
                rintro _ _ ⟨rfl, rfl⟩
                conv => whnf
                exact sub [0, 1, 2, 3] _ _ _ _ _ _ _ rfl ihr
          have h24 := walk s r X hs hr s hs false h69
          refine run [2, 10, 24] 60 _ _ _ _ _ _ ?_
          conv => whnf
          refine pk_le n r (fun h => absurd h (by omega)) (fun h => ?_) h1
          conv => whnf
          exact h24)
      refine run [2, 10] 60 _ _ _ _ _ _ ?_
      conv => whnf
      refine pk_le 8 s (fun h => absurd h (by omega)) (fun h => ?_)
      conv => whnf
      exact inner 0 (by omega))
  refine run [2] 60 _ _ _ _ _ _ ?_
  conv => whnf
  exact outer 0 (by omega)
theorem ct_X7_steps (D : va_G) (dT : Nat → Nat) (l : Launch) : en_CT en_WD D vwCl dT l yX7_steps cX7_steps 6 (none) rm_X7_steps f_X7_steps := en_met en_WD1 en_WD2 (by decide) rfl rfl (tB_X7_steps D dT l) (en_f_ln (fun _ => Nat.le_of_ble_eq_true rfl)) (en_f_bd bd_X7_steps)
set_option maxRecDepth 100000 in
theorem mk_X7_steps {D : va_G} {dT : Nat → Nat} {l : Launch} {R : Room} {s : State} {args : Array Value} {own : String} {idx : Nat} (h : en_WD s) (h1 : rm_X7_steps.frames + 1 ≤ R.frames) (h2 : 8 + (6 + 11) + rm_X7_steps.locals ≤ R.locals) (hl : (Jvm.Cond.methodLink own idx yX7_steps).before args s = true ∨ ∃ host, (Jvm.Cond.methodLinkNest own idx yX7_steps host).before args s = true) : en_mok en_WD D vwCl dT l R s args own (idx, 2, 9, 0, 0, f_X7_steps) :=
  ⟨yX7_steps, cX7_steps, 6, none, rm_X7_steps, 1, ct_X7_steps D dT l, rfl, rfl, h1, h2, en_wd h 990 rfl rfl args, en_wd h 66 (by decide +kernel) rfl args, by decide, by decide, hl, ⟨RX7, TX7, 24, rfl, en_wd h 989 (by decide +kernel) rfl args, en_wd h 56 (by decide +kernel) rfl args, rfl⟩⟩
def f_X7_digest := en_f (σ := Nat × Sx) (fun x => [.ref 0, .int (nI x.1)]) (fun x => wM x.2) (fun x => x.1 < 100) (fun x v w => v = some (.int (dig (x.2.2.2.2 4) (x.2.2.2.2 5) x.1)) ∧ w = wM x.2)
def rm_X7_digest : Room := { frames := 0, cells := 0, slots := 0, locals := 0 }
def t_X7_digest : en_T := ((5, 0, 0), tb_X7_digest, fl_X7, cn_X7, [], [], 0, some .int)
set_option maxRecDepth 100000 in
theorem tB_X7_digest (D : va_G) (dT : Nat → Nat) (l : Launch) : en_TB en_WD D vwCl dT l rm_X7_digest t_X7_digest RX7 "digest" cX7_digest := ⟨tk_X7_digest, fun s args meth h hn => ⟨fo_X7 h args meth, co_X7 h args, fun _ h => absurd h List.not_mem_nil, fun _ h => absurd h List.not_mem_nil, Or.inl rfl, en_arr h args⟩⟩
set_option maxHeartbeats 4000000 in
set_option maxRecDepth 100000 in
theorem bd_X7_digest : en_B (σ := Nat × Sx) t_X7_digest (fun x => [.ref 0, .int (nI x.1)]) (fun x => wM x.2) (fun x => x.1 < 100) (fun x v w => v = some (.int (dig (x.2.2.2.2 4) (x.2.2.2.2 5) x.1)) ∧ w = wM x.2) := by
  rintro ⟨a, S⟩ ha G hG OK ⟨run, sub⟩
  dsimp only at ha hG ⊢
  have loop := lp_up (fun i => OK 0 0 7 [(0, .ref 0), (1, .int (nI a)), (2, .long (dh (S.2.2.2 4) a i)), (4, .int (nI i))] [] (wM S)) 3
    (by
      refine run [7] 60 _ _ _ _ _ _ ?_
      conv => whnf
      refine pk_le 3 3 (fun h => ?_) (fun h => absurd h (by omega))
      conv => whnf
      refine ⟨vp_in_nI ha (by decide), ?_⟩
      rw [nI_clamp (by omega)]
      conv => whnf
      exact hG _ _ ⟨rfl, rfl⟩)
    (fun i hi ih => by
      refine run [7] 60 _ _ _ _ _ _ ?_
      conv => whnf
      refine pk_le 3 i (fun h => absurd h (by omega)) (fun h => ?_)
      conv => whnf
      rw [mul3']
      refine ⟨vp_in_nI (by omega) (by decide), ?_⟩
      rw [nI_clamp (by omega)]
      conv => whnf
      rw [nI_succ] at ih
      exact ih)
  refine run [7] 60 _ _ _ _ _ _ ?_
  conv => whnf
  exact loop 0 (by omega)
theorem ct_X7_digest (D : va_G) (dT : Nat → Nat) (l : Launch) : en_CT en_WD D vwCl dT l yX7_digest cX7_digest 5 (some .int) rm_X7_digest f_X7_digest := en_met en_WD1 en_WD2 (by decide) rfl rfl (tB_X7_digest D dT l) (en_f_ln (fun _ => Nat.le_of_ble_eq_true rfl)) (en_f_bd bd_X7_digest)
set_option maxRecDepth 100000 in
theorem mk_X7_digest {D : va_G} {dT : Nat → Nat} {l : Launch} {R : Room} {s : State} {args : Array Value} {own : String} {idx : Nat} (h : en_WD s) (h1 : rm_X7_digest.frames + 1 ≤ R.frames) (h2 : 8 + (5 + 11) + rm_X7_digest.locals ≤ R.locals) (hl : (Jvm.Cond.methodLink own idx yX7_digest).before args s = true ∨ ∃ host, (Jvm.Cond.methodLinkNest own idx yX7_digest host).before args s = true) : en_mok en_WD D vwCl dT l R s args own (idx, 2, 9, 0, 0, f_X7_digest) :=
  ⟨yX7_digest, cX7_digest, 5, some .int, rm_X7_digest, 1, ct_X7_digest D dT l, rfl, rfl, h1, h2, en_wd h 1002 rfl rfl args, en_wd h 66 (by decide +kernel) rfl args, by decide, by decide, hl, ⟨RX7, TX7, 24, rfl, en_wd h 1001 (by decide +kernel) rfl args, en_wd h 57 (by decide +kernel) rfl args, rfl⟩⟩
abbrev mtm (N Wd : Nat → Int64) (P : Nat → Int32) (a b : Nat) : Prop := a + 1 ≤ b ∧ P a ≠ -1 ∧ P b ≠ -1 ∧ dig N Wd a = dig N Wd b ∧ ¬ alike N Wd a b
def mtsM (N Wd : Nat → Int64) (P : Nat → Int32) (n : Nat) : Nat := sm (fun a => ct (fun b => mtm N Wd P a b) n) n
theorem mts_eq {N Wd : Nat → Int64} {P : Nat → Int32} {n : Nat} : mtsM N Wd P n = mts N Wd P n := by
  unfold mtsM mts
  refine sm_c (fun a _ => ?_)
  by_cases h : P a ≠ -1
  · rw [if_pos h]
    exact ct_c (fun b _ => ⟨fun z => ⟨z.1, z.2.2.2.1, z.2.2.1, z.2.2.2.2⟩, fun z => ⟨z.1, h, z.2.2.1, z.2.1, z.2.2.2⟩⟩)
  · rw [if_neg h]
    exact ct_0 (fun b _ z => h z.2.1)
def f_X7_meets := en_f (σ := Nat × Sx) (fun _ => [.ref 0]) (fun x => wM x.2) (fun x => x.1 ≤ 100 ∧ x.2.1 0 = nI x.1) (fun x v w => ansM v w (nI (mts (x.2.2.2.2 4) (x.2.2.2.2 5) (x.2.2.2.1 6) x.1)) (xi x.2 4 0))
def rm_X7_meets : Room := { frames := 1, cells := 0, slots := 0, locals := 24 }
def t_X7_meets : en_T := ((4, 0, 0), tb_X7_meets, fl_X7, cn_X7, [(187, 2, 9, 0, 0, f_X7_digest), (138, 3, 9, 0, 0, f_X7_isEqual)], [], 0, some .int)
set_option maxRecDepth 100000 in
theorem tB_X7_meets (D : va_G) (dT : Nat → Nat) (l : Launch) : en_TB en_WD D vwCl dT l rm_X7_meets t_X7_meets RX7 "meets" cX7_meets := ⟨tk_X7_meets, fun s args meth h hn => ⟨fo_X7 h args meth, co_X7 h args, List.forall_mem_cons.mpr ⟨mk_X7_digest (own := RX7) h (Nat.le_of_ble_eq_true rfl) (Nat.le_of_ble_eq_true rfl) (Or.inl (en_wd h 999 (by decide +kernel) rfl args)), List.forall_mem_cons.mpr ⟨mk_X7_isEqual (own := RX7) h (Nat.le_of_ble_eq_true rfl) (Nat.le_of_ble_eq_true rfl) (Or.inl (en_wd h 963 (by decide +kernel) rfl args)), fun _ h => absurd h List.not_mem_nil⟩⟩, fun _ h => absurd h List.not_mem_nil, Or.inl rfl, en_arr h args⟩⟩
set_option maxHeartbeats 4000000 in
set_option maxRecDepth 100000 in
theorem bd_X7_meets : en_B (σ := Nat × Sx) t_X7_meets (fun _ => [.ref 0]) (fun x => wM x.2) (fun x => x.1 ≤ 100 ∧ x.2.1 0 = nI x.1) (fun x v w => ansM v w (nI (mts (x.2.2.2.2 4) (x.2.2.2.2 5) (x.2.2.2.1 6) x.1)) (xi x.2 4 0)) := by
  rintro ⟨n, S⟩ ⟨hn, h1⟩ G hG OK ⟨run, sub⟩
  dsimp only at hn h1 hG ⊢
  rw [← mts_eq] at hG
  unfold mtsM at hG
  have outer := lp_up (fun a => OK 0 0 9 [(0, .ref 0), (1, .int (nI (sm (fun a => ct (fun b => mtm (S.2.2.2 4) (S.2.2.2 5) (S.2.2.1 6) a b) n) a))), (2, .int (nI a))] [] (wM (xi S 4 0))) n
    (by
      refine run [9] 60 _ _ _ _ _ _ ?_
      conv => whnf
      refine pk_le n n (fun h => ?_) (fun h => absurd h (by omega)) h1
      conv => whnf
      exact hG _ _ ⟨rfl, rfl⟩)
    (fun a ha ih => by
      rw [nI_succ] at ih
      simp only [sm] at ih
      generalize sm (fun a => ct (fun b => mtm (S.2.2.2 4) (S.2.2.2 5) (S.2.2.1 6) a b) n) a = T at ih ⊢
      have inner := lp_up (fun b => a + 1 ≤ b → OK 0 0 21 [(0, .ref 0), (1, .int (nI (T + ct (fun b => mtm (S.2.2.2 4) (S.2.2.2 5) (S.2.2.1 6) a b) b))), (2, .int (nI a)), (3, .int (nI b))] [] (wM (xi S 4 0))) n
        (fun _ => by
          refine run [9, 21] 60 _ _ _ _ _ _ ?_
          conv => whnf
          refine pk_le n n (fun h => ?_) (fun h => absurd h (by omega)) h1
          conv => whnf
          exact sub [0, 1, 2] _ _ _ _ _ _ _ rfl ih)
        (fun b hb ihb hab => by
          have ihb := ihb (by omega)
          rw [nI_succ] at ihb
          have h0 : ¬ mtm (S.2.2.2 4) (S.2.2.2 5) (S.2.2.1 6) a b → OK 0 0 21 [(0, .ref 0), (1, .int (nI (T + ct (fun b => mtm (S.2.2.2 4) (S.2.2.2 5) (S.2.2.1 6) a b) b) + 0)), (2, .int (nI a)), (3, .int (nI b + 1))] [] (wM (xi S 4 0)) := fun h => by
            rw [ct_f h] at ihb; rw [Int32.add_zero]; exact ihb
          have h1' : mtm (S.2.2.2 4) (S.2.2.2 5) (S.2.2.1 6) a b → OK 0 0 21 [(0, .ref 0), (1, .int (nI (T + ct (fun b => mtm (S.2.2.2 4) (S.2.2.2 5) (S.2.2.1 6) a b) b) + 1)), (2, .int (nI a)), (3, .int (nI b + 1))] [] (wM (xi S 4 0)) := fun h => by
            rw [ct_t h, ← Nat.add_assoc, nI_succ] at ihb; exact ihb
          generalize nI (T + ct (fun b => mtm (S.2.2.2 4) (S.2.2.2 5) (S.2.2.1 6) a b) b) = C at h0 h1' ⊢
          refine run [9, 21] 60 _ _ _ _ _ _ ?_
          conv => whnf
          refine pk_le n b (fun h => absurd h (by omega)) (fun h => ?_) h1
          conv => whnf
          refine ⟨vp_in_nI (by omega) (by decide), ?_⟩
          rw [nI_clamp (by omega)]
          conv => whnf
          refine ⟨fun c1 => ?_, fun c1 => ?_⟩
          · conv => whnf
            exact h0 (fun z => z.2.1 c1)
          · conv => whnf
            refine ⟨vp_in_nI (by omega) (by decide), ?_⟩
            rw [nI_clamp (by omega)]
            conv => whnf
            refine ⟨fun c2 => ?_, fun c2 => ?_⟩
            · conv => whnf
              exact h0 (fun z => z.2.2.1 c2)
            · conv => whnf
              refine ⟨(a, xi S 4 0), rfl, rfl, (by dsimp only; omega), ?_⟩
              rintro _ _ ⟨rfl, rfl⟩
              conv => whnf
              refine ⟨(b, xi S 4 0), rfl, rfl, (by dsimp only; omega), ?_⟩
              rintro _ _ ⟨rfl, rfl⟩
              conv => whnf
              refine ⟨fun c3 => ?_, fun c3 => ?_⟩
              · conv => whnf
                exact h0 (fun z => c3 z.2.2.2.1)
              · conv => whnf
                refine ⟨(a, b, xi S 4 0), rfl, rfl, (by dsimp only; omega), ?_⟩
                rintro _ _ ⟨rfl, rfl⟩
                conv => whnf
                refine bl_br2 (fun c4 => ?_) (fun c4 => ?_)
                · conv => whnf
                  exact h0 (fun z => z.2.2.2.2 c4)
                · conv => whnf
                  exact h1' ⟨hab, c1, c2, c3, c4⟩)
      have hi := inner (a + 1) (by omega) (Nat.le_refl _)
      rw [ct_0 (fun i hi z => by have := z.1; omega), Nat.add_zero, nI_succ] at hi
      refine run [9, 21] 60 _ _ _ _ _ _ ?_
      conv => whnf
      refine pk_le n a (fun h => absurd h (by omega)) (fun h => ?_) h1
      conv => whnf
      exact hi)
  refine run [9] 60 _ _ _ _ _ _ ?_
  conv => whnf
  exact outer 0 (by omega)
theorem ct_X7_meets (D : va_G) (dT : Nat → Nat) (l : Launch) : en_CT en_WD D vwCl dT l yX7_meets cX7_meets 4 (some .int) rm_X7_meets f_X7_meets := en_met en_WD1 en_WD2 (by decide) rfl rfl (tB_X7_meets D dT l) (en_f_ln (fun _ => Nat.le_of_ble_eq_true rfl)) (en_f_bd bd_X7_meets)
set_option maxRecDepth 100000 in
theorem mk_X7_meets {D : va_G} {dT : Nat → Nat} {l : Launch} {R : Room} {s : State} {args : Array Value} {own : String} {idx : Nat} (h : en_WD s) (h1 : rm_X7_meets.frames + 1 ≤ R.frames) (h2 : 8 + (4 + 11) + rm_X7_meets.locals ≤ R.locals) (hl : (Jvm.Cond.methodLink own idx yX7_meets).before args s = true ∨ ∃ host, (Jvm.Cond.methodLinkNest own idx yX7_meets host).before args s = true) : en_mok en_WD D vwCl dT l R s args own (idx, 1, 9, 0, 0, f_X7_meets) :=
  ⟨yX7_meets, cX7_meets, 4, some .int, rm_X7_meets, 0, ct_X7_meets D dT l, rfl, rfl, h1, h2, en_wd h 998 rfl rfl args, en_wd h 66 (by decide +kernel) rfl args, by decide, by decide, hl, ⟨RX7, TX7, 24, rfl, en_wd h 996 (by decide +kernel) rfl args, en_wd h 997 (by decide +kernel) rfl args, rfl⟩⟩
def f_X7_told := en_f (σ := Int32 × Nat × Sx) (fun x => [.ref 0, .int x.1]) (fun x => wM x.2.2) (fun x => x.2.1 ≤ 100 ∧ x.2.2.1 0 = nI x.2.1) (fun x v w => ansM v w (if x.1 = 0 then nI x.2.1 else if x.1 = 1 then x.2.2.1 1 else if x.1 = 2 then x.2.2.1 2 else if x.1 = 3 then nI (ct (fun r => x.2.2.2.2.1 6 r ≠ -1) x.2.1) else if x.1 = 4 then x.2.2.1 3 else -2) (xi x.2.2 4 0))
def rm_X7_told : Room := { frames := 0, cells := 0, slots := 0, locals := 0 }
def t_X7_told : en_T := ((4, 0, 0), tb_X7_told, fl_X7, cn_X7, [], [], 0, some .int)
set_option maxRecDepth 100000 in
theorem tB_X7_told (D : va_G) (dT : Nat → Nat) (l : Launch) : en_TB en_WD D vwCl dT l rm_X7_told t_X7_told RX7 "told" cX7_told := ⟨tk_X7_told, fun s args meth h hn => ⟨fo_X7 h args meth, co_X7 h args, fun _ h => absurd h List.not_mem_nil, fun _ h => absurd h List.not_mem_nil, Or.inl rfl, en_arr h args⟩⟩
set_option maxHeartbeats 4000000 in
set_option maxRecDepth 100000 in
theorem bd_X7_told : en_B (σ := Int32 × Nat × Sx) t_X7_told (fun x => [.ref 0, .int x.1]) (fun x => wM x.2.2) (fun x => x.2.1 ≤ 100 ∧ x.2.2.1 0 = nI x.2.1) (fun x v w => ansM v w (if x.1 = 0 then nI x.2.1 else if x.1 = 1 then x.2.2.1 1 else if x.1 = 2 then x.2.2.1 2 else if x.1 = 3 then nI (ct (fun r => x.2.2.2.2.1 6 r ≠ -1) x.2.1) else if x.1 = 4 then x.2.2.1 3 else -2) (xi x.2.2 4 0)) := by
  rintro ⟨x, n, S⟩ ⟨hn, h1⟩ G hG OK ⟨run, sub⟩
  dsimp only at hn h1 hG ⊢
  have tail : OK 0 0 41 [(0, .ref 0), (1, .int x), (2, .int (nI (ct (fun r => S.2.2.1 6 r ≠ -1) n)))] [] (wM (xi S 4 0)) := by
    refine run [] 60 _ _ _ _ _ _ ?_
    conv => whnf
    refine ⟨fun c0 => ?_, fun c0 => ?_⟩
    · have c0 : ¬ x = 0 := c0
      rw [if_neg c0] at hG
      conv => whnf
      refine ⟨fun c1 => ?_, fun c1 => ?_⟩
      · have c1 : ¬ x = 1 := c1
        rw [if_neg c1] at hG
        conv => whnf
        refine ⟨fun c2 => ?_, fun c2 => ?_⟩
        · have c2 : ¬ x = 2 := c2
          rw [if_neg c2] at hG
          conv => whnf
          refine ⟨fun c3 => ?_, fun c3 => ?_⟩
          · have c3 : ¬ x = 3 := c3
            rw [if_neg c3] at hG
            conv => whnf
            refine ⟨fun c4 => ?_, fun c4 => ?_⟩
            · have c4 : ¬ x = 4 := c4
              rw [if_neg c4] at hG
              conv => whnf
              exact hG _ _ ⟨rfl, rfl⟩
            · have c4 : x = 4 := c4
              rw [if_pos c4] at hG
              conv => whnf
              exact hG _ _ ⟨rfl, rfl⟩
          · have c3 : x = 3 := c3
            rw [if_pos c3] at hG
            conv => whnf
            exact hG _ _ ⟨rfl, rfl⟩
        · have c2 : x = 2 := c2
          rw [if_pos c2] at hG
          conv => whnf
          exact hG _ _ ⟨rfl, rfl⟩
      · have c1 : x = 1 := c1
        rw [if_pos c1] at hG
        conv => whnf
        exact hG _ _ ⟨rfl, rfl⟩
    · have c0 : x = 0 := c0
      rw [if_pos c0, ← h1] at hG
      conv => whnf
      exact hG _ _ ⟨rfl, rfl⟩
  have loop := lp_up (fun i => OK 0 0 9 [(0, .ref 0), (1, .int x), (2, .int (nI (ct (fun r => S.2.2.1 6 r ≠ -1) i))), (3, .int (nI i))] [] (wM (xi S 4 0))) n
    (by
      refine run [9, 41] 60 _ _ _ _ _ _ ?_
      conv => whnf
      refine pk_le n n (fun h => ?_) (fun h => absurd h (by omega)) h1
      conv => whnf
      exact sub [0, 1, 2] _ _ _ _ _ _ _ rfl tail)
    (fun i hi ih => by
      rw [nI_succ] at ih
      refine run [9, 41] 60 _ _ _ _ _ _ ?_
      conv => whnf
      refine pk_le n i (fun h => absurd h (by omega)) (fun h => ?_) h1
      conv => whnf
      refine ⟨vp_in_nI (by omega) (by decide), ?_⟩
      rw [nI_clamp (by omega)]
      conv => whnf
      refine ⟨fun hp => ?_, fun hp => ?_⟩
      · rw [ct_f (p := fun r => S.2.2.1 6 r ≠ -1) (fun z => z hp), ← Int32.add_zero (nI (ct (fun r => S.2.2.1 6 r ≠ -1) i))] at ih
        conv => whnf
        exact ih
      · rw [ct_t (p := fun r => S.2.2.1 6 r ≠ -1) hp, nI_succ] at ih
        conv => whnf
        exact ih)
  refine run [9] 60 _ _ _ _ _ _ ?_
  conv => whnf
  exact loop 0 (by omega)
theorem ct_X7_told (D : va_G) (dT : Nat → Nat) (l : Launch) : en_CT en_WD D vwCl dT l yX7_told cX7_told 4 (some .int) rm_X7_told f_X7_told := en_met en_WD1 en_WD2 (by decide) rfl rfl (tB_X7_told D dT l) (en_f_ln (fun _ => Nat.le_of_ble_eq_true rfl)) (en_f_bd bd_X7_told)
set_option maxRecDepth 100000 in
theorem mk_X7_told {D : va_G} {dT : Nat → Nat} {l : Launch} {R : Room} {s : State} {args : Array Value} {own : String} {idx : Nat} (h : en_WD s) (h1 : rm_X7_told.frames + 1 ≤ R.frames) (h2 : 8 + (4 + 11) + rm_X7_told.locals ≤ R.locals) (hl : (Jvm.Cond.methodLink own idx yX7_told).before args s = true ∨ ∃ host, (Jvm.Cond.methodLinkNest own idx yX7_told host).before args s = true) : en_mok en_WD D vwCl dT l R s args own (idx, 2, 9, 0, 0, f_X7_told) :=
  ⟨yX7_told, cX7_told, 4, some .int, rm_X7_told, 1, ct_X7_told D dT l, rfl, rfl, h1, h2, en_wd h 1009 rfl rfl args, en_wd h 66 (by decide +kernel) rfl args, by decide, by decide, hl, ⟨RX7, TX7, 24, rfl, en_wd h 1007 (by decide +kernel) rfl args, en_wd h 1008 (by decide +kernel) rfl args, rfl⟩⟩
end
section
/-! the reference: quotas -/
def wgm (S : Sx) (w : Nat → Nat) (W k : Nat) : Prop := wok w W k ∧ S.1 1 = nI k ∧ S.1 2 = nI W ∧ ∀ j, j < k → S.2.2.1 7 j = nI (w j)
theorem qi_r (w : Nat → Nat) (W n k : Nat) : ∀ i j, (qi k i (q0 w W n)).2 j = -1 ∨ (qi k i (q0 w W n)).2 j = nI (n * w j % W)
  | 0, j => Or.inr rfl
  | i + 1, j => by
    show upd (qi k i (q0 w W n)).2 (ag (qi k i (q0 w W n)).2 (k - 1)) (-1) j = -1 ∨ _ = _
    by_cases e : j = ag (qi k i (q0 w W n)).2 (k - 1)
    · left; rw [e, pk_us]
    · have h : (qi k (i + 1) (q0 w W n)).2 j = (qi k i (q0 w W n)).2 j := pk_un e
      rw [h, pk_un e]
      exact qi_r w W n k i j
theorem ct_one {p q : Nat → Prop} [DecidablePred p] [DecidablePred q] {a : Nat} (h : ∀ j, p j → q j ∨ j = a) : ∀ n, ct p n ≤ ct q n + (if a < n then 1 else 0)
  | 0 => by simp [ct]
  | n + 1 => by
    have ih := ct_one h n
    by_cases hp : p n
    · rw [ct_t hp]
      by_cases hq : q n
      · rw [ct_t hq]
        by_cases e : a < n
        · rw [if_pos e] at ih; rw [if_pos (by omega)]; omega
        · rw [if_neg e] at ih; omega
      · have e := (h n hp).resolve_left hq
        rw [ct_f hq, if_pos (by omega)]
        rw [if_neg (by omega)] at ih
        omega
    · rw [ct_f hp]
      have : ct q n ≤ ct q (n + 1) := by
        by_cases hq : q n
        · rw [ct_t hq]; omega
        · rw [ct_f hq]; omega
      by_cases e : a < n
      · rw [if_pos e] at ih; rw [if_pos (by omega)]; omega
      · rw [if_neg e] at ih; omega
theorem qi_n (w : Nat → Nat) (W n k : Nat) (hW : 0 < W) (hW4 : W ≤ 4000) : ∀ i, ct (fun j => (qi k i (q0 w W n)).2 j = -1) k ≤ i
  | 0 => by
    rw [ct_0]
    · exact Nat.le_refl 0
    · intro j _ h
      have h : nI (n * w j % W) = -1 := h
      have := Nat.mod_lt (n * w j) hW
      exact nI_ne (by omega) h
  | i + 1 => by
    have ih := qi_n w W n k hW hW4 i
    have h := ct_one (p := fun j => (qi k (i + 1) (q0 w W n)).2 j = -1) (q := fun j => (qi k i (q0 w W n)).2 j = -1) (a := ag (qi k i (q0 w W n)).2 (k - 1)) (fun j hj => by
      by_cases e : j = ag (qi k i (q0 w W n)).2 (k - 1)
      · exact Or.inr e
      · have h2 : (qi k (i + 1) (q0 w W n)).2 j = (qi k i (q0 w W n)).2 j := pk_un e
        rw [h2] at hj
        exact Or.inl hj) k
    have h3 : (if ag (qi k i (q0 w W n)).2 (k - 1) < k then 1 else 0) ≤ 1 := by split <;> omega
    omega
theorem ct_all {p : Nat → Prop} [DecidablePred p] : ∀ {n : Nat}, (∀ j, j < n → p j) → ct p n = n
  | 0, _ => rfl
  | n + 1, h => by rw [ct_t (h n (by omega)), ct_all (fun j hj => h j (by omega))]
/-- the greatest rest of those that are not given -/
def bo (R : Nat → Int32) : Nat → Int32
  | 0 => -1
  | p + 1 => if R p ≠ -1 ∧ (bo R p = -1 ∨ R (tn (bo R p)) < R p) then nI p else bo R p
theorem bo_is {R : Nat → Int32} {k : Nat} (hk : k ≤ 4) (h : ∀ j, j < k → -1 ≤ R j) : ∀ p, p ≤ k → (bo R p = -1 ∧ ∀ j, j < p → R j = -1) ∨ (1 ≤ p ∧ bo R p = nI (ag R (p - 1)) ∧ R (ag R (p - 1)) ≠ -1)
  | 0, _ => Or.inl ⟨rfl, fun j hj => by omega⟩
  | p + 1, hp => by
    have ih := bo_is hk h p (by omega)
    show (_ ∧ _) ∨ (1 ≤ p + 1 ∧ bo R (p + 1) = nI (ag R p) ∧ R (ag R p) ≠ -1)
    simp only [bo]
    rcases ih with ⟨h1, h2⟩ | ⟨h0, h1, h2⟩
    · by_cases e : R p = -1
      · rw [if_neg (fun z => z.1 e)]
        refine Or.inl ⟨h1, fun j hj => ?_⟩
        by_cases e2 : j = p
        · rw [e2, e]
        · exact h2 j (by omega)
      · rw [if_pos ⟨e, Or.inl h1⟩]
        have ha : ag R p = p := by
          cases p with
          | zero => rfl
          | succ q =>
            simp only [ag]
            rw [if_pos]
            rw [h2 (ag R q) (by have := ag_le R q; omega)]
            have := h (q + 1) (by omega)
            rw [Int32.le_iff_toInt_le] at this
            rw [Int32.lt_iff_toInt_lt]
            have e2 : (R (q + 1)).toInt ≠ (-1 : Int32).toInt := fun z => e (Int32.toInt_inj.mp z)
            omega
        rw [ha]
        exact Or.inr ⟨by omega, rfl, e⟩
    · obtain ⟨q, rfl⟩ : ∃ q, p = q + 1 := ⟨p - 1, by omega⟩
      have h1 : bo R (q + 1) = nI (ag R q) := h1
      have h2 : R (ag R q) ≠ -1 := h2
      have ht : tn (nI (ag R q)) = ag R q := nI_clamp (by have := ag_le R q; omega)
      rw [h1, ht]
      by_cases e : R (ag R q) < R (q + 1)
      · have e2 : R (q + 1) ≠ -1 := fun z => by
          rw [z] at e
          exact absurd e (Int32.not_lt.mpr (h _ (by have := ag_le R q; omega)))
        rw [if_pos ⟨e2, Or.inr e⟩]
        have ha : ag R (q + 1) = q + 1 := if_pos e
        rw [ha]
        exact Or.inr ⟨by omega, rfl, e2⟩
      · have ha : ag R (q + 1) = ag R q := if_neg e
        rw [ha, if_neg]
        · exact Or.inr ⟨by omega, rfl, h2⟩
        · rintro ⟨-, z | z⟩
          · exact nI_ne (by have := ag_le R q; omega) z
          · exact e z
theorem sm_cut (f : Nat → Nat) {k : Nat} : ∀ m, k ≤ m → sm (fun j => if j < k then f j else 0) m = sm f k
  | 0, h => by
    have : k = 0 := by omega
    subst this; rfl
  | m + 1, h => by
    by_cases e : k = m + 1
    · subst e
      exact sm_c (fun i hi => if_pos hi)
    · show sm (fun j => if j < k then f j else 0) m + (if m < k then f m else 0) = _
      rw [sm_cut f m (by omega), if_neg (by omega), Nat.add_zero]
def f_X7_quotasOf := en_f (σ := (Nat → Nat) × Nat × Nat × Nat × Sx) (fun x => [.ref 0, .int (nI x.2.2.2.1)]) (fun x => wM x.2.2.2.2) (fun x => wgm x.2.2.2.2 x.1 x.2.1 x.2.2.1 ∧ x.2.2.2.1 ≤ 100000) (fun x v w => v = none ∧ ∃ q r, w = wM (xa (xa x.2.2.2.2 10 q) 11 r) ∧ ∀ j, j < x.2.2.1 → q j = nI (qf x.1 x.2.1 x.2.2.1 x.2.2.2.1 j))
def rm_X7_quotasOf : Room := { frames := 0, cells := 0, slots := 0, locals := 0 }
def t_X7_quotasOf : en_T := ((5, 0, 0), tb_X7_quotasOf, fl_X7, cn_X7, [], [], 0, none)
set_option maxRecDepth 100000 in
theorem tB_X7_quotasOf (D : va_G) (dT : Nat → Nat) (l : Launch) : en_TB en_WD D vwCl dT l rm_X7_quotasOf t_X7_quotasOf RX7 "quotasOf" cX7_quotasOf := ⟨tk_X7_quotasOf, fun s args meth h hn => ⟨fo_X7 h args meth, co_X7 h args, fun _ h => absurd h List.not_mem_nil, fun _ h => absurd h List.not_mem_nil, Or.inl rfl, en_arr h args⟩⟩
set_option maxHeartbeats 4000000 in
set_option maxRecDepth 100000 in
theorem bd_X7_quotasOf : en_B (σ := (Nat → Nat) × Nat × Nat × Nat × Sx) t_X7_quotasOf (fun x => [.ref 0, .int (nI x.2.2.2.1)]) (fun x => wM x.2.2.2.2) (fun x => wgm x.2.2.2.2 x.1 x.2.1 x.2.2.1 ∧ x.2.2.2.1 ≤ 100000) (fun x v w => v = none ∧ ∃ q r, w = wM (xa (xa x.2.2.2.2 10 q) 11 r) ∧ ∀ j, j < x.2.2.1 → q j = nI (qf x.1 x.2.1 x.2.2.1 x.2.2.2.1 j)) := by
  rintro ⟨w, W, k, n, S⟩ ⟨⟨hok, hk, hW, hw⟩, hn⟩ G hG OK ⟨run, sub⟩
  dsimp only at hok hn hk hW hw hG ⊢
  have hok' := hok
  obtain ⟨hk1, hk4, hw1, hs, hW1, hW4⟩ := hok'
  obtain ⟨hq1, hq2⟩ := qm_lt (n := n) hok
  have hW0 : ¬ S.1 2 = 0 := fun e => absurd ((nI_eq (b := 0) (by omega) (by decide)).mp (hW.symm.trans e)) (by omega)
  have hnw : ∀ p, n * w p ≤ 100000000 := fun p => Nat.mul_le_mul hn (hw1 p)
  have loop2 : ∀ i, i ≤ qm w W k n → ∀ q r : Nat → Int32, (∀ j, j < k → q j = nI ((qi k i (q0 w W n)).1 j)) → (∀ j, j < k → r j = if (qi k i (q0 w W n)).2 j = -1 then 1 else 0) → OK 0 0 62 [(0, .ref 0), (1, .int (nI n)), (2, .int (nI (qm w W k n - i)))] [] (wM (xa (xa S 10 q) 11 r)) := by
    refine lp_up (fun i => ∀ q r : Nat → Int32, (∀ j, j < k → q j = nI ((qi k i (q0 w W n)).1 j)) → (∀ j, j < k → r j = if (qi k i (q0 w W n)).2 j = -1 then 1 else 0) → OK 0 0 62 [(0, .ref 0), (1, .int (nI n)), (2, .int (nI (qm w W k n - i)))] [] (wM (xa (xa S 10 q) 11 r))) (qm w W k n) ?_ ?_
    · intro q r hq hr
      rw [Nat.sub_self]
      refine run [62] 60 _ _ _ _ _ _ ?_
      conv => whnf
      refine pk_le 0 0 (fun h => ?_) (fun h => absurd h (by omega))
      conv => whnf
      exact hG _ _ ⟨rfl, q, r, rfl, hq⟩
    · intro i hi ih q r hq hr
      have hR : ∀ j, (qi k i (q0 w W n)).2 j = -1 ∨ (qi k i (q0 w W n)).2 j = nI (n * w j % W) := qi_r w W n k i
      have hcn := qi_n w W n k hW1 hW4 i
      have e1 : (qi k (i + 1) (q0 w W n)).1 = fun j => if j = ag (qi k i (q0 w W n)).2 (k - 1) then (qi k i (q0 w W n)).1 j + 1 else (qi k i (q0 w W n)).1 j := rfl
      have e2 : (qi k (i + 1) (q0 w W n)).2 = upd (qi k i (q0 w W n)).2 (ag (qi k i (q0 w W n)).2 (k - 1)) (-1) := rfl
      rw [e1, e2] at ih
      generalize qi k i (q0 w W n) = Z at hR hcn hq hr ih
      have hge : ∀ j, j < k → -1 ≤ Z.2 j := fun j _ => by
        rcases hR j with h | h
        · rw [h]; exact Int32.le_refl _
        · rw [h]
          have := Nat.mod_lt (n * w j) hW1
          exact Int32.le_trans (by decide) (nI_pos' (by omega))
      have hb := bo_is hk4 hge
      have hfin : bo Z.2 k = nI (ag Z.2 (k - 1)) := by
        rcases hb k (Nat.le_refl k) with ⟨-, h⟩ | h
        · rw [ct_all h] at hcn
          omega
        · exact h.2.1
      have ha : ag Z.2 (k - 1) < k := by have := ag_le Z.2 (k - 1); omega
      have inner := lp_up (fun p => OK 0 0 71 [(0, .ref 0), (1, .int (nI n)), (2, .int (nI (qm w W k n - i))), (3, .int (bo Z.2 p)), (4, .int (nI p))] [] (wM (xa (xa S 10 q) 11 r))) k
        (by
          rw [hfin]
          generalize ag Z.2 (k - 1) = a at ha ih
          refine run [62, 71] 60 _ _ _ _ _ _ ?_
          conv => whnf
          refine pk_le k k (fun h => ?_) (fun h => absurd h (by omega)) hk
          conv => whnf
          refine ⟨vp_in_nI (by omega) (by decide), ?_⟩
          rw [nI_clamp (by omega)]
          conv => whnf
          refine ⟨vp_in_nI (by omega) (by decide), ?_⟩
          rw [nI_clamp (by omega)]
          conv => whnf
          refine ⟨vp_in_nI (by omega) (by decide), ?_⟩
          rw [nI_clamp (by omega)]
          conv => whnf
          have hih := ih (upd q a (q a + 1)) (upd r a 1) (fun j hj => by
            dsimp only
            by_cases e : j = a
            · rw [e, pk_us, if_pos rfl, hq a ha, ← nI_succ]
            · rw [pk_un e, if_neg e, hq j hj]) (fun j hj => by
            by_cases e : j = a
            · rw [e, pk_us, pk_us, if_pos rfl]
            · rw [pk_un e, pk_un e, hr j hj])
          have hm : nI (qm w W k n - (i + 1)) = nI (qm w W k n - i) + Int32.ofInt (-1) := by
            rw [show qm w W k n - i = qm w W k n - (i + 1) + 1 by omega]
            exact (pk_m1 _).symm
          rw [hm] at hih
          exact sub [0, 1, 2] _ _ _ _ _ _ _ rfl hih)
        (fun p hp ihp => by
          rw [nI_succ] at ihp
          simp only [bo] at ihp
          have hrp := hr p hp
          have hbp := hb p (by omega)
          have hap := ag_le Z.2 (p - 1)
          refine run [62, 71] 60 _ _ _ _ _ _ ?_
          conv => whnf
          refine pk_le k p (fun h => absurd h (by omega)) (fun h => ?_) hk
          conv => whnf
          refine ⟨vp_in_nI (by omega) (by decide), ?_⟩
          rw [nI_clamp (by omega)]
          conv => whnf
          refine ⟨fun hc => ?_, fun hc => ?_⟩
          · have hc : ¬ r p = 0 := hc
            have hz : Z.2 p = -1 := by
              refine Decidable.byContradiction fun z => hc ?_
              rw [hrp, if_neg z]
            rw [if_neg (fun z => z.1 hz)] at ihp
            conv => whnf
            exact ihp
          · have hc : r p = 0 := hc
            have hz : ¬ Z.2 p = -1 := fun z => by
              rw [hrp, if_pos z] at hc
              exact absurd hc (by decide)
            conv => whnf
            refine ⟨fun hm => ?_, fun hm => ?_⟩
            · have hm : bo Z.2 p = -1 := hm
              rw [if_pos ⟨hz, Or.inl hm⟩] at ihp
              conv => whnf
              exact ihp
            · have hm : ¬ bo Z.2 p = -1 := hm
              rcases hbp with hbp | ⟨hp1, hbp, hne⟩
              · exact absurd hbp.1 hm
              rw [hbp] at ihp hm ⊢
              generalize ag Z.2 (p - 1) = a at hap ihp hm hne ⊢
              have d1 : nI n * S.2.2.1 7 p - nI n * S.2.2.1 7 p / S.1 2 * S.1 2 = Z.2 p := by
                rw [(hR p).resolve_left hz, hw p hp, hW, pk_mul, pk_rem (by have := hnw p; omega) (by omega) (by omega)]
              have d2 : nI n * S.2.2.1 7 a - nI n * S.2.2.1 7 a / S.1 2 * S.1 2 = Z.2 a := by
                rw [(hR a).resolve_left hne, hw a (by omega), hW, pk_mul, pk_rem (by have := hnw a; omega) (by omega) (by omega)]
              rw [show tn (nI a) = a from nI_clamp (by omega), ← d1, ← d2] at ihp
              conv => whnf
              refine ⟨vp_in_nI (by omega) (by decide), ?_⟩
              rw [nI_clamp (by omega)]
              conv => whnf
              refine ⟨hW0, ?_⟩
              conv => whnf
              refine ⟨vp_in_nI (by omega) (by decide), ?_⟩
              rw [nI_clamp (by omega)]
              conv => whnf
              refine ⟨hW0, ?_⟩
              conv => whnf
              refine ⟨fun hl => ?_, fun hl => ?_⟩
              · rw [if_neg] at ihp
                · conv => whnf
                  exact ihp
                · rintro ⟨-, z | z⟩
                  · exact hm z
                  · exact absurd z (Int32.not_lt.mpr hl)
              · rw [if_pos ⟨by rw [d1]; exact hz, Or.inr (Int32.not_le.mp hl)⟩] at ihp
                conv => whnf
                exact ihp)
      refine run [71] 60 _ _ _ _ _ _ ?_
      conv => whnf
      refine pk_le (qm w W k n - i) 0 (fun h => absurd h (by omega)) (fun h => ?_)
      conv => whnf
      exact inner 0 (by omega)
  have loop1 := lp_up (fun p => OK 0 0 4 [(0, .ref 0), (1, .int (nI n)), (2, .int (nI (n - sm (fun j => if j < k then n * w j / W else 0) p))), (3, .int (nI p))] [] (wM (xa (xa S 10 (mx p (fun j => if j < k then nI (n * w j / W) else 0) (S.2.2.1 10))) 11 (mx p (fun _ => 0) (S.2.2.1 11))))) 4
    (by
      rw [sm_cut _ 4 hk4]
      refine run [4, 62] 60 _ _ _ _ _ _ ?_
      conv => whnf
      refine pk_le 4 4 (fun h => ?_) (fun h => absurd h (by omega))
      conv => whnf
      have h0 := loop2 0 (by omega) (mx 4 (fun j => if j < k then nI (n * w j / W) else 0) (S.2.2.1 10)) (mx 4 (fun _ => 0) (S.2.2.1 11)) (fun j hj => by rw [mx_lt (by omega), if_pos hj]; rfl) (fun j hj => by
        rw [mx_lt (by omega), if_neg]
        have := Nat.mod_lt (n * w j) hW1
        exact nI_ne (by omega))
      exact sub [0, 1, 2] _ _ _ _ _ _ _ rfl h0)
    (fun p hp ih => by
      rw [nI_succ, ← mx_s, ← mx_s] at ih
      simp only [sm] at ih
      have hle : sm (fun j => if j < k then n * w j / W else 0) p + (if p < k then n * w p / W else 0) ≤ n := by
        have h2 : sm (fun j => if j < k then n * w j / W else 0) (p + 1) ≤ sm (fun j => if j < k then n * w j / W else 0) 4 := sm_mono _ (by omega)
        rw [sm_cut _ 4 hk4] at h2
        exact Nat.le_trans h2 hq1
      generalize sm (fun j => if j < k then n * w j / W else 0) p = s at hle ih ⊢
      have fin : ∀ x : Nat, (x = if p < k then n * w p / W else 0) → OK 0 0 40 [(0, .ref 0), (1, .int (nI n)), (2, .int (nI (n - s))), (3, .int (nI p))] [] (wM (xa (xa S 10 (upd (mx p (fun j => if j < k then nI (n * w j / W) else 0) (S.2.2.1 10)) p (nI x))) 11 (mx p (fun _ => 0) (S.2.2.1 11)))) := by
        intro x hx
        rw [← hx] at ih hle
        have hx2 : (if p < k then nI (n * w p / W) else 0) = nI x := by
          rw [hx]; split <;> rfl
        rw [hx2] at ih
        refine run [4] 60 _ _ _ _ _ _ ?_
        conv => whnf
        refine ⟨vp_in_nI (by omega) (by decide), ?_⟩
        rw [nI_clamp (by omega)]
        conv => whnf
        refine ⟨vp_in_nI (by omega) (by decide), ?_⟩
        rw [nI_clamp (by omega)]
        conv => whnf
        have hs2 : nI (n - (s + x)) = nI (n - s) - upd (mx p (fun j => if j < k then nI (n * w j / W) else 0) (S.2.2.1 10)) p (nI x) p := by
          rw [pk_us, pk_sub (by omega)]
          congr 1
          omega
        rw [hs2] at ih
        exact ih
      refine run [4, 40] 60 _ _ _ _ _ _ ?_
      conv => whnf
      refine pk_le 4 p (fun h => absurd h (by omega)) (fun h => ?_)
      conv => whnf
      refine pk_le k p (fun h => ?_) (fun h => ?_) hk
      · conv => whnf
        refine ⟨vp_in_nI (by omega) (by decide), ?_⟩
        rw [nI_clamp (by omega)]
        conv => whnf
        have h2 := fin 0 (by rw [if_neg (by omega)])
        exact h2
      · conv => whnf
        refine ⟨vp_in_nI (by omega) (by decide), ?_⟩
        rw [nI_clamp (by omega)]
        conv => whnf
        refine ⟨hW0, ?_⟩
        conv => whnf
        refine ⟨vp_in_nI (by omega) (by decide), ?_⟩
        rw [nI_clamp (by omega)]
        conv => whnf
        have h2 := fin (n * w p / W) (by rw [if_pos h])
        have d1 : nI (n * w p / W) = nI n * S.2.2.1 7 p / S.1 2 := by rw [hw p h, hW, pk_mul, pk_div (by have := hnw p; omega) (by omega) (by omega)]
        rw [d1] at h2
        exact h2)
  refine run [4] 60 _ _ _ _ _ _ ?_
  conv => whnf
  have h0 := loop1 0 (by omega)
  rw [mx_0, mx_0] at h0
  exact h0
theorem ct_X7_quotasOf (D : va_G) (dT : Nat → Nat) (l : Launch) : en_CT en_WD D vwCl dT l yX7_quotasOf cX7_quotasOf 5 (none) rm_X7_quotasOf f_X7_quotasOf := en_met en_WD1 en_WD2 (by decide) rfl rfl (tB_X7_quotasOf D dT l) (en_f_ln (fun _ => Nat.le_of_ble_eq_true rfl)) (en_f_bd bd_X7_quotasOf)
set_option maxRecDepth 100000 in
theorem mk_X7_quotasOf {D : va_G} {dT : Nat → Nat} {l : Launch} {R : Room} {s : State} {args : Array Value} {own : String} {idx : Nat} (h : en_WD s) (h1 : rm_X7_quotasOf.frames + 1 ≤ R.frames) (h2 : 8 + (5 + 11) + rm_X7_quotasOf.locals ≤ R.locals) (hl : (Jvm.Cond.methodLink own idx yX7_quotasOf).before args s = true ∨ ∃ host, (Jvm.Cond.methodLinkNest own idx yX7_quotasOf host).before args s = true) : en_mok en_WD D vwCl dT l R s args own (idx, 2, 9, 0, 0, f_X7_quotasOf) :=
  ⟨yX7_quotasOf, cX7_quotasOf, 5, none, rm_X7_quotasOf, 1, ct_X7_quotasOf D dT l, rfl, rfl, h1, h2, en_wd h 859 rfl rfl args, en_wd h 66 (by decide +kernel) rfl args, by decide, by decide, hl, ⟨RX7, TX7, 24, rfl, en_wd h 858 (by decide +kernel) rfl args, en_wd h 36 (by decide +kernel) rfl args, rfl⟩⟩
def f_X7_quota := en_f (σ := Int32 × Int32 × (Nat → Nat) × Nat × Nat × Sx) (fun x => [.ref 0, .int x.1, .int x.2.1]) (fun x => wM x.2.2.2.2.2) (fun x => wgm x.2.2.2.2.2 x.2.2.1 x.2.2.2.1 x.2.2.2.2.1) (fun x v w => (¬ (inr_ x.1 x.2.2.2.2.1 ∧ (0 ≤ x.2.1 ∧ x.2.1 < 100001)) ∧ ansM v w (-2) (xi x.2.2.2.2.2 4 0)) ∨ ((inr_ x.1 x.2.2.2.2.1 ∧ (0 ≤ x.2.1 ∧ x.2.1 < 100001)) ∧ ∃ q r, ansM v w (nI (qf x.2.2.1 x.2.2.2.1 x.2.2.2.2.1 (tn x.2.1) (tn x.1))) (xa (xa (xi x.2.2.2.2.2 4 0) 10 q) 11 r)))
def rm_X7_quota : Room := { frames := 1, cells := 0, slots := 0, locals := 24 }
def t_X7_quota : en_T := ((3, 0, 0), tb_X7_quota, fl_X7, cn_X7, [(70, 3, 0, 0, 0, f_X7_in), (85, 2, 9, 0, 0, f_X7_quotasOf)], [], 0, some .int)
set_option maxRecDepth 100000 in
theorem tB_X7_quota (D : va_G) (dT : Nat → Nat) (l : Launch) : en_TB en_WD D vwCl dT l rm_X7_quota t_X7_quota RX7 "quota" cX7_quota := ⟨tk_X7_quota, fun s args meth h hn => ⟨fo_X7 h args meth, co_X7 h args, List.forall_mem_cons.mpr ⟨mk_X7_in (own := RX7) h (Nat.le_of_ble_eq_true rfl) (Nat.le_of_ble_eq_true rfl) (Or.inl (en_wd h 828 (by decide +kernel) rfl args)), List.forall_mem_cons.mpr ⟨mk_X7_quotasOf (own := RX7) h (Nat.le_of_ble_eq_true rfl) (Nat.le_of_ble_eq_true rfl) (Or.inl (en_wd h 856 (by decide +kernel) rfl args)), fun _ h => absurd h List.not_mem_nil⟩⟩, fun _ h => absurd h List.not_mem_nil, Or.inl rfl, en_arr h args⟩⟩
set_option maxHeartbeats 4000000 in
set_option maxRecDepth 100000 in
theorem bd_X7_quota : en_B (σ := Int32 × Int32 × (Nat → Nat) × Nat × Nat × Sx) t_X7_quota (fun x => [.ref 0, .int x.1, .int x.2.1]) (fun x => wM x.2.2.2.2.2) (fun x => wgm x.2.2.2.2.2 x.2.2.1 x.2.2.2.1 x.2.2.2.2.1) (fun x v w => (¬ (inr_ x.1 x.2.2.2.2.1 ∧ (0 ≤ x.2.1 ∧ x.2.1 < 100001)) ∧ ansM v w (-2) (xi x.2.2.2.2.2 4 0)) ∨ ((inr_ x.1 x.2.2.2.2.1 ∧ (0 ≤ x.2.1 ∧ x.2.1 < 100001)) ∧ ∃ q r, ansM v w (nI (qf x.2.2.1 x.2.2.2.1 x.2.2.2.2.1 (tn x.2.1) (tn x.1))) (xa (xa (xi x.2.2.2.2.2 4 0) 10 q) 11 r))) := by
  rintro ⟨p, nn, w, W, k, S⟩ hwg G hG OK ⟨run, sub⟩
  dsimp only at hwg hG ⊢
  have hk : S.1 1 = nI k := hwg.2.1
  have hk4 : k ≤ 4 := hwg.1.2.1
  refine run [] 60 _ _ _ _ _ _ ?_
  conv => whnf
  refine ⟨(p, 0, S.1 1 - 1, wM (xi S 4 0)), rfl, rfl, trivial, ?_⟩
  rintro _ _ ⟨rfl, rfl⟩
  conv => whnf
  refine bl_br (fun c1 => ?_) (fun c1 => ?_)
  · have c1 : ¬ (0 ≤ p ∧ p ≤ S.1 1 - 1) := c1
    rw [hk, le_pr (by omega)] at c1
    conv => whnf
    exact hG _ _ (Or.inl ⟨fun z => c1 z.1, rfl, rfl⟩)
  have c1 : 0 ≤ p ∧ p ≤ S.1 1 - 1 := c1
  rw [hk, le_pr (by omega)] at c1
  conv => whnf
  refine ⟨(nn, 0, 100000, wM (xi S 4 0)), rfl, rfl, trivial, ?_⟩
  rintro _ _ ⟨rfl, rfl⟩
  conv => whnf
  refine bl_br2 (fun c2 => ?_) (fun c2 => ?_)
  rotate_left
  · conv => whnf
    exact hG _ _ (Or.inl ⟨fun z => c2 ⟨z.2.1, (le_lt (b := 100000) (by decide)).mpr z.2.2⟩, rfl, rfl⟩)
  have c2 : 0 ≤ nn ∧ nn < 100001 := ⟨c2.1, (le_lt (b := 100000) (by decide)).mp c2.2⟩
  obtain ⟨i, hi, rfl⟩ := in_of (by omega) c1
  obtain ⟨n, hn, rfl⟩ := in_of (b := 100001) (by decide) c2
  rw [show tn (nI i) = i from nI_clamp (by omega), show tn (nI n) = n from nI_clamp (by omega)] at hG
  conv => whnf
  refine ⟨(w, W, k, n, xi S 4 0), rfl, rfl, ⟨hwg, by dsimp only; omega⟩, ?_⟩
  rintro v u ⟨hv0, q, r, hu, hq⟩
  obtain rfl : v = none := hv0
  obtain rfl : u = wM (xa (xa (xi S 4 0) 10 q) 11 r) := hu
  conv => whnf
  refine ⟨vp_in_nI (by omega) (by decide), ?_⟩
  rw [nI_clamp (by omega)]
  conv => whnf
  refine hG _ _ (Or.inr ⟨⟨c1, c2⟩, q, r, ?_, rfl⟩)
  rw [← hq i hi]
  rfl
theorem ct_X7_quota (D : va_G) (dT : Nat → Nat) (l : Launch) : en_CT en_WD D vwCl dT l yX7_quota cX7_quota 3 (some .int) rm_X7_quota f_X7_quota := en_met en_WD1 en_WD2 (by decide) rfl rfl (tB_X7_quota D dT l) (en_f_ln (fun _ => Nat.le_of_ble_eq_true rfl)) (en_f_bd bd_X7_quota)
set_option maxRecDepth 100000 in
theorem mk_X7_quota {D : va_G} {dT : Nat → Nat} {l : Launch} {R : Room} {s : State} {args : Array Value} {own : String} {idx : Nat} (h : en_WD s) (h1 : rm_X7_quota.frames + 1 ≤ R.frames) (h2 : 8 + (3 + 11) + rm_X7_quota.locals ≤ R.locals) (hl : (Jvm.Cond.methodLink own idx yX7_quota).before args s = true ∨ ∃ host, (Jvm.Cond.methodLinkNest own idx yX7_quota host).before args s = true) : en_mok en_WD D vwCl dT l R s args own (idx, 3, 9, 0, 0, f_X7_quota) :=
  ⟨yX7_quota, cX7_quota, 3, some .int, rm_X7_quota, 2, ct_X7_quota D dT l, rfl, rfl, h1, h2, en_wd h 855 rfl rfl args, en_wd h 66 (by decide +kernel) rfl args, by decide, by decide, hl, ⟨RX7, TX7, 24, rfl, en_wd h 853 (by decide +kernel) rfl args, en_wd h 854 (by decide +kernel) rfl args, rfl⟩⟩
end
section
/-! the reference: draws, giving -/
def f_X7_draw := en_f (σ := Nat × Sx) (fun x => [.ref 0, .int (nI x.1)]) (fun x => wM x.2) (fun x => 0 < x.1 ∧ x.1 < 1000) (fun x v w => v = some (.int (nI (dw (nz x.2.2.1) x.1))) ∧ w = wM (xz x.2 (nz x.2.2.1)))
def rm_X7_draw : Room := { frames := 0, cells := 0, slots := 0, locals := 0 }
def t_X7_draw : en_T := ((2, 0, 0), tb_X7_draw, fl_X7, cn_X7, [], [], 0, some .int)
set_option maxRecDepth 100000 in
theorem tB_X7_draw (D : va_G) (dT : Nat → Nat) (l : Launch) : en_TB en_WD D vwCl dT l rm_X7_draw t_X7_draw RX7 "draw" cX7_draw := ⟨tk_X7_draw, fun s args meth h hn => ⟨fo_X7 h args meth, co_X7 h args, fun _ h => absurd h List.not_mem_nil, fun _ h => absurd h List.not_mem_nil, Or.inl rfl, en_arr h args⟩⟩
set_option maxHeartbeats 4000000 in
set_option maxRecDepth 100000 in
theorem bd_X7_draw : en_B (σ := Nat × Sx) t_X7_draw (fun x => [.ref 0, .int (nI x.1)]) (fun x => wM x.2) (fun x => 0 < x.1 ∧ x.1 < 1000) (fun x v w => v = some (.int (nI (dw (nz x.2.2.1) x.1))) ∧ w = wM (xz x.2 (nz x.2.2.1))) := by
  rintro ⟨n, S⟩ ⟨h0, hn⟩ G hG OK ⟨run, sub⟩
  dsimp only at h0 hn hG ⊢
  refine run [] 60 _ _ _ _ _ _ ?_
  conv => whnf
  refine ⟨fun e => ?_, ?_⟩
  · rw [nI_l (by omega)] at e
    exact absurd ((pk_lEQ (b := 0) (by omega) (by omega)).mp e) (by omega)
  · conv => whnf
    refine hG _ _ ⟨?_, rfl⟩
    rw [← dw_is (nz S.2.1) h0 (by omega)]
    rfl
theorem ct_X7_draw (D : va_G) (dT : Nat → Nat) (l : Launch) : en_CT en_WD D vwCl dT l yX7_draw cX7_draw 2 (some .int) rm_X7_draw f_X7_draw := en_met en_WD1 en_WD2 (by decide) rfl rfl (tB_X7_draw D dT l) (en_f_ln (fun _ => Nat.le_of_ble_eq_true rfl)) (en_f_bd bd_X7_draw)
set_option maxRecDepth 100000 in
theorem mk_X7_draw {D : va_G} {dT : Nat → Nat} {l : Launch} {R : Room} {s : State} {args : Array Value} {own : String} {idx : Nat} (h : en_WD s) (h1 : rm_X7_draw.frames + 1 ≤ R.frames) (h2 : 8 + (2 + 11) + rm_X7_draw.locals ≤ R.locals) (hl : (Jvm.Cond.methodLink own idx yX7_draw).before args s = true ∨ ∃ host, (Jvm.Cond.methodLinkNest own idx yX7_draw host).before args s = true) : en_mok en_WD D vwCl dT l R s args own (idx, 2, 9, 0, 0, f_X7_draw) :=
  ⟨yX7_draw, cX7_draw, 2, some .int, rm_X7_draw, 1, ct_X7_draw D dT l, rfl, rfl, h1, h2, en_wd h 879 rfl rfl args, en_wd h 66 (by decide +kernel) rfl args, by decide, by decide, hl, ⟨RX7, TX7, 24, rfl, en_wd h 878 (by decide +kernel) rfl args, en_wd h 40 (by decide +kernel) rfl args, rfl⟩⟩
def f_X7_shuffle := en_f (σ := Nat × Sx) (fun _ => [.ref 0]) (fun x => wM x.2) (fun x => x.1 ≤ 100 ∧ x.2.1 5 = nI x.1) (fun x v w => v = none ∧ w = wM (xa (xz x.2 (shm x.1 x.2.2.1 (x.2.2.2.1 13)).1) 13 (shm x.1 x.2.2.1 (x.2.2.2.1 13)).2))
def rm_X7_shuffle : Room := { frames := 1, cells := 0, slots := 0, locals := 21 }
def t_X7_shuffle : en_T := ((4, 0, 0), tb_X7_shuffle, fl_X7, cn_X7, [(100, 2, 9, 0, 0, f_X7_draw)], [], 0, none)
set_option maxRecDepth 100000 in
theorem tB_X7_shuffle (D : va_G) (dT : Nat → Nat) (l : Launch) : en_TB en_WD D vwCl dT l rm_X7_shuffle t_X7_shuffle RX7 "shuffle" cX7_shuffle := ⟨tk_X7_shuffle, fun s args meth h hn => ⟨fo_X7 h args meth, co_X7 h args, List.forall_mem_cons.mpr ⟨mk_X7_draw (own := RX7) h (Nat.le_of_ble_eq_true rfl) (Nat.le_of_ble_eq_true rfl) (Or.inl (en_wd h 876 (by decide +kernel) rfl args)), fun _ h => absurd h List.not_mem_nil⟩, fun _ h => absurd h List.not_mem_nil, Or.inl rfl, en_arr h args⟩⟩
set_option maxHeartbeats 4000000 in
set_option maxRecDepth 100000 in
theorem bd_X7_shuffle : en_B (σ := Nat × Sx) t_X7_shuffle (fun _ => [.ref 0]) (fun x => wM x.2) (fun x => x.1 ≤ 100 ∧ x.2.1 5 = nI x.1) (fun x v w => v = none ∧ w = wM (xa (xz x.2 (shm x.1 x.2.2.1 (x.2.2.2.1 13)).1) 13 (shm x.1 x.2.2.1 (x.2.2.2.1 13)).2)) := by
  rintro ⟨m, S⟩ ⟨hm, h5⟩ G hG OK ⟨run, sub⟩
  dsimp only at hm h5 hG ⊢
  have loop : ∀ i, i < 100 → ∀ (z : Int64) (f : Nat → Int32), shf i z f = shm m S.2.1 (S.2.2.1 13) → OK 0 0 7 [(0, .ref 0), (1, .int (nI i))] [] (wM (xa (xz S z) 13 f)) := by
    intro i
    induction i with
    | zero =>
      intro _ z f he
      refine run [7] 60 _ _ _ _ _ _ ?_
      conv => whnf
      refine pk_le 0 0 (fun h => ?_) (fun h => absurd h (by omega))
      conv => whnf
      refine hG _ _ ⟨rfl, ?_⟩
      rw [← he]
      rfl
    | succ i ih =>
      intro hi z f he
      refine run [7] 60 _ _ _ _ _ _ ?_
      conv => whnf
      refine pk_le (i + 1) 0 (fun h => absurd h (by omega)) (fun h => ?_)
      conv => whnf
      refine ⟨(i + 2, xa (xz S z) 13 f), (by show [Value.ref 0, Value.int (nI (i + 1) + 1)] = [Value.ref 0, Value.int (nI (i + 1 + 1))]; rw [nI_succ (i + 1)]), rfl, ⟨by dsimp only; omega, by dsimp only; omega⟩, ?_⟩
      intro v w hvw
      obtain ⟨rfl, rfl⟩ : v = some (.int (nI (dw (nz z) (i + 2)))) ∧ w = wM (xa (xz S (nz z)) 13 f) := hvw
      have hj := dw_lt (z := nz z) (n := i + 2) (by omega)
      generalize hje : dw (nz z) (i + 2) = j at hj ⊢
      conv => whnf
      refine ⟨vp_in_nI (by omega) (by decide), ?_⟩
      rw [nI_clamp (by omega)]
      conv => whnf
      refine ⟨vp_in_nI (by omega) (by decide), ?_⟩
      rw [nI_clamp (by omega)]
      conv => whnf
      refine ⟨vp_in_nI (by omega) (by decide), ?_⟩
      rw [nI_clamp (by omega)]
      conv => whnf
      refine ⟨vp_in_nI (by omega) (by decide), ?_⟩
      rw [nI_clamp (by omega)]
      conv => whnf
      have h2 := ih (by omega) (nz z) (upd (upd f (i + 1) (f j)) j (f (i + 1))) (by rw [← hje]; exact he)
      rw [← pk_m1 i] at h2
      exact sub [0, 1] _ _ _ _ _ _ _ rfl h2
  by_cases h0 : m = 0
  · subst h0
    refine run [] 60 _ _ _ _ _ _ ?_
    conv => whnf
    have h5 : S.1 5 = nI 0 := h5
    refine ⟨fun _ => ?_, fun h => absurd (show S.1 5 - 1 ≤ 0 by rw [h5]; decide) h⟩
    conv => whnf
    exact hG _ _ ⟨rfl, rfl⟩
  · obtain ⟨q, rfl⟩ : ∃ q, m = q + 1 := ⟨m - 1, by omega⟩
    refine run [7] 60 _ _ _ _ _ _ ?_
    conv => whnf
    have h2 := loop q (by omega) S.2.1 (S.2.2.1 13) rfl
    rw [← nI_pred q, ← h5] at h2
    exact h2
theorem ct_X7_shuffle (D : va_G) (dT : Nat → Nat) (l : Launch) : en_CT en_WD D vwCl dT l yX7_shuffle cX7_shuffle 4 (none) rm_X7_shuffle f_X7_shuffle := en_met en_WD1 en_WD2 (by decide) rfl rfl (tB_X7_shuffle D dT l) (en_f_ln (fun _ => Nat.le_of_ble_eq_true rfl)) (en_f_bd bd_X7_shuffle)
set_option maxRecDepth 100000 in
theorem mk_X7_shuffle {D : va_G} {dT : Nat → Nat} {l : Launch} {R : Room} {s : State} {args : Array Value} {own : String} {idx : Nat} (h : en_WD s) (h1 : rm_X7_shuffle.frames + 1 ≤ R.frames) (h2 : 8 + (4 + 11) + rm_X7_shuffle.locals ≤ R.locals) (hl : (Jvm.Cond.methodLink own idx yX7_shuffle).before args s = true ∨ ∃ host, (Jvm.Cond.methodLinkNest own idx yX7_shuffle host).before args s = true) : en_mok en_WD D vwCl dT l R s args own (idx, 1, 9, 0, 0, f_X7_shuffle) :=
  ⟨yX7_shuffle, cX7_shuffle, 4, none, rm_X7_shuffle, 0, ct_X7_shuffle D dT l, rfl, rfl, h1, h2, en_wd h 875 rfl rfl args, en_wd h 66 (by decide +kernel) rfl args, by decide, by decide, hl, ⟨RX7, TX7, 24, rfl, en_wd h 874 (by decide +kernel) rfl args, en_wd h 39 (by decide +kernel) rfl args, rfl⟩⟩
def f_X7_give := en_f (σ := (Nat → Nat) × Nat × Nat × Nat × Sx) (fun _ => [.ref 0]) (fun x => wM x.2.2.2.2) (fun x => wgm x.2.2.2.2 x.1 x.2.1 x.2.2.1 ∧ x.2.2.2.1 ≤ 100 ∧ x.2.2.2.2.1 5 = nI x.2.2.2.1 ∧ vld (x.2.2.2.2.2.2.1 13) x.2.2.2.1 100) (fun x v w => v = none ∧ ∃ q r, w = wM (xa (xa (xa x.2.2.2.2 10 q) 11 r) 12 (dl (x.2.2.2.2.2.2.1 13) (fun a => nI (pt (qf x.1 x.2.1 x.2.2.1 x.2.2.2.1) a x.2.2.1)) (x.2.2.2.2.2.2.1 12) x.2.2.2.1)))
def rm_X7_give : Room := { frames := 1, cells := 0, slots := 0, locals := 24 }
def t_X7_give : en_T := ((4, 0, 0), tb_X7_give, fl_X7, cn_X7, [(85, 2, 9, 0, 0, f_X7_quotasOf)], [], 0, none)
set_option maxRecDepth 100000 in
theorem tB_X7_give (D : va_G) (dT : Nat → Nat) (l : Launch) : en_TB en_WD D vwCl dT l rm_X7_give t_X7_give RX7 "give" cX7_give := ⟨tk_X7_give, fun s args meth h hn => ⟨fo_X7 h args meth, co_X7 h args, List.forall_mem_cons.mpr ⟨mk_X7_quotasOf (own := RX7) h (Nat.le_of_ble_eq_true rfl) (Nat.le_of_ble_eq_true rfl) (Or.inl (en_wd h 856 (by decide +kernel) rfl args)), fun _ h => absurd h List.not_mem_nil⟩, fun _ h => absurd h List.not_mem_nil, Or.inl rfl, en_arr h args⟩⟩
set_option maxHeartbeats 4000000 in
set_option maxRecDepth 100000 in
theorem bd_X7_give : en_B (σ := (Nat → Nat) × Nat × Nat × Nat × Sx) t_X7_give (fun _ => [.ref 0]) (fun x => wM x.2.2.2.2) (fun x => wgm x.2.2.2.2 x.1 x.2.1 x.2.2.1 ∧ x.2.2.2.1 ≤ 100 ∧ x.2.2.2.2.1 5 = nI x.2.2.2.1 ∧ vld (x.2.2.2.2.2.2.1 13) x.2.2.2.1 100) (fun x v w => v = none ∧ ∃ q r, w = wM (xa (xa (xa x.2.2.2.2 10 q) 11 r) 12 (dl (x.2.2.2.2.2.2.1 13) (fun a => nI (pt (qf x.1 x.2.1 x.2.2.1 x.2.2.2.1) a x.2.2.1)) (x.2.2.2.2.2.2.1 12) x.2.2.2.1))) := by
  rintro ⟨w, W, k, m, S⟩ ⟨hwg, hm, h5, hv⟩ G hG OK ⟨run, sub⟩
  dsimp only at hwg hm h5 hv hG ⊢
  have hok : wok w W k := hwg.1
  have hk : S.1 1 = nI k := hwg.2.1
  have hk4 : k ≤ 4 := hok.2.1
  refine run [12] 60 _ _ _ _ _ _ ?_
  conv => whnf
  refine ⟨(w, W, k, m, S), (by show [Value.ref 0, Value.int (S.1 5)] = [Value.ref 0, Value.int (nI m)]; rw [h5]), rfl, ⟨hwg, by dsimp only; omega⟩, ?_⟩
  rintro v u ⟨hv0, qq, r, hu, hqq⟩
  obtain rfl : v = none := hv0
  obtain rfl : u = wM (xa (xa S 10 qq) 11 r) := hu
  have hqq : ∀ j, j < k → qq j = nI (qf w W k m j) := hqq
  have hsum := qf_sum (n := m) hok
  generalize hQ : qf w W k m = q at hsum hqq hG
  have hle : ∀ p, p ≤ k → sm q p ≤ m := fun p hp => by rw [← hsum]; exact sm_mono q hp
  have outer : ∀ p, p ≤ k → OK 0 0 12 [(0, .ref 0), (1, .int (nI (sm q p))), (2, .int (nI p))] [] (wM (xa (xa (xa S 10 qq) 11 r) 12 (dl (S.2.2.1 13) (fun a => nI (pt q a k)) (S.2.2.1 12) (sm q p)))) := by
    refine lp_up (fun p => OK 0 0 12 [(0, .ref 0), (1, .int (nI (sm q p))), (2, .int (nI p))] [] (wM (xa (xa (xa S 10 qq) 11 r) 12 (dl (S.2.2.1 13) (fun a => nI (pt q a k)) (S.2.2.1 12) (sm q p))))) k ?_ ?_
    · refine run [12] 60 _ _ _ _ _ _ ?_
      conv => whnf
      refine pk_le k k (fun h => ?_) (fun h => absurd h (by omega)) hk
      conv => whnf
      refine hG _ _ ⟨rfl, qq, r, ?_⟩
      rw [hsum]
    · intro p hp ih
      have hp1 := hle (p + 1) (by omega)
      have hsp : sm q (p + 1) = sm q p + q p := rfl
      have inner : ∀ a, a ≤ q p → OK 0 0 22 [(0, .ref 0), (1, .int (nI (sm q p + a))), (2, .int (nI p)), (3, .int (nI a))] [] (wM (xa (xa (xa S 10 qq) 11 r) 12 (dl (S.2.2.1 13) (fun a => nI (pt q a k)) (S.2.2.1 12) (sm q p + a)))) := by
        refine lp_up (fun a => OK 0 0 22 [(0, .ref 0), (1, .int (nI (sm q p + a))), (2, .int (nI p)), (3, .int (nI a))] [] (wM (xa (xa (xa S 10 qq) 11 r) 12 (dl (S.2.2.1 13) (fun a => nI (pt q a k)) (S.2.2.1 12) (sm q p + a))))) (q p) ?_ ?_
        · refine run [12, 22] 60 _ _ _ _ _ _ ?_
          conv => whnf
          refine ⟨vp_in_nI (by omega) (by decide), ?_⟩
          rw [nI_clamp (by omega)]
          conv => whnf
          refine pk_le (q p) (q p) (fun h => ?_) (fun h => absurd h (by omega)) (hqq p hp)
          conv => whnf
          rw [nI_succ, hsp] at ih
          exact sub [0, 1, 2] _ _ _ _ _ _ _ rfl ih
        · intro a ha iha
          rw [← Nat.add_assoc, nI_succ a, nI_succ (sm q p + a)] at iha
          have e : dl (S.2.2.1 13) (fun a => nI (pt q a k)) (S.2.2.1 12) (sm q p + a + 1) = upd (dl (S.2.2.1 13) (fun a => nI (pt q a k)) (S.2.2.1 12) (sm q p + a)) (S.2.2.1 13 (sm q p + a)).toNatClampNeg (nI p) := by
            show upd _ _ (nI (pt q (sm q p + a) k)) = _
            rw [pt_is (p := p) (by omega) (by omega) k hp]
          rw [e] at iha
          refine run [12, 22] 60 _ _ _ _ _ _ ?_
          conv => whnf
          refine ⟨vp_in_nI (by omega) (by decide), ?_⟩
          rw [nI_clamp (by omega)]
          conv => whnf
          refine pk_le (q p) a (fun h => absurd h (by omega)) (fun h => ?_) (hqq p hp)
          conv => whnf
          refine ⟨vp_in_nI (by omega) (by decide), ?_⟩
          rw [nI_clamp (by omega)]
          conv => whnf
          refine ⟨vld_in hv (by omega) (by decide), ?_⟩
          conv => whnf
          exact iha
      refine run [12, 22] 60 _ _ _ _ _ _ ?_
      conv => whnf
      refine pk_le k p (fun h => absurd h (by omega)) (fun h => ?_) hk
      conv => whnf
      exact inner 0 (by omega)
  conv => whnf
  exact outer 0 (by omega)
theorem ct_X7_give (D : va_G) (dT : Nat → Nat) (l : Launch) : en_CT en_WD D vwCl dT l yX7_give cX7_give 4 (none) rm_X7_give f_X7_give := en_met en_WD1 en_WD2 (by decide) rfl rfl (tB_X7_give D dT l) (en_f_ln (fun _ => Nat.le_of_ble_eq_true rfl)) (en_f_bd bd_X7_give)
set_option maxRecDepth 100000 in
theorem mk_X7_give {D : va_G} {dT : Nat → Nat} {l : Launch} {R : Room} {s : State} {args : Array Value} {own : String} {idx : Nat} (h : en_WD s) (h1 : rm_X7_give.frames + 1 ≤ R.frames) (h2 : 8 + (4 + 11) + rm_X7_give.locals ≤ R.locals) (hl : (Jvm.Cond.methodLink own idx yX7_give).before args s = true ∨ ∃ host, (Jvm.Cond.methodLinkNest own idx yX7_give host).before args s = true) : en_mok en_WD D vwCl dT l R s args own (idx, 1, 9, 0, 0, f_X7_give) :=
  ⟨yX7_give, cX7_give, 4, none, rm_X7_give, 0, ct_X7_give D dT l, rfl, rfl, h1, h2, en_wd h 885 rfl rfl args, en_wd h 66 (by decide +kernel) rfl args, by decide, by decide, hl, ⟨RX7, TX7, 24, rfl, en_wd h 884 (by decide +kernel) rfl args, en_wd h 41 (by decide +kernel) rfl args, rfl⟩⟩
/-- what the reference's splitting leaves as it was -/
def kpm (S S' : Sx) : Prop := (∀ j, j ≠ 5 → S'.1 j = S.1 j) ∧ (∀ a, a < 10 → S'.2.2.1 a = S.2.2.1 a) ∧ S'.2.2.2 = S.2.2.2
theorem kpm_rf (S : Sx) : kpm S S := ⟨fun _ _ => rfl, fun _ _ => rfl, rfl⟩
theorem kpm_tr {S T U : Sx} (h : kpm S T) (g : kpm T U) : kpm S U := ⟨fun j hj => (g.1 j hj).trans (h.1 j hj), fun a ha => (g.2.1 a ha).trans (h.2.1 a ha), g.2.2.trans h.2.2⟩
theorem kpm_i {S : Sx} {v : Int32} : kpm S (xi S 5 v) := ⟨fun j hj => if_neg hj, fun _ _ => rfl, rfl⟩
theorem kpm_z {S : Sx} {v : Int64} : kpm S (xz S v) := ⟨fun _ _ => rfl, fun _ _ => rfl, rfl⟩
theorem kpm_a {S : Sx} {k : Nat} {f : Nat → Int32} (h : 10 ≤ k) : kpm S (xa S k f) := ⟨fun _ _ => rfl, fun a ha => if_neg (by omega), rfl⟩
theorem wgm_k {S S' : Sx} {w : Nat → Nat} {W k : Nat} (h : wgm S w W k) (g : kpm S S') : wgm S' w W k :=
  ⟨h.1, (g.1 1 (by decide)).trans h.2.1, (g.1 2 (by decide)).trans h.2.2.1, fun j hj => by rw [g.2.1 7 (by decide)]; exact h.2.2.2 j hj⟩
def f_X7_plain := en_f (σ := (Nat → Nat) × Nat × Nat × Nat × Sx) (fun _ => [.ref 0]) (fun x => wM x.2.2.2.2) (fun x => wgm x.2.2.2.2 x.1 x.2.1 x.2.2.1 ∧ x.2.2.2.1 ≤ 100 ∧ x.2.2.2.2.1 0 = nI x.2.2.2.1) (fun x v w => v = none ∧ ∃ S', w = wM S' ∧ kpm x.2.2.2.2 S' ∧ S'.2.2.1 12 = PL0 x.1 x.2.1 x.2.2.1 x.2.2.2.1 x.2.2.2.2.2.1 (x.2.2.2.2.2.2.1 13) (x.2.2.2.2.2.2.1 12))
def rm_X7_plain : Room := { frames := 2, cells := 0, slots := 0, locals := 47 }
def t_X7_plain : en_T := ((2, 0, 0), tb_X7_plain, fl_X7, cn_X7, [(104, 1, 9, 0, 0, f_X7_shuffle), (107, 1, 9, 0, 0, f_X7_give)], [], 0, none)
set_option maxRecDepth 100000 in
theorem tB_X7_plain (D : va_G) (dT : Nat → Nat) (l : Launch) : en_TB en_WD D vwCl dT l rm_X7_plain t_X7_plain RX7 "plain" cX7_plain := ⟨tk_X7_plain, fun s args meth h hn => ⟨fo_X7 h args meth, co_X7 h args, List.forall_mem_cons.mpr ⟨mk_X7_shuffle (own := RX7) h (Nat.le_of_ble_eq_true rfl) (Nat.le_of_ble_eq_true rfl) (Or.inl (en_wd h 872 (by decide +kernel) rfl args)), List.forall_mem_cons.mpr ⟨mk_X7_give (own := RX7) h (Nat.le_of_ble_eq_true rfl) (Nat.le_of_ble_eq_true rfl) (Or.inl (en_wd h 882 (by decide +kernel) rfl args)), fun _ h => absurd h List.not_mem_nil⟩⟩, fun _ h => absurd h List.not_mem_nil, Or.inl rfl, en_arr h args⟩⟩
set_option maxHeartbeats 4000000 in
set_option maxRecDepth 100000 in
theorem bd_X7_plain : en_B (σ := (Nat → Nat) × Nat × Nat × Nat × Sx) t_X7_plain (fun _ => [.ref 0]) (fun x => wM x.2.2.2.2) (fun x => wgm x.2.2.2.2 x.1 x.2.1 x.2.2.1 ∧ x.2.2.2.1 ≤ 100 ∧ x.2.2.2.2.1 0 = nI x.2.2.2.1) (fun x v w => v = none ∧ ∃ S', w = wM S' ∧ kpm x.2.2.2.2 S' ∧ S'.2.2.1 12 = PL0 x.1 x.2.1 x.2.2.1 x.2.2.2.1 x.2.2.2.2.2.1 (x.2.2.2.2.2.2.1 13) (x.2.2.2.2.2.2.1 12)) := by
  rintro ⟨w, W, k, n, S⟩ ⟨hwg, hn, h1⟩ G hG OK ⟨run, sub⟩
  dsimp only at hwg hn h1 hG ⊢
  have tail : OK 0 0 31 [(0, .ref 0)] [] (wM (xa (xi S 5 (nI n)) 13 (mx n nI (S.2.2.1 13)))) := by
    refine run [] 60 _ _ _ _ _ _ ?_
    conv => whnf
    refine ⟨(n, xa (xi S 5 (nI n)) 13 (mx n nI (S.2.2.1 13))), rfl, rfl, ⟨hn, rfl⟩, ?_⟩
    intro v u hvu
    obtain ⟨rfl, rfl⟩ : v = none ∧ u = wM (xa (xz (xa (xi S 5 (nI n)) 13 (mx n nI (S.2.2.1 13))) (shm n S.2.1 (mx n nI (S.2.2.1 13))).1) 13 (shm n S.2.1 (mx n nI (S.2.2.1 13))).2) := hvu
    have hv := shm_v (z := S.2.1) (mx_v (n := n) (b := 100) hn (old := S.2.2.1 13))
    unfold PL0 at hG
    generalize shm n S.2.1 (mx n nI (S.2.2.1 13)) = Z at hv hG ⊢
    conv => whnf
    refine ⟨(w, W, k, n, xa (xz (xa (xi S 5 (nI n)) 13 (mx n nI (S.2.2.1 13))) Z.1) 13 Z.2), rfl, rfl, ⟨hwg, hn, rfl, hv⟩, ?_⟩
    rintro v u ⟨hv0, q, r, hu⟩
    obtain rfl : v = none := hv0
    obtain rfl : u = wM (xa (xa (xa (xa (xz (xa (xi S 5 (nI n)) 13 (mx n nI (S.2.2.1 13))) Z.1) 13 Z.2) 10 q) 11 r) 12 (dl Z.2 (fun a => nI (pt (qf w W k n) a k)) (S.2.2.1 12) n)) := hu
    conv => whnf
    exact hG _ _ ⟨rfl, _, rfl, kpm_tr (kpm_tr (kpm_tr (kpm_tr (kpm_tr (kpm_tr kpm_i (kpm_a (by omega))) kpm_z) (kpm_a (by omega))) (kpm_a (by omega))) (kpm_a (by omega))) (kpm_a (by omega)), rfl⟩
  have loop := lp_up (fun i => OK 0 0 10 [(0, .ref 0), (1, .int (nI i))] [] (wM (xa (xi S 5 (nI n)) 13 (mx i nI (S.2.2.1 13))))) n
    (by
      refine run [10, 31] 60 _ _ _ _ _ _ ?_
      conv => whnf
      refine pk_le n n (fun h => ?_) (fun h => absurd h (by omega)) h1
      conv => whnf
      exact sub [0] _ _ _ _ _ _ _ rfl tail)
    (fun i hi ih => by
      rw [nI_succ, ← mx_s] at ih
      refine run [10, 31] 60 _ _ _ _ _ _ ?_
      conv => whnf
      refine pk_le n i (fun h => absurd h (by omega)) (fun h => ?_) h1
      conv => whnf
      refine ⟨vp_in_nI (by omega) (by decide), ?_⟩
      rw [nI_clamp (by omega)]
      conv => whnf
      exact ih)
  refine run [10] 60 _ _ _ _ _ _ ?_
  conv => whnf
  have h0 := loop 0 (by omega)
  rw [mx_0, ← h1] at h0
  exact h0
theorem ct_X7_plain (D : va_G) (dT : Nat → Nat) (l : Launch) : en_CT en_WD D vwCl dT l yX7_plain cX7_plain 2 (none) rm_X7_plain f_X7_plain := en_met en_WD1 en_WD2 (by decide) rfl rfl (tB_X7_plain D dT l) (en_f_ln (fun _ => Nat.le_of_ble_eq_true rfl)) (en_f_bd bd_X7_plain)
set_option maxRecDepth 100000 in
theorem mk_X7_plain {D : va_G} {dT : Nat → Nat} {l : Launch} {R : Room} {s : State} {args : Array Value} {own : String} {idx : Nat} (h : en_WD s) (h1 : rm_X7_plain.frames + 1 ≤ R.frames) (h2 : 8 + (2 + 11) + rm_X7_plain.locals ≤ R.locals) (hl : (Jvm.Cond.methodLink own idx yX7_plain).before args s = true ∨ ∃ host, (Jvm.Cond.methodLinkNest own idx yX7_plain host).before args s = true) : en_mok en_WD D vwCl dT l R s args own (idx, 1, 9, 0, 0, f_X7_plain) :=
  ⟨yX7_plain, cX7_plain, 2, none, rm_X7_plain, 0, ct_X7_plain D dT l, rfl, rfl, h1, h2, en_wd h 871 rfl rfl args, en_wd h 66 (by decide +kernel) rfl args, by decide, by decide, hl, ⟨RX7, TX7, 24, rfl, en_wd h 870 (by decide +kernel) rfl args, en_wd h 38 (by decide +kernel) rfl args, rfl⟩⟩
/-- the rows of a label that are taken -/
abbrev ofl (Lb Dl : Nat → Int32) (l th : Int32) (r : Nat) : Prop := Lb r = l ∧ (th = 0 ∨ Dl r ≠ -1)
def f_X7_ofLabel := en_f (σ := Nat × Int32 × Int32 × Sx) (fun x => [.ref 0, .int x.2.1, .int x.2.2.1]) (fun x => wM x.2.2.2) (fun x => x.1 ≤ 100 ∧ x.2.2.2.1 0 = nI x.1) (fun x v w => v = none ∧ w = wM (xi (xa x.2.2.2 13 (sel (ofl (x.2.2.2.2.2.1 2) (x.2.2.2.2.2.1 12) x.2.1 x.2.2.1) (x.2.2.2.2.2.1 13) x.1)) 5 (nI (ct (ofl (x.2.2.2.2.2.1 2) (x.2.2.2.2.2.1 12) x.2.1 x.2.2.1) x.1))))
def rm_X7_ofLabel : Room := { frames := 0, cells := 0, slots := 0, locals := 0 }
def t_X7_ofLabel : en_T := ((4, 0, 0), tb_X7_ofLabel, fl_X7, cn_X7, [], [], 0, none)
set_option maxRecDepth 100000 in
theorem tB_X7_ofLabel (D : va_G) (dT : Nat → Nat) (l : Launch) : en_TB en_WD D vwCl dT l rm_X7_ofLabel t_X7_ofLabel RX7 "ofLabel" cX7_ofLabel := ⟨tk_X7_ofLabel, fun s args meth h hn => ⟨fo_X7 h args meth, co_X7 h args, fun _ h => absurd h List.not_mem_nil, fun _ h => absurd h List.not_mem_nil, Or.inl rfl, en_arr h args⟩⟩
set_option maxHeartbeats 4000000 in
set_option maxRecDepth 100000 in
theorem bd_X7_ofLabel : en_B (σ := Nat × Int32 × Int32 × Sx) t_X7_ofLabel (fun x => [.ref 0, .int x.2.1, .int x.2.2.1]) (fun x => wM x.2.2.2) (fun x => x.1 ≤ 100 ∧ x.2.2.2.1 0 = nI x.1) (fun x v w => v = none ∧ w = wM (xi (xa x.2.2.2 13 (sel (ofl (x.2.2.2.2.2.1 2) (x.2.2.2.2.2.1 12) x.2.1 x.2.2.1) (x.2.2.2.2.2.1 13) x.1)) 5 (nI (ct (ofl (x.2.2.2.2.2.1 2) (x.2.2.2.2.2.1 12) x.2.1 x.2.2.1) x.1)))) := by
  rintro ⟨n, l, th, S⟩ ⟨hn, h1⟩ G hG OK ⟨run, sub⟩
  dsimp only at hn h1 hG ⊢
  have loop := lp_up (fun i => OK 0 0 7 [(0, .ref 0), (1, .int l), (2, .int th), (3, .int (nI i))] [] (wM (xi (xa S 13 (sel (ofl (S.2.2.1 2) (S.2.2.1 12) l th) (S.2.2.1 13) i)) 5 (nI (ct (ofl (S.2.2.1 2) (S.2.2.1 12) l th) i))))) n
    (by
      refine run [7] 60 _ _ _ _ _ _ ?_
      conv => whnf
      refine pk_le n n (fun h => ?_) (fun h => absurd h (by omega)) h1
      conv => whnf
      exact hG _ _ ⟨rfl, rfl⟩)
    (fun i hi ih => by
      have hc := ct_le (ofl (S.2.2.1 2) (S.2.2.1 12) l th) i
      rw [nI_succ] at ih
      have hno : ¬ ofl (S.2.2.1 2) (S.2.2.1 12) l th i → OK 0 0 7 [(0, .ref 0), (1, .int l), (2, .int th), (3, .int (nI i + 1))] [] (wM (xi (xa S 13 (sel (ofl (S.2.2.1 2) (S.2.2.1 12) l th) (S.2.2.1 13) i)) 5 (nI (ct (ofl (S.2.2.1 2) (S.2.2.1 12) l th) i)))) := fun hp => by
        rw [ct_f hp, sel_f hp] at ih
        exact ih
      have hyes : ofl (S.2.2.1 2) (S.2.2.1 12) l th i → OK 0 0 39 [(0, .ref 0), (1, .int l), (2, .int th), (3, .int (nI i))] [] (wM (xi (xa S 13 (sel (ofl (S.2.2.1 2) (S.2.2.1 12) l th) (S.2.2.1 13) i)) 5 (nI (ct (ofl (S.2.2.1 2) (S.2.2.1 12) l th) i)))) := fun hp => by
        rw [ct_t hp, sel_t hp, nI_succ] at ih
        generalize sel (ofl (S.2.2.1 2) (S.2.2.1 12) l th) (S.2.2.1 13) i = SE at ih ⊢
        generalize ct (ofl (S.2.2.1 2) (S.2.2.1 12) l th) i = C at hc ih ⊢
        refine run [7] 60 _ _ _ _ _ _ ?_
        conv => whnf
        refine ⟨vp_in_nI (n := C) (by omega) (by decide), ?_⟩
        conv => whnf
        have hu : upd SE C (nI i) = upd SE (nI C).toNatClampNeg (nI i) := by rw [nI_clamp (by omega)]
        rw [hu] at ih
        exact ih
      refine run [7, 39] 60 _ _ _ _ _ _ ?_
      conv => whnf
      refine pk_le n i (fun h => absurd h (by omega)) (fun h => ?_) h1
      conv => whnf
      refine ⟨vp_in_nI (by omega) (by decide), ?_⟩
      rw [nI_clamp (by omega)]
      conv => whnf
      refine ⟨fun hp => ?_, fun hp => ?_⟩
      · conv => whnf
        exact hno (fun z => hp z.1)
      · conv => whnf
        refine ⟨fun ht => ?_, fun ht => ?_⟩
        · conv => whnf
          exact hyes ⟨hp, Or.inl ht⟩
        · conv => whnf
          refine ⟨vp_in_nI (by omega) (by decide), ?_⟩
          rw [nI_clamp (by omega)]
          conv => whnf
          refine ⟨fun hr => ?_, fun hr => ?_⟩
          · conv => whnf
            exact hno (fun z => z.2.elim ht (fun y => y hr))
          · conv => whnf
            exact hyes ⟨hp, Or.inr hr⟩)
  refine run [7] 60 _ _ _ _ _ _ ?_
  conv => whnf
  exact loop 0 (by omega)
theorem ct_X7_ofLabel (D : va_G) (dT : Nat → Nat) (l : Launch) : en_CT en_WD D vwCl dT l yX7_ofLabel cX7_ofLabel 4 (none) rm_X7_ofLabel f_X7_ofLabel := en_met en_WD1 en_WD2 (by decide) rfl rfl (tB_X7_ofLabel D dT l) (en_f_ln (fun _ => Nat.le_of_ble_eq_true rfl)) (en_f_bd bd_X7_ofLabel)
set_option maxRecDepth 100000 in
theorem mk_X7_ofLabel {D : va_G} {dT : Nat → Nat} {l : Launch} {R : Room} {s : State} {args : Array Value} {own : String} {idx : Nat} (h : en_WD s) (h1 : rm_X7_ofLabel.frames + 1 ≤ R.frames) (h2 : 8 + (4 + 11) + rm_X7_ofLabel.locals ≤ R.locals) (hl : (Jvm.Cond.methodLink own idx yX7_ofLabel).before args s = true ∨ ∃ host, (Jvm.Cond.methodLinkNest own idx yX7_ofLabel host).before args s = true) : en_mok en_WD D vwCl dT l R s args own (idx, 3, 9, 0, 0, f_X7_ofLabel) :=
  ⟨yX7_ofLabel, cX7_ofLabel, 4, none, rm_X7_ofLabel, 2, ct_X7_ofLabel D dT l, rfl, rfl, h1, h2, en_wd h 897 rfl rfl args, en_wd h 66 (by decide +kernel) rfl args, by decide, by decide, hl, ⟨RX7, TX7, 24, rfl, en_wd h 896 (by decide +kernel) rfl args, en_wd h 44 (by decide +kernel) rfl args, rfl⟩⟩
def f_X7_take := en_f (σ := Nat × Sx) (fun _ => [.ref 0]) (fun x => wM x.2) (fun x => x.1 ≤ 100 ∧ x.2.1 0 = nI x.1) (fun x v w => ansM v w (nI (ct (fun r => x.2.2.2.1 12 r ≠ -1) x.1)) (xa x.2 6 (mx x.1 (x.2.2.2.1 12) (x.2.2.2.1 6))))
def rm_X7_take : Room := { frames := 0, cells := 0, slots := 0, locals := 0 }
def t_X7_take : en_T := ((3, 0, 0), tb_X7_take, fl_X7, cn_X7, [], [], 0, some .int)
set_option maxRecDepth 100000 in
theorem tB_X7_take (D : va_G) (dT : Nat → Nat) (l : Launch) : en_TB en_WD D vwCl dT l rm_X7_take t_X7_take RX7 "take" cX7_take := ⟨tk_X7_take, fun s args meth h hn => ⟨fo_X7 h args meth, co_X7 h args, fun _ h => absurd h List.not_mem_nil, fun _ h => absurd h List.not_mem_nil, Or.inl rfl, en_arr h args⟩⟩
set_option maxHeartbeats 4000000 in
set_option maxRecDepth 100000 in
theorem bd_X7_take : en_B (σ := Nat × Sx) t_X7_take (fun _ => [.ref 0]) (fun x => wM x.2) (fun x => x.1 ≤ 100 ∧ x.2.1 0 = nI x.1) (fun x v w => ansM v w (nI (ct (fun r => x.2.2.2.1 12 r ≠ -1) x.1)) (xa x.2 6 (mx x.1 (x.2.2.2.1 12) (x.2.2.2.1 6)))) := by
  rintro ⟨n, S⟩ ⟨hn, h1⟩ G hG OK ⟨run, sub⟩
  dsimp only at hn h1 hG ⊢
  have loop := lp_up (fun i => OK 0 0 4 [(0, .ref 0), (1, .int (nI (ct (fun r => S.2.2.1 12 r ≠ -1) i))), (2, .int (nI i))] [] (wM (xa S 6 (mx i (S.2.2.1 12) (S.2.2.1 6))))) n
    (by
      refine run [4] 60 _ _ _ _ _ _ ?_
      conv => whnf
      refine pk_le n n (fun h => ?_) (fun h => absurd h (by omega)) h1
      conv => whnf
      exact hG _ _ ⟨rfl, rfl⟩)
    (fun i hi ih => by
      rw [nI_succ, ← mx_s] at ih
      refine run [4] 60 _ _ _ _ _ _ ?_
      conv => whnf
      refine pk_le n i (fun h => absurd h (by omega)) (fun h => ?_) h1
      conv => whnf
      refine ⟨vp_in_nI (by omega) (by decide), ?_⟩
      rw [nI_clamp (by omega)]
      conv => whnf
      refine ⟨vp_in_nI (by omega) (by decide), ?_⟩
      rw [nI_clamp (by omega)]
      conv => whnf
      refine ⟨vp_in_nI (by omega) (by decide), ?_⟩
      rw [nI_clamp (by omega)]
      conv => whnf
      refine ⟨fun hp => ?_, fun hp => ?_⟩
      · have hp : upd (mx i (S.2.2.1 12) (S.2.2.1 6)) i (S.2.2.1 12 i) i = -1 := hp
        rw [pk_us] at hp
        rw [ct_f (p := fun r => S.2.2.1 12 r ≠ -1) (fun z => z hp), ← Int32.add_zero (nI (ct (fun r => S.2.2.1 12 r ≠ -1) i))] at ih
        conv => whnf
        exact ih
      · have hp : ¬ upd (mx i (S.2.2.1 12) (S.2.2.1 6)) i (S.2.2.1 12 i) i = -1 := hp
        rw [pk_us] at hp
        rw [ct_t (p := fun r => S.2.2.1 12 r ≠ -1) hp, nI_succ] at ih
        conv => whnf
        exact ih)
  refine run [4] 60 _ _ _ _ _ _ ?_
  conv => whnf
  have h0 := loop 0 (by omega)
  rw [mx_0] at h0
  exact h0
theorem ct_X7_take (D : va_G) (dT : Nat → Nat) (l : Launch) : en_CT en_WD D vwCl dT l yX7_take cX7_take 3 (some .int) rm_X7_take f_X7_take := en_met en_WD1 en_WD2 (by decide) rfl rfl (tB_X7_take D dT l) (en_f_ln (fun _ => Nat.le_of_ble_eq_true rfl)) (en_f_bd bd_X7_take)
set_option maxRecDepth 100000 in
theorem mk_X7_take {D : va_G} {dT : Nat → Nat} {l : Launch} {R : Room} {s : State} {args : Array Value} {own : String} {idx : Nat} (h : en_WD s) (h1 : rm_X7_take.frames + 1 ≤ R.frames) (h2 : 8 + (3 + 11) + rm_X7_take.locals ≤ R.locals) (hl : (Jvm.Cond.methodLink own idx yX7_take).before args s = true ∨ ∃ host, (Jvm.Cond.methodLinkNest own idx yX7_take host).before args s = true) : en_mok en_WD D vwCl dT l R s args own (idx, 1, 9, 0, 0, f_X7_take) :=
  ⟨yX7_take, cX7_take, 3, some .int, rm_X7_take, 0, ct_X7_take D dT l, rfl, rfl, h1, h2, en_wd h 901 rfl rfl args, en_wd h 66 (by decide +kernel) rfl args, by decide, by decide, hl, ⟨RX7, TX7, 24, rfl, en_wd h 900 (by decide +kernel) rfl args, en_wd h 45 (by decide +kernel) rfl args, rfl⟩⟩
end
section
/-! the reference: by groups -/
theorem ct_fs {p : Nat → Prop} [DecidablePred p] : ∀ {n : Nat}, 0 < ct p n ↔ fs p n ≠ none
  | 0 => ⟨fun h => absurd h (Nat.lt_irrefl 0), fun h => absurd rfl h⟩
  | n + 1 => by
    have ih := ct_fs (p := p) (n := n)
    by_cases hp : p n
    · rw [ct_t hp]
      refine ⟨fun _ h => fs_no h n (by omega) hp, fun _ => by omega⟩
    · rw [ct_f hp, ih]
      constructor
      · intro h h2
        obtain ⟨r, hr⟩ : ∃ r, fs p n = some r := by
          cases hf : fs p n with
          | none => exact absurd hf h
          | some r => exact ⟨r, rfl⟩
        rw [fs_s hr (n + 1) (by omega)] at h2
        cases h2
      · intro h h2
        exact h (fs_f h2 hp)
def f_X7_byGroups := en_f (σ := Nat × Nat × Sx) (fun _ => [.ref 0]) (fun x => wM x.2.2) (fun x => 1 ≤ x.1 ∧ x.1 ≤ 4 ∧ x.2.2.1 1 = nI x.1 ∧ x.2.1 ≤ 100 ∧ x.2.2.1 0 = nI x.2.1) (fun x v w => v = none ∧ ∃ S' q, w = wM S' ∧ kpm x.2.2 S' ∧ S'.2.2.1 12 = PL1 (x.2.2.2.2.1 1) (x.2.2.2.2.1 7) (x.2.2.1 2) x.1 x.2.1 x.2.2.2.1 (x.2.2.2.2.1 13) (x.2.2.2.2.1 12) q)
def rm_X7_byGroups : Room := { frames := 2, cells := 0, slots := 0, locals := 44 }
def t_X7_byGroups : en_T := ((4, 0, 0), tb_X7_byGroups, fl_X7, cn_X7, [(104, 1, 9, 0, 0, f_X7_shuffle)], [], 0, none)
set_option maxRecDepth 100000 in
theorem tB_X7_byGroups (D : va_G) (dT : Nat → Nat) (l : Launch) : en_TB en_WD D vwCl dT l rm_X7_byGroups t_X7_byGroups RX7 "byGroups" cX7_byGroups := ⟨tk_X7_byGroups, fun s args meth h hn => ⟨fo_X7 h args meth, co_X7 h args, List.forall_mem_cons.mpr ⟨mk_X7_shuffle (own := RX7) h (Nat.le_of_ble_eq_true rfl) (Nat.le_of_ble_eq_true rfl) (Or.inl (en_wd h 872 (by decide +kernel) rfl args)), fun _ h => absurd h List.not_mem_nil⟩, fun _ h => absurd h List.not_mem_nil, Or.inl rfl, en_arr h args⟩⟩
set_option maxHeartbeats 4000000 in
set_option maxRecDepth 100000 in
theorem bd_X7_byGroups : en_B (σ := Nat × Nat × Sx) t_X7_byGroups (fun _ => [.ref 0]) (fun x => wM x.2.2) (fun x => 1 ≤ x.1 ∧ x.1 ≤ 4 ∧ x.2.2.1 1 = nI x.1 ∧ x.2.1 ≤ 100 ∧ x.2.2.1 0 = nI x.2.1) (fun x v w => v = none ∧ ∃ S' q, w = wM S' ∧ kpm x.2.2 S' ∧ S'.2.2.1 12 = PL1 (x.2.2.2.2.1 1) (x.2.2.2.2.1 7) (x.2.2.1 2) x.1 x.2.1 x.2.2.2.1 (x.2.2.2.2.1 13) (x.2.2.2.2.1 12) q) := by
  rintro ⟨k, n, S⟩ ⟨hk1, hk4, hk, hn, h1⟩ G hG OK ⟨run, sub⟩
  dsimp only at hk1 hk4 hk hn h1 hG ⊢
  have hv30 := sel_v (p := hasg (S.2.2.1 1) n) (old := S.2.2.1 13) 30
  have hc := ct_le (hasg (S.2.2.1 1) n) 30
  have phase2 : ∀ (hs : Nat → Int32), (∀ g, g < 30 → hs g = nI (ct (fun r => S.2.2.1 1 r = nI g) n)) → OK 0 0 95 [(0, .ref 0)] [] (wM (xi (xa (xa S 14 hs) 13 (sel (hasg (S.2.2.1 1) n) (S.2.2.1 13) 30)) 5 (nI (ct (hasg (S.2.2.1 1) n) 30)))) := by
    intro hs hh
    unfold PL1 at hG
    rw [← h1] at hG
    generalize ct (hasg (S.2.2.1 1) n) 30 = m at hc hv30 hG ⊢
    generalize sel (hasg (S.2.2.1 1) n) (S.2.2.1 13) 30 = SE at hv30 hG ⊢
    refine run [101] 60 _ _ _ _ _ _ ?_
    conv => whnf
    refine ⟨(m, xi (xa (xa S 14 hs) 13 SE) 5 (nI m)), rfl, rfl, ⟨(by dsimp only; omega), rfl⟩, ?_⟩
    intro v u hvu
    obtain ⟨rfl, rfl⟩ : v = none ∧ u = wM (xa (xz (xi (xa (xa S 14 hs) 13 SE) 5 (nI m)) (shm m S.2.1 SE).1) 13 (shm m S.2.1 SE).2) := hvu
    have hv := shm_v (z := S.2.1) hv30
    generalize shm m S.2.1 SE = Z at hv hG ⊢
    have loop2 : ∀ i, i ≤ m → OK 0 0 121 [(0, .ref 0), (1, .int (nI i))] [] (wM (xa (xa (xa (xz (xi (xa (xa S 14 hs) 13 SE) 5 (nI m)) Z.1) 13 Z.2) 12 (gst (S.2.2.1 1) (S.2.2.1 7) Z.2 (S.1 0) (S.1 2) k n (S.2.2.1 12) (mx 4 (fun _ => 0) (S.2.2.1 10)) i).1) 10 (gst (S.2.2.1 1) (S.2.2.1 7) Z.2 (S.1 0) (S.1 2) k n (S.2.2.1 12) (mx 4 (fun _ => 0) (S.2.2.1 10)) i).2)) := by
      refine lp_up (fun i => OK 0 0 121 [(0, .ref 0), (1, .int (nI i))] [] (wM (xa (xa (xa (xz (xi (xa (xa S 14 hs) 13 SE) 5 (nI m)) Z.1) 13 Z.2) 12 (gst (S.2.2.1 1) (S.2.2.1 7) Z.2 (S.1 0) (S.1 2) k n (S.2.2.1 12) (mx 4 (fun _ => 0) (S.2.2.1 10)) i).1) 10 (gst (S.2.2.1 1) (S.2.2.1 7) Z.2 (S.1 0) (S.1 2) k n (S.2.2.1 12) (mx 4 (fun _ => 0) (S.2.2.1 10)) i).2))) m ?_ ?_
      · refine run [121] 60 _ _ _ _ _ _ ?_
        conv => whnf
        refine pk_le m m (fun h => ?_) (fun h => absurd h (by omega))
        conv => whnf
        exact hG _ _ ⟨rfl, _, (S.2.2.1 10), rfl, kpm_tr (kpm_tr (kpm_tr (kpm_tr (kpm_tr (kpm_tr (kpm_a (by omega)) (kpm_a (by omega))) kpm_i) kpm_z) (kpm_a (by omega))) (kpm_a (by omega))) (kpm_a (by omega)), rfl⟩
      · intro i hi ih
        rw [nI_succ] at ih
        simp only [gst] at ih
        generalize gst (S.2.2.1 1) (S.2.2.1 7) Z.2 (S.1 0) (S.1 2) k n (S.2.2.1 12) (mx 4 (fun _ => 0) (S.2.2.1 10)) i = Y at ih ⊢
        generalize hN : need (S.2.2.1 7) Y.2 (S.1 0) (S.1 2) = N at ih
        have ha := ag_le N (k - 1)
        obtain ⟨gi, hgi, hZi⟩ := hv i hi
        have inner3 := lp_up (fun r => OK 0 0 204 [(0, .ref 0), (1, .int (nI i)), (2, .int (nI (ag N (k - 1)))), (3, .int (nI r))] [] (wM (xa (xa (xa (xz (xi (xa (xa S 14 hs) 13 SE) 5 (nI m)) Z.1) 13 Z.2) 12 (pgr (S.2.2.1 1) (Z.2 i) (nI (ag N (k - 1))) Y.1 r)) 10 Y.2))) n
          (by
            generalize ag N (k - 1) = p at ha ih ⊢
            refine run [121, 204] 60 _ _ _ _ _ _ ?_
            conv => whnf
            refine pk_le n n (fun h => ?_) (fun h => absurd h (by omega)) h1
            conv => whnf
            refine ⟨vp_in_nI (by omega) (by decide), ?_⟩
            rw [nI_clamp (by omega)]
            conv => whnf
            refine ⟨vp_in_nI (by omega) (by decide), ?_⟩
            rw [nI_clamp (by omega)]
            conv => whnf
            refine ⟨vld_in hv hi (by decide), ?_⟩
            conv => whnf
            refine ⟨vp_in_nI (by omega) (by decide), ?_⟩
            rw [nI_clamp (by omega)]
            conv => whnf
            have e : nI (ct (fun r => S.2.2.1 1 r = Z.2 i) n) = hs (Z.2 i).toNatClampNeg := by
              rw [hZi, nI_clamp (by omega), hh gi hgi]
            rw [e] at ih
            exact sub [0, 1] _ _ _ _ _ _ _ rfl ih)
          (fun r hr ihr => by
            rw [nI_succ] at ihr
            generalize ag N (k - 1) = p at ha ihr ⊢
            refine run [121, 204] 60 _ _ _ _ _ _ ?_
            conv => whnf
            refine pk_le n r (fun h => absurd h (by omega)) (fun h => ?_) h1
            conv => whnf
            refine ⟨vp_in_nI (by omega) (by decide), ?_⟩
            rw [nI_clamp (by omega)]
            conv => whnf
            refine ⟨vp_in_nI (by omega) (by decide), ?_⟩
            rw [nI_clamp (by omega)]
            conv => whnf
            refine ⟨fun hc => ?_, fun hc => ?_⟩
            · have hc : ¬ S.2.2.1 1 r = Z.2 i := hc
              rw [pgr_f hc, ← upd_id (pgr (S.2.2.1 1) (Z.2 i) (nI p) Y.1 r) r] at ihr
              conv => whnf
              refine ⟨vp_in_nI (by omega) (by decide), ?_⟩
              rw [nI_clamp (by omega)]
              conv => whnf
              refine ⟨vp_in_nI (by omega) (by decide), ?_⟩
              rw [nI_clamp (by omega)]
              conv => whnf
              exact ihr
            · have hc : S.2.2.1 1 r = Z.2 i := hc
              rw [pgr_t hc] at ihr
              conv => whnf
              refine ⟨vp_in_nI (by omega) (by decide), ?_⟩
              rw [nI_clamp (by omega)]
              conv => whnf
              exact ihr)
        have inner2 := lp_up (fun p => 1 ≤ p → OK 0 0 133 [(0, .ref 0), (1, .int (nI i)), (2, .int (nI (ag N (p - 1)))), (3, .int (nI p))] [] (wM (xa (xa (xa (xz (xi (xa (xa S 14 hs) 13 SE) 5 (nI m)) Z.1) 13 Z.2) 12 Y.1) 10 Y.2))) k
          (fun _ => by
            have h0 := inner3 0 (by omega)
            rw [pgr_0] at h0
            refine run [133, 204] 60 _ _ _ _ _ _ ?_
            conv => whnf
            refine pk_le k k (fun h => ?_) (fun h => absurd h (by omega)) hk
            conv => whnf
            exact h0)
          (fun p hp ihp hp1 => by
            obtain ⟨q, rfl⟩ : ∃ q, p = q + 1 := ⟨p - 1, by omega⟩
            have ihp : OK 0 0 133 [(0, .ref 0), (1, .int (nI i)), (2, .int (nI (ag N (q + 1)))), (3, .int (nI (q + 1 + 1)))] [] (wM (xa (xa (xa (xz (xi (xa (xa S 14 hs) 13 SE) 5 (nI m)) Z.1) 13 Z.2) 12 Y.1) 10 Y.2)) := ihp (by omega)
            have hle := ag_le N q
            show OK 0 0 133 [(0, .ref 0), (1, .int (nI i)), (2, .int (nI (ag N q))), (3, .int (nI (q + 1)))] [] (wM (xa (xa (xa (xz (xi (xa (xa S 14 hs) 13 SE) 5 (nI m)) Z.1) 13 Z.2) 12 Y.1) 10 Y.2))
            simp only [ag] at ihp
            rw [nI_succ (q + 1)] at ihp
            have eN : ∀ j, N j = S.2.2.1 7 j * S.1 0 - S.1 2 * Y.2 j := fun j => by rw [← hN]; rfl
            generalize ag N q = a at hle ihp ⊢
            rw [eN, eN] at ihp
            refine run [133] 80 _ _ _ _ _ _ ?_
            conv => whnf
            refine pk_le k (q + 1) (fun h => absurd h (by omega)) (fun h => ?_) hk
            conv => whnf
            refine ⟨vp_in_nI (by omega) (by decide), ?_⟩
            rw [nI_clamp (by omega)]
            conv => whnf
            refine ⟨vp_in_nI (by omega) (by decide), ?_⟩
            rw [nI_clamp (by omega)]
            conv => whnf
            refine ⟨vp_in_nI (by omega) (by decide), ?_⟩
            rw [nI_clamp (by omega)]
            conv => whnf
            refine ⟨vp_in_nI (by omega) (by decide), ?_⟩
            rw [nI_clamp (by omega)]
            conv => whnf
            refine ⟨fun hc => ?_, fun hc => ?_⟩
            · have hc : S.2.2.1 7 (q + 1) * S.1 0 - S.1 2 * Y.2 (q + 1) ≤ S.2.2.1 7 a * S.1 0 - S.1 2 * Y.2 a := hc
              conv => whnf
              rw [if_neg (Int32.not_lt.mpr hc)] at ihp
              exact ihp
            · have hc : ¬ S.2.2.1 7 (q + 1) * S.1 0 - S.1 2 * Y.2 (q + 1) ≤ S.2.2.1 7 a * S.1 0 - S.1 2 * Y.2 a := hc
              conv => whnf
              rw [if_pos (Int32.not_le.mp hc)] at ihp
              exact ihp)
        refine run [121, 133] 60 _ _ _ _ _ _ ?_
        conv => whnf
        refine pk_le m i (fun h => absurd h (by omega)) (fun h => ?_)
        conv => whnf
        exact inner2 1 (by omega) (Nat.le_refl 1)
    have loop1 := lp_up (fun p => OK 0 0 101 [(0, .ref 0), (1, .int (nI p))] [] (wM (xa (xa (xz (xi (xa (xa S 14 hs) 13 SE) 5 (nI m)) Z.1) 13 Z.2) 10 (mx p (fun _ => 0) (S.2.2.1 10))))) 4
      (by
        refine run [101, 121] 60 _ _ _ _ _ _ ?_
        conv => whnf
        refine pk_le 4 4 (fun h => ?_) (fun h => absurd h (by omega))
        conv => whnf
        exact loop2 0 (by omega))
      (fun p hp ih => by
        rw [nI_succ, ← mx_s] at ih
        refine run [101, 121] 60 _ _ _ _ _ _ ?_
        conv => whnf
        refine pk_le 4 p (fun h => absurd h (by omega)) (fun h => ?_)
        conv => whnf
        refine ⟨vp_in_nI (by omega) (by decide), ?_⟩
        rw [nI_clamp (by omega)]
        conv => whnf
        exact ih)
    conv => whnf
    have h0 := loop1 0 (by omega)
    rw [mx_0] at h0
    exact h0
  have loop0 := lp_up (fun g => ∀ hs : Nat → Int32, (∀ j, j < g → hs j = nI (ct (fun r => S.2.2.1 1 r = nI j) n)) → OK 0 0 7 [(0, .ref 0), (1, .int (nI g))] [] (wM (xi (xa (xa S 14 hs) 13 (sel (hasg (S.2.2.1 1) n) (S.2.2.1 13) g)) 5 (nI (ct (hasg (S.2.2.1 1) n) g))))) 30
    (fun hs hh => by
      have h2 := phase2 hs hh
      generalize sel (hasg (S.2.2.1 1) n) (S.2.2.1 13) 30 = SE at h2 ⊢
      generalize ct (hasg (S.2.2.1 1) n) 30 = C at h2 ⊢
      refine run [7, 95] 60 _ _ _ _ _ _ ?_
      conv => whnf
      refine pk_le 30 30 (fun h => ?_) (fun h => absurd h (by omega))
      conv => whnf
      exact sub [0] _ _ _ _ _ _ _ rfl h2)
    (fun g hg ih hs hh => by
      have hcg := ct_le (hasg (S.2.2.1 1) n) g
      have hcn := ct_le (fun r => S.2.2.1 1 r = nI g) n
      have hq : ct (fun r => S.2.2.1 1 r = nI g) n ≤ 0 ↔ ¬ hasg (S.2.2.1 1) n g := by
        rw [← not_congr (ct_fs (p := fun r => S.2.2.1 1 r = nI g) (n := n))]; omega
      have e1 := sel_t (p := hasg (S.2.2.1 1) n) (old := S.2.2.1 13) (i := g)
      have e2 := sel_f (p := hasg (S.2.2.1 1) n) (old := S.2.2.1 13) (i := g)
      have e3 := ct_t (p := hasg (S.2.2.1 1) n) (n := g)
      have e4 := ct_f (p := hasg (S.2.2.1 1) n) (n := g)
      generalize sel (hasg (S.2.2.1 1) n) (S.2.2.1 13) (g + 1) = SE' at e1 e2 ih
      generalize ct (hasg (S.2.2.1 1) n) (g + 1) = C' at e3 e4 ih
      generalize sel (hasg (S.2.2.1 1) n) (S.2.2.1 13) g = SE at e1 e2 ⊢
      generalize ct (hasg (S.2.2.1 1) n) g = C at hcg e1 e3 e4 ⊢
      have inner := lp_up (fun r => OK 0 0 22 [(0, .ref 0), (1, .int (nI g)), (2, .int (nI r))] [] (wM (xi (xa (xa S 14 (upd hs g (nI (ct (fun r => S.2.2.1 1 r = nI g) r)))) 13 SE) 5 (nI C)))) n
        (by
          have hih := ih (upd hs g (nI (ct (fun r => S.2.2.1 1 r = nI g) n))) (fun j hj => by
            by_cases e : j = g
            · rw [e, pk_us]
            · rw [pk_un e]; exact hh j (by omega))
          generalize ct (fun r => S.2.2.1 1 r = nI g) n = cn at hcn hq hih ⊢
          rw [nI_succ] at hih
          refine run [7, 22] 60 _ _ _ _ _ _ ?_
          conv => whnf
          refine pk_le n n (fun h => ?_) (fun h => absurd h (by omega)) h1
          conv => whnf
          refine ⟨vp_in_nI (by omega) (by decide), ?_⟩
          rw [nI_clamp (by omega)]
          conv => whnf
          refine pk_le cn 0 (fun h => ?_) (fun h => ?_) pk_us
          · have hq := hq.mp h
            rw [e2 hq, e4 hq] at hih
            conv => whnf
            exact sub [0, 1] _ _ _ _ _ _ _ rfl hih
          · have hq : hasg (S.2.2.1 1) n g := Decidable.of_not_not fun z => by have := hq.mpr z; omega
            rw [e1 hq, e3 hq, nI_succ] at hih
            conv => whnf
            refine ⟨vp_in_nI (n := C) (by omega) (by decide), ?_⟩
            conv => whnf
            have hu : upd SE C (nI g) = upd SE (nI C).toNatClampNeg (nI g) := by rw [nI_clamp (by omega)]
            rw [hu] at hih
            exact sub [0, 1] _ _ _ _ _ _ _ rfl hih)
        (fun r hr ihr => by
          rw [nI_succ] at ihr
          refine run [7, 22] 60 _ _ _ _ _ _ ?_
          conv => whnf
          refine pk_le n r (fun h => absurd h (by omega)) (fun h => ?_) h1
          conv => whnf
          refine ⟨vp_in_nI (by omega) (by decide), ?_⟩
          rw [nI_clamp (by omega)]
          conv => whnf
          refine ⟨vp_in_nI (by omega) (by decide), ?_⟩
          rw [nI_clamp (by omega)]
          conv => whnf
          refine ⟨fun hc => ?_, fun hc => ?_⟩
          · have hc : ¬ S.2.2.1 1 r = nI g := hc
            rw [ct_f (p := fun r => S.2.2.1 1 r = nI g) hc] at ihr
            generalize ct (fun r => S.2.2.1 1 r = nI g) r = cc at ihr ⊢
            conv => whnf
            refine ⟨vp_in_nI (by omega) (by decide), ?_⟩
            rw [nI_clamp (by omega)]
            conv => whnf
            have e : upd hs g (nI cc) = upd (upd hs g (nI cc)) g (upd hs g (nI cc) g + 0) := by rw [upd_uu, pk_us, Int32.add_zero]
            rw [e] at ihr
            exact ihr
          · have hc : S.2.2.1 1 r = nI g := hc
            rw [ct_t (p := fun r => S.2.2.1 1 r = nI g) hc] at ihr
            generalize ct (fun r => S.2.2.1 1 r = nI g) r = cc at ihr ⊢
            conv => whnf
            refine ⟨vp_in_nI (by omega) (by decide), ?_⟩
            rw [nI_clamp (by omega)]
            conv => whnf
            have e : upd hs g (nI (cc + 1)) = upd (upd hs g (nI cc)) g (upd hs g (nI cc) g + 1) := by rw [upd_uu, pk_us, nI_succ]
            rw [e] at ihr
            exact ihr)
      have h0 := inner 0 (by omega)
      refine run [7, 22] 60 _ _ _ _ _ _ ?_
      conv => whnf
      refine pk_le 30 g (fun h => absurd h (by omega)) (fun h => ?_)
      conv => whnf
      refine ⟨vp_in_nI (by omega) (by decide), ?_⟩
      rw [nI_clamp (by omega)]
      conv => whnf
      exact h0)
  refine run [7] 60 _ _ _ _ _ _ ?_
  conv => whnf
  exact loop0 0 (by omega) (S.2.2.1 14) (fun j hj => by omega)
theorem ct_X7_byGroups (D : va_G) (dT : Nat → Nat) (l : Launch) : en_CT en_WD D vwCl dT l yX7_byGroups cX7_byGroups 4 (none) rm_X7_byGroups f_X7_byGroups := en_met en_WD1 en_WD2 (by decide) rfl rfl (tB_X7_byGroups D dT l) (en_f_ln (fun _ => Nat.le_of_ble_eq_true rfl)) (en_f_bd bd_X7_byGroups)
set_option maxRecDepth 100000 in
theorem mk_X7_byGroups {D : va_G} {dT : Nat → Nat} {l : Launch} {R : Room} {s : State} {args : Array Value} {own : String} {idx : Nat} (h : en_WD s) (h1 : rm_X7_byGroups.frames + 1 ≤ R.frames) (h2 : 8 + (4 + 11) + rm_X7_byGroups.locals ≤ R.locals) (hl : (Jvm.Cond.methodLink own idx yX7_byGroups).before args s = true ∨ ∃ host, (Jvm.Cond.methodLinkNest own idx yX7_byGroups host).before args s = true) : en_mok en_WD D vwCl dT l R s args own (idx, 1, 9, 0, 0, f_X7_byGroups) :=
  ⟨yX7_byGroups, cX7_byGroups, 4, none, rm_X7_byGroups, 0, ct_X7_byGroups D dT l, rfl, rfl, h1, h2, en_wd h 889 rfl rfl args, en_wd h 66 (by decide +kernel) rfl args, by decide, by decide, hl, ⟨RX7, TX7, 24, rfl, en_wd h 888 (by decide +kernel) rfl args, en_wd h 42 (by decide +kernel) rfl args, rfl⟩⟩
end
section
/-! the reference: by times -/
theorem insS_c (T : Nat → Int32) {row : Int32} : ∀ (a : Nat) (f g : Nat → Int32), (∀ j, j < a → f j = g j) → ∀ j, j ≤ a → insS T row a f j = insS T row a g j
  | 0, f, g, h, j, hj => by
    have : j = 0 := by omega
    subst this
    show upd f 0 row 0 = upd g 0 row 0
    rw [pk_us, pk_us]
  | a + 1, f, g, h, j, hj => by
    simp only [insS]
    rw [← h a (by omega)]
    split
    · by_cases e : j = a + 1
      · rw [e, pk_us, pk_us]
      · rw [pk_un e, pk_un e, h j (by omega)]
    · by_cases e : j = a + 1
      · rw [e, insS_cov.insS_hi T a _ (a + 1) (by omega), insS_cov.insS_hi T a _ (a + 1) (by omega), pk_us, pk_us]
      · refine insS_c T a _ _ (fun q hq => ?_) j (by omega)
        rw [pk_un (by omega), pk_un (by omega), h q (by omega)]
/-- the reference's sorting: row by row -/
def sr (T old : Nat → Int32) : Nat → (Nat → Int32)
  | 0 => old
  | i + 1 => insS T (nI i) i (sr T old i)
theorem sr_hi (T old : Nat → Int32) : ∀ (i j : Nat), i ≤ j → sr T old i j = old j
  | 0, j, _ => rfl
  | i + 1, j, h => by
    show insS T (nI i) i (sr T old i) j = old j
    rw [insS_cov.insS_hi T i _ j (by omega), sr_hi T old i j (by omega)]
theorem sr_lo (T old : Nat → Int32) {n : Nat} : ∀ (i : Nat), i ≤ n → ∀ j, j < i → sr T old i j = srt T (mx n nI old) i j
  | 0, _, j, h => by omega
  | i + 1, hi, j, h => by
    show insS T (nI i) i (sr T old i) j = insS T (srt T (mx n nI old) i i) i (srt T (mx n nI old) i) j
    rw [srt_hi T _ i i (Nat.le_refl i), mx_lt (by omega)]
    exact insS_c T i _ _ (sr_lo T old i (by omega)) j (by omega)
theorem sr_tO (T old : Nat → Int32) (n : Nat) : sr T old n = tO T n old := by
  funext j
  by_cases h : j < n
  · exact sr_lo T old n (Nat.le_refl n) j h
  · rw [sr_hi T old n j (by omega)]
    show _ = srt T (mx n nI old) n j
    rw [srt_hi T _ n j (by omega), mx_ge (by omega)]
/-- the greatest time of earlier parts, after r rows -/
def gq (T Pl : Nat → Int32) : Nat → Nat → Int32
  | 0 => fun _ => -1
  | r + 1 => fun p => if (tn (Pl r) < p ∧ p < 4) ∧ gq T Pl r p < T r then T r else gq T Pl r p
def PM2 (T : Nat → Int32) (w : Nat → Nat) (W k n : Nat) (g : Int32) (o13 o12 : Nat → Int32) : Nat → Int32 :=
  mx n (fun r => if gq T (tPl T w W k n o13 o12) n (tn (tPl T w W k n o13 o12 r)) ≠ -1 ∧ T r < g + gq T (tPl T w W k n o13 o12) n (tn (tPl T w W k n o13 o12 r)) then -1 else tPl T w W k n o13 o12 r) (tPl T w W k n o13 o12)
def f_X7_byTimes := en_f (σ := (Nat → Nat) × Nat × Nat × Nat × Int32 × Sx) (fun x => [.ref 0, .int x.2.2.2.2.1]) (fun x => wM x.2.2.2.2.2) (fun x => wgm x.2.2.2.2.2 x.1 x.2.1 x.2.2.1 ∧ x.2.2.2.1 ≤ 100 ∧ x.2.2.2.2.2.1 0 = nI x.2.2.2.1) (fun x v w => v = none ∧ ∃ S', w = wM S' ∧ kpm x.2.2.2.2.2 S' ∧ S'.2.2.1 12 = PM2 (x.2.2.2.2.2.2.2.1 3) x.1 x.2.1 x.2.2.1 x.2.2.2.1 x.2.2.2.2.1 (x.2.2.2.2.2.2.2.1 13) (x.2.2.2.2.2.2.2.1 12))
def rm_X7_byTimes : Room := { frames := 2, cells := 0, slots := 0, locals := 47 }
def t_X7_byTimes : en_T := ((4, 0, 0), tb_X7_byTimes, fl_X7, cn_X7, [(107, 1, 9, 0, 0, f_X7_give)], [], 0, none)
set_option maxRecDepth 100000 in
theorem tB_X7_byTimes (D : va_G) (dT : Nat → Nat) (l : Launch) : en_TB en_WD D vwCl dT l rm_X7_byTimes t_X7_byTimes RX7 "byTimes" cX7_byTimes := ⟨tk_X7_byTimes, fun s args meth h hn => ⟨fo_X7 h args meth, co_X7 h args, List.forall_mem_cons.mpr ⟨mk_X7_give (own := RX7) h (Nat.le_of_ble_eq_true rfl) (Nat.le_of_ble_eq_true rfl) (Or.inl (en_wd h 882 (by decide +kernel) rfl args)), fun _ h => absurd h List.not_mem_nil⟩, fun _ h => absurd h List.not_mem_nil, Or.inl rfl, en_arr h args⟩⟩
set_option maxHeartbeats 4000000 in
set_option maxRecDepth 100000 in
theorem bd_X7_byTimes : en_B (σ := (Nat → Nat) × Nat × Nat × Nat × Int32 × Sx) t_X7_byTimes (fun x => [.ref 0, .int x.2.2.2.2.1]) (fun x => wM x.2.2.2.2.2) (fun x => wgm x.2.2.2.2.2 x.1 x.2.1 x.2.2.1 ∧ x.2.2.2.1 ≤ 100 ∧ x.2.2.2.2.2.1 0 = nI x.2.2.2.1) (fun x v w => v = none ∧ ∃ S', w = wM S' ∧ kpm x.2.2.2.2.2 S' ∧ S'.2.2.1 12 = PM2 (x.2.2.2.2.2.2.2.1 3) x.1 x.2.1 x.2.2.1 x.2.2.2.1 x.2.2.2.2.1 (x.2.2.2.2.2.2.2.1 13) (x.2.2.2.2.2.2.2.1 12)) := by
  rintro ⟨w, W, k, n, g, S⟩ ⟨hwg, hn, h1⟩ G hG OK ⟨run, sub⟩
  dsimp only at hwg hn h1 hG ⊢
  have hok : wok w W k := hwg.1
  have hk4 : k ≤ 4 := hok.2.1
  have hpi := tPl_in (T := S.2.2.1 3) (w := w) (W := W) (k := k) (o16 := S.2.2.1 13) (o15 := S.2.2.1 12) hok.1 hn
  have hvO := vld_mono (tO_v (T := S.2.2.1 3) hn (o16 := S.2.2.1 13)) hn
  have phase2 : OK 0 0 89 [(0, .ref 0), (1, .int g)] [] (wM (xi (xa S 13 (tO (S.2.2.1 3) n (S.2.2.1 13))) 5 (nI n))) := by
    unfold PM2 at hG
    have hPl : tPl (S.2.2.1 3) w W k n (S.2.2.1 13) (S.2.2.1 12) = jn (S.2.2.1 3) (tO (S.2.2.1 3) n (S.2.2.1 13)) (dl (tO (S.2.2.1 3) n (S.2.2.1 13)) (fun a => nI (pt (qf w W k n) a k)) (S.2.2.1 12) n) (n - 1) := rfl
    generalize tPl (S.2.2.1 3) w W k n (S.2.2.1 13) (S.2.2.1 12) = Pl at hpi hPl hG
    generalize tO (S.2.2.1 3) n (S.2.2.1 13) = O at hvO hPl ⊢
    refine run [95] 60 _ _ _ _ _ _ ?_
    conv => whnf
    refine ⟨(w, W, k, n, xi (xa S 13 O) 5 (nI n)), rfl, rfl, ⟨hwg, hn, rfl, hvO⟩, ?_⟩
    rintro v u ⟨hv0, q, rr, hu⟩
    obtain rfl : v = none := hv0
    obtain rfl : u = wM (xa (xa (xa (xi (xa S 13 O) 5 (nI n)) 10 q) 11 rr) 12 (dl O (fun a => nI (pt (qf w W k n) a k)) (S.2.2.1 12) n)) := hu
    generalize dl O (fun a => nI (pt (qf w W k n) a k)) (S.2.2.1 12) n = D0 at hPl ⊢
    have last : ∀ f : Nat → Int32, (∀ p, p < 4 → f p = gq (S.2.2.1 3) Pl n p) → ∀ i, i ≤ n → OK 0 0 254 [(0, .ref 0), (1, .int g), (2, .int (nI i))] [] (wM (xa (xa (xa (xi (xa S 13 O) 5 (nI n)) 10 f) 11 rr) 12 (mx i (fun r => if gq (S.2.2.1 3) Pl n (tn (Pl r)) ≠ -1 ∧ S.2.2.1 3 r < g + gq (S.2.2.1 3) Pl n (tn (Pl r)) then -1 else Pl r) Pl))) := by
      intro f hf
      generalize gq (S.2.2.1 3) Pl n = F at hf hG ⊢
      refine lp_up (fun i => OK 0 0 254 [(0, .ref 0), (1, .int g), (2, .int (nI i))] [] (wM (xa (xa (xa (xi (xa S 13 O) 5 (nI n)) 10 f) 11 rr) 12 (mx i (fun r => if F (tn (Pl r)) ≠ -1 ∧ S.2.2.1 3 r < g + F (tn (Pl r)) then -1 else Pl r) Pl)))) n ?_ ?_
      · refine run [254] 60 _ _ _ _ _ _ ?_
        conv => whnf
        refine pk_le n n (fun h => ?_) (fun h => absurd h (by omega)) h1
        conv => whnf
        exact hG _ _ ⟨rfl, _, rfl, kpm_tr (kpm_tr (kpm_tr (kpm_tr (kpm_a (by omega)) kpm_i) (kpm_a (by omega))) (kpm_a (by omega))) (kpm_a (by omega)), rfl⟩
      · intro i hi ih
        obtain ⟨c, hc, hci⟩ := hpi i hi
        have hm : mx i (fun r => if F (tn (Pl r)) ≠ -1 ∧ S.2.2.1 3 r < g + F (tn (Pl r)) then -1 else Pl r) Pl i = nI c := by rw [mx_ge (Nat.le_refl i), hci]
        rw [nI_succ, ← mx_s] at ih
        have hkeep := upd_id (mx i (fun r => if F (tn (Pl r)) ≠ -1 ∧ S.2.2.1 3 r < g + F (tn (Pl r)) then -1 else Pl r) Pl) i
        rw [hm] at hkeep
        rw [hci, show tn (nI c) = c from nI_clamp (by omega), ← hf c (by omega)] at ih
        generalize mx i (fun r => if F (tn (Pl r)) ≠ -1 ∧ S.2.2.1 3 r < g + F (tn (Pl r)) then -1 else Pl r) Pl = D at hm hkeep ih ⊢
        have hin : vp_in (D i) 4 := by rw [hm]; exact vp_in_nI (by omega) (by decide)
        have hDi : (D i).toNatClampNeg = c := by rw [hm]; exact nI_clamp (by omega)
        refine run [254] 60 _ _ _ _ _ _ ?_
        conv => whnf
        refine pk_le n i (fun h => absurd h (by omega)) (fun h => ?_) h1
        conv => whnf
        refine ⟨vp_in_nI (by omega) (by decide), ?_⟩
        rw [nI_clamp (by omega)]
        conv => whnf
        refine ⟨hin, ?_⟩
        conv => whnf
        refine ⟨fun hc1 => ?_, fun hc1 => ?_⟩
        · have hc1 : f (D i).toNatClampNeg = -1 := hc1
          rw [hDi] at hc1
          rw [if_neg (fun z => z.1 hc1), hkeep] at ih
          conv => whnf
          exact ih
        · have hc1 : ¬ f (D i).toNatClampNeg = -1 := hc1
          rw [hDi] at hc1
          conv => whnf
          refine ⟨vp_in_nI (by omega) (by decide), ?_⟩
          rw [nI_clamp (by omega)]
          conv => whnf
          refine ⟨vp_in_nI (by omega) (by decide), ?_⟩
          rw [nI_clamp (by omega)]
          conv => whnf
          refine ⟨hin, ?_⟩
          conv => whnf
          refine ⟨fun hc2 => ?_, fun hc2 => ?_⟩
          · have hc2 : g + f (D i).toNatClampNeg ≤ S.2.2.1 3 i := hc2
            rw [hDi] at hc2
            rw [if_neg (fun z => absurd z.2 (Int32.not_lt.mpr hc2)), hkeep] at ih
            conv => whnf
            exact ih
          · have hc2 : ¬ g + f (D i).toNatClampNeg ≤ S.2.2.1 3 i := hc2
            rw [hDi] at hc2
            rw [if_pos ⟨hc1, Int32.not_le.mp hc2⟩] at ih
            conv => whnf
            refine ⟨vp_in_nI (by omega) (by decide), ?_⟩
            rw [nI_clamp (by omega)]
            conv => whnf
            exact ih
    have great : ∀ i, i ≤ n → ∀ f : Nat → Int32, (∀ p, p < 4 → f p = gq (S.2.2.1 3) Pl i p) → OK 0 0 182 [(0, .ref 0), (1, .int g), (2, .int (nI i))] [] (wM (xa (xa (xa (xi (xa S 13 O) 5 (nI n)) 10 f) 11 rr) 12 Pl)) := by
      refine lp_up (fun i => ∀ f : Nat → Int32, (∀ p, p < 4 → f p = gq (S.2.2.1 3) Pl i p) → OK 0 0 182 [(0, .ref 0), (1, .int g), (2, .int (nI i))] [] (wM (xa (xa (xa (xi (xa S 13 O) 5 (nI n)) 10 f) 11 rr) 12 Pl))) n ?_ ?_
      · intro f hf
        have h0 := last f hf 0 (by omega)
        rw [mx_0] at h0
        refine run [182, 254] 60 _ _ _ _ _ _ ?_
        conv => whnf
        refine pk_le n n (fun h => ?_) (fun h => absurd h (by omega)) h1
        conv => whnf
        exact h0
      · intro i hi ih f hf
        obtain ⟨c, hc, hci⟩ := hpi i hi
        have ih : ∀ f : Nat → Int32, (∀ p, p < 4 → f p = if (tn (Pl i) < p ∧ p < 4) ∧ gq (S.2.2.1 3) Pl i p < S.2.2.1 3 i then S.2.2.1 3 i else gq (S.2.2.1 3) Pl i p) → OK 0 0 182 [(0, .ref 0), (1, .int g), (2, .int (nI (i + 1)))] [] (wM (xa (xa (xa (xi (xa S 13 O) 5 (nI n)) 10 f) 11 rr) 12 Pl)) := ih
        rw [hci, show tn (nI c) = c from nI_clamp (by omega), nI_succ] at ih
        generalize gq (S.2.2.1 3) Pl i = F at hf ih
        have inner := lp_up (fun p => c + 1 ≤ p → OK 0 0 199 [(0, .ref 0), (1, .int g), (2, .int (nI i)), (3, .int (nI p))] [] (wM (xa (xa (xa (xi (xa S 13 O) 5 (nI n)) 10 (fun j => if (c < j ∧ j < p) ∧ f j < S.2.2.1 3 i then S.2.2.1 3 i else f j)) 11 rr) 12 Pl))) 4
          (fun _ => by
            have hih := ih (fun j => if (c < j ∧ j < 4) ∧ f j < S.2.2.1 3 i then S.2.2.1 3 i else f j) (fun p hp => by rw [hf p hp])
            refine run [182, 199] 60 _ _ _ _ _ _ ?_
            conv => whnf
            refine pk_le 4 4 (fun h => ?_) (fun h => absurd h (by omega))
            conv => whnf
            exact sub [0, 1, 2] _ _ _ _ _ _ _ rfl hih)
          (fun p hp ihp hcp => by
            have ihp := ihp (by omega)
            rw [nI_succ] at ihp
            have e : (fun j => if (c < j ∧ j < p + 1) ∧ f j < S.2.2.1 3 i then S.2.2.1 3 i else f j) = upd (fun j => if (c < j ∧ j < p) ∧ f j < S.2.2.1 3 i then S.2.2.1 3 i else f j) p (if f p < S.2.2.1 3 i then S.2.2.1 3 i else f p) := by
              funext j
              by_cases e : j = p
              · subst e
                rw [pk_us]
                by_cases h : f j < S.2.2.1 3 i
                · rw [if_pos ⟨⟨by omega, by omega⟩, h⟩, if_pos h]
                · rw [if_neg (fun z => h z.2), if_neg h]
              · rw [pk_un e]
                by_cases h : (c < j ∧ j < p) ∧ f j < S.2.2.1 3 i
                · rw [if_pos ⟨⟨h.1.1, by omega⟩, h.2⟩, if_pos h]
                · rw [if_neg (fun z => h ⟨⟨z.1.1, by omega⟩, z.2⟩), if_neg h]
            have hfp : (fun j => if (c < j ∧ j < p) ∧ f j < S.2.2.1 3 i then S.2.2.1 3 i else f j) p = f p := if_neg (fun z => by omega)
            rw [e] at ihp
            generalize (fun j => if (c < j ∧ j < p) ∧ f j < S.2.2.1 3 i then S.2.2.1 3 i else f j) = Fp at hfp ihp ⊢
            rw [← hfp] at ihp
            refine run [182, 199] 60 _ _ _ _ _ _ ?_
            conv => whnf
            refine pk_le 4 p (fun h => absurd h (by omega)) (fun h => ?_)
            conv => whnf
            refine ⟨vp_in_nI (by omega) (by decide), ?_⟩
            rw [nI_clamp (by omega)]
            conv => whnf
            refine ⟨vp_in_nI (by omega) (by decide), ?_⟩
            rw [nI_clamp (by omega)]
            conv => whnf
            refine ⟨fun hl => ?_, fun hl => ?_⟩
            · have hl : S.2.2.1 3 i ≤ Fp p := hl
              rw [if_neg (Int32.not_lt.mpr hl)] at ihp
              conv => whnf
              refine ⟨vp_in_nI (by omega) (by decide), ?_⟩
              rw [nI_clamp (by omega)]
              conv => whnf
              refine ⟨vp_in_nI (by omega) (by decide), ?_⟩
              rw [nI_clamp (by omega)]
              conv => whnf
              exact ihp
            · have hl : ¬ S.2.2.1 3 i ≤ Fp p := hl
              rw [if_pos (Int32.not_le.mp hl)] at ihp
              conv => whnf
              refine ⟨vp_in_nI (by omega) (by decide), ?_⟩
              rw [nI_clamp (by omega)]
              conv => whnf
              refine ⟨vp_in_nI (by omega) (by decide), ?_⟩
              rw [nI_clamp (by omega)]
              conv => whnf
              exact ihp)
        have h0 := inner (c + 1) (by omega) (Nat.le_refl _)
        rw [show (fun j => if (c < j ∧ j < c + 1) ∧ f j < S.2.2.1 3 i then S.2.2.1 3 i else f j) = f from by funext j; exact if_neg (fun z => by omega), nI_succ c, ← hci] at h0
        refine run [182, 199] 60 _ _ _ _ _ _ ?_
        conv => whnf
        refine pk_le n i (fun h => absurd h (by omega)) (fun h => ?_) h1
        conv => whnf
        refine ⟨vp_in_nI (by omega) (by decide), ?_⟩
        rw [nI_clamp (by omega)]
        conv => whnf
        exact h0
    have clear := lp_up (fun p => OK 0 0 162 [(0, .ref 0), (1, .int g), (2, .int (nI p))] [] (wM (xa (xa (xa (xi (xa S 13 O) 5 (nI n)) 10 (mx p (fun _ => -1) q)) 11 rr) 12 Pl))) 4
      (by
        have h0 := great 0 (by omega) (mx 4 (fun _ => -1) q) (fun p hp => mx_lt hp)
        refine run [162, 182] 60 _ _ _ _ _ _ ?_
        conv => whnf
        refine pk_le 4 4 (fun h => ?_) (fun h => absurd h (by omega))
        conv => whnf
        exact h0)
      (fun p hp ih => by
        rw [nI_succ, ← mx_s] at ih
        refine run [162, 182] 60 _ _ _ _ _ _ ?_
        conv => whnf
        refine pk_le 4 p (fun h => absurd h (by omega)) (fun h => ?_)
        conv => whnf
        refine ⟨vp_in_nI (by omega) (by decide), ?_⟩
        rw [nI_clamp (by omega)]
        conv => whnf
        exact ih)
    have h160 := clear 0 (by omega)
    rw [mx_0, hPl] at h160
    have loop := lp_up (fun i => 1 ≤ i → OK 0 0 95 [(0, .ref 0), (1, .int g), (2, .int (nI i))] [] (wM (xa (xa (xa (xi (xa S 13 O) 5 (nI n)) 10 q) 11 rr) 12 (jn (S.2.2.1 3) O D0 (i - 1))))) n
      (fun _ => by
        refine run [95, 162] 60 _ _ _ _ _ _ ?_
        conv => whnf
        refine pk_le n n (fun h => ?_) (fun h => absurd h (by omega))
        conv => whnf
        exact h160)
      (fun i hi ih hi1 => by
        obtain ⟨j, rfl⟩ : ∃ j, i = j + 1 := ⟨i - 1, by omega⟩
        have ih : OK 0 0 95 [(0, .ref 0), (1, .int g), (2, .int (nI (j + 1 + 1)))] [] (wM (xa (xa (xa (xi (xa S 13 O) 5 (nI n)) 10 q) 11 rr) 12 (jn (S.2.2.1 3) O D0 (j + 1)))) := ih (by omega)
        show OK 0 0 95 [(0, .ref 0), (1, .int g), (2, .int (nI (j + 1)))] [] (wM (xa (xa (xa (xi (xa S 13 O) 5 (nI n)) 10 q) 11 rr) 12 (jn (S.2.2.1 3) O D0 j)))
        rw [nI_succ (j + 1)] at ih
        simp only [jn] at ih
        generalize jn (S.2.2.1 3) O D0 j = J at ih ⊢
        refine run [95] 60 _ _ _ _ _ _ ?_
        conv => whnf
        refine pk_le n (j + 1) (fun h => absurd h (by omega)) (fun h => ?_)
        conv => whnf
        refine ⟨vp_in_nI (by omega) (by decide), ?_⟩
        rw [nI_clamp (by omega)]
        conv => whnf
        refine ⟨vld_in hvO (by omega) (by decide), ?_⟩
        conv => whnf
        rw [show nI (j + 1) - Int32.ofInt 1 = nI j from nI_pred j]
        refine ⟨vp_in_nI (by omega) (by decide), ?_⟩
        rw [nI_clamp (by omega)]
        conv => whnf
        refine ⟨vld_in hvO (by omega) (by decide), ?_⟩
        conv => whnf
        refine ⟨fun hc => ?_, fun hc => ?_⟩
        · have hc : ¬ S.2.2.1 3 (tn (O (j + 1))) = S.2.2.1 3 (tn (O j)) := hc
          conv => whnf
          rw [if_neg hc] at ih
          exact ih
        · have hc : S.2.2.1 3 (tn (O (j + 1))) = S.2.2.1 3 (tn (O j)) := hc
          conv => whnf
          refine ⟨vp_in_nI (by omega) (by decide), ?_⟩
          rw [nI_clamp (by omega)]
          conv => whnf
          rw [show nI (j + 1) - Int32.ofInt 1 = nI j from nI_pred j]
          refine ⟨vp_in_nI (by omega) (by decide), ?_⟩
          rw [nI_clamp (by omega)]
          conv => whnf
          refine ⟨vld_in hvO (by omega) (by decide), ?_⟩
          conv => whnf
          refine ⟨vld_in hvO (by omega) (by decide), ?_⟩
          conv => whnf
          rw [if_pos hc] at ih
          exact ih)
    by_cases h0 : n = 0
    · subst h0
      conv => whnf
      show OK 0 0 95 [(0, .ref 0), (1, .int g), (2, .int 1)] [] (wM (xa (xa (xa (xi (xa S 13 O) 5 (nI 0)) 10 q) 11 rr) 12 D0))
      refine run [162] 60 _ _ _ _ _ _ ?_
      conv => whnf
      refine pk_le 0 1 (fun _ => ?_) (fun h => absurd h (by omega))
      conv => whnf
      exact h160
    · conv => whnf
      exact loop 1 (by omega) (Nat.le_refl 1)
  rw [← sr_tO] at phase2
  have hvr : ∀ i, i ≤ n → vld (sr (S.2.2.1 3) (S.2.2.1 13) i) i 100 := fun i hi j hj => by
    rw [sr_lo (S.2.2.1 3) (S.2.2.1 13) (n := n) i hi j hj]
    exact vld_mono (srt_v (S.2.2.1 3) (mx_v (Nat.le_refl n)) i hi) hn j (by omega)
  have inner : ∀ (i : Nat), i < n → ∀ (a : Nat) (f : Nat → Int32), a ≤ i → vld f a 100 → OK 0 0 7 [(0, .ref 0), (1, .int g), (2, .int (nI (i + 1)))] [] (wM (xi (xa S 13 (insS (S.2.2.1 3) (nI i) a f)) 5 (nI (i + 1)))) → OK 0 0 20 [(0, .ref 0), (1, .int g), (2, .int (nI i)), (3, .int (nI a))] [] (wM (xi (xa S 13 f) 5 (nI i))) := by
    intro i hi a
    induction a with
    | zero =>
      intro f ha hf hN
      rw [nI_succ] at hN
      refine run [7, 20] 60 _ _ _ _ _ _ ?_
      conv => whnf
      refine pk_le 0 0 (fun _ => ?_) (fun h => absurd h (by omega))
      conv => whnf
      refine ⟨vp_in_nI (n := 0) (by omega) (by decide), ?_⟩
      conv => whnf
      exact sub [0, 1, 2] _ _ _ _ _ _ _ rfl hN
    | succ a ih =>
      intro f ha hf hN
      refine run [7, 20] 60 _ _ _ _ _ _ ?_
      conv => whnf
      refine pk_le (a + 1) 0 (fun h => absurd h (by omega)) (fun _ => ?_)
      conv => whnf
      rw [show nI (a + 1) - Int32.ofInt 1 = nI a from nI_pred a]
      refine ⟨vp_in_nI (by omega) (by decide), ?_⟩
      rw [nI_clamp (by omega)]
      conv => whnf
      refine ⟨vld_in hf (by omega) (by decide), ?_⟩
      conv => whnf
      refine ⟨vp_in_nI (by omega) (by decide), ?_⟩
      rw [nI_clamp (by omega)]
      conv => whnf
      simp only [insS] at hN
      rw [show tn (nI i) = i from nI_clamp (by omega)] at hN
      refine ⟨fun hc => ?_, fun hc => ?_⟩
      · have hc : S.2.2.1 3 (tn (f a)) ≤ S.2.2.1 3 i := hc
        conv => whnf
        refine ⟨vp_in_nI (by omega) (by decide), ?_⟩
        rw [nI_clamp (by omega)]
        conv => whnf
        rw [if_pos hc, nI_succ i] at hN
        exact sub [0, 1, 2] _ _ _ _ _ _ _ rfl hN
      · have hc : ¬ S.2.2.1 3 (tn (f a)) ≤ S.2.2.1 3 i := hc
        conv => whnf
        rw [show nI (a + 1) - Int32.ofInt 1 = nI a from nI_pred a]
        refine ⟨vp_in_nI (by omega) (by decide), ?_⟩
        rw [nI_clamp (by omega)]
        conv => whnf
        refine ⟨vp_in_nI (by omega) (by decide), ?_⟩
        rw [nI_clamp (by omega)]
        conv => whnf
        rw [if_neg hc] at hN
        have h2 := ih (upd f (a + 1) (f a)) (by omega) (fun j hj => by rw [pk_un (by omega)]; exact hf j (by omega)) hN
        rw [← pk_m1 a] at h2
        exact sub [0, 1, 2, 3] _ _ _ _ _ _ _ rfl h2
  have loop := lp_up (fun i => OK 0 0 7 [(0, .ref 0), (1, .int g), (2, .int (nI i))] [] (wM (xi (xa S 13 (sr (S.2.2.1 3) (S.2.2.1 13) i)) 5 (nI i)))) n
    (by
      generalize sr (S.2.2.1 3) (S.2.2.1 13) n = O at phase2 ⊢
      refine run [7, 89] 60 _ _ _ _ _ _ ?_
      conv => whnf
      refine pk_le n n (fun h => ?_) (fun h => absurd h (by omega)) h1
      conv => whnf
      exact sub [0, 1] _ _ _ _ _ _ _ rfl phase2)
    (fun i hi ih => by
      have hN := inner i hi i (sr (S.2.2.1 3) (S.2.2.1 13) i) (Nat.le_refl _) (hvr i (by omega)) ih
      generalize sr (S.2.2.1 3) (S.2.2.1 13) i = f at hN ⊢
      refine run [7, 20] 60 _ _ _ _ _ _ ?_
      conv => whnf
      refine pk_le n i (fun h => absurd h (by omega)) (fun h => ?_) h1
      conv => whnf
      exact hN)
  refine run [7] 60 _ _ _ _ _ _ ?_
  conv => whnf
  exact loop 0 (by omega)
theorem ct_X7_byTimes (D : va_G) (dT : Nat → Nat) (l : Launch) : en_CT en_WD D vwCl dT l yX7_byTimes cX7_byTimes 4 (none) rm_X7_byTimes f_X7_byTimes := en_met en_WD1 en_WD2 (by decide) rfl rfl (tB_X7_byTimes D dT l) (en_f_ln (fun _ => Nat.le_of_ble_eq_true rfl)) (en_f_bd bd_X7_byTimes)
set_option maxRecDepth 100000 in
theorem mk_X7_byTimes {D : va_G} {dT : Nat → Nat} {l : Launch} {R : Room} {s : State} {args : Array Value} {own : String} {idx : Nat} (h : en_WD s) (h1 : rm_X7_byTimes.frames + 1 ≤ R.frames) (h2 : 8 + (4 + 11) + rm_X7_byTimes.locals ≤ R.locals) (hl : (Jvm.Cond.methodLink own idx yX7_byTimes).before args s = true ∨ ∃ host, (Jvm.Cond.methodLinkNest own idx yX7_byTimes host).before args s = true) : en_mok en_WD D vwCl dT l R s args own (idx, 2, 9, 0, 0, f_X7_byTimes) :=
  ⟨yX7_byTimes, cX7_byTimes, 4, none, rm_X7_byTimes, 1, ct_X7_byTimes D dT l, rfl, rfl, h1, h2, en_wd h 893 rfl rfl args, en_wd h 66 (by decide +kernel) rfl args, by decide, by decide, hl, ⟨RX7, TX7, 24, rfl, en_wd h 892 (by decide +kernel) rfl args, en_wd h 43 (by decide +kernel) rfl args, rfl⟩⟩
end
