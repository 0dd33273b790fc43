section
/-! THE ENGINE: worlds by places. A virtual world is a list of cells; a reference in it is a place in the list; 'ad' says at which address each place lies. en_st: what one instruction asks; en_vc: what a run of them asks; en_run: if that holds, the machine's own W holds. -/
def en_v (ad : Nat → Nat) (v : Value) : Value := match v with
  | .ref a => .ref (ad a)
  | .int x => .int x
  | .long x => .long x
  | .float x => .float x
  | .double x => .double x
  | .null => .null
  | .retAddr x => .retAddr x
theorem en_v_cat (ad : Nat → Nat) (v : Value) : (en_v ad v).category = v.category := by cases v <;> rfl
def en_e (ad : Nat → Nat) (dT : Nat → Nat) (x : va_E) : va_E := match x with
  | .inl a => .inl (dT a.1, a.2)
  | .inr o => .inr (o.1, o.2.map (en_v ad))
def en_w (ad : Nat → Nat) (dT : Nat → Nat) (ws : List va_E) : va_W := ws.mapIdx (fun i x => (ad i, en_e ad dT x))
theorem en_w_get (ad dT : Nat → Nat) (ws : List va_E) (k : Nat) : (en_w ad dT ws)[k]? = (ws[k]?).map (fun x => (ad k, en_e ad dT x)) := by
  unfold en_w
  rw [List.getElem?_mapIdx]
theorem en_w_some {ad dT : Nat → Nat} {ws : List va_E} {k : Nat} {x : va_E} (h : ws[k]? = some x) : (en_w ad dT ws)[k]? = some (ad k, en_e ad dT x) := by
  rw [en_w_get, h]; rfl
theorem en_w_len (ad dT : Nat → Nat) (ws : List va_E) : (en_w ad dT ws).length = ws.length := by
  unfold en_w
  exact List.length_mapIdx
theorem en_w_set (ad dT : Nat → Nat) (ws : List va_E) (a : Nat) (x : va_E) : en_w ad dT (ws.set a x) = (en_w ad dT ws).set a (ad a, en_e ad dT x) := by
  apply List.ext_getElem?
  intro k
  rw [en_w_get, List.getElem?_set, List.getElem?_set, en_w_len, en_w_get]
  by_cases h : a = k
  · subst h
    by_cases h2 : a < ws.length
    · simp [h2]
    · simp [h2]
  · simp [h]
abbrev en_L : Type := List (Nat × Value)
def en_l (ad : Nat → Nat) (lv : en_L) : en_L := lv.map (fun q => (q.1, en_v ad q.2))
def en_get : en_L → Nat → Option Value
  | [], _ => none
  | q :: t, i => bif Nat.beq q.1 i then some q.2 else en_get t i
theorem en_get_mem : ∀ {lv : en_L} {i : Nat} {v : Value}, en_get lv i = some v → (i, v) ∈ lv
  | [], _, _, h => by simp [en_get] at h
  | q :: t, i, v, h => by
    simp only [en_get] at h
    cases hq : Nat.beq q.1 i with
    | true =>
      rw [hq] at h
      simp only [cond_true] at h
      have h1 : q.1 = i := Nat.eq_of_beq_eq_true hq
      cases h
      subst h1
      exact List.mem_cons_self
    | false =>
      rw [hq] at h
      simp only [cond_false] at h
      exact List.mem_cons_of_mem _ (en_get_mem h)
theorem en_at {ad : Nat → Nat} {ls : Array Slot} {nL : Nat} {lv : en_L} {i : Nat} {v : Value} (hl : lv_has ls nL (en_l ad lv)) (h : en_get lv i = some v) : ls[i]? = some (.val (en_v ad v)) :=
  hl.2.2 (i, en_v ad v) (List.mem_map.mpr ⟨(i, v), en_get_mem h, rfl⟩)
def en_bad (c i : Nat) (q : Nat × Value) : Bool := Nat.beq q.1 i || (Nat.beq (q.1 + 1) i && Nat.beq q.2.category 2) || (Nat.beq c 2 && Nat.beq q.1 (i + 1))
def en_clr (c i : Nat) : en_L → en_L
  | [] => []
  | q :: t => bif en_bad c i q then en_clr c i t else q :: en_clr c i t
def en_put (c i : Nat) (v : Value) : en_L → en_L
  | [] => [(i, v)]
  | q :: t => bif Nat.beq q.1 i then (i, v) :: en_clr c i t else bif en_bad c i q then en_put c i v t else q :: en_put c i v t
theorem en_clr_mem {c i : Nat} : ∀ {lv : en_L} {q : Nat × Value}, q ∈ en_clr c i lv → q ∈ lv ∧ en_bad c i q = false
  | [], q, h => by simp [en_clr] at h
  | r :: t, q, h => by
    simp only [en_clr] at h
    cases hr : en_bad c i r with
    | true =>
      rw [hr] at h
      have := en_clr_mem (lv := t) h
      exact ⟨List.mem_cons_of_mem _ this.1, this.2⟩
    | false =>
      rw [hr] at h
      simp only [cond_false] at h
      rcases List.mem_cons.mp h with rfl | h
      · exact ⟨List.mem_cons_self, hr⟩
      · have := en_clr_mem (lv := t) h
        exact ⟨List.mem_cons_of_mem _ this.1, this.2⟩
theorem en_put_mem {c i : Nat} {v : Value} : ∀ {lv : en_L} {q : Nat × Value}, q ∈ en_put c i v lv → q = (i, v) ∨ (q ∈ lv ∧ en_bad c i q = false)
  | [], q, h => by
    simp only [en_put, List.mem_singleton] at h
    exact Or.inl h
  | r :: t, q, h => by
    simp only [en_put] at h
    cases hr : Nat.beq r.1 i with
    | true =>
      rw [hr] at h
      simp only [cond_true] at h
      rcases List.mem_cons.mp h with rfl | h
      · exact Or.inl rfl
      · have := en_clr_mem h
        exact Or.inr ⟨List.mem_cons_of_mem _ this.1, this.2⟩
    | false =>
      rw [hr] at h
      simp only [cond_false] at h
      cases hb : en_bad c i r with
      | true =>
        rw [hb] at h
        simp only [cond_true] at h
        rcases en_put_mem (lv := t) h with h | h
        · exact Or.inl h
        · exact Or.inr ⟨List.mem_cons_of_mem _ h.1, h.2⟩
      | false =>
        rw [hb] at h
        simp only [cond_false] at h
        rcases List.mem_cons.mp h with rfl | h
        · exact Or.inr ⟨List.mem_cons_self, hb⟩
        · rcases en_put_mem (lv := t) h with h | h
          · exact Or.inl h
          · exact Or.inr ⟨List.mem_cons_of_mem _ h.1, h.2⟩
theorem en_bad_f {c i : Nat} {q : Nat × Value} (h : en_bad c i q = false) : ¬ q.1 = i ∧ ¬ (q.1 + 1 = i ∧ q.2.category = 2) ∧ ¬ (c = 2 ∧ q.1 = i + 1) := by
  simp only [en_bad, Bool.or_eq_false_iff, Bool.and_eq_false_iff] at h
  obtain ⟨⟨h1, h2⟩, h3⟩ := h
  refine ⟨Nat.ne_of_beq_eq_false h1, fun z => ?_, fun z => ?_⟩
  · rcases h2 with h2 | h2
    · exact Nat.ne_of_beq_eq_false h2 z.1
    · exact Nat.ne_of_beq_eq_false h2 z.2
  · rcases h3 with h3 | h3
    · exact Nat.ne_of_beq_eq_false h3 z.1
    · exact Nat.ne_of_beq_eq_false h3 z.2
/-- the locals behind a store of a value of one word -/
theorem en_put1 {ad : Nat → Nat} {ls' : Array Slot} {nL i : Nat} {v : Value} {lv : en_L} (h : lv_has ls' nL ((i, en_v ad v) :: (en_l ad lv).filter (fun q => !(q.1 == i) && !(q.1 + 1 == i && q.2.category == 2)))) : lv_has ls' nL (en_l ad (en_put 1 i v lv)) := by
  refine ⟨h.1, h.2.1, fun q hq => ?_⟩
  obtain ⟨r, hr, rfl⟩ := List.mem_map.mp hq
  rcases en_put_mem hr with rfl | ⟨h1, h2⟩
  · exact h.2.2 _ List.mem_cons_self
  · obtain ⟨b1, b2, -⟩ := en_bad_f h2
    refine h.2.2 _ (List.mem_cons_of_mem _ (List.mem_filter.mpr ⟨List.mem_map.mpr ⟨r, h1, rfl⟩, ?_⟩))
    have e1 : (r.1 == i) = false := by simpa using b1
    have e2 : (r.1 + 1 == i && (en_v ad r.2).category == 2) = false := by
      rw [en_v_cat]
      rw [Bool.eq_false_iff]
      intro z
      simp only [Bool.and_eq_true, beq_iff_eq] at z
      exact b2 z
    simp only [e1, e2, Bool.not_false, Bool.and_self]
theorem en_put2 {ad : Nat → Nat} {ls' : Array Slot} {nL i : Nat} {v : Value} {lv : en_L} (h : lv_has ls' nL ((i, en_v ad v) :: (en_l ad lv).filter (fun q => !(q.1 == i) && (!(q.1 == i + 1) && !(q.1 + 1 == i && q.2.category == 2))))) : lv_has ls' nL (en_l ad (en_put 2 i v lv)) := by
  refine ⟨h.1, h.2.1, fun q hq => ?_⟩
  obtain ⟨r, hr, rfl⟩ := List.mem_map.mp hq
  rcases en_put_mem hr with rfl | ⟨h1, h2⟩
  · exact h.2.2 _ List.mem_cons_self
  · obtain ⟨b1, b2, b3⟩ := en_bad_f h2
    refine h.2.2 _ (List.mem_cons_of_mem _ (List.mem_filter.mpr ⟨List.mem_map.mpr ⟨r, h1, rfl⟩, ?_⟩))
    have e1 : (r.1 == i) = false := by simpa using b1
    have e3 : (r.1 == i + 1) = false := by
      rw [Bool.eq_false_iff]
      intro z
      exact b3 ⟨rfl, by simpa using z⟩
    have e2 : (r.1 + 1 == i && (en_v ad r.2).category == 2) = false := by
      rw [en_v_cat]
      rw [Bool.eq_false_iff]
      intro z
      simp only [Bool.and_eq_true, beq_iff_eq] at z
      exact b2 z
    simp only [e1, e2, e3, Bool.not_false, Bool.and_self]
end
section
/-! ONE INSTRUCTION, and a run of them, as what they ask -/
/-- a row of a method's table: pc, instruction, the next pc, the targets -/
abbrev en_I : Type := Nat × Instr × Nat × List Nat
def en_lk {α : Type} : List (Nat × α) → Nat → Option α
  | [], _ => none
  | q :: t, i => bif Nat.beq q.1 i then some q.2 else en_lk t i
theorem en_lk_mem {α : Type} : ∀ {t : List (Nat × α)} {i : Nat} {x : α}, en_lk t i = some x → (i, x) ∈ t
  | [], _, _, h => by simp [en_lk] at h
  | q :: t, i, v, h => by
    simp only [en_lk] at h
    cases hq : Nat.beq q.1 i with
    | true =>
      rw [hq] at h
      simp only [cond_true] at h
      have h1 : q.1 = i := Nat.eq_of_beq_eq_true hq
      cases h
      subst h1
      exact List.mem_cons_self
    | false =>
      rw [hq] at h
      simp only [cond_false] at h
      exact List.mem_cons_of_mem _ (en_lk_mem h)
/-- how long an instruction is (those that are here) -/
def en_len : Instr → Nat
  | .bipush _ | .ldc _ | .iload _ | .lload _ | .aload _ | .istore _ | .lstore _ | .astore _ | .newarray _ => 2
  | .sipush _ | .ldc2_w _ | .ldc_w _ | .getfield _ | .putfield _ | .getstatic _ | .putstatic _ | .goto _ | .ifCond _ _ | .if_icmp _ _ | .iinc _ _ | .invokevirtual _ | .invokestatic _ | .invokespecial _ | .new _ | .ifnull _ | .ifnonnull _ | .if_acmp _ _ => 3
  | _ => 1
def en_zip (pc : Nat) : List Int → List Nat → Bool
  | [], [] => true
  | o :: os, t :: ts => decide ((pc : Int) + o = (t : Int)) && en_zip pc os ts
  | _, _ => false
/-- a row is well made -/
def en_ck (q : en_I) : Bool := match q.2.1 with
  | .goto o | .ifCond _ o | .if_icmp _ o => Nat.beq q.2.2.1 (q.1 + 3) && en_zip q.1 [o] q.2.2.2
  | .tableswitch d lo hi offs => decide (hi + 1 = lo + (offs.size : Int)) && en_zip q.1 (d :: offs.toList) q.2.2.2
  | .lookupswitch d ps => en_zip q.1 (d :: ps.toList.map (fun x => x.2)) q.2.2.2 && (ps.toList.zip (ps.toList.drop 1)).all (fun (a, next) => a.1 < next.1)
  | i => Nat.beq q.2.2.1 (q.1 + en_len i)
abbrev en_K : Type := Nat → Nat → Nat → en_L → List Value → List va_E → Prop
def en_i (st : List Value) (f : Int32 → List Value → Prop) : Prop := match st with
  | .int x :: r => f x r
  | _ => False
def en_j (st : List Value) (f : Int64 → List Value → Prop) : Prop := match st with
  | .long x :: r => f x r
  | _ => False
def en_r (st : List Value) (f : Nat → List Value → Prop) : Prop := match st with
  | .ref x :: r => f x r
  | _ => False
/-- two ints: the one below first -/
def en_ii (st : List Value) (f : Int32 → Int32 → List Value → Prop) : Prop := match st with
  | .int y :: .int x :: r => f x y r
  | _ => False
def en_jj (st : List Value) (f : Int64 → Int64 → List Value → Prop) : Prop := match st with
  | .long y :: .long x :: r => f x y r
  | _ => False
def en_ji (st : List Value) (f : Int64 → Int32 → List Value → Prop) : Prop := match st with
  | .int y :: .long x :: r => f x y r
  | _ => False
/-- an array's place, a place in it -/
def en_ai (st : List Value) (f : Nat → Int32 → List Value → Prop) : Prop := match st with
  | .int i :: .ref a :: r => f a i r
  | _ => False
def en_aii (st : List Value) (f : Nat → Int32 → Int32 → List Value → Prop) : Prop := match st with
  | .int x :: .int i :: .ref a :: r => f a i x r
  | _ => False
def en_aij (st : List Value) (f : Nat → Int32 → Int64 → List Value → Prop) : Prop := match st with
  | .long x :: .int i :: .ref a :: r => f a i x r
  | _ => False
/-- an array of ints (0) or booleans (2) at a place: its length, what it holds -/
def en_ar (ws : List va_E) (k a : Nat) (f : Nat → (Nat → Int32) → Prop) : Prop := match ws[a]? with
  | some (.inl (tk, n, .inl g)) => bif Nat.beq tk k then f n g else False
  | _ => False
def en_al (ws : List va_E) (a : Nat) (f : Nat → (Nat → Int64) → Prop) : Prop := match ws[a]? with
  | some (.inl (tk, n, .inr (.inl g))) => bif Nat.beq tk 1 then f n g else False
  | _ => False
def en_an (ws : List va_E) (a : Nat) (f : Nat → Prop) : Prop := match ws[a]? with
  | some (.inl (tk, n, _)) => bif Nat.blt tk 3 then f n else False
  | _ => False
/-- an object of the class ci at a place: its fields -/
def en_ob (ws : List va_E) (ci a : Nat) (f : List Value → Prop) : Prop := match ws[a]? with
  | some (.inr (c, fs)) => bif Nat.beq c ci then f fs else False
  | _ => False
def en_fit : FieldType → Value → Bool
  | .int, .int _ => true
  | .long, .long _ => true
  | .object _, .ref _ => true
  | .array _, .ref _ => true
  | _, _ => false
/-- is a value's place below n -/
def en_lo (n : Nat) : Value → Bool
  | .ref a => Nat.blt a n
  | _ => true
def en_los (n : Nat) : List Value → Bool
  | [] => true
  | v :: t => en_lo n v && en_los n t
def en_loL (n : Nat) : en_L → Bool
  | [] => true
  | q :: t => en_lo n q.2 && en_loL n t
def en_loE (n : Nat) : va_E → Bool
  | .inl _ => true
  | .inr o => en_los n o.2
def en_loW (n : Nat) : List va_E → Bool
  | [] => true
  | e :: t => en_loE n e && en_loW n t
def en_sum : List Value → Nat
  | [] => 0
  | v :: t => v.category + en_sum t
def en_sw (x : Int32) (k : Nat → Prop) : Int → List Nat → Prop
  | _, [] => True
  | v, t :: ts => (x.toInt = v → k t) ∧ en_sw x k (v + 1) ts
def en_lsw (x : Int32) (k : Nat → Prop) (d : Nat) : List (Int × Int) → List Nat → Prop
  | p :: ps, t :: ts => (x.toInt = p.1 → k t) ∧ (¬ x.toInt = p.1 → en_lsw x k d ps ts)
  | _, _ => k d
/-- a field by its number in the pool: class, place, type, may it be written here -/
abbrev en_F : Type := List (Nat × Nat × Nat × FieldType × Bool)
/-- a callee: how many words on the stack, its kind (0 static, 1 constructor, n + 2: on an object of the class n), new cells, new slots, what it asks -/
abbrev en_C : Type := Nat × Nat × Nat × Nat × (List Value → List va_E → (Option Value → List va_E → Prop) → Prop)
/-- what can be made: class, slots, the fields at first -/
abbrev en_N : Type := List (Nat × Nat × Nat × List Value)
def en_bf (mc ms cs sl a b : Nat) (X : Prop) : Prop := bif Nat.beq a 0 && Nat.beq b 0 then X else (cs + a ≤ mc ∧ sl + b ≤ ms) ∧ X
def en_rcv (ws : List va_E) : Nat → List Value → Bool
  | 0, _ => true
  | 1, .ref _ :: _ => true
  | ci + 2, .ref a :: _ => match ws[a]? with
    | some (.inr (c, _)) => Nat.beq c ci
    | _ => false
  | _, _ => false
def en_in : List Nat → Nat → Bool
  | [], _ => false
  | a :: t, i => Nat.beq a i || en_in t i
def en_call (mc ms : Nat) (q : en_C) (k : en_K) (cs sl pc : Nat) (lv : en_L) (st : List Value) (ws : List va_E) : Prop :=
  bif Nat.ble q.1 st.length && en_rcv ws q.2.1 (st.take q.1).reverse && Nat.ble (en_sum (st.drop q.1)) 8 && en_los ws.length (st.drop q.1) && en_loL ws.length lv then
    en_bf mc ms cs sl q.2.2.1 q.2.2.2.1 (q.2.2.2.2 (st.take q.1).reverse ws (fun v w => k (cs + q.2.2.1) (sl + q.2.2.2.1) pc lv (v.toList ++ st.drop q.1) w))
  else False
def en_cnd (c : ClassFile.Cond) (x : Int32) (t f : Prop) : Prop := match c with
  | .eq => (x = 0 → t) ∧ (¬ x = 0 → f)
  | .ne => (¬ x = 0 → t) ∧ (x = 0 → f)
  | .lt => (x < 0 → t) ∧ (¬ x < 0 → f)
  | .ge => (0 ≤ x → t) ∧ (¬ 0 ≤ x → f)
  | .gt => (0 < x → t) ∧ (¬ 0 < x → f)
  | .le => (x ≤ 0 → t) ∧ (¬ x ≤ 0 → f)
def en_cmp (c : ClassFile.Cond) (x y : Int32) (t f : Prop) : Prop := match c with
  | .eq => (x = y → t) ∧ (¬ x = y → f)
  | .ne => (¬ x = y → t) ∧ (x = y → f)
  | .lt => (x < y → t) ∧ (¬ x < y → f)
  | .ge => (y ≤ x → t) ∧ (¬ y ≤ x → f)
  | .gt => (y < x → t) ∧ (¬ y < x → f)
  | .le => (x ≤ y → t) ∧ (¬ x ≤ y → f)
/-- the tables of a method: its locals, new cells, new slots; rows, fields, constants, callees, what it makes, Object's constructor's number; its answer's type; what must hold at its end -/
abbrev en_T : Type := (Nat × Nat × Nat) × List en_I × en_F × List (Nat × Value) × List (Nat × en_C) × en_N × Nat × Option FieldType
def en_st (t : en_T) (G : Option Value → List va_E → Prop) (k : en_K) (cs sl pc : Nat) (lv : en_L) (st : List Value) (ws : List va_E) : Prop :=
  match en_lk t.2.1 pc with
  | none => False
  | some (i, nx, tg) => match i with
    | .iconst n => k cs sl nx lv (.int (Int32.ofInt n) :: st) ws
    | .bipush n => k cs sl nx lv (.int (Int8.ofInt n).toInt32 :: st) ws
    | .sipush n => k cs sl nx lv (.int (Int16.ofInt n).toInt32 :: st) ws
    | .lconst n => k cs sl nx lv (.long (Int64.ofNat (n : Nat)) :: st) ws
    | .ldc x => match en_lk t.2.2.2.1 x with
      | some (.int v) => k cs sl nx lv (.int v :: st) ws
      | _ => False
    | .ldc2_w x => match en_lk t.2.2.2.1 x with
      | some (.long v) => k cs sl nx lv (.long v :: st) ws
      | _ => False
    | .iload_n j => match en_get lv (j : Nat) with
      | some (.int v) => k cs sl nx lv (.int v :: st) ws
      | _ => False
    | .iload j => match en_get lv j with
      | some (.int v) => k cs sl nx lv (.int v :: st) ws
      | _ => False
    | .lload_n j => match en_get lv (j : Nat) with
      | some (.long v) => k cs sl nx lv (.long v :: st) ws
      | _ => False
    | .lload j => match en_get lv j with
      | some (.long v) => k cs sl nx lv (.long v :: st) ws
      | _ => False
    | .aload_n j => match en_get lv (j : Nat) with
      | some (.ref v) => k cs sl nx lv (.ref v :: st) ws
      | _ => False
    | .aload j => match en_get lv j with
      | some (.ref v) => k cs sl nx lv (.ref v :: st) ws
      | _ => False
    | .istore_n j => en_i st fun x r => bif Nat.blt (j : Nat) t.1.1 then k cs sl nx (en_put 1 (j : Nat) (.int x) lv) r ws else False
    | .istore j => en_i st fun x r => bif Nat.blt j t.1.1 then k cs sl nx (en_put 1 j (.int x) lv) r ws else False
    | .lstore_n j => en_j st fun x r => bif Nat.blt ((j : Nat) + 1) t.1.1 then k cs sl nx (en_put 2 (j : Nat) (.long x) lv) r ws else False
    | .lstore j => en_j st fun x r => bif Nat.blt (j + 1) t.1.1 then k cs sl nx (en_put 2 j (.long x) lv) r ws else False
    | .astore_n j => en_r st fun x r => bif Nat.blt (j : Nat) t.1.1 then k cs sl nx (en_put 1 (j : Nat) (.ref x) lv) r ws else False
    | .astore j => en_r st fun x r => bif Nat.blt j t.1.1 then k cs sl nx (en_put 1 j (.ref x) lv) r ws else False
    | .iinc j n => match en_get lv j with
      | some (.int v) => bif Nat.blt j t.1.1 then k cs sl nx (en_put 1 j (.int (v + Int32.ofInt n)) lv) st ws else False
      | _ => False
    | .iadd => en_ii st fun x y r => k cs sl nx lv (.int (x + y) :: r) ws
    | .isub => en_ii st fun x y r => k cs sl nx lv (.int (x - y) :: r) ws
    | .imul => en_ii st fun x y r => k cs sl nx lv (.int (x * y) :: r) ws
    | .iand => en_ii st fun x y r => k cs sl nx lv (.int (x &&& y) :: r) ws
    | .ior => en_ii st fun x y r => k cs sl nx lv (.int (x ||| y) :: r) ws
    | .ixor => en_ii st fun x y r => k cs sl nx lv (.int (x ^^^ y) :: r) ws
    | .idiv => en_ii st fun x y r => ¬ y = 0 ∧ k cs sl nx lv (.int (x / y) :: r) ws
    | .irem => en_ii st fun x y r => ¬ y = 0 ∧ k cs sl nx lv (.int (x - x / y * y) :: r) ws
    | .ineg => en_i st fun x r => k cs sl nx lv (.int (-x) :: r) ws
    | .ishl => en_ii st fun x y r => k cs sl nx lv (.int (x <<< (y &&& 31)) :: r) ws
    | .ishr => en_ii st fun x y r => k cs sl nx lv (.int (x >>> (y &&& 31)) :: r) ws
    | .ladd => en_jj st fun x y r => k cs sl nx lv (.long (x + y) :: r) ws
    | .lsub => en_jj st fun x y r => k cs sl nx lv (.long (x - y) :: r) ws
    | .lmul => en_jj st fun x y r => k cs sl nx lv (.long (x * y) :: r) ws
    | .land => en_jj st fun x y r => k cs sl nx lv (.long (x &&& y) :: r) ws
    | .lor => en_jj st fun x y r => k cs sl nx lv (.long (x ||| y) :: r) ws
    | .lxor => en_jj st fun x y r => k cs sl nx lv (.long (x ^^^ y) :: r) ws
    | .ldiv => en_jj st fun x y r => ¬ y = 0 ∧ k cs sl nx lv (.long (x / y) :: r) ws
    | .lrem => en_jj st fun x y r => ¬ y = 0 ∧ k cs sl nx lv (.long (x - x / y * y) :: r) ws
    | .lushr => en_ji st fun x y r => k cs sl nx lv (.long (x.toUInt64 >>> (y.toInt64.toUInt64 &&& Int64.toUInt64 63)).toInt64 :: r) ws
    | .lshl => en_ji st fun x y r => k cs sl nx lv (.long (x <<< (y.toInt64 &&& 63)) :: r) ws
    | .lshr => en_ji st fun x y r => k cs sl nx lv (.long (x >>> (y.toInt64 &&& 63)) :: r) ws
    | .lcmp => en_jj st fun x y r => k cs sl nx lv (.int (lg_cmp x y) :: r) ws
    | .i2l => en_i st fun x r => k cs sl nx lv (.long x.toInt64 :: r) ws
    | .l2i => en_j st fun x r => k cs sl nx lv (.int x.toInt32 :: r) ws
    | .dup => match st with
      | v :: r => bif Nat.beq v.category 1 then k cs sl nx lv (v :: v :: r) ws else False
      | _ => False
    | .pop => match st with
      | v :: r => bif Nat.beq v.category 1 then k cs sl nx lv r ws else False
      | _ => False
    | .dup_x1 => match st with
      | v :: u :: r => bif Nat.beq v.category 1 && Nat.beq u.category 1 then k cs sl nx lv (v :: u :: v :: r) ws else False
      | _ => False
    | .dup_x2 => match st with
      | v :: u :: z :: r => bif Nat.beq v.category 1 && Nat.beq u.category 1 && Nat.beq z.category 1 then k cs sl nx lv (v :: u :: z :: v :: r) ws else False
      | _ => False
    | .dup2 => match st with
      | v :: r => bif Nat.beq v.category 2 then k cs sl nx lv (v :: v :: r) ws else match r with
        | u :: r2 => bif Nat.beq v.category 1 && Nat.beq u.category 1 then k cs sl nx lv (v :: u :: v :: u :: r2) ws else False
        | _ => False
      | _ => False
    | .ifCond c _ => match tg with
      | [g] => en_i st fun x r => en_cnd c x (k cs sl g lv r ws) (k cs sl nx lv r ws)
      | _ => False
    | .if_icmp c _ => match tg with
      | [g] => en_ii st fun x y r => en_cmp c x y (k cs sl g lv r ws) (k cs sl nx lv r ws)
      | _ => False
    | .goto _ => match tg with
      | [g] => k cs sl g lv st ws
      | _ => False
    | .tableswitch _ lo hi _ => match tg with
      | d :: gs => en_i st fun x r => ((x.toInt < lo ∨ hi < x.toInt) → k cs sl d lv r ws) ∧ en_sw x (fun g => k cs sl g lv r ws) lo gs
      | _ => False
    | .getfield x => match en_lk t.2.2.1 x with
      | some (ci, kf, _, _) => en_r st fun a r => en_ob ws ci a fun fs => match fs[kf]? with
        | some v => k cs sl nx lv (v :: r) ws
        | none => False
      | none => False
    | .putfield x => match en_lk t.2.2.1 x with
      | some (ci, kf, ty, w) => match st with
        | v :: .ref a :: r => bif w && en_fit ty v then en_ob ws ci a fun fs => bif Nat.blt kf fs.length then k cs sl nx lv r (ws.set a (.inr (ci, fs.set kf v))) else False else False
        | _ => False
      | none => False
    | .iaload => en_ai st fun a i r => en_ar ws 0 a fun n f => vp_in i n ∧ k cs sl nx lv (.int (f i.toNatClampNeg) :: r) ws
    | .baload => en_ai st fun a i r => en_ar ws 2 a fun n f => vp_in i n ∧ k cs sl nx lv (.int (f i.toNatClampNeg) :: r) ws
    | .laload => en_ai st fun a i r => en_al ws a fun n f => vp_in i n ∧ k cs sl nx lv (.long (f i.toNatClampNeg) :: r) ws
    | .iastore => en_aii st fun a i x r => en_ar ws 0 a fun n f => vp_in i n ∧ k cs sl nx lv r (ws.set a (.inl (0, n, .inl (upd f i.toNatClampNeg x))))
    | .bastore => en_aii st fun a i x r => en_ar ws 2 a fun n f => vp_in i n ∧ k cs sl nx lv r (ws.set a (.inl (2, n, .inl (upd f i.toNatClampNeg (vp_nar .boolean x)))))
    | .lastore => en_aij st fun a i x r => en_al ws a fun n f => vp_in i n ∧ k cs sl nx lv r (ws.set a (.inl (1, n, .inr (.inl (vp_updL f i.toNatClampNeg x)))))
    | .arraylength => en_r st fun a r => en_an ws a fun n => k cs sl nx lv (.int (Int32.ofNat n) :: r) ws
    | .invokevirtual x => match en_lk t.2.2.2.2.1 x with
      | some q => bif Nat.ble 2 q.2.1 then en_call t.1.2.1 t.1.2.2 q k cs sl nx lv st ws else False
      | none => False
    | .invokestatic x => match en_lk t.2.2.2.2.1 x with
      | some q => bif Nat.beq 0 q.2.1 then en_call t.1.2.1 t.1.2.2 q k cs sl nx lv st ws else False
      | none => False
    | .invokespecial x => bif Nat.beq x t.2.2.2.2.2.2.1 then (match st with
        | .ref _ :: r => bif Nat.blt 0 x && Nat.ble (en_sum r) 8 then k cs sl nx lv r ws else False
        | _ => False) else match en_lk t.2.2.2.2.1 x with
      | some q => bif Nat.beq 1 q.2.1 then en_call t.1.2.1 t.1.2.2 q k cs sl nx lv st ws else False
      | none => False
    | .new x => match en_lk t.2.2.2.2.2.1 x with
      | some (ci, N, fs) => bif en_los ws.length st && en_loL ws.length lv && en_loW ws.length ws then (cs + 1 ≤ t.1.2.1 ∧ sl + N ≤ t.1.2.2) ∧ k (cs + 1) (sl + N) nx lv (.ref ws.length :: st) (ws ++ [.inr (ci, fs)]) else False
      | none => False
    | .newarray ty => en_i st fun n r => bif en_los ws.length r && en_loL ws.length lv && en_loW ws.length ws then (¬ n < 0 ∧ n.toNatClampNeg ≤ 1000000 ∧ cs + 1 ≤ t.1.2.1 ∧ sl + n.toNatClampNeg ≤ t.1.2.2) ∧ (match ty with
      | .int => k (cs + 1) (sl + n.toNatClampNeg) nx lv (.ref ws.length :: r) (ws ++ [.inl (0, n.toNatClampNeg, .inl (fun _ => 0))])
      | .long => k (cs + 1) (sl + n.toNatClampNeg) nx lv (.ref ws.length :: r) (ws ++ [.inl (1, n.toNatClampNeg, .inr (.inl (fun _ => 0)))])
      | .boolean => k (cs + 1) (sl + n.toNatClampNeg) nx lv (.ref ws.length :: r) (ws ++ [.inl (2, n.toNatClampNeg, .inl (fun _ => 0))])
      | _ => False) else False
    | .ireturn => match st with
      | [.int v] => match t.2.2.2.2.2.2.2 with
        | some .int => G (some (.int v)) ws
        | some .boolean => narrow .boolean (.int v) = .int v ∧ G (some (.int v)) ws
        | _ => False
      | _ => False
    | .return_ => match st, t.2.2.2.2.2.2.2 with
      | [], none => G none ws
      | _, _ => False
    | _ => False
/-- a run of at most n instructions; it stops at the places 'stop' -/
def en_vc (t : en_T) (G : Option Value → List va_E → Prop) (stop : List Nat) (K : en_K) : Nat → en_K
  | 0, cs, sl, pc, lv, st, ws => K cs sl pc lv st ws
  | n + 1, cs, sl, pc, lv, st, ws => en_st t G (fun cs sl pc lv st ws => bif en_in stop pc then K cs sl pc lv st ws else en_vc t G stop K n cs sl pc lv st ws) cs sl pc lv st ws
end
section
/-! THE ENGINE IS SOUND: what it asks gives the machine's own W -/
def en_ty (dT : Nat → Nat) : List (ClassId × FieldType) := [(dT 0, .int), (dT 1, .long), (dT 2, .boolean)]
def en_OK (D : va_G) (cl : List vw_C) (dT : Nat → Nat) (A : Nat → Prop) (t : en_T) (n0 : Nat) (ad : Nat → Nat) (p : Program) (l : Launch) (e : Env) (R : Room) (s : State) (m : MethodId) (args : Array Value) (below : List Frame) (meth : Method) (c : Code) (Q : State → Prop) : en_K := fun cs sl pc lv st ws =>
  n0 ≤ ws.length → cs ≤ t.1.2.1 → sl ≤ t.1.2.2 → ∀ (ad1 : Nat → Nat) (H : Heap) (locs : List Loc) (ls : Array Slot), (∀ k, k < n0 → ad1 k = ad k) → va_P D cl (en_w ad1 dT ws) H → va_D A (en_w ad1 dT ws) → va_S A s.heap H locs → lv_has ls t.1.1 (en_l ad1 lv) → W p l e R s m args below meth c H locs cs sl Q (F0 m pc ls (st.map (en_v ad1)))
/-- a contract's start and end, over a virtual world -/
def en_P (WD : State → Prop) (D : va_G) (cl : List vw_C) (dT : Nat → Nat) (ad : Nat → Nat) (av : List Value) (ws : List va_E) (sz : Nat) : Array Value → State → Prop := va_Pc (av.map (en_v ad)) (fun U => U.heap.size = sz ∧ va_P D cl (en_w ad dT ws) U.heap ∧ va_K D cl (en_ty dT) U ∧ va_D (fun _ => True) (en_w ad dT ws) ∧ WD U)
def en_Q (D : va_G) (cl : List vw_C) (dT : Nat → Nat) (ad : Nat → Nat) (n0 : Nat) (G : Option Value → List va_E → Prop) (A : Nat → Prop) : Array Value → State → Outcome → State → Prop := fun _ st oc t =>
  (∃ (v : Option Value) (w : List va_E) (ad1 : Nat → Nat), oc = .returned (v.map (en_v ad1)) ∧ G v w ∧ n0 ≤ w.length ∧ (∀ k, k < n0 → ad1 k = ad k) ∧ va_P D cl (en_w ad1 dT w) t.heap ∧ va_K D cl (en_ty dT) t ∧ va_D A (en_w ad1 dT w)) ∧ va_F A st t
def en_CT (WD : State → Prop) (D : va_G) (cl : List vw_C) (dT : Nat → Nat) (l : Launch) (y : MethodName) (bytes : ByteArray) (maxL : Nat) (ret : Option FieldType) (rm : Room) (f : List Value → List va_E → (Option Value → List va_E → Prop) → Prop) : Prop :=
  ∀ (ad : Nat → Nat) (sz : Nat) (av : List Value) (ws : List va_E) (G : Option Value → List va_E → Prop), f av ws G → Met l y [Jvm.Cond.code y bytes maxL ret] rm (en_P WD D cl dT ad av ws sz) (en_Q D cl dT ad ws.length G (va_A (en_w ad dT ws) sz)) rm.cells rm.slots (va_A (en_w ad dT ws) sz)
/-- what the tables say of a field, of a constant, of a callee, of a class that is made -/
def en_fok (cl : List vw_C) (s : State) (args : Array Value) (meth : Method) (own : String) (q : Nat × Nat × Nat × FieldType × Bool) : Prop :=
  ∃ (C : String) (T : u_T) (N : Nat) (Ts : List Jvm.Cond) (ty0 : Nat → FieldType), cl[q.2.1]? = some (C, T, N) ∧ q.2.2.1 < N ∧ (∀ w ∈ Ts, w.before args s = true) ∧ (∀ w ∈ u_ws C T N, w ∈ Ts) ∧ (Jvm.Cond.fieldLink own q.1 (T q.2.2.1).1 (T q.2.2.1).2.1 (T q.2.2.1).2.2.1).before args s = true ∧ (∀ k, k < N → parseFieldDescriptor (T k).2.2.1 = some (ty0 k)) ∧ ty0 q.2.2.1 = q.2.2.2.1 ∧ (∀ a, a < N → ∀ b, b < N → a ≠ b → (T a).2.1 ≠ (T b).2.1) ∧
    (q.2.2.2.2 = true → (T q.2.2.1).2.2.2 = false ∨ ((T q.2.2.1).2.2.2 = true ∧ meth.name = "<init>" ∧ (T q.2.2.1).1 = own))
def en_cok (s : State) (args : Array Value) (own : String) (q : Nat × Value) : Prop := match q.2 with
  | .int x => (Jvm.Cond.constant own q.1 x).before args s = true
  | .long x => (Jvm.Cond.constantLong own q.1 x).before args s = true
  | _ => True
def en_nok (cl : List vw_C) (s : State) (args : Array Value) (own : String) (q : Nat × Nat × Nat × List Value) : Prop :=
  ∃ (C : String) (T : u_T) (Ts : List Jvm.Cond) (ty0 : Nat → FieldType), cl[q.2.1]? = some (C, T, q.2.2.1) ∧ (∀ w ∈ Ts, w.before args s = true) ∧ (∀ w ∈ u_ws C T q.2.2.1, w ∈ Ts) ∧ (∀ k, k < q.2.2.1 → parseFieldDescriptor (T k).2.2.1 = some (ty0 k)) ∧ (Jvm.Cond.classLink own q.1 C).before args s = true ∧ (Jvm.Cond.instantiable C q.2.2.1).before args s = true ∧ (Jvm.Cond.initialized C).before args s = true ∧ (∀ j, j < q.2.2.1 → defaultValue (ty0 j) = vp_V q.2.2.2 j) ∧ en_los 0 q.2.2.2 = true
def en_mok (WD : State → Prop) (D : va_G) (cl : List vw_C) (dT : Nat → Nat) (l : Launch) (R : Room) (s : State) (args : Array Value) (own : String) (q : Nat × en_C) : Prop :=
  ∃ (y : MethodName) (bytes : ByteArray) (maxL : Nat) (ret : Option FieldType) (rm : Room) (na : Nat), en_CT WD D cl dT l y bytes maxL ret rm q.2.2.2.2.2 ∧ rm.cells = q.2.2.2.1 ∧ rm.slots = q.2.2.2.2.1 ∧ rm.frames + 1 ≤ R.frames ∧ 8 + (maxL + 11) + rm.locals ≤ R.locals ∧
    (Jvm.Cond.code y bytes maxL ret).before args s = true ∧ (Jvm.Cond.initialized y.cls).before args s = true ∧ (y.cls ≠ "java/lang/invoke/MethodHandle" ∧ y.cls ≠ "java/lang/invoke/VarHandle") ∧ (parseMethodDescriptor y.desc).map (fun d => d.parameters.length) = some na ∧
    ((Jvm.Cond.methodLink own q.1 y).before args s = true ∨ ∃ host, (Jvm.Cond.methodLinkNest own q.1 y host).before args s = true) ∧
    (match q.2.2.1 with
      | 0 => (Jvm.Cond.static y).before args s = true ∧ q.2.1 = na
      | 1 => y.name = "<init>" ∧ (Jvm.Cond.instanceMethod y).before args s = true ∧ q.2.1 = na + 1 ∧ ret = none
      | ci + 2 => ∃ (C : String) (T : u_T) (N : Nat), cl[ci]? = some (C, T, N) ∧ (Jvm.Cond.instanceMethod y).before args s = true ∧ (Jvm.Cond.selects C y y).before args s = true ∧ q.2.1 = na + 1)
/-- all that holds while a method runs -/
def en_X (WD : State → Prop) (D : va_G) (cl : List vw_C) (dT : Nat → Nat) (A : Nat → Prop) (t : en_T) (p : Program) (l : Launch) (R : Room) (s : State) (m : MethodId) (args : Array Value) (meth : Method) (c : Code) (own : String) (cc : ByteArray) : Prop :=
  p.tables.exec = Jvm.exec ∧ c.code = cc ∧ c.maxLocals = t.1.1 ∧ s.vm.findClass own = some m.cls ∧ va_K D cl (en_ty dT) s ∧ (∀ q, s.heap.size ≤ q → A q) ∧ WD s ∧ (t.1.2.1 ≤ R.cells ∧ t.1.2.2 ≤ R.slots) ∧
  (∀ q ∈ t.2.1, decode cc q.1 = .ok (q.2.1, q.2.2.1 - q.1) ∧ en_ck q = true) ∧ (∀ q ∈ t.2.2.1, en_fok cl s args meth own q) ∧ (∀ q ∈ t.2.2.2.1, en_cok s args own q) ∧ (∀ q ∈ t.2.2.2.2.1, en_mok WD D cl dT l R s args own q) ∧ (∀ q ∈ t.2.2.2.2.2.1, en_nok cl s args own q) ∧
  ((t.2.2.2.2.2.2.1 = 0 ∨ (1 ≤ R.frames ∧ 20 ≤ R.locals ∧ (Jvm.Cond.methodLink own t.2.2.2.2.2.2.1 Lib.objectInit).before args s = true ∧ (Jvm.Cond.instanceMethod Lib.objectInit).before args s = true ∧ (Jvm.Cond.code Lib.objectInit ⟨#[0xb1]⟩ 1 none).before args s = true))) ∧
  ((Jvm.Cond.arrayClass .int).before args s = true ∧ (Jvm.Cond.arrayClass .long).before args s = true ∧ (Jvm.Cond.arrayClass .boolean).before args s = true)
theorem en_P_blind {WD : State → Prop} (h1 : ∀ u U : State, u.vm = U.vm → WD u → WD U) {D : va_G} {cl : List vw_C} {dT ad : Nat → Nat} {av : List Value} {ws : List va_E} {sz : Nat} : FrameBlind (en_P WD D cl dT ad av ws sz) := by
  intro a U g mk q
  obtain ⟨q0, q1, qP, qK, qD, qW⟩ := q
  exact ⟨q0, q1, qP, va_K.moved (u := U) (U := U.calling g mk a) (Vm.Alike.refl U.vm) qK, qD, h1 U _ rfl qW⟩
theorem en_lo_v {n : Nat} {ad ad1 : Nat → Nat} (h : ∀ k, k < n → ad1 k = ad k) {v : Value} (hv : en_lo n v = true) : en_v ad1 v = en_v ad v := by
  cases v with
  | ref a =>
    have : a < n := by
      have h2 : Nat.blt a n = true := hv
      exact Nat.le_of_ble_eq_true h2
    show Value.ref (ad1 a) = Value.ref (ad a)
    rw [h a this]
  | _ => rfl
theorem en_lo_vs {n : Nat} {ad ad1 : Nat → Nat} (h : ∀ k, k < n → ad1 k = ad k) : ∀ {st : List Value}, en_los n st = true → st.map (en_v ad1) = st.map (en_v ad)
  | [], _ => rfl
  | v :: st, hv => by
    simp only [en_los, Bool.and_eq_true] at hv
    simp only [List.map_cons]
    rw [en_lo_v h hv.1, en_lo_vs h hv.2]
theorem en_lo_l {n : Nat} {ad ad1 : Nat → Nat} (h : ∀ k, k < n → ad1 k = ad k) : ∀ {lv : en_L}, en_loL n lv = true → en_l ad1 lv = en_l ad lv
  | [], _ => rfl
  | q :: lv, hv => by
    simp only [en_loL, Bool.and_eq_true] at hv
    have h2 := en_lo_l h hv.2
    simp only [en_l, List.map_cons] at h2 ⊢
    rw [en_lo_v h hv.1, h2]
theorem en_lo_e {n : Nat} {ad ad1 dT : Nat → Nat} (h : ∀ k, k < n → ad1 k = ad k) {x : va_E} (hv : en_loE n x = true) : en_e ad1 dT x = en_e ad dT x := by
  cases x with
  | inl a => rfl
  | inr o =>
    show Sum.inr (o.1, o.2.map (en_v ad1)) = Sum.inr (o.1, o.2.map (en_v ad))
    rw [en_lo_vs h hv]
theorem en_loW_get {n : Nat} : ∀ {ws : List va_E}, en_loW n ws = true → ∀ {k : Nat} {x : va_E}, ws[k]? = some x → en_loE n x = true
  | [], _, k, x, h => by simp at h
  | y :: ws, hv, k, x, h => by
    simp only [en_loW, Bool.and_eq_true] at hv
    cases k with
    | zero =>
      simp only [List.getElem?_cons_zero, Option.some.injEq] at h
      subst h
      exact hv.1
    | succ k =>
      rw [List.getElem?_cons_succ] at h
      exact en_loW_get hv.2 h
theorem en_w_push {ad dT : Nat → Nat} {ws : List va_E} {x : va_E} (q : Nat) (h : en_loW ws.length ws = true) (hx : en_loE 0 x = true) :
    en_w (fun k => if k = ws.length then q else ad k) dT (ws ++ [x]) = en_w ad dT ws ++ [(q, en_e ad dT x)] := by
  apply List.ext_getElem?
  intro k
  rw [en_w_get]
  by_cases h1 : k < ws.length
  · rw [List.getElem?_append_left h1, List.getElem?_append_left (by rw [en_w_len]; exact h1), en_w_get]
    cases hk : ws[k]? with
    | none => rfl
    | some y =>
      have hy := en_loW_get h hk
      simp only [Option.map_some]
      rw [en_lo_e (ad := ad) (ad1 := fun k => if k = ws.length then q else ad k) (n := ws.length) (fun j hj => if_neg (by omega)) hy]
      rw [if_neg (by omega)]
  · rw [List.getElem?_append_right (by omega), List.getElem?_append_right (by rw [en_w_len]; omega), en_w_len]
    by_cases h2 : k = ws.length
    · subst h2
      simp only [Nat.sub_self, List.getElem?_cons_zero, Option.map_some, if_true]
      rw [en_lo_e (ad := ad) (n := 0) (fun j hj => absurd hj (Nat.not_lt_zero j)) hx]
    · have h3 : k - ws.length = (k - ws.length - 1) + 1 := by omega
      rw [h3, List.getElem?_cons_succ, List.getElem?_cons_succ]
      rfl
theorem en_rev (ad : Nat → Nat) (st : List Value) (n : Nat) : st.map (en_v ad) = (((st.take n).reverse).map (en_v ad)).reverse ++ (st.drop n).map (en_v ad) := by
  rw [List.map_reverse, List.reverse_reverse, ← List.map_append, List.take_append_drop]
theorem en_sum_cat (ad : Nat → Nat) : ∀ st : List Value, ((st.map (en_v ad)).map fun v => v.category).sum = en_sum st
  | [] => rfl
  | v :: st => by
    simp only [List.map_cons, List.sum_cons, en_sum]
    rw [en_v_cat, en_sum_cat ad st]
section SND
variable {p : Program} {l : Launch} {e : Env} {R : Room} {s : State} {m : MethodId} {args : Array Value} {below : List Frame} {meth : Method} {c : Code} {Q : State → Prop}
variable {WD : State → Prop} {D : va_G} {cl : List vw_C} {dT : Nat → Nat} {A : Nat → Prop} {t : en_T} {own : String} {cc : ByteArray} {n0 : Nat} {ad : Nat → Nat}
/-- behind a call -/
theorem en_after {H : Heap} {locs : List Loc} {cs sl mc ms pc : Nat} {ls : Array Slot} {st0 rest : List Value} {a : Array Value} {ws : List va_E} {ad1 : Nat → Nat} {G : Option Value → List va_E → Prop} {k : en_K} {nx : Nat} {lv : en_L}
    (hr : va_Run p l e R s m args below meth c H locs cs sl mc ms (F0 m pc ls st0) (rest.map (en_v ad1)) (en_Q D cl dT ad1 ws.length G (va_A (en_w ad1 dT ws) H.size) a) (va_A (en_w ad1 dT ws) H.size))
    (hnx : nx = pc + 3) (hA : ∀ q, s.heap.size ≤ q → A q) (h0 : n0 ≤ ws.length) (had : ∀ k, k < n0 → ad1 k = ad k) (hD : va_D A (en_w ad1 dT ws)) (hS : va_S A s.heap H locs) (hl : lv_has ls t.1.1 (en_l ad1 lv)) (h1 : cs + mc ≤ t.1.2.1) (h2 : sl + ms ≤ t.1.2.2) (hb1 : en_los ws.length rest = true) (hb2 : en_loL ws.length lv = true)
    (hG : ∀ v w, G v w → k (cs + mc) (sl + ms) nx lv (v.toList ++ rest) w) (hk : ∀ cs sl pc lv st ws, k cs sl pc lv st ws → en_OK D cl dT A t n0 ad p l e R s m args below meth c Q cs sl pc lv st ws) :
    W p l e R s m args below meth c H locs cs sl Q (F0 m pc ls st0) := by
  intro T hT X
  obtain ⟨v, st₀, t1, T', L, hh0, X', hL, e1, e2, ⟨⟨v1, w, ad2, hv, hGv, hlen, had2, hP2, -, hD2⟩, hz, hkk⟩, st⟩ := hr T hT X
  cases hv
  rw [hh0] at hz hkk
  have hfree : ∀ q, va_A (en_w ad1 dT ws) H.size q → A q := by
    intro q hq
    rcases hq with ⟨j, x, hj⟩ | hq
    · exact hD.2 j _ hj
    · exact hA q (Nat.le_trans hS.1 hq)
  have hS2 : va_S A s.heap T'.heap (locs ++ L) := by
    refine ⟨Nat.le_trans hS.1 (by rw [e1]; exact hz), fun q h1 h2 => ?_, fun q hq => ?_⟩
    · rw [e1, hkk q (Nat.lt_of_lt_of_le h1 hS.1) (fun z => h2 (hfree q z))]
      exact hS.2.1 q h1 h2
    · rcases List.mem_append.mp hq with h | h
      · exact hS.2.2 q h
      · exact hfree _ (hL q h)
  have K := hk _ _ _ _ _ _ (hG v1 w hGv) (Nat.le_trans h0 hlen) h1 h2 ad2 T'.heap (locs ++ L) ls (fun j hj => (had2 j (Nat.lt_of_lt_of_le hj h0)).trans (had j hj)) (by rw [e1]; exact hP2) (hD2.weaken (fun _ _ _ z => hfree _ z)) hS2 (by rw [en_lo_l had2 hb2]; exact hl)
  obtain ⟨t2, a1, b1⟩ := K T' rfl X'
  refine ⟨t2, st t2 ?_, b1⟩
  have he : (v1.map (en_v ad2)).toList ++ rest.map (en_v ad1) = (v1.toList ++ rest).map (en_v ad2) := by
    rw [List.map_append, en_lo_vs had2 hb1]
    cases v1 <;> rfl
  rw [he]
  subst hnx
  exact a1
end SND
end
section
/-! one instruction is sound -/
theorem en_i_e {st : List Value} {f : Int32 → List Value → Prop} (h : en_i st f) : ∃ x r, st = .int x :: r ∧ f x r := by
  unfold en_i at h; split at h; exact ⟨_, _, rfl, h⟩; exact h.elim
theorem en_j_e {st : List Value} {f : Int64 → List Value → Prop} (h : en_j st f) : ∃ x r, st = .long x :: r ∧ f x r := by
  unfold en_j at h; split at h; exact ⟨_, _, rfl, h⟩; exact h.elim
theorem en_r_e {st : List Value} {f : Nat → List Value → Prop} (h : en_r st f) : ∃ x r, st = .ref x :: r ∧ f x r := by
  unfold en_r at h; split at h; exact ⟨_, _, rfl, h⟩; exact h.elim
theorem en_ii_e {st : List Value} {f : Int32 → Int32 → List Value → Prop} (h : en_ii st f) : ∃ x y r, st = .int y :: .int x :: r ∧ f x y r := by
  unfold en_ii at h; split at h; exact ⟨_, _, _, rfl, h⟩; exact h.elim
theorem en_jj_e {st : List Value} {f : Int64 → Int64 → List Value → Prop} (h : en_jj st f) : ∃ x y r, st = .long y :: .long x :: r ∧ f x y r := by
  unfold en_jj at h; split at h; exact ⟨_, _, _, rfl, h⟩; exact h.elim
theorem en_ji_e {st : List Value} {f : Int64 → Int32 → List Value → Prop} (h : en_ji st f) : ∃ x y r, st = .int y :: .long x :: r ∧ f x y r := by
  unfold en_ji at h; split at h; exact ⟨_, _, _, rfl, h⟩; exact h.elim
theorem en_ai_e {st : List Value} {f : Nat → Int32 → List Value → Prop} (h : en_ai st f) : ∃ a i r, st = .int i :: .ref a :: r ∧ f a i r := by
  unfold en_ai at h; split at h; exact ⟨_, _, _, rfl, h⟩; exact h.elim
theorem en_aii_e {st : List Value} {f : Nat → Int32 → Int32 → List Value → Prop} (h : en_aii st f) : ∃ a i x r, st = .int x :: .int i :: .ref a :: r ∧ f a i x r := by
  unfold en_aii at h; split at h; exact ⟨_, _, _, _, rfl, h⟩; exact h.elim
theorem en_aij_e {st : List Value} {f : Nat → Int32 → Int64 → List Value → Prop} (h : en_aij st f) : ∃ a i x r, st = .long x :: .int i :: .ref a :: r ∧ f a i x r := by
  unfold en_aij at h; split at h; exact ⟨_, _, _, _, rfl, h⟩; exact h.elim
theorem en_bif {b : Bool} {P : Prop} (h : bif b then P else False) : b = true ∧ P := by
  cases b with
  | true => exact ⟨rfl, h⟩
  | false => exact h.elim
theorem en_ar_e {ws : List va_E} {k a : Nat} {f : Nat → (Nat → Int32) → Prop} (h : en_ar ws k a f) : ∃ n g, ws[a]? = some (.inl (k, n, .inl g)) ∧ f n g := by
  unfold en_ar at h; split at h
  · rename_i tk n g heq
    obtain ⟨h1, h2⟩ := en_bif h
    have : tk = k := Nat.eq_of_beq_eq_true h1
    subst this
    exact ⟨_, _, heq, h2⟩
  · exact h.elim
theorem en_al_e {ws : List va_E} {a : Nat} {f : Nat → (Nat → Int64) → Prop} (h : en_al ws a f) : ∃ n g, ws[a]? = some (.inl (1, n, .inr (.inl g))) ∧ f n g := by
  unfold en_al at h; split at h
  · rename_i tk n g heq
    obtain ⟨h1, h2⟩ := en_bif h
    have : tk = 1 := Nat.eq_of_beq_eq_true h1
    subst this
    exact ⟨_, _, heq, h2⟩
  · exact h.elim
theorem en_an_e {ws : List va_E} {a : Nat} {f : Nat → Prop} (h : en_an ws a f) : ∃ tk n g, ws[a]? = some (.inl (tk, n, g)) ∧ tk < 3 ∧ f n := by
  unfold en_an at h; split at h
  · rename_i tk n g heq
    obtain ⟨h1, h2⟩ := en_bif h
    exact ⟨_, _, _, heq, Nat.le_of_ble_eq_true h1, h2⟩
  · exact h.elim
theorem en_ob_e {ws : List va_E} {ci a : Nat} {f : List Value → Prop} (h : en_ob ws ci a f) : ∃ fs, ws[a]? = some (.inr (ci, fs)) ∧ f fs := by
  unfold en_ob at h; split at h
  · rename_i c fs heq
    obtain ⟨h1, h2⟩ := en_bif h
    have : c = ci := Nat.eq_of_beq_eq_true h1
    subst this
    exact ⟨_, heq, h2⟩
  · exact h.elim
theorem en_fit_ok {ty : FieldType} {v : Value} (h : en_fit ty v = true) (ad : Nat → Nat) : narrow ty (en_v ad v) = en_v ad v ∧ fits ty (en_v ad v) = true := by
  cases ty <;> cases v <;> first | (simp [en_fit] at h; done) | exact ⟨rfl, rfl⟩
theorem en_zip1 {pc : Nat} {o : Int} {g : Nat} (h : en_zip pc [o] [g] = true) : (pc : Int) + o = (g : Int) := by
  simp only [en_zip, Bool.and_true, decide_eq_true_eq] at h
  exact h
theorem en_tyg (dT : Nat → Nat) {tk : Nat} (h : tk < 3) : ∃ ty, (en_ty dT)[tk]? = some (dT tk, ty) := by
  match tk, h with
  | 0, _ => exact ⟨_, rfl⟩
  | 1, _ => exact ⟨_, rfl⟩
  | 2, _ => exact ⟨_, rfl⟩

section SND2
variable {p : Program} {l : Launch} {e : Env} {R : Room} {s : State} {m : MethodId} {args : Array Value} {below : List Frame} {meth : Method} {c : Code} {Q : State → Prop}
variable {WD : State → Prop} {D : va_G} {cl : List vw_C} {dT : Nat → Nat} {A : Nat → Prop} {t : en_T} {own : String} {cc : ByteArray} {n0 : Nat} {ad : Nat → Nat}

/-- a call is sound -/
theorem en_call_ok (hW1 : ∀ u U : State, u.vm = U.vm → WD u → WD U) (hW2 : ∀ u U : State, u.WarmedH U.vm → WD u → WD U) (C : en_X WD D cl dT A t p l R s m args meth c own cc) {k : en_K} (hk : ∀ cs sl pc lv st ws, k cs sl pc lv st ws → en_OK D cl dT A t n0 ad p l e R s m args below meth c Q cs sl pc lv st ws)
    {x pc nx cs sl : Nat} {lv : en_L} {st : List Value} {ws : List va_E} {q : en_C} (hq : (x, q) ∈ t.2.2.2.2.1) (hnx : nx = pc + 3) (hd : (q.2.1 = 0 ∧ decode cc pc = .ok (.invokestatic x, 3)) ∨ (q.2.1 = 1 ∧ decode cc pc = .ok (.invokespecial x, 3)) ∨ (2 ≤ q.2.1 ∧ decode cc pc = .ok (.invokevirtual x, 3)))
    (h : en_call t.1.2.1 t.1.2.2 q k cs sl nx lv st ws) : en_OK D cl dT A t n0 ad p l e R s m args below meth c Q cs sl pc lv st ws := by
  intro h0 h1 h2 ad1 H locs ls had hP hD hS hl
  obtain ⟨hx, hb, hml, hown, hK, hA, hWD, hR, -, -, -, hM, -⟩ := C
  obtain ⟨y, bytes, maxL, ret, rm, na, hCT, hrc, hrs, hfr, hlo, hcode, hini, hy, hpar, hlink, hkind⟩ := hM _ hq
  obtain ⟨hb0, h⟩ := en_bif h
  simp only [Bool.and_eq_true] at hb0
  obtain ⟨⟨⟨⟨b1, b2⟩, b3⟩, b4⟩, b5⟩ := hb0
  have b1 : q.1 ≤ st.length := Nat.le_of_ble_eq_true b1
  have b3 : en_sum (st.drop q.1) ≤ 8 := Nat.le_of_ble_eq_true b3
  have hfit : cs + q.2.2.1 ≤ t.1.2.1 ∧ sl + q.2.2.2.1 ≤ t.1.2.2 ∧ q.2.2.2.2 (st.take q.1).reverse ws (fun v w => k (cs + q.2.2.1) (sl + q.2.2.2.1) nx lv (v.toList ++ st.drop q.1) w) := by
    unfold en_bf at h
    cases hz : (Nat.beq q.2.2.1 0 && Nat.beq q.2.2.2.1 0) with
    | true =>
      rw [hz] at h
      simp only [Bool.and_eq_true] at hz
      have z1 : q.2.2.1 = 0 := Nat.eq_of_beq_eq_true hz.1
      have z2 : q.2.2.2.1 = 0 := Nat.eq_of_beq_eq_true hz.2
      exact ⟨by omega, by omega, h⟩
    | false =>
      rw [hz] at h
      exact ⟨h.1.1, h.1.2, h.2⟩
  obtain ⟨f1, f2, hf⟩ := hfit
  have hMet := hCT ad1 H.size _ ws _ hf
  rw [hrc, hrs] at hMet
  have hpre : ∀ U : State, U.heap = H → s.WarmedH U.vm → en_P WD D cl dT ad1 (st.take q.1).reverse ws H.size (((st.take q.1).reverse.map (en_v ad1)).toArray) U := fun U hU hW =>
    ⟨rfl, by rw [hU], by rw [hU]; exact hP, va_K.moved hW.alike hK, hD.weaken (fun _ _ _ _ => trivial), hW2 s U hW hWD⟩
  have hsum : 2 * (F0 m pc ls (st.map (en_v ad1))).monitorRoom + (((st.drop q.1).map (en_v ad1)).map fun v => v.category).sum ≤ 8 := by
    rw [en_sum_cat]
    show 2 * 0 + _ ≤ 8
    omega
  have hcw : ∀ w ∈ [Jvm.Cond.code y bytes maxL ret], ∀ (a' : Array Value) (U : State), s.WarmedH U.vm → w.before a' U = true := by
    intro w hw a' U hW
    rw [List.mem_singleton] at hw
    subst hw
    exact word_at hW (Or.inl rfl) hcode
  have hpl : ∀ sig, parseMethodDescriptor y.desc = some sig → na = sig.parameters.length := fun sig hs => by
    rw [hs] at hpar
    simpa using hpar.symm
  have hcb : rm.cells = q.2.2.1 ∧ rm.slots = q.2.2.2.1 ∧ rm.frames + 1 ≤ R.frames ∧ 8 + (maxL + 11) + rm.locals ≤ R.locals ∧ (∀ w ∈ [Jvm.Cond.code y bytes maxL ret], ∀ (a' : Array Value) (U : State), s.WarmedH U.vm → w.before a' U = true) ∧ Jvm.Cond.code y bytes maxL ret ∈ [Jvm.Cond.code y bytes maxL ret] := ⟨hrc, hrs, hfr, hlo, hcw, List.mem_singleton.mpr rfl⟩
  have hbld : FrameBlind (en_P WD D cl dT ad1 (st.take q.1).reverse ws H.size) := en_P_blind hW1
  have hlen : ((st.take q.1).reverse.map (en_v ad1)).length = q.1 := by
    rw [List.length_map, List.length_reverse, List.length_take]
    omega
  have hst : (F0 m pc ls (st.map (en_v ad1))).stack = (((st.take q.1).reverse).map (en_v ad1)).reverse ++ (st.drop q.1).map (en_v ad1) := en_rev ad1 st q.1
  have hcr : cs + q.2.2.1 ≤ R.cells ∧ sl + q.2.2.2.1 ≤ R.slots := ⟨Nat.le_trans f1 hR.1, Nat.le_trans f2 hR.2⟩
  have S : CallFix p m c cc t.1.1 s args [] own := ⟨hx, hb, hml, hown, fun w h => by cases h⟩
  generalize hargs : (st.take q.1).reverse = av at *
  rcases hd with ⟨hkd, hd⟩ | ⟨hkd, hd⟩ | ⟨hkd, hd⟩
  · rw [hkd] at hkind
    obtain ⟨hstat, hna⟩ := hkind
    rcases hlink with hlink | ⟨host, hlink⟩
    · exact en_after (va_runS (ret := ret) (bytes := bytes) (maxL := maxL) (n := na) (rm := rm) S hMet ⟨⟨hrc, hrs, hfr, hlo, hcw, List.mem_singleton.mpr rfl, hcode, hini, hy, hpl, hlink⟩, hstat⟩ ⟨hbld, hpre⟩ rfl (by rw [hlen, hna]) hl.1 hst hsum hd hcr) hnx hA h0 had hD hS hl f1 f2 b4 b5 (fun v w z => z) hk
    · exact en_after (va_runSN (ret := ret) (bytes := bytes) (maxL := maxL) (n := na) (rm := rm) S hMet ⟨⟨hcb, hcode, hini, hy, hpl, hlink⟩, hstat, trivial⟩ ⟨hbld, hpre⟩ rfl (by rw [hlen, hna]) hl.1 hst hsum hd hcr) hnx hA h0 had hD hS hl f1 f2 b4 b5 (fun v w z => z) hk
  · rw [hkd] at hkind
    obtain ⟨hin1, hinst, hna, hret⟩ := hkind
    subst hret
    rw [hkd] at b2
    match av, hargs, b2, hlen, hst, hpre, hMet, hbld with
    | .ref b :: av, hargs, b2, hlen, hst, hpre, hMet, hbld =>
      have hna : q.1 = na + 1 := hna
      have hlen2 : (av.map (en_v ad1)).length = na := by
        simp only [List.map_cons, List.length_cons] at hlen
        omega
      have hst2 : (F0 m pc ls (st.map (en_v ad1))).stack = (av.map (en_v ad1)).reverse ++ Value.ref (ad1 b) :: (st.drop q.1).map (en_v ad1) := by
        rw [hst]
        simp only [List.map_cons, List.reverse_cons, List.append_assoc, List.singleton_append]
        rfl
      rcases hlink with hlink | ⟨host, hlink⟩
      · exact en_after (va_runI (As := av.map (en_v ad1)) (b := ad1 b) (bytes := bytes) (maxL := maxL) (n := na) (rm := rm) S hMet ⟨⟨hrc, hrs, hfr, hlo, hcw, List.mem_singleton.mpr rfl, hcode, hini, hy, hpl, hlink⟩, hin1, hinst⟩ ⟨hbld, hpre⟩ rfl hlen2 hl.1 hst2 hsum hd hcr) hnx hA h0 had hD hS hl f1 f2 b4 b5 (fun v w z => z) hk
      · exact en_after (va_runIN (As := av.map (en_v ad1)) (b := ad1 b) (bytes := bytes) (maxL := maxL) (n := na) (rm := rm) S hMet ⟨⟨hcb, hcode, hini, hy, hpl, hlink⟩, hin1, hinst⟩ ⟨hbld, hpre⟩ rfl hlen2 hl.1 hst2 hsum hd hcr) hnx hA h0 had hD hS hl f1 f2 b4 b5 (fun v w z => z) hk
  · obtain ⟨ci, hci⟩ : ∃ ci, q.2.1 = ci + 2 := ⟨q.2.1 - 2, by omega⟩
    rw [hci] at hkind b2
    obtain ⟨C, T, N, hcl, hinst, hsel, hna⟩ := hkind
    match av, hargs, b2, hlen, hst, hpre, hMet, hbld with
    | .ref b :: av, hargs, b2, hlen, hst, hpre, hMet, hbld =>
      have hrec : ∃ fs, ws[b]? = some (.inr (ci, fs)) := by
        simp only [en_rcv] at b2
        split at b2
        · rename_i c1 fs heq
          have : c1 = ci := Nat.eq_of_beq_eq_true b2
          subst this
          exact ⟨fs, heq⟩
        · cases b2
      obtain ⟨fs, hfs⟩ := hrec
      have hcell := va_recv (q0 := b) hK hP hcl (en_w_some hfs)
      have hna : q.1 = na + 1 := hna
      have hlen2 : (av.map (en_v ad1)).length = na := by
        simp only [List.map_cons, List.length_cons] at hlen
        omega
      have hst2 : (F0 m pc ls (st.map (en_v ad1))).stack = (av.map (en_v ad1)).reverse ++ Value.ref (ad1 b) :: (st.drop q.1).map (en_v ad1) := by
        rw [hst]
        simp only [List.map_cons, List.reverse_cons, List.append_assoc, List.singleton_append]
        rfl
      rcases hlink with hlink | ⟨host, hlink⟩
      · exact en_after (va_runV (As := av.map (en_v ad1)) (b := ad1 b) (C := C) (ret := ret) (bytes := bytes) (maxL := maxL) (n := na) (rm := rm) S hMet ⟨⟨hrc, hrs, hfr, hlo, hcw, List.mem_singleton.mpr rfl, hcode, hini, hy, hpl, hlink⟩, hinst, hsel⟩ ⟨hbld, hcell, hpre⟩ rfl hlen2 hl.1 hst2 hsum hd hcr) hnx hA h0 had hD hS hl f1 f2 b4 b5 (fun v w z => z) hk
      · exact en_after (va_runVN (As := av.map (en_v ad1)) (b := ad1 b) (C := C) (ret := ret) (bytes := bytes) (maxL := maxL) (n := na) (rm := rm) S hMet ⟨⟨hcb, hcode, hini, hy, hpl, hlink⟩, hinst, hsel⟩ ⟨hbld, hcell, hpre⟩ rfl hlen2 hl.1 hst2 hsum hd hcr) hnx hA h0 had hD hS hl f1 f2 b4 b5 (fun v w z => z) hk

end SND2
end
section
section SND3
variable {p : Program} {l : Launch} {e : Env} {R : Room} {s : State} {m : MethodId} {args : Array Value} {below : List Frame} {meth : Method} {c : Code} {Q : State → Prop}
variable {WD : State → Prop} {D : va_G} {cl : List vw_C} {dT : Nat → Nat} {A : Nat → Prop} {t : en_T} {own : String} {cc : ByteArray} {n0 : Nat} {ad : Nat → Nat}
/-- what a method's end must give -/
def en_R (D : va_G) (cl : List vw_C) (dT : Nat → Nat) (A : Nat → Prop) (t : en_T) (n0 : Nat) (ad : Nat → Nat) (p : Program) (l : Launch) (e : Env) (R : Room) (s : State) (m : MethodId) (args : Array Value) (below : List Frame) (meth : Method) (c : Code) (Q : State → Prop) (G : Option Value → List va_E → Prop) (cc : ByteArray) : Prop :=
  ∀ (v : Option Value) (ws : List va_E) (i : Instr) (pc cs sl : Nat), G v ws → decode cc pc = .ok (i, 1) → ((∃ x, i = .ireturn ∧ v = some (.int x) ∧ (t.2.2.2.2.2.2.2 = some .int ∨ (t.2.2.2.2.2.2.2 = some .boolean ∧ narrow .boolean (.int x) = .int x))) ∨ (i = .return_ ∧ v = none ∧ t.2.2.2.2.2.2.2 = none)) →
    n0 ≤ ws.length → cs ≤ t.1.2.1 → sl ≤ t.1.2.2 → ∀ (ad1 : Nat → Nat) (H : Heap) (locs : List Loc) (ls : Array Slot), (∀ k, k < n0 → ad1 k = ad k) → va_P D cl (en_w ad1 dT ws) H → va_D A (en_w ad1 dT ws) → va_S A s.heap H locs → W p l e R s m args below meth c H locs cs sl Q (F0 m pc ls ((v.map (en_v ad1)).toList))
theorem en_sw_ok {pc : Nat} {x : Int32} {k : Nat → Prop} : ∀ (gs : List Nat) (os : List Int) (v : Int), en_zip pc os gs = true → en_sw x k v gs → ∀ j : Nat, x.toInt = v + j → j < os.length → ∃ off g, os[j]? = some off ∧ (pc : Int) + off = ((g : Nat) : Int) ∧ k g
  | [], os, v, h1, h2, j, hj, hl => by
    cases os with
    | nil => simp at hl
    | cons o os => simp [en_zip] at h1
  | g :: gs, os, v, h1, h2, j, hj, hl => by
    cases os with
    | nil => simp at hl
    | cons o os =>
      simp only [en_zip, Bool.and_eq_true, decide_eq_true_eq] at h1
      cases j with
      | zero => exact ⟨o, g, rfl, h1.1, h2.1 (by omega)⟩
      | succ j =>
        obtain ⟨off, g2, e1, e2, e3⟩ := en_sw_ok gs os (v + 1) h1.2 h2.2 j (by omega) (by simpa using hl)
        exact ⟨off, g2, by rw [List.getElem?_cons_succ]; exact e1, e2, e3⟩
theorem en_newa_ok (hx : p.tables.exec = Jvm.exec) (hb : c.code = cc) {atype : ArrayType} {ty : FieldType} (harr : (Jvm.Cond.arrayClass ty).before args s = true) (hty : newarray.typeOf atype = ty) (hK : va_K D cl (en_ty dT) s) (hA : ∀ q, s.heap.size ≤ q → A q) (hR : t.1.2.1 ≤ R.cells ∧ t.1.2.2 ≤ R.slots)
    {ki : Nat} (hki : (en_ty dT)[ki]? = some (dT ki, ty)) (hpr : ∀ cA, va_RA s cA ty = (s.vm.findClass ("[" ++ ty.toString) = some cA)) {n : Int32} {a0 : Nat → vp_A} (ha : ∀ cA : ClassId, vp_cell cA (a0 n.toNatClampNeg) = arrV cA n.toNatClampNeg (fun _ => defaultValue ty)) (hn : ¬ n < 0) (hle : n.toNatClampNeg ≤ 1000000) {cs sl pc : Nat} (hc1 : cs + 1 ≤ t.1.2.1) (hc2 : sl + n.toNatClampNeg ≤ t.1.2.2) (hby : componentBytes ty ≤ 8) (hd : decode cc pc = .ok (.newarray atype, 2))
    {lv : en_L} {r : List Value} {ws : List va_E} (j1 : en_los ws.length r = true) (j2 : en_loL ws.length lv = true) (j3 : en_loW ws.length ws = true)
    (K : en_OK D cl dT A t n0 ad p l e R s m args below meth c Q (cs + 1) (sl + n.toNatClampNeg) (pc + 2) lv (.ref ws.length :: r) (ws ++ [.inl (ki, a0 n.toNatClampNeg)])) : en_OK D cl dT A t n0 ad p l e R s m args below meth c Q cs sl pc lv (.int n :: r) ws := by
  intro h0 h1 h2 ad1 H locs ls had hP hD hS hl
  subst hty
  refine va_newa (a0 := a0 n.toNatClampNeg) hx hb harr rfl hK hP hD hS hA ha hn rfl (Nat.le_trans (Nat.mul_le_mul hle hby) (by decide)) (Nat.le_trans hc1 hR.1) (Nat.le_trans hc2 hR.2) hd (fun q cA H1 hK1 hP1 hD1 hS1 => ?_)
  have hcA : cA = dT ki := by
    have z1 := (hK1.2 3 (cA, newarray.typeOf atype) rfl).2
    have z2 := (hK.2 ki _ hki).2
    rw [hpr] at z1 z2
    exact Option.some.inj (z1.symm.trans z2)
  subst hcA
  have hpu := en_w_push (ad := ad1) (dT := dT) (ws := ws) (x := .inl (ki, a0 n.toNatClampNeg)) q j3 rfl
  have hag : ∀ k, k < ws.length → (fun k => if k = ws.length then q else ad1 k) k = ad1 k := fun k hk => by
    show (if k = ws.length then q else ad1 k) = ad1 k
    rw [if_neg (by omega)]
  have K2 := K (by rw [List.length_append]; exact Nat.le_trans h0 (Nat.le_add_right _ _)) hc1 hc2 (fun k => if k = ws.length then q else ad1 k) H1 locs ls (fun k hk => (hag k (Nat.lt_of_lt_of_le hk h0)).trans (had k hk)) (by rw [hpu]; exact hP1) (by rw [hpu]; exact hD1) hS1 (by rw [en_lo_l hag j2]; exact hl)
  have hst : (Value.ref ws.length :: r).map (en_v (fun k => if k = ws.length then q else ad1 k)) = Value.ref q :: r.map (en_v ad1) := by
    rw [List.map_cons, en_lo_vs hag j1]
    show Value.ref (if ws.length = ws.length then q else ad1 ws.length) :: _ = _
    rw [if_pos rfl]
  rw [hst] at K2
  exact K2
set_option maxHeartbeats 8000000 in
set_option maxRecDepth 100000 in
theorem en_st_ok (hW1 : ∀ u U : State, u.vm = U.vm → WD u → WD U) (hW2 : ∀ u U : State, u.WarmedH U.vm → WD u → WD U) (C : en_X WD D cl dT A t p l R s m args meth c own cc) {G : Option Value → List va_E → Prop} (hret : en_R D cl dT A t n0 ad p l e R s m args below meth c Q G cc) {k : en_K} (hk : ∀ cs sl pc lv st ws, k cs sl pc lv st ws → en_OK D cl dT A t n0 ad p l e R s m args below meth c Q cs sl pc lv st ws)
    {cs sl pc : Nat} {lv : en_L} {st : List Value} {ws : List va_E} (h : en_st t G k cs sl pc lv st ws) : en_OK D cl dT A t n0 ad p l e R s m args below meth c Q cs sl pc lv st ws := by
  have C' := C
  obtain ⟨hx, hb, hml, hown, hK, hA, hWD, hR, hT, hF, hCn, hM, hN, hO, hAr⟩ := C
  unfold en_st at h
  cases hlk : en_lk t.2.1 pc with
  | none => rw [hlk] at h; exact h.elim
  | some q =>
  obtain ⟨i, nx, tg⟩ := q
  rw [hlk] at h
  obtain ⟨hd, hck⟩ := hT _ (en_lk_mem hlk)
  dsimp only at hd h
  cases i with
  | iconst n =>
    have hn : nx = pc + 1 := Nat.eq_of_beq_eq_true hck
    subst hn
    rw [Nat.add_sub_cancel_left] at hd
    intro h0 h1 h2 ad1 H locs ls had hP hD hS hl
    exact lv_iconst hx hb hd rfl (hk _ _ _ _ _ _ h h0 h1 h2 ad1 H locs ls had hP hD hS hl)
  | bipush n =>
    have hn : nx = pc + 2 := Nat.eq_of_beq_eq_true hck
    subst hn
    rw [Nat.add_sub_cancel_left] at hd
    intro h0 h1 h2 ad1 H locs ls had hP hD hS hl
    exact lv_bipush hx hb hd rfl (hk _ _ _ _ _ _ h h0 h1 h2 ad1 H locs ls had hP hD hS hl)
  | sipush n =>
    have hn : nx = pc + 3 := Nat.eq_of_beq_eq_true hck
    subst hn
    rw [Nat.add_sub_cancel_left] at hd
    intro h0 h1 h2 ad1 H locs ls had hP hD hS hl
    exact lv_sipush hx hb hd rfl (hk _ _ _ _ _ _ h h0 h1 h2 ad1 H locs ls had hP hD hS hl)
  | lconst n =>
    have hn : nx = pc + 1 := Nat.eq_of_beq_eq_true hck
    subst hn
    rw [Nat.add_sub_cancel_left] at hd
    intro h0 h1 h2 ad1 H locs ls had hP hD hS hl
    exact lv_lconst hx hb hd rfl (hk _ _ _ _ _ _ h h0 h1 h2 ad1 H locs ls had hP hD hS hl)
  | ldc x =>
    have hn : nx = pc + 2 := Nat.eq_of_beq_eq_true hck
    subst hn
    rw [Nat.add_sub_cancel_left] at hd
    dsimp only at h
    split at h
    · rename_i v heq
      have hc := hCn _ (en_lk_mem heq)
      intro h0 h1 h2 ad1 H locs ls had hP hD hS hl
      exact lv_ldc hx hb hown hc hd (hk _ _ _ _ _ _ h h0 h1 h2 ad1 H locs ls had hP hD hS hl)
    · exact h.elim
  | ldc2_w x =>
    have hn : nx = pc + 3 := Nat.eq_of_beq_eq_true hck
    subst hn
    rw [Nat.add_sub_cancel_left] at hd
    dsimp only at h
    split at h
    · rename_i v heq
      have hc := hCn _ (en_lk_mem heq)
      intro h0 h1 h2 ad1 H locs ls had hP hD hS hl
      exact lv_ldc2 hx hb hown hc hd (hk _ _ _ _ _ _ h h0 h1 h2 ad1 H locs ls had hP hD hS hl)
    · exact h.elim
  | iload j =>
    have hn : nx = pc + 2 := Nat.eq_of_beq_eq_true hck
    subst hn
    rw [Nat.add_sub_cancel_left] at hd
    dsimp only at h
    split at h
    · rename_i v heq
      intro h0 h1 h2 ad1 H locs ls had hP hD hS hl
      exact lv_iload hx hb hd (en_at hl heq) (hk _ _ _ _ _ _ h h0 h1 h2 ad1 H locs ls had hP hD hS hl)
    · exact h.elim
  | iload_n j =>
    have hn : nx = pc + 1 := Nat.eq_of_beq_eq_true hck
    subst hn
    rw [Nat.add_sub_cancel_left] at hd
    dsimp only at h
    split at h
    · rename_i v heq
      intro h0 h1 h2 ad1 H locs ls had hP hD hS hl
      exact lv_iload_n hx hb hd rfl (en_at hl heq) (hk _ _ _ _ _ _ h h0 h1 h2 ad1 H locs ls had hP hD hS hl)
    · exact h.elim
  | lload j =>
    have hn : nx = pc + 2 := Nat.eq_of_beq_eq_true hck
    subst hn
    rw [Nat.add_sub_cancel_left] at hd
    dsimp only at h
    split at h
    · rename_i v heq
      intro h0 h1 h2 ad1 H locs ls had hP hD hS hl
      exact lv_lload hx hb hd (en_at hl heq) (hk _ _ _ _ _ _ h h0 h1 h2 ad1 H locs ls had hP hD hS hl)
    · exact h.elim
  | lload_n j =>
    have hn : nx = pc + 1 := Nat.eq_of_beq_eq_true hck
    subst hn
    rw [Nat.add_sub_cancel_left] at hd
    dsimp only at h
    split at h
    · rename_i v heq
      intro h0 h1 h2 ad1 H locs ls had hP hD hS hl
      exact lv_lload_n hx hb hd rfl (en_at hl heq) (hk _ _ _ _ _ _ h h0 h1 h2 ad1 H locs ls had hP hD hS hl)
    · exact h.elim
  | aload j =>
    have hn : nx = pc + 2 := Nat.eq_of_beq_eq_true hck
    subst hn
    rw [Nat.add_sub_cancel_left] at hd
    dsimp only at h
    split at h
    · rename_i v heq
      intro h0 h1 h2 ad1 H locs ls had hP hD hS hl
      exact lv_aload hx hb hd (en_at hl heq) (hk _ _ _ _ _ _ h h0 h1 h2 ad1 H locs ls had hP hD hS hl)
    · exact h.elim
  | aload_n j =>
    have hn : nx = pc + 1 := Nat.eq_of_beq_eq_true hck
    subst hn
    rw [Nat.add_sub_cancel_left] at hd
    dsimp only at h
    split at h
    · rename_i v heq
      intro h0 h1 h2 ad1 H locs ls had hP hD hS hl
      exact lv_aload_n hx hb hd rfl (en_at hl heq) (hk _ _ _ _ _ _ h h0 h1 h2 ad1 H locs ls had hP hD hS hl)
    · exact h.elim
  | istore j =>
    have hn : nx = pc + 2 := Nat.eq_of_beq_eq_true hck
    subst hn
    rw [Nat.add_sub_cancel_left] at hd
    obtain ⟨x, r, rfl, h⟩ := en_i_e h
    obtain ⟨hj, h⟩ := en_bif h
    intro h0 h1 h2 ad1 H locs ls had hP hD hS hl
    exact lv_istore hx hb hd hl (Nat.le_of_ble_eq_true hj) rfl (fun ls hl => hk _ _ _ _ _ _ h h0 h1 h2 ad1 H locs ls had hP hD hS (en_put1 hl))
  | istore_n j =>
    have hn : nx = pc + 1 := Nat.eq_of_beq_eq_true hck
    subst hn
    rw [Nat.add_sub_cancel_left] at hd
    obtain ⟨x, r, rfl, h⟩ := en_i_e h
    obtain ⟨hj, h⟩ := en_bif h
    intro h0 h1 h2 ad1 H locs ls had hP hD hS hl
    exact lv_istore_n hx hb hd rfl hl (Nat.le_of_ble_eq_true hj) rfl (fun ls hl => hk _ _ _ _ _ _ h h0 h1 h2 ad1 H locs ls had hP hD hS (en_put1 hl))
  | lstore j =>
    have hn : nx = pc + 2 := Nat.eq_of_beq_eq_true hck
    subst hn
    rw [Nat.add_sub_cancel_left] at hd
    obtain ⟨x, r, rfl, h⟩ := en_j_e h
    obtain ⟨hj, h⟩ := en_bif h
    intro h0 h1 h2 ad1 H locs ls had hP hD hS hl
    exact lv_lstore hx hb hd hl (Nat.le_of_ble_eq_true hj) rfl (fun ls hl => hk _ _ _ _ _ _ h h0 h1 h2 ad1 H locs ls had hP hD hS (en_put2 hl))
  | lstore_n j =>
    have hn : nx = pc + 1 := Nat.eq_of_beq_eq_true hck
    subst hn
    rw [Nat.add_sub_cancel_left] at hd
    obtain ⟨x, r, rfl, h⟩ := en_j_e h
    obtain ⟨hj, h⟩ := en_bif h
    intro h0 h1 h2 ad1 H locs ls had hP hD hS hl
    exact lv_lstore_n hx hb hd rfl hl (Nat.le_of_ble_eq_true hj) rfl (fun ls hl => hk _ _ _ _ _ _ h h0 h1 h2 ad1 H locs ls had hP hD hS (en_put2 hl))
  | astore j =>
    have hn : nx = pc + 2 := Nat.eq_of_beq_eq_true hck
    subst hn
    rw [Nat.add_sub_cancel_left] at hd
    obtain ⟨x, r, rfl, h⟩ := en_r_e h
    obtain ⟨hj, h⟩ := en_bif h
    intro h0 h1 h2 ad1 H locs ls had hP hD hS hl
    exact lv_astore hx hb hd hl (Nat.le_of_ble_eq_true hj) rfl (fun ls hl => hk _ _ _ _ _ _ h h0 h1 h2 ad1 H locs ls had hP hD hS (en_put1 hl))
  | astore_n j =>
    have hn : nx = pc + 1 := Nat.eq_of_beq_eq_true hck
    subst hn
    rw [Nat.add_sub_cancel_left] at hd
    obtain ⟨x, r, rfl, h⟩ := en_r_e h
    obtain ⟨hj, h⟩ := en_bif h
    intro h0 h1 h2 ad1 H locs ls had hP hD hS hl
    exact lv_astore_n hx hb hd rfl hl (Nat.le_of_ble_eq_true hj) rfl (fun ls hl => hk _ _ _ _ _ _ h h0 h1 h2 ad1 H locs ls had hP hD hS (en_put1 hl))
  | iinc j n =>
    have hn : nx = pc + 3 := Nat.eq_of_beq_eq_true hck
    subst hn
    rw [Nat.add_sub_cancel_left] at hd
    dsimp only at h
    split at h
    · rename_i v heq
      obtain ⟨hj, h⟩ := en_bif h
      intro h0 h1 h2 ad1 H locs ls had hP hD hS hl
      obtain ⟨kk, hkk⟩ := List.getElem?_of_mem (List.mem_map.mpr ⟨(j, Value.int v), en_get_mem heq, rfl⟩ : (j, Value.int v) ∈ en_l ad1 lv)
      exact lv_iinc hx hb hd hl hkk rfl (Nat.le_of_ble_eq_true hj) rfl (fun ls hl => hk _ _ _ _ _ _ h h0 h1 h2 ad1 H locs ls had hP hD hS (en_put1 (v := .int (v + Int32.ofInt n)) hl))
    · exact h.elim
  | iadd =>
    have hn : nx = pc + 1 := Nat.eq_of_beq_eq_true hck
    subst hn
    rw [Nat.add_sub_cancel_left] at hd
    obtain ⟨x, y, r, rfl, h⟩ := en_ii_e h
    intro h0 h1 h2 ad1 H locs ls had hP hD hS hl
    exact lv_iadd hx hb hd (hk _ _ _ _ _ _ h h0 h1 h2 ad1 H locs ls had hP hD hS hl)
  | isub =>
    have hn : nx = pc + 1 := Nat.eq_of_beq_eq_true hck
    subst hn
    rw [Nat.add_sub_cancel_left] at hd
    obtain ⟨x, y, r, rfl, h⟩ := en_ii_e h
    intro h0 h1 h2 ad1 H locs ls had hP hD hS hl
    exact lv_isub hx hb hd (hk _ _ _ _ _ _ h h0 h1 h2 ad1 H locs ls had hP hD hS hl)
  | imul =>
    have hn : nx = pc + 1 := Nat.eq_of_beq_eq_true hck
    subst hn
    rw [Nat.add_sub_cancel_left] at hd
    obtain ⟨x, y, r, rfl, h⟩ := en_ii_e h
    intro h0 h1 h2 ad1 H locs ls had hP hD hS hl
    exact lv_imul hx hb hd (hk _ _ _ _ _ _ h h0 h1 h2 ad1 H locs ls had hP hD hS hl)
  | iand =>
    have hn : nx = pc + 1 := Nat.eq_of_beq_eq_true hck
    subst hn
    rw [Nat.add_sub_cancel_left] at hd
    obtain ⟨x, y, r, rfl, h⟩ := en_ii_e h
    intro h0 h1 h2 ad1 H locs ls had hP hD hS hl
    exact lv_iand hx hb hd (hk _ _ _ _ _ _ h h0 h1 h2 ad1 H locs ls had hP hD hS hl)
  | ior =>
    have hn : nx = pc + 1 := Nat.eq_of_beq_eq_true hck
    subst hn
    rw [Nat.add_sub_cancel_left] at hd
    obtain ⟨x, y, r, rfl, h⟩ := en_ii_e h
    intro h0 h1 h2 ad1 H locs ls had hP hD hS hl
    exact lv_ior hx hb hd (hk _ _ _ _ _ _ h h0 h1 h2 ad1 H locs ls had hP hD hS hl)
  | ixor =>
    have hn : nx = pc + 1 := Nat.eq_of_beq_eq_true hck
    subst hn
    rw [Nat.add_sub_cancel_left] at hd
    obtain ⟨x, y, r, rfl, h⟩ := en_ii_e h
    intro h0 h1 h2 ad1 H locs ls had hP hD hS hl
    exact lv_ixor hx hb hd (hk _ _ _ _ _ _ h h0 h1 h2 ad1 H locs ls had hP hD hS hl)
  | ishl =>
    have hn : nx = pc + 1 := Nat.eq_of_beq_eq_true hck
    subst hn
    rw [Nat.add_sub_cancel_left] at hd
    obtain ⟨x, y, r, rfl, h⟩ := en_ii_e h
    intro h0 h1 h2 ad1 H locs ls had hP hD hS hl
    exact lv_ishl hx hb hd (hk _ _ _ _ _ _ h h0 h1 h2 ad1 H locs ls had hP hD hS hl)
  | ishr =>
    have hn : nx = pc + 1 := Nat.eq_of_beq_eq_true hck
    subst hn
    rw [Nat.add_sub_cancel_left] at hd
    obtain ⟨x, y, r, rfl, h⟩ := en_ii_e h
    intro h0 h1 h2 ad1 H locs ls had hP hD hS hl
    exact lv_ishr hx hb hd (hk _ _ _ _ _ _ h h0 h1 h2 ad1 H locs ls had hP hD hS hl)
  | idiv =>
    have hn : nx = pc + 1 := Nat.eq_of_beq_eq_true hck
    subst hn
    rw [Nat.add_sub_cancel_left] at hd
    obtain ⟨x, y, r, rfl, hne, h⟩ := en_ii_e h
    intro h0 h1 h2 ad1 H locs ls had hP hD hS hl
    exact lv_idiv hx hb hd hne (hk _ _ _ _ _ _ h h0 h1 h2 ad1 H locs ls had hP hD hS hl)
  | irem =>
    have hn : nx = pc + 1 := Nat.eq_of_beq_eq_true hck
    subst hn
    rw [Nat.add_sub_cancel_left] at hd
    obtain ⟨x, y, r, rfl, hne, h⟩ := en_ii_e h
    intro h0 h1 h2 ad1 H locs ls had hP hD hS hl
    exact lv_irem hx hb hd hne (hk _ _ _ _ _ _ h h0 h1 h2 ad1 H locs ls had hP hD hS hl)
  | ineg =>
    have hn : nx = pc + 1 := Nat.eq_of_beq_eq_true hck
    subst hn
    rw [Nat.add_sub_cancel_left] at hd
    obtain ⟨x, r, rfl, h⟩ := en_i_e h
    intro h0 h1 h2 ad1 H locs ls had hP hD hS hl
    exact lv_ineg hx hb hd (hk _ _ _ _ _ _ h h0 h1 h2 ad1 H locs ls had hP hD hS hl)
  | ladd =>
    have hn : nx = pc + 1 := Nat.eq_of_beq_eq_true hck
    subst hn
    rw [Nat.add_sub_cancel_left] at hd
    obtain ⟨x, y, r, rfl, h⟩ := en_jj_e h
    intro h0 h1 h2 ad1 H locs ls had hP hD hS hl
    exact lv_ladd hx hb hd (hk _ _ _ _ _ _ h h0 h1 h2 ad1 H locs ls had hP hD hS hl)
  | lsub =>
    have hn : nx = pc + 1 := Nat.eq_of_beq_eq_true hck
    subst hn
    rw [Nat.add_sub_cancel_left] at hd
    obtain ⟨x, y, r, rfl, h⟩ := en_jj_e h
    intro h0 h1 h2 ad1 H locs ls had hP hD hS hl
    exact lv_lsub hx hb hd (hk _ _ _ _ _ _ h h0 h1 h2 ad1 H locs ls had hP hD hS hl)
  | lmul =>
    have hn : nx = pc + 1 := Nat.eq_of_beq_eq_true hck
    subst hn
    rw [Nat.add_sub_cancel_left] at hd
    obtain ⟨x, y, r, rfl, h⟩ := en_jj_e h
    intro h0 h1 h2 ad1 H locs ls had hP hD hS hl
    exact lv_lmul hx hb hd (hk _ _ _ _ _ _ h h0 h1 h2 ad1 H locs ls had hP hD hS hl)
  | land =>
    have hn : nx = pc + 1 := Nat.eq_of_beq_eq_true hck
    subst hn
    rw [Nat.add_sub_cancel_left] at hd
    obtain ⟨x, y, r, rfl, h⟩ := en_jj_e h
    intro h0 h1 h2 ad1 H locs ls had hP hD hS hl
    exact lv_land hx hb hd (hk _ _ _ _ _ _ h h0 h1 h2 ad1 H locs ls had hP hD hS hl)
  | lor =>
    have hn : nx = pc + 1 := Nat.eq_of_beq_eq_true hck
    subst hn
    rw [Nat.add_sub_cancel_left] at hd
    obtain ⟨x, y, r, rfl, h⟩ := en_jj_e h
    intro h0 h1 h2 ad1 H locs ls had hP hD hS hl
    exact lv_lor hx hb hd (hk _ _ _ _ _ _ h h0 h1 h2 ad1 H locs ls had hP hD hS hl)
  | lxor =>
    have hn : nx = pc + 1 := Nat.eq_of_beq_eq_true hck
    subst hn
    rw [Nat.add_sub_cancel_left] at hd
    obtain ⟨x, y, r, rfl, h⟩ := en_jj_e h
    intro h0 h1 h2 ad1 H locs ls had hP hD hS hl
    exact lv_lxor hx hb hd (hk _ _ _ _ _ _ h h0 h1 h2 ad1 H locs ls had hP hD hS hl)
  | ldiv =>
    have hn : nx = pc + 1 := Nat.eq_of_beq_eq_true hck
    subst hn
    rw [Nat.add_sub_cancel_left] at hd
    obtain ⟨x, y, r, rfl, hne, h⟩ := en_jj_e h
    intro h0 h1 h2 ad1 H locs ls had hP hD hS hl
    exact lv_ldiv hx hb hd hne (hk _ _ _ _ _ _ h h0 h1 h2 ad1 H locs ls had hP hD hS hl)
  | lrem =>
    have hn : nx = pc + 1 := Nat.eq_of_beq_eq_true hck
    subst hn
    rw [Nat.add_sub_cancel_left] at hd
    obtain ⟨x, y, r, rfl, hne, h⟩ := en_jj_e h
    intro h0 h1 h2 ad1 H locs ls had hP hD hS hl
    exact lv_lrem hx hb hd hne (hk _ _ _ _ _ _ h h0 h1 h2 ad1 H locs ls had hP hD hS hl)
  | lushr =>
    have hn : nx = pc + 1 := Nat.eq_of_beq_eq_true hck
    subst hn
    rw [Nat.add_sub_cancel_left] at hd
    obtain ⟨x, y, r, rfl, h⟩ := en_ji_e h
    intro h0 h1 h2 ad1 H locs ls had hP hD hS hl
    exact lv_lushr hx hb hd rfl (hk _ _ _ _ _ _ h h0 h1 h2 ad1 H locs ls had hP hD hS hl)
  | lshl =>
    have hn : nx = pc + 1 := Nat.eq_of_beq_eq_true hck
    subst hn
    rw [Nat.add_sub_cancel_left] at hd
    obtain ⟨x, y, r, rfl, h⟩ := en_ji_e h
    intro h0 h1 h2 ad1 H locs ls had hP hD hS hl
    exact lv_lshl hx hb hd rfl (hk _ _ _ _ _ _ h h0 h1 h2 ad1 H locs ls had hP hD hS hl)
  | lshr =>
    have hn : nx = pc + 1 := Nat.eq_of_beq_eq_true hck
    subst hn
    rw [Nat.add_sub_cancel_left] at hd
    obtain ⟨x, y, r, rfl, h⟩ := en_ji_e h
    intro h0 h1 h2 ad1 H locs ls had hP hD hS hl
    exact lv_lshr hx hb hd rfl (hk _ _ _ _ _ _ h h0 h1 h2 ad1 H locs ls had hP hD hS hl)
  | lcmp =>
    have hn : nx = pc + 1 := Nat.eq_of_beq_eq_true hck
    subst hn
    rw [Nat.add_sub_cancel_left] at hd
    obtain ⟨x, y, r, rfl, h⟩ := en_jj_e h
    intro h0 h1 h2 ad1 H locs ls had hP hD hS hl
    exact W.lcmp hx hb hd (hk _ _ _ _ _ _ h h0 h1 h2 ad1 H locs ls had hP hD hS hl)
  | i2l =>
    have hn : nx = pc + 1 := Nat.eq_of_beq_eq_true hck
    subst hn
    rw [Nat.add_sub_cancel_left] at hd
    obtain ⟨x, r, rfl, h⟩ := en_i_e h
    intro h0 h1 h2 ad1 H locs ls had hP hD hS hl
    exact lv_i2l hx hb hd rfl (hk _ _ _ _ _ _ h h0 h1 h2 ad1 H locs ls had hP hD hS hl)
  | l2i =>
    have hn : nx = pc + 1 := Nat.eq_of_beq_eq_true hck
    subst hn
    rw [Nat.add_sub_cancel_left] at hd
    obtain ⟨x, r, rfl, h⟩ := en_j_e h
    intro h0 h1 h2 ad1 H locs ls had hP hD hS hl
    exact lv_l2i hx hb hd rfl (hk _ _ _ _ _ _ h h0 h1 h2 ad1 H locs ls had hP hD hS hl)
  | dup =>
    have hn : nx = pc + 1 := Nat.eq_of_beq_eq_true hck
    subst hn
    rw [Nat.add_sub_cancel_left] at hd
    dsimp only at h
    split at h
    · obtain ⟨hj, h⟩ := en_bif h
      intro h0 h1 h2 ad1 H locs ls had hP hD hS hl
      exact lv_dup hx hb hd ((en_v_cat ad1 _).trans (Nat.eq_of_beq_eq_true hj)) (hk _ _ _ _ _ _ h h0 h1 h2 ad1 H locs ls had hP hD hS hl)
    · exact h.elim
  | pop =>
    have hn : nx = pc + 1 := Nat.eq_of_beq_eq_true hck
    subst hn
    rw [Nat.add_sub_cancel_left] at hd
    dsimp only at h
    split at h
    · obtain ⟨hj, h⟩ := en_bif h
      intro h0 h1 h2 ad1 H locs ls had hP hD hS hl
      exact lv_pop hx hb hd ((en_v_cat ad1 _).trans (Nat.eq_of_beq_eq_true hj)) (hk _ _ _ _ _ _ h h0 h1 h2 ad1 H locs ls had hP hD hS hl)
    · exact h.elim
  | dup_x1 =>
    have hn : nx = pc + 1 := Nat.eq_of_beq_eq_true hck
    subst hn
    rw [Nat.add_sub_cancel_left] at hd
    dsimp only at h
    split at h
    · obtain ⟨hj, h⟩ := en_bif h
      simp only [Bool.and_eq_true] at hj
      intro h0 h1 h2 ad1 H locs ls had hP hD hS hl
      exact lv_dup_x1 hx hb hd ((en_v_cat ad1 _).trans (Nat.eq_of_beq_eq_true hj.1)) ((en_v_cat ad1 _).trans (Nat.eq_of_beq_eq_true hj.2)) (hk _ _ _ _ _ _ h h0 h1 h2 ad1 H locs ls had hP hD hS hl)
    · exact h.elim
  | dup_x2 =>
    have hn : nx = pc + 1 := Nat.eq_of_beq_eq_true hck
    subst hn
    rw [Nat.add_sub_cancel_left] at hd
    dsimp only at h
    split at h
    · obtain ⟨hj, h⟩ := en_bif h
      simp only [Bool.and_eq_true] at hj
      intro h0 h1 h2 ad1 H locs ls had hP hD hS hl
      exact lv_dup_x2 hx hb hd ((en_v_cat ad1 _).trans (Nat.eq_of_beq_eq_true hj.1.1)) ((en_v_cat ad1 _).trans (Nat.eq_of_beq_eq_true hj.1.2)) ((en_v_cat ad1 _).trans (Nat.eq_of_beq_eq_true hj.2)) (hk _ _ _ _ _ _ h h0 h1 h2 ad1 H locs ls had hP hD hS hl)
    · exact h.elim
  | dup2 =>
    have hn : nx = pc + 1 := Nat.eq_of_beq_eq_true hck
    subst hn
    rw [Nat.add_sub_cancel_left] at hd
    dsimp only at h
    split at h
    · rename_i v r
      cases h2c : Nat.beq v.category 2 with
      | true =>
        rw [h2c] at h
        intro h0 h1 h2 ad1 H locs ls had hP hD hS hl
        exact lv_dup2_2 hx hb hd ((en_v_cat ad1 v).trans (Nat.eq_of_beq_eq_true h2c)) (hk _ _ _ _ _ _ h h0 h1 h2 ad1 H locs ls had hP hD hS hl)
      | false =>
        rw [h2c] at h
        simp only [cond_false] at h
        split at h
        · obtain ⟨hj, h⟩ := en_bif h
          simp only [Bool.and_eq_true] at hj
          intro h0 h1 h2 ad1 H locs ls had hP hD hS hl
          exact lv_dup2_11 hx hb hd ((en_v_cat ad1 _).trans (Nat.eq_of_beq_eq_true hj.1)) ((en_v_cat ad1 _).trans (Nat.eq_of_beq_eq_true hj.2)) (hk _ _ _ _ _ _ h h0 h1 h2 ad1 H locs ls had hP hD hS hl)
        · exact h.elim
    · exact h.elim
  | goto o =>
    have hck2 : (Nat.beq nx (pc + 3) && en_zip pc [o] tg) = true := hck
    simp only [Bool.and_eq_true] at hck2
    have hn : nx = pc + 3 := Nat.eq_of_beq_eq_true hck2.1
    subst hn
    rw [Nat.add_sub_cancel_left] at hd
    dsimp only at h
    split at h
    · intro h0 h1 h2 ad1 H locs ls had hP hD hS hl
      exact lv_goto hx hb hd (en_zip1 hck2.2) (hk _ _ _ _ _ _ h h0 h1 h2 ad1 H locs ls had hP hD hS hl)
    · exact h.elim
  | ifCond cd o =>
    have hck2 : (Nat.beq nx (pc + 3) && en_zip pc [o] tg) = true := hck
    simp only [Bool.and_eq_true] at hck2
    have hn : nx = pc + 3 := Nat.eq_of_beq_eq_true hck2.1
    subst hn
    rw [Nat.add_sub_cancel_left] at hd
    dsimp only at h
    split at h
    · obtain ⟨x, r, rfl, h⟩ := en_i_e h
      intro h0 h1 h2 ad1 H locs ls had hP hD hS hl
      cases cd with
      | eq => exact lv_if_eq hx hb hd (en_zip1 hck2.2) (fun z => hk _ _ _ _ _ _ (h.1 z) h0 h1 h2 ad1 H locs ls had hP hD hS hl) (fun z => hk _ _ _ _ _ _ (h.2 z) h0 h1 h2 ad1 H locs ls had hP hD hS hl)
      | ne => exact lv_if_ne hx hb hd (en_zip1 hck2.2) (fun z => hk _ _ _ _ _ _ (h.1 z) h0 h1 h2 ad1 H locs ls had hP hD hS hl) (fun z => hk _ _ _ _ _ _ (h.2 z) h0 h1 h2 ad1 H locs ls had hP hD hS hl)
      | lt => exact lv_if_lt hx hb hd (en_zip1 hck2.2) (fun z => hk _ _ _ _ _ _ (h.1 z) h0 h1 h2 ad1 H locs ls had hP hD hS hl) (fun z => hk _ _ _ _ _ _ (h.2 z) h0 h1 h2 ad1 H locs ls had hP hD hS hl)
      | ge => exact lv_if_ge hx hb hd (en_zip1 hck2.2) (fun z => hk _ _ _ _ _ _ (h.1 z) h0 h1 h2 ad1 H locs ls had hP hD hS hl) (fun z => hk _ _ _ _ _ _ (h.2 z) h0 h1 h2 ad1 H locs ls had hP hD hS hl)
      | gt => exact lv_if_gt hx hb hd (en_zip1 hck2.2) (fun z => hk _ _ _ _ _ _ (h.1 z) h0 h1 h2 ad1 H locs ls had hP hD hS hl) (fun z => hk _ _ _ _ _ _ (h.2 z) h0 h1 h2 ad1 H locs ls had hP hD hS hl)
      | le => exact lv_if_le hx hb hd (en_zip1 hck2.2) (fun z => hk _ _ _ _ _ _ (h.1 z) h0 h1 h2 ad1 H locs ls had hP hD hS hl) (fun z => hk _ _ _ _ _ _ (h.2 z) h0 h1 h2 ad1 H locs ls had hP hD hS hl)
    · exact h.elim
  | if_icmp cd o =>
    have hck2 : (Nat.beq nx (pc + 3) && en_zip pc [o] tg) = true := hck
    simp only [Bool.and_eq_true] at hck2
    have hn : nx = pc + 3 := Nat.eq_of_beq_eq_true hck2.1
    subst hn
    rw [Nat.add_sub_cancel_left] at hd
    dsimp only at h
    split at h
    · obtain ⟨x, y, r, rfl, h⟩ := en_ii_e h
      intro h0 h1 h2 ad1 H locs ls had hP hD hS hl
      cases cd with
      | eq => exact lv_icmp_eq hx hb hd (en_zip1 hck2.2) (fun z => hk _ _ _ _ _ _ (h.1 z) h0 h1 h2 ad1 H locs ls had hP hD hS hl) (fun z => hk _ _ _ _ _ _ (h.2 z) h0 h1 h2 ad1 H locs ls had hP hD hS hl)
      | ne => exact lv_icmp_ne hx hb hd (en_zip1 hck2.2) (fun z => hk _ _ _ _ _ _ (h.1 z) h0 h1 h2 ad1 H locs ls had hP hD hS hl) (fun z => hk _ _ _ _ _ _ (h.2 z) h0 h1 h2 ad1 H locs ls had hP hD hS hl)
      | lt => exact lv_icmp_lt hx hb hd (en_zip1 hck2.2) (fun z => hk _ _ _ _ _ _ (h.1 z) h0 h1 h2 ad1 H locs ls had hP hD hS hl) (fun z => hk _ _ _ _ _ _ (h.2 z) h0 h1 h2 ad1 H locs ls had hP hD hS hl)
      | ge => exact lv_icmp_ge hx hb hd (en_zip1 hck2.2) (fun z => hk _ _ _ _ _ _ (h.1 z) h0 h1 h2 ad1 H locs ls had hP hD hS hl) (fun z => hk _ _ _ _ _ _ (h.2 z) h0 h1 h2 ad1 H locs ls had hP hD hS hl)
      | gt => exact lv_icmp_gt hx hb hd (en_zip1 hck2.2) (fun z => hk _ _ _ _ _ _ (h.1 z) h0 h1 h2 ad1 H locs ls had hP hD hS hl) (fun z => hk _ _ _ _ _ _ (h.2 z) h0 h1 h2 ad1 H locs ls had hP hD hS hl)
      | le => exact lv_icmp_le hx hb hd (en_zip1 hck2.2) (fun z => hk _ _ _ _ _ _ (h.1 z) h0 h1 h2 ad1 H locs ls had hP hD hS hl) (fun z => hk _ _ _ _ _ _ (h.2 z) h0 h1 h2 ad1 H locs ls had hP hD hS hl)
    · exact h.elim
  | tableswitch df lo hi offs =>
    have hck2 : (decide (hi + 1 = lo + (offs.size : Int)) && en_zip pc (df :: offs.toList) tg) = true := hck
    dsimp only at h
    split at h
    · rename_i d gs
      obtain ⟨x, r, rfl, h⟩ := en_i_e h
      simp only [en_zip, Bool.and_eq_true, decide_eq_true_eq] at hck2
      obtain ⟨hsz, hd0, hzp⟩ := hck2
      intro h0 h1 h2 ad1 H locs ls had hP hD hS hl
      by_cases hz : x.toInt < lo ∨ hi < x.toInt
      · exact lv_tableOut hx hb hd hz hd0 (hk _ _ _ _ _ _ (h.1 hz) h0 h1 h2 ad1 H locs ls had hP hD hS hl)
      · have hlo : lo ≤ x.toInt := by omega
        have hhi : x.toInt ≤ hi := by omega
        obtain ⟨off, g, e1, e2, e3⟩ := en_sw_ok gs offs.toList lo hzp h.2 (x.toInt - lo).toNat (by omega) (by rw [Array.length_toList]; omega)
        rw [Array.getElem?_toList] at e1
        exact lv_tableIn hx hb hd (fun z => hz (Or.inl z)) (fun z => hz (Or.inr z)) e1 e2 (hk _ _ _ _ _ _ e3 h0 h1 h2 ad1 H locs ls had hP hD hS hl)
    · exact h.elim
  | getfield x =>
    have hn : nx = pc + 3 := Nat.eq_of_beq_eq_true hck
    subst hn
    rw [Nat.add_sub_cancel_left] at hd
    dsimp only at h
    split at h
    · rename_i ci kf ty w heq
      obtain ⟨a, r, rfl, h⟩ := en_r_e h
      obtain ⟨fs, hfs, h⟩ := en_ob_e h
      obtain ⟨C, T, N, Ts, ty0, hcl, hkf, hts, hin, hlink, hty, htk, hnm, -⟩ := hF _ (en_lk_mem heq)
      split at h
      · rename_i v hv
        intro h0 h1 h2 ad1 H locs ls had hP hD hS hl
        exact va_get (q0 := a) (v := en_v ad1 v) (fs := fs.map (en_v ad1)) hx hb hts hin hown hK hP (en_w_some hfs) hcl kf hkf hlink (fun _ h9 => h9) (by rw [List.getElem?_map, hv]; rfl) hd (hk _ _ _ _ _ _ h h0 h1 h2 ad1 H locs ls had hP hD hS hl)
      · exact h.elim
    · exact h.elim
  | putfield x =>
    have hn : nx = pc + 3 := Nat.eq_of_beq_eq_true hck
    subst hn
    rw [Nat.add_sub_cancel_left] at hd
    dsimp only at h
    split at h
    · rename_i ci kf ty w heq
      split at h
      · rename_i v a r
        obtain ⟨hwf, h⟩ := en_bif h
        simp only [Bool.and_eq_true] at hwf
        obtain ⟨fs, hfs, h⟩ := en_ob_e h
        obtain ⟨hlt, h⟩ := en_bif h
        have hlt : kf < fs.length := Nat.le_of_ble_eq_true hlt
        obtain ⟨C, T, N, Ts, ty0, hcl, hkf, hts, hin, hlink, hty, htk, hnm, hwr⟩ := hF _ (en_lk_mem heq)
        intro h0 h1 h2 ad1 H locs ls had hP hD hS hl
        obtain ⟨hna, hfi⟩ := en_fit_ok hwf.2 ad1
        have hgo : ∀ (H1 : Heap) (locs1 : List Loc), va_P D cl ((en_w ad1 dT ws).set a (ad1 a, .inr (ci, (fs.map (en_v ad1)).set kf (en_v ad1 v)))) H1 → va_D A ((en_w ad1 dT ws).set a (ad1 a, .inr (ci, (fs.map (en_v ad1)).set kf (en_v ad1 v)))) → va_S A s.heap H1 locs1 → W p l e R s m args below meth c H1 locs1 cs sl Q (F0 m (pc + 3) ls (r.map (en_v ad1))) := by
          intro H1 locs1 hP1 hD1 hS1
          have he : (en_w ad1 dT ws).set a (ad1 a, .inr (ci, (fs.map (en_v ad1)).set kf (en_v ad1 v))) = en_w ad1 dT (ws.set a (.inr (ci, fs.set kf v))) := by
            rw [en_w_set, ← List.map_set]
            rfl
          rw [he] at hP1 hD1
          exact hk _ _ _ _ _ _ h (by rw [List.length_set]; exact h0) h1 h2 ad1 H1 locs1 ls had hP1 hD1 hS1 hl
        have htk2 : ty0 kf = ty := htk
        have hpt : parseFieldDescriptor (T kf).2.2.1 = some ty := by rw [← htk2]; exact hty _ hkf
        rcases hwr hwf.1 with hw | ⟨hw, hin1, hdc⟩
        · exact va_put (q0 := a) (fs := fs.map (en_v ad1)) (ty := ty) hx hb hts hin ty0 hty hnm hown hK hP hD hS (en_w_some hfs) hcl kf hkf hlink (fun _ h9 => h9) hw hpt hna hfi (by rw [List.length_map]; exact hlt) hd hgo
        · exact va_putF (q0 := a) (fs := fs.map (en_v ad1)) (ty := ty) hx hb hts hin ty0 hty hnm hown hK hP hD hS (en_w_some hfs) hcl kf hkf hlink (fun _ h9 => h9) hw hin1 hdc hpt hna hfi (by rw [List.length_map]; exact hlt) hd hgo
      · exact h.elim
    · exact h.elim
  | iaload =>
    have hn : nx = pc + 1 := Nat.eq_of_beq_eq_true hck
    subst hn
    rw [Nat.add_sub_cancel_left] at hd
    obtain ⟨a, i, r, rfl, h⟩ := en_ai_e h
    obtain ⟨n, f, hf, hin, h⟩ := en_ar_e h
    intro h0 h1 h2 ad1 H locs ls had hP hD hS hl
    exact va_iald (q0 := a) (t0 := 0) hx hb hK hP (en_w_some hf) rfl hin hd (hk _ _ _ _ _ _ h h0 h1 h2 ad1 H locs ls had hP hD hS hl)
  | baload =>
    have hn : nx = pc + 1 := Nat.eq_of_beq_eq_true hck
    subst hn
    rw [Nat.add_sub_cancel_left] at hd
    obtain ⟨a, i, r, rfl, h⟩ := en_ai_e h
    obtain ⟨n, f, hf, hin, h⟩ := en_ar_e h
    intro h0 h1 h2 ad1 H locs ls had hP hD hS hl
    exact va_zald (q0 := a) (t0 := 2) hx hb hK hP (en_w_some hf) rfl hin hd (hk _ _ _ _ _ _ h h0 h1 h2 ad1 H locs ls had hP hD hS hl)
  | laload =>
    have hn : nx = pc + 1 := Nat.eq_of_beq_eq_true hck
    subst hn
    rw [Nat.add_sub_cancel_left] at hd
    obtain ⟨a, i, r, rfl, h⟩ := en_ai_e h
    obtain ⟨n, f, hf, hin, h⟩ := en_al_e h
    intro h0 h1 h2 ad1 H locs ls had hP hD hS hl
    exact va_lald (q0 := a) (t0 := 1) hx hb hK hP (en_w_some hf) rfl hin hd (hk _ _ _ _ _ _ h h0 h1 h2 ad1 H locs ls had hP hD hS hl)
  | iastore =>
    have hn : nx = pc + 1 := Nat.eq_of_beq_eq_true hck
    subst hn
    rw [Nat.add_sub_cancel_left] at hd
    obtain ⟨a, i, x, r, rfl, h⟩ := en_aii_e h
    obtain ⟨n, f, hf, hin, h⟩ := en_ar_e h
    intro h0 h1 h2 ad1 H locs ls had hP hD hS hl
    exact va_iast (q0 := a) (t0 := 0) hx hb hK hP hD hS (en_w_some hf) rfl hin hd (fun H1 locs1 hP1 hD1 hS1 => hk _ _ _ _ _ _ h (by rw [List.length_set]; exact h0) h1 h2 ad1 H1 locs1 ls had (by rw [en_w_set]; exact hP1) (by rw [en_w_set]; exact hD1) hS1 hl)
  | bastore =>
    have hn : nx = pc + 1 := Nat.eq_of_beq_eq_true hck
    subst hn
    rw [Nat.add_sub_cancel_left] at hd
    obtain ⟨a, i, x, r, rfl, h⟩ := en_aii_e h
    obtain ⟨n, f, hf, hin, h⟩ := en_ar_e h
    intro h0 h1 h2 ad1 H locs ls had hP hD hS hl
    exact va_zast (q0 := a) (t0 := 2) hx hb hK hP hD hS (en_w_some hf) rfl hin hd (fun H1 locs1 hP1 hD1 hS1 => hk _ _ _ _ _ _ h (by rw [List.length_set]; exact h0) h1 h2 ad1 H1 locs1 ls had (by rw [en_w_set]; exact hP1) (by rw [en_w_set]; exact hD1) hS1 hl)
  | lastore =>
    have hn : nx = pc + 1 := Nat.eq_of_beq_eq_true hck
    subst hn
    rw [Nat.add_sub_cancel_left] at hd
    obtain ⟨a, i, x, r, rfl, h⟩ := en_aij_e h
    obtain ⟨n, f, hf, hin, h⟩ := en_al_e h
    intro h0 h1 h2 ad1 H locs ls had hP hD hS hl
    exact va_last (q0 := a) (t0 := 1) hx hb hK hP hD hS (en_w_some hf) rfl hin hd (fun H1 locs1 hP1 hD1 hS1 => hk _ _ _ _ _ _ h (by rw [List.length_set]; exact h0) h1 h2 ad1 H1 locs1 ls had (by rw [en_w_set]; exact hP1) (by rw [en_w_set]; exact hD1) hS1 hl)
  | arraylength =>
    have hn : nx = pc + 1 := Nat.eq_of_beq_eq_true hck
    subst hn
    rw [Nat.add_sub_cancel_left] at hd
    obtain ⟨a, r, rfl, h⟩ := en_r_e h
    obtain ⟨tk, n, g, hg, htk, h⟩ := en_an_e h
    obtain ⟨ty, hty⟩ := en_tyg dT htk
    intro h0 h1 h2 ad1 H locs ls had hP hD hS hl
    exact va_alen (q0 := a) (t0 := tk) hx hb hK hP (en_w_some hg) hty rfl hd (hk _ _ _ _ _ _ h h0 h1 h2 ad1 H locs ls had hP hD hS hl)
  | invokevirtual x =>
    have hn : nx = pc + 3 := Nat.eq_of_beq_eq_true hck
    subst hn
    rw [Nat.add_sub_cancel_left] at hd
    dsimp only at h
    split at h
    · rename_i q heq
      obtain ⟨hj, h⟩ := en_bif h
      exact en_call_ok hW1 hW2 C' hk (en_lk_mem heq) rfl (Or.inr (Or.inr ⟨Nat.le_of_ble_eq_true hj, hd⟩)) h
    · exact h.elim
  | invokestatic x =>
    have hn : nx = pc + 3 := Nat.eq_of_beq_eq_true hck
    subst hn
    rw [Nat.add_sub_cancel_left] at hd
    dsimp only at h
    split at h
    · rename_i q heq
      obtain ⟨hj, h⟩ := en_bif h
      exact en_call_ok hW1 hW2 C' hk (en_lk_mem heq) rfl (Or.inl ⟨(Nat.eq_of_beq_eq_true hj).symm, hd⟩) h
    · exact h.elim
  | invokespecial x =>
    have hn : nx = pc + 3 := Nat.eq_of_beq_eq_true hck
    subst hn
    rw [Nat.add_sub_cancel_left] at hd
    dsimp only at h
    cases hoi : Nat.beq x t.2.2.2.2.2.2.1 with
    | true =>
      rw [hoi] at h
      simp only [cond_true] at h
      have hxo : x = t.2.2.2.2.2.2.1 := Nat.eq_of_beq_eq_true hoi
      split at h
      · rename_i a r
        obtain ⟨hj, h⟩ := en_bif h
        simp only [Bool.and_eq_true] at hj
        obtain ⟨hz, hj⟩ := hj
        have hj : en_sum r ≤ 8 := Nat.le_of_ble_eq_true hj
        rcases hO with hO | ⟨o1, o2, o3, o4, o5⟩
        · rw [hO] at hxo
          subst hxo
          cases hz
        · rw [← hxo] at o3
          intro h0 h1 h2 ad1 H locs ls had hP hD hS hl
          refine W.objInit (g := F0 m pc ls (Value.ref (ad1 a) :: r.map (en_v ad1))) hx hb hown o3 o4 o5 rfl (by rw [hml]; exact hl.1) rfl hd o1 (by rw [en_sum_cat]; show 2 * 0 + _ + 12 ≤ _; omega) ?_
          exact hk _ _ _ _ _ _ h h0 h1 h2 ad1 H locs ls had hP hD hS hl
      · exact h.elim
    | false =>
      rw [hoi] at h
      simp only [cond_false] at h
      split at h
      · rename_i q heq
        obtain ⟨hj, h⟩ := en_bif h
        exact en_call_ok hW1 hW2 C' hk (en_lk_mem heq) rfl (Or.inr (Or.inl ⟨(Nat.eq_of_beq_eq_true hj).symm, hd⟩)) h
      · exact h.elim
  | new x =>
    have hn : nx = pc + 3 := Nat.eq_of_beq_eq_true hck
    subst hn
    rw [Nat.add_sub_cancel_left] at hd
    dsimp only at h
    split at h
    · rename_i ci N fs heq
      obtain ⟨hj, ⟨hc1, hc2⟩, h⟩ := en_bif h
      simp only [Bool.and_eq_true] at hj
      obtain ⟨C, T, Ts, ty0, hcl, hts, hin, hty, hlk1, hins, hini, hdf, hlo⟩ := hN _ (en_lk_mem heq)
      intro h0 h1 h2 ad1 H locs ls had hP hD hS hl
      refine va_new (ci := ci) (fs := fs) hx hb hts hin ty0 hty hown hlk1 hins hini hK hP hD hS hA hcl hdf (Nat.le_trans hc1 hR.1) (Nat.le_trans hc2 hR.2) hd (fun q H1 hP1 hD1 hS1 => ?_)
      have hpu := en_w_push (ad := ad1) (dT := dT) (ws := ws) (x := .inr (ci, fs)) q hj.2 hlo
      have hfs : en_e ad1 dT (.inr (ci, fs)) = .inr (ci, fs) := by
        show Sum.inr (ci, fs.map (en_v ad1)) = Sum.inr (ci, fs)
        rw [en_lo_vs (n := 0) (ad := id) (ad1 := ad1) (fun k hk => absurd hk (Nat.not_lt_zero k)) hlo]
        congr 2
        have : ∀ v : Value, en_v id v = v := fun v => by cases v <;> rfl
        rw [List.map_congr_left (fun v _ => this v)]
        exact List.map_id' fs
      rw [hfs] at hpu
      rw [← hpu] at hP1 hD1
      have hag : ∀ k, k < ws.length → (fun k => if k = ws.length then q else ad1 k) k = ad1 k := fun k hk => by
        show (if k = ws.length then q else ad1 k) = ad1 k
        rw [if_neg (by omega)]
      have K := hk _ _ _ _ _ _ h (by rw [List.length_append]; exact Nat.le_trans h0 (Nat.le_add_right _ _)) hc1 hc2 (fun k => if k = ws.length then q else ad1 k) H1 locs ls (fun k hk => (hag k (Nat.lt_of_lt_of_le hk h0)).trans (had k hk)) hP1 hD1 hS1 (by rw [en_lo_l hag hj.1.2]; exact hl)
      have hst : (Value.ref ws.length :: st).map (en_v (fun k => if k = ws.length then q else ad1 k)) = Value.ref q :: st.map (en_v ad1) := by
        rw [List.map_cons, en_lo_vs hag hj.1.1]
        show Value.ref (if ws.length = ws.length then q else ad1 ws.length) :: _ = _
        rw [if_pos rfl]
      rw [hst] at K
      exact K
    · exact h.elim
  | newarray ty =>
    have hn : nx = pc + 2 := Nat.eq_of_beq_eq_true hck
    subst hn
    rw [Nat.add_sub_cancel_left] at hd
    obtain ⟨n, r, rfl, h⟩ := en_i_e h
    obtain ⟨hj, ⟨hg1, hg2, hc1, hc2⟩, h⟩ := en_bif h
    simp only [Bool.and_eq_true] at hj
    obtain ⟨a1, a2, a3⟩ := hAr
    cases ty with
    | int => exact en_newa_ok (ki := 0) (a0 := fun N => (N, .inl (fun _ => 0))) hx hb a1 rfl hK hA hR rfl (fun _ => rfl) (fun _ => rfl) hg1 hg2 hc1 hc2 (by decide) hd hj.1.1 hj.1.2 hj.2 (hk _ _ _ _ _ _ h)
    | long => exact en_newa_ok (ki := 1) (a0 := fun N => (N, .inr (.inl (fun _ => 0)))) hx hb a2 rfl hK hA hR rfl (fun _ => rfl) (fun _ => rfl) hg1 hg2 hc1 hc2 (by decide) hd hj.1.1 hj.1.2 hj.2 (hk _ _ _ _ _ _ h)
    | boolean => exact en_newa_ok (ki := 2) (a0 := fun N => (N, .inl (fun _ => 0))) hx hb a3 rfl hK hA hR rfl (fun _ => rfl) (fun _ => rfl) hg1 hg2 hc1 hc2 (by decide) hd hj.1.1 hj.1.2 hj.2 (hk _ _ _ _ _ _ h)
    | _ => exact h.elim
  | ireturn =>
    have hn : nx = pc + 1 := Nat.eq_of_beq_eq_true hck
    subst hn
    rw [Nat.add_sub_cancel_left] at hd
    dsimp only at h
    split at h
    · rename_i v
      split at h
      · rename_i hty
        intro h0 h1 h2 ad1 H locs ls had hP hD hS hl
        exact hret (some (.int v)) ws _ pc cs sl h hd (Or.inl ⟨v, rfl, rfl, Or.inl hty⟩) h0 h1 h2 ad1 H locs ls had hP hD hS
      · rename_i hty
        intro h0 h1 h2 ad1 H locs ls had hP hD hS hl
        exact hret (some (.int v)) ws _ pc cs sl h.2 hd (Or.inl ⟨v, rfl, rfl, Or.inr ⟨hty, h.1⟩⟩) h0 h1 h2 ad1 H locs ls had hP hD hS
      · exact h.elim
    · exact h.elim
  | return_ =>
    have hn : nx = pc + 1 := Nat.eq_of_beq_eq_true hck
    subst hn
    rw [Nat.add_sub_cancel_left] at hd
    dsimp only at h
    split at h
    · rename_i hty
      intro h0 h1 h2 ad1 H locs ls had hP hD hS hl
      exact hret none ws _ pc cs sl h hd (Or.inr ⟨rfl, rfl, hty⟩) h0 h1 h2 ad1 H locs ls had hP hD hS
    · exact h.elim
  | _ => exact h.elim
/-- a run is sound -/
theorem en_vc_ok (hW1 : ∀ u U : State, u.vm = U.vm → WD u → WD U) (hW2 : ∀ u U : State, u.WarmedH U.vm → WD u → WD U) (C : en_X WD D cl dT A t p l R s m args meth c own cc) {G : Option Value → List va_E → Prop} (hret : en_R D cl dT A t n0 ad p l e R s m args below meth c Q G cc) (stop : List Nat) : ∀ (n : Nat) (cs sl pc : Nat) (lv : en_L) (st : List Value) (ws : List va_E), en_vc t G stop (en_OK D cl dT A t n0 ad p l e R s m args below meth c Q) n cs sl pc lv st ws → en_OK D cl dT A t n0 ad p l e R s m args below meth c Q cs sl pc lv st ws
  | 0, cs, sl, pc, lv, st, ws, h => h
  | n + 1, cs, sl, pc, lv, st, ws, h => en_st_ok hW1 hW2 C hret (fun cs sl pc lv st ws h2 => by
      cases hs : en_in stop pc with
      | true => rw [hs] at h2; exact h2
      | false => rw [hs] at h2; exact en_vc_ok hW1 hW2 C hret stop n cs sl pc lv st ws h2) h
/-- fewer locals are enough -/
theorem en_sub {cs sl pc : Nat} {lv lv' : en_L} {st : List Value} {ws : List va_E} (ks : List Nat) (hl : lv_pick lv ks = lv') (h : en_OK D cl dT A t n0 ad p l e R s m args below meth c Q cs sl pc lv' st ws) : en_OK D cl dT A t n0 ad p l e R s m args below meth c Q cs sl pc lv st ws := by
  intro h0 h1 h2 ad1 H locs ls had hP hD hS hl2
  refine h h0 h1 h2 ad1 H locs ls had hP hD hS (lv_sub hl2 ks ?_)
  subst hl
  unfold lv_pick en_l
  rw [List.map_filterMap]
  congr 1
  funext k
  rw [List.getElem?_map]
end SND3
end
section
/-! A METHOD'S CONTRACT out of what its body asks, the machine hidden -/
def en_args : Nat → List Value → en_L
  | _, [] => []
  | i, v :: vs => (i, v) :: en_args (bif Nat.beq v.category 2 then i + 2 else i + 1) vs
theorem en_args_l (ad : Nat → Nat) : ∀ (vs : List Value) (i : Nat), en_l ad (en_args i vs) = lv_args i (vs.map (en_v ad))
  | [], _ => rfl
  | v :: vs, i => by
    simp only [en_args, lv_args, List.map_cons]
    have h := en_args_l ad vs (bif Nat.beq v.category 2 then i + 2 else i + 1)
    rw [en_v_cat, ← show (bif Nat.beq v.category 2 then i + 2 else i + 1) = (if v.category = 2 then i + 2 else i + 1) from ?_, ← h]
    · rfl
    · cases hb : Nat.beq v.category 2 with
      | true => rw [if_pos (Nat.eq_of_beq_eq_true hb)]; rfl
      | false => rw [if_neg (Nat.ne_of_beq_eq_false hb)]; rfl
theorem en_sl_len (ad : Nat → Nat) : ∀ vs : List Value, (lg_sl (vs.map (en_v ad))).length = en_sum vs
  | [] => rfl
  | v :: vs => by
    have h := en_sl_len ad vs
    unfold lg_sl at h ⊢
    rw [List.map_cons, List.flatMap_cons, List.length_append, h, en_v_cat]
    show _ = v.category + en_sum vs
    rcases lv_cat v with h1 | h1
    · rw [if_neg (by omega), h1]; rfl
    · rw [if_pos h1, h1]; rfl
/-- a body's world: what a run of instructions asks is enough; fewer locals are enough -/
def en_Run (t : en_T) (G : Option Value → List va_E → Prop) (OK : en_K) : Prop :=
  (∀ (stop : List Nat) (n cs sl pc : Nat) (lv : en_L) (st : List Value) (ws : List va_E), en_vc t G stop OK n cs sl pc lv st ws → OK cs sl pc lv st ws) ∧
  (∀ (ks : List Nat) (cs sl pc : Nat) (lv lv' : en_L) (st : List Value) (ws : List va_E), lv_pick lv ks = lv' → OK cs sl pc lv' st ws → OK cs sl pc lv st ws)
/-- what the tables give for a method -/
def en_TB (WD : State → Prop) (D : va_G) (cl : List vw_C) (dT : Nat → Nat) (l : Launch) (R : Room) (t : en_T) (own nm : String) (cc : ByteArray) : Prop :=
  (∀ q ∈ t.2.1, decode cc q.1 = .ok (q.2.1, q.2.2.1 - q.1) ∧ en_ck q = true) ∧
  ∀ (s : State) (args : Array Value) (meth : Method), WD s → meth.name = nm → (∀ q ∈ t.2.2.1, en_fok cl s args meth own q) ∧ (∀ q ∈ t.2.2.2.1, en_cok s args own q) ∧ (∀ q ∈ t.2.2.2.2.1, en_mok WD D cl dT l R s args own q) ∧ (∀ q ∈ t.2.2.2.2.2.1, en_nok cl s args own q) ∧
    ((t.2.2.2.2.2.2.1 = 0 ∨ (1 ≤ R.frames ∧ 20 ≤ R.locals ∧ (Jvm.Cond.methodLink own t.2.2.2.2.2.2.1 Lib.objectInit).before args s = true ∧ (Jvm.Cond.instanceMethod Lib.objectInit).before args s = true ∧ (Jvm.Cond.code Lib.objectInit ⟨#[0xb1]⟩ 1 none).before args s = true))) ∧
    ((Jvm.Cond.arrayClass .int).before args s = true ∧ (Jvm.Cond.arrayClass .long).before args s = true ∧ (Jvm.Cond.arrayClass .boolean).before args s = true)
set_option maxHeartbeats 4000000 in
theorem en_met {WD : State → Prop} {D : va_G} {cl : List vw_C} {dT : Nat → Nat} {l : Launch} {y : MethodName} {bytes : ByteArray} {maxL : Nat} {ret : Option FieldType} {rm : Room} {t : en_T} {f : List Value → List va_E → (Option Value → List va_E → Prop) → Prop}
    (hW1 : ∀ u U : State, u.vm = U.vm → WD u → WD U) (hW2 : ∀ u U : State, u.WarmedH U.vm → WD u → WD U) (hy : plainName y.cls = true) (ht1 : t.1 = (maxL, rm.cells, rm.slots)) (ht2 : t.2.2.2.2.2.2.2 = ret) (hTB : en_TB WD D cl dT l rm t y.cls y.name bytes)
    (hlen : ∀ av ws G, f av ws G → en_sum av ≤ maxL)
    (body : ∀ (av : List Value) (ws : List va_E) (G : Option Value → List va_E → Prop), f av ws G → ∀ OK : en_K, en_Run t G OK → OK 0 0 0 (en_args 0 av) [] ws) : en_CT WD D cl dT l y bytes maxL ret rm f := by
  intro ad sz av ws G hf
  refine Met.ofW (cc := bytes) (maxL := maxL) (ret := ret) hy rfl ?_
  intro p e s m args below meth c s₁ B hml hv
  obtain ⟨rfl, hsz, hP, hK, hD0, hWD⟩ := hv
  have hown : s.vm.findClass y.cls = some m.cls := findClass_of_methodNamed B.named
  have hlocks := B.notSynchronized
  have hr := B.returns
  subst hsz
  have hD := hD0.self (sz := s.heap.size)
  have hA : ∀ q : Nat, s.heap.size ≤ q → va_A (en_w ad dT ws) s.heap.size q := fun q h => Or.inr h
  have hS : va_S (va_A (en_w ad dT ws) s.heap.size) s.heap s.heap [] := va_S.rf
  obtain ⟨hT, hrest⟩ := hTB
  obtain ⟨hF, hC, hM, hN, hO, hAr⟩ := hrest s (av.map (en_v ad)).toArray meth hWD (name_of_methodNamed B.named B.method).1
  have e1 : t.1.1 = maxL := by rw [ht1]
  have e2 : t.1.2.1 = rm.cells := by rw [ht1]
  have e3 : t.1.2.2 = rm.slots := by rw [ht1]
  have C : en_X WD D cl dT (va_A (en_w ad dT ws) s.heap.size) t p l rm s m (av.map (en_v ad)).toArray meth c y.cls bytes :=
    ⟨B.exec, B.bytes, hml.trans e1.symm, hown, hK, hA, hWD, ⟨Nat.le_of_eq e2, Nat.le_of_eq e3⟩, hT, hF, hC, hM, hN, hO, hAr⟩
  have hret : en_R D cl dT (va_A (en_w ad dT ws) s.heap.size) t ws.length ad p l e rm s m (av.map (en_v ad)).toArray below meth c (MQ below (en_Q D cl dT ad ws.length G (va_A (en_w ad dT ws) s.heap.size)) (av.map (en_v ad)).toArray s rm.cells rm.slots (va_A (en_w ad dT ws) s.heap.size)) G bytes := by
    intro v w i pc cs sl hG hd hi h0 h1 h2 ad1 H locs ls had hP1 hD1 hS1
    refine W.widen (k := rm.cells) (n := rm.slots) (by rw [← e2]; exact h1) (by rw [← e3]; exact h2) ?_
    have hq : ∀ tt : State, tt.heap = H → s.WarmedH tt.vm → en_Q D cl dT ad ws.length G (va_A (en_w ad dT ws) s.heap.size) (av.map (en_v ad)).toArray s (.returned (v.map (en_v ad1))) tt := fun tt ht hW =>
      ⟨⟨v, w, ad1, rfl, hG, h0, had, by rw [ht]; exact hP1, va_K.moved hW.alike hK, hD1⟩, hS1.F ht⟩
    rcases hi with ⟨x, rfl, rfl, hty⟩ | ⟨rfl, rfl, hty⟩
    · rcases hty with hty | ⟨hty, hnar⟩
      · exact W.iret (v := x) B.exec B.bytes (by rw [hr, ← ht2, hty]) hq hS1.2.2 hd
      · exact W.zret (v := x) (ty := .boolean) B.exec B.bytes (by rw [hr, ← ht2, hty]) hnar hq hS1.2.2 hd
    · exact W.vret B.exec B.bytes (by rw [hr, ← ht2, hty]) hq hS1.2.2 hd
  have K := body av ws G hf (en_OK D cl dT (va_A (en_w ad dT ws) s.heap.size) t ws.length ad p l e rm s m (av.map (en_v ad)).toArray below meth c (MQ below (en_Q D cl dT ad ws.length G (va_A (en_w ad dT ws) s.heap.size)) (av.map (en_v ad)).toArray s rm.cells rm.slots (va_A (en_w ad dT ws) s.heap.size)))
    ⟨fun stop n cs sl pc lv st ws h => en_vc_ok hW1 hW2 C hret stop n cs sl pc lv st ws h, fun ks cs sl pc lv lv' st ws h1 h2 => en_sub ks h1 h2⟩
  have hle : (lg_sl (av.map (en_v ad))).length ≤ maxL := by
    rw [en_sl_len]
    exact hlen av ws G hf
  have hl := lv_entry (av.map (en_v ad)) hle
  rw [lg_entry_eq]
  exact K (Nat.le_refl _) (Nat.zero_le _) (Nat.zero_le _) ad s.heap [] _ (fun _ _ => rfl) hP hD hS (by rw [en_args_l, e1]; exact hl)
end
section
/-- a private method of a class that the tables say can be made, by its rows of tables_1 -/
def lw_okq (q : MethodName × Nat) : Prop := (q.1.cls ≠ "java/lang/invoke/MethodHandle" ∧ q.1.cls ≠ "java/lang/invoke/VarHandle") ∧ Cond.instantiable q.1.cls q.2 ∈ tables_1 ∧ Cond.privateMethod q.1 ∈ tables_1 ∧ Cond.instanceMethod q.1 ∈ tables_1
theorem lw_p0 : lw_okq (⟨"SplitLeaks$Weights", "withGreatestRest", "()I"⟩, 5) := ⟨⟨by decide +kernel, by decide +kernel⟩, List.mem_of_getElem? (i := 72) (by decide +kernel), List.mem_of_getElem? (i := 257) (by decide +kernel), List.mem_of_getElem? (i := 258) (by decide +kernel)⟩
theorem lw_p1 : lw_okq (⟨"SplitLeaks$Splitter", "planPlain", "()V"⟩, 8) := ⟨⟨by decide +kernel, by decide +kernel⟩, List.mem_of_getElem? (i := 101) (by decide +kernel), List.mem_of_getElem? (i := 276) (by decide +kernel), List.mem_of_getElem? (i := 277) (by decide +kernel)⟩
theorem lw_p2 : lw_okq (⟨"SplitLeaks$Splitter", "gatherAll", "()V"⟩, 8) := ⟨⟨by decide +kernel, by decide +kernel⟩, List.mem_of_getElem? (i := 101) (by decide +kernel), List.mem_of_getElem? (i := 280) (by decide +kernel), List.mem_of_getElem? (i := 281) (by decide +kernel)⟩
theorem lw_p3 : lw_okq (⟨"SplitLeaks$Draws", "draw", "(I)I"⟩, 1) := ⟨⟨by decide +kernel, by decide +kernel⟩, List.mem_of_getElem? (i := 107) (by decide +kernel), List.mem_of_getElem? (i := 288) (by decide +kernel), List.mem_of_getElem? (i := 289) (by decide +kernel)⟩
theorem lw_p4 : lw_okq (⟨"SplitLeaks$Splitter", "fillByQuotas", "()V"⟩, 8) := ⟨⟨by decide +kernel, by decide +kernel⟩, List.mem_of_getElem? (i := 101) (by decide +kernel), List.mem_of_getElem? (i := 294) (by decide +kernel), List.mem_of_getElem? (i := 295) (by decide +kernel)⟩
theorem lw_p5 : lw_okq (⟨"SplitLeaks$Splitter", "planGroups", "()V"⟩, 8) := ⟨⟨by decide +kernel, by decide +kernel⟩, List.mem_of_getElem? (i := 101) (by decide +kernel), List.mem_of_getElem? (i := 299) (by decide +kernel), List.mem_of_getElem? (i := 300) (by decide +kernel)⟩
theorem lw_p6 : lw_okq (⟨"SplitLeaks$Splitter", "gatherGroups", "()V"⟩, 8) := ⟨⟨by decide +kernel, by decide +kernel⟩, List.mem_of_getElem? (i := 101) (by decide +kernel), List.mem_of_getElem? (i := 303) (by decide +kernel), List.mem_of_getElem? (i := 304) (by decide +kernel)⟩
theorem lw_p7 : lw_okq (⟨"SplitLeaks$Splitter", "neediestPart", "()I"⟩, 8) := ⟨⟨by decide +kernel, by decide +kernel⟩, List.mem_of_getElem? (i := 101) (by decide +kernel), List.mem_of_getElem? (i := 311) (by decide +kernel), List.mem_of_getElem? (i := 312) (by decide +kernel)⟩
theorem lw_p8 : lw_okq (⟨"SplitLeaks$Splitter", "need", "(I)I"⟩, 8) := ⟨⟨by decide +kernel, by decide +kernel⟩, List.mem_of_getElem? (i := 101) (by decide +kernel), List.mem_of_getElem? (i := 315) (by decide +kernel), List.mem_of_getElem? (i := 316) (by decide +kernel)⟩
theorem lw_p9 : lw_okq (⟨"SplitLeaks$Splitter", "placeGroup", "(II)V"⟩, 8) := ⟨⟨by decide +kernel, by decide +kernel⟩, List.mem_of_getElem? (i := 101) (by decide +kernel), List.mem_of_getElem? (i := 319) (by decide +kernel), List.mem_of_getElem? (i := 320) (by decide +kernel)⟩
theorem lw_p10 : lw_okq (⟨"SplitLeaks$Splitter", "planTimes", "(I)V"⟩, 8) := ⟨⟨by decide +kernel, by decide +kernel⟩, List.mem_of_getElem? (i := 101) (by decide +kernel), List.mem_of_getElem? (i := 323) (by decide +kernel), List.mem_of_getElem? (i := 324) (by decide +kernel)⟩
theorem lw_p11 : lw_okq (⟨"SplitLeaks$Splitter", "sortByTime", "()V"⟩, 8) := ⟨⟨by decide +kernel, by decide +kernel⟩, List.mem_of_getElem? (i := 101) (by decide +kernel), List.mem_of_getElem? (i := 327) (by decide +kernel), List.mem_of_getElem? (i := 328) (by decide +kernel)⟩
theorem lw_p12 : lw_okq (⟨"SplitLeaks$Splitter", "joinLikeTimes", "()V"⟩, 8) := ⟨⟨by decide +kernel, by decide +kernel⟩, List.mem_of_getElem? (i := 101) (by decide +kernel), List.mem_of_getElem? (i := 331) (by decide +kernel), List.mem_of_getElem? (i := 332) (by decide +kernel)⟩
theorem lw_p13 : lw_okq (⟨"SplitLeaks$Splitter", "findLatest", "()V"⟩, 8) := ⟨⟨by decide +kernel, by decide +kernel⟩, List.mem_of_getElem? (i := 101) (by decide +kernel), List.mem_of_getElem? (i := 335) (by decide +kernel), List.mem_of_getElem? (i := 336) (by decide +kernel)⟩
theorem lw_p14 : lw_okq (⟨"SplitLeaks$Splitter", "isInGap", "(II)Z"⟩, 8) := ⟨⟨by decide +kernel, by decide +kernel⟩, List.mem_of_getElem? (i := 101) (by decide +kernel), List.mem_of_getElem? (i := 340) (by decide +kernel), List.mem_of_getElem? (i := 341) (by decide +kernel)⟩
theorem lw_p15 : lw_okq (⟨"SplitLeaks$Splitter", "planLabels", "()V"⟩, 8) := ⟨⟨by decide +kernel, by decide +kernel⟩, List.mem_of_getElem? (i := 101) (by decide +kernel), List.mem_of_getElem? (i := 344) (by decide +kernel), List.mem_of_getElem? (i := 345) (by decide +kernel)⟩
def lw_privs_1 : List (MethodName × Nat) := [(⟨"SplitLeaks$Weights", "withGreatestRest", "()I"⟩, 5), (⟨"SplitLeaks$Splitter", "planPlain", "()V"⟩, 8), (⟨"SplitLeaks$Splitter", "gatherAll", "()V"⟩, 8), (⟨"SplitLeaks$Draws", "draw", "(I)I"⟩, 1), (⟨"SplitLeaks$Splitter", "fillByQuotas", "()V"⟩, 8), (⟨"SplitLeaks$Splitter", "planGroups", "()V"⟩, 8), (⟨"SplitLeaks$Splitter", "gatherGroups", "()V"⟩, 8), (⟨"SplitLeaks$Splitter", "neediestPart", "()I"⟩, 8), (⟨"SplitLeaks$Splitter", "need", "(I)I"⟩, 8), (⟨"SplitLeaks$Splitter", "placeGroup", "(II)V"⟩, 8), (⟨"SplitLeaks$Splitter", "planTimes", "(I)V"⟩, 8), (⟨"SplitLeaks$Splitter", "sortByTime", "()V"⟩, 8), (⟨"SplitLeaks$Splitter", "joinLikeTimes", "()V"⟩, 8), (⟨"SplitLeaks$Splitter", "findLatest", "()V"⟩, 8), (⟨"SplitLeaks$Splitter", "isInGap", "(II)Z"⟩, 8), (⟨"SplitLeaks$Splitter", "planLabels", "()V"⟩, 8)]
theorem lw_r1 : ∀ q ∈ lw_privs_1, lw_okq q := List.forall_mem_cons.mpr ⟨lw_p0, List.forall_mem_cons.mpr ⟨lw_p1, List.forall_mem_cons.mpr ⟨lw_p2, List.forall_mem_cons.mpr ⟨lw_p3, List.forall_mem_cons.mpr ⟨lw_p4, List.forall_mem_cons.mpr ⟨lw_p5, List.forall_mem_cons.mpr ⟨lw_p6, List.forall_mem_cons.mpr ⟨lw_p7, List.forall_mem_cons.mpr ⟨lw_p8, List.forall_mem_cons.mpr ⟨lw_p9, List.forall_mem_cons.mpr ⟨lw_p10, List.forall_mem_cons.mpr ⟨lw_p11, List.forall_mem_cons.mpr ⟨lw_p12, List.forall_mem_cons.mpr ⟨lw_p13, List.forall_mem_cons.mpr ⟨lw_p14, List.forall_mem_cons.mpr ⟨lw_p15, fun _ h => absurd h List.not_mem_nil⟩⟩⟩⟩⟩⟩⟩⟩⟩⟩⟩⟩⟩⟩⟩⟩
theorem lw_p16 : lw_okq (⟨"SplitLeaks$Splitter", "gatherLabel", "(I)V"⟩, 8) := ⟨⟨by decide +kernel, by decide +kernel⟩, List.mem_of_getElem? (i := 101) (by decide +kernel), List.mem_of_getElem? (i := 348) (by decide +kernel), List.mem_of_getElem? (i := 349) (by decide +kernel)⟩
theorem lw_p17 : lw_okq (⟨"SplitLeaks$Splitter", "dealFrom", "(I)I"⟩, 8) := ⟨⟨by decide +kernel, by decide +kernel⟩, List.mem_of_getElem? (i := 101) (by decide +kernel), List.mem_of_getElem? (i := 380) (by decide +kernel), List.mem_of_getElem? (i := 381) (by decide +kernel)⟩
theorem lw_p18 : lw_okq (⟨"SplitLeaks$Splitter", "gatherLabelInside", "(II)V"⟩, 8) := ⟨⟨by decide +kernel, by decide +kernel⟩, List.mem_of_getElem? (i := 101) (by decide +kernel), List.mem_of_getElem? (i := 405) (by decide +kernel), List.mem_of_getElem? (i := 406) (by decide +kernel)⟩
theorem lw_p19 : lw_okq (⟨"SplitLeaks$Finder", "findPairs", "(II)V"⟩, 6) := ⟨⟨by decide +kernel, by decide +kernel⟩, List.mem_of_getElem? (i := 160) (by decide +kernel), List.mem_of_getElem? (i := 458) (by decide +kernel), List.mem_of_getElem? (i := 459) (by decide +kernel)⟩
theorem lw_p20 : lw_okq (⟨"SplitLeaks$Finder", "areNear", "(III)Z"⟩, 6) := ⟨⟨by decide +kernel, by decide +kernel⟩, List.mem_of_getElem? (i := 160) (by decide +kernel), List.mem_of_getElem? (i := 474) (by decide +kernel), List.mem_of_getElem? (i := 475) (by decide +kernel)⟩
theorem lw_p21 : lw_okq (⟨"SplitLeaks$Finder", "take", "(II)V"⟩, 6) := ⟨⟨by decide +kernel, by decide +kernel⟩, List.mem_of_getElem? (i := 160) (by decide +kernel), List.mem_of_getElem? (i := 479) (by decide +kernel), List.mem_of_getElem? (i := 480) (by decide +kernel)⟩
theorem lw_p22 : lw_okq (⟨"SplitLeaks$Finder", "findGroups", "()V"⟩, 6) := ⟨⟨by decide +kernel, by decide +kernel⟩, List.mem_of_getElem? (i := 160) (by decide +kernel), List.mem_of_getElem? (i := 483) (by decide +kernel), List.mem_of_getElem? (i := 484) (by decide +kernel)⟩
theorem lw_p23 : lw_okq (⟨"SplitLeaks$Rows", "hasGroupIn", "(II)Z"⟩, 8) := ⟨⟨by decide +kernel, by decide +kernel⟩, List.mem_of_getElem? (i := 25) (by decide +kernel), List.mem_of_getElem? (i := 491) (by decide +kernel), List.mem_of_getElem? (i := 492) (by decide +kernel)⟩
theorem lw_p24 : lw_okq (⟨"SplitLeaks$Finder", "findLate", "()V"⟩, 6) := ⟨⟨by decide +kernel, by decide +kernel⟩, List.mem_of_getElem? (i := 160) (by decide +kernel), List.mem_of_getElem? (i := 495) (by decide +kernel), List.mem_of_getElem? (i := 496) (by decide +kernel)⟩
theorem lw_p25 : lw_okq (⟨"SplitLeaks$Finder", "earliestOutsideFirstPart", "()I"⟩, 6) := ⟨⟨by decide +kernel, by decide +kernel⟩, List.mem_of_getElem? (i := 160) (by decide +kernel), List.mem_of_getElem? (i := 499) (by decide +kernel), List.mem_of_getElem? (i := 500) (by decide +kernel)⟩
theorem lw_p26 : lw_okq (⟨"SplitLeaks$Finder", "findTelling", "()V"⟩, 6) := ⟨⟨by decide +kernel, by decide +kernel⟩, List.mem_of_getElem? (i := 160) (by decide +kernel), List.mem_of_getElem? (i := 503) (by decide +kernel), List.mem_of_getElem? (i := 504) (by decide +kernel)⟩
theorem lw_p27 : lw_okq (⟨"SplitLeaks$Finder", "tellsLabel", "(I)Z"⟩, 6) := ⟨⟨by decide +kernel, by decide +kernel⟩, List.mem_of_getElem? (i := 160) (by decide +kernel), List.mem_of_getElem? (i := 507) (by decide +kernel), List.mem_of_getElem? (i := 508) (by decide +kernel)⟩
theorem lw_p28 : lw_okq (⟨"SplitLeaks$Finder", "standsWithOtherLabel", "(II)Z"⟩, 6) := ⟨⟨by decide +kernel, by decide +kernel⟩, List.mem_of_getElem? (i := 160) (by decide +kernel), List.mem_of_getElem? (i := 512) (by decide +kernel), List.mem_of_getElem? (i := 513) (by decide +kernel)⟩
theorem lw_p29 : lw_okq (⟨"SplitLeaks$Finder", "standsAgainBehind", "(II)Z"⟩, 6) := ⟨⟨by decide +kernel, by decide +kernel⟩, List.mem_of_getElem? (i := 160) (by decide +kernel), List.mem_of_getElem? (i := 517) (by decide +kernel), List.mem_of_getElem? (i := 518) (by decide +kernel)⟩
theorem lw_p30 : lw_okq (⟨"SplitLeaks$Finder", "countNumbers", "(I)I"⟩, 6) := ⟨⟨by decide +kernel, by decide +kernel⟩, List.mem_of_getElem? (i := 160) (by decide +kernel), List.mem_of_getElem? (i := 521) (by decide +kernel), List.mem_of_getElem? (i := 522) (by decide +kernel)⟩
theorem lw_p31 : lw_okq (⟨"SplitLeaks$Finder", "findFitted", "()V"⟩, 6) := ⟨⟨by decide +kernel, by decide +kernel⟩, List.mem_of_getElem? (i := 160) (by decide +kernel), List.mem_of_getElem? (i := 525) (by decide +kernel), List.mem_of_getElem? (i := 526) (by decide +kernel)⟩
def lw_privs_2 : List (MethodName × Nat) := [(⟨"SplitLeaks$Splitter", "gatherLabel", "(I)V"⟩, 8), (⟨"SplitLeaks$Splitter", "dealFrom", "(I)I"⟩, 8), (⟨"SplitLeaks$Splitter", "gatherLabelInside", "(II)V"⟩, 8), (⟨"SplitLeaks$Finder", "findPairs", "(II)V"⟩, 6), (⟨"SplitLeaks$Finder", "areNear", "(III)Z"⟩, 6), (⟨"SplitLeaks$Finder", "take", "(II)V"⟩, 6), (⟨"SplitLeaks$Finder", "findGroups", "()V"⟩, 6), (⟨"SplitLeaks$Rows", "hasGroupIn", "(II)Z"⟩, 8), (⟨"SplitLeaks$Finder", "findLate", "()V"⟩, 6), (⟨"SplitLeaks$Finder", "earliestOutsideFirstPart", "()I"⟩, 6), (⟨"SplitLeaks$Finder", "findTelling", "()V"⟩, 6), (⟨"SplitLeaks$Finder", "tellsLabel", "(I)Z"⟩, 6), (⟨"SplitLeaks$Finder", "standsWithOtherLabel", "(II)Z"⟩, 6), (⟨"SplitLeaks$Finder", "standsAgainBehind", "(II)Z"⟩, 6), (⟨"SplitLeaks$Finder", "countNumbers", "(I)I"⟩, 6), (⟨"SplitLeaks$Finder", "findFitted", "()V"⟩, 6)]
theorem lw_r2 : ∀ q ∈ lw_privs_2, lw_okq q := List.forall_mem_cons.mpr ⟨lw_p16, List.forall_mem_cons.mpr ⟨lw_p17, List.forall_mem_cons.mpr ⟨lw_p18, List.forall_mem_cons.mpr ⟨lw_p19, List.forall_mem_cons.mpr ⟨lw_p20, List.forall_mem_cons.mpr ⟨lw_p21, List.forall_mem_cons.mpr ⟨lw_p22, List.forall_mem_cons.mpr ⟨lw_p23, List.forall_mem_cons.mpr ⟨lw_p24, List.forall_mem_cons.mpr ⟨lw_p25, List.forall_mem_cons.mpr ⟨lw_p26, List.forall_mem_cons.mpr ⟨lw_p27, List.forall_mem_cons.mpr ⟨lw_p28, List.forall_mem_cons.mpr ⟨lw_p29, List.forall_mem_cons.mpr ⟨lw_p30, List.forall_mem_cons.mpr ⟨lw_p31, fun _ h => absurd h List.not_mem_nil⟩⟩⟩⟩⟩⟩⟩⟩⟩⟩⟩⟩⟩⟩⟩⟩
theorem lw_p32 : lw_okq (⟨"SplitLeaks$Rows", "digestOf", "(I)I"⟩, 8) := ⟨⟨by decide +kernel, by decide +kernel⟩, List.mem_of_getElem? (i := 25) (by decide +kernel), List.mem_of_getElem? (i := 546) (by decide +kernel), List.mem_of_getElem? (i := 547) (by decide +kernel)⟩
theorem lw_p33 : lw_okq (⟨"SplitLeaks$Rows", "countMeetingsBehind", "(I)I"⟩, 8) := ⟨⟨by decide +kernel, by decide +kernel⟩, List.mem_of_getElem? (i := 25) (by decide +kernel), List.mem_of_getElem? (i := 553) (by decide +kernel), List.mem_of_getElem? (i := 554) (by decide +kernel)⟩
theorem lw_p34 : lw_okq (⟨"java/lang/Throwable", "fillInStackTrace", "(I)Ljava/lang/Throwable;"⟩, 6) := ⟨⟨by decide +kernel, by decide +kernel⟩, List.mem_of_getElem? (i := 618) (by decide +kernel), List.mem_of_getElem? (i := 616) (by decide +kernel), List.mem_of_getElem? (i := 617) (by decide +kernel)⟩
theorem lw_p35 : lw_okq (⟨"SplitLeaksModel", "isRow", "(I)Z"⟩, 24) := ⟨⟨by decide +kernel, by decide +kernel⟩, List.mem_of_getElem? (i := 684) (by decide +kernel), List.mem_of_getElem? (i := 779) (by decide +kernel), List.mem_of_getElem? (i := 780) (by decide +kernel)⟩
theorem lw_p36 : lw_okq (⟨"SplitLeaksModel", "quotasOf", "(I)V"⟩, 24) := ⟨⟨by decide +kernel, by decide +kernel⟩, List.mem_of_getElem? (i := 684) (by decide +kernel), List.mem_of_getElem? (i := 799) (by decide +kernel), List.mem_of_getElem? (i := 800) (by decide +kernel)⟩
theorem lw_p37 : lw_okq (⟨"SplitLeaksModel", "deal", "(IJI)Z"⟩, 24) := ⟨⟨by decide +kernel, by decide +kernel⟩, List.mem_of_getElem? (i := 684) (by decide +kernel), List.mem_of_getElem? (i := 807) (by decide +kernel), List.mem_of_getElem? (i := 808) (by decide +kernel)⟩
theorem lw_p38 : lw_okq (⟨"SplitLeaksModel", "plain", "()V"⟩, 24) := ⟨⟨by decide +kernel, by decide +kernel⟩, List.mem_of_getElem? (i := 684) (by decide +kernel), List.mem_of_getElem? (i := 811) (by decide +kernel), List.mem_of_getElem? (i := 812) (by decide +kernel)⟩
theorem lw_p39 : lw_okq (⟨"SplitLeaksModel", "shuffle", "()V"⟩, 24) := ⟨⟨by decide +kernel, by decide +kernel⟩, List.mem_of_getElem? (i := 684) (by decide +kernel), List.mem_of_getElem? (i := 815) (by decide +kernel), List.mem_of_getElem? (i := 816) (by decide +kernel)⟩
theorem lw_p40 : lw_okq (⟨"SplitLeaksModel", "draw", "(I)I"⟩, 24) := ⟨⟨by decide +kernel, by decide +kernel⟩, List.mem_of_getElem? (i := 684) (by decide +kernel), List.mem_of_getElem? (i := 819) (by decide +kernel), List.mem_of_getElem? (i := 820) (by decide +kernel)⟩
theorem lw_p41 : lw_okq (⟨"SplitLeaksModel", "give", "()V"⟩, 24) := ⟨⟨by decide +kernel, by decide +kernel⟩, List.mem_of_getElem? (i := 684) (by decide +kernel), List.mem_of_getElem? (i := 825) (by decide +kernel), List.mem_of_getElem? (i := 826) (by decide +kernel)⟩
theorem lw_p42 : lw_okq (⟨"SplitLeaksModel", "byGroups", "()V"⟩, 24) := ⟨⟨by decide +kernel, by decide +kernel⟩, List.mem_of_getElem? (i := 684) (by decide +kernel), List.mem_of_getElem? (i := 829) (by decide +kernel), List.mem_of_getElem? (i := 830) (by decide +kernel)⟩
theorem lw_p43 : lw_okq (⟨"SplitLeaksModel", "byTimes", "(I)V"⟩, 24) := ⟨⟨by decide +kernel, by decide +kernel⟩, List.mem_of_getElem? (i := 684) (by decide +kernel), List.mem_of_getElem? (i := 833) (by decide +kernel), List.mem_of_getElem? (i := 834) (by decide +kernel)⟩
theorem lw_p44 : lw_okq (⟨"SplitLeaksModel", "ofLabel", "(IZ)V"⟩, 24) := ⟨⟨by decide +kernel, by decide +kernel⟩, List.mem_of_getElem? (i := 684) (by decide +kernel), List.mem_of_getElem? (i := 837) (by decide +kernel), List.mem_of_getElem? (i := 838) (by decide +kernel)⟩
theorem lw_p45 : lw_okq (⟨"SplitLeaksModel", "take", "()I"⟩, 24) := ⟨⟨by decide +kernel, by decide +kernel⟩, List.mem_of_getElem? (i := 684) (by decide +kernel), List.mem_of_getElem? (i := 841) (by decide +kernel), List.mem_of_getElem? (i := 842) (by decide +kernel)⟩
theorem lw_p46 : lw_okq (⟨"SplitLeaksModel", "round", "(IZ)I"⟩, 24) := ⟨⟨by decide +kernel, by decide +kernel⟩, List.mem_of_getElem? (i := 684) (by decide +kernel), List.mem_of_getElem? (i := 853) (by decide +kernel), List.mem_of_getElem? (i := 854) (by decide +kernel)⟩
theorem lw_p47 : lw_okq (⟨"SplitLeaksModel", "look", "(II)V"⟩, 24) := ⟨⟨by decide +kernel, by decide +kernel⟩, List.mem_of_getElem? (i := 684) (by decide +kernel), List.mem_of_getElem? (i := 894) (by decide +kernel), List.mem_of_getElem? (i := 895) (by decide +kernel)⟩
def lw_privs_3 : List (MethodName × Nat) := [(⟨"SplitLeaks$Rows", "digestOf", "(I)I"⟩, 8), (⟨"SplitLeaks$Rows", "countMeetingsBehind", "(I)I"⟩, 8), (⟨"java/lang/Throwable", "fillInStackTrace", "(I)Ljava/lang/Throwable;"⟩, 6), (⟨"SplitLeaksModel", "isRow", "(I)Z"⟩, 24), (⟨"SplitLeaksModel", "quotasOf", "(I)V"⟩, 24), (⟨"SplitLeaksModel", "deal", "(IJI)Z"⟩, 24), (⟨"SplitLeaksModel", "plain", "()V"⟩, 24), (⟨"SplitLeaksModel", "shuffle", "()V"⟩, 24), (⟨"SplitLeaksModel", "draw", "(I)I"⟩, 24), (⟨"SplitLeaksModel", "give", "()V"⟩, 24), (⟨"SplitLeaksModel", "byGroups", "()V"⟩, 24), (⟨"SplitLeaksModel", "byTimes", "(I)V"⟩, 24), (⟨"SplitLeaksModel", "ofLabel", "(IZ)V"⟩, 24), (⟨"SplitLeaksModel", "take", "()I"⟩, 24), (⟨"SplitLeaksModel", "round", "(IZ)I"⟩, 24), (⟨"SplitLeaksModel", "look", "(II)V"⟩, 24)]
theorem lw_r3 : ∀ q ∈ lw_privs_3, lw_okq q := List.forall_mem_cons.mpr ⟨lw_p32, List.forall_mem_cons.mpr ⟨lw_p33, List.forall_mem_cons.mpr ⟨lw_p34, List.forall_mem_cons.mpr ⟨lw_p35, List.forall_mem_cons.mpr ⟨lw_p36, List.forall_mem_cons.mpr ⟨lw_p37, List.forall_mem_cons.mpr ⟨lw_p38, List.forall_mem_cons.mpr ⟨lw_p39, List.forall_mem_cons.mpr ⟨lw_p40, List.forall_mem_cons.mpr ⟨lw_p41, List.forall_mem_cons.mpr ⟨lw_p42, List.forall_mem_cons.mpr ⟨lw_p43, List.forall_mem_cons.mpr ⟨lw_p44, List.forall_mem_cons.mpr ⟨lw_p45, List.forall_mem_cons.mpr ⟨lw_p46, List.forall_mem_cons.mpr ⟨lw_p47, fun _ h => absurd h List.not_mem_nil⟩⟩⟩⟩⟩⟩⟩⟩⟩⟩⟩⟩⟩⟩⟩⟩
theorem lw_p48 : lw_okq (⟨"SplitLeaksModel", "pairs", "(ZI)V"⟩, 24) := ⟨⟨by decide +kernel, by decide +kernel⟩, List.mem_of_getElem? (i := 684) (by decide +kernel), List.mem_of_getElem? (i := 898) (by decide +kernel), List.mem_of_getElem? (i := 899) (by decide +kernel)⟩
theorem lw_p49 : lw_okq (⟨"SplitLeaksModel", "areApart", "(II)Z"⟩, 24) := ⟨⟨by decide +kernel, by decide +kernel⟩, List.mem_of_getElem? (i := 684) (by decide +kernel), List.mem_of_getElem? (i := 902) (by decide +kernel), List.mem_of_getElem? (i := 903) (by decide +kernel)⟩
theorem lw_p50 : lw_okq (⟨"SplitLeaksModel", "isEqual", "(II)Z"⟩, 24) := ⟨⟨by decide +kernel, by decide +kernel⟩, List.mem_of_getElem? (i := 684) (by decide +kernel), List.mem_of_getElem? (i := 906) (by decide +kernel), List.mem_of_getElem? (i := 907) (by decide +kernel)⟩
theorem lw_p51 : lw_okq (⟨"SplitLeaksModel", "areNear", "(II)Z"⟩, 24) := ⟨⟨by decide +kernel, by decide +kernel⟩, List.mem_of_getElem? (i := 684) (by decide +kernel), List.mem_of_getElem? (i := 910) (by decide +kernel), List.mem_of_getElem? (i := 911) (by decide +kernel)⟩
theorem lw_p52 : lw_okq (⟨"SplitLeaksModel", "tell", "(III)V"⟩, 24) := ⟨⟨by decide +kernel, by decide +kernel⟩, List.mem_of_getElem? (i := 684) (by decide +kernel), List.mem_of_getElem? (i := 914) (by decide +kernel), List.mem_of_getElem? (i := 915) (by decide +kernel)⟩
theorem lw_p53 : lw_okq (⟨"SplitLeaksModel", "groups", "(I)V"⟩, 24) := ⟨⟨by decide +kernel, by decide +kernel⟩, List.mem_of_getElem? (i := 684) (by decide +kernel), List.mem_of_getElem? (i := 918) (by decide +kernel), List.mem_of_getElem? (i := 919) (by decide +kernel)⟩
theorem lw_p54 : lw_okq (⟨"SplitLeaksModel", "late", "(I)V"⟩, 24) := ⟨⟨by decide +kernel, by decide +kernel⟩, List.mem_of_getElem? (i := 684) (by decide +kernel), List.mem_of_getElem? (i := 922) (by decide +kernel), List.mem_of_getElem? (i := 923) (by decide +kernel)⟩
theorem lw_p55 : lw_okq (⟨"SplitLeaksModel", "columns", "(I)V"⟩, 24) := ⟨⟨by decide +kernel, by decide +kernel⟩, List.mem_of_getElem? (i := 684) (by decide +kernel), List.mem_of_getElem? (i := 926) (by decide +kernel), List.mem_of_getElem? (i := 927) (by decide +kernel)⟩
theorem lw_p56 : lw_okq (⟨"SplitLeaksModel", "steps", "(I)V"⟩, 24) := ⟨⟨by decide +kernel, by decide +kernel⟩, List.mem_of_getElem? (i := 684) (by decide +kernel), List.mem_of_getElem? (i := 930) (by decide +kernel), List.mem_of_getElem? (i := 931) (by decide +kernel)⟩
theorem lw_p57 : lw_okq (⟨"SplitLeaksModel", "digest", "(I)I"⟩, 24) := ⟨⟨by decide +kernel, by decide +kernel⟩, List.mem_of_getElem? (i := 684) (by decide +kernel), List.mem_of_getElem? (i := 942) (by decide +kernel), List.mem_of_getElem? (i := 943) (by decide +kernel)⟩
def lw_privs_4 : List (MethodName × Nat) := [(⟨"SplitLeaksModel", "pairs", "(ZI)V"⟩, 24), (⟨"SplitLeaksModel", "areApart", "(II)Z"⟩, 24), (⟨"SplitLeaksModel", "isEqual", "(II)Z"⟩, 24), (⟨"SplitLeaksModel", "areNear", "(II)Z"⟩, 24), (⟨"SplitLeaksModel", "tell", "(III)V"⟩, 24), (⟨"SplitLeaksModel", "groups", "(I)V"⟩, 24), (⟨"SplitLeaksModel", "late", "(I)V"⟩, 24), (⟨"SplitLeaksModel", "columns", "(I)V"⟩, 24), (⟨"SplitLeaksModel", "steps", "(I)V"⟩, 24), (⟨"SplitLeaksModel", "digest", "(I)I"⟩, 24)]
theorem lw_r4 : ∀ q ∈ lw_privs_4, lw_okq q := List.forall_mem_cons.mpr ⟨lw_p48, List.forall_mem_cons.mpr ⟨lw_p49, List.forall_mem_cons.mpr ⟨lw_p50, List.forall_mem_cons.mpr ⟨lw_p51, List.forall_mem_cons.mpr ⟨lw_p52, List.forall_mem_cons.mpr ⟨lw_p53, List.forall_mem_cons.mpr ⟨lw_p54, List.forall_mem_cons.mpr ⟨lw_p55, List.forall_mem_cons.mpr ⟨lw_p56, List.forall_mem_cons.mpr ⟨lw_p57, fun _ h => absurd h List.not_mem_nil⟩⟩⟩⟩⟩⟩⟩⟩⟩⟩
def lw_privs : List (MethodName × Nat) := lw_privs_1 ++ (lw_privs_2 ++ (lw_privs_3 ++ (lw_privs_4)))
def lw_tbl : List Cond := k2_sels lw_privs ++ tables_1
theorem lw_privs_ok : ∀ q ∈ lw_privs, lw_okq q := by
  show ∀ q ∈ lw_privs_1 ++ (lw_privs_2 ++ (lw_privs_3 ++ (lw_privs_4))), lw_okq q
  exact List.forall_mem_append.mpr ⟨lw_r1, List.forall_mem_append.mpr ⟨lw_r2, List.forall_mem_append.mpr ⟨lw_r3, lw_r4⟩⟩⟩
def RX0 : String := "SplitLeaks$Draws"
def TX0 : u_T := fun k => match k with
  | _ => ("SplitLeaks$Draws", "z", "J", false)
def tyX0 : Nat → FieldType := fun k => match k with
  | _ => .long
abbrev wsX00 : List Cond := u_ws RX0 TX0 1
theorem nmX0 : ∀ a, a < 1 → ∀ b, b < 1 → a ≠ b → (TX0 a).2.1 ≠ (TX0 b).2.1 := by decide +kernel
theorem tyX0_ok : ∀ k, k < 1 → parseFieldDescriptor (TX0 k).2.2.1 = some (tyX0 k) := by decide +kernel
abbrev cX0_init : ByteArray := prog_2_method_1_code
def yX0_init : MethodName := ⟨RX0, "<init>", "()V"⟩
abbrev cX0_start : ByteArray := prog_2_method_2_code
def yX0_start : MethodName := ⟨RX0, "start", "(J)V"⟩
abbrev cX0_shuffle : ByteArray := prog_2_method_3_code
def yX0_shuffle : MethodName := ⟨RX0, "shuffle", "([II)V"⟩
abbrev cX0_draw : ByteArray := prog_2_method_4_code
def yX0_draw : MethodName := ⟨RX0, "draw", "(I)I"⟩
def RX1 : String := "SplitLeaks$Finder"
def TX1 : u_T := fun k => match k with
  | 0 => ("SplitLeaks$Finder", "rows", "LSplitLeaks$Rows;", true)
  | 1 => ("SplitLeaks$Finder", "steps", "LSplitLeaks$Steps;", true)
  | 2 => ("SplitLeaks$Finder", "wanted", "I", false)
  | 3 => ("SplitLeaks$Finder", "found", "I", false)
  | 4 => ("SplitLeaks$Finder", "first", "I", false)
  | _ => ("SplitLeaks$Finder", "second", "I", false)
def tyX1 : Nat → FieldType := fun k => match k with
  | 0 => .object "SplitLeaks$Rows"
  | 1 => .object "SplitLeaks$Steps"
  | 2 => .int
  | 3 => .int
  | 4 => .int
  | _ => .int
abbrev wsX10 : List Cond := u_ws RX1 TX1 6
theorem nmX1 : ∀ a, a < 6 → ∀ b, b < 6 → a ≠ b → (TX1 a).2.1 ≠ (TX1 b).2.1 := by decide +kernel
theorem tyX1_ok : ∀ k, k < 6 → parseFieldDescriptor (TX1 k).2.2.1 = some (tyX1 k) := by decide +kernel
abbrev cX1_init : ByteArray := prog_3_method_1_code
def yX1_init : MethodName := ⟨RX1, "<init>", "(LSplitLeaks$Rows;LSplitLeaks$Steps;)V"⟩
abbrev cX1_search : ByteArray := prog_3_method_2_code
def yX1_search : MethodName := ⟨RX1, "search", "(III)I"⟩
abbrev cX1_take : ByteArray := prog_3_method_3_code
def yX1_take : MethodName := ⟨RX1, "take", "(II)V"⟩
abbrev cX1_findPairs : ByteArray := prog_3_method_4_code
def yX1_findPairs : MethodName := ⟨RX1, "findPairs", "(II)V"⟩
abbrev cX1_areNear : ByteArray := prog_3_method_5_code
def yX1_areNear : MethodName := ⟨RX1, "areNear", "(III)Z"⟩
abbrev cX1_findGroups : ByteArray := prog_3_method_6_code
def yX1_findGroups : MethodName := ⟨RX1, "findGroups", "()V"⟩
abbrev cX1_findLate : ByteArray := prog_3_method_7_code
def yX1_findLate : MethodName := ⟨RX1, "findLate", "()V"⟩
abbrev cX1_earliestOutsideFirstPart : ByteArray := prog_3_method_8_code
def yX1_earliestOutsideFirstPart : MethodName := ⟨RX1, "earliestOutsideFirstPart", "()I"⟩
abbrev cX1_findTelling : ByteArray := prog_3_method_9_code
def yX1_findTelling : MethodName := ⟨RX1, "findTelling", "()V"⟩
abbrev cX1_tellsLabel : ByteArray := prog_3_method_10_code
def yX1_tellsLabel : MethodName := ⟨RX1, "tellsLabel", "(I)Z"⟩
abbrev cX1_standsWithOtherLabel : ByteArray := prog_3_method_11_code
def yX1_standsWithOtherLabel : MethodName := ⟨RX1, "standsWithOtherLabel", "(II)Z"⟩
abbrev cX1_standsAgainBehind : ByteArray := prog_3_method_12_code
def yX1_standsAgainBehind : MethodName := ⟨RX1, "standsAgainBehind", "(II)Z"⟩
abbrev cX1_countNumbers : ByteArray := prog_3_method_13_code
def yX1_countNumbers : MethodName := ⟨RX1, "countNumbers", "(I)I"⟩
abbrev cX1_findFitted : ByteArray := prog_3_method_14_code
def yX1_findFitted : MethodName := ⟨RX1, "findFitted", "()V"⟩
def RX2 : String := "SplitLeaks$Rows"
def TX2 : u_T := fun k => match k with
  | 0 => ("SplitLeaks$Rows", "count", "I", false)
  | 1 => ("SplitLeaks$Rows", "group", "[I", true)
  | 2 => ("SplitLeaks$Rows", "label", "[I", true)
  | 3 => ("SplitLeaks$Rows", "time", "[I", true)
  | 4 => ("SplitLeaks$Rows", "part", "[I", true)
  | 5 => ("SplitLeaks$Rows", "number", "[J", true)
  | 6 => ("SplitLeaks$Rows", "words", "[J", true)
  | _ => ("SplitLeaks$Rows", "digests", "[I", true)
def tyX2 : Nat → FieldType := fun k => match k with
  | 0 => .int
  | 1 => .array .int
  | 2 => .array .int
  | 3 => .array .int
  | 4 => .array .int
  | 5 => .array .long
  | 6 => .array .long
  | _ => .array .int
abbrev wsX20 : List Cond := u_ws RX2 TX2 8
theorem nmX2 : ∀ a, a < 8 → ∀ b, b < 8 → a ≠ b → (TX2 a).2.1 ≠ (TX2 b).2.1 := by decide +kernel
theorem tyX2_ok : ∀ k, k < 8 → parseFieldDescriptor (TX2 k).2.2.1 = some (tyX2 k) := by decide +kernel
abbrev cX2_init : ByteArray := prog_4_method_1_code
def yX2_init : MethodName := ⟨RX2, "<init>", "()V"⟩
abbrev cX2_has : ByteArray := prog_4_method_2_code
def yX2_has : MethodName := ⟨RX2, "has", "(I)Z"⟩
abbrev cX2_append : ByteArray := prog_4_method_3_code
def yX2_append : MethodName := ⟨RX2, "append", "(III)I"⟩
abbrev cX2_isPlaced : ByteArray := prog_4_method_4_code
def yX2_isPlaced : MethodName := ⟨RX2, "isPlaced", "(I)Z"⟩
abbrev cX2_areParted : ByteArray := prog_4_method_5_code
def yX2_areParted : MethodName := ⟨RX2, "areParted", "(II)Z"⟩
abbrev cX2_haveSameNumber : ByteArray := prog_4_method_6_code
def yX2_haveSameNumber : MethodName := ⟨RX2, "haveSameNumber", "(III)Z"⟩
abbrev cX2_areAlike : ByteArray := prog_4_method_7_code
def yX2_areAlike : MethodName := ⟨RX2, "areAlike", "(II)Z"⟩
abbrev cX2_countPlaced : ByteArray := prog_4_method_8_code
def yX2_countPlaced : MethodName := ⟨RX2, "countPlaced", "()I"⟩
abbrev cX2_countIn : ByteArray := prog_4_method_9_code
def yX2_countIn : MethodName := ⟨RX2, "countIn", "(II)I"⟩
abbrev cX2_countPlacedOfLabel : ByteArray := prog_4_method_10_code
def yX2_countPlacedOfLabel : MethodName := ⟨RX2, "countPlacedOfLabel", "(I)I"⟩
abbrev cX2_countPlacedLabelsBelow : ByteArray := prog_4_method_11_code
def yX2_countPlacedLabelsBelow : MethodName := ⟨RX2, "countPlacedLabelsBelow", "(I)I"⟩
abbrev cX2_countOfGroup : ByteArray := prog_4_method_12_code
def yX2_countOfGroup : MethodName := ⟨RX2, "countOfGroup", "(I)I"⟩
abbrev cX2_firstOfGroup : ByteArray := prog_4_method_13_code
def yX2_firstOfGroup : MethodName := ⟨RX2, "firstOfGroup", "(I)I"⟩
abbrev cX2_countPartsOfGroup : ByteArray := prog_4_method_14_code
def yX2_countPartsOfGroup : MethodName := ⟨RX2, "countPartsOfGroup", "(I)I"⟩
abbrev cX2_hasGroupIn : ByteArray := prog_4_method_15_code
def yX2_hasGroupIn : MethodName := ⟨RX2, "hasGroupIn", "(II)Z"⟩
abbrev cX2_countMeetings : ByteArray := prog_4_method_16_code
def yX2_countMeetings : MethodName := ⟨RX2, "countMeetings", "()I"⟩
abbrev cX2_countMeetingsBehind : ByteArray := prog_4_method_17_code
def yX2_countMeetingsBehind : MethodName := ⟨RX2, "countMeetingsBehind", "(I)I"⟩
abbrev cX2_digestOf : ByteArray := prog_4_method_18_code
def yX2_digestOf : MethodName := ⟨RX2, "digestOf", "(I)I"⟩
def RX3 : String := "SplitLeaks$Splitter"
def TX3 : u_T := fun k => match k with
  | 0 => ("SplitLeaks$Splitter", "rows", "LSplitLeaks$Rows;", true)
  | 1 => ("SplitLeaks$Splitter", "weights", "LSplitLeaks$Weights;", true)
  | 2 => ("SplitLeaks$Splitter", "draws", "LSplitLeaks$Draws;", true)
  | 3 => ("SplitLeaks$Splitter", "planned", "[I", true)
  | 4 => ("SplitLeaks$Splitter", "order", "[I", true)
  | 5 => ("SplitLeaks$Splitter", "length", "I", false)
  | 6 => ("SplitLeaks$Splitter", "held", "[I", true)
  | _ => ("SplitLeaks$Splitter", "latest", "[I", true)
def tyX3 : Nat → FieldType := fun k => match k with
  | 0 => .object "SplitLeaks$Rows"
  | 1 => .object "SplitLeaks$Weights"
  | 2 => .object "SplitLeaks$Draws"
  | 3 => .array .int
  | 4 => .array .int
  | 5 => .int
  | 6 => .array .int
  | _ => .array .int
abbrev wsX30 : List Cond := u_ws RX3 TX3 8
theorem nmX3 : ∀ a, a < 8 → ∀ b, b < 8 → a ≠ b → (TX3 a).2.1 ≠ (TX3 b).2.1 := by decide +kernel
theorem tyX3_ok : ∀ k, k < 8 → parseFieldDescriptor (TX3 k).2.2.1 = some (tyX3 k) := by decide +kernel
abbrev cX3_init : ByteArray := prog_5_method_1_code
def yX3_init : MethodName := ⟨RX3, "<init>", "(LSplitLeaks$Rows;LSplitLeaks$Weights;)V"⟩
abbrev cX3_settle : ByteArray := prog_5_method_2_code
def yX3_settle : MethodName := ⟨RX3, "settle", "()V"⟩
abbrev cX3_isSettled : ByteArray := prog_5_method_3_code
def yX3_isSettled : MethodName := ⟨RX3, "isSettled", "()Z"⟩
abbrev cX3_plan : ByteArray := prog_5_method_4_code
def yX3_plan : MethodName := ⟨RX3, "plan", "(IJI)V"⟩
abbrev cX3_planFolds : ByteArray := prog_5_method_5_code
def yX3_planFolds : MethodName := ⟨RX3, "planFolds", "(J)V"⟩
abbrev cX3_planNested : ByteArray := prog_5_method_6_code
def yX3_planNested : MethodName := ⟨RX3, "planNested", "(IJ)V"⟩
abbrev cX3_planPlain : ByteArray := prog_5_method_7_code
def yX3_planPlain : MethodName := ⟨RX3, "planPlain", "()V"⟩
abbrev cX3_planLabels : ByteArray := prog_5_method_8_code
def yX3_planLabels : MethodName := ⟨RX3, "planLabels", "()V"⟩
abbrev cX3_planGroups : ByteArray := prog_5_method_9_code
def yX3_planGroups : MethodName := ⟨RX3, "planGroups", "()V"⟩
abbrev cX3_planTimes : ByteArray := prog_5_method_10_code
def yX3_planTimes : MethodName := ⟨RX3, "planTimes", "(I)V"⟩
abbrev cX3_gatherAll : ByteArray := prog_5_method_11_code
def yX3_gatherAll : MethodName := ⟨RX3, "gatherAll", "()V"⟩
abbrev cX3_gatherLabel : ByteArray := prog_5_method_12_code
def yX3_gatherLabel : MethodName := ⟨RX3, "gatherLabel", "(I)V"⟩
abbrev cX3_gatherLabelInside : ByteArray := prog_5_method_13_code
def yX3_gatherLabelInside : MethodName := ⟨RX3, "gatherLabelInside", "(II)V"⟩
abbrev cX3_gatherGroups : ByteArray := prog_5_method_14_code
def yX3_gatherGroups : MethodName := ⟨RX3, "gatherGroups", "()V"⟩
abbrev cX3_fillByQuotas : ByteArray := prog_5_method_15_code
def yX3_fillByQuotas : MethodName := ⟨RX3, "fillByQuotas", "()V"⟩
abbrev cX3_dealFrom : ByteArray := prog_5_method_16_code
def yX3_dealFrom : MethodName := ⟨RX3, "dealFrom", "(I)I"⟩
abbrev cX3_neediestPart : ByteArray := prog_5_method_17_code
def yX3_neediestPart : MethodName := ⟨RX3, "neediestPart", "()I"⟩
abbrev cX3_need : ByteArray := prog_5_method_18_code
def yX3_need : MethodName := ⟨RX3, "need", "(I)I"⟩
abbrev cX3_placeGroup : ByteArray := prog_5_method_19_code
def yX3_placeGroup : MethodName := ⟨RX3, "placeGroup", "(II)V"⟩
abbrev cX3_sortByTime : ByteArray := prog_5_method_20_code
def yX3_sortByTime : MethodName := ⟨RX3, "sortByTime", "()V"⟩
abbrev cX3_joinLikeTimes : ByteArray := prog_5_method_21_code
def yX3_joinLikeTimes : MethodName := ⟨RX3, "joinLikeTimes", "()V"⟩
abbrev cX3_findLatest : ByteArray := prog_5_method_22_code
def yX3_findLatest : MethodName := ⟨RX3, "findLatest", "()V"⟩
abbrev cX3_isInGap : ByteArray := prog_5_method_23_code
def yX3_isInGap : MethodName := ⟨RX3, "isInGap", "(II)Z"⟩
def RX4 : String := "SplitLeaks$Steps"
def TX4 : u_T := fun k => match k with
  | 0 => ("SplitLeaks$Steps", "goesBy", "[I", true)
  | 1 => ("SplitLeaks$Steps", "size", "[I", true)
  | _ => ("SplitLeaks$Steps", "fitted", "[Z", true)
def tyX4 : Nat → FieldType := fun k => match k with
  | 0 => .array .int
  | 1 => .array .int
  | _ => .array .boolean
abbrev wsX40 : List Cond := u_ws RX4 TX4 3
theorem nmX4 : ∀ a, a < 3 → ∀ b, b < 3 → a ≠ b → (TX4 a).2.1 ≠ (TX4 b).2.1 := by decide +kernel
theorem tyX4_ok : ∀ k, k < 3 → parseFieldDescriptor (TX4 k).2.2.1 = some (tyX4 k) := by decide +kernel
abbrev cX4_init : ByteArray := prog_6_method_1_code
def yX4_init : MethodName := ⟨RX4, "<init>", "()V"⟩
abbrev cX4_isFittedItself : ByteArray := prog_6_method_2_code
def yX4_isFittedItself : MethodName := ⟨RX4, "isFittedItself", "(II)Z"⟩
abbrev cX4_addRow : ByteArray := prog_6_method_3_code
def yX4_addRow : MethodName := ⟨RX4, "addRow", "(II)I"⟩
abbrev cX4_isFitted : ByteArray := prog_6_method_4_code
def yX4_isFitted : MethodName := ⟨RX4, "isFitted", "(II)Z"⟩
def RX5 : String := "SplitLeaks$Weights"
def TX5 : u_T := fun k => match k with
  | 0 => ("SplitLeaks$Weights", "count", "I", false)
  | 1 => ("SplitLeaks$Weights", "sum", "I", false)
  | 2 => ("SplitLeaks$Weights", "weight", "[I", true)
  | 3 => ("SplitLeaks$Weights", "quotas", "[I", true)
  | _ => ("SplitLeaks$Weights", "rests", "[I", true)
def tyX5 : Nat → FieldType := fun k => match k with
  | 0 => .int
  | 1 => .int
  | 2 => .array .int
  | 3 => .array .int
  | _ => .array .int
abbrev wsX50 : List Cond := u_ws RX5 TX5 5
theorem nmX5 : ∀ a, a < 5 → ∀ b, b < 5 → a ≠ b → (TX5 a).2.1 ≠ (TX5 b).2.1 := by decide +kernel
theorem tyX5_ok : ∀ k, k < 5 → parseFieldDescriptor (TX5 k).2.2.1 = some (tyX5 k) := by decide +kernel
abbrev cX5_init : ByteArray := prog_7_method_1_code
def yX5_init : MethodName := ⟨RX5, "<init>", "()V"⟩
abbrev cX5_become : ByteArray := prog_7_method_2_code
def yX5_become : MethodName := ⟨RX5, "become", "(IIIII)V"⟩
abbrev cX5_becomeEven : ByteArray := prog_7_method_3_code
def yX5_becomeEven : MethodName := ⟨RX5, "becomeEven", "(I)V"⟩
abbrev cX5_apportion : ByteArray := prog_7_method_4_code
def yX5_apportion : MethodName := ⟨RX5, "apportion", "(I)V"⟩
abbrev cX5_withGreatestRest : ByteArray := prog_7_method_5_code
def yX5_withGreatestRest : MethodName := ⟨RX5, "withGreatestRest", "()I"⟩
def RX6 : String := "SplitLeaks"
def TX6 : u_T := fun k => match k with
  | 0 => ("SplitLeaks", "rows", "LSplitLeaks$Rows;", true)
  | 1 => ("SplitLeaks", "weights", "LSplitLeaks$Weights;", true)
  | 2 => ("SplitLeaks", "splitter", "LSplitLeaks$Splitter;", true)
  | 3 => ("SplitLeaks", "steps", "LSplitLeaks$Steps;", true)
  | 4 => ("SplitLeaks", "finder", "LSplitLeaks$Finder;", true)
  | _ => ("SplitLeaks", "nearness", "I", false)
def tyX6 : Nat → FieldType := fun k => match k with
  | 0 => .object "SplitLeaks$Rows"
  | 1 => .object "SplitLeaks$Weights"
  | 2 => .object "SplitLeaks$Splitter"
  | 3 => .object "SplitLeaks$Steps"
  | 4 => .object "SplitLeaks$Finder"
  | _ => .int
abbrev wsX60 : List Cond := u_ws RX6 TX6 6
theorem nmX6 : ∀ a, a < 6 → ∀ b, b < 6 → a ≠ b → (TX6 a).2.1 ≠ (TX6 b).2.1 := by decide +kernel
theorem tyX6_ok : ∀ k, k < 6 → parseFieldDescriptor (TX6 k).2.2.1 = some (tyX6 k) := by decide +kernel
abbrev cX6_init : ByteArray := prog_1_method_1_code
def yX6_init : MethodName := ⟨RX6, "<init>", "()V"⟩
abbrev cX6_row : ByteArray := prog_1_method_2_code
def yX6_row : MethodName := ⟨RX6, "row", "(III)I"⟩
abbrev cX6_column : ByteArray := prog_1_method_3_code
def yX6_column : MethodName := ⟨RX6, "column", "(IIJ)I"⟩
abbrev cX6_word : ByteArray := prog_1_method_4_code
def yX6_word : MethodName := ⟨RX6, "word", "(IIZ)I"⟩
abbrev cX6_parts : ByteArray := prog_1_method_5_code
def yX6_parts : MethodName := ⟨RX6, "parts", "(IIIII)I"⟩
abbrev cX6_quota : ByteArray := prog_1_method_6_code
def yX6_quota : MethodName := ⟨RX6, "quota", "(II)I"⟩
abbrev cX6_split : ByteArray := prog_1_method_7_code
def yX6_split : MethodName := ⟨RX6, "split", "(IJI)I"⟩
abbrev cX6_folds : ByteArray := prog_1_method_8_code
def yX6_folds : MethodName := ⟨RX6, "folds", "(IJ)I"⟩
abbrev cX6_nested : ByteArray := prog_1_method_9_code
def yX6_nested : MethodName := ⟨RX6, "nested", "(IIJ)I"⟩
abbrev cX6_of : ByteArray := prog_1_method_10_code
def yX6_of : MethodName := ⟨RX6, "of", "(I)I"⟩
abbrev cX6_many : ByteArray := prog_1_method_11_code
def yX6_many : MethodName := ⟨RX6, "many", "(II)I"⟩
abbrev cX6_share : ByteArray := prog_1_method_12_code
def yX6_share : MethodName := ⟨RX6, "share", "(III)I"⟩
abbrev cX6_over : ByteArray := prog_1_method_13_code
def yX6_over : MethodName := ⟨RX6, "over", "(I)I"⟩
abbrev cX6_near : ByteArray := prog_1_method_14_code
def yX6_near : MethodName := ⟨RX6, "near", "(I)I"⟩
abbrev cX6_fit : ByteArray := prog_1_method_15_code
def yX6_fit : MethodName := ⟨RX6, "fit", "(II)I"⟩
abbrev cX6_base : ByteArray := prog_1_method_16_code
def yX6_base : MethodName := ⟨RX6, "base", "(II)I"⟩
abbrev cX6_leaks : ByteArray := prog_1_method_17_code
def yX6_leaks : MethodName := ⟨RX6, "leaks", "(I)I"⟩
abbrev cX6_leak : ByteArray := prog_1_method_18_code
def yX6_leak : MethodName := ⟨RX6, "leak", "(III)I"⟩
abbrev cX6_meets : ByteArray := prog_1_method_19_code
def yX6_meets : MethodName := ⟨RX6, "meets", "()I"⟩
abbrev cX6_same : ByteArray := prog_1_method_20_code
def yX6_same : MethodName := ⟨RX6, "same", "(IJI)Z"⟩
abbrev cX6_told : ByteArray := prog_1_method_21_code
def yX6_told : MethodName := ⟨RX6, "told", "(I)I"⟩
abbrev cX6_isWithin : ByteArray := prog_1_method_22_code
def yX6_isWithin : MethodName := ⟨RX6, "isWithin", "(II)Z"⟩
abbrev cX6_isWeight : ByteArray := prog_1_method_23_code
def yX6_isWeight : MethodName := ⟨RX6, "isWeight", "(I)Z"⟩
abbrev cX6_isSplit : ByteArray := prog_1_method_24_code
def yX6_isSplit : MethodName := ⟨RX6, "isSplit", "(II)Z"⟩
abbrev cX6_isFolds : ByteArray := prog_1_method_25_code
def yX6_isFolds : MethodName := ⟨RX6, "isFolds", "(I)Z"⟩
abbrev cX6_isLeakKind : ByteArray := prog_1_method_26_code
def yX6_isLeakKind : MethodName := ⟨RX6, "isLeakKind", "(I)Z"⟩
abbrev cX6_commonDivisor : ByteArray := prog_1_method_27_code
def yX6_commonDivisor : MethodName := ⟨RX6, "commonDivisor", "(II)I"⟩
def RX7 : String := "SplitLeaksModel"
def TX7 : u_T := fun k => match k with
  | 0 => ("SplitLeaksModel", "rows", "I", false)
  | 1 => ("SplitLeaksModel", "group", "[I", true)
  | 2 => ("SplitLeaksModel", "label", "[I", true)
  | 3 => ("SplitLeaksModel", "time", "[I", true)
  | 4 => ("SplitLeaksModel", "number", "[J", true)
  | 5 => ("SplitLeaksModel", "words", "[J", true)
  | 6 => ("SplitLeaksModel", "part", "[I", true)
  | 7 => ("SplitLeaksModel", "parts", "I", false)
  | 8 => ("SplitLeaksModel", "weights", "I", false)
  | 9 => ("SplitLeaksModel", "weight", "[I", true)
  | 10 => ("SplitLeaksModel", "nearness", "I", false)
  | 11 => ("SplitLeaksModel", "fitted", "[Z", true)
  | 12 => ("SplitLeaksModel", "by", "[I", true)
  | 13 => ("SplitLeaksModel", "thrown", "I", false)
  | 14 => ("SplitLeaksModel", "quotas", "[I", true)
  | 15 => ("SplitLeaksModel", "more", "[Z", true)
  | 16 => ("SplitLeaksModel", "z", "J", false)
  | 17 => ("SplitLeaksModel", "dealt", "[I", true)
  | 18 => ("SplitLeaksModel", "things", "[I", true)
  | 19 => ("SplitLeaksModel", "many", "I", false)
  | 20 => ("SplitLeaksModel", "has", "[I", true)
  | 21 => ("SplitLeaksModel", "ahead", "I", false)
  | 22 => ("SplitLeaksModel", "one", "I", false)
  | _ => ("SplitLeaksModel", "two", "I", false)
def tyX7 : Nat → FieldType := fun k => match k with
  | 0 => .int
  | 1 => .array .int
  | 2 => .array .int
  | 3 => .array .int
  | 4 => .array .long
  | 5 => .array .long
  | 6 => .array .int
  | 7 => .int
  | 8 => .int
  | 9 => .array .int
  | 10 => .int
  | 11 => .array .boolean
  | 12 => .array .int
  | 13 => .int
  | 14 => .array .int
  | 15 => .array .boolean
  | 16 => .long
  | 17 => .array .int
  | 18 => .array .int
  | 19 => .int
  | 20 => .array .int
  | 21 => .int
  | 22 => .int
  | _ => .int
abbrev wsX70 : List Cond := u_ws RX7 TX7 24
theorem nmX7 : ∀ a, a < 24 → ∀ b, b < 24 → a ≠ b → (TX7 a).2.1 ≠ (TX7 b).2.1 := by decide +kernel
theorem tyX7_ok : ∀ k, k < 24 → parseFieldDescriptor (TX7 k).2.2.1 = some (tyX7 k) := by decide +kernel
abbrev cX7_init : ByteArray := prog_9_method_1_code
def yX7_init : MethodName := ⟨RX7, "<init>", "()V"⟩
abbrev cX7_thrown : ByteArray := prog_9_method_2_code
def yX7_thrown : MethodName := ⟨RX7, "thrown", "()I"⟩
abbrev cX7_in : ByteArray := prog_9_method_3_code
def yX7_in : MethodName := ⟨RX7, "in", "(III)Z"⟩
abbrev cX7_isRow : ByteArray := prog_9_method_4_code
def yX7_isRow : MethodName := ⟨RX7, "isRow", "(I)Z"⟩
abbrev cX7_row : ByteArray := prog_9_method_5_code
def yX7_row : MethodName := ⟨RX7, "row", "(III)I"⟩
abbrev cX7_column : ByteArray := prog_9_method_6_code
def yX7_column : MethodName := ⟨RX7, "column", "(IIJ)I"⟩
abbrev cX7_bits : ByteArray := prog_9_method_7_code
def yX7_bits : MethodName := ⟨RX7, "bits", "(J)I"⟩
abbrev cX7_word : ByteArray := prog_9_method_8_code
def yX7_word : MethodName := ⟨RX7, "word", "(IIZ)I"⟩
abbrev cX7_parts : ByteArray := prog_9_method_9_code
def yX7_parts : MethodName := ⟨RX7, "parts", "(IIIII)I"⟩
abbrev cX7_quotasOf : ByteArray := prog_9_method_10_code
def yX7_quotasOf : MethodName := ⟨RX7, "quotasOf", "(I)V"⟩
abbrev cX7_quota : ByteArray := prog_9_method_11_code
def yX7_quota : MethodName := ⟨RX7, "quota", "(II)I"⟩
abbrev cX7_draw : ByteArray := prog_9_method_12_code
def yX7_draw : MethodName := ⟨RX7, "draw", "(I)I"⟩
abbrev cX7_shuffle : ByteArray := prog_9_method_13_code
def yX7_shuffle : MethodName := ⟨RX7, "shuffle", "()V"⟩
abbrev cX7_give : ByteArray := prog_9_method_14_code
def yX7_give : MethodName := ⟨RX7, "give", "()V"⟩
abbrev cX7_plain : ByteArray := prog_9_method_15_code
def yX7_plain : MethodName := ⟨RX7, "plain", "()V"⟩
abbrev cX7_byGroups : ByteArray := prog_9_method_16_code
def yX7_byGroups : MethodName := ⟨RX7, "byGroups", "()V"⟩
abbrev cX7_byTimes : ByteArray := prog_9_method_17_code
def yX7_byTimes : MethodName := ⟨RX7, "byTimes", "(I)V"⟩
abbrev cX7_ofLabel : ByteArray := prog_9_method_18_code
def yX7_ofLabel : MethodName := ⟨RX7, "ofLabel", "(IZ)V"⟩
abbrev cX7_deal : ByteArray := prog_9_method_19_code
def yX7_deal : MethodName := ⟨RX7, "deal", "(IJI)Z"⟩
abbrev cX7_take : ByteArray := prog_9_method_20_code
def yX7_take : MethodName := ⟨RX7, "take", "()I"⟩
abbrev cX7_split : ByteArray := prog_9_method_21_code
def yX7_split : MethodName := ⟨RX7, "split", "(IJI)I"⟩
abbrev cX7_same : ByteArray := prog_9_method_22_code
def yX7_same : MethodName := ⟨RX7, "same", "(IJI)Z"⟩
abbrev cX7_round : ByteArray := prog_9_method_23_code
def yX7_round : MethodName := ⟨RX7, "round", "(IZ)I"⟩
abbrev cX7_folds : ByteArray := prog_9_method_24_code
def yX7_folds : MethodName := ⟨RX7, "folds", "(IJ)I"⟩
abbrev cX7_nested : ByteArray := prog_9_method_25_code
def yX7_nested : MethodName := ⟨RX7, "nested", "(IIJ)I"⟩
abbrev cX7_of : ByteArray := prog_9_method_26_code
def yX7_of : MethodName := ⟨RX7, "of", "(I)I"⟩
abbrev cX7_many : ByteArray := prog_9_method_27_code
def yX7_many : MethodName := ⟨RX7, "many", "(II)I"⟩
abbrev cX7_share : ByteArray := prog_9_method_28_code
def yX7_share : MethodName := ⟨RX7, "share", "(III)I"⟩
abbrev cX7_over : ByteArray := prog_9_method_29_code
def yX7_over : MethodName := ⟨RX7, "over", "(I)I"⟩
abbrev cX7_near : ByteArray := prog_9_method_30_code
def yX7_near : MethodName := ⟨RX7, "near", "(I)I"⟩
abbrev cX7_fit : ByteArray := prog_9_method_31_code
def yX7_fit : MethodName := ⟨RX7, "fit", "(II)I"⟩
abbrev cX7_base : ByteArray := prog_9_method_32_code
def yX7_base : MethodName := ⟨RX7, "base", "(II)I"⟩
abbrev cX7_isEqual : ByteArray := prog_9_method_33_code
def yX7_isEqual : MethodName := ⟨RX7, "isEqual", "(II)Z"⟩
abbrev cX7_areApart : ByteArray := prog_9_method_34_code
def yX7_areApart : MethodName := ⟨RX7, "areApart", "(II)Z"⟩
abbrev cX7_areNear : ByteArray := prog_9_method_35_code
def yX7_areNear : MethodName := ⟨RX7, "areNear", "(II)Z"⟩
abbrev cX7_tell : ByteArray := prog_9_method_36_code
def yX7_tell : MethodName := ⟨RX7, "tell", "(III)V"⟩
abbrev cX7_pairs : ByteArray := prog_9_method_37_code
def yX7_pairs : MethodName := ⟨RX7, "pairs", "(ZI)V"⟩
abbrev cX7_groups : ByteArray := prog_9_method_38_code
def yX7_groups : MethodName := ⟨RX7, "groups", "(I)V"⟩
abbrev cX7_late : ByteArray := prog_9_method_39_code
def yX7_late : MethodName := ⟨RX7, "late", "(I)V"⟩
abbrev cX7_columns : ByteArray := prog_9_method_40_code
def yX7_columns : MethodName := ⟨RX7, "columns", "(I)V"⟩
abbrev cX7_steps : ByteArray := prog_9_method_41_code
def yX7_steps : MethodName := ⟨RX7, "steps", "(I)V"⟩
abbrev cX7_look : ByteArray := prog_9_method_42_code
def yX7_look : MethodName := ⟨RX7, "look", "(II)V"⟩
abbrev cX7_leaks : ByteArray := prog_9_method_43_code
def yX7_leaks : MethodName := ⟨RX7, "leaks", "(I)I"⟩
abbrev cX7_leak : ByteArray := prog_9_method_44_code
def yX7_leak : MethodName := ⟨RX7, "leak", "(III)I"⟩
abbrev cX7_digest : ByteArray := prog_9_method_45_code
def yX7_digest : MethodName := ⟨RX7, "digest", "(I)I"⟩
abbrev cX7_meets : ByteArray := prog_9_method_46_code
def yX7_meets : MethodName := ⟨RX7, "meets", "()I"⟩
abbrev cX7_told : ByteArray := prog_9_method_47_code
def yX7_told : MethodName := ⟨RX7, "told", "(I)I"⟩
def RJ13 : String := "java/lang/Long"
def TJ13 : u_T := fun k => match k with
  | _ => ("", "", "", false)
def tyJ13 : Nat → FieldType := fun k => match k with
  | _ => .int
abbrev wsJ130 : List Cond := u_ws RJ13 TJ13 0
theorem nmJ13 : ∀ a, a < 0 → ∀ b, b < 0 → a ≠ b → (TJ13 a).2.1 ≠ (TJ13 b).2.1 := by decide +kernel
theorem tyJ13_ok : ∀ k, k < 0 → parseFieldDescriptor (TJ13 k).2.2.1 = some (tyJ13 k) := by decide +kernel
abbrev cJ13_bitCount_95d88 : ByteArray := prog_14_method_50_code
def yJ13_bitCount_95d88 : MethodName := ⟨RJ13, "bitCount", "(J)I"⟩
def RJ0 : String := "java/lang/String"
def TJ0 : u_T := fun k => match k with
  | _ => ("", "", "", false)
def tyJ0 : Nat → FieldType := fun k => match k with
  | _ => .int
abbrev wsJ00 : List Cond := u_ws RJ0 TJ0 0
theorem nmJ0 : ∀ a, a < 0 → ∀ b, b < 0 → a ≠ b → (TJ0 a).2.1 ≠ (TJ0 b).2.1 := by decide +kernel
theorem tyJ0_ok : ∀ k, k < 0 → parseFieldDescriptor (TJ0 k).2.2.1 = some (tyJ0 k) := by decide +kernel
def RL : String := "SplitLeaksLaw"
abbrev cL_share : ByteArray := method_3_code
def yL_share : MethodName := ⟨RL, "share", "(LSplitLeaks;III[J)I"⟩
abbrev cL_law : ByteArray := code
def yL_law : MethodName := ⟨RL, "law", "([I)Z"⟩
abbrev vwCl : List vw_C := [(RX0, TX0, 1), (RX1, TX1, 6), (RX2, TX2, 8), (RX3, TX3, 8), (RX4, TX4, 3), (RX5, TX5, 5), (RX6, TX6, 6), (RX7, TX7, 24)]
end
section
/-! THE WORDS of the tables, of the kinds that are used: WD U says that all hold in U; they hold in every state that the machine comes to -/
def en_kind : Jvm.Cond → Bool
  | .initialized _ | .code _ _ _ _ | .methodLink _ _ _ | .methodLinkNest _ _ _ _ | .static _ | .instanceMethod _ | .selects _ _ _ | .fieldLink _ _ _ _ _ | .lays _ _ _ _ | .laysFinal _ _ _ _ | .instantiable _ _ | .classLink _ _ _ | .constant _ _ _ | .constantLong _ _ _ | .arrayClass _ => true
  | _ => false
def en_WD (U : State) : Prop := ∀ w ∈ lw_tbl, en_kind w = true → w.before #[] U = true
theorem en_kind_ac {ty : FieldType} {A A' : Array Value} {u U : State} (hv : u.vm = U.vm) (hb : (Jvm.Cond.arrayClass ty).before A u = true) : (Jvm.Cond.arrayClass ty).before A' U = true := by
  have h2 : (Jvm.Cond.arrayClass ty).before A (u.setVm u.vm) = true := hb
  rw [hv] at h2
  exact h2
theorem en_kind_on {w : Jvm.Cond} (h : en_kind w = true) {A A' : Array Value} {u U : State} (hv : u.vm = U.vm) (hb : w.before A u = true) : w.before A' U = true := by
  cases w <;> first | exact va_tabs rfl hv hb | exact en_kind_ac hv hb | (simp [en_kind] at h; done)
theorem en_kind_warm {w : Jvm.Cond} (h : en_kind w = true) {s U : State} (hW : s.WarmedH U.vm) (hb : w.before #[] s = true) : w.before #[] U = true := by
  cases w <;> first | (simp [en_kind] at h; done) | exact va_Nw.warmM hW hb | exact word_at hW (Or.inr ⟨_, rfl⟩) hb | exact word_at hW (Or.inl rfl) hb
theorem en_WD1 : ∀ u U : State, u.vm = U.vm → en_WD u → en_WD U := fun _ _ h hw w hm hk => en_kind_on hk h (hw w hm hk)
theorem en_WD2 : ∀ u U : State, u.WarmedH U.vm → en_WD u → en_WD U := fun _ _ h hw w hm hk => en_kind_warm hk h (hw w hm hk)
theorem en_wd {U : State} (h : en_WD U) (i : Nat) {w : Jvm.Cond} (hi : lw_tbl[i]? = some w) (hk : en_kind w = true) (args : Array Value) : w.before args U = true := en_kind_on hk rfl (h w (List.mem_of_getElem? hi) hk)
theorem en_lay {U : State} (h : en_WD U) {C : String} {T : u_T} {N : Nat} (hm : ∀ w ∈ u_ws C T N, w ∈ lw_tbl) (args : Array Value) : ∀ w ∈ u_ws C T N, w.before args U = true := fun w hw => by
  have hk : en_kind w = true := by
    obtain ⟨k, -, rfl⟩ := List.mem_map.mp hw
    unfold u_lay
    split <;> rfl
  exact en_kind_on hk rfl (h w (hm w hw) hk)
theorem la_X0 : ∀ w ∈ u_ws RX0 TX0 1, w ∈ lw_tbl := by decide +kernel
theorem la_X1 : ∀ w ∈ u_ws RX1 TX1 6, w ∈ lw_tbl := by decide +kernel
theorem la_X2 : ∀ w ∈ u_ws RX2 TX2 8, w ∈ lw_tbl := by decide +kernel
theorem la_X3 : ∀ w ∈ u_ws RX3 TX3 8, w ∈ lw_tbl := by decide +kernel
theorem la_X4 : ∀ w ∈ u_ws RX4 TX4 3, w ∈ lw_tbl := by decide +kernel
theorem la_X5 : ∀ w ∈ u_ws RX5 TX5 5, w ∈ lw_tbl := by decide +kernel
theorem la_X6 : ∀ w ∈ u_ws RX6 TX6 6, w ∈ lw_tbl := by decide +kernel
theorem la_X7 : ∀ w ∈ u_ws RX7 TX7 24, w ∈ lw_tbl := by decide +kernel
end
