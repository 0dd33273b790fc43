/-! THE ENGINE: worlds by places. A virtual world is a list of cells; a reference in it is a place in the list; 'ad' says at which address each place lies. en_st: what one instruction asks; en_vc: what a run of them asks; en_run: if that holds, the machine's own W holds. -/
def en_v (ad : Nat → Nat) (v : Value) : Value := match v with
  | .ref a => .ref (ad a)
  | .int x => .int x
  | .long x => .long x
  | .float x => .float x
  | .double x => .double x
  | .null => .null
  | .retAddr x => .retAddr x
theorem en_v_cat (ad : Nat → Nat) (v : Value) : (en_v ad v).category = v.category := by cases v <;> rfl
def en_e (ad : Nat → Nat) (dT : Nat → Nat) (x : va_E) : va_E := match x with
  | .inl a => .inl (dT a.1, a.2)
  | .inr o => .inr (o.1, o.2.map (en_v ad))
def en_w (ad : Nat → Nat) (dT : Nat → Nat) (ws : List va_E) : va_W := ws.mapIdx (fun i x => (ad i, en_e ad dT x))
theorem en_w_get (ad dT : Nat → Nat) (ws : List va_E) (k : Nat) : (en_w ad dT ws)[k]? = (ws[k]?).map (fun x => (ad k, en_e ad dT x)) := by
  unfold en_w
  rw [List.getElem?_mapIdx]
theorem en_w_some {ad dT : Nat → Nat} {ws : List va_E} {k : Nat} {x : va_E} (h : ws[k]? = some x) : (en_w ad dT ws)[k]? = some (ad k, en_e ad dT x) := by
  rw [en_w_get, h]; rfl
theorem en_w_len (ad dT : Nat → Nat) (ws : List va_E) : (en_w ad dT ws).length = ws.length := by
  unfold en_w
  exact List.length_mapIdx
theorem en_w_set (ad dT : Nat → Nat) (ws : List va_E) (a : Nat) (x : va_E) : en_w ad dT (ws.set a x) = (en_w ad dT ws).set a (ad a, en_e ad dT x) := by
  apply List.ext_getElem?
  intro k
  rw [en_w_get, List.getElem?_set, List.getElem?_set, en_w_len, en_w_get]
  by_cases h : a = k
  · subst h
    by_cases h2 : a < ws.length
    · simp [h2]
    · simp [h2]
  · simp [h]
abbrev en_L : Type := List (Nat × Value)
def en_l (ad : Nat → Nat) (lv : en_L) : en_L := lv.map (fun q => (q.1, en_v ad q.2))
def en_get : en_L → Nat → Option Value
  | [], _ => none
  | q :: t, i => bif Nat.beq q.1 i then some q.2 else en_get t i
theorem en_get_mem : ∀ {lv : en_L} {i : Nat} {v : Value}, en_get lv i = some v → (i, v) ∈ lv
  | [], _, _, h => by simp [en_get] at h
  | q :: t, i, v, h => by
    simp only [en_get] at h
    cases hq : Nat.beq q.1 i with
    | true =>
      rw [hq] at h
      simp only [cond_true] at h
      have h1 : q.1 = i := Nat.eq_of_beq_eq_true hq
      cases h
      subst h1
      exact List.mem_cons_self
    | false =>
      rw [hq] at h
      simp only [cond_false] at h
      exact List.mem_cons_of_mem _ (en_get_mem h)
theorem en_at {ad : Nat → Nat} {ls : Array Slot} {nL : Nat} {lv : en_L} {i : Nat} {v : Value} (hl : lv_has ls nL (en_l ad lv)) (h : en_get lv i = some v) : ls[i]? = some (.val (en_v ad v)) :=
  hl.2.2 (i, en_v ad v) (List.mem_map.mpr ⟨(i, v), en_get_mem h, rfl⟩)
def en_bad (c i : Nat) (q : Nat × Value) : Bool := Nat.beq q.1 i || (Nat.beq (q.1 + 1) i && Nat.beq q.2.category 2) || (Nat.beq c 2 && Nat.beq q.1 (i + 1))
def en_clr (c i : Nat) : en_L → en_L
  | [] => []
  | q :: t => bif en_bad c i q then en_clr c i t else q :: en_clr c i t
def en_put (c i : Nat) (v : Value) : en_L → en_L
  | [] => [(i, v)]
  | q :: t => bif Nat.beq q.1 i then (i, v) :: en_clr c i t else bif en_bad c i q then en_put c i v t else q :: en_put c i v t
theorem en_clr_mem {c i : Nat} : ∀ {lv : en_L} {q : Nat × Value}, q ∈ en_clr c i lv → q ∈ lv ∧ en_bad c i q = false
  | [], q, h => by simp [en_clr] at h
  | r :: t, q, h => by
    simp only [en_clr] at h
    cases hr : en_bad c i r with
    | true =>
      rw [hr] at h
      have := en_clr_mem (lv := t) h
      exact ⟨List.mem_cons_of_mem _ this.1, this.2⟩
    | false =>
      rw [hr] at h
      simp only [cond_false] at h
      rcases List.mem_cons.mp h with rfl | h
      · exact ⟨List.mem_cons_self, hr⟩
      · have := en_clr_mem (lv := t) h
        exact ⟨List.mem_cons_of_mem _ this.1, this.2⟩
theorem en_put_mem {c i : Nat} {v : Value} : ∀ {lv : en_L} {q : Nat × Value}, q ∈ en_put c i v lv → q = (i, v) ∨ (q ∈ lv ∧ en_bad c i q = false)
  | [], q, h => by
    simp only [en_put, List.mem_singleton] at h
    exact Or.inl h
  | r :: t, q, h => by
    simp only [en_put] at h
    cases hr : Nat.beq r.1 i with
    | true =>
      rw [hr] at h
      simp only [cond_true] at h
      rcases List.mem_cons.mp h with rfl | h
      · exact Or.inl rfl
      · have := en_clr_mem h
        exact Or.inr ⟨List.mem_cons_of_mem _ this.1, this.2⟩
    | false =>
      rw [hr] at h
      simp only [cond_false] at h
      cases hb : en_bad c i r with
      | true =>
        rw [hb] at h
        simp only [cond_true] at h
        rcases en_put_mem (lv := t) h with h | h
        · exact Or.inl h
        · exact Or.inr ⟨List.mem_cons_of_mem _ h.1, h.2⟩
      | false =>
        rw [hb] at h
        simp only [cond_false] at h
        rcases List.mem_cons.mp h with rfl | h
        · exact Or.inr ⟨List.mem_cons_self, hb⟩
        · rcases en_put_mem (lv := t) h with h | h
          · exact Or.inl h
          · exact Or.inr ⟨List.mem_cons_of_mem _ h.1, h.2⟩
theorem en_bad_f {c i : Nat} {q : Nat × Value} (h : en_bad c i q = false) : ¬ q.1 = i ∧ ¬ (q.1 + 1 = i ∧ q.2.category = 2) ∧ ¬ (c = 2 ∧ q.1 = i + 1) := by
  simp only [en_bad, Bool.or_eq_false_iff, Bool.and_eq_false_iff] at h
  obtain ⟨⟨h1, h2⟩, h3⟩ := h
  refine ⟨Nat.ne_of_beq_eq_false h1, fun z => ?_, fun z => ?_⟩
  · rcases h2 with h2 | h2
    · exact Nat.ne_of_beq_eq_false h2 z.1
    · exact Nat.ne_of_beq_eq_false h2 z.2
  · rcases h3 with h3 | h3
    · exact Nat.ne_of_beq_eq_false h3 z.1
    · exact Nat.ne_of_beq_eq_false h3 z.2
/-- the locals behind a store of a value of one word -/
theorem en_put1 {ad : Nat → Nat} {ls' : Array Slot} {nL i : Nat} {v : Value} {lv : en_L} (h : lv_has ls' nL ((i, en_v ad v) :: (en_l ad lv).filter (fun q => !(q.1 == i) && !(q.1 + 1 == i && q.2.category == 2)))) : lv_has ls' nL (en_l ad (en_put 1 i v lv)) := by
  refine ⟨h.1, h.2.1, fun q hq => ?_⟩
  obtain ⟨r, hr, rfl⟩ := List.mem_map.mp hq
  rcases en_put_mem hr with rfl | ⟨h1, h2⟩
  · exact h.2.2 _ List.mem_cons_self
  · obtain ⟨b1, b2, -⟩ := en_bad_f h2
    refine h.2.2 _ (List.mem_cons_of_mem _ (List.mem_filter.mpr ⟨List.mem_map.mpr ⟨r, h1, rfl⟩, ?_⟩))
    have e1 : (r.1 == i) = false := by simpa using b1
    have e2 : (r.1 + 1 == i && (en_v ad r.2).category == 2) = false := by
      rw [en_v_cat]
      rw [Bool.eq_false_iff]
      intro z
      simp only [Bool.and_eq_true, beq_iff_eq] at z
      exact b2 z
    simp only [e1, e2, Bool.not_false, Bool.and_self]
theorem en_put2 {ad : Nat → Nat} {ls' : Array Slot} {nL i : Nat} {v : Value} {lv : en_L} (h : lv_has ls' nL ((i, en_v ad v) :: (en_l ad lv).filter (fun q => !(q.1 == i) && (!(q.1 == i + 1) && !(q.1 + 1 == i && q.2.category == 2))))) : lv_has ls' nL (en_l ad (en_put 2 i v lv)) := by
  refine ⟨h.1, h.2.1, fun q hq => ?_⟩
  obtain ⟨r, hr, rfl⟩ := List.mem_map.mp hq
  rcases en_put_mem hr with rfl | ⟨h1, h2⟩
  · exact h.2.2 _ List.mem_cons_self
  · obtain ⟨b1, b2, b3⟩ := en_bad_f h2
    refine h.2.2 _ (List.mem_cons_of_mem _ (List.mem_filter.mpr ⟨List.mem_map.mpr ⟨r, h1, rfl⟩, ?_⟩))
    have e1 : (r.1 == i) = false := by simpa using b1
    have e3 : (r.1 == i + 1) = false := by
      rw [Bool.eq_false_iff]
      intro z
      exact b3 ⟨rfl, by simpa using z⟩
    have e2 : (r.1 + 1 == i && (en_v ad r.2).category == 2) = false := by
      rw [en_v_cat]
      rw [Bool.eq_false_iff]
      intro z
      simp only [Bool.and_eq_true, beq_iff_eq] at z
      exact b2 z
    simp only [e1, e2, e3, Bool.not_false, Bool.and_self]
