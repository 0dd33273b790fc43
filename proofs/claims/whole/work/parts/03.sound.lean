/-! THE ENGINE IS SOUND: what it asks gives the machine's own W -/
def en_ty (dT : Nat → Nat) : List (ClassId × FieldType) := [(dT 0, .int), (dT 1, .long), (dT 2, .boolean)]
def en_OK (D : va_G) (cl : List vw_C) (dT : Nat → Nat) (A : Nat → Prop) (t : en_T) (n0 : Nat) (ad : Nat → Nat) (p : Program) (l : Launch) (e : Env) (R : Room) (s : State) (m : MethodId) (args : Array Value) (below : List Frame) (meth : Method) (c : Code) (Q : State → Prop) : en_K := fun cs sl pc lv st ws =>
  n0 ≤ ws.length → cs ≤ t.1.2.1 → sl ≤ t.1.2.2 → ∀ (ad1 : Nat → Nat) (H : Heap) (locs : List Loc) (ls : Array Slot), (∀ k, k < n0 → ad1 k = ad k) → va_P D cl (en_w ad1 dT ws) H → va_D A (en_w ad1 dT ws) → va_S A s.heap H locs → lv_has ls t.1.1 (en_l ad1 lv) → W p l e R s m args below meth c H locs cs sl Q (F0 m pc ls (st.map (en_v ad1)))
/-- a contract's start and end, over a virtual world -/
def en_P (WD : State → Prop) (D : va_G) (cl : List vw_C) (dT : Nat → Nat) (ad : Nat → Nat) (av : List Value) (ws : List va_E) (sz : Nat) : Array Value → State → Prop := va_Pc (av.map (en_v ad)) (fun U => U.heap.size = sz ∧ va_P D cl (en_w ad dT ws) U.heap ∧ va_K D cl (en_ty dT) U ∧ va_D (fun _ => True) (en_w ad dT ws) ∧ WD U)
def en_Q (D : va_G) (cl : List vw_C) (dT : Nat → Nat) (ad : Nat → Nat) (n0 : Nat) (G : Option Value → List va_E → Prop) (A : Nat → Prop) : Array Value → State → Outcome → State → Prop := fun _ st oc t =>
  (∃ (v : Option Value) (w : List va_E) (ad1 : Nat → Nat), oc = .returned (v.map (en_v ad1)) ∧ G v w ∧ n0 ≤ w.length ∧ (∀ k, k < n0 → ad1 k = ad k) ∧ va_P D cl (en_w ad1 dT w) t.heap ∧ va_K D cl (en_ty dT) t ∧ va_D A (en_w ad1 dT w)) ∧ va_F A st t
def en_CT (WD : State → Prop) (D : va_G) (cl : List vw_C) (dT : Nat → Nat) (l : Launch) (y : MethodName) (bytes : ByteArray) (maxL : Nat) (ret : Option FieldType) (rm : Room) (f : List Value → List va_E → (Option Value → List va_E → Prop) → Prop) : Prop :=
  ∀ (ad : Nat → Nat) (sz : Nat) (av : List Value) (ws : List va_E) (G : Option Value → List va_E → Prop), f av ws G → Met l y [Jvm.Cond.code y bytes maxL ret] rm (en_P WD D cl dT ad av ws sz) (en_Q D cl dT ad ws.length G (va_A (en_w ad dT ws) sz)) rm.cells rm.slots (va_A (en_w ad dT ws) sz)
/-- what the tables say of a field, of a constant, of a callee, of a class that is made -/
def en_fok (cl : List vw_C) (s : State) (args : Array Value) (meth : Method) (own : String) (q : Nat × Nat × Nat × FieldType × Bool) : Prop :=
  ∃ (C : String) (T : u_T) (N : Nat) (Ts : List Jvm.Cond) (ty0 : Nat → FieldType), cl[q.2.1]? = some (C, T, N) ∧ q.2.2.1 < N ∧ (∀ w ∈ Ts, w.before args s = true) ∧ (∀ w ∈ u_ws C T N, w ∈ Ts) ∧ (Jvm.Cond.fieldLink own q.1 (T q.2.2.1).1 (T q.2.2.1).2.1 (T q.2.2.1).2.2.1).before args s = true ∧ (∀ k, k < N → parseFieldDescriptor (T k).2.2.1 = some (ty0 k)) ∧ ty0 q.2.2.1 = q.2.2.2.1 ∧ (∀ a, a < N → ∀ b, b < N → a ≠ b → (T a).2.1 ≠ (T b).2.1) ∧
    (q.2.2.2.2 = true → (T q.2.2.1).2.2.2 = false ∨ ((T q.2.2.1).2.2.2 = true ∧ meth.name = "<init>" ∧ (T q.2.2.1).1 = own))
def en_cok (s : State) (args : Array Value) (own : String) (q : Nat × Value) : Prop := match q.2 with
  | .int x => (Jvm.Cond.constant own q.1 x).before args s = true
  | .long x => (Jvm.Cond.constantLong own q.1 x).before args s = true
  | _ => True
def en_nok (cl : List vw_C) (s : State) (args : Array Value) (own : String) (q : Nat × Nat × Nat × List Value) : Prop :=
  ∃ (C : String) (T : u_T) (Ts : List Jvm.Cond) (ty0 : Nat → FieldType), cl[q.2.1]? = some (C, T, q.2.2.1) ∧ (∀ w ∈ Ts, w.before args s = true) ∧ (∀ w ∈ u_ws C T q.2.2.1, w ∈ Ts) ∧ (∀ k, k < q.2.2.1 → parseFieldDescriptor (T k).2.2.1 = some (ty0 k)) ∧ (Jvm.Cond.classLink own q.1 C).before args s = true ∧ (Jvm.Cond.instantiable C q.2.2.1).before args s = true ∧ (Jvm.Cond.initialized C).before args s = true ∧ (∀ j, j < q.2.2.1 → defaultValue (ty0 j) = vp_V q.2.2.2 j) ∧ en_los 0 q.2.2.2 = true
def en_mok (WD : State → Prop) (D : va_G) (cl : List vw_C) (dT : Nat → Nat) (l : Launch) (R : Room) (s : State) (args : Array Value) (own : String) (q : Nat × en_C) : Prop :=
  ∃ (y : MethodName) (bytes : ByteArray) (maxL : Nat) (ret : Option FieldType) (rm : Room) (na : Nat), en_CT WD D cl dT l y bytes maxL ret rm q.2.2.2.2.2 ∧ rm.cells = q.2.2.2.1 ∧ rm.slots = q.2.2.2.2.1 ∧ rm.frames + 1 ≤ R.frames ∧ 8 + (maxL + 11) + rm.locals ≤ R.locals ∧
    (Jvm.Cond.code y bytes maxL ret).before args s = true ∧ (Jvm.Cond.initialized y.cls).before args s = true ∧ (y.cls ≠ "java/lang/invoke/MethodHandle" ∧ y.cls ≠ "java/lang/invoke/VarHandle") ∧ (parseMethodDescriptor y.desc).map (fun d => d.parameters.length) = some na ∧
    ((Jvm.Cond.methodLink own q.1 y).before args s = true ∨ ∃ host, (Jvm.Cond.methodLinkNest own q.1 y host).before args s = true) ∧
    (match q.2.2.1 with
      | 0 => (Jvm.Cond.static y).before args s = true ∧ q.2.1 = na
      | 1 => y.name = "<init>" ∧ (Jvm.Cond.instanceMethod y).before args s = true ∧ q.2.1 = na + 1 ∧ ret = none
      | ci + 2 => ∃ (C : String) (T : u_T) (N : Nat), cl[ci]? = some (C, T, N) ∧ (Jvm.Cond.instanceMethod y).before args s = true ∧ (Jvm.Cond.selects C y y).before args s = true ∧ q.2.1 = na + 1)
/-- all that holds while a method runs -/
def en_X (WD : State → Prop) (D : va_G) (cl : List vw_C) (dT : Nat → Nat) (A : Nat → Prop) (t : en_T) (p : Program) (l : Launch) (R : Room) (s : State) (m : MethodId) (args : Array Value) (meth : Method) (c : Code) (own : String) (cc : ByteArray) : Prop :=
  p.tables.exec = Jvm.exec ∧ c.code = cc ∧ c.maxLocals = t.1.1 ∧ s.vm.findClass own = some m.cls ∧ va_K D cl (en_ty dT) s ∧ (∀ q, s.heap.size ≤ q → A q) ∧ WD s ∧ (t.1.2.1 ≤ R.cells ∧ t.1.2.2 ≤ R.slots) ∧
  (∀ q ∈ t.2.1, decode cc q.1 = .ok (q.2.1, q.2.2.1 - q.1) ∧ en_ck q = true) ∧ (∀ q ∈ t.2.2.1, en_fok cl s args meth own q) ∧ (∀ q ∈ t.2.2.2.1, en_cok s args own q) ∧ (∀ q ∈ t.2.2.2.2.1, en_mok WD D cl dT l R s args own q) ∧ (∀ q ∈ t.2.2.2.2.2.1, en_nok cl s args own q) ∧
  ((t.2.2.2.2.2.2.1 = 0 ∨ (1 ≤ R.frames ∧ 20 ≤ R.locals ∧ (Jvm.Cond.methodLink own t.2.2.2.2.2.2.1 Lib.objectInit).before args s = true ∧ (Jvm.Cond.instanceMethod Lib.objectInit).before args s = true ∧ (Jvm.Cond.code Lib.objectInit ⟨#[0xb1]⟩ 1 none).before args s = true))) ∧
  ((Jvm.Cond.arrayClass .int).before args s = true ∧ (Jvm.Cond.arrayClass .long).before args s = true ∧ (Jvm.Cond.arrayClass .boolean).before args s = true)
theorem en_P_blind {WD : State → Prop} (h1 : ∀ u U : State, u.vm = U.vm → WD u → WD U) {D : va_G} {cl : List vw_C} {dT ad : Nat → Nat} {av : List Value} {ws : List va_E} {sz : Nat} : FrameBlind (en_P WD D cl dT ad av ws sz) := by
  intro a U g mk q
  obtain ⟨q0, q1, qP, qK, qD, qW⟩ := q
  exact ⟨q0, q1, qP, va_K.moved (u := U) (U := U.calling g mk a) (Vm.Alike.refl U.vm) qK, qD, h1 U _ rfl qW⟩
theorem en_lo_v {n : Nat} {ad ad1 : Nat → Nat} (h : ∀ k, k < n → ad1 k = ad k) {v : Value} (hv : en_lo n v = true) : en_v ad1 v = en_v ad v := by
  cases v with
  | ref a =>
    have : a < n := by
      have h2 : Nat.blt a n = true := hv
      exact Nat.le_of_ble_eq_true h2
    show Value.ref (ad1 a) = Value.ref (ad a)
    rw [h a this]
  | _ => rfl
theorem en_lo_vs {n : Nat} {ad ad1 : Nat → Nat} (h : ∀ k, k < n → ad1 k = ad k) : ∀ {st : List Value}, en_los n st = true → st.map (en_v ad1) = st.map (en_v ad)
  | [], _ => rfl
  | v :: st, hv => by
    simp only [en_los, Bool.and_eq_true] at hv
    simp only [List.map_cons]
    rw [en_lo_v h hv.1, en_lo_vs h hv.2]
theorem en_lo_l {n : Nat} {ad ad1 : Nat → Nat} (h : ∀ k, k < n → ad1 k = ad k) : ∀ {lv : en_L}, en_loL n lv = true → en_l ad1 lv = en_l ad lv
  | [], _ => rfl
  | q :: lv, hv => by
    simp only [en_loL, Bool.and_eq_true] at hv
    have h2 := en_lo_l h hv.2
    simp only [en_l, List.map_cons] at h2 ⊢
    rw [en_lo_v h hv.1, h2]
theorem en_lo_e {n : Nat} {ad ad1 dT : Nat → Nat} (h : ∀ k, k < n → ad1 k = ad k) {x : va_E} (hv : en_loE n x = true) : en_e ad1 dT x = en_e ad dT x := by
  cases x with
  | inl a => rfl
  | inr o =>
    show Sum.inr (o.1, o.2.map (en_v ad1)) = Sum.inr (o.1, o.2.map (en_v ad))
    rw [en_lo_vs h hv]
theorem en_loW_get {n : Nat} : ∀ {ws : List va_E}, en_loW n ws = true → ∀ {k : Nat} {x : va_E}, ws[k]? = some x → en_loE n x = true
  | [], _, k, x, h => by simp at h
  | y :: ws, hv, k, x, h => by
    simp only [en_loW, Bool.and_eq_true] at hv
    cases k with
    | zero =>
      simp only [List.getElem?_cons_zero, Option.some.injEq] at h
      subst h
      exact hv.1
    | succ k =>
      rw [List.getElem?_cons_succ] at h
      exact en_loW_get hv.2 h
theorem en_w_push {ad dT : Nat → Nat} {ws : List va_E} {x : va_E} (q : Nat) (h : en_loW ws.length ws = true) (hx : en_loE 0 x = true) :
    en_w (fun k => if k = ws.length then q else ad k) dT (ws ++ [x]) = en_w ad dT ws ++ [(q, en_e ad dT x)] := by
  apply List.ext_getElem?
  intro k
  rw [en_w_get]
  by_cases h1 : k < ws.length
  · rw [List.getElem?_append_left h1, List.getElem?_append_left (by rw [en_w_len]; exact h1), en_w_get]
    cases hk : ws[k]? with
    | none => rfl
    | some y =>
      have hy := en_loW_get h hk
      simp only [Option.map_some]
      rw [en_lo_e (ad := ad) (ad1 := fun k => if k = ws.length then q else ad k) (n := ws.length) (fun j hj => if_neg (by omega)) hy]
      rw [if_neg (by omega)]
  · rw [List.getElem?_append_right (by omega), List.getElem?_append_right (by rw [en_w_len]; omega), en_w_len]
    by_cases h2 : k = ws.length
    · subst h2
      simp only [Nat.sub_self, List.getElem?_cons_zero, Option.map_some, if_true]
      rw [en_lo_e (ad := ad) (n := 0) (fun j hj => absurd hj (Nat.not_lt_zero j)) hx]
    · have h3 : k - ws.length = (k - ws.length - 1) + 1 := by omega
      rw [h3, List.getElem?_cons_succ, List.getElem?_cons_succ]
      rfl
theorem en_rev (ad : Nat → Nat) (st : List Value) (n : Nat) : st.map (en_v ad) = (((st.take n).reverse).map (en_v ad)).reverse ++ (st.drop n).map (en_v ad) := by
  rw [List.map_reverse, List.reverse_reverse, ← List.map_append, List.take_append_drop]
theorem en_sum_cat (ad : Nat → Nat) : ∀ st : List Value, ((st.map (en_v ad)).map fun v => v.category).sum = en_sum st
  | [] => rfl
  | v :: st => by
    simp only [List.map_cons, List.sum_cons, en_sum]
    rw [en_v_cat, en_sum_cat ad st]
section SND
variable {p : Program} {l : Launch} {e : Env} {R : Room} {s : State} {m : MethodId} {args : Array Value} {below : List Frame} {meth : Method} {c : Code} {Q : State → Prop}
variable {WD : State → Prop} {D : va_G} {cl : List vw_C} {dT : Nat → Nat} {A : Nat → Prop} {t : en_T} {own : String} {cc : ByteArray} {n0 : Nat} {ad : Nat → Nat}
/-- behind a call -/
theorem en_after {H : Heap} {locs : List Loc} {cs sl mc ms pc : Nat} {ls : Array Slot} {st0 rest : List Value} {a : Array Value} {ws : List va_E} {ad1 : Nat → Nat} {G : Option Value → List va_E → Prop} {k : en_K} {nx : Nat} {lv : en_L}
    (hr : va_Run p l e R s m args below meth c H locs cs sl mc ms (F0 m pc ls st0) (rest.map (en_v ad1)) (en_Q D cl dT ad1 ws.length G (va_A (en_w ad1 dT ws) H.size) a) (va_A (en_w ad1 dT ws) H.size))
    (hnx : nx = pc + 3) (hA : ∀ q, s.heap.size ≤ q → A q) (h0 : n0 ≤ ws.length) (had : ∀ k, k < n0 → ad1 k = ad k) (hD : va_D A (en_w ad1 dT ws)) (hS : va_S A s.heap H locs) (hl : lv_has ls t.1.1 (en_l ad1 lv)) (h1 : cs + mc ≤ t.1.2.1) (h2 : sl + ms ≤ t.1.2.2) (hb1 : en_los ws.length rest = true) (hb2 : en_loL ws.length lv = true)
    (hG : ∀ v w, G v w → k (cs + mc) (sl + ms) nx lv (v.toList ++ rest) w) (hk : ∀ cs sl pc lv st ws, k cs sl pc lv st ws → en_OK D cl dT A t n0 ad p l e R s m args below meth c Q cs sl pc lv st ws) :
    W p l e R s m args below meth c H locs cs sl Q (F0 m pc ls st0) := by
  intro T hT X
  obtain ⟨v, st₀, t1, T', L, hh0, X', hL, e1, e2, ⟨⟨v1, w, ad2, hv, hGv, hlen, had2, hP2, -, hD2⟩, hz, hkk⟩, st⟩ := hr T hT X
  cases hv
  rw [hh0] at hz hkk
  have hfree : ∀ q, va_A (en_w ad1 dT ws) H.size q → A q := by
    intro q hq
    rcases hq with ⟨j, x, hj⟩ | hq
    · exact hD.2 j _ hj
    · exact hA q (Nat.le_trans hS.1 hq)
  have hS2 : va_S A s.heap T'.heap (locs ++ L) := by
    refine ⟨Nat.le_trans hS.1 (by rw [e1]; exact hz), fun q h1 h2 => ?_, fun q hq => ?_⟩
    · rw [e1, hkk q (Nat.lt_of_lt_of_le h1 hS.1) (fun z => h2 (hfree q z))]
      exact hS.2.1 q h1 h2
    · rcases List.mem_append.mp hq with h | h
      · exact hS.2.2 q h
      · exact hfree _ (hL q h)
  have K := hk _ _ _ _ _ _ (hG v1 w hGv) (Nat.le_trans h0 hlen) h1 h2 ad2 T'.heap (locs ++ L) ls (fun j hj => (had2 j (Nat.lt_of_lt_of_le hj h0)).trans (had j hj)) (by rw [e1]; exact hP2) (hD2.weaken (fun _ _ _ z => hfree _ z)) hS2 (by rw [en_lo_l had2 hb2]; exact hl)
  obtain ⟨t2, a1, b1⟩ := K T' rfl X'
  refine ⟨t2, st t2 ?_, b1⟩
  have he : (v1.map (en_v ad2)).toList ++ rest.map (en_v ad1) = (v1.toList ++ rest).map (en_v ad2) := by
    rw [List.map_append, en_lo_vs had2 hb1]
    cases v1 <;> rfl
  rw [he]
  subst hnx
  exact a1
end SND
