/-! A CONTRACT IN A WIDER WORLD: its cells stand from the place o on, the rest is kept -/
def sh_v (o : Nat) (v : Value) : Value := match v with
  | .ref a => .ref (a + o)
  | .int x => .int x
  | .long x => .long x
  | .float x => .float x
  | .double x => .double x
  | .null => .null
  | .retAddr x => .retAddr x
def sh_e (o : Nat) (x : va_E) : va_E := match x with
  | .inl a => .inl a
  | .inr q => .inr (q.1, q.2.map (sh_v o))
def sh_w (o : Nat) (ws : List va_E) : List va_E := ws.map (sh_e o)
theorem sh_vv (ad : Nat → Nat) (o : Nat) (v : Value) : en_v ad (sh_v o v) = en_v (fun k => ad (k + o)) v := by cases v <;> rfl
theorem sh_ee (ad dT : Nat → Nat) (o : Nat) (x : va_E) : en_e ad dT (sh_e o x) = en_e (fun k => ad (k + o)) dT x := by
  cases x with
  | inl a => rfl
  | inr q =>
    show Sum.inr (q.1, (q.2.map (sh_v o)).map (en_v ad)) = Sum.inr (q.1, q.2.map (en_v fun k => ad (k + o)))
    rw [List.map_map]
    congr 2
    apply List.map_congr_left
    intro v _
    exact sh_vv ad o v
def en_lift (o : Nat) (f : List Value → List va_E → (Option Value → List va_E → Prop) → Prop) : List Value → List va_E → (Option Value → List va_E → Prop) → Prop := fun av ws G =>
  ∃ (av0 : List Value) (pre mid post : List va_E), av = av0.map (sh_v o) ∧ ws = pre ++ (sh_w o mid ++ post) ∧ pre.length = o ∧
    f av0 mid (fun v w => mid.length ≤ w.length ∧ en_loW w.length w = true ∧ en_los w.length v.toList = true ∧ (w.length = mid.length ∨ (post = [] ∧ en_loW (o + mid.length) pre = true)) ∧ G (v.map (sh_v o)) (pre ++ (sh_w o w ++ post)))
theorem lf_get {o : Nat} {pre w post : List va_E} (h : pre.length = o) (k : Nat) : (pre ++ (sh_w o w ++ post))[k]? = if k < o then pre[k]? else if k - o < w.length then (w[k - o]?).map (sh_e o) else post[k - o - w.length]? := by
  subst h
  by_cases h1 : k < pre.length
  · rw [if_pos h1, List.getElem?_append_left h1]
  · rw [if_neg h1, List.getElem?_append_right (by omega)]
    by_cases h2 : k - pre.length < w.length
    · rw [if_pos h2, List.getElem?_append_left (by unfold sh_w; rw [List.length_map]; exact h2)]
      unfold sh_w
      rw [List.getElem?_map]
    · rw [if_neg h2, List.getElem?_append_right (by unfold sh_w; rw [List.length_map]; omega)]
      unfold sh_w
      rw [List.length_map]
theorem lf_len {o : Nat} {pre w post : List va_E} (h : pre.length = o) : (pre ++ (sh_w o w ++ post)).length = o + (w.length + post.length) := by
  rw [List.length_append, List.length_append, h]
  unfold sh_w
  rw [List.length_map]
set_option maxHeartbeats 4000000 in
theorem en_liftA {WD : State → Prop} {D : va_G} {cl : List vw_C} {dT : Nat → Nat} {l : Launch} {y : MethodName} {bytes : ByteArray} {maxL : Nat} {ret : Option FieldType} {rm : Room} {f : List Value → List va_E → (Option Value → List va_E → Prop) → Prop} (o : Nat)
    (hCT : en_CT WD D cl dT l y bytes maxL ret rm f) : en_CT WD D cl dT l y bytes maxL ret rm (en_lift o f) := by
  rintro ad sz av ws G ⟨av0, pre, mid, post, rfl, rfl, hpre, hf⟩
  have M := hCT (fun k => ad (k + o)) sz av0 mid _ hf
  generalize hws : pre ++ (sh_w o mid ++ post) = ws
  have hlen : ws.length = o + (mid.length + post.length) := by rw [← hws]; exact lf_len hpre
  have hsub : ∀ (k : Nat) (q : Nat × va_E), (en_w (fun k => ad (k + o)) dT mid)[k]? = some q → (en_w ad dT ws)[k + o]? = some q := by
    intro k q hk
    rw [en_w_get] at hk ⊢
    rw [← hws, lf_get hpre, if_neg (by omega)]
    cases hm : mid[k]? with
    | none => rw [hm] at hk; cases hk
    | some x =>
      rw [hm] at hk
      have hlt : k < mid.length := (List.getElem?_eq_some_iff.mp hm).1
      rw [show k + o - o = k by omega, if_pos hlt, hm]
      simp only [Option.map_some] at hk ⊢
      rw [sh_ee]
      exact hk
  have hAsub : ∀ q, va_A (en_w (fun k => ad (k + o)) dT mid) sz q → va_A (en_w ad dT ws) sz q := by
    rintro q (⟨k, e, hk⟩ | h)
    · exact Or.inl ⟨k + o, e, hsub k _ hk⟩
    · exact Or.inr h
  intro p e a1 a2 a3 s m args below hfr happ hP hK
  obtain ⟨hargs, hsz, hP1, hK1, hD1, hW1⟩ := hP
  have hP' : en_P WD D cl dT (fun k => ad (k + o)) av0 mid sz args s := by
    refine ⟨?_, hsz, hP1.by (fun k => k + o) hsub, hK1, hD1.by (fun k => k + o) hsub (fun i j _ _ h => by have h : i + o = j + o := h; omega), hW1⟩
    rw [hargs, List.map_map]
    congr 1
    apply List.map_congr_left
    intro v _
    exact sh_vv ad o v
  obtain ⟨n, oc, b1, b2, b3, ⟨⟨v, w, ad1, hoc, ⟨hmw, hlo, hlv, hdis, hG⟩, hn0, had, hP2, hK2, hD2⟩, hF⟩, L, hFE, hL⟩ := M p e a1 a2 a3 s m args below hfr happ hP' hK
  refine ⟨n, oc, b1, b2, b3, ⟨?_, ⟨hF.1, fun q h1 h2 => hF.2 q h1 (fun z => h2 (hAsub q z))⟩⟩, L, hFE, fun q hq => hAsub _ (hL q hq)⟩
  generalize hT : stepsAlone p.tables e n s = t at hF hP2 hK2
  obtain ⟨ad2, had2⟩ : ∃ ad2 : Nat → Nat, ad2 = fun q => if q < o then ad q else if q < o + w.length then ad1 (q - o) else ad q := ⟨_, rfl⟩
  have hmid : ∀ j, j < w.length → ad2 (j + o) = ad1 j := by
    intro j hj
    rw [had2]
    show (if j + o < o then _ else if j + o < o + w.length then ad1 (j + o - o) else _) = _
    rw [if_neg (by omega), if_pos (by omega), show j + o - o = j by omega]
  have hold : ∀ k, k < ws.length → ad2 k = ad k := by
    intro k hk
    rw [had2]
    show (if k < o then ad k else if k < o + w.length then ad1 (k - o) else ad k) = ad k
    by_cases h1 : k < o
    · rw [if_pos h1]
    · rw [if_neg h1]
      by_cases h2 : k < o + w.length
      · rw [if_pos h2]
        have hk2 : k - o < mid.length := by
          rcases hdis with h | h
          · omega
          · rw [h.1] at hlen; simp at hlen; omega
        rw [had (k - o) hk2]
        show ad (k - o + o) = ad k
        rw [show k - o + o = k by omega]
      · rw [if_neg h2]
  have hsame : w.length = mid.length → ad2 = ad := by
    intro h
    funext k
    by_cases hk : k < ws.length
    · exact hold k hk
    · rw [had2]
      show (if k < o then ad k else if k < o + w.length then ad1 (k - o) else ad k) = ad k
      rw [if_neg (by omega), if_neg (by omega)]
  have hepre : ∀ (k : Nat) (x : va_E), pre[k]? = some x → en_e ad2 dT x = en_e ad dT x := by
    intro k x hx
    rcases hdis with h | h
    · rw [hsame h]
    · refine en_lo_e (n := o + mid.length) (fun j hj => hold j ?_) (en_loW_get h.2 hx)
      rw [hlen]; omega
  have hidx : ∀ (k : Nat) (q : Nat × va_E), (en_w ad2 dT (pre ++ (sh_w o w ++ post)))[k]? = some q → ((en_w ad dT ws)[k]? = some q ∧ (k < o ∨ o + mid.length ≤ k)) ∨ (o ≤ k ∧ (en_w ad1 dT w)[k - o]? = some q) := by
    intro k q hk
    rw [en_w_get, lf_get hpre] at hk
    by_cases h1 : k < o
    · left
      rw [if_pos h1] at hk
      rw [en_w_get, ← hws, lf_get hpre, if_pos h1]
      cases hx : pre[k]? with
      | none => rw [hx] at hk; cases hk
      | some x =>
        rw [hx] at hk
        simp only [Option.map_some] at hk ⊢
        rw [hepre k x hx, hold k (by omega)] at hk
        exact ⟨hk, Or.inl h1⟩
    · rw [if_neg h1] at hk
      by_cases h2 : k - o < w.length
      · right
        rw [if_pos h2] at hk
        rw [en_w_get]
        cases hx : w[k - o]? with
        | none => rw [hx] at hk; cases hk
        | some x =>
          rw [hx] at hk
          simp only [Option.map_some] at hk ⊢
          have e2 : ad2 k = ad1 (k - o) := by have := hmid (k - o) h2; rwa [show k - o + o = k by omega] at this
          rw [sh_ee, en_lo_e (ad := ad1) (n := w.length) (fun j hj => hmid j hj) (en_loW_get hlo hx), e2] at hk
          exact ⟨by omega, hk⟩
      · left
        rw [if_neg h2] at hk
        have hwl : w.length = mid.length := by
          rcases hdis with h | h
          · exact h
          · rw [h.1] at hk; simp at hk
        rw [hsame hwl] at hk
        rw [en_w_get, ← hws, lf_get hpre, if_neg h1, if_neg (by omega), ← hwl]
        exact ⟨hk, Or.inr (by omega)⟩
  have hlt : ∀ (k : Nat) (q : Nat × va_E), (en_w ad dT ws)[k]? = some q → q.1 < sz := fun k q hk => by
    rw [← hsz]; exact (hP1 k q hk).lt
  have hne : ∀ (k : Nat) (q : Nat × va_E), (en_w ad dT ws)[k]? = some q → (k < o ∨ o + mid.length ≤ k) → ¬ va_A (en_w (fun k => ad (k + o)) dT mid) sz q.1 := by
    rintro k q hk hko (⟨j, x, hj⟩ | h)
    · have hj2 := hsub j _ hj
      have := hD1.1 _ _ _ _ hk hj2 rfl
      have hjl : j < mid.length := by
        have := (List.getElem?_eq_some_iff.mp hj).1
        rwa [en_w_len] at this
      omega
    · have := hlt k q hk
      omega
  have hnew : ∀ (j : Nat) (q : Nat × va_E), (en_w ad1 dT w)[j]? = some q → (j < mid.length ∧ ∃ x, (en_w ad dT ws)[j + o]? = some (q.1, x)) ∨ (mid.length ≤ j ∧ sz ≤ q.1) := by
    intro j q hj
    by_cases hjm : j < mid.length
    · left
      refine ⟨hjm, ?_⟩
      obtain ⟨x, hx⟩ : ∃ x, mid[j]? = some x := ⟨_, List.getElem?_eq_getElem hjm⟩
      have h1 := hsub j _ (en_w_some (ad := fun k => ad (k + o)) (dT := dT) hx)
      rw [en_w_get] at hj
      have hq : q.1 = ad1 j := by
        cases hwj : w[j]? with
        | none => rw [hwj] at hj; cases hj
        | some z => rw [hwj] at hj; cases hj; rfl
      exact ⟨_, by rw [hq, had j hjm]; exact h1⟩
    · right
      refine ⟨by omega, ?_⟩
      rcases hD2.2 j q hj with ⟨i, x, hi⟩ | h
      · exfalso
        have him : i < mid.length := by
          have := (List.getElem?_eq_some_iff.mp hi).1
          rwa [en_w_len] at this
        have hiw : i < w.length := by omega
        obtain ⟨z, hz⟩ : ∃ z, w[i]? = some z := ⟨_, List.getElem?_eq_getElem hiw⟩
        have h3 := en_w_some (ad := ad1) (dT := dT) hz
        have hq : ad1 i = q.1 := by
          rw [had i him]
          rw [en_w_get] at hi
          cases hmi : mid[i]? with
          | none => rw [hmi] at hi; cases hi
          | some z =>
            rw [hmi] at hi
            have hi : some (ad (i + o), en_e (fun k => ad (k + o)) dT z) = some (q.1, x) := hi
            exact congrArg Prod.fst (Option.some.inj hi)
        have := hD2.1 _ _ _ _ h3 hj hq
        omega
      · exact h
  refine ⟨v.map (sh_v o), pre ++ (sh_w o w ++ post), ad2, ?_, hG, ?_, hold, ?_, hK2, ?_⟩
  · rw [hoc]
    cases v with
    | none => rfl
    | some x =>
      show Outcome.returned (some (en_v ad1 x)) = Outcome.returned (some (en_v ad2 (sh_v o x)))
      rw [sh_vv]
      have hx : en_lo w.length x = true := by
        have : (en_lo w.length x && en_los w.length []) = true := hlv
        simpa [en_los] using this
      rw [en_lo_v (ad := ad1) (n := w.length) (fun j hj => hmid j hj) hx]
  · rw [hlen, lf_len hpre]; omega
  · intro k q hk
    rcases hidx k q hk with ⟨h, hko⟩ | ⟨-, h⟩
    · exact (hP1 k q h).kept (hF.2 q.1 (by rw [hsz]; exact hlt k q h) (hne k q h hko))
    · exact hP2 _ q h
  · refine ⟨fun i j p q hi hj hpq => ?_, fun k q hk => ?_⟩
    · have key : ∀ (k : Nat) (q : Nat × va_E), (en_w ad2 dT (pre ++ (sh_w o w ++ post)))[k]? = some q → (k < ws.length ∧ ∃ x, (en_w ad dT ws)[k]? = some (q.1, x)) ∨ (o ≤ k ∧ mid.length ≤ k - o ∧ sz ≤ q.1 ∧ (en_w ad1 dT w)[k - o]? = some q) := by
        intro k q hk
        rcases hidx k q hk with ⟨h, hko⟩ | ⟨hok, h⟩
        · left
          refine ⟨?_, q.2, h⟩
          have := (List.getElem?_eq_some_iff.mp h).1
          rwa [en_w_len] at this
        · rcases hnew _ q h with ⟨h1, x, hx⟩ | ⟨h1, h2⟩
          · left
            rw [show k - o + o = k by omega] at hx
            have := (List.getElem?_eq_some_iff.mp hx).1
            rw [en_w_len] at this
            exact ⟨this, x, hx⟩
          · exact Or.inr ⟨hok, h1, h2, h⟩
      rcases key i p hi with ⟨-, x, hx⟩ | ⟨hi1, hi2, hi3, hi4⟩
      · rcases key j q hj with ⟨-, z, hz⟩ | ⟨hj1, hj2, hj3, hj4⟩
        · exact hD1.1 _ _ _ _ hx hz hpq
        · have := hlt i _ hx
          rw [← hpq] at hj3
          have h5 : p.1 < sz := this
          omega
      · rcases key j q hj with ⟨-, z, hz⟩ | ⟨hj1, hj2, hj3, hj4⟩
        · have h5 : q.1 < sz := hlt j (q.1, z) hz
          rw [hpq] at hi3
          omega
        · have := hD2.1 _ _ _ _ hi4 hj4 hpq
          omega
    · rcases hidx k q hk with ⟨h, -⟩ | ⟨-, h⟩
      · exact va_A.in h
      · exact hAsub _ (hD2.2 _ q h)
theorem en_mok_lift {WD : State → Prop} {D : va_G} {cl : List vw_C} {dT : Nat → Nat} {l : Launch} {R : Room} {s : State} {args : Array Value} {own : String} {a b c d e : Nat} {f : List Value → List va_E → (Option Value → List va_E → Prop) → Prop} (o : Nat) (h : en_mok WD D cl dT l R s args own (a, b, c, d, e, f)) : en_mok WD D cl dT l R s args own (a, b, c, d, e, en_lift o f) := by
  obtain ⟨y, bytes, maxL, ret, rm, na, h1, h2⟩ := h
  exact ⟨y, bytes, maxL, ret, rm, na, en_liftA o h1, h2⟩
abbrev oc (g : Nat → Int64) : va_E := .inl (1, 1, .inr (.inl g))
