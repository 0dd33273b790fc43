/-! THE LAW FROM ITS BEGINNING -/
set_option maxHeartbeats 8000000 in
set_option maxRecDepth 100000 in
theorem lw_init {G : Option Value → List va_E → Prop} {OK : en_K} (Ra : ∀ (stop : List Nat) (n cs sl pc : Nat) (lv : en_L) (st : List Value) (ws : List va_E), en_vc t_La G stop OK n cs sl pc lv st ws → OK cs sl pc lv st ws)
    (h : OK 40 3848 23 (lvW 0) [] (WL Sx0 Sm0 (fun _ => 0))) : OK 0 0 0 [] [] [] := by
  have e1 : (Int32.ofInt 1).toNatClampNeg = 1 := by decide
  refine Ra [23] 40 _ _ _ _ _ _ ?_
  conv => whnf
  refine ⟨⟨Nat.le_of_ble_eq_true rfl, Nat.le_of_ble_eq_true rfl⟩, ?_⟩
  conv => whnf
  refine ⟨⟨Nat.le_of_ble_eq_true rfl, Nat.le_of_ble_eq_true rfl⟩, ?_⟩
  conv => whnf
  refine fun _ => ⟨[.ref 0], [], [ob6 .null .null .null .null .null 0], [], rfl, rfl, rfl, ?_⟩
  conv => whnf
  refine ⟨(), rfl, rfl, trivial, fun v u h1 => ?_⟩
  obtain ⟨rfl, rfl⟩ : v = none ∧ u = wX Sx0 := h1
  refine ⟨Nat.le_of_ble_eq_true rfl, rfl, rfl, Or.inr ⟨rfl, rfl⟩, ?_⟩
  generalize Sx0 = S at h ⊢
  conv => whnf
  refine ⟨⟨Nat.le_of_ble_eq_true rfl, Nat.le_of_ble_eq_true rfl⟩, ?_⟩
  conv => whnf
  refine ⟨⟨Nat.le_of_ble_eq_true rfl, Nat.le_of_ble_eq_true rfl⟩, ?_⟩
  conv => whnf
  refine fun _ => ⟨[.ref 0], sh_w 0 (wX S), [.inr (7, [.int 0, .null, .null, .null, .null, .null, .null, .int 0, .int 0, .null, .int 0, .null, .null, .int 0, .null, .null, .long 0, .null, .null, .int 0, .null, .int 0, .int 0, .int 0])], [], rfl, rfl, rfl, ?_⟩
  conv => whnf
  refine ⟨(), rfl, rfl, trivial, fun v u h2 => ?_⟩
  obtain ⟨rfl, rfl⟩ : v = none ∧ u = wM Sm0 := h2
  refine ⟨Nat.le_of_ble_eq_true rfl, rfl, rfl, Or.inr ⟨rfl, rfl⟩, ?_⟩
  generalize Sm0 = M at h ⊢
  conv => whnf
  refine ⟨⟨by decide, by decide, Nat.le_of_ble_eq_true rfl, Nat.le_of_ble_eq_true rfl⟩, ?_⟩
  rw [e1]
  conv => whnf
  exact h
theorem ek_t {X : List (Nat × Value)} {D : va_G} {cl : List vw_C} {dT : Nat → Nat} {A : Nat → Prop} {t t' : en_T} {n0 : Nat} {ad : Nat → Nat} {p : Program} {l : Launch} {e : Env} {R : Room} {s : State} {m : MethodId} {args : Array Value} {below : List Frame} {meth : Method} {c : Code} {Q : State → Prop} (h : t.1 = t'.1) :
    ek_OK X D cl dT A t n0 ad p l e R s m args below meth c Q = ek_OK X D cl dT A t' n0 ad p l e R s m args below meth c Q := by
  unfold ek_OK
  rw [h]
theorem en_D_same {A : Nat → Prop} {ad dT : Nat → Nat} {ws ws' : List va_E} (hl : ws'.length = ws.length) (h : va_D A (en_w ad dT ws)) : va_D A (en_w ad dT ws') := by
  have key : ∀ (k : Nat) (q : Nat × va_E), (en_w ad dT ws')[k]? = some q → ∃ x, (en_w ad dT ws)[k]? = some (q.1, x) := by
    intro k q hk
    have hlt := (List.getElem?_eq_some_iff.mp hk).1
    rw [en_w_len, hl] at hlt
    rw [en_w_get] at hk
    have hq : q.1 = ad k := by
      cases hx : ws'[k]? with
      | none => rw [hx] at hk; cases hk
      | some z => rw [hx] at hk; cases hk; rfl
    exact ⟨_, by rw [hq]; exact en_w_some (List.getElem?_eq_getElem hlt)⟩
  refine ⟨fun i j p q hi hj hpq => ?_, fun k q hk => ?_⟩
  · obtain ⟨x, hx⟩ := key i p hi
    obtain ⟨y, hy⟩ := key j q hj
    exact h.1 i j _ _ hx hy hpq
  · obtain ⟨x, hx⟩ := key k q hk
    exact h.2 k (q.1, x) hx
theorem lw_known {s : State} {args : Array Value} (hts : ∀ w ∈ lw_tbl, w.before args s = true) : ∃ (D : va_G) (dT : Nat → Nat), va_K D vwCl (en_ty dT) s := by
  have hWD : en_WD s := fun w hm hk => en_kind_on hk rfl (hts w hm)
  have k0 := u_known hts la_X0 (en_wd hWD 165 (w := .instantiable RX0 1) (by decide +kernel) rfl args)
  have k1 := u_known hts la_X1 (en_wd hWD 218 (w := .instantiable RX1 6) (by decide +kernel) rfl args)
  have k2 := u_known hts la_X2 (en_wd hWD 83 (w := .instantiable RX2 8) (by decide +kernel) rfl args)
  have k3 := u_known hts la_X3 (en_wd hWD 159 (w := .instantiable RX3 8) (by decide +kernel) rfl args)
  have k4 := u_known hts la_X4 (en_wd hWD 200 (w := .instantiable RX4 3) (by decide +kernel) rfl args)
  have k5 := u_known hts la_X5 (en_wd hWD 130 (w := .instantiable RX5 5) (by decide +kernel) rfl args)
  have k6 := u_known hts la_X6 (en_wd hWD 75 (w := .instantiable RX6 6) (by decide +kernel) rfl args)
  have k7 := u_known hts la_X7 (en_wd hWD 742 (w := .instantiable RX7 24) (by decide +kernel) rfl args)
  have hex : ∀ c : Nat, ∃ (cC : ClassId) (iS : Nat → Nat), ∀ q : vw_C, vwCl[c]? = some q → u_Kn s q.1 q.2.1 q.2.2 cC iS := by
    intro c
    match c with
    | 0 => obtain ⟨a, b, h⟩ := k0; exact ⟨a, b, fun q hq => by cases hq; exact h⟩
    | 1 => obtain ⟨a, b, h⟩ := k1; exact ⟨a, b, fun q hq => by cases hq; exact h⟩
    | 2 => obtain ⟨a, b, h⟩ := k2; exact ⟨a, b, fun q hq => by cases hq; exact h⟩
    | 3 => obtain ⟨a, b, h⟩ := k3; exact ⟨a, b, fun q hq => by cases hq; exact h⟩
    | 4 => obtain ⟨a, b, h⟩ := k4; exact ⟨a, b, fun q hq => by cases hq; exact h⟩
    | 5 => obtain ⟨a, b, h⟩ := k5; exact ⟨a, b, fun q hq => by cases hq; exact h⟩
    | 6 => obtain ⟨a, b, h⟩ := k6; exact ⟨a, b, fun q hq => by cases hq; exact h⟩
    | 7 => obtain ⟨a, b, h⟩ := k7; exact ⟨a, b, fun q hq => by cases hq; exact h⟩
    | n + 8 =>
      refine ⟨0, fun _ => 0, fun q hq => ?_⟩
      have hn : vwCl[n + 8]? = none := List.getElem?_eq_none (by show 8 ≤ n + 8; omega)
      rw [hn] at hq
      cases hq
  obtain ⟨a1, a2, a3⟩ := en_arr hWD args
  obtain ⟨ci, ki, pi, i1, i2, i3⟩ := Cond.arrayClass_spec a1
  obtain ⟨cj, kj, pj, j1, j2, j3⟩ := Cond.arrayClass_spec a2
  obtain ⟨cz, kz, pz, z1, z2, z3⟩ := Cond.arrayClass_spec a3
  refine ⟨(fun c => (hex c).choose, fun c => (hex c).choose_spec.choose), fun k => if k = 0 then ci else if k = 1 then cj else cz, fun c q hq => (hex c).choose_spec.choose_spec q hq, fun k q hk => ?_⟩
  match k, hk with
  | 0, hk => cases hk; exact ⟨fun n z => ⟨fun k h => (by cases h), ki, i2, pi, i3⟩, i1⟩
  | 1, hk => cases hk; exact ⟨fun n z => ⟨fun k h => (by cases h), kj, j2, pj, j3⟩, j1⟩
  | 2, hk => cases hk; exact ⟨fun n z => ⟨fun k h => (by cases h), kz, z2, pz, z3⟩, z1⟩
  | k + 3, hk =>
    rw [List.getElem?_eq_none (by show 3 ≤ k + 3; omega)] at hk
    cases hk
