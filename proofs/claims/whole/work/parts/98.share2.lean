/-! THE LAW'S share, both sides -/
theorem op_share {n : Nat} {w : Nat → Nat} {W k : Nat} {S M : Sx} {v' : Option Value} {u' : List va_E} (h : Rel n w W k S M) {lb pt sd r : Int32} {o o' : Nat → Int64} (hs : slR lb pt sd n S o r o')
    (hm : (¬ shq lb pt ∧ ansM v' u' 0 (xi M 4 1)) ∨ (shq lb pt ∧ ¬ (sd = 0 ∨ sd = 1) ∧ ansM v' u' 0 (xi M 4 2)) ∨ (shq lb pt ∧ (sd = 0 ∨ sd = 1) ∧ cpl (M.2.2.1 6) (M.2.2.1 2) n lb = 0 ∧ ansM v' u' 0 (xi M 4 3)) ∨ (shq lb pt ∧ (sd = 0 ∨ sd = 1) ∧ cpl (M.2.2.1 6) (M.2.2.1 2) n lb ≠ 0 ∧ ansM v' u' (shv (M.2.2.1 6) (M.2.2.1 2) n lb pt sd) (xi M 4 0))) :
    ∃ (b : Int32) (M1 : Sx), v' = some (.int b) ∧ u' = wM M1 ∧ RelE S M1 ∧ M1.1 4 = r ∧ (r = 0 → o' 0 = b.toInt64) := by
  have e5 : S.2.2.1 5 = M.2.2.1 6 := h.2.2.1.2.2.2.1
  have e3 : S.2.2.1 3 = M.2.2.1 2 := h.2.2.1.2.1
  unfold slR at hs
  rw [e5, e3] at hs
  have hrel : ∀ c : Int32, RelE S (xi M 4 c) := fun c => ⟨n, w, W, k, rel_dat h (dat_rf S) (datM_i (by omega))⟩
  rcases hm with ⟨m1, a⟩ | ⟨m1, m2, a⟩ | ⟨m1, m2, m3, a⟩ | ⟨m1, m2, m3, a⟩
  · refine ⟨_, _, a.1, a.2, hrel _, ?_⟩
    rcases hs with ⟨-, ⟨z, -⟩, -⟩ | ⟨rfl, -⟩ | ⟨-, z, -⟩ | ⟨-, z, -⟩
    · exact absurd z m1
    · exact ⟨rfl, fun z => absurd z (by decide)⟩
    · exact absurd z m1
    · exact absurd z m1
  · refine ⟨_, _, a.1, a.2, hrel _, ?_⟩
    rcases hs with ⟨-, ⟨-, z, -⟩, -⟩ | ⟨-, z⟩ | ⟨rfl, -, -⟩ | ⟨-, -, z, -⟩
    · exact absurd z m2
    · exact absurd m1 z
    · exact ⟨rfl, fun z => absurd z (by decide)⟩
    · exact absurd z m2
  · refine ⟨_, _, a.1, a.2, hrel _, ?_⟩
    rcases hs with ⟨-, ⟨-, -, z⟩, -⟩ | ⟨-, z⟩ | ⟨-, -, z⟩ | ⟨rfl, -, -, -⟩
    · exact absurd m3 z
    · exact absurd m1 z
    · exact absurd m2 z
    · exact ⟨rfl, fun z => absurd z (by decide)⟩
  · refine ⟨_, _, a.1, a.2, hrel _, ?_⟩
    rcases hs with ⟨rfl, -, rfl⟩ | ⟨-, z⟩ | ⟨-, -, z⟩ | ⟨-, -, -, z⟩
    · exact ⟨rfl, fun _ => if_pos rfl⟩
    · exact absurd m1 z
    · exact absurd m2 z
    · exact absurd z m3
set_option maxHeartbeats 4000000 in
set_option maxRecDepth 100000 in
theorem lc_10a {i : Nat} {xs : Nat → Int32} {G : Option Value → List va_E → Prop} {OK : en_K} (R : el_Run t_L10 mc_L10 G i xs OK) {S M : Sx} {o : Nat → Int64} {cs sl : Nat} (h : OK cs sl 754 (lvW i) [.ref 39, .int (xs (i + 3)), .int (xs (i + 2)), .int (xs (i + 1)), .ref 0] (WL S M o)) : OK cs sl 734 (lvW i) [] (WL S M o) := by
  refine R [754] 80 _ _ _ _ _ _ ?_
  conv => whnf
  refine ⟨rfl, ?_⟩
  conv => whnf
  refine ⟨rfl, ?_⟩
  conv => whnf
  refine ⟨rfl, ?_⟩
  conv => whnf
  exact h
theorem lg_cmp_self (x : Int64) : lg_cmp x x = 0 := by
  unfold lg_cmp
  simp
set_option maxHeartbeats 4000000 in
set_option maxRecDepth 100000 in
theorem lc_10b {i : Nat} {xs : Nat → Int32} {G : Option Value → List va_E → Prop} {OK : en_K} (R : el_Run t_L10 mc_L10 G i xs OK) (sub : ∀ (ks : List Nat) (cs sl pc : Nat) (lv lv' : en_L) (st : List Value) (ws : List va_E), lv_pick lv ks = lv' → OK cs sl pc lv' st ws → OK cs sl pc lv st ws) {n : Nat} {w : Nat → Nat} {W k : Nat} {S M : Sx} {o o' : Nat → Int64} {r : Int32} (h : Rel n w W k S M) (hs : slR (xs (i + 1)) (xs (i + 2)) (xs (i + 3)) n S o r o') {cs sl : Nat}
    (hend : ∀ S M, RelE S M → OK cs sl 1131 (lvW i) [] (WL S M o')) : OK cs sl 757 (lvW i) [.int r] (WL S M o') := by
  refine R [1131] 80 _ _ _ _ _ _ ?_
  conv => whnf
  refine ⟨rfl, ?_⟩
  conv => whnf
  refine ⟨rfl, ?_⟩
  conv => whnf
  refine ⟨rfl, ?_⟩
  conv => whnf
  refine fun _ => ⟨[.ref 0, .int (xs (i + 1)), .int (xs (i + 2)), .int (xs (i + 3))], sh_w 0 (wX S), wM M, [oc o'], rfl, rfl, rfl, ?_⟩
  conv => whnf
  refine ⟨(xs (i + 1), xs (i + 2), xs (i + 3), n, M), rfl, rfl, ⟨h.1.1, h.1.2.2.1⟩, fun v' u' hm => ?_⟩
  obtain ⟨b, M1, rfl, rfl, hr1, ht, h0⟩ := op_share h hs hm
  refine ⟨Nat.le_refl _, rfl, rfl, Or.inl rfl, ?_⟩
  conv => whnf
  refine fun _ => ⟨[.ref 0], sh_w 0 (wX S), wM M1, [oc o'], rfl, rfl, rfl, ?_⟩
  conv => whnf
  refine ⟨M1, rfl, rfl, trivial, fun v2 u2 h2 => ?_⟩
  obtain ⟨rfl, rfl⟩ : v2 = some (.int (M1.1 4)) ∧ u2 = wM M1 := h2
  refine ⟨Nat.le_refl _, rfl, rfl, Or.inl rfl, ?_⟩
  conv => whnf
  refine ⟨fun _ => ?_, fun z => absurd ht z⟩
  conv => whnf
  refine ⟨fun _ => ?_, fun c => ?_⟩
  · conv => whnf
    exact sub [0, 1, 2, 3] _ _ _ _ _ _ _ rfl (hend S M1 hr1)
  · conv => whnf
    refine ⟨nI_in (c := 0) (N := 1) (by decide) (by decide), ?_⟩
    conv => whnf
    have e : lg_cmp (o' 0) b.toInt64 = 0 := by
      rw [h0 c]
      exact lg_cmp_self _
    refine ⟨fun _ => ?_, fun z => absurd e z⟩
    conv => whnf
    exact sub [0, 1, 2, 3] _ _ _ _ _ _ _ rfl (hend S M1 hr1)
