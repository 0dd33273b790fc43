/-! THE LAW'S LOOP -/
theorem lh_cmp {i L : Nat} (hi : i ≤ 4000) (hL : L ≤ 3072) : nI L - (Int8.ofInt 6).toInt32 < nI i ↔ L < i + 6 := by
  have e : (Int8.ofInt 6).toInt32 = nI 6 := by decide
  rw [e]
  by_cases h : 6 ≤ L
  · rw [pk_sub h, nI_ltI (by omega) (by omega)]
    omega
  · have h1 : nI L - nI 6 < 0 := pk_sneg (by decide) (by omega)
    have h2 : 0 ≤ nI i := nI_pos' (by omega)
    exact ⟨fun _ => by omega, fun _ => Int32.lt_of_lt_of_le h1 h2⟩
set_option maxHeartbeats 8000000 in
set_option maxRecDepth 100000 in
theorem lw_loop {L : Nat} {xs : Nat → Int32} (hL : L ≤ 3072) {G : Option Value → List va_E → Prop} {OK : en_K} (hG : ∀ ws, G (some (.int 1)) ws)
    (Rb : ∀ (stop : List Nat) (n cs sl pc : Nat) (lv : en_L) (st : List Value) (ws : List va_E), en_vc t_Lb G stop OK n cs sl pc lv st ws → OK cs sl pc lv st ws)
    (len : ∀ (cs sl : Nat) (lv : en_L) (st : List Value) (ws : List va_E), OK cs sl 27 lv (.int (nI L) :: st) ws → OK cs sl 25 lv st ws)
    (sub : ∀ (ks : List Nat) (cs sl pc : Nat) (lv lv' : en_L) (st : List Value) (ws : List va_E), lv_pick lv ks = lv' → OK cs sl pc lv' st ws → OK cs sl pc lv st ws)
    (shc : ∀ (i cs sl n : Nat) (w : Nat → Nat) (W k : Nat) (S M : Sx) (o : Nat → Int64), cs + 1 ≤ 1067 → sl + 6 ≤ 12058 → Rel n w W k S M → (∀ r o', slR (xs (i + 1)) (xs (i + 2)) (xs (i + 3)) n S o r o' → OK (cs + 1) (sl + 6) 757 (lvW i) [.int r] (WL S M o')) → OK cs sl 754 (lvW i) [.ref 39, .int (xs (i + 3)), .int (xs (i + 2)), .int (xs (i + 1)), .ref 0] (WL S M o))
    (Rc : ∀ i, i + 5 < L → el_Run t_Lc mc_Lc G i xs OK)
    (R0 : ∀ i, i + 5 < L → el_Run t_L0 mc_L0 G i xs OK)
    (R1 : ∀ i, i + 5 < L → el_Run t_L1 mc_L1 G i xs OK)
    (R2 : ∀ i, i + 5 < L → el_Run t_L2 mc_L2 G i xs OK)
    (R3 : ∀ i, i + 5 < L → el_Run t_L3 mc_L3 G i xs OK)
    (R4 : ∀ i, i + 5 < L → el_Run t_L4 mc_L4 G i xs OK)
    (R5 : ∀ i, i + 5 < L → el_Run t_L5 mc_L5 G i xs OK)
    (R6 : ∀ i, i + 5 < L → el_Run t_L6 mc_L6 G i xs OK)
    (R7 : ∀ i, i + 5 < L → el_Run t_L7 mc_L7 G i xs OK)
    (R8 : ∀ i, i + 5 < L → el_Run t_L8 mc_L8 G i xs OK)
    (R9 : ∀ i, i + 5 < L → el_Run t_L9 mc_L9 G i xs OK)
    (R10 : ∀ i, i + 5 < L → el_Run t_L10 mc_L10 G i xs OK)
    (R11 : ∀ i, i + 5 < L → el_Run t_L11 mc_L11 G i xs OK)
    (R12 : ∀ i, i + 5 < L → el_Run t_L12 mc_L12 G i xs OK)
    (R13 : ∀ i, i + 5 < L → el_Run t_L13 mc_L13 G i xs OK)
    (R14 : ∀ i, i + 5 < L → el_Run t_L14 mc_L14 G i xs OK)
    (R15 : ∀ i, i + 5 < L → el_Run t_L15 mc_L15 G i xs OK)
    (R16 : ∀ i, i + 5 < L → el_Run t_L16 mc_L16 G i xs OK)
    (R17 : ∀ i, i + 5 < L → el_Run t_L17 mc_L17 G i xs OK)
    (R18 : ∀ i, i + 5 < L → el_Run t_L18 mc_L18 G i xs OK)
    (R19 : ∀ i, i + 5 < L → el_Run t_L19 mc_L19 G i xs OK) :
    ∀ (d i j : Nat) (S M : Sx) (o : Nat → Int64), L < i + 6 + d → i ≤ L + 6 → 6 * j ≤ i → RelE S M → OK (40 + j) (3848 + 6 * j) 23 (lvW i) [] (WL S M o) := by
  intro d
  induction d with
  | zero =>
    intro i j S M o hd hi hj hr
    refine Rb [25] 10 _ _ _ _ _ _ ?_
    conv => whnf
    refine len _ _ _ _ _ ?_
    refine Rb [33] 20 _ _ _ _ _ _ ?_
    conv => whnf
    refine ⟨fun c => ?_, fun c => absurd ((lh_cmp (by omega) hL).mpr (by omega)) c⟩
    conv => whnf
    exact ⟨rfl, hG _⟩
  | succ d ih =>
    intro i j S M o hd hi hj hr
    refine Rb [25] 10 _ _ _ _ _ _ ?_
    conv => whnf
    refine len _ _ _ _ _ ?_
    refine Rb [33] 20 _ _ _ _ _ _ ?_
    conv => whnf
    refine ⟨fun c => ?_, fun c => ?_⟩
    · conv => whnf
      exact ⟨rfl, hG _⟩
    have hc : i + 6 ≤ L := Nat.not_lt.mp (fun z => c ((lh_cmp (by omega) hL).mpr z))
    have h5 : i + 5 < L := by omega
    have hend : ∀ (j : Nat) (o : Nat → Int64), 6 * j ≤ i + 6 → ∀ S M, RelE S M → OK (40 + j) (3848 + 6 * j) 1131 (lvW i) [] (WL S M o) := by
      intro j o hj S M hr
      have h2 := ih (i + 6) j S M o (by omega) (by omega) hj hr
      have e : nI i + Int32.ofInt 6 = nI (i + 6) := nI_add i 6
      unfold lvW at h2
      rw [← e] at h2
      refine Rc i h5 [23] 10 _ _ _ _ _ _ ?_
      conv => whnf
      exact h2
    have hend0 := hend j o (by omega)
    conv => whnf
    refine Rc i h5 [136, 185, 266, 331, 404, 441, 522, 591, 672, 697, 734, 814, 839, 864, 901, 938, 963, 1012, 1025, 1106, 1131] 10 _ _ _ _ _ _ ?_
    conv => whnf
    refine ⟨rfl, ?_⟩
    conv => whnf
    refine ⟨fun _ => ?_, ?_⟩
    · conv => whnf
      exact hend0 S M hr
    conv => whnf
    refine ⟨fun _ => ?_, ?_⟩
    · conv => whnf
      exact lc_0 (R0 i h5) hr hend0
    conv => whnf
    refine ⟨fun _ => ?_, ?_⟩
    · conv => whnf
      exact lc_1 (R1 i h5) hr hend0
    conv => whnf
    refine ⟨fun _ => ?_, ?_⟩
    · conv => whnf
      exact lc_2 (R2 i h5) hr hend0
    conv => whnf
    refine ⟨fun _ => ?_, ?_⟩
    · conv => whnf
      exact lc_3 (R3 i h5) hr hend0
    conv => whnf
    refine ⟨fun _ => ?_, ?_⟩
    · conv => whnf
      exact lc_4 (R4 i h5) hr hend0
    conv => whnf
    refine ⟨fun _ => ?_, ?_⟩
    · conv => whnf
      exact lc_5 (R5 i h5) hr hend0
    conv => whnf
    refine ⟨fun _ => ?_, ?_⟩
    · conv => whnf
      exact lc_6 (R6 i h5) hr hend0
    conv => whnf
    refine ⟨fun _ => ?_, ?_⟩
    · conv => whnf
      exact lc_7 (R7 i h5) hr hend0
    conv => whnf
    refine ⟨fun _ => ?_, ?_⟩
    · conv => whnf
      exact lc_8 (R8 i h5) hr hend0
    conv => whnf
    refine ⟨fun _ => ?_, ?_⟩
    · conv => whnf
      exact lc_9 (R9 i h5) hr hend0
    conv => whnf
    refine ⟨fun _ => ?_, ?_⟩
    · conv => whnf
      obtain ⟨n, w, W, k, h⟩ := hr
      refine lc_10a (R10 i h5) (shc i _ _ n w W k S M o (by omega) (by omega) h (fun r o' hs => lc_10b (R10 i h5) sub h hs (fun S M hr2 => ?_)))
      have h3 := hend (j + 1) o' (by omega) S M hr2
      rw [show 3848 + 6 * (j + 1) = 3848 + 6 * j + 6 by omega] at h3
      exact h3
    conv => whnf
    refine ⟨fun _ => ?_, ?_⟩
    · conv => whnf
      exact lc_11 (R11 i h5) hr hend0
    conv => whnf
    refine ⟨fun _ => ?_, ?_⟩
    · conv => whnf
      exact lc_12 (R12 i h5) hr hend0
    conv => whnf
    refine ⟨fun _ => ?_, ?_⟩
    · conv => whnf
      exact lc_13 (R13 i h5) hr hend0
    conv => whnf
    refine ⟨fun _ => ?_, ?_⟩
    · conv => whnf
      exact lc_14 (R14 i h5) hr hend0
    conv => whnf
    refine ⟨fun _ => ?_, ?_⟩
    · conv => whnf
      exact lc_15 (R15 i h5) hr hend0
    conv => whnf
    refine ⟨fun _ => ?_, ?_⟩
    · conv => whnf
      exact lc_16 (R16 i h5) hr hend0
    conv => whnf
    refine ⟨fun _ => ?_, ?_⟩
    · conv => whnf
      exact lc_17 (R17 i h5) hr hend0
    conv => whnf
    refine ⟨fun _ => ?_, ?_⟩
    · conv => whnf
      exact lc_18 (R18 i h5) hr hend0
    conv => whnf
    refine ⟨fun _ => ?_, ?_⟩
    · conv => whnf
      exact lc_19 (R19 i h5) hr hend0
    exact trivial
