/-! the reference: columns that tell the label -/
theorem fs_sn {p : Nat → Prop} [DecidablePred p] {n : Nat} : fs p (n + 1) = none ↔ fs p n = none ∧ ¬ p n := by
  constructor
  · intro h
    have h1 : fs p n = none := by
      cases hf : fs p n with
      | none => rfl
      | some r => rw [fs_s hf (n + 1) (by omega)] at h; cases h
    exact ⟨h1, fs_no h n (by omega)⟩
  · rintro ⟨h1, h2⟩
    exact fs_f h1 h2
abbrev smn (N : Nat → Int64) (P : Nat → Int32) (c r q : Nat) : Prop := P q ≠ -1 ∧ N (q * 3 + c) = N (r * 3 + c)
abbrev fsr (N : Nat → Int64) (P : Nat → Int32) (c r n : Nat) : Prop := P r ≠ -1 ∧ fs (fun q => smn N P c r q ∧ q < r) n = none
abbrev oner (N : Nat → Int64) (P Lb : Nat → Int32) (c r n : Nat) : Prop := fs (fun q => smn N P c r q ∧ Lb q ≠ Lb r) n = none
/-- numbers, pure ones, the first label, unlike, mixed -/
def cs1 (s : Nat × Nat × Int32 × Bool × Bool) (m : Nat) (one : Prop) [Decidable one] (lb : Int32) : Nat × Nat × Int32 × Bool × Bool :=
  (s.1 + 1, if 1 < m ∧ one then s.2.1 + 1 else s.2.1, if (1 < m ∧ one) ∧ s.2.2.1 = -1 then lb else s.2.2.1, s.2.2.2.1 || decide ((1 < m ∧ one) ∧ s.2.2.1 ≠ -1 ∧ s.2.2.1 ≠ lb), s.2.2.2.2 || decide (¬ one))
def cst (N : Nat → Int64) (P Lb : Nat → Int32) (n c : Nat) : Nat → Nat × Nat × Int32 × Bool × Bool
  | 0 => (0, 0, -1, false, false)
  | r + 1 => if fsr N P c r n then cs1 (cst N P Lb n c r) (ct (smn N P c r) n) (oner N P Lb c r n) (Lb r) else cst N P Lb n c r
theorem cst_le (N : Nat → Int64) (P Lb : Nat → Int32) (n c : Nat) : ∀ r, (cst N P Lb n c r).1 ≤ r ∧ (cst N P Lb n c r).2.1 ≤ r
  | 0 => ⟨Nat.le_refl 0, Nat.le_refl 0⟩
  | r + 1 => by
    have ih := cst_le N P Lb n c r
    simp only [cst]
    split
    · simp only [cs1]
      refine ⟨by omega, ?_⟩
      split <;> omega
    · omega
abbrev telm (s : Nat × Nat × Int32 × Bool × Bool) : Prop := 1 < s.2.1 ∧ s.2.2.2.1 = true ∧ ¬ s.2.2.2.2 = true
def LtellM (N : Nat → Int64) (P Lb : Nat → Int32) (n : Nat) : List (Int32 × Int32) := lsn (fun c => ifl (telm (cst N P Lb n c n)) (nI c) (nI (cst N P Lb n c n).1)) 3
def f_X7_columns := en_f (σ := Nat × Int32 × Sx) (fun x => [.ref 0, .int x.2.1]) (fun x => wM x.2.2) (fun x => x.1 ≤ 100 ∧ x.2.2.1 0 = nI x.1) (fun x v w => v = none ∧ w = wM (xf x.2.2 (tks x.2.1 (s3 x.2.2) (LtellM (x.2.2.2.2.2 4) (x.2.2.2.2.1 6) (x.2.2.2.2.1 2) x.1))))
def rm_X7_columns : Room := { frames := 1, cells := 0, slots := 0, locals := 23 }
def t_X7_columns : en_T := ((13, 0, 0), tb_X7_columns, fl_X7, cn_X7, [(157, 4, 9, 0, 0, f_X7_tell)], [], 0, none)
set_option maxRecDepth 100000 in
theorem tB_X7_columns (D : va_G) (dT : Nat → Nat) (l : Launch) : en_TB en_WD D vwCl dT l rm_X7_columns t_X7_columns RX7 "columns" cX7_columns := ⟨tk_X7_columns, fun s args meth h hn => ⟨fo_X7 h args meth, co_X7 h args, List.forall_mem_cons.mpr ⟨mk_X7_tell (own := RX7) h (Nat.le_of_ble_eq_true rfl) (Nat.le_of_ble_eq_true rfl) (Or.inl (en_wd h 971 (by decide +kernel) rfl args)), fun _ h => absurd h List.not_mem_nil⟩, fun _ h => absurd h List.not_mem_nil, Or.inl rfl, en_arr h args⟩⟩
set_option maxHeartbeats 4000000 in
set_option maxRecDepth 100000 in
theorem bd_X7_columns : en_B (σ := Nat × Int32 × Sx) t_X7_columns (fun x => [.ref 0, .int x.2.1]) (fun x => wM x.2.2) (fun x => x.1 ≤ 100 ∧ x.2.2.1 0 = nI x.1) (fun x v w => v = none ∧ w = wM (xf x.2.2 (tks x.2.1 (s3 x.2.2) (LtellM (x.2.2.2.2.2 4) (x.2.2.2.2.1 6) (x.2.2.2.2.1 2) x.1)))) := by
  rintro ⟨n, wt, S⟩ ⟨hn, h1⟩ G hG OK ⟨run, sub⟩
  dsimp only at hn h1 hG ⊢
  unfold LtellM at hG
  have inner : ∀ (Y : Int32 × Int32 × Int32) (a3 a4 a5 a6 a7 : Int32) (c r : Nat), c < 3 → r < n → OK 0 0 163 [(0, .ref 0), (1, .int wt), (2, .int (nI c)), (3, .int a3), (4, .int a4), (5, .int a5), (6, .int a6), (7, .int a7), (8, .int (nI r)), (9, .int (bl (fsr (S.2.2.2 4) (S.2.2.1 6) c r n))), (10, .int (nI (ct (smn (S.2.2.2 4) (S.2.2.1 6) c r) n))), (11, .int (bl (oner (S.2.2.2 4) (S.2.2.1 6) (S.2.2.1 2) c r n)))] [] (wM (xf S Y)) → ∀ q, q ≤ n → OK 0 0 60 [(0, .ref 0), (1, .int wt), (2, .int (nI c)), (3, .int a3), (4, .int a4), (5, .int a5), (6, .int a6), (7, .int a7), (8, .int (nI r)), (9, .int (bl (fsr (S.2.2.2 4) (S.2.2.1 6) c r q))), (10, .int (nI (ct (smn (S.2.2.2 4) (S.2.2.1 6) c r) q))), (11, .int (bl (oner (S.2.2.2 4) (S.2.2.1 6) (S.2.2.1 2) c r q))), (12, .int (nI q))] [] (wM (xf S Y)) := by
    intro Y a3 a4 a5 a6 a7 c r hc hr hE
    refine lp_up (fun q => OK 0 0 60 [(0, .ref 0), (1, .int wt), (2, .int (nI c)), (3, .int a3), (4, .int a4), (5, .int a5), (6, .int a6), (7, .int a7), (8, .int (nI r)), (9, .int (bl (fsr (S.2.2.2 4) (S.2.2.1 6) c r q))), (10, .int (nI (ct (smn (S.2.2.2 4) (S.2.2.1 6) c r) q))), (11, .int (bl (oner (S.2.2.2 4) (S.2.2.1 6) (S.2.2.1 2) c r q))), (12, .int (nI q))] [] (wM (xf S Y))) n ?_ ?_
    · refine run [60, 163] 60 _ _ _ _ _ _ ?_
      conv => whnf
      refine pk_le n n (fun h => ?_) (fun h => absurd h (by omega)) h1
      conv => whnf
      exact sub [0, 1, 2, 3, 4, 5, 6, 7, 8, 9, 10, 11] _ _ _ _ _ _ _ rfl hE
    · intro q hq ih
      rw [nI_succ] at ih
      have hA : fsr (S.2.2.2 4) (S.2.2.1 6) c r (q + 1) ↔ fsr (S.2.2.2 4) (S.2.2.1 6) c r q ∧ ¬ (smn (S.2.2.2 4) (S.2.2.1 6) c r q ∧ q < r) := by
        unfold fsr
        rw [fs_sn]
        exact ⟨fun z => ⟨⟨z.1, z.2.1⟩, z.2.2⟩, fun z => ⟨z.1.1, z.1.2, z.2⟩⟩
      have hB : oner (S.2.2.2 4) (S.2.2.1 6) (S.2.2.1 2) c r (q + 1) ↔ oner (S.2.2.2 4) (S.2.2.1 6) (S.2.2.1 2) c r q ∧ ¬ (smn (S.2.2.2 4) (S.2.2.1 6) c r q ∧ S.2.2.1 2 q ≠ S.2.2.1 2 r) := fs_sn
      have h157 : ∀ (x9 x11 : Int32) (x10 : Nat), x9 = bl (fsr (S.2.2.2 4) (S.2.2.1 6) c r (q + 1)) → x10 = ct (smn (S.2.2.2 4) (S.2.2.1 6) c r) (q + 1) → x11 = bl (oner (S.2.2.2 4) (S.2.2.1 6) (S.2.2.1 2) c r (q + 1)) → OK 0 0 157 [(0, .ref 0), (1, .int wt), (2, .int (nI c)), (3, .int a3), (4, .int a4), (5, .int a5), (6, .int a6), (7, .int a7), (8, .int (nI r)), (9, .int x9), (10, .int (nI x10)), (11, .int x11), (12, .int (nI q))] [] (wM (xf S Y)) := by
        intro x9 x11 x10 e9 e10 e11
        rw [← e9, ← e10, ← e11] at ih
        refine run [60] 60 _ _ _ _ _ _ ?_
        conv => whnf
        exact ih
      have hno : ¬ smn (S.2.2.2 4) (S.2.2.1 6) c r q → OK 0 0 157 [(0, .ref 0), (1, .int wt), (2, .int (nI c)), (3, .int a3), (4, .int a4), (5, .int a5), (6, .int a6), (7, .int a7), (8, .int (nI r)), (9, .int (bl (fsr (S.2.2.2 4) (S.2.2.1 6) c r q))), (10, .int (nI (ct (smn (S.2.2.2 4) (S.2.2.1 6) c r) q))), (11, .int (bl (oner (S.2.2.2 4) (S.2.2.1 6) (S.2.2.1 2) c r q))), (12, .int (nI q))] [] (wM (xf S Y)) := fun h =>
        h157 _ _ _ (bl_c (hA.trans ⟨fun z => z.1, fun z => ⟨z, fun y => h y.1⟩⟩)).symm (ct_f h).symm (bl_c (hB.trans ⟨fun z => z.1, fun z => ⟨z, fun y => h y.1⟩⟩)).symm
      have h125 : smn (S.2.2.2 4) (S.2.2.1 6) c r q → ∀ x9 : Int32, x9 = bl (fsr (S.2.2.2 4) (S.2.2.1 6) c r (q + 1)) → OK 0 0 125 [(0, .ref 0), (1, .int wt), (2, .int (nI c)), (3, .int a3), (4, .int a4), (5, .int a5), (6, .int a6), (7, .int a7), (8, .int (nI r)), (9, .int x9), (10, .int (nI (ct (smn (S.2.2.2 4) (S.2.2.1 6) c r) q))), (11, .int (bl (oner (S.2.2.2 4) (S.2.2.1 6) (S.2.2.1 2) c r q))), (12, .int (nI q))] [] (wM (xf S Y)) := by
        intro hs x9 e9
        have k157 : ∀ x11 : Int32, x11 = bl (oner (S.2.2.2 4) (S.2.2.1 6) (S.2.2.1 2) c r (q + 1)) → _ := fun x11 e11 => h157 x9 x11 (ct (smn (S.2.2.2 4) (S.2.2.1 6) c r) q + 1) e9 (ct_t hs).symm e11
        rw [nI_succ] at k157
        refine run [157] 60 _ _ _ _ _ _ ?_
        conv => whnf
        refine bl_br (fun c1 => ?_) (fun c1 => ?_)
        · have h2 := k157 0 (bl_f (fun z => c1 (hB.mp z).1)).symm
          conv => whnf
          exact h2
        · conv => whnf
          refine ⟨vp_in_nI (by omega) (by decide), ?_⟩
          rw [nI_clamp (by omega)]
          conv => whnf
          refine ⟨vp_in_nI (by omega) (by decide), ?_⟩
          rw [nI_clamp (by omega)]
          conv => whnf
          refine ⟨fun c2 => ?_, fun c2 => ?_⟩
          · have c2 : ¬ S.2.2.1 2 q = S.2.2.1 2 r := c2
            have h2 := k157 0 (bl_f (fun z => (hB.mp z).2 ⟨hs, c2⟩)).symm
            conv => whnf
            exact h2
          · have c2 : S.2.2.1 2 q = S.2.2.1 2 r := c2
            have h2 := k157 1 (bl_t (hB.mpr ⟨c1, fun z => z.2 c2⟩)).symm
            conv => whnf
            exact h2
      refine run [60, 125, 157] 60 _ _ _ _ _ _ ?_
      conv => whnf
      refine pk_le n q (fun h => absurd h (by omega)) (fun h => ?_) h1
      conv => whnf
      refine ⟨vp_in_nI (by omega) (by decide), ?_⟩
      rw [nI_clamp (by omega)]
      conv => whnf
      refine ⟨fun c1 => ?_, fun c1 => ?_⟩
      · have c1 : S.2.2.1 6 q = -1 := c1
        have h2 := hno (fun z => z.1 c1)
        conv => whnf
        exact h2
      · have c1 : ¬ S.2.2.1 6 q = -1 := c1
        conv => whnf
        rw [mul3']
        refine ⟨vp_in_nI (by omega) (by decide), ?_⟩
        rw [nI_clamp (by omega)]
        conv => whnf
        rw [mul3']
        refine ⟨vp_in_nI (by omega) (by decide), ?_⟩
        rw [nI_clamp (by omega)]
        conv => whnf
        refine lc_br2 (fun c2 => ?_) (fun c2 => ?_)
        · have c2 : ¬ S.2.2.2 4 (q * 3 + c) = S.2.2.2 4 (r * 3 + c) := c2
          have h2 := hno (fun z => c2 z.2)
          conv => whnf
          exact h2
        · have c2 : S.2.2.2 4 (q * 3 + c) = S.2.2.2 4 (r * 3 + c) := c2
          conv => whnf
          refine bl_br (fun c3 => ?_) (fun c3 => ?_)
          · have h2 := h125 ⟨c1, c2⟩ 0 (bl_f (fun z => c3 (hA.mp z).1)).symm
            conv => whnf
            exact h2
          · conv => whnf
            refine pk_lt q r (fun h => ?_) (fun h => ?_)
            · have h2 := h125 ⟨c1, c2⟩ 0 (bl_f (fun z => (hA.mp z).2 ⟨⟨c1, c2⟩, h⟩)).symm
              conv => whnf
              exact h2
            · have h2 := h125 ⟨c1, c2⟩ 1 (bl_t (hA.mpr ⟨c3, fun z => by omega⟩)).symm
              conv => whnf
              exact h2
  have body : ∀ (Y : Int32 × Int32 × Int32) (s : Nat × Nat × Int32 × Bool × Bool) (c r : Nat), c < 3 → r < n → s.2.1 ≤ r → ∀ (m : Nat) (one f : Prop) [Decidable one] [Decidable f], m ≤ n → OK 0 0 24 [(0, .ref 0), (1, .int wt), (2, .int (nI c)), (3, .int (nI (if f then cs1 s m one (S.2.2.1 2 r) else s).1)), (4, .int (nI (if f then cs1 s m one (S.2.2.1 2 r) else s).2.1)), (5, .int (if f then cs1 s m one (S.2.2.1 2 r) else s).2.2.1), (6, .int (bl ((if f then cs1 s m one (S.2.2.1 2 r) else s).2.2.2.1 = true))), (7, .int (bl ((if f then cs1 s m one (S.2.2.1 2 r) else s).2.2.2.2 = true))), (8, .int (nI (r + 1)))] [] (wM (xf S Y)) → OK 0 0 163 [(0, .ref 0), (1, .int wt), (2, .int (nI c)), (3, .int (nI s.1)), (4, .int (nI s.2.1)), (5, .int s.2.2.1), (6, .int (bl (s.2.2.2.1 = true))), (7, .int (bl (s.2.2.2.2 = true))), (8, .int (nI r)), (9, .int (bl f)), (10, .int (nI m)), (11, .int (bl one))] [] (wM (xf S Y)) := by
    intro Y s c r hc hr hs m one f _ _ hm hN
    rw [nI_succ r] at hN
    by_cases hf : f
    rotate_left
    · rw [if_neg hf] at hN
      refine run [24] 60 _ _ _ _ _ _ ?_
      conv => whnf
      refine bl_br (fun _ => ?_) (fun z => absurd z hf)
      conv => whnf
      exact sub [0, 1, 2, 3, 4, 5, 6, 7, 8] _ _ _ _ _ _ _ rfl hN
    · rw [if_pos hf] at hN
      obtain ⟨s1, s2, s3_, s4, s5⟩ := s
      simp only [cs1] at hN
      dsimp only at hs ⊢
      rw [nI_succ s1] at hN
      have h188 : ∀ x7 : Int32, x7 = bl ((s5 || decide (¬ one)) = true) → OK 0 0 188 [(0, .ref 0), (1, .int wt), (2, .int (nI c)), (3, .int (nI s1 + 1)), (4, .int (nI s2)), (5, .int s3_), (6, .int (bl (s4 = true))), (7, .int x7), (8, .int (nI r)), (9, .int (bl f)), (10, .int (nI m)), (11, .int (bl one))] [] (wM (xf S Y)) := by
        intro x7 e7
        rw [← e7] at hN
        have hno : ¬ (1 < m ∧ one) → OK 0 0 24 [(0, .ref 0), (1, .int wt), (2, .int (nI c)), (3, .int (nI s1 + 1)), (4, .int (nI s2)), (5, .int s3_), (6, .int (bl (s4 = true))), (7, .int x7), (8, .int (nI r + 1))] [] (wM (xf S Y)) := fun h => by
          rw [if_neg h, if_neg (fun z => h z.1), decide_eq_false (fun z => h z.1), Bool.or_false] at hN
          exact hN
        refine run [24, 202] 60 _ _ _ _ _ _ ?_
        conv => whnf
        refine pk_le m 1 (fun h => ?_) (fun h => ?_)
        · have h2 := hno (fun z => by omega)
          conv => whnf
          exact sub [0, 1, 2, 3, 4, 5, 6, 7, 8] _ _ _ _ _ _ _ rfl h2
        · conv => whnf
          refine bl_br (fun c1 => ?_) (fun c1 => ?_)
          · have h2 := hno (fun z => c1 z.2)
            conv => whnf
            exact sub [0, 1, 2, 3, 4, 5, 6, 7, 8] _ _ _ _ _ _ _ rfl h2
          · rw [if_pos ⟨h, c1⟩, nI_succ s2] at hN
            have h232 : ∀ x6 : Int32, x6 = bl ((s4 || decide ((1 < m ∧ one) ∧ s3_ ≠ -1 ∧ s3_ ≠ S.2.2.1 2 r)) = true) → OK 0 0 232 [(0, .ref 0), (1, .int wt), (2, .int (nI c)), (3, .int (nI s1 + 1)), (4, .int (nI s2 + 1)), (5, .int s3_), (6, .int x6), (7, .int x7), (8, .int (nI r)), (9, .int (bl f)), (10, .int (nI m)), (11, .int (bl one))] [] (wM (xf S Y)) := by
              intro x6 e6
              rw [← e6] at hN
              refine run [24] 60 _ _ _ _ _ _ ?_
              conv => whnf
              refine ⟨fun c2 => ?_, fun c2 => ?_⟩
              · have c2 : ¬ s3_ = -1 := c2
                rw [if_neg (fun z => c2 z.2)] at hN
                conv => whnf
                exact sub [0, 1, 2, 3, 4, 5, 6, 7, 8] _ _ _ _ _ _ _ rfl hN
              · have c2 : s3_ = -1 := c2
                rw [if_pos ⟨⟨h, c1⟩, c2⟩] at hN
                conv => whnf
                refine ⟨vp_in_nI (by omega) (by decide), ?_⟩
                rw [nI_clamp (by omega)]
                conv => whnf
                exact sub [0, 1, 2, 3, 4, 5, 6, 7, 8] _ _ _ _ _ _ _ rfl hN
            conv => whnf
            have h202 : OK 0 0 202 [(0, .ref 0), (1, .int wt), (2, .int (nI c)), (3, .int (nI s1 + 1)), (4, .int (nI s2 + 1)), (5, .int s3_), (6, .int (bl (s4 = true))), (7, .int x7), (8, .int (nI r)), (9, .int (bl f)), (10, .int (nI m)), (11, .int (bl one))] [] (wM (xf S Y)) := by
              refine run [232] 60 _ _ _ _ _ _ ?_
              conv => whnf
              refine bl_br2 (fun c2 => ?_) (fun c2 => ?_)
              · have h2 := h232 1 (by rw [c2]; rfl)
                conv => whnf
                exact h2
              · have c2 : s4 = false := by simpa using c2
                conv => whnf
                refine ⟨fun c3 => ?_, fun c3 => ?_⟩
                · have c3 : s3_ = -1 := c3
                  have h2 := h232 0 (by rw [c2, decide_eq_false (fun z => z.2.1 c3)]; rfl)
                  conv => whnf
                  exact h2
                · have c3 : ¬ s3_ = -1 := c3
                  conv => whnf
                  refine ⟨vp_in_nI (by omega) (by decide), ?_⟩
                  rw [nI_clamp (by omega)]
                  conv => whnf
                  refine ⟨fun c4 => ?_, fun c4 => ?_⟩
                  · have c4 : s3_ = S.2.2.1 2 r := c4
                    have h2 := h232 0 (by rw [c2, decide_eq_false (fun z => z.2.2 c4)]; rfl)
                    conv => whnf
                    exact h2
                  · have c4 : ¬ s3_ = S.2.2.1 2 r := c4
                    have h2 := h232 1 (by rw [c2, decide_eq_true ⟨⟨h, c1⟩, c3, c4⟩]; rfl)
                    conv => whnf
                    exact h2
            exact h202
      refine run [188] 60 _ _ _ _ _ _ ?_
      conv => whnf
      refine bl_br (fun z => absurd hf z) (fun _ => ?_)
      conv => whnf
      refine bl_br2 (fun c2 => ?_) (fun c2 => ?_)
      · have h2 := h188 1 (by rw [c2]; rfl)
        conv => whnf
        exact h2
      · have c2 : s5 = false := by simpa using c2
        conv => whnf
        refine bl_br2 (fun c3 => ?_) (fun c3 => ?_)
        · have h2 := h188 0 (by rw [c2, decide_eq_false (fun z => z c3)]; rfl)
          conv => whnf
          exact h2
        · have h2 := h188 1 (by rw [c2, decide_eq_true c3]; rfl)
          conv => whnf
          exact h2
  have outer := lp_up (fun c => OK 0 0 2 [(0, .ref 0), (1, .int wt), (2, .int (nI c))] [] (wM (xf S (tks wt (s3 S) (lsn (fun c => ifl (telm (cst (S.2.2.2 4) (S.2.2.1 6) (S.2.2.1 2) n c n)) (nI c) (nI (cst (S.2.2.2 4) (S.2.2.1 6) (S.2.2.1 2) n c n).1)) c))))) 3
    (by
      generalize tks wt (s3 S) (lsn (fun c => ifl (telm (cst (S.2.2.2 4) (S.2.2.1 6) (S.2.2.1 2) n c n)) (nI c) (nI (cst (S.2.2.2 4) (S.2.2.1 6) (S.2.2.1 2) n c n).1)) 3) = Y at hG ⊢
      refine run [2] 60 _ _ _ _ _ _ ?_
      conv => whnf
      refine pk_le 3 3 (fun h => ?_) (fun h => absurd h (by omega))
      conv => whnf
      exact hG _ _ ⟨rfl, rfl⟩)
    (fun c hc ih => by
      simp only [lsn] at ih
      rw [tks_app, nI_succ] at ih
      generalize tks wt (s3 S) (lsn (fun c => ifl (telm (cst (S.2.2.2 4) (S.2.2.1 6) (S.2.2.1 2) n c n)) (nI c) (nI (cst (S.2.2.2 4) (S.2.2.1 6) (S.2.2.1 2) n c n).1)) c) = Y at ih ⊢
      have rows := lp_up (fun r => OK 0 0 24 [(0, .ref 0), (1, .int wt), (2, .int (nI c)), (3, .int (nI (cst (S.2.2.2 4) (S.2.2.1 6) (S.2.2.1 2) n c r).1)), (4, .int (nI (cst (S.2.2.2 4) (S.2.2.1 6) (S.2.2.1 2) n c r).2.1)), (5, .int (cst (S.2.2.2 4) (S.2.2.1 6) (S.2.2.1 2) n c r).2.2.1), (6, .int (bl ((cst (S.2.2.2 4) (S.2.2.1 6) (S.2.2.1 2) n c r).2.2.2.1 = true))), (7, .int (bl ((cst (S.2.2.2 4) (S.2.2.1 6) (S.2.2.1 2) n c r).2.2.2.2 = true))), (8, .int (nI r))] [] (wM (xf S Y))) n
        (by
          have hle := (cst_le (S.2.2.2 4) (S.2.2.1 6) (S.2.2.1 2) n c n).2
          generalize cst (S.2.2.2 4) (S.2.2.1 6) (S.2.2.1 2) n c n = s at hle ih ⊢
          obtain ⟨s1, s2, s3_, s4, s5⟩ := s
          dsimp only at hle ih ⊢
          refine run [2, 24] 60 _ _ _ _ _ _ ?_
          conv => whnf
          refine pk_le n n (fun h => ?_) (fun h => absurd h (by omega)) h1
          conv => whnf
          refine pk_le s2 1 (fun h => ?_) (fun h => ?_)
          · rw [ifl_f (fun z => by have := z.1; dsimp only at this; omega), tks_0] at ih
            conv => whnf
            exact sub [0, 1, 2] _ _ _ _ _ _ _ rfl ih
          · conv => whnf
            refine bl_br (fun c1 => ?_) (fun c1 => ?_)
            · rw [ifl_f (fun z => c1 z.2.1), tks_0] at ih
              conv => whnf
              exact sub [0, 1, 2] _ _ _ _ _ _ _ rfl ih
            · conv => whnf
              refine bl_br2 (fun c2 => ?_) (fun c2 => ?_)
              · rw [ifl_f (fun z => z.2.2 c2), tks_0] at ih
                conv => whnf
                exact sub [0, 1, 2] _ _ _ _ _ _ _ rfl ih
              · rw [ifl_t ⟨h, c1, c2⟩, tks_1] at ih
                conv => whnf
                refine ⟨(wt, nI c, nI s1, xf S Y), rfl, rfl, trivial, ?_⟩
                rintro _ _ ⟨rfl, rfl⟩
                conv => whnf
                exact sub [0, 1, 2] _ _ _ _ _ _ _ rfl ih)
        (fun r hr ihr => by
          have hle := (cst_le (S.2.2.2 4) (S.2.2.1 6) (S.2.2.1 2) n c r).2
          have e : cst (S.2.2.2 4) (S.2.2.1 6) (S.2.2.1 2) n c (r + 1) = if fsr (S.2.2.2 4) (S.2.2.1 6) c r n then cs1 (cst (S.2.2.2 4) (S.2.2.1 6) (S.2.2.1 2) n c r) (ct (smn (S.2.2.2 4) (S.2.2.1 6) c r) n) (oner (S.2.2.2 4) (S.2.2.1 6) (S.2.2.1 2) c r n) (S.2.2.1 2 r) else cst (S.2.2.2 4) (S.2.2.1 6) (S.2.2.1 2) n c r := rfl
          rw [e] at ihr
          clear e
          generalize cst (S.2.2.2 4) (S.2.2.1 6) (S.2.2.1 2) n c r = s at hle ihr ⊢
          have h163 := body Y s c r hc hr hle (ct (smn (S.2.2.2 4) (S.2.2.1 6) c r) n) (oner (S.2.2.2 4) (S.2.2.1 6) (S.2.2.1 2) c r n) (fsr (S.2.2.2 4) (S.2.2.1 6) c r n) (ct_le _ n) ihr
          have h60 := inner Y _ _ _ _ _ c r hc hr h163 0 (by omega)
          have h60' : ∀ x9 : Int32, x9 = bl (S.2.2.1 6 r ≠ -1) → OK 0 0 60 [(0, .ref 0), (1, .int wt), (2, .int (nI c)), (3, .int (nI s.1)), (4, .int (nI s.2.1)), (5, .int s.2.2.1), (6, .int (bl (s.2.2.2.1 = true))), (7, .int (bl (s.2.2.2.2 = true))), (8, .int (nI r)), (9, .int x9), (10, .int 0), (11, .int 1), (12, .int (nI 0))] [] (wM (xf S Y)) := by
            intro x9 e9
            rw [e9]
            have e : bl (fsr (S.2.2.2 4) (S.2.2.1 6) c r 0) = bl (S.2.2.1 6 r ≠ -1) := bl_c ⟨fun z => z.1, fun z => ⟨z, rfl⟩⟩
            have e2 : bl (oner (S.2.2.2 4) (S.2.2.1 6) (S.2.2.1 2) c r 0) = 1 := bl_t rfl
            rw [e, e2] at h60
            exact h60
          refine run [24, 60] 60 _ _ _ _ _ _ ?_
          conv => whnf
          refine pk_le n r (fun h => absurd h (by omega)) (fun h => ?_) h1
          conv => whnf
          refine ⟨vp_in_nI (by omega) (by decide), ?_⟩
          rw [nI_clamp (by omega)]
          conv => whnf
          refine ⟨fun c1 => ?_, fun c1 => ?_⟩
          · have c1 : S.2.2.1 6 r = -1 := c1
            have h2 := h60' 0 (bl_f (fun z => z c1)).symm
            conv => whnf
            exact h2
          · have c1 : ¬ S.2.2.1 6 r = -1 := c1
            have h2 := h60' 1 (bl_t c1).symm
            conv => whnf
            exact h2)
      have h0 := rows 0 (by omega)
      refine run [2, 24] 60 _ _ _ _ _ _ ?_
      conv => whnf
      refine pk_le 3 c (fun h => absurd h (by omega)) (fun h => ?_)
      conv => whnf
      exact h0)
  refine run [2] 60 _ _ _ _ _ _ ?_
  conv => whnf
  exact outer 0 (by omega)
theorem ct_X7_columns (D : va_G) (dT : Nat → Nat) (l : Launch) : en_CT en_WD D vwCl dT l yX7_columns cX7_columns 13 (none) rm_X7_columns f_X7_columns := en_met en_WD1 en_WD2 (by decide) rfl rfl (tB_X7_columns D dT l) (en_f_ln (fun _ => Nat.le_of_ble_eq_true rfl)) (en_f_bd bd_X7_columns)
set_option maxRecDepth 100000 in
theorem mk_X7_columns {D : va_G} {dT : Nat → Nat} {l : Launch} {R : Room} {s : State} {args : Array Value} {own : String} {idx : Nat} (h : en_WD s) (h1 : rm_X7_columns.frames + 1 ≤ R.frames) (h2 : 8 + (13 + 11) + rm_X7_columns.locals ≤ R.locals) (hl : (Jvm.Cond.methodLink own idx yX7_columns).before args s = true ∨ ∃ host, (Jvm.Cond.methodLinkNest own idx yX7_columns host).before args s = true) : en_mok en_WD D vwCl dT l R s args own (idx, 2, 9, 0, 0, f_X7_columns) :=
  ⟨yX7_columns, cX7_columns, 13, none, rm_X7_columns, 1, ct_X7_columns D dT l, rfl, rfl, h1, h2, en_wd h 986 rfl rfl args, en_wd h 66 (by decide +kernel) rfl args, by decide, by decide, hl, ⟨RX7, TX7, 24, rfl, en_wd h 985 (by decide +kernel) rfl args, en_wd h 55 (by decide +kernel) rfl args, rfl⟩⟩
