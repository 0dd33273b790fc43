/-! SplitLeaks$Finder: columns that tell; the search -/
theorem fs_none {p : Nat → Prop} [DecidablePred p] : ∀ {n : Nat}, (∀ j, j < n → ¬ p j) → fs p n = none
  | 0, _ => rfl
  | n + 1, h => fs_f (fs_none (fun j hj => h j (by omega))) (h n (by omega))
/-- the number of a row stands again behind it; with another label -/
abbrev sab (N : Nat → Int64) (P : Nat → Int32) (n c a : Nat) : Prop := fs (fun b => a + 1 ≤ b ∧ P b ≠ -1 ∧ N (a * 3 + c) = N (b * 3 + c)) n ≠ none
abbrev swo (N : Nat → Int64) (P Lb : Nat → Int32) (n c a : Nat) : Prop := fs (fun b => a + 1 ≤ b ∧ P b ≠ -1 ∧ N (a * 3 + c) = N (b * 3 + c) ∧ Lb a ≠ Lb b) n ≠ none
def f_X1_standsAgainBehind := en_f (σ := Nat × Nat × Nat × Sx) (fun x => [.ref 23, .int (nI x.2.1), .int (nI x.2.2.1)]) (fun x => wX x.2.2.2) (fun x => x.1 ≤ 100 ∧ x.2.2.2.1 1 = nI x.1 ∧ x.2.1 < x.1 ∧ x.2.2.1 < 3) (fun x v w => v = some (.int (bl (sab (x.2.2.2.2.2.2 6) (x.2.2.2.2.2.1 5) x.1 x.2.2.1 x.2.1))) ∧ w = wX x.2.2.2)
def rm_X1_standsAgainBehind : Room := { frames := 1, cells := 0, slots := 0, locals := 23 }
def t_X1_standsAgainBehind : en_T := ((4, 0, 0), tb_X1_standsAgainBehind, fl_X1, cn_X1, [(99, 2, 4, 0, 0, f_X2_isPlaced), (111, 4, 4, 0, 0, f_X2_haveSameNumber)], [], 0, some .boolean)
set_option maxRecDepth 100000 in
theorem tB_X1_standsAgainBehind (D : va_G) (dT : Nat → Nat) (l : Launch) : en_TB en_WD D vwCl dT l rm_X1_standsAgainBehind t_X1_standsAgainBehind RX1 "standsAgainBehind" cX1_standsAgainBehind := ⟨tk_X1_standsAgainBehind, fun s args meth h hn => ⟨fo_X1 h args meth, co_X1 h args, List.forall_mem_cons.mpr ⟨mk_X2_isPlaced (own := RX1) h (Nat.le_of_ble_eq_true rfl) (Nat.le_of_ble_eq_true rfl) (Or.inl (en_wd h 568 (by decide +kernel) rfl args)), List.forall_mem_cons.mpr ⟨mk_X2_haveSameNumber (own := RX1) h (Nat.le_of_ble_eq_true rfl) (Nat.le_of_ble_eq_true rfl) (Or.inl (en_wd h 573 (by decide +kernel) rfl args)), fun _ h => absurd h List.not_mem_nil⟩⟩, fun _ h => absurd h List.not_mem_nil, Or.inl rfl, en_arr h args⟩⟩
set_option maxHeartbeats 4000000 in
set_option maxRecDepth 100000 in
theorem bd_X1_standsAgainBehind : en_B (σ := Nat × Nat × Nat × Sx) t_X1_standsAgainBehind (fun x => [.ref 23, .int (nI x.2.1), .int (nI x.2.2.1)]) (fun x => wX x.2.2.2) (fun x => x.1 ≤ 100 ∧ x.2.2.2.1 1 = nI x.1 ∧ x.2.1 < x.1 ∧ x.2.2.1 < 3) (fun x v w => v = some (.int (bl (sab (x.2.2.2.2.2.2 6) (x.2.2.2.2.2.1 5) x.1 x.2.2.1 x.2.1))) ∧ w = wX x.2.2.2) := by
  rintro ⟨n, a, c, S⟩ ⟨hn, h1, ha, hc⟩ G hG OK ⟨run, sub⟩
  dsimp only at hn h1 ha hc hG ⊢
  have loop := lp_up (fun i => a + 1 ≤ i → fs (fun b => a + 1 ≤ b ∧ S.2.2.1 5 b ≠ -1 ∧ S.2.2.2 6 (a * 3 + c) = S.2.2.2 6 (b * 3 + c)) i = none → OK 0 0 4 [(0, .ref 23), (1, .int (nI a)), (2, .int (nI c)), (3, .int (nI i))] [] (wX S)) n
    (fun _ hf => by
      refine run [4] 60 _ _ _ _ _ _ ?_
      conv => whnf
      refine pk_le n n (fun h => ?_) (fun h => absurd h (by omega)) h1
      conv => whnf
      exact ⟨rfl, hG _ _ ⟨bl_af (fun z => z hf) rfl, rfl⟩⟩)
    (fun i hi ih hai hf => by
      have ih := ih (by omega)
      rw [nI_succ] at ih
      refine run [4] 60 _ _ _ _ _ _ ?_
      conv => whnf
      refine pk_le n i (fun h => absurd h (by omega)) (fun h => ?_) h1
      conv => whnf
      refine ⟨(i, S), rfl, rfl, (by dsimp only; omega), ?_⟩
      rintro _ _ ⟨rfl, rfl⟩
      conv => whnf
      refine bl_br (fun hp => ?_) (fun hp => ?_)
      · conv => whnf
        exact ih (fs_f hf (fun z => hp z.2.1))
      · conv => whnf
        refine ⟨(a, i, c, S), rfl, rfl, ⟨by dsimp only; omega, by dsimp only; omega, hc⟩, ?_⟩
        rintro _ _ ⟨rfl, rfl⟩
        conv => whnf
        refine bl_br (fun hq => ?_) (fun hq => ?_)
        · conv => whnf
          exact ih (fs_f hf (fun z => hq z.2.2))
        · conv => whnf
          have := fs_s (fs_t (p := fun b => a + 1 ≤ b ∧ S.2.2.1 5 b ≠ -1 ∧ S.2.2.2 6 (a * 3 + c) = S.2.2.2 6 (b * 3 + c)) hf ⟨hai, hp, hq⟩) n (by omega)
          exact ⟨rfl, hG _ _ ⟨bl_at (fun z => by rw [this] at z; cases z) rfl, rfl⟩⟩)
  refine run [4] 60 _ _ _ _ _ _ ?_
  conv => whnf
  have h0 := loop (a + 1) (by omega) (Nat.le_refl _) (fs_none (fun j hj z => by omega))
  rw [nI_succ] at h0
  exact h0
theorem ct_X1_standsAgainBehind (D : va_G) (dT : Nat → Nat) (l : Launch) : en_CT en_WD D vwCl dT l yX1_standsAgainBehind cX1_standsAgainBehind 4 (some .boolean) rm_X1_standsAgainBehind f_X1_standsAgainBehind := en_met en_WD1 en_WD2 (by decide) rfl rfl (tB_X1_standsAgainBehind D dT l) (en_f_ln (fun _ => Nat.le_of_ble_eq_true rfl)) (en_f_bd bd_X1_standsAgainBehind)
set_option maxRecDepth 100000 in
theorem mk_X1_standsAgainBehind {D : va_G} {dT : Nat → Nat} {l : Launch} {R : Room} {s : State} {args : Array Value} {own : String} {idx : Nat} (h : en_WD s) (h1 : rm_X1_standsAgainBehind.frames + 1 ≤ R.frames) (h2 : 8 + (4 + 11) + rm_X1_standsAgainBehind.locals ≤ R.locals) (hl : (Jvm.Cond.methodLink own idx yX1_standsAgainBehind).before args s = true ∨ ∃ host, (Jvm.Cond.methodLinkNest own idx yX1_standsAgainBehind host).before args s = true) : en_mok en_WD D vwCl dT l R s args own (idx, 3, 3, 0, 0, f_X1_standsAgainBehind) :=
  ⟨yX1_standsAgainBehind, cX1_standsAgainBehind, 4, some .boolean, rm_X1_standsAgainBehind, 2, ct_X1_standsAgainBehind D dT l, rfl, rfl, h1, h2, en_wd h 577 rfl rfl args, en_wd h 65 (by decide +kernel) rfl args, by decide, by decide, hl, ⟨RX1, TX1, 6, rfl, en_wd h 576 (by decide +kernel) rfl args, en_wd h 29 (by decide +kernel) rfl args, rfl⟩⟩
def f_X1_standsWithOtherLabel := en_f (σ := Nat × Nat × Nat × Sx) (fun x => [.ref 23, .int (nI x.2.1), .int (nI x.2.2.1)]) (fun x => wX x.2.2.2) (fun x => x.1 ≤ 100 ∧ x.2.2.2.1 1 = nI x.1 ∧ x.2.1 < x.1 ∧ x.2.2.1 < 3) (fun x v w => v = some (.int (bl (swo (x.2.2.2.2.2.2 6) (x.2.2.2.2.2.1 5) (x.2.2.2.2.2.1 3) x.1 x.2.2.1 x.2.1))) ∧ w = wX x.2.2.2)
def rm_X1_standsWithOtherLabel : Room := { frames := 1, cells := 0, slots := 0, locals := 23 }
def t_X1_standsWithOtherLabel : en_T := ((4, 0, 0), tb_X1_standsWithOtherLabel, fl_X1, cn_X1, [(99, 2, 4, 0, 0, f_X2_isPlaced), (111, 4, 4, 0, 0, f_X2_haveSameNumber)], [], 0, some .boolean)
set_option maxRecDepth 100000 in
theorem tB_X1_standsWithOtherLabel (D : va_G) (dT : Nat → Nat) (l : Launch) : en_TB en_WD D vwCl dT l rm_X1_standsWithOtherLabel t_X1_standsWithOtherLabel RX1 "standsWithOtherLabel" cX1_standsWithOtherLabel := ⟨tk_X1_standsWithOtherLabel, fun s args meth h hn => ⟨fo_X1 h args meth, co_X1 h args, List.forall_mem_cons.mpr ⟨mk_X2_isPlaced (own := RX1) h (Nat.le_of_ble_eq_true rfl) (Nat.le_of_ble_eq_true rfl) (Or.inl (en_wd h 568 (by decide +kernel) rfl args)), List.forall_mem_cons.mpr ⟨mk_X2_haveSameNumber (own := RX1) h (Nat.le_of_ble_eq_true rfl) (Nat.le_of_ble_eq_true rfl) (Or.inl (en_wd h 573 (by decide +kernel) rfl args)), fun _ h => absurd h List.not_mem_nil⟩⟩, fun _ h => absurd h List.not_mem_nil, Or.inl rfl, en_arr h args⟩⟩
set_option maxHeartbeats 4000000 in
set_option maxRecDepth 100000 in
theorem bd_X1_standsWithOtherLabel : en_B (σ := Nat × Nat × Nat × Sx) t_X1_standsWithOtherLabel (fun x => [.ref 23, .int (nI x.2.1), .int (nI x.2.2.1)]) (fun x => wX x.2.2.2) (fun x => x.1 ≤ 100 ∧ x.2.2.2.1 1 = nI x.1 ∧ x.2.1 < x.1 ∧ x.2.2.1 < 3) (fun x v w => v = some (.int (bl (swo (x.2.2.2.2.2.2 6) (x.2.2.2.2.2.1 5) (x.2.2.2.2.2.1 3) x.1 x.2.2.1 x.2.1))) ∧ w = wX x.2.2.2) := by
  rintro ⟨n, a, c, S⟩ ⟨hn, h1, ha, hc⟩ G hG OK ⟨run, sub⟩
  dsimp only at hn h1 ha hc hG ⊢
  have loop := lp_up (fun i => a + 1 ≤ i → fs (fun b => a + 1 ≤ b ∧ S.2.2.1 5 b ≠ -1 ∧ S.2.2.2 6 (a * 3 + c) = S.2.2.2 6 (b * 3 + c) ∧ S.2.2.1 3 a ≠ S.2.2.1 3 b) i = none → OK 0 0 4 [(0, .ref 23), (1, .int (nI a)), (2, .int (nI c)), (3, .int (nI i))] [] (wX S)) n
    (fun _ hf => by
      refine run [4] 60 _ _ _ _ _ _ ?_
      conv => whnf
      refine pk_le n n (fun h => ?_) (fun h => absurd h (by omega)) h1
      conv => whnf
      exact ⟨rfl, hG _ _ ⟨bl_af (fun z => z hf) rfl, rfl⟩⟩)
    (fun i hi ih hai hf => by
      have ih := ih (by omega)
      rw [nI_succ] at ih
      refine run [4] 60 _ _ _ _ _ _ ?_
      conv => whnf
      refine pk_le n i (fun h => absurd h (by omega)) (fun h => ?_) h1
      conv => whnf
      refine ⟨(i, S), rfl, rfl, (by dsimp only; omega), ?_⟩
      rintro _ _ ⟨rfl, rfl⟩
      conv => whnf
      refine bl_br (fun hp => ?_) (fun hp => ?_)
      · conv => whnf
        exact ih (fs_f hf (fun z => hp z.2.1))
      · conv => whnf
        refine ⟨(a, i, c, S), rfl, rfl, ⟨by dsimp only; omega, by dsimp only; omega, hc⟩, ?_⟩
        rintro _ _ ⟨rfl, rfl⟩
        conv => whnf
        refine bl_br (fun hq => ?_) (fun hq => ?_)
        · conv => whnf
          exact ih (fs_f hf (fun z => hq z.2.2.1))
        · conv => whnf
          refine ⟨vp_in_nI (by omega) (by decide), ?_⟩
          rw [nI_clamp (by omega)]
          conv => whnf
          refine ⟨vp_in_nI (by omega) (by decide), ?_⟩
          rw [nI_clamp (by omega)]
          conv => whnf
          refine ⟨fun hr => ?_, fun hr => ?_⟩
          · conv => whnf
            exact ih (fs_f hf (fun z => z.2.2.2 hr))
          · conv => whnf
            have := fs_s (fs_t (p := fun b => a + 1 ≤ b ∧ S.2.2.1 5 b ≠ -1 ∧ S.2.2.2 6 (a * 3 + c) = S.2.2.2 6 (b * 3 + c) ∧ S.2.2.1 3 a ≠ S.2.2.1 3 b) hf ⟨hai, hp, hq, hr⟩) n (by omega)
            exact ⟨rfl, hG _ _ ⟨bl_at (fun z => by rw [this] at z; cases z) rfl, rfl⟩⟩)
  refine run [4] 60 _ _ _ _ _ _ ?_
  conv => whnf
  have h0 := loop (a + 1) (by omega) (Nat.le_refl _) (fs_none (fun j hj z => by omega))
  rw [nI_succ] at h0
  exact h0
theorem ct_X1_standsWithOtherLabel (D : va_G) (dT : Nat → Nat) (l : Launch) : en_CT en_WD D vwCl dT l yX1_standsWithOtherLabel cX1_standsWithOtherLabel 4 (some .boolean) rm_X1_standsWithOtherLabel f_X1_standsWithOtherLabel := en_met en_WD1 en_WD2 (by decide) rfl rfl (tB_X1_standsWithOtherLabel D dT l) (en_f_ln (fun _ => Nat.le_of_ble_eq_true rfl)) (en_f_bd bd_X1_standsWithOtherLabel)
set_option maxRecDepth 100000 in
theorem mk_X1_standsWithOtherLabel {D : va_G} {dT : Nat → Nat} {l : Launch} {R : Room} {s : State} {args : Array Value} {own : String} {idx : Nat} (h : en_WD s) (h1 : rm_X1_standsWithOtherLabel.frames + 1 ≤ R.frames) (h2 : 8 + (4 + 11) + rm_X1_standsWithOtherLabel.locals ≤ R.locals) (hl : (Jvm.Cond.methodLink own idx yX1_standsWithOtherLabel).before args s = true ∨ ∃ host, (Jvm.Cond.methodLinkNest own idx yX1_standsWithOtherLabel host).before args s = true) : en_mok en_WD D vwCl dT l R s args own (idx, 3, 3, 0, 0, f_X1_standsWithOtherLabel) :=
  ⟨yX1_standsWithOtherLabel, cX1_standsWithOtherLabel, 4, some .boolean, rm_X1_standsWithOtherLabel, 2, ct_X1_standsWithOtherLabel D dT l, rfl, rfl, h1, h2, en_wd h 572 rfl rfl args, en_wd h 65 (by decide +kernel) rfl args, by decide, by decide, hl, ⟨RX1, TX1, 6, rfl, en_wd h 571 (by decide +kernel) rfl args, en_wd h 28 (by decide +kernel) rfl args, rfl⟩⟩
def f_X1_countNumbers := en_f (σ := Nat × Nat × Sx) (fun x => [.ref 23, .int (nI x.2.1)]) (fun x => wX x.2.2) (fun x => x.1 ≤ 100 ∧ x.2.2.1 1 = nI x.1 ∧ x.2.1 < 3) (fun x v w => v = some (.int (nI (ct (fun a => x.2.2.2.2.1 5 a ≠ -1 ∧ ¬ sab (x.2.2.2.2.2 6) (x.2.2.2.2.1 5) x.1 x.2.1 a) x.1))) ∧ w = wX x.2.2)
def rm_X1_countNumbers : Room := { frames := 2, cells := 0, slots := 0, locals := 46 }
def t_X1_countNumbers : en_T := ((4, 0, 0), tb_X1_countNumbers, fl_X1, cn_X1, [(99, 2, 4, 0, 0, f_X2_isPlaced), (105, 3, 3, 0, 0, f_X1_standsAgainBehind)], [], 0, some .int)
set_option maxRecDepth 100000 in
theorem tB_X1_countNumbers (D : va_G) (dT : Nat → Nat) (l : Launch) : en_TB en_WD D vwCl dT l rm_X1_countNumbers t_X1_countNumbers RX1 "countNumbers" cX1_countNumbers := ⟨tk_X1_countNumbers, fun s args meth h hn => ⟨fo_X1 h args meth, co_X1 h args, List.forall_mem_cons.mpr ⟨mk_X2_isPlaced (own := RX1) h (Nat.le_of_ble_eq_true rfl) (Nat.le_of_ble_eq_true rfl) (Or.inl (en_wd h 568 (by decide +kernel) rfl args)), List.forall_mem_cons.mpr ⟨mk_X1_standsAgainBehind (own := RX1) h (Nat.le_of_ble_eq_true rfl) (Nat.le_of_ble_eq_true rfl) (Or.inl (en_wd h 574 (by decide +kernel) rfl args)), fun _ h => absurd h List.not_mem_nil⟩⟩, fun _ h => absurd h List.not_mem_nil, Or.inl rfl, en_arr h args⟩⟩
set_option maxHeartbeats 4000000 in
set_option maxRecDepth 100000 in
theorem bd_X1_countNumbers : en_B (σ := Nat × Nat × Sx) t_X1_countNumbers (fun x => [.ref 23, .int (nI x.2.1)]) (fun x => wX x.2.2) (fun x => x.1 ≤ 100 ∧ x.2.2.1 1 = nI x.1 ∧ x.2.1 < 3) (fun x v w => v = some (.int (nI (ct (fun a => x.2.2.2.2.1 5 a ≠ -1 ∧ ¬ sab (x.2.2.2.2.2 6) (x.2.2.2.2.1 5) x.1 x.2.1 a) x.1))) ∧ w = wX x.2.2) := by
  rintro ⟨n, c, S⟩ ⟨hn, h1, hc⟩ G hG OK ⟨run, sub⟩
  dsimp only at hn h1 hc hG ⊢
  have loop := lp_up (fun i => OK 0 0 4 [(0, .ref 23), (1, .int (nI c)), (2, .int (nI (ct (fun a => S.2.2.1 5 a ≠ -1 ∧ ¬ sab (S.2.2.2 6) (S.2.2.1 5) n c a) i))), (3, .int (nI i))] [] (wX S)) n
    (by
      refine run [4] 60 _ _ _ _ _ _ ?_
      conv => whnf
      refine pk_le n n (fun h => ?_) (fun h => absurd h (by omega)) h1
      conv => whnf
      exact hG _ _ ⟨rfl, rfl⟩)
    (fun i hi ih => by
      rw [nI_succ] at ih
      refine run [4] 60 _ _ _ _ _ _ ?_
      conv => whnf
      refine pk_le n i (fun h => absurd h (by omega)) (fun h => ?_) h1
      conv => whnf
      refine ⟨(i, S), rfl, rfl, (by dsimp only; omega), ?_⟩
      rintro _ _ ⟨rfl, rfl⟩
      conv => whnf
      refine bl_br (fun hp => ?_) (fun hp => ?_)
      · conv => whnf
        rw [ct_f (p := fun a => S.2.2.1 5 a ≠ -1 ∧ ¬ sab (S.2.2.2 6) (S.2.2.1 5) n c a) (fun z => hp z.1)] at ih
        exact ih
      · conv => whnf
        refine ⟨(n, i, c, S), rfl, rfl, ⟨hn, h1, hi, hc⟩, ?_⟩
        rintro _ _ ⟨rfl, rfl⟩
        conv => whnf
        refine bl_br2 (fun hq => ?_) (fun hq => ?_)
        · conv => whnf
          rw [ct_f (p := fun a => S.2.2.1 5 a ≠ -1 ∧ ¬ sab (S.2.2.2 6) (S.2.2.1 5) n c a) (fun z => z.2 hq)] at ih
          exact ih
        · conv => whnf
          rw [ct_t (p := fun a => S.2.2.1 5 a ≠ -1 ∧ ¬ sab (S.2.2.2 6) (S.2.2.1 5) n c a) ⟨hp, hq⟩, nI_succ] at ih
          exact ih)
  refine run [4] 60 _ _ _ _ _ _ ?_
  conv => whnf
  exact loop 0 (by omega)
theorem ct_X1_countNumbers (D : va_G) (dT : Nat → Nat) (l : Launch) : en_CT en_WD D vwCl dT l yX1_countNumbers cX1_countNumbers 4 (some .int) rm_X1_countNumbers f_X1_countNumbers := en_met en_WD1 en_WD2 (by decide) rfl rfl (tB_X1_countNumbers D dT l) (en_f_ln (fun _ => Nat.le_of_ble_eq_true rfl)) (en_f_bd bd_X1_countNumbers)
set_option maxRecDepth 100000 in
theorem mk_X1_countNumbers {D : va_G} {dT : Nat → Nat} {l : Launch} {R : Room} {s : State} {args : Array Value} {own : String} {idx : Nat} (h : en_WD s) (h1 : rm_X1_countNumbers.frames + 1 ≤ R.frames) (h2 : 8 + (4 + 11) + rm_X1_countNumbers.locals ≤ R.locals) (hl : (Jvm.Cond.methodLink own idx yX1_countNumbers).before args s = true ∨ ∃ host, (Jvm.Cond.methodLinkNest own idx yX1_countNumbers host).before args s = true) : en_mok en_WD D vwCl dT l R s args own (idx, 2, 3, 0, 0, f_X1_countNumbers) :=
  ⟨yX1_countNumbers, cX1_countNumbers, 4, some .int, rm_X1_countNumbers, 1, ct_X1_countNumbers D dT l, rfl, rfl, h1, h2, en_wd h 581 rfl rfl args, en_wd h 65 (by decide +kernel) rfl args, by decide, by decide, hl, ⟨RX1, TX1, 6, rfl, en_wd h 580 (by decide +kernel) rfl args, en_wd h 30 (by decide +kernel) rfl args, rfl⟩⟩
/-- the last repeated number's label; are there unlike ones -/
def tst (N : Nat → Int64) (P Lb : Nat → Int32) (n c : Nat) : Nat → Int32 × Bool
  | 0 => (-1, false)
  | a + 1 => if P a ≠ -1 ∧ sab N P n c a then (Lb a, (tst N P Lb n c a).2 || decide ((tst N P Lb n c a).1 ≠ -1 ∧ (tst N P Lb n c a).1 ≠ Lb a)) else tst N P Lb n c a
theorem tst_t {N : Nat → Int64} {P Lb : Nat → Int32} {n c a : Nat} (h : P a ≠ -1 ∧ sab N P n c a) : tst N P Lb n c (a + 1) = (Lb a, (tst N P Lb n c a).2 || decide ((tst N P Lb n c a).1 ≠ -1 ∧ (tst N P Lb n c a).1 ≠ Lb a)) := if_pos h
theorem tst_f {N : Nat → Int64} {P Lb : Nat → Int32} {n c a : Nat} (h : ¬ (P a ≠ -1 ∧ sab N P n c a)) : tst N P Lb n c (a + 1) = tst N P Lb n c a := if_neg h
abbrev tells (N : Nat → Int64) (P Lb : Nat → Int32) (n c : Nat) : Prop := fs (fun a => P a ≠ -1 ∧ swo N P Lb n c a) n = none ∧ (tst N P Lb n c n).2 = true
def f_X1_tellsLabel := en_f (σ := Nat × Nat × Sx) (fun x => [.ref 23, .int (nI x.2.1)]) (fun x => wX x.2.2) (fun x => x.1 ≤ 100 ∧ x.2.2.1 1 = nI x.1 ∧ x.2.1 < 3) (fun x v w => v = some (.int (bl (tells (x.2.2.2.2.2 6) (x.2.2.2.2.1 5) (x.2.2.2.2.1 3) x.1 x.2.1))) ∧ w = wX x.2.2)
def rm_X1_tellsLabel : Room := { frames := 2, cells := 0, slots := 0, locals := 46 }
def t_X1_tellsLabel : en_T := ((5, 0, 0), tb_X1_tellsLabel, fl_X1, cn_X1, [(99, 2, 4, 0, 0, f_X2_isPlaced), (102, 3, 3, 0, 0, f_X1_standsWithOtherLabel), (105, 3, 3, 0, 0, f_X1_standsAgainBehind)], [], 0, some .boolean)
set_option maxRecDepth 100000 in
theorem tB_X1_tellsLabel (D : va_G) (dT : Nat → Nat) (l : Launch) : en_TB en_WD D vwCl dT l rm_X1_tellsLabel t_X1_tellsLabel RX1 "tellsLabel" cX1_tellsLabel := ⟨tk_X1_tellsLabel, fun s args meth h hn => ⟨fo_X1 h args meth, co_X1 h args, List.forall_mem_cons.mpr ⟨mk_X2_isPlaced (own := RX1) h (Nat.le_of_ble_eq_true rfl) (Nat.le_of_ble_eq_true rfl) (Or.inl (en_wd h 568 (by decide +kernel) rfl args)), List.forall_mem_cons.mpr ⟨mk_X1_standsWithOtherLabel (own := RX1) h (Nat.le_of_ble_eq_true rfl) (Nat.le_of_ble_eq_true rfl) (Or.inl (en_wd h 569 (by decide +kernel) rfl args)), List.forall_mem_cons.mpr ⟨mk_X1_standsAgainBehind (own := RX1) h (Nat.le_of_ble_eq_true rfl) (Nat.le_of_ble_eq_true rfl) (Or.inl (en_wd h 574 (by decide +kernel) rfl args)), fun _ h => absurd h List.not_mem_nil⟩⟩⟩, fun _ h => absurd h List.not_mem_nil, Or.inl rfl, en_arr h args⟩⟩
set_option maxHeartbeats 4000000 in
set_option maxRecDepth 100000 in
theorem bd_X1_tellsLabel : en_B (σ := Nat × Nat × Sx) t_X1_tellsLabel (fun x => [.ref 23, .int (nI x.2.1)]) (fun x => wX x.2.2) (fun x => x.1 ≤ 100 ∧ x.2.2.1 1 = nI x.1 ∧ x.2.1 < 3) (fun x v w => v = some (.int (bl (tells (x.2.2.2.2.2 6) (x.2.2.2.2.1 5) (x.2.2.2.2.1 3) x.1 x.2.1))) ∧ w = wX x.2.2) := by
  rintro ⟨n, c, S⟩ ⟨hn, h1, hc⟩ G hG OK ⟨run, sub⟩
  dsimp only at hn h1 hc hG ⊢
  have loop := lp_up (fun i => fs (fun a => S.2.2.1 5 a ≠ -1 ∧ swo (S.2.2.2 6) (S.2.2.1 5) (S.2.2.1 3) n c a) i = none → OK 0 0 7 [(0, .ref 23), (1, .int (nI c)), (2, .int (tst (S.2.2.2 6) (S.2.2.1 5) (S.2.2.1 3) n c i).1), (3, .int (bl ((tst (S.2.2.2 6) (S.2.2.1 5) (S.2.2.1 3) n c i).2 = true))), (4, .int (nI i))] [] (wX S)) n
    (fun hf => by
      refine run [7] 60 _ _ _ _ _ _ ?_
      conv => whnf
      refine pk_le n n (fun h => ?_) (fun h => absurd h (by omega)) h1
      conv => whnf
      refine ⟨bl_b, hG _ _ ⟨?_, rfl⟩⟩
      rw [bl_c (q := tells (S.2.2.2 6) (S.2.2.1 5) (S.2.2.1 3) n c) ⟨fun z => ⟨hf, z⟩, fun z => z.2⟩])
    (fun i hi ih hf => by
      rw [nI_succ] at ih
      generalize hY : tst (S.2.2.2 6) (S.2.2.1 5) (S.2.2.1 3) n c i = Y
      have hno : ¬ (S.2.2.1 5 i ≠ -1 ∧ swo (S.2.2.2 6) (S.2.2.1 5) (S.2.2.1 3) n c i) → ¬ (S.2.2.1 5 i ≠ -1 ∧ sab (S.2.2.2 6) (S.2.2.1 5) n c i) → OK 0 0 7 [(0, .ref 23), (1, .int (nI c)), (2, .int Y.1), (3, .int (bl (Y.2 = true))), (4, .int (nI i + 1))] [] (wX S) := fun h1 h2 => by
        rw [tst_f h2, hY] at ih
        exact ih (fs_f hf h1)
      refine run [7] 60 _ _ _ _ _ _ ?_
      conv => whnf
      refine pk_le n i (fun h => absurd h (by omega)) (fun h => ?_) h1
      conv => whnf
      refine ⟨(i, S), rfl, rfl, (by dsimp only; omega), ?_⟩
      rintro _ _ ⟨rfl, rfl⟩
      conv => whnf
      refine bl_br (fun hp => ?_) (fun hp => ?_)
      · conv => whnf
        exact hno (fun z => hp z.1) (fun z => hp z.1)
      · have hp : S.2.2.1 5 i ≠ -1 := hp
        conv => whnf
        refine ⟨(n, i, c, S), rfl, rfl, ⟨hn, h1, hi, hc⟩, ?_⟩
        rintro _ _ ⟨rfl, rfl⟩
        conv => whnf
        refine bl_br (fun hq => ?_) (fun hq => ?_)
        · have hq : ¬ swo (S.2.2.2 6) (S.2.2.1 5) (S.2.2.1 3) n c i := hq
          conv => whnf
          refine ⟨(n, i, c, S), rfl, rfl, ⟨hn, h1, hi, hc⟩, ?_⟩
          rintro _ _ ⟨rfl, rfl⟩
          conv => whnf
          refine bl_br (fun hr => ?_) (fun hr => ?_)
          · conv => whnf
            exact hno (fun z => hq z.2) (fun z => hr z.2)
          · have hr : sab (S.2.2.2 6) (S.2.2.1 5) n c i := hr
            rw [tst_t ⟨hp, hr⟩, hY] at ih
            have ih := ih (fs_f hf (fun z => hq z.2))
            conv => whnf
            refine bl_br2 (fun hu => ?_) (fun hu => ?_)
            · conv => whnf
              refine ⟨vp_in_nI (by omega) (by decide), ?_⟩
              rw [nI_clamp (by omega)]
              conv => whnf
              rw [hu] at ih
              exact ih
            · have hu : Y.2 = false := by simpa using hu
              rw [hu] at ih
              conv => whnf
              refine ⟨fun hl => ?_, fun hl => ?_⟩
              · have hl : Y.1 = -1 := hl
                conv => whnf
                refine ⟨vp_in_nI (by omega) (by decide), ?_⟩
                rw [nI_clamp (by omega)]
                conv => whnf
                rw [show (false || decide (Y.1 ≠ -1 ∧ Y.1 ≠ S.2.2.1 3 i)) = false by simp [hl]] at ih
                exact ih
              · have hl : ¬ Y.1 = -1 := hl
                conv => whnf
                refine ⟨vp_in_nI (by omega) (by decide), ?_⟩
                rw [nI_clamp (by omega)]
                conv => whnf
                refine ⟨fun hm => ?_, fun hm => ?_⟩
                · have hm : Y.1 = S.2.2.1 3 i := hm
                  conv => whnf
                  refine ⟨vp_in_nI (by omega) (by decide), ?_⟩
                  rw [nI_clamp (by omega)]
                  conv => whnf
                  rw [show (false || decide (Y.1 ≠ -1 ∧ Y.1 ≠ S.2.2.1 3 i)) = false by simp [hm]] at ih
                  exact ih
                · have hm : ¬ Y.1 = S.2.2.1 3 i := hm
                  conv => whnf
                  refine ⟨vp_in_nI (by omega) (by decide), ?_⟩
                  rw [nI_clamp (by omega)]
                  conv => whnf
                  rw [show (false || decide (Y.1 ≠ -1 ∧ Y.1 ≠ S.2.2.1 3 i)) = true by simp [hm, hl]] at ih
                  exact ih
        · conv => whnf
          have := fs_s (fs_t (p := fun a => S.2.2.1 5 a ≠ -1 ∧ swo (S.2.2.2 6) (S.2.2.1 5) (S.2.2.1 3) n c a) hf ⟨hp, hq⟩) n (by omega)
          exact ⟨rfl, hG _ _ ⟨bl_af (fun z => by have z1 := z.1; rw [this] at z1; cases z1) rfl, rfl⟩⟩)
  refine run [7] 60 _ _ _ _ _ _ ?_
  conv => whnf
  exact loop 0 (by omega) rfl
theorem ct_X1_tellsLabel (D : va_G) (dT : Nat → Nat) (l : Launch) : en_CT en_WD D vwCl dT l yX1_tellsLabel cX1_tellsLabel 5 (some .boolean) rm_X1_tellsLabel f_X1_tellsLabel := en_met en_WD1 en_WD2 (by decide) rfl rfl (tB_X1_tellsLabel D dT l) (en_f_ln (fun _ => Nat.le_of_ble_eq_true rfl)) (en_f_bd bd_X1_tellsLabel)
set_option maxRecDepth 100000 in
theorem mk_X1_tellsLabel {D : va_G} {dT : Nat → Nat} {l : Launch} {R : Room} {s : State} {args : Array Value} {own : String} {idx : Nat} (h : en_WD s) (h1 : rm_X1_tellsLabel.frames + 1 ≤ R.frames) (h2 : 8 + (5 + 11) + rm_X1_tellsLabel.locals ≤ R.locals) (hl : (Jvm.Cond.methodLink own idx yX1_tellsLabel).before args s = true ∨ ∃ host, (Jvm.Cond.methodLinkNest own idx yX1_tellsLabel host).before args s = true) : en_mok en_WD D vwCl dT l R s args own (idx, 2, 3, 0, 0, f_X1_tellsLabel) :=
  ⟨yX1_tellsLabel, cX1_tellsLabel, 5, some .boolean, rm_X1_tellsLabel, 1, ct_X1_tellsLabel D dT l, rfl, rfl, h1, h2, en_wd h 567 rfl rfl args, en_wd h 65 (by decide +kernel) rfl args, by decide, by decide, hl, ⟨RX1, TX1, 6, rfl, en_wd h 566 (by decide +kernel) rfl args, en_wd h 27 (by decide +kernel) rfl args, rfl⟩⟩
