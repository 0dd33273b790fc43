/-! SplitLeaks$Rows: counts, the second half -/
def f_X2_countPlacedLabelsBelow := en_f (σ := Nat × Nat × Sx) (fun x => [.ref 1, .int (nI x.2.1)]) (fun x => wX x.2.2) (fun x => x.1 ≤ 100 ∧ x.2.2.1 1 = nI x.1 ∧ x.2.1 ≤ 4) (fun x v w => v = some (.int (nI (ct (fun l => 0 < cpl (x.2.2.2.2.1 5) (x.2.2.2.2.1 3) x.1 (nI l) ∧ cpl (x.2.2.2.2.1 5) (x.2.2.2.2.1 3) x.1 (nI l) < x.2.1) 5))) ∧ w = wX x.2.2)
def rm_X2_countPlacedLabelsBelow : Room := { frames := 2, cells := 0, slots := 0, locals := 47 }
def t_X2_countPlacedLabelsBelow : en_T := ((5, 0, 0), tb_X2_countPlacedLabelsBelow, fl_X2, cn_X2, [(54, 2, 4, 0, 0, f_X2_countPlacedOfLabel)], [], 0, some .int)
set_option maxRecDepth 100000 in
theorem tB_X2_countPlacedLabelsBelow (D : va_G) (dT : Nat → Nat) (l : Launch) : en_TB en_WD D vwCl dT l rm_X2_countPlacedLabelsBelow t_X2_countPlacedLabelsBelow RX2 "countPlacedLabelsBelow" cX2_countPlacedLabelsBelow := ⟨tk_X2_countPlacedLabelsBelow, fun s args meth h hn => ⟨fo_X2 h args meth, co_X2 h args, List.forall_mem_cons.mpr ⟨mk_X2_countPlacedOfLabel (own := RX2) h (Nat.le_of_ble_eq_true rfl) (Nat.le_of_ble_eq_true rfl) (Or.inl (en_wd h 445 (by decide +kernel) rfl args)), fun _ h => absurd h List.not_mem_nil⟩, fun _ h => absurd h List.not_mem_nil, Or.inl rfl, en_arr h args⟩⟩
set_option maxHeartbeats 4000000 in
set_option maxRecDepth 100000 in
theorem bd_X2_countPlacedLabelsBelow : en_B (σ := Nat × Nat × Sx) t_X2_countPlacedLabelsBelow (fun x => [.ref 1, .int (nI x.2.1)]) (fun x => wX x.2.2) (fun x => x.1 ≤ 100 ∧ x.2.2.1 1 = nI x.1 ∧ x.2.1 ≤ 4) (fun x v w => v = some (.int (nI (ct (fun l => 0 < cpl (x.2.2.2.2.1 5) (x.2.2.2.2.1 3) x.1 (nI l) ∧ cpl (x.2.2.2.2.1 5) (x.2.2.2.2.1 3) x.1 (nI l) < x.2.1) 5))) ∧ w = wX x.2.2) := by
  rintro ⟨n, b, S⟩ ⟨hn, h1, hb⟩ G hG OK ⟨run, sub⟩
  dsimp only at hn h1 hb hG ⊢
  have hcp : ∀ l, cpl (S.2.2.1 5) (S.2.2.1 3) n l ≤ 400 := fun l => by
    have a0 := ct_le (fun r => S.2.2.1 5 r = 0 ∧ (l = -1 ∨ S.2.2.1 3 r = l)) n
    have a1 := ct_le (fun r => S.2.2.1 5 r = 1 ∧ (l = -1 ∨ S.2.2.1 3 r = l)) n
    have a2 := ct_le (fun r => S.2.2.1 5 r = 2 ∧ (l = -1 ∨ S.2.2.1 3 r = l)) n
    have a3 := ct_le (fun r => S.2.2.1 5 r = 3 ∧ (l = -1 ∨ S.2.2.1 3 r = l)) n
    unfold cpl cin
    omega
  have loop := lp_up (fun i => OK 0 0 4 [(0, .ref 1), (1, .int (nI b)), (2, .int (nI (ct (fun l => 0 < cpl (S.2.2.1 5) (S.2.2.1 3) n (nI l) ∧ cpl (S.2.2.1 5) (S.2.2.1 3) n (nI l) < b) i))), (3, .int (nI i))] [] (wX S)) 5
    (by
      refine run [4] 60 _ _ _ _ _ _ ?_
      conv => whnf
      refine pk_le 5 5 (fun h => ?_) (fun h => absurd h (by omega))
      conv => whnf
      exact hG _ _ ⟨rfl, rfl⟩)
    (fun i hi ih => by
      refine run [4] 60 _ _ _ _ _ _ ?_
      conv => whnf
      refine pk_le 5 i (fun h => absurd h (by omega)) (fun h => ?_)
      conv => whnf
      refine ⟨(n, nI i, S), rfl, rfl, ⟨hn, h1⟩, ?_⟩
      rintro _ _ ⟨rfl, rfl⟩
      have hc := hcp (nI i)
      conv => whnf
      rw [nI_succ] at ih
      refine pk_le (cpl (S.2.2.1 5) (S.2.2.1 3) n (nI i)) 0 (fun h2 => ?_) (fun h2 => ?_)
      · conv => whnf
        rw [ct_f (fun z => by omega)] at ih
        exact sub [0, 1, 2, 3] _ _ _ _ _ _ _ rfl ih
      · conv => whnf
        refine pk_le b (cpl (S.2.2.1 5) (S.2.2.1 3) n (nI i)) (fun h3 => ?_) (fun h3 => ?_)
        · conv => whnf
          rw [ct_f (fun z => by omega)] at ih
          exact sub [0, 1, 2, 3] _ _ _ _ _ _ _ rfl ih
        · conv => whnf
          rw [ct_t ⟨by omega, h3⟩, nI_succ] at ih
          exact sub [0, 1, 2, 3] _ _ _ _ _ _ _ rfl ih)
  refine run [4] 60 _ _ _ _ _ _ ?_
  conv => whnf
  exact loop 0 (by omega)
theorem ct_X2_countPlacedLabelsBelow (D : va_G) (dT : Nat → Nat) (l : Launch) : en_CT en_WD D vwCl dT l yX2_countPlacedLabelsBelow cX2_countPlacedLabelsBelow 5 (some .int) rm_X2_countPlacedLabelsBelow f_X2_countPlacedLabelsBelow := en_met en_WD1 en_WD2 (by decide) rfl rfl (tB_X2_countPlacedLabelsBelow D dT l) (en_f_ln (fun _ => Nat.le_of_ble_eq_true rfl)) (en_f_bd bd_X2_countPlacedLabelsBelow)
set_option maxRecDepth 100000 in
theorem mk_X2_countPlacedLabelsBelow {D : va_G} {dT : Nat → Nat} {l : Launch} {R : Room} {s : State} {args : Array Value} {own : String} {idx : Nat} (h : en_WD s) (h1 : rm_X2_countPlacedLabelsBelow.frames + 1 ≤ R.frames) (h2 : 8 + (5 + 11) + rm_X2_countPlacedLabelsBelow.locals ≤ R.locals) (hl : (Jvm.Cond.methodLink own idx yX2_countPlacedLabelsBelow).before args s = true ∨ ∃ host, (Jvm.Cond.methodLinkNest own idx yX2_countPlacedLabelsBelow host).before args s = true) : en_mok en_WD D vwCl dT l R s args own (idx, 2, 4, 0, 0, f_X2_countPlacedLabelsBelow) :=
  ⟨yX2_countPlacedLabelsBelow, cX2_countPlacedLabelsBelow, 5, some .int, rm_X2_countPlacedLabelsBelow, 1, ct_X2_countPlacedLabelsBelow D dT l, rfl, rfl, h1, h2, en_wd h 444 rfl rfl args, en_wd h 60 (by decide +kernel) rfl args, by decide, by decide, hl, ⟨RX2, TX2, 8, rfl, en_wd h 442 (by decide +kernel) rfl args, en_wd h 443 (by decide +kernel) rfl args, rfl⟩⟩
def f_X2_countOfGroup := en_f (σ := Nat × Int32 × Sx) (fun x => [.ref 1, .int x.2.1]) (fun x => wX x.2.2) (fun x => x.1 ≤ 100 ∧ x.2.2.1 1 = nI x.1) (fun x v w => v = some (.int (nI (ct (fun r => x.2.2.2.2.1 2 r = x.2.1) x.1))) ∧ w = wX x.2.2)
def rm_X2_countOfGroup : Room := { frames := 0, cells := 0, slots := 0, locals := 0 }
def t_X2_countOfGroup : en_T := ((4, 0, 0), tb_X2_countOfGroup, fl_X2, cn_X2, [], [], 0, some .int)
set_option maxRecDepth 100000 in
theorem tB_X2_countOfGroup (D : va_G) (dT : Nat → Nat) (l : Launch) : en_TB en_WD D vwCl dT l rm_X2_countOfGroup t_X2_countOfGroup RX2 "countOfGroup" cX2_countOfGroup := ⟨tk_X2_countOfGroup, fun s args meth h hn => ⟨fo_X2 h args meth, co_X2 h args, fun _ h => absurd h List.not_mem_nil, fun _ h => absurd h List.not_mem_nil, Or.inl rfl, en_arr h args⟩⟩
set_option maxHeartbeats 4000000 in
set_option maxRecDepth 100000 in
theorem bd_X2_countOfGroup : en_B (σ := Nat × Int32 × Sx) t_X2_countOfGroup (fun x => [.ref 1, .int x.2.1]) (fun x => wX x.2.2) (fun x => x.1 ≤ 100 ∧ x.2.2.1 1 = nI x.1) (fun x v w => v = some (.int (nI (ct (fun r => x.2.2.2.2.1 2 r = x.2.1) x.1))) ∧ w = wX x.2.2) := by
  rintro ⟨n, g, S⟩ ⟨hn, h1⟩ G hG OK ⟨run, sub⟩
  dsimp only at hn h1 hG ⊢
  have loop := lp_up (fun i => OK 0 0 4 [(0, .ref 1), (1, .int g), (2, .int (nI (ct (fun r => S.2.2.1 2 r = g) i))), (3, .int (nI i))] [] (wX S)) n
    (by
      refine run [4] 60 _ _ _ _ _ _ ?_
      conv => whnf
      rw [h1]
      refine pk_le n n (fun h => ?_) (fun h => absurd h (by omega))
      conv => whnf
      exact hG _ _ ⟨rfl, rfl⟩)
    (fun i hi ih => by
      refine run [4] 60 _ _ _ _ _ _ ?_
      conv => whnf
      rw [h1]
      refine pk_le n i (fun h => absurd h (by omega)) (fun h => ?_)
      conv => whnf
      refine ⟨vp_in_nI (by omega) (by decide), ?_⟩
      rw [nI_clamp (by omega)]
      conv => whnf
      rw [nI_succ] at ih
      refine ⟨fun hp => ?_, fun hp => ?_⟩
      · conv => whnf
        rw [ct_f (p := fun r => S.2.2.1 2 r = g) hp] at ih
        exact ih
      · conv => whnf
        rw [ct_t (p := fun r => S.2.2.1 2 r = g) hp, nI_succ] at ih
        exact ih)
  refine run [4] 60 _ _ _ _ _ _ ?_
  conv => whnf
  exact loop 0 (by omega)
theorem ct_X2_countOfGroup (D : va_G) (dT : Nat → Nat) (l : Launch) : en_CT en_WD D vwCl dT l yX2_countOfGroup cX2_countOfGroup 4 (some .int) rm_X2_countOfGroup f_X2_countOfGroup := en_met en_WD1 en_WD2 (by decide) rfl rfl (tB_X2_countOfGroup D dT l) (en_f_ln (fun _ => Nat.le_of_ble_eq_true rfl)) (en_f_bd bd_X2_countOfGroup)
set_option maxRecDepth 100000 in
theorem mk_X2_countOfGroup {D : va_G} {dT : Nat → Nat} {l : Launch} {R : Room} {s : State} {args : Array Value} {own : String} {idx : Nat} (h : en_WD s) (h1 : rm_X2_countOfGroup.frames + 1 ≤ R.frames) (h2 : 8 + (4 + 11) + rm_X2_countOfGroup.locals ≤ R.locals) (hl : (Jvm.Cond.methodLink own idx yX2_countOfGroup).before args s = true ∨ ∃ host, (Jvm.Cond.methodLinkNest own idx yX2_countOfGroup host).before args s = true) : en_mok en_WD D vwCl dT l R s args own (idx, 2, 4, 0, 0, f_X2_countOfGroup) :=
  ⟨yX2_countOfGroup, cX2_countOfGroup, 4, some .int, rm_X2_countOfGroup, 1, ct_X2_countOfGroup D dT l, rfl, rfl, h1, h2, en_wd h 483 rfl rfl args, en_wd h 60 (by decide +kernel) rfl args, by decide, by decide, hl, ⟨RX2, TX2, 8, rfl, en_wd h 481 (by decide +kernel) rfl args, en_wd h 482 (by decide +kernel) rfl args, rfl⟩⟩
def f_X2_firstOfGroup := en_f (σ := Nat × Int32 × Sx) (fun x => [.ref 1, .int x.2.1]) (fun x => wX x.2.2) (fun x => x.1 ≤ 100 ∧ x.2.2.1 1 = nI x.1) (fun x v w => v = some (.int (oI (fs (fun r => x.2.2.2.2.1 2 r = x.2.1) x.1))) ∧ w = wX x.2.2)
def rm_X2_firstOfGroup : Room := { frames := 0, cells := 0, slots := 0, locals := 0 }
def t_X2_firstOfGroup : en_T := ((3, 0, 0), tb_X2_firstOfGroup, fl_X2, cn_X2, [], [], 0, some .int)
set_option maxRecDepth 100000 in
theorem tB_X2_firstOfGroup (D : va_G) (dT : Nat → Nat) (l : Launch) : en_TB en_WD D vwCl dT l rm_X2_firstOfGroup t_X2_firstOfGroup RX2 "firstOfGroup" cX2_firstOfGroup := ⟨tk_X2_firstOfGroup, fun s args meth h hn => ⟨fo_X2 h args meth, co_X2 h args, fun _ h => absurd h List.not_mem_nil, fun _ h => absurd h List.not_mem_nil, Or.inl rfl, en_arr h args⟩⟩
set_option maxHeartbeats 4000000 in
set_option maxRecDepth 100000 in
theorem bd_X2_firstOfGroup : en_B (σ := Nat × Int32 × Sx) t_X2_firstOfGroup (fun x => [.ref 1, .int x.2.1]) (fun x => wX x.2.2) (fun x => x.1 ≤ 100 ∧ x.2.2.1 1 = nI x.1) (fun x v w => v = some (.int (oI (fs (fun r => x.2.2.2.2.1 2 r = x.2.1) x.1))) ∧ w = wX x.2.2) := by
  rintro ⟨n, g, S⟩ ⟨hn, h1⟩ G hG OK ⟨run, sub⟩
  dsimp only at hn h1 hG ⊢
  have loop := lp_up (fun i => fs (fun r => S.2.2.1 2 r = g) i = none → OK 0 0 2 [(0, .ref 1), (1, .int g), (2, .int (nI i))] [] (wX S)) n
    (fun hf => by
      refine run [2] 60 _ _ _ _ _ _ ?_
      conv => whnf
      rw [h1]
      refine pk_le n n (fun h => ?_) (fun h => absurd h (by omega))
      conv => whnf
      exact hG _ _ ⟨by rw [hf]; rfl, rfl⟩)
    (fun i hi ih hf => by
      refine run [2] 60 _ _ _ _ _ _ ?_
      conv => whnf
      rw [h1]
      refine pk_le n i (fun h => absurd h (by omega)) (fun h => ?_)
      conv => whnf
      refine ⟨vp_in_nI (by omega) (by decide), ?_⟩
      rw [nI_clamp (by omega)]
      conv => whnf
      rw [nI_succ] at ih
      refine ⟨fun hp => ?_, fun hp => ?_⟩
      · conv => whnf
        exact ih (fs_f hf hp)
      · conv => whnf
        exact hG _ _ ⟨by rw [fs_s (fs_t (p := fun r => S.2.2.1 2 r = g) hf hp) n (by omega)]; rfl, rfl⟩)
  refine run [2] 60 _ _ _ _ _ _ ?_
  conv => whnf
  exact loop 0 (by omega) rfl
theorem ct_X2_firstOfGroup (D : va_G) (dT : Nat → Nat) (l : Launch) : en_CT en_WD D vwCl dT l yX2_firstOfGroup cX2_firstOfGroup 3 (some .int) rm_X2_firstOfGroup f_X2_firstOfGroup := en_met en_WD1 en_WD2 (by decide) rfl rfl (tB_X2_firstOfGroup D dT l) (en_f_ln (fun _ => Nat.le_of_ble_eq_true rfl)) (en_f_bd bd_X2_firstOfGroup)
set_option maxRecDepth 100000 in
theorem mk_X2_firstOfGroup {D : va_G} {dT : Nat → Nat} {l : Launch} {R : Room} {s : State} {args : Array Value} {own : String} {idx : Nat} (h : en_WD s) (h1 : rm_X2_firstOfGroup.frames + 1 ≤ R.frames) (h2 : 8 + (3 + 11) + rm_X2_firstOfGroup.locals ≤ R.locals) (hl : (Jvm.Cond.methodLink own idx yX2_firstOfGroup).before args s = true ∨ ∃ host, (Jvm.Cond.methodLinkNest own idx yX2_firstOfGroup host).before args s = true) : en_mok en_WD D vwCl dT l R s args own (idx, 2, 4, 0, 0, f_X2_firstOfGroup) :=
  ⟨yX2_firstOfGroup, cX2_firstOfGroup, 3, some .int, rm_X2_firstOfGroup, 1, ct_X2_firstOfGroup D dT l, rfl, rfl, h1, h2, en_wd h 367 rfl rfl args, en_wd h 60 (by decide +kernel) rfl args, by decide, by decide, hl, ⟨RX2, TX2, 8, rfl, en_wd h 365 (by decide +kernel) rfl args, en_wd h 366 (by decide +kernel) rfl args, rfl⟩⟩
def f_X2_hasGroupIn := en_f (σ := Nat × Int32 × Int32 × Sx) (fun x => [.ref 1, .int x.2.1, .int x.2.2.1]) (fun x => wX x.2.2.2) (fun x => x.1 ≤ 100 ∧ x.2.2.2.1 1 = nI x.1) (fun x v w => v = some (.int (bl (fs (fun r => x.2.2.2.2.2.1 2 r = x.2.1 ∧ x.2.2.2.2.2.1 5 r = x.2.2.1) x.1 ≠ none))) ∧ w = wX x.2.2.2)
def rm_X2_hasGroupIn : Room := { frames := 0, cells := 0, slots := 0, locals := 0 }
def t_X2_hasGroupIn : en_T := ((4, 0, 0), tb_X2_hasGroupIn, fl_X2, cn_X2, [], [], 0, some .boolean)
set_option maxRecDepth 100000 in
theorem tB_X2_hasGroupIn (D : va_G) (dT : Nat → Nat) (l : Launch) : en_TB en_WD D vwCl dT l rm_X2_hasGroupIn t_X2_hasGroupIn RX2 "hasGroupIn" cX2_hasGroupIn := ⟨tk_X2_hasGroupIn, fun s args meth h hn => ⟨fo_X2 h args meth, co_X2 h args, fun _ h => absurd h List.not_mem_nil, fun _ h => absurd h List.not_mem_nil, Or.inl rfl, en_arr h args⟩⟩
set_option maxHeartbeats 4000000 in
set_option maxRecDepth 100000 in
theorem bd_X2_hasGroupIn : en_B (σ := Nat × Int32 × Int32 × Sx) t_X2_hasGroupIn (fun x => [.ref 1, .int x.2.1, .int x.2.2.1]) (fun x => wX x.2.2.2) (fun x => x.1 ≤ 100 ∧ x.2.2.2.1 1 = nI x.1) (fun x v w => v = some (.int (bl (fs (fun r => x.2.2.2.2.2.1 2 r = x.2.1 ∧ x.2.2.2.2.2.1 5 r = x.2.2.1) x.1 ≠ none))) ∧ w = wX x.2.2.2) := by
  rintro ⟨n, g, p, S⟩ ⟨hn, h1⟩ G hG OK ⟨run, sub⟩
  dsimp only at hn h1 hG ⊢
  have loop := lp_up (fun i => fs (fun r => S.2.2.1 2 r = g ∧ S.2.2.1 5 r = p) i = none → OK 0 0 2 [(0, .ref 1), (1, .int g), (2, .int p), (3, .int (nI i))] [] (wX S)) n
    (fun hf => by
      refine run [2] 60 _ _ _ _ _ _ ?_
      conv => whnf
      rw [h1]
      refine pk_le n n (fun h => ?_) (fun h => absurd h (by omega))
      conv => whnf
      exact ⟨rfl, hG _ _ ⟨bl_af (fun z => z hf) rfl, rfl⟩⟩)
    (fun i hi ih hf => by
      refine run [2] 60 _ _ _ _ _ _ ?_
      conv => whnf
      rw [h1]
      refine pk_le n i (fun h => absurd h (by omega)) (fun h => ?_)
      conv => whnf
      refine ⟨vp_in_nI (by omega) (by decide), ?_⟩
      rw [nI_clamp (by omega)]
      conv => whnf
      rw [nI_succ] at ih
      refine ⟨fun hp => ?_, fun hp => ?_⟩
      · conv => whnf
        exact ih (fs_f hf (fun z => hp z.1))
      · conv => whnf
        refine ⟨vp_in_nI (by omega) (by decide), ?_⟩
        rw [nI_clamp (by omega)]
        conv => whnf
        refine ⟨fun hq => ?_, fun hq => ?_⟩
        · conv => whnf
          exact ih (fs_f hf (fun z => hq z.2))
        · conv => whnf
          have := fs_s (fs_t (p := fun r => S.2.2.1 2 r = g ∧ S.2.2.1 5 r = p) hf ⟨hp, hq⟩) n (by omega)
          exact ⟨rfl, hG _ _ ⟨bl_at (fun z => by rw [this] at z; cases z) rfl, rfl⟩⟩)
  refine run [2] 60 _ _ _ _ _ _ ?_
  conv => whnf
  exact loop 0 (by omega) rfl
theorem ct_X2_hasGroupIn (D : va_G) (dT : Nat → Nat) (l : Launch) : en_CT en_WD D vwCl dT l yX2_hasGroupIn cX2_hasGroupIn 4 (some .boolean) rm_X2_hasGroupIn f_X2_hasGroupIn := en_met en_WD1 en_WD2 (by decide) rfl rfl (tB_X2_hasGroupIn D dT l) (en_f_ln (fun _ => Nat.le_of_ble_eq_true rfl)) (en_f_bd bd_X2_hasGroupIn)
set_option maxRecDepth 100000 in
theorem mk_X2_hasGroupIn {D : va_G} {dT : Nat → Nat} {l : Launch} {R : Room} {s : State} {args : Array Value} {own : String} {idx : Nat} (h : en_WD s) (h1 : rm_X2_hasGroupIn.frames + 1 ≤ R.frames) (h2 : 8 + (4 + 11) + rm_X2_hasGroupIn.locals ≤ R.locals) (hl : (Jvm.Cond.methodLink own idx yX2_hasGroupIn).before args s = true ∨ ∃ host, (Jvm.Cond.methodLinkNest own idx yX2_hasGroupIn host).before args s = true) : en_mok en_WD D vwCl dT l R s args own (idx, 3, 4, 0, 0, f_X2_hasGroupIn) :=
  ⟨yX2_hasGroupIn, cX2_hasGroupIn, 4, some .boolean, rm_X2_hasGroupIn, 2, ct_X2_hasGroupIn D dT l, rfl, rfl, h1, h2, en_wd h 551 rfl rfl args, en_wd h 60 (by decide +kernel) rfl args, by decide, by decide, hl, ⟨RX2, TX2, 8, rfl, en_wd h 550 (by decide +kernel) rfl args, en_wd h 23 (by decide +kernel) rfl args, rfl⟩⟩
/-- in how many parts a group has rows -/
def pog (Gp P : Nat → Int32) (n : Nat) (g : Int32) : Nat := ct (fun p => fs (fun r => Gp r = g ∧ P r = nI p) n ≠ none) 4
def f_X2_countPartsOfGroup := en_f (σ := Nat × Int32 × Sx) (fun x => [.ref 1, .int x.2.1]) (fun x => wX x.2.2) (fun x => x.1 ≤ 100 ∧ x.2.2.1 1 = nI x.1) (fun x v w => v = some (.int (nI (pog (x.2.2.2.2.1 2) (x.2.2.2.2.1 5) x.1 x.2.1))) ∧ w = wX x.2.2)
def rm_X2_countPartsOfGroup : Room := { frames := 1, cells := 0, slots := 0, locals := 23 }
def t_X2_countPartsOfGroup : en_T := ((4, 0, 0), tb_X2_countPartsOfGroup, fl_X2, cn_X2, [(58, 3, 4, 0, 0, f_X2_hasGroupIn)], [], 0, some .int)
set_option maxRecDepth 100000 in
theorem tB_X2_countPartsOfGroup (D : va_G) (dT : Nat → Nat) (l : Launch) : en_TB en_WD D vwCl dT l rm_X2_countPartsOfGroup t_X2_countPartsOfGroup RX2 "countPartsOfGroup" cX2_countPartsOfGroup := ⟨tk_X2_countPartsOfGroup, fun s args meth h hn => ⟨fo_X2 h args meth, co_X2 h args, List.forall_mem_cons.mpr ⟨mk_X2_hasGroupIn (own := RX2) h (Nat.le_of_ble_eq_true rfl) (Nat.le_of_ble_eq_true rfl) (Or.inl (en_wd h 548 (by decide +kernel) rfl args)), fun _ h => absurd h List.not_mem_nil⟩, fun _ h => absurd h List.not_mem_nil, Or.inl rfl, en_arr h args⟩⟩
set_option maxHeartbeats 4000000 in
set_option maxRecDepth 100000 in
theorem bd_X2_countPartsOfGroup : en_B (σ := Nat × Int32 × Sx) t_X2_countPartsOfGroup (fun x => [.ref 1, .int x.2.1]) (fun x => wX x.2.2) (fun x => x.1 ≤ 100 ∧ x.2.2.1 1 = nI x.1) (fun x v w => v = some (.int (nI (pog (x.2.2.2.2.1 2) (x.2.2.2.2.1 5) x.1 x.2.1))) ∧ w = wX x.2.2) := by
  rintro ⟨n, g, S⟩ ⟨hn, h1⟩ G hG OK ⟨run, sub⟩
  dsimp only at hn h1 hG ⊢
  have loop := lp_up (fun i => OK 0 0 4 [(0, .ref 1), (1, .int g), (2, .int (nI (ct (fun p => fs (fun r => S.2.2.1 2 r = g ∧ S.2.2.1 5 r = nI p) n ≠ none) i))), (3, .int (nI i))] [] (wX S)) 4
    (by
      refine run [4] 60 _ _ _ _ _ _ ?_
      conv => whnf
      refine pk_le 4 4 (fun h => ?_) (fun h => absurd h (by omega))
      conv => whnf
      exact hG _ _ ⟨rfl, rfl⟩)
    (fun i hi ih => by
      refine run [4] 60 _ _ _ _ _ _ ?_
      conv => whnf
      refine pk_le 4 i (fun h => absurd h (by omega)) (fun h => ?_)
      conv => whnf
      refine ⟨(n, g, nI i, S), rfl, rfl, ⟨hn, h1⟩, ?_⟩
      rintro _ _ ⟨rfl, rfl⟩
      conv => whnf
      rw [nI_succ] at ih
      refine bl_br (fun hp => ?_) (fun hp => ?_)
      · conv => whnf
        rw [ct_f (p := fun p => fs (fun r => S.2.2.1 2 r = g ∧ S.2.2.1 5 r = nI p) n ≠ none) hp] at ih
        exact ih
      · conv => whnf
        rw [ct_t (p := fun p => fs (fun r => S.2.2.1 2 r = g ∧ S.2.2.1 5 r = nI p) n ≠ none) hp, nI_succ] at ih
        exact ih)
  refine run [4] 60 _ _ _ _ _ _ ?_
  conv => whnf
  exact loop 0 (by omega)
theorem ct_X2_countPartsOfGroup (D : va_G) (dT : Nat → Nat) (l : Launch) : en_CT en_WD D vwCl dT l yX2_countPartsOfGroup cX2_countPartsOfGroup 4 (some .int) rm_X2_countPartsOfGroup f_X2_countPartsOfGroup := en_met en_WD1 en_WD2 (by decide) rfl rfl (tB_X2_countPartsOfGroup D dT l) (en_f_ln (fun _ => Nat.le_of_ble_eq_true rfl)) (en_f_bd bd_X2_countPartsOfGroup)
set_option maxRecDepth 100000 in
theorem mk_X2_countPartsOfGroup {D : va_G} {dT : Nat → Nat} {l : Launch} {R : Room} {s : State} {args : Array Value} {own : String} {idx : Nat} (h : en_WD s) (h1 : rm_X2_countPartsOfGroup.frames + 1 ≤ R.frames) (h2 : 8 + (4 + 11) + rm_X2_countPartsOfGroup.locals ≤ R.locals) (hl : (Jvm.Cond.methodLink own idx yX2_countPartsOfGroup).before args s = true ∨ ∃ host, (Jvm.Cond.methodLinkNest own idx yX2_countPartsOfGroup host).before args s = true) : en_mok en_WD D vwCl dT l R s args own (idx, 2, 4, 0, 0, f_X2_countPartsOfGroup) :=
  ⟨yX2_countPartsOfGroup, cX2_countPartsOfGroup, 4, some .int, rm_X2_countPartsOfGroup, 1, ct_X2_countPartsOfGroup D dT l, rfl, rfl, h1, h2, en_wd h 547 rfl rfl args, en_wd h 60 (by decide +kernel) rfl args, by decide, by decide, hl, ⟨RX2, TX2, 8, rfl, en_wd h 545 (by decide +kernel) rfl args, en_wd h 546 (by decide +kernel) rfl args, rfl⟩⟩
