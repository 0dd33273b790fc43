/-! SplitLeaks$Splitter: what is gathered, settled -/
def f_X3_settle := en_f (σ := Nat × Sx) (fun _ => [.ref 13]) (fun x => wX x.2) (fun x => x.1 ≤ 100 ∧ x.2.1 1 = nI x.1) (fun x v w => v = none ∧ w = wX (xa x.2 5 (mx x.1 (x.2.2.2.1 15) (x.2.2.2.1 5))))
def rm_X3_settle : Room := { frames := 0, cells := 0, slots := 0, locals := 0 }
def t_X3_settle : en_T := ((2, 0, 0), tb_X3_settle, fl_X3, cn_X3, [], [], 0, none)
set_option maxRecDepth 100000 in
theorem tB_X3_settle (D : va_G) (dT : Nat → Nat) (l : Launch) : en_TB en_WD D vwCl dT l rm_X3_settle t_X3_settle RX3 "settle" cX3_settle := ⟨tk_X3_settle, fun s args meth h hn => ⟨fo_X3 h args meth, co_X3 h args, fun _ h => absurd h List.not_mem_nil, fun _ h => absurd h List.not_mem_nil, Or.inl rfl, en_arr h args⟩⟩
set_option maxHeartbeats 4000000 in
set_option maxRecDepth 100000 in
theorem bd_X3_settle : en_B (σ := Nat × Sx) t_X3_settle (fun _ => [.ref 13]) (fun x => wX x.2) (fun x => x.1 ≤ 100 ∧ x.2.1 1 = nI x.1) (fun x v w => v = none ∧ w = wX (xa x.2 5 (mx x.1 (x.2.2.2.1 15) (x.2.2.2.1 5)))) := by
  rintro ⟨n, S⟩ ⟨hn, h1⟩ G hG OK ⟨run, sub⟩
  dsimp only at hn h1 hG ⊢
  have loop := lp_up (fun i => OK 0 0 2 [(0, .ref 13), (1, .int (nI i))] [] (wX (xa S 5 (mx i (S.2.2.1 15) (S.2.2.1 5))))) n
    (by
      refine run [2] 60 _ _ _ _ _ _ ?_
      conv => whnf
      refine pk_le n n (fun h => ?_) (fun h => absurd h (by omega)) h1
      conv => whnf
      exact hG _ _ ⟨rfl, rfl⟩)
    (fun i hi ih => by
      refine run [2] 60 _ _ _ _ _ _ ?_
      conv => whnf
      refine pk_le n i (fun h => absurd h (by omega)) (fun h => ?_) h1
      conv => whnf
      refine ⟨vp_in_nI (by omega) (by decide), ?_⟩
      rw [nI_clamp (by omega)]
      conv => whnf
      refine ⟨vp_in_nI (by omega) (by decide), ?_⟩
      rw [nI_clamp (by omega)]
      conv => whnf
      rw [nI_succ, ← mx_s] at ih
      exact ih)
  refine run [2] 60 _ _ _ _ _ _ ?_
  conv => whnf
  have h0 := loop 0 (by omega)
  rw [mx_0] at h0
  exact h0
theorem ct_X3_settle (D : va_G) (dT : Nat → Nat) (l : Launch) : en_CT en_WD D vwCl dT l yX3_settle cX3_settle 2 (none) rm_X3_settle f_X3_settle := en_met en_WD1 en_WD2 (by decide) rfl rfl (tB_X3_settle D dT l) (en_f_ln (fun _ => Nat.le_of_ble_eq_true rfl)) (en_f_bd bd_X3_settle)
set_option maxRecDepth 100000 in
theorem mk_X3_settle {D : va_G} {dT : Nat → Nat} {l : Launch} {R : Room} {s : State} {args : Array Value} {own : String} {idx : Nat} (h : en_WD s) (h1 : rm_X3_settle.frames + 1 ≤ R.frames) (h2 : 8 + (2 + 11) + rm_X3_settle.locals ≤ R.locals) (hl : (Jvm.Cond.methodLink own idx yX3_settle).before args s = true ∨ ∃ host, (Jvm.Cond.methodLinkNest own idx yX3_settle host).before args s = true) : en_mok en_WD D vwCl dT l R s args own (idx, 1, 5, 0, 0, f_X3_settle) :=
  ⟨yX3_settle, cX3_settle, 2, none, rm_X3_settle, 0, ct_X3_settle D dT l, rfl, rfl, h1, h2, en_wd h 412 rfl rfl args, en_wd h 62 (by decide +kernel) rfl args, by decide, by decide, hl, ⟨RX3, TX3, 8, rfl, en_wd h 410 (by decide +kernel) rfl args, en_wd h 411 (by decide +kernel) rfl args, rfl⟩⟩
def f_X3_isSettled := en_f (σ := Nat × Sx) (fun _ => [.ref 13]) (fun x => wX x.2) (fun x => x.1 ≤ 100 ∧ x.2.1 1 = nI x.1) (fun x v w => v = some (.int (bl (fs (fun r => x.2.2.2.1 5 r ≠ x.2.2.2.1 15 r) x.1 = none))) ∧ w = wX x.2)
def rm_X3_isSettled : Room := { frames := 0, cells := 0, slots := 0, locals := 0 }
def t_X3_isSettled : en_T := ((2, 0, 0), tb_X3_isSettled, fl_X3, cn_X3, [], [], 0, some .boolean)
set_option maxRecDepth 100000 in
theorem tB_X3_isSettled (D : va_G) (dT : Nat → Nat) (l : Launch) : en_TB en_WD D vwCl dT l rm_X3_isSettled t_X3_isSettled RX3 "isSettled" cX3_isSettled := ⟨tk_X3_isSettled, fun s args meth h hn => ⟨fo_X3 h args meth, co_X3 h args, fun _ h => absurd h List.not_mem_nil, fun _ h => absurd h List.not_mem_nil, Or.inl rfl, en_arr h args⟩⟩
set_option maxHeartbeats 4000000 in
set_option maxRecDepth 100000 in
theorem bd_X3_isSettled : en_B (σ := Nat × Sx) t_X3_isSettled (fun _ => [.ref 13]) (fun x => wX x.2) (fun x => x.1 ≤ 100 ∧ x.2.1 1 = nI x.1) (fun x v w => v = some (.int (bl (fs (fun r => x.2.2.2.1 5 r ≠ x.2.2.2.1 15 r) x.1 = none))) ∧ w = wX x.2) := by
  rintro ⟨n, S⟩ ⟨hn, h1⟩ G hG OK ⟨run, sub⟩
  dsimp only at hn h1 hG ⊢
  have loop := lp_up (fun i => fs (fun r => S.2.2.1 5 r ≠ S.2.2.1 15 r) i = none → OK 0 0 2 [(0, .ref 13), (1, .int (nI i))] [] (wX S)) n
    (fun hf => by
      refine run [2] 60 _ _ _ _ _ _ ?_
      conv => whnf
      refine pk_le n n (fun h => ?_) (fun h => absurd h (by omega)) h1
      conv => whnf
      exact ⟨rfl, hG _ _ ⟨bl_at hf rfl, rfl⟩⟩)
    (fun i hi ih hf => by
      refine run [2] 60 _ _ _ _ _ _ ?_
      conv => whnf
      refine pk_le n i (fun h => absurd h (by omega)) (fun h => ?_) h1
      conv => whnf
      refine ⟨vp_in_nI (by omega) (by decide), ?_⟩
      rw [nI_clamp (by omega)]
      conv => whnf
      refine ⟨vp_in_nI (by omega) (by decide), ?_⟩
      rw [nI_clamp (by omega)]
      conv => whnf
      rw [nI_succ] at ih
      refine ⟨fun hp => ?_, fun hp => ?_⟩
      · conv => whnf
        exact ih (fs_f hf (fun z => z hp))
      · conv => whnf
        have := fs_s (fs_t (p := fun r => S.2.2.1 5 r ≠ S.2.2.1 15 r) hf hp) n (by omega)
        exact ⟨rfl, hG _ _ ⟨bl_af (fun z => by rw [this] at z; cases z) rfl, rfl⟩⟩)
  refine run [2] 60 _ _ _ _ _ _ ?_
  conv => whnf
  exact loop 0 (by omega) rfl
theorem ct_X3_isSettled (D : va_G) (dT : Nat → Nat) (l : Launch) : en_CT en_WD D vwCl dT l yX3_isSettled cX3_isSettled 2 (some .boolean) rm_X3_isSettled f_X3_isSettled := en_met en_WD1 en_WD2 (by decide) rfl rfl (tB_X3_isSettled D dT l) (en_f_ln (fun _ => Nat.le_of_ble_eq_true rfl)) (en_f_bd bd_X3_isSettled)
set_option maxRecDepth 100000 in
theorem mk_X3_isSettled {D : va_G} {dT : Nat → Nat} {l : Launch} {R : Room} {s : State} {args : Array Value} {own : String} {idx : Nat} (h : en_WD s) (h1 : rm_X3_isSettled.frames + 1 ≤ R.frames) (h2 : 8 + (2 + 11) + rm_X3_isSettled.locals ≤ R.locals) (hl : (Jvm.Cond.methodLink own idx yX3_isSettled).before args s = true ∨ ∃ host, (Jvm.Cond.methodLinkNest own idx yX3_isSettled host).before args s = true) : en_mok en_WD D vwCl dT l R s args own (idx, 1, 5, 0, 0, f_X3_isSettled) :=
  ⟨yX3_isSettled, cX3_isSettled, 2, some .boolean, rm_X3_isSettled, 0, ct_X3_isSettled D dT l, rfl, rfl, h1, h2, en_wd h 622 rfl rfl args, en_wd h 62 (by decide +kernel) rfl args, by decide, by decide, hl, ⟨RX3, TX3, 8, rfl, en_wd h 620 (by decide +kernel) rfl args, en_wd h 621 (by decide +kernel) rfl args, rfl⟩⟩
def f_X3_gatherAll := en_f (σ := Nat × Sx) (fun _ => [.ref 13]) (fun x => wX x.2) (fun x => x.1 ≤ 100 ∧ x.2.1 1 = nI x.1) (fun x v w => v = none ∧ w = wX (xi (xa x.2 16 (mx x.1 nI (x.2.2.2.1 16))) 4 (nI x.1)))
def rm_X3_gatherAll : Room := { frames := 0, cells := 0, slots := 0, locals := 0 }
def t_X3_gatherAll : en_T := ((2, 0, 0), tb_X3_gatherAll, fl_X3, cn_X3, [], [], 0, none)
set_option maxRecDepth 100000 in
theorem tB_X3_gatherAll (D : va_G) (dT : Nat → Nat) (l : Launch) : en_TB en_WD D vwCl dT l rm_X3_gatherAll t_X3_gatherAll RX3 "gatherAll" cX3_gatherAll := ⟨tk_X3_gatherAll, fun s args meth h hn => ⟨fo_X3 h args meth, co_X3 h args, fun _ h => absurd h List.not_mem_nil, fun _ h => absurd h List.not_mem_nil, Or.inl rfl, en_arr h args⟩⟩
set_option maxHeartbeats 4000000 in
set_option maxRecDepth 100000 in
theorem bd_X3_gatherAll : en_B (σ := Nat × Sx) t_X3_gatherAll (fun _ => [.ref 13]) (fun x => wX x.2) (fun x => x.1 ≤ 100 ∧ x.2.1 1 = nI x.1) (fun x v w => v = none ∧ w = wX (xi (xa x.2 16 (mx x.1 nI (x.2.2.2.1 16))) 4 (nI x.1))) := by
  rintro ⟨n, S⟩ ⟨hn, h1⟩ G hG OK ⟨run, sub⟩
  dsimp only at hn h1 hG ⊢
  have loop := lp_up (fun i => OK 0 0 2 [(0, .ref 13), (1, .int (nI i))] [] (wX (xa S 16 (mx i nI (S.2.2.1 16))))) n
    (by
      refine run [2] 60 _ _ _ _ _ _ ?_
      conv => whnf
      refine pk_le n n (fun h => ?_) (fun h => absurd h (by omega)) h1
      conv => whnf
      refine hG _ _ ⟨rfl, ?_⟩
      rw [← h1]
      rfl)
    (fun i hi ih => by
      refine run [2] 60 _ _ _ _ _ _ ?_
      conv => whnf
      refine pk_le n i (fun h => absurd h (by omega)) (fun h => ?_) h1
      conv => whnf
      refine ⟨vp_in_nI (by omega) (by decide), ?_⟩
      rw [nI_clamp (by omega)]
      conv => whnf
      rw [nI_succ, ← mx_s] at ih
      exact ih)
  refine run [2] 60 _ _ _ _ _ _ ?_
  conv => whnf
  have h0 := loop 0 (by omega)
  rw [mx_0] at h0
  exact h0
theorem ct_X3_gatherAll (D : va_G) (dT : Nat → Nat) (l : Launch) : en_CT en_WD D vwCl dT l yX3_gatherAll cX3_gatherAll 2 (none) rm_X3_gatherAll f_X3_gatherAll := en_met en_WD1 en_WD2 (by decide) rfl rfl (tB_X3_gatherAll D dT l) (en_f_ln (fun _ => Nat.le_of_ble_eq_true rfl)) (en_f_bd bd_X3_gatherAll)
set_option maxRecDepth 100000 in
theorem mk_X3_gatherAll {D : va_G} {dT : Nat → Nat} {l : Launch} {R : Room} {s : State} {args : Array Value} {own : String} {idx : Nat} (h : en_WD s) (h1 : rm_X3_gatherAll.frames + 1 ≤ R.frames) (h2 : 8 + (2 + 11) + rm_X3_gatherAll.locals ≤ R.locals) (hl : (Jvm.Cond.methodLink own idx yX3_gatherAll).before args s = true ∨ ∃ host, (Jvm.Cond.methodLinkNest own idx yX3_gatherAll host).before args s = true) : en_mok en_WD D vwCl dT l R s args own (idx, 1, 5, 0, 0, f_X3_gatherAll) :=
  ⟨yX3_gatherAll, cX3_gatherAll, 2, none, rm_X3_gatherAll, 0, ct_X3_gatherAll D dT l, rfl, rfl, h1, h2, en_wd h 340 rfl rfl args, en_wd h 62 (by decide +kernel) rfl args, by decide, by decide, hl, ⟨RX3, TX3, 8, rfl, en_wd h 339 (by decide +kernel) rfl args, en_wd h 2 (by decide +kernel) rfl args, rfl⟩⟩
def f_X3_gatherLabel := en_f (σ := Nat × Int32 × Sx) (fun x => [.ref 13, .int x.2.1]) (fun x => wX x.2.2) (fun x => x.1 ≤ 100 ∧ x.2.2.1 1 = nI x.1) (fun x v w => v = none ∧ w = wX (xi (xa x.2.2 16 (sel (fun r => x.2.2.2.2.1 3 r = x.2.1) (x.2.2.2.2.1 16) x.1)) 4 (nI (ct (fun r => x.2.2.2.2.1 3 r = x.2.1) x.1))))
def rm_X3_gatherLabel : Room := { frames := 0, cells := 0, slots := 0, locals := 0 }
def t_X3_gatherLabel : en_T := ((3, 0, 0), tb_X3_gatherLabel, fl_X3, cn_X3, [], [], 0, none)
set_option maxRecDepth 100000 in
theorem tB_X3_gatherLabel (D : va_G) (dT : Nat → Nat) (l : Launch) : en_TB en_WD D vwCl dT l rm_X3_gatherLabel t_X3_gatherLabel RX3 "gatherLabel" cX3_gatherLabel := ⟨tk_X3_gatherLabel, fun s args meth h hn => ⟨fo_X3 h args meth, co_X3 h args, fun _ h => absurd h List.not_mem_nil, fun _ h => absurd h List.not_mem_nil, Or.inl rfl, en_arr h args⟩⟩
set_option maxHeartbeats 4000000 in
set_option maxRecDepth 100000 in
theorem bd_X3_gatherLabel : en_B (σ := Nat × Int32 × Sx) t_X3_gatherLabel (fun x => [.ref 13, .int x.2.1]) (fun x => wX x.2.2) (fun x => x.1 ≤ 100 ∧ x.2.2.1 1 = nI x.1) (fun x v w => v = none ∧ w = wX (xi (xa x.2.2 16 (sel (fun r => x.2.2.2.2.1 3 r = x.2.1) (x.2.2.2.2.1 16) x.1)) 4 (nI (ct (fun r => x.2.2.2.2.1 3 r = x.2.1) x.1)))) := by
  rintro ⟨n, l, S⟩ ⟨hn, h1⟩ G hG OK ⟨run, sub⟩
  dsimp only at hn h1 hG ⊢
  have loop := lp_up (fun i => OK 0 0 7 [(0, .ref 13), (1, .int l), (2, .int (nI i))] [] (wX (xi (xa S 16 (sel (fun r => S.2.2.1 3 r = l) (S.2.2.1 16) i)) 4 (nI (ct (fun r => S.2.2.1 3 r = l) i))))) n
    (by
      refine run [7] 60 _ _ _ _ _ _ ?_
      conv => whnf
      refine pk_le n n (fun h => ?_) (fun h => absurd h (by omega)) h1
      conv => whnf
      exact hG _ _ ⟨rfl, rfl⟩)
    (fun i hi ih => by
      have hc := ct_le (fun r => S.2.2.1 3 r = l) i
      refine run [7] 60 _ _ _ _ _ _ ?_
      conv => whnf
      refine pk_le n i (fun h => absurd h (by omega)) (fun h => ?_) h1
      conv => whnf
      refine ⟨vp_in_nI (by omega) (by decide), ?_⟩
      rw [nI_clamp (by omega)]
      conv => whnf
      rw [nI_succ] at ih
      refine ⟨fun hp => ?_, fun hp => ?_⟩
      · conv => whnf
        rw [ct_f (p := fun r => S.2.2.1 3 r = l) hp, sel_f (p := fun r => S.2.2.1 3 r = l) hp] at ih
        exact ih
      · conv => whnf
        refine ⟨vp_in_nI (n := ct (fun r => S.2.2.1 3 r = l) i) (by omega) (by decide), ?_⟩
        conv => whnf
        rw [ct_t (p := fun r => S.2.2.1 3 r = l) hp, sel_t (p := fun r => S.2.2.1 3 r = l) hp, nI_succ] at ih
        have hu : upd (sel (fun r => S.2.2.1 3 r = l) (S.2.2.1 16) i) (ct (fun r => S.2.2.1 3 r = l) i) (nI i) = upd (sel (fun r => S.2.2.1 3 r = l) (S.2.2.1 16) i) (nI (ct (fun r => S.2.2.1 3 r = l) i)).toNatClampNeg (nI i) := by rw [nI_clamp (by omega)]
        rw [hu] at ih
        exact ih)
  refine run [7] 60 _ _ _ _ _ _ ?_
  conv => whnf
  exact loop 0 (by omega)
theorem ct_X3_gatherLabel (D : va_G) (dT : Nat → Nat) (l : Launch) : en_CT en_WD D vwCl dT l yX3_gatherLabel cX3_gatherLabel 3 (none) rm_X3_gatherLabel f_X3_gatherLabel := en_met en_WD1 en_WD2 (by decide) rfl rfl (tB_X3_gatherLabel D dT l) (en_f_ln (fun _ => Nat.le_of_ble_eq_true rfl)) (en_f_bd bd_X3_gatherLabel)
set_option maxRecDepth 100000 in
theorem mk_X3_gatherLabel {D : va_G} {dT : Nat → Nat} {l : Launch} {R : Room} {s : State} {args : Array Value} {own : String} {idx : Nat} (h : en_WD s) (h1 : rm_X3_gatherLabel.frames + 1 ≤ R.frames) (h2 : 8 + (3 + 11) + rm_X3_gatherLabel.locals ≤ R.locals) (hl : (Jvm.Cond.methodLink own idx yX3_gatherLabel).before args s = true ∨ ∃ host, (Jvm.Cond.methodLinkNest own idx yX3_gatherLabel host).before args s = true) : en_mok en_WD D vwCl dT l R s args own (idx, 2, 5, 0, 0, f_X3_gatherLabel) :=
  ⟨yX3_gatherLabel, cX3_gatherLabel, 3, none, rm_X3_gatherLabel, 1, ct_X3_gatherLabel D dT l, rfl, rfl, h1, h2, en_wd h 408 rfl rfl args, en_wd h 62 (by decide +kernel) rfl args, by decide, by decide, hl, ⟨RX3, TX3, 8, rfl, en_wd h 407 (by decide +kernel) rfl args, en_wd h 16 (by decide +kernel) rfl args, rfl⟩⟩
def f_X3_gatherLabelInside := en_f (σ := Nat × Int32 × Int32 × Sx) (fun x => [.ref 13, .int x.2.1, .int x.2.2.1]) (fun x => wX x.2.2.2) (fun x => x.1 ≤ 100 ∧ x.2.2.2.1 1 = nI x.1) (fun x v w => v = none ∧ w = wX (xi (xa x.2.2.2 16 (sel (fun r => x.2.2.2.2.2.1 3 r = x.2.1 ∧ x.2.2.2.2.2.1 5 r ≠ -1 ∧ x.2.2.2.2.2.1 5 r ≠ x.2.2.1) (x.2.2.2.2.2.1 16) x.1)) 4 (nI (ct (fun r => x.2.2.2.2.2.1 3 r = x.2.1 ∧ x.2.2.2.2.2.1 5 r ≠ -1 ∧ x.2.2.2.2.2.1 5 r ≠ x.2.2.1) x.1))))
def rm_X3_gatherLabelInside : Room := { frames := 1, cells := 0, slots := 0, locals := 21 }
def t_X3_gatherLabelInside : en_T := ((4, 0, 0), tb_X3_gatherLabelInside, fl_X3, cn_X3, [(115, 2, 4, 0, 0, f_X2_isPlaced)], [], 0, none)
set_option maxRecDepth 100000 in
theorem tB_X3_gatherLabelInside (D : va_G) (dT : Nat → Nat) (l : Launch) : en_TB en_WD D vwCl dT l rm_X3_gatherLabelInside t_X3_gatherLabelInside RX3 "gatherLabelInside" cX3_gatherLabelInside := ⟨tk_X3_gatherLabelInside, fun s args meth h hn => ⟨fo_X3 h args meth, co_X3 h args, List.forall_mem_cons.mpr ⟨mk_X2_isPlaced (own := RX3) h (Nat.le_of_ble_eq_true rfl) (Nat.le_of_ble_eq_true rfl) (Or.inl (en_wd h 466 (by decide +kernel) rfl args)), fun _ h => absurd h List.not_mem_nil⟩, fun _ h => absurd h List.not_mem_nil, Or.inl rfl, en_arr h args⟩⟩
set_option maxHeartbeats 4000000 in
set_option maxRecDepth 100000 in
theorem bd_X3_gatherLabelInside : en_B (σ := Nat × Int32 × Int32 × Sx) t_X3_gatherLabelInside (fun x => [.ref 13, .int x.2.1, .int x.2.2.1]) (fun x => wX x.2.2.2) (fun x => x.1 ≤ 100 ∧ x.2.2.2.1 1 = nI x.1) (fun x v w => v = none ∧ w = wX (xi (xa x.2.2.2 16 (sel (fun r => x.2.2.2.2.2.1 3 r = x.2.1 ∧ x.2.2.2.2.2.1 5 r ≠ -1 ∧ x.2.2.2.2.2.1 5 r ≠ x.2.2.1) (x.2.2.2.2.2.1 16) x.1)) 4 (nI (ct (fun r => x.2.2.2.2.2.1 3 r = x.2.1 ∧ x.2.2.2.2.2.1 5 r ≠ -1 ∧ x.2.2.2.2.2.1 5 r ≠ x.2.2.1) x.1)))) := by
  rintro ⟨n, l, o, S⟩ ⟨hn, h1⟩ G hG OK ⟨run, sub⟩
  dsimp only at hn h1 hG ⊢
  have loop := lp_up (fun i => OK 0 0 7 [(0, .ref 13), (1, .int l), (2, .int o), (3, .int (nI i))] [] (wX (xi (xa S 16 (sel (fun r => S.2.2.1 3 r = l ∧ S.2.2.1 5 r ≠ -1 ∧ S.2.2.1 5 r ≠ o) (S.2.2.1 16) i)) 4 (nI (ct (fun r => S.2.2.1 3 r = l ∧ S.2.2.1 5 r ≠ -1 ∧ S.2.2.1 5 r ≠ o) i))))) n
    (by
      refine run [7] 60 _ _ _ _ _ _ ?_
      conv => whnf
      refine pk_le n n (fun h => ?_) (fun h => absurd h (by omega)) h1
      conv => whnf
      exact hG _ _ ⟨rfl, rfl⟩)
    (fun i hi ih => by
      have hc := ct_le (fun r => S.2.2.1 3 r = l ∧ S.2.2.1 5 r ≠ -1 ∧ S.2.2.1 5 r ≠ o) i
      rw [nI_succ] at ih
      have hno : ¬ (S.2.2.1 3 i = l ∧ S.2.2.1 5 i ≠ -1 ∧ S.2.2.1 5 i ≠ o) → OK 0 0 7 [(0, .ref 13), (1, .int l), (2, .int o), (3, .int (nI i + 1))] [] (wX (xi (xa S 16 (sel (fun r => S.2.2.1 3 r = l ∧ S.2.2.1 5 r ≠ -1 ∧ S.2.2.1 5 r ≠ o) (S.2.2.1 16) i)) 4 (nI (ct (fun r => S.2.2.1 3 r = l ∧ S.2.2.1 5 r ≠ -1 ∧ S.2.2.1 5 r ≠ o) i)))) := fun hp => by
        rw [ct_f (p := fun r => S.2.2.1 3 r = l ∧ S.2.2.1 5 r ≠ -1 ∧ S.2.2.1 5 r ≠ o) hp, sel_f (p := fun r => S.2.2.1 3 r = l ∧ S.2.2.1 5 r ≠ -1 ∧ S.2.2.1 5 r ≠ o) hp] at ih
        exact ih
      refine run [7] 60 _ _ _ _ _ _ ?_
      conv => whnf
      refine pk_le n i (fun h => absurd h (by omega)) (fun h => ?_) h1
      conv => whnf
      refine ⟨vp_in_nI (by omega) (by decide), ?_⟩
      rw [nI_clamp (by omega)]
      conv => whnf
      refine ⟨fun hp => ?_, fun hp => ?_⟩
      · conv => whnf
        exact hno (fun z => hp z.1)
      · conv => whnf
        refine ⟨(i, xi (xa S 16 (sel (fun r => S.2.2.1 3 r = l ∧ S.2.2.1 5 r ≠ -1 ∧ S.2.2.1 5 r ≠ o) (S.2.2.1 16) i)) 4 (nI (ct (fun r => S.2.2.1 3 r = l ∧ S.2.2.1 5 r ≠ -1 ∧ S.2.2.1 5 r ≠ o) i))), rfl, rfl, (by dsimp only; omega), ?_⟩
        rintro _ _ ⟨rfl, rfl⟩
        conv => whnf
        refine bl_br (fun hq => ?_) (fun hq => ?_)
        · conv => whnf
          exact hno (fun z => hq z.2.1)
        · conv => whnf
          refine ⟨vp_in_nI (by omega) (by decide), ?_⟩
          rw [nI_clamp (by omega)]
          conv => whnf
          refine ⟨fun hr => ?_, fun hr => ?_⟩
          · conv => whnf
            exact hno (fun z => z.2.2 hr)
          · conv => whnf
            refine ⟨vp_in_nI (n := ct (fun r => S.2.2.1 3 r = l ∧ S.2.2.1 5 r ≠ -1 ∧ S.2.2.1 5 r ≠ o) i) (by omega) (by decide), ?_⟩
            conv => whnf
            rw [ct_t (p := fun r => S.2.2.1 3 r = l ∧ S.2.2.1 5 r ≠ -1 ∧ S.2.2.1 5 r ≠ o) ⟨hp, hq, hr⟩, sel_t (p := fun r => S.2.2.1 3 r = l ∧ S.2.2.1 5 r ≠ -1 ∧ S.2.2.1 5 r ≠ o) ⟨hp, hq, hr⟩, nI_succ] at ih
            have hu : upd (sel (fun r => S.2.2.1 3 r = l ∧ S.2.2.1 5 r ≠ -1 ∧ S.2.2.1 5 r ≠ o) (S.2.2.1 16) i) (ct (fun r => S.2.2.1 3 r = l ∧ S.2.2.1 5 r ≠ -1 ∧ S.2.2.1 5 r ≠ o) i) (nI i) = upd (sel (fun r => S.2.2.1 3 r = l ∧ S.2.2.1 5 r ≠ -1 ∧ S.2.2.1 5 r ≠ o) (S.2.2.1 16) i) (nI (ct (fun r => S.2.2.1 3 r = l ∧ S.2.2.1 5 r ≠ -1 ∧ S.2.2.1 5 r ≠ o) i)).toNatClampNeg (nI i) := by rw [nI_clamp (by omega)]
            rw [hu] at ih
            exact ih)
  refine run [7] 60 _ _ _ _ _ _ ?_
  conv => whnf
  exact loop 0 (by omega)
theorem ct_X3_gatherLabelInside (D : va_G) (dT : Nat → Nat) (l : Launch) : en_CT en_WD D vwCl dT l yX3_gatherLabelInside cX3_gatherLabelInside 4 (none) rm_X3_gatherLabelInside f_X3_gatherLabelInside := en_met en_WD1 en_WD2 (by decide) rfl rfl (tB_X3_gatherLabelInside D dT l) (en_f_ln (fun _ => Nat.le_of_ble_eq_true rfl)) (en_f_bd bd_X3_gatherLabelInside)
set_option maxRecDepth 100000 in
theorem mk_X3_gatherLabelInside {D : va_G} {dT : Nat → Nat} {l : Launch} {R : Room} {s : State} {args : Array Value} {own : String} {idx : Nat} (h : en_WD s) (h1 : rm_X3_gatherLabelInside.frames + 1 ≤ R.frames) (h2 : 8 + (4 + 11) + rm_X3_gatherLabelInside.locals ≤ R.locals) (hl : (Jvm.Cond.methodLink own idx yX3_gatherLabelInside).before args s = true ∨ ∃ host, (Jvm.Cond.methodLinkNest own idx yX3_gatherLabelInside host).before args s = true) : en_mok en_WD D vwCl dT l R s args own (idx, 3, 5, 0, 0, f_X3_gatherLabelInside) :=
  ⟨yX3_gatherLabelInside, cX3_gatherLabelInside, 4, none, rm_X3_gatherLabelInside, 2, ct_X3_gatherLabelInside D dT l, rfl, rfl, h1, h2, en_wd h 465 rfl rfl args, en_wd h 62 (by decide +kernel) rfl args, by decide, by decide, hl, ⟨RX3, TX3, 8, rfl, en_wd h 464 (by decide +kernel) rfl args, en_wd h 18 (by decide +kernel) rfl args, rfl⟩⟩
def f_X3_gatherGroups := en_f (σ := Nat × Sx) (fun _ => [.ref 13]) (fun x => wX x.2) (fun x => x.1 ≤ 100 ∧ x.2.1 1 = nI x.1) (fun x v w => v = none ∧ w = wX (xi (xa x.2 16 (sel (fun g => fs (fun r => x.2.2.2.1 2 r = nI g) x.1 ≠ none) (x.2.2.2.1 16) 30)) 4 (nI (ct (fun g => fs (fun r => x.2.2.2.1 2 r = nI g) x.1 ≠ none) 30))))
def rm_X3_gatherGroups : Room := { frames := 1, cells := 0, slots := 0, locals := 22 }
def t_X3_gatherGroups : en_T := ((2, 0, 0), tb_X3_gatherGroups, fl_X3, cn_X3, [(119, 2, 4, 0, 0, f_X2_firstOfGroup)], [], 0, none)
set_option maxRecDepth 100000 in
theorem tB_X3_gatherGroups (D : va_G) (dT : Nat → Nat) (l : Launch) : en_TB en_WD D vwCl dT l rm_X3_gatherGroups t_X3_gatherGroups RX3 "gatherGroups" cX3_gatherGroups := ⟨tk_X3_gatherGroups, fun s args meth h hn => ⟨fo_X3 h args meth, co_X3 h args, List.forall_mem_cons.mpr ⟨mk_X2_firstOfGroup (own := RX3) h (Nat.le_of_ble_eq_true rfl) (Nat.le_of_ble_eq_true rfl) (Or.inl (en_wd h 364 (by decide +kernel) rfl args)), fun _ h => absurd h List.not_mem_nil⟩, fun _ h => absurd h List.not_mem_nil, Or.inl rfl, en_arr h args⟩⟩
set_option maxHeartbeats 4000000 in
set_option maxRecDepth 100000 in
theorem bd_X3_gatherGroups : en_B (σ := Nat × Sx) t_X3_gatherGroups (fun _ => [.ref 13]) (fun x => wX x.2) (fun x => x.1 ≤ 100 ∧ x.2.1 1 = nI x.1) (fun x v w => v = none ∧ w = wX (xi (xa x.2 16 (sel (fun g => fs (fun r => x.2.2.2.1 2 r = nI g) x.1 ≠ none) (x.2.2.2.1 16) 30)) 4 (nI (ct (fun g => fs (fun r => x.2.2.2.1 2 r = nI g) x.1 ≠ none) 30)))) := by
  rintro ⟨n, S⟩ ⟨hn, h1⟩ G hG OK ⟨run, sub⟩
  dsimp only at hn h1 hG ⊢
  have loop := lp_up (fun i => OK 0 0 7 [(0, .ref 13), (1, .int (nI i))] [] (wX (xi (xa S 16 (sel (fun g => fs (fun r => S.2.2.1 2 r = nI g) n ≠ none) (S.2.2.1 16) i)) 4 (nI (ct (fun g => fs (fun r => S.2.2.1 2 r = nI g) n ≠ none) i))))) 30
    (by
      refine run [7] 60 _ _ _ _ _ _ ?_
      conv => whnf
      refine pk_le 30 30 (fun h => ?_) (fun h => absurd h (by omega))
      conv => whnf
      exact hG _ _ ⟨rfl, rfl⟩)
    (fun i hi ih => by
      have hc := ct_le (fun g => fs (fun r => S.2.2.1 2 r = nI g) n ≠ none) i
      rw [nI_succ] at ih
      refine run [7] 60 _ _ _ _ _ _ ?_
      conv => whnf
      refine pk_le 30 i (fun h => absurd h (by omega)) (fun h => ?_)
      conv => whnf
      refine ⟨(n, nI i, xi (xa S 16 (sel (fun g => fs (fun r => S.2.2.1 2 r = nI g) n ≠ none) (S.2.2.1 16) i)) 4 (nI (ct (fun g => fs (fun r => S.2.2.1 2 r = nI g) n ≠ none) i))), rfl, rfl, ⟨hn, h1⟩, ?_⟩
      intro v w hvw
      obtain ⟨rfl, rfl⟩ : v = some (.int (oI (fs (fun r => S.2.2.1 2 r = nI i) n))) ∧ w = wX (xi (xa S 16 (sel (fun g => fs (fun r => S.2.2.1 2 r = nI g) n ≠ none) (S.2.2.1 16) i)) 4 (nI (ct (fun g => fs (fun r => S.2.2.1 2 r = nI g) n ≠ none) i))) := hvw
      have hone : oI (fs (fun r => S.2.2.1 2 r = nI i) n) = -1 ↔ fs (fun r => S.2.2.1 2 r = nI i) n = none := by
        cases hf : fs (fun r => S.2.2.1 2 r = nI i) n with
        | none => exact ⟨fun _ => rfl, fun _ => rfl⟩
        | some r =>
          have hr := (fs_lt hf).1
          exact ⟨fun z => absurd z (fun z => by
            have z2 : nI r < 0 := by
              rw [show nI r = -1 from z]; decide
            exact absurd z2 (nI_pos (by omega))), fun z => by cases z⟩
      conv => whnf
      refine ⟨fun hp => ?_, fun hp => ?_⟩
      · have hp := hone.mp hp
        conv => whnf
        rw [ct_f (p := fun g => fs (fun r => S.2.2.1 2 r = nI g) n ≠ none) (fun z => z hp), sel_f (p := fun g => fs (fun r => S.2.2.1 2 r = nI g) n ≠ none) (fun z => z hp)] at ih
        exact ih
      · have hp : fs (fun r => S.2.2.1 2 r = nI i) n ≠ none := fun z => hp (hone.mpr z)
        conv => whnf
        refine ⟨vp_in_nI (n := ct (fun g => fs (fun r => S.2.2.1 2 r = nI g) n ≠ none) i) (by omega) (by decide), ?_⟩
        conv => whnf
        rw [ct_t (p := fun g => fs (fun r => S.2.2.1 2 r = nI g) n ≠ none) hp, sel_t (p := fun g => fs (fun r => S.2.2.1 2 r = nI g) n ≠ none) hp, nI_succ] at ih
        have hu : upd (sel (fun g => fs (fun r => S.2.2.1 2 r = nI g) n ≠ none) (S.2.2.1 16) i) (ct (fun g => fs (fun r => S.2.2.1 2 r = nI g) n ≠ none) i) (nI i) = upd (sel (fun g => fs (fun r => S.2.2.1 2 r = nI g) n ≠ none) (S.2.2.1 16) i) (nI (ct (fun g => fs (fun r => S.2.2.1 2 r = nI g) n ≠ none) i)).toNatClampNeg (nI i) := by rw [nI_clamp (by omega)]
        rw [hu] at ih
        exact ih)
  refine run [7] 60 _ _ _ _ _ _ ?_
  conv => whnf
  exact loop 0 (by omega)
theorem ct_X3_gatherGroups (D : va_G) (dT : Nat → Nat) (l : Launch) : en_CT en_WD D vwCl dT l yX3_gatherGroups cX3_gatherGroups 2 (none) rm_X3_gatherGroups f_X3_gatherGroups := en_met en_WD1 en_WD2 (by decide) rfl rfl (tB_X3_gatherGroups D dT l) (en_f_ln (fun _ => Nat.le_of_ble_eq_true rfl)) (en_f_bd bd_X3_gatherGroups)
set_option maxRecDepth 100000 in
theorem mk_X3_gatherGroups {D : va_G} {dT : Nat → Nat} {l : Launch} {R : Room} {s : State} {args : Array Value} {own : String} {idx : Nat} (h : en_WD s) (h1 : rm_X3_gatherGroups.frames + 1 ≤ R.frames) (h2 : 8 + (2 + 11) + rm_X3_gatherGroups.locals ≤ R.locals) (hl : (Jvm.Cond.methodLink own idx yX3_gatherGroups).before args s = true ∨ ∃ host, (Jvm.Cond.methodLinkNest own idx yX3_gatherGroups host).before args s = true) : en_mok en_WD D vwCl dT l R s args own (idx, 1, 5, 0, 0, f_X3_gatherGroups) :=
  ⟨yX3_gatherGroups, cX3_gatherGroups, 2, none, rm_X3_gatherGroups, 0, ct_X3_gatherGroups D dT l, rfl, rfl, h1, h2, en_wd h 363 rfl rfl args, en_wd h 62 (by decide +kernel) rfl args, by decide, by decide, hl, ⟨RX3, TX3, 8, rfl, en_wd h 362 (by decide +kernel) rfl args, en_wd h 6 (by decide +kernel) rfl args, rfl⟩⟩
