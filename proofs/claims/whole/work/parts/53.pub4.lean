/-! SplitLeaks: split, same, folds, nested, over -/
def f_X6_split := en_f (σ := Int32 × Int64 × Int32 × Nat × (Nat → Nat) × Nat × Nat × Sx) (fun x => [.ref 0, .int x.1, .long x.2.1, .int x.2.2.1]) (fun x => wX x.2.2.2.2.2.2.2) (fun x => x.2.2.2.1 ≤ 100 ∧ x.2.2.2.2.2.2.2.1 1 = nI x.2.2.2.1 ∧ wgt x.2.2.2.2.2.2.2 x.2.2.2.2.1 x.2.2.2.2.2.1 x.2.2.2.2.2.2.1) (fun x v w => (¬ splq x.1 x.2.2.1 ∧ ansD v w (-2) x.2.2.2.2.2.2.2) ∨ (splq x.1 x.2.2.1 ∧ ansD v w (nI (ct (fun r => PLN x.2.2.2.2.2.2.2 x.2.2.2.2.1 x.2.2.2.2.2.1 x.2.2.2.2.2.2.1 x.2.2.2.1 (tn x.1) x.2.1 x.2.2.1 r ≠ -1) x.2.2.2.1)) (xa x.2.2.2.2.2.2.2 5 (mx x.2.2.2.1 (PLN x.2.2.2.2.2.2.2 x.2.2.2.2.1 x.2.2.2.2.2.1 x.2.2.2.2.2.2.1 x.2.2.2.1 (tn x.1) x.2.1 x.2.2.1) (x.2.2.2.2.2.2.2.2.2.1 5)))))
def rm_X6_split : Room := { frames := 5, cells := 0, slots := 0, locals := 115 }
def t_X6_split : en_T := ((5, 0, 0), tb_X6_split, fl_X6, cn_X6, [(102, 2, 0, 0, 0, f_X6_isSplit), (105, 4, 5, 0, 0, f_X3_plan), (109, 1, 5, 0, 0, f_X3_settle), (112, 1, 4, 0, 0, f_X2_countPlaced)], [], 0, some .int)
set_option maxRecDepth 100000 in
theorem tB_X6_split (D : va_G) (dT : Nat → Nat) (l : Launch) : en_TB en_WD D vwCl dT l rm_X6_split t_X6_split RX6 "split" cX6_split := ⟨tk_X6_split, fun s args meth h hn => ⟨fo_X6 h args meth, co_X6 h args, List.forall_mem_cons.mpr ⟨mk_X6_isSplit (own := RX6) h (Nat.le_of_ble_eq_true rfl) (Nat.le_of_ble_eq_true rfl) (Or.inl (en_wd h 322 (by decide +kernel) rfl args)), List.forall_mem_cons.mpr ⟨mk_X3_plan (own := RX6) h (Nat.le_of_ble_eq_true rfl) (Nat.le_of_ble_eq_true rfl) (Or.inl (en_wd h 325 (by decide +kernel) rfl args)), List.forall_mem_cons.mpr ⟨mk_X3_settle (own := RX6) h (Nat.le_of_ble_eq_true rfl) (Nat.le_of_ble_eq_true rfl) (Or.inl (en_wd h 409 (by decide +kernel) rfl args)), List.forall_mem_cons.mpr ⟨mk_X2_countPlaced (own := RX6) h (Nat.le_of_ble_eq_true rfl) (Nat.le_of_ble_eq_true rfl) (Or.inl (en_wd h 413 (by decide +kernel) rfl args)), fun _ h => absurd h List.not_mem_nil⟩⟩⟩⟩, fun _ h => absurd h List.not_mem_nil, Or.inl rfl, en_arr h args⟩⟩
set_option maxHeartbeats 4000000 in
set_option maxRecDepth 100000 in
theorem bd_X6_split : en_B (σ := Int32 × Int64 × Int32 × Nat × (Nat → Nat) × Nat × Nat × Sx) t_X6_split (fun x => [.ref 0, .int x.1, .long x.2.1, .int x.2.2.1]) (fun x => wX x.2.2.2.2.2.2.2) (fun x => x.2.2.2.1 ≤ 100 ∧ x.2.2.2.2.2.2.2.1 1 = nI x.2.2.2.1 ∧ wgt x.2.2.2.2.2.2.2 x.2.2.2.2.1 x.2.2.2.2.2.1 x.2.2.2.2.2.2.1) (fun x v w => (¬ splq x.1 x.2.2.1 ∧ ansD v w (-2) x.2.2.2.2.2.2.2) ∨ (splq x.1 x.2.2.1 ∧ ansD v w (nI (ct (fun r => PLN x.2.2.2.2.2.2.2 x.2.2.2.2.1 x.2.2.2.2.2.1 x.2.2.2.2.2.2.1 x.2.2.2.1 (tn x.1) x.2.1 x.2.2.1 r ≠ -1) x.2.2.2.1)) (xa x.2.2.2.2.2.2.2 5 (mx x.2.2.2.1 (PLN x.2.2.2.2.2.2.2 x.2.2.2.2.1 x.2.2.2.2.2.1 x.2.2.2.2.2.2.1 x.2.2.2.1 (tn x.1) x.2.1 x.2.2.1) (x.2.2.2.2.2.2.2.2.2.1 5))))) := by
  rintro ⟨kd, z, g, n, w, W, k, S⟩ ⟨hn, h1, hwg⟩ G hG OK ⟨run, sub⟩
  dsimp only at hn h1 hwg hG ⊢
  refine run [] 60 _ _ _ _ _ _ ?_
  conv => whnf
  refine ⟨(kd, g, wX S), rfl, rfl, trivial, ?_⟩
  rintro _ _ ⟨rfl, rfl⟩
  conv => whnf
  refine bl_br2 (fun c1 => ?_) (fun c1 => ?_)
  rotate_left
  · conv => whnf
    exact hG _ _ (Or.inl ⟨c1, rfl, S, rfl, dat_rf S⟩)
  obtain ⟨j, hj, rfl⟩ := le_of (b := 3) (by decide) c1.1
  rw [show tn (nI j) = j from nI_clamp (by omega)] at hG
  conv => whnf
  refine ⟨(j, z, g, w, W, k, n, S), rfl, rfl, ⟨hj, hwg, hn, h1⟩, ?_⟩
  rintro v u ⟨hv0, S', hu, hS', h15⟩
  obtain rfl : v = none := hv0
  subst hu
  have h15 : S'.2.2.1 15 = PLN S w W k n j z g := h15
  have hS' : kept S S' := hS'
  generalize PLN S w W k n j z g = F at h15 hG
  have h1' : S'.1 1 = nI n := (kept1 hS').trans h1
  conv => whnf
  refine ⟨(n, S'), rfl, rfl, ⟨hn, h1'⟩, ?_⟩
  intro v u hvu
  obtain ⟨rfl, rfl⟩ : v = none ∧ u = wX (xa S' 5 (mx n F (S.2.2.1 5))) := by
    rw [← h15, ← keptA hS' (a := 5) (by decide)]; exact hvu
  conv => whnf
  refine ⟨(n, xa S' 5 (mx n F (S.2.2.1 5))), rfl, rfl, ⟨hn, h1'⟩, ?_⟩
  intro v u hvu
  obtain ⟨rfl, rfl⟩ : v = some (.int (nI (ct (fun r => mx n F (S.2.2.1 5) r ≠ -1) n))) ∧ u = wX (xa S' 5 (mx n F (S.2.2.1 5))) := hvu
  conv => whnf
  refine hG _ _ (Or.inr ⟨c1, ?_, _, rfl, ?_⟩)
  · rw [ct_c (q := fun r => F r ≠ -1) (fun i hi => by rw [mx_lt hi])]
  · have d := dat_k hS'
    exact ⟨d.1, ⟨d.2.1.1, d.2.1.2.1, d.2.1.2.2.1, rfl, d.2.1.2.2.2.2.1, d.2.1.2.2.2.2.2.1, d.2.1.2.2.2.2.2.2.1, d.2.1.2.2.2.2.2.2.2⟩, d.2.2⟩
theorem ct_X6_split (D : va_G) (dT : Nat → Nat) (l : Launch) : en_CT en_WD D vwCl dT l yX6_split cX6_split 5 (some .int) rm_X6_split f_X6_split := en_met en_WD1 en_WD2 (by decide) rfl rfl (tB_X6_split D dT l) (en_f_ln (fun _ => Nat.le_of_ble_eq_true rfl)) (en_f_bd bd_X6_split)
set_option maxRecDepth 100000 in
theorem mk_X6_split {D : va_G} {dT : Nat → Nat} {l : Launch} {R : Room} {s : State} {args : Array Value} {own : String} {idx : Nat} (h : en_WD s) (h1 : rm_X6_split.frames + 1 ≤ R.frames) (h2 : 8 + (5 + 11) + rm_X6_split.locals ≤ R.locals) (hl : (Jvm.Cond.methodLink own idx yX6_split).before args s = true ∨ ∃ host, (Jvm.Cond.methodLinkNest own idx yX6_split host).before args s = true) : en_mok en_WD D vwCl dT l R s args own (idx, 4, 8, 0, 0, f_X6_split) :=
  ⟨yX6_split, cX6_split, 5, some .int, rm_X6_split, 3, ct_X6_split D dT l, rfl, rfl, h1, h2, en_wd h 321 rfl rfl args, en_wd h 59 (by decide +kernel) rfl args, by decide, by decide, hl, ⟨RX6, TX6, 6, rfl, en_wd h 319 (by decide +kernel) rfl args, en_wd h 320 (by decide +kernel) rfl args, rfl⟩⟩
def f_X6_same := en_f (σ := Int32 × Int64 × Int32 × Nat × (Nat → Nat) × Nat × Nat × Sx) (fun x => [.ref 0, .int x.1, .long x.2.1, .int x.2.2.1]) (fun x => wX x.2.2.2.2.2.2.2) (fun x => x.2.2.2.1 ≤ 100 ∧ x.2.2.2.2.2.2.2.1 1 = nI x.2.2.2.1 ∧ wgt x.2.2.2.2.2.2.2 x.2.2.2.2.1 x.2.2.2.2.2.1 x.2.2.2.2.2.2.1) (fun x v w => (¬ splq x.1 x.2.2.1 ∧ ansD v w 0 x.2.2.2.2.2.2.2) ∨ (splq x.1 x.2.2.1 ∧ ansD v w (bl (fs (fun r => x.2.2.2.2.2.2.2.2.2.1 5 r ≠ PLN x.2.2.2.2.2.2.2 x.2.2.2.2.1 x.2.2.2.2.2.1 x.2.2.2.2.2.2.1 x.2.2.2.1 (tn x.1) x.2.1 x.2.2.1 r) x.2.2.2.1 = none)) x.2.2.2.2.2.2.2))
def rm_X6_same : Room := { frames := 5, cells := 0, slots := 0, locals := 115 }
def t_X6_same : en_T := ((5, 0, 0), tb_X6_same, fl_X6, cn_X6, [(102, 2, 0, 0, 0, f_X6_isSplit), (105, 4, 5, 0, 0, f_X3_plan), (194, 1, 5, 0, 0, f_X3_isSettled)], [], 0, some .boolean)
set_option maxRecDepth 100000 in
theorem tB_X6_same (D : va_G) (dT : Nat → Nat) (l : Launch) : en_TB en_WD D vwCl dT l rm_X6_same t_X6_same RX6 "same" cX6_same := ⟨tk_X6_same, fun s args meth h hn => ⟨fo_X6 h args meth, co_X6 h args, List.forall_mem_cons.mpr ⟨mk_X6_isSplit (own := RX6) h (Nat.le_of_ble_eq_true rfl) (Nat.le_of_ble_eq_true rfl) (Or.inl (en_wd h 322 (by decide +kernel) rfl args)), List.forall_mem_cons.mpr ⟨mk_X3_plan (own := RX6) h (Nat.le_of_ble_eq_true rfl) (Nat.le_of_ble_eq_true rfl) (Or.inl (en_wd h 325 (by decide +kernel) rfl args)), List.forall_mem_cons.mpr ⟨mk_X3_isSettled (own := RX6) h (Nat.le_of_ble_eq_true rfl) (Nat.le_of_ble_eq_true rfl) (Or.inl (en_wd h 619 (by decide +kernel) rfl args)), fun _ h => absurd h List.not_mem_nil⟩⟩⟩, fun _ h => absurd h List.not_mem_nil, Or.inl rfl, en_arr h args⟩⟩
set_option maxHeartbeats 4000000 in
set_option maxRecDepth 100000 in
theorem bd_X6_same : en_B (σ := Int32 × Int64 × Int32 × Nat × (Nat → Nat) × Nat × Nat × Sx) t_X6_same (fun x => [.ref 0, .int x.1, .long x.2.1, .int x.2.2.1]) (fun x => wX x.2.2.2.2.2.2.2) (fun x => x.2.2.2.1 ≤ 100 ∧ x.2.2.2.2.2.2.2.1 1 = nI x.2.2.2.1 ∧ wgt x.2.2.2.2.2.2.2 x.2.2.2.2.1 x.2.2.2.2.2.1 x.2.2.2.2.2.2.1) (fun x v w => (¬ splq x.1 x.2.2.1 ∧ ansD v w 0 x.2.2.2.2.2.2.2) ∨ (splq x.1 x.2.2.1 ∧ ansD v w (bl (fs (fun r => x.2.2.2.2.2.2.2.2.2.1 5 r ≠ PLN x.2.2.2.2.2.2.2 x.2.2.2.2.1 x.2.2.2.2.2.1 x.2.2.2.2.2.2.1 x.2.2.2.1 (tn x.1) x.2.1 x.2.2.1 r) x.2.2.2.1 = none)) x.2.2.2.2.2.2.2)) := by
  rintro ⟨kd, z, g, n, w, W, k, S⟩ ⟨hn, h1, hwg⟩ G hG OK ⟨run, sub⟩
  dsimp only at hn h1 hwg hG ⊢
  refine run [] 60 _ _ _ _ _ _ ?_
  conv => whnf
  refine ⟨(kd, g, wX S), rfl, rfl, trivial, ?_⟩
  rintro _ _ ⟨rfl, rfl⟩
  conv => whnf
  refine bl_br2 (fun c1 => ?_) (fun c1 => ?_)
  rotate_left
  · conv => whnf
    exact ⟨rfl, hG _ _ (Or.inl ⟨c1, rfl, S, rfl, dat_rf S⟩)⟩
  obtain ⟨j, hj, rfl⟩ := le_of (b := 3) (by decide) c1.1
  rw [show tn (nI j) = j from nI_clamp (by omega)] at hG
  conv => whnf
  refine ⟨(j, z, g, w, W, k, n, S), rfl, rfl, ⟨hj, hwg, hn, h1⟩, ?_⟩
  rintro v u ⟨hv0, S', hu, hS', h15⟩
  obtain rfl : v = none := hv0
  subst hu
  have h15 : S'.2.2.1 15 = PLN S w W k n j z g := h15
  have hS' : kept S S' := hS'
  generalize PLN S w W k n j z g = F at h15 hG
  have h1' : S'.1 1 = nI n := (kept1 hS').trans h1
  conv => whnf
  refine ⟨(n, S'), rfl, rfl, ⟨hn, h1'⟩, ?_⟩
  intro v u hvu
  obtain ⟨rfl, rfl⟩ : v = some (.int (bl (fs (fun r => S.2.2.1 5 r ≠ F r) n = none))) ∧ u = wX S' := by
    rw [← h15, ← keptA hS' (a := 5) (by decide)]; exact hvu
  conv => whnf
  exact ⟨bl_b, hG _ _ (Or.inr ⟨c1, rfl, S', rfl, dat_k hS'⟩)⟩
theorem ct_X6_same (D : va_G) (dT : Nat → Nat) (l : Launch) : en_CT en_WD D vwCl dT l yX6_same cX6_same 5 (some .boolean) rm_X6_same f_X6_same := en_met en_WD1 en_WD2 (by decide) rfl rfl (tB_X6_same D dT l) (en_f_ln (fun _ => Nat.le_of_ble_eq_true rfl)) (en_f_bd bd_X6_same)
set_option maxRecDepth 100000 in
theorem mk_X6_same {D : va_G} {dT : Nat → Nat} {l : Launch} {R : Room} {s : State} {args : Array Value} {own : String} {idx : Nat} (h : en_WD s) (h1 : rm_X6_same.frames + 1 ≤ R.frames) (h2 : 8 + (5 + 11) + rm_X6_same.locals ≤ R.locals) (hl : (Jvm.Cond.methodLink own idx yX6_same).before args s = true ∨ ∃ host, (Jvm.Cond.methodLinkNest own idx yX6_same host).before args s = true) : en_mok en_WD D vwCl dT l R s args own (idx, 4, 8, 0, 0, f_X6_same) :=
  ⟨yX6_same, cX6_same, 5, some .boolean, rm_X6_same, 3, ct_X6_same D dT l, rfl, rfl, h1, h2, en_wd h 618 rfl rfl args, en_wd h 59 (by decide +kernel) rfl args, by decide, by decide, hl, ⟨RX6, TX6, 6, rfl, en_wd h 616 (by decide +kernel) rfl args, en_wd h 617 (by decide +kernel) rfl args, rfl⟩⟩
/-- the world with k even weights -/
def evx (S : Sx) (k : Nat) : Sx := bcx S (nI k) 1 1 (if 2 < k then 1 else 0) (if 3 < k then 1 else 0)
def f_X5_becomeEven := en_f (σ := Nat × Sx) (fun x => [.ref 9, .int (nI x.1)]) (fun x => wX x.2) (fun x => 2 ≤ x.1 ∧ x.1 ≤ 4) (fun x v w => v = none ∧ w = wX (evx x.2 x.1))
def rm_X5_becomeEven : Room := { frames := 1, cells := 0, slots := 0, locals := 25 }
def t_X5_becomeEven : en_T := ((2, 0, 0), tb_X5_becomeEven, fl_X5, cn_X5, [(28, 6, 7, 0, 0, f_X5_become)], [], 0, none)
set_option maxRecDepth 100000 in
theorem tB_X5_becomeEven (D : va_G) (dT : Nat → Nat) (l : Launch) : en_TB en_WD D vwCl dT l rm_X5_becomeEven t_X5_becomeEven RX5 "becomeEven" cX5_becomeEven := ⟨tk_X5_becomeEven, fun s args meth h hn => ⟨fo_X5 h args meth, co_X5 h args, List.forall_mem_cons.mpr ⟨mk_X5_become (own := RX5) h (Nat.le_of_ble_eq_true rfl) (Nat.le_of_ble_eq_true rfl) (Or.inl (en_wd h 432 (by decide +kernel) rfl args)), fun _ h => absurd h List.not_mem_nil⟩, fun _ h => absurd h List.not_mem_nil, Or.inl rfl, en_arr h args⟩⟩
set_option maxHeartbeats 4000000 in
set_option maxRecDepth 100000 in
theorem bd_X5_becomeEven : en_B (σ := Nat × Sx) t_X5_becomeEven (fun x => [.ref 9, .int (nI x.1)]) (fun x => wX x.2) (fun x => 2 ≤ x.1 ∧ x.1 ≤ 4) (fun x v w => v = none ∧ w = wX (evx x.2 x.1)) := by
  rintro ⟨k, S⟩ ⟨hk2, hk4⟩ G hG OK ⟨run, sub⟩
  dsimp only at hk2 hk4 hG ⊢
  unfold evx at hG
  refine run [] 60 _ _ _ _ _ _ ?_
  conv => whnf
  refine pk_le k 2 (fun h => ?_) (fun h => ?_)
  · rw [if_neg (c := 2 < k) (by omega), if_neg (c := 3 < k) (by omega)] at hG
    conv => whnf
    refine pk_le k 3 (fun h2 => ?_) (fun h2 => absurd h2 (by omega))
    conv => whnf
    refine ⟨(nI k, 1, 1, 0, 0, S), rfl, rfl, trivial, ?_⟩
    rintro _ _ ⟨rfl, rfl⟩
    conv => whnf
    exact hG _ _ ⟨rfl, rfl⟩
  · rw [if_pos (c := 2 < k) h] at hG
    conv => whnf
    refine pk_le k 3 (fun h2 => ?_) (fun h2 => ?_)
    · rw [if_neg (c := 3 < k) (by omega)] at hG
      conv => whnf
      refine ⟨(nI k, 1, 1, 1, 0, S), rfl, rfl, trivial, ?_⟩
      rintro _ _ ⟨rfl, rfl⟩
      conv => whnf
      exact hG _ _ ⟨rfl, rfl⟩
    · rw [if_pos (c := 3 < k) h2] at hG
      conv => whnf
      refine ⟨(nI k, 1, 1, 1, 1, S), rfl, rfl, trivial, ?_⟩
      rintro _ _ ⟨rfl, rfl⟩
      conv => whnf
      exact hG _ _ ⟨rfl, rfl⟩
theorem ct_X5_becomeEven (D : va_G) (dT : Nat → Nat) (l : Launch) : en_CT en_WD D vwCl dT l yX5_becomeEven cX5_becomeEven 2 (none) rm_X5_becomeEven f_X5_becomeEven := en_met en_WD1 en_WD2 (by decide) rfl rfl (tB_X5_becomeEven D dT l) (en_f_ln (fun _ => Nat.le_of_ble_eq_true rfl)) (en_f_bd bd_X5_becomeEven)
set_option maxRecDepth 100000 in
theorem mk_X5_becomeEven {D : va_G} {dT : Nat → Nat} {l : Launch} {R : Room} {s : State} {args : Array Value} {own : String} {idx : Nat} (h : en_WD s) (h1 : rm_X5_becomeEven.frames + 1 ≤ R.frames) (h2 : 8 + (2 + 11) + rm_X5_becomeEven.locals ≤ R.locals) (hl : (Jvm.Cond.methodLink own idx yX5_becomeEven).before args s = true ∨ ∃ host, (Jvm.Cond.methodLinkNest own idx yX5_becomeEven host).before args s = true) : en_mok en_WD D vwCl dT l R s args own (idx, 2, 7, 0, 0, f_X5_becomeEven) :=
  ⟨yX5_becomeEven, cX5_becomeEven, 2, none, rm_X5_becomeEven, 1, ct_X5_becomeEven D dT l, rfl, rfl, h1, h2, en_wd h 431 rfl rfl args, en_wd h 61 (by decide +kernel) rfl args, by decide, by decide, hl, ⟨RX5, TX5, 5, rfl, en_wd h 429 (by decide +kernel) rfl args, en_wd h 430 (by decide +kernel) rfl args, rfl⟩⟩
/-- what folds plan -/
def PLF (S : Sx) (k n : Nat) (z : Int64) : Nat → Int32 := (fst (fun l r => S.2.2.1 3 r = nI l) k n z (S.2.2.1 16) (S.2.2.1 15) 5).2.2.1
/-- what nested folds plan -/
def PLG (S : Sx) (k n : Nat) (z : Int64) (o : Int32) : Nat → Int32 := (fst (fun l r => S.2.2.1 3 r = nI l ∧ S.2.2.1 5 r ≠ -1 ∧ S.2.2.1 5 r ≠ o) k n (z + o.toInt64) (S.2.2.1 16) (mx n (fun _ => -1) (S.2.2.1 15)) 5).2.2.1
/-- the world, the rows in new parts, other weights -/
def ansW (v : Option Value) (w : List va_E) (x : Int32) (S : Sx) (k : Nat) (f : Nat → Int32) : Prop := v = some (.int x) ∧ ∃ S', w = wX S' ∧ dat (xa (evx S k) 5 f) S'
def f_X6_folds := en_f (σ := Int32 × Int64 × Nat × Sx) (fun x => [.ref 0, .int x.1, .long x.2.1]) (fun x => wX x.2.2.2) (fun x => x.2.2.1 ≤ 100 ∧ x.2.2.2.1 1 = nI x.2.2.1) (fun x v w => (¬ (2 ≤ x.1 ∧ x.1 ≤ 4) ∧ ansD v w (-2) x.2.2.2) ∨ ((2 ≤ x.1 ∧ x.1 ≤ 4) ∧ ansW v w (nI (ct (fun l => 0 < cpl (mx x.2.2.1 (PLF x.2.2.2 (tn x.1) x.2.2.1 x.2.1) (x.2.2.2.2.2.1 5)) (x.2.2.2.2.2.1 3) x.2.2.1 (nI l) ∧ cpl (mx x.2.2.1 (PLF x.2.2.2 (tn x.1) x.2.2.1 x.2.1) (x.2.2.2.2.2.1 5)) (x.2.2.2.2.2.1 3) x.2.2.1 (nI l) < tn x.1) 5)) x.2.2.2 (tn x.1) (mx x.2.2.1 (PLF x.2.2.2 (tn x.1) x.2.2.1 x.2.1) (x.2.2.2.2.2.1 5))))
def rm_X6_folds : Room := { frames := 4, cells := 0, slots := 0, locals := 93 }
def t_X6_folds : en_T := ((4, 0, 0), tb_X6_folds, fl_X6, cn_X6, [(116, 1, 0, 0, 0, f_X6_isFolds), (119, 2, 7, 0, 0, f_X5_becomeEven), (122, 2, 5, 0, 0, f_X3_planFolds), (109, 1, 5, 0, 0, f_X3_settle), (126, 2, 4, 0, 0, f_X2_countPlacedLabelsBelow)], [], 0, some .int)
set_option maxRecDepth 100000 in
theorem tB_X6_folds (D : va_G) (dT : Nat → Nat) (l : Launch) : en_TB en_WD D vwCl dT l rm_X6_folds t_X6_folds RX6 "folds" cX6_folds := ⟨tk_X6_folds, fun s args meth h hn => ⟨fo_X6 h args meth, co_X6 h args, List.forall_mem_cons.mpr ⟨mk_X6_isFolds (own := RX6) h (Nat.le_of_ble_eq_true rfl) (Nat.le_of_ble_eq_true rfl) (Or.inl (en_wd h 425 (by decide +kernel) rfl args)), List.forall_mem_cons.mpr ⟨mk_X5_becomeEven (own := RX6) h (Nat.le_of_ble_eq_true rfl) (Nat.le_of_ble_eq_true rfl) (Or.inl (en_wd h 428 (by decide +kernel) rfl args)), List.forall_mem_cons.mpr ⟨mk_X3_planFolds (own := RX6) h (Nat.le_of_ble_eq_true rfl) (Nat.le_of_ble_eq_true rfl) (Or.inl (en_wd h 433 (by decide +kernel) rfl args)), List.forall_mem_cons.mpr ⟨mk_X3_settle (own := RX6) h (Nat.le_of_ble_eq_true rfl) (Nat.le_of_ble_eq_true rfl) (Or.inl (en_wd h 409 (by decide +kernel) rfl args)), List.forall_mem_cons.mpr ⟨mk_X2_countPlacedLabelsBelow (own := RX6) h (Nat.le_of_ble_eq_true rfl) (Nat.le_of_ble_eq_true rfl) (Or.inl (en_wd h 441 (by decide +kernel) rfl args)), fun _ h => absurd h List.not_mem_nil⟩⟩⟩⟩⟩, fun _ h => absurd h List.not_mem_nil, Or.inl rfl, en_arr h args⟩⟩
set_option maxHeartbeats 4000000 in
set_option maxRecDepth 100000 in
theorem bd_X6_folds : en_B (σ := Int32 × Int64 × Nat × Sx) t_X6_folds (fun x => [.ref 0, .int x.1, .long x.2.1]) (fun x => wX x.2.2.2) (fun x => x.2.2.1 ≤ 100 ∧ x.2.2.2.1 1 = nI x.2.2.1) (fun x v w => (¬ (2 ≤ x.1 ∧ x.1 ≤ 4) ∧ ansD v w (-2) x.2.2.2) ∨ ((2 ≤ x.1 ∧ x.1 ≤ 4) ∧ ansW v w (nI (ct (fun l => 0 < cpl (mx x.2.2.1 (PLF x.2.2.2 (tn x.1) x.2.2.1 x.2.1) (x.2.2.2.2.2.1 5)) (x.2.2.2.2.2.1 3) x.2.2.1 (nI l) ∧ cpl (mx x.2.2.1 (PLF x.2.2.2 (tn x.1) x.2.2.1 x.2.1) (x.2.2.2.2.2.1 5)) (x.2.2.2.2.2.1 3) x.2.2.1 (nI l) < tn x.1) 5)) x.2.2.2 (tn x.1) (mx x.2.2.1 (PLF x.2.2.2 (tn x.1) x.2.2.1 x.2.1) (x.2.2.2.2.2.1 5)))) := by
  rintro ⟨kk, z, n, S⟩ ⟨hn, h1⟩ G hG OK ⟨run, sub⟩
  dsimp only at hn h1 hG ⊢
  refine run [] 60 _ _ _ _ _ _ ?_
  conv => whnf
  refine ⟨(kk, wX S), rfl, rfl, trivial, ?_⟩
  rintro _ _ ⟨rfl, rfl⟩
  conv => whnf
  refine bl_br2 (fun c1 => ?_) (fun c1 => ?_)
  rotate_left
  · conv => whnf
    exact hG _ _ (Or.inl ⟨c1, rfl, S, rfl, dat_rf S⟩)
  obtain ⟨k, hk4, rfl⟩ := le_of (b := 4) (by decide) ⟨Int32.le_trans (by decide) c1.1, c1.2⟩
  have hk2 : 2 ≤ k := (nI_leI (by decide) (by omega)).mp c1.1
  rw [show tn (nI k) = k from nI_clamp (by omega)] at hG
  conv => whnf
  refine ⟨(k, S), rfl, rfl, ⟨hk2, hk4⟩, ?_⟩
  intro v u hvu
  obtain ⟨rfl, rfl⟩ : v = none ∧ u = wX (evx S k) := hvu
  conv => whnf
  refine ⟨(z, k, n, evx S k), rfl, rfl, ⟨by dsimp only; omega, hk4, rfl, hn, h1⟩, ?_⟩
  rintro v u ⟨hv0, S', hu, hS', h15⟩
  obtain rfl : v = none := hv0
  subst hu
  have h15 : S'.2.2.1 15 = PLF S k n z := h15
  have hS' : kept (evx S k) S' := hS'
  generalize PLF S k n z = F at h15 hG
  have h1' : S'.1 1 = nI n := (kept1 hS').trans h1
  have h3' : S'.2.2.1 3 = S.2.2.1 3 := keptA hS' (by decide)
  conv => whnf
  refine ⟨(n, S'), rfl, rfl, ⟨hn, h1'⟩, ?_⟩
  intro v u hvu
  obtain ⟨rfl, rfl⟩ : v = none ∧ u = wX (xa S' 5 (mx n F (S.2.2.1 5))) := by
    rw [← h15, show S.2.2.1 5 = S'.2.2.1 5 from (keptA hS' (a := 5) (by decide)).symm]; exact hvu
  conv => whnf
  refine ⟨(n, k, xa S' 5 (mx n F (S.2.2.1 5))), rfl, rfl, ⟨hn, h1', hk4⟩, ?_⟩
  intro v u hvu
  obtain ⟨rfl, rfl⟩ : v = some (.int (nI (ct (fun l => 0 < cpl (mx n F (S.2.2.1 5)) (S.2.2.1 3) n (nI l) ∧ cpl (mx n F (S.2.2.1 5)) (S.2.2.1 3) n (nI l) < k) 5))) ∧ u = wX (xa S' 5 (mx n F (S.2.2.1 5))) := by rw [← h3']; exact hvu
  conv => whnf
  refine hG _ _ (Or.inr ⟨c1, rfl, _, rfl, ?_⟩)
  have d := dat_k hS'
  exact ⟨d.1, ⟨d.2.1.1, d.2.1.2.1, d.2.1.2.2.1, rfl, d.2.1.2.2.2.2.1, d.2.1.2.2.2.2.2.1, d.2.1.2.2.2.2.2.2.1, d.2.1.2.2.2.2.2.2.2⟩, d.2.2⟩
theorem ct_X6_folds (D : va_G) (dT : Nat → Nat) (l : Launch) : en_CT en_WD D vwCl dT l yX6_folds cX6_folds 4 (some .int) rm_X6_folds f_X6_folds := en_met en_WD1 en_WD2 (by decide) rfl rfl (tB_X6_folds D dT l) (en_f_ln (fun _ => Nat.le_of_ble_eq_true rfl)) (en_f_bd bd_X6_folds)
set_option maxRecDepth 100000 in
theorem mk_X6_folds {D : va_G} {dT : Nat → Nat} {l : Launch} {R : Room} {s : State} {args : Array Value} {own : String} {idx : Nat} (h : en_WD s) (h1 : rm_X6_folds.frames + 1 ≤ R.frames) (h2 : 8 + (4 + 11) + rm_X6_folds.locals ≤ R.locals) (hl : (Jvm.Cond.methodLink own idx yX6_folds).before args s = true ∨ ∃ host, (Jvm.Cond.methodLinkNest own idx yX6_folds host).before args s = true) : en_mok en_WD D vwCl dT l R s args own (idx, 3, 8, 0, 0, f_X6_folds) :=
  ⟨yX6_folds, cX6_folds, 4, some .int, rm_X6_folds, 2, ct_X6_folds D dT l, rfl, rfl, h1, h2, en_wd h 424 rfl rfl args, en_wd h 59 (by decide +kernel) rfl args, by decide, by decide, hl, ⟨RX6, TX6, 6, rfl, en_wd h 422 (by decide +kernel) rfl args, en_wd h 423 (by decide +kernel) rfl args, rfl⟩⟩
abbrev nesq (o k : Int32) : Prop := (0 ≤ o ∧ o < 4) ∧ (2 ≤ k ∧ k ≤ 4)
def f_X6_nested := en_f (σ := Int32 × Int32 × Int64 × Nat × Sx) (fun x => [.ref 0, .int x.1, .int x.2.1, .long x.2.2.1]) (fun x => wX x.2.2.2.2) (fun x => x.2.2.2.1 ≤ 100 ∧ x.2.2.2.2.1 1 = nI x.2.2.2.1) (fun x v w => (¬ nesq x.1 x.2.1 ∧ ansD v w (-2) x.2.2.2.2) ∨ (nesq x.1 x.2.1 ∧ cin (x.2.2.2.2.2.2.1 5) (x.2.2.2.2.2.2.1 3) x.2.2.2.1 x.1 (-1) = 0 ∧ ansD v w (-4) x.2.2.2.2) ∨ (nesq x.1 x.2.1 ∧ cin (x.2.2.2.2.2.2.1 5) (x.2.2.2.2.2.2.1 3) x.2.2.2.1 x.1 (-1) ≠ 0 ∧ ansW v w (nI (ct (fun r => PLG x.2.2.2.2 (tn x.2.1) x.2.2.2.1 x.2.2.1 x.1 r ≠ -1) x.2.2.2.1)) x.2.2.2.2 (tn x.2.1) (mx x.2.2.2.1 (PLG x.2.2.2.2 (tn x.2.1) x.2.2.2.1 x.2.2.1 x.1) (x.2.2.2.2.2.2.1 5))))
def rm_X6_nested : Room := { frames := 4, cells := 0, slots := 0, locals := 94 }
def t_X6_nested : en_T := ((5, 0, 0), tb_X6_nested, fl_X6, cn_X6, [(52, 2, 0, 0, 0, f_X6_isWithin), (116, 1, 0, 0, 0, f_X6_isFolds), (130, 3, 4, 0, 0, f_X2_countIn), (119, 2, 7, 0, 0, f_X5_becomeEven), (134, 3, 5, 0, 0, f_X3_planNested), (109, 1, 5, 0, 0, f_X3_settle), (112, 1, 4, 0, 0, f_X2_countPlaced)], [], 0, some .int)
set_option maxRecDepth 100000 in
theorem tB_X6_nested (D : va_G) (dT : Nat → Nat) (l : Launch) : en_TB en_WD D vwCl dT l rm_X6_nested t_X6_nested RX6 "nested" cX6_nested := ⟨tk_X6_nested, fun s args meth h hn => ⟨fo_X6 h args meth, co_X6 h args, List.forall_mem_cons.mpr ⟨mk_X6_isWithin (own := RX6) h (Nat.le_of_ble_eq_true rfl) (Nat.le_of_ble_eq_true rfl) (Or.inl (en_wd h 267 (by decide +kernel) rfl args)), List.forall_mem_cons.mpr ⟨mk_X6_isFolds (own := RX6) h (Nat.le_of_ble_eq_true rfl) (Nat.le_of_ble_eq_true rfl) (Or.inl (en_wd h 425 (by decide +kernel) rfl args)), List.forall_mem_cons.mpr ⟨mk_X2_countIn (own := RX6) h (Nat.le_of_ble_eq_true rfl) (Nat.le_of_ble_eq_true rfl) (Or.inl (en_wd h 457 (by decide +kernel) rfl args)), List.forall_mem_cons.mpr ⟨mk_X5_becomeEven (own := RX6) h (Nat.le_of_ble_eq_true rfl) (Nat.le_of_ble_eq_true rfl) (Or.inl (en_wd h 428 (by decide +kernel) rfl args)), List.forall_mem_cons.mpr ⟨mk_X3_planNested (own := RX6) h (Nat.le_of_ble_eq_true rfl) (Nat.le_of_ble_eq_true rfl) (Or.inl (en_wd h 458 (by decide +kernel) rfl args)), List.forall_mem_cons.mpr ⟨mk_X3_settle (own := RX6) h (Nat.le_of_ble_eq_true rfl) (Nat.le_of_ble_eq_true rfl) (Or.inl (en_wd h 409 (by decide +kernel) rfl args)), List.forall_mem_cons.mpr ⟨mk_X2_countPlaced (own := RX6) h (Nat.le_of_ble_eq_true rfl) (Nat.le_of_ble_eq_true rfl) (Or.inl (en_wd h 413 (by decide +kernel) rfl args)), fun _ h => absurd h List.not_mem_nil⟩⟩⟩⟩⟩⟩⟩, fun _ h => absurd h List.not_mem_nil, Or.inl rfl, en_arr h args⟩⟩
set_option maxHeartbeats 4000000 in
set_option maxRecDepth 100000 in
theorem bd_X6_nested : en_B (σ := Int32 × Int32 × Int64 × Nat × Sx) t_X6_nested (fun x => [.ref 0, .int x.1, .int x.2.1, .long x.2.2.1]) (fun x => wX x.2.2.2.2) (fun x => x.2.2.2.1 ≤ 100 ∧ x.2.2.2.2.1 1 = nI x.2.2.2.1) (fun x v w => (¬ nesq x.1 x.2.1 ∧ ansD v w (-2) x.2.2.2.2) ∨ (nesq x.1 x.2.1 ∧ cin (x.2.2.2.2.2.2.1 5) (x.2.2.2.2.2.2.1 3) x.2.2.2.1 x.1 (-1) = 0 ∧ ansD v w (-4) x.2.2.2.2) ∨ (nesq x.1 x.2.1 ∧ cin (x.2.2.2.2.2.2.1 5) (x.2.2.2.2.2.2.1 3) x.2.2.2.1 x.1 (-1) ≠ 0 ∧ ansW v w (nI (ct (fun r => PLG x.2.2.2.2 (tn x.2.1) x.2.2.2.1 x.2.2.1 x.1 r ≠ -1) x.2.2.2.1)) x.2.2.2.2 (tn x.2.1) (mx x.2.2.2.1 (PLG x.2.2.2.2 (tn x.2.1) x.2.2.2.1 x.2.2.1 x.1) (x.2.2.2.2.2.2.1 5)))) := by
  rintro ⟨o, kk, z, n, S⟩ ⟨hn, h1⟩ G hG OK ⟨run, sub⟩
  dsimp only at hn h1 hG ⊢
  refine run [] 60 _ _ _ _ _ _ ?_
  conv => whnf
  refine ⟨(o, 4, wX S), rfl, rfl, trivial, ?_⟩
  rintro _ _ ⟨rfl, rfl⟩
  conv => whnf
  refine bl_br (fun c1 => ?_) (fun c1 => ?_)
  · conv => whnf
    exact hG _ _ (Or.inl ⟨fun z => c1 z.1, rfl, S, rfl, dat_rf S⟩)
  conv => whnf
  refine ⟨(kk, wX S), rfl, rfl, trivial, ?_⟩
  rintro _ _ ⟨rfl, rfl⟩
  conv => whnf
  refine bl_br2 (fun c2 => ?_) (fun c2 => ?_)
  rotate_left
  · conv => whnf
    exact hG _ _ (Or.inl ⟨fun z => c2 z.2, rfl, S, rfl, dat_rf S⟩)
  conv => whnf
  refine ⟨(n, o, -1, S), rfl, rfl, ⟨hn, h1⟩, ?_⟩
  intro v u hvu
  obtain ⟨rfl, rfl⟩ : v = some (.int (nI (cin (S.2.2.1 5) (S.2.2.1 3) n o (-1)))) ∧ u = wX S := hvu
  have hcl : cin (S.2.2.1 5) (S.2.2.1 3) n o (-1) ≤ n := ct_le _ n
  have hc0 : nI (cin (S.2.2.1 5) (S.2.2.1 3) n o (-1)) = 0 ↔ cin (S.2.2.1 5) (S.2.2.1 3) n o (-1) = 0 := nI_eq (b := 0) (by omega) (by decide)
  conv => whnf
  refine ⟨fun c3 => ?_, fun c3 => ?_⟩
  rotate_left
  · conv => whnf
    exact hG _ _ (Or.inr (Or.inl ⟨⟨c1, c2⟩, hc0.mp c3, rfl, S, rfl, dat_rf S⟩))
  have c3 : cin (S.2.2.1 5) (S.2.2.1 3) n o (-1) ≠ 0 := fun z => c3 (hc0.mpr z)
  obtain ⟨k, hk4, rfl⟩ := le_of (b := 4) (by decide) ⟨Int32.le_trans (by decide) c2.1, c2.2⟩
  have hk2 : 2 ≤ k := (nI_leI (by decide) (by omega)).mp c2.1
  rw [show tn (nI k) = k from nI_clamp (by omega)] at hG
  conv => whnf
  refine ⟨(k, S), rfl, rfl, ⟨hk2, hk4⟩, ?_⟩
  intro v u hvu
  obtain ⟨rfl, rfl⟩ : v = none ∧ u = wX (evx S k) := hvu
  conv => whnf
  refine ⟨(o, z, k, n, evx S k), rfl, rfl, ⟨by dsimp only; omega, hk4, rfl, hn, h1⟩, ?_⟩
  rintro v u ⟨hv0, S', hu, hS', h15⟩
  obtain rfl : v = none := hv0
  subst hu
  have h15 : S'.2.2.1 15 = PLG S k n z o := h15
  have hS' : kept (evx S k) S' := hS'
  generalize PLG S k n z o = F at h15 hG
  have h1' : S'.1 1 = nI n := (kept1 hS').trans h1
  conv => whnf
  refine ⟨(n, S'), rfl, rfl, ⟨hn, h1'⟩, ?_⟩
  intro v u hvu
  obtain ⟨rfl, rfl⟩ : v = none ∧ u = wX (xa S' 5 (mx n F (S.2.2.1 5))) := by
    rw [← h15, show S.2.2.1 5 = S'.2.2.1 5 from (keptA hS' (a := 5) (by decide)).symm]; exact hvu
  conv => whnf
  refine ⟨(n, xa S' 5 (mx n F (S.2.2.1 5))), rfl, rfl, ⟨hn, h1'⟩, ?_⟩
  intro v u hvu
  obtain ⟨rfl, rfl⟩ : v = some (.int (nI (ct (fun r => mx n F (S.2.2.1 5) r ≠ -1) n))) ∧ u = wX (xa S' 5 (mx n F (S.2.2.1 5))) := hvu
  conv => whnf
  refine hG _ _ (Or.inr (Or.inr ⟨⟨c1, c2⟩, c3, ?_, _, rfl, ?_⟩))
  · rw [ct_c (q := fun r => F r ≠ -1) (fun i hi => by rw [mx_lt hi])]
  · have d := dat_k hS'
    exact ⟨d.1, ⟨d.2.1.1, d.2.1.2.1, d.2.1.2.2.1, rfl, d.2.1.2.2.2.2.1, d.2.1.2.2.2.2.2.1, d.2.1.2.2.2.2.2.2.1, d.2.1.2.2.2.2.2.2.2⟩, d.2.2⟩
theorem ct_X6_nested (D : va_G) (dT : Nat → Nat) (l : Launch) : en_CT en_WD D vwCl dT l yX6_nested cX6_nested 5 (some .int) rm_X6_nested f_X6_nested := en_met en_WD1 en_WD2 (by decide) rfl rfl (tB_X6_nested D dT l) (en_f_ln (fun _ => Nat.le_of_ble_eq_true rfl)) (en_f_bd bd_X6_nested)
set_option maxRecDepth 100000 in
theorem mk_X6_nested {D : va_G} {dT : Nat → Nat} {l : Launch} {R : Room} {s : State} {args : Array Value} {own : String} {idx : Nat} (h : en_WD s) (h1 : rm_X6_nested.frames + 1 ≤ R.frames) (h2 : 8 + (5 + 11) + rm_X6_nested.locals ≤ R.locals) (hl : (Jvm.Cond.methodLink own idx yX6_nested).before args s = true ∨ ∃ host, (Jvm.Cond.methodLinkNest own idx yX6_nested host).before args s = true) : en_mok en_WD D vwCl dT l R s args own (idx, 4, 8, 0, 0, f_X6_nested) :=
  ⟨yX6_nested, cX6_nested, 5, some .int, rm_X6_nested, 3, ct_X6_nested D dT l, rfl, rfl, h1, h2, en_wd h 456 rfl rfl args, en_wd h 59 (by decide +kernel) rfl args, by decide, by decide, hl, ⟨RX6, TX6, 6, rfl, en_wd h 454 (by decide +kernel) rfl args, en_wd h 455 (by decide +kernel) rfl args, rfl⟩⟩
