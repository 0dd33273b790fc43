/-! SplitLeaks: the public methods, first half -/
def f_X6_isWeight := en_f (σ := Int32 × List va_E) (fun x => [.int x.1]) (fun x => x.2) (fun _ => True) (fun x v w => v = some (.int (bl (0 ≤ x.1 ∧ x.1 < 1001))) ∧ w = x.2)
def rm_X6_isWeight : Room := { frames := 1, cells := 0, slots := 0, locals := 21 }
def t_X6_isWeight : en_T := ((1, 0, 0), tb_X6_isWeight, fl_X6, cn_X6, [(52, 2, 0, 0, 0, f_X6_isWithin)], [], 0, some .boolean)
set_option maxRecDepth 100000 in
theorem tB_X6_isWeight (D : va_G) (dT : Nat → Nat) (l : Launch) : en_TB en_WD D vwCl dT l rm_X6_isWeight t_X6_isWeight RX6 "isWeight" cX6_isWeight := ⟨tk_X6_isWeight, fun s args meth h hn => ⟨fo_X6 h args meth, co_X6 h args, List.forall_mem_cons.mpr ⟨mk_X6_isWithin (own := RX6) h (Nat.le_of_ble_eq_true rfl) (Nat.le_of_ble_eq_true rfl) (Or.inl (en_wd h 267 (by decide +kernel) rfl args)), fun _ h => absurd h List.not_mem_nil⟩, fun _ h => absurd h List.not_mem_nil, Or.inl rfl, en_arr h args⟩⟩
set_option maxHeartbeats 4000000 in
set_option maxRecDepth 100000 in
theorem bd_X6_isWeight : en_B (σ := Int32 × List va_E) t_X6_isWeight (fun x => [.int x.1]) (fun x => x.2) (fun _ => True) (fun x v w => v = some (.int (bl (0 ≤ x.1 ∧ x.1 < 1001))) ∧ w = x.2) := by
  rintro ⟨x, ws⟩ - G hG OK ⟨run, sub⟩
  dsimp only at hG ⊢
  refine run [] 20 _ _ _ _ _ _ ?_
  conv => whnf
  refine ⟨(x, 1001, ws), rfl, rfl, trivial, ?_⟩
  rintro _ _ ⟨rfl, rfl⟩
  conv => whnf
  exact ⟨bl_b, hG _ _ ⟨rfl, rfl⟩⟩
theorem ct_X6_isWeight (D : va_G) (dT : Nat → Nat) (l : Launch) : en_CT en_WD D vwCl dT l yX6_isWeight cX6_isWeight 1 (some .boolean) rm_X6_isWeight f_X6_isWeight := en_met en_WD1 en_WD2 (by decide) rfl rfl (tB_X6_isWeight D dT l) (en_f_ln (fun _ => Nat.le_of_ble_eq_true rfl)) (en_f_bd bd_X6_isWeight)
set_option maxRecDepth 100000 in
theorem mk_X6_isWeight {D : va_G} {dT : Nat → Nat} {l : Launch} {R : Room} {s : State} {args : Array Value} {own : String} {idx : Nat} (h : en_WD s) (h1 : rm_X6_isWeight.frames + 1 ≤ R.frames) (h2 : 8 + (1 + 11) + rm_X6_isWeight.locals ≤ R.locals) (hl : (Jvm.Cond.methodLink own idx yX6_isWeight).before args s = true ∨ ∃ host, (Jvm.Cond.methodLinkNest own idx yX6_isWeight host).before args s = true) : en_mok en_WD D vwCl dT l R s args own (idx, 1, 0, 0, 0, f_X6_isWeight) :=
  ⟨yX6_isWeight, cX6_isWeight, 1, some .boolean, rm_X6_isWeight, 1, ct_X6_isWeight D dT l, rfl, rfl, h1, h2, en_wd h 301 rfl rfl args, en_wd h 59 (by decide +kernel) rfl args, by decide, by decide, hl, ⟨en_wd h 300 (by decide +kernel) rfl args, rfl⟩⟩
abbrev splq (kd g : Int32) : Prop := (0 ≤ kd ∧ kd ≤ 3) ∧ (0 ≤ g ∧ g < 100001)
def f_X6_isSplit := en_f (σ := Int32 × Int32 × List va_E) (fun x => [.int x.1, .int x.2.1]) (fun x => x.2.2) (fun _ => True) (fun x v w => v = some (.int (bl (splq x.1 x.2.1))) ∧ w = x.2.2)
def rm_X6_isSplit : Room := { frames := 1, cells := 0, slots := 0, locals := 21 }
def t_X6_isSplit : en_T := ((2, 0, 0), tb_X6_isSplit, fl_X6, cn_X6, [(52, 2, 0, 0, 0, f_X6_isWithin)], [], 0, some .boolean)
set_option maxRecDepth 100000 in
theorem tB_X6_isSplit (D : va_G) (dT : Nat → Nat) (l : Launch) : en_TB en_WD D vwCl dT l rm_X6_isSplit t_X6_isSplit RX6 "isSplit" cX6_isSplit := ⟨tk_X6_isSplit, fun s args meth h hn => ⟨fo_X6 h args meth, co_X6 h args, List.forall_mem_cons.mpr ⟨mk_X6_isWithin (own := RX6) h (Nat.le_of_ble_eq_true rfl) (Nat.le_of_ble_eq_true rfl) (Or.inl (en_wd h 267 (by decide +kernel) rfl args)), fun _ h => absurd h List.not_mem_nil⟩, fun _ h => absurd h List.not_mem_nil, Or.inl rfl, en_arr h args⟩⟩
set_option maxHeartbeats 4000000 in
set_option maxRecDepth 100000 in
theorem bd_X6_isSplit : en_B (σ := Int32 × Int32 × List va_E) t_X6_isSplit (fun x => [.int x.1, .int x.2.1]) (fun x => x.2.2) (fun _ => True) (fun x v w => v = some (.int (bl (splq x.1 x.2.1))) ∧ w = x.2.2) := by
  rintro ⟨kd, g, ws⟩ - G hG OK ⟨run, sub⟩
  dsimp only at hG ⊢
  refine run [] 40 _ _ _ _ _ _ ?_
  conv => whnf
  refine ⟨fun h => ?_, fun h => ?_⟩
  · conv => whnf
    exact ⟨rfl, hG _ _ ⟨bl_af (fun z => absurd h (Int32.not_lt.mpr z.1.1)) rfl, rfl⟩⟩
  · conv => whnf
    refine ⟨fun h2 => ?_, fun h2 => ?_⟩
    · conv => whnf
      exact ⟨rfl, hG _ _ ⟨bl_af (fun z => absurd h2 (Int32.not_lt.mpr z.1.2)) rfl, rfl⟩⟩
    · conv => whnf
      refine ⟨(g, 100001, ws), rfl, rfl, trivial, ?_⟩
      rintro _ _ ⟨rfl, rfl⟩
      conv => whnf
      refine bl_br (fun h3 => ?_) (fun h3 => ?_)
      · conv => whnf
        exact ⟨rfl, hG _ _ ⟨bl_af (fun z => h3 z.2) rfl, rfl⟩⟩
      · conv => whnf
        exact ⟨rfl, hG _ _ ⟨bl_at ⟨⟨Int32.not_lt.mp h, Int32.not_lt.mp h2⟩, h3⟩ rfl, rfl⟩⟩
theorem ct_X6_isSplit (D : va_G) (dT : Nat → Nat) (l : Launch) : en_CT en_WD D vwCl dT l yX6_isSplit cX6_isSplit 2 (some .boolean) rm_X6_isSplit f_X6_isSplit := en_met en_WD1 en_WD2 (by decide) rfl rfl (tB_X6_isSplit D dT l) (en_f_ln (fun _ => Nat.le_of_ble_eq_true rfl)) (en_f_bd bd_X6_isSplit)
set_option maxRecDepth 100000 in
theorem mk_X6_isSplit {D : va_G} {dT : Nat → Nat} {l : Launch} {R : Room} {s : State} {args : Array Value} {own : String} {idx : Nat} (h : en_WD s) (h1 : rm_X6_isSplit.frames + 1 ≤ R.frames) (h2 : 8 + (2 + 11) + rm_X6_isSplit.locals ≤ R.locals) (hl : (Jvm.Cond.methodLink own idx yX6_isSplit).before args s = true ∨ ∃ host, (Jvm.Cond.methodLinkNest own idx yX6_isSplit host).before args s = true) : en_mok en_WD D vwCl dT l R s args own (idx, 2, 0, 0, 0, f_X6_isSplit) :=
  ⟨yX6_isSplit, cX6_isSplit, 2, some .boolean, rm_X6_isSplit, 2, ct_X6_isSplit D dT l, rfl, rfl, h1, h2, en_wd h 324 rfl rfl args, en_wd h 59 (by decide +kernel) rfl args, by decide, by decide, hl, ⟨en_wd h 323 (by decide +kernel) rfl args, rfl⟩⟩
def f_X6_isFolds := en_f (σ := Int32 × List va_E) (fun x => [.int x.1]) (fun x => x.2) (fun _ => True) (fun x v w => v = some (.int (bl (2 ≤ x.1 ∧ x.1 ≤ 4))) ∧ w = x.2)
def rm_X6_isFolds : Room := { frames := 0, cells := 0, slots := 0, locals := 0 }
def t_X6_isFolds : en_T := ((1, 0, 0), tb_X6_isFolds, fl_X6, cn_X6, [], [], 0, some .boolean)
set_option maxRecDepth 100000 in
theorem tB_X6_isFolds (D : va_G) (dT : Nat → Nat) (l : Launch) : en_TB en_WD D vwCl dT l rm_X6_isFolds t_X6_isFolds RX6 "isFolds" cX6_isFolds := ⟨tk_X6_isFolds, fun s args meth h hn => ⟨fo_X6 h args meth, co_X6 h args, fun _ h => absurd h List.not_mem_nil, fun _ h => absurd h List.not_mem_nil, Or.inl rfl, en_arr h args⟩⟩
set_option maxHeartbeats 4000000 in
set_option maxRecDepth 100000 in
theorem bd_X6_isFolds : en_B (σ := Int32 × List va_E) t_X6_isFolds (fun x => [.int x.1]) (fun x => x.2) (fun _ => True) (fun x v w => v = some (.int (bl (2 ≤ x.1 ∧ x.1 ≤ 4))) ∧ w = x.2) := by
  rintro ⟨kd, ws⟩ - G hG OK ⟨run, sub⟩
  dsimp only at hG ⊢
  refine run [] 40 _ _ _ _ _ _ ?_
  conv => whnf
  refine ⟨fun h => ?_, fun h => ?_⟩
  · conv => whnf
    exact ⟨rfl, hG _ _ ⟨bl_af (fun z => absurd h (Int32.not_lt.mpr z.1)) rfl, rfl⟩⟩
  · conv => whnf
    refine ⟨fun h2 => ?_, fun h2 => ?_⟩
    · conv => whnf
      exact ⟨rfl, hG _ _ ⟨bl_af (fun z => absurd h2 (Int32.not_lt.mpr z.2)) rfl, rfl⟩⟩
    · conv => whnf
      exact ⟨rfl, hG _ _ ⟨bl_at ⟨Int32.not_lt.mp h, Int32.not_lt.mp h2⟩ rfl, rfl⟩⟩
theorem ct_X6_isFolds (D : va_G) (dT : Nat → Nat) (l : Launch) : en_CT en_WD D vwCl dT l yX6_isFolds cX6_isFolds 1 (some .boolean) rm_X6_isFolds f_X6_isFolds := en_met en_WD1 en_WD2 (by decide) rfl rfl (tB_X6_isFolds D dT l) (en_f_ln (fun _ => Nat.le_of_ble_eq_true rfl)) (en_f_bd bd_X6_isFolds)
set_option maxRecDepth 100000 in
theorem mk_X6_isFolds {D : va_G} {dT : Nat → Nat} {l : Launch} {R : Room} {s : State} {args : Array Value} {own : String} {idx : Nat} (h : en_WD s) (h1 : rm_X6_isFolds.frames + 1 ≤ R.frames) (h2 : 8 + (1 + 11) + rm_X6_isFolds.locals ≤ R.locals) (hl : (Jvm.Cond.methodLink own idx yX6_isFolds).before args s = true ∨ ∃ host, (Jvm.Cond.methodLinkNest own idx yX6_isFolds host).before args s = true) : en_mok en_WD D vwCl dT l R s args own (idx, 1, 0, 0, 0, f_X6_isFolds) :=
  ⟨yX6_isFolds, cX6_isFolds, 1, some .boolean, rm_X6_isFolds, 1, ct_X6_isFolds D dT l, rfl, rfl, h1, h2, en_wd h 427 rfl rfl args, en_wd h 59 (by decide +kernel) rfl args, by decide, by decide, hl, ⟨en_wd h 426 (by decide +kernel) rfl args, rfl⟩⟩
def f_X6_isLeakKind := en_f (σ := Int32 × List va_E) (fun x => [.int x.1]) (fun x => x.2) (fun _ => True) (fun x v w => v = some (.int (bl (0 ≤ x.1 ∧ x.1 ≤ 5))) ∧ w = x.2)
def rm_X6_isLeakKind : Room := { frames := 0, cells := 0, slots := 0, locals := 0 }
def t_X6_isLeakKind : en_T := ((1, 0, 0), tb_X6_isLeakKind, fl_X6, cn_X6, [], [], 0, some .boolean)
set_option maxRecDepth 100000 in
theorem tB_X6_isLeakKind (D : va_G) (dT : Nat → Nat) (l : Launch) : en_TB en_WD D vwCl dT l rm_X6_isLeakKind t_X6_isLeakKind RX6 "isLeakKind" cX6_isLeakKind := ⟨tk_X6_isLeakKind, fun s args meth h hn => ⟨fo_X6 h args meth, co_X6 h args, fun _ h => absurd h List.not_mem_nil, fun _ h => absurd h List.not_mem_nil, Or.inl rfl, en_arr h args⟩⟩
set_option maxHeartbeats 4000000 in
set_option maxRecDepth 100000 in
theorem bd_X6_isLeakKind : en_B (σ := Int32 × List va_E) t_X6_isLeakKind (fun x => [.int x.1]) (fun x => x.2) (fun _ => True) (fun x v w => v = some (.int (bl (0 ≤ x.1 ∧ x.1 ≤ 5))) ∧ w = x.2) := by
  rintro ⟨kd, ws⟩ - G hG OK ⟨run, sub⟩
  dsimp only at hG ⊢
  refine run [] 40 _ _ _ _ _ _ ?_
  conv => whnf
  refine ⟨fun h => ?_, fun h => ?_⟩
  · conv => whnf
    exact ⟨rfl, hG _ _ ⟨bl_af (fun z => absurd h (Int32.not_lt.mpr z.1)) rfl, rfl⟩⟩
  · conv => whnf
    refine ⟨fun h2 => ?_, fun h2 => ?_⟩
    · conv => whnf
      exact ⟨rfl, hG _ _ ⟨bl_af (fun z => absurd h2 (Int32.not_lt.mpr z.2)) rfl, rfl⟩⟩
    · conv => whnf
      exact ⟨rfl, hG _ _ ⟨bl_at ⟨Int32.not_lt.mp h, Int32.not_lt.mp h2⟩ rfl, rfl⟩⟩
theorem ct_X6_isLeakKind (D : va_G) (dT : Nat → Nat) (l : Launch) : en_CT en_WD D vwCl dT l yX6_isLeakKind cX6_isLeakKind 1 (some .boolean) rm_X6_isLeakKind f_X6_isLeakKind := en_met en_WD1 en_WD2 (by decide) rfl rfl (tB_X6_isLeakKind D dT l) (en_f_ln (fun _ => Nat.le_of_ble_eq_true rfl)) (en_f_bd bd_X6_isLeakKind)
set_option maxRecDepth 100000 in
theorem mk_X6_isLeakKind {D : va_G} {dT : Nat → Nat} {l : Launch} {R : Room} {s : State} {args : Array Value} {own : String} {idx : Nat} (h : en_WD s) (h1 : rm_X6_isLeakKind.frames + 1 ≤ R.frames) (h2 : 8 + (1 + 11) + rm_X6_isLeakKind.locals ≤ R.locals) (hl : (Jvm.Cond.methodLink own idx yX6_isLeakKind).before args s = true ∨ ∃ host, (Jvm.Cond.methodLinkNest own idx yX6_isLeakKind host).before args s = true) : en_mok en_WD D vwCl dT l R s args own (idx, 1, 0, 0, 0, f_X6_isLeakKind) :=
  ⟨yX6_isLeakKind, cX6_isLeakKind, 1, some .boolean, rm_X6_isLeakKind, 1, ct_X6_isLeakKind D dT l, rfl, rfl, h1, h2, en_wd h 510 rfl rfl args, en_wd h 59 (by decide +kernel) rfl args, by decide, by decide, hl, ⟨en_wd h 509 (by decide +kernel) rfl args, rfl⟩⟩
/-- what the class's world keeps -/
def okx (S : Sx) (n : Nat) (w : Nat → Nat) (W k : Nat) : Prop := n ≤ 100 ∧ S.1 1 = nI n ∧ wgt S w W k ∧ zb (S.2.2.1 22) ∧ byok (S.2.2.1 20)
abbrev rowq (g l t : Int32) : Prop := (0 ≤ g ∧ g < 30) ∧ (0 ≤ l ∧ l < 5) ∧ (0 ≤ t ∧ t < 100001)
def apx (S : Sx) (n : Nat) (g l t : Int32) : Sx := xi (xa (xa (xa (xa S 2 (upd (S.2.2.1 2) n g)) 3 (upd (S.2.2.1 3) n l)) 4 (upd (S.2.2.1 4) n t)) 5 (upd (S.2.2.1 5) n (-1))) 1 (nI (n + 1))
/-- an answer by cases: the one that is so -/
def ans (v : Option Value) (w : List va_E) (x : Int32) (S : Sx) : Prop := v = some (.int x) ∧ w = wX S
def f_X6_row := en_f (σ := Int32 × Int32 × Int32 × Nat × Sx) (fun x => [.ref 0, .int x.1, .int x.2.1, .int x.2.2.1]) (fun x => wX x.2.2.2.2) (fun x => x.2.2.2.1 ≤ 100 ∧ x.2.2.2.2.1 1 = nI x.2.2.2.1) (fun x v w => (¬ rowq x.1 x.2.1 x.2.2.1 ∧ ans v w (-2) x.2.2.2.2) ∨ (rowq x.1 x.2.1 x.2.2.1 ∧ x.2.2.2.1 = 100 ∧ ans v w (-3) x.2.2.2.2) ∨ (rowq x.1 x.2.1 x.2.2.1 ∧ x.2.2.2.1 < 100 ∧ ans v w (nI x.2.2.2.1) (apx x.2.2.2.2 x.2.2.2.1 x.1 x.2.1 x.2.2.1)))
def rm_X6_row : Room := { frames := 1, cells := 0, slots := 0, locals := 24 }
def t_X6_row : en_T := ((4, 0, 0), tb_X6_row, fl_X6, cn_X6, [(52, 2, 0, 0, 0, f_X6_isWithin), (60, 4, 4, 0, 0, f_X2_append)], [], 0, some .int)
set_option maxRecDepth 100000 in
theorem tB_X6_row (D : va_G) (dT : Nat → Nat) (l : Launch) : en_TB en_WD D vwCl dT l rm_X6_row t_X6_row RX6 "row" cX6_row := ⟨tk_X6_row, fun s args meth h hn => ⟨fo_X6 h args meth, co_X6 h args, List.forall_mem_cons.mpr ⟨mk_X6_isWithin (own := RX6) h (Nat.le_of_ble_eq_true rfl) (Nat.le_of_ble_eq_true rfl) (Or.inl (en_wd h 267 (by decide +kernel) rfl args)), List.forall_mem_cons.mpr ⟨mk_X2_append (own := RX6) h (Nat.le_of_ble_eq_true rfl) (Nat.le_of_ble_eq_true rfl) (Or.inl (en_wd h 271 (by decide +kernel) rfl args)), fun _ h => absurd h List.not_mem_nil⟩⟩, fun _ h => absurd h List.not_mem_nil, Or.inl rfl, en_arr h args⟩⟩
set_option maxHeartbeats 4000000 in
set_option maxRecDepth 100000 in
theorem bd_X6_row : en_B (σ := Int32 × Int32 × Int32 × Nat × Sx) t_X6_row (fun x => [.ref 0, .int x.1, .int x.2.1, .int x.2.2.1]) (fun x => wX x.2.2.2.2) (fun x => x.2.2.2.1 ≤ 100 ∧ x.2.2.2.2.1 1 = nI x.2.2.2.1) (fun x v w => (¬ rowq x.1 x.2.1 x.2.2.1 ∧ ans v w (-2) x.2.2.2.2) ∨ (rowq x.1 x.2.1 x.2.2.1 ∧ x.2.2.2.1 = 100 ∧ ans v w (-3) x.2.2.2.2) ∨ (rowq x.1 x.2.1 x.2.2.1 ∧ x.2.2.2.1 < 100 ∧ ans v w (nI x.2.2.2.1) (apx x.2.2.2.2 x.2.2.2.1 x.1 x.2.1 x.2.2.1))) := by
  rintro ⟨g, l, t, n, S⟩ ⟨hn, h1⟩ G hG OK ⟨run, sub⟩
  dsimp only at hn h1 hG ⊢
  refine run [] 60 _ _ _ _ _ _ ?_
  conv => whnf
  refine ⟨(g, 30, wX S), rfl, rfl, trivial, ?_⟩
  rintro _ _ ⟨rfl, rfl⟩
  conv => whnf
  refine bl_br (fun c1 => ?_) (fun c1 => ?_)
  · conv => whnf
    exact hG _ _ (Or.inl ⟨fun z => c1 z.1, rfl, rfl⟩)
  conv => whnf
  refine ⟨(l, 5, wX S), rfl, rfl, trivial, ?_⟩
  rintro _ _ ⟨rfl, rfl⟩
  conv => whnf
  refine bl_br (fun c2 => ?_) (fun c2 => ?_)
  · conv => whnf
    exact hG _ _ (Or.inl ⟨fun z => c2 z.2.1, rfl, rfl⟩)
  conv => whnf
  refine ⟨(t, 100001, wX S), rfl, rfl, trivial, ?_⟩
  rintro _ _ ⟨rfl, rfl⟩
  conv => whnf
  refine bl_br2 (fun c3 => ?_) (fun c3 => ?_)
  rotate_left
  · conv => whnf
    exact hG _ _ (Or.inl ⟨fun z => c3 z.2.2, rfl, rfl⟩)
  conv => whnf
  refine pk_lt n 100 (fun h => ?_) (fun h => ?_) h1
  · conv => whnf
    refine ⟨(n, g, l, t, S), rfl, rfl, ⟨h, h1⟩, ?_⟩
    rintro _ _ ⟨rfl, rfl⟩
    conv => whnf
    exact hG _ _ (Or.inr (Or.inr ⟨⟨c1, c2, c3⟩, h, rfl, rfl⟩))
  · conv => whnf
    exact hG _ _ (Or.inr (Or.inl ⟨⟨c1, c2, c3⟩, by omega, rfl, rfl⟩))
theorem ct_X6_row (D : va_G) (dT : Nat → Nat) (l : Launch) : en_CT en_WD D vwCl dT l yX6_row cX6_row 4 (some .int) rm_X6_row f_X6_row := en_met en_WD1 en_WD2 (by decide) rfl rfl (tB_X6_row D dT l) (en_f_ln (fun _ => Nat.le_of_ble_eq_true rfl)) (en_f_bd bd_X6_row)
set_option maxRecDepth 100000 in
theorem mk_X6_row {D : va_G} {dT : Nat → Nat} {l : Launch} {R : Room} {s : State} {args : Array Value} {own : String} {idx : Nat} (h : en_WD s) (h1 : rm_X6_row.frames + 1 ≤ R.frames) (h2 : 8 + (4 + 11) + rm_X6_row.locals ≤ R.locals) (hl : (Jvm.Cond.methodLink own idx yX6_row).before args s = true ∨ ∃ host, (Jvm.Cond.methodLinkNest own idx yX6_row host).before args s = true) : en_mok en_WD D vwCl dT l R s args own (idx, 4, 8, 0, 0, f_X6_row) :=
  ⟨yX6_row, cX6_row, 4, some .int, rm_X6_row, 3, ct_X6_row D dT l, rfl, rfl, h1, h2, en_wd h 266 rfl rfl args, en_wd h 59 (by decide +kernel) rfl args, by decide, by decide, hl, ⟨RX6, TX6, 6, rfl, en_wd h 264 (by decide +kernel) rfl args, en_wd h 265 (by decide +kernel) rfl args, rfl⟩⟩
abbrev inr_ (x : Int32) (n : Nat) : Prop := 0 ≤ x ∧ x < nI n
def f_X6_column := en_f (σ := Int32 × Int32 × Int64 × Nat × Sx) (fun x => [.ref 0, .int x.1, .int x.2.1, .long x.2.2.1]) (fun x => wX x.2.2.2.2) (fun x => x.2.2.2.1 ≤ 100 ∧ x.2.2.2.2.1 1 = nI x.2.2.2.1) (fun x v w => (¬ (inr_ x.1 x.2.2.2.1 ∧ inr_ x.2.1 3) ∧ ans v w (-2) x.2.2.2.2) ∨ ((inr_ x.1 x.2.2.2.1 ∧ inr_ x.2.1 3) ∧ ans v w 1 (xl x.2.2.2.2 6 (vp_updL (x.2.2.2.2.2.2.2 6) (tn x.1 * 3 + tn x.2.1) x.2.2.1))))
def rm_X6_column : Room := { frames := 2, cells := 0, slots := 0, locals := 42 }
def t_X6_column : en_T := ((5, 0, 0), tb_X6_column, fl_X6, cn_X6, [(64, 2, 4, 0, 0, f_X2_has), (52, 2, 0, 0, 0, f_X6_isWithin)], [], 0, some .int)
set_option maxRecDepth 100000 in
theorem tB_X6_column (D : va_G) (dT : Nat → Nat) (l : Launch) : en_TB en_WD D vwCl dT l rm_X6_column t_X6_column RX6 "column" cX6_column := ⟨tk_X6_column, fun s args meth h hn => ⟨fo_X6 h args meth, co_X6 h args, List.forall_mem_cons.mpr ⟨mk_X2_has (own := RX6) h (Nat.le_of_ble_eq_true rfl) (Nat.le_of_ble_eq_true rfl) (Or.inl (en_wd h 279 (by decide +kernel) rfl args)), List.forall_mem_cons.mpr ⟨mk_X6_isWithin (own := RX6) h (Nat.le_of_ble_eq_true rfl) (Nat.le_of_ble_eq_true rfl) (Or.inl (en_wd h 267 (by decide +kernel) rfl args)), fun _ h => absurd h List.not_mem_nil⟩⟩, fun _ h => absurd h List.not_mem_nil, Or.inl rfl, en_arr h args⟩⟩
set_option maxHeartbeats 4000000 in
set_option maxRecDepth 100000 in
theorem bd_X6_column : en_B (σ := Int32 × Int32 × Int64 × Nat × Sx) t_X6_column (fun x => [.ref 0, .int x.1, .int x.2.1, .long x.2.2.1]) (fun x => wX x.2.2.2.2) (fun x => x.2.2.2.1 ≤ 100 ∧ x.2.2.2.2.1 1 = nI x.2.2.2.1) (fun x v w => (¬ (inr_ x.1 x.2.2.2.1 ∧ inr_ x.2.1 3) ∧ ans v w (-2) x.2.2.2.2) ∨ ((inr_ x.1 x.2.2.2.1 ∧ inr_ x.2.1 3) ∧ ans v w 1 (xl x.2.2.2.2 6 (vp_updL (x.2.2.2.2.2.2.2 6) (tn x.1 * 3 + tn x.2.1) x.2.2.1)))) := by
  rintro ⟨r, c, y, n, S⟩ ⟨hn, h1⟩ G hG OK ⟨run, sub⟩
  dsimp only at hn h1 hG ⊢
  refine run [] 60 _ _ _ _ _ _ ?_
  conv => whnf
  refine ⟨(r, S), rfl, rfl, trivial, ?_⟩
  intro v u hvu
  obtain ⟨rfl, rfl⟩ : v = some (.int (bl (inr_ r n))) ∧ u = wX S := by unfold inr_; rw [← h1]; exact hvu
  conv => whnf
  refine bl_br (fun c1 => ?_) (fun c1 => ?_)
  · conv => whnf
    exact hG _ _ (Or.inl ⟨fun z => c1 z.1, rfl, rfl⟩)
  conv => whnf
  refine ⟨(c, 3, wX S), rfl, rfl, trivial, ?_⟩
  intro v u hvu
  obtain ⟨rfl, rfl⟩ : v = some (.int (bl (inr_ c 3))) ∧ u = wX S := hvu
  conv => whnf
  refine bl_br2 (fun c2 => ?_) (fun c2 => ?_)
  rotate_left
  · conv => whnf
    exact hG _ _ (Or.inl ⟨fun z => c2 z.2, rfl, rfl⟩)
  obtain ⟨i, hi, rfl⟩ := in_of (by omega) c1
  obtain ⟨j, hj, rfl⟩ := in_of (by decide) c2
  conv => whnf
  rw [mul3]
  refine ⟨vp_in_nI (by omega) (by decide), ?_⟩
  rw [nI_clamp (by omega)]
  conv => whnf
  refine hG _ _ (Or.inr ⟨⟨c1, c2⟩, rfl, ?_⟩)
  rw [show tn (nI i) = i from nI_clamp (by omega), show tn (nI j) = j from nI_clamp (by omega)]
  rfl
theorem ct_X6_column (D : va_G) (dT : Nat → Nat) (l : Launch) : en_CT en_WD D vwCl dT l yX6_column cX6_column 5 (some .int) rm_X6_column f_X6_column := en_met en_WD1 en_WD2 (by decide) rfl rfl (tB_X6_column D dT l) (en_f_ln (fun _ => Nat.le_of_ble_eq_true rfl)) (en_f_bd bd_X6_column)
set_option maxRecDepth 100000 in
theorem mk_X6_column {D : va_G} {dT : Nat → Nat} {l : Launch} {R : Room} {s : State} {args : Array Value} {own : String} {idx : Nat} (h : en_WD s) (h1 : rm_X6_column.frames + 1 ≤ R.frames) (h2 : 8 + (5 + 11) + rm_X6_column.locals ≤ R.locals) (hl : (Jvm.Cond.methodLink own idx yX6_column).before args s = true ∨ ∃ host, (Jvm.Cond.methodLinkNest own idx yX6_column host).before args s = true) : en_mok en_WD D vwCl dT l R s args own (idx, 4, 8, 0, 0, f_X6_column) :=
  ⟨yX6_column, cX6_column, 5, some .int, rm_X6_column, 3, ct_X6_column D dT l, rfl, rfl, h1, h2, en_wd h 278 rfl rfl args, en_wd h 59 (by decide +kernel) rfl args, by decide, by decide, hl, ⟨RX6, TX6, 6, rfl, en_wd h 276 (by decide +kernel) rfl args, en_wd h 277 (by decide +kernel) rfl args, rfl⟩⟩
/-- words with one that comes or goes -/
def nwd (x : Int64) (wd c : Int32) : Int64 := if c = 0 then x &&& ((1 <<< (wd.toInt64 &&& 63)) ^^^ (-1)) else x ||| (1 <<< (wd.toInt64 &&& 63))
def f_X6_word := en_f (σ := Int32 × Int32 × Int32 × Nat × Sx) (fun x => [.ref 0, .int x.1, .int x.2.1, .int x.2.2.1]) (fun x => wX x.2.2.2.2) (fun x => x.2.2.2.1 ≤ 100 ∧ x.2.2.2.2.1 1 = nI x.2.2.2.1) (fun x v w => (¬ (inr_ x.1 x.2.2.2.1 ∧ inr_ x.2.1 64) ∧ ans v w (-2) x.2.2.2.2) ∨ ((inr_ x.1 x.2.2.2.1 ∧ inr_ x.2.1 64) ∧ ans v w (pcr (nwd (x.2.2.2.2.2.2.2 7 (tn x.1)) x.2.1 x.2.2.1)) (xl x.2.2.2.2 7 (vp_updL (x.2.2.2.2.2.2.2 7) (tn x.1) (nwd (x.2.2.2.2.2.2.2 7 (tn x.1)) x.2.1 x.2.2.1)))))
def rm_X6_word : Room := { frames := 2, cells := 0, slots := 0, locals := 42 }
def t_X6_word : en_T := ((6, 0, 0), tb_X6_word, fl_X6, cn_X6, [(64, 2, 4, 0, 0, f_X2_has), (52, 2, 0, 0, 0, f_X6_isWithin), (77, 1, 0, 0, 0, f_JL_bitCount)], [], 0, some .int)
set_option maxRecDepth 100000 in
theorem tB_X6_word (D : va_G) (dT : Nat → Nat) (l : Launch) : en_TB en_WD D vwCl dT l rm_X6_word t_X6_word RX6 "word" cX6_word := ⟨tk_X6_word, fun s args meth h hn => ⟨fo_X6 h args meth, co_X6 h args, List.forall_mem_cons.mpr ⟨mk_X2_has (own := RX6) h (Nat.le_of_ble_eq_true rfl) (Nat.le_of_ble_eq_true rfl) (Or.inl (en_wd h 279 (by decide +kernel) rfl args)), List.forall_mem_cons.mpr ⟨mk_X6_isWithin (own := RX6) h (Nat.le_of_ble_eq_true rfl) (Nat.le_of_ble_eq_true rfl) (Or.inl (en_wd h 267 (by decide +kernel) rfl args)), List.forall_mem_cons.mpr ⟨mk_JL_bitCount (own := RX6) h (Nat.le_of_ble_eq_true rfl) (Nat.le_of_ble_eq_true rfl) (Or.inl (en_wd h 289 (by decide +kernel) rfl args)), fun _ h => absurd h List.not_mem_nil⟩⟩⟩, fun _ h => absurd h List.not_mem_nil, Or.inl rfl, en_arr h args⟩⟩
set_option maxHeartbeats 4000000 in
set_option maxRecDepth 100000 in
theorem bd_X6_word : en_B (σ := Int32 × Int32 × Int32 × Nat × Sx) t_X6_word (fun x => [.ref 0, .int x.1, .int x.2.1, .int x.2.2.1]) (fun x => wX x.2.2.2.2) (fun x => x.2.2.2.1 ≤ 100 ∧ x.2.2.2.2.1 1 = nI x.2.2.2.1) (fun x v w => (¬ (inr_ x.1 x.2.2.2.1 ∧ inr_ x.2.1 64) ∧ ans v w (-2) x.2.2.2.2) ∨ ((inr_ x.1 x.2.2.2.1 ∧ inr_ x.2.1 64) ∧ ans v w (pcr (nwd (x.2.2.2.2.2.2.2 7 (tn x.1)) x.2.1 x.2.2.1)) (xl x.2.2.2.2 7 (vp_updL (x.2.2.2.2.2.2.2 7) (tn x.1) (nwd (x.2.2.2.2.2.2.2 7 (tn x.1)) x.2.1 x.2.2.1))))) := by
  rintro ⟨r, c, y, n, S⟩ ⟨hn, h1⟩ G hG OK ⟨run, sub⟩
  dsimp only at hn h1 hG ⊢
  refine run [] 80 _ _ _ _ _ _ ?_
  conv => whnf
  refine ⟨(r, S), rfl, rfl, trivial, ?_⟩
  intro v u hvu
  obtain ⟨rfl, rfl⟩ : v = some (.int (bl (inr_ r n))) ∧ u = wX S := by unfold inr_; rw [← h1]; exact hvu
  conv => whnf
  refine bl_br (fun c1 => ?_) (fun c1 => ?_)
  · conv => whnf
    exact hG _ _ (Or.inl ⟨fun z => c1 z.1, rfl, rfl⟩)
  conv => whnf
  refine ⟨(c, 64, wX S), rfl, rfl, trivial, ?_⟩
  intro v u hvu
  obtain ⟨rfl, rfl⟩ : v = some (.int (bl (inr_ c 64))) ∧ u = wX S := hvu
  conv => whnf
  refine bl_br2 (fun c2 => ?_) (fun c2 => ?_)
  rotate_left
  · conv => whnf
    exact hG _ _ (Or.inl ⟨fun z => c2 z.2, rfl, rfl⟩)
  obtain ⟨i, hi, rfl⟩ := in_of (by omega) c1
  have hti : tn (nI i) = i := nI_clamp (by omega)
  rw [hti] at hG
  unfold nwd at hG
  conv => whnf
  refine ⟨fun hy => ?_, fun hy => ?_⟩
  · rw [if_pos hy] at hG
    conv => whnf
    refine ⟨vp_in_nI (by omega) (by decide), ?_⟩
    rw [nI_clamp (by omega)]
    conv => whnf
    refine ⟨vp_in_nI (by omega) (by decide), ?_⟩
    conv => whnf
    refine ⟨vp_in_nI (by omega) (by decide), ?_⟩
    rw [nI_clamp (by omega)]
    conv => whnf
    refine ⟨(vp_updL (S.2.2.2 7) i (S.2.2.2 7 i &&& ((1 <<< (c.toInt64 &&& 63)) ^^^ (-1))) i, wX (xl S 7 (vp_updL (S.2.2.2 7) i (S.2.2.2 7 i &&& ((1 <<< (c.toInt64 &&& 63)) ^^^ (-1)))))), rfl, rfl, trivial, ?_⟩
    intro v u hvu
    obtain ⟨rfl, rfl⟩ : v = some (.int (pcr (S.2.2.2 7 i &&& ((1 <<< (c.toInt64 &&& 63)) ^^^ (-1))))) ∧ u = wX (xl S 7 (vp_updL (S.2.2.2 7) i (S.2.2.2 7 i &&& ((1 <<< (c.toInt64 &&& 63)) ^^^ (-1))))) := ⟨hvu.1.trans (by show some (Value.int (pcr (vp_updL _ i _ i))) = _; rw [pk_uLs]), hvu.2⟩
    conv => whnf
    exact hG _ _ (Or.inr ⟨⟨c1, c2⟩, rfl, rfl⟩)
  · rw [if_neg hy] at hG
    conv => whnf
    refine ⟨vp_in_nI (by omega) (by decide), ?_⟩
    rw [nI_clamp (by omega)]
    conv => whnf
    refine ⟨vp_in_nI (by omega) (by decide), ?_⟩
    conv => whnf
    refine ⟨vp_in_nI (by omega) (by decide), ?_⟩
    rw [nI_clamp (by omega)]
    conv => whnf
    refine ⟨(vp_updL (S.2.2.2 7) i (S.2.2.2 7 i ||| (1 <<< (c.toInt64 &&& 63))) i, wX (xl S 7 (vp_updL (S.2.2.2 7) i (S.2.2.2 7 i ||| (1 <<< (c.toInt64 &&& 63)))))), rfl, rfl, trivial, ?_⟩
    intro v u hvu
    obtain ⟨rfl, rfl⟩ : v = some (.int (pcr (S.2.2.2 7 i ||| (1 <<< (c.toInt64 &&& 63))))) ∧ u = wX (xl S 7 (vp_updL (S.2.2.2 7) i (S.2.2.2 7 i ||| (1 <<< (c.toInt64 &&& 63))))) := ⟨hvu.1.trans (by show some (Value.int (pcr (vp_updL _ i _ i))) = _; rw [pk_uLs]), hvu.2⟩
    conv => whnf
    exact hG _ _ (Or.inr ⟨⟨c1, c2⟩, rfl, rfl⟩)
theorem ct_X6_word (D : va_G) (dT : Nat → Nat) (l : Launch) : en_CT en_WD D vwCl dT l yX6_word cX6_word 6 (some .int) rm_X6_word f_X6_word := en_met en_WD1 en_WD2 (by decide) rfl rfl (tB_X6_word D dT l) (en_f_ln (fun _ => Nat.le_of_ble_eq_true rfl)) (en_f_bd bd_X6_word)
set_option maxRecDepth 100000 in
theorem mk_X6_word {D : va_G} {dT : Nat → Nat} {l : Launch} {R : Room} {s : State} {args : Array Value} {own : String} {idx : Nat} (h : en_WD s) (h1 : rm_X6_word.frames + 1 ≤ R.frames) (h2 : 8 + (6 + 11) + rm_X6_word.locals ≤ R.locals) (hl : (Jvm.Cond.methodLink own idx yX6_word).before args s = true ∨ ∃ host, (Jvm.Cond.methodLinkNest own idx yX6_word host).before args s = true) : en_mok en_WD D vwCl dT l R s args own (idx, 4, 8, 0, 0, f_X6_word) :=
  ⟨yX6_word, cX6_word, 6, some .int, rm_X6_word, 3, ct_X6_word D dT l, rfl, rfl, h1, h2, en_wd h 287 rfl rfl args, en_wd h 59 (by decide +kernel) rfl args, by decide, by decide, hl, ⟨RX6, TX6, 6, rfl, en_wd h 285 (by decide +kernel) rfl args, en_wd h 286 (by decide +kernel) rfl args, rfl⟩⟩
