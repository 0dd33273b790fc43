/-! SplitLeaks$Rows: what only reads -/
/-- a boolean answer, told by its branch -/
theorem bl_at {p : Prop} [Decidable p] {x : Int32} (h : p) (hx : x = 1) : some (Value.int x) = some (Value.int (bl p)) := by rw [bl_t h, hx]
theorem bl_af {p : Prop} [Decidable p] {x : Int32} (h : ¬ p) (hx : x = 0) : some (Value.int x) = some (Value.int (bl p)) := by rw [bl_f h, hx]
theorem lc_br {x y : Int64} {A B : Prop} (a : x = y → A) (b : ¬ x = y → B) : (lg_cmp x y = 0 → A) ∧ (¬ lg_cmp x y = 0 → B) := by
  rw [lg_cmp_eq]; exact ⟨a, b⟩
theorem lc_br2 {x y : Int64} {A B : Prop} (a : ¬ x = y → A) (b : x = y → B) : (¬ lg_cmp x y = 0 → A) ∧ (lg_cmp x y = 0 → B) := by
  rw [lg_cmp_eq]; exact ⟨a, b⟩
def f_X2_isPlaced := en_f (σ := Nat × Sx) (fun x => [.ref 1, .int (nI x.1)]) (fun x => wX x.2) (fun x => x.1 < 100) (fun x v w => v = some (.int (bl (x.2.2.2.1 5 x.1 ≠ -1))) ∧ w = wX x.2)
def rm_X2_isPlaced : Room := { frames := 0, cells := 0, slots := 0, locals := 0 }
def t_X2_isPlaced : en_T := ((2, 0, 0), tb_X2_isPlaced, fl_X2, cn_X2, [], [], 0, some .boolean)
set_option maxRecDepth 100000 in
theorem tB_X2_isPlaced (D : va_G) (dT : Nat → Nat) (l : Launch) : en_TB en_WD D vwCl dT l rm_X2_isPlaced t_X2_isPlaced RX2 "isPlaced" cX2_isPlaced := ⟨tk_X2_isPlaced, fun s args meth h hn => ⟨fo_X2 h args meth, co_X2 h args, fun _ h => absurd h List.not_mem_nil, fun _ h => absurd h List.not_mem_nil, Or.inl rfl, en_arr h args⟩⟩
set_option maxHeartbeats 4000000 in
set_option maxRecDepth 100000 in
theorem bd_X2_isPlaced : en_B (σ := Nat × Sx) t_X2_isPlaced (fun x => [.ref 1, .int (nI x.1)]) (fun x => wX x.2) (fun x => x.1 < 100) (fun x v w => v = some (.int (bl (x.2.2.2.1 5 x.1 ≠ -1))) ∧ w = wX x.2) := by
  rintro ⟨r, S⟩ hr G hG OK ⟨run, sub⟩
  dsimp only at hr hG ⊢
  refine run [] 20 _ _ _ _ _ _ ?_
  conv => whnf
  refine ⟨vp_in_nI hr (by decide), ?_⟩
  rw [nI_clamp (by omega)]
  conv => whnf
  refine ⟨fun h => ?_, fun h => ?_⟩
  · conv => whnf
    exact ⟨rfl, hG _ _ ⟨bl_af (fun z => z h) rfl, rfl⟩⟩
  · conv => whnf
    exact ⟨rfl, hG _ _ ⟨bl_at h rfl, rfl⟩⟩
theorem ct_X2_isPlaced (D : va_G) (dT : Nat → Nat) (l : Launch) : en_CT en_WD D vwCl dT l yX2_isPlaced cX2_isPlaced 2 (some .boolean) rm_X2_isPlaced f_X2_isPlaced := en_met en_WD1 en_WD2 (by decide) rfl rfl (tB_X2_isPlaced D dT l) (en_f_ln (fun _ => Nat.le_of_ble_eq_true rfl)) (en_f_bd bd_X2_isPlaced)
set_option maxRecDepth 100000 in
theorem mk_X2_isPlaced {D : va_G} {dT : Nat → Nat} {l : Launch} {R : Room} {s : State} {args : Array Value} {own : String} {idx : Nat} (h : en_WD s) (h1 : rm_X2_isPlaced.frames + 1 ≤ R.frames) (h2 : 8 + (2 + 11) + rm_X2_isPlaced.locals ≤ R.locals) (hl : (Jvm.Cond.methodLink own idx yX2_isPlaced).before args s = true ∨ ∃ host, (Jvm.Cond.methodLinkNest own idx yX2_isPlaced host).before args s = true) : en_mok en_WD D vwCl dT l R s args own (idx, 2, 4, 0, 0, f_X2_isPlaced) :=
  ⟨yX2_isPlaced, cX2_isPlaced, 2, some .boolean, rm_X2_isPlaced, 1, ct_X2_isPlaced D dT l, rfl, rfl, h1, h2, en_wd h 420 rfl rfl args, en_wd h 60 (by decide +kernel) rfl args, by decide, by decide, hl, ⟨RX2, TX2, 8, rfl, en_wd h 418 (by decide +kernel) rfl args, en_wd h 419 (by decide +kernel) rfl args, rfl⟩⟩
def f_X2_countPlaced := en_f (σ := Nat × Sx) (fun _ => [.ref 1]) (fun x => wX x.2) (fun x => x.1 ≤ 100 ∧ x.2.1 1 = nI x.1) (fun x v w => v = some (.int (nI (ct (fun r => x.2.2.2.1 5 r ≠ -1) x.1))) ∧ w = wX x.2)
def rm_X2_countPlaced : Room := { frames := 1, cells := 0, slots := 0, locals := 21 }
def t_X2_countPlaced : en_T := ((3, 0, 0), tb_X2_countPlaced, fl_X2, cn_X2, [(42, 2, 4, 0, 0, f_X2_isPlaced)], [], 0, some .int)
set_option maxRecDepth 100000 in
theorem tB_X2_countPlaced (D : va_G) (dT : Nat → Nat) (l : Launch) : en_TB en_WD D vwCl dT l rm_X2_countPlaced t_X2_countPlaced RX2 "countPlaced" cX2_countPlaced := ⟨tk_X2_countPlaced, fun s args meth h hn => ⟨fo_X2 h args meth, co_X2 h args, List.forall_mem_cons.mpr ⟨mk_X2_isPlaced (own := RX2) h (Nat.le_of_ble_eq_true rfl) (Nat.le_of_ble_eq_true rfl) (Or.inl (en_wd h 417 (by decide +kernel) rfl args)), fun _ h => absurd h List.not_mem_nil⟩, fun _ h => absurd h List.not_mem_nil, Or.inl rfl, en_arr h args⟩⟩
set_option maxHeartbeats 4000000 in
set_option maxRecDepth 100000 in
theorem bd_X2_countPlaced : en_B (σ := Nat × Sx) t_X2_countPlaced (fun _ => [.ref 1]) (fun x => wX x.2) (fun x => x.1 ≤ 100 ∧ x.2.1 1 = nI x.1) (fun x v w => v = some (.int (nI (ct (fun r => x.2.2.2.1 5 r ≠ -1) x.1))) ∧ w = wX x.2) := by
  rintro ⟨n, S⟩ ⟨hn, h1⟩ G hG OK ⟨run, sub⟩
  dsimp only at hn h1 hG ⊢
  have loop := lp_up (fun i => OK 0 0 4 [(0, .ref 1), (1, .int (nI (ct (fun r => S.2.2.1 5 r ≠ -1) i))), (2, .int (nI i))] [] (wX S)) n
    (by
      refine run [4] 20 _ _ _ _ _ _ ?_
      conv => whnf
      rw [h1]
      refine pk_le n n (fun h => ?_) (fun h => absurd h (by omega))
      conv => whnf
      exact hG _ _ ⟨rfl, rfl⟩)
    (fun i hi ih => by
      refine run [4] 20 _ _ _ _ _ _ ?_
      conv => whnf
      rw [h1]
      refine pk_le n i (fun h => absurd h (by omega)) (fun h => ?_)
      conv => whnf
      refine ⟨(i, S), rfl, rfl, (by dsimp only; omega), ?_⟩
      rintro _ _ ⟨rfl, rfl⟩
      conv => whnf
      rw [nI_succ] at ih
      refine bl_br (fun hp => ?_) (fun hp => ?_)
      · conv => whnf
        rw [ct_f (p := fun r => S.2.2.1 5 r ≠ -1) hp] at ih
        exact ih
      · conv => whnf
        rw [ct_t (p := fun r => S.2.2.1 5 r ≠ -1) hp, nI_succ] at ih
        exact ih)
  refine run [4] 20 _ _ _ _ _ _ ?_
  conv => whnf
  exact loop 0 (by omega)
theorem ct_X2_countPlaced (D : va_G) (dT : Nat → Nat) (l : Launch) : en_CT en_WD D vwCl dT l yX2_countPlaced cX2_countPlaced 3 (some .int) rm_X2_countPlaced f_X2_countPlaced := en_met en_WD1 en_WD2 (by decide) rfl rfl (tB_X2_countPlaced D dT l) (en_f_ln (fun _ => Nat.le_of_ble_eq_true rfl)) (en_f_bd bd_X2_countPlaced)
set_option maxRecDepth 100000 in
theorem mk_X2_countPlaced {D : va_G} {dT : Nat → Nat} {l : Launch} {R : Room} {s : State} {args : Array Value} {own : String} {idx : Nat} (h : en_WD s) (h1 : rm_X2_countPlaced.frames + 1 ≤ R.frames) (h2 : 8 + (3 + 11) + rm_X2_countPlaced.locals ≤ R.locals) (hl : (Jvm.Cond.methodLink own idx yX2_countPlaced).before args s = true ∨ ∃ host, (Jvm.Cond.methodLinkNest own idx yX2_countPlaced host).before args s = true) : en_mok en_WD D vwCl dT l R s args own (idx, 1, 4, 0, 0, f_X2_countPlaced) :=
  ⟨yX2_countPlaced, cX2_countPlaced, 3, some .int, rm_X2_countPlaced, 0, ct_X2_countPlaced D dT l, rfl, rfl, h1, h2, en_wd h 416 rfl rfl args, en_wd h 60 (by decide +kernel) rfl args, by decide, by decide, hl, ⟨RX2, TX2, 8, rfl, en_wd h 414 (by decide +kernel) rfl args, en_wd h 415 (by decide +kernel) rfl args, rfl⟩⟩
def f_X2_has := en_f (σ := Int32 × Sx) (fun x => [.ref 1, .int x.1]) (fun x => wX x.2) (fun _ => True) (fun x v w => v = some (.int (bl (0 ≤ x.1 ∧ x.1 < x.2.1 1))) ∧ w = wX x.2)
def rm_X2_has : Room := { frames := 1, cells := 0, slots := 0, locals := 21 }
def t_X2_has : en_T := ((2, 0, 0), tb_X2_has, fl_X2, cn_X2, [(38, 2, 0, 0, 0, f_X6_isWithin)], [], 0, some .boolean)
set_option maxRecDepth 100000 in
theorem tB_X2_has (D : va_G) (dT : Nat → Nat) (l : Launch) : en_TB en_WD D vwCl dT l rm_X2_has t_X2_has RX2 "has" cX2_has := ⟨tk_X2_has, fun s args meth h hn => ⟨fo_X2 h args meth, co_X2 h args, List.forall_mem_cons.mpr ⟨mk_X6_isWithin (own := RX2) h (Nat.le_of_ble_eq_true rfl) (Nat.le_of_ble_eq_true rfl) (Or.inr ⟨"SplitLeaks", en_wd h 283 (by decide +kernel) rfl args⟩), fun _ h => absurd h List.not_mem_nil⟩, fun _ h => absurd h List.not_mem_nil, Or.inl rfl, en_arr h args⟩⟩
set_option maxHeartbeats 4000000 in
set_option maxRecDepth 100000 in
theorem bd_X2_has : en_B (σ := Int32 × Sx) t_X2_has (fun x => [.ref 1, .int x.1]) (fun x => wX x.2) (fun _ => True) (fun x v w => v = some (.int (bl (0 ≤ x.1 ∧ x.1 < x.2.1 1))) ∧ w = wX x.2) := by
  rintro ⟨r, S⟩ - G hG OK ⟨run, sub⟩
  dsimp only at hG ⊢
  refine run [] 20 _ _ _ _ _ _ ?_
  conv => whnf
  refine ⟨(r, S.1 1, wX S), rfl, rfl, trivial, ?_⟩
  rintro _ _ ⟨rfl, rfl⟩
  conv => whnf
  exact ⟨bl_b, hG _ _ ⟨rfl, rfl⟩⟩
theorem ct_X2_has (D : va_G) (dT : Nat → Nat) (l : Launch) : en_CT en_WD D vwCl dT l yX2_has cX2_has 2 (some .boolean) rm_X2_has f_X2_has := en_met en_WD1 en_WD2 (by decide) rfl rfl (tB_X2_has D dT l) (en_f_ln (fun _ => Nat.le_of_ble_eq_true rfl)) (en_f_bd bd_X2_has)
set_option maxRecDepth 100000 in
theorem mk_X2_has {D : va_G} {dT : Nat → Nat} {l : Launch} {R : Room} {s : State} {args : Array Value} {own : String} {idx : Nat} (h : en_WD s) (h1 : rm_X2_has.frames + 1 ≤ R.frames) (h2 : 8 + (2 + 11) + rm_X2_has.locals ≤ R.locals) (hl : (Jvm.Cond.methodLink own idx yX2_has).before args s = true ∨ ∃ host, (Jvm.Cond.methodLinkNest own idx yX2_has host).before args s = true) : en_mok en_WD D vwCl dT l R s args own (idx, 2, 4, 0, 0, f_X2_has) :=
  ⟨yX2_has, cX2_has, 2, some .boolean, rm_X2_has, 1, ct_X2_has D dT l, rfl, rfl, h1, h2, en_wd h 282 rfl rfl args, en_wd h 60 (by decide +kernel) rfl args, by decide, by decide, hl, ⟨RX2, TX2, 8, rfl, en_wd h 280 (by decide +kernel) rfl args, en_wd h 281 (by decide +kernel) rfl args, rfl⟩⟩
def f_X2_areParted := en_f (σ := Nat × Nat × Sx) (fun x => [.ref 1, .int (nI x.1), .int (nI x.2.1)]) (fun x => wX x.2.2) (fun x => x.1 < 100 ∧ x.2.1 < 100) (fun x v w => v = some (.int (bl (x.2.2.2.2.1 5 x.1 ≠ -1 ∧ x.2.2.2.2.1 5 x.2.1 ≠ -1 ∧ x.2.2.2.2.1 5 x.1 ≠ x.2.2.2.2.1 5 x.2.1))) ∧ w = wX x.2.2)
def rm_X2_areParted : Room := { frames := 1, cells := 0, slots := 0, locals := 21 }
def t_X2_areParted : en_T := ((3, 0, 0), tb_X2_areParted, fl_X2, cn_X2, [(42, 2, 4, 0, 0, f_X2_isPlaced)], [], 0, some .boolean)
set_option maxRecDepth 100000 in
theorem tB_X2_areParted (D : va_G) (dT : Nat → Nat) (l : Launch) : en_TB en_WD D vwCl dT l rm_X2_areParted t_X2_areParted RX2 "areParted" cX2_areParted := ⟨tk_X2_areParted, fun s args meth h hn => ⟨fo_X2 h args meth, co_X2 h args, List.forall_mem_cons.mpr ⟨mk_X2_isPlaced (own := RX2) h (Nat.le_of_ble_eq_true rfl) (Nat.le_of_ble_eq_true rfl) (Or.inl (en_wd h 417 (by decide +kernel) rfl args)), fun _ h => absurd h List.not_mem_nil⟩, fun _ h => absurd h List.not_mem_nil, Or.inl rfl, en_arr h args⟩⟩
set_option maxHeartbeats 4000000 in
set_option maxRecDepth 100000 in
theorem bd_X2_areParted : en_B (σ := Nat × Nat × Sx) t_X2_areParted (fun x => [.ref 1, .int (nI x.1), .int (nI x.2.1)]) (fun x => wX x.2.2) (fun x => x.1 < 100 ∧ x.2.1 < 100) (fun x v w => v = some (.int (bl (x.2.2.2.2.1 5 x.1 ≠ -1 ∧ x.2.2.2.2.1 5 x.2.1 ≠ -1 ∧ x.2.2.2.2.1 5 x.1 ≠ x.2.2.2.2.1 5 x.2.1))) ∧ w = wX x.2.2) := by
  rintro ⟨a, b, S⟩ ⟨ha, hb⟩ G hG OK ⟨run, sub⟩
  dsimp only at ha hb hG ⊢
  refine run [] 40 _ _ _ _ _ _ ?_
  conv => whnf
  refine ⟨(a, S), rfl, rfl, ha, ?_⟩
  rintro _ _ ⟨rfl, rfl⟩
  conv => whnf
  refine bl_br (fun h1 => ?_) (fun h1 => ?_)
  · conv => whnf
    exact ⟨rfl, hG _ _ ⟨bl_af (fun z => h1 z.1) rfl, rfl⟩⟩
  · conv => whnf
    refine ⟨(b, S), rfl, rfl, hb, ?_⟩
    rintro _ _ ⟨rfl, rfl⟩
    conv => whnf
    refine bl_br (fun h2 => ?_) (fun h2 => ?_)
    · conv => whnf
      exact ⟨rfl, hG _ _ ⟨bl_af (fun z => h2 z.2.1) rfl, rfl⟩⟩
    · conv => whnf
      refine ⟨vp_in_nI ha (by decide), ?_⟩
      rw [nI_clamp (by omega)]
      conv => whnf
      refine ⟨vp_in_nI hb (by decide), ?_⟩
      rw [nI_clamp (by omega)]
      conv => whnf
      refine ⟨fun h => ?_, fun h => ?_⟩
      · conv => whnf
        exact ⟨rfl, hG _ _ ⟨bl_af (fun z => z.2.2 h) rfl, rfl⟩⟩
      · conv => whnf
        exact ⟨rfl, hG _ _ ⟨bl_at ⟨h1, h2, h⟩ rfl, rfl⟩⟩
theorem ct_X2_areParted (D : va_G) (dT : Nat → Nat) (l : Launch) : en_CT en_WD D vwCl dT l yX2_areParted cX2_areParted 3 (some .boolean) rm_X2_areParted f_X2_areParted := en_met en_WD1 en_WD2 (by decide) rfl rfl (tB_X2_areParted D dT l) (en_f_ln (fun _ => Nat.le_of_ble_eq_true rfl)) (en_f_bd bd_X2_areParted)
set_option maxRecDepth 100000 in
theorem mk_X2_areParted {D : va_G} {dT : Nat → Nat} {l : Launch} {R : Room} {s : State} {args : Array Value} {own : String} {idx : Nat} (h : en_WD s) (h1 : rm_X2_areParted.frames + 1 ≤ R.frames) (h2 : 8 + (3 + 11) + rm_X2_areParted.locals ≤ R.locals) (hl : (Jvm.Cond.methodLink own idx yX2_areParted).before args s = true ∨ ∃ host, (Jvm.Cond.methodLinkNest own idx yX2_areParted host).before args s = true) : en_mok en_WD D vwCl dT l R s args own (idx, 3, 4, 0, 0, f_X2_areParted) :=
  ⟨yX2_areParted, cX2_areParted, 3, some .boolean, rm_X2_areParted, 2, ct_X2_areParted D dT l, rfl, rfl, h1, h2, en_wd h 522 rfl rfl args, en_wd h 60 (by decide +kernel) rfl args, by decide, by decide, hl, ⟨RX2, TX2, 8, rfl, en_wd h 520 (by decide +kernel) rfl args, en_wd h 521 (by decide +kernel) rfl args, rfl⟩⟩
def f_X2_haveSameNumber := en_f (σ := Nat × Nat × Nat × Sx) (fun x => [.ref 1, .int (nI x.1), .int (nI x.2.1), .int (nI x.2.2.1)]) (fun x => wX x.2.2.2) (fun x => x.1 < 100 ∧ x.2.1 < 100 ∧ x.2.2.1 < 3) (fun x v w => v = some (.int (bl (x.2.2.2.2.2.2 6 (x.1 * 3 + x.2.2.1) = x.2.2.2.2.2.2 6 (x.2.1 * 3 + x.2.2.1)))) ∧ w = wX x.2.2.2)
def rm_X2_haveSameNumber : Room := { frames := 0, cells := 0, slots := 0, locals := 0 }
def t_X2_haveSameNumber : en_T := ((4, 0, 0), tb_X2_haveSameNumber, fl_X2, cn_X2, [], [], 0, some .boolean)
set_option maxRecDepth 100000 in
theorem tB_X2_haveSameNumber (D : va_G) (dT : Nat → Nat) (l : Launch) : en_TB en_WD D vwCl dT l rm_X2_haveSameNumber t_X2_haveSameNumber RX2 "haveSameNumber" cX2_haveSameNumber := ⟨tk_X2_haveSameNumber, fun s args meth h hn => ⟨fo_X2 h args meth, co_X2 h args, fun _ h => absurd h List.not_mem_nil, fun _ h => absurd h List.not_mem_nil, Or.inl rfl, en_arr h args⟩⟩
set_option maxHeartbeats 4000000 in
set_option maxRecDepth 100000 in
theorem bd_X2_haveSameNumber : en_B (σ := Nat × Nat × Nat × Sx) t_X2_haveSameNumber (fun x => [.ref 1, .int (nI x.1), .int (nI x.2.1), .int (nI x.2.2.1)]) (fun x => wX x.2.2.2) (fun x => x.1 < 100 ∧ x.2.1 < 100 ∧ x.2.2.1 < 3) (fun x v w => v = some (.int (bl (x.2.2.2.2.2.2 6 (x.1 * 3 + x.2.2.1) = x.2.2.2.2.2.2 6 (x.2.1 * 3 + x.2.2.1)))) ∧ w = wX x.2.2.2) := by
  rintro ⟨a, b, c, S⟩ ⟨ha, hb, hc⟩ G hG OK ⟨run, sub⟩
  dsimp only at ha hb hc hG ⊢
  refine run [] 40 _ _ _ _ _ _ ?_
  conv => whnf
  rw [mul3]
  refine ⟨vp_in_nI (by omega) (by decide), ?_⟩
  rw [nI_clamp (by omega)]
  conv => whnf
  rw [mul3]
  refine ⟨vp_in_nI (by omega) (by decide), ?_⟩
  rw [nI_clamp (by omega)]
  conv => whnf
  refine lc_br2 (fun h => ?_) (fun h => ?_)
  · conv => whnf
    exact ⟨rfl, hG _ _ ⟨bl_af h rfl, rfl⟩⟩
  · conv => whnf
    exact ⟨rfl, hG _ _ ⟨bl_at h rfl, rfl⟩⟩
theorem ct_X2_haveSameNumber (D : va_G) (dT : Nat → Nat) (l : Launch) : en_CT en_WD D vwCl dT l yX2_haveSameNumber cX2_haveSameNumber 4 (some .boolean) rm_X2_haveSameNumber f_X2_haveSameNumber := en_met en_WD1 en_WD2 (by decide) rfl rfl (tB_X2_haveSameNumber D dT l) (en_f_ln (fun _ => Nat.le_of_ble_eq_true rfl)) (en_f_bd bd_X2_haveSameNumber)
set_option maxRecDepth 100000 in
theorem mk_X2_haveSameNumber {D : va_G} {dT : Nat → Nat} {l : Launch} {R : Room} {s : State} {args : Array Value} {own : String} {idx : Nat} (h : en_WD s) (h1 : rm_X2_haveSameNumber.frames + 1 ≤ R.frames) (h2 : 8 + (4 + 11) + rm_X2_haveSameNumber.locals ≤ R.locals) (hl : (Jvm.Cond.methodLink own idx yX2_haveSameNumber).before args s = true ∨ ∃ host, (Jvm.Cond.methodLinkNest own idx yX2_haveSameNumber host).before args s = true) : en_mok en_WD D vwCl dT l R s args own (idx, 4, 4, 0, 0, f_X2_haveSameNumber) :=
  ⟨yX2_haveSameNumber, cX2_haveSameNumber, 4, some .boolean, rm_X2_haveSameNumber, 3, ct_X2_haveSameNumber D dT l, rfl, rfl, h1, h2, en_wd h 530 rfl rfl args, en_wd h 60 (by decide +kernel) rfl args, by decide, by decide, hl, ⟨RX2, TX2, 8, rfl, en_wd h 528 (by decide +kernel) rfl args, en_wd h 529 (by decide +kernel) rfl args, rfl⟩⟩
