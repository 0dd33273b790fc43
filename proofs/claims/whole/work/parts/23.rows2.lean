/-! SplitLeaks$Rows: counts -/
def f_X2_areAlike := en_f (σ := Nat × Nat × Sx) (fun x => [.ref 1, .int (nI x.1), .int (nI x.2.1)]) (fun x => wX x.2.2) (fun x => x.1 < 100 ∧ x.2.1 < 100) (fun x v w => v = some (.int (bl (alike (x.2.2.2.2.2 6) (x.2.2.2.2.2 7) x.1 x.2.1))) ∧ w = wX x.2.2)
def rm_X2_areAlike : Room := { frames := 1, cells := 0, slots := 0, locals := 23 }
def t_X2_areAlike : en_T := ((4, 0, 0), tb_X2_areAlike, fl_X2, cn_X2, [(46, 4, 4, 0, 0, f_X2_haveSameNumber)], [], 0, some .boolean)
set_option maxRecDepth 100000 in
theorem tB_X2_areAlike (D : va_G) (dT : Nat → Nat) (l : Launch) : en_TB en_WD D vwCl dT l rm_X2_areAlike t_X2_areAlike RX2 "areAlike" cX2_areAlike := ⟨tk_X2_areAlike, fun s args meth h hn => ⟨fo_X2 h args meth, co_X2 h args, List.forall_mem_cons.mpr ⟨mk_X2_haveSameNumber (own := RX2) h (Nat.le_of_ble_eq_true rfl) (Nat.le_of_ble_eq_true rfl) (Or.inl (en_wd h 527 (by decide +kernel) rfl args)), fun _ h => absurd h List.not_mem_nil⟩, fun _ h => absurd h List.not_mem_nil, Or.inl rfl, en_arr h args⟩⟩
set_option maxHeartbeats 4000000 in
set_option maxRecDepth 100000 in
theorem bd_X2_areAlike : en_B (σ := Nat × Nat × Sx) t_X2_areAlike (fun x => [.ref 1, .int (nI x.1), .int (nI x.2.1)]) (fun x => wX x.2.2) (fun x => x.1 < 100 ∧ x.2.1 < 100) (fun x v w => v = some (.int (bl (alike (x.2.2.2.2.2 6) (x.2.2.2.2.2 7) x.1 x.2.1))) ∧ w = wX x.2.2) := by
  rintro ⟨a, b, S⟩ ⟨ha, hb⟩ G hG OK ⟨run, sub⟩
  dsimp only at ha hb hG ⊢
  refine run [] 80 _ _ _ _ _ _ ?_
  conv => whnf
  refine pk_le 3 0 (fun h => absurd h (by omega)) (fun _ => ?_)
  conv => whnf
  refine ⟨(a, b, 0, S), rfl, rfl, ⟨ha, hb, Nat.le_of_ble_eq_true rfl⟩, ?_⟩
  rintro _ _ ⟨rfl, rfl⟩
  conv => whnf
  refine bl_br2 (fun h0 => ?_) (fun h0 => ?_)
  rotate_left
  · conv => whnf
    exact ⟨rfl, hG _ _ ⟨bl_af (fun z => h0 z.1) rfl, rfl⟩⟩
  conv => whnf
  refine pk_le 3 1 (fun h => absurd h (by omega)) (fun _ => ?_)
  conv => whnf
  refine ⟨(a, b, 1, S), rfl, rfl, ⟨ha, hb, Nat.le_of_ble_eq_true rfl⟩, ?_⟩
  rintro _ _ ⟨rfl, rfl⟩
  conv => whnf
  refine bl_br2 (fun h1 => ?_) (fun h1 => ?_)
  rotate_left
  · conv => whnf
    exact ⟨rfl, hG _ _ ⟨bl_af (fun z => h1 z.2.1) rfl, rfl⟩⟩
  conv => whnf
  refine pk_le 3 2 (fun h => absurd h (by omega)) (fun _ => ?_)
  conv => whnf
  refine ⟨(a, b, 2, S), rfl, rfl, ⟨ha, hb, Nat.le_of_ble_eq_true rfl⟩, ?_⟩
  rintro _ _ ⟨rfl, rfl⟩
  conv => whnf
  refine bl_br2 (fun h2 => ?_) (fun h2 => ?_)
  rotate_left
  · conv => whnf
    exact ⟨rfl, hG _ _ ⟨bl_af (fun z => h2 z.2.2.1) rfl, rfl⟩⟩
  conv => whnf
  refine pk_le 3 3 (fun _ => ?_) (fun h => absurd h (by omega))
  conv => whnf
  refine ⟨vp_in_nI ha (by decide), ?_⟩
  rw [nI_clamp (by omega)]
  conv => whnf
  refine ⟨vp_in_nI hb (by decide), ?_⟩
  rw [nI_clamp (by omega)]
  conv => whnf
  refine lc_br2 (fun h => ?_) (fun h => ?_)
  · conv => whnf
    exact ⟨rfl, hG _ _ ⟨bl_af (fun z => h z.2.2.2) rfl, rfl⟩⟩
  · conv => whnf
    exact ⟨rfl, hG _ _ ⟨bl_at ⟨h0, h1, h2, h⟩ rfl, rfl⟩⟩
theorem ct_X2_areAlike (D : va_G) (dT : Nat → Nat) (l : Launch) : en_CT en_WD D vwCl dT l yX2_areAlike cX2_areAlike 4 (some .boolean) rm_X2_areAlike f_X2_areAlike := en_met en_WD1 en_WD2 (by decide) rfl rfl (tB_X2_areAlike D dT l) (en_f_ln (fun _ => Nat.le_of_ble_eq_true rfl)) (en_f_bd bd_X2_areAlike)
set_option maxRecDepth 100000 in
theorem mk_X2_areAlike {D : va_G} {dT : Nat → Nat} {l : Launch} {R : Room} {s : State} {args : Array Value} {own : String} {idx : Nat} (h : en_WD s) (h1 : rm_X2_areAlike.frames + 1 ≤ R.frames) (h2 : 8 + (4 + 11) + rm_X2_areAlike.locals ≤ R.locals) (hl : (Jvm.Cond.methodLink own idx yX2_areAlike).before args s = true ∨ ∃ host, (Jvm.Cond.methodLinkNest own idx yX2_areAlike host).before args s = true) : en_mok en_WD D vwCl dT l R s args own (idx, 3, 4, 0, 0, f_X2_areAlike) :=
  ⟨yX2_areAlike, cX2_areAlike, 4, some .boolean, rm_X2_areAlike, 2, ct_X2_areAlike D dT l, rfl, rfl, h1, h2, en_wd h 526 rfl rfl args, en_wd h 60 (by decide +kernel) rfl args, by decide, by decide, hl, ⟨RX2, TX2, 8, rfl, en_wd h 524 (by decide +kernel) rfl args, en_wd h 525 (by decide +kernel) rfl args, rfl⟩⟩
/-- how many rows of a label (or of all) are in a part -/
def cin (P Lb : Nat → Int32) (n : Nat) (p l : Int32) : Nat := ct (fun r => P r = p ∧ (l = -1 ∨ Lb r = l)) n
def f_X2_countIn := en_f (σ := Nat × Int32 × Int32 × Sx) (fun x => [.ref 1, .int x.2.1, .int x.2.2.1]) (fun x => wX x.2.2.2) (fun x => x.1 ≤ 100 ∧ x.2.2.2.1 1 = nI x.1) (fun x v w => v = some (.int (nI (cin (x.2.2.2.2.2.1 5) (x.2.2.2.2.2.1 3) x.1 x.2.1 x.2.2.1))) ∧ w = wX x.2.2.2)
def rm_X2_countIn : Room := { frames := 0, cells := 0, slots := 0, locals := 0 }
def t_X2_countIn : en_T := ((5, 0, 0), tb_X2_countIn, fl_X2, cn_X2, [], [], 0, some .int)
set_option maxRecDepth 100000 in
theorem tB_X2_countIn (D : va_G) (dT : Nat → Nat) (l : Launch) : en_TB en_WD D vwCl dT l rm_X2_countIn t_X2_countIn RX2 "countIn" cX2_countIn := ⟨tk_X2_countIn, fun s args meth h hn => ⟨fo_X2 h args meth, co_X2 h args, fun _ h => absurd h List.not_mem_nil, fun _ h => absurd h List.not_mem_nil, Or.inl rfl, en_arr h args⟩⟩
set_option maxHeartbeats 4000000 in
set_option maxRecDepth 100000 in
theorem bd_X2_countIn : en_B (σ := Nat × Int32 × Int32 × Sx) t_X2_countIn (fun x => [.ref 1, .int x.2.1, .int x.2.2.1]) (fun x => wX x.2.2.2) (fun x => x.1 ≤ 100 ∧ x.2.2.2.1 1 = nI x.1) (fun x v w => v = some (.int (nI (cin (x.2.2.2.2.2.1 5) (x.2.2.2.2.2.1 3) x.1 x.2.1 x.2.2.1))) ∧ w = wX x.2.2.2) := by
  rintro ⟨n, p, l, S⟩ ⟨hn, h1⟩ G hG OK ⟨run, sub⟩
  dsimp only at hn h1 hG ⊢
  obtain ⟨q, hq⟩ : ∃ q : Nat → Prop, q = fun r => S.2.2.1 5 r = p ∧ (l = -1 ∨ S.2.2.1 3 r = l) := ⟨_, rfl⟩
  have loop := lp_up (fun i => OK 0 0 5 [(0, .ref 1), (1, .int p), (2, .int l), (3, .int (nI (cin (S.2.2.1 5) (S.2.2.1 3) i p l))), (4, .int (nI i))] [] (wX S)) n
    (by
      refine run [5] 60 _ _ _ _ _ _ ?_
      conv => whnf
      rw [h1]
      refine pk_le n n (fun h => ?_) (fun h => absurd h (by omega))
      conv => whnf
      exact hG _ _ ⟨rfl, rfl⟩)
    (fun i hi ih => by
      refine run [5] 60 _ _ _ _ _ _ ?_
      conv => whnf
      rw [h1]
      refine pk_le n i (fun h => absurd h (by omega)) (fun h => ?_)
      conv => whnf
      refine ⟨vp_in_nI (by omega) (by decide), ?_⟩
      rw [nI_clamp (by omega)]
      conv => whnf
      rw [nI_succ] at ih
      unfold cin at ih
      refine ⟨fun hp => ?_, fun hp => ?_⟩
      · conv => whnf
        rw [ct_f (fun z => hp z.1)] at ih
        exact ih
      · conv => whnf
        refine ⟨fun hl => ?_, fun hl => ?_⟩
        · conv => whnf
          rw [ct_t ⟨hp, Or.inl hl⟩, nI_succ] at ih
          exact ih
        · conv => whnf
          refine ⟨vp_in_nI (by omega) (by decide), ?_⟩
          rw [nI_clamp (by omega)]
          conv => whnf
          refine ⟨fun hb => ?_, fun hb => ?_⟩
          · conv => whnf
            rw [ct_f (fun z => z.2.elim hl hb)] at ih
            exact ih
          · conv => whnf
            rw [ct_t ⟨hp, Or.inr hb⟩, nI_succ] at ih
            exact ih)
  refine run [5] 60 _ _ _ _ _ _ ?_
  conv => whnf
  exact loop 0 (by omega)
theorem ct_X2_countIn (D : va_G) (dT : Nat → Nat) (l : Launch) : en_CT en_WD D vwCl dT l yX2_countIn cX2_countIn 5 (some .int) rm_X2_countIn f_X2_countIn := en_met en_WD1 en_WD2 (by decide) rfl rfl (tB_X2_countIn D dT l) (en_f_ln (fun _ => Nat.le_of_ble_eq_true rfl)) (en_f_bd bd_X2_countIn)
set_option maxRecDepth 100000 in
theorem mk_X2_countIn {D : va_G} {dT : Nat → Nat} {l : Launch} {R : Room} {s : State} {args : Array Value} {own : String} {idx : Nat} (h : en_WD s) (h1 : rm_X2_countIn.frames + 1 ≤ R.frames) (h2 : 8 + (5 + 11) + rm_X2_countIn.locals ≤ R.locals) (hl : (Jvm.Cond.methodLink own idx yX2_countIn).before args s = true ∨ ∃ host, (Jvm.Cond.methodLinkNest own idx yX2_countIn host).before args s = true) : en_mok en_WD D vwCl dT l R s args own (idx, 3, 4, 0, 0, f_X2_countIn) :=
  ⟨yX2_countIn, cX2_countIn, 5, some .int, rm_X2_countIn, 2, ct_X2_countIn D dT l, rfl, rfl, h1, h2, en_wd h 452 rfl rfl args, en_wd h 60 (by decide +kernel) rfl args, by decide, by decide, hl, ⟨RX2, TX2, 8, rfl, en_wd h 450 (by decide +kernel) rfl args, en_wd h 451 (by decide +kernel) rfl args, rfl⟩⟩
/-- how many rows of a label are in parts -/
def cpl (P Lb : Nat → Int32) (n : Nat) (l : Int32) : Nat := cin P Lb n 0 l + cin P Lb n 1 l + cin P Lb n 2 l + cin P Lb n 3 l
def f_X2_countPlacedOfLabel := en_f (σ := Nat × Int32 × Sx) (fun x => [.ref 1, .int x.2.1]) (fun x => wX x.2.2) (fun x => x.1 ≤ 100 ∧ x.2.2.1 1 = nI x.1) (fun x v w => v = some (.int (nI (cpl (x.2.2.2.2.1 5) (x.2.2.2.2.1 3) x.1 x.2.1))) ∧ w = wX x.2.2)
def rm_X2_countPlacedOfLabel : Room := { frames := 1, cells := 0, slots := 0, locals := 24 }
def t_X2_countPlacedOfLabel : en_T := ((4, 0, 0), tb_X2_countPlacedOfLabel, fl_X2, cn_X2, [(50, 3, 4, 0, 0, f_X2_countIn)], [], 0, some .int)
set_option maxRecDepth 100000 in
theorem tB_X2_countPlacedOfLabel (D : va_G) (dT : Nat → Nat) (l : Launch) : en_TB en_WD D vwCl dT l rm_X2_countPlacedOfLabel t_X2_countPlacedOfLabel RX2 "countPlacedOfLabel" cX2_countPlacedOfLabel := ⟨tk_X2_countPlacedOfLabel, fun s args meth h hn => ⟨fo_X2 h args meth, co_X2 h args, List.forall_mem_cons.mpr ⟨mk_X2_countIn (own := RX2) h (Nat.le_of_ble_eq_true rfl) (Nat.le_of_ble_eq_true rfl) (Or.inl (en_wd h 449 (by decide +kernel) rfl args)), fun _ h => absurd h List.not_mem_nil⟩, fun _ h => absurd h List.not_mem_nil, Or.inl rfl, en_arr h args⟩⟩
set_option maxHeartbeats 4000000 in
set_option maxRecDepth 100000 in
theorem bd_X2_countPlacedOfLabel : en_B (σ := Nat × Int32 × Sx) t_X2_countPlacedOfLabel (fun x => [.ref 1, .int x.2.1]) (fun x => wX x.2.2) (fun x => x.1 ≤ 100 ∧ x.2.2.1 1 = nI x.1) (fun x v w => v = some (.int (nI (cpl (x.2.2.2.2.1 5) (x.2.2.2.2.1 3) x.1 x.2.1))) ∧ w = wX x.2.2) := by
  rintro ⟨n, l, S⟩ ⟨hn, h1⟩ G hG OK ⟨run, sub⟩
  dsimp only at hn h1 hG ⊢
  refine run [] 80 _ _ _ _ _ _ ?_
  conv => whnf
  refine pk_le 4 0 (fun h => absurd h (by omega)) (fun _ => ?_)
  conv => whnf
  refine ⟨(n, 0, l, S), rfl, rfl, ⟨hn, h1⟩, ?_⟩
  rintro _ _ ⟨rfl, rfl⟩
  conv => whnf
  refine pk_le 4 1 (fun h => absurd h (by omega)) (fun _ => ?_)
  conv => whnf
  refine ⟨(n, 1, l, S), rfl, rfl, ⟨hn, h1⟩, ?_⟩
  rintro _ _ ⟨rfl, rfl⟩
  conv => whnf
  refine pk_le 4 2 (fun h => absurd h (by omega)) (fun _ => ?_)
  conv => whnf
  refine ⟨(n, 2, l, S), rfl, rfl, ⟨hn, h1⟩, ?_⟩
  rintro _ _ ⟨rfl, rfl⟩
  conv => whnf
  refine pk_le 4 3 (fun h => absurd h (by omega)) (fun _ => ?_)
  conv => whnf
  refine ⟨(n, 3, l, S), rfl, rfl, ⟨hn, h1⟩, ?_⟩
  rintro _ _ ⟨rfl, rfl⟩
  conv => whnf
  refine pk_le 4 4 (fun _ => ?_) (fun h => absurd h (by omega))
  conv => whnf
  refine hG _ _ ⟨?_, rfl⟩
  unfold cpl
  rw [← nI_add, ← nI_add, ← nI_add]
  show some (Value.int (((Int32.ofInt 0 + _) + _ + _) + _)) = _
  rw [show Int32.ofInt 0 = nI 0 from rfl, nI_add (0 : Nat), Nat.zero_add]
theorem ct_X2_countPlacedOfLabel (D : va_G) (dT : Nat → Nat) (l : Launch) : en_CT en_WD D vwCl dT l yX2_countPlacedOfLabel cX2_countPlacedOfLabel 4 (some .int) rm_X2_countPlacedOfLabel f_X2_countPlacedOfLabel := en_met en_WD1 en_WD2 (by decide) rfl rfl (tB_X2_countPlacedOfLabel D dT l) (en_f_ln (fun _ => Nat.le_of_ble_eq_true rfl)) (en_f_bd bd_X2_countPlacedOfLabel)
set_option maxRecDepth 100000 in
theorem mk_X2_countPlacedOfLabel {D : va_G} {dT : Nat → Nat} {l : Launch} {R : Room} {s : State} {args : Array Value} {own : String} {idx : Nat} (h : en_WD s) (h1 : rm_X2_countPlacedOfLabel.frames + 1 ≤ R.frames) (h2 : 8 + (4 + 11) + rm_X2_countPlacedOfLabel.locals ≤ R.locals) (hl : (Jvm.Cond.methodLink own idx yX2_countPlacedOfLabel).before args s = true ∨ ∃ host, (Jvm.Cond.methodLinkNest own idx yX2_countPlacedOfLabel host).before args s = true) : en_mok en_WD D vwCl dT l R s args own (idx, 2, 4, 0, 0, f_X2_countPlacedOfLabel) :=
  ⟨yX2_countPlacedOfLabel, cX2_countPlacedOfLabel, 4, some .int, rm_X2_countPlacedOfLabel, 1, ct_X2_countPlacedOfLabel D dT l, rfl, rfl, h1, h2, en_wd h 448 rfl rfl args, en_wd h 60 (by decide +kernel) rfl args, by decide, by decide, hl, ⟨RX2, TX2, 8, rfl, en_wd h 446 (by decide +kernel) rfl args, en_wd h 447 (by decide +kernel) rfl args, rfl⟩⟩
