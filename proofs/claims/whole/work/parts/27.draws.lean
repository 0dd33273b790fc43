/-! SplitLeaks$Draws -/
def nz (z : Int64) : Int64 := z * 6364136223846793005 + 1442695040888963407
/-- a draw of n out of the z behind it -/
def dw (z : Int64) (n : Nat) : Nat := z.toBitVec.toNat / 2 ^ 33 % n
theorem dw_lt {z : Int64} {n : Nat} (h : 0 < n) : dw z n < n := Nat.mod_lt _ h
theorem dw_is (z : Int64) {n : Nat} (h0 : 0 < n) (hn : n < 2 ^ 31) :
    ((z.toUInt64 >>> ((Int8.ofInt 33).toInt32.toInt64.toUInt64 &&& Int64.toUInt64 63)).toInt64 - (z.toUInt64 >>> ((Int8.ofInt 33).toInt32.toInt64.toUInt64 &&& Int64.toUInt64 63)).toInt64 / (nI n).toInt64 * (nI n).toInt64).toInt32 = nI (dw z n) := by
  obtain ⟨k, hk, rfl⟩ := wb_of z
  rw [show (Int8.ofInt 33).toInt32 = nI 33 from rfl, wb_shr hk (by decide), nI_l hn]
  have h1 : k / 2 ^ 33 < 2 ^ 63 := by
    rw [Nat.div_lt_iff_lt_mul (by decide)]
    omega
  rw [pk_lRem h1 h0 (by omega), lN_i]
  unfold dw
  rw [wb_tn hk]
def f_X0_start := en_f (σ := Int64 × Sx) (fun x => [.ref 14, .long x.1]) (fun x => wX x.2) (fun _ => True) (fun x v w => v = none ∧ w = wX (xz x.2 x.1))
def rm_X0_start : Room := { frames := 0, cells := 0, slots := 0, locals := 0 }
def t_X0_start : en_T := ((3, 0, 0), tb_X0_start, fl_X0, cn_X0, [], [], 0, none)
set_option maxRecDepth 100000 in
theorem tB_X0_start (D : va_G) (dT : Nat → Nat) (l : Launch) : en_TB en_WD D vwCl dT l rm_X0_start t_X0_start RX0 "start" cX0_start := ⟨tk_X0_start, fun s args meth h hn => ⟨fo_X0 h args meth, co_X0 h args, fun _ h => absurd h List.not_mem_nil, fun _ h => absurd h List.not_mem_nil, Or.inl rfl, en_arr h args⟩⟩
set_option maxHeartbeats 4000000 in
set_option maxRecDepth 100000 in
theorem bd_X0_start : en_B (σ := Int64 × Sx) t_X0_start (fun x => [.ref 14, .long x.1]) (fun x => wX x.2) (fun _ => True) (fun x v w => v = none ∧ w = wX (xz x.2 x.1)) := by
  rintro ⟨z, S⟩ - G hG OK ⟨run, sub⟩
  dsimp only at hG ⊢
  refine run [] 60 _ _ _ _ _ _ ?_
  conv => whnf
  exact hG _ _ ⟨rfl, rfl⟩
theorem ct_X0_start (D : va_G) (dT : Nat → Nat) (l : Launch) : en_CT en_WD D vwCl dT l yX0_start cX0_start 3 (none) rm_X0_start f_X0_start := en_met en_WD1 en_WD2 (by decide) rfl rfl (tB_X0_start D dT l) (en_f_ln (fun _ => Nat.le_of_ble_eq_true rfl)) (en_f_bd bd_X0_start)
set_option maxRecDepth 100000 in
theorem mk_X0_start {D : va_G} {dT : Nat → Nat} {l : Launch} {R : Room} {s : State} {args : Array Value} {own : String} {idx : Nat} (h : en_WD s) (h1 : rm_X0_start.frames + 1 ≤ R.frames) (h2 : 8 + (3 + 11) + rm_X0_start.locals ≤ R.locals) (hl : (Jvm.Cond.methodLink own idx yX0_start).before args s = true ∨ ∃ host, (Jvm.Cond.methodLinkNest own idx yX0_start host).before args s = true) : en_mok en_WD D vwCl dT l R s args own (idx, 2, 2, 0, 0, f_X0_start) :=
  ⟨yX0_start, cX0_start, 3, none, rm_X0_start, 1, ct_X0_start D dT l, rfl, rfl, h1, h2, en_wd h 332 rfl rfl args, en_wd h 63 (by decide +kernel) rfl args, by decide, by decide, hl, ⟨RX0, TX0, 1, rfl, en_wd h 330 (by decide +kernel) rfl args, en_wd h 331 (by decide +kernel) rfl args, rfl⟩⟩
def f_X0_draw := en_f (σ := Nat × Sx) (fun x => [.ref 14, .int (nI x.1)]) (fun x => wX x.2) (fun x => 0 < x.1 ∧ x.1 < 1000) (fun x v w => v = some (.int (nI (dw (nz x.2.2.1) x.1))) ∧ w = wX (xz x.2 (nz x.2.2.1)))
def rm_X0_draw : Room := { frames := 0, cells := 0, slots := 0, locals := 0 }
def t_X0_draw : en_T := ((2, 0, 0), tb_X0_draw, fl_X0, cn_X0, [], [], 0, some .int)
set_option maxRecDepth 100000 in
theorem tB_X0_draw (D : va_G) (dT : Nat → Nat) (l : Launch) : en_TB en_WD D vwCl dT l rm_X0_draw t_X0_draw RX0 "draw" cX0_draw := ⟨tk_X0_draw, fun s args meth h hn => ⟨fo_X0 h args meth, co_X0 h args, fun _ h => absurd h List.not_mem_nil, fun _ h => absurd h List.not_mem_nil, Or.inl rfl, en_arr h args⟩⟩
set_option maxHeartbeats 4000000 in
set_option maxRecDepth 100000 in
theorem bd_X0_draw : en_B (σ := Nat × Sx) t_X0_draw (fun x => [.ref 14, .int (nI x.1)]) (fun x => wX x.2) (fun x => 0 < x.1 ∧ x.1 < 1000) (fun x v w => v = some (.int (nI (dw (nz x.2.2.1) x.1))) ∧ w = wX (xz x.2 (nz x.2.2.1))) := by
  rintro ⟨n, S⟩ ⟨h0, hn⟩ G hG OK ⟨run, sub⟩
  dsimp only at h0 hn hG ⊢
  refine run [] 60 _ _ _ _ _ _ ?_
  conv => whnf
  refine pk_le n 0 (fun h => absurd h (by omega)) (fun h => ?_)
  conv => whnf
  refine ⟨fun e => ?_, ?_⟩
  · rw [nI_l (by omega)] at e
    exact absurd ((pk_lEQ (b := 0) (by omega) (by omega)).mp e) (by omega)
  · conv => whnf
    refine hG _ _ ⟨?_, rfl⟩
    rw [← dw_is (nz S.2.1) h0 (by omega)]
    rfl
theorem ct_X0_draw (D : va_G) (dT : Nat → Nat) (l : Launch) : en_CT en_WD D vwCl dT l yX0_draw cX0_draw 2 (some .int) rm_X0_draw f_X0_draw := en_met en_WD1 en_WD2 (by decide) rfl rfl (tB_X0_draw D dT l) (en_f_ln (fun _ => Nat.le_of_ble_eq_true rfl)) (en_f_bd bd_X0_draw)
set_option maxRecDepth 100000 in
theorem mk_X0_draw {D : va_G} {dT : Nat → Nat} {l : Launch} {R : Room} {s : State} {args : Array Value} {own : String} {idx : Nat} (h : en_WD s) (h1 : rm_X0_draw.frames + 1 ≤ R.frames) (h2 : 8 + (2 + 11) + rm_X0_draw.locals ≤ R.locals) (hl : (Jvm.Cond.methodLink own idx yX0_draw).before args s = true ∨ ∃ host, (Jvm.Cond.methodLinkNest own idx yX0_draw host).before args s = true) : en_mok en_WD D vwCl dT l R s args own (idx, 2, 2, 0, 0, f_X0_draw) :=
  ⟨yX0_draw, cX0_draw, 2, some .int, rm_X0_draw, 1, ct_X0_draw D dT l, rfl, rfl, h1, h2, en_wd h 348 rfl rfl args, en_wd h 63 (by decide +kernel) rfl args, by decide, by decide, hl, ⟨RX0, TX0, 1, rfl, en_wd h 347 (by decide +kernel) rfl args, en_wd h 3 (by decide +kernel) rfl args, rfl⟩⟩
/-- a shuffling, the highest place being i -/
def shf : Nat → Int64 → (Nat → Int32) → Int64 × (Nat → Int32)
  | 0, z, f => (z, f)
  | i + 1, z, f => shf i (nz z) (upd (upd f (i + 1) (f (dw (nz z) (i + 2)))) (dw (nz z) (i + 2)) (f (i + 1)))
/-- a shuffling of m things -/
def shm (m : Nat) (z : Int64) (f : Nat → Int32) : Int64 × (Nat → Int32) := shf (m - 1) z f
def f_X0_shuffle := en_f (σ := Nat × Sx) (fun x => [.ref 14, .ref 16, .int (nI x.1)]) (fun x => wX x.2) (fun x => x.1 ≤ 100) (fun x v w => v = none ∧ w = wX (xa (xz x.2 (shm x.1 x.2.2.1 (x.2.2.2.1 16)).1) 16 (shm x.1 x.2.2.1 (x.2.2.2.1 16)).2))
def rm_X0_shuffle : Room := { frames := 1, cells := 0, slots := 0, locals := 21 }
def t_X0_shuffle : en_T := ((6, 0, 0), tb_X0_shuffle, fl_X0, cn_X0, [(13, 2, 2, 0, 0, f_X0_draw)], [], 0, none)
set_option maxRecDepth 100000 in
theorem tB_X0_shuffle (D : va_G) (dT : Nat → Nat) (l : Launch) : en_TB en_WD D vwCl dT l rm_X0_shuffle t_X0_shuffle RX0 "shuffle" cX0_shuffle := ⟨tk_X0_shuffle, fun s args meth h hn => ⟨fo_X0 h args meth, co_X0 h args, List.forall_mem_cons.mpr ⟨mk_X0_draw (own := RX0) h (Nat.le_of_ble_eq_true rfl) (Nat.le_of_ble_eq_true rfl) (Or.inl (en_wd h 345 (by decide +kernel) rfl args)), fun _ h => absurd h List.not_mem_nil⟩, fun _ h => absurd h List.not_mem_nil, Or.inl rfl, en_arr h args⟩⟩
set_option maxHeartbeats 4000000 in
set_option maxRecDepth 100000 in
theorem bd_X0_shuffle : en_B (σ := Nat × Sx) t_X0_shuffle (fun x => [.ref 14, .ref 16, .int (nI x.1)]) (fun x => wX x.2) (fun x => x.1 ≤ 100) (fun x v w => v = none ∧ w = wX (xa (xz x.2 (shm x.1 x.2.2.1 (x.2.2.2.1 16)).1) 16 (shm x.1 x.2.2.1 (x.2.2.2.1 16)).2)) := by
  rintro ⟨m, S⟩ hm G hG OK ⟨run, sub⟩
  dsimp only at hm hG ⊢
  have loop : ∀ i, i < 100 → ∀ (z : Int64) (f : Nat → Int32), shf i z f = shm m S.2.1 (S.2.2.1 16) → OK 0 0 4 [(0, .ref 14), (1, .ref 16), (2, .int (nI m)), (3, .int (nI i))] [] (wX (xa (xz S z) 16 f)) := by
    intro i
    induction i with
    | zero =>
      intro _ z f he
      refine run [4] 60 _ _ _ _ _ _ ?_
      conv => whnf
      refine pk_lt 0 1 (fun h => ?_) (fun h => absurd h (by omega))
      conv => whnf
      refine hG _ _ ⟨rfl, ?_⟩
      rw [← he]
      rfl
    | succ i ih =>
      intro hi z f he
      refine run [4] 60 _ _ _ _ _ _ ?_
      conv => whnf
      refine pk_lt (i + 1) 1 (fun h => absurd h (by omega)) (fun h => ?_)
      conv => whnf
      refine ⟨(i + 2, xa (xz S z) 16 f), (by show [Value.ref 14, Value.int (nI (i + 1) + 1)] = [Value.ref 14, Value.int (nI (i + 1 + 1))]; rw [nI_succ (i + 1)]), rfl, ⟨by dsimp only; omega, by dsimp only; omega⟩, ?_⟩
      intro v w hvw
      obtain ⟨rfl, rfl⟩ : v = some (.int (nI (dw (nz z) (i + 2)))) ∧ w = wX (xa (xz S (nz z)) 16 f) := hvw
      have hj := dw_lt (z := nz z) (n := i + 2) (by omega)
      generalize hje : dw (nz z) (i + 2) = j at hj ⊢
      conv => whnf
      refine ⟨vp_in_nI (by omega) (by decide), ?_⟩
      rw [nI_clamp (by omega)]
      conv => whnf
      refine ⟨vp_in_nI (by omega) (by decide), ?_⟩
      rw [nI_clamp (by omega)]
      conv => whnf
      refine ⟨vp_in_nI (by omega) (by decide), ?_⟩
      rw [nI_clamp (by omega)]
      conv => whnf
      refine ⟨vp_in_nI (by omega) (by decide), ?_⟩
      rw [nI_clamp (by omega)]
      conv => whnf
      have h2 := ih (by omega) (nz z) (upd (upd f (i + 1) (f j)) j (f (i + 1))) (by rw [← hje]; exact he)
      rw [← pk_m1 i] at h2
      exact sub [0, 1, 2, 3] _ _ _ _ _ _ _ rfl h2
  by_cases h0 : m = 0
  · subst h0
    refine run [] 60 _ _ _ _ _ _ ?_
    conv => whnf
    refine ⟨fun _ => ?_, fun h => absurd (show nI 0 - 1 < 1 by decide) h⟩
    conv => whnf
    exact hG _ _ ⟨rfl, rfl⟩
  · obtain ⟨q, rfl⟩ : ∃ q, m = q + 1 := ⟨m - 1, by omega⟩
    refine run [4] 60 _ _ _ _ _ _ ?_
    conv => whnf
    have h2 := loop q (by omega) S.2.1 (S.2.2.1 16) rfl
    rw [← nI_pred q] at h2
    exact h2
theorem ct_X0_shuffle (D : va_G) (dT : Nat → Nat) (l : Launch) : en_CT en_WD D vwCl dT l yX0_shuffle cX0_shuffle 6 (none) rm_X0_shuffle f_X0_shuffle := en_met en_WD1 en_WD2 (by decide) rfl rfl (tB_X0_shuffle D dT l) (en_f_ln (fun _ => Nat.le_of_ble_eq_true rfl)) (en_f_bd bd_X0_shuffle)
set_option maxRecDepth 100000 in
theorem mk_X0_shuffle {D : va_G} {dT : Nat → Nat} {l : Launch} {R : Room} {s : State} {args : Array Value} {own : String} {idx : Nat} (h : en_WD s) (h1 : rm_X0_shuffle.frames + 1 ≤ R.frames) (h2 : 8 + (6 + 11) + rm_X0_shuffle.locals ≤ R.locals) (hl : (Jvm.Cond.methodLink own idx yX0_shuffle).before args s = true ∨ ∃ host, (Jvm.Cond.methodLinkNest own idx yX0_shuffle host).before args s = true) : en_mok en_WD D vwCl dT l R s args own (idx, 3, 2, 0, 0, f_X0_shuffle) :=
  ⟨yX0_shuffle, cX0_shuffle, 6, none, rm_X0_shuffle, 2, ct_X0_shuffle D dT l, rfl, rfl, h1, h2, en_wd h 344 rfl rfl args, en_wd h 63 (by decide +kernel) rfl args, by decide, by decide, hl, ⟨RX0, TX0, 1, rfl, en_wd h 342 (by decide +kernel) rfl args, en_wd h 343 (by decide +kernel) rfl args, rfl⟩⟩
