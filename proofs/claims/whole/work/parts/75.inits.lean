/-! the constructors -/
def ob6 (a b c d e : Value) (x : Int32) : va_E := .inr (6, [a, b, c, d, e, .int x])
def obR : va_E := .inr (2, [.int 0, .ref 2, .ref 3, .ref 4, .ref 5, .ref 6, .ref 7, .ref 8])
def arI (n : Nat) : va_E := .inl (0, n, .inl (fun _ => 0))
def arL (n : Nat) : va_E := .inl (1, n, .inr (.inl (fun _ => 0)))
def rw1 (a b c d e : Value) (x : Int32) : List va_E := [ob6 a b c d e x, obR, arI 100, arI 100, arI 100, arI 100, arL 300, arL 100, arI 100]
def f_X2_init := en_f (σ := Unit) (fun _ => [.ref 1]) (fun _ => [ob6 .null .null .null .null .null 0, .inr (2, [.int 0, .null, .null, .null, .null, .null, .null, .null])]) (fun _ => True) (fun _ v w => v = none ∧ w = rw1 .null .null .null .null .null 0)
def rm_X2_init : Room := { frames := 1, cells := 7, slots := 900, locals := 20 }
def t_X2_init : en_T := ((1, 7, 900), tb_X2_init, fi_X2, cn_X2, [], [], 3, none)
set_option maxRecDepth 100000 in
theorem tB_X2_init (D : va_G) (dT : Nat → Nat) (l : Launch) : en_TB en_WD D vwCl dT l rm_X2_init t_X2_init RX2 "<init>" cX2_init := ⟨tk_X2_init, fun s args meth h hn => ⟨fp_X2 h args meth hn, co_X2 h args, fun _ h => absurd h List.not_mem_nil, fun _ h => absurd h List.not_mem_nil, Or.inr ⟨Nat.le_of_ble_eq_true rfl, Nat.le_of_ble_eq_true rfl, en_wd h 87 (by decide +kernel) rfl args, en_wd h 80 (by decide +kernel) rfl args, en_wd h 81 rfl rfl args⟩, en_arr h args⟩⟩
set_option maxHeartbeats 4000000 in
set_option maxRecDepth 100000 in
theorem bd_X2_init : en_B (σ := Unit) t_X2_init (fun _ => [.ref 1]) (fun _ => [ob6 .null .null .null .null .null 0, .inr (2, [.int 0, .null, .null, .null, .null, .null, .null, .null])]) (fun _ => True) (fun _ v w => v = none ∧ w = rw1 .null .null .null .null .null 0) := by
  rintro ⟨⟩ - G hG OK ⟨run, sub⟩
  dsimp only at hG ⊢
  refine run [] 80 _ _ _ _ _ _ ?_
  conv => whnf
  refine ⟨⟨by decide, by decide, by decide, by decide⟩, ?_⟩
  conv => whnf
  refine ⟨⟨by decide, by decide, by decide, by decide⟩, ?_⟩
  conv => whnf
  refine ⟨⟨by decide, by decide, by decide, by decide⟩, ?_⟩
  conv => whnf
  refine ⟨⟨by decide, by decide, by decide, by decide⟩, ?_⟩
  conv => whnf
  refine ⟨⟨by decide, by decide, by decide, by decide⟩, ?_⟩
  conv => whnf
  refine ⟨⟨by decide, by decide, by decide, by decide⟩, ?_⟩
  conv => whnf
  refine ⟨⟨by decide, by decide, by decide, by decide⟩, ?_⟩
  conv => whnf
  exact hG _ _ ⟨rfl, rfl⟩
theorem ct_X2_init (D : va_G) (dT : Nat → Nat) (l : Launch) : en_CT en_WD D vwCl dT l yX2_init cX2_init 1 (none) rm_X2_init f_X2_init := en_met en_WD1 en_WD2 (by decide) rfl rfl (tB_X2_init D dT l) (en_f_ln (fun _ => Nat.le_of_ble_eq_true rfl)) (en_f_bd bd_X2_init)
set_option maxRecDepth 100000 in
theorem mk_X2_init {D : va_G} {dT : Nat → Nat} {l : Launch} {R : Room} {s : State} {args : Array Value} {own : String} {idx : Nat} (h : en_WD s) (h1 : rm_X2_init.frames + 1 ≤ R.frames) (h2 : 8 + (1 + 11) + rm_X2_init.locals ≤ R.locals) (hl : (Jvm.Cond.methodLink own idx yX2_init).before args s = true ∨ ∃ host, (Jvm.Cond.methodLinkNest own idx yX2_init host).before args s = true) : en_mok en_WD D vwCl dT l R s args own (idx, 1, 1, 7, 900, f_X2_init) :=
  ⟨yX2_init, cX2_init, 1, none, rm_X2_init, 0, ct_X2_init D dT l, rfl, rfl, h1, h2, en_wd h 86 rfl rfl args, en_wd h 60 (by decide +kernel) rfl args, by decide, by decide, hl, ⟨rfl, en_wd h 85 (by decide +kernel) rfl args, rfl, rfl⟩⟩
def obW : va_E := .inr (5, [.int 1, .int 1, .ref 10, .ref 11, .ref 12])
def rw2 (a b c d e : Value) (x : Int32) : List va_E := rw1 a b c d e x ++ [obW, .inl (0, 4, .inl (upd (fun _ => 0) 0 1)), arI 4, arI 4]
def f_X5_init := en_f (σ := Unit) (fun _ => [.ref 9]) (fun _ => rw1 (.ref 1) .null .null .null .null 0 ++ [.inr (5, [.int 0, .int 0, .null, .null, .null])]) (fun _ => True) (fun _ v w => v = none ∧ w = rw2 (.ref 1) .null .null .null .null 0)
def rm_X5_init : Room := { frames := 1, cells := 3, slots := 12, locals := 20 }
def t_X5_init : en_T := ((1, 3, 12), tb_X5_init, fi_X5, cn_X5, [], [], 3, none)
set_option maxRecDepth 100000 in
theorem tB_X5_init (D : va_G) (dT : Nat → Nat) (l : Launch) : en_TB en_WD D vwCl dT l rm_X5_init t_X5_init RX5 "<init>" cX5_init := ⟨tk_X5_init, fun s args meth h hn => ⟨fp_X5 h args meth hn, co_X5 h args, fun _ h => absurd h List.not_mem_nil, fun _ h => absurd h List.not_mem_nil, Or.inr ⟨Nat.le_of_ble_eq_true rfl, Nat.le_of_ble_eq_true rfl, en_wd h 134 (by decide +kernel) rfl args, en_wd h 80 (by decide +kernel) rfl args, en_wd h 81 rfl rfl args⟩, en_arr h args⟩⟩
set_option maxHeartbeats 4000000 in
set_option maxRecDepth 100000 in
theorem bd_X5_init : en_B (σ := Unit) t_X5_init (fun _ => [.ref 9]) (fun _ => rw1 (.ref 1) .null .null .null .null 0 ++ [.inr (5, [.int 0, .int 0, .null, .null, .null])]) (fun _ => True) (fun _ v w => v = none ∧ w = rw2 (.ref 1) .null .null .null .null 0) := by
  rintro ⟨⟩ - G hG OK ⟨run, sub⟩
  dsimp only at hG ⊢
  refine run [] 80 _ _ _ _ _ _ ?_
  conv => whnf
  refine ⟨⟨by decide, by decide, by decide, by decide⟩, ?_⟩
  conv => whnf
  refine ⟨vp_in_nI (n := 0) (by decide) (by decide), ?_⟩
  conv => whnf
  refine ⟨⟨by decide, by decide, by decide, by decide⟩, ?_⟩
  conv => whnf
  refine ⟨⟨by decide, by decide, by decide, by decide⟩, ?_⟩
  conv => whnf
  exact hG _ _ ⟨rfl, rfl⟩
theorem ct_X5_init (D : va_G) (dT : Nat → Nat) (l : Launch) : en_CT en_WD D vwCl dT l yX5_init cX5_init 1 (none) rm_X5_init f_X5_init := en_met en_WD1 en_WD2 (by decide) rfl rfl (tB_X5_init D dT l) (en_f_ln (fun _ => Nat.le_of_ble_eq_true rfl)) (en_f_bd bd_X5_init)
set_option maxRecDepth 100000 in
theorem mk_X5_init {D : va_G} {dT : Nat → Nat} {l : Launch} {R : Room} {s : State} {args : Array Value} {own : String} {idx : Nat} (h : en_WD s) (h1 : rm_X5_init.frames + 1 ≤ R.frames) (h2 : 8 + (1 + 11) + rm_X5_init.locals ≤ R.locals) (hl : (Jvm.Cond.methodLink own idx yX5_init).before args s = true ∨ ∃ host, (Jvm.Cond.methodLinkNest own idx yX5_init host).before args s = true) : en_mok en_WD D vwCl dT l R s args own (idx, 1, 1, 3, 12, f_X5_init) :=
  ⟨yX5_init, cX5_init, 1, none, rm_X5_init, 0, ct_X5_init D dT l, rfl, rfl, h1, h2, en_wd h 133 rfl rfl args, en_wd h 61 (by decide +kernel) rfl args, by decide, by decide, hl, ⟨rfl, en_wd h 132 (by decide +kernel) rfl args, rfl, rfl⟩⟩
def f_X0_init := en_f (σ := Unit) (fun _ => [.ref 14]) (fun _ => rw2 (.ref 1) (.ref 9) .null .null .null 0 ++ [.inr (3, [.ref 1, .ref 9, .null, .null, .null, .int 0, .null, .null]), .inr (0, [.long 0])]) (fun _ => True) (fun _ v w => v = none ∧ w = rw2 (.ref 1) (.ref 9) .null .null .null 0 ++ [.inr (3, [.ref 1, .ref 9, .null, .null, .null, .int 0, .null, .null]), .inr (0, [.long 0])])
def rm_X0_init : Room := { frames := 1, cells := 0, slots := 0, locals := 20 }
def t_X0_init : en_T := ((1, 0, 0), tb_X0_init, fi_X0, cn_X0, [], [], 1, none)
set_option maxRecDepth 100000 in
theorem tB_X0_init (D : va_G) (dT : Nat → Nat) (l : Launch) : en_TB en_WD D vwCl dT l rm_X0_init t_X0_init RX0 "<init>" cX0_init := ⟨tk_X0_init, fun s args meth h hn => ⟨fp_X0 h args meth hn, co_X0 h args, fun _ h => absurd h List.not_mem_nil, fun _ h => absurd h List.not_mem_nil, Or.inr ⟨Nat.le_of_ble_eq_true rfl, Nat.le_of_ble_eq_true rfl, en_wd h 169 (by decide +kernel) rfl args, en_wd h 80 (by decide +kernel) rfl args, en_wd h 81 rfl rfl args⟩, en_arr h args⟩⟩
set_option maxHeartbeats 4000000 in
set_option maxRecDepth 100000 in
theorem bd_X0_init : en_B (σ := Unit) t_X0_init (fun _ => [.ref 14]) (fun _ => rw2 (.ref 1) (.ref 9) .null .null .null 0 ++ [.inr (3, [.ref 1, .ref 9, .null, .null, .null, .int 0, .null, .null]), .inr (0, [.long 0])]) (fun _ => True) (fun _ v w => v = none ∧ w = rw2 (.ref 1) (.ref 9) .null .null .null 0 ++ [.inr (3, [.ref 1, .ref 9, .null, .null, .null, .int 0, .null, .null]), .inr (0, [.long 0])]) := by
  rintro ⟨⟩ - G hG OK ⟨run, sub⟩
  dsimp only at hG ⊢
  refine run [] 80 _ _ _ _ _ _ ?_
  conv => whnf
  exact hG _ _ ⟨rfl, rfl⟩
theorem ct_X0_init (D : va_G) (dT : Nat → Nat) (l : Launch) : en_CT en_WD D vwCl dT l yX0_init cX0_init 1 (none) rm_X0_init f_X0_init := en_met en_WD1 en_WD2 (by decide) rfl rfl (tB_X0_init D dT l) (en_f_ln (fun _ => Nat.le_of_ble_eq_true rfl)) (en_f_bd bd_X0_init)
set_option maxRecDepth 100000 in
theorem mk_X0_init {D : va_G} {dT : Nat → Nat} {l : Launch} {R : Room} {s : State} {args : Array Value} {own : String} {idx : Nat} (h : en_WD s) (h1 : rm_X0_init.frames + 1 ≤ R.frames) (h2 : 8 + (1 + 11) + rm_X0_init.locals ≤ R.locals) (hl : (Jvm.Cond.methodLink own idx yX0_init).before args s = true ∨ ∃ host, (Jvm.Cond.methodLinkNest own idx yX0_init host).before args s = true) : en_mok en_WD D vwCl dT l R s args own (idx, 1, 1, 0, 0, f_X0_init) :=
  ⟨yX0_init, cX0_init, 1, none, rm_X0_init, 0, ct_X0_init D dT l, rfl, rfl, h1, h2, en_wd h 168 rfl rfl args, en_wd h 63 (by decide +kernel) rfl args, by decide, by decide, hl, ⟨rfl, en_wd h 167 (by decide +kernel) rfl args, rfl, rfl⟩⟩
def obS : va_E := .inr (3, [.ref 1, .ref 9, .ref 14, .ref 15, .ref 16, .int 0, .ref 17, .ref 18])
def rw3 (a b c d e : Value) (x : Int32) : List va_E := rw2 a b c d e x ++ [obS, .inr (0, [.long 0]), arI 100, arI 100, arI 4, arI 4]
def f_X3_init := en_f (σ := Unit) (fun _ => [.ref 13, .ref 1, .ref 9]) (fun _ => rw2 (.ref 1) (.ref 9) .null .null .null 0 ++ [.inr (3, [.null, .null, .null, .null, .null, .int 0, .null, .null])]) (fun _ => True) (fun _ v w => v = none ∧ w = rw3 (.ref 1) (.ref 9) .null .null .null 0)
def rm_X3_init : Room := { frames := 2, cells := 5, slots := 209, locals := 40 }
def t_X3_init : en_T := ((3, 5, 209), tb_X3_init, fi_X3, cn_X3, [(21, 1, 1, 0, 0, f_X0_init)], [(19, 0, 1, [.long 0])], 3, none)
set_option maxRecDepth 100000 in
theorem tB_X3_init (D : va_G) (dT : Nat → Nat) (l : Launch) : en_TB en_WD D vwCl dT l rm_X3_init t_X3_init RX3 "<init>" cX3_init := ⟨tk_X3_init, fun s args meth h hn => ⟨fp_X3 h args meth hn, co_X3 h args, List.forall_mem_cons.mpr ⟨mk_X0_init (own := RX3) h (Nat.le_of_ble_eq_true rfl) (Nat.le_of_ble_eq_true rfl) (Or.inl (en_wd h 166 (by decide +kernel) rfl args)), fun _ h => absurd h List.not_mem_nil⟩, List.forall_mem_cons.mpr ⟨⟨RX0, TX0, u_ws RX0 TX0 1, tyX0, rfl, en_lay h la_X0 args, fun _ h => h, tyX0_ok, en_wd h 164 (by decide +kernel) rfl args, en_wd h 165 (by decide +kernel) rfl args, en_wd h 63 (by decide +kernel) rfl args, by decide, rfl⟩, fun _ h => absurd h List.not_mem_nil⟩, Or.inr ⟨Nat.le_of_ble_eq_true rfl, Nat.le_of_ble_eq_true rfl, en_wd h 163 (by decide +kernel) rfl args, en_wd h 80 (by decide +kernel) rfl args, en_wd h 81 rfl rfl args⟩, en_arr h args⟩⟩
set_option maxHeartbeats 4000000 in
set_option maxRecDepth 100000 in
theorem bd_X3_init : en_B (σ := Unit) t_X3_init (fun _ => [.ref 13, .ref 1, .ref 9]) (fun _ => rw2 (.ref 1) (.ref 9) .null .null .null 0 ++ [.inr (3, [.null, .null, .null, .null, .null, .int 0, .null, .null])]) (fun _ => True) (fun _ v w => v = none ∧ w = rw3 (.ref 1) (.ref 9) .null .null .null 0) := by
  rintro ⟨⟩ - G hG OK ⟨run, sub⟩
  dsimp only at hG ⊢
  refine run [] 80 _ _ _ _ _ _ ?_
  conv => whnf
  refine ⟨⟨by decide, by decide⟩, ?_⟩
  conv => whnf
  refine ⟨(), rfl, rfl, trivial, ?_⟩
  rintro _ _ ⟨rfl, rfl⟩
  conv => whnf
  refine ⟨⟨by decide, by decide, by decide, by decide⟩, ?_⟩
  conv => whnf
  refine ⟨⟨by decide, by decide, by decide, by decide⟩, ?_⟩
  conv => whnf
  refine ⟨⟨by decide, by decide, by decide, by decide⟩, ?_⟩
  conv => whnf
  refine ⟨⟨by decide, by decide, by decide, by decide⟩, ?_⟩
  conv => whnf
  exact hG _ _ ⟨rfl, rfl⟩
theorem ct_X3_init (D : va_G) (dT : Nat → Nat) (l : Launch) : en_CT en_WD D vwCl dT l yX3_init cX3_init 3 (none) rm_X3_init f_X3_init := en_met en_WD1 en_WD2 (by decide) rfl rfl (tB_X3_init D dT l) (en_f_ln (fun _ => Nat.le_of_ble_eq_true rfl)) (en_f_bd bd_X3_init)
set_option maxRecDepth 100000 in
theorem mk_X3_init {D : va_G} {dT : Nat → Nat} {l : Launch} {R : Room} {s : State} {args : Array Value} {own : String} {idx : Nat} (h : en_WD s) (h1 : rm_X3_init.frames + 1 ≤ R.frames) (h2 : 8 + (3 + 11) + rm_X3_init.locals ≤ R.locals) (hl : (Jvm.Cond.methodLink own idx yX3_init).before args s = true ∨ ∃ host, (Jvm.Cond.methodLinkNest own idx yX3_init host).before args s = true) : en_mok en_WD D vwCl dT l R s args own (idx, 3, 1, 5, 209, f_X3_init) :=
  ⟨yX3_init, cX3_init, 3, none, rm_X3_init, 2, ct_X3_init D dT l, rfl, rfl, h1, h2, en_wd h 162 rfl rfl args, en_wd h 62 (by decide +kernel) rfl args, by decide, by decide, hl, ⟨rfl, en_wd h 161 (by decide +kernel) rfl args, rfl, rfl⟩⟩
def rw4 (a b c d e : Value) (x : Int32) : List va_E := rw3 a b c d e x ++ [.inr (4, [.ref 20, .ref 21, .ref 22]), .inl (0, 8, .inl (mx 8 (fun _ => -1) (fun _ => 0))), arI 8, .inl (2, 800, .inl (fun _ => 0))]
def f_X4_init := en_f (σ := Unit) (fun _ => [.ref 19]) (fun _ => rw3 (.ref 1) (.ref 9) (.ref 13) .null .null 0 ++ [.inr (4, [.null, .null, .null])]) (fun _ => True) (fun _ v w => v = none ∧ w = rw4 (.ref 1) (.ref 9) (.ref 13) .null .null 0)
def rm_X4_init : Room := { frames := 1, cells := 3, slots := 816, locals := 20 }
def t_X4_init : en_T := ((2, 3, 816), tb_X4_init, fi_X4, cn_X4, [], [], 3, none)
set_option maxRecDepth 100000 in
theorem tB_X4_init (D : va_G) (dT : Nat → Nat) (l : Launch) : en_TB en_WD D vwCl dT l rm_X4_init t_X4_init RX4 "<init>" cX4_init := ⟨tk_X4_init, fun s args meth h hn => ⟨fp_X4 h args meth hn, co_X4 h args, fun _ h => absurd h List.not_mem_nil, fun _ h => absurd h List.not_mem_nil, Or.inr ⟨Nat.le_of_ble_eq_true rfl, Nat.le_of_ble_eq_true rfl, en_wd h 204 (by decide +kernel) rfl args, en_wd h 80 (by decide +kernel) rfl args, en_wd h 81 rfl rfl args⟩, en_arr h args⟩⟩
set_option maxHeartbeats 4000000 in
set_option maxRecDepth 100000 in
theorem bd_X4_init : en_B (σ := Unit) t_X4_init (fun _ => [.ref 19]) (fun _ => rw3 (.ref 1) (.ref 9) (.ref 13) .null .null 0 ++ [.inr (4, [.null, .null, .null])]) (fun _ => True) (fun _ v w => v = none ∧ w = rw4 (.ref 1) (.ref 9) (.ref 13) .null .null 0) := by
  rintro ⟨⟩ - G hG OK ⟨run, sub⟩
  dsimp only at hG ⊢
  have loop := lp_up (fun i => OK 1 8 14 [(0, .ref 19), (1, .int (nI i))] [] (rw3 (.ref 1) (.ref 9) (.ref 13) .null .null 0 ++ [.inr (4, [.ref 20, .null, .null]), .inl (0, 8, .inl (mx i (fun _ => -1) (fun _ => 0)))])) 8
    (by
      unfold rw4 at hG
      generalize mx 8 (fun _ => -1) (fun _ => 0) = f at hG ⊢
      refine run [14] 80 _ _ _ _ _ _ ?_
      conv => whnf
      refine pk_le 8 8 (fun h => ?_) (fun h => absurd h (by omega))
      conv => whnf
      refine ⟨⟨by decide, by decide, by decide, by decide⟩, ?_⟩
      conv => whnf
      refine ⟨⟨by decide, by decide, by decide, by decide⟩, ?_⟩
      conv => whnf
      exact hG _ _ ⟨rfl, rfl⟩)
    (fun i hi ih => by
      rw [nI_succ, ← mx_s] at ih
      refine run [14] 80 _ _ _ _ _ _ ?_
      conv => whnf
      refine pk_le 8 i (fun h => absurd h (by omega)) (fun h => ?_)
      conv => whnf
      refine ⟨vp_in_nI (by omega) (by decide), ?_⟩
      rw [nI_clamp (by omega)]
      conv => whnf
      exact ih)
  refine run [14] 80 _ _ _ _ _ _ ?_
  conv => whnf
  refine ⟨⟨by decide, by decide, by decide, by decide⟩, ?_⟩
  conv => whnf
  have h0 := loop 0 (by omega)
  rw [mx_0] at h0
  exact h0
theorem ct_X4_init (D : va_G) (dT : Nat → Nat) (l : Launch) : en_CT en_WD D vwCl dT l yX4_init cX4_init 2 (none) rm_X4_init f_X4_init := en_met en_WD1 en_WD2 (by decide) rfl rfl (tB_X4_init D dT l) (en_f_ln (fun _ => Nat.le_of_ble_eq_true rfl)) (en_f_bd bd_X4_init)
set_option maxRecDepth 100000 in
theorem mk_X4_init {D : va_G} {dT : Nat → Nat} {l : Launch} {R : Room} {s : State} {args : Array Value} {own : String} {idx : Nat} (h : en_WD s) (h1 : rm_X4_init.frames + 1 ≤ R.frames) (h2 : 8 + (2 + 11) + rm_X4_init.locals ≤ R.locals) (hl : (Jvm.Cond.methodLink own idx yX4_init).before args s = true ∨ ∃ host, (Jvm.Cond.methodLinkNest own idx yX4_init host).before args s = true) : en_mok en_WD D vwCl dT l R s args own (idx, 1, 1, 3, 816, f_X4_init) :=
  ⟨yX4_init, cX4_init, 2, none, rm_X4_init, 0, ct_X4_init D dT l, rfl, rfl, h1, h2, en_wd h 203 rfl rfl args, en_wd h 64 (by decide +kernel) rfl args, by decide, by decide, hl, ⟨rfl, en_wd h 202 (by decide +kernel) rfl args, rfl, rfl⟩⟩
def f_X1_init := en_f (σ := Unit) (fun _ => [.ref 23, .ref 1, .ref 19]) (fun _ => rw4 (.ref 1) (.ref 9) (.ref 13) (.ref 19) .null 0 ++ [.inr (1, [.null, .null, .int 0, .int 0, .int 0, .int 0])]) (fun _ => True) (fun _ v w => v = none ∧ w = rw4 (.ref 1) (.ref 9) (.ref 13) (.ref 19) .null 0 ++ [.inr (1, [.ref 1, .ref 19, .int (-1), .int 0, .int (-1), .int (-1)])])
def rm_X1_init : Room := { frames := 1, cells := 0, slots := 0, locals := 20 }
def t_X1_init : en_T := ((3, 0, 0), tb_X1_init, fi_X1, cn_X1, [], [], 3, none)
set_option maxRecDepth 100000 in
theorem tB_X1_init (D : va_G) (dT : Nat → Nat) (l : Launch) : en_TB en_WD D vwCl dT l rm_X1_init t_X1_init RX1 "<init>" cX1_init := ⟨tk_X1_init, fun s args meth h hn => ⟨fp_X1 h args meth hn, co_X1 h args, fun _ h => absurd h List.not_mem_nil, fun _ h => absurd h List.not_mem_nil, Or.inr ⟨Nat.le_of_ble_eq_true rfl, Nat.le_of_ble_eq_true rfl, en_wd h 222 (by decide +kernel) rfl args, en_wd h 80 (by decide +kernel) rfl args, en_wd h 81 rfl rfl args⟩, en_arr h args⟩⟩
set_option maxHeartbeats 4000000 in
set_option maxRecDepth 100000 in
theorem bd_X1_init : en_B (σ := Unit) t_X1_init (fun _ => [.ref 23, .ref 1, .ref 19]) (fun _ => rw4 (.ref 1) (.ref 9) (.ref 13) (.ref 19) .null 0 ++ [.inr (1, [.null, .null, .int 0, .int 0, .int 0, .int 0])]) (fun _ => True) (fun _ v w => v = none ∧ w = rw4 (.ref 1) (.ref 9) (.ref 13) (.ref 19) .null 0 ++ [.inr (1, [.ref 1, .ref 19, .int (-1), .int 0, .int (-1), .int (-1)])]) := by
  rintro ⟨⟩ - G hG OK ⟨run, sub⟩
  dsimp only at hG ⊢
  refine run [] 80 _ _ _ _ _ _ ?_
  conv => whnf
  exact hG _ _ ⟨rfl, rfl⟩
theorem ct_X1_init (D : va_G) (dT : Nat → Nat) (l : Launch) : en_CT en_WD D vwCl dT l yX1_init cX1_init 3 (none) rm_X1_init f_X1_init := en_met en_WD1 en_WD2 (by decide) rfl rfl (tB_X1_init D dT l) (en_f_ln (fun _ => Nat.le_of_ble_eq_true rfl)) (en_f_bd bd_X1_init)
set_option maxRecDepth 100000 in
theorem mk_X1_init {D : va_G} {dT : Nat → Nat} {l : Launch} {R : Room} {s : State} {args : Array Value} {own : String} {idx : Nat} (h : en_WD s) (h1 : rm_X1_init.frames + 1 ≤ R.frames) (h2 : 8 + (3 + 11) + rm_X1_init.locals ≤ R.locals) (hl : (Jvm.Cond.methodLink own idx yX1_init).before args s = true ∨ ∃ host, (Jvm.Cond.methodLinkNest own idx yX1_init host).before args s = true) : en_mok en_WD D vwCl dT l R s args own (idx, 3, 1, 0, 0, f_X1_init) :=
  ⟨yX1_init, cX1_init, 3, none, rm_X1_init, 2, ct_X1_init D dT l, rfl, rfl, h1, h2, en_wd h 221 rfl rfl args, en_wd h 65 (by decide +kernel) rfl args, by decide, by decide, hl, ⟨rfl, en_wd h 220 (by decide +kernel) rfl args, rfl, rfl⟩⟩
/-- the class's first world -/
def Sx0 : Sx := (fun j => if j = 0 then 50 else if j = 2 ∨ j = 3 then 1 else if j = 5 ∨ j = 7 ∨ j = 8 then -1 else 0, 0, fun a => if a = 10 then upd (fun _ => 0) 0 1 else if a = 20 then mx 8 (fun _ => -1) (fun _ => 0) else fun _ => 0, fun _ _ => 0)
def f_X6_init := en_f (σ := Unit) (fun _ => [.ref 0]) (fun _ => [ob6 .null .null .null .null .null 0]) (fun _ => True) (fun _ v w => v = none ∧ w = wX Sx0)
def rm_X6_init : Room := { frames := 3, cells := 23, slots := 1967, locals := 62 }
def t_X6_init : en_T := ((1, 23, 1967), tb_X6_init, fi_X6, cn_X6, [(9, 1, 1, 7, 900, f_X2_init), (18, 1, 1, 3, 12, f_X5_init), (25, 3, 1, 5, 209, f_X3_init), (34, 1, 1, 3, 816, f_X4_init), (41, 3, 1, 0, 0, f_X1_init)], [(7, 2, 8, [.int 0, .null, .null, .null, .null, .null, .null, .null]), (16, 5, 5, [.int 0, .int 0, .null, .null, .null]), (23, 3, 8, [.null, .null, .null, .null, .null, .int 0, .null, .null]), (32, 4, 3, [.null, .null, .null]), (39, 1, 6, [.null, .null, .int 0, .int 0, .int 0, .int 0])], 1, none)
set_option maxRecDepth 100000 in
theorem tB_X6_init (D : va_G) (dT : Nat → Nat) (l : Launch) : en_TB en_WD D vwCl dT l rm_X6_init t_X6_init RX6 "<init>" cX6_init := ⟨tk_X6_init, fun s args meth h hn => ⟨fp_X6 h args meth hn, co_X6 h args, List.forall_mem_cons.mpr ⟨mk_X2_init (own := RX6) h (Nat.le_of_ble_eq_true rfl) (Nat.le_of_ble_eq_true rfl) (Or.inl (en_wd h 84 (by decide +kernel) rfl args)), List.forall_mem_cons.mpr ⟨mk_X5_init (own := RX6) h (Nat.le_of_ble_eq_true rfl) (Nat.le_of_ble_eq_true rfl) (Or.inl (en_wd h 131 (by decide +kernel) rfl args)), List.forall_mem_cons.mpr ⟨mk_X3_init (own := RX6) h (Nat.le_of_ble_eq_true rfl) (Nat.le_of_ble_eq_true rfl) (Or.inl (en_wd h 160 (by decide +kernel) rfl args)), List.forall_mem_cons.mpr ⟨mk_X4_init (own := RX6) h (Nat.le_of_ble_eq_true rfl) (Nat.le_of_ble_eq_true rfl) (Or.inl (en_wd h 201 (by decide +kernel) rfl args)), List.forall_mem_cons.mpr ⟨mk_X1_init (own := RX6) h (Nat.le_of_ble_eq_true rfl) (Nat.le_of_ble_eq_true rfl) (Or.inl (en_wd h 219 (by decide +kernel) rfl args)), fun _ h => absurd h List.not_mem_nil⟩⟩⟩⟩⟩, List.forall_mem_cons.mpr ⟨⟨RX2, TX2, u_ws RX2 TX2 8, tyX2, rfl, en_lay h la_X2 args, fun _ h => h, tyX2_ok, en_wd h 82 (by decide +kernel) rfl args, en_wd h 83 (by decide +kernel) rfl args, en_wd h 60 (by decide +kernel) rfl args, by decide, rfl⟩, List.forall_mem_cons.mpr ⟨⟨RX5, TX5, u_ws RX5 TX5 5, tyX5, rfl, en_lay h la_X5 args, fun _ h => h, tyX5_ok, en_wd h 129 (by decide +kernel) rfl args, en_wd h 130 (by decide +kernel) rfl args, en_wd h 61 (by decide +kernel) rfl args, by decide, rfl⟩, List.forall_mem_cons.mpr ⟨⟨RX3, TX3, u_ws RX3 TX3 8, tyX3, rfl, en_lay h la_X3 args, fun _ h => h, tyX3_ok, en_wd h 158 (by decide +kernel) rfl args, en_wd h 159 (by decide +kernel) rfl args, en_wd h 62 (by decide +kernel) rfl args, by decide, rfl⟩, List.forall_mem_cons.mpr ⟨⟨RX4, TX4, u_ws RX4 TX4 3, tyX4, rfl, en_lay h la_X4 args, fun _ h => h, tyX4_ok, en_wd h 199 (by decide +kernel) rfl args, en_wd h 200 (by decide +kernel) rfl args, en_wd h 64 (by decide +kernel) rfl args, by decide, rfl⟩, List.forall_mem_cons.mpr ⟨⟨RX1, TX1, u_ws RX1 TX1 6, tyX1, rfl, en_lay h la_X1 args, fun _ h => h, tyX1_ok, en_wd h 217 (by decide +kernel) rfl args, en_wd h 218 (by decide +kernel) rfl args, en_wd h 65 (by decide +kernel) rfl args, by decide, rfl⟩, fun _ h => absurd h List.not_mem_nil⟩⟩⟩⟩⟩, Or.inr ⟨Nat.le_of_ble_eq_true rfl, Nat.le_of_ble_eq_true rfl, en_wd h 79 (by decide +kernel) rfl args, en_wd h 80 (by decide +kernel) rfl args, en_wd h 81 rfl rfl args⟩, en_arr h args⟩⟩
set_option maxHeartbeats 4000000 in
set_option maxRecDepth 100000 in
theorem bd_X6_init : en_B (σ := Unit) t_X6_init (fun _ => [.ref 0]) (fun _ => [ob6 .null .null .null .null .null 0]) (fun _ => True) (fun _ v w => v = none ∧ w = wX Sx0) := by
  rintro ⟨⟩ - G hG OK ⟨run, sub⟩
  dsimp only at hG ⊢
  refine run [] 80 _ _ _ _ _ _ ?_
  conv => whnf
  refine ⟨⟨by decide, by decide⟩, ?_⟩
  conv => whnf
  refine ⟨⟨by decide, by decide⟩, (), rfl, rfl, trivial, ?_⟩
  rintro _ _ ⟨rfl, rfl⟩
  conv => whnf
  refine ⟨⟨by decide, by decide⟩, ?_⟩
  conv => whnf
  refine ⟨⟨by decide, by decide⟩, (), rfl, rfl, trivial, ?_⟩
  rintro _ _ ⟨rfl, rfl⟩
  conv => whnf
  refine ⟨⟨by decide, by decide⟩, ?_⟩
  conv => whnf
  refine ⟨⟨by decide, by decide⟩, (), rfl, rfl, trivial, ?_⟩
  rintro _ _ ⟨rfl, rfl⟩
  conv => whnf
  refine ⟨⟨by decide, by decide⟩, ?_⟩
  conv => whnf
  refine ⟨⟨by decide, by decide⟩, (), rfl, rfl, trivial, ?_⟩
  rintro _ _ ⟨rfl, rfl⟩
  conv => whnf
  refine ⟨⟨by decide, by decide⟩, ?_⟩
  conv => whnf
  refine ⟨(), rfl, rfl, trivial, ?_⟩
  rintro _ _ ⟨rfl, rfl⟩
  conv => whnf
  exact hG _ _ ⟨rfl, rfl⟩
theorem ct_X6_init (D : va_G) (dT : Nat → Nat) (l : Launch) : en_CT en_WD D vwCl dT l yX6_init cX6_init 1 (none) rm_X6_init f_X6_init := en_met en_WD1 en_WD2 (by decide) rfl rfl (tB_X6_init D dT l) (en_f_ln (fun _ => Nat.le_of_ble_eq_true rfl)) (en_f_bd bd_X6_init)
set_option maxRecDepth 100000 in
theorem mk_X6_init {D : va_G} {dT : Nat → Nat} {l : Launch} {R : Room} {s : State} {args : Array Value} {own : String} {idx : Nat} (h : en_WD s) (h1 : rm_X6_init.frames + 1 ≤ R.frames) (h2 : 8 + (1 + 11) + rm_X6_init.locals ≤ R.locals) (hl : (Jvm.Cond.methodLink own idx yX6_init).before args s = true ∨ ∃ host, (Jvm.Cond.methodLinkNest own idx yX6_init host).before args s = true) : en_mok en_WD D vwCl dT l R s args own (idx, 1, 1, 23, 1967, f_X6_init) :=
  ⟨yX6_init, cX6_init, 1, none, rm_X6_init, 0, ct_X6_init D dT l, rfl, rfl, h1, h2, en_wd h 78 rfl rfl args, en_wd h 59 (by decide +kernel) rfl args, by decide, by decide, hl, ⟨rfl, en_wd h 77 (by decide +kernel) rfl args, rfl, rfl⟩⟩
/-- the reference's first world -/
def Sm0 : Sx := (fun j => if j = 1 ∨ j = 2 then 1 else if j = 3 then 50 else 0, 0, fun a => if a = 7 then upd (fun _ => 0) 0 1 else if a = 9 then mx 8 (fun _ => -1) (fun _ => 0) else fun _ => 0, fun _ _ => 0)
def wMi (f : Nat → Int32) : List va_E := wM (fun j => if j = 1 ∨ j = 2 then 1 else if j = 3 then 50 else 0, 0, fun a => if a = 7 then upd (fun _ => 0) 0 1 else if a = 9 then f else fun _ => 0, fun _ _ => 0)
def f_X7_init := en_f (σ := Unit) (fun _ => [.ref 0]) (fun _ => [.inr (7, [.int 0, .null, .null, .null, .null, .null, .null, .int 0, .int 0, .null, .int 0, .null, .null, .int 0, .null, .null, .long 0, .null, .null, .int 0, .null, .int 0, .int 0, .int 0])]) (fun _ => True) (fun _ v w => v = none ∧ w = wM Sm0)
def rm_X7_init : Room := { frames := 1, cells := 14, slots := 1850, locals := 20 }
def t_X7_init : en_T := ((2, 14, 1850), tb_X7_init, fi_X7, cn_X7, [], [], 1, none)
set_option maxRecDepth 100000 in
theorem tB_X7_init (D : va_G) (dT : Nat → Nat) (l : Launch) : en_TB en_WD D vwCl dT l rm_X7_init t_X7_init RX7 "<init>" cX7_init := ⟨tk_X7_init, fun s args meth h hn => ⟨fp_X7 h args meth hn, co_X7 h args, fun _ h => absurd h List.not_mem_nil, fun _ h => absurd h List.not_mem_nil, Or.inr ⟨Nat.le_of_ble_eq_true rfl, Nat.le_of_ble_eq_true rfl, en_wd h 746 (by decide +kernel) rfl args, en_wd h 80 (by decide +kernel) rfl args, en_wd h 81 rfl rfl args⟩, en_arr h args⟩⟩
set_option maxHeartbeats 4000000 in
set_option maxRecDepth 100000 in
theorem bd_X7_init : en_B (σ := Unit) t_X7_init (fun _ => [.ref 0]) (fun _ => [.inr (7, [.int 0, .null, .null, .null, .null, .null, .null, .int 0, .int 0, .null, .int 0, .null, .null, .int 0, .null, .null, .long 0, .null, .null, .int 0, .null, .int 0, .int 0, .int 0])]) (fun _ => True) (fun _ v w => v = none ∧ w = wM Sm0) := by
  rintro ⟨⟩ - G hG OK ⟨run, sub⟩
  dsimp only at hG ⊢
  have loop := lp_up (fun i => OK 14 1850 140 [(0, .ref 0), (1, .int (nI i))] [] (wMi (mx i (fun _ => -1) (fun _ => 0)))) 8
    (by
      have hG2 : ∀ v w, (v = none ∧ w = wMi (mx 8 (fun _ => -1) (fun _ => 0))) → G v w := hG
      generalize mx 8 (fun _ => -1) (fun _ => 0) = f at hG2 ⊢
      refine run [140] 80 _ _ _ _ _ _ ?_
      conv => whnf
      refine pk_le 8 8 (fun h => ?_) (fun h => absurd h (by omega))
      conv => whnf
      exact hG2 _ _ ⟨rfl, rfl⟩)
    (fun i hi ih => by
      rw [nI_succ, ← mx_s] at ih
      generalize mx i (fun _ => -1) (fun _ => 0) = f at ih ⊢
      refine run [140] 80 _ _ _ _ _ _ ?_
      conv => whnf
      refine pk_le 8 i (fun h => absurd h (by omega)) (fun h => ?_)
      conv => whnf
      refine ⟨vp_in_nI (by omega) (by decide), ?_⟩
      rw [nI_clamp (by omega)]
      conv => whnf
      exact ih)
  have h0 := loop 0 (by omega)
  rw [mx_0] at h0
  refine run [140] 120 _ _ _ _ _ _ ?_
  conv => whnf
  iterate 7
    refine ⟨⟨by decide, by decide, by decide, by decide⟩, ?_⟩
    conv => whnf
  iterate 7
    refine ⟨⟨by decide, by decide, by decide, by decide⟩, ?_⟩
    conv => whnf
  refine ⟨vp_in_nI (n := 0) (by decide) (by decide), ?_⟩
  conv => whnf
  exact h0
theorem ct_X7_init (D : va_G) (dT : Nat → Nat) (l : Launch) : en_CT en_WD D vwCl dT l yX7_init cX7_init 2 (none) rm_X7_init f_X7_init := en_met en_WD1 en_WD2 (by decide) rfl rfl (tB_X7_init D dT l) (en_f_ln (fun _ => Nat.le_of_ble_eq_true rfl)) (en_f_bd bd_X7_init)
set_option maxRecDepth 100000 in
theorem mk_X7_init {D : va_G} {dT : Nat → Nat} {l : Launch} {R : Room} {s : State} {args : Array Value} {own : String} {idx : Nat} (h : en_WD s) (h1 : rm_X7_init.frames + 1 ≤ R.frames) (h2 : 8 + (2 + 11) + rm_X7_init.locals ≤ R.locals) (hl : (Jvm.Cond.methodLink own idx yX7_init).before args s = true ∨ ∃ host, (Jvm.Cond.methodLinkNest own idx yX7_init host).before args s = true) : en_mok en_WD D vwCl dT l R s args own (idx, 1, 1, 14, 1850, f_X7_init) :=
  ⟨yX7_init, cX7_init, 2, none, rm_X7_init, 0, ct_X7_init D dT l, rfl, rfl, h1, h2, en_wd h 745 rfl rfl args, en_wd h 66 (by decide +kernel) rfl args, by decide, by decide, hl, ⟨rfl, en_wd h 744 (by decide +kernel) rfl args, rfl, rfl⟩⟩
