/-! THE REFERENCE: its world: ints (0 rows, 1 parts, 2 weights, 3 nearness, 4 thrown, 5 many, 6 ahead, 7 one, 8 two), z, the arrays by their places (1 group, 2 label, 3 time, 4 number, 5 words, 6 part, 7 weight, 8 fitted, 9 by, 10 quotas, 11 more, 12 dealt, 13 things, 14 has) -/
def wM (S : Sx) : List va_E := [
  .inr (7, [.int (S.1 0), .ref 1, .ref 2, .ref 3, .ref 4, .ref 5, .ref 6, .int (S.1 1), .int (S.1 2), .ref 7, .int (S.1 3), .ref 8, .ref 9, .int (S.1 4), .ref 10, .ref 11, .long S.2.1, .ref 12, .ref 13, .int (S.1 5), .ref 14, .int (S.1 6), .int (S.1 7), .int (S.1 8)]),
  .inl (0, 100, .inl (S.2.2.1 1)), .inl (0, 100, .inl (S.2.2.1 2)), .inl (0, 100, .inl (S.2.2.1 3)), .inl (1, 300, .inr (.inl (S.2.2.2 4))), .inl (1, 100, .inr (.inl (S.2.2.2 5))), .inl (0, 100, .inl (S.2.2.1 6)), .inl (0, 4, .inl (S.2.2.1 7)), .inl (2, 800, .inl (S.2.2.1 8)), .inl (0, 8, .inl (S.2.2.1 9)), .inl (0, 4, .inl (S.2.2.1 10)), .inl (2, 4, .inl (S.2.2.1 11)), .inl (0, 100, .inl (S.2.2.1 12)), .inl (0, 100, .inl (S.2.2.1 13)), .inl (0, 30, .inl (S.2.2.1 14))]
theorem le_lt {x : Int32} {b : Nat} (hb : b + 1 < 2 ^ 31) : x ≤ nI b ↔ x < nI (b + 1) := by
  rw [Int32.le_iff_toInt_le, Int32.lt_iff_toInt_lt, nI_toInt (by omega), nI_toInt hb]
  omega
theorem le_pr {x : Int32} {n : Nat} (hn : n < 2 ^ 31) : x ≤ nI n - 1 ↔ x < nI n := by
  have h : (nI n - 1).toInt = (n : Int) - 1 := by
    by_cases h0 : n = 0
    · subst h0; decide
    · obtain ⟨m, rfl⟩ : ∃ m, n = m + 1 := ⟨n - 1, by omega⟩
      rw [nI_pred, nI_toInt (by omega)]
      omega
  rw [Int32.le_iff_toInt_le, Int32.lt_iff_toInt_lt, h, nI_toInt hn]
  omega
def ansM (v : Option Value) (w : List va_E) (x : Int32) (S : Sx) : Prop := v = some (.int x) ∧ w = wM S
def f_X7_in := en_f (σ := Int32 × Int32 × Int32 × List va_E) (fun x => [.int x.1, .int x.2.1, .int x.2.2.1]) (fun x => x.2.2.2) (fun _ => True) (fun x v w => v = some (.int (bl (x.2.1 ≤ x.1 ∧ x.1 ≤ x.2.2.1))) ∧ w = x.2.2.2)
def rm_X7_in : Room := { frames := 0, cells := 0, slots := 0, locals := 0 }
def t_X7_in : en_T := ((3, 0, 0), tb_X7_in, fl_X7, cn_X7, [], [], 0, some .boolean)
set_option maxRecDepth 100000 in
theorem tB_X7_in (D : va_G) (dT : Nat → Nat) (l : Launch) : en_TB en_WD D vwCl dT l rm_X7_in t_X7_in RX7 "in" cX7_in := ⟨tk_X7_in, fun s args meth h hn => ⟨fo_X7 h args meth, co_X7 h args, fun _ h => absurd h List.not_mem_nil, fun _ h => absurd h List.not_mem_nil, Or.inl rfl, en_arr h args⟩⟩
set_option maxHeartbeats 4000000 in
set_option maxRecDepth 100000 in
theorem bd_X7_in : en_B (σ := Int32 × Int32 × Int32 × List va_E) t_X7_in (fun x => [.int x.1, .int x.2.1, .int x.2.2.1]) (fun x => x.2.2.2) (fun _ => True) (fun x v w => v = some (.int (bl (x.2.1 ≤ x.1 ∧ x.1 ≤ x.2.2.1))) ∧ w = x.2.2.2) := by
  rintro ⟨x, a, b, ws⟩ - G hG OK ⟨run, sub⟩
  dsimp only at hG ⊢
  refine run [] 20 _ _ _ _ _ _ ?_
  conv => whnf
  refine ⟨fun h => ?_, fun h => ?_⟩
  · conv => whnf
    exact ⟨rfl, hG _ _ ⟨bl_af (fun z => absurd h (Int32.not_lt.mpr z.1)) rfl, rfl⟩⟩
  · conv => whnf
    refine ⟨fun h2 => ?_, fun h2 => ?_⟩
    · conv => whnf
      exact ⟨rfl, hG _ _ ⟨bl_af (fun z => absurd h2 (Int32.not_lt.mpr z.2)) rfl, rfl⟩⟩
    · conv => whnf
      exact ⟨rfl, hG _ _ ⟨bl_at ⟨Int32.not_lt.mp h, Int32.not_lt.mp h2⟩ rfl, rfl⟩⟩
theorem ct_X7_in (D : va_G) (dT : Nat → Nat) (l : Launch) : en_CT en_WD D vwCl dT l yX7_in cX7_in 3 (some .boolean) rm_X7_in f_X7_in := en_met en_WD1 en_WD2 (by decide) rfl rfl (tB_X7_in D dT l) (en_f_ln (fun _ => Nat.le_of_ble_eq_true rfl)) (en_f_bd bd_X7_in)
set_option maxRecDepth 100000 in
theorem mk_X7_in {D : va_G} {dT : Nat → Nat} {l : Launch} {R : Room} {s : State} {args : Array Value} {own : String} {idx : Nat} (h : en_WD s) (h1 : rm_X7_in.frames + 1 ≤ R.frames) (h2 : 8 + (3 + 11) + rm_X7_in.locals ≤ R.locals) (hl : (Jvm.Cond.methodLink own idx yX7_in).before args s = true ∨ ∃ host, (Jvm.Cond.methodLinkNest own idx yX7_in host).before args s = true) : en_mok en_WD D vwCl dT l R s args own (idx, 3, 0, 0, 0, f_X7_in) :=
  ⟨yX7_in, cX7_in, 3, some .boolean, rm_X7_in, 3, ct_X7_in D dT l, rfl, rfl, h1, h2, en_wd h 830 rfl rfl args, en_wd h 66 (by decide +kernel) rfl args, by decide, by decide, hl, ⟨en_wd h 829 (by decide +kernel) rfl args, rfl⟩⟩
def f_X7_thrown := en_f (σ := Sx) (fun _ => [.ref 0]) (fun x => wM x) (fun _ => True) (fun x v w => ansM v w (x.1 4) x)
def rm_X7_thrown : Room := { frames := 0, cells := 0, slots := 0, locals := 0 }
def t_X7_thrown : en_T := ((1, 0, 0), tb_X7_thrown, fl_X7, cn_X7, [], [], 0, some .int)
set_option maxRecDepth 100000 in
theorem tB_X7_thrown (D : va_G) (dT : Nat → Nat) (l : Launch) : en_TB en_WD D vwCl dT l rm_X7_thrown t_X7_thrown RX7 "thrown" cX7_thrown := ⟨tk_X7_thrown, fun s args meth h hn => ⟨fo_X7 h args meth, co_X7 h args, fun _ h => absurd h List.not_mem_nil, fun _ h => absurd h List.not_mem_nil, Or.inl rfl, en_arr h args⟩⟩
set_option maxHeartbeats 4000000 in
set_option maxRecDepth 100000 in
theorem bd_X7_thrown : en_B (σ := Sx) t_X7_thrown (fun _ => [.ref 0]) (fun x => wM x) (fun _ => True) (fun x v w => ansM v w (x.1 4) x) := by
  rintro S - G hG OK ⟨run, sub⟩
  dsimp only at hG ⊢
  refine run [] 20 _ _ _ _ _ _ ?_
  conv => whnf
  exact hG _ _ ⟨rfl, rfl⟩
theorem ct_X7_thrown (D : va_G) (dT : Nat → Nat) (l : Launch) : en_CT en_WD D vwCl dT l yX7_thrown cX7_thrown 1 (some .int) rm_X7_thrown f_X7_thrown := en_met en_WD1 en_WD2 (by decide) rfl rfl (tB_X7_thrown D dT l) (en_f_ln (fun _ => Nat.le_of_ble_eq_true rfl)) (en_f_bd bd_X7_thrown)
set_option maxRecDepth 100000 in
theorem mk_X7_thrown {D : va_G} {dT : Nat → Nat} {l : Launch} {R : Room} {s : State} {args : Array Value} {own : String} {idx : Nat} (h : en_WD s) (h1 : rm_X7_thrown.frames + 1 ≤ R.frames) (h2 : 8 + (1 + 11) + rm_X7_thrown.locals ≤ R.locals) (hl : (Jvm.Cond.methodLink own idx yX7_thrown).before args s = true ∨ ∃ host, (Jvm.Cond.methodLinkNest own idx yX7_thrown host).before args s = true) : en_mok en_WD D vwCl dT l R s args own (idx, 1, 9, 0, 0, f_X7_thrown) :=
  ⟨yX7_thrown, cX7_thrown, 1, some .int, rm_X7_thrown, 0, ct_X7_thrown D dT l, rfl, rfl, h1, h2, en_wd h 823 rfl rfl args, en_wd h 66 (by decide +kernel) rfl args, by decide, by decide, hl, ⟨RX7, TX7, 24, rfl, en_wd h 821 (by decide +kernel) rfl args, en_wd h 822 (by decide +kernel) rfl args, rfl⟩⟩
def f_X7_isRow := en_f (σ := Int32 × Nat × Sx) (fun x => [.ref 0, .int x.1]) (fun x => wM x.2.2) (fun x => x.2.1 ≤ 100 ∧ x.2.2.1 0 = nI x.2.1) (fun x v w => v = some (.int (bl (inr_ x.1 x.2.1))) ∧ w = wM x.2.2)
def rm_X7_isRow : Room := { frames := 1, cells := 0, slots := 0, locals := 22 }
def t_X7_isRow : en_T := ((2, 0, 0), tb_X7_isRow, fl_X7, cn_X7, [(70, 3, 0, 0, 0, f_X7_in)], [], 0, some .boolean)
set_option maxRecDepth 100000 in
theorem tB_X7_isRow (D : va_G) (dT : Nat → Nat) (l : Launch) : en_TB en_WD D vwCl dT l rm_X7_isRow t_X7_isRow RX7 "isRow" cX7_isRow := ⟨tk_X7_isRow, fun s args meth h hn => ⟨fo_X7 h args meth, co_X7 h args, List.forall_mem_cons.mpr ⟨mk_X7_in (own := RX7) h (Nat.le_of_ble_eq_true rfl) (Nat.le_of_ble_eq_true rfl) (Or.inl (en_wd h 828 (by decide +kernel) rfl args)), fun _ h => absurd h List.not_mem_nil⟩, fun _ h => absurd h List.not_mem_nil, Or.inl rfl, en_arr h args⟩⟩
set_option maxHeartbeats 4000000 in
set_option maxRecDepth 100000 in
theorem bd_X7_isRow : en_B (σ := Int32 × Nat × Sx) t_X7_isRow (fun x => [.ref 0, .int x.1]) (fun x => wM x.2.2) (fun x => x.2.1 ≤ 100 ∧ x.2.2.1 0 = nI x.2.1) (fun x v w => v = some (.int (bl (inr_ x.1 x.2.1))) ∧ w = wM x.2.2) := by
  rintro ⟨r, n, S⟩ ⟨hn, h1⟩ G hG OK ⟨run, sub⟩
  dsimp only at hn h1 hG ⊢
  refine run [] 20 _ _ _ _ _ _ ?_
  conv => whnf
  refine ⟨(r, 0, S.1 0 - 1, wM S), rfl, rfl, trivial, ?_⟩
  intro v u hvu
  obtain ⟨rfl, rfl⟩ : v = some (.int (bl (inr_ r n))) ∧ u = wM S := by
    refine ⟨hvu.1.trans ?_, hvu.2⟩
    show some (Value.int (bl (0 ≤ r ∧ r ≤ S.1 0 - 1))) = _
    rw [bl_c (q := inr_ r n) (by rw [h1, le_pr (by omega)])]
  conv => whnf
  exact ⟨bl_b, hG _ _ ⟨rfl, rfl⟩⟩
theorem ct_X7_isRow (D : va_G) (dT : Nat → Nat) (l : Launch) : en_CT en_WD D vwCl dT l yX7_isRow cX7_isRow 2 (some .boolean) rm_X7_isRow f_X7_isRow := en_met en_WD1 en_WD2 (by decide) rfl rfl (tB_X7_isRow D dT l) (en_f_ln (fun _ => Nat.le_of_ble_eq_true rfl)) (en_f_bd bd_X7_isRow)
set_option maxRecDepth 100000 in
theorem mk_X7_isRow {D : va_G} {dT : Nat → Nat} {l : Launch} {R : Room} {s : State} {args : Array Value} {own : String} {idx : Nat} (h : en_WD s) (h1 : rm_X7_isRow.frames + 1 ≤ R.frames) (h2 : 8 + (2 + 11) + rm_X7_isRow.locals ≤ R.locals) (hl : (Jvm.Cond.methodLink own idx yX7_isRow).before args s = true ∨ ∃ host, (Jvm.Cond.methodLinkNest own idx yX7_isRow host).before args s = true) : en_mok en_WD D vwCl dT l R s args own (idx, 2, 9, 0, 0, f_X7_isRow) :=
  ⟨yX7_isRow, cX7_isRow, 2, some .boolean, rm_X7_isRow, 1, ct_X7_isRow D dT l, rfl, rfl, h1, h2, en_wd h 839 rfl rfl args, en_wd h 66 (by decide +kernel) rfl args, by decide, by decide, hl, ⟨RX7, TX7, 24, rfl, en_wd h 838 (by decide +kernel) rfl args, en_wd h 35 (by decide +kernel) rfl args, rfl⟩⟩
/-- the reference's new row -/
def apm (S : Sx) (n : Nat) (g l t : Int32) : Sx := xi (xa (xa (xa (xa (xi S 4 0) 1 (upd (S.2.2.1 1) n g)) 2 (upd (S.2.2.1 2) n l)) 3 (upd (S.2.2.1 3) n t)) 6 (upd (S.2.2.1 6) n (-1))) 0 (nI (n + 1))
def f_X7_row := en_f (σ := Int32 × Int32 × Int32 × Nat × Sx) (fun x => [.ref 0, .int x.1, .int x.2.1, .int x.2.2.1]) (fun x => wM x.2.2.2.2) (fun x => x.2.2.2.1 ≤ 100 ∧ x.2.2.2.2.1 0 = nI x.2.2.2.1) (fun x v w => (¬ rowq x.1 x.2.1 x.2.2.1 ∧ ansM v w (-2) (xi x.2.2.2.2 4 0)) ∨ (rowq x.1 x.2.1 x.2.2.1 ∧ x.2.2.2.1 = 100 ∧ ansM v w (-3) (xi x.2.2.2.2 4 0)) ∨ (rowq x.1 x.2.1 x.2.2.1 ∧ x.2.2.2.1 < 100 ∧ ansM v w (nI x.2.2.2.1) (apm x.2.2.2.2 x.2.2.2.1 x.1 x.2.1 x.2.2.1)))
def rm_X7_row : Room := { frames := 1, cells := 0, slots := 0, locals := 22 }
def t_X7_row : en_T := ((4, 0, 0), tb_X7_row, fl_X7, cn_X7, [(70, 3, 0, 0, 0, f_X7_in)], [], 0, some .int)
set_option maxRecDepth 100000 in
theorem tB_X7_row (D : va_G) (dT : Nat → Nat) (l : Launch) : en_TB en_WD D vwCl dT l rm_X7_row t_X7_row RX7 "row" cX7_row := ⟨tk_X7_row, fun s args meth h hn => ⟨fo_X7 h args meth, co_X7 h args, List.forall_mem_cons.mpr ⟨mk_X7_in (own := RX7) h (Nat.le_of_ble_eq_true rfl) (Nat.le_of_ble_eq_true rfl) (Or.inl (en_wd h 828 (by decide +kernel) rfl args)), fun _ h => absurd h List.not_mem_nil⟩, fun _ h => absurd h List.not_mem_nil, Or.inl rfl, en_arr h args⟩⟩
set_option maxHeartbeats 4000000 in
set_option maxRecDepth 100000 in
theorem bd_X7_row : en_B (σ := Int32 × Int32 × Int32 × Nat × Sx) t_X7_row (fun x => [.ref 0, .int x.1, .int x.2.1, .int x.2.2.1]) (fun x => wM x.2.2.2.2) (fun x => x.2.2.2.1 ≤ 100 ∧ x.2.2.2.2.1 0 = nI x.2.2.2.1) (fun x v w => (¬ rowq x.1 x.2.1 x.2.2.1 ∧ ansM v w (-2) (xi x.2.2.2.2 4 0)) ∨ (rowq x.1 x.2.1 x.2.2.1 ∧ x.2.2.2.1 = 100 ∧ ansM v w (-3) (xi x.2.2.2.2 4 0)) ∨ (rowq x.1 x.2.1 x.2.2.1 ∧ x.2.2.2.1 < 100 ∧ ansM v w (nI x.2.2.2.1) (apm x.2.2.2.2 x.2.2.2.1 x.1 x.2.1 x.2.2.1))) := by
  rintro ⟨g, l, t, n, S⟩ ⟨hn, h1⟩ G hG OK ⟨run, sub⟩
  dsimp only at hn h1 hG ⊢
  refine run [] 80 _ _ _ _ _ _ ?_
  conv => whnf
  refine ⟨(g, 0, 29, wM (xi S 4 0)), rfl, rfl, trivial, ?_⟩
  rintro _ _ ⟨rfl, rfl⟩
  conv => whnf
  refine bl_br (fun c1 => ?_) (fun c1 => ?_)
  · conv => whnf
    exact hG _ _ (Or.inl ⟨fun z => c1 ⟨z.1.1, (le_lt (b := 29) (by decide)).mpr z.1.2⟩, rfl, rfl⟩)
  have c1 : 0 ≤ g ∧ g < 30 := ⟨c1.1, (le_lt (b := 29) (by decide)).mp c1.2⟩
  conv => whnf
  refine ⟨(l, 0, 4, wM (xi S 4 0)), rfl, rfl, trivial, ?_⟩
  rintro _ _ ⟨rfl, rfl⟩
  conv => whnf
  refine bl_br (fun c2 => ?_) (fun c2 => ?_)
  · conv => whnf
    exact hG _ _ (Or.inl ⟨fun z => c2 ⟨z.2.1.1, (le_lt (b := 4) (by decide)).mpr z.2.1.2⟩, rfl, rfl⟩)
  have c2 : 0 ≤ l ∧ l < 5 := ⟨c2.1, (le_lt (b := 4) (by decide)).mp c2.2⟩
  conv => whnf
  refine ⟨(t, 0, 100000, wM (xi S 4 0)), rfl, rfl, trivial, ?_⟩
  rintro _ _ ⟨rfl, rfl⟩
  conv => whnf
  refine bl_br2 (fun c3 => ?_) (fun c3 => ?_)
  rotate_left
  · conv => whnf
    exact hG _ _ (Or.inl ⟨fun z => c3 ⟨z.2.2.1, (le_lt (b := 100000) (by decide)).mpr z.2.2.2⟩, rfl, rfl⟩)
  have c3 : 0 ≤ t ∧ t < 100001 := ⟨c3.1, (le_lt (b := 100000) (by decide)).mp c3.2⟩
  conv => whnf
  refine ⟨fun h => ?_, fun h => ?_⟩
  · have hlt : n < 100 := by
      have : n ≠ 100 := fun e => h (by show S.1 0 = _; rw [h1, e]; rfl)
      omega
    have hin : vp_in (S.1 0) 100 := by rw [h1]; exact vp_in_nI hlt (by decide)
    conv => whnf
    refine ⟨hin, ?_⟩
    conv => whnf
    refine ⟨hin, ?_⟩
    conv => whnf
    refine ⟨hin, ?_⟩
    conv => whnf
    refine ⟨hin, ?_⟩
    conv => whnf
    refine hG _ _ (Or.inr (Or.inr ⟨⟨c1, c2, c3⟩, hlt, ?_, ?_⟩))
    · show some (Value.int (S.1 0 + 1 - 1)) = _
      rw [h1, ← nI_succ, nI_pred]
    · unfold apm
      have e : (nI n).toNatClampNeg = n := nI_clamp (by omega)
      show wM (xi (xa (xa (xa (xa (xi S 4 0) 1 (upd (S.2.2.1 1) (S.1 0).toNatClampNeg g)) 2 (upd (S.2.2.1 2) (S.1 0).toNatClampNeg l)) 3 (upd (S.2.2.1 3) (S.1 0).toNatClampNeg t)) 6 (upd (S.2.2.1 6) (S.1 0).toNatClampNeg (-1))) 0 (S.1 0 + 1)) = _
      rw [h1, e, nI_succ]
  · conv => whnf
    refine hG _ _ (Or.inr (Or.inl ⟨⟨c1, c2, c3⟩, ?_, rfl, rfl⟩))
    have h : S.1 0 = 100 := h
    rw [h1] at h
    exact (nI_eq (b := 100) (by omega) (by decide)).mp h
theorem ct_X7_row (D : va_G) (dT : Nat → Nat) (l : Launch) : en_CT en_WD D vwCl dT l yX7_row cX7_row 4 (some .int) rm_X7_row f_X7_row := en_met en_WD1 en_WD2 (by decide) rfl rfl (tB_X7_row D dT l) (en_f_ln (fun _ => Nat.le_of_ble_eq_true rfl)) (en_f_bd bd_X7_row)
set_option maxRecDepth 100000 in
theorem mk_X7_row {D : va_G} {dT : Nat → Nat} {l : Launch} {R : Room} {s : State} {args : Array Value} {own : String} {idx : Nat} (h : en_WD s) (h1 : rm_X7_row.frames + 1 ≤ R.frames) (h2 : 8 + (4 + 11) + rm_X7_row.locals ≤ R.locals) (hl : (Jvm.Cond.methodLink own idx yX7_row).before args s = true ∨ ∃ host, (Jvm.Cond.methodLinkNest own idx yX7_row host).before args s = true) : en_mok en_WD D vwCl dT l R s args own (idx, 4, 9, 0, 0, f_X7_row) :=
  ⟨yX7_row, cX7_row, 4, some .int, rm_X7_row, 3, ct_X7_row D dT l, rfl, rfl, h1, h2, en_wd h 827 rfl rfl args, en_wd h 66 (by decide +kernel) rfl args, by decide, by decide, hl, ⟨RX7, TX7, 24, rfl, en_wd h 825 (by decide +kernel) rfl args, en_wd h 826 (by decide +kernel) rfl args, rfl⟩⟩
theorem mul3' (a c : Nat) : Int32.ofInt 3 * nI a + nI c = nI (a * 3 + c) := by rw [Int32.mul_comm, mul3]
def f_X7_column := en_f (σ := Int32 × Int32 × Int64 × Nat × Sx) (fun x => [.ref 0, .int x.1, .int x.2.1, .long x.2.2.1]) (fun x => wM x.2.2.2.2) (fun x => x.2.2.2.1 ≤ 100 ∧ x.2.2.2.2.1 0 = nI x.2.2.2.1) (fun x v w => (¬ (inr_ x.1 x.2.2.2.1 ∧ inr_ x.2.1 3) ∧ ansM v w (-2) (xi x.2.2.2.2 4 0)) ∨ ((inr_ x.1 x.2.2.2.1 ∧ inr_ x.2.1 3) ∧ ansM v w 1 (xl (xi x.2.2.2.2 4 0) 4 (vp_updL (x.2.2.2.2.2.2.2 4) (tn x.1 * 3 + tn x.2.1) x.2.2.1))))
def rm_X7_column : Room := { frames := 2, cells := 0, slots := 0, locals := 43 }
def t_X7_column : en_T := ((5, 0, 0), tb_X7_column, fl_X7, cn_X7, [(75, 2, 9, 0, 0, f_X7_isRow), (70, 3, 0, 0, 0, f_X7_in)], [], 0, some .int)
set_option maxRecDepth 100000 in
theorem tB_X7_column (D : va_G) (dT : Nat → Nat) (l : Launch) : en_TB en_WD D vwCl dT l rm_X7_column t_X7_column RX7 "column" cX7_column := ⟨tk_X7_column, fun s args meth h hn => ⟨fo_X7 h args meth, co_X7 h args, List.forall_mem_cons.mpr ⟨mk_X7_isRow (own := RX7) h (Nat.le_of_ble_eq_true rfl) (Nat.le_of_ble_eq_true rfl) (Or.inl (en_wd h 836 (by decide +kernel) rfl args)), List.forall_mem_cons.mpr ⟨mk_X7_in (own := RX7) h (Nat.le_of_ble_eq_true rfl) (Nat.le_of_ble_eq_true rfl) (Or.inl (en_wd h 828 (by decide +kernel) rfl args)), fun _ h => absurd h List.not_mem_nil⟩⟩, fun _ h => absurd h List.not_mem_nil, Or.inl rfl, en_arr h args⟩⟩
set_option maxHeartbeats 4000000 in
set_option maxRecDepth 100000 in
theorem bd_X7_column : en_B (σ := Int32 × Int32 × Int64 × Nat × Sx) t_X7_column (fun x => [.ref 0, .int x.1, .int x.2.1, .long x.2.2.1]) (fun x => wM x.2.2.2.2) (fun x => x.2.2.2.1 ≤ 100 ∧ x.2.2.2.2.1 0 = nI x.2.2.2.1) (fun x v w => (¬ (inr_ x.1 x.2.2.2.1 ∧ inr_ x.2.1 3) ∧ ansM v w (-2) (xi x.2.2.2.2 4 0)) ∨ ((inr_ x.1 x.2.2.2.1 ∧ inr_ x.2.1 3) ∧ ansM v w 1 (xl (xi x.2.2.2.2 4 0) 4 (vp_updL (x.2.2.2.2.2.2.2 4) (tn x.1 * 3 + tn x.2.1) x.2.2.1)))) := by
  rintro ⟨r, c, y, n, S⟩ ⟨hn, h1⟩ G hG OK ⟨run, sub⟩
  dsimp only at hn h1 hG ⊢
  refine run [] 60 _ _ _ _ _ _ ?_
  conv => whnf
  refine ⟨(r, n, xi S 4 0), rfl, rfl, ⟨hn, h1⟩, ?_⟩
  rintro _ _ ⟨rfl, rfl⟩
  conv => whnf
  refine bl_br (fun c1 => ?_) (fun c1 => ?_)
  · conv => whnf
    exact hG _ _ (Or.inl ⟨fun z => c1 z.1, rfl, rfl⟩)
  have c1 : inr_ r n := c1
  conv => whnf
  refine ⟨(c, 0, 2, wM (xi S 4 0)), rfl, rfl, trivial, ?_⟩
  rintro _ _ ⟨rfl, rfl⟩
  conv => whnf
  refine bl_br2 (fun c2 => ?_) (fun c2 => ?_)
  rotate_left
  · conv => whnf
    exact hG _ _ (Or.inl ⟨fun z => c2 ⟨z.2.1, (le_lt (b := 2) (by decide)).mpr z.2.2⟩, rfl, rfl⟩)
  have c2 : inr_ c 3 := ⟨c2.1, (le_lt (b := 2) (by decide)).mp c2.2⟩
  obtain ⟨i, hi, rfl⟩ := in_of (by omega) c1
  obtain ⟨j, hj, rfl⟩ := in_of (by decide) c2
  conv => whnf
  rw [mul3']
  refine ⟨vp_in_nI (by omega) (by decide), ?_⟩
  rw [nI_clamp (by omega)]
  conv => whnf
  refine hG _ _ (Or.inr ⟨⟨c1, c2⟩, rfl, ?_⟩)
  rw [show tn (nI i) = i from nI_clamp (by omega), show tn (nI j) = j from nI_clamp (by omega)]
  rfl
theorem ct_X7_column (D : va_G) (dT : Nat → Nat) (l : Launch) : en_CT en_WD D vwCl dT l yX7_column cX7_column 5 (some .int) rm_X7_column f_X7_column := en_met en_WD1 en_WD2 (by decide) rfl rfl (tB_X7_column D dT l) (en_f_ln (fun _ => Nat.le_of_ble_eq_true rfl)) (en_f_bd bd_X7_column)
set_option maxRecDepth 100000 in
theorem mk_X7_column {D : va_G} {dT : Nat → Nat} {l : Launch} {R : Room} {s : State} {args : Array Value} {own : String} {idx : Nat} (h : en_WD s) (h1 : rm_X7_column.frames + 1 ≤ R.frames) (h2 : 8 + (5 + 11) + rm_X7_column.locals ≤ R.locals) (hl : (Jvm.Cond.methodLink own idx yX7_column).before args s = true ∨ ∃ host, (Jvm.Cond.methodLinkNest own idx yX7_column host).before args s = true) : en_mok en_WD D vwCl dT l R s args own (idx, 4, 9, 0, 0, f_X7_column) :=
  ⟨yX7_column, cX7_column, 5, some .int, rm_X7_column, 3, ct_X7_column D dT l, rfl, rfl, h1, h2, en_wd h 835 rfl rfl args, en_wd h 66 (by decide +kernel) rfl args, by decide, by decide, hl, ⟨RX7, TX7, 24, rfl, en_wd h 833 (by decide +kernel) rfl args, en_wd h 834 (by decide +kernel) rfl args, rfl⟩⟩
/-- the loop over 64 bits -/
def bcn (x : Int64) : Nat → Int32
  | 0 => 0
  | k + 1 => bcn x k + (if (x.toUInt64 >>> ((nI k).toInt64.toUInt64 &&& Int64.toUInt64 63)).toInt64 &&& 1 = 1 then 1 else 0)
def f_X7_bits := en_f (σ := Int64 × List va_E) (fun x => [.long x.1]) (fun x => x.2) (fun _ => True) (fun x v w => v = some (.int (bcn x.1 64)) ∧ w = x.2)
def rm_X7_bits : Room := { frames := 0, cells := 0, slots := 0, locals := 0 }
def t_X7_bits : en_T := ((4, 0, 0), tb_X7_bits, fl_X7, cn_X7, [], [], 0, some .int)
set_option maxRecDepth 100000 in
theorem tB_X7_bits (D : va_G) (dT : Nat → Nat) (l : Launch) : en_TB en_WD D vwCl dT l rm_X7_bits t_X7_bits RX7 "bits" cX7_bits := ⟨tk_X7_bits, fun s args meth h hn => ⟨fo_X7 h args meth, co_X7 h args, fun _ h => absurd h List.not_mem_nil, fun _ h => absurd h List.not_mem_nil, Or.inl rfl, en_arr h args⟩⟩
set_option maxHeartbeats 4000000 in
set_option maxRecDepth 100000 in
theorem bd_X7_bits : en_B (σ := Int64 × List va_E) t_X7_bits (fun x => [.long x.1]) (fun x => x.2) (fun _ => True) (fun x v w => v = some (.int (bcn x.1 64)) ∧ w = x.2) := by
  rintro ⟨x, ws⟩ - G hG OK ⟨run, sub⟩
  dsimp only at hG ⊢
  generalize hB : bcn x 64 = B at hG
  have loop := lp_up (fun i => OK 0 0 4 [(0, .long x), (2, .int (bcn x i)), (3, .int (nI i))] [] ws) 64
    (by
      rw [hB]
      refine run [4] 60 _ _ _ _ _ _ ?_
      conv => whnf
      refine pk_le 64 64 (fun h => ?_) (fun h => absurd h (by omega))
      conv => whnf
      exact hG _ _ ⟨rfl, rfl⟩)
    (fun i hi ih => by
      rw [nI_succ] at ih
      simp only [bcn] at ih
      generalize bcn x i = Y at ih ⊢
      refine run [4] 60 _ _ _ _ _ _ ?_
      conv => whnf
      refine pk_le 64 i (fun h => absurd h (by omega)) (fun h => ?_)
      conv => whnf
      refine lc_br2 (fun hc => ?_) (fun hc => ?_)
      · have hc : ¬ (x.toUInt64 >>> ((nI i).toInt64.toUInt64 &&& Int64.toUInt64 63)).toInt64 &&& 1 = 1 := hc
        rw [if_neg hc] at ih
        conv => whnf
        exact ih
      · have hc : (x.toUInt64 >>> ((nI i).toInt64.toUInt64 &&& Int64.toUInt64 63)).toInt64 &&& 1 = 1 := hc
        rw [if_pos hc] at ih
        conv => whnf
        exact ih)
  refine run [4] 60 _ _ _ _ _ _ ?_
  conv => whnf
  exact loop 0 (by omega)
theorem ct_X7_bits (D : va_G) (dT : Nat → Nat) (l : Launch) : en_CT en_WD D vwCl dT l yX7_bits cX7_bits 4 (some .int) rm_X7_bits f_X7_bits := en_met en_WD1 en_WD2 (by decide) rfl rfl (tB_X7_bits D dT l) (en_f_ln (fun _ => Nat.le_of_ble_eq_true rfl)) (en_f_bd bd_X7_bits)
set_option maxRecDepth 100000 in
theorem mk_X7_bits {D : va_G} {dT : Nat → Nat} {l : Launch} {R : Room} {s : State} {args : Array Value} {own : String} {idx : Nat} (h : en_WD s) (h1 : rm_X7_bits.frames + 1 ≤ R.frames) (h2 : 8 + (4 + 11) + rm_X7_bits.locals ≤ R.locals) (hl : (Jvm.Cond.methodLink own idx yX7_bits).before args s = true ∨ ∃ host, (Jvm.Cond.methodLinkNest own idx yX7_bits host).before args s = true) : en_mok en_WD D vwCl dT l R s args own (idx, 1, 0, 0, 0, f_X7_bits) :=
  ⟨yX7_bits, cX7_bits, 4, some .int, rm_X7_bits, 1, ct_X7_bits D dT l, rfl, rfl, h1, h2, en_wd h 847 rfl rfl args, en_wd h 66 (by decide +kernel) rfl args, by decide, by decide, hl, ⟨en_wd h 846 (by decide +kernel) rfl args, rfl⟩⟩
