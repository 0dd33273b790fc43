/-! SplitLeaks$Steps -/
theorem mul100 (a c : Nat) : nI a * (Int8.ofInt 100).toInt32 + nI c = nI (a * 100 + c) := by rw [← nI_add, ← pk_mul]; rfl
/-- booleans are 0 or 1 -/
def zb (f : Nat → Int32) : Prop := ∀ j, f j = 0 ∨ f j = 1
theorem zb_n {x : Int32} (h : x = 0 ∨ x = 1) : narrow .boolean (.int x) = .int x := by
  rcases h with rfl | rfl <;> rfl
/-- what a step goes by: none, or one below it -/
def byok (By : Nat → Int32) : Prop := ∀ k, k < 8 → By k = -1 ∨ ∃ j, j < k ∧ By k = nI j
def f_X4_isFittedItself := en_f (σ := Nat × Nat × Sx) (fun x => [.ref 19, .int (nI x.1), .int (nI x.2.1)]) (fun x => wX x.2.2) (fun x => x.1 < 8 ∧ x.2.1 < 100 ∧ zb (x.2.2.2.2.1 22)) (fun x v w => v = some (.int (x.2.2.2.2.1 22 (x.1 * 100 + x.2.1))) ∧ w = wX x.2.2)
def rm_X4_isFittedItself : Room := { frames := 0, cells := 0, slots := 0, locals := 0 }
def t_X4_isFittedItself : en_T := ((3, 0, 0), tb_X4_isFittedItself, fl_X4, cn_X4, [], [], 0, some .boolean)
set_option maxRecDepth 100000 in
theorem tB_X4_isFittedItself (D : va_G) (dT : Nat → Nat) (l : Launch) : en_TB en_WD D vwCl dT l rm_X4_isFittedItself t_X4_isFittedItself RX4 "isFittedItself" cX4_isFittedItself := ⟨tk_X4_isFittedItself, fun s args meth h hn => ⟨fo_X4 h args meth, co_X4 h args, fun _ h => absurd h List.not_mem_nil, fun _ h => absurd h List.not_mem_nil, Or.inl rfl, en_arr h args⟩⟩
set_option maxHeartbeats 4000000 in
set_option maxRecDepth 100000 in
theorem bd_X4_isFittedItself : en_B (σ := Nat × Nat × Sx) t_X4_isFittedItself (fun x => [.ref 19, .int (nI x.1), .int (nI x.2.1)]) (fun x => wX x.2.2) (fun x => x.1 < 8 ∧ x.2.1 < 100 ∧ zb (x.2.2.2.2.1 22)) (fun x v w => v = some (.int (x.2.2.2.2.1 22 (x.1 * 100 + x.2.1))) ∧ w = wX x.2.2) := by
  rintro ⟨s, r, S⟩ ⟨hs, hr, hz⟩ G hG OK ⟨run, sub⟩
  dsimp only at hs hr hz hG ⊢
  refine run [] 60 _ _ _ _ _ _ ?_
  conv => whnf
  rw [mul100]
  refine ⟨vp_in_nI (by omega) (by decide), ?_⟩
  rw [nI_clamp (by omega)]
  conv => whnf
  exact ⟨zb_n (hz _), hG _ _ ⟨rfl, rfl⟩⟩
theorem ct_X4_isFittedItself (D : va_G) (dT : Nat → Nat) (l : Launch) : en_CT en_WD D vwCl dT l yX4_isFittedItself cX4_isFittedItself 3 (some .boolean) rm_X4_isFittedItself f_X4_isFittedItself := en_met en_WD1 en_WD2 (by decide) rfl rfl (tB_X4_isFittedItself D dT l) (en_f_ln (fun _ => Nat.le_of_ble_eq_true rfl)) (en_f_bd bd_X4_isFittedItself)
set_option maxRecDepth 100000 in
theorem mk_X4_isFittedItself {D : va_G} {dT : Nat → Nat} {l : Launch} {R : Room} {s : State} {args : Array Value} {own : String} {idx : Nat} (h : en_WD s) (h1 : rm_X4_isFittedItself.frames + 1 ≤ R.frames) (h2 : 8 + (3 + 11) + rm_X4_isFittedItself.locals ≤ R.locals) (hl : (Jvm.Cond.methodLink own idx yX4_isFittedItself).before args s = true ∨ ∃ host, (Jvm.Cond.methodLinkNest own idx yX4_isFittedItself host).before args s = true) : en_mok en_WD D vwCl dT l R s args own (idx, 3, 6, 0, 0, f_X4_isFittedItself) :=
  ⟨yX4_isFittedItself, cX4_isFittedItself, 3, some .boolean, rm_X4_isFittedItself, 2, ct_X4_isFittedItself D dT l, rfl, rfl, h1, h2, en_wd h 495 rfl rfl args, en_wd h 64 (by decide +kernel) rfl args, by decide, by decide, hl, ⟨RX4, TX4, 3, rfl, en_wd h 493 (by decide +kernel) rfl args, en_wd h 494 (by decide +kernel) rfl args, rfl⟩⟩
def f_X4_addRow := en_f (σ := Nat × Nat × Sx) (fun x => [.ref 19, .int (nI x.1), .int (nI x.2.1)]) (fun x => wX x.2.2) (fun x => x.1 < 8 ∧ x.2.1 < 100) (fun x v w => v = some (.int (x.2.2.2.2.1 21 x.1 + 1)) ∧ w = wX (xa (xa x.2.2 22 (upd (x.2.2.2.2.1 22) (x.1 * 100 + x.2.1) 1)) 21 (upd (x.2.2.2.2.1 21) x.1 (x.2.2.2.2.1 21 x.1 + 1))))
def rm_X4_addRow : Room := { frames := 0, cells := 0, slots := 0, locals := 0 }
def t_X4_addRow : en_T := ((3, 0, 0), tb_X4_addRow, fl_X4, cn_X4, [], [], 0, some .int)
set_option maxRecDepth 100000 in
theorem tB_X4_addRow (D : va_G) (dT : Nat → Nat) (l : Launch) : en_TB en_WD D vwCl dT l rm_X4_addRow t_X4_addRow RX4 "addRow" cX4_addRow := ⟨tk_X4_addRow, fun s args meth h hn => ⟨fo_X4 h args meth, co_X4 h args, fun _ h => absurd h List.not_mem_nil, fun _ h => absurd h List.not_mem_nil, Or.inl rfl, en_arr h args⟩⟩
set_option maxHeartbeats 4000000 in
set_option maxRecDepth 100000 in
theorem bd_X4_addRow : en_B (σ := Nat × Nat × Sx) t_X4_addRow (fun x => [.ref 19, .int (nI x.1), .int (nI x.2.1)]) (fun x => wX x.2.2) (fun x => x.1 < 8 ∧ x.2.1 < 100) (fun x v w => v = some (.int (x.2.2.2.2.1 21 x.1 + 1)) ∧ w = wX (xa (xa x.2.2 22 (upd (x.2.2.2.2.1 22) (x.1 * 100 + x.2.1) 1)) 21 (upd (x.2.2.2.2.1 21) x.1 (x.2.2.2.2.1 21 x.1 + 1)))) := by
  rintro ⟨s, r, S⟩ ⟨hs, hr⟩ G hG OK ⟨run, sub⟩
  dsimp only at hs hr hG ⊢
  refine run [] 60 _ _ _ _ _ _ ?_
  conv => whnf
  rw [mul100]
  refine ⟨vp_in_nI (by omega) (by decide), ?_⟩
  rw [nI_clamp (by omega)]
  conv => whnf
  refine ⟨vp_in_nI (by omega) (by decide), ?_⟩
  rw [nI_clamp (by omega)]
  conv => whnf
  refine ⟨vp_in_nI (by omega) (by decide), ?_⟩
  rw [nI_clamp (by omega)]
  conv => whnf
  refine ⟨vp_in_nI (by omega) (by decide), ?_⟩
  rw [nI_clamp (by omega)]
  conv => whnf
  refine hG _ _ ⟨?_, rfl⟩
  rw [pk_us]
  rfl
theorem ct_X4_addRow (D : va_G) (dT : Nat → Nat) (l : Launch) : en_CT en_WD D vwCl dT l yX4_addRow cX4_addRow 3 (some .int) rm_X4_addRow f_X4_addRow := en_met en_WD1 en_WD2 (by decide) rfl rfl (tB_X4_addRow D dT l) (en_f_ln (fun _ => Nat.le_of_ble_eq_true rfl)) (en_f_bd bd_X4_addRow)
set_option maxRecDepth 100000 in
theorem mk_X4_addRow {D : va_G} {dT : Nat → Nat} {l : Launch} {R : Room} {s : State} {args : Array Value} {own : String} {idx : Nat} (h : en_WD s) (h1 : rm_X4_addRow.frames + 1 ≤ R.frames) (h2 : 8 + (3 + 11) + rm_X4_addRow.locals ≤ R.locals) (hl : (Jvm.Cond.methodLink own idx yX4_addRow).before args s = true ∨ ∃ host, (Jvm.Cond.methodLinkNest own idx yX4_addRow host).before args s = true) : en_mok en_WD D vwCl dT l R s args own (idx, 3, 6, 0, 0, f_X4_addRow) :=
  ⟨yX4_addRow, cX4_addRow, 3, some .int, rm_X4_addRow, 2, ct_X4_addRow D dT l, rfl, rfl, h1, h2, en_wd h 499 rfl rfl args, en_wd h 64 (by decide +kernel) rfl args, by decide, by decide, hl, ⟨RX4, TX4, 3, rfl, en_wd h 497 (by decide +kernel) rfl args, en_wd h 498 (by decide +kernel) rfl args, rfl⟩⟩
/-- is a step fitted with a row, itself or by what it goes by (at most f steps) -/
def chn (By Ft : Nat → Int32) (r : Nat) : Nat → Int32 → Bool
  | 0, _ => false
  | f + 1, s => if s = -1 then false else (decide (Ft (s.toNatClampNeg * 100 + r) ≠ 0) || chn By Ft r f (By s.toNatClampNeg))
theorem chn_s {By Ft : Nat → Int32} {r f j : Nat} (hj : j < 2 ^ 31) (h : ¬ nI j = -1) : chn By Ft r (f + 1) (nI j) = (decide (Ft (j * 100 + r) ≠ 0) || chn By Ft r f (By j)) := by
  show (if nI j = -1 then false else _) = _
  rw [if_neg h, nI_clamp hj]
def f_X4_isFitted := en_f (σ := Nat × Nat × Sx) (fun x => [.ref 19, .int (nI x.1), .int (nI x.2.1)]) (fun x => wX x.2.2) (fun x => x.1 < 8 ∧ x.2.1 < 100 ∧ zb (x.2.2.2.2.1 22) ∧ byok (x.2.2.2.2.1 20)) (fun x v w => v = some (.int (bl (chn (x.2.2.2.2.1 20) (x.2.2.2.2.1 22) x.2.1 8 (nI x.1) = true))) ∧ w = wX x.2.2)
def rm_X4_isFitted : Room := { frames := 1, cells := 0, slots := 0, locals := 22 }
def t_X4_isFitted : en_T := ((5, 0, 0), tb_X4_isFitted, fl_X4, cn_X4, [(22, 3, 6, 0, 0, f_X4_isFittedItself)], [], 0, some .boolean)
set_option maxRecDepth 100000 in
theorem tB_X4_isFitted (D : va_G) (dT : Nat → Nat) (l : Launch) : en_TB en_WD D vwCl dT l rm_X4_isFitted t_X4_isFitted RX4 "isFitted" cX4_isFitted := ⟨tk_X4_isFitted, fun s args meth h hn => ⟨fo_X4 h args meth, co_X4 h args, List.forall_mem_cons.mpr ⟨mk_X4_isFittedItself (own := RX4) h (Nat.le_of_ble_eq_true rfl) (Nat.le_of_ble_eq_true rfl) (Or.inl (en_wd h 590 (by decide +kernel) rfl args)), fun _ h => absurd h List.not_mem_nil⟩, fun _ h => absurd h List.not_mem_nil, Or.inl rfl, en_arr h args⟩⟩
set_option maxHeartbeats 4000000 in
set_option maxRecDepth 100000 in
theorem bd_X4_isFitted : en_B (σ := Nat × Nat × Sx) t_X4_isFitted (fun x => [.ref 19, .int (nI x.1), .int (nI x.2.1)]) (fun x => wX x.2.2) (fun x => x.1 < 8 ∧ x.2.1 < 100 ∧ zb (x.2.2.2.2.1 22) ∧ byok (x.2.2.2.2.1 20)) (fun x v w => v = some (.int (bl (chn (x.2.2.2.2.1 20) (x.2.2.2.2.1 22) x.2.1 8 (nI x.1) = true))) ∧ w = wX x.2.2) := by
  rintro ⟨s, r, S⟩ ⟨hs, hr, hz, hby⟩ G hG OK ⟨run, sub⟩
  dsimp only at hs hr hz hby hG ⊢
  have loop : ∀ k i (u : Int32), i + k = 8 → (u = -1 ∨ ∃ j, j < 8 ∧ u = nI j) → chn (S.2.2.1 20) (S.2.2.1 22) r k u = chn (S.2.2.1 20) (S.2.2.1 22) r 8 (nI s) → OK 0 0 5 [(0, .ref 19), (1, .int (nI s)), (2, .int (nI r)), (3, .int u), (4, .int (nI i))] [] (wX S) := by
    intro k
    induction k with
    | zero =>
      intro i u hi hu hc
      refine run [5] 60 _ _ _ _ _ _ ?_
      conv => whnf
      refine pk_le 8 i (fun h => ?_) (fun h => absurd h (by omega))
      conv => whnf
      refine ⟨rfl, hG _ _ ⟨bl_af ?_ rfl, rfl⟩⟩
      rw [← hc]
      simp [chn]
    | succ k ih =>
      intro i u hi hu hc
      refine run [5] 60 _ _ _ _ _ _ ?_
      conv => whnf
      refine pk_le 8 i (fun h => absurd h (by omega)) (fun h => ?_)
      conv => whnf
      refine ⟨fun hu1 => ?_, fun hu1 => ?_⟩
      · conv => whnf
        refine ⟨rfl, hG _ _ ⟨bl_af ?_ rfl, rfl⟩⟩
        rw [← hc]
        have hu2 : u = -1 := hu1
        simp [chn, hu2]
      · obtain ⟨j, hj, rfl⟩ := hu.resolve_left hu1
        conv => whnf
        refine ⟨(j, r, S), rfl, rfl, ⟨hj, hr, hz⟩, ?_⟩
        rintro _ _ ⟨rfl, rfl⟩
        have hu2 : ¬ nI j = -1 := hu1
        rw [chn_s (f := k) (by omega) hu2] at hc
        conv => whnf
        refine ⟨fun hf => ?_, fun hf => ?_⟩
        · have hf : S.2.2.1 22 (j * 100 + r) = 0 := hf
          conv => whnf
          refine ⟨vp_in_nI hj (by decide), ?_⟩
          rw [nI_clamp (by omega)]
          conv => whnf
          rw [hf] at hc
          have hc : chn (S.2.2.1 20) (S.2.2.1 22) r k (S.2.2.1 20 j) = chn (S.2.2.1 20) (S.2.2.1 22) r 8 (nI s) := by rw [← hc]; rfl
          have h2 := ih (i + 1) (S.2.2.1 20 j) (by omega) (by
            rcases hby j hj with h | ⟨q, hq, h⟩
            · exact Or.inl h
            · exact Or.inr ⟨q, by omega, h⟩) hc
          rw [nI_succ] at h2
          exact h2
        · conv => whnf
          refine ⟨rfl, hG _ _ ⟨bl_at ?_ rfl, rfl⟩⟩
          have hf : ¬ S.2.2.1 22 (j * 100 + r) = 0 := hf
          rw [← hc, decide_eq_true hf]
          rfl
  refine run [5] 60 _ _ _ _ _ _ ?_
  conv => whnf
  exact loop 8 0 (nI s) rfl (Or.inr ⟨s, hs, rfl⟩) rfl
theorem ct_X4_isFitted (D : va_G) (dT : Nat → Nat) (l : Launch) : en_CT en_WD D vwCl dT l yX4_isFitted cX4_isFitted 5 (some .boolean) rm_X4_isFitted f_X4_isFitted := en_met en_WD1 en_WD2 (by decide) rfl rfl (tB_X4_isFitted D dT l) (en_f_ln (fun _ => Nat.le_of_ble_eq_true rfl)) (en_f_bd bd_X4_isFitted)
set_option maxRecDepth 100000 in
theorem mk_X4_isFitted {D : va_G} {dT : Nat → Nat} {l : Launch} {R : Room} {s : State} {args : Array Value} {own : String} {idx : Nat} (h : en_WD s) (h1 : rm_X4_isFitted.frames + 1 ≤ R.frames) (h2 : 8 + (5 + 11) + rm_X4_isFitted.locals ≤ R.locals) (hl : (Jvm.Cond.methodLink own idx yX4_isFitted).before args s = true ∨ ∃ host, (Jvm.Cond.methodLinkNest own idx yX4_isFitted host).before args s = true) : en_mok en_WD D vwCl dT l R s args own (idx, 3, 6, 0, 0, f_X4_isFitted) :=
  ⟨yX4_isFitted, cX4_isFitted, 5, some .boolean, rm_X4_isFitted, 2, ct_X4_isFitted D dT l, rfl, rfl, h1, h2, en_wd h 589 rfl rfl args, en_wd h 64 (by decide +kernel) rfl args, by decide, by decide, hl, ⟨RX4, TX4, 3, rfl, en_wd h 587 (by decide +kernel) rfl args, en_wd h 588 (by decide +kernel) rfl args, rfl⟩⟩
