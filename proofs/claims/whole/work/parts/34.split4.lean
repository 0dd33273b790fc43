/-! SplitLeaks$Splitter: times -/
/-- the place of a value -/
abbrev tn (x : Int32) : Nat := x.toNatClampNeg
/-- a row goes in, from the place a down -/
def insS (T : Nat → Int32) (row : Int32) : Nat → (Nat → Int32) → (Nat → Int32)
  | 0, f => upd f 0 row
  | a + 1, f => if T (tn (f a)) ≤ T (tn row) then upd f (a + 1) row else insS T row a (upd f (a + 1) (f a))
/-- sorted by insertion, the first i things -/
def srt (T : Nat → Int32) (f : Nat → Int32) : Nat → (Nat → Int32)
  | 0 => f
  | i + 1 => insS T (srt T f i i) i (srt T f i)
theorem insS_v (T : Nat → Int32) {row : Int32} {b : Nat} (hr : ∃ r, r < b ∧ row = nI r) : ∀ (a : Nat) (f : Nat → Int32) (m : Nat), a < m → vld f m b → vld (insS T row a f) m b
  | 0, f, m, ha, h => fun i hi => by
    simp only [insS]
    by_cases e : i = 0
    · rw [e, pk_us]; exact hr
    · rw [pk_un e]; exact h i hi
  | a + 1, f, m, ha, h => fun i hi => by
    simp only [insS]
    split
    · by_cases e : i = a + 1
      · rw [e, pk_us]; exact hr
      · rw [pk_un e]; exact h i hi
    · refine insS_v T hr a _ m (by omega) (fun j hj => ?_) i hi
      by_cases e : j = a + 1
      · rw [e, pk_us]; exact h a (by omega)
      · rw [pk_un e]; exact h j hj
theorem srt_v (T : Nat → Int32) {f : Nat → Int32} {m b : Nat} (h : vld f m b) : ∀ i, i ≤ m → vld (srt T f i) m b
  | 0, _ => h
  | i + 1, hi => insS_v T (srt_v T h i (by omega) i (by omega)) i _ m (by omega) (srt_v T h i (by omega))
def f_X3_sortByTime := en_f (σ := Nat × Sx) (fun _ => [.ref 13]) (fun x => wX x.2) (fun x => x.1 ≤ 100 ∧ x.2.1 4 = nI x.1 ∧ vld (x.2.2.2.1 16) x.1 100) (fun x v w => v = none ∧ w = wX (xa x.2 16 (srt (x.2.2.2.1 4) (x.2.2.2.1 16) x.1)))
def rm_X3_sortByTime : Room := { frames := 0, cells := 0, slots := 0, locals := 0 }
def t_X3_sortByTime : en_T := ((4, 0, 0), tb_X3_sortByTime, fl_X3, cn_X3, [], [], 0, none)
set_option maxRecDepth 100000 in
theorem tB_X3_sortByTime (D : va_G) (dT : Nat → Nat) (l : Launch) : en_TB en_WD D vwCl dT l rm_X3_sortByTime t_X3_sortByTime RX3 "sortByTime" cX3_sortByTime := ⟨tk_X3_sortByTime, fun s args meth h hn => ⟨fo_X3 h args meth, co_X3 h args, fun _ h => absurd h List.not_mem_nil, fun _ h => absurd h List.not_mem_nil, Or.inl rfl, en_arr h args⟩⟩
set_option maxHeartbeats 4000000 in
set_option maxRecDepth 100000 in
theorem bd_X3_sortByTime : en_B (σ := Nat × Sx) t_X3_sortByTime (fun _ => [.ref 13]) (fun x => wX x.2) (fun x => x.1 ≤ 100 ∧ x.2.1 4 = nI x.1 ∧ vld (x.2.2.2.1 16) x.1 100) (fun x v w => v = none ∧ w = wX (xa x.2 16 (srt (x.2.2.2.1 4) (x.2.2.2.1 16) x.1))) := by
  rintro ⟨m, S⟩ ⟨hm, h4, hv⟩ G hG OK ⟨run, sub⟩
  dsimp only at hm h4 hv hG ⊢
  have hs1 : srt (S.2.2.1 4) (S.2.2.1 16) 1 = S.2.2.1 16 := upd_id _ 0
  have inner : ∀ (i : Nat) (row : Int32), i < m → (∃ r, r < 100 ∧ row = nI r) → ∀ (a : Nat) (f : Nat → Int32), a ≤ i → vld f m 100 → OK 0 0 2 [(0, .ref 13), (1, .int (nI (i + 1)))] [] (wX (xa S 16 (insS (S.2.2.1 4) row a f))) → OK 0 0 19 [(0, .ref 13), (1, .int (nI i)), (2, .int row), (3, .int (nI a))] [] (wX (xa S 16 f)) := by
    intro i row hi hrow a
    obtain ⟨rw, hrw, hrow⟩ := hrow
    induction a with
    | zero =>
      intro f ha hf hN
      rw [nI_succ] at hN
      refine run [2, 19] 60 _ _ _ _ _ _ ?_
      conv => whnf
      refine pk_le 0 0 (fun _ => ?_) (fun h => absurd h (by omega))
      conv => whnf
      refine ⟨vp_in_nI (n := 0) (by omega) (by decide), ?_⟩
      conv => whnf
      exact sub [0, 1] _ _ _ _ _ _ _ rfl hN
    | succ a ih =>
      intro f ha hf hN
      have hfa := vld_lt hf (i := a) (by omega) (by decide)
      refine run [2, 19] 60 _ _ _ _ _ _ ?_
      conv => whnf
      refine pk_le (a + 1) 0 (fun h => absurd h (by omega)) (fun _ => ?_)
      conv => whnf
      rw [show nI (a + 1) - Int32.ofInt 1 = nI a from nI_pred a]
      refine ⟨vp_in_nI (by omega) (by decide), ?_⟩
      rw [nI_clamp (by omega)]
      conv => whnf
      refine ⟨vld_in hf (by omega) (by decide), ?_⟩
      conv => whnf
      refine ⟨by rw [hrow]; exact vp_in_nI hrw (by decide), ?_⟩
      conv => whnf
      refine ⟨fun hc => ?_, fun hc => ?_⟩
      · have hc : S.2.2.1 4 (tn (f a)) ≤ S.2.2.1 4 (tn row) := hc
        conv => whnf
        refine ⟨vp_in_nI (by omega) (by decide), ?_⟩
        rw [nI_clamp (by omega)]
        conv => whnf
        simp only [insS] at hN
        rw [if_pos hc, nI_succ] at hN
        exact sub [0, 1] _ _ _ _ _ _ _ rfl hN
      · have hc : ¬ S.2.2.1 4 (tn (f a)) ≤ S.2.2.1 4 (tn row) := hc
        conv => whnf
        rw [show nI (a + 1) - Int32.ofInt 1 = nI a from nI_pred a]
        refine ⟨vp_in_nI (by omega) (by decide), ?_⟩
        rw [nI_clamp (by omega)]
        conv => whnf
        refine ⟨vp_in_nI (by omega) (by decide), ?_⟩
        rw [nI_clamp (by omega)]
        conv => whnf
        simp only [insS] at hN
        rw [if_neg hc] at hN
        have h2 := ih (upd f (a + 1) (f a)) (by omega) (fun j hj => by
          by_cases e : j = a + 1
          · rw [e, pk_us]; exact hf a (by omega)
          · rw [pk_un e]; exact hf j hj) hN
        have hN2 := h2
        rw [← pk_m1 a] at hN2
        exact sub [0, 1, 2, 3] _ _ _ _ _ _ _ rfl hN2
  have loop := lp_up (fun i => 1 ≤ i → OK 0 0 2 [(0, .ref 13), (1, .int (nI i))] [] (wX (xa S 16 (srt (S.2.2.1 4) (S.2.2.1 16) i)))) m
    (fun _ => by
      refine run [2, 19] 60 _ _ _ _ _ _ ?_
      conv => whnf
      refine pk_le m m (fun h => ?_) (fun h => absurd h (by omega)) h4
      conv => whnf
      exact hG _ _ ⟨rfl, rfl⟩)
    (fun i hi ih h1 => by
      have hvi := srt_v (S.2.2.1 4) hv i (by omega)
      refine run [2, 19] 60 _ _ _ _ _ _ ?_
      conv => whnf
      refine pk_le m i (fun h => absurd h (by omega)) (fun h => ?_) h4
      conv => whnf
      refine ⟨vp_in_nI (by omega) (by decide), ?_⟩
      rw [nI_clamp (by omega)]
      conv => whnf
      exact inner i _ hi (hvi i hi) i _ (Nat.le_refl _) hvi (ih (by omega)))
  by_cases h0 : m = 0
  · subst h0
    refine run [] 60 _ _ _ _ _ _ ?_
    conv => whnf
    refine pk_le 0 1 (fun _ => ?_) (fun h => absurd h (by omega)) h4
    conv => whnf
    exact hG _ _ ⟨rfl, rfl⟩
  · refine run [2] 60 _ _ _ _ _ _ ?_
    conv => whnf
    have h2 := loop 1 (by omega) (Nat.le_refl 1)
    rw [hs1] at h2
    exact h2
theorem ct_X3_sortByTime (D : va_G) (dT : Nat → Nat) (l : Launch) : en_CT en_WD D vwCl dT l yX3_sortByTime cX3_sortByTime 4 (none) rm_X3_sortByTime f_X3_sortByTime := en_met en_WD1 en_WD2 (by decide) rfl rfl (tB_X3_sortByTime D dT l) (en_f_ln (fun _ => Nat.le_of_ble_eq_true rfl)) (en_f_bd bd_X3_sortByTime)
set_option maxRecDepth 100000 in
theorem mk_X3_sortByTime {D : va_G} {dT : Nat → Nat} {l : Launch} {R : Room} {s : State} {args : Array Value} {own : String} {idx : Nat} (h : en_WD s) (h1 : rm_X3_sortByTime.frames + 1 ≤ R.frames) (h2 : 8 + (4 + 11) + rm_X3_sortByTime.locals ≤ R.locals) (hl : (Jvm.Cond.methodLink own idx yX3_sortByTime).before args s = true ∨ ∃ host, (Jvm.Cond.methodLinkNest own idx yX3_sortByTime host).before args s = true) : en_mok en_WD D vwCl dT l R s args own (idx, 1, 5, 0, 0, f_X3_sortByTime) :=
  ⟨yX3_sortByTime, cX3_sortByTime, 4, none, rm_X3_sortByTime, 0, ct_X3_sortByTime D dT l, rfl, rfl, h1, h2, en_wd h 387 rfl rfl args, en_wd h 62 (by decide +kernel) rfl args, by decide, by decide, hl, ⟨RX3, TX3, 8, rfl, en_wd h 386 (by decide +kernel) rfl args, en_wd h 11 (by decide +kernel) rfl args, rfl⟩⟩
/-- rows of like times are joined: up to the i-th -/
def jn (T O : Nat → Int32) (pl : Nat → Int32) : Nat → (Nat → Int32)
  | 0 => pl
  | i + 1 => if T (tn (O (i + 1))) = T (tn (O i)) then upd (jn T O pl i) (tn (O (i + 1))) (jn T O pl i (tn (O i))) else jn T O pl i
def f_X3_joinLikeTimes := en_f (σ := Nat × Sx) (fun _ => [.ref 13]) (fun x => wX x.2) (fun x => x.1 ≤ 100 ∧ x.2.1 4 = nI x.1 ∧ vld (x.2.2.2.1 16) x.1 100) (fun x v w => v = none ∧ w = wX (xa x.2 15 (jn (x.2.2.2.1 4) (x.2.2.2.1 16) (x.2.2.2.1 15) (x.1 - 1))))
def rm_X3_joinLikeTimes : Room := { frames := 0, cells := 0, slots := 0, locals := 0 }
def t_X3_joinLikeTimes : en_T := ((2, 0, 0), tb_X3_joinLikeTimes, fl_X3, cn_X3, [], [], 0, none)
set_option maxRecDepth 100000 in
theorem tB_X3_joinLikeTimes (D : va_G) (dT : Nat → Nat) (l : Launch) : en_TB en_WD D vwCl dT l rm_X3_joinLikeTimes t_X3_joinLikeTimes RX3 "joinLikeTimes" cX3_joinLikeTimes := ⟨tk_X3_joinLikeTimes, fun s args meth h hn => ⟨fo_X3 h args meth, co_X3 h args, fun _ h => absurd h List.not_mem_nil, fun _ h => absurd h List.not_mem_nil, Or.inl rfl, en_arr h args⟩⟩
set_option maxHeartbeats 4000000 in
set_option maxRecDepth 100000 in
theorem bd_X3_joinLikeTimes : en_B (σ := Nat × Sx) t_X3_joinLikeTimes (fun _ => [.ref 13]) (fun x => wX x.2) (fun x => x.1 ≤ 100 ∧ x.2.1 4 = nI x.1 ∧ vld (x.2.2.2.1 16) x.1 100) (fun x v w => v = none ∧ w = wX (xa x.2 15 (jn (x.2.2.2.1 4) (x.2.2.2.1 16) (x.2.2.2.1 15) (x.1 - 1)))) := by
  rintro ⟨m, S⟩ ⟨hm, h4, hv⟩ G hG OK ⟨run, sub⟩
  dsimp only at hm h4 hv hG ⊢
  have loop := lp_up (fun i => 1 ≤ i → OK 0 0 2 [(0, .ref 13), (1, .int (nI i))] [] (wX (xa S 15 (jn (S.2.2.1 4) (S.2.2.1 16) (S.2.2.1 15) (i - 1))))) m
    (fun _ => by
      refine run [2] 60 _ _ _ _ _ _ ?_
      conv => whnf
      refine pk_le m m (fun h => ?_) (fun h => absurd h (by omega)) h4
      conv => whnf
      exact hG _ _ ⟨rfl, rfl⟩)
    (fun i hi ih h1 => by
      obtain ⟨q, rfl⟩ : ∃ q, i = q + 1 := ⟨i - 1, by omega⟩
      have ih : OK 0 0 2 [(0, .ref 13), (1, .int (nI (q + 1 + 1)))] [] (wX (xa S 15 (jn (S.2.2.1 4) (S.2.2.1 16) (S.2.2.1 15) (q + 1)))) := ih (by omega)
      show OK 0 0 2 [(0, .ref 13), (1, .int (nI (q + 1)))] [] (wX (xa S 15 (jn (S.2.2.1 4) (S.2.2.1 16) (S.2.2.1 15) q)))
      rw [nI_succ (q + 1)] at ih
      refine run [2] 60 _ _ _ _ _ _ ?_
      conv => whnf
      refine pk_le m (q + 1) (fun h => absurd h (by omega)) (fun h => ?_) h4
      conv => whnf
      refine ⟨vp_in_nI (by omega) (by decide), ?_⟩
      rw [nI_clamp (by omega)]
      conv => whnf
      refine ⟨vld_in hv (by omega) (by decide), ?_⟩
      conv => whnf
      rw [show nI (q + 1) - Int32.ofInt 1 = nI q from nI_pred q]
      refine ⟨vp_in_nI (by omega) (by decide), ?_⟩
      rw [nI_clamp (by omega)]
      conv => whnf
      refine ⟨vld_in hv (by omega) (by decide), ?_⟩
      conv => whnf
      simp only [jn] at ih
      refine ⟨fun hc => ?_, fun hc => ?_⟩
      · have hc : ¬ S.2.2.1 4 (tn (S.2.2.1 16 (q + 1))) = S.2.2.1 4 (tn (S.2.2.1 16 q)) := hc
        conv => whnf
        rw [if_neg hc] at ih
        exact ih
      · have hc : S.2.2.1 4 (tn (S.2.2.1 16 (q + 1))) = S.2.2.1 4 (tn (S.2.2.1 16 q)) := hc
        conv => whnf
        refine ⟨vp_in_nI (by omega) (by decide), ?_⟩
        rw [nI_clamp (by omega)]
        conv => whnf
        rw [show nI (q + 1) - Int32.ofInt 1 = nI q from nI_pred q]
        refine ⟨vp_in_nI (by omega) (by decide), ?_⟩
        rw [nI_clamp (by omega)]
        conv => whnf
        refine ⟨vld_in hv (by omega) (by decide), ?_⟩
        conv => whnf
        refine ⟨vld_in hv (by omega) (by decide), ?_⟩
        conv => whnf
        rw [if_pos hc] at ih
        exact ih)
  by_cases h0 : m = 0
  · subst h0
    refine run [] 60 _ _ _ _ _ _ ?_
    conv => whnf
    refine pk_le 0 1 (fun _ => ?_) (fun h => absurd h (by omega)) h4
    conv => whnf
    exact hG _ _ ⟨rfl, rfl⟩
  · refine run [2] 60 _ _ _ _ _ _ ?_
    conv => whnf
    exact loop 1 (by omega) (Nat.le_refl 1)
theorem ct_X3_joinLikeTimes (D : va_G) (dT : Nat → Nat) (l : Launch) : en_CT en_WD D vwCl dT l yX3_joinLikeTimes cX3_joinLikeTimes 2 (none) rm_X3_joinLikeTimes f_X3_joinLikeTimes := en_met en_WD1 en_WD2 (by decide) rfl rfl (tB_X3_joinLikeTimes D dT l) (en_f_ln (fun _ => Nat.le_of_ble_eq_true rfl)) (en_f_bd bd_X3_joinLikeTimes)
set_option maxRecDepth 100000 in
theorem mk_X3_joinLikeTimes {D : va_G} {dT : Nat → Nat} {l : Launch} {R : Room} {s : State} {args : Array Value} {own : String} {idx : Nat} (h : en_WD s) (h1 : rm_X3_joinLikeTimes.frames + 1 ≤ R.frames) (h2 : 8 + (2 + 11) + rm_X3_joinLikeTimes.locals ≤ R.locals) (hl : (Jvm.Cond.methodLink own idx yX3_joinLikeTimes).before args s = true ∨ ∃ host, (Jvm.Cond.methodLinkNest own idx yX3_joinLikeTimes host).before args s = true) : en_mok en_WD D vwCl dT l R s args own (idx, 1, 5, 0, 0, f_X3_joinLikeTimes) :=
  ⟨yX3_joinLikeTimes, cX3_joinLikeTimes, 2, none, rm_X3_joinLikeTimes, 0, ct_X3_joinLikeTimes D dT l, rfl, rfl, h1, h2, en_wd h 391 rfl rfl args, en_wd h 62 (by decide +kernel) rfl args, by decide, by decide, hl, ⟨RX3, TX3, 8, rfl, en_wd h 390 (by decide +kernel) rfl args, en_wd h 12 (by decide +kernel) rfl args, rfl⟩⟩
