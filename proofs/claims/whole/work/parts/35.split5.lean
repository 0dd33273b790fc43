/-! SplitLeaks$Splitter: gaps -/
theorem in_of {x : Int32} {b : Nat} (hb : b < 2 ^ 31) (h : 0 ≤ x ∧ x < nI b) : ∃ j, j < b ∧ x = nI j := by
  rcases pk_ix x hb with h1 | h1 | h1
  · exact absurd h1 (Int32.not_lt.mpr h.1)
  · exact absurd h.2 (Int32.not_lt.mpr h1)
  · exact h1
theorem of_in {j b : Nat} (hj : j < b) (hb : b < 2 ^ 31) : 0 ≤ nI j ∧ nI j < nI b := ⟨nI_pos' (by omega), nI_lt hj hb⟩
/-- the latest time of each part, after r rows -/
def lat (T Pl : Nat → Int32) (old : Nat → Int32) : Nat → (Nat → Int32)
  | 0 => mx 4 (fun _ => -1) old
  | r + 1 => if (0 ≤ Pl r ∧ Pl r < 4) ∧ lat T Pl old r (tn (Pl r)) < T r then upd (lat T Pl old r) (tn (Pl r)) (T r) else lat T Pl old r
def f_X3_findLatest := en_f (σ := Nat × Sx) (fun _ => [.ref 13]) (fun x => wX x.2) (fun x => x.1 ≤ 100 ∧ x.2.1 1 = nI x.1) (fun x v w => v = none ∧ w = wX (xa x.2 18 (lat (x.2.2.2.1 4) (x.2.2.2.1 15) (x.2.2.2.1 18) x.1)))
def rm_X3_findLatest : Room := { frames := 1, cells := 0, slots := 0, locals := 21 }
def t_X3_findLatest : en_T := ((3, 0, 0), tb_X3_findLatest, fl_X3, cn_X3, [(146, 2, 0, 0, 0, f_X6_isWithin)], [], 0, none)
set_option maxRecDepth 100000 in
theorem tB_X3_findLatest (D : va_G) (dT : Nat → Nat) (l : Launch) : en_TB en_WD D vwCl dT l rm_X3_findLatest t_X3_findLatest RX3 "findLatest" cX3_findLatest := ⟨tk_X3_findLatest, fun s args meth h hn => ⟨fo_X3 h args meth, co_X3 h args, List.forall_mem_cons.mpr ⟨mk_X6_isWithin (own := RX3) h (Nat.le_of_ble_eq_true rfl) (Nat.le_of_ble_eq_true rfl) (Or.inr ⟨"SplitLeaks", en_wd h 396 (by decide +kernel) rfl args⟩), fun _ h => absurd h List.not_mem_nil⟩, fun _ h => absurd h List.not_mem_nil, Or.inl rfl, en_arr h args⟩⟩
set_option maxHeartbeats 4000000 in
set_option maxRecDepth 100000 in
theorem bd_X3_findLatest : en_B (σ := Nat × Sx) t_X3_findLatest (fun _ => [.ref 13]) (fun x => wX x.2) (fun x => x.1 ≤ 100 ∧ x.2.1 1 = nI x.1) (fun x v w => v = none ∧ w = wX (xa x.2 18 (lat (x.2.2.2.1 4) (x.2.2.2.1 15) (x.2.2.2.1 18) x.1))) := by
  rintro ⟨n, S⟩ ⟨hn, h1⟩ G hG OK ⟨run, sub⟩
  dsimp only at hn h1 hG ⊢
  have loop2 := lp_up (fun i => OK 0 0 22 [(0, .ref 13), (1, .int (nI i))] [] (wX (xa S 18 (lat (S.2.2.1 4) (S.2.2.1 15) (S.2.2.1 18) i)))) n
    (by
      refine run [22] 60 _ _ _ _ _ _ ?_
      conv => whnf
      refine pk_le n n (fun h => ?_) (fun h => absurd h (by omega)) h1
      conv => whnf
      exact hG _ _ ⟨rfl, rfl⟩)
    (fun i hi ih => by
      rw [nI_succ] at ih
      refine run [22] 60 _ _ _ _ _ _ ?_
      conv => whnf
      refine pk_le n i (fun h => absurd h (by omega)) (fun h => ?_) h1
      conv => whnf
      refine ⟨vp_in_nI (by omega) (by decide), ?_⟩
      rw [nI_clamp (by omega)]
      conv => whnf
      refine ⟨(S.2.2.1 15 i, 4, wX (xa S 18 (lat (S.2.2.1 4) (S.2.2.1 15) (S.2.2.1 18) i))), rfl, rfl, trivial, ?_⟩
      intro v u hvu
      obtain ⟨rfl, rfl⟩ : v = some (.int (bl (0 ≤ S.2.2.1 15 i ∧ S.2.2.1 15 i < 4))) ∧ u = wX (xa S 18 (lat (S.2.2.1 4) (S.2.2.1 15) (S.2.2.1 18) i)) := hvu
      simp only [lat] at ih
      conv => whnf
      refine bl_br (fun hc => ?_) (fun hc => ?_)
      · conv => whnf
        rw [if_neg (fun z => hc z.1)] at ih
        exact sub [0, 1] _ _ _ _ _ _ _ rfl ih
      · obtain ⟨c, hc4, hcc⟩ := in_of (b := 4) (by decide) hc
        have hin : vp_in (S.2.2.1 15 i) 4 := by rw [hcc]; exact vp_in_nI hc4 (by decide)
        conv => whnf
        refine ⟨vp_in_nI (by omega) (by decide), ?_⟩
        rw [nI_clamp (by omega)]
        conv => whnf
        refine ⟨hin, ?_⟩
        conv => whnf
        refine ⟨fun hd => ?_, fun hd => ?_⟩
        · have hd : S.2.2.1 4 i ≤ lat (S.2.2.1 4) (S.2.2.1 15) (S.2.2.1 18) i (tn (S.2.2.1 15 i)) := hd
          conv => whnf
          rw [if_neg (fun z => absurd z.2 (Int32.not_lt.mpr hd))] at ih
          exact sub [0, 1] _ _ _ _ _ _ _ rfl ih
        · have hd : ¬ S.2.2.1 4 i ≤ lat (S.2.2.1 4) (S.2.2.1 15) (S.2.2.1 18) i (tn (S.2.2.1 15 i)) := hd
          conv => whnf
          refine ⟨vp_in_nI (by omega) (by decide), ?_⟩
          rw [nI_clamp (by omega)]
          conv => whnf
          refine ⟨hin, ?_⟩
          conv => whnf
          rw [if_pos ⟨hc, Int32.not_le.mp hd⟩] at ih
          exact sub [0, 1] _ _ _ _ _ _ _ rfl ih)
  have loop1 := lp_up (fun p => OK 0 0 2 [(0, .ref 13), (1, .int (nI p))] [] (wX (xa S 18 (mx p (fun _ => -1) (S.2.2.1 18))))) 4
    (by
      refine run [2, 22] 60 _ _ _ _ _ _ ?_
      conv => whnf
      refine pk_le 4 4 (fun h => ?_) (fun h => absurd h (by omega))
      conv => whnf
      exact loop2 0 (by omega))
    (fun p hp ih => by
      rw [nI_succ, ← mx_s] at ih
      refine run [2, 22] 60 _ _ _ _ _ _ ?_
      conv => whnf
      refine pk_le 4 p (fun h => absurd h (by omega)) (fun h => ?_)
      conv => whnf
      refine ⟨vp_in_nI (by omega) (by decide), ?_⟩
      rw [nI_clamp (by omega)]
      conv => whnf
      exact ih)
  refine run [2] 60 _ _ _ _ _ _ ?_
  conv => whnf
  have h0 := loop1 0 (by omega)
  rw [mx_0] at h0
  exact h0
theorem ct_X3_findLatest (D : va_G) (dT : Nat → Nat) (l : Launch) : en_CT en_WD D vwCl dT l yX3_findLatest cX3_findLatest 3 (none) rm_X3_findLatest f_X3_findLatest := en_met en_WD1 en_WD2 (by decide) rfl rfl (tB_X3_findLatest D dT l) (en_f_ln (fun _ => Nat.le_of_ble_eq_true rfl)) (en_f_bd bd_X3_findLatest)
set_option maxRecDepth 100000 in
theorem mk_X3_findLatest {D : va_G} {dT : Nat → Nat} {l : Launch} {R : Room} {s : State} {args : Array Value} {own : String} {idx : Nat} (h : en_WD s) (h1 : rm_X3_findLatest.frames + 1 ≤ R.frames) (h2 : 8 + (3 + 11) + rm_X3_findLatest.locals ≤ R.locals) (hl : (Jvm.Cond.methodLink own idx yX3_findLatest).before args s = true ∨ ∃ host, (Jvm.Cond.methodLinkNest own idx yX3_findLatest host).before args s = true) : en_mok en_WD D vwCl dT l R s args own (idx, 1, 5, 0, 0, f_X3_findLatest) :=
  ⟨yX3_findLatest, cX3_findLatest, 3, none, rm_X3_findLatest, 0, ct_X3_findLatest D dT l, rfl, rfl, h1, h2, en_wd h 395 rfl rfl args, en_wd h 62 (by decide +kernel) rfl args, by decide, by decide, hl, ⟨RX3, TX3, 8, rfl, en_wd h 394 (by decide +kernel) rfl args, en_wd h 13 (by decide +kernel) rfl args, rfl⟩⟩
def f_X3_isInGap := en_f (σ := Nat × Int32 × Nat × Sx) (fun x => [.ref 13, .int (nI x.1), .int x.2.1]) (fun x => wX x.2.2.2) (fun x => x.1 < 100 ∧ x.2.2.1 ≤ 4 ∧ x.2.2.2.2.2.1 15 x.1 = nI x.2.2.1) (fun x v w => v = some (.int (bl (fs (fun p => x.2.2.2.2.2.1 18 p ≠ -1 ∧ x.2.2.2.2.2.1 4 x.1 < x.2.2.2.2.2.1 18 p + x.2.1) x.2.2.1 ≠ none))) ∧ w = wX x.2.2.2)
def rm_X3_isInGap : Room := { frames := 0, cells := 0, slots := 0, locals := 0 }
def t_X3_isInGap : en_T := ((4, 0, 0), tb_X3_isInGap, fl_X3, cn_X3, [], [], 0, some .boolean)
set_option maxRecDepth 100000 in
theorem tB_X3_isInGap (D : va_G) (dT : Nat → Nat) (l : Launch) : en_TB en_WD D vwCl dT l rm_X3_isInGap t_X3_isInGap RX3 "isInGap" cX3_isInGap := ⟨tk_X3_isInGap, fun s args meth h hn => ⟨fo_X3 h args meth, co_X3 h args, fun _ h => absurd h List.not_mem_nil, fun _ h => absurd h List.not_mem_nil, Or.inl rfl, en_arr h args⟩⟩
set_option maxHeartbeats 4000000 in
set_option maxRecDepth 100000 in
theorem bd_X3_isInGap : en_B (σ := Nat × Int32 × Nat × Sx) t_X3_isInGap (fun x => [.ref 13, .int (nI x.1), .int x.2.1]) (fun x => wX x.2.2.2) (fun x => x.1 < 100 ∧ x.2.2.1 ≤ 4 ∧ x.2.2.2.2.2.1 15 x.1 = nI x.2.2.1) (fun x v w => v = some (.int (bl (fs (fun p => x.2.2.2.2.2.1 18 p ≠ -1 ∧ x.2.2.2.2.2.1 4 x.1 < x.2.2.2.2.2.1 18 p + x.2.1) x.2.2.1 ≠ none))) ∧ w = wX x.2.2.2) := by
  rintro ⟨r, g, c, S⟩ ⟨hr, hc, h15⟩ G hG OK ⟨run, sub⟩
  dsimp only at hr hc h15 hG ⊢
  have loop := lp_up (fun i => fs (fun p => S.2.2.1 18 p ≠ -1 ∧ S.2.2.1 4 r < S.2.2.1 18 p + g) i = none → OK 0 0 2 [(0, .ref 13), (1, .int (nI r)), (2, .int g), (3, .int (nI i))] [] (wX S)) c
    (fun hf => by
      refine run [2] 60 _ _ _ _ _ _ ?_
      conv => whnf
      refine ⟨vp_in_nI (by omega) (by decide), ?_⟩
      rw [nI_clamp (by omega)]
      conv => whnf
      refine pk_le c c (fun h => ?_) (fun h => absurd h (by omega)) h15
      conv => whnf
      exact ⟨rfl, hG _ _ ⟨bl_af (fun z => z hf) rfl, rfl⟩⟩)
    (fun i hi ih hf => by
      rw [nI_succ] at ih
      refine run [2] 60 _ _ _ _ _ _ ?_
      conv => whnf
      refine ⟨vp_in_nI (by omega) (by decide), ?_⟩
      rw [nI_clamp (by omega)]
      conv => whnf
      refine pk_le c i (fun h => absurd h (by omega)) (fun h => ?_) h15
      conv => whnf
      refine ⟨vp_in_nI (by omega) (by decide), ?_⟩
      rw [nI_clamp (by omega)]
      conv => whnf
      refine ⟨fun hp => ?_, fun hp => ?_⟩
      · conv => whnf
        exact ih (fs_f hf (fun z => z.1 hp))
      · conv => whnf
        refine ⟨vp_in_nI (by omega) (by decide), ?_⟩
        rw [nI_clamp (by omega)]
        conv => whnf
        refine ⟨vp_in_nI (by omega) (by decide), ?_⟩
        rw [nI_clamp (by omega)]
        conv => whnf
        refine ⟨fun hq => ?_, fun hq => ?_⟩
        · conv => whnf
          exact ih (fs_f hf (fun z => absurd z.2 (Int32.not_lt.mpr hq)))
        · conv => whnf
          have := fs_s (fs_t (p := fun p => S.2.2.1 18 p ≠ -1 ∧ S.2.2.1 4 r < S.2.2.1 18 p + g) hf ⟨hp, Int32.not_le.mp hq⟩) c (by omega)
          exact ⟨rfl, hG _ _ ⟨bl_at (fun z => by rw [this] at z; cases z) rfl, rfl⟩⟩)
  refine run [2] 60 _ _ _ _ _ _ ?_
  conv => whnf
  exact loop 0 (by omega) rfl
theorem ct_X3_isInGap (D : va_G) (dT : Nat → Nat) (l : Launch) : en_CT en_WD D vwCl dT l yX3_isInGap cX3_isInGap 4 (some .boolean) rm_X3_isInGap f_X3_isInGap := en_met en_WD1 en_WD2 (by decide) rfl rfl (tB_X3_isInGap D dT l) (en_f_ln (fun _ => Nat.le_of_ble_eq_true rfl)) (en_f_bd bd_X3_isInGap)
set_option maxRecDepth 100000 in
theorem mk_X3_isInGap {D : va_G} {dT : Nat → Nat} {l : Launch} {R : Room} {s : State} {args : Array Value} {own : String} {idx : Nat} (h : en_WD s) (h1 : rm_X3_isInGap.frames + 1 ≤ R.frames) (h2 : 8 + (4 + 11) + rm_X3_isInGap.locals ≤ R.locals) (hl : (Jvm.Cond.methodLink own idx yX3_isInGap).before args s = true ∨ ∃ host, (Jvm.Cond.methodLinkNest own idx yX3_isInGap host).before args s = true) : en_mok en_WD D vwCl dT l R s args own (idx, 3, 5, 0, 0, f_X3_isInGap) :=
  ⟨yX3_isInGap, cX3_isInGap, 4, some .boolean, rm_X3_isInGap, 2, ct_X3_isInGap D dT l, rfl, rfl, h1, h2, en_wd h 400 rfl rfl args, en_wd h 62 (by decide +kernel) rfl args, by decide, by decide, hl, ⟨RX3, TX3, 8, rfl, en_wd h 399 (by decide +kernel) rfl args, en_wd h 14 (by decide +kernel) rfl args, rfl⟩⟩
