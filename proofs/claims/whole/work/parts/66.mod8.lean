/-! the reference: draws, giving -/
def f_X7_draw := en_f (σ := Nat × Sx) (fun x => [.ref 0, .int (nI x.1)]) (fun x => wM x.2) (fun x => 0 < x.1 ∧ x.1 < 1000) (fun x v w => v = some (.int (nI (dw (nz x.2.2.1) x.1))) ∧ w = wM (xz x.2 (nz x.2.2.1)))
def rm_X7_draw : Room := { frames := 0, cells := 0, slots := 0, locals := 0 }
def t_X7_draw : en_T := ((2, 0, 0), tb_X7_draw, fl_X7, cn_X7, [], [], 0, some .int)
set_option maxRecDepth 100000 in
theorem tB_X7_draw (D : va_G) (dT : Nat → Nat) (l : Launch) : en_TB en_WD D vwCl dT l rm_X7_draw t_X7_draw RX7 "draw" cX7_draw := ⟨tk_X7_draw, fun s args meth h hn => ⟨fo_X7 h args meth, co_X7 h args, fun _ h => absurd h List.not_mem_nil, fun _ h => absurd h List.not_mem_nil, Or.inl rfl, en_arr h args⟩⟩
set_option maxHeartbeats 4000000 in
set_option maxRecDepth 100000 in
theorem bd_X7_draw : en_B (σ := Nat × Sx) t_X7_draw (fun x => [.ref 0, .int (nI x.1)]) (fun x => wM x.2) (fun x => 0 < x.1 ∧ x.1 < 1000) (fun x v w => v = some (.int (nI (dw (nz x.2.2.1) x.1))) ∧ w = wM (xz x.2 (nz x.2.2.1))) := by
  rintro ⟨n, S⟩ ⟨h0, hn⟩ G hG OK ⟨run, sub⟩
  dsimp only at h0 hn hG ⊢
  refine run [] 60 _ _ _ _ _ _ ?_
  conv => whnf
  refine ⟨fun e => ?_, ?_⟩
  · rw [nI_l (by omega)] at e
    exact absurd ((pk_lEQ (b := 0) (by omega) (by omega)).mp e) (by omega)
  · conv => whnf
    refine hG _ _ ⟨?_, rfl⟩
    rw [← dw_is (nz S.2.1) h0 (by omega)]
    rfl
theorem ct_X7_draw (D : va_G) (dT : Nat → Nat) (l : Launch) : en_CT en_WD D vwCl dT l yX7_draw cX7_draw 2 (some .int) rm_X7_draw f_X7_draw := en_met en_WD1 en_WD2 (by decide) rfl rfl (tB_X7_draw D dT l) (en_f_ln (fun _ => Nat.le_of_ble_eq_true rfl)) (en_f_bd bd_X7_draw)
set_option maxRecDepth 100000 in
theorem mk_X7_draw {D : va_G} {dT : Nat → Nat} {l : Launch} {R : Room} {s : State} {args : Array Value} {own : String} {idx : Nat} (h : en_WD s) (h1 : rm_X7_draw.frames + 1 ≤ R.frames) (h2 : 8 + (2 + 11) + rm_X7_draw.locals ≤ R.locals) (hl : (Jvm.Cond.methodLink own idx yX7_draw).before args s = true ∨ ∃ host, (Jvm.Cond.methodLinkNest own idx yX7_draw host).before args s = true) : en_mok en_WD D vwCl dT l R s args own (idx, 2, 9, 0, 0, f_X7_draw) :=
  ⟨yX7_draw, cX7_draw, 2, some .int, rm_X7_draw, 1, ct_X7_draw D dT l, rfl, rfl, h1, h2, en_wd h 879 rfl rfl args, en_wd h 66 (by decide +kernel) rfl args, by decide, by decide, hl, ⟨RX7, TX7, 24, rfl, en_wd h 878 (by decide +kernel) rfl args, en_wd h 40 (by decide +kernel) rfl args, rfl⟩⟩
def f_X7_shuffle := en_f (σ := Nat × Sx) (fun _ => [.ref 0]) (fun x => wM x.2) (fun x => x.1 ≤ 100 ∧ x.2.1 5 = nI x.1) (fun x v w => v = none ∧ w = wM (xa (xz x.2 (shm x.1 x.2.2.1 (x.2.2.2.1 13)).1) 13 (shm x.1 x.2.2.1 (x.2.2.2.1 13)).2))
def rm_X7_shuffle : Room := { frames := 1, cells := 0, slots := 0, locals := 21 }
def t_X7_shuffle : en_T := ((4, 0, 0), tb_X7_shuffle, fl_X7, cn_X7, [(100, 2, 9, 0, 0, f_X7_draw)], [], 0, none)
set_option maxRecDepth 100000 in
theorem tB_X7_shuffle (D : va_G) (dT : Nat → Nat) (l : Launch) : en_TB en_WD D vwCl dT l rm_X7_shuffle t_X7_shuffle RX7 "shuffle" cX7_shuffle := ⟨tk_X7_shuffle, fun s args meth h hn => ⟨fo_X7 h args meth, co_X7 h args, List.forall_mem_cons.mpr ⟨mk_X7_draw (own := RX7) h (Nat.le_of_ble_eq_true rfl) (Nat.le_of_ble_eq_true rfl) (Or.inl (en_wd h 876 (by decide +kernel) rfl args)), fun _ h => absurd h List.not_mem_nil⟩, fun _ h => absurd h List.not_mem_nil, Or.inl rfl, en_arr h args⟩⟩
set_option maxHeartbeats 4000000 in
set_option maxRecDepth 100000 in
theorem bd_X7_shuffle : en_B (σ := Nat × Sx) t_X7_shuffle (fun _ => [.ref 0]) (fun x => wM x.2) (fun x => x.1 ≤ 100 ∧ x.2.1 5 = nI x.1) (fun x v w => v = none ∧ w = wM (xa (xz x.2 (shm x.1 x.2.2.1 (x.2.2.2.1 13)).1) 13 (shm x.1 x.2.2.1 (x.2.2.2.1 13)).2)) := by
  rintro ⟨m, S⟩ ⟨hm, h5⟩ G hG OK ⟨run, sub⟩
  dsimp only at hm h5 hG ⊢
  have loop : ∀ i, i < 100 → ∀ (z : Int64) (f : Nat → Int32), shf i z f = shm m S.2.1 (S.2.2.1 13) → OK 0 0 7 [(0, .ref 0), (1, .int (nI i))] [] (wM (xa (xz S z) 13 f)) := by
    intro i
    induction i with
    | zero =>
      intro _ z f he
      refine run [7] 60 _ _ _ _ _ _ ?_
      conv => whnf
      refine pk_le 0 0 (fun h => ?_) (fun h => absurd h (by omega))
      conv => whnf
      refine hG _ _ ⟨rfl, ?_⟩
      rw [← he]
      rfl
    | succ i ih =>
      intro hi z f he
      refine run [7] 60 _ _ _ _ _ _ ?_
      conv => whnf
      refine pk_le (i + 1) 0 (fun h => absurd h (by omega)) (fun h => ?_)
      conv => whnf
      refine ⟨(i + 2, xa (xz S z) 13 f), (by show [Value.ref 0, Value.int (nI (i + 1) + 1)] = [Value.ref 0, Value.int (nI (i + 1 + 1))]; rw [nI_succ (i + 1)]), rfl, ⟨by dsimp only; omega, by dsimp only; omega⟩, ?_⟩
      intro v w hvw
      obtain ⟨rfl, rfl⟩ : v = some (.int (nI (dw (nz z) (i + 2)))) ∧ w = wM (xa (xz S (nz z)) 13 f) := hvw
      have hj := dw_lt (z := nz z) (n := i + 2) (by omega)
      generalize hje : dw (nz z) (i + 2) = j at hj ⊢
      conv => whnf
      refine ⟨vp_in_nI (by omega) (by decide), ?_⟩
      rw [nI_clamp (by omega)]
      conv => whnf
      refine ⟨vp_in_nI (by omega) (by decide), ?_⟩
      rw [nI_clamp (by omega)]
      conv => whnf
      refine ⟨vp_in_nI (by omega) (by decide), ?_⟩
      rw [nI_clamp (by omega)]
      conv => whnf
      refine ⟨vp_in_nI (by omega) (by decide), ?_⟩
      rw [nI_clamp (by omega)]
      conv => whnf
      have h2 := ih (by omega) (nz z) (upd (upd f (i + 1) (f j)) j (f (i + 1))) (by rw [← hje]; exact he)
      rw [← pk_m1 i] at h2
      exact sub [0, 1] _ _ _ _ _ _ _ rfl h2
  by_cases h0 : m = 0
  · subst h0
    refine run [] 60 _ _ _ _ _ _ ?_
    conv => whnf
    have h5 : S.1 5 = nI 0 := h5
    refine ⟨fun _ => ?_, fun h => absurd (show S.1 5 - 1 ≤ 0 by rw [h5]; decide) h⟩
    conv => whnf
    exact hG _ _ ⟨rfl, rfl⟩
  · obtain ⟨q, rfl⟩ : ∃ q, m = q + 1 := ⟨m - 1, by omega⟩
    refine run [7] 60 _ _ _ _ _ _ ?_
    conv => whnf
    have h2 := loop q (by omega) S.2.1 (S.2.2.1 13) rfl
    rw [← nI_pred q, ← h5] at h2
    exact h2
theorem ct_X7_shuffle (D : va_G) (dT : Nat → Nat) (l : Launch) : en_CT en_WD D vwCl dT l yX7_shuffle cX7_shuffle 4 (none) rm_X7_shuffle f_X7_shuffle := en_met en_WD1 en_WD2 (by decide) rfl rfl (tB_X7_shuffle D dT l) (en_f_ln (fun _ => Nat.le_of_ble_eq_true rfl)) (en_f_bd bd_X7_shuffle)
set_option maxRecDepth 100000 in
theorem mk_X7_shuffle {D : va_G} {dT : Nat → Nat} {l : Launch} {R : Room} {s : State} {args : Array Value} {own : String} {idx : Nat} (h : en_WD s) (h1 : rm_X7_shuffle.frames + 1 ≤ R.frames) (h2 : 8 + (4 + 11) + rm_X7_shuffle.locals ≤ R.locals) (hl : (Jvm.Cond.methodLink own idx yX7_shuffle).before args s = true ∨ ∃ host, (Jvm.Cond.methodLinkNest own idx yX7_shuffle host).before args s = true) : en_mok en_WD D vwCl dT l R s args own (idx, 1, 9, 0, 0, f_X7_shuffle) :=
  ⟨yX7_shuffle, cX7_shuffle, 4, none, rm_X7_shuffle, 0, ct_X7_shuffle D dT l, rfl, rfl, h1, h2, en_wd h 875 rfl rfl args, en_wd h 66 (by decide +kernel) rfl args, by decide, by decide, hl, ⟨RX7, TX7, 24, rfl, en_wd h 874 (by decide +kernel) rfl args, en_wd h 39 (by decide +kernel) rfl args, rfl⟩⟩
def f_X7_give := en_f (σ := (Nat → Nat) × Nat × Nat × Nat × Sx) (fun _ => [.ref 0]) (fun x => wM x.2.2.2.2) (fun x => wgm x.2.2.2.2 x.1 x.2.1 x.2.2.1 ∧ x.2.2.2.1 ≤ 100 ∧ x.2.2.2.2.1 5 = nI x.2.2.2.1 ∧ vld (x.2.2.2.2.2.2.1 13) x.2.2.2.1 100) (fun x v w => v = none ∧ ∃ q r, w = wM (xa (xa (xa x.2.2.2.2 10 q) 11 r) 12 (dl (x.2.2.2.2.2.2.1 13) (fun a => nI (pt (qf x.1 x.2.1 x.2.2.1 x.2.2.2.1) a x.2.2.1)) (x.2.2.2.2.2.2.1 12) x.2.2.2.1)))
def rm_X7_give : Room := { frames := 1, cells := 0, slots := 0, locals := 24 }
def t_X7_give : en_T := ((4, 0, 0), tb_X7_give, fl_X7, cn_X7, [(85, 2, 9, 0, 0, f_X7_quotasOf)], [], 0, none)
set_option maxRecDepth 100000 in
theorem tB_X7_give (D : va_G) (dT : Nat → Nat) (l : Launch) : en_TB en_WD D vwCl dT l rm_X7_give t_X7_give RX7 "give" cX7_give := ⟨tk_X7_give, fun s args meth h hn => ⟨fo_X7 h args meth, co_X7 h args, List.forall_mem_cons.mpr ⟨mk_X7_quotasOf (own := RX7) h (Nat.le_of_ble_eq_true rfl) (Nat.le_of_ble_eq_true rfl) (Or.inl (en_wd h 856 (by decide +kernel) rfl args)), fun _ h => absurd h List.not_mem_nil⟩, fun _ h => absurd h List.not_mem_nil, Or.inl rfl, en_arr h args⟩⟩
set_option maxHeartbeats 4000000 in
set_option maxRecDepth 100000 in
theorem bd_X7_give : en_B (σ := (Nat → Nat) × Nat × Nat × Nat × Sx) t_X7_give (fun _ => [.ref 0]) (fun x => wM x.2.2.2.2) (fun x => wgm x.2.2.2.2 x.1 x.2.1 x.2.2.1 ∧ x.2.2.2.1 ≤ 100 ∧ x.2.2.2.2.1 5 = nI x.2.2.2.1 ∧ vld (x.2.2.2.2.2.2.1 13) x.2.2.2.1 100) (fun x v w => v = none ∧ ∃ q r, w = wM (xa (xa (xa x.2.2.2.2 10 q) 11 r) 12 (dl (x.2.2.2.2.2.2.1 13) (fun a => nI (pt (qf x.1 x.2.1 x.2.2.1 x.2.2.2.1) a x.2.2.1)) (x.2.2.2.2.2.2.1 12) x.2.2.2.1))) := by
  rintro ⟨w, W, k, m, S⟩ ⟨hwg, hm, h5, hv⟩ G hG OK ⟨run, sub⟩
  dsimp only at hwg hm h5 hv hG ⊢
  have hok : wok w W k := hwg.1
  have hk : S.1 1 = nI k := hwg.2.1
  have hk4 : k ≤ 4 := hok.2.1
  refine run [12] 60 _ _ _ _ _ _ ?_
  conv => whnf
  refine ⟨(w, W, k, m, S), (by show [Value.ref 0, Value.int (S.1 5)] = [Value.ref 0, Value.int (nI m)]; rw [h5]), rfl, ⟨hwg, by dsimp only; omega⟩, ?_⟩
  rintro v u ⟨hv0, qq, r, hu, hqq⟩
  obtain rfl : v = none := hv0
  obtain rfl : u = wM (xa (xa S 10 qq) 11 r) := hu
  have hqq : ∀ j, j < k → qq j = nI (qf w W k m j) := hqq
  have hsum := qf_sum (n := m) hok
  generalize hQ : qf w W k m = q at hsum hqq hG
  have hle : ∀ p, p ≤ k → sm q p ≤ m := fun p hp => by rw [← hsum]; exact sm_mono q hp
  have outer : ∀ p, p ≤ k → OK 0 0 12 [(0, .ref 0), (1, .int (nI (sm q p))), (2, .int (nI p))] [] (wM (xa (xa (xa S 10 qq) 11 r) 12 (dl (S.2.2.1 13) (fun a => nI (pt q a k)) (S.2.2.1 12) (sm q p)))) := by
    refine lp_up (fun p => OK 0 0 12 [(0, .ref 0), (1, .int (nI (sm q p))), (2, .int (nI p))] [] (wM (xa (xa (xa S 10 qq) 11 r) 12 (dl (S.2.2.1 13) (fun a => nI (pt q a k)) (S.2.2.1 12) (sm q p))))) k ?_ ?_
    · refine run [12] 60 _ _ _ _ _ _ ?_
      conv => whnf
      refine pk_le k k (fun h => ?_) (fun h => absurd h (by omega)) hk
      conv => whnf
      refine hG _ _ ⟨rfl, qq, r, ?_⟩
      rw [hsum]
    · intro p hp ih
      have hp1 := hle (p + 1) (by omega)
      have hsp : sm q (p + 1) = sm q p + q p := rfl
      have inner : ∀ a, a ≤ q p → OK 0 0 22 [(0, .ref 0), (1, .int (nI (sm q p + a))), (2, .int (nI p)), (3, .int (nI a))] [] (wM (xa (xa (xa S 10 qq) 11 r) 12 (dl (S.2.2.1 13) (fun a => nI (pt q a k)) (S.2.2.1 12) (sm q p + a)))) := by
        refine lp_up (fun a => OK 0 0 22 [(0, .ref 0), (1, .int (nI (sm q p + a))), (2, .int (nI p)), (3, .int (nI a))] [] (wM (xa (xa (xa S 10 qq) 11 r) 12 (dl (S.2.2.1 13) (fun a => nI (pt q a k)) (S.2.2.1 12) (sm q p + a))))) (q p) ?_ ?_
        · refine run [12, 22] 60 _ _ _ _ _ _ ?_
          conv => whnf
          refine ⟨vp_in_nI (by omega) (by decide), ?_⟩
          rw [nI_clamp (by omega)]
          conv => whnf
          refine pk_le (q p) (q p) (fun h => ?_) (fun h => absurd h (by omega)) (hqq p hp)
          conv => whnf
          rw [nI_succ, hsp] at ih
          exact sub [0, 1, 2] _ _ _ _ _ _ _ rfl ih
        · intro a ha iha
          rw [← Nat.add_assoc, nI_succ a, nI_succ (sm q p + a)] at iha
          have e : dl (S.2.2.1 13) (fun a => nI (pt q a k)) (S.2.2.1 12) (sm q p + a + 1) = upd (dl (S.2.2.1 13) (fun a => nI (pt q a k)) (S.2.2.1 12) (sm q p + a)) (S.2.2.1 13 (sm q p + a)).toNatClampNeg (nI p) := by
            show upd _ _ (nI (pt q (sm q p + a) k)) = _
            rw [pt_is (p := p) (by omega) (by omega) k hp]
          rw [e] at iha
          refine run [12, 22] 60 _ _ _ _ _ _ ?_
          conv => whnf
          refine ⟨vp_in_nI (by omega) (by decide), ?_⟩
          rw [nI_clamp (by omega)]
          conv => whnf
          refine pk_le (q p) a (fun h => absurd h (by omega)) (fun h => ?_) (hqq p hp)
          conv => whnf
          refine ⟨vp_in_nI (by omega) (by decide), ?_⟩
          rw [nI_clamp (by omega)]
          conv => whnf
          refine ⟨vld_in hv (by omega) (by decide), ?_⟩
          conv => whnf
          exact iha
      refine run [12, 22] 60 _ _ _ _ _ _ ?_
      conv => whnf
      refine pk_le k p (fun h => absurd h (by omega)) (fun h => ?_) hk
      conv => whnf
      exact inner 0 (by omega)
  conv => whnf
  exact outer 0 (by omega)
theorem ct_X7_give (D : va_G) (dT : Nat → Nat) (l : Launch) : en_CT en_WD D vwCl dT l yX7_give cX7_give 4 (none) rm_X7_give f_X7_give := en_met en_WD1 en_WD2 (by decide) rfl rfl (tB_X7_give D dT l) (en_f_ln (fun _ => Nat.le_of_ble_eq_true rfl)) (en_f_bd bd_X7_give)
set_option maxRecDepth 100000 in
theorem mk_X7_give {D : va_G} {dT : Nat → Nat} {l : Launch} {R : Room} {s : State} {args : Array Value} {own : String} {idx : Nat} (h : en_WD s) (h1 : rm_X7_give.frames + 1 ≤ R.frames) (h2 : 8 + (4 + 11) + rm_X7_give.locals ≤ R.locals) (hl : (Jvm.Cond.methodLink own idx yX7_give).before args s = true ∨ ∃ host, (Jvm.Cond.methodLinkNest own idx yX7_give host).before args s = true) : en_mok en_WD D vwCl dT l R s args own (idx, 1, 9, 0, 0, f_X7_give) :=
  ⟨yX7_give, cX7_give, 4, none, rm_X7_give, 0, ct_X7_give D dT l, rfl, rfl, h1, h2, en_wd h 885 rfl rfl args, en_wd h 66 (by decide +kernel) rfl args, by decide, by decide, hl, ⟨RX7, TX7, 24, rfl, en_wd h 884 (by decide +kernel) rfl args, en_wd h 41 (by decide +kernel) rfl args, rfl⟩⟩
/-- what the reference's splitting leaves as it was -/
def kpm (S S' : Sx) : Prop := (∀ j, j ≠ 5 → S'.1 j = S.1 j) ∧ (∀ a, a < 10 → S'.2.2.1 a = S.2.2.1 a) ∧ S'.2.2.2 = S.2.2.2
theorem kpm_rf (S : Sx) : kpm S S := ⟨fun _ _ => rfl, fun _ _ => rfl, rfl⟩
theorem kpm_tr {S T U : Sx} (h : kpm S T) (g : kpm T U) : kpm S U := ⟨fun j hj => (g.1 j hj).trans (h.1 j hj), fun a ha => (g.2.1 a ha).trans (h.2.1 a ha), g.2.2.trans h.2.2⟩
theorem kpm_i {S : Sx} {v : Int32} : kpm S (xi S 5 v) := ⟨fun j hj => if_neg hj, fun _ _ => rfl, rfl⟩
theorem kpm_z {S : Sx} {v : Int64} : kpm S (xz S v) := ⟨fun _ _ => rfl, fun _ _ => rfl, rfl⟩
theorem kpm_a {S : Sx} {k : Nat} {f : Nat → Int32} (h : 10 ≤ k) : kpm S (xa S k f) := ⟨fun _ _ => rfl, fun a ha => if_neg (by omega), rfl⟩
theorem wgm_k {S S' : Sx} {w : Nat → Nat} {W k : Nat} (h : wgm S w W k) (g : kpm S S') : wgm S' w W k :=
  ⟨h.1, (g.1 1 (by decide)).trans h.2.1, (g.1 2 (by decide)).trans h.2.2.1, fun j hj => by rw [g.2.1 7 (by decide)]; exact h.2.2.2 j hj⟩
def f_X7_plain := en_f (σ := (Nat → Nat) × Nat × Nat × Nat × Sx) (fun _ => [.ref 0]) (fun x => wM x.2.2.2.2) (fun x => wgm x.2.2.2.2 x.1 x.2.1 x.2.2.1 ∧ x.2.2.2.1 ≤ 100 ∧ x.2.2.2.2.1 0 = nI x.2.2.2.1) (fun x v w => v = none ∧ ∃ S', w = wM S' ∧ kpm x.2.2.2.2 S' ∧ S'.2.2.1 12 = PL0 x.1 x.2.1 x.2.2.1 x.2.2.2.1 x.2.2.2.2.2.1 (x.2.2.2.2.2.2.1 13) (x.2.2.2.2.2.2.1 12))
def rm_X7_plain : Room := { frames := 2, cells := 0, slots := 0, locals := 47 }
def t_X7_plain : en_T := ((2, 0, 0), tb_X7_plain, fl_X7, cn_X7, [(104, 1, 9, 0, 0, f_X7_shuffle), (107, 1, 9, 0, 0, f_X7_give)], [], 0, none)
set_option maxRecDepth 100000 in
theorem tB_X7_plain (D : va_G) (dT : Nat → Nat) (l : Launch) : en_TB en_WD D vwCl dT l rm_X7_plain t_X7_plain RX7 "plain" cX7_plain := ⟨tk_X7_plain, fun s args meth h hn => ⟨fo_X7 h args meth, co_X7 h args, List.forall_mem_cons.mpr ⟨mk_X7_shuffle (own := RX7) h (Nat.le_of_ble_eq_true rfl) (Nat.le_of_ble_eq_true rfl) (Or.inl (en_wd h 872 (by decide +kernel) rfl args)), List.forall_mem_cons.mpr ⟨mk_X7_give (own := RX7) h (Nat.le_of_ble_eq_true rfl) (Nat.le_of_ble_eq_true rfl) (Or.inl (en_wd h 882 (by decide +kernel) rfl args)), fun _ h => absurd h List.not_mem_nil⟩⟩, fun _ h => absurd h List.not_mem_nil, Or.inl rfl, en_arr h args⟩⟩
set_option maxHeartbeats 4000000 in
set_option maxRecDepth 100000 in
theorem bd_X7_plain : en_B (σ := (Nat → Nat) × Nat × Nat × Nat × Sx) t_X7_plain (fun _ => [.ref 0]) (fun x => wM x.2.2.2.2) (fun x => wgm x.2.2.2.2 x.1 x.2.1 x.2.2.1 ∧ x.2.2.2.1 ≤ 100 ∧ x.2.2.2.2.1 0 = nI x.2.2.2.1) (fun x v w => v = none ∧ ∃ S', w = wM S' ∧ kpm x.2.2.2.2 S' ∧ S'.2.2.1 12 = PL0 x.1 x.2.1 x.2.2.1 x.2.2.2.1 x.2.2.2.2.2.1 (x.2.2.2.2.2.2.1 13) (x.2.2.2.2.2.2.1 12)) := by
  rintro ⟨w, W, k, n, S⟩ ⟨hwg, hn, h1⟩ G hG OK ⟨run, sub⟩
  dsimp only at hwg hn h1 hG ⊢
  have tail : OK 0 0 31 [(0, .ref 0)] [] (wM (xa (xi S 5 (nI n)) 13 (mx n nI (S.2.2.1 13)))) := by
    refine run [] 60 _ _ _ _ _ _ ?_
    conv => whnf
    refine ⟨(n, xa (xi S 5 (nI n)) 13 (mx n nI (S.2.2.1 13))), rfl, rfl, ⟨hn, rfl⟩, ?_⟩
    intro v u hvu
    obtain ⟨rfl, rfl⟩ : v = none ∧ u = wM (xa (xz (xa (xi S 5 (nI n)) 13 (mx n nI (S.2.2.1 13))) (shm n S.2.1 (mx n nI (S.2.2.1 13))).1) 13 (shm n S.2.1 (mx n nI (S.2.2.1 13))).2) := hvu
    have hv := shm_v (z := S.2.1) (mx_v (n := n) (b := 100) hn (old := S.2.2.1 13))
    unfold PL0 at hG
    generalize shm n S.2.1 (mx n nI (S.2.2.1 13)) = Z at hv hG ⊢
    conv => whnf
    refine ⟨(w, W, k, n, xa (xz (xa (xi S 5 (nI n)) 13 (mx n nI (S.2.2.1 13))) Z.1) 13 Z.2), rfl, rfl, ⟨hwg, hn, rfl, hv⟩, ?_⟩
    rintro v u ⟨hv0, q, r, hu⟩
    obtain rfl : v = none := hv0
    obtain rfl : u = wM (xa (xa (xa (xa (xz (xa (xi S 5 (nI n)) 13 (mx n nI (S.2.2.1 13))) Z.1) 13 Z.2) 10 q) 11 r) 12 (dl Z.2 (fun a => nI (pt (qf w W k n) a k)) (S.2.2.1 12) n)) := hu
    conv => whnf
    exact hG _ _ ⟨rfl, _, rfl, kpm_tr (kpm_tr (kpm_tr (kpm_tr (kpm_tr (kpm_tr kpm_i (kpm_a (by omega))) kpm_z) (kpm_a (by omega))) (kpm_a (by omega))) (kpm_a (by omega))) (kpm_a (by omega)), rfl⟩
  have loop := lp_up (fun i => OK 0 0 10 [(0, .ref 0), (1, .int (nI i))] [] (wM (xa (xi S 5 (nI n)) 13 (mx i nI (S.2.2.1 13))))) n
    (by
      refine run [10, 31] 60 _ _ _ _ _ _ ?_
      conv => whnf
      refine pk_le n n (fun h => ?_) (fun h => absurd h (by omega)) h1
      conv => whnf
      exact sub [0] _ _ _ _ _ _ _ rfl tail)
    (fun i hi ih => by
      rw [nI_succ, ← mx_s] at ih
      refine run [10, 31] 60 _ _ _ _ _ _ ?_
      conv => whnf
      refine pk_le n i (fun h => absurd h (by omega)) (fun h => ?_) h1
      conv => whnf
      refine ⟨vp_in_nI (by omega) (by decide), ?_⟩
      rw [nI_clamp (by omega)]
      conv => whnf
      exact ih)
  refine run [10] 60 _ _ _ _ _ _ ?_
  conv => whnf
  have h0 := loop 0 (by omega)
  rw [mx_0, ← h1] at h0
  exact h0
theorem ct_X7_plain (D : va_G) (dT : Nat → Nat) (l : Launch) : en_CT en_WD D vwCl dT l yX7_plain cX7_plain 2 (none) rm_X7_plain f_X7_plain := en_met en_WD1 en_WD2 (by decide) rfl rfl (tB_X7_plain D dT l) (en_f_ln (fun _ => Nat.le_of_ble_eq_true rfl)) (en_f_bd bd_X7_plain)
set_option maxRecDepth 100000 in
theorem mk_X7_plain {D : va_G} {dT : Nat → Nat} {l : Launch} {R : Room} {s : State} {args : Array Value} {own : String} {idx : Nat} (h : en_WD s) (h1 : rm_X7_plain.frames + 1 ≤ R.frames) (h2 : 8 + (2 + 11) + rm_X7_plain.locals ≤ R.locals) (hl : (Jvm.Cond.methodLink own idx yX7_plain).before args s = true ∨ ∃ host, (Jvm.Cond.methodLinkNest own idx yX7_plain host).before args s = true) : en_mok en_WD D vwCl dT l R s args own (idx, 1, 9, 0, 0, f_X7_plain) :=
  ⟨yX7_plain, cX7_plain, 2, none, rm_X7_plain, 0, ct_X7_plain D dT l, rfl, rfl, h1, h2, en_wd h 871 rfl rfl args, en_wd h 66 (by decide +kernel) rfl args, by decide, by decide, hl, ⟨RX7, TX7, 24, rfl, en_wd h 870 (by decide +kernel) rfl args, en_wd h 38 (by decide +kernel) rfl args, rfl⟩⟩
/-- the rows of a label that are taken -/
abbrev ofl (Lb Dl : Nat → Int32) (l th : Int32) (r : Nat) : Prop := Lb r = l ∧ (th = 0 ∨ Dl r ≠ -1)
def f_X7_ofLabel := en_f (σ := Nat × Int32 × Int32 × Sx) (fun x => [.ref 0, .int x.2.1, .int x.2.2.1]) (fun x => wM x.2.2.2) (fun x => x.1 ≤ 100 ∧ x.2.2.2.1 0 = nI x.1) (fun x v w => v = none ∧ w = wM (xi (xa x.2.2.2 13 (sel (ofl (x.2.2.2.2.2.1 2) (x.2.2.2.2.2.1 12) x.2.1 x.2.2.1) (x.2.2.2.2.2.1 13) x.1)) 5 (nI (ct (ofl (x.2.2.2.2.2.1 2) (x.2.2.2.2.2.1 12) x.2.1 x.2.2.1) x.1))))
def rm_X7_ofLabel : Room := { frames := 0, cells := 0, slots := 0, locals := 0 }
def t_X7_ofLabel : en_T := ((4, 0, 0), tb_X7_ofLabel, fl_X7, cn_X7, [], [], 0, none)
set_option maxRecDepth 100000 in
theorem tB_X7_ofLabel (D : va_G) (dT : Nat → Nat) (l : Launch) : en_TB en_WD D vwCl dT l rm_X7_ofLabel t_X7_ofLabel RX7 "ofLabel" cX7_ofLabel := ⟨tk_X7_ofLabel, fun s args meth h hn => ⟨fo_X7 h args meth, co_X7 h args, fun _ h => absurd h List.not_mem_nil, fun _ h => absurd h List.not_mem_nil, Or.inl rfl, en_arr h args⟩⟩
set_option maxHeartbeats 4000000 in
set_option maxRecDepth 100000 in
theorem bd_X7_ofLabel : en_B (σ := Nat × Int32 × Int32 × Sx) t_X7_ofLabel (fun x => [.ref 0, .int x.2.1, .int x.2.2.1]) (fun x => wM x.2.2.2) (fun x => x.1 ≤ 100 ∧ x.2.2.2.1 0 = nI x.1) (fun x v w => v = none ∧ w = wM (xi (xa x.2.2.2 13 (sel (ofl (x.2.2.2.2.2.1 2) (x.2.2.2.2.2.1 12) x.2.1 x.2.2.1) (x.2.2.2.2.2.1 13) x.1)) 5 (nI (ct (ofl (x.2.2.2.2.2.1 2) (x.2.2.2.2.2.1 12) x.2.1 x.2.2.1) x.1)))) := by
  rintro ⟨n, l, th, S⟩ ⟨hn, h1⟩ G hG OK ⟨run, sub⟩
  dsimp only at hn h1 hG ⊢
  have loop := lp_up (fun i => OK 0 0 7 [(0, .ref 0), (1, .int l), (2, .int th), (3, .int (nI i))] [] (wM (xi (xa S 13 (sel (ofl (S.2.2.1 2) (S.2.2.1 12) l th) (S.2.2.1 13) i)) 5 (nI (ct (ofl (S.2.2.1 2) (S.2.2.1 12) l th) i))))) n
    (by
      refine run [7] 60 _ _ _ _ _ _ ?_
      conv => whnf
      refine pk_le n n (fun h => ?_) (fun h => absurd h (by omega)) h1
      conv => whnf
      exact hG _ _ ⟨rfl, rfl⟩)
    (fun i hi ih => by
      have hc := ct_le (ofl (S.2.2.1 2) (S.2.2.1 12) l th) i
      rw [nI_succ] at ih
      have hno : ¬ ofl (S.2.2.1 2) (S.2.2.1 12) l th i → OK 0 0 7 [(0, .ref 0), (1, .int l), (2, .int th), (3, .int (nI i + 1))] [] (wM (xi (xa S 13 (sel (ofl (S.2.2.1 2) (S.2.2.1 12) l th) (S.2.2.1 13) i)) 5 (nI (ct (ofl (S.2.2.1 2) (S.2.2.1 12) l th) i)))) := fun hp => by
        rw [ct_f hp, sel_f hp] at ih
        exact ih
      have hyes : ofl (S.2.2.1 2) (S.2.2.1 12) l th i → OK 0 0 39 [(0, .ref 0), (1, .int l), (2, .int th), (3, .int (nI i))] [] (wM (xi (xa S 13 (sel (ofl (S.2.2.1 2) (S.2.2.1 12) l th) (S.2.2.1 13) i)) 5 (nI (ct (ofl (S.2.2.1 2) (S.2.2.1 12) l th) i)))) := fun hp => by
        rw [ct_t hp, sel_t hp, nI_succ] at ih
        generalize sel (ofl (S.2.2.1 2) (S.2.2.1 12) l th) (S.2.2.1 13) i = SE at ih ⊢
        generalize ct (ofl (S.2.2.1 2) (S.2.2.1 12) l th) i = C at hc ih ⊢
        refine run [7] 60 _ _ _ _ _ _ ?_
        conv => whnf
        refine ⟨vp_in_nI (n := C) (by omega) (by decide), ?_⟩
        conv => whnf
        have hu : upd SE C (nI i) = upd SE (nI C).toNatClampNeg (nI i) := by rw [nI_clamp (by omega)]
        rw [hu] at ih
        exact ih
      refine run [7, 39] 60 _ _ _ _ _ _ ?_
      conv => whnf
      refine pk_le n i (fun h => absurd h (by omega)) (fun h => ?_) h1
      conv => whnf
      refine ⟨vp_in_nI (by omega) (by decide), ?_⟩
      rw [nI_clamp (by omega)]
      conv => whnf
      refine ⟨fun hp => ?_, fun hp => ?_⟩
      · conv => whnf
        exact hno (fun z => hp z.1)
      · conv => whnf
        refine ⟨fun ht => ?_, fun ht => ?_⟩
        · conv => whnf
          exact hyes ⟨hp, Or.inl ht⟩
        · conv => whnf
          refine ⟨vp_in_nI (by omega) (by decide), ?_⟩
          rw [nI_clamp (by omega)]
          conv => whnf
          refine ⟨fun hr => ?_, fun hr => ?_⟩
          · conv => whnf
            exact hno (fun z => z.2.elim ht (fun y => y hr))
          · conv => whnf
            exact hyes ⟨hp, Or.inr hr⟩)
  refine run [7] 60 _ _ _ _ _ _ ?_
  conv => whnf
  exact loop 0 (by omega)
theorem ct_X7_ofLabel (D : va_G) (dT : Nat → Nat) (l : Launch) : en_CT en_WD D vwCl dT l yX7_ofLabel cX7_ofLabel 4 (none) rm_X7_ofLabel f_X7_ofLabel := en_met en_WD1 en_WD2 (by decide) rfl rfl (tB_X7_ofLabel D dT l) (en_f_ln (fun _ => Nat.le_of_ble_eq_true rfl)) (en_f_bd bd_X7_ofLabel)
set_option maxRecDepth 100000 in
theorem mk_X7_ofLabel {D : va_G} {dT : Nat → Nat} {l : Launch} {R : Room} {s : State} {args : Array Value} {own : String} {idx : Nat} (h : en_WD s) (h1 : rm_X7_ofLabel.frames + 1 ≤ R.frames) (h2 : 8 + (4 + 11) + rm_X7_ofLabel.locals ≤ R.locals) (hl : (Jvm.Cond.methodLink own idx yX7_ofLabel).before args s = true ∨ ∃ host, (Jvm.Cond.methodLinkNest own idx yX7_ofLabel host).before args s = true) : en_mok en_WD D vwCl dT l R s args own (idx, 3, 9, 0, 0, f_X7_ofLabel) :=
  ⟨yX7_ofLabel, cX7_ofLabel, 4, none, rm_X7_ofLabel, 2, ct_X7_ofLabel D dT l, rfl, rfl, h1, h2, en_wd h 897 rfl rfl args, en_wd h 66 (by decide +kernel) rfl args, by decide, by decide, hl, ⟨RX7, TX7, 24, rfl, en_wd h 896 (by decide +kernel) rfl args, en_wd h 44 (by decide +kernel) rfl args, rfl⟩⟩
def f_X7_take := en_f (σ := Nat × Sx) (fun _ => [.ref 0]) (fun x => wM x.2) (fun x => x.1 ≤ 100 ∧ x.2.1 0 = nI x.1) (fun x v w => ansM v w (nI (ct (fun r => x.2.2.2.1 12 r ≠ -1) x.1)) (xa x.2 6 (mx x.1 (x.2.2.2.1 12) (x.2.2.2.1 6))))
def rm_X7_take : Room := { frames := 0, cells := 0, slots := 0, locals := 0 }
def t_X7_take : en_T := ((3, 0, 0), tb_X7_take, fl_X7, cn_X7, [], [], 0, some .int)
set_option maxRecDepth 100000 in
theorem tB_X7_take (D : va_G) (dT : Nat → Nat) (l : Launch) : en_TB en_WD D vwCl dT l rm_X7_take t_X7_take RX7 "take" cX7_take := ⟨tk_X7_take, fun s args meth h hn => ⟨fo_X7 h args meth, co_X7 h args, fun _ h => absurd h List.not_mem_nil, fun _ h => absurd h List.not_mem_nil, Or.inl rfl, en_arr h args⟩⟩
set_option maxHeartbeats 4000000 in
set_option maxRecDepth 100000 in
theorem bd_X7_take : en_B (σ := Nat × Sx) t_X7_take (fun _ => [.ref 0]) (fun x => wM x.2) (fun x => x.1 ≤ 100 ∧ x.2.1 0 = nI x.1) (fun x v w => ansM v w (nI (ct (fun r => x.2.2.2.1 12 r ≠ -1) x.1)) (xa x.2 6 (mx x.1 (x.2.2.2.1 12) (x.2.2.2.1 6)))) := by
  rintro ⟨n, S⟩ ⟨hn, h1⟩ G hG OK ⟨run, sub⟩
  dsimp only at hn h1 hG ⊢
  have loop := lp_up (fun i => OK 0 0 4 [(0, .ref 0), (1, .int (nI (ct (fun r => S.2.2.1 12 r ≠ -1) i))), (2, .int (nI i))] [] (wM (xa S 6 (mx i (S.2.2.1 12) (S.2.2.1 6))))) n
    (by
      refine run [4] 60 _ _ _ _ _ _ ?_
      conv => whnf
      refine pk_le n n (fun h => ?_) (fun h => absurd h (by omega)) h1
      conv => whnf
      exact hG _ _ ⟨rfl, rfl⟩)
    (fun i hi ih => by
      rw [nI_succ, ← mx_s] at ih
      refine run [4] 60 _ _ _ _ _ _ ?_
      conv => whnf
      refine pk_le n i (fun h => absurd h (by omega)) (fun h => ?_) h1
      conv => whnf
      refine ⟨vp_in_nI (by omega) (by decide), ?_⟩
      rw [nI_clamp (by omega)]
      conv => whnf
      refine ⟨vp_in_nI (by omega) (by decide), ?_⟩
      rw [nI_clamp (by omega)]
      conv => whnf
      refine ⟨vp_in_nI (by omega) (by decide), ?_⟩
      rw [nI_clamp (by omega)]
      conv => whnf
      refine ⟨fun hp => ?_, fun hp => ?_⟩
      · have hp : upd (mx i (S.2.2.1 12) (S.2.2.1 6)) i (S.2.2.1 12 i) i = -1 := hp
        rw [pk_us] at hp
        rw [ct_f (p := fun r => S.2.2.1 12 r ≠ -1) (fun z => z hp), ← Int32.add_zero (nI (ct (fun r => S.2.2.1 12 r ≠ -1) i))] at ih
        conv => whnf
        exact ih
      · have hp : ¬ upd (mx i (S.2.2.1 12) (S.2.2.1 6)) i (S.2.2.1 12 i) i = -1 := hp
        rw [pk_us] at hp
        rw [ct_t (p := fun r => S.2.2.1 12 r ≠ -1) hp, nI_succ] at ih
        conv => whnf
        exact ih)
  refine run [4] 60 _ _ _ _ _ _ ?_
  conv => whnf
  have h0 := loop 0 (by omega)
  rw [mx_0] at h0
  exact h0
theorem ct_X7_take (D : va_G) (dT : Nat → Nat) (l : Launch) : en_CT en_WD D vwCl dT l yX7_take cX7_take 3 (some .int) rm_X7_take f_X7_take := en_met en_WD1 en_WD2 (by decide) rfl rfl (tB_X7_take D dT l) (en_f_ln (fun _ => Nat.le_of_ble_eq_true rfl)) (en_f_bd bd_X7_take)
set_option maxRecDepth 100000 in
theorem mk_X7_take {D : va_G} {dT : Nat → Nat} {l : Launch} {R : Room} {s : State} {args : Array Value} {own : String} {idx : Nat} (h : en_WD s) (h1 : rm_X7_take.frames + 1 ≤ R.frames) (h2 : 8 + (3 + 11) + rm_X7_take.locals ≤ R.locals) (hl : (Jvm.Cond.methodLink own idx yX7_take).before args s = true ∨ ∃ host, (Jvm.Cond.methodLinkNest own idx yX7_take host).before args s = true) : en_mok en_WD D vwCl dT l R s args own (idx, 1, 9, 0, 0, f_X7_take) :=
  ⟨yX7_take, cX7_take, 3, some .int, rm_X7_take, 0, ct_X7_take D dT l, rfl, rfl, h1, h2, en_wd h 901 rfl rfl args, en_wd h 66 (by decide +kernel) rfl args, by decide, by decide, hl, ⟨RX7, TX7, 24, rfl, en_wd h 900 (by decide +kernel) rfl args, en_wd h 45 (by decide +kernel) rfl args, rfl⟩⟩
