/-! SplitLeaks$Splitter: filling and dealing -/
def f_X3_fillByQuotas := en_f (σ := (Nat → Nat) × Nat × Nat × Nat × Sx) (fun _ => [.ref 13]) (fun x => wX x.2.2.2.2) (fun x => wok x.1 x.2.1 x.2.2.1 ∧ x.2.2.2.1 ≤ 100 ∧ x.2.2.2.2.1 2 = nI x.2.2.1 ∧ x.2.2.2.2.1 3 = nI x.2.1 ∧ (∀ j, j < x.2.2.1 → x.2.2.2.2.2.2.1 10 j = nI (x.1 j)) ∧ x.2.2.2.2.1 4 = nI x.2.2.2.1 ∧ vld (x.2.2.2.2.2.2.1 16) x.2.2.2.1 100) (fun x v w => v = none ∧ ∃ q r, w = wX (xa (xa (xa x.2.2.2.2 11 q) 12 r) 15 (dl (x.2.2.2.2.2.2.1 16) (fun a => nI (pt (qf x.1 x.2.1 x.2.2.1 x.2.2.2.1) a x.2.2.1)) (x.2.2.2.2.2.2.1 15) x.2.2.2.1)))
def rm_X3_fillByQuotas : Room := { frames := 2, cells := 0, slots := 0, locals := 46 }
def t_X3_fillByQuotas : en_T := ((4, 0, 0), tb_X3_fillByQuotas, fl_X3, cn_X3, [(122, 2, 7, 0, 0, f_X5_apportion)], [], 0, none)
set_option maxRecDepth 100000 in
theorem tB_X3_fillByQuotas (D : va_G) (dT : Nat → Nat) (l : Launch) : en_TB en_WD D vwCl dT l rm_X3_fillByQuotas t_X3_fillByQuotas RX3 "fillByQuotas" cX3_fillByQuotas := ⟨tk_X3_fillByQuotas, fun s args meth h hn => ⟨fo_X3 h args meth, co_X3 h args, List.forall_mem_cons.mpr ⟨mk_X5_apportion (own := RX3) h (Nat.le_of_ble_eq_true rfl) (Nat.le_of_ble_eq_true rfl) (Or.inl (en_wd h 355 (by decide +kernel) rfl args)), fun _ h => absurd h List.not_mem_nil⟩, fun _ h => absurd h List.not_mem_nil, Or.inl rfl, en_arr h args⟩⟩
set_option maxHeartbeats 4000000 in
set_option maxRecDepth 100000 in
theorem bd_X3_fillByQuotas : en_B (σ := (Nat → Nat) × Nat × Nat × Nat × Sx) t_X3_fillByQuotas (fun _ => [.ref 13]) (fun x => wX x.2.2.2.2) (fun x => wok x.1 x.2.1 x.2.2.1 ∧ x.2.2.2.1 ≤ 100 ∧ x.2.2.2.2.1 2 = nI x.2.2.1 ∧ x.2.2.2.2.1 3 = nI x.2.1 ∧ (∀ j, j < x.2.2.1 → x.2.2.2.2.2.2.1 10 j = nI (x.1 j)) ∧ x.2.2.2.2.1 4 = nI x.2.2.2.1 ∧ vld (x.2.2.2.2.2.2.1 16) x.2.2.2.1 100) (fun x v w => v = none ∧ ∃ q r, w = wX (xa (xa (xa x.2.2.2.2 11 q) 12 r) 15 (dl (x.2.2.2.2.2.2.1 16) (fun a => nI (pt (qf x.1 x.2.1 x.2.2.1 x.2.2.2.1) a x.2.2.1)) (x.2.2.2.2.2.2.1 15) x.2.2.2.1))) := by
  rintro ⟨w, W, k, m, S⟩ ⟨hok, hm, hk, hW, hw, h4, hv⟩ G hG OK ⟨run, sub⟩
  dsimp only at hok hm hk hW hw h4 hv hG ⊢
  have hk4 : k ≤ 4 := hok.2.1
  refine run [15] 60 _ _ _ _ _ _ ?_
  conv => whnf
  refine ⟨(w, W, k, m, S), (by show [Value.ref 9, Value.int (S.1 4)] = [Value.ref 9, Value.int (nI m)]; rw [h4]), rfl, ⟨hok, by dsimp only; omega, hk, hW, hw⟩, ?_⟩
  rintro v u ⟨hv0, r, hu⟩
  obtain rfl : v = none := hv0
  obtain rfl : u = wX (xa (xa S 11 (mx k (fun j => nI (qf w W k m j)) (S.2.2.1 11))) 12 r) := hu
  have hsum := qf_sum (n := m) hok
  generalize hQ : qf w W k m = q at hsum hG ⊢
  have hle : ∀ p, p ≤ k → sm q p ≤ m := fun p hp => by rw [← hsum]; exact sm_mono q hp
  have outer : ∀ p, p ≤ k → OK 0 0 15 [(0, .ref 13), (1, .int (nI (sm q p))), (2, .int (nI p))] [] (wX (xa (xa (xa S 11 (mx k (fun j => nI (q j)) (S.2.2.1 11))) 12 r) 15 (dl (S.2.2.1 16) (fun a => nI (pt q a k)) (S.2.2.1 15) (sm q p)))) := by
    refine lp_up (fun p => OK 0 0 15 [(0, .ref 13), (1, .int (nI (sm q p))), (2, .int (nI p))] [] (wX (xa (xa (xa S 11 (mx k (fun j => nI (q j)) (S.2.2.1 11))) 12 r) 15 (dl (S.2.2.1 16) (fun a => nI (pt q a k)) (S.2.2.1 15) (sm q p))))) k ?_ ?_
    · refine run [15] 60 _ _ _ _ _ _ ?_
      conv => whnf
      refine pk_le k k (fun h => ?_) (fun h => absurd h (by omega)) hk
      conv => whnf
      refine hG _ _ ⟨rfl, mx k (fun j => nI (q j)) (S.2.2.1 11), r, ?_⟩
      rw [hsum]
    · intro p hp ih
      have hp1 := hle (p + 1) (by omega)
      have hsp : sm q (p + 1) = sm q p + q p := rfl
      have inner : ∀ a, a ≤ sm q (p + 1) → sm q p ≤ a → OK 0 0 38 [(0, .ref 13), (1, .int (nI a)), (2, .int (nI p)), (3, .int (nI (sm q (p + 1))))] [] (wX (xa (xa (xa S 11 (mx k (fun j => nI (q j)) (S.2.2.1 11))) 12 r) 15 (dl (S.2.2.1 16) (fun a => nI (pt q a k)) (S.2.2.1 15) a))) := by
        refine lp_up (fun a => sm q p ≤ a → OK 0 0 38 [(0, .ref 13), (1, .int (nI a)), (2, .int (nI p)), (3, .int (nI (sm q (p + 1))))] [] (wX (xa (xa (xa S 11 (mx k (fun j => nI (q j)) (S.2.2.1 11))) 12 r) 15 (dl (S.2.2.1 16) (fun a => nI (pt q a k)) (S.2.2.1 15) a)))) (sm q (p + 1)) ?_ ?_
        · intro _
          refine run [15, 38] 60 _ _ _ _ _ _ ?_
          conv => whnf
          refine pk_le (sm q (p + 1)) (sm q (p + 1)) (fun h => ?_) (fun h => absurd h (by omega))
          conv => whnf
          rw [nI_succ] at ih
          exact sub [0, 1, 2] _ _ _ _ _ _ _ rfl ih
        · intro a ha iha hpa
          have iha := iha (by omega)
          refine run [15, 38] 60 _ _ _ _ _ _ ?_
          conv => whnf
          refine pk_le (sm q (p + 1)) a (fun h => absurd h (by omega)) (fun h => ?_)
          conv => whnf
          refine pk_le m a (fun h => absurd h (by omega)) (fun h => ?_) h4
          conv => whnf
          refine ⟨vp_in_nI (by omega) (by decide), ?_⟩
          rw [nI_clamp (by omega)]
          conv => whnf
          refine ⟨vld_in hv (by omega) (by decide), ?_⟩
          conv => whnf
          rw [nI_succ] at iha
          have e : dl (S.2.2.1 16) (fun a => nI (pt q a k)) (S.2.2.1 15) (a + 1) = upd (dl (S.2.2.1 16) (fun a => nI (pt q a k)) (S.2.2.1 15) a) (S.2.2.1 16 a).toNatClampNeg (nI p) := by
            show upd _ _ (nI (pt q a k)) = _
            rw [pt_is hpa ha k hp]
          rw [e] at iha
          exact iha
      refine run [15, 38] 60 _ _ _ _ _ _ ?_
      conv => whnf
      refine pk_le k p (fun h => absurd h (by omega)) (fun h => ?_) hk
      conv => whnf
      refine ⟨vp_in_nI (by omega) (by decide), ?_⟩
      rw [nI_clamp (by omega)]
      conv => whnf
      have hi := inner (sm q p) (by omega) (Nat.le_refl _)
      have e : nI (sm q (p + 1)) = nI (sm q p) + mx k (fun j => nI (q j)) (S.2.2.1 11) p := by rw [mx_lt hp, hsp, nI_add]
      rw [e] at hi
      exact hi
  conv => whnf
  exact outer 0 (by omega)
theorem ct_X3_fillByQuotas (D : va_G) (dT : Nat → Nat) (l : Launch) : en_CT en_WD D vwCl dT l yX3_fillByQuotas cX3_fillByQuotas 4 (none) rm_X3_fillByQuotas f_X3_fillByQuotas := en_met en_WD1 en_WD2 (by decide) rfl rfl (tB_X3_fillByQuotas D dT l) (en_f_ln (fun _ => Nat.le_of_ble_eq_true rfl)) (en_f_bd bd_X3_fillByQuotas)
set_option maxRecDepth 100000 in
theorem mk_X3_fillByQuotas {D : va_G} {dT : Nat → Nat} {l : Launch} {R : Room} {s : State} {args : Array Value} {own : String} {idx : Nat} (h : en_WD s) (h1 : rm_X3_fillByQuotas.frames + 1 ≤ R.frames) (h2 : 8 + (4 + 11) + rm_X3_fillByQuotas.locals ≤ R.locals) (hl : (Jvm.Cond.methodLink own idx yX3_fillByQuotas).before args s = true ∨ ∃ host, (Jvm.Cond.methodLinkNest own idx yX3_fillByQuotas host).before args s = true) : en_mok en_WD D vwCl dT l R s args own (idx, 1, 5, 0, 0, f_X3_fillByQuotas) :=
  ⟨yX3_fillByQuotas, cX3_fillByQuotas, 4, none, rm_X3_fillByQuotas, 0, ct_X3_fillByQuotas D dT l, rfl, rfl, h1, h2, en_wd h 354 rfl rfl args, en_wd h 62 (by decide +kernel) rfl args, by decide, by decide, hl, ⟨RX3, TX3, 8, rfl, en_wd h 353 (by decide +kernel) rfl args, en_wd h 4 (by decide +kernel) rfl args, rfl⟩⟩
def f_X3_dealFrom := en_f (σ := Nat × Nat × Nat × Sx) (fun x => [.ref 13, .int (nI x.2.2.1)]) (fun x => wX x.2.2.2) (fun x => x.1 ≤ 4 ∧ x.2.1 ≤ 100 ∧ x.2.2.1 < x.1 ∧ x.2.2.2.1 2 = nI x.1 ∧ x.2.2.2.1 4 = nI x.2.1 ∧ vld (x.2.2.2.2.2.1 16) x.2.1 100) (fun x v w => v = some (.int (nI (nx x.1 x.2.2.1 x.2.1))) ∧ w = wX (xa (xa (xz x.2.2.2 (shm x.2.1 x.2.2.2.2.1 (x.2.2.2.2.2.1 16)).1) 16 (shm x.2.1 x.2.2.2.2.1 (x.2.2.2.2.2.1 16)).2) 15 (dl (shm x.2.1 x.2.2.2.2.1 (x.2.2.2.2.2.1 16)).2 (fun i => nI (nx x.1 x.2.2.1 i)) (x.2.2.2.2.2.1 15) x.2.1)))
def rm_X3_dealFrom : Room := { frames := 2, cells := 0, slots := 0, locals := 46 }
def t_X3_dealFrom : en_T := ((4, 0, 0), tb_X3_dealFrom, fl_X3, cn_X3, [(82, 3, 2, 0, 0, f_X0_shuffle)], [], 0, some .int)
set_option maxRecDepth 100000 in
theorem tB_X3_dealFrom (D : va_G) (dT : Nat → Nat) (l : Launch) : en_TB en_WD D vwCl dT l rm_X3_dealFrom t_X3_dealFrom RX3 "dealFrom" cX3_dealFrom := ⟨tk_X3_dealFrom, fun s args meth h hn => ⟨fo_X3 h args meth, co_X3 h args, List.forall_mem_cons.mpr ⟨mk_X0_shuffle (own := RX3) h (Nat.le_of_ble_eq_true rfl) (Nat.le_of_ble_eq_true rfl) (Or.inl (en_wd h 341 (by decide +kernel) rfl args)), fun _ h => absurd h List.not_mem_nil⟩, fun _ h => absurd h List.not_mem_nil, Or.inl rfl, en_arr h args⟩⟩
set_option maxHeartbeats 4000000 in
set_option maxRecDepth 100000 in
theorem bd_X3_dealFrom : en_B (σ := Nat × Nat × Nat × Sx) t_X3_dealFrom (fun x => [.ref 13, .int (nI x.2.2.1)]) (fun x => wX x.2.2.2) (fun x => x.1 ≤ 4 ∧ x.2.1 ≤ 100 ∧ x.2.2.1 < x.1 ∧ x.2.2.2.1 2 = nI x.1 ∧ x.2.2.2.1 4 = nI x.2.1 ∧ vld (x.2.2.2.2.2.1 16) x.2.1 100) (fun x v w => v = some (.int (nI (nx x.1 x.2.2.1 x.2.1))) ∧ w = wX (xa (xa (xz x.2.2.2 (shm x.2.1 x.2.2.2.2.1 (x.2.2.2.2.2.1 16)).1) 16 (shm x.2.1 x.2.2.2.2.1 (x.2.2.2.2.2.1 16)).2) 15 (dl (shm x.2.1 x.2.2.2.2.1 (x.2.2.2.2.2.1 16)).2 (fun i => nI (nx x.1 x.2.2.1 i)) (x.2.2.2.2.2.1 15) x.2.1))) := by
  rintro ⟨k, m, f, S⟩ ⟨hk, hm, hf, h2, h4, hv⟩ G hG OK ⟨run, sub⟩
  dsimp only at hk hm hf h2 h4 hv hG ⊢
  have hv' := shm_v (z := S.2.1) hv
  refine run [19] 60 _ _ _ _ _ _ ?_
  conv => whnf
  refine ⟨(m, S), (by show [Value.ref 14, Value.ref 16, Value.int (S.1 4)] = [Value.ref 14, Value.ref 16, Value.int (nI m)]; rw [h4]), rfl, hm, ?_⟩
  rintro v u ⟨hv0, hu⟩
  obtain rfl : v = none := hv0
  obtain rfl : u = wX (xa (xz S (shm m S.2.1 (S.2.2.1 16)).1) 16 (shm m S.2.1 (S.2.2.1 16)).2) := hu
  generalize shm m S.2.1 (S.2.2.1 16) = Z at hv' hG ⊢
  have loop : ∀ i, i ≤ m → OK 0 0 19 [(0, .ref 13), (1, .int (nI f)), (2, .int (nI (nx k f i))), (3, .int (nI i))] [] (wX (xa (xa (xz S Z.1) 16 Z.2) 15 (dl Z.2 (fun i => nI (nx k f i)) (S.2.2.1 15) i))) := by
    refine lp_up (fun i => OK 0 0 19 [(0, .ref 13), (1, .int (nI f)), (2, .int (nI (nx k f i))), (3, .int (nI i))] [] (wX (xa (xa (xz S Z.1) 16 Z.2) 15 (dl Z.2 (fun i => nI (nx k f i)) (S.2.2.1 15) i)))) m ?_ ?_
    · refine run [19] 60 _ _ _ _ _ _ ?_
      conv => whnf
      refine pk_le m m (fun h => ?_) (fun h => absurd h (by omega)) h4
      conv => whnf
      exact hG _ _ ⟨rfl, rfl⟩
    · intro i hi ih
      have hn := nx_lt hf i
      refine run [19] 60 _ _ _ _ _ _ ?_
      conv => whnf
      refine pk_le m i (fun h => absurd h (by omega)) (fun h => ?_) h4
      conv => whnf
      refine ⟨vp_in_nI (by omega) (by decide), ?_⟩
      rw [nI_clamp (by omega)]
      conv => whnf
      refine ⟨vld_in hv' hi (by decide), ?_⟩
      conv => whnf
      rw [nI_succ] at ih
      simp only [nx] at ih
      refine pk_le k (nx k f i + 1) (fun h => ?_) (fun h => ?_) h2 (nI_succ _).symm
      · conv => whnf
        rw [if_neg (by omega)] at ih
        exact ih
      · conv => whnf
        rw [if_pos h, nI_succ] at ih
        exact ih
  conv => whnf
  exact loop 0 (by omega)
theorem ct_X3_dealFrom (D : va_G) (dT : Nat → Nat) (l : Launch) : en_CT en_WD D vwCl dT l yX3_dealFrom cX3_dealFrom 4 (some .int) rm_X3_dealFrom f_X3_dealFrom := en_met en_WD1 en_WD2 (by decide) rfl rfl (tB_X3_dealFrom D dT l) (en_f_ln (fun _ => Nat.le_of_ble_eq_true rfl)) (en_f_bd bd_X3_dealFrom)
set_option maxRecDepth 100000 in
theorem mk_X3_dealFrom {D : va_G} {dT : Nat → Nat} {l : Launch} {R : Room} {s : State} {args : Array Value} {own : String} {idx : Nat} (h : en_WD s) (h1 : rm_X3_dealFrom.frames + 1 ≤ R.frames) (h2 : 8 + (4 + 11) + rm_X3_dealFrom.locals ≤ R.locals) (hl : (Jvm.Cond.methodLink own idx yX3_dealFrom).before args s = true ∨ ∃ host, (Jvm.Cond.methodLinkNest own idx yX3_dealFrom host).before args s = true) : en_mok en_WD D vwCl dT l R s args own (idx, 2, 5, 0, 0, f_X3_dealFrom) :=
  ⟨yX3_dealFrom, cX3_dealFrom, 4, some .int, rm_X3_dealFrom, 1, ct_X3_dealFrom D dT l, rfl, rfl, h1, h2, en_wd h 440 rfl rfl args, en_wd h 62 (by decide +kernel) rfl args, by decide, by decide, hl, ⟨RX3, TX3, 8, rfl, en_wd h 439 (by decide +kernel) rfl args, en_wd h 17 (by decide +kernel) rfl args, rfl⟩⟩
