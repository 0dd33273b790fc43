/-! SplitLeaks$Splitter: nested, groups, times, the plan by its kind -/
def f_X3_planNested := en_f (σ := Int32 × Int64 × Nat × Nat × Sx) (fun x => [.ref 13, .int x.1, .long x.2.1]) (fun x => wX x.2.2.2.2) (fun x => 1 ≤ x.2.2.1 ∧ x.2.2.1 ≤ 4 ∧ x.2.2.2.2.1 2 = nI x.2.2.1 ∧ x.2.2.2.1 ≤ 100 ∧ x.2.2.2.2.1 1 = nI x.2.2.2.1) (fun x v w => v = none ∧ ∃ S', w = wX S' ∧ kept x.2.2.2.2 S' ∧ S'.2.2.1 15 = (fst (fun l r => x.2.2.2.2.2.2.1 3 r = nI l ∧ x.2.2.2.2.2.2.1 5 r ≠ -1 ∧ x.2.2.2.2.2.2.1 5 r ≠ x.1) x.2.2.1 x.2.2.2.1 (x.2.1 + x.1.toInt64) (x.2.2.2.2.2.2.1 16) (mx x.2.2.2.1 (fun _ => -1) (x.2.2.2.2.2.2.1 15)) 5).2.2.1)
def rm_X3_planNested : Room := { frames := 3, cells := 0, slots := 0, locals := 69 }
def t_X3_planNested : en_T := ((6, 0, 0), tb_X3_planNested, fl_X3, cn_X3, [(51, 2, 2, 0, 0, f_X0_start), (75, 3, 5, 0, 0, f_X3_gatherLabelInside), (71, 2, 5, 0, 0, f_X3_dealFrom)], [], 0, none)
set_option maxRecDepth 100000 in
theorem tB_X3_planNested (D : va_G) (dT : Nat → Nat) (l : Launch) : en_TB en_WD D vwCl dT l rm_X3_planNested t_X3_planNested RX3 "planNested" cX3_planNested := ⟨tk_X3_planNested, fun s args meth h hn => ⟨fo_X3 h args meth, co_X3 h args, List.forall_mem_cons.mpr ⟨mk_X0_start (own := RX3) h (Nat.le_of_ble_eq_true rfl) (Nat.le_of_ble_eq_true rfl) (Or.inl (en_wd h 329 (by decide +kernel) rfl args)), List.forall_mem_cons.mpr ⟨mk_X3_gatherLabelInside (own := RX3) h (Nat.le_of_ble_eq_true rfl) (Nat.le_of_ble_eq_true rfl) (Or.inl (en_wd h 462 (by decide +kernel) rfl args)), List.forall_mem_cons.mpr ⟨mk_X3_dealFrom (own := RX3) h (Nat.le_of_ble_eq_true rfl) (Nat.le_of_ble_eq_true rfl) (Or.inl (en_wd h 437 (by decide +kernel) rfl args)), fun _ h => absurd h List.not_mem_nil⟩⟩⟩, fun _ h => absurd h List.not_mem_nil, Or.inl rfl, en_arr h args⟩⟩
set_option maxHeartbeats 4000000 in
set_option maxRecDepth 100000 in
theorem bd_X3_planNested : en_B (σ := Int32 × Int64 × Nat × Nat × Sx) t_X3_planNested (fun x => [.ref 13, .int x.1, .long x.2.1]) (fun x => wX x.2.2.2.2) (fun x => 1 ≤ x.2.2.1 ∧ x.2.2.1 ≤ 4 ∧ x.2.2.2.2.1 2 = nI x.2.2.1 ∧ x.2.2.2.1 ≤ 100 ∧ x.2.2.2.2.1 1 = nI x.2.2.2.1) (fun x v w => v = none ∧ ∃ S', w = wX S' ∧ kept x.2.2.2.2 S' ∧ S'.2.2.1 15 = (fst (fun l r => x.2.2.2.2.2.2.1 3 r = nI l ∧ x.2.2.2.2.2.2.1 5 r ≠ -1 ∧ x.2.2.2.2.2.2.1 5 r ≠ x.1) x.2.2.1 x.2.2.2.1 (x.2.1 + x.1.toInt64) (x.2.2.2.2.2.2.1 16) (mx x.2.2.2.1 (fun _ => -1) (x.2.2.2.2.2.2.1 15)) 5).2.2.1) := by
  rintro ⟨o, z0, k, n, S⟩ ⟨hk1, hk4, hk, hn, h1⟩ G hG OK ⟨run, sub⟩
  dsimp only at hk1 hk4 hk hn h1 hG ⊢
  generalize hz1 : z0 + o.toInt64 = z1 at hG
  generalize ho15 : mx n (fun _ => -1) (S.2.2.1 15) = o15 at hG
  have loop := lp_up (fun l => ∀ S' : Sx, kept S S' → S'.2.1 = (fst (fun l r => S.2.2.1 3 r = nI l ∧ S.2.2.1 5 r ≠ -1 ∧ S.2.2.1 5 r ≠ o) k n z1 (S.2.2.1 16) o15 l).1 → S'.2.2.1 16 = (fst (fun l r => S.2.2.1 3 r = nI l ∧ S.2.2.1 5 r ≠ -1 ∧ S.2.2.1 5 r ≠ o) k n z1 (S.2.2.1 16) o15 l).2.1 → S'.2.2.1 15 = (fst (fun l r => S.2.2.1 3 r = nI l ∧ S.2.2.1 5 r ≠ -1 ∧ S.2.2.1 5 r ≠ o) k n z1 (S.2.2.1 16) o15 l).2.2.1 → OK 0 0 46 [(0, .ref 13), (1, .int o), (4, .int (nI (fst (fun l r => S.2.2.1 3 r = nI l ∧ S.2.2.1 5 r ≠ -1 ∧ S.2.2.1 5 r ≠ o) k n z1 (S.2.2.1 16) o15 l).2.2.2)), (5, .int (nI l))] [] (wX S')) 5
    (fun S' hS' hz h16 h15 => by
      refine run [46] 60 _ _ _ _ _ _ ?_
      conv => whnf
      refine pk_le 5 5 (fun h => ?_) (fun h => absurd h (by omega))
      conv => whnf
      exact hG _ _ ⟨rfl, S', rfl, hS', h15⟩)
    (fun l hl ih S' hS' hz h16 h15 => by
      have h1' : S'.1 1 = nI n := (kept1 hS').trans h1
      have h3' : S'.2.2.1 3 = S.2.2.1 3 := keptA hS' (by decide)
      have h5' : S'.2.2.1 5 = S.2.2.1 5 := keptA hS' (by decide)
      have hk' : S'.1 2 = nI k := (hS'.1 2 (by decide)).trans hk
      have hlt := fst_lt (p := fun l r => S.2.2.1 3 r = nI l ∧ S.2.2.1 5 r ≠ -1 ∧ S.2.2.1 5 r ≠ o) (n := n) (z := z1) (o16 := S.2.2.1 16) (o15 := o15) hk1 l
      refine run [46] 60 _ _ _ _ _ _ ?_
      conv => whnf
      refine pk_le 5 l (fun h => absurd h (by omega)) (fun h => ?_)
      conv => whnf
      refine ⟨(n, nI l, o, S'), rfl, rfl, ⟨hn, h1'⟩, ?_⟩
      intro v u hvu
      have hc := ct_le (fun r => S'.2.2.1 3 r = nI l ∧ S'.2.2.1 5 r ≠ -1 ∧ S'.2.2.1 5 r ≠ o) n
      obtain ⟨rfl, rfl⟩ : v = none ∧ u = wX (xi (xa S' 16 (sel (fun r => S'.2.2.1 3 r = nI l ∧ S'.2.2.1 5 r ≠ -1 ∧ S'.2.2.1 5 r ≠ o) (S'.2.2.1 16) n)) 4 (nI (ct (fun r => S'.2.2.1 3 r = nI l ∧ S'.2.2.1 5 r ≠ -1 ∧ S'.2.2.1 5 r ≠ o) n))) := hvu
      have hv := vld_mono (sel_v (p := fun r => S'.2.2.1 3 r = nI l ∧ S'.2.2.1 5 r ≠ -1 ∧ S'.2.2.1 5 r ≠ o) (old := S'.2.2.1 16) n) hn
      generalize hff : (fst (fun l r => S.2.2.1 3 r = nI l ∧ S.2.2.1 5 r ≠ -1 ∧ S.2.2.1 5 r ≠ o) k n z1 (S.2.2.1 16) o15 l).2.2.2 = ff at hlt ⊢
      have eS : sel (fun r => S'.2.2.1 3 r = nI l ∧ S'.2.2.1 5 r ≠ -1 ∧ S'.2.2.1 5 r ≠ o) (S'.2.2.1 16) n = sel (fun r => S.2.2.1 3 r = nI l ∧ S.2.2.1 5 r ≠ -1 ∧ S.2.2.1 5 r ≠ o) (fst (fun l r => S.2.2.1 3 r = nI l ∧ S.2.2.1 5 r ≠ -1 ∧ S.2.2.1 5 r ≠ o) k n z1 (S.2.2.1 16) o15 l).2.1 n := by rw [h3', h5', h16]
      have eC : ct (fun r => S'.2.2.1 3 r = nI l ∧ S'.2.2.1 5 r ≠ -1 ∧ S'.2.2.1 5 r ≠ o) n = ct (fun r => S.2.2.1 3 r = nI l ∧ S.2.2.1 5 r ≠ -1 ∧ S.2.2.1 5 r ≠ o) n := by rw [h3', h5']
      have e3 : (fst (fun l r => S.2.2.1 3 r = nI l ∧ S.2.2.1 5 r ≠ -1 ∧ S.2.2.1 5 r ≠ o) k n z1 (S.2.2.1 16) o15 (l + 1)).2.2.1 = dl (shm (ct (fun r => S.2.2.1 3 r = nI l ∧ S.2.2.1 5 r ≠ -1 ∧ S.2.2.1 5 r ≠ o) n) (fst (fun l r => S.2.2.1 3 r = nI l ∧ S.2.2.1 5 r ≠ -1 ∧ S.2.2.1 5 r ≠ o) k n z1 (S.2.2.1 16) o15 l).1 (sel (fun r => S.2.2.1 3 r = nI l ∧ S.2.2.1 5 r ≠ -1 ∧ S.2.2.1 5 r ≠ o) (fst (fun l r => S.2.2.1 3 r = nI l ∧ S.2.2.1 5 r ≠ -1 ∧ S.2.2.1 5 r ≠ o) k n z1 (S.2.2.1 16) o15 l).2.1 n)).2 (fun i => nI (nx k ff i)) (fst (fun l r => S.2.2.1 3 r = nI l ∧ S.2.2.1 5 r ≠ -1 ∧ S.2.2.1 5 r ≠ o) k n z1 (S.2.2.1 16) o15 l).2.2.1 (ct (fun r => S.2.2.1 3 r = nI l ∧ S.2.2.1 5 r ≠ -1 ∧ S.2.2.1 5 r ≠ o) n) := by rw [← hff]; rfl
      have e4 : (fst (fun l r => S.2.2.1 3 r = nI l ∧ S.2.2.1 5 r ≠ -1 ∧ S.2.2.1 5 r ≠ o) k n z1 (S.2.2.1 16) o15 (l + 1)).2.2.2 = nx k ff (ct (fun r => S.2.2.1 3 r = nI l ∧ S.2.2.1 5 r ≠ -1 ∧ S.2.2.1 5 r ≠ o) n) := by rw [← hff]; rfl
      have ih : ∀ S' : Sx, kept S S' → S'.2.1 = (shm (ct (fun r => S.2.2.1 3 r = nI l ∧ S.2.2.1 5 r ≠ -1 ∧ S.2.2.1 5 r ≠ o) n) (fst (fun l r => S.2.2.1 3 r = nI l ∧ S.2.2.1 5 r ≠ -1 ∧ S.2.2.1 5 r ≠ o) k n z1 (S.2.2.1 16) o15 l).1 (sel (fun r => S.2.2.1 3 r = nI l ∧ S.2.2.1 5 r ≠ -1 ∧ S.2.2.1 5 r ≠ o) (fst (fun l r => S.2.2.1 3 r = nI l ∧ S.2.2.1 5 r ≠ -1 ∧ S.2.2.1 5 r ≠ o) k n z1 (S.2.2.1 16) o15 l).2.1 n)).1 → S'.2.2.1 16 = (shm (ct (fun r => S.2.2.1 3 r = nI l ∧ S.2.2.1 5 r ≠ -1 ∧ S.2.2.1 5 r ≠ o) n) (fst (fun l r => S.2.2.1 3 r = nI l ∧ S.2.2.1 5 r ≠ -1 ∧ S.2.2.1 5 r ≠ o) k n z1 (S.2.2.1 16) o15 l).1 (sel (fun r => S.2.2.1 3 r = nI l ∧ S.2.2.1 5 r ≠ -1 ∧ S.2.2.1 5 r ≠ o) (fst (fun l r => S.2.2.1 3 r = nI l ∧ S.2.2.1 5 r ≠ -1 ∧ S.2.2.1 5 r ≠ o) k n z1 (S.2.2.1 16) o15 l).2.1 n)).2 → _ := ih
      rw [e3, e4] at ih
      rw [← eS, ← eC, ← hz, ← h15] at ih
      generalize sel (fun r => S'.2.2.1 3 r = nI l ∧ S'.2.2.1 5 r ≠ -1 ∧ S'.2.2.1 5 r ≠ o) (S'.2.2.1 16) n = SE at hv ih ⊢
      generalize ct (fun r => S'.2.2.1 3 r = nI l ∧ S'.2.2.1 5 r ≠ -1 ∧ S'.2.2.1 5 r ≠ o) n = C at hc hv ih ⊢
      conv => whnf
      refine ⟨(k, C, ff, xi (xa S' 16 SE) 4 (nI C)), rfl, rfl, ⟨hk4, by dsimp only; omega, hlt, hk', rfl, hv⟩, ?_⟩
      intro v u hvu
      obtain ⟨rfl, rfl⟩ : v = some (.int (nI (nx k ff C))) ∧ u = wX (xa (xa (xz (xi (xa S' 16 SE) 4 (nI C)) (shm C S'.2.1 SE).1) 16 (shm C S'.2.1 SE).2) 15 (dl (shm C S'.2.1 SE).2 (fun i => nI (nx k ff i)) (S'.2.2.1 15) C)) := hvu
      conv => whnf
      have hih := ih _ (kept_tr hS' (kept_tr (kept_tr (kept_tr (kept_tr (kept_a (k := 16) (f := SE) (by omega)) (kept_i (v := nI C))) (kept_z (v := (shm C S'.2.1 SE).1))) (kept_a (k := 16) (f := (shm C S'.2.1 SE).2) (by omega))) (kept_a (k := 15) (f := dl (shm C S'.2.1 SE).2 (fun i => nI (nx k ff i)) (S'.2.2.1 15) C) (by omega)))) rfl rfl rfl
      rw [nI_succ] at hih
      exact hih)
  have loop1 := lp_up (fun i => OK 0 0 14 [(0, .ref 13), (1, .int o), (2, .long z0), (4, .int (nI i))] [] (wX (xa (xz S z1) 15 (mx i (fun _ => -1) (S.2.2.1 15))))) n
    (by
      refine run [14, 46] 60 _ _ _ _ _ _ ?_
      conv => whnf
      refine pk_le n n (fun h => ?_) (fun h => absurd h (by omega)) h1
      conv => whnf
      rw [ho15]
      exact sub [0, 1, 3, 4] _ _ _ _ _ _ _ rfl (loop 0 (by omega) (xa (xz S z1) 15 o15) (kept_tr kept_z (kept_a (by omega))) rfl rfl rfl))
    (fun i hi ih => by
      rw [nI_succ, ← mx_s] at ih
      refine run [14, 46] 60 _ _ _ _ _ _ ?_
      conv => whnf
      refine pk_le n i (fun h => absurd h (by omega)) (fun h => ?_) h1
      conv => whnf
      refine ⟨vp_in_nI (by omega) (by decide), ?_⟩
      rw [nI_clamp (by omega)]
      conv => whnf
      exact ih)
  refine run [14] 60 _ _ _ _ _ _ ?_
  conv => whnf
  refine ⟨(z0 + o.toInt64, S), rfl, rfl, trivial, ?_⟩
  intro v u hvu
  obtain ⟨rfl, rfl⟩ : v = none ∧ u = wX (xz S z1) := by rw [← hz1]; exact hvu
  conv => whnf
  have h0 := loop1 0 (by omega)
  rw [mx_0] at h0
  exact h0
theorem ct_X3_planNested (D : va_G) (dT : Nat → Nat) (l : Launch) : en_CT en_WD D vwCl dT l yX3_planNested cX3_planNested 6 (none) rm_X3_planNested f_X3_planNested := en_met en_WD1 en_WD2 (by decide) rfl rfl (tB_X3_planNested D dT l) (en_f_ln (fun _ => Nat.le_of_ble_eq_true rfl)) (en_f_bd bd_X3_planNested)
set_option maxRecDepth 100000 in
theorem mk_X3_planNested {D : va_G} {dT : Nat → Nat} {l : Launch} {R : Room} {s : State} {args : Array Value} {own : String} {idx : Nat} (h : en_WD s) (h1 : rm_X3_planNested.frames + 1 ≤ R.frames) (h2 : 8 + (6 + 11) + rm_X3_planNested.locals ≤ R.locals) (hl : (Jvm.Cond.methodLink own idx yX3_planNested).before args s = true ∨ ∃ host, (Jvm.Cond.methodLinkNest own idx yX3_planNested host).before args s = true) : en_mok en_WD D vwCl dT l R s args own (idx, 3, 5, 0, 0, f_X3_planNested) :=
  ⟨yX3_planNested, cX3_planNested, 6, none, rm_X3_planNested, 2, ct_X3_planNested D dT l, rfl, rfl, h1, h2, en_wd h 461 rfl rfl args, en_wd h 62 (by decide +kernel) rfl args, by decide, by decide, hl, ⟨RX3, TX3, 8, rfl, en_wd h 459 (by decide +kernel) rfl args, en_wd h 460 (by decide +kernel) rfl args, rfl⟩⟩
