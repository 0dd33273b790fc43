/-! SplitLeaks$Splitter: by labels, folds, nested -/
theorem kept1 {S S' : Sx} (h : kept S S') : S'.1 1 = S.1 1 := h.1 1 (by decide)
theorem keptA {S S' : Sx} (h : kept S S') {a : Nat} (h1 : a < 11) : S'.2.2.1 a = S.2.2.1 a := h.2.1 a (by omega) (by omega) (by omega) (by omega) (by omega) (by omega)
/-- label by label: z, the things, what is planned -/
def lst (Lb : Nat → Int32) (w : Nat → Nat) (W k n : Nat) (z : Int64) (o16 o15 : Nat → Int32) : Nat → Int64 × (Nat → Int32) × (Nat → Int32)
  | 0 => (z, o16, o15)
  | l + 1 =>
    ((shm (ct (fun r => Lb r = nI l) n) (lst Lb w W k n z o16 o15 l).1 (sel (fun r => Lb r = nI l) (lst Lb w W k n z o16 o15 l).2.1 n)).1,
     (shm (ct (fun r => Lb r = nI l) n) (lst Lb w W k n z o16 o15 l).1 (sel (fun r => Lb r = nI l) (lst Lb w W k n z o16 o15 l).2.1 n)).2,
     dl (shm (ct (fun r => Lb r = nI l) n) (lst Lb w W k n z o16 o15 l).1 (sel (fun r => Lb r = nI l) (lst Lb w W k n z o16 o15 l).2.1 n)).2 (fun a => nI (pt (qf w W k (ct (fun r => Lb r = nI l) n)) a k)) (lst Lb w W k n z o16 o15 l).2.2 (ct (fun r => Lb r = nI l) n))
theorem vld_mono {f : Nat → Int32} {m b c : Nat} (h : vld f m b) (hc : b ≤ c) : vld f m c := fun i hi => by
  obtain ⟨r, hr, e⟩ := h i hi
  exact ⟨r, by omega, e⟩
def f_X3_planLabels := en_f (σ := (Nat → Nat) × Nat × Nat × Nat × Sx) (fun _ => [.ref 13]) (fun x => wX x.2.2.2.2) (fun x => wgt x.2.2.2.2 x.1 x.2.1 x.2.2.1 ∧ x.2.2.2.1 ≤ 100 ∧ x.2.2.2.2.1 1 = nI x.2.2.2.1) (fun x v w => v = none ∧ ∃ S', w = wX S' ∧ kept x.2.2.2.2 S' ∧ S'.2.2.1 15 = (lst (x.2.2.2.2.2.2.1 3) x.1 x.2.1 x.2.2.1 x.2.2.2.1 x.2.2.2.2.2.1 (x.2.2.2.2.2.2.1 16) (x.2.2.2.2.2.2.1 15) 5).2.2)
def rm_X3_planLabels : Room := { frames := 3, cells := 0, slots := 0, locals := 69 }
def t_X3_planLabels : en_T := ((2, 0, 0), tb_X3_planLabels, fl_X3, cn_X3, [(68, 2, 5, 0, 0, f_X3_gatherLabel), (82, 3, 2, 0, 0, f_X0_shuffle), (86, 1, 5, 0, 0, f_X3_fillByQuotas)], [], 0, none)
set_option maxRecDepth 100000 in
theorem tB_X3_planLabels (D : va_G) (dT : Nat → Nat) (l : Launch) : en_TB en_WD D vwCl dT l rm_X3_planLabels t_X3_planLabels RX3 "planLabels" cX3_planLabels := ⟨tk_X3_planLabels, fun s args meth h hn => ⟨fo_X3 h args meth, co_X3 h args, List.forall_mem_cons.mpr ⟨mk_X3_gatherLabel (own := RX3) h (Nat.le_of_ble_eq_true rfl) (Nat.le_of_ble_eq_true rfl) (Or.inl (en_wd h 405 (by decide +kernel) rfl args)), List.forall_mem_cons.mpr ⟨mk_X0_shuffle (own := RX3) h (Nat.le_of_ble_eq_true rfl) (Nat.le_of_ble_eq_true rfl) (Or.inl (en_wd h 341 (by decide +kernel) rfl args)), List.forall_mem_cons.mpr ⟨mk_X3_fillByQuotas (own := RX3) h (Nat.le_of_ble_eq_true rfl) (Nat.le_of_ble_eq_true rfl) (Or.inl (en_wd h 351 (by decide +kernel) rfl args)), fun _ h => absurd h List.not_mem_nil⟩⟩⟩, fun _ h => absurd h List.not_mem_nil, Or.inl rfl, en_arr h args⟩⟩
set_option maxHeartbeats 4000000 in
set_option maxRecDepth 100000 in
theorem bd_X3_planLabels : en_B (σ := (Nat → Nat) × Nat × Nat × Nat × Sx) t_X3_planLabels (fun _ => [.ref 13]) (fun x => wX x.2.2.2.2) (fun x => wgt x.2.2.2.2 x.1 x.2.1 x.2.2.1 ∧ x.2.2.2.1 ≤ 100 ∧ x.2.2.2.2.1 1 = nI x.2.2.2.1) (fun x v w => v = none ∧ ∃ S', w = wX S' ∧ kept x.2.2.2.2 S' ∧ S'.2.2.1 15 = (lst (x.2.2.2.2.2.2.1 3) x.1 x.2.1 x.2.2.1 x.2.2.2.1 x.2.2.2.2.2.1 (x.2.2.2.2.2.2.1 16) (x.2.2.2.2.2.2.1 15) 5).2.2) := by
  rintro ⟨w, W, k, n, S⟩ ⟨hwg, hn, h1⟩ G hG OK ⟨run, sub⟩
  dsimp only at hwg hn h1 hG ⊢
  have loop := lp_up (fun l => ∀ S' : Sx, kept S S' → S'.2.1 = (lst (S.2.2.1 3) w W k n S.2.1 (S.2.2.1 16) (S.2.2.1 15) l).1 → S'.2.2.1 16 = (lst (S.2.2.1 3) w W k n S.2.1 (S.2.2.1 16) (S.2.2.1 15) l).2.1 → S'.2.2.1 15 = (lst (S.2.2.1 3) w W k n S.2.1 (S.2.2.1 16) (S.2.2.1 15) l).2.2 → OK 0 0 2 [(0, .ref 13), (1, .int (nI l))] [] (wX S')) 5
    (fun S' hS' hz h16 h15 => by
      refine run [2] 60 _ _ _ _ _ _ ?_
      conv => whnf
      refine pk_le 5 5 (fun h => ?_) (fun h => absurd h (by omega))
      conv => whnf
      exact hG _ _ ⟨rfl, S', rfl, hS', h15⟩)
    (fun l hl ih S' hS' hz h16 h15 => by
      have h1' : S'.1 1 = nI n := (kept1 hS').trans h1
      have h3' : S'.2.2.1 3 = S.2.2.1 3 := keptA hS' (by decide)
      obtain ⟨hok, hk, hW, hw⟩ := wgt_k hwg hS'
      refine run [2] 60 _ _ _ _ _ _ ?_
      conv => whnf
      refine pk_le 5 l (fun h => absurd h (by omega)) (fun h => ?_)
      conv => whnf
      refine ⟨(n, nI l, S'), rfl, rfl, ⟨hn, h1'⟩, ?_⟩
      intro v u hvu
      have hc := ct_le (fun r => S'.2.2.1 3 r = nI l) n
      obtain ⟨rfl, rfl⟩ : v = none ∧ u = wX (xi (xa S' 16 (sel (fun r => S'.2.2.1 3 r = nI l) (S'.2.2.1 16) n)) 4 (nI (ct (fun r => S'.2.2.1 3 r = nI l) n))) := hvu
      conv => whnf
      refine ⟨(ct (fun r => S'.2.2.1 3 r = nI l) n, xi (xa S' 16 (sel (fun r => S'.2.2.1 3 r = nI l) (S'.2.2.1 16) n)) 4 (nI (ct (fun r => S'.2.2.1 3 r = nI l) n))), rfl, rfl, (by dsimp only; omega), ?_⟩
      intro v u hvu
      obtain ⟨rfl, rfl⟩ : v = none ∧ u = wX (xa (xz (xi (xa S' 16 (sel (fun r => S'.2.2.1 3 r = nI l) (S'.2.2.1 16) n)) 4 (nI (ct (fun r => S'.2.2.1 3 r = nI l) n))) (shm (ct (fun r => S'.2.2.1 3 r = nI l) n) S'.2.1 (sel (fun r => S'.2.2.1 3 r = nI l) (S'.2.2.1 16) n)).1) 16 (shm (ct (fun r => S'.2.2.1 3 r = nI l) n) S'.2.1 (sel (fun r => S'.2.2.1 3 r = nI l) (S'.2.2.1 16) n)).2) := hvu
      have hv := vld_mono (shm_v (z := S'.2.1) (sel_v (p := fun r => S'.2.2.1 3 r = nI l) (old := S'.2.2.1 16) n)) hn
      conv => whnf
      refine ⟨(w, W, k, ct (fun r => S'.2.2.1 3 r = nI l) n, xa (xz (xi (xa S' 16 (sel (fun r => S'.2.2.1 3 r = nI l) (S'.2.2.1 16) n)) 4 (nI (ct (fun r => S'.2.2.1 3 r = nI l) n))) (shm (ct (fun r => S'.2.2.1 3 r = nI l) n) S'.2.1 (sel (fun r => S'.2.2.1 3 r = nI l) (S'.2.2.1 16) n)).1) 16 (shm (ct (fun r => S'.2.2.1 3 r = nI l) n) S'.2.1 (sel (fun r => S'.2.2.1 3 r = nI l) (S'.2.2.1 16) n)).2), rfl, rfl, ⟨hok, by dsimp only; omega, hk, hW, hw, rfl, hv⟩, ?_⟩
      rintro v u ⟨hv0, q, r, hu⟩
      obtain rfl : v = none := hv0
      obtain rfl : u = wX (xa (xa (xa (xa (xz (xi (xa S' 16 (sel (fun r => S'.2.2.1 3 r = nI l) (S'.2.2.1 16) n)) 4 (nI (ct (fun r => S'.2.2.1 3 r = nI l) n))) (shm (ct (fun r => S'.2.2.1 3 r = nI l) n) S'.2.1 (sel (fun r => S'.2.2.1 3 r = nI l) (S'.2.2.1 16) n)).1) 16 (shm (ct (fun r => S'.2.2.1 3 r = nI l) n) S'.2.1 (sel (fun r => S'.2.2.1 3 r = nI l) (S'.2.2.1 16) n)).2) 11 q) 12 r) 15 (dl (shm (ct (fun r => S'.2.2.1 3 r = nI l) n) S'.2.1 (sel (fun r => S'.2.2.1 3 r = nI l) (S'.2.2.1 16) n)).2 (fun a => nI (pt (qf w W k (ct (fun r => S'.2.2.1 3 r = nI l) n)) a k)) (S'.2.2.1 15) (ct (fun r => S'.2.2.1 3 r = nI l) n))) := hu
      conv => whnf
      have hih := ih _ (kept_tr hS' (kept_tr (kept_tr (kept_tr (kept_tr (kept_tr (kept_tr (kept_a (k := 16) (f := sel (fun r => S'.2.2.1 3 r = nI l) (S'.2.2.1 16) n) (by omega)) (kept_i (v := nI (ct (fun r => S'.2.2.1 3 r = nI l) n)))) (kept_z (v := (shm (ct (fun r => S'.2.2.1 3 r = nI l) n) S'.2.1 (sel (fun r => S'.2.2.1 3 r = nI l) (S'.2.2.1 16) n)).1))) (kept_a (k := 16) (f := (shm (ct (fun r => S'.2.2.1 3 r = nI l) n) S'.2.1 (sel (fun r => S'.2.2.1 3 r = nI l) (S'.2.2.1 16) n)).2) (by omega))) (kept_a (k := 11) (f := q) (by omega))) (kept_a (k := 12) (f := r) (by omega))) (kept_a (k := 15) (f := dl (shm (ct (fun r => S'.2.2.1 3 r = nI l) n) S'.2.1 (sel (fun r => S'.2.2.1 3 r = nI l) (S'.2.2.1 16) n)).2 (fun a => nI (pt (qf w W k (ct (fun r => S'.2.2.1 3 r = nI l) n)) a k)) (S'.2.2.1 15) (ct (fun r => S'.2.2.1 3 r = nI l) n)) (by omega))))
        (by show (shm (ct (fun r => S'.2.2.1 3 r = nI l) n) S'.2.1 (sel (fun r => S'.2.2.1 3 r = nI l) (S'.2.2.1 16) n)).1 = _; rw [h3', hz, h16]; rfl)
        (by show (shm (ct (fun r => S'.2.2.1 3 r = nI l) n) S'.2.1 (sel (fun r => S'.2.2.1 3 r = nI l) (S'.2.2.1 16) n)).2 = _; rw [h3', hz, h16]; rfl)
        (by show dl (shm (ct (fun r => S'.2.2.1 3 r = nI l) n) S'.2.1 (sel (fun r => S'.2.2.1 3 r = nI l) (S'.2.2.1 16) n)).2 (fun a => nI (pt (qf w W k (ct (fun r => S'.2.2.1 3 r = nI l) n)) a k)) (S'.2.2.1 15) (ct (fun r => S'.2.2.1 3 r = nI l) n) = _; rw [h3', hz, h16, h15]; rfl)
      rw [nI_succ] at hih
      exact hih)
  refine run [2] 60 _ _ _ _ _ _ ?_
  conv => whnf
  exact loop 0 (by omega) S (kept_rf S) rfl rfl rfl
theorem ct_X3_planLabels (D : va_G) (dT : Nat → Nat) (l : Launch) : en_CT en_WD D vwCl dT l yX3_planLabels cX3_planLabels 2 (none) rm_X3_planLabels f_X3_planLabels := en_met en_WD1 en_WD2 (by decide) rfl rfl (tB_X3_planLabels D dT l) (en_f_ln (fun _ => Nat.le_of_ble_eq_true rfl)) (en_f_bd bd_X3_planLabels)
set_option maxRecDepth 100000 in
theorem mk_X3_planLabels {D : va_G} {dT : Nat → Nat} {l : Launch} {R : Room} {s : State} {args : Array Value} {own : String} {idx : Nat} (h : en_WD s) (h1 : rm_X3_planLabels.frames + 1 ≤ R.frames) (h2 : 8 + (2 + 11) + rm_X3_planLabels.locals ≤ R.locals) (hl : (Jvm.Cond.methodLink own idx yX3_planLabels).before args s = true ∨ ∃ host, (Jvm.Cond.methodLinkNest own idx yX3_planLabels host).before args s = true) : en_mok en_WD D vwCl dT l R s args own (idx, 1, 5, 0, 0, f_X3_planLabels) :=
  ⟨yX3_planLabels, cX3_planLabels, 2, none, rm_X3_planLabels, 0, ct_X3_planLabels D dT l, rfl, rfl, h1, h2, en_wd h 404 rfl rfl args, en_wd h 62 (by decide +kernel) rfl args, by decide, by decide, hl, ⟨RX3, TX3, 8, rfl, en_wd h 403 (by decide +kernel) rfl args, en_wd h 15 (by decide +kernel) rfl args, rfl⟩⟩
/-- label by label, dealt round: z, the things, what is planned, the next part -/
def fst (p : Nat → Nat → Prop) [∀ l, DecidablePred (p l)] (k n : Nat) (z : Int64) (o16 o15 : Nat → Int32) : Nat → Int64 × (Nat → Int32) × (Nat → Int32) × Nat
  | 0 => (z, o16, o15, 0)
  | l + 1 =>
    ((shm (ct (p l) n) (fst p k n z o16 o15 l).1 (sel (p l) (fst p k n z o16 o15 l).2.1 n)).1,
     (shm (ct (p l) n) (fst p k n z o16 o15 l).1 (sel (p l) (fst p k n z o16 o15 l).2.1 n)).2,
     dl (shm (ct (p l) n) (fst p k n z o16 o15 l).1 (sel (p l) (fst p k n z o16 o15 l).2.1 n)).2 (fun i => nI (nx k (fst p k n z o16 o15 l).2.2.2 i)) (fst p k n z o16 o15 l).2.2.1 (ct (p l) n),
     nx k (fst p k n z o16 o15 l).2.2.2 (ct (p l) n))
theorem fst_lt {p : Nat → Nat → Prop} [∀ l, DecidablePred (p l)] {k n : Nat} {z : Int64} {o16 o15 : Nat → Int32} (hk : 0 < k) : ∀ l, (fst p k n z o16 o15 l).2.2.2 < k
  | 0 => hk
  | l + 1 => nx_lt (fst_lt hk l) _
def f_X3_planFolds := en_f (σ := Int64 × Nat × Nat × Sx) (fun x => [.ref 13, .long x.1]) (fun x => wX x.2.2.2) (fun x => 1 ≤ x.2.1 ∧ x.2.1 ≤ 4 ∧ x.2.2.2.1 2 = nI x.2.1 ∧ x.2.2.1 ≤ 100 ∧ x.2.2.2.1 1 = nI x.2.2.1) (fun x v w => v = none ∧ ∃ S', w = wX S' ∧ kept x.2.2.2 S' ∧ S'.2.2.1 15 = (fst (fun l r => x.2.2.2.2.2.1 3 r = nI l) x.2.1 x.2.2.1 x.1 (x.2.2.2.2.2.1 16) (x.2.2.2.2.2.1 15) 5).2.2.1)
def rm_X3_planFolds : Room := { frames := 3, cells := 0, slots := 0, locals := 69 }
def t_X3_planFolds : en_T := ((5, 0, 0), tb_X3_planFolds, fl_X3, cn_X3, [(51, 2, 2, 0, 0, f_X0_start), (68, 2, 5, 0, 0, f_X3_gatherLabel), (71, 2, 5, 0, 0, f_X3_dealFrom)], [], 0, none)
set_option maxRecDepth 100000 in
theorem tB_X3_planFolds (D : va_G) (dT : Nat → Nat) (l : Launch) : en_TB en_WD D vwCl dT l rm_X3_planFolds t_X3_planFolds RX3 "planFolds" cX3_planFolds := ⟨tk_X3_planFolds, fun s args meth h hn => ⟨fo_X3 h args meth, co_X3 h args, List.forall_mem_cons.mpr ⟨mk_X0_start (own := RX3) h (Nat.le_of_ble_eq_true rfl) (Nat.le_of_ble_eq_true rfl) (Or.inl (en_wd h 329 (by decide +kernel) rfl args)), List.forall_mem_cons.mpr ⟨mk_X3_gatherLabel (own := RX3) h (Nat.le_of_ble_eq_true rfl) (Nat.le_of_ble_eq_true rfl) (Or.inl (en_wd h 405 (by decide +kernel) rfl args)), List.forall_mem_cons.mpr ⟨mk_X3_dealFrom (own := RX3) h (Nat.le_of_ble_eq_true rfl) (Nat.le_of_ble_eq_true rfl) (Or.inl (en_wd h 437 (by decide +kernel) rfl args)), fun _ h => absurd h List.not_mem_nil⟩⟩⟩, fun _ h => absurd h List.not_mem_nil, Or.inl rfl, en_arr h args⟩⟩
set_option maxHeartbeats 4000000 in
set_option maxRecDepth 100000 in
theorem bd_X3_planFolds : en_B (σ := Int64 × Nat × Nat × Sx) t_X3_planFolds (fun x => [.ref 13, .long x.1]) (fun x => wX x.2.2.2) (fun x => 1 ≤ x.2.1 ∧ x.2.1 ≤ 4 ∧ x.2.2.2.1 2 = nI x.2.1 ∧ x.2.2.1 ≤ 100 ∧ x.2.2.2.1 1 = nI x.2.2.1) (fun x v w => v = none ∧ ∃ S', w = wX S' ∧ kept x.2.2.2 S' ∧ S'.2.2.1 15 = (fst (fun l r => x.2.2.2.2.2.1 3 r = nI l) x.2.1 x.2.2.1 x.1 (x.2.2.2.2.2.1 16) (x.2.2.2.2.2.1 15) 5).2.2.1) := by
  rintro ⟨z0, k, n, S⟩ ⟨hk1, hk4, hk, hn, h1⟩ G hG OK ⟨run, sub⟩
  dsimp only at hk1 hk4 hk hn h1 hG ⊢
  have loop := lp_up (fun l => ∀ S' : Sx, kept S S' → S'.2.1 = (fst (fun l r => S.2.2.1 3 r = nI l) k n z0 (S.2.2.1 16) (S.2.2.1 15) l).1 → S'.2.2.1 16 = (fst (fun l r => S.2.2.1 3 r = nI l) k n z0 (S.2.2.1 16) (S.2.2.1 15) l).2.1 → S'.2.2.1 15 = (fst (fun l r => S.2.2.1 3 r = nI l) k n z0 (S.2.2.1 16) (S.2.2.1 15) l).2.2.1 → OK 0 0 13 [(0, .ref 13), (1, .long z0), (3, .int (nI (fst (fun l r => S.2.2.1 3 r = nI l) k n z0 (S.2.2.1 16) (S.2.2.1 15) l).2.2.2)), (4, .int (nI l))] [] (wX S')) 5
    (fun S' hS' hz h16 h15 => by
      refine run [13] 60 _ _ _ _ _ _ ?_
      conv => whnf
      refine pk_le 5 5 (fun h => ?_) (fun h => absurd h (by omega))
      conv => whnf
      exact hG _ _ ⟨rfl, S', rfl, hS', h15⟩)
    (fun l hl ih S' hS' hz h16 h15 => by
      have h1' : S'.1 1 = nI n := (kept1 hS').trans h1
      have h3' : S'.2.2.1 3 = S.2.2.1 3 := keptA hS' (by decide)
      have hk' : S'.1 2 = nI k := (hS'.1 2 (by decide)).trans hk
      have hlt := fst_lt (p := fun l r => S.2.2.1 3 r = nI l) (n := n) (z := z0) (o16 := S.2.2.1 16) (o15 := S.2.2.1 15) hk1 l
      refine run [13] 60 _ _ _ _ _ _ ?_
      conv => whnf
      refine pk_le 5 l (fun h => absurd h (by omega)) (fun h => ?_)
      conv => whnf
      refine ⟨(n, nI l, S'), rfl, rfl, ⟨hn, h1'⟩, ?_⟩
      intro v u hvu
      have hc := ct_le (fun r => S'.2.2.1 3 r = nI l) n
      obtain ⟨rfl, rfl⟩ : v = none ∧ u = wX (xi (xa S' 16 (sel (fun r => S'.2.2.1 3 r = nI l) (S'.2.2.1 16) n)) 4 (nI (ct (fun r => S'.2.2.1 3 r = nI l) n))) := hvu
      have hv := vld_mono (sel_v (p := fun r => S'.2.2.1 3 r = nI l) (old := S'.2.2.1 16) n) hn
      generalize hff : (fst (fun l r => S.2.2.1 3 r = nI l) k n z0 (S.2.2.1 16) (S.2.2.1 15) l).2.2.2 = ff at hlt ⊢
      conv => whnf
      refine ⟨(k, ct (fun r => S'.2.2.1 3 r = nI l) n, ff, xi (xa S' 16 (sel (fun r => S'.2.2.1 3 r = nI l) (S'.2.2.1 16) n)) 4 (nI (ct (fun r => S'.2.2.1 3 r = nI l) n))), rfl, rfl, ⟨hk4, by dsimp only; omega, hlt, hk', rfl, hv⟩, ?_⟩
      intro v u hvu
      obtain ⟨rfl, rfl⟩ : v = some (.int (nI (nx k ff (ct (fun r => S'.2.2.1 3 r = nI l) n)))) ∧ u = wX (xa (xa (xz (xi (xa S' 16 (sel (fun r => S'.2.2.1 3 r = nI l) (S'.2.2.1 16) n)) 4 (nI (ct (fun r => S'.2.2.1 3 r = nI l) n))) (shm (ct (fun r => S'.2.2.1 3 r = nI l) n) S'.2.1 (sel (fun r => S'.2.2.1 3 r = nI l) (S'.2.2.1 16) n)).1) 16 (shm (ct (fun r => S'.2.2.1 3 r = nI l) n) S'.2.1 (sel (fun r => S'.2.2.1 3 r = nI l) (S'.2.2.1 16) n)).2) 15 (dl (shm (ct (fun r => S'.2.2.1 3 r = nI l) n) S'.2.1 (sel (fun r => S'.2.2.1 3 r = nI l) (S'.2.2.1 16) n)).2 (fun i => nI (nx k ff i)) (S'.2.2.1 15) (ct (fun r => S'.2.2.1 3 r = nI l) n))) := hvu
      conv => whnf
      have hih := ih _ (kept_tr hS' (kept_tr (kept_tr (kept_tr (kept_tr (kept_a (k := 16) (f := sel (fun r => S'.2.2.1 3 r = nI l) (S'.2.2.1 16) n) (by omega)) (kept_i (v := nI (ct (fun r => S'.2.2.1 3 r = nI l) n)))) (kept_z (v := (shm (ct (fun r => S'.2.2.1 3 r = nI l) n) S'.2.1 (sel (fun r => S'.2.2.1 3 r = nI l) (S'.2.2.1 16) n)).1))) (kept_a (k := 16) (f := (shm (ct (fun r => S'.2.2.1 3 r = nI l) n) S'.2.1 (sel (fun r => S'.2.2.1 3 r = nI l) (S'.2.2.1 16) n)).2) (by omega))) (kept_a (k := 15) (f := dl (shm (ct (fun r => S'.2.2.1 3 r = nI l) n) S'.2.1 (sel (fun r => S'.2.2.1 3 r = nI l) (S'.2.2.1 16) n)).2 (fun i => nI (nx k ff i)) (S'.2.2.1 15) (ct (fun r => S'.2.2.1 3 r = nI l) n)) (by omega))))
        (by show (shm (ct (fun r => S'.2.2.1 3 r = nI l) n) S'.2.1 (sel (fun r => S'.2.2.1 3 r = nI l) (S'.2.2.1 16) n)).1 = _; rw [h3', hz, h16]; rfl)
        (by show (shm (ct (fun r => S'.2.2.1 3 r = nI l) n) S'.2.1 (sel (fun r => S'.2.2.1 3 r = nI l) (S'.2.2.1 16) n)).2 = _; rw [h3', hz, h16]; rfl)
        (by show dl (shm (ct (fun r => S'.2.2.1 3 r = nI l) n) S'.2.1 (sel (fun r => S'.2.2.1 3 r = nI l) (S'.2.2.1 16) n)).2 (fun i => nI (nx k ff i)) (S'.2.2.1 15) (ct (fun r => S'.2.2.1 3 r = nI l) n) = _; rw [h3', hz, h16, h15, ← hff]; rfl)
      rw [nI_succ] at hih
      have e : (fst (fun l r => S.2.2.1 3 r = nI l) k n z0 (S.2.2.1 16) (S.2.2.1 15) (l + 1)).2.2.2 = nx k ff (ct (fun r => S'.2.2.1 3 r = nI l) n) := by
        show nx k _ _ = _
        rw [hff, h3']
      rw [e] at hih
      exact hih)
  refine run [13] 60 _ _ _ _ _ _ ?_
  conv => whnf
  refine ⟨(z0, S), rfl, rfl, trivial, ?_⟩
  intro v u hvu
  obtain ⟨rfl, rfl⟩ : v = none ∧ u = wX (xz S z0) := hvu
  conv => whnf
  exact loop 0 (by omega) (xz S z0) kept_z rfl rfl rfl
theorem ct_X3_planFolds (D : va_G) (dT : Nat → Nat) (l : Launch) : en_CT en_WD D vwCl dT l yX3_planFolds cX3_planFolds 5 (none) rm_X3_planFolds f_X3_planFolds := en_met en_WD1 en_WD2 (by decide) rfl rfl (tB_X3_planFolds D dT l) (en_f_ln (fun _ => Nat.le_of_ble_eq_true rfl)) (en_f_bd bd_X3_planFolds)
set_option maxRecDepth 100000 in
theorem mk_X3_planFolds {D : va_G} {dT : Nat → Nat} {l : Launch} {R : Room} {s : State} {args : Array Value} {own : String} {idx : Nat} (h : en_WD s) (h1 : rm_X3_planFolds.frames + 1 ≤ R.frames) (h2 : 8 + (5 + 11) + rm_X3_planFolds.locals ≤ R.locals) (hl : (Jvm.Cond.methodLink own idx yX3_planFolds).before args s = true ∨ ∃ host, (Jvm.Cond.methodLinkNest own idx yX3_planFolds host).before args s = true) : en_mok en_WD D vwCl dT l R s args own (idx, 2, 5, 0, 0, f_X3_planFolds) :=
  ⟨yX3_planFolds, cX3_planFolds, 5, none, rm_X3_planFolds, 1, ct_X3_planFolds D dT l, rfl, rfl, h1, h2, en_wd h 436 rfl rfl args, en_wd h 62 (by decide +kernel) rfl args, by decide, by decide, hl, ⟨RX3, TX3, 8, rfl, en_wd h 434 (by decide +kernel) rfl args, en_wd h 435 (by decide +kernel) rfl args, rfl⟩⟩
