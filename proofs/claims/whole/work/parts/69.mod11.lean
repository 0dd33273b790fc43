/-! the reference: the split by its kind, folds, nested -/
theorem sel_c {p q : Nat → Prop} [DecidablePred p] [DecidablePred q] {old : Nat → Int32} : ∀ {n : Nat}, (∀ i, i < n → (p i ↔ q i)) → sel p old n = sel q old n
  | 0, _ => rfl
  | n + 1, h => by
    have ih := sel_c (p := p) (q := q) (old := old) (n := n) (fun i hi => h i (by omega))
    have hc := ct_c (p := p) (q := q) (n := n) (fun i hi => h i (by omega))
    by_cases hp : p n
    · rw [sel_t hp, sel_t ((h n (by omega)).mp hp), ih, hc]
    · rw [sel_f hp, sel_f (fun z => hp ((h n (by omega)).mpr z)), ih]
/-- what the reference deals, by the kind -/
def PMN (S : Sx) (w : Nat → Nat) (W k n : Nat) (kind : Nat) (z : Int64) (g : Int32) (q : Nat → Int32) : Nat → Int32 := match kind with
  | 0 => PL0 w W k n z (S.2.2.1 13) (S.2.2.1 12)
  | 1 => PL1 (S.2.2.1 1) (S.2.2.1 7) (S.1 2) k n z (S.2.2.1 13) (S.2.2.1 12) q
  | 2 => PM2 (S.2.2.1 3) w W k n g (S.2.2.1 13) (S.2.2.1 12)
  | _ => (lst (S.2.2.1 2) w W k n z (S.2.2.1 13) (S.2.2.1 12) 5).2.2
def f_X7_deal := en_f (σ := Int32 × Int64 × Int32 × Nat × (Nat → Nat) × Nat × Nat × Sx) (fun x => [.ref 0, .int x.1, .long x.2.1, .int x.2.2.1]) (fun x => wM x.2.2.2.2.2.2.2) (fun x => x.2.2.2.1 ≤ 100 ∧ x.2.2.2.2.2.2.2.1 0 = nI x.2.2.2.1 ∧ wgm x.2.2.2.2.2.2.2 x.2.2.2.2.1 x.2.2.2.2.2.1 x.2.2.2.2.2.2.1) (fun x v w => (¬ splq x.1 x.2.2.1 ∧ v = some (.int 0) ∧ w = wM x.2.2.2.2.2.2.2) ∨ (splq x.1 x.2.2.1 ∧ v = some (.int 1) ∧ ∃ S' q, w = wM S' ∧ kpm x.2.2.2.2.2.2.2 S' ∧ S'.2.2.1 12 = PMN x.2.2.2.2.2.2.2 x.2.2.2.2.1 x.2.2.2.2.2.1 x.2.2.2.2.2.2.1 x.2.2.2.1 (tn x.1) x.2.1 x.2.2.1 q))
def rm_X7_deal : Room := { frames := 3, cells := 0, slots := 0, locals := 70 }
def t_X7_deal : en_T := ((6, 0, 0), tb_X7_deal, fl_X7, cn_X7, [(70, 3, 0, 0, 0, f_X7_in), (110, 1, 9, 0, 0, f_X7_plain), (113, 1, 9, 0, 0, f_X7_byGroups), (116, 2, 9, 0, 0, f_X7_byTimes), (119, 3, 9, 0, 0, f_X7_ofLabel), (104, 1, 9, 0, 0, f_X7_shuffle), (107, 1, 9, 0, 0, f_X7_give)], [], 0, some .boolean)
set_option maxRecDepth 100000 in
theorem tB_X7_deal (D : va_G) (dT : Nat → Nat) (l : Launch) : en_TB en_WD D vwCl dT l rm_X7_deal t_X7_deal RX7 "deal" cX7_deal := ⟨tk_X7_deal, fun s args meth h hn => ⟨fo_X7 h args meth, co_X7 h args, List.forall_mem_cons.mpr ⟨mk_X7_in (own := RX7) h (Nat.le_of_ble_eq_true rfl) (Nat.le_of_ble_eq_true rfl) (Or.inl (en_wd h 828 (by decide +kernel) rfl args)), List.forall_mem_cons.mpr ⟨mk_X7_plain (own := RX7) h (Nat.le_of_ble_eq_true rfl) (Nat.le_of_ble_eq_true rfl) (Or.inl (en_wd h 868 (by decide +kernel) rfl args)), List.forall_mem_cons.mpr ⟨mk_X7_byGroups (own := RX7) h (Nat.le_of_ble_eq_true rfl) (Nat.le_of_ble_eq_true rfl) (Or.inl (en_wd h 886 (by decide +kernel) rfl args)), List.forall_mem_cons.mpr ⟨mk_X7_byTimes (own := RX7) h (Nat.le_of_ble_eq_true rfl) (Nat.le_of_ble_eq_true rfl) (Or.inl (en_wd h 890 (by decide +kernel) rfl args)), List.forall_mem_cons.mpr ⟨mk_X7_ofLabel (own := RX7) h (Nat.le_of_ble_eq_true rfl) (Nat.le_of_ble_eq_true rfl) (Or.inl (en_wd h 894 (by decide +kernel) rfl args)), List.forall_mem_cons.mpr ⟨mk_X7_shuffle (own := RX7) h (Nat.le_of_ble_eq_true rfl) (Nat.le_of_ble_eq_true rfl) (Or.inl (en_wd h 872 (by decide +kernel) rfl args)), List.forall_mem_cons.mpr ⟨mk_X7_give (own := RX7) h (Nat.le_of_ble_eq_true rfl) (Nat.le_of_ble_eq_true rfl) (Or.inl (en_wd h 882 (by decide +kernel) rfl args)), fun _ h => absurd h List.not_mem_nil⟩⟩⟩⟩⟩⟩⟩, fun _ h => absurd h List.not_mem_nil, Or.inl rfl, en_arr h args⟩⟩
set_option maxHeartbeats 4000000 in
set_option maxRecDepth 100000 in
theorem bd_X7_deal : en_B (σ := Int32 × Int64 × Int32 × Nat × (Nat → Nat) × Nat × Nat × Sx) t_X7_deal (fun x => [.ref 0, .int x.1, .long x.2.1, .int x.2.2.1]) (fun x => wM x.2.2.2.2.2.2.2) (fun x => x.2.2.2.1 ≤ 100 ∧ x.2.2.2.2.2.2.2.1 0 = nI x.2.2.2.1 ∧ wgm x.2.2.2.2.2.2.2 x.2.2.2.2.1 x.2.2.2.2.2.1 x.2.2.2.2.2.2.1) (fun x v w => (¬ splq x.1 x.2.2.1 ∧ v = some (.int 0) ∧ w = wM x.2.2.2.2.2.2.2) ∨ (splq x.1 x.2.2.1 ∧ v = some (.int 1) ∧ ∃ S' q, w = wM S' ∧ kpm x.2.2.2.2.2.2.2 S' ∧ S'.2.2.1 12 = PMN x.2.2.2.2.2.2.2 x.2.2.2.2.1 x.2.2.2.2.2.1 x.2.2.2.2.2.2.1 x.2.2.2.1 (tn x.1) x.2.1 x.2.2.1 q)) := by
  rintro ⟨kd, z, g, n, w, W, k, S⟩ ⟨hn, h1, hwg⟩ G hG OK ⟨run, sub⟩
  dsimp only at hn h1 hwg hG ⊢
  have hwz : wgm (xz S z) w W k := hwg
  have tail : ∀ S' : Sx, splq kd g → kpm S S' → (∃ q, S'.2.2.1 12 = PMN S w W k n (tn kd) z g q) → OK 0 0 94 [(0, .ref 0), (1, .int kd), (2, .long z), (4, .int g)] [] (wM S') := by
    intro S' hs hk ⟨q, hq⟩
    refine run [] 60 _ _ _ _ _ _ ?_
    conv => whnf
    exact ⟨rfl, hG _ _ (Or.inr ⟨hs, rfl, S', q, rfl, hk, hq⟩)⟩
  have labels : splq kd g → kd = 3 → OK 0 0 67 [(0, .ref 0), (1, .int kd), (2, .long z), (4, .int g), (5, .int (nI 0))] [] (wM (xz S z)) := by
    intro hs h3
    have tail : ∀ S' : Sx, kpm S S' → S'.2.2.1 12 = (lst (S.2.2.1 2) w W k n z (S.2.2.1 13) (S.2.2.1 12) 5).2.2 → OK 0 0 94 [(0, .ref 0), (1, .int kd), (2, .long z), (4, .int g)] [] (wM S') := fun S' hk hq => tail S' hs hk ⟨S.2.2.1 10, by rw [h3]; exact hq⟩
    have loop := lp_up (fun l => ∀ S' : Sx, kpm S S' → S'.2.1 = (lst (S.2.2.1 2) w W k n z (S.2.2.1 13) (S.2.2.1 12) l).1 → S'.2.2.1 13 = (lst (S.2.2.1 2) w W k n z (S.2.2.1 13) (S.2.2.1 12) l).2.1 → S'.2.2.1 12 = (lst (S.2.2.1 2) w W k n z (S.2.2.1 13) (S.2.2.1 12) l).2.2 → OK 0 0 67 [(0, .ref 0), (1, .int kd), (2, .long z), (4, .int g), (5, .int (nI l))] [] (wM S')) 5
      (fun S' hS' hz h13 h12 => by
        have h2 := tail S' hS' h12
        refine run [67, 94] 60 _ _ _ _ _ _ ?_
        conv => whnf
        refine pk_le 5 5 (fun h => ?_) (fun h => absurd h (by omega))
        conv => whnf
        exact sub [0, 1, 2, 3] _ _ _ _ _ _ _ rfl h2)
      (fun l hl ih S' hS' hz h13 h12 => by
        have h1' : S'.1 0 = nI n := (hS'.1 0 (by decide)).trans h1
        have h2' : S'.2.2.1 2 = S.2.2.1 2 := hS'.2.1 2 (by decide)
        have hwg' := wgm_k hwg hS'
        have eo : ∀ r, ofl (S'.2.2.1 2) (S'.2.2.1 12) (nI l) 0 r ↔ S.2.2.1 2 r = nI l := fun r => by
          rw [h2']; exact ⟨fun z => z.1, fun z => ⟨z, Or.inl rfl⟩⟩
        have eS : sel (ofl (S'.2.2.1 2) (S'.2.2.1 12) (nI l) 0) (S'.2.2.1 13) n = sel (fun r => S.2.2.1 2 r = nI l) (S'.2.2.1 13) n := sel_c (fun i _ => eo i)
        have eC : ct (ofl (S'.2.2.1 2) (S'.2.2.1 12) (nI l) 0) n = ct (fun r => S.2.2.1 2 r = nI l) n := ct_c (fun i _ => eo i)
        have hv := vld_mono (sel_v (p := fun r => S.2.2.1 2 r = nI l) (old := S'.2.2.1 13) n) hn
        have hc := ct_le (fun r => S.2.2.1 2 r = nI l) n
        simp only [lst] at ih
        rw [← hz, ← h13, ← h12] at ih
        generalize hSE : sel (fun r => S.2.2.1 2 r = nI l) (S'.2.2.1 13) n = SE at eS hv ih
        generalize ct (fun r => S.2.2.1 2 r = nI l) n = C at eC hv hc ih
        refine run [67] 60 _ _ _ _ _ _ ?_
        conv => whnf
        refine pk_le 5 l (fun h => absurd h (by omega)) (fun h => ?_)
        conv => whnf
        refine ⟨(n, nI l, 0, S'), rfl, rfl, ⟨hn, h1'⟩, ?_⟩
        intro v u hvu
        obtain ⟨rfl, rfl⟩ : v = none ∧ u = wM (xi (xa S' 13 SE) 5 (nI C)) := by rw [← eS, ← eC]; exact hvu
        conv => whnf
        refine ⟨(C, xi (xa S' 13 SE) 5 (nI C)), rfl, rfl, ⟨(by dsimp only; omega), rfl⟩, ?_⟩
        intro v u hvu
        obtain ⟨rfl, rfl⟩ : v = none ∧ u = wM (xa (xz (xi (xa S' 13 SE) 5 (nI C)) (shm C S'.2.1 SE).1) 13 (shm C S'.2.1 SE).2) := hvu
        have hv2 := shm_v (z := S'.2.1) hv
        generalize shm C S'.2.1 SE = Z at hv2 ih ⊢
        conv => whnf
        refine ⟨(w, W, k, C, xa (xz (xi (xa S' 13 SE) 5 (nI C)) Z.1) 13 Z.2), rfl, rfl, ⟨hwg', by dsimp only; omega, rfl, hv2⟩, ?_⟩
        rintro v u ⟨hv0, q, r, hu⟩
        obtain rfl : v = none := hv0
        obtain rfl : u = wM (xa (xa (xa (xa (xz (xi (xa S' 13 SE) 5 (nI C)) Z.1) 13 Z.2) 10 q) 11 r) 12 (dl Z.2 (fun a => nI (pt (qf w W k C) a k)) (S'.2.2.1 12) C)) := hu
        conv => whnf
        have hih := ih (xa (xa (xa (xa (xz (xi (xa S' 13 SE) 5 (nI C)) Z.1) 13 Z.2) 10 q) 11 r) 12 (dl Z.2 (fun a => nI (pt (qf w W k C) a k)) (S'.2.2.1 12) C)) (kpm_tr hS' (kpm_tr (kpm_tr (kpm_tr (kpm_tr (kpm_tr (kpm_tr (kpm_a (by omega)) kpm_i) kpm_z) (kpm_a (by omega))) (kpm_a (by omega))) (kpm_a (by omega))) (kpm_a (by omega)))) rfl rfl rfl
        rw [nI_succ] at hih
        exact hih)
    exact loop 0 (by omega) (xz S z) kpm_z rfl rfl rfl
  refine run [67, 94] 60 _ _ _ _ _ _ ?_
  conv => whnf
  refine ⟨(kd, 0, 3, wM S), rfl, rfl, trivial, ?_⟩
  rintro _ _ ⟨rfl, rfl⟩
  conv => whnf
  refine bl_br (fun c1 => ?_) (fun c1 => ?_)
  · conv => whnf
    exact ⟨rfl, hG _ _ (Or.inl ⟨fun z => c1 z.1, rfl, rfl⟩)⟩
  have c1 : 0 ≤ kd ∧ kd ≤ 3 := c1
  conv => whnf
  refine ⟨(g, 0, 100000, wM S), rfl, rfl, trivial, ?_⟩
  rintro _ _ ⟨rfl, rfl⟩
  conv => whnf
  refine bl_br2 (fun c2 => ?_) (fun c2 => ?_)
  rotate_left
  · conv => whnf
    exact ⟨rfl, hG _ _ (Or.inl ⟨fun z => c2 ⟨z.2.1, (le_lt (b := 100000) (by decide)).mpr z.2.2⟩, rfl, rfl⟩)⟩
  have c2 : 0 ≤ g ∧ g < 100001 := ⟨c2.1, (le_lt (b := 100000) (by decide)).mp c2.2⟩
  have hs : splq kd g := ⟨c1, c2⟩
  conv => whnf
  refine ⟨fun k0 => ?_, fun k0 => ?_⟩
  rotate_left
  · have k0 : kd = 0 := k0
    conv => whnf
    refine ⟨(w, W, k, n, xz S z), rfl, rfl, ⟨hwz, hn, h1⟩, ?_⟩
    rintro v u ⟨hv0, S', hu, hk', h12⟩
    obtain rfl : v = none := hv0
    obtain rfl : u = wM S' := hu
    conv => whnf
    exact tail S' hs (kpm_tr kpm_z hk') ⟨S.2.2.1 10, by rw [k0]; exact h12⟩
  have k0 : ¬ kd = 0 := k0
  conv => whnf
  refine ⟨fun k1 => ?_, fun k1 => ?_⟩
  rotate_left
  · have k1 : kd = 1 := k1
    conv => whnf
    refine ⟨(k, n, xz S z), rfl, rfl, ⟨hwg.1.1, hwg.1.2.1, hwg.2.1, hn, h1⟩, ?_⟩
    rintro v u ⟨hv0, S', q, hu, hk', h12⟩
    obtain rfl : v = none := hv0
    obtain rfl : u = wM S' := hu
    conv => whnf
    exact tail S' hs (kpm_tr kpm_z hk') ⟨q, by rw [k1]; exact h12⟩
  have k1 : ¬ kd = 1 := k1
  conv => whnf
  refine ⟨fun k2 => ?_, fun k2 => ?_⟩
  rotate_left
  · have k2 : kd = 2 := k2
    conv => whnf
    refine ⟨(w, W, k, n, g, xz S z), rfl, rfl, ⟨hwz, hn, h1⟩, ?_⟩
    rintro v u ⟨hv0, S', hu, hk', h12⟩
    obtain rfl : v = none := hv0
    obtain rfl : u = wM S' := hu
    conv => whnf
    exact tail S' hs (kpm_tr kpm_z hk') ⟨S.2.2.1 10, by rw [k2]; exact h12⟩
  have k2 : ¬ kd = 2 := k2
  have k3 : kd = 3 := by
    obtain ⟨j, hj, rfl⟩ := le_of (b := 3) (by decide) c1
    have d0 : j ≠ 0 := fun e => k0 (by rw [e]; rfl)
    have d1 : j ≠ 1 := fun e => k1 (by rw [e]; rfl)
    have d2 : j ≠ 2 := fun e => k2 (by rw [e]; rfl)
    have : j = 3 := by omega
    rw [this]; rfl
  conv => whnf
  exact labels hs k3
theorem ct_X7_deal (D : va_G) (dT : Nat → Nat) (l : Launch) : en_CT en_WD D vwCl dT l yX7_deal cX7_deal 6 (some .boolean) rm_X7_deal f_X7_deal := en_met en_WD1 en_WD2 (by decide) rfl rfl (tB_X7_deal D dT l) (en_f_ln (fun _ => Nat.le_of_ble_eq_true rfl)) (en_f_bd bd_X7_deal)
set_option maxRecDepth 100000 in
theorem mk_X7_deal {D : va_G} {dT : Nat → Nat} {l : Launch} {R : Room} {s : State} {args : Array Value} {own : String} {idx : Nat} (h : en_WD s) (h1 : rm_X7_deal.frames + 1 ≤ R.frames) (h2 : 8 + (6 + 11) + rm_X7_deal.locals ≤ R.locals) (hl : (Jvm.Cond.methodLink own idx yX7_deal).before args s = true ∨ ∃ host, (Jvm.Cond.methodLinkNest own idx yX7_deal host).before args s = true) : en_mok en_WD D vwCl dT l R s args own (idx, 4, 9, 0, 0, f_X7_deal) :=
  ⟨yX7_deal, cX7_deal, 6, some .boolean, rm_X7_deal, 3, ct_X7_deal D dT l, rfl, rfl, h1, h2, en_wd h 867 rfl rfl args, en_wd h 66 (by decide +kernel) rfl args, by decide, by decide, hl, ⟨RX7, TX7, 24, rfl, en_wd h 866 (by decide +kernel) rfl args, en_wd h 37 (by decide +kernel) rfl args, rfl⟩⟩
def f_X7_split := en_f (σ := Int32 × Int64 × Int32 × Nat × (Nat → Nat) × Nat × Nat × Sx) (fun x => [.ref 0, .int x.1, .long x.2.1, .int x.2.2.1]) (fun x => wM x.2.2.2.2.2.2.2) (fun x => x.2.2.2.1 ≤ 100 ∧ x.2.2.2.2.2.2.2.1 0 = nI x.2.2.2.1 ∧ wgm x.2.2.2.2.2.2.2 x.2.2.2.2.1 x.2.2.2.2.2.1 x.2.2.2.2.2.2.1) (fun x v w => (¬ splq x.1 x.2.2.1 ∧ ansM v w (-2) (xi x.2.2.2.2.2.2.2 4 0)) ∨ (splq x.1 x.2.2.1 ∧ ∃ S' q, kpm (xi x.2.2.2.2.2.2.2 4 0) S' ∧ ansM v w (nI (ct (fun r => PMN x.2.2.2.2.2.2.2 x.2.2.2.2.1 x.2.2.2.2.2.1 x.2.2.2.2.2.2.1 x.2.2.2.1 (tn x.1) x.2.1 x.2.2.1 q r ≠ -1) x.2.2.2.1)) (xa S' 6 (mx x.2.2.2.1 (PMN x.2.2.2.2.2.2.2 x.2.2.2.2.1 x.2.2.2.2.2.1 x.2.2.2.2.2.2.1 x.2.2.2.1 (tn x.1) x.2.1 x.2.2.1 q) (x.2.2.2.2.2.2.2.2.2.1 6)))))
def rm_X7_split : Room := { frames := 4, cells := 0, slots := 0, locals := 95 }
def t_X7_split : en_T := ((5, 0, 0), tb_X7_split, fl_X7, cn_X7, [(123, 4, 9, 0, 0, f_X7_deal), (127, 1, 9, 0, 0, f_X7_take)], [], 0, some .int)
set_option maxRecDepth 100000 in
theorem tB_X7_split (D : va_G) (dT : Nat → Nat) (l : Launch) : en_TB en_WD D vwCl dT l rm_X7_split t_X7_split RX7 "split" cX7_split := ⟨tk_X7_split, fun s args meth h hn => ⟨fo_X7 h args meth, co_X7 h args, List.forall_mem_cons.mpr ⟨mk_X7_deal (own := RX7) h (Nat.le_of_ble_eq_true rfl) (Nat.le_of_ble_eq_true rfl) (Or.inl (en_wd h 864 (by decide +kernel) rfl args)), List.forall_mem_cons.mpr ⟨mk_X7_take (own := RX7) h (Nat.le_of_ble_eq_true rfl) (Nat.le_of_ble_eq_true rfl) (Or.inl (en_wd h 898 (by decide +kernel) rfl args)), fun _ h => absurd h List.not_mem_nil⟩⟩, fun _ h => absurd h List.not_mem_nil, Or.inl rfl, en_arr h args⟩⟩
set_option maxHeartbeats 4000000 in
set_option maxRecDepth 100000 in
theorem bd_X7_split : en_B (σ := Int32 × Int64 × Int32 × Nat × (Nat → Nat) × Nat × Nat × Sx) t_X7_split (fun x => [.ref 0, .int x.1, .long x.2.1, .int x.2.2.1]) (fun x => wM x.2.2.2.2.2.2.2) (fun x => x.2.2.2.1 ≤ 100 ∧ x.2.2.2.2.2.2.2.1 0 = nI x.2.2.2.1 ∧ wgm x.2.2.2.2.2.2.2 x.2.2.2.2.1 x.2.2.2.2.2.1 x.2.2.2.2.2.2.1) (fun x v w => (¬ splq x.1 x.2.2.1 ∧ ansM v w (-2) (xi x.2.2.2.2.2.2.2 4 0)) ∨ (splq x.1 x.2.2.1 ∧ ∃ S' q, kpm (xi x.2.2.2.2.2.2.2 4 0) S' ∧ ansM v w (nI (ct (fun r => PMN x.2.2.2.2.2.2.2 x.2.2.2.2.1 x.2.2.2.2.2.1 x.2.2.2.2.2.2.1 x.2.2.2.1 (tn x.1) x.2.1 x.2.2.1 q r ≠ -1) x.2.2.2.1)) (xa S' 6 (mx x.2.2.2.1 (PMN x.2.2.2.2.2.2.2 x.2.2.2.2.1 x.2.2.2.2.2.1 x.2.2.2.2.2.2.1 x.2.2.2.1 (tn x.1) x.2.1 x.2.2.1 q) (x.2.2.2.2.2.2.2.2.2.1 6))))) := by
  rintro ⟨kd, z, g, n, w, W, k, S⟩ ⟨hn, h1, hwg⟩ G hG OK ⟨run, sub⟩
  dsimp only at hn h1 hwg hG ⊢
  refine run [] 60 _ _ _ _ _ _ ?_
  conv => whnf
  refine ⟨(kd, z, g, n, w, W, k, xi S 4 0), rfl, rfl, ⟨hn, h1, hwg⟩, ?_⟩
  rintro v u (⟨c, hv, hu⟩ | ⟨c, hv, S', q, hu, hk', h12⟩)
  · obtain rfl : v = some (.int 0) := hv
    obtain rfl : u = wM (xi S 4 0) := hu
    conv => whnf
    refine ⟨fun _ => ?_, fun z => absurd rfl z⟩
    conv => whnf
    exact hG _ _ (Or.inl ⟨c, rfl, rfl⟩)
  · obtain rfl : v = some (.int 1) := hv
    obtain rfl : u = wM S' := hu
    have h12 : S'.2.2.1 12 = PMN S w W k n (tn kd) z g q := h12
    have h1' : S'.1 0 = nI n := (hk'.1 0 (by decide)).trans h1
    have h6 : S'.2.2.1 6 = S.2.2.1 6 := hk'.2.1 6 (by decide)
    conv => whnf
    refine ⟨fun z => absurd z (by decide), fun _ => ?_⟩
    conv => whnf
    refine ⟨(n, S'), rfl, rfl, ⟨hn, h1'⟩, ?_⟩
    intro v u hvu
    obtain ⟨rfl, rfl⟩ : v = some (.int (nI (ct (fun r => S'.2.2.1 12 r ≠ -1) n))) ∧ u = wM (xa S' 6 (mx n (S'.2.2.1 12) (S'.2.2.1 6))) := hvu
    rw [h12, h6]
    generalize hF : PMN S w W k n (tn kd) z g q = F
    conv => whnf
    refine hG _ _ (Or.inr ⟨c, S', q, hk', ?_⟩)
    rw [hF]
    exact ⟨rfl, rfl⟩
theorem ct_X7_split (D : va_G) (dT : Nat → Nat) (l : Launch) : en_CT en_WD D vwCl dT l yX7_split cX7_split 5 (some .int) rm_X7_split f_X7_split := en_met en_WD1 en_WD2 (by decide) rfl rfl (tB_X7_split D dT l) (en_f_ln (fun _ => Nat.le_of_ble_eq_true rfl)) (en_f_bd bd_X7_split)
set_option maxRecDepth 100000 in
theorem mk_X7_split {D : va_G} {dT : Nat → Nat} {l : Launch} {R : Room} {s : State} {args : Array Value} {own : String} {idx : Nat} (h : en_WD s) (h1 : rm_X7_split.frames + 1 ≤ R.frames) (h2 : 8 + (5 + 11) + rm_X7_split.locals ≤ R.locals) (hl : (Jvm.Cond.methodLink own idx yX7_split).before args s = true ∨ ∃ host, (Jvm.Cond.methodLinkNest own idx yX7_split host).before args s = true) : en_mok en_WD D vwCl dT l R s args own (idx, 4, 9, 0, 0, f_X7_split) :=
  ⟨yX7_split, cX7_split, 5, some .int, rm_X7_split, 3, ct_X7_split D dT l, rfl, rfl, h1, h2, en_wd h 863 rfl rfl args, en_wd h 66 (by decide +kernel) rfl args, by decide, by decide, hl, ⟨RX7, TX7, 24, rfl, en_wd h 861 (by decide +kernel) rfl args, en_wd h 862 (by decide +kernel) rfl args, rfl⟩⟩
def f_X7_same := en_f (σ := Int32 × Int64 × Int32 × Nat × (Nat → Nat) × Nat × Nat × Sx) (fun x => [.ref 0, .int x.1, .long x.2.1, .int x.2.2.1]) (fun x => wM x.2.2.2.2.2.2.2) (fun x => x.2.2.2.1 ≤ 100 ∧ x.2.2.2.2.2.2.2.1 0 = nI x.2.2.2.1 ∧ wgm x.2.2.2.2.2.2.2 x.2.2.2.2.1 x.2.2.2.2.2.1 x.2.2.2.2.2.2.1) (fun x v w => (¬ splq x.1 x.2.2.1 ∧ ansM v w 0 (xi x.2.2.2.2.2.2.2 4 0)) ∨ (splq x.1 x.2.2.1 ∧ ∃ S' q, kpm (xi x.2.2.2.2.2.2.2 4 0) S' ∧ ansM v w (bl (fs (fun r => x.2.2.2.2.2.2.2.2.2.1 6 r ≠ PMN x.2.2.2.2.2.2.2 x.2.2.2.2.1 x.2.2.2.2.2.1 x.2.2.2.2.2.2.1 x.2.2.2.1 (tn x.1) x.2.1 x.2.2.1 q r) x.2.2.2.1 = none)) S'))
def rm_X7_same : Room := { frames := 4, cells := 0, slots := 0, locals := 95 }
def t_X7_same : en_T := ((7, 0, 0), tb_X7_same, fl_X7, cn_X7, [(123, 4, 9, 0, 0, f_X7_deal)], [], 0, some .boolean)
set_option maxRecDepth 100000 in
theorem tB_X7_same (D : va_G) (dT : Nat → Nat) (l : Launch) : en_TB en_WD D vwCl dT l rm_X7_same t_X7_same RX7 "same" cX7_same := ⟨tk_X7_same, fun s args meth h hn => ⟨fo_X7 h args meth, co_X7 h args, List.forall_mem_cons.mpr ⟨mk_X7_deal (own := RX7) h (Nat.le_of_ble_eq_true rfl) (Nat.le_of_ble_eq_true rfl) (Or.inl (en_wd h 864 (by decide +kernel) rfl args)), fun _ h => absurd h List.not_mem_nil⟩, fun _ h => absurd h List.not_mem_nil, Or.inl rfl, en_arr h args⟩⟩
set_option maxHeartbeats 4000000 in
set_option maxRecDepth 100000 in
theorem bd_X7_same : en_B (σ := Int32 × Int64 × Int32 × Nat × (Nat → Nat) × Nat × Nat × Sx) t_X7_same (fun x => [.ref 0, .int x.1, .long x.2.1, .int x.2.2.1]) (fun x => wM x.2.2.2.2.2.2.2) (fun x => x.2.2.2.1 ≤ 100 ∧ x.2.2.2.2.2.2.2.1 0 = nI x.2.2.2.1 ∧ wgm x.2.2.2.2.2.2.2 x.2.2.2.2.1 x.2.2.2.2.2.1 x.2.2.2.2.2.2.1) (fun x v w => (¬ splq x.1 x.2.2.1 ∧ ansM v w 0 (xi x.2.2.2.2.2.2.2 4 0)) ∨ (splq x.1 x.2.2.1 ∧ ∃ S' q, kpm (xi x.2.2.2.2.2.2.2 4 0) S' ∧ ansM v w (bl (fs (fun r => x.2.2.2.2.2.2.2.2.2.1 6 r ≠ PMN x.2.2.2.2.2.2.2 x.2.2.2.2.1 x.2.2.2.2.2.1 x.2.2.2.2.2.2.1 x.2.2.2.1 (tn x.1) x.2.1 x.2.2.1 q r) x.2.2.2.1 = none)) S')) := by
  rintro ⟨kd, z, g, n, w, W, k, S⟩ ⟨hn, h1, hwg⟩ G hG OK ⟨run, sub⟩
  dsimp only at hn h1 hwg hG ⊢
  refine run [18] 60 _ _ _ _ _ _ ?_
  conv => whnf
  refine ⟨(kd, z, g, n, w, W, k, xi S 4 0), rfl, rfl, ⟨hn, h1, hwg⟩, ?_⟩
  rintro v u (⟨c, hv, hu⟩ | ⟨c, hv, S', q, hu, hk', h12⟩)
  · obtain rfl : v = some (.int 0) := hv
    obtain rfl : u = wM (xi S 4 0) := hu
    conv => whnf
    show OK 0 0 18 [(0, .ref 0), (1, .int kd), (2, .long z), (4, .int g), (5, .int 0), (6, .int (nI 0))] [] (wM (xi S 4 0))
    refine run [] 60 _ _ _ _ _ _ ?_
    conv => whnf
    refine pk_le n 0 (fun h => ?_) (fun h => ?_) h1
    · conv => whnf
      exact ⟨rfl, hG _ _ (Or.inl ⟨c, rfl, rfl⟩)⟩
    · conv => whnf
      refine ⟨fun _ => ?_, fun z => absurd rfl z⟩
      conv => whnf
      exact ⟨rfl, hG _ _ (Or.inl ⟨c, rfl, rfl⟩)⟩
  · obtain rfl : v = some (.int 1) := hv
    obtain rfl : u = wM S' := hu
    have h12 : S'.2.2.1 12 = PMN S w W k n (tn kd) z g q := h12
    have h1' : S'.1 0 = nI n := (hk'.1 0 (by decide)).trans h1
    have h6 : S'.2.2.1 6 = S.2.2.1 6 := hk'.2.1 6 (by decide)
    have hG : ∀ v w, (v = some (.int (bl (fs (fun r => S'.2.2.1 6 r ≠ S'.2.2.1 12 r) n = none))) ∧ w = wM S') → G v w := fun v w hvw => hG v w (Or.inr ⟨c, S', q, hk', by rw [← h12, ← h6]; exact hvw⟩)
    have stopped : ∀ i, i ≤ n → fs (fun r => S'.2.2.1 6 r ≠ S'.2.2.1 12 r) n ≠ none → OK 0 0 18 [(0, .ref 0), (1, .int kd), (2, .long z), (4, .int g), (5, .int 0), (6, .int (nI i))] [] (wM S') := by
      intro i hi hne
      refine run [] 60 _ _ _ _ _ _ ?_
      conv => whnf
      refine pk_le n i (fun h => ?_) (fun h => ?_) h1'
      · conv => whnf
        exact ⟨rfl, hG _ _ ⟨bl_af hne rfl, rfl⟩⟩
      · conv => whnf
        refine ⟨fun _ => ?_, fun z => absurd rfl z⟩
        conv => whnf
        exact ⟨rfl, hG _ _ ⟨bl_af hne rfl, rfl⟩⟩
    have loop := lp_up (fun i => fs (fun r => S'.2.2.1 6 r ≠ S'.2.2.1 12 r) i = none → OK 0 0 18 [(0, .ref 0), (1, .int kd), (2, .long z), (4, .int g), (5, .int 1), (6, .int (nI i))] [] (wM S')) n
      (fun hf => by
        refine run [18] 60 _ _ _ _ _ _ ?_
        conv => whnf
        refine pk_le n n (fun h => ?_) (fun h => absurd h (by omega)) h1'
        conv => whnf
        exact ⟨rfl, hG _ _ ⟨bl_at hf rfl, rfl⟩⟩)
      (fun i hi ih hf => by
        have hst := stopped (i + 1) (by omega)
        rw [nI_succ] at ih hst
        refine run [18] 60 _ _ _ _ _ _ ?_
        conv => whnf
        refine pk_le n i (fun h => absurd h (by omega)) (fun h => ?_) h1'
        conv => whnf
        refine ⟨fun z => absurd z (by decide), fun _ => ?_⟩
        conv => whnf
        refine ⟨vp_in_nI (by omega) (by decide), ?_⟩
        rw [nI_clamp (by omega)]
        conv => whnf
        refine ⟨vp_in_nI (by omega) (by decide), ?_⟩
        rw [nI_clamp (by omega)]
        conv => whnf
        refine ⟨fun hp => ?_, fun hp => ?_⟩
        · conv => whnf
          refine hst (fun z => ?_)
          rw [fs_s (fs_t (p := fun r => S'.2.2.1 6 r ≠ S'.2.2.1 12 r) hf hp) n (by omega)] at z
          cases z
        · conv => whnf
          exact ih (fs_f hf (fun z => z hp)))
    conv => whnf
    exact loop 0 (by omega) rfl
theorem ct_X7_same (D : va_G) (dT : Nat → Nat) (l : Launch) : en_CT en_WD D vwCl dT l yX7_same cX7_same 7 (some .boolean) rm_X7_same f_X7_same := en_met en_WD1 en_WD2 (by decide) rfl rfl (tB_X7_same D dT l) (en_f_ln (fun _ => Nat.le_of_ble_eq_true rfl)) (en_f_bd bd_X7_same)
set_option maxRecDepth 100000 in
theorem mk_X7_same {D : va_G} {dT : Nat → Nat} {l : Launch} {R : Room} {s : State} {args : Array Value} {own : String} {idx : Nat} (h : en_WD s) (h1 : rm_X7_same.frames + 1 ≤ R.frames) (h2 : 8 + (7 + 11) + rm_X7_same.locals ≤ R.locals) (hl : (Jvm.Cond.methodLink own idx yX7_same).before args s = true ∨ ∃ host, (Jvm.Cond.methodLinkNest own idx yX7_same host).before args s = true) : en_mok en_WD D vwCl dT l R s args own (idx, 4, 9, 0, 0, f_X7_same) :=
  ⟨yX7_same, cX7_same, 7, some .boolean, rm_X7_same, 3, ct_X7_same D dT l, rfl, rfl, h1, h2, en_wd h 905 rfl rfl args, en_wd h 66 (by decide +kernel) rfl args, by decide, by decide, hl, ⟨RX7, TX7, 24, rfl, en_wd h 903 (by decide +kernel) rfl args, en_wd h 904 (by decide +kernel) rfl args, rfl⟩⟩
