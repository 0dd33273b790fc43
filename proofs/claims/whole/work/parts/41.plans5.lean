/-! SplitLeaks$Splitter: by times; the plan by its kind -/
/-- by times: the things; the parts before the gap -/
def tO (T : Nat → Int32) (n : Nat) (o16 : Nat → Int32) : Nat → Int32 := srt T (mx n nI o16) n
def tPl (T : Nat → Int32) (w : Nat → Nat) (W k n : Nat) (o16 o15 : Nat → Int32) : Nat → Int32 := jn T (tO T n o16) (dl (tO T n o16) (fun a => nI (pt (qf w W k n) a k)) o15 n) (n - 1)
/-- is a row in a gap -/
abbrev ingap (T La : Nat → Int32) (g : Int32) (r c : Nat) : Prop := fs (fun p => La p ≠ -1 ∧ T r < La p + g) c ≠ none
def PL2 (T : Nat → Int32) (w : Nat → Nat) (W k n : Nat) (g : Int32) (o16 o15 o18 : Nat → Int32) : Nat → Int32 :=
  mx n (fun r => if ingap T (lat T (tPl T w W k n o16 o15) o18 n) g r (tn (tPl T w W k n o16 o15 r)) then -1 else tPl T w W k n o16 o15 r) (tPl T w W k n o16 o15)
theorem tO_v {T : Nat → Int32} {n : Nat} (hn : n ≤ 100) {o16 : Nat → Int32} : vld (tO T n o16) n n := srt_v T (mx_v (Nat.le_refl n)) n (Nat.le_refl n)
theorem tO_cov {T : Nat → Int32} {n : Nat} {o16 : Nat → Int32} : cov (tO T n o16) n := fun r hr => by
  obtain ⟨i, hi, h⟩ := srt_cov T (mx n nI o16) n r hr
  exact ⟨i, hi, h.trans (mx_lt hr)⟩
theorem tPl_in {T : Nat → Int32} {w : Nat → Nat} {W k n : Nat} {o16 o15 : Nat → Int32} (hk : 0 < k) (hn : n ≤ 100) : ∀ r, r < n → ∃ c, c < k ∧ tPl T w W k n o16 o15 r = nI c := by
  intro r hr
  have hv := tO_v (T := T) hn (o16 := o16)
  refine jn_in (P := fun x => ∃ c, c < k ∧ x = nI c) (n := n) (fun r hr => ?_) (n - 1) (fun j hj => (vld_lt hv (by omega) (by omega)).1) r hr
  obtain ⟨i, hi, h⟩ := tO_cov (T := T) (o16 := o16) r hr
  obtain ⟨q, hq, e⟩ := dl_hit (O := tO T n o16) (g := fun a => nI (pt (qf w W k n) a k)) (old := o15) (m := n) (r := r) ⟨i, hi, by rw [h]; exact nI_clamp (by omega)⟩
  exact ⟨_, pt_lt hk, e⟩
def f_X3_planTimes := en_f (σ := (Nat → Nat) × Nat × Nat × Nat × Int32 × Sx) (fun x => [.ref 13, .int x.2.2.2.2.1]) (fun x => wX x.2.2.2.2.2) (fun x => wgt x.2.2.2.2.2 x.1 x.2.1 x.2.2.1 ∧ x.2.2.2.1 ≤ 100 ∧ x.2.2.2.2.2.1 1 = nI x.2.2.2.1) (fun x v w => v = none ∧ ∃ S', w = wX S' ∧ kept x.2.2.2.2.2 S' ∧ S'.2.2.1 15 = PL2 (x.2.2.2.2.2.2.2.1 4) x.1 x.2.1 x.2.2.1 x.2.2.2.1 x.2.2.2.2.1 (x.2.2.2.2.2.2.2.1 16) (x.2.2.2.2.2.2.2.1 15) (x.2.2.2.2.2.2.2.1 18))
def rm_X3_planTimes : Room := { frames := 3, cells := 0, slots := 0, locals := 69 }
def t_X3_planTimes : en_T := ((3, 0, 0), tb_X3_planTimes, fl_X3, cn_X3, [(79, 1, 5, 0, 0, f_X3_gatherAll), (99, 1, 5, 0, 0, f_X3_sortByTime), (86, 1, 5, 0, 0, f_X3_fillByQuotas), (102, 1, 5, 0, 0, f_X3_joinLikeTimes), (105, 1, 5, 0, 0, f_X3_findLatest), (108, 3, 5, 0, 0, f_X3_isInGap)], [], 0, none)
set_option maxRecDepth 100000 in
theorem tB_X3_planTimes (D : va_G) (dT : Nat → Nat) (l : Launch) : en_TB en_WD D vwCl dT l rm_X3_planTimes t_X3_planTimes RX3 "planTimes" cX3_planTimes := ⟨tk_X3_planTimes, fun s args meth h hn => ⟨fo_X3 h args meth, co_X3 h args, List.forall_mem_cons.mpr ⟨mk_X3_gatherAll (own := RX3) h (Nat.le_of_ble_eq_true rfl) (Nat.le_of_ble_eq_true rfl) (Or.inl (en_wd h 337 (by decide +kernel) rfl args)), List.forall_mem_cons.mpr ⟨mk_X3_sortByTime (own := RX3) h (Nat.le_of_ble_eq_true rfl) (Nat.le_of_ble_eq_true rfl) (Or.inl (en_wd h 384 (by decide +kernel) rfl args)), List.forall_mem_cons.mpr ⟨mk_X3_fillByQuotas (own := RX3) h (Nat.le_of_ble_eq_true rfl) (Nat.le_of_ble_eq_true rfl) (Or.inl (en_wd h 351 (by decide +kernel) rfl args)), List.forall_mem_cons.mpr ⟨mk_X3_joinLikeTimes (own := RX3) h (Nat.le_of_ble_eq_true rfl) (Nat.le_of_ble_eq_true rfl) (Or.inl (en_wd h 388 (by decide +kernel) rfl args)), List.forall_mem_cons.mpr ⟨mk_X3_findLatest (own := RX3) h (Nat.le_of_ble_eq_true rfl) (Nat.le_of_ble_eq_true rfl) (Or.inl (en_wd h 392 (by decide +kernel) rfl args)), List.forall_mem_cons.mpr ⟨mk_X3_isInGap (own := RX3) h (Nat.le_of_ble_eq_true rfl) (Nat.le_of_ble_eq_true rfl) (Or.inl (en_wd h 397 (by decide +kernel) rfl args)), fun _ h => absurd h List.not_mem_nil⟩⟩⟩⟩⟩⟩, fun _ h => absurd h List.not_mem_nil, Or.inl rfl, en_arr h args⟩⟩
set_option maxHeartbeats 4000000 in
set_option maxRecDepth 100000 in
theorem bd_X3_planTimes : en_B (σ := (Nat → Nat) × Nat × Nat × Nat × Int32 × Sx) t_X3_planTimes (fun x => [.ref 13, .int x.2.2.2.2.1]) (fun x => wX x.2.2.2.2.2) (fun x => wgt x.2.2.2.2.2 x.1 x.2.1 x.2.2.1 ∧ x.2.2.2.1 ≤ 100 ∧ x.2.2.2.2.2.1 1 = nI x.2.2.2.1) (fun x v w => v = none ∧ ∃ S', w = wX S' ∧ kept x.2.2.2.2.2 S' ∧ S'.2.2.1 15 = PL2 (x.2.2.2.2.2.2.2.1 4) x.1 x.2.1 x.2.2.1 x.2.2.2.1 x.2.2.2.2.1 (x.2.2.2.2.2.2.2.1 16) (x.2.2.2.2.2.2.2.1 15) (x.2.2.2.2.2.2.2.1 18)) := by
  rintro ⟨w, W, k, n, g, S⟩ ⟨hwg, hn, h1⟩ G hG OK ⟨run, sub⟩
  dsimp only at hwg hn h1 hG ⊢
  obtain ⟨hok, hk, hW, hw⟩ := hwg
  have hpi := tPl_in (T := S.2.2.1 4) (w := w) (W := W) (k := k) (o16 := S.2.2.1 16) (o15 := S.2.2.1 15) hok.1 hn
  have hvO := vld_mono (tO_v (T := S.2.2.1 4) hn (o16 := S.2.2.1 16)) hn
  have hk4 : k ≤ 4 := hok.2.1
  refine run [22] 60 _ _ _ _ _ _ ?_
  conv => whnf
  refine ⟨(n, S), rfl, rfl, ⟨hn, h1⟩, ?_⟩
  intro v u hvu
  obtain ⟨rfl, rfl⟩ : v = none ∧ u = wX (xi (xa S 16 (mx n nI (S.2.2.1 16))) 4 (nI n)) := hvu
  conv => whnf
  refine ⟨(n, xi (xa S 16 (mx n nI (S.2.2.1 16))) 4 (nI n)), rfl, rfl, ⟨hn, rfl, mx_v hn⟩, ?_⟩
  intro v u hvu
  obtain ⟨rfl, rfl⟩ : v = none ∧ u = wX (xi (xa S 16 (tO (S.2.2.1 4) n (S.2.2.1 16))) 4 (nI n)) := hvu
  conv => whnf
  refine ⟨(w, W, k, n, xi (xa S 16 (tO (S.2.2.1 4) n (S.2.2.1 16))) 4 (nI n)), rfl, rfl, ⟨hok, hn, hk, hW, hw, rfl, hvO⟩, ?_⟩
  rintro v u ⟨hv0, q, r, hu⟩
  obtain rfl : v = none := hv0
  obtain rfl : u = wX (xa (xa (xa (xi (xa S 16 (tO (S.2.2.1 4) n (S.2.2.1 16))) 4 (nI n)) 11 q) 12 r) 15 (dl (tO (S.2.2.1 4) n (S.2.2.1 16)) (fun a => nI (pt (qf w W k n) a k)) (S.2.2.1 15) n)) := hu
  conv => whnf
  refine ⟨(n, xa (xa (xa (xi (xa S 16 (tO (S.2.2.1 4) n (S.2.2.1 16))) 4 (nI n)) 11 q) 12 r) 15 (dl (tO (S.2.2.1 4) n (S.2.2.1 16)) (fun a => nI (pt (qf w W k n) a k)) (S.2.2.1 15) n)), rfl, rfl, ⟨hn, rfl, hvO⟩, ?_⟩
  intro v u hvu
  obtain ⟨rfl, rfl⟩ : v = none ∧ u = wX (xa (xa (xa (xi (xa S 16 (tO (S.2.2.1 4) n (S.2.2.1 16))) 4 (nI n)) 11 q) 12 r) 15 (tPl (S.2.2.1 4) w W k n (S.2.2.1 16) (S.2.2.1 15))) := hvu
  unfold PL2 at hG
  generalize tPl (S.2.2.1 4) w W k n (S.2.2.1 16) (S.2.2.1 15) = Pl at hpi hG ⊢
  generalize tO (S.2.2.1 4) n (S.2.2.1 16) = O at ⊢
  conv => whnf
  refine ⟨(n, xa (xa (xa (xi (xa S 16 O) 4 (nI n)) 11 q) 12 r) 15 Pl), rfl, rfl, ⟨hn, h1⟩, ?_⟩
  intro v u hvu
  obtain ⟨rfl, rfl⟩ : v = none ∧ u = wX (xa (xa (xa (xa (xi (xa S 16 O) 4 (nI n)) 11 q) 12 r) 15 Pl) 18 (lat (S.2.2.1 4) Pl (S.2.2.1 18) n)) := hvu
  generalize lat (S.2.2.1 4) Pl (S.2.2.1 18) n = La at hG ⊢
  have loop := lp_up (fun i => OK 0 0 22 [(0, .ref 13), (1, .int g), (2, .int (nI i))] [] (wX (xa (xa (xa (xa (xi (xa S 16 O) 4 (nI n)) 11 q) 12 r) 15 (mx i (fun r => if ingap (S.2.2.1 4) La g r (tn (Pl r)) then -1 else Pl r) Pl)) 18 La))) n
    (by
      refine run [22] 60 _ _ _ _ _ _ ?_
      conv => whnf
      refine pk_le n n (fun h => ?_) (fun h => absurd h (by omega)) h1
      conv => whnf
      exact hG _ _ ⟨rfl, _, rfl, kept_tr (kept_tr (kept_tr (kept_tr (kept_tr (kept_a (by omega)) kept_i) (kept_a (by omega))) (kept_a (by omega))) (kept_a (by omega))) (kept_a (by omega)), rfl⟩)
    (fun i hi ih => by
      obtain ⟨c, hc, hce⟩ := hpi i hi
      have htc : tn (Pl i) = c := by rw [hce]; exact nI_clamp (by omega)
      rw [nI_succ] at ih
      have hmi : mx i (fun r => if ingap (S.2.2.1 4) La g r (tn (Pl r)) then -1 else Pl r) Pl i = nI c := (mx_ge (Nat.le_refl i)).trans hce
      refine run [22] 60 _ _ _ _ _ _ ?_
      conv => whnf
      refine pk_le n i (fun h => absurd h (by omega)) (fun h => ?_) h1
      conv => whnf
      refine ⟨(i, g, c, xa (xa (xa (xa (xi (xa S 16 O) 4 (nI n)) 11 q) 12 r) 15 (mx i (fun r => if ingap (S.2.2.1 4) La g r (tn (Pl r)) then -1 else Pl r) Pl)) 18 La), rfl, rfl, ⟨by dsimp only; omega, by dsimp only; omega, hmi⟩, ?_⟩
      intro v u hvu
      obtain ⟨rfl, rfl⟩ : v = some (.int (bl (ingap (S.2.2.1 4) La g i c))) ∧ u = wX (xa (xa (xa (xa (xi (xa S 16 O) 4 (nI n)) 11 q) 12 r) 15 (mx i (fun r => if ingap (S.2.2.1 4) La g r (tn (Pl r)) then -1 else Pl r) Pl)) 18 La) := hvu
      rw [← mx_s] at ih
      try dsimp only at ih
      rw [htc] at ih
      conv => whnf
      refine bl_br (fun hq => ?_) (fun hq => ?_)
      · conv => whnf
        rw [if_neg hq] at ih
        have e : upd (mx i (fun r => if ingap (S.2.2.1 4) La g r (tn (Pl r)) then -1 else Pl r) Pl) i (Pl i) = mx i (fun r => if ingap (S.2.2.1 4) La g r (tn (Pl r)) then -1 else Pl r) Pl := by
          have := upd_id (mx i (fun r => if ingap (S.2.2.1 4) La g r (tn (Pl r)) then -1 else Pl r) Pl) i
          rw [mx_ge (Nat.le_refl i)] at this
          exact this
        rw [e] at ih
        exact ih
      · conv => whnf
        refine ⟨vp_in_nI (by omega) (by decide), ?_⟩
        rw [nI_clamp (by omega)]
        conv => whnf
        rw [if_pos hq] at ih
        exact ih)
  conv => whnf
  have h0 := loop 0 (by omega)
  rw [mx_0] at h0
  exact h0
theorem ct_X3_planTimes (D : va_G) (dT : Nat → Nat) (l : Launch) : en_CT en_WD D vwCl dT l yX3_planTimes cX3_planTimes 3 (none) rm_X3_planTimes f_X3_planTimes := en_met en_WD1 en_WD2 (by decide) rfl rfl (tB_X3_planTimes D dT l) (en_f_ln (fun _ => Nat.le_of_ble_eq_true rfl)) (en_f_bd bd_X3_planTimes)
set_option maxRecDepth 100000 in
theorem mk_X3_planTimes {D : va_G} {dT : Nat → Nat} {l : Launch} {R : Room} {s : State} {args : Array Value} {own : String} {idx : Nat} (h : en_WD s) (h1 : rm_X3_planTimes.frames + 1 ≤ R.frames) (h2 : 8 + (3 + 11) + rm_X3_planTimes.locals ≤ R.locals) (hl : (Jvm.Cond.methodLink own idx yX3_planTimes).before args s = true ∨ ∃ host, (Jvm.Cond.methodLinkNest own idx yX3_planTimes host).before args s = true) : en_mok en_WD D vwCl dT l R s args own (idx, 2, 5, 0, 0, f_X3_planTimes) :=
  ⟨yX3_planTimes, cX3_planTimes, 3, none, rm_X3_planTimes, 1, ct_X3_planTimes D dT l, rfl, rfl, h1, h2, en_wd h 383 rfl rfl args, en_wd h 62 (by decide +kernel) rfl args, by decide, by decide, hl, ⟨RX3, TX3, 8, rfl, en_wd h 382 (by decide +kernel) rfl args, en_wd h 10 (by decide +kernel) rfl args, rfl⟩⟩
/-- what is planned, by its kind -/
def PLN (S : Sx) (w : Nat → Nat) (W k n : Nat) (kind : Nat) (z : Int64) (g : Int32) : Nat → Int32 := match kind with
  | 0 => PL0 w W k n z (S.2.2.1 16) (S.2.2.1 15)
  | 1 => PL1 (S.2.2.1 2) (S.2.2.1 10) (S.1 3) k n z (S.2.2.1 16) (S.2.2.1 15) (S.2.2.1 17)
  | 2 => PL2 (S.2.2.1 4) w W k n g (S.2.2.1 16) (S.2.2.1 15) (S.2.2.1 18)
  | _ => (lst (S.2.2.1 3) w W k n z (S.2.2.1 16) (S.2.2.1 15) 5).2.2
theorem nI_int {a : Nat} (h : a < 2 ^ 31) {i : Int} (e : (nI a).toInt = i) : (a : Int) = i := by rw [nI_toInt h] at e; exact e
def f_X3_plan := en_f (σ := Nat × Int64 × Int32 × (Nat → Nat) × Nat × Nat × Nat × Sx) (fun x => [.ref 13, .int (nI x.1), .long x.2.1, .int x.2.2.1]) (fun x => wX x.2.2.2.2.2.2.2) (fun x => x.1 ≤ 3 ∧ wgt x.2.2.2.2.2.2.2 x.2.2.2.1 x.2.2.2.2.1 x.2.2.2.2.2.1 ∧ x.2.2.2.2.2.2.1 ≤ 100 ∧ x.2.2.2.2.2.2.2.1 1 = nI x.2.2.2.2.2.2.1) (fun x v w => v = none ∧ ∃ S', w = wX S' ∧ kept x.2.2.2.2.2.2.2 S' ∧ S'.2.2.1 15 = PLN x.2.2.2.2.2.2.2 x.2.2.2.1 x.2.2.2.2.1 x.2.2.2.2.2.1 x.2.2.2.2.2.2.1 x.1 x.2.1 x.2.2.1)
def rm_X3_plan : Room := { frames := 4, cells := 0, slots := 0, locals := 91 }
def t_X3_plan : en_T := ((5, 0, 0), tb_X3_plan, fl_X3, cn_X3, [(51, 2, 2, 0, 0, f_X0_start), (55, 1, 5, 0, 0, f_X3_planPlain), (58, 1, 5, 0, 0, f_X3_planGroups), (61, 2, 5, 0, 0, f_X3_planTimes), (65, 1, 5, 0, 0, f_X3_planLabels)], [], 0, none)
set_option maxRecDepth 100000 in
theorem tB_X3_plan (D : va_G) (dT : Nat → Nat) (l : Launch) : en_TB en_WD D vwCl dT l rm_X3_plan t_X3_plan RX3 "plan" cX3_plan := ⟨tk_X3_plan, fun s args meth h hn => ⟨fo_X3 h args meth, co_X3 h args, List.forall_mem_cons.mpr ⟨mk_X0_start (own := RX3) h (Nat.le_of_ble_eq_true rfl) (Nat.le_of_ble_eq_true rfl) (Or.inl (en_wd h 329 (by decide +kernel) rfl args)), List.forall_mem_cons.mpr ⟨mk_X3_planPlain (own := RX3) h (Nat.le_of_ble_eq_true rfl) (Nat.le_of_ble_eq_true rfl) (Or.inl (en_wd h 333 (by decide +kernel) rfl args)), List.forall_mem_cons.mpr ⟨mk_X3_planGroups (own := RX3) h (Nat.le_of_ble_eq_true rfl) (Nat.le_of_ble_eq_true rfl) (Or.inl (en_wd h 356 (by decide +kernel) rfl args)), List.forall_mem_cons.mpr ⟨mk_X3_planTimes (own := RX3) h (Nat.le_of_ble_eq_true rfl) (Nat.le_of_ble_eq_true rfl) (Or.inl (en_wd h 380 (by decide +kernel) rfl args)), List.forall_mem_cons.mpr ⟨mk_X3_planLabels (own := RX3) h (Nat.le_of_ble_eq_true rfl) (Nat.le_of_ble_eq_true rfl) (Or.inl (en_wd h 401 (by decide +kernel) rfl args)), fun _ h => absurd h List.not_mem_nil⟩⟩⟩⟩⟩, fun _ h => absurd h List.not_mem_nil, Or.inl rfl, en_arr h args⟩⟩
set_option maxHeartbeats 4000000 in
set_option maxRecDepth 100000 in
theorem bd_X3_plan : en_B (σ := Nat × Int64 × Int32 × (Nat → Nat) × Nat × Nat × Nat × Sx) t_X3_plan (fun x => [.ref 13, .int (nI x.1), .long x.2.1, .int x.2.2.1]) (fun x => wX x.2.2.2.2.2.2.2) (fun x => x.1 ≤ 3 ∧ wgt x.2.2.2.2.2.2.2 x.2.2.2.1 x.2.2.2.2.1 x.2.2.2.2.2.1 ∧ x.2.2.2.2.2.2.1 ≤ 100 ∧ x.2.2.2.2.2.2.2.1 1 = nI x.2.2.2.2.2.2.1) (fun x v w => v = none ∧ ∃ S', w = wX S' ∧ kept x.2.2.2.2.2.2.2 S' ∧ S'.2.2.1 15 = PLN x.2.2.2.2.2.2.2 x.2.2.2.1 x.2.2.2.2.1 x.2.2.2.2.2.1 x.2.2.2.2.2.2.1 x.1 x.2.1 x.2.2.1) := by
  rintro ⟨kd, z, g, w, W, k, n, S⟩ ⟨hkd, hwg, hn, h1⟩ G hG OK ⟨run, sub⟩
  dsimp only at hkd hwg hn h1 hG ⊢
  refine run [] 60 _ _ _ _ _ _ ?_
  conv => whnf
  refine ⟨(z, S), rfl, rfl, trivial, ?_⟩
  intro v u hvu
  obtain ⟨rfl, rfl⟩ : v = none ∧ u = wX (xz S z) := hvu
  conv => whnf
  refine ⟨fun h => ?_, fun h => ?_, fun h => ?_, fun h => ?_, trivial⟩
  · have hk3 : kd = 3 := by
      rw [nI_toInt (by omega)] at h
      omega
    subst hk3
    conv => whnf
    refine ⟨(w, W, k, n, xz S z), rfl, rfl, ⟨wgt_k hwg kept_z, hn, h1⟩, ?_⟩
    rintro v u ⟨hv0, S', hu, hS', h15⟩
    obtain rfl : v = none := hv0
    subst hu
    conv => whnf
    exact hG _ _ ⟨rfl, S', rfl, kept_tr kept_z hS', h15⟩
  · have hk0 : kd = 0 := by have := nI_int (by omega) h; omega
    subst hk0
    conv => whnf
    refine ⟨(w, W, k, n, xz S z), rfl, rfl, ⟨wgt_k hwg kept_z, hn, h1⟩, ?_⟩
    rintro v u ⟨hv0, S', hu, hS', h15⟩
    obtain rfl : v = none := hv0
    subst hu
    conv => whnf
    exact hG _ _ ⟨rfl, S', rfl, kept_tr kept_z hS', h15⟩
  · have hk1 : kd = 1 := by have := nI_int (by omega) h; omega
    subst hk1
    conv => whnf
    refine ⟨(k, n, xz S z), rfl, rfl, ⟨hwg.1.1, hwg.1.2.1, hwg.2.1, hn, h1⟩, ?_⟩
    rintro v u ⟨hv0, S', hu, hS', h15⟩
    obtain rfl : v = none := hv0
    subst hu
    conv => whnf
    exact hG _ _ ⟨rfl, S', rfl, kept_tr kept_z hS', h15⟩
  · have hk2 : kd = 2 := by have := nI_int (by omega) h; omega
    subst hk2
    conv => whnf
    refine ⟨(w, W, k, n, g, xz S z), rfl, rfl, ⟨wgt_k hwg kept_z, hn, h1⟩, ?_⟩
    rintro v u ⟨hv0, S', hu, hS', h15⟩
    obtain rfl : v = none := hv0
    subst hu
    conv => whnf
    exact hG _ _ ⟨rfl, S', rfl, kept_tr kept_z hS', h15⟩
theorem ct_X3_plan (D : va_G) (dT : Nat → Nat) (l : Launch) : en_CT en_WD D vwCl dT l yX3_plan cX3_plan 5 (none) rm_X3_plan f_X3_plan := en_met en_WD1 en_WD2 (by decide) rfl rfl (tB_X3_plan D dT l) (en_f_ln (fun _ => Nat.le_of_ble_eq_true rfl)) (en_f_bd bd_X3_plan)
set_option maxRecDepth 100000 in
theorem mk_X3_plan {D : va_G} {dT : Nat → Nat} {l : Launch} {R : Room} {s : State} {args : Array Value} {own : String} {idx : Nat} (h : en_WD s) (h1 : rm_X3_plan.frames + 1 ≤ R.frames) (h2 : 8 + (5 + 11) + rm_X3_plan.locals ≤ R.locals) (hl : (Jvm.Cond.methodLink own idx yX3_plan).before args s = true ∨ ∃ host, (Jvm.Cond.methodLinkNest own idx yX3_plan host).before args s = true) : en_mok en_WD D vwCl dT l R s args own (idx, 4, 5, 0, 0, f_X3_plan) :=
  ⟨yX3_plan, cX3_plan, 5, none, rm_X3_plan, 3, ct_X3_plan D dT l, rfl, rfl, h1, h2, en_wd h 328 rfl rfl args, en_wd h 62 (by decide +kernel) rfl args, by decide, by decide, hl, ⟨RX3, TX3, 8, rfl, en_wd h 326 (by decide +kernel) rfl args, en_wd h 327 (by decide +kernel) rfl args, rfl⟩⟩
