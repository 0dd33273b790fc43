/-! SplitLeaks$Splitter: the plans -/
/-- the plain split: what is planned -/
def PL0 (w : Nat → Nat) (W k n : Nat) (z : Int64) (o16 o15 : Nat → Int32) : Nat → Int32 := dl (shm n z (mx n nI o16)).2 (fun a => nI (pt (qf w W k n) a k)) o15 n
/-- what stays while a plan is made -/
def kept (S S' : Sx) : Prop := (∀ j, j ≠ 4 → S'.1 j = S.1 j) ∧ (∀ a, a ≠ 11 → a ≠ 12 → a ≠ 15 → a ≠ 16 → a ≠ 17 → a ≠ 18 → S'.2.2.1 a = S.2.2.1 a) ∧ S'.2.2.2 = S.2.2.2
theorem kept_rf (S : Sx) : kept S S := ⟨fun _ _ => rfl, fun _ _ _ _ _ _ _ => rfl, rfl⟩
theorem kept_tr {S T U : Sx} (h : kept S T) (g : kept T U) : kept S U := ⟨fun j hj => (g.1 j hj).trans (h.1 j hj), fun a a1 a2 a3 a4 a5 a6 => (g.2.1 a a1 a2 a3 a4 a5 a6).trans (h.2.1 a a1 a2 a3 a4 a5 a6), g.2.2.trans h.2.2⟩
theorem kept_i {S : Sx} {v : Int32} : kept S (xi S 4 v) := ⟨fun j hj => if_neg hj, fun _ _ _ _ _ _ _ => rfl, rfl⟩
theorem kept_z {S : Sx} {v : Int64} : kept S (xz S v) := ⟨fun _ _ => rfl, fun _ _ _ _ _ _ _ => rfl, rfl⟩
theorem kept_a {S : Sx} {k : Nat} {f : Nat → Int32} (h : k = 11 ∨ k = 12 ∨ k = 15 ∨ k = 16 ∨ k = 17 ∨ k = 18) : kept S (xa S k f) := ⟨fun _ _ => rfl, fun a a1 a2 a3 a4 a5 a6 => if_neg (by omega), rfl⟩
/-- the weights of the world -/
def wgt (S : Sx) (w : Nat → Nat) (W k : Nat) : Prop := wok w W k ∧ S.1 2 = nI k ∧ S.1 3 = nI W ∧ ∀ j, j < k → S.2.2.1 10 j = nI (w j)
theorem wgt_k {S S' : Sx} {w : Nat → Nat} {W k : Nat} (h : wgt S w W k) (g : kept S S') : wgt S' w W k :=
  ⟨h.1, (g.1 2 (by decide)).trans h.2.1, (g.1 3 (by decide)).trans h.2.2.1, fun j hj => by rw [g.2.1 10 (by decide) (by decide) (by decide) (by decide) (by decide) (by decide)]; exact h.2.2.2 j hj⟩
def f_X3_planPlain := en_f (σ := (Nat → Nat) × Nat × Nat × Nat × Sx) (fun _ => [.ref 13]) (fun x => wX x.2.2.2.2) (fun x => wgt x.2.2.2.2 x.1 x.2.1 x.2.2.1 ∧ x.2.2.2.1 ≤ 100 ∧ x.2.2.2.2.1 1 = nI x.2.2.2.1) (fun x v w => v = none ∧ ∃ S', w = wX S' ∧ kept x.2.2.2.2 S' ∧ S'.2.2.1 15 = PL0 x.1 x.2.1 x.2.2.1 x.2.2.2.1 x.2.2.2.2.2.1 (x.2.2.2.2.2.2.1 16) (x.2.2.2.2.2.2.1 15))
def rm_X3_planPlain : Room := { frames := 3, cells := 0, slots := 0, locals := 69 }
def t_X3_planPlain : en_T := ((1, 0, 0), tb_X3_planPlain, fl_X3, cn_X3, [(79, 1, 5, 0, 0, f_X3_gatherAll), (82, 3, 2, 0, 0, f_X0_shuffle), (86, 1, 5, 0, 0, f_X3_fillByQuotas)], [], 0, none)
set_option maxRecDepth 100000 in
theorem tB_X3_planPlain (D : va_G) (dT : Nat → Nat) (l : Launch) : en_TB en_WD D vwCl dT l rm_X3_planPlain t_X3_planPlain RX3 "planPlain" cX3_planPlain := ⟨tk_X3_planPlain, fun s args meth h hn => ⟨fo_X3 h args meth, co_X3 h args, List.forall_mem_cons.mpr ⟨mk_X3_gatherAll (own := RX3) h (Nat.le_of_ble_eq_true rfl) (Nat.le_of_ble_eq_true rfl) (Or.inl (en_wd h 337 (by decide +kernel) rfl args)), List.forall_mem_cons.mpr ⟨mk_X0_shuffle (own := RX3) h (Nat.le_of_ble_eq_true rfl) (Nat.le_of_ble_eq_true rfl) (Or.inl (en_wd h 341 (by decide +kernel) rfl args)), List.forall_mem_cons.mpr ⟨mk_X3_fillByQuotas (own := RX3) h (Nat.le_of_ble_eq_true rfl) (Nat.le_of_ble_eq_true rfl) (Or.inl (en_wd h 351 (by decide +kernel) rfl args)), fun _ h => absurd h List.not_mem_nil⟩⟩⟩, fun _ h => absurd h List.not_mem_nil, Or.inl rfl, en_arr h args⟩⟩
set_option maxHeartbeats 4000000 in
set_option maxRecDepth 100000 in
theorem bd_X3_planPlain : en_B (σ := (Nat → Nat) × Nat × Nat × Nat × Sx) t_X3_planPlain (fun _ => [.ref 13]) (fun x => wX x.2.2.2.2) (fun x => wgt x.2.2.2.2 x.1 x.2.1 x.2.2.1 ∧ x.2.2.2.1 ≤ 100 ∧ x.2.2.2.2.1 1 = nI x.2.2.2.1) (fun x v w => v = none ∧ ∃ S', w = wX S' ∧ kept x.2.2.2.2 S' ∧ S'.2.2.1 15 = PL0 x.1 x.2.1 x.2.2.1 x.2.2.2.1 x.2.2.2.2.2.1 (x.2.2.2.2.2.2.1 16) (x.2.2.2.2.2.2.1 15)) := by
  rintro ⟨w, W, k, n, S⟩ ⟨hwg, hn, h1⟩ G hG OK ⟨run, sub⟩
  dsimp only at hwg hn h1 hG ⊢
  obtain ⟨hok, hk, hW, hw⟩ := hwg
  refine run [] 60 _ _ _ _ _ _ ?_
  conv => whnf
  refine ⟨(n, S), rfl, rfl, ⟨hn, h1⟩, ?_⟩
  intro v u hvu
  obtain ⟨rfl, rfl⟩ : v = none ∧ u = wX (xi (xa S 16 (mx n nI (S.2.2.1 16))) 4 (nI n)) := hvu
  conv => whnf
  refine ⟨(n, xi (xa S 16 (mx n nI (S.2.2.1 16))) 4 (nI n)), rfl, rfl, hn, ?_⟩
  intro v u hvu
  obtain ⟨rfl, rfl⟩ : v = none ∧ u = wX (xa (xz (xi (xa S 16 (mx n nI (S.2.2.1 16))) 4 (nI n)) (shm n S.2.1 (mx n nI (S.2.2.1 16))).1) 16 (shm n S.2.1 (mx n nI (S.2.2.1 16))).2) := hvu
  have hv := shm_v (z := S.2.1) (mx_v (n := n) (b := 100) hn (old := S.2.2.1 16))
  unfold PL0 at hG
  generalize shm n S.2.1 (mx n nI (S.2.2.1 16)) = Z at hv hG ⊢
  conv => whnf
  refine ⟨(w, W, k, n, xa (xz (xi (xa S 16 (mx n nI (S.2.2.1 16))) 4 (nI n)) Z.1) 16 Z.2), rfl, rfl, ⟨hok, hn, hk, hW, hw, rfl, hv⟩, ?_⟩
  rintro v u ⟨hv0, q, r, hu⟩
  obtain rfl : v = none := hv0
  obtain rfl : u = wX (xa (xa (xa (xa (xz (xi (xa S 16 (mx n nI (S.2.2.1 16))) 4 (nI n)) Z.1) 16 Z.2) 11 q) 12 r) 15 (dl Z.2 (fun a => nI (pt (qf w W k n) a k)) (S.2.2.1 15) n)) := hu
  conv => whnf
  exact hG _ _ ⟨rfl, _, rfl, kept_tr (kept_tr (kept_tr (kept_tr (kept_tr (kept_tr (kept_a (by omega)) kept_i) kept_z) (kept_a (by omega))) (kept_a (by omega))) (kept_a (by omega))) (kept_a (by omega)), rfl⟩
theorem ct_X3_planPlain (D : va_G) (dT : Nat → Nat) (l : Launch) : en_CT en_WD D vwCl dT l yX3_planPlain cX3_planPlain 1 (none) rm_X3_planPlain f_X3_planPlain := en_met en_WD1 en_WD2 (by decide) rfl rfl (tB_X3_planPlain D dT l) (en_f_ln (fun _ => Nat.le_of_ble_eq_true rfl)) (en_f_bd bd_X3_planPlain)
set_option maxRecDepth 100000 in
theorem mk_X3_planPlain {D : va_G} {dT : Nat → Nat} {l : Launch} {R : Room} {s : State} {args : Array Value} {own : String} {idx : Nat} (h : en_WD s) (h1 : rm_X3_planPlain.frames + 1 ≤ R.frames) (h2 : 8 + (1 + 11) + rm_X3_planPlain.locals ≤ R.locals) (hl : (Jvm.Cond.methodLink own idx yX3_planPlain).before args s = true ∨ ∃ host, (Jvm.Cond.methodLinkNest own idx yX3_planPlain host).before args s = true) : en_mok en_WD D vwCl dT l R s args own (idx, 1, 5, 0, 0, f_X3_planPlain) :=
  ⟨yX3_planPlain, cX3_planPlain, 1, none, rm_X3_planPlain, 0, ct_X3_planPlain D dT l, rfl, rfl, h1, h2, en_wd h 336 rfl rfl args, en_wd h 62 (by decide +kernel) rfl args, by decide, by decide, hl, ⟨RX3, TX3, 8, rfl, en_wd h 335 (by decide +kernel) rfl args, en_wd h 1 (by decide +kernel) rfl args, rfl⟩⟩
