/-! SplitLeaks: parts, quota, of, many, near, fit, base, meets, told -/
abbrev wq (x : Int32) : Prop := 0 ≤ x ∧ x < 1001
/-- the world with new weights -/
def bcx (S : Sx) (k a b c d : Int32) : Sx := xi (xa (xi S 2 k) 10 (upd (upd (upd (upd (S.2.2.1 10) 0 a) 1 b) 2 c) 3 d)) 3 (a + b + c + d)
abbrev parq (k a b c d : Int32) : Prop := (1 ≤ k ∧ k ≤ 4) ∧ wq a ∧ wq (if 1 < k then b else 0) ∧ wq (if 2 < k then c else 0) ∧ wq (if 3 < k then d else 0) ∧ a + (if 1 < k then b else 0) + (if 2 < k then c else 0) + (if 3 < k then d else 0) ≠ 0
def f_X6_parts := en_f (σ := Int32 × Int32 × Int32 × Int32 × Int32 × Sx) (fun x => [.ref 0, .int x.1, .int x.2.1, .int x.2.2.1, .int x.2.2.2.1, .int x.2.2.2.2.1]) (fun x => wX x.2.2.2.2.2) (fun _ => True) (fun x v w => (¬ parq x.1 x.2.1 x.2.2.1 x.2.2.2.1 x.2.2.2.2.1 ∧ ans v w (-2) x.2.2.2.2.2) ∨ (parq x.1 x.2.1 x.2.2.1 x.2.2.2.1 x.2.2.2.2.1 ∧ ans v w (x.2.1 + (if 1 < x.1 then x.2.2.1 else 0) + (if 2 < x.1 then x.2.2.2.1 else 0) + (if 3 < x.1 then x.2.2.2.2.1 else 0)) (bcx x.2.2.2.2.2 x.1 x.2.1 (if 1 < x.1 then x.2.2.1 else 0) (if 2 < x.1 then x.2.2.2.1 else 0) (if 3 < x.1 then x.2.2.2.2.1 else 0))))
def rm_X6_parts : Room := { frames := 2, cells := 0, slots := 0, locals := 41 }
def t_X6_parts : en_T := ((9, 0, 0), tb_X6_parts, fl_X6, cn_X6, [(83, 1, 0, 0, 0, f_X6_isWeight), (86, 6, 7, 0, 0, f_X5_become)], [], 0, some .int)
set_option maxRecDepth 100000 in
theorem tB_X6_parts (D : va_G) (dT : Nat → Nat) (l : Launch) : en_TB en_WD D vwCl dT l rm_X6_parts t_X6_parts RX6 "parts" cX6_parts := ⟨tk_X6_parts, fun s args meth h hn => ⟨fo_X6 h args meth, co_X6 h args, List.forall_mem_cons.mpr ⟨mk_X6_isWeight (own := RX6) h (Nat.le_of_ble_eq_true rfl) (Nat.le_of_ble_eq_true rfl) (Or.inl (en_wd h 299 (by decide +kernel) rfl args)), List.forall_mem_cons.mpr ⟨mk_X5_become (own := RX6) h (Nat.le_of_ble_eq_true rfl) (Nat.le_of_ble_eq_true rfl) (Or.inl (en_wd h 302 (by decide +kernel) rfl args)), fun _ h => absurd h List.not_mem_nil⟩⟩, fun _ h => absurd h List.not_mem_nil, Or.inl rfl, en_arr h args⟩⟩
set_option maxHeartbeats 4000000 in
set_option maxRecDepth 100000 in
theorem bd_X6_parts : en_B (σ := Int32 × Int32 × Int32 × Int32 × Int32 × Sx) t_X6_parts (fun x => [.ref 0, .int x.1, .int x.2.1, .int x.2.2.1, .int x.2.2.2.1, .int x.2.2.2.2.1]) (fun x => wX x.2.2.2.2.2) (fun _ => True) (fun x v w => (¬ parq x.1 x.2.1 x.2.2.1 x.2.2.2.1 x.2.2.2.2.1 ∧ ans v w (-2) x.2.2.2.2.2) ∨ (parq x.1 x.2.1 x.2.2.1 x.2.2.2.1 x.2.2.2.2.1 ∧ ans v w (x.2.1 + (if 1 < x.1 then x.2.2.1 else 0) + (if 2 < x.1 then x.2.2.2.1 else 0) + (if 3 < x.1 then x.2.2.2.2.1 else 0)) (bcx x.2.2.2.2.2 x.1 x.2.1 (if 1 < x.1 then x.2.2.1 else 0) (if 2 < x.1 then x.2.2.2.1 else 0) (if 3 < x.1 then x.2.2.2.2.1 else 0)))) := by
  rintro ⟨k, a, b, c, d, S⟩ - G hG OK ⟨run, sub⟩
  dsimp only at hG ⊢
  have tail : (1 ≤ k ∧ k ≤ 4) → OK 0 0 51 [(0, .ref 0), (1, .int k), (2, .int a), (6, .int (if 1 < k then b else 0)), (7, .int (if 2 < k then c else 0)), (8, .int (if 3 < k then d else 0))] [] (wX S) := by
    intro hk
    generalize hb : (if 1 < k then b else 0) = b' at hG ⊢
    generalize hc : (if 2 < k then c else 0) = c' at hG ⊢
    generalize hd : (if 3 < k then d else 0) = d' at hG ⊢
    have hG : ∀ (v : Option Value) (w : List va_E), (¬ ((1 ≤ k ∧ k ≤ 4) ∧ wq a ∧ wq b' ∧ wq c' ∧ wq d' ∧ a + b' + c' + d' ≠ 0) ∧ ans v w (-2) S) ∨ (((1 ≤ k ∧ k ≤ 4) ∧ wq a ∧ wq b' ∧ wq c' ∧ wq d' ∧ a + b' + c' + d' ≠ 0) ∧ ans v w (a + b' + c' + d') (bcx S k a b' c' d')) → G v w := by
      intro v w h
      apply hG v w
      subst hb hc hd
      exact h
    refine run [] 80 _ _ _ _ _ _ ?_
    conv => whnf
    refine ⟨(a, wX S), rfl, rfl, trivial, ?_⟩
    rintro _ _ ⟨rfl, rfl⟩
    conv => whnf
    refine bl_br (fun c1 => ?_) (fun c1 => ?_)
    · conv => whnf
      exact hG _ _ (Or.inl ⟨fun z => c1 z.2.1, rfl, rfl⟩)
    conv => whnf
    refine ⟨(b', wX S), rfl, rfl, trivial, ?_⟩
    rintro _ _ ⟨rfl, rfl⟩
    conv => whnf
    refine bl_br (fun c2 => ?_) (fun c2 => ?_)
    · conv => whnf
      exact hG _ _ (Or.inl ⟨fun z => c2 z.2.2.1, rfl, rfl⟩)
    conv => whnf
    refine ⟨(c', wX S), rfl, rfl, trivial, ?_⟩
    rintro _ _ ⟨rfl, rfl⟩
    conv => whnf
    refine bl_br (fun c3 => ?_) (fun c3 => ?_)
    · conv => whnf
      exact hG _ _ (Or.inl ⟨fun z => c3 z.2.2.2.1, rfl, rfl⟩)
    conv => whnf
    refine ⟨(d', wX S), rfl, rfl, trivial, ?_⟩
    rintro _ _ ⟨rfl, rfl⟩
    conv => whnf
    refine bl_br2 (fun c4 => ?_) (fun c4 => ?_)
    rotate_left
    · conv => whnf
      exact hG _ _ (Or.inl ⟨fun z => c4 z.2.2.2.2.1, rfl, rfl⟩)
    conv => whnf
    refine ⟨fun c5 => ?_, fun c5 => ?_⟩
    · conv => whnf
      refine ⟨(k, a, b', c', d', S), rfl, rfl, trivial, ?_⟩
      rintro _ _ ⟨rfl, rfl⟩
      conv => whnf
      exact hG _ _ (Or.inr ⟨⟨hk, c1, c2, c3, c4, c5⟩, rfl, rfl⟩)
    · conv => whnf
      exact hG _ _ (Or.inl ⟨fun z => z.2.2.2.2.2 c5, rfl, rfl⟩)
  have step3 : (1 ≤ k ∧ k ≤ 4) → OK 0 0 38 [(0, .ref 0), (1, .int k), (2, .int a), (5, .int d), (6, .int (if 1 < k then b else 0)), (7, .int (if 2 < k then c else 0))] [] (wX S) := by
    intro hk
    have tl := tail hk
    refine run [51] 60 _ _ _ _ _ _ ?_
    conv => whnf
    refine ⟨fun h => ?_, fun h => ?_⟩
    · rw [if_neg (c := 3 < k) (Int32.not_lt.mpr h)] at tl
      conv => whnf
      exact sub [0, 1, 2, 4, 5, 6] _ _ _ _ _ _ _ rfl tl
    · rw [if_pos (c := 3 < k) (Int32.not_le.mp h)] at tl
      conv => whnf
      exact sub [0, 1, 2, 4, 5, 6] _ _ _ _ _ _ _ rfl tl
  have step2 : (1 ≤ k ∧ k ≤ 4) → OK 0 0 25 [(0, .ref 0), (1, .int k), (2, .int a), (4, .int c), (5, .int d), (6, .int (if 1 < k then b else 0))] [] (wX S) := by
    intro hk
    have tl := step3 hk
    refine run [38] 60 _ _ _ _ _ _ ?_
    conv => whnf
    refine ⟨fun h => ?_, fun h => ?_⟩
    · rw [if_neg (c := 2 < k) (Int32.not_lt.mpr h)] at tl
      conv => whnf
      exact sub [0, 1, 2, 4, 5, 6] _ _ _ _ _ _ _ rfl tl
    · rw [if_pos (c := 2 < k) (Int32.not_le.mp h)] at tl
      conv => whnf
      exact sub [0, 1, 2, 4, 5, 6] _ _ _ _ _ _ _ rfl tl
  refine run [25] 60 _ _ _ _ _ _ ?_
  conv => whnf
  refine ⟨fun h1 => ?_, fun h1 => ?_⟩
  · conv => whnf
    exact hG _ _ (Or.inl ⟨fun z => absurd h1 (Int32.not_lt.mpr z.1.1), rfl, rfl⟩)
  conv => whnf
  refine ⟨fun h2 => ?_, fun h2 => ?_⟩
  rotate_left
  · conv => whnf
    exact hG _ _ (Or.inl ⟨fun z => h2 z.1.2, rfl, rfl⟩)
  have tl := step2 ⟨Int32.not_lt.mp h1, h2⟩
  conv => whnf
  refine ⟨fun h => ?_, fun h => ?_⟩
  · rw [if_neg (c := 1 < k) (Int32.not_lt.mpr h)] at tl
    conv => whnf
    exact sub [0, 1, 2, 4, 5, 6] _ _ _ _ _ _ _ rfl tl
  · rw [if_pos (c := 1 < k) (Int32.not_le.mp h)] at tl
    conv => whnf
    exact sub [0, 1, 2, 4, 5, 6] _ _ _ _ _ _ _ rfl tl
theorem ct_X6_parts (D : va_G) (dT : Nat → Nat) (l : Launch) : en_CT en_WD D vwCl dT l yX6_parts cX6_parts 9 (some .int) rm_X6_parts f_X6_parts := en_met en_WD1 en_WD2 (by decide) rfl rfl (tB_X6_parts D dT l) (en_f_ln (fun _ => Nat.le_of_ble_eq_true rfl)) (en_f_bd bd_X6_parts)
set_option maxRecDepth 100000 in
theorem mk_X6_parts {D : va_G} {dT : Nat → Nat} {l : Launch} {R : Room} {s : State} {args : Array Value} {own : String} {idx : Nat} (h : en_WD s) (h1 : rm_X6_parts.frames + 1 ≤ R.frames) (h2 : 8 + (9 + 11) + rm_X6_parts.locals ≤ R.locals) (hl : (Jvm.Cond.methodLink own idx yX6_parts).before args s = true ∨ ∃ host, (Jvm.Cond.methodLinkNest own idx yX6_parts host).before args s = true) : en_mok en_WD D vwCl dT l R s args own (idx, 6, 8, 0, 0, f_X6_parts) :=
  ⟨yX6_parts, cX6_parts, 9, some .int, rm_X6_parts, 5, ct_X6_parts D dT l, rfl, rfl, h1, h2, en_wd h 298 rfl rfl args, en_wd h 59 (by decide +kernel) rfl args, by decide, by decide, hl, ⟨RX6, TX6, 6, rfl, en_wd h 296 (by decide +kernel) rfl args, en_wd h 297 (by decide +kernel) rfl args, rfl⟩⟩
/-- an answer, scratch rows apart -/
def ansE (v : Option Value) (w : List va_E) (x : Int32) (S : Sx) : Prop := v = some (.int x) ∧ ∃ S', w = wX S' ∧ kept S S'
def f_X6_quota := en_f (σ := Int32 × Int32 × (Nat → Nat) × Nat × Nat × Sx) (fun x => [.ref 0, .int x.1, .int x.2.1]) (fun x => wX x.2.2.2.2.2) (fun x => wgt x.2.2.2.2.2 x.2.2.1 x.2.2.2.1 x.2.2.2.2.1) (fun x v w => (¬ (inr_ x.1 x.2.2.2.2.1 ∧ (0 ≤ x.2.1 ∧ x.2.1 < 100001)) ∧ ansE v w (-2) x.2.2.2.2.2) ∨ ((inr_ x.1 x.2.2.2.2.1 ∧ (0 ≤ x.2.1 ∧ x.2.1 < 100001)) ∧ ansE v w (nI (qf x.2.2.1 x.2.2.2.1 x.2.2.2.2.1 (tn x.2.1) (tn x.1))) x.2.2.2.2.2))
def rm_X6_quota : Room := { frames := 2, cells := 0, slots := 0, locals := 46 }
def t_X6_quota : en_T := ((3, 0, 0), tb_X6_quota, fl_X6, cn_X6, [(52, 2, 0, 0, 0, f_X6_isWithin), (94, 2, 7, 0, 0, f_X5_apportion)], [], 0, some .int)
set_option maxRecDepth 100000 in
theorem tB_X6_quota (D : va_G) (dT : Nat → Nat) (l : Launch) : en_TB en_WD D vwCl dT l rm_X6_quota t_X6_quota RX6 "quota" cX6_quota := ⟨tk_X6_quota, fun s args meth h hn => ⟨fo_X6 h args meth, co_X6 h args, List.forall_mem_cons.mpr ⟨mk_X6_isWithin (own := RX6) h (Nat.le_of_ble_eq_true rfl) (Nat.le_of_ble_eq_true rfl) (Or.inl (en_wd h 267 (by decide +kernel) rfl args)), List.forall_mem_cons.mpr ⟨mk_X5_apportion (own := RX6) h (Nat.le_of_ble_eq_true rfl) (Nat.le_of_ble_eq_true rfl) (Or.inl (en_wd h 310 (by decide +kernel) rfl args)), fun _ h => absurd h List.not_mem_nil⟩⟩, fun _ h => absurd h List.not_mem_nil, Or.inl rfl, en_arr h args⟩⟩
set_option maxHeartbeats 4000000 in
set_option maxRecDepth 100000 in
theorem bd_X6_quota : en_B (σ := Int32 × Int32 × (Nat → Nat) × Nat × Nat × Sx) t_X6_quota (fun x => [.ref 0, .int x.1, .int x.2.1]) (fun x => wX x.2.2.2.2.2) (fun x => wgt x.2.2.2.2.2 x.2.2.1 x.2.2.2.1 x.2.2.2.2.1) (fun x v w => (¬ (inr_ x.1 x.2.2.2.2.1 ∧ (0 ≤ x.2.1 ∧ x.2.1 < 100001)) ∧ ansE v w (-2) x.2.2.2.2.2) ∨ ((inr_ x.1 x.2.2.2.2.1 ∧ (0 ≤ x.2.1 ∧ x.2.1 < 100001)) ∧ ansE v w (nI (qf x.2.2.1 x.2.2.2.1 x.2.2.2.2.1 (tn x.2.1) (tn x.1))) x.2.2.2.2.2)) := by
  rintro ⟨p, m, w, W, k, S⟩ hwg G hG OK ⟨run, sub⟩
  dsimp only at hwg hG ⊢
  obtain ⟨hok, hk, hW, hw⟩ := hwg
  have hk4 : k ≤ 4 := hok.2.1
  refine run [] 60 _ _ _ _ _ _ ?_
  conv => whnf
  refine ⟨(p, S.1 2, wX S), rfl, rfl, trivial, ?_⟩
  intro v u hvu
  obtain ⟨rfl, rfl⟩ : v = some (.int (bl (inr_ p k))) ∧ u = wX S := by unfold inr_; rw [← hk]; exact hvu
  conv => whnf
  refine bl_br (fun c1 => ?_) (fun c1 => ?_)
  · conv => whnf
    exact hG _ _ (Or.inl ⟨fun z => c1 z.1, rfl, S, rfl, kept_rf S⟩)
  conv => whnf
  refine ⟨(m, 100001, wX S), rfl, rfl, trivial, ?_⟩
  rintro _ _ ⟨rfl, rfl⟩
  conv => whnf
  refine bl_br2 (fun c2 => ?_) (fun c2 => ?_)
  rotate_left
  · conv => whnf
    exact hG _ _ (Or.inl ⟨fun z => c2 z.2, rfl, S, rfl, kept_rf S⟩)
  obtain ⟨i, hi, rfl⟩ := in_of (by omega) c1
  obtain ⟨j, hj, rfl⟩ := in_of (b := 100001) (by decide) c2
  conv => whnf
  refine ⟨(w, W, k, j, S), rfl, rfl, ⟨hok, (by dsimp only; omega), hk, hW, hw⟩, ?_⟩
  rintro v u ⟨hv0, r, hu⟩
  obtain rfl : v = none := hv0
  obtain rfl : u = wX (xa (xa S 11 (mx k (fun j_1 => nI (qf w W k j j_1)) (S.2.2.1 11))) 12 r) := hu
  conv => whnf
  refine ⟨vp_in_nI (by omega) (by decide), ?_⟩
  rw [nI_clamp (by omega)]
  conv => whnf
  refine hG _ _ (Or.inr ⟨⟨c1, c2⟩, ?_, _, rfl, kept_tr (kept_a (by omega)) (kept_a (by omega))⟩)
  rw [show tn (nI i) = i from nI_clamp (by omega), show tn (nI j) = j from nI_clamp (by omega)]
  show some (Value.int (mx k (fun j_1 => nI (qf w W k j j_1)) (S.2.2.1 11) i)) = _
  rw [mx_lt hi]
theorem ct_X6_quota (D : va_G) (dT : Nat → Nat) (l : Launch) : en_CT en_WD D vwCl dT l yX6_quota cX6_quota 3 (some .int) rm_X6_quota f_X6_quota := en_met en_WD1 en_WD2 (by decide) rfl rfl (tB_X6_quota D dT l) (en_f_ln (fun _ => Nat.le_of_ble_eq_true rfl)) (en_f_bd bd_X6_quota)
set_option maxRecDepth 100000 in
theorem mk_X6_quota {D : va_G} {dT : Nat → Nat} {l : Launch} {R : Room} {s : State} {args : Array Value} {own : String} {idx : Nat} (h : en_WD s) (h1 : rm_X6_quota.frames + 1 ≤ R.frames) (h2 : 8 + (3 + 11) + rm_X6_quota.locals ≤ R.locals) (hl : (Jvm.Cond.methodLink own idx yX6_quota).before args s = true ∨ ∃ host, (Jvm.Cond.methodLinkNest own idx yX6_quota host).before args s = true) : en_mok en_WD D vwCl dT l R s args own (idx, 3, 8, 0, 0, f_X6_quota) :=
  ⟨yX6_quota, cX6_quota, 3, some .int, rm_X6_quota, 2, ct_X6_quota D dT l, rfl, rfl, h1, h2, en_wd h 309 rfl rfl args, en_wd h 59 (by decide +kernel) rfl args, by decide, by decide, hl, ⟨RX6, TX6, 6, rfl, en_wd h 307 (by decide +kernel) rfl args, en_wd h 308 (by decide +kernel) rfl args, rfl⟩⟩
def f_X6_of := en_f (σ := Int32 × Nat × Sx) (fun x => [.ref 0, .int x.1]) (fun x => wX x.2.2) (fun x => x.2.1 ≤ 100 ∧ x.2.2.1 1 = nI x.2.1) (fun x v w => ans v w (if inr_ x.1 x.2.1 then x.2.2.2.2.1 5 (tn x.1) else -2) x.2.2)
def rm_X6_of : Room := { frames := 2, cells := 0, slots := 0, locals := 42 }
def t_X6_of : en_T := ((2, 0, 0), tb_X6_of, fl_X6, cn_X6, [(64, 2, 4, 0, 0, f_X2_has)], [], 0, some .int)
set_option maxRecDepth 100000 in
theorem tB_X6_of (D : va_G) (dT : Nat → Nat) (l : Launch) : en_TB en_WD D vwCl dT l rm_X6_of t_X6_of RX6 "of" cX6_of := ⟨tk_X6_of, fun s args meth h hn => ⟨fo_X6 h args meth, co_X6 h args, List.forall_mem_cons.mpr ⟨mk_X2_has (own := RX6) h (Nat.le_of_ble_eq_true rfl) (Nat.le_of_ble_eq_true rfl) (Or.inl (en_wd h 279 (by decide +kernel) rfl args)), fun _ h => absurd h List.not_mem_nil⟩, fun _ h => absurd h List.not_mem_nil, Or.inl rfl, en_arr h args⟩⟩
set_option maxHeartbeats 4000000 in
set_option maxRecDepth 100000 in
theorem bd_X6_of : en_B (σ := Int32 × Nat × Sx) t_X6_of (fun x => [.ref 0, .int x.1]) (fun x => wX x.2.2) (fun x => x.2.1 ≤ 100 ∧ x.2.2.1 1 = nI x.2.1) (fun x v w => ans v w (if inr_ x.1 x.2.1 then x.2.2.2.2.1 5 (tn x.1) else -2) x.2.2) := by
  rintro ⟨r, n, S⟩ ⟨hn, h1⟩ G hG OK ⟨run, sub⟩
  dsimp only at hn h1 hG ⊢
  refine run [] 60 _ _ _ _ _ _ ?_
  conv => whnf
  refine ⟨(r, S), rfl, rfl, trivial, ?_⟩
  intro v u hvu
  obtain ⟨rfl, rfl⟩ : v = some (.int (bl (inr_ r n))) ∧ u = wX S := by unfold inr_; rw [← h1]; exact hvu
  conv => whnf
  refine bl_br (fun c1 => ?_) (fun c1 => ?_)
  · conv => whnf
    exact hG _ _ ⟨by rw [if_neg c1]; rfl, rfl⟩
  · obtain ⟨i, hi, rfl⟩ := in_of (by omega) c1
    conv => whnf
    refine ⟨vp_in_nI (by omega) (by decide), ?_⟩
    conv => whnf
    exact hG _ _ ⟨by rw [if_pos c1], rfl⟩
theorem ct_X6_of (D : va_G) (dT : Nat → Nat) (l : Launch) : en_CT en_WD D vwCl dT l yX6_of cX6_of 2 (some .int) rm_X6_of f_X6_of := en_met en_WD1 en_WD2 (by decide) rfl rfl (tB_X6_of D dT l) (en_f_ln (fun _ => Nat.le_of_ble_eq_true rfl)) (en_f_bd bd_X6_of)
set_option maxRecDepth 100000 in
theorem mk_X6_of {D : va_G} {dT : Nat → Nat} {l : Launch} {R : Room} {s : State} {args : Array Value} {own : String} {idx : Nat} (h : en_WD s) (h1 : rm_X6_of.frames + 1 ≤ R.frames) (h2 : 8 + (2 + 11) + rm_X6_of.locals ≤ R.locals) (hl : (Jvm.Cond.methodLink own idx yX6_of).before args s = true ∨ ∃ host, (Jvm.Cond.methodLinkNest own idx yX6_of host).before args s = true) : en_mok en_WD D vwCl dT l R s args own (idx, 2, 8, 0, 0, f_X6_of) :=
  ⟨yX6_of, cX6_of, 2, some .int, rm_X6_of, 1, ct_X6_of D dT l, rfl, rfl, h1, h2, en_wd h 470 rfl rfl args, en_wd h 59 (by decide +kernel) rfl args, by decide, by decide, hl, ⟨RX6, TX6, 6, rfl, en_wd h 468 (by decide +kernel) rfl args, en_wd h 469 (by decide +kernel) rfl args, rfl⟩⟩
abbrev manq (p l : Int32) : Prop := (0 ≤ p ∧ p < 4) ∧ (l = -1 ∨ (0 ≤ l ∧ l < 5))
def f_X6_many := en_f (σ := Int32 × Int32 × Nat × Sx) (fun x => [.ref 0, .int x.1, .int x.2.1]) (fun x => wX x.2.2.2) (fun x => x.2.2.1 ≤ 100 ∧ x.2.2.2.1 1 = nI x.2.2.1) (fun x v w => ans v w (if manq x.1 x.2.1 then nI (cin (x.2.2.2.2.2.1 5) (x.2.2.2.2.2.1 3) x.2.2.1 x.1 x.2.1) else -2) x.2.2.2)
def rm_X6_many : Room := { frames := 1, cells := 0, slots := 0, locals := 24 }
def t_X6_many : en_T := ((3, 0, 0), tb_X6_many, fl_X6, cn_X6, [(52, 2, 0, 0, 0, f_X6_isWithin), (130, 3, 4, 0, 0, f_X2_countIn)], [], 0, some .int)
set_option maxRecDepth 100000 in
theorem tB_X6_many (D : va_G) (dT : Nat → Nat) (l : Launch) : en_TB en_WD D vwCl dT l rm_X6_many t_X6_many RX6 "many" cX6_many := ⟨tk_X6_many, fun s args meth h hn => ⟨fo_X6 h args meth, co_X6 h args, List.forall_mem_cons.mpr ⟨mk_X6_isWithin (own := RX6) h (Nat.le_of_ble_eq_true rfl) (Nat.le_of_ble_eq_true rfl) (Or.inl (en_wd h 267 (by decide +kernel) rfl args)), List.forall_mem_cons.mpr ⟨mk_X2_countIn (own := RX6) h (Nat.le_of_ble_eq_true rfl) (Nat.le_of_ble_eq_true rfl) (Or.inl (en_wd h 457 (by decide +kernel) rfl args)), fun _ h => absurd h List.not_mem_nil⟩⟩, fun _ h => absurd h List.not_mem_nil, Or.inl rfl, en_arr h args⟩⟩
set_option maxHeartbeats 4000000 in
set_option maxRecDepth 100000 in
theorem bd_X6_many : en_B (σ := Int32 × Int32 × Nat × Sx) t_X6_many (fun x => [.ref 0, .int x.1, .int x.2.1]) (fun x => wX x.2.2.2) (fun x => x.2.2.1 ≤ 100 ∧ x.2.2.2.1 1 = nI x.2.2.1) (fun x v w => ans v w (if manq x.1 x.2.1 then nI (cin (x.2.2.2.2.2.1 5) (x.2.2.2.2.2.1 3) x.2.2.1 x.1 x.2.1) else -2) x.2.2.2) := by
  rintro ⟨p, l, n, S⟩ ⟨hn, h1⟩ G hG OK ⟨run, sub⟩
  dsimp only at hn h1 hG ⊢
  refine run [] 60 _ _ _ _ _ _ ?_
  conv => whnf
  refine ⟨(p, 4, wX S), rfl, rfl, trivial, ?_⟩
  rintro _ _ ⟨rfl, rfl⟩
  conv => whnf
  refine bl_br (fun c1 => ?_) (fun c1 => ?_)
  · conv => whnf
    exact hG _ _ ⟨by rw [if_neg (fun z => c1 z.1)]; rfl, rfl⟩
  conv => whnf
  refine ⟨fun c2 => ?_, fun c2 => ?_⟩
  · have c2 : l = -1 := c2
    conv => whnf
    refine ⟨(n, p, l, S), rfl, rfl, ⟨hn, h1⟩, ?_⟩
    rintro _ _ ⟨rfl, rfl⟩
    conv => whnf
    exact hG _ _ ⟨by rw [if_pos (c := manq p l) ⟨c1, Or.inl c2⟩], rfl⟩
  · have c2 : ¬ l = -1 := c2
    conv => whnf
    refine ⟨(l, 5, wX S), rfl, rfl, trivial, ?_⟩
    rintro _ _ ⟨rfl, rfl⟩
    conv => whnf
    refine bl_br2 (fun c3 => ?_) (fun c3 => ?_)
    · conv => whnf
      refine ⟨(n, p, l, S), rfl, rfl, ⟨hn, h1⟩, ?_⟩
      rintro _ _ ⟨rfl, rfl⟩
      conv => whnf
      exact hG _ _ ⟨by rw [if_pos (c := manq p l) ⟨c1, Or.inr c3⟩], rfl⟩
    · conv => whnf
      exact hG _ _ ⟨by rw [if_neg (c := manq p l) (fun z => z.2.elim c2 c3)]; rfl, rfl⟩
theorem ct_X6_many (D : va_G) (dT : Nat → Nat) (l : Launch) : en_CT en_WD D vwCl dT l yX6_many cX6_many 3 (some .int) rm_X6_many f_X6_many := en_met en_WD1 en_WD2 (by decide) rfl rfl (tB_X6_many D dT l) (en_f_ln (fun _ => Nat.le_of_ble_eq_true rfl)) (en_f_bd bd_X6_many)
set_option maxRecDepth 100000 in
theorem mk_X6_many {D : va_G} {dT : Nat → Nat} {l : Launch} {R : Room} {s : State} {args : Array Value} {own : String} {idx : Nat} (h : en_WD s) (h1 : rm_X6_many.frames + 1 ≤ R.frames) (h2 : 8 + (3 + 11) + rm_X6_many.locals ≤ R.locals) (hl : (Jvm.Cond.methodLink own idx yX6_many).before args s = true ∨ ∃ host, (Jvm.Cond.methodLinkNest own idx yX6_many host).before args s = true) : en_mok en_WD D vwCl dT l R s args own (idx, 3, 8, 0, 0, f_X6_many) :=
  ⟨yX6_many, cX6_many, 3, some .int, rm_X6_many, 2, ct_X6_many D dT l, rfl, rfl, h1, h2, en_wd h 474 rfl rfl args, en_wd h 59 (by decide +kernel) rfl args, by decide, by decide, hl, ⟨RX6, TX6, 6, rfl, en_wd h 472 (by decide +kernel) rfl args, en_wd h 473 (by decide +kernel) rfl args, rfl⟩⟩
def f_X6_near := en_f (σ := Int32 × Sx) (fun x => [.ref 0, .int x.1]) (fun x => wX x.2) (fun _ => True) (fun x v w => (¬ (1 ≤ x.1 ∧ x.1 ≤ 100) ∧ ans v w (-2) x.2) ∨ ((1 ≤ x.1 ∧ x.1 ≤ 100) ∧ ans v w (x.2.1 0) (xi x.2 0 x.1)))
def rm_X6_near : Room := { frames := 0, cells := 0, slots := 0, locals := 0 }
def t_X6_near : en_T := ((3, 0, 0), tb_X6_near, fl_X6, cn_X6, [], [], 0, some .int)
set_option maxRecDepth 100000 in
theorem tB_X6_near (D : va_G) (dT : Nat → Nat) (l : Launch) : en_TB en_WD D vwCl dT l rm_X6_near t_X6_near RX6 "near" cX6_near := ⟨tk_X6_near, fun s args meth h hn => ⟨fo_X6 h args meth, co_X6 h args, fun _ h => absurd h List.not_mem_nil, fun _ h => absurd h List.not_mem_nil, Or.inl rfl, en_arr h args⟩⟩
set_option maxHeartbeats 4000000 in
set_option maxRecDepth 100000 in
theorem bd_X6_near : en_B (σ := Int32 × Sx) t_X6_near (fun x => [.ref 0, .int x.1]) (fun x => wX x.2) (fun _ => True) (fun x v w => (¬ (1 ≤ x.1 ∧ x.1 ≤ 100) ∧ ans v w (-2) x.2) ∨ ((1 ≤ x.1 ∧ x.1 ≤ 100) ∧ ans v w (x.2.1 0) (xi x.2 0 x.1))) := by
  rintro ⟨p, S⟩ - G hG OK ⟨run, sub⟩
  dsimp only at hG ⊢
  refine run [] 60 _ _ _ _ _ _ ?_
  conv => whnf
  refine ⟨fun c1 => ?_, fun c1 => ?_⟩
  · conv => whnf
    exact hG _ _ (Or.inl ⟨fun z => absurd c1 (Int32.not_lt.mpr z.1), rfl, rfl⟩)
  conv => whnf
  refine ⟨fun c2 => ?_, fun c2 => ?_⟩
  · conv => whnf
    exact hG _ _ (Or.inr ⟨⟨Int32.not_lt.mp c1, c2⟩, rfl, rfl⟩)
  · conv => whnf
    exact hG _ _ (Or.inl ⟨fun z => c2 z.2, rfl, rfl⟩)
theorem ct_X6_near (D : va_G) (dT : Nat → Nat) (l : Launch) : en_CT en_WD D vwCl dT l yX6_near cX6_near 3 (some .int) rm_X6_near f_X6_near := en_met en_WD1 en_WD2 (by decide) rfl rfl (tB_X6_near D dT l) (en_f_ln (fun _ => Nat.le_of_ble_eq_true rfl)) (en_f_bd bd_X6_near)
set_option maxRecDepth 100000 in
theorem mk_X6_near {D : va_G} {dT : Nat → Nat} {l : Launch} {R : Room} {s : State} {args : Array Value} {own : String} {idx : Nat} (h : en_WD s) (h1 : rm_X6_near.frames + 1 ≤ R.frames) (h2 : 8 + (3 + 11) + rm_X6_near.locals ≤ R.locals) (hl : (Jvm.Cond.methodLink own idx yX6_near).before args s = true ∨ ∃ host, (Jvm.Cond.methodLinkNest own idx yX6_near host).before args s = true) : en_mok en_WD D vwCl dT l R s args own (idx, 2, 8, 0, 0, f_X6_near) :=
  ⟨yX6_near, cX6_near, 3, some .int, rm_X6_near, 1, ct_X6_near D dT l, rfl, rfl, h1, h2, en_wd h 487 rfl rfl args, en_wd h 59 (by decide +kernel) rfl args, by decide, by decide, hl, ⟨RX6, TX6, 6, rfl, en_wd h 485 (by decide +kernel) rfl args, en_wd h 486 (by decide +kernel) rfl args, rfl⟩⟩
