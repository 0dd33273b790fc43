/-! SplitLeaks: fit, base, leaks, leak, meets, told -/
/-- all but scratch is as it was -/
def dat (S S' : Sx) : Prop := (∀ j, j < 4 → S'.1 j = S.1 j) ∧ (S'.2.2.1 2 = S.2.2.1 2 ∧ S'.2.2.1 3 = S.2.2.1 3 ∧ S'.2.2.1 4 = S.2.2.1 4 ∧ S'.2.2.1 5 = S.2.2.1 5 ∧ S'.2.2.1 10 = S.2.2.1 10 ∧ S'.2.2.1 20 = S.2.2.1 20 ∧ S'.2.2.1 21 = S.2.2.1 21 ∧ S'.2.2.1 22 = S.2.2.1 22) ∧ S'.2.2.2 = S.2.2.2
theorem dat_rf (S : Sx) : dat S S := ⟨fun _ _ => rfl, ⟨rfl, rfl, rfl, rfl, rfl, rfl, rfl, rfl⟩, rfl⟩
theorem dat_k {S S' : Sx} (h : kept S S') : dat S S' := ⟨fun j hj => h.1 j (by omega), ⟨h.2.1 2 (by decide) (by decide) (by decide) (by decide) (by decide) (by decide), h.2.1 3 (by decide) (by decide) (by decide) (by decide) (by decide) (by decide), h.2.1 4 (by decide) (by decide) (by decide) (by decide) (by decide) (by decide), h.2.1 5 (by decide) (by decide) (by decide) (by decide) (by decide) (by decide), h.2.1 10 (by decide) (by decide) (by decide) (by decide) (by decide) (by decide), h.2.1 20 (by decide) (by decide) (by decide) (by decide) (by decide) (by decide), h.2.1 21 (by decide) (by decide) (by decide) (by decide) (by decide) (by decide), h.2.1 22 (by decide) (by decide) (by decide) (by decide) (by decide) (by decide)⟩, h.2.2⟩
theorem dat_f {S : Sx} {wt : Int32} {Y : Int32 × Int32 × Int32} : dat S (xf (xi S 5 wt) Y) := ⟨fun j hj => by
    show (if j = 8 then _ else if j = 7 then _ else if j = 6 then _ else if j = 5 then _ else S.1 j) = S.1 j
    rw [if_neg (by omega), if_neg (by omega), if_neg (by omega), if_neg (by omega)], ⟨rfl, rfl, rfl, rfl, rfl, rfl, rfl, rfl⟩, rfl⟩
def ansD (v : Option Value) (w : List va_E) (x : Int32) (S : Sx) : Prop := v = some (.int x) ∧ ∃ S', w = wX S' ∧ dat S S'
abbrev fitq (s r : Int32) (n : Nat) : Prop := (0 ≤ s ∧ s < 8) ∧ inr_ r n
def f_X6_fit := en_f (σ := Int32 × Int32 × Nat × Sx) (fun x => [.ref 0, .int x.1, .int x.2.1]) (fun x => wX x.2.2.2) (fun x => x.2.2.1 ≤ 100 ∧ x.2.2.2.1 1 = nI x.2.2.1 ∧ zb (x.2.2.2.2.2.1 22)) (fun x v w => (¬ fitq x.1 x.2.1 x.2.2.1 ∧ ans v w (-2) x.2.2.2) ∨ (fitq x.1 x.2.1 x.2.2.1 ∧ ¬ x.2.2.2.2.2.1 22 (tn x.1 * 100 + tn x.2.1) = 0 ∧ ans v w (-4) x.2.2.2) ∨ (fitq x.1 x.2.1 x.2.2.1 ∧ x.2.2.2.2.2.1 22 (tn x.1 * 100 + tn x.2.1) = 0 ∧ ans v w (x.2.2.2.2.2.1 21 (tn x.1) + 1) (xa (xa x.2.2.2 22 (upd (x.2.2.2.2.2.1 22) (tn x.1 * 100 + tn x.2.1) 1)) 21 (upd (x.2.2.2.2.2.1 21) (tn x.1) (x.2.2.2.2.2.1 21 (tn x.1) + 1)))))
def rm_X6_fit : Room := { frames := 2, cells := 0, slots := 0, locals := 42 }
def t_X6_fit : en_T := ((3, 0, 0), tb_X6_fit, fl_X6, cn_X6, [(52, 2, 0, 0, 0, f_X6_isWithin), (64, 2, 4, 0, 0, f_X2_has), (170, 3, 6, 0, 0, f_X4_isFittedItself), (173, 3, 6, 0, 0, f_X4_addRow)], [], 0, some .int)
set_option maxRecDepth 100000 in
theorem tB_X6_fit (D : va_G) (dT : Nat → Nat) (l : Launch) : en_TB en_WD D vwCl dT l rm_X6_fit t_X6_fit RX6 "fit" cX6_fit := ⟨tk_X6_fit, fun s args meth h hn => ⟨fo_X6 h args meth, co_X6 h args, List.forall_mem_cons.mpr ⟨mk_X6_isWithin (own := RX6) h (Nat.le_of_ble_eq_true rfl) (Nat.le_of_ble_eq_true rfl) (Or.inl (en_wd h 267 (by decide +kernel) rfl args)), List.forall_mem_cons.mpr ⟨mk_X2_has (own := RX6) h (Nat.le_of_ble_eq_true rfl) (Nat.le_of_ble_eq_true rfl) (Or.inl (en_wd h 279 (by decide +kernel) rfl args)), List.forall_mem_cons.mpr ⟨mk_X4_isFittedItself (own := RX6) h (Nat.le_of_ble_eq_true rfl) (Nat.le_of_ble_eq_true rfl) (Or.inl (en_wd h 492 (by decide +kernel) rfl args)), List.forall_mem_cons.mpr ⟨mk_X4_addRow (own := RX6) h (Nat.le_of_ble_eq_true rfl) (Nat.le_of_ble_eq_true rfl) (Or.inl (en_wd h 496 (by decide +kernel) rfl args)), fun _ h => absurd h List.not_mem_nil⟩⟩⟩⟩, fun _ h => absurd h List.not_mem_nil, Or.inl rfl, en_arr h args⟩⟩
set_option maxHeartbeats 4000000 in
set_option maxRecDepth 100000 in
theorem bd_X6_fit : en_B (σ := Int32 × Int32 × Nat × Sx) t_X6_fit (fun x => [.ref 0, .int x.1, .int x.2.1]) (fun x => wX x.2.2.2) (fun x => x.2.2.1 ≤ 100 ∧ x.2.2.2.1 1 = nI x.2.2.1 ∧ zb (x.2.2.2.2.2.1 22)) (fun x v w => (¬ fitq x.1 x.2.1 x.2.2.1 ∧ ans v w (-2) x.2.2.2) ∨ (fitq x.1 x.2.1 x.2.2.1 ∧ ¬ x.2.2.2.2.2.1 22 (tn x.1 * 100 + tn x.2.1) = 0 ∧ ans v w (-4) x.2.2.2) ∨ (fitq x.1 x.2.1 x.2.2.1 ∧ x.2.2.2.2.2.1 22 (tn x.1 * 100 + tn x.2.1) = 0 ∧ ans v w (x.2.2.2.2.2.1 21 (tn x.1) + 1) (xa (xa x.2.2.2 22 (upd (x.2.2.2.2.2.1 22) (tn x.1 * 100 + tn x.2.1) 1)) 21 (upd (x.2.2.2.2.2.1 21) (tn x.1) (x.2.2.2.2.2.1 21 (tn x.1) + 1))))) := by
  rintro ⟨s, r, n, S⟩ ⟨hn, h1, hz⟩ G hG OK ⟨run, sub⟩
  dsimp only at hn h1 hz hG ⊢
  refine run [] 60 _ _ _ _ _ _ ?_
  conv => whnf
  refine ⟨(s, 8, wX S), rfl, rfl, trivial, ?_⟩
  rintro _ _ ⟨rfl, rfl⟩
  conv => whnf
  refine bl_br (fun c1 => ?_) (fun c1 => ?_)
  · conv => whnf
    exact hG _ _ (Or.inl ⟨fun z => c1 z.1, rfl, rfl⟩)
  conv => whnf
  refine ⟨(r, S), rfl, rfl, trivial, ?_⟩
  intro v u hvu
  obtain ⟨rfl, rfl⟩ : v = some (.int (bl (inr_ r n))) ∧ u = wX S := by unfold inr_; rw [← h1]; exact hvu
  conv => whnf
  refine bl_br2 (fun c2 => ?_) (fun c2 => ?_)
  rotate_left
  · conv => whnf
    exact hG _ _ (Or.inl ⟨fun z => c2 z.2, rfl, rfl⟩)
  obtain ⟨i, hi, rfl⟩ := in_of (b := 8) (by decide) c1
  obtain ⟨j, hj, rfl⟩ := in_of (by omega) c2
  rw [show tn (nI i) = i from nI_clamp (by omega), show tn (nI j) = j from nI_clamp (by omega)] at hG
  conv => whnf
  refine ⟨(i, j, S), rfl, rfl, ⟨hi, (by dsimp only; omega), hz⟩, ?_⟩
  rintro _ _ ⟨rfl, rfl⟩
  conv => whnf
  refine ⟨fun c3 => ?_, fun c3 => ?_⟩
  · conv => whnf
    refine ⟨(i, j, S), rfl, rfl, ⟨hi, by dsimp only; omega⟩, ?_⟩
    rintro _ _ ⟨rfl, rfl⟩
    conv => whnf
    exact hG _ _ (Or.inr (Or.inr ⟨⟨c1, c2⟩, c3, rfl, rfl⟩))
  · conv => whnf
    exact hG _ _ (Or.inr (Or.inl ⟨⟨c1, c2⟩, c3, rfl, rfl⟩))
theorem ct_X6_fit (D : va_G) (dT : Nat → Nat) (l : Launch) : en_CT en_WD D vwCl dT l yX6_fit cX6_fit 3 (some .int) rm_X6_fit f_X6_fit := en_met en_WD1 en_WD2 (by decide) rfl rfl (tB_X6_fit D dT l) (en_f_ln (fun _ => Nat.le_of_ble_eq_true rfl)) (en_f_bd bd_X6_fit)
set_option maxRecDepth 100000 in
theorem mk_X6_fit {D : va_G} {dT : Nat → Nat} {l : Launch} {R : Room} {s : State} {args : Array Value} {own : String} {idx : Nat} (h : en_WD s) (h1 : rm_X6_fit.frames + 1 ≤ R.frames) (h2 : 8 + (3 + 11) + rm_X6_fit.locals ≤ R.locals) (hl : (Jvm.Cond.methodLink own idx yX6_fit).before args s = true ∨ ∃ host, (Jvm.Cond.methodLinkNest own idx yX6_fit host).before args s = true) : en_mok en_WD D vwCl dT l R s args own (idx, 3, 8, 0, 0, f_X6_fit) :=
  ⟨yX6_fit, cX6_fit, 3, some .int, rm_X6_fit, 2, ct_X6_fit D dT l, rfl, rfl, h1, h2, en_wd h 491 rfl rfl args, en_wd h 59 (by decide +kernel) rfl args, by decide, by decide, hl, ⟨RX6, TX6, 6, rfl, en_wd h 489 (by decide +kernel) rfl args, en_wd h 490 (by decide +kernel) rfl args, rfl⟩⟩
abbrev basq (s b : Int32) : Prop := (0 ≤ s ∧ s < 8) ∧ (b = -1 ∨ (0 ≤ b ∧ b < s))
def f_X6_base := en_f (σ := Int32 × Int32 × Sx) (fun x => [.ref 0, .int x.1, .int x.2.1]) (fun x => wX x.2.2) (fun _ => True) (fun x v w => (¬ basq x.1 x.2.1 ∧ ans v w (-2) x.2.2) ∨ (basq x.1 x.2.1 ∧ ans v w (x.2.2.2.2.1 20 (tn x.1)) (xa x.2.2 20 (upd (x.2.2.2.2.1 20) (tn x.1) x.2.1))))
def rm_X6_base : Room := { frames := 1, cells := 0, slots := 0, locals := 21 }
def t_X6_base : en_T := ((4, 0, 0), tb_X6_base, fl_X6, cn_X6, [(52, 2, 0, 0, 0, f_X6_isWithin)], [], 0, some .int)
set_option maxRecDepth 100000 in
theorem tB_X6_base (D : va_G) (dT : Nat → Nat) (l : Launch) : en_TB en_WD D vwCl dT l rm_X6_base t_X6_base RX6 "base" cX6_base := ⟨tk_X6_base, fun s args meth h hn => ⟨fo_X6 h args meth, co_X6 h args, List.forall_mem_cons.mpr ⟨mk_X6_isWithin (own := RX6) h (Nat.le_of_ble_eq_true rfl) (Nat.le_of_ble_eq_true rfl) (Or.inl (en_wd h 267 (by decide +kernel) rfl args)), fun _ h => absurd h List.not_mem_nil⟩, fun _ h => absurd h List.not_mem_nil, Or.inl rfl, en_arr h args⟩⟩
set_option maxHeartbeats 4000000 in
set_option maxRecDepth 100000 in
theorem bd_X6_base : en_B (σ := Int32 × Int32 × Sx) t_X6_base (fun x => [.ref 0, .int x.1, .int x.2.1]) (fun x => wX x.2.2) (fun _ => True) (fun x v w => (¬ basq x.1 x.2.1 ∧ ans v w (-2) x.2.2) ∨ (basq x.1 x.2.1 ∧ ans v w (x.2.2.2.2.1 20 (tn x.1)) (xa x.2.2 20 (upd (x.2.2.2.2.1 20) (tn x.1) x.2.1)))) := by
  rintro ⟨s, b, S⟩ - G hG OK ⟨run, sub⟩
  dsimp only at hG ⊢
  have tail : basq s b → OK 0 0 25 [(0, .ref 0), (1, .int s), (2, .int b)] [] (wX S) := by
    intro hq
    obtain ⟨i, hi, rfl⟩ := in_of (b := 8) (by decide) hq.1
    rw [show tn (nI i) = i from nI_clamp (by omega)] at hG
    refine run [] 60 _ _ _ _ _ _ ?_
    conv => whnf
    refine ⟨vp_in_nI (by omega) (by decide), ?_⟩
    rw [nI_clamp (by omega)]
    conv => whnf
    refine ⟨vp_in_nI (by omega) (by decide), ?_⟩
    rw [nI_clamp (by omega)]
    conv => whnf
    exact hG _ _ (Or.inr ⟨hq, rfl, rfl⟩)
  refine run [25] 60 _ _ _ _ _ _ ?_
  conv => whnf
  refine ⟨(s, 8, wX S), rfl, rfl, trivial, ?_⟩
  rintro _ _ ⟨rfl, rfl⟩
  conv => whnf
  refine bl_br (fun c1 => ?_) (fun c1 => ?_)
  · conv => whnf
    exact hG _ _ (Or.inl ⟨fun z => c1 z.1, rfl, rfl⟩)
  conv => whnf
  refine ⟨fun c2 => ?_, fun c2 => ?_⟩
  · conv => whnf
    exact tail ⟨c1, Or.inl c2⟩
  · conv => whnf
    refine ⟨(b, s, wX S), rfl, rfl, trivial, ?_⟩
    rintro _ _ ⟨rfl, rfl⟩
    conv => whnf
    refine bl_br2 (fun c3 => ?_) (fun c3 => ?_)
    · conv => whnf
      exact tail ⟨c1, Or.inr c3⟩
    · conv => whnf
      exact hG _ _ (Or.inl ⟨fun z => z.2.elim c2 c3, rfl, rfl⟩)
theorem ct_X6_base (D : va_G) (dT : Nat → Nat) (l : Launch) : en_CT en_WD D vwCl dT l yX6_base cX6_base 4 (some .int) rm_X6_base f_X6_base := en_met en_WD1 en_WD2 (by decide) rfl rfl (tB_X6_base D dT l) (en_f_ln (fun _ => Nat.le_of_ble_eq_true rfl)) (en_f_bd bd_X6_base)
set_option maxRecDepth 100000 in
theorem mk_X6_base {D : va_G} {dT : Nat → Nat} {l : Launch} {R : Room} {s : State} {args : Array Value} {own : String} {idx : Nat} (h : en_WD s) (h1 : rm_X6_base.frames + 1 ≤ R.frames) (h2 : 8 + (4 + 11) + rm_X6_base.locals ≤ R.locals) (hl : (Jvm.Cond.methodLink own idx yX6_base).before args s = true ∨ ∃ host, (Jvm.Cond.methodLinkNest own idx yX6_base host).before args s = true) : en_mok en_WD D vwCl dT l R s args own (idx, 3, 8, 0, 0, f_X6_base) :=
  ⟨yX6_base, cX6_base, 4, some .int, rm_X6_base, 2, ct_X6_base D dT l, rfl, rfl, h1, h2, en_wd h 503 rfl rfl args, en_wd h 59 (by decide +kernel) rfl args, by decide, by decide, hl, ⟨RX6, TX6, 6, rfl, en_wd h 501 (by decide +kernel) rfl args, en_wd h 502 (by decide +kernel) rfl args, rfl⟩⟩
theorem le_of {x : Int32} {b : Nat} (hb : b < 2 ^ 31) (h : 0 ≤ x ∧ x ≤ nI b) : ∃ j, j ≤ b ∧ x = nI j := nI_of2 (nI_toInt hb) (Int32.not_lt.mpr h.1) h.2
def f_X6_leaks := en_f (σ := Int32 × Nat × Sx) (fun x => [.ref 0, .int x.1]) (fun x => wX x.2.2) (fun x => x.2.1 ≤ 100 ∧ x.2.2.1 1 = nI x.2.1 ∧ zb (x.2.2.2.2.1 22) ∧ byok (x.2.2.2.2.1 20)) (fun x v w => ansD v w (if 0 ≤ x.1 ∧ x.1 ≤ 5 then (tks (-1) (0, x.2.2.1 7, x.2.2.1 8) (LKX x.2.2 x.2.1 (tn x.1) (x.2.2.1 0))).1 else -2) x.2.2)
def rm_X6_leaks : Room := { frames := 5, cells := 0, slots := 0, locals := 120 }
def t_X6_leaks : en_T := ((2, 0, 0), tb_X6_leaks, fl_X6, cn_X6, [(179, 1, 0, 0, 0, f_X6_isLeakKind), (182, 4, 3, 0, 0, f_X1_search)], [], 0, some .int)
set_option maxRecDepth 100000 in
theorem tB_X6_leaks (D : va_G) (dT : Nat → Nat) (l : Launch) : en_TB en_WD D vwCl dT l rm_X6_leaks t_X6_leaks RX6 "leaks" cX6_leaks := ⟨tk_X6_leaks, fun s args meth h hn => ⟨fo_X6 h args meth, co_X6 h args, List.forall_mem_cons.mpr ⟨mk_X6_isLeakKind (own := RX6) h (Nat.le_of_ble_eq_true rfl) (Nat.le_of_ble_eq_true rfl) (Or.inl (en_wd h 508 (by decide +kernel) rfl args)), List.forall_mem_cons.mpr ⟨mk_X1_search (own := RX6) h (Nat.le_of_ble_eq_true rfl) (Nat.le_of_ble_eq_true rfl) (Or.inl (en_wd h 511 (by decide +kernel) rfl args)), fun _ h => absurd h List.not_mem_nil⟩⟩, fun _ h => absurd h List.not_mem_nil, Or.inl rfl, en_arr h args⟩⟩
set_option maxHeartbeats 4000000 in
set_option maxRecDepth 100000 in
theorem bd_X6_leaks : en_B (σ := Int32 × Nat × Sx) t_X6_leaks (fun x => [.ref 0, .int x.1]) (fun x => wX x.2.2) (fun x => x.2.1 ≤ 100 ∧ x.2.2.1 1 = nI x.2.1 ∧ zb (x.2.2.2.2.1 22) ∧ byok (x.2.2.2.2.1 20)) (fun x v w => ansD v w (if 0 ≤ x.1 ∧ x.1 ≤ 5 then (tks (-1) (0, x.2.2.1 7, x.2.2.1 8) (LKX x.2.2 x.2.1 (tn x.1) (x.2.2.1 0))).1 else -2) x.2.2) := by
  rintro ⟨kd, n, S⟩ ⟨hn, h1, hz, hby⟩ G hG OK ⟨run, sub⟩
  dsimp only at hn h1 hz hby hG ⊢
  refine run [] 60 _ _ _ _ _ _ ?_
  conv => whnf
  refine ⟨(kd, wX S), rfl, rfl, trivial, ?_⟩
  rintro _ _ ⟨rfl, rfl⟩
  conv => whnf
  refine bl_br2 (fun c1 => ?_) (fun c1 => ?_)
  rotate_left
  · conv => whnf
    rw [if_neg c1] at hG
    exact hG _ _ ⟨rfl, S, rfl, dat_rf S⟩
  obtain ⟨j, hj, rfl⟩ := le_of (b := 5) (by decide) c1
  rw [if_pos c1, show tn (nI j) = j from nI_clamp (by omega)] at hG
  conv => whnf
  refine ⟨(n, j, S.1 0, -1, S), rfl, rfl, ⟨hn, h1, hj, hz, hby⟩, ?_⟩
  intro v u hvu
  obtain ⟨rfl, rfl⟩ : v = some (.int (tks (-1) (0, S.1 7, S.1 8) (LKX S n j (S.1 0))).1) ∧ u = wX (xf (xi S 5 (-1)) (tks (-1) (0, S.1 7, S.1 8) (LKX S n j (S.1 0)))) := hvu
  generalize tks (-1) (0, S.1 7, S.1 8) (LKX S n j (S.1 0)) = Y at hG ⊢
  conv => whnf
  exact hG _ _ ⟨rfl, _, rfl, dat_f⟩
theorem ct_X6_leaks (D : va_G) (dT : Nat → Nat) (l : Launch) : en_CT en_WD D vwCl dT l yX6_leaks cX6_leaks 2 (some .int) rm_X6_leaks f_X6_leaks := en_met en_WD1 en_WD2 (by decide) rfl rfl (tB_X6_leaks D dT l) (en_f_ln (fun _ => Nat.le_of_ble_eq_true rfl)) (en_f_bd bd_X6_leaks)
set_option maxRecDepth 100000 in
theorem mk_X6_leaks {D : va_G} {dT : Nat → Nat} {l : Launch} {R : Room} {s : State} {args : Array Value} {own : String} {idx : Nat} (h : en_WD s) (h1 : rm_X6_leaks.frames + 1 ≤ R.frames) (h2 : 8 + (2 + 11) + rm_X6_leaks.locals ≤ R.locals) (hl : (Jvm.Cond.methodLink own idx yX6_leaks).before args s = true ∨ ∃ host, (Jvm.Cond.methodLinkNest own idx yX6_leaks host).before args s = true) : en_mok en_WD D vwCl dT l R s args own (idx, 2, 8, 0, 0, f_X6_leaks) :=
  ⟨yX6_leaks, cX6_leaks, 2, some .int, rm_X6_leaks, 1, ct_X6_leaks D dT l, rfl, rfl, h1, h2, en_wd h 507 rfl rfl args, en_wd h 59 (by decide +kernel) rfl args, by decide, by decide, hl, ⟨RX6, TX6, 6, rfl, en_wd h 505 (by decide +kernel) rfl args, en_wd h 506 (by decide +kernel) rfl args, rfl⟩⟩
abbrev lkq (kd i wh : Int32) : Prop := (0 ≤ kd ∧ kd ≤ 5) ∧ 0 ≤ i ∧ (wh = 0 ∨ wh = 1)
def f_X6_leak := en_f (σ := Int32 × Int32 × Int32 × Nat × Sx) (fun x => [.ref 0, .int x.1, .int x.2.1, .int x.2.2.1]) (fun x => wX x.2.2.2.2) (fun x => x.2.2.2.1 ≤ 100 ∧ x.2.2.2.2.1 1 = nI x.2.2.2.1 ∧ zb (x.2.2.2.2.2.2.1 22) ∧ byok (x.2.2.2.2.2.2.1 20)) (fun x v w => ansD v w (if lkq x.1 x.2.1 x.2.2.1 then (if x.2.1 < (tks x.2.1 (0, x.2.2.2.2.1 7, x.2.2.2.2.1 8) (LKX x.2.2.2.2 x.2.2.2.1 (tn x.1) (x.2.2.2.2.1 0))).1 then (if x.2.2.1 = 0 then (tks x.2.1 (0, x.2.2.2.2.1 7, x.2.2.2.2.1 8) (LKX x.2.2.2.2 x.2.2.2.1 (tn x.1) (x.2.2.2.2.1 0))).2.1 else (tks x.2.1 (0, x.2.2.2.2.1 7, x.2.2.2.2.1 8) (LKX x.2.2.2.2 x.2.2.2.1 (tn x.1) (x.2.2.2.2.1 0))).2.2) else -2) else -2) x.2.2.2.2)
def rm_X6_leak : Room := { frames := 5, cells := 0, slots := 0, locals := 120 }
def t_X6_leak : en_T := ((4, 0, 0), tb_X6_leak, fl_X6, cn_X6, [(179, 1, 0, 0, 0, f_X6_isLeakKind), (182, 4, 3, 0, 0, f_X1_search)], [], 0, some .int)
set_option maxRecDepth 100000 in
theorem tB_X6_leak (D : va_G) (dT : Nat → Nat) (l : Launch) : en_TB en_WD D vwCl dT l rm_X6_leak t_X6_leak RX6 "leak" cX6_leak := ⟨tk_X6_leak, fun s args meth h hn => ⟨fo_X6 h args meth, co_X6 h args, List.forall_mem_cons.mpr ⟨mk_X6_isLeakKind (own := RX6) h (Nat.le_of_ble_eq_true rfl) (Nat.le_of_ble_eq_true rfl) (Or.inl (en_wd h 508 (by decide +kernel) rfl args)), List.forall_mem_cons.mpr ⟨mk_X1_search (own := RX6) h (Nat.le_of_ble_eq_true rfl) (Nat.le_of_ble_eq_true rfl) (Or.inl (en_wd h 511 (by decide +kernel) rfl args)), fun _ h => absurd h List.not_mem_nil⟩⟩, fun _ h => absurd h List.not_mem_nil, Or.inl rfl, en_arr h args⟩⟩
set_option maxHeartbeats 4000000 in
set_option maxRecDepth 100000 in
theorem bd_X6_leak : en_B (σ := Int32 × Int32 × Int32 × Nat × Sx) t_X6_leak (fun x => [.ref 0, .int x.1, .int x.2.1, .int x.2.2.1]) (fun x => wX x.2.2.2.2) (fun x => x.2.2.2.1 ≤ 100 ∧ x.2.2.2.2.1 1 = nI x.2.2.2.1 ∧ zb (x.2.2.2.2.2.2.1 22) ∧ byok (x.2.2.2.2.2.2.1 20)) (fun x v w => ansD v w (if lkq x.1 x.2.1 x.2.2.1 then (if x.2.1 < (tks x.2.1 (0, x.2.2.2.2.1 7, x.2.2.2.2.1 8) (LKX x.2.2.2.2 x.2.2.2.1 (tn x.1) (x.2.2.2.2.1 0))).1 then (if x.2.2.1 = 0 then (tks x.2.1 (0, x.2.2.2.2.1 7, x.2.2.2.2.1 8) (LKX x.2.2.2.2 x.2.2.2.1 (tn x.1) (x.2.2.2.2.1 0))).2.1 else (tks x.2.1 (0, x.2.2.2.2.1 7, x.2.2.2.2.1 8) (LKX x.2.2.2.2 x.2.2.2.1 (tn x.1) (x.2.2.2.2.1 0))).2.2) else -2) else -2) x.2.2.2.2) := by
  rintro ⟨kd, i, wh, n, S⟩ ⟨hn, h1, hz, hby⟩ G hG OK ⟨run, sub⟩
  dsimp only at hn h1 hz hby hG ⊢
  have tail : lkq kd i wh → OK 0 0 23 [(0, .ref 0), (1, .int kd), (2, .int i), (3, .int wh)] [] (wX S) := by
    intro hq
    obtain ⟨j, hj, rfl⟩ := le_of (b := 5) (by decide) hq.1
    rw [if_pos hq, show tn (nI j) = j from nI_clamp (by omega)] at hG
    refine run [] 60 _ _ _ _ _ _ ?_
    conv => whnf
    refine ⟨(n, j, S.1 0, i, S), rfl, rfl, ⟨hn, h1, hj, hz, hby⟩, ?_⟩
    intro v u hvu
    obtain ⟨rfl, rfl⟩ : v = some (.int (tks i (0, S.1 7, S.1 8) (LKX S n j (S.1 0))).1) ∧ u = wX (xf (xi S 5 i) (tks i (0, S.1 7, S.1 8) (LKX S n j (S.1 0)))) := hvu
    generalize tks i (0, S.1 7, S.1 8) (LKX S n j (S.1 0)) = Y at hG ⊢
    conv => whnf
    refine ⟨fun c => ?_, fun c => ?_⟩
    · rw [if_pos c] at hG
      conv => whnf
      refine ⟨fun c2 => ?_, fun c2 => ?_⟩
      · rw [if_neg c2] at hG
        conv => whnf
        exact hG _ _ ⟨rfl, _, rfl, dat_f⟩
      · rw [if_pos c2] at hG
        conv => whnf
        exact hG _ _ ⟨rfl, _, rfl, dat_f⟩
    · rw [if_neg c] at hG
      conv => whnf
      exact hG _ _ ⟨rfl, _, rfl, dat_f⟩
  refine run [23] 60 _ _ _ _ _ _ ?_
  conv => whnf
  refine ⟨(kd, wX S), rfl, rfl, trivial, ?_⟩
  rintro _ _ ⟨rfl, rfl⟩
  conv => whnf
  refine bl_br (fun c1 => ?_) (fun c1 => ?_)
  · conv => whnf
    rw [if_neg (fun z => c1 z.1)] at hG
    exact hG _ _ ⟨rfl, S, rfl, dat_rf S⟩
  conv => whnf
  refine ⟨fun c2 => ?_, fun c2 => ?_⟩
  · conv => whnf
    rw [if_neg (fun z => absurd c2 (Int32.not_lt.mpr z.2.1))] at hG
    exact hG _ _ ⟨rfl, S, rfl, dat_rf S⟩
  conv => whnf
  refine ⟨fun c3 => ?_, fun c3 => ?_⟩
  · conv => whnf
    exact tail ⟨c1, Int32.not_lt.mp c2, Or.inl c3⟩
  conv => whnf
  refine ⟨fun c4 => ?_, fun c4 => ?_⟩
  · conv => whnf
    exact tail ⟨c1, Int32.not_lt.mp c2, Or.inr c4⟩
  · conv => whnf
    rw [if_neg (fun z => z.2.2.elim c3 c4)] at hG
    exact hG _ _ ⟨rfl, S, rfl, dat_rf S⟩
theorem ct_X6_leak (D : va_G) (dT : Nat → Nat) (l : Launch) : en_CT en_WD D vwCl dT l yX6_leak cX6_leak 4 (some .int) rm_X6_leak f_X6_leak := en_met en_WD1 en_WD2 (by decide) rfl rfl (tB_X6_leak D dT l) (en_f_ln (fun _ => Nat.le_of_ble_eq_true rfl)) (en_f_bd bd_X6_leak)
set_option maxRecDepth 100000 in
theorem mk_X6_leak {D : va_G} {dT : Nat → Nat} {l : Launch} {R : Room} {s : State} {args : Array Value} {own : String} {idx : Nat} (h : en_WD s) (h1 : rm_X6_leak.frames + 1 ≤ R.frames) (h2 : 8 + (4 + 11) + rm_X6_leak.locals ≤ R.locals) (hl : (Jvm.Cond.methodLink own idx yX6_leak).before args s = true ∨ ∃ host, (Jvm.Cond.methodLinkNest own idx yX6_leak host).before args s = true) : en_mok en_WD D vwCl dT l R s args own (idx, 4, 8, 0, 0, f_X6_leak) :=
  ⟨yX6_leak, cX6_leak, 4, some .int, rm_X6_leak, 3, ct_X6_leak D dT l, rfl, rfl, h1, h2, en_wd h 594 rfl rfl args, en_wd h 59 (by decide +kernel) rfl args, by decide, by decide, hl, ⟨RX6, TX6, 6, rfl, en_wd h 592 (by decide +kernel) rfl args, en_wd h 593 (by decide +kernel) rfl args, rfl⟩⟩
def f_X6_meets := en_f (σ := Nat × Sx) (fun _ => [.ref 0]) (fun x => wX x.2) (fun x => x.1 ≤ 100 ∧ x.2.1 1 = nI x.1) (fun x v w => ansD v w (nI (mts (x.2.2.2.2 6) (x.2.2.2.2 7) (x.2.2.2.1 5) x.1)) x.2)
def rm_X6_meets : Room := { frames := 4, cells := 0, slots := 0, locals := 91 }
def t_X6_meets : en_T := ((1, 0, 0), tb_X6_meets, fl_X6, cn_X6, [(191, 1, 4, 0, 0, f_X2_countMeetings)], [], 0, some .int)
set_option maxRecDepth 100000 in
theorem tB_X6_meets (D : va_G) (dT : Nat → Nat) (l : Launch) : en_TB en_WD D vwCl dT l rm_X6_meets t_X6_meets RX6 "meets" cX6_meets := ⟨tk_X6_meets, fun s args meth h hn => ⟨fo_X6 h args meth, co_X6 h args, List.forall_mem_cons.mpr ⟨mk_X2_countMeetings (own := RX6) h (Nat.le_of_ble_eq_true rfl) (Nat.le_of_ble_eq_true rfl) (Or.inl (en_wd h 599 (by decide +kernel) rfl args)), fun _ h => absurd h List.not_mem_nil⟩, fun _ h => absurd h List.not_mem_nil, Or.inl rfl, en_arr h args⟩⟩
set_option maxHeartbeats 4000000 in
set_option maxRecDepth 100000 in
theorem bd_X6_meets : en_B (σ := Nat × Sx) t_X6_meets (fun _ => [.ref 0]) (fun x => wX x.2) (fun x => x.1 ≤ 100 ∧ x.2.1 1 = nI x.1) (fun x v w => ansD v w (nI (mts (x.2.2.2.2 6) (x.2.2.2.2 7) (x.2.2.2.1 5) x.1)) x.2) := by
  rintro ⟨n, S⟩ ⟨hn, h1⟩ G hG OK ⟨run, sub⟩
  dsimp only at hn h1 hG ⊢
  refine run [] 60 _ _ _ _ _ _ ?_
  conv => whnf
  refine ⟨(n, S), rfl, rfl, ⟨hn, h1⟩, ?_⟩
  rintro v u ⟨hv0, f, hu⟩
  obtain rfl : v = some (.int (nI (mts (S.2.2.2 6) (S.2.2.2 7) (S.2.2.1 5) n))) := hv0
  obtain rfl : u = wX (xa S 8 f) := hu
  conv => whnf
  exact hG _ _ ⟨rfl, xa S 8 f, rfl, fun _ _ => rfl, ⟨rfl, rfl, rfl, rfl, rfl, rfl, rfl, rfl⟩, rfl⟩
theorem ct_X6_meets (D : va_G) (dT : Nat → Nat) (l : Launch) : en_CT en_WD D vwCl dT l yX6_meets cX6_meets 1 (some .int) rm_X6_meets f_X6_meets := en_met en_WD1 en_WD2 (by decide) rfl rfl (tB_X6_meets D dT l) (en_f_ln (fun _ => Nat.le_of_ble_eq_true rfl)) (en_f_bd bd_X6_meets)
set_option maxRecDepth 100000 in
theorem mk_X6_meets {D : va_G} {dT : Nat → Nat} {l : Launch} {R : Room} {s : State} {args : Array Value} {own : String} {idx : Nat} (h : en_WD s) (h1 : rm_X6_meets.frames + 1 ≤ R.frames) (h2 : 8 + (1 + 11) + rm_X6_meets.locals ≤ R.locals) (hl : (Jvm.Cond.methodLink own idx yX6_meets).before args s = true ∨ ∃ host, (Jvm.Cond.methodLinkNest own idx yX6_meets host).before args s = true) : en_mok en_WD D vwCl dT l R s args own (idx, 1, 8, 0, 0, f_X6_meets) :=
  ⟨yX6_meets, cX6_meets, 1, some .int, rm_X6_meets, 0, ct_X6_meets D dT l, rfl, rfl, h1, h2, en_wd h 598 rfl rfl args, en_wd h 59 (by decide +kernel) rfl args, by decide, by decide, hl, ⟨RX6, TX6, 6, rfl, en_wd h 596 (by decide +kernel) rfl args, en_wd h 597 (by decide +kernel) rfl args, rfl⟩⟩
def f_X6_told := en_f (σ := Int32 × Nat × Sx) (fun x => [.ref 0, .int x.1]) (fun x => wX x.2.2) (fun x => x.2.1 ≤ 100 ∧ x.2.2.1 1 = nI x.2.1) (fun x v w => ans v w (if x.1 = 0 then nI x.2.1 else if x.1 = 1 then x.2.2.1 2 else if x.1 = 2 then x.2.2.1 3 else if x.1 = 3 then nI (ct (fun r => x.2.2.2.2.1 5 r ≠ -1) x.2.1) else if x.1 = 4 then x.2.2.1 0 else -2) x.2.2)
def rm_X6_told : Room := { frames := 2, cells := 0, slots := 0, locals := 43 }
def t_X6_told : en_T := ((2, 0, 0), tb_X6_told, fl_X6, cn_X6, [(112, 1, 4, 0, 0, f_X2_countPlaced)], [], 0, some .int)
set_option maxRecDepth 100000 in
theorem tB_X6_told (D : va_G) (dT : Nat → Nat) (l : Launch) : en_TB en_WD D vwCl dT l rm_X6_told t_X6_told RX6 "told" cX6_told := ⟨tk_X6_told, fun s args meth h hn => ⟨fo_X6 h args meth, co_X6 h args, List.forall_mem_cons.mpr ⟨mk_X2_countPlaced (own := RX6) h (Nat.le_of_ble_eq_true rfl) (Nat.le_of_ble_eq_true rfl) (Or.inl (en_wd h 413 (by decide +kernel) rfl args)), fun _ h => absurd h List.not_mem_nil⟩, fun _ h => absurd h List.not_mem_nil, Or.inl rfl, en_arr h args⟩⟩
set_option maxHeartbeats 4000000 in
set_option maxRecDepth 100000 in
theorem bd_X6_told : en_B (σ := Int32 × Nat × Sx) t_X6_told (fun x => [.ref 0, .int x.1]) (fun x => wX x.2.2) (fun x => x.2.1 ≤ 100 ∧ x.2.2.1 1 = nI x.2.1) (fun x v w => ans v w (if x.1 = 0 then nI x.2.1 else if x.1 = 1 then x.2.2.1 2 else if x.1 = 2 then x.2.2.1 3 else if x.1 = 3 then nI (ct (fun r => x.2.2.2.2.1 5 r ≠ -1) x.2.1) else if x.1 = 4 then x.2.2.1 0 else -2) x.2.2) := by
  rintro ⟨x, n, S⟩ ⟨hn, h1⟩ G hG OK ⟨run, sub⟩
  dsimp only at hn h1 hG ⊢
  have inj : ∀ y : Int32, x.toInt = y.toInt → x = y := fun y h => Int32.toInt_inj.mp h
  refine run [] 60 _ _ _ _ _ _ ?_
  conv => whnf
  refine ⟨fun h => ?_, fun h => ?_, fun h => ?_, fun h => ?_, fun h => ?_, fun h => ?_, trivial⟩
  · have hne : ∀ y : Int32, 0 ≤ y.toInt → y.toInt ≤ 4 → x ≠ y := fun y a b e => by rw [e] at h; omega
    rw [if_neg (hne 0 (by decide) (by decide)), if_neg (hne 1 (by decide) (by decide)), if_neg (hne 2 (by decide) (by decide)), if_neg (hne 3 (by decide) (by decide)), if_neg (hne 4 (by decide) (by decide))] at hG
    conv => whnf
    exact hG _ _ ⟨rfl, rfl⟩
  · obtain rfl := inj 0 h
    rw [if_pos rfl, ← h1] at hG
    conv => whnf
    exact hG _ _ ⟨rfl, rfl⟩
  · obtain rfl := inj 1 h
    rw [if_neg (by decide), if_pos rfl] at hG
    conv => whnf
    exact hG _ _ ⟨rfl, rfl⟩
  · obtain rfl := inj 2 h
    rw [if_neg (by decide), if_neg (by decide), if_pos rfl] at hG
    conv => whnf
    exact hG _ _ ⟨rfl, rfl⟩
  · obtain rfl := inj 3 h
    rw [if_neg (by decide), if_neg (by decide), if_neg (by decide), if_pos rfl] at hG
    conv => whnf
    refine ⟨(n, S), rfl, rfl, ⟨hn, h1⟩, ?_⟩
    rintro _ _ ⟨rfl, rfl⟩
    conv => whnf
    exact hG _ _ ⟨rfl, rfl⟩
  · obtain rfl := inj 4 h
    rw [if_neg (by decide), if_neg (by decide), if_neg (by decide), if_neg (by decide), if_pos rfl] at hG
    conv => whnf
    exact hG _ _ ⟨rfl, rfl⟩
theorem ct_X6_told (D : va_G) (dT : Nat → Nat) (l : Launch) : en_CT en_WD D vwCl dT l yX6_told cX6_told 2 (some .int) rm_X6_told f_X6_told := en_met en_WD1 en_WD2 (by decide) rfl rfl (tB_X6_told D dT l) (en_f_ln (fun _ => Nat.le_of_ble_eq_true rfl)) (en_f_bd bd_X6_told)
set_option maxRecDepth 100000 in
theorem mk_X6_told {D : va_G} {dT : Nat → Nat} {l : Launch} {R : Room} {s : State} {args : Array Value} {own : String} {idx : Nat} (h : en_WD s) (h1 : rm_X6_told.frames + 1 ≤ R.frames) (h2 : 8 + (2 + 11) + rm_X6_told.locals ≤ R.locals) (hl : (Jvm.Cond.methodLink own idx yX6_told).before args s = true ∨ ∃ host, (Jvm.Cond.methodLinkNest own idx yX6_told host).before args s = true) : en_mok en_WD D vwCl dT l R s args own (idx, 2, 8, 0, 0, f_X6_told) :=
  ⟨yX6_told, cX6_told, 2, some .int, rm_X6_told, 1, ct_X6_told D dT l, rfl, rfl, h1, h2, en_wd h 626 rfl rfl args, en_wd h 59 (by decide +kernel) rfl args, by decide, by decide, hl, ⟨RX6, TX6, 6, rfl, en_wd h 624 (by decide +kernel) rfl args, en_wd h 625 (by decide +kernel) rfl args, rfl⟩⟩
