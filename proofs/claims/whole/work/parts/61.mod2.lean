/-! the reference: word, near, base, fit, of, many -/
def f_X7_word := en_f (σ := Int32 × Int32 × Int32 × Nat × Sx) (fun x => [.ref 0, .int x.1, .int x.2.1, .int x.2.2.1]) (fun x => wM x.2.2.2.2) (fun x => x.2.2.2.1 ≤ 100 ∧ x.2.2.2.2.1 0 = nI x.2.2.2.1) (fun x v w => (¬ (inr_ x.1 x.2.2.2.1 ∧ inr_ x.2.1 64) ∧ ansM v w (-2) (xi x.2.2.2.2 4 0)) ∨ ((inr_ x.1 x.2.2.2.1 ∧ inr_ x.2.1 64) ∧ ansM v w (bcn (nwd (x.2.2.2.2.2.2.2 5 (tn x.1)) x.2.1 x.2.2.1) 64) (xl (xi x.2.2.2.2 4 0) 5 (vp_updL (x.2.2.2.2.2.2.2 5) (tn x.1) (nwd (x.2.2.2.2.2.2.2 5 (tn x.1)) x.2.1 x.2.2.1)))))
def rm_X7_word : Room := { frames := 2, cells := 0, slots := 0, locals := 43 }
def t_X7_word : en_T := ((6, 0, 0), tb_X7_word, fl_X7, cn_X7, [(75, 2, 9, 0, 0, f_X7_isRow), (70, 3, 0, 0, 0, f_X7_in), (81, 1, 0, 0, 0, f_X7_bits)], [], 0, some .int)
set_option maxRecDepth 100000 in
theorem tB_X7_word (D : va_G) (dT : Nat → Nat) (l : Launch) : en_TB en_WD D vwCl dT l rm_X7_word t_X7_word RX7 "word" cX7_word := ⟨tk_X7_word, fun s args meth h hn => ⟨fo_X7 h args meth, co_X7 h args, List.forall_mem_cons.mpr ⟨mk_X7_isRow (own := RX7) h (Nat.le_of_ble_eq_true rfl) (Nat.le_of_ble_eq_true rfl) (Or.inl (en_wd h 836 (by decide +kernel) rfl args)), List.forall_mem_cons.mpr ⟨mk_X7_in (own := RX7) h (Nat.le_of_ble_eq_true rfl) (Nat.le_of_ble_eq_true rfl) (Or.inl (en_wd h 828 (by decide +kernel) rfl args)), List.forall_mem_cons.mpr ⟨mk_X7_bits (own := RX7) h (Nat.le_of_ble_eq_true rfl) (Nat.le_of_ble_eq_true rfl) (Or.inl (en_wd h 845 (by decide +kernel) rfl args)), fun _ h => absurd h List.not_mem_nil⟩⟩⟩, fun _ h => absurd h List.not_mem_nil, Or.inl rfl, en_arr h args⟩⟩
set_option maxHeartbeats 4000000 in
set_option maxRecDepth 100000 in
theorem bd_X7_word : en_B (σ := Int32 × Int32 × Int32 × Nat × Sx) t_X7_word (fun x => [.ref 0, .int x.1, .int x.2.1, .int x.2.2.1]) (fun x => wM x.2.2.2.2) (fun x => x.2.2.2.1 ≤ 100 ∧ x.2.2.2.2.1 0 = nI x.2.2.2.1) (fun x v w => (¬ (inr_ x.1 x.2.2.2.1 ∧ inr_ x.2.1 64) ∧ ansM v w (-2) (xi x.2.2.2.2 4 0)) ∨ ((inr_ x.1 x.2.2.2.1 ∧ inr_ x.2.1 64) ∧ ansM v w (bcn (nwd (x.2.2.2.2.2.2.2 5 (tn x.1)) x.2.1 x.2.2.1) 64) (xl (xi x.2.2.2.2 4 0) 5 (vp_updL (x.2.2.2.2.2.2.2 5) (tn x.1) (nwd (x.2.2.2.2.2.2.2 5 (tn x.1)) x.2.1 x.2.2.1))))) := by
  rintro ⟨r, c, y, n, S⟩ ⟨hn, h1⟩ G hG OK ⟨run, sub⟩
  dsimp only at hn h1 hG ⊢
  refine run [] 80 _ _ _ _ _ _ ?_
  conv => whnf
  refine ⟨(r, n, xi S 4 0), rfl, rfl, ⟨hn, h1⟩, ?_⟩
  rintro _ _ ⟨rfl, rfl⟩
  conv => whnf
  refine bl_br (fun c1 => ?_) (fun c1 => ?_)
  · conv => whnf
    exact hG _ _ (Or.inl ⟨fun z => c1 z.1, rfl, rfl⟩)
  have c1 : inr_ r n := c1
  conv => whnf
  refine ⟨(c, 0, 63, wM (xi S 4 0)), rfl, rfl, trivial, ?_⟩
  rintro _ _ ⟨rfl, rfl⟩
  conv => whnf
  refine bl_br2 (fun c2 => ?_) (fun c2 => ?_)
  rotate_left
  · conv => whnf
    exact hG _ _ (Or.inl ⟨fun z => c2 ⟨z.2.1, (le_lt (b := 63) (by decide)).mpr z.2.2⟩, rfl, rfl⟩)
  have c2 : inr_ c 64 := ⟨c2.1, (le_lt (b := 63) (by decide)).mp c2.2⟩
  obtain ⟨i, hi, rfl⟩ := in_of (by omega) c1
  have hti : tn (nI i) = i := nI_clamp (by omega)
  rw [hti] at hG
  unfold nwd at hG
  conv => whnf
  refine ⟨fun hy => ?_, fun hy => ?_⟩
  · have hy : y = 0 := hy
    rw [if_pos hy] at hG
    conv => whnf
    refine ⟨vp_in_nI (by omega) (by decide), ?_⟩
    rw [nI_clamp (by omega)]
    conv => whnf
    refine ⟨vp_in_nI (by omega) (by decide), ?_⟩
    conv => whnf
    refine ⟨vp_in_nI (by omega) (by decide), ?_⟩
    rw [nI_clamp (by omega)]
    conv => whnf
    refine ⟨(vp_updL (S.2.2.2 5) i (S.2.2.2 5 i &&& ((1 <<< (c.toInt64 &&& 63)) ^^^ (-1))) i, wM (xl (xi S 4 0) 5 (vp_updL (S.2.2.2 5) i (S.2.2.2 5 i &&& ((1 <<< (c.toInt64 &&& 63)) ^^^ (-1)))))), rfl, rfl, trivial, ?_⟩
    intro v u hvu
    obtain ⟨rfl, rfl⟩ : v = some (.int (bcn (S.2.2.2 5 i &&& ((1 <<< (c.toInt64 &&& 63)) ^^^ (-1))) 64)) ∧ u = wM (xl (xi S 4 0) 5 (vp_updL (S.2.2.2 5) i (S.2.2.2 5 i &&& ((1 <<< (c.toInt64 &&& 63)) ^^^ (-1))))) := ⟨hvu.1.trans (by show some (Value.int (bcn (vp_updL _ i _ i) 64)) = _; rw [pk_uLs]), hvu.2⟩
    generalize bcn (S.2.2.2 5 i &&& ((1 <<< (c.toInt64 &&& 63)) ^^^ (-1))) 64 = B at hG ⊢
    conv => whnf
    exact hG _ _ (Or.inr ⟨⟨c1, c2⟩, rfl, rfl⟩)
  · have hy : ¬ y = 0 := hy
    rw [if_neg hy] at hG
    conv => whnf
    refine ⟨vp_in_nI (by omega) (by decide), ?_⟩
    rw [nI_clamp (by omega)]
    conv => whnf
    refine ⟨vp_in_nI (by omega) (by decide), ?_⟩
    conv => whnf
    refine ⟨vp_in_nI (by omega) (by decide), ?_⟩
    rw [nI_clamp (by omega)]
    conv => whnf
    refine ⟨(vp_updL (S.2.2.2 5) i (S.2.2.2 5 i ||| (1 <<< (c.toInt64 &&& 63))) i, wM (xl (xi S 4 0) 5 (vp_updL (S.2.2.2 5) i (S.2.2.2 5 i ||| (1 <<< (c.toInt64 &&& 63)))))), rfl, rfl, trivial, ?_⟩
    intro v u hvu
    obtain ⟨rfl, rfl⟩ : v = some (.int (bcn (S.2.2.2 5 i ||| (1 <<< (c.toInt64 &&& 63))) 64)) ∧ u = wM (xl (xi S 4 0) 5 (vp_updL (S.2.2.2 5) i (S.2.2.2 5 i ||| (1 <<< (c.toInt64 &&& 63))))) := ⟨hvu.1.trans (by show some (Value.int (bcn (vp_updL _ i _ i) 64)) = _; rw [pk_uLs]), hvu.2⟩
    generalize bcn (S.2.2.2 5 i ||| (1 <<< (c.toInt64 &&& 63))) 64 = B at hG ⊢
    conv => whnf
    exact hG _ _ (Or.inr ⟨⟨c1, c2⟩, rfl, rfl⟩)
theorem ct_X7_word (D : va_G) (dT : Nat → Nat) (l : Launch) : en_CT en_WD D vwCl dT l yX7_word cX7_word 6 (some .int) rm_X7_word f_X7_word := en_met en_WD1 en_WD2 (by decide) rfl rfl (tB_X7_word D dT l) (en_f_ln (fun _ => Nat.le_of_ble_eq_true rfl)) (en_f_bd bd_X7_word)
set_option maxRecDepth 100000 in
theorem mk_X7_word {D : va_G} {dT : Nat → Nat} {l : Launch} {R : Room} {s : State} {args : Array Value} {own : String} {idx : Nat} (h : en_WD s) (h1 : rm_X7_word.frames + 1 ≤ R.frames) (h2 : 8 + (6 + 11) + rm_X7_word.locals ≤ R.locals) (hl : (Jvm.Cond.methodLink own idx yX7_word).before args s = true ∨ ∃ host, (Jvm.Cond.methodLinkNest own idx yX7_word host).before args s = true) : en_mok en_WD D vwCl dT l R s args own (idx, 4, 9, 0, 0, f_X7_word) :=
  ⟨yX7_word, cX7_word, 6, some .int, rm_X7_word, 3, ct_X7_word D dT l, rfl, rfl, h1, h2, en_wd h 843 rfl rfl args, en_wd h 66 (by decide +kernel) rfl args, by decide, by decide, hl, ⟨RX7, TX7, 24, rfl, en_wd h 841 (by decide +kernel) rfl args, en_wd h 842 (by decide +kernel) rfl args, rfl⟩⟩
def f_X7_near := en_f (σ := Int32 × Sx) (fun x => [.ref 0, .int x.1]) (fun x => wM x.2) (fun _ => True) (fun x v w => (¬ (1 ≤ x.1 ∧ x.1 ≤ 100) ∧ ansM v w (-2) (xi x.2 4 0)) ∨ ((1 ≤ x.1 ∧ x.1 ≤ 100) ∧ ansM v w (x.2.1 3) (xi (xi x.2 4 0) 3 x.1)))
def rm_X7_near : Room := { frames := 1, cells := 0, slots := 0, locals := 22 }
def t_X7_near : en_T := ((3, 0, 0), tb_X7_near, fl_X7, cn_X7, [(70, 3, 0, 0, 0, f_X7_in)], [], 0, some .int)
set_option maxRecDepth 100000 in
theorem tB_X7_near (D : va_G) (dT : Nat → Nat) (l : Launch) : en_TB en_WD D vwCl dT l rm_X7_near t_X7_near RX7 "near" cX7_near := ⟨tk_X7_near, fun s args meth h hn => ⟨fo_X7 h args meth, co_X7 h args, List.forall_mem_cons.mpr ⟨mk_X7_in (own := RX7) h (Nat.le_of_ble_eq_true rfl) (Nat.le_of_ble_eq_true rfl) (Or.inl (en_wd h 828 (by decide +kernel) rfl args)), fun _ h => absurd h List.not_mem_nil⟩, fun _ h => absurd h List.not_mem_nil, Or.inl rfl, en_arr h args⟩⟩
set_option maxHeartbeats 4000000 in
set_option maxRecDepth 100000 in
theorem bd_X7_near : en_B (σ := Int32 × Sx) t_X7_near (fun x => [.ref 0, .int x.1]) (fun x => wM x.2) (fun _ => True) (fun x v w => (¬ (1 ≤ x.1 ∧ x.1 ≤ 100) ∧ ansM v w (-2) (xi x.2 4 0)) ∨ ((1 ≤ x.1 ∧ x.1 ≤ 100) ∧ ansM v w (x.2.1 3) (xi (xi x.2 4 0) 3 x.1))) := by
  rintro ⟨p, S⟩ - G hG OK ⟨run, sub⟩
  dsimp only at hG ⊢
  refine run [] 60 _ _ _ _ _ _ ?_
  conv => whnf
  refine ⟨(p, 1, 100, wM (xi S 4 0)), rfl, rfl, trivial, ?_⟩
  rintro _ _ ⟨rfl, rfl⟩
  conv => whnf
  refine bl_br2 (fun c1 => ?_) (fun c1 => ?_)
  · conv => whnf
    exact hG _ _ (Or.inr ⟨c1, rfl, rfl⟩)
  · conv => whnf
    exact hG _ _ (Or.inl ⟨c1, rfl, rfl⟩)
theorem ct_X7_near (D : va_G) (dT : Nat → Nat) (l : Launch) : en_CT en_WD D vwCl dT l yX7_near cX7_near 3 (some .int) rm_X7_near f_X7_near := en_met en_WD1 en_WD2 (by decide) rfl rfl (tB_X7_near D dT l) (en_f_ln (fun _ => Nat.le_of_ble_eq_true rfl)) (en_f_bd bd_X7_near)
set_option maxRecDepth 100000 in
theorem mk_X7_near {D : va_G} {dT : Nat → Nat} {l : Launch} {R : Room} {s : State} {args : Array Value} {own : String} {idx : Nat} (h : en_WD s) (h1 : rm_X7_near.frames + 1 ≤ R.frames) (h2 : 8 + (3 + 11) + rm_X7_near.locals ≤ R.locals) (hl : (Jvm.Cond.methodLink own idx yX7_near).before args s = true ∨ ∃ host, (Jvm.Cond.methodLinkNest own idx yX7_near host).before args s = true) : en_mok en_WD D vwCl dT l R s args own (idx, 2, 9, 0, 0, f_X7_near) :=
  ⟨yX7_near, cX7_near, 3, some .int, rm_X7_near, 1, ct_X7_near D dT l, rfl, rfl, h1, h2, en_wd h 938 rfl rfl args, en_wd h 66 (by decide +kernel) rfl args, by decide, by decide, hl, ⟨RX7, TX7, 24, rfl, en_wd h 936 (by decide +kernel) rfl args, en_wd h 937 (by decide +kernel) rfl args, rfl⟩⟩
theorem by_eq {b s : Int32} (hs : 0 ≤ s ∧ s < 8) : (-1 ≤ b ∧ b ≤ s - 1) ↔ (b = -1 ∨ (0 ≤ b ∧ b < s)) := by
  obtain ⟨i, hi, rfl⟩ := in_of (b := 8) (by decide) hs
  rw [le_pr (by omega)]
  constructor
  · rintro ⟨h1, h2⟩
    by_cases h0 : 0 ≤ b
    · exact Or.inr ⟨h0, h2⟩
    · left
      apply Int32.toInt_inj.mp
      rw [Int32.le_iff_toInt_le] at h1 h0
      have e1 : (-1 : Int32).toInt = -1 := by decide
      have e0 : (0 : Int32).toInt = 0 := by decide
      omega
  · rintro (rfl | ⟨h1, h2⟩)
    · refine ⟨Int32.le_refl _, ?_⟩
      rw [Int32.lt_iff_toInt_lt, nI_toInt (by omega)]
      have e1 : (-1 : Int32).toInt = -1 := by decide
      omega
    · exact ⟨Int32.le_trans (by decide) h1, h2⟩
def f_X7_base := en_f (σ := Int32 × Int32 × Sx) (fun x => [.ref 0, .int x.1, .int x.2.1]) (fun x => wM x.2.2) (fun _ => True) (fun x v w => (¬ basq x.1 x.2.1 ∧ ansM v w (-2) (xi x.2.2 4 0)) ∨ (basq x.1 x.2.1 ∧ ansM v w (x.2.2.2.2.1 9 (tn x.1)) (xa (xi x.2.2 4 0) 9 (upd (x.2.2.2.2.1 9) (tn x.1) x.2.1))))
def rm_X7_base : Room := { frames := 1, cells := 0, slots := 0, locals := 22 }
def t_X7_base : en_T := ((4, 0, 0), tb_X7_base, fl_X7, cn_X7, [(70, 3, 0, 0, 0, f_X7_in)], [], 0, some .int)
set_option maxRecDepth 100000 in
theorem tB_X7_base (D : va_G) (dT : Nat → Nat) (l : Launch) : en_TB en_WD D vwCl dT l rm_X7_base t_X7_base RX7 "base" cX7_base := ⟨tk_X7_base, fun s args meth h hn => ⟨fo_X7 h args meth, co_X7 h args, List.forall_mem_cons.mpr ⟨mk_X7_in (own := RX7) h (Nat.le_of_ble_eq_true rfl) (Nat.le_of_ble_eq_true rfl) (Or.inl (en_wd h 828 (by decide +kernel) rfl args)), fun _ h => absurd h List.not_mem_nil⟩, fun _ h => absurd h List.not_mem_nil, Or.inl rfl, en_arr h args⟩⟩
set_option maxHeartbeats 4000000 in
set_option maxRecDepth 100000 in
theorem bd_X7_base : en_B (σ := Int32 × Int32 × Sx) t_X7_base (fun x => [.ref 0, .int x.1, .int x.2.1]) (fun x => wM x.2.2) (fun _ => True) (fun x v w => (¬ basq x.1 x.2.1 ∧ ansM v w (-2) (xi x.2.2 4 0)) ∨ (basq x.1 x.2.1 ∧ ansM v w (x.2.2.2.2.1 9 (tn x.1)) (xa (xi x.2.2 4 0) 9 (upd (x.2.2.2.2.1 9) (tn x.1) x.2.1)))) := by
  rintro ⟨s, b, S⟩ - G hG OK ⟨run, sub⟩
  dsimp only at hG ⊢
  refine run [] 60 _ _ _ _ _ _ ?_
  conv => whnf
  refine ⟨(s, 0, 7, wM (xi S 4 0)), rfl, rfl, trivial, ?_⟩
  rintro _ _ ⟨rfl, rfl⟩
  conv => whnf
  refine bl_br (fun c1 => ?_) (fun c1 => ?_)
  · conv => whnf
    exact hG _ _ (Or.inl ⟨fun z => c1 ⟨z.1.1, (le_lt (b := 7) (by decide)).mpr z.1.2⟩, rfl, rfl⟩)
  have c1 : 0 ≤ s ∧ s < 8 := ⟨c1.1, (le_lt (b := 7) (by decide)).mp c1.2⟩
  conv => whnf
  refine ⟨(b, -1, s - 1, wM (xi S 4 0)), rfl, rfl, trivial, ?_⟩
  rintro _ _ ⟨rfl, rfl⟩
  conv => whnf
  refine bl_br2 (fun c2 => ?_) (fun c2 => ?_)
  rotate_left
  · conv => whnf
    exact hG _ _ (Or.inl ⟨fun z => c2 ((by_eq c1).mpr z.2), rfl, rfl⟩)
  have c2 := (by_eq c1).mp c2
  obtain ⟨i, hi, rfl⟩ := in_of (b := 8) (by decide) c1
  rw [show tn (nI i) = i from nI_clamp (by omega)] at hG
  conv => whnf
  refine ⟨vp_in_nI (by omega) (by decide), ?_⟩
  rw [nI_clamp (by omega)]
  conv => whnf
  refine ⟨vp_in_nI (by omega) (by decide), ?_⟩
  rw [nI_clamp (by omega)]
  conv => whnf
  exact hG _ _ (Or.inr ⟨⟨c1, c2⟩, rfl, rfl⟩)
theorem ct_X7_base (D : va_G) (dT : Nat → Nat) (l : Launch) : en_CT en_WD D vwCl dT l yX7_base cX7_base 4 (some .int) rm_X7_base f_X7_base := en_met en_WD1 en_WD2 (by decide) rfl rfl (tB_X7_base D dT l) (en_f_ln (fun _ => Nat.le_of_ble_eq_true rfl)) (en_f_bd bd_X7_base)
set_option maxRecDepth 100000 in
theorem mk_X7_base {D : va_G} {dT : Nat → Nat} {l : Launch} {R : Room} {s : State} {args : Array Value} {own : String} {idx : Nat} (h : en_WD s) (h1 : rm_X7_base.frames + 1 ≤ R.frames) (h2 : 8 + (4 + 11) + rm_X7_base.locals ≤ R.locals) (hl : (Jvm.Cond.methodLink own idx yX7_base).before args s = true ∨ ∃ host, (Jvm.Cond.methodLinkNest own idx yX7_base host).before args s = true) : en_mok en_WD D vwCl dT l R s args own (idx, 3, 9, 0, 0, f_X7_base) :=
  ⟨yX7_base, cX7_base, 4, some .int, rm_X7_base, 2, ct_X7_base D dT l, rfl, rfl, h1, h2, en_wd h 946 rfl rfl args, en_wd h 66 (by decide +kernel) rfl args, by decide, by decide, hl, ⟨RX7, TX7, 24, rfl, en_wd h 944 (by decide +kernel) rfl args, en_wd h 945 (by decide +kernel) rfl args, rfl⟩⟩
theorem mul100' (a c : Nat) : (Int8.ofInt 100).toInt32 * nI a + nI c = nI (a * 100 + c) := by rw [Int32.mul_comm, mul100]
def f_X7_fit := en_f (σ := Int32 × Int32 × Nat × Sx) (fun x => [.ref 0, .int x.1, .int x.2.1]) (fun x => wM x.2.2.2) (fun x => x.2.2.1 ≤ 100 ∧ x.2.2.2.1 0 = nI x.2.2.1) (fun x v w => (¬ fitq x.1 x.2.1 x.2.2.1 ∧ ansM v w (-2) (xi x.2.2.2 4 0)) ∨ (fitq x.1 x.2.1 x.2.2.1 ∧ ¬ x.2.2.2.2.2.1 8 (tn x.1 * 100 + tn x.2.1) = 0 ∧ ansM v w (-4) (xi x.2.2.2 4 0)) ∨ (fitq x.1 x.2.1 x.2.2.1 ∧ x.2.2.2.2.2.1 8 (tn x.1 * 100 + tn x.2.1) = 0 ∧ ansM v w (nI (ct (fun r => upd (x.2.2.2.2.2.1 8) (tn x.1 * 100 + tn x.2.1) 1 (tn x.1 * 100 + r) ≠ 0) 100)) (xa (xi x.2.2.2 4 0) 8 (upd (x.2.2.2.2.2.1 8) (tn x.1 * 100 + tn x.2.1) 1))))
def rm_X7_fit : Room := { frames := 2, cells := 0, slots := 0, locals := 43 }
def t_X7_fit : en_T := ((5, 0, 0), tb_X7_fit, fl_X7, cn_X7, [(70, 3, 0, 0, 0, f_X7_in), (75, 2, 9, 0, 0, f_X7_isRow)], [], 0, some .int)
set_option maxRecDepth 100000 in
theorem tB_X7_fit (D : va_G) (dT : Nat → Nat) (l : Launch) : en_TB en_WD D vwCl dT l rm_X7_fit t_X7_fit RX7 "fit" cX7_fit := ⟨tk_X7_fit, fun s args meth h hn => ⟨fo_X7 h args meth, co_X7 h args, List.forall_mem_cons.mpr ⟨mk_X7_in (own := RX7) h (Nat.le_of_ble_eq_true rfl) (Nat.le_of_ble_eq_true rfl) (Or.inl (en_wd h 828 (by decide +kernel) rfl args)), List.forall_mem_cons.mpr ⟨mk_X7_isRow (own := RX7) h (Nat.le_of_ble_eq_true rfl) (Nat.le_of_ble_eq_true rfl) (Or.inl (en_wd h 836 (by decide +kernel) rfl args)), fun _ h => absurd h List.not_mem_nil⟩⟩, fun _ h => absurd h List.not_mem_nil, Or.inl rfl, en_arr h args⟩⟩
set_option maxHeartbeats 4000000 in
set_option maxRecDepth 100000 in
theorem bd_X7_fit : en_B (σ := Int32 × Int32 × Nat × Sx) t_X7_fit (fun x => [.ref 0, .int x.1, .int x.2.1]) (fun x => wM x.2.2.2) (fun x => x.2.2.1 ≤ 100 ∧ x.2.2.2.1 0 = nI x.2.2.1) (fun x v w => (¬ fitq x.1 x.2.1 x.2.2.1 ∧ ansM v w (-2) (xi x.2.2.2 4 0)) ∨ (fitq x.1 x.2.1 x.2.2.1 ∧ ¬ x.2.2.2.2.2.1 8 (tn x.1 * 100 + tn x.2.1) = 0 ∧ ansM v w (-4) (xi x.2.2.2 4 0)) ∨ (fitq x.1 x.2.1 x.2.2.1 ∧ x.2.2.2.2.2.1 8 (tn x.1 * 100 + tn x.2.1) = 0 ∧ ansM v w (nI (ct (fun r => upd (x.2.2.2.2.2.1 8) (tn x.1 * 100 + tn x.2.1) 1 (tn x.1 * 100 + r) ≠ 0) 100)) (xa (xi x.2.2.2 4 0) 8 (upd (x.2.2.2.2.2.1 8) (tn x.1 * 100 + tn x.2.1) 1)))) := by
  rintro ⟨s, r, n, S⟩ ⟨hn, h1⟩ G hG OK ⟨run, sub⟩
  dsimp only at hn h1 hG ⊢
  refine run [60] 60 _ _ _ _ _ _ ?_
  conv => whnf
  refine ⟨(s, 0, 7, wM (xi S 4 0)), rfl, rfl, trivial, ?_⟩
  rintro _ _ ⟨rfl, rfl⟩
  conv => whnf
  refine bl_br (fun c1 => ?_) (fun c1 => ?_)
  · conv => whnf
    exact hG _ _ (Or.inl ⟨fun z => c1 ⟨z.1.1, (le_lt (b := 7) (by decide)).mpr z.1.2⟩, rfl, rfl⟩)
  have c1 : 0 ≤ s ∧ s < 8 := ⟨c1.1, (le_lt (b := 7) (by decide)).mp c1.2⟩
  conv => whnf
  refine ⟨(r, n, xi S 4 0), rfl, rfl, ⟨hn, h1⟩, ?_⟩
  rintro _ _ ⟨rfl, rfl⟩
  conv => whnf
  refine bl_br2 (fun c2 => ?_) (fun c2 => ?_)
  rotate_left
  · conv => whnf
    exact hG _ _ (Or.inl ⟨fun z => c2 z.2, rfl, rfl⟩)
  have c2 : inr_ r n := c2
  obtain ⟨i, hi, rfl⟩ := in_of (b := 8) (by decide) c1
  obtain ⟨j, hj, rfl⟩ := in_of (by omega) c2
  rw [show tn (nI i) = i from nI_clamp (by omega), show tn (nI j) = j from nI_clamp (by omega)] at hG
  conv => whnf
  rw [mul100']
  refine ⟨vp_in_nI (by omega) (by decide), ?_⟩
  rw [nI_clamp (by omega)]
  conv => whnf
  refine ⟨fun c3 => ?_, fun c3 => ?_⟩
  rotate_left
  · conv => whnf
    exact hG _ _ (Or.inr (Or.inl ⟨⟨c1, c2⟩, c3, rfl, rfl⟩))
  conv => whnf
  rw [mul100']
  refine ⟨vp_in_nI (by omega) (by decide), ?_⟩
  rw [nI_clamp (by omega)]
  conv => whnf
  generalize hF : upd (S.2.2.1 8) (i * 100 + j) 1 = F at hG
  have loop := lp_up (fun q => OK 0 0 60 [(0, .ref 0), (1, .int (nI i)), (3, .int (nI (ct (fun r => F (i * 100 + r) ≠ 0) q))), (4, .int (nI q))] [] (wM (xa (xi S 4 0) 8 F))) 100
    (by
      refine run [60] 60 _ _ _ _ _ _ ?_
      conv => whnf
      refine pk_le 100 100 (fun h => ?_) (fun h => absurd h (by omega))
      conv => whnf
      exact hG _ _ (Or.inr (Or.inr ⟨⟨c1, c2⟩, c3, rfl, rfl⟩)))
    (fun q hq ih => by
      rw [nI_succ] at ih
      refine run [60] 60 _ _ _ _ _ _ ?_
      conv => whnf
      refine pk_le 100 q (fun h => absurd h (by omega)) (fun h => ?_)
      conv => whnf
      rw [mul100']
      refine ⟨vp_in_nI (by omega) (by decide), ?_⟩
      rw [nI_clamp (by omega)]
      conv => whnf
      refine ⟨fun hc => ?_, fun hc => ?_⟩
      · have hc : F (i * 100 + q) = 0 := hc
        rw [ct_f (p := fun r => F (i * 100 + r) ≠ 0) (fun z => z hc)] at ih
        conv => whnf
        have e : nI (ct (fun r => F (i * 100 + r) ≠ 0) q) = nI (ct (fun r => F (i * 100 + r) ≠ 0) q) + 0 := (Int32.add_zero _).symm
        rw [e] at ih
        exact ih
      · have hc : ¬ F (i * 100 + q) = 0 := hc
        rw [ct_t (p := fun r => F (i * 100 + r) ≠ 0) hc, nI_succ] at ih
        conv => whnf
        exact ih)
  have h0 := loop 0 (by omega)
  rw [← hF] at h0
  exact sub [0, 1, 3, 4] _ _ _ _ _ _ _ rfl h0
theorem ct_X7_fit (D : va_G) (dT : Nat → Nat) (l : Launch) : en_CT en_WD D vwCl dT l yX7_fit cX7_fit 5 (some .int) rm_X7_fit f_X7_fit := en_met en_WD1 en_WD2 (by decide) rfl rfl (tB_X7_fit D dT l) (en_f_ln (fun _ => Nat.le_of_ble_eq_true rfl)) (en_f_bd bd_X7_fit)
set_option maxRecDepth 100000 in
theorem mk_X7_fit {D : va_G} {dT : Nat → Nat} {l : Launch} {R : Room} {s : State} {args : Array Value} {own : String} {idx : Nat} (h : en_WD s) (h1 : rm_X7_fit.frames + 1 ≤ R.frames) (h2 : 8 + (5 + 11) + rm_X7_fit.locals ≤ R.locals) (hl : (Jvm.Cond.methodLink own idx yX7_fit).before args s = true ∨ ∃ host, (Jvm.Cond.methodLinkNest own idx yX7_fit host).before args s = true) : en_mok en_WD D vwCl dT l R s args own (idx, 3, 9, 0, 0, f_X7_fit) :=
  ⟨yX7_fit, cX7_fit, 5, some .int, rm_X7_fit, 2, ct_X7_fit D dT l, rfl, rfl, h1, h2, en_wd h 942 rfl rfl args, en_wd h 66 (by decide +kernel) rfl args, by decide, by decide, hl, ⟨RX7, TX7, 24, rfl, en_wd h 940 (by decide +kernel) rfl args, en_wd h 941 (by decide +kernel) rfl args, rfl⟩⟩
def f_X7_of := en_f (σ := Int32 × Nat × Sx) (fun x => [.ref 0, .int x.1]) (fun x => wM x.2.2) (fun x => x.2.1 ≤ 100 ∧ x.2.2.1 0 = nI x.2.1) (fun x v w => ansM v w (if inr_ x.1 x.2.1 then x.2.2.2.2.1 6 (tn x.1) else -2) (xi x.2.2 4 0))
def rm_X7_of : Room := { frames := 2, cells := 0, slots := 0, locals := 43 }
def t_X7_of : en_T := ((2, 0, 0), tb_X7_of, fl_X7, cn_X7, [(75, 2, 9, 0, 0, f_X7_isRow)], [], 0, some .int)
set_option maxRecDepth 100000 in
theorem tB_X7_of (D : va_G) (dT : Nat → Nat) (l : Launch) : en_TB en_WD D vwCl dT l rm_X7_of t_X7_of RX7 "of" cX7_of := ⟨tk_X7_of, fun s args meth h hn => ⟨fo_X7 h args meth, co_X7 h args, List.forall_mem_cons.mpr ⟨mk_X7_isRow (own := RX7) h (Nat.le_of_ble_eq_true rfl) (Nat.le_of_ble_eq_true rfl) (Or.inl (en_wd h 836 (by decide +kernel) rfl args)), fun _ h => absurd h List.not_mem_nil⟩, fun _ h => absurd h List.not_mem_nil, Or.inl rfl, en_arr h args⟩⟩
set_option maxHeartbeats 4000000 in
set_option maxRecDepth 100000 in
theorem bd_X7_of : en_B (σ := Int32 × Nat × Sx) t_X7_of (fun x => [.ref 0, .int x.1]) (fun x => wM x.2.2) (fun x => x.2.1 ≤ 100 ∧ x.2.2.1 0 = nI x.2.1) (fun x v w => ansM v w (if inr_ x.1 x.2.1 then x.2.2.2.2.1 6 (tn x.1) else -2) (xi x.2.2 4 0)) := by
  rintro ⟨r, n, S⟩ ⟨hn, h1⟩ G hG OK ⟨run, sub⟩
  dsimp only at hn h1 hG ⊢
  refine run [] 60 _ _ _ _ _ _ ?_
  conv => whnf
  refine ⟨(r, n, xi S 4 0), rfl, rfl, ⟨hn, h1⟩, ?_⟩
  rintro _ _ ⟨rfl, rfl⟩
  conv => whnf
  refine bl_br (fun c1 => ?_) (fun c1 => ?_)
  · have c1 : ¬ inr_ r n := c1
    conv => whnf
    exact hG _ _ ⟨by rw [if_neg c1]; rfl, rfl⟩
  · have c1 : inr_ r n := c1
    obtain ⟨i, hi, rfl⟩ := in_of (by omega) c1
    conv => whnf
    refine ⟨vp_in_nI (by omega) (by decide), ?_⟩
    conv => whnf
    exact hG _ _ ⟨by rw [if_pos c1]; rfl, rfl⟩
theorem ct_X7_of (D : va_G) (dT : Nat → Nat) (l : Launch) : en_CT en_WD D vwCl dT l yX7_of cX7_of 2 (some .int) rm_X7_of f_X7_of := en_met en_WD1 en_WD2 (by decide) rfl rfl (tB_X7_of D dT l) (en_f_ln (fun _ => Nat.le_of_ble_eq_true rfl)) (en_f_bd bd_X7_of)
set_option maxRecDepth 100000 in
theorem mk_X7_of {D : va_G} {dT : Nat → Nat} {l : Launch} {R : Room} {s : State} {args : Array Value} {own : String} {idx : Nat} (h : en_WD s) (h1 : rm_X7_of.frames + 1 ≤ R.frames) (h2 : 8 + (2 + 11) + rm_X7_of.locals ≤ R.locals) (hl : (Jvm.Cond.methodLink own idx yX7_of).before args s = true ∨ ∃ host, (Jvm.Cond.methodLinkNest own idx yX7_of host).before args s = true) : en_mok en_WD D vwCl dT l R s args own (idx, 2, 9, 0, 0, f_X7_of) :=
  ⟨yX7_of, cX7_of, 2, some .int, rm_X7_of, 1, ct_X7_of D dT l, rfl, rfl, h1, h2, en_wd h 925 rfl rfl args, en_wd h 66 (by decide +kernel) rfl args, by decide, by decide, hl, ⟨RX7, TX7, 24, rfl, en_wd h 923 (by decide +kernel) rfl args, en_wd h 924 (by decide +kernel) rfl args, rfl⟩⟩
theorem lb_eq {l : Int32} : (-1 ≤ l ∧ l ≤ 4) ↔ (l = -1 ∨ (0 ≤ l ∧ l < 5)) := by
  rw [show (4 : Int32) = nI 4 from rfl, le_lt (b := 4) (by decide)]
  constructor
  · rintro ⟨h1, h2⟩
    by_cases h0 : 0 ≤ l
    · exact Or.inr ⟨h0, h2⟩
    · left
      apply Int32.toInt_inj.mp
      rw [Int32.le_iff_toInt_le] at h1 h0
      have e1 : (-1 : Int32).toInt = -1 := by decide
      have e0 : (0 : Int32).toInt = 0 := by decide
      omega
  · rintro (rfl | ⟨h1, h2⟩)
    · exact ⟨Int32.le_refl _, by decide⟩
    · exact ⟨Int32.le_trans (by decide) h1, h2⟩
def f_X7_many := en_f (σ := Int32 × Int32 × Nat × Sx) (fun x => [.ref 0, .int x.1, .int x.2.1]) (fun x => wM x.2.2.2) (fun x => x.2.2.1 ≤ 100 ∧ x.2.2.2.1 0 = nI x.2.2.1) (fun x v w => ansM v w (if manq x.1 x.2.1 then nI (cin (x.2.2.2.2.2.1 6) (x.2.2.2.2.2.1 2) x.2.2.1 x.1 x.2.1) else -2) (xi x.2.2.2 4 0))
def rm_X7_many : Room := { frames := 1, cells := 0, slots := 0, locals := 22 }
def t_X7_many : en_T := ((5, 0, 0), tb_X7_many, fl_X7, cn_X7, [(70, 3, 0, 0, 0, f_X7_in)], [], 0, some .int)
set_option maxRecDepth 100000 in
theorem tB_X7_many (D : va_G) (dT : Nat → Nat) (l : Launch) : en_TB en_WD D vwCl dT l rm_X7_many t_X7_many RX7 "many" cX7_many := ⟨tk_X7_many, fun s args meth h hn => ⟨fo_X7 h args meth, co_X7 h args, List.forall_mem_cons.mpr ⟨mk_X7_in (own := RX7) h (Nat.le_of_ble_eq_true rfl) (Nat.le_of_ble_eq_true rfl) (Or.inl (en_wd h 828 (by decide +kernel) rfl args)), fun _ h => absurd h List.not_mem_nil⟩, fun _ h => absurd h List.not_mem_nil, Or.inl rfl, en_arr h args⟩⟩
set_option maxHeartbeats 4000000 in
set_option maxRecDepth 100000 in
theorem bd_X7_many : en_B (σ := Int32 × Int32 × Nat × Sx) t_X7_many (fun x => [.ref 0, .int x.1, .int x.2.1]) (fun x => wM x.2.2.2) (fun x => x.2.2.1 ≤ 100 ∧ x.2.2.2.1 0 = nI x.2.2.1) (fun x v w => ansM v w (if manq x.1 x.2.1 then nI (cin (x.2.2.2.2.2.1 6) (x.2.2.2.2.2.1 2) x.2.2.1 x.1 x.2.1) else -2) (xi x.2.2.2 4 0)) := by
  rintro ⟨p, l, n, S⟩ ⟨hn, h1⟩ G hG OK ⟨run, sub⟩
  dsimp only at hn h1 hG ⊢
  refine run [31] 60 _ _ _ _ _ _ ?_
  conv => whnf
  refine ⟨(p, 0, 3, wM (xi S 4 0)), rfl, rfl, trivial, ?_⟩
  rintro _ _ ⟨rfl, rfl⟩
  conv => whnf
  refine bl_br (fun c1 => ?_) (fun c1 => ?_)
  · rw [if_neg (c := manq p l) (fun z => c1 ⟨z.1.1, (le_lt (b := 3) (by decide)).mpr z.1.2⟩)] at hG
    conv => whnf
    exact hG _ _ ⟨rfl, rfl⟩
  have c1 : 0 ≤ p ∧ p < 4 := ⟨c1.1, (le_lt (b := 3) (by decide)).mp c1.2⟩
  conv => whnf
  refine ⟨(l, -1, 4, wM (xi S 4 0)), rfl, rfl, trivial, ?_⟩
  rintro _ _ ⟨rfl, rfl⟩
  conv => whnf
  refine bl_br2 (fun c2 => ?_) (fun c2 => ?_)
  rotate_left
  · rw [if_neg (c := manq p l) (fun z => c2 (lb_eq.mpr z.2))] at hG
    conv => whnf
    exact hG _ _ ⟨rfl, rfl⟩
  rw [if_pos (c := manq p l) ⟨c1, lb_eq.mp c2⟩] at hG
  have loop := lp_up (fun i => OK 0 0 31 [(0, .ref 0), (1, .int p), (2, .int l), (3, .int (nI (cin (S.2.2.1 6) (S.2.2.1 2) i p l))), (4, .int (nI i))] [] (wM (xi S 4 0))) n
    (by
      refine run [31] 60 _ _ _ _ _ _ ?_
      conv => whnf
      refine pk_le n n (fun h => ?_) (fun h => absurd h (by omega)) h1
      conv => whnf
      exact hG _ _ ⟨rfl, rfl⟩)
    (fun i hi ih => by
      rw [nI_succ] at ih
      unfold cin at ih ⊢
      have ih0 : ¬ (S.2.2.1 6 i = p ∧ (l = -1 ∨ S.2.2.1 2 i = l)) → OK 0 0 31 [(0, .ref 0), (1, .int p), (2, .int l), (3, .int (nI (ct (fun r => S.2.2.1 6 r = p ∧ (l = -1 ∨ S.2.2.1 2 r = l)) i) + 0)), (4, .int (nI i + 1))] [] (wM (xi S 4 0)) := fun h => by
        rw [ct_f h] at ih; rw [Int32.add_zero]; exact ih
      have ih1 : (S.2.2.1 6 i = p ∧ (l = -1 ∨ S.2.2.1 2 i = l)) → OK 0 0 31 [(0, .ref 0), (1, .int p), (2, .int l), (3, .int (nI (ct (fun r => S.2.2.1 6 r = p ∧ (l = -1 ∨ S.2.2.1 2 r = l)) i) + 1)), (4, .int (nI i + 1))] [] (wM (xi S 4 0)) := fun h => by
        rw [ct_t h, nI_succ] at ih; exact ih
      refine run [31] 60 _ _ _ _ _ _ ?_
      conv => whnf
      refine pk_le n i (fun h => absurd h (by omega)) (fun h => ?_) h1
      conv => whnf
      refine ⟨vp_in_nI (by omega) (by decide), ?_⟩
      rw [nI_clamp (by omega)]
      conv => whnf
      refine ⟨fun hp => ?_, fun hp => ?_⟩
      · conv => whnf
        exact ih0 (fun z => hp z.1)
      · conv => whnf
        refine ⟨fun hl => ?_, fun hl => ?_⟩
        · conv => whnf
          exact ih1 ⟨hp, Or.inl hl⟩
        · conv => whnf
          refine ⟨vp_in_nI (by omega) (by decide), ?_⟩
          rw [nI_clamp (by omega)]
          conv => whnf
          refine ⟨fun hb => ?_, fun hb => ?_⟩
          · conv => whnf
            exact ih0 (fun z => z.2.elim hl hb)
          · conv => whnf
            exact ih1 ⟨hp, Or.inr hb⟩)
  conv => whnf
  exact loop 0 (by omega)
theorem ct_X7_many (D : va_G) (dT : Nat → Nat) (l : Launch) : en_CT en_WD D vwCl dT l yX7_many cX7_many 5 (some .int) rm_X7_many f_X7_many := en_met en_WD1 en_WD2 (by decide) rfl rfl (tB_X7_many D dT l) (en_f_ln (fun _ => Nat.le_of_ble_eq_true rfl)) (en_f_bd bd_X7_many)
set_option maxRecDepth 100000 in
theorem mk_X7_many {D : va_G} {dT : Nat → Nat} {l : Launch} {R : Room} {s : State} {args : Array Value} {own : String} {idx : Nat} (h : en_WD s) (h1 : rm_X7_many.frames + 1 ≤ R.frames) (h2 : 8 + (5 + 11) + rm_X7_many.locals ≤ R.locals) (hl : (Jvm.Cond.methodLink own idx yX7_many).before args s = true ∨ ∃ host, (Jvm.Cond.methodLinkNest own idx yX7_many host).before args s = true) : en_mok en_WD D vwCl dT l R s args own (idx, 3, 9, 0, 0, f_X7_many) :=
  ⟨yX7_many, cX7_many, 5, some .int, rm_X7_many, 2, ct_X7_many D dT l, rfl, rfl, h1, h2, en_wd h 921 rfl rfl args, en_wd h 66 (by decide +kernel) rfl args, by decide, by decide, hl, ⟨RX7, TX7, 24, rfl, en_wd h 919 (by decide +kernel) rfl args, en_wd h 920 (by decide +kernel) rfl args, rfl⟩⟩
