/-! SplitLeaks$Weights -/
def f_X5_become := en_f (σ := Int32 × Int32 × Int32 × Int32 × Int32 × Sx) (fun x => [.ref 9, .int x.1, .int x.2.1, .int x.2.2.1, .int x.2.2.2.1, .int x.2.2.2.2.1]) (fun x => wX x.2.2.2.2.2) (fun _ => True) (fun x v w => v = none ∧ w = wX (xi (xa (xi x.2.2.2.2.2 2 x.1) 10 (upd (upd (upd (upd (x.2.2.2.2.2.2.2.1 10) 0 x.2.1) 1 x.2.2.1) 2 x.2.2.2.1) 3 x.2.2.2.2.1)) 3 (x.2.1 + x.2.2.1 + x.2.2.2.1 + x.2.2.2.2.1)))
def rm_X5_become : Room := { frames := 0, cells := 0, slots := 0, locals := 0 }
def t_X5_become : en_T := ((6, 0, 0), tb_X5_become, fl_X5, cn_X5, [], [], 0, none)
set_option maxRecDepth 100000 in
theorem tB_X5_become (D : va_G) (dT : Nat → Nat) (l : Launch) : en_TB en_WD D vwCl dT l rm_X5_become t_X5_become RX5 "become" cX5_become := ⟨tk_X5_become, fun s args meth h hn => ⟨fo_X5 h args meth, co_X5 h args, fun _ h => absurd h List.not_mem_nil, fun _ h => absurd h List.not_mem_nil, Or.inl rfl, en_arr h args⟩⟩
set_option maxHeartbeats 4000000 in
set_option maxRecDepth 100000 in
theorem bd_X5_become : en_B (σ := Int32 × Int32 × Int32 × Int32 × Int32 × Sx) t_X5_become (fun x => [.ref 9, .int x.1, .int x.2.1, .int x.2.2.1, .int x.2.2.2.1, .int x.2.2.2.2.1]) (fun x => wX x.2.2.2.2.2) (fun _ => True) (fun x v w => v = none ∧ w = wX (xi (xa (xi x.2.2.2.2.2 2 x.1) 10 (upd (upd (upd (upd (x.2.2.2.2.2.2.2.1 10) 0 x.2.1) 1 x.2.2.1) 2 x.2.2.2.1) 3 x.2.2.2.2.1)) 3 (x.2.1 + x.2.2.1 + x.2.2.2.1 + x.2.2.2.2.1))) := by
  rintro ⟨k, a, b, c, d, S⟩ - G hG OK ⟨run, sub⟩
  dsimp only at hG ⊢
  refine run [] 60 _ _ _ _ _ _ ?_
  conv => whnf
  refine ⟨vp_in_nI (n := 0) (by omega) (by decide), ?_⟩
  conv => whnf
  refine ⟨vp_in_nI (n := 1) (by omega) (by decide), ?_⟩
  conv => whnf
  refine ⟨vp_in_nI (n := 2) (by omega) (by decide), ?_⟩
  conv => whnf
  refine ⟨vp_in_nI (n := 3) (by omega) (by decide), ?_⟩
  conv => whnf
  exact hG _ _ ⟨rfl, rfl⟩
theorem ct_X5_become (D : va_G) (dT : Nat → Nat) (l : Launch) : en_CT en_WD D vwCl dT l yX5_become cX5_become 6 (none) rm_X5_become f_X5_become := en_met en_WD1 en_WD2 (by decide) rfl rfl (tB_X5_become D dT l) (en_f_ln (fun _ => Nat.le_of_ble_eq_true rfl)) (en_f_bd bd_X5_become)
set_option maxRecDepth 100000 in
theorem mk_X5_become {D : va_G} {dT : Nat → Nat} {l : Launch} {R : Room} {s : State} {args : Array Value} {own : String} {idx : Nat} (h : en_WD s) (h1 : rm_X5_become.frames + 1 ≤ R.frames) (h2 : 8 + (6 + 11) + rm_X5_become.locals ≤ R.locals) (hl : (Jvm.Cond.methodLink own idx yX5_become).before args s = true ∨ ∃ host, (Jvm.Cond.methodLinkNest own idx yX5_become host).before args s = true) : en_mok en_WD D vwCl dT l R s args own (idx, 6, 7, 0, 0, f_X5_become) :=
  ⟨yX5_become, cX5_become, 6, none, rm_X5_become, 5, ct_X5_become D dT l, rfl, rfl, h1, h2, en_wd h 305 rfl rfl args, en_wd h 61 (by decide +kernel) rfl args, by decide, by decide, hl, ⟨RX5, TX5, 5, rfl, en_wd h 303 (by decide +kernel) rfl args, en_wd h 304 (by decide +kernel) rfl args, rfl⟩⟩
/-- the first of the greatest among the places 0 .. m -/
def ag (f : Nat → Int32) : Nat → Nat
  | 0 => 0
  | p + 1 => if f (ag f p) < f (p + 1) then p + 1 else ag f p
theorem ag_le (f : Nat → Int32) : ∀ m, ag f m ≤ m
  | 0 => Nat.le_refl 0
  | p + 1 => by
    have := ag_le f p
    simp only [ag]
    split <;> omega
theorem ag_c {f g : Nat → Int32} : ∀ {m : Nat}, (∀ p, p ≤ m → f p = g p) → ag f m = ag g m
  | 0, _ => rfl
  | p + 1, h => by
    have h1 := ag_c (m := p) (fun q hq => h q (by omega))
    have h2 := ag_le g p
    simp only [ag]
    rw [h1, h (p + 1) (by omega), h (ag g p) (by omega)]
def f_X5_withGreatestRest := en_f (σ := Nat × Sx) (fun _ => [.ref 9]) (fun x => wX x.2) (fun x => 1 ≤ x.1 ∧ x.1 ≤ 4 ∧ x.2.1 2 = nI x.1) (fun x v w => v = some (.int (nI (ag (x.2.2.2.1 12) (x.1 - 1)))) ∧ w = wX x.2)
def rm_X5_withGreatestRest : Room := { frames := 0, cells := 0, slots := 0, locals := 0 }
def t_X5_withGreatestRest : en_T := ((3, 0, 0), tb_X5_withGreatestRest, fl_X5, cn_X5, [], [], 0, some .int)
set_option maxRecDepth 100000 in
theorem tB_X5_withGreatestRest (D : va_G) (dT : Nat → Nat) (l : Launch) : en_TB en_WD D vwCl dT l rm_X5_withGreatestRest t_X5_withGreatestRest RX5 "withGreatestRest" cX5_withGreatestRest := ⟨tk_X5_withGreatestRest, fun s args meth h hn => ⟨fo_X5 h args meth, co_X5 h args, fun _ h => absurd h List.not_mem_nil, fun _ h => absurd h List.not_mem_nil, Or.inl rfl, en_arr h args⟩⟩
set_option maxHeartbeats 4000000 in
set_option maxRecDepth 100000 in
theorem bd_X5_withGreatestRest : en_B (σ := Nat × Sx) t_X5_withGreatestRest (fun _ => [.ref 9]) (fun x => wX x.2) (fun x => 1 ≤ x.1 ∧ x.1 ≤ 4 ∧ x.2.1 2 = nI x.1) (fun x v w => v = some (.int (nI (ag (x.2.2.2.1 12) (x.1 - 1)))) ∧ w = wX x.2) := by
  rintro ⟨k, S⟩ ⟨hk1, hk4, hk⟩ G hG OK ⟨run, sub⟩
  dsimp only at hk1 hk4 hk hG ⊢
  have loop := lp_up (fun p => 1 ≤ p → OK 0 0 4 [(0, .ref 9), (1, .int (nI (ag (S.2.2.1 12) (p - 1)))), (2, .int (nI p))] [] (wX S)) k
    (fun _ => by
      refine run [4] 60 _ _ _ _ _ _ ?_
      conv => whnf
      refine pk_le k k (fun h => ?_) (fun h => absurd h (by omega)) hk
      conv => whnf
      exact hG _ _ ⟨rfl, rfl⟩)
    (fun p hp ih h1 => by
      obtain ⟨q, rfl⟩ : ∃ q, p = q + 1 := ⟨p - 1, by omega⟩
      have ih := ih (by omega)
      have hle := ag_le (S.2.2.1 12) q
      show OK 0 0 4 [(0, .ref 9), (1, .int (nI (ag (S.2.2.1 12) q))), (2, .int (nI (q + 1)))] [] (wX S)
      refine run [4] 60 _ _ _ _ _ _ ?_
      conv => whnf
      refine pk_le k (q + 1) (fun h => absurd h (by omega)) (fun h => ?_) hk
      conv => whnf
      refine ⟨vp_in_nI (by omega) (by decide), ?_⟩
      rw [nI_clamp (by omega)]
      conv => whnf
      refine ⟨vp_in_nI (by omega) (by decide), ?_⟩
      rw [nI_clamp (by omega)]
      conv => whnf
      have ih : OK 0 0 4 [(0, .ref 9), (1, .int (nI (ag (S.2.2.1 12) (q + 1)))), (2, .int (nI (q + 1 + 1)))] [] (wX S) := ih
      simp only [ag] at ih
      rw [nI_succ (q + 1)] at ih
      refine ⟨fun hc => ?_, fun hc => ?_⟩
      · conv => whnf
        rw [if_neg (Int32.not_lt.mpr hc)] at ih
        exact ih
      · conv => whnf
        rw [if_pos (Int32.not_le.mp hc)] at ih
        exact ih)
  refine run [4] 60 _ _ _ _ _ _ ?_
  conv => whnf
  exact loop 1 (by omega) (Nat.le_refl 1)
theorem ct_X5_withGreatestRest (D : va_G) (dT : Nat → Nat) (l : Launch) : en_CT en_WD D vwCl dT l yX5_withGreatestRest cX5_withGreatestRest 3 (some .int) rm_X5_withGreatestRest f_X5_withGreatestRest := en_met en_WD1 en_WD2 (by decide) rfl rfl (tB_X5_withGreatestRest D dT l) (en_f_ln (fun _ => Nat.le_of_ble_eq_true rfl)) (en_f_bd bd_X5_withGreatestRest)
set_option maxRecDepth 100000 in
theorem mk_X5_withGreatestRest {D : va_G} {dT : Nat → Nat} {l : Launch} {R : Room} {s : State} {args : Array Value} {own : String} {idx : Nat} (h : en_WD s) (h1 : rm_X5_withGreatestRest.frames + 1 ≤ R.frames) (h2 : 8 + (3 + 11) + rm_X5_withGreatestRest.locals ≤ R.locals) (hl : (Jvm.Cond.methodLink own idx yX5_withGreatestRest).before args s = true ∨ ∃ host, (Jvm.Cond.methodLinkNest own idx yX5_withGreatestRest host).before args s = true) : en_mok en_WD D vwCl dT l R s args own (idx, 1, 7, 0, 0, f_X5_withGreatestRest) :=
  ⟨yX5_withGreatestRest, cX5_withGreatestRest, 3, some .int, rm_X5_withGreatestRest, 0, ct_X5_withGreatestRest D dT l, rfl, rfl, h1, h2, en_wd h 317 rfl rfl args, en_wd h 61 (by decide +kernel) rfl args, by decide, by decide, hl, ⟨RX5, TX5, 5, rfl, en_wd h 316 (by decide +kernel) rfl args, en_wd h 0 (by decide +kernel) rfl args, rfl⟩⟩
/-- f below k, g from k on -/
def mx {α : Type} (k : Nat) (f g : Nat → α) : Nat → α := fun j => if j < k then f j else g j
theorem mx_lt {α : Type} {k j : Nat} {f g : Nat → α} (h : j < k) : mx k f g j = f j := if_pos h
theorem mx_ge {α : Type} {k j : Nat} {f g : Nat → α} (h : k ≤ j) : mx k f g j = g j := if_neg (by omega)
theorem mx_s {k : Nat} {f g : Nat → Int32} : upd (mx k f g) k (f k) = mx (k + 1) f g := by
  funext j
  unfold upd mx
  by_cases h : j = k
  · subst h; rw [if_pos rfl, if_pos (by omega)]
  · rw [if_neg h]
    by_cases h2 : j < k
    · rw [if_pos h2, if_pos (by omega)]
    · rw [if_neg h2, if_neg (by omega)]
theorem mx_0 {α : Type} {f g : Nat → α} : mx 0 f g = g := by
  funext j; exact if_neg (by omega)
theorem mx_u {k p : Nat} {f g : Nat → Int32} {x : Int32} (h : p < k) : upd (mx k f g) p x = mx k (upd f p x) g := by
  funext j
  unfold upd mx
  by_cases e : j = p
  · subst e; rw [if_pos rfl, if_pos h]; exact (if_pos rfl).symm
  · rw [if_neg e]
    by_cases h2 : j < k
    · rw [if_pos h2, if_pos h2]; exact (if_neg e).symm
    · rw [if_neg h2, if_neg h2]
/-- quotas and rests: one more goes to the greatest rest -/
def qs (k : Nat) (s : (Nat → Nat) × (Nat → Int32)) : (Nat → Nat) × (Nat → Int32) := (fun j => if j = ag s.2 (k - 1) then s.1 j + 1 else s.1 j, upd s.2 (ag s.2 (k - 1)) (-1))
def qi (k : Nat) : Nat → (Nat → Nat) × (Nat → Int32) → (Nat → Nat) × (Nat → Int32)
  | 0, s => s
  | i + 1, s => qs k (qi k i s)
def q0 (w : Nat → Nat) (W n : Nat) : (Nat → Nat) × (Nat → Int32) := (fun j => n * w j / W, fun j => nI (n * w j % W))
/-- what is missing -/
def qm (w : Nat → Nat) (W k n : Nat) : Nat := n - sm (fun j => n * w j / W) k
/-- the quotas of n things -/
def qf (w : Nat → Nat) (W k n : Nat) : Nat → Nat := (qi k (qm w W k n) (q0 w W n)).1
/-- weights as they must be -/
def wok (w : Nat → Nat) (W k : Nat) : Prop := 1 ≤ k ∧ k ≤ 4 ∧ (∀ j, w j ≤ 1000) ∧ sm w k = W ∧ 1 ≤ W ∧ W ≤ 4000
theorem sm_mul (w : Nat → Nat) (n : Nat) : ∀ k, sm (fun j => n * w j) k = n * sm w k
  | 0 => rfl
  | k + 1 => by
    show sm (fun j => n * w j) k + n * w k = n * (sm w k + w k)
    rw [sm_mul w n k, Nat.mul_add]
theorem sm_div (f : Nat → Nat) (W : Nat) : ∀ k, sm f k = W * sm (fun j => f j / W) k + sm (fun j => f j % W) k
  | 0 => by simp [sm]
  | k + 1 => by
    have h := sm_div f W k
    have h2 := Nat.div_add_mod (f k) W
    simp only [sm]
    rw [Nat.mul_add]
    omega
theorem sm_lt (f : Nat → Nat) (W : Nat) (hW : 0 < W) : ∀ k, sm (fun j => f j % W) k + k ≤ k * W
  | 0 => by simp [sm]
  | k + 1 => by
    have h := sm_lt f W hW k
    have h2 := Nat.mod_lt (f k) hW
    simp only [sm]
    rw [Nat.add_mul]
    omega
/-- fewer are missing than there are parts -/
theorem qm_lt {w : Nat → Nat} {W k n : Nat} (h : wok w W k) : sm (fun j => n * w j / W) k ≤ n ∧ qm w W k n < k := by
  obtain ⟨h1, h4, hw, hs, hW, -⟩ := h
  have a := sm_div (fun j => n * w j) W k
  have b := sm_lt (fun j => n * w j) W hW k
  rw [sm_mul, hs] at a
  unfold qm
  generalize sm (fun j => n * w j / W) k = q at a ⊢
  generalize sm (fun j => n * w j % W) k = r at a b
  have c1 : q ≤ n := Nat.le_of_mul_le_mul_left (show W * q ≤ W * n by rw [Nat.mul_comm W n]; omega) hW
  refine ⟨c1, Nat.lt_of_not_le fun hc => ?_⟩
  have c2 := Nat.mul_le_mul_left W hc
  rw [Nat.mul_sub, Nat.mul_comm W n, Nat.mul_comm W k] at c2
  omega
