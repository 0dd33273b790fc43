/-! SplitLeaks$Weights.apportion -/
theorem qi_le (k : Nat) (hk : 1 ≤ k) (s : (Nat → Nat) × (Nat → Int32)) (i : Nat) : ag (qi k i s).2 (k - 1) < k := by
  have := ag_le (qi k i s).2 (k - 1)
  omega
theorem sm_dv {w : Nat → Nat} {W n k : Nat} (h : wok w W k) {p : Nat} (hp : p ≤ k) : sm (fun j => n * w j / W) p ≤ n := by
  have h1 := (qm_lt (n := n) h).1
  have : ∀ q, p ≤ q → sm (fun j => n * w j / W) p ≤ sm (fun j => n * w j / W) q := by
    intro q hq
    obtain ⟨d, rfl⟩ : ∃ d, q = p + d := ⟨q - p, by omega⟩
    induction d with
    | zero => exact Nat.le_refl _
    | succ d ih => exact Nat.le_trans (ih (by omega)) (Nat.le_add_right _ _)
  exact Nat.le_trans (this k hp) h1
def f_X5_apportion := en_f (σ := (Nat → Nat) × Nat × Nat × Nat × Sx) (fun x => [.ref 9, .int (nI x.2.2.2.1)]) (fun x => wX x.2.2.2.2) (fun x => wok x.1 x.2.1 x.2.2.1 ∧ x.2.2.2.1 ≤ 100000 ∧ x.2.2.2.2.1 2 = nI x.2.2.1 ∧ x.2.2.2.2.1 3 = nI x.2.1 ∧ ∀ j, j < x.2.2.1 → x.2.2.2.2.2.2.1 10 j = nI (x.1 j)) (fun x v w => v = none ∧ ∃ r, w = wX (xa (xa x.2.2.2.2 11 (mx x.2.2.1 (fun j => nI (qf x.1 x.2.1 x.2.2.1 x.2.2.2.1 j)) (x.2.2.2.2.2.2.1 11))) 12 r))
def rm_X5_apportion : Room := { frames := 1, cells := 0, slots := 0, locals := 22 }
def t_X5_apportion : en_T := ((5, 0, 0), tb_X5_apportion, fl_X5, cn_X5, [(32, 1, 7, 0, 0, f_X5_withGreatestRest)], [], 0, none)
set_option maxRecDepth 100000 in
theorem tB_X5_apportion (D : va_G) (dT : Nat → Nat) (l : Launch) : en_TB en_WD D vwCl dT l rm_X5_apportion t_X5_apportion RX5 "apportion" cX5_apportion := ⟨tk_X5_apportion, fun s args meth h hn => ⟨fo_X5 h args meth, co_X5 h args, List.forall_mem_cons.mpr ⟨mk_X5_withGreatestRest (own := RX5) h (Nat.le_of_ble_eq_true rfl) (Nat.le_of_ble_eq_true rfl) (Or.inl (en_wd h 314 (by decide +kernel) rfl args)), fun _ h => absurd h List.not_mem_nil⟩, fun _ h => absurd h List.not_mem_nil, Or.inl rfl, en_arr h args⟩⟩
set_option maxHeartbeats 4000000 in
set_option maxRecDepth 100000 in
theorem bd_X5_apportion : en_B (σ := (Nat → Nat) × Nat × Nat × Nat × Sx) t_X5_apportion (fun x => [.ref 9, .int (nI x.2.2.2.1)]) (fun x => wX x.2.2.2.2) (fun x => wok x.1 x.2.1 x.2.2.1 ∧ x.2.2.2.1 ≤ 100000 ∧ x.2.2.2.2.1 2 = nI x.2.2.1 ∧ x.2.2.2.2.1 3 = nI x.2.1 ∧ ∀ j, j < x.2.2.1 → x.2.2.2.2.2.2.1 10 j = nI (x.1 j)) (fun x v w => v = none ∧ ∃ r, w = wX (xa (xa x.2.2.2.2 11 (mx x.2.2.1 (fun j => nI (qf x.1 x.2.1 x.2.2.1 x.2.2.2.1 j)) (x.2.2.2.2.2.2.1 11))) 12 r)) := by
  rintro ⟨w, W, k, n, S⟩ ⟨hok, hn, hk, hW, hw⟩ G hG OK ⟨run, sub⟩
  dsimp only at hok hn hk hW hw hG ⊢
  have hok' := hok
  obtain ⟨hk1, hk4, hw1, hs, hW1, hW4⟩ := hok'
  obtain ⟨hq1, hq2⟩ := qm_lt (n := n) hok
  have loop2 : ∀ i, i ≤ qm w W k n → OK 0 0 72 [(0, .ref 9), (1, .int (nI n)), (2, .int (nI (qm w W k n))), (3, .int (nI i))] [] (wX (xa (xa S 11 (mx k (fun j => nI ((qi k i (q0 w W n)).1 j)) (S.2.2.1 11))) 12 (mx k (qi k i (q0 w W n)).2 (S.2.2.1 12)))) := by
    refine lp_up (fun i => OK 0 0 72 [(0, .ref 9), (1, .int (nI n)), (2, .int (nI (qm w W k n))), (3, .int (nI i))] [] (wX (xa (xa S 11 (mx k (fun j => nI ((qi k i (q0 w W n)).1 j)) (S.2.2.1 11))) 12 (mx k (qi k i (q0 w W n)).2 (S.2.2.1 12))))) (qm w W k n) ?_ ?_
    · refine run [72] 60 _ _ _ _ _ _ ?_
      conv => whnf
      refine pk_le (qm w W k n) (qm w W k n) (fun h => ?_) (fun h => absurd h (by omega))
      conv => whnf
      exact hG _ _ ⟨rfl, _, rfl⟩
    · intro i hi ih
      have hp := qi_le k hk1 (q0 w W n) i
      refine run [72] 60 _ _ _ _ _ _ ?_
      conv => whnf
      refine pk_le (qm w W k n) i (fun h => absurd h (by omega)) (fun h => ?_)
      conv => whnf
      refine pk_le k i (fun h => absurd h (by omega)) (fun h => ?_) hk
      conv => whnf
      refine ⟨(k, xa (xa S 11 (mx k (fun j => nI ((qi k i (q0 w W n)).1 j)) (S.2.2.1 11))) 12 (mx k (qi k i (q0 w W n)).2 (S.2.2.1 12))), rfl, rfl, ⟨hk1, hk4, hk⟩, ?_⟩
      intro v u hvu
      obtain ⟨rfl, rfl⟩ : v = some (.int (nI (ag (mx k (qi k i (q0 w W n)).2 (S.2.2.1 12)) (k - 1)))) ∧ u = wX (xa (xa S 11 (mx k (fun j => nI ((qi k i (q0 w W n)).1 j)) (S.2.2.1 11))) 12 (mx k (qi k i (q0 w W n)).2 (S.2.2.1 12))) := hvu
      rw [ag_c (g := (qi k i (q0 w W n)).2) (fun p hp => mx_lt (by omega))]
      have e1 : (qi k (i + 1) (q0 w W n)).1 = fun j => if j = ag (qi k i (q0 w W n)).2 (k - 1) then (qi k i (q0 w W n)).1 j + 1 else (qi k i (q0 w W n)).1 j := rfl
      have e2 : (qi k (i + 1) (q0 w W n)).2 = upd (qi k i (q0 w W n)).2 (ag (qi k i (q0 w W n)).2 (k - 1)) (-1) := rfl
      rw [e1, e2] at ih
      generalize qi k i (q0 w W n) = Z at hp ih ⊢
      generalize ag Z.2 (k - 1) = a at hp ih ⊢
      conv => whnf
      refine ⟨vp_in_nI (by omega) (by decide), ?_⟩
      rw [nI_clamp (by omega)]
      conv => whnf
      refine ⟨vp_in_nI (by omega) (by decide), ?_⟩
      conv => whnf
      refine ⟨vp_in_nI (by omega) (by decide), ?_⟩
      conv => whnf
      rw [nI_succ] at ih
      rw [nI_clamp (by omega)]
      refine sub [0, 1, 2, 3] _ _ _ _ _ _ _ rfl ?_
      have e3 : (mx k (fun j => nI (if j = a then Z.1 j + 1 else Z.1 j)) (S.2.2.1 11)) = upd (mx k (fun j => nI (Z.1 j)) (S.2.2.1 11)) a (mx k (fun j => nI (Z.1 j)) (S.2.2.1 11) a + 1) := by
        rw [mx_u hp, mx_lt hp, ← nI_succ]
        congr 1
        funext j
        unfold upd
        by_cases e : j = a
        · rw [if_pos e, if_pos e, e]
        · rw [if_neg e, if_neg e]
      rw [e3, ← mx_u hp] at ih
      exact ih
  have loop1 : ∀ p, p ≤ k → OK 0 0 4 [(0, .ref 9), (1, .int (nI n)), (2, .int (nI (n - sm (fun j => n * w j / W) p))), (3, .int (nI p))] [] (wX (xa (xa S 11 (mx p (fun j => nI (n * w j / W)) (S.2.2.1 11))) 12 (mx p (fun j => nI (n * w j % W)) (S.2.2.1 12)))) := by
    refine lp_up (fun p => OK 0 0 4 [(0, .ref 9), (1, .int (nI n)), (2, .int (nI (n - sm (fun j => n * w j / W) p))), (3, .int (nI p))] [] (wX (xa (xa S 11 (mx p (fun j => nI (n * w j / W)) (S.2.2.1 11))) 12 (mx p (fun j => nI (n * w j % W)) (S.2.2.1 12))))) k ?_ ?_
    · refine run [4, 72] 60 _ _ _ _ _ _ ?_
      conv => whnf
      refine pk_le k k (fun h => ?_) (fun h => absurd h (by omega)) hk
      conv => whnf
      exact loop2 0 (by omega)
    · intro p hp ih
      have hpw : n * w p ≤ 100000000 := Nat.mul_le_mul hn (hw1 p)
      refine run [4] 60 _ _ _ _ _ _ ?_
      conv => whnf
      refine pk_le k p (fun h => absurd h (by omega)) (fun h => ?_) hk
      conv => whnf
      refine pk_le W 0 (fun h => absurd h (by omega)) (fun h => ?_) hW
      conv => whnf
      refine ⟨vp_in_nI (by omega) (by decide), ?_⟩
      rw [nI_clamp (by omega)]
      conv => whnf
      refine ⟨fun e => absurd ((nI_eq (b := 0) (by omega) (by decide)).mp (hW.symm.trans e)) (by omega), ?_⟩
      conv => whnf
      refine ⟨vp_in_nI (by omega) (by decide), ?_⟩
      rw [nI_clamp (by omega)]
      conv => whnf
      refine ⟨fun e => absurd ((nI_eq (b := 0) (by omega) (by decide)).mp (hW.symm.trans e)) (by omega), ?_⟩
      conv => whnf
      refine ⟨vp_in_nI (by omega) (by decide), ?_⟩
      rw [nI_clamp (by omega)]
      conv => whnf
      refine ⟨vp_in_nI (by omega) (by decide), ?_⟩
      rw [nI_clamp (by omega)]
      conv => whnf
      rw [nI_succ] at ih
      have d1 : nI n * S.2.2.1 10 p / S.1 3 = nI (n * w p / W) := by rw [hw p hp, hW, pk_mul, pk_div (by omega) (by omega) (by omega)]
      have d2 : nI n * S.2.2.1 10 p - nI n * S.2.2.1 10 p / S.1 3 * S.1 3 = nI (n * w p % W) := by rw [hw p hp, hW, pk_mul, pk_rem (by omega) (by omega) (by omega)]
      refine sub [0, 1, 2, 3] _ _ _ _ _ _ _ rfl ?_
      have e1 : mx (p + 1) (fun j => nI (n * w j / W)) (S.2.2.1 11) = upd (mx p (fun j => nI (n * w j / W)) (S.2.2.1 11)) p (nI n * S.2.2.1 10 p / S.1 3) := by rw [d1]; exact (mx_s (f := fun j => nI (n * w j / W))).symm
      have e2 : mx (p + 1) (fun j => nI (n * w j % W)) (S.2.2.1 12) = upd (mx p (fun j => nI (n * w j % W)) (S.2.2.1 12)) p (nI n * S.2.2.1 10 p - nI n * S.2.2.1 10 p / S.1 3 * S.1 3) := by rw [d2]; exact (mx_s (f := fun j => nI (n * w j % W))).symm
      have e3 : nI (n - sm (fun j => n * w j / W) (p + 1)) = nI (n - sm (fun j => n * w j / W) p) - upd (mx p (fun j => nI (n * w j / W)) (S.2.2.1 11)) p (nI n * S.2.2.1 10 p / S.1 3) p := by
        rw [pk_us, d1]
        have a1 := sm_dv (n := n) hok (p := p + 1) (by omega)
        simp only [sm] at a1 ⊢
        rw [pk_sub (by omega)]
        congr 1
        omega
      rw [e1, e2, e3] at ih
      exact ih
  refine run [4] 60 _ _ _ _ _ _ ?_
  conv => whnf
  have h0 := loop1 0 (by omega)
  rw [mx_0, mx_0] at h0
  exact h0
theorem ct_X5_apportion (D : va_G) (dT : Nat → Nat) (l : Launch) : en_CT en_WD D vwCl dT l yX5_apportion cX5_apportion 5 (none) rm_X5_apportion f_X5_apportion := en_met en_WD1 en_WD2 (by decide) rfl rfl (tB_X5_apportion D dT l) (en_f_ln (fun _ => Nat.le_of_ble_eq_true rfl)) (en_f_bd bd_X5_apportion)
set_option maxRecDepth 100000 in
theorem mk_X5_apportion {D : va_G} {dT : Nat → Nat} {l : Launch} {R : Room} {s : State} {args : Array Value} {own : String} {idx : Nat} (h : en_WD s) (h1 : rm_X5_apportion.frames + 1 ≤ R.frames) (h2 : 8 + (5 + 11) + rm_X5_apportion.locals ≤ R.locals) (hl : (Jvm.Cond.methodLink own idx yX5_apportion).before args s = true ∨ ∃ host, (Jvm.Cond.methodLinkNest own idx yX5_apportion host).before args s = true) : en_mok en_WD D vwCl dT l R s args own (idx, 2, 7, 0, 0, f_X5_apportion) :=
  ⟨yX5_apportion, cX5_apportion, 5, none, rm_X5_apportion, 1, ct_X5_apportion D dT l, rfl, rfl, h1, h2, en_wd h 313 rfl rfl args, en_wd h 61 (by decide +kernel) rfl args, by decide, by decide, hl, ⟨RX5, TX5, 5, rfl, en_wd h 311 (by decide +kernel) rfl args, en_wd h 312 (by decide +kernel) rfl args, rfl⟩⟩
