/-! the reference: quotas -/
def wgm (S : Sx) (w : Nat → Nat) (W k : Nat) : Prop := wok w W k ∧ S.1 1 = nI k ∧ S.1 2 = nI W ∧ ∀ j, j < k → S.2.2.1 7 j = nI (w j)
theorem qi_r (w : Nat → Nat) (W n k : Nat) : ∀ i j, (qi k i (q0 w W n)).2 j = -1 ∨ (qi k i (q0 w W n)).2 j = nI (n * w j % W)
  | 0, j => Or.inr rfl
  | i + 1, j => by
    show upd (qi k i (q0 w W n)).2 (ag (qi k i (q0 w W n)).2 (k - 1)) (-1) j = -1 ∨ _ = _
    by_cases e : j = ag (qi k i (q0 w W n)).2 (k - 1)
    · left; rw [e, pk_us]
    · have h : (qi k (i + 1) (q0 w W n)).2 j = (qi k i (q0 w W n)).2 j := pk_un e
      rw [h, pk_un e]
      exact qi_r w W n k i j
theorem ct_one {p q : Nat → Prop} [DecidablePred p] [DecidablePred q] {a : Nat} (h : ∀ j, p j → q j ∨ j = a) : ∀ n, ct p n ≤ ct q n + (if a < n then 1 else 0)
  | 0 => by simp [ct]
  | n + 1 => by
    have ih := ct_one h n
    by_cases hp : p n
    · rw [ct_t hp]
      by_cases hq : q n
      · rw [ct_t hq]
        by_cases e : a < n
        · rw [if_pos e] at ih; rw [if_pos (by omega)]; omega
        · rw [if_neg e] at ih; omega
      · have e := (h n hp).resolve_left hq
        rw [ct_f hq, if_pos (by omega)]
        rw [if_neg (by omega)] at ih
        omega
    · rw [ct_f hp]
      have : ct q n ≤ ct q (n + 1) := by
        by_cases hq : q n
        · rw [ct_t hq]; omega
        · rw [ct_f hq]; omega
      by_cases e : a < n
      · rw [if_pos e] at ih; rw [if_pos (by omega)]; omega
      · rw [if_neg e] at ih; omega
theorem qi_n (w : Nat → Nat) (W n k : Nat) (hW : 0 < W) (hW4 : W ≤ 4000) : ∀ i, ct (fun j => (qi k i (q0 w W n)).2 j = -1) k ≤ i
  | 0 => by
    rw [ct_0]
    · exact Nat.le_refl 0
    · intro j _ h
      have h : nI (n * w j % W) = -1 := h
      have := Nat.mod_lt (n * w j) hW
      exact nI_ne (by omega) h
  | i + 1 => by
    have ih := qi_n w W n k hW hW4 i
    have h := ct_one (p := fun j => (qi k (i + 1) (q0 w W n)).2 j = -1) (q := fun j => (qi k i (q0 w W n)).2 j = -1) (a := ag (qi k i (q0 w W n)).2 (k - 1)) (fun j hj => by
      by_cases e : j = ag (qi k i (q0 w W n)).2 (k - 1)
      · exact Or.inr e
      · have h2 : (qi k (i + 1) (q0 w W n)).2 j = (qi k i (q0 w W n)).2 j := pk_un e
        rw [h2] at hj
        exact Or.inl hj) k
    have h3 : (if ag (qi k i (q0 w W n)).2 (k - 1) < k then 1 else 0) ≤ 1 := by split <;> omega
    omega
theorem ct_all {p : Nat → Prop} [DecidablePred p] : ∀ {n : Nat}, (∀ j, j < n → p j) → ct p n = n
  | 0, _ => rfl
  | n + 1, h => by rw [ct_t (h n (by omega)), ct_all (fun j hj => h j (by omega))]
/-- the greatest rest of those that are not given -/
def bo (R : Nat → Int32) : Nat → Int32
  | 0 => -1
  | p + 1 => if R p ≠ -1 ∧ (bo R p = -1 ∨ R (tn (bo R p)) < R p) then nI p else bo R p
theorem bo_is {R : Nat → Int32} {k : Nat} (hk : k ≤ 4) (h : ∀ j, j < k → -1 ≤ R j) : ∀ p, p ≤ k → (bo R p = -1 ∧ ∀ j, j < p → R j = -1) ∨ (1 ≤ p ∧ bo R p = nI (ag R (p - 1)) ∧ R (ag R (p - 1)) ≠ -1)
  | 0, _ => Or.inl ⟨rfl, fun j hj => by omega⟩
  | p + 1, hp => by
    have ih := bo_is hk h p (by omega)
    show (_ ∧ _) ∨ (1 ≤ p + 1 ∧ bo R (p + 1) = nI (ag R p) ∧ R (ag R p) ≠ -1)
    simp only [bo]
    rcases ih with ⟨h1, h2⟩ | ⟨h0, h1, h2⟩
    · by_cases e : R p = -1
      · rw [if_neg (fun z => z.1 e)]
        refine Or.inl ⟨h1, fun j hj => ?_⟩
        by_cases e2 : j = p
        · rw [e2, e]
        · exact h2 j (by omega)
      · rw [if_pos ⟨e, Or.inl h1⟩]
        have ha : ag R p = p := by
          cases p with
          | zero => rfl
          | succ q =>
            simp only [ag]
            rw [if_pos]
            rw [h2 (ag R q) (by have := ag_le R q; omega)]
            have := h (q + 1) (by omega)
            rw [Int32.le_iff_toInt_le] at this
            rw [Int32.lt_iff_toInt_lt]
            have e2 : (R (q + 1)).toInt ≠ (-1 : Int32).toInt := fun z => e (Int32.toInt_inj.mp z)
            omega
        rw [ha]
        exact Or.inr ⟨by omega, rfl, e⟩
    · obtain ⟨q, rfl⟩ : ∃ q, p = q + 1 := ⟨p - 1, by omega⟩
      have h1 : bo R (q + 1) = nI (ag R q) := h1
      have h2 : R (ag R q) ≠ -1 := h2
      have ht : tn (nI (ag R q)) = ag R q := nI_clamp (by have := ag_le R q; omega)
      rw [h1, ht]
      by_cases e : R (ag R q) < R (q + 1)
      · have e2 : R (q + 1) ≠ -1 := fun z => by
          rw [z] at e
          exact absurd e (Int32.not_lt.mpr (h _ (by have := ag_le R q; omega)))
        rw [if_pos ⟨e2, Or.inr e⟩]
        have ha : ag R (q + 1) = q + 1 := if_pos e
        rw [ha]
        exact Or.inr ⟨by omega, rfl, e2⟩
      · have ha : ag R (q + 1) = ag R q := if_neg e
        rw [ha, if_neg]
        · exact Or.inr ⟨by omega, rfl, h2⟩
        · rintro ⟨-, z | z⟩
          · exact nI_ne (by have := ag_le R q; omega) z
          · exact e z
theorem sm_cut (f : Nat → Nat) {k : Nat} : ∀ m, k ≤ m → sm (fun j => if j < k then f j else 0) m = sm f k
  | 0, h => by
    have : k = 0 := by omega
    subst this; rfl
  | m + 1, h => by
    by_cases e : k = m + 1
    · subst e
      exact sm_c (fun i hi => if_pos hi)
    · show sm (fun j => if j < k then f j else 0) m + (if m < k then f m else 0) = _
      rw [sm_cut f m (by omega), if_neg (by omega), Nat.add_zero]
def f_X7_quotasOf := en_f (σ := (Nat → Nat) × Nat × Nat × Nat × Sx) (fun x => [.ref 0, .int (nI x.2.2.2.1)]) (fun x => wM x.2.2.2.2) (fun x => wgm x.2.2.2.2 x.1 x.2.1 x.2.2.1 ∧ x.2.2.2.1 ≤ 100000) (fun x v w => v = none ∧ ∃ q r, w = wM (xa (xa x.2.2.2.2 10 q) 11 r) ∧ ∀ j, j < x.2.2.1 → q j = nI (qf x.1 x.2.1 x.2.2.1 x.2.2.2.1 j))
def rm_X7_quotasOf : Room := { frames := 0, cells := 0, slots := 0, locals := 0 }
def t_X7_quotasOf : en_T := ((5, 0, 0), tb_X7_quotasOf, fl_X7, cn_X7, [], [], 0, none)
set_option maxRecDepth 100000 in
theorem tB_X7_quotasOf (D : va_G) (dT : Nat → Nat) (l : Launch) : en_TB en_WD D vwCl dT l rm_X7_quotasOf t_X7_quotasOf RX7 "quotasOf" cX7_quotasOf := ⟨tk_X7_quotasOf, fun s args meth h hn => ⟨fo_X7 h args meth, co_X7 h args, fun _ h => absurd h List.not_mem_nil, fun _ h => absurd h List.not_mem_nil, Or.inl rfl, en_arr h args⟩⟩
set_option maxHeartbeats 4000000 in
set_option maxRecDepth 100000 in
theorem bd_X7_quotasOf : en_B (σ := (Nat → Nat) × Nat × Nat × Nat × Sx) t_X7_quotasOf (fun x => [.ref 0, .int (nI x.2.2.2.1)]) (fun x => wM x.2.2.2.2) (fun x => wgm x.2.2.2.2 x.1 x.2.1 x.2.2.1 ∧ x.2.2.2.1 ≤ 100000) (fun x v w => v = none ∧ ∃ q r, w = wM (xa (xa x.2.2.2.2 10 q) 11 r) ∧ ∀ j, j < x.2.2.1 → q j = nI (qf x.1 x.2.1 x.2.2.1 x.2.2.2.1 j)) := by
  rintro ⟨w, W, k, n, S⟩ ⟨⟨hok, hk, hW, hw⟩, hn⟩ G hG OK ⟨run, sub⟩
  dsimp only at hok hn hk hW hw hG ⊢
  have hok' := hok
  obtain ⟨hk1, hk4, hw1, hs, hW1, hW4⟩ := hok'
  obtain ⟨hq1, hq2⟩ := qm_lt (n := n) hok
  have hW0 : ¬ S.1 2 = 0 := fun e => absurd ((nI_eq (b := 0) (by omega) (by decide)).mp (hW.symm.trans e)) (by omega)
  have hnw : ∀ p, n * w p ≤ 100000000 := fun p => Nat.mul_le_mul hn (hw1 p)
  have loop2 : ∀ i, i ≤ qm w W k n → ∀ q r : Nat → Int32, (∀ j, j < k → q j = nI ((qi k i (q0 w W n)).1 j)) → (∀ j, j < k → r j = if (qi k i (q0 w W n)).2 j = -1 then 1 else 0) → OK 0 0 62 [(0, .ref 0), (1, .int (nI n)), (2, .int (nI (qm w W k n - i)))] [] (wM (xa (xa S 10 q) 11 r)) := by
    refine lp_up (fun i => ∀ q r : Nat → Int32, (∀ j, j < k → q j = nI ((qi k i (q0 w W n)).1 j)) → (∀ j, j < k → r j = if (qi k i (q0 w W n)).2 j = -1 then 1 else 0) → OK 0 0 62 [(0, .ref 0), (1, .int (nI n)), (2, .int (nI (qm w W k n - i)))] [] (wM (xa (xa S 10 q) 11 r))) (qm w W k n) ?_ ?_
    · intro q r hq hr
      rw [Nat.sub_self]
      refine run [62] 60 _ _ _ _ _ _ ?_
      conv => whnf
      refine pk_le 0 0 (fun h => ?_) (fun h => absurd h (by omega))
      conv => whnf
      exact hG _ _ ⟨rfl, q, r, rfl, hq⟩
    · intro i hi ih q r hq hr
      have hR : ∀ j, (qi k i (q0 w W n)).2 j = -1 ∨ (qi k i (q0 w W n)).2 j = nI (n * w j % W) := qi_r w W n k i
      have hcn := qi_n w W n k hW1 hW4 i
      have e1 : (qi k (i + 1) (q0 w W n)).1 = fun j => if j = ag (qi k i (q0 w W n)).2 (k - 1) then (qi k i (q0 w W n)).1 j + 1 else (qi k i (q0 w W n)).1 j := rfl
      have e2 : (qi k (i + 1) (q0 w W n)).2 = upd (qi k i (q0 w W n)).2 (ag (qi k i (q0 w W n)).2 (k - 1)) (-1) := rfl
      rw [e1, e2] at ih
      generalize qi k i (q0 w W n) = Z at hR hcn hq hr ih
      have hge : ∀ j, j < k → -1 ≤ Z.2 j := fun j _ => by
        rcases hR j with h | h
        · rw [h]; exact Int32.le_refl _
        · rw [h]
          have := Nat.mod_lt (n * w j) hW1
          exact Int32.le_trans (by decide) (nI_pos' (by omega))
      have hb := bo_is hk4 hge
      have hfin : bo Z.2 k = nI (ag Z.2 (k - 1)) := by
        rcases hb k (Nat.le_refl k) with ⟨-, h⟩ | h
        · rw [ct_all h] at hcn
          omega
        · exact h.2.1
      have ha : ag Z.2 (k - 1) < k := by have := ag_le Z.2 (k - 1); omega
      have inner := lp_up (fun p => OK 0 0 71 [(0, .ref 0), (1, .int (nI n)), (2, .int (nI (qm w W k n - i))), (3, .int (bo Z.2 p)), (4, .int (nI p))] [] (wM (xa (xa S 10 q) 11 r))) k
        (by
          rw [hfin]
          generalize ag Z.2 (k - 1) = a at ha ih
          refine run [62, 71] 60 _ _ _ _ _ _ ?_
          conv => whnf
          refine pk_le k k (fun h => ?_) (fun h => absurd h (by omega)) hk
          conv => whnf
          refine ⟨vp_in_nI (by omega) (by decide), ?_⟩
          rw [nI_clamp (by omega)]
          conv => whnf
          refine ⟨vp_in_nI (by omega) (by decide), ?_⟩
          rw [nI_clamp (by omega)]
          conv => whnf
          refine ⟨vp_in_nI (by omega) (by decide), ?_⟩
          rw [nI_clamp (by omega)]
          conv => whnf
          have hih := ih (upd q a (q a + 1)) (upd r a 1) (fun j hj => by
            dsimp only
            by_cases e : j = a
            · rw [e, pk_us, if_pos rfl, hq a ha, ← nI_succ]
            · rw [pk_un e, if_neg e, hq j hj]) (fun j hj => by
            by_cases e : j = a
            · rw [e, pk_us, pk_us, if_pos rfl]
            · rw [pk_un e, pk_un e, hr j hj])
          have hm : nI (qm w W k n - (i + 1)) = nI (qm w W k n - i) + Int32.ofInt (-1) := by
            rw [show qm w W k n - i = qm w W k n - (i + 1) + 1 by omega]
            exact (pk_m1 _).symm
          rw [hm] at hih
          exact sub [0, 1, 2] _ _ _ _ _ _ _ rfl hih)
        (fun p hp ihp => by
          rw [nI_succ] at ihp
          simp only [bo] at ihp
          have hrp := hr p hp
          have hbp := hb p (by omega)
          have hap := ag_le Z.2 (p - 1)
          refine run [62, 71] 60 _ _ _ _ _ _ ?_
          conv => whnf
          refine pk_le k p (fun h => absurd h (by omega)) (fun h => ?_) hk
          conv => whnf
          refine ⟨vp_in_nI (by omega) (by decide), ?_⟩
          rw [nI_clamp (by omega)]
          conv => whnf
          refine ⟨fun hc => ?_, fun hc => ?_⟩
          · have hc : ¬ r p = 0 := hc
            have hz : Z.2 p = -1 := by
              refine Decidable.byContradiction fun z => hc ?_
              rw [hrp, if_neg z]
            rw [if_neg (fun z => z.1 hz)] at ihp
            conv => whnf
            exact ihp
          · have hc : r p = 0 := hc
            have hz : ¬ Z.2 p = -1 := fun z => by
              rw [hrp, if_pos z] at hc
              exact absurd hc (by decide)
            conv => whnf
            refine ⟨fun hm => ?_, fun hm => ?_⟩
            · have hm : bo Z.2 p = -1 := hm
              rw [if_pos ⟨hz, Or.inl hm⟩] at ihp
              conv => whnf
              exact ihp
            · have hm : ¬ bo Z.2 p = -1 := hm
              rcases hbp with hbp | ⟨hp1, hbp, hne⟩
              · exact absurd hbp.1 hm
              rw [hbp] at ihp hm ⊢
              generalize ag Z.2 (p - 1) = a at hap ihp hm hne ⊢
              have d1 : nI n * S.2.2.1 7 p - nI n * S.2.2.1 7 p / S.1 2 * S.1 2 = Z.2 p := by
                rw [(hR p).resolve_left hz, hw p hp, hW, pk_mul, pk_rem (by have := hnw p; omega) (by omega) (by omega)]
              have d2 : nI n * S.2.2.1 7 a - nI n * S.2.2.1 7 a / S.1 2 * S.1 2 = Z.2 a := by
                rw [(hR a).resolve_left hne, hw a (by omega), hW, pk_mul, pk_rem (by have := hnw a; omega) (by omega) (by omega)]
              rw [show tn (nI a) = a from nI_clamp (by omega), ← d1, ← d2] at ihp
              conv => whnf
              refine ⟨vp_in_nI (by omega) (by decide), ?_⟩
              rw [nI_clamp (by omega)]
              conv => whnf
              refine ⟨hW0, ?_⟩
              conv => whnf
              refine ⟨vp_in_nI (by omega) (by decide), ?_⟩
              rw [nI_clamp (by omega)]
              conv => whnf
              refine ⟨hW0, ?_⟩
              conv => whnf
              refine ⟨fun hl => ?_, fun hl => ?_⟩
              · rw [if_neg] at ihp
                · conv => whnf
                  exact ihp
                · rintro ⟨-, z | z⟩
                  · exact hm z
                  · exact absurd z (Int32.not_lt.mpr hl)
              · rw [if_pos ⟨by rw [d1]; exact hz, Or.inr (Int32.not_le.mp hl)⟩] at ihp
                conv => whnf
                exact ihp)
      refine run [71] 60 _ _ _ _ _ _ ?_
      conv => whnf
      refine pk_le (qm w W k n - i) 0 (fun h => absurd h (by omega)) (fun h => ?_)
      conv => whnf
      exact inner 0 (by omega)
  have loop1 := lp_up (fun p => OK 0 0 4 [(0, .ref 0), (1, .int (nI n)), (2, .int (nI (n - sm (fun j => if j < k then n * w j / W else 0) p))), (3, .int (nI p))] [] (wM (xa (xa S 10 (mx p (fun j => if j < k then nI (n * w j / W) else 0) (S.2.2.1 10))) 11 (mx p (fun _ => 0) (S.2.2.1 11))))) 4
    (by
      rw [sm_cut _ 4 hk4]
      refine run [4, 62] 60 _ _ _ _ _ _ ?_
      conv => whnf
      refine pk_le 4 4 (fun h => ?_) (fun h => absurd h (by omega))
      conv => whnf
      have h0 := loop2 0 (by omega) (mx 4 (fun j => if j < k then nI (n * w j / W) else 0) (S.2.2.1 10)) (mx 4 (fun _ => 0) (S.2.2.1 11)) (fun j hj => by rw [mx_lt (by omega), if_pos hj]; rfl) (fun j hj => by
        rw [mx_lt (by omega), if_neg]
        have := Nat.mod_lt (n * w j) hW1
        exact nI_ne (by omega))
      exact sub [0, 1, 2] _ _ _ _ _ _ _ rfl h0)
    (fun p hp ih => by
      rw [nI_succ, ← mx_s, ← mx_s] at ih
      simp only [sm] at ih
      have hle : sm (fun j => if j < k then n * w j / W else 0) p + (if p < k then n * w p / W else 0) ≤ n := by
        have h2 : sm (fun j => if j < k then n * w j / W else 0) (p + 1) ≤ sm (fun j => if j < k then n * w j / W else 0) 4 := sm_mono _ (by omega)
        rw [sm_cut _ 4 hk4] at h2
        exact Nat.le_trans h2 hq1
      generalize sm (fun j => if j < k then n * w j / W else 0) p = s at hle ih ⊢
      have fin : ∀ x : Nat, (x = if p < k then n * w p / W else 0) → OK 0 0 40 [(0, .ref 0), (1, .int (nI n)), (2, .int (nI (n - s))), (3, .int (nI p))] [] (wM (xa (xa S 10 (upd (mx p (fun j => if j < k then nI (n * w j / W) else 0) (S.2.2.1 10)) p (nI x))) 11 (mx p (fun _ => 0) (S.2.2.1 11)))) := by
        intro x hx
        rw [← hx] at ih hle
        have hx2 : (if p < k then nI (n * w p / W) else 0) = nI x := by
          rw [hx]; split <;> rfl
        rw [hx2] at ih
        refine run [4] 60 _ _ _ _ _ _ ?_
        conv => whnf
        refine ⟨vp_in_nI (by omega) (by decide), ?_⟩
        rw [nI_clamp (by omega)]
        conv => whnf
        refine ⟨vp_in_nI (by omega) (by decide), ?_⟩
        rw [nI_clamp (by omega)]
        conv => whnf
        have hs2 : nI (n - (s + x)) = nI (n - s) - upd (mx p (fun j => if j < k then nI (n * w j / W) else 0) (S.2.2.1 10)) p (nI x) p := by
          rw [pk_us, pk_sub (by omega)]
          congr 1
          omega
        rw [hs2] at ih
        exact ih
      refine run [4, 40] 60 _ _ _ _ _ _ ?_
      conv => whnf
      refine pk_le 4 p (fun h => absurd h (by omega)) (fun h => ?_)
      conv => whnf
      refine pk_le k p (fun h => ?_) (fun h => ?_) hk
      · conv => whnf
        refine ⟨vp_in_nI (by omega) (by decide), ?_⟩
        rw [nI_clamp (by omega)]
        conv => whnf
        have h2 := fin 0 (by rw [if_neg (by omega)])
        exact h2
      · conv => whnf
        refine ⟨vp_in_nI (by omega) (by decide), ?_⟩
        rw [nI_clamp (by omega)]
        conv => whnf
        refine ⟨hW0, ?_⟩
        conv => whnf
        refine ⟨vp_in_nI (by omega) (by decide), ?_⟩
        rw [nI_clamp (by omega)]
        conv => whnf
        have h2 := fin (n * w p / W) (by rw [if_pos h])
        have d1 : nI (n * w p / W) = nI n * S.2.2.1 7 p / S.1 2 := by rw [hw p h, hW, pk_mul, pk_div (by have := hnw p; omega) (by omega) (by omega)]
        rw [d1] at h2
        exact h2)
  refine run [4] 60 _ _ _ _ _ _ ?_
  conv => whnf
  have h0 := loop1 0 (by omega)
  rw [mx_0, mx_0] at h0
  exact h0
theorem ct_X7_quotasOf (D : va_G) (dT : Nat → Nat) (l : Launch) : en_CT en_WD D vwCl dT l yX7_quotasOf cX7_quotasOf 5 (none) rm_X7_quotasOf f_X7_quotasOf := en_met en_WD1 en_WD2 (by decide) rfl rfl (tB_X7_quotasOf D dT l) (en_f_ln (fun _ => Nat.le_of_ble_eq_true rfl)) (en_f_bd bd_X7_quotasOf)
set_option maxRecDepth 100000 in
theorem mk_X7_quotasOf {D : va_G} {dT : Nat → Nat} {l : Launch} {R : Room} {s : State} {args : Array Value} {own : String} {idx : Nat} (h : en_WD s) (h1 : rm_X7_quotasOf.frames + 1 ≤ R.frames) (h2 : 8 + (5 + 11) + rm_X7_quotasOf.locals ≤ R.locals) (hl : (Jvm.Cond.methodLink own idx yX7_quotasOf).before args s = true ∨ ∃ host, (Jvm.Cond.methodLinkNest own idx yX7_quotasOf host).before args s = true) : en_mok en_WD D vwCl dT l R s args own (idx, 2, 9, 0, 0, f_X7_quotasOf) :=
  ⟨yX7_quotasOf, cX7_quotasOf, 5, none, rm_X7_quotasOf, 1, ct_X7_quotasOf D dT l, rfl, rfl, h1, h2, en_wd h 859 rfl rfl args, en_wd h 66 (by decide +kernel) rfl args, by decide, by decide, hl, ⟨RX7, TX7, 24, rfl, en_wd h 858 (by decide +kernel) rfl args, en_wd h 36 (by decide +kernel) rfl args, rfl⟩⟩
def f_X7_quota := en_f (σ := Int32 × Int32 × (Nat → Nat) × Nat × Nat × Sx) (fun x => [.ref 0, .int x.1, .int x.2.1]) (fun x => wM x.2.2.2.2.2) (fun x => wgm x.2.2.2.2.2 x.2.2.1 x.2.2.2.1 x.2.2.2.2.1) (fun x v w => (¬ (inr_ x.1 x.2.2.2.2.1 ∧ (0 ≤ x.2.1 ∧ x.2.1 < 100001)) ∧ ansM v w (-2) (xi x.2.2.2.2.2 4 0)) ∨ ((inr_ x.1 x.2.2.2.2.1 ∧ (0 ≤ x.2.1 ∧ x.2.1 < 100001)) ∧ ∃ q r, ansM v w (nI (qf x.2.2.1 x.2.2.2.1 x.2.2.2.2.1 (tn x.2.1) (tn x.1))) (xa (xa (xi x.2.2.2.2.2 4 0) 10 q) 11 r)))
def rm_X7_quota : Room := { frames := 1, cells := 0, slots := 0, locals := 24 }
def t_X7_quota : en_T := ((3, 0, 0), tb_X7_quota, fl_X7, cn_X7, [(70, 3, 0, 0, 0, f_X7_in), (85, 2, 9, 0, 0, f_X7_quotasOf)], [], 0, some .int)
set_option maxRecDepth 100000 in
theorem tB_X7_quota (D : va_G) (dT : Nat → Nat) (l : Launch) : en_TB en_WD D vwCl dT l rm_X7_quota t_X7_quota RX7 "quota" cX7_quota := ⟨tk_X7_quota, fun s args meth h hn => ⟨fo_X7 h args meth, co_X7 h args, List.forall_mem_cons.mpr ⟨mk_X7_in (own := RX7) h (Nat.le_of_ble_eq_true rfl) (Nat.le_of_ble_eq_true rfl) (Or.inl (en_wd h 828 (by decide +kernel) rfl args)), List.forall_mem_cons.mpr ⟨mk_X7_quotasOf (own := RX7) h (Nat.le_of_ble_eq_true rfl) (Nat.le_of_ble_eq_true rfl) (Or.inl (en_wd h 856 (by decide +kernel) rfl args)), fun _ h => absurd h List.not_mem_nil⟩⟩, fun _ h => absurd h List.not_mem_nil, Or.inl rfl, en_arr h args⟩⟩
set_option maxHeartbeats 4000000 in
set_option maxRecDepth 100000 in
theorem bd_X7_quota : en_B (σ := Int32 × Int32 × (Nat → Nat) × Nat × Nat × Sx) t_X7_quota (fun x => [.ref 0, .int x.1, .int x.2.1]) (fun x => wM x.2.2.2.2.2) (fun x => wgm x.2.2.2.2.2 x.2.2.1 x.2.2.2.1 x.2.2.2.2.1) (fun x v w => (¬ (inr_ x.1 x.2.2.2.2.1 ∧ (0 ≤ x.2.1 ∧ x.2.1 < 100001)) ∧ ansM v w (-2) (xi x.2.2.2.2.2 4 0)) ∨ ((inr_ x.1 x.2.2.2.2.1 ∧ (0 ≤ x.2.1 ∧ x.2.1 < 100001)) ∧ ∃ q r, ansM v w (nI (qf x.2.2.1 x.2.2.2.1 x.2.2.2.2.1 (tn x.2.1) (tn x.1))) (xa (xa (xi x.2.2.2.2.2 4 0) 10 q) 11 r))) := by
  rintro ⟨p, nn, w, W, k, S⟩ hwg G hG OK ⟨run, sub⟩
  dsimp only at hwg hG ⊢
  have hk : S.1 1 = nI k := hwg.2.1
  have hk4 : k ≤ 4 := hwg.1.2.1
  refine run [] 60 _ _ _ _ _ _ ?_
  conv => whnf
  refine ⟨(p, 0, S.1 1 - 1, wM (xi S 4 0)), rfl, rfl, trivial, ?_⟩
  rintro _ _ ⟨rfl, rfl⟩
  conv => whnf
  refine bl_br (fun c1 => ?_) (fun c1 => ?_)
  · have c1 : ¬ (0 ≤ p ∧ p ≤ S.1 1 - 1) := c1
    rw [hk, le_pr (by omega)] at c1
    conv => whnf
    exact hG _ _ (Or.inl ⟨fun z => c1 z.1, rfl, rfl⟩)
  have c1 : 0 ≤ p ∧ p ≤ S.1 1 - 1 := c1
  rw [hk, le_pr (by omega)] at c1
  conv => whnf
  refine ⟨(nn, 0, 100000, wM (xi S 4 0)), rfl, rfl, trivial, ?_⟩
  rintro _ _ ⟨rfl, rfl⟩
  conv => whnf
  refine bl_br2 (fun c2 => ?_) (fun c2 => ?_)
  rotate_left
  · conv => whnf
    exact hG _ _ (Or.inl ⟨fun z => c2 ⟨z.2.1, (le_lt (b := 100000) (by decide)).mpr z.2.2⟩, rfl, rfl⟩)
  have c2 : 0 ≤ nn ∧ nn < 100001 := ⟨c2.1, (le_lt (b := 100000) (by decide)).mp c2.2⟩
  obtain ⟨i, hi, rfl⟩ := in_of (by omega) c1
  obtain ⟨n, hn, rfl⟩ := in_of (b := 100001) (by decide) c2
  rw [show tn (nI i) = i from nI_clamp (by omega), show tn (nI n) = n from nI_clamp (by omega)] at hG
  conv => whnf
  refine ⟨(w, W, k, n, xi S 4 0), rfl, rfl, ⟨hwg, by dsimp only; omega⟩, ?_⟩
  rintro v u ⟨hv0, q, r, hu, hq⟩
  obtain rfl : v = none := hv0
  obtain rfl : u = wM (xa (xa (xi S 4 0) 10 q) 11 r) := hu
  conv => whnf
  refine ⟨vp_in_nI (by omega) (by decide), ?_⟩
  rw [nI_clamp (by omega)]
  conv => whnf
  refine hG _ _ (Or.inr ⟨⟨c1, c2⟩, q, r, ?_, rfl⟩)
  rw [← hq i hi]
  rfl
theorem ct_X7_quota (D : va_G) (dT : Nat → Nat) (l : Launch) : en_CT en_WD D vwCl dT l yX7_quota cX7_quota 3 (some .int) rm_X7_quota f_X7_quota := en_met en_WD1 en_WD2 (by decide) rfl rfl (tB_X7_quota D dT l) (en_f_ln (fun _ => Nat.le_of_ble_eq_true rfl)) (en_f_bd bd_X7_quota)
set_option maxRecDepth 100000 in
theorem mk_X7_quota {D : va_G} {dT : Nat → Nat} {l : Launch} {R : Room} {s : State} {args : Array Value} {own : String} {idx : Nat} (h : en_WD s) (h1 : rm_X7_quota.frames + 1 ≤ R.frames) (h2 : 8 + (3 + 11) + rm_X7_quota.locals ≤ R.locals) (hl : (Jvm.Cond.methodLink own idx yX7_quota).before args s = true ∨ ∃ host, (Jvm.Cond.methodLinkNest own idx yX7_quota host).before args s = true) : en_mok en_WD D vwCl dT l R s args own (idx, 3, 9, 0, 0, f_X7_quota) :=
  ⟨yX7_quota, cX7_quota, 3, some .int, rm_X7_quota, 2, ct_X7_quota D dT l, rfl, rfl, h1, h2, en_wd h 855 rfl rfl args, en_wd h 66 (by decide +kernel) rfl args, by decide, by decide, hl, ⟨RX7, TX7, 24, rfl, en_wd h 853 (by decide +kernel) rfl args, en_wd h 854 (by decide +kernel) rfl args, rfl⟩⟩
