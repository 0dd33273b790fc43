/-! pure words of the splits -/
/-- the rows that have p, one behind another -/
def sel (p : Nat → Prop) [DecidablePred p] (old : Nat → Int32) : Nat → (Nat → Int32)
  | 0 => old
  | i + 1 => if p i then upd (sel p old i) (ct p i) (nI i) else sel p old i
theorem sel_t {p : Nat → Prop} [DecidablePred p] {old : Nat → Int32} {i : Nat} (h : p i) : sel p old (i + 1) = upd (sel p old i) (ct p i) (nI i) := if_pos h
theorem sel_f {p : Nat → Prop} [DecidablePred p] {old : Nat → Int32} {i : Nat} (h : ¬ p i) : sel p old (i + 1) = sel p old i := if_neg h
/-- all things are numbers below b -/
def vld (f : Nat → Int32) (m b : Nat) : Prop := ∀ i, i < m → ∃ r, r < b ∧ f i = nI r
theorem vld_in {f : Nat → Int32} {m b i : Nat} (h : vld f m b) (hi : i < m) (hb : b < 2 ^ 31) : vp_in (f i) b := by
  obtain ⟨r, hr, e⟩ := h i hi
  rw [e]
  exact vp_in_nI hr hb
theorem vld_lt {f : Nat → Int32} {m b i : Nat} (h : vld f m b) (hi : i < m) (hb : b < 2 ^ 31) : (f i).toNatClampNeg < b ∧ f i = nI (f i).toNatClampNeg := by
  obtain ⟨r, hr, e⟩ := h i hi
  rw [e, nI_clamp (by omega)]
  exact ⟨hr, rfl⟩
theorem sel_v {p : Nat → Prop} [DecidablePred p] {old : Nat → Int32} : ∀ n, vld (sel p old n) (ct p n) n
  | 0 => fun i hi => by cases hi
  | n + 1 => fun i hi => by
    have ih := sel_v (p := p) (old := old) n
    by_cases h : p n
    · rw [sel_t h]
      rw [ct_t h] at hi
      by_cases e : i = ct p n
      · subst e; rw [pk_us]; exact ⟨n, by omega, rfl⟩
      · rw [pk_un e]
        obtain ⟨r, hr, e2⟩ := ih i (by omega)
        exact ⟨r, by omega, e2⟩
    · rw [sel_f h]
      rw [ct_f h] at hi
      obtain ⟨r, hr, e2⟩ := ih i hi
      exact ⟨r, by omega, e2⟩
theorem mx_v {n b : Nat} (h : n ≤ b) {old : Nat → Int32} : vld (mx n nI old) n b := fun i hi => ⟨i, by omega, mx_lt hi⟩
/-- a shuffling's things are those that were there -/
theorem shf_in : ∀ (t : Nat) (z : Int64) (f : Nat → Int32) (i : Nat), i ≤ t → ∃ j, j ≤ t ∧ (shf t z f).2 i = f j
  | 0, z, f, i, hi => ⟨i, hi, rfl⟩
  | t + 1, z, f, i, hi => by
    have hd := dw_lt (z := nz z) (n := t + 2) (by omega)
    show ∃ j, j ≤ t + 1 ∧ (shf t (nz z) (upd (upd f (t + 1) (f (dw (nz z) (t + 2)))) (dw (nz z) (t + 2)) (f (t + 1)))).2 i = f j
    generalize dw (nz z) (t + 2) = d at hd ⊢
    have key : ∀ q, q ≤ t + 1 → ∃ j, j ≤ t + 1 ∧ upd (upd f (t + 1) (f d)) d (f (t + 1)) q = f j := by
      intro q hq
      by_cases e : q = d
      · rw [e, pk_us]; exact ⟨t + 1, by omega, rfl⟩
      · rw [pk_un e]
        by_cases e2 : q = t + 1
        · rw [e2, pk_us]; exact ⟨d, by omega, rfl⟩
        · rw [pk_un e2]; exact ⟨q, by omega, rfl⟩
    by_cases e : i ≤ t
    · obtain ⟨q, hq, h⟩ := shf_in t (nz z) (upd (upd f (t + 1) (f d)) d (f (t + 1))) i e
      rw [h]
      exact key q (by omega)
    · have : i = t + 1 := by omega
      subst this
      rw [shf_hi t (nz z) _ (t + 1) (by omega)]
      exact key (t + 1) (by omega)
where
  shf_hi : ∀ (t : Nat) (z : Int64) (f : Nat → Int32) (i : Nat), t < i → (shf t z f).2 i = f i
  | 0, z, f, i, hi => rfl
  | t + 1, z, f, i, hi => by
    have hd := dw_lt (z := nz z) (n := t + 2) (by omega)
    show (shf t (nz z) (upd (upd f (t + 1) (f (dw (nz z) (t + 2)))) (dw (nz z) (t + 2)) (f (t + 1)))).2 i = f i
    rw [shf_hi t (nz z) _ i (by omega), pk_un (by omega), pk_un (by omega)]
theorem shm_v {m b : Nat} {z : Int64} {f : Nat → Int32} (h : vld f m b) : vld (shm m z f).2 m b := by
  intro i hi
  obtain ⟨j, hj, e⟩ := shf_in (m - 1) z f i (by omega)
  obtain ⟨r, hr, e2⟩ := h j (by omega)
  exact ⟨r, hr, by rw [← e2, ← e]; rfl⟩
/-- things are dealt: the i-th one's number stands for g i -/
def dl (O : Nat → Int32) (g : Nat → Int32) (old : Nat → Int32) : Nat → (Nat → Int32)
  | 0 => old
  | i + 1 => upd (dl O g old i) (O i).toNatClampNeg (g i)
/-- the part of the at-th thing, by quotas -/
def pt (q : Nat → Nat) (a : Nat) : Nat → Nat
  | 0 => 0
  | k + 1 => if sm q k ≤ a then k else pt q a k
theorem sm_mono (f : Nat → Nat) {a b : Nat} (h : a ≤ b) : sm f a ≤ sm f b := by
  obtain ⟨d, rfl⟩ : ∃ d, b = a + d := ⟨b - a, by omega⟩
  induction d with
  | zero => exact Nat.le_refl _
  | succ d ih => exact Nat.le_trans (ih (by omega)) (Nat.le_add_right _ _)
theorem pt_is {q : Nat → Nat} {a p : Nat} (h1 : sm q p ≤ a) (h2 : a < sm q (p + 1)) : ∀ k, p < k → pt q a k = p := by
  intro k hk
  obtain ⟨d, rfl⟩ : ∃ d, k = p + 1 + d := ⟨k - (p + 1), by omega⟩
  induction d with
  | zero => exact if_pos h1
  | succ d ih =>
    have : ¬ sm q (p + 1 + d) ≤ a := by
      have := sm_mono q (show p + 1 ≤ p + 1 + d by omega)
      omega
    show (if sm q (p + 1 + d) ≤ a then p + 1 + d else pt q a (p + 1 + d)) = p
    rw [if_neg this]
    exact ih (by omega)
/-- the quotas' sum -/
theorem qi_sum (k : Nat) (hk : 1 ≤ k) (s : (Nat → Nat) × (Nat → Int32)) : ∀ i, sm (qi k i s).1 k = sm s.1 k + i
  | 0 => rfl
  | i + 1 => by
    have ih := qi_sum k hk s i
    have hp := qi_le k hk s i
    have key : ∀ (f : Nat → Nat) (a m : Nat), sm (fun j => if j = a then f j + 1 else f j) m = sm f m + (if a < m then 1 else 0) := by
      intro f a m
      induction m with
      | zero => simp [sm]
      | succ m ihm =>
        simp only [sm]
        rw [ihm]
        by_cases e : m = a
        · subst e; rw [if_pos rfl, if_neg (by omega), if_pos (by omega)]; omega
        · rw [if_neg e]
          by_cases h : a < m
          · rw [if_pos h, if_pos (by omega)]; omega
          · rw [if_neg h, if_neg (by omega)]; omega
    show sm (fun j => if j = ag (qi k i s).2 (k - 1) then (qi k i s).1 j + 1 else (qi k i s).1 j) k = _
    rw [key, if_pos hp, ih]
    omega
theorem qf_sum {w : Nat → Nat} {W k n : Nat} (h : wok w W k) : sm (qf w W k n) k = n := by
  unfold qf
  rw [qi_sum k h.1]
  have h1 := (qm_lt (n := n) h).1
  show sm (fun j => n * w j / W) k + qm w W k n = n
  unfold qm
  omega
/-- the next part, going round -/
def nx (k first : Nat) : Nat → Nat
  | 0 => first
  | i + 1 => if nx k first i + 1 < k then nx k first i + 1 else 0
theorem nx_lt {k first : Nat} (h : first < k) : ∀ i, nx k first i < k
  | 0 => h
  | i + 1 => by
    have := nx_lt h i
    simp only [nx]
    split <;> omega
