/-! pure: things that cover all rows; what is dealt -/
def cov (O : Nat → Int32) (n : Nat) : Prop := ∀ r, r < n → ∃ i, i < n ∧ O i = nI r
theorem mx_cov {n : Nat} {old : Nat → Int32} : cov (mx n nI old) n := fun r hr => ⟨r, hr, mx_lt hr⟩
theorem shf_top : ∀ (t : Nat) (z : Int64) (f : Nat → Int32) (i : Nat), t < i → (shf t z f).2 i = f i
  | 0, z, f, i, hi => rfl
  | t + 1, z, f, i, hi => by
    have hd := dw_lt (z := nz z) (n := t + 2) (by omega)
    show (shf t (nz z) (upd (upd f (t + 1) (f (dw (nz z) (t + 2)))) (dw (nz z) (t + 2)) (f (t + 1)))).2 i = f i
    rw [shf_top t (nz z) _ i (by omega), pk_un (by omega), pk_un (by omega)]
theorem shf_cov : ∀ (t : Nat) (z : Int64) (f : Nat → Int32) (j : Nat), j ≤ t → ∃ i, i ≤ t ∧ (shf t z f).2 i = f j
  | 0, z, f, j, hj => ⟨j, hj, rfl⟩
  | t + 1, z, f, j, hj => by
    have hd := dw_lt (z := nz z) (n := t + 2) (by omega)
    show ∃ i, i ≤ t + 1 ∧ (shf t (nz z) (upd (upd f (t + 1) (f (dw (nz z) (t + 2)))) (dw (nz z) (t + 2)) (f (t + 1)))).2 i = f j
    generalize dw (nz z) (t + 2) = d at hd ⊢
    have key : ∃ q, q ≤ t + 1 ∧ upd (upd f (t + 1) (f d)) d (f (t + 1)) q = f j := by
      by_cases e : j = t + 1
      · exact ⟨d, by omega, by rw [pk_us, e]⟩
      · by_cases e2 : j = d
        · refine ⟨t + 1, by omega, ?_⟩
          rw [pk_un (by omega), pk_us, e2]
        · exact ⟨j, by omega, by rw [pk_un e2, pk_un e]⟩
    obtain ⟨q, hq, h⟩ := key
    by_cases e : q ≤ t
    · obtain ⟨i, hi, h2⟩ := shf_cov t (nz z) (upd (upd f (t + 1) (f d)) d (f (t + 1))) q e
      exact ⟨i, by omega, h2.trans h⟩
    · have : q = t + 1 := by omega
      subst this
      exact ⟨t + 1, by omega, (shf_top t (nz z) _ (t + 1) (by omega)).trans h⟩
theorem shm_cov {m : Nat} {z : Int64} {f : Nat → Int32} {j : Nat} (hj : j < m) : ∃ i, i < m ∧ (shm m z f).2 i = f j := by
  obtain ⟨i, hi, h⟩ := shf_cov (m - 1) z f j (by omega)
  exact ⟨i, by omega, h⟩
theorem insS_cov (T : Nat → Int32) {row : Int32} : ∀ (a : Nat) (f : Nat → Int32), (∃ i, i ≤ a ∧ insS T row a f i = row) ∧ ∀ j, j < a → ∃ i, i ≤ a ∧ insS T row a f i = f j
  | 0, f => ⟨⟨0, Nat.le_refl 0, pk_us⟩, fun j hj => by omega⟩
  | a + 1, f => by
    simp only [insS]
    split
    · refine ⟨⟨a + 1, Nat.le_refl _, pk_us⟩, fun j hj => ⟨j, by omega, pk_un (by omega)⟩⟩
    · obtain ⟨⟨i, hi, h1⟩, h2⟩ := insS_cov T (row := row) a (upd f (a + 1) (f a))
      refine ⟨⟨i, by omega, h1⟩, fun j hj => ?_⟩
      by_cases e : j = a
      · refine ⟨a + 1, Nat.le_refl _, ?_⟩
        rw [insS_hi T a (upd f (a + 1) (f a)) (a + 1) (by omega), pk_us, e]
      · obtain ⟨q, hq, h3⟩ := h2 j (by omega)
        rw [pk_un (by omega)] at h3
        exact ⟨q, by omega, h3⟩
where
  insS_hi (T : Nat → Int32) {row : Int32} : ∀ (a : Nat) (f : Nat → Int32) (i : Nat), a < i → insS T row a f i = f i
  | 0, f, i, h => pk_un (by omega)
  | a + 1, f, i, h => by
    simp only [insS]
    split
    · exact pk_un (by omega)
    · rw [insS_hi T a _ i (by omega), pk_un (by omega)]
theorem srt_hi (T : Nat → Int32) (f : Nat → Int32) : ∀ (i j : Nat), i ≤ j → srt T f i j = f j
  | 0, j, _ => rfl
  | i + 1, j, h => by
    show insS T (srt T f i i) i (srt T f i) j = f j
    rw [insS_cov.insS_hi T i _ j (by omega), srt_hi T f i j (by omega)]
theorem srt_cov (T : Nat → Int32) (f : Nat → Int32) : ∀ (m j : Nat), j < m → ∃ i, i < m ∧ srt T f m i = f j
  | 0, j, h => by omega
  | m + 1, j, h => by
    show ∃ i, i < m + 1 ∧ insS T (srt T f m m) m (srt T f m) i = f j
    obtain ⟨⟨i, hi, h1⟩, h2⟩ := insS_cov T (row := srt T f m m) m (srt T f m)
    by_cases e : j = m
    · refine ⟨i, by omega, ?_⟩
      rw [h1, srt_hi T f m m (Nat.le_refl _), e]
    · obtain ⟨q, hq, h3⟩ := srt_cov T f m j (by omega)
      obtain ⟨i2, hi2, h4⟩ := h2 q hq
      exact ⟨i2, by omega, h4.trans h3⟩
/-- what is dealt to a thing that is there -/
theorem dl_hit {O g old : Nat → Int32} : ∀ {m r : Nat}, (∃ i, i < m ∧ tn (O i) = r) → ∃ i, i < m ∧ dl O g old m r = g i
  | 0, r, ⟨i, hi, _⟩ => by omega
  | m + 1, r, ⟨i, hi, e⟩ => by
    by_cases e2 : r = tn (O m)
    · refine ⟨m, by omega, ?_⟩
      show upd (dl O g old m) (tn (O m)) (g m) r = g m
      rw [e2, pk_us]
    · have hi2 : i ≠ m := fun z => e2 (by rw [← e, z])
      obtain ⟨q, hq, h⟩ := dl_hit (O := O) (g := g) (old := old) (m := m) ⟨i, by omega, e⟩
      refine ⟨q, by omega, ?_⟩
      show upd (dl O g old m) (tn (O m)) (g m) r = g q
      rw [pk_un e2, h]
theorem dl_not {O g old : Nat → Int32} : ∀ {m r : Nat}, (∀ i, i < m → tn (O i) ≠ r) → dl O g old m r = old r
  | 0, r, _ => rfl
  | m + 1, r, h => by
    show upd (dl O g old m) (tn (O m)) (g m) r = old r
    rw [pk_un (fun z => h m (by omega) z.symm), dl_not (fun i hi => h i (by omega))]
/-- what is dealt hangs on the things alone -/
theorem dl_c {O O' g g' old old' : Nat → Int32} : ∀ {m r : Nat}, (∀ i, i < m → O i = O' i ∧ g i = g' i) → ((∃ i, i < m ∧ tn (O i) = r) ∨ old r = old' r) → dl O g old m r = dl O' g' old' m r
  | 0, r, _, h => by
    rcases h with ⟨i, hi, _⟩ | h
    · omega
    · exact h
  | m + 1, r, hO, h => by
    show upd (dl O g old m) (tn (O m)) (g m) r = upd (dl O' g' old' m) (tn (O' m)) (g' m) r
    rw [← (hO m (by omega)).1, ← (hO m (by omega)).2]
    by_cases e : r = tn (O m)
    · rw [e, pk_us, pk_us]
    · rw [pk_un e, pk_un e]
      refine dl_c (fun i hi => hO i (by omega)) ?_
      rcases h with ⟨i, hi, h⟩ | h
      · exact Or.inl ⟨i, by
          have : i ≠ m := fun z => e (by rw [← h, z])
          omega, h⟩
      · exact Or.inr h
theorem pt_lt {q : Nat → Nat} {a : Nat} : ∀ {k : Nat}, 0 < k → pt q a k < k
  | 0, h => by omega
  | k + 1, _ => by
    show (if sm q k ≤ a then k else pt q a k) < k + 1
    split
    · omega
    · by_cases h : 0 < k
      · have := pt_lt (q := q) (a := a) h
        omega
      · have : k = 0 := by omega
        subst this
        exact Nat.lt_succ_self 0
/-- joined rows are in parts that were dealt -/
theorem jn_in {T O pl : Nat → Int32} {P : Int32 → Prop} {n : Nat} (h : ∀ r, r < n → P (pl r)) : ∀ i, (∀ j, j ≤ i → tn (O j) < n) → ∀ r, r < n → P (jn T O pl i r)
  | 0, _, r, hr => h r hr
  | i + 1, hO, r, hr => by
    have ih := jn_in (T := T) (O := O) h i (fun j hj => hO j (by omega))
    show P ((if T (tn (O (i + 1))) = T (tn (O i)) then upd (jn T O pl i) (tn (O (i + 1))) (jn T O pl i (tn (O i))) else jn T O pl i) r)
    split
    · by_cases e : r = tn (O (i + 1))
      · rw [e, pk_us]; exact ih _ (hO i (by omega))
      · rw [pk_un e]; exact ih r hr
    · exact ih r hr
