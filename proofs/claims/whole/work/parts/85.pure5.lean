/-! pure: the gaps -/
/-- a time, or none -/
def vt (x : Int32) : Prop := x = -1 ∨ ∃ t, t ≤ 100000 ∧ x = nI t
theorem vt_n {t : Nat} (h : t ≤ 100000) : vt (nI t) := Or.inr ⟨t, h, rfl⟩
theorem vt_m : vt (-1) := Or.inl rfl
theorem vt_lt {x y : Int32} (hx : vt x) (hy : vt y) : x < y ↔ x.toInt < y.toInt := Int32.lt_iff_toInt_lt
theorem lat_vt {T Pl old : Nat → Int32} (n : Nat) (hT : ∀ r, r < n → ∃ t, t ≤ 100000 ∧ T r = nI t) : ∀ r, r ≤ n → ∀ p, p < 4 → vt (lat T Pl old r p)
  | 0, _, p, hp => by
    show vt (mx 4 (fun _ => -1) old p)
    rw [mx_lt hp]; exact vt_m
  | r + 1, hr, p, hp => by
    have ih := lat_vt (Pl := Pl) (old := old) n hT r (by omega)
    simp only [lat]
    split
    · by_cases e : p = tn (Pl r)
      · rw [e, pk_us]
        exact Or.inr (hT r (by omega))
      · rw [pk_un e]; exact ih p hp
    · exact ih p hp
theorem lat_c {T Pl Pl' old old' : Nat → Int32} {n : Nat} (h : ∀ r, r < n → Pl r = Pl' r) : ∀ r, r ≤ n → ∀ p, p < 4 → lat T Pl old r p = lat T Pl' old' r p
  | 0, _, p, hp => by
    show mx 4 (fun _ => -1) old p = mx 4 (fun _ => -1) old' p
    rw [mx_lt hp, mx_lt hp]
  | r + 1, hr, p, hp => by
    have ih := lat_c (T := T) (old := old) (old' := old') h r (by omega)
    have e := h r (by omega)
    simp only [lat]
    rw [← e]
    by_cases hin : 0 ≤ Pl r ∧ Pl r < 4
    · have hlt : tn (Pl r) < 4 := by
        obtain ⟨j, hj, e2⟩ := in_of (b := 4) (by decide) hin
        rw [e2]
        show (nI j).toNatClampNeg < 4
        rw [nI_clamp (by omega)]; exact hj
      rw [ih _ hlt]
      split
      · by_cases e3 : p = tn (Pl r)
        · rw [e3, pk_us, pk_us]
        · rw [pk_un e3, pk_un e3]; exact ih p hp
      · exact ih p hp
    · rw [if_neg (fun z => hin z.1), if_neg (fun z => hin z.1)]
      exact ih p hp
theorem gq_c {T Pl Pl' : Nat → Int32} {n : Nat} (h : ∀ r, r < n → Pl r = Pl' r) : ∀ r, r ≤ n → gq T Pl r = gq T Pl' r
  | 0, _ => rfl
  | r + 1, hr => by
    simp only [gq]
    rw [gq_c h r (by omega), h r (by omega)]
/-- the greatest of the earlier parts' latest times -/
theorem gq_lat {T Pl old : Nat → Int32} (n : Nat) (hT : ∀ r, r < n → ∃ t, t ≤ 100000 ∧ T r = nI t) (hP : ∀ r, r < n → ∃ c, c < 4 ∧ Pl r = nI c) : ∀ r, r ≤ n → ∀ c, c < 4 → (∀ p, p < c → (lat T Pl old r p).toInt ≤ (gq T Pl r c).toInt) ∧ (gq T Pl r c = -1 ∨ ∃ p, p < c ∧ lat T Pl old r p = gq T Pl r c)
  | 0, _, c, hc => by
    refine ⟨fun p hp => ?_, Or.inl rfl⟩
    show (mx 4 (fun _ => -1) old p).toInt ≤ (-1 : Int32).toInt
    rw [mx_lt (by omega)]
    exact Int.le_refl _
  | r + 1, hr, c, hc => by
    have ih := gq_lat (old := old) n hT hP r (by omega)
    obtain ⟨q, hq, eq⟩ := hP r (by omega)
    have htq : tn (nI q) = q := nI_clamp (by omega)
    have hin : (0 ≤ nI q ∧ nI q < 4) := of_in hq (by decide)
    have hL : ∀ p, lat T Pl old (r + 1) p = if p = q ∧ (lat T Pl old r q).toInt < (T r).toInt then T r else lat T Pl old r p := by
      intro p
      simp only [lat]
      rw [eq, htq]
      by_cases e : lat T Pl old r q < T r
      · rw [if_pos ⟨hin, e⟩]
        have e' := Int32.lt_iff_toInt_lt.mp e
        by_cases e2 : p = q
        · rw [e2, pk_us, if_pos ⟨rfl, e'⟩]
        · rw [pk_un e2, if_neg (fun z => e2 z.1)]
      · rw [if_neg (fun z => e z.2), if_neg (fun z => e (Int32.lt_iff_toInt_lt.mpr z.2))]
    have hQ : gq T Pl (r + 1) c = if q < c ∧ (gq T Pl r c).toInt < (T r).toInt then T r else gq T Pl r c := by
      simp only [gq]
      rw [eq, htq]
      by_cases e : (q < c ∧ c < 4) ∧ gq T Pl r c < T r
      · rw [if_pos e, if_pos ⟨e.1.1, Int32.lt_iff_toInt_lt.mp e.2⟩]
      · rw [if_neg e, if_neg (fun z => e ⟨⟨z.1, hc⟩, Int32.lt_iff_toInt_lt.mpr z.2⟩)]
    obtain ⟨h1, h2⟩ := ih c hc
    refine ⟨fun p hp => ?_, ?_⟩
    · rw [hL, hQ]
      have hp1 := h1 p hp
      by_cases e : p = q ∧ (lat T Pl old r q).toInt < (T r).toInt
      · rw [if_pos e]
        by_cases e2 : q < c ∧ (gq T Pl r c).toInt < (T r).toInt
        · rw [if_pos e2]; exact Int.le_refl _
        · rw [if_neg e2]
          have : ¬ (gq T Pl r c).toInt < (T r).toInt := fun z => e2 ⟨by have := e.1; omega, z⟩
          omega
      · rw [if_neg e]
        by_cases e2 : q < c ∧ (gq T Pl r c).toInt < (T r).toInt
        · rw [if_pos e2]; omega
        · rw [if_neg e2]; exact hp1
    · rw [hQ]
      by_cases e2 : q < c ∧ (gq T Pl r c).toInt < (T r).toInt
      · rw [if_pos e2]
        have := h1 q e2.1
        exact Or.inr ⟨q, e2.1, by rw [hL, if_pos ⟨rfl, by omega⟩]⟩
      · rw [if_neg e2]
        rcases h2 with h2 | ⟨p, hp, h2⟩
        · exact Or.inl h2
        · refine Or.inr ⟨p, hp, ?_⟩
          rw [hL]
          by_cases e : p = q ∧ (lat T Pl old r q).toInt < (T r).toInt
          · exfalso
            refine e2 ⟨by have := e.1; omega, ?_⟩
            rw [← h2, e.1]
            exact e.2
          · rw [if_neg e, h2]
theorem gap_eq {T Pl old : Nat → Int32} {n : Nat} (hT : ∀ r, r < n → ∃ t, t ≤ 100000 ∧ T r = nI t) (hP : ∀ r, r < n → ∃ c, c < 4 ∧ Pl r = nI c) {g : Int32} (hg : ∃ b, b ≤ 100000 ∧ g = nI b) {r : Nat} (hr : r < n) : ingap T (lat T Pl old n) g r (tn (Pl r)) ↔ (gq T Pl n (tn (Pl r)) ≠ -1 ∧ T r < g + gq T Pl n (tn (Pl r))) := by
  obtain ⟨c, hc, ec⟩ := hP r hr
  have htc : tn (Pl r) = c := by rw [ec]; exact nI_clamp (by omega)
  rw [htc]
  obtain ⟨h1, h2⟩ := gq_lat (old := old) n hT hP n (Nat.le_refl n) c hc
  obtain ⟨b, hb, rfl⟩ := hg
  obtain ⟨t, ht, et⟩ := hT r hr
  have hv := lat_vt (Pl := Pl) (old := old) n hT n (Nat.le_refl n)
  have em : (-1 : Int32).toInt = -1 := by decide
  have add : ∀ {x : Int32}, vt x → x ≠ -1 → (x + nI b).toInt = x.toInt + b ∧ 0 ≤ x.toInt := by
    intro x hx hne
    rcases hx with hx | ⟨a, ha, rfl⟩
    · exact absurd hx hne
    · rw [nI_add, nI_toInt (by omega), nI_toInt (by omega)]
      omega
  have hgv : gq T Pl n c = -1 ∨ vt (gq T Pl n c) := by
    rcases h2 with h | ⟨p, hp, h⟩
    · exact Or.inl h
    · right; rw [← h]; exact hv p (by omega)
  show fs (fun p => lat T Pl old n p ≠ -1 ∧ T r < lat T Pl old n p + nI b) c ≠ none ↔ _
  rw [← ex_fs]
  constructor
  · rintro ⟨p, hp, h3, h4⟩
    have h5 := h1 p hp
    obtain ⟨a1, a2⟩ := add (hv p (by omega)) h3
    have hne : gq T Pl n c ≠ -1 := fun z => by rw [z, em] at h5; omega
    obtain ⟨b1, b2⟩ := add (hgv.resolve_left hne) hne
    refine ⟨hne, ?_⟩
    rw [Int32.add_comm, Int32.lt_iff_toInt_lt, b1]
    rw [Int32.lt_iff_toInt_lt, a1] at h4
    omega
  · rintro ⟨hne, h4⟩
    rcases h2 with h | ⟨p, hp, h⟩
    · exact absurd h hne
    · refine ⟨p, hp, by rw [h]; exact hne, ?_⟩
      rw [h, Int32.add_comm]
      exact h4
theorem PL2_eq {T : Nat → Int32} {w : Nat → Nat} {W k n : Nat} {g : Int32} {o16 o15 o18 o13 o12 : Nat → Int32} (hn : n ≤ 100) (hk : 1 ≤ k) (hk4 : k ≤ 4) (hT : ∀ r, r < n → ∃ t, t ≤ 100000 ∧ T r = nI t) (hg : ∃ b, b ≤ 100000 ∧ g = nI b) : ∀ r, r < n → PL2 T w W k n g o16 o15 o18 r = PM2 T w W k n g o13 o12 r := by
  intro r hr
  have hi := tPl_i (T := T) (w := w) (W := W) (k := k) (o16 := o16) (o15 := o15) (o16' := o13) (o15' := o12) hn
  have hP : ∀ r, r < n → ∃ c, c < 4 ∧ tPl T w W k n o16 o15 r = nI c := fun r hr => by
    obtain ⟨c, hc, e⟩ := tPl_in (T := T) (w := w) (W := W) (k := k) (o16 := o16) (o15 := o15) hk hn r hr
    exact ⟨c, by omega, e⟩
  unfold PL2 PM2
  rw [mx_lt hr, mx_lt hr, ← hi r hr, ← gq_c hi n (Nat.le_refl n)]
  have h := gap_eq (old := o18) hT hP hg hr
  by_cases e : ingap T (lat T (tPl T w W k n o16 o15) o18 n) g r (tn (tPl T w W k n o16 o15 r))
  · rw [if_pos e, if_pos (h.mp e)]
  · rw [if_neg e, if_neg (fun z => e (h.mpr z))]
