/-! pure: what is planned doesn't hang on what lay there before -/
theorem sel_i {p : Nat → Prop} [DecidablePred p] {old old' : Nat → Int32} : ∀ n i, i < ct p n → sel p old n i = sel p old' n i
  | 0, i, h => by cases h
  | n + 1, i, hi => by
    have ih := sel_i (p := p) (old := old) (old' := old') n
    by_cases h : p n
    · rw [sel_t h, sel_t h]
      rw [ct_t h] at hi
      by_cases e : i = ct p n
      · rw [e, pk_us, pk_us]
      · rw [pk_un e, pk_un e]
        exact ih i (by omega)
    · rw [sel_f h, sel_f h]
      rw [ct_f h] at hi
      exact ih i hi
theorem sel_cov {p : Nat → Prop} [DecidablePred p] {old : Nat → Int32} : ∀ n r, r < n → p r → ∃ i, i < ct p n ∧ sel p old n i = nI r
  | 0, r, h, _ => by cases h
  | n + 1, r, hr, hp => by
    have ih := sel_cov (p := p) (old := old) n
    by_cases h : p n
    · rw [sel_t h, ct_t h]
      by_cases e : r = n
      · exact ⟨ct p n, by omega, by rw [pk_us, e]⟩
      · obtain ⟨i, hi, e2⟩ := ih r (by omega) hp
        exact ⟨i, by omega, by rw [pk_un (by omega), e2]⟩
    · have e : r ≠ n := fun z => h (z ▸ hp)
      rw [sel_f h, ct_f h]
      exact ih r (by omega) hp
theorem shf_i : ∀ (t : Nat) (z : Int64) (f g : Nat → Int32), (∀ j, j ≤ t → f j = g j) → (shf t z f).1 = (shf t z g).1 ∧ ∀ j, j ≤ t → (shf t z f).2 j = (shf t z g).2 j
  | 0, z, f, g, h => ⟨rfl, h⟩
  | t + 1, z, f, g, h => by
    have hd := dw_lt (z := nz z) (n := t + 2) (by omega)
    show (shf t (nz z) (upd (upd f (t + 1) (f (dw (nz z) (t + 2)))) (dw (nz z) (t + 2)) (f (t + 1)))).1 = (shf t (nz z) (upd (upd g (t + 1) (g (dw (nz z) (t + 2)))) (dw (nz z) (t + 2)) (g (t + 1)))).1 ∧ ∀ j, j ≤ t + 1 → (shf t (nz z) (upd (upd f (t + 1) (f (dw (nz z) (t + 2)))) (dw (nz z) (t + 2)) (f (t + 1)))).2 j = (shf t (nz z) (upd (upd g (t + 1) (g (dw (nz z) (t + 2)))) (dw (nz z) (t + 2)) (g (t + 1)))).2 j
    generalize dw (nz z) (t + 2) = d at hd ⊢
    have key : ∀ j, j ≤ t + 1 → upd (upd f (t + 1) (f d)) d (f (t + 1)) j = upd (upd g (t + 1) (g d)) d (g (t + 1)) j := by
      intro j hj
      rw [h d (by omega), h (t + 1) (by omega)]
      by_cases e : j = d
      · rw [e, pk_us, pk_us]
      · rw [pk_un e, pk_un e]
        by_cases e2 : j = t + 1
        · rw [e2, pk_us, pk_us]
        · rw [pk_un e2, pk_un e2, h j hj]
    have ih := shf_i t (nz z) _ _ (fun j hj => key j (by omega))
    refine ⟨ih.1, fun j hj => ?_⟩
    by_cases e : j ≤ t
    · exact ih.2 j e
    · rw [shf_top t (nz z) _ j (by omega), shf_top t (nz z) _ j (by omega)]
      exact key j hj
theorem shm_i {m : Nat} {z : Int64} {f g : Nat → Int32} (h : ∀ j, j < m → f j = g j) : (shm m z f).1 = (shm m z g).1 ∧ ∀ j, j < m → (shm m z f).2 j = (shm m z g).2 j := by
  by_cases h0 : m = 0
  · subst h0
    exact ⟨rfl, fun j hj => by omega⟩
  · obtain ⟨h1, h2⟩ := shf_i (m - 1) z f g (fun j hj => h j (by omega))
    exact ⟨h1, fun j hj => h2 j (by omega)⟩
theorem PL0_i {w : Nat → Nat} {W k n : Nat} {z : Int64} {o16 o15 o16' o15' : Nat → Int32} (hn : n ≤ 100) : ∀ r, r < n → PL0 w W k n z o16 o15 r = PL0 w W k n z o16' o15' r := by
  intro r hr
  have hs := shm_i (m := n) (z := z) (f := mx n nI o16) (g := mx n nI o16') (fun j hj => by rw [mx_lt hj, mx_lt hj])
  unfold PL0
  refine dl_c (fun i hi => ⟨hs.2 i hi, rfl⟩) (Or.inl ?_)
  obtain ⟨i, hi, e⟩ := shm_cov (m := n) (z := z) (f := mx n nI o16) (j := r) hr
  exact ⟨i, hi, by rw [e, mx_lt hr]; exact nI_clamp (by omega)⟩
theorem lst_i {Lb : Nat → Int32} {w : Nat → Nat} {W k n : Nat} {z : Int64} {o16 o15 o16' o15' : Nat → Int32} (hn : n ≤ 100) : ∀ l, (lst Lb w W k n z o16 o15 l).1 = (lst Lb w W k n z o16' o15' l).1 ∧ ∀ r, r < n → (∃ j, j < l ∧ Lb r = nI j) ∨ o15 r = o15' r → (lst Lb w W k n z o16 o15 l).2.2 r = (lst Lb w W k n z o16' o15' l).2.2 r
  | 0 => ⟨rfl, fun r hr h => h.elim (fun ⟨j, hj, _⟩ => by omega) id⟩
  | l + 1 => by
    obtain ⟨h1, h2⟩ := lst_i (Lb := Lb) (w := w) (W := W) (k := k) (z := z) (o16 := o16) (o15 := o15) (o16' := o16') (o15' := o15') hn l
    simp only [lst]
    rw [← h1]
    generalize (lst Lb w W k n z o16 o15 l).1 = zz at h1 ⊢
    generalize (lst Lb w W k n z o16 o15 l).2.1 = f
    generalize (lst Lb w W k n z o16' o15' l).2.1 = f'
    have hs := shm_i (m := ct (fun r => Lb r = nI l) n) (z := zz) (f := sel (fun r => Lb r = nI l) f n) (g := sel (fun r => Lb r = nI l) f' n) (fun j hj => sel_i n j hj)
    refine ⟨hs.1, fun r hr h => dl_c (fun i hi => ⟨hs.2 i hi, rfl⟩) ?_⟩
    by_cases hl : Lb r = nI l
    · left
      obtain ⟨j, hj, e⟩ := sel_cov (p := fun r => Lb r = nI l) (old := f) n r hr hl
      obtain ⟨i, hi, e2⟩ := shm_cov (m := ct (fun r => Lb r = nI l) n) (z := zz) (f := sel (fun r => Lb r = nI l) f n) hj
      exact ⟨i, hi, by rw [e2, e]; exact nI_clamp (by omega)⟩
    · right
      refine h2 r hr (h.imp (fun ⟨j, hj, e⟩ => ⟨j, ?_, e⟩) id)
      have : j ≠ l := fun z => hl (z ▸ e)
      omega
theorem fst_c {p q : Nat → Nat → Prop} [∀ l, DecidablePred (p l)] [∀ l, DecidablePred (q l)] {k n : Nat} {z : Int64} {o16 o15 : Nat → Int32} (h : ∀ l r, r < n → (p l r ↔ q l r)) : ∀ l, fst p k n z o16 o15 l = fst q k n z o16 o15 l
  | 0 => rfl
  | l + 1 => by
    have ih := fst_c (k := k) (z := z) (o16 := o16) (o15 := o15) h l
    have e1 : ct (p l) n = ct (q l) n := ct_c (fun i hi => h l i hi)
    have e2 : ∀ f, sel (p l) f n = sel (q l) f n := fun f => sel_c (fun i hi => h l i hi)
    simp only [fst]
    rw [ih, e1, e2]
theorem fst_i {p : Nat → Nat → Prop} [∀ l, DecidablePred (p l)] {k n : Nat} {z : Int64} {o16 o15 o16' o15' : Nat → Int32} (hn : n ≤ 100) : ∀ l, (fst p k n z o16 o15 l).1 = (fst p k n z o16' o15' l).1 ∧ (fst p k n z o16 o15 l).2.2.2 = (fst p k n z o16' o15' l).2.2.2 ∧ ∀ r, r < n → (∃ j, j < l ∧ p j r) ∨ o15 r = o15' r → (fst p k n z o16 o15 l).2.2.1 r = (fst p k n z o16' o15' l).2.2.1 r
  | 0 => ⟨rfl, rfl, fun r hr h => h.elim (fun ⟨j, hj, _⟩ => by omega) id⟩
  | l + 1 => by
    obtain ⟨h1, h3, h2⟩ := fst_i (p := p) (k := k) (z := z) (o16 := o16) (o15 := o15) (o16' := o16') (o15' := o15') hn l
    simp only [fst]
    rw [← h1, ← h3]
    generalize (fst p k n z o16 o15 l).1 = zz at h1 ⊢
    generalize (fst p k n z o16 o15 l).2.1 = f
    generalize (fst p k n z o16' o15' l).2.1 = f'
    have hs := shm_i (m := ct (p l) n) (z := zz) (f := sel (p l) f n) (g := sel (p l) f' n) (fun j hj => sel_i n j hj)
    refine ⟨hs.1, rfl, fun r hr h => dl_c (fun i hi => ⟨hs.2 i hi, rfl⟩) ?_⟩
    by_cases hl : p l r
    · left
      obtain ⟨j, hj, e⟩ := sel_cov (p := p l) (old := f) n r hr hl
      obtain ⟨i, hi, e2⟩ := shm_cov (m := ct (p l) n) (z := zz) (f := sel (p l) f n) hj
      exact ⟨i, hi, by rw [e2, e]; exact nI_clamp (by omega)⟩
    · right
      refine h2 r hr (h.imp (fun ⟨j, hj, e⟩ => ⟨j, ?_, e⟩) id)
      have : j ≠ l := fun z => hl (z ▸ e)
      omega
/-- a row that is dealt is in a part -/
theorem fst_hit {p : Nat → Nat → Prop} [∀ l, DecidablePred (p l)] {k n : Nat} {z : Int64} {o16 o15 : Nat → Int32} (hn : n ≤ 100) (hk : 0 < k) : ∀ l r, r < n → (∃ j, j < l ∧ p j r) → ∃ c, c < k ∧ (fst p k n z o16 o15 l).2.2.1 r = nI c
  | 0, r, _, ⟨j, hj, _⟩ => by omega
  | l + 1, r, hr, h => by
    have ih := fst_hit (p := p) (k := k) (z := z) (o16 := o16) (o15 := o15) hn hk l r hr
    have hlt := fst_lt (p := p) (n := n) (z := z) (o16 := o16) (o15 := o15) hk l
    simp only [fst]
    generalize (fst p k n z o16 o15 l).1 = zz
    generalize (fst p k n z o16 o15 l).2.1 = f
    generalize (fst p k n z o16 o15 l).2.2.2 = ff at hlt ⊢
    by_cases hl : ∃ i, i < ct (p l) n ∧ tn ((shm (ct (p l) n) zz (sel (p l) f n)).2 i) = r
    · obtain ⟨i, hi, e⟩ := dl_hit (g := fun i => nI (nx k ff i)) (old := (fst p k n z o16 o15 l).2.2.1) hl
      exact ⟨_, nx_lt hlt i, e⟩
    · rw [dl_not (fun i hi e => hl ⟨i, hi, e⟩)]
      refine ih ?_
      obtain ⟨j, hj, hp⟩ := h
      refine ⟨j, ?_, hp⟩
      have : j ≠ l := fun z => by
        subst z
        obtain ⟨q, hq, e⟩ := sel_cov (p := p j) (old := f) n r hr hp
        obtain ⟨i, hi, e2⟩ := shm_cov (m := ct (p j) n) (z := zz) (f := sel (p j) f n) hq
        exact hl ⟨i, hi, by rw [e2, e]; exact nI_clamp (by omega)⟩
      omega
/-- rows that are never dealt stay -/
theorem fst_not {p : Nat → Nat → Prop} [∀ l, DecidablePred (p l)] {k n : Nat} {z : Int64} {o16 o15 : Nat → Int32} (hn : n ≤ 100) : ∀ l r, r < n → (∀ j, j < l → ¬ p j r) → (fst p k n z o16 o15 l).2.2.1 r = o15 r
  | 0, r, _, _ => rfl
  | l + 1, r, hr, h => by
    have ih := fst_not (p := p) (k := k) (z := z) (o16 := o16) (o15 := o15) hn l r hr (fun j hj => h j (by omega))
    simp only [fst]
    rw [dl_not, ih]
    intro i hi e
    obtain ⟨j, hj, e2⟩ := shm_in (z := (fst p k n z o16 o15 l).1) (f := sel (p l) (fst p k n z o16 o15 l).2.1 n) hi
    obtain ⟨q, hq, hpq, e3⟩ := sel_p (p := p l) (old := (fst p k n z o16 o15 l).2.1) n j hj
    rw [e2, e3, show tn (nI q) = q from nI_clamp (by omega)] at e
    subst e
    exact h l (by omega) hpq
theorem gst_i {Gp w O O' : Nat → Int32} {a b : Int32} {k n : Nat} {pl pl' H H' : Nat → Int32} {m : Nat} (hk : 1 ≤ k) (hO : ∀ i, i < m → O i = O' i) (hH : ∀ p, p < k → H p = H' p) : ∀ i, i ≤ m → (∀ p, p < k → (gst Gp w O a b k n pl H i).2 p = (gst Gp w O' a b k n pl' H' i).2 p) ∧ ∀ r, r < n → (∃ j, j < i ∧ Gp r = O j) ∨ pl r = pl' r → (gst Gp w O a b k n pl H i).1 r = (gst Gp w O' a b k n pl' H' i).1 r
  | 0, _ => ⟨hH, fun r hr h => h.elim (fun ⟨j, hj, _⟩ => by omega) id⟩
  | i + 1, hi => by
    obtain ⟨h1, h2⟩ := gst_i (Gp := Gp) (w := w) (a := a) (b := b) (n := n) (pl := pl) (pl' := pl') hk hO hH i (by omega)
    have hag : ag (need w (gst Gp w O a b k n pl H i).2 a b) (k - 1) = ag (need w (gst Gp w O' a b k n pl' H' i).2 a b) (k - 1) := ag_c (fun p hp => by
      unfold need
      rw [h1 p (by omega)])
    have hal := ag_le (need w (gst Gp w O' a b k n pl' H' i).2 a b) (k - 1)
    simp only [gst]
    rw [hag, hO i (by omega)]
    generalize ag (need w (gst Gp w O' a b k n pl' H' i).2 a b) (k - 1) = x at hal ⊢
    refine ⟨fun p hp => ?_, fun r hr h => ?_⟩
    · by_cases e : p = x
      · rw [e, pk_us, pk_us, h1 x (by omega)]
      · rw [pk_un e, pk_un e, h1 p hp]
    · unfold pgr
      by_cases e : Gp r = O' i
      · rw [if_pos ⟨hr, e⟩, if_pos ⟨hr, e⟩]
      · rw [if_neg (fun z => e z.2), if_neg (fun z => e z.2)]
        refine h2 r hr (h.imp (fun ⟨j, hj, z⟩ => ⟨j, ?_, z⟩) id)
        have : j ≠ i := fun y => by
          subst y
          rw [hO j (by omega)] at z
          exact e z
        omega
theorem PL1_i {Gp w : Nat → Int32} {Wi : Int32} {k n : Nat} {z : Int64} {o16 o15 o17 o16' o15' o17' : Nat → Int32} (hn : n ≤ 100) (hk : 1 ≤ k) (hk4 : k ≤ 4) (hg : ∀ r, r < n → ∃ g, g < 30 ∧ Gp r = nI g) : ∀ r, r < n → PL1 Gp w Wi k n z o16 o15 o17 r = PL1 Gp w Wi k n z o16' o15' o17' r := by
  intro r hr
  unfold PL1
  have hs := shm_i (m := ct (hasg Gp n) 30) (z := z) (f := sel (hasg Gp n) o16 30) (g := sel (hasg Gp n) o16' 30) (fun j hj => sel_i 30 j hj)
  refine (gst_i (m := ct (hasg Gp n) 30) hk hs.2 (fun p hp => by rw [mx_lt (by omega), mx_lt (by omega)]) _ (Nat.le_refl _)).2 r hr (Or.inl ?_)
  obtain ⟨g, hg30, e⟩ := hg r hr
  have hh : hasg Gp n g := fun z => fs_no z r hr e
  obtain ⟨q, hq, e2⟩ := sel_cov (p := hasg Gp n) (old := o16) 30 g hg30 hh
  obtain ⟨i, hi, e3⟩ := shm_cov (m := ct (hasg Gp n) 30) (z := z) (f := sel (hasg Gp n) o16 30) hq
  exact ⟨i, hi, by rw [e3, e2, e]⟩
theorem srt_i (T : Nat → Int32) {f g : Nat → Int32} {m : Nat} (h : ∀ j, j < m → f j = g j) : ∀ i, i ≤ m → ∀ j, j < m → srt T f i j = srt T g i j
  | 0, _, j, hj => h j hj
  | i + 1, hi, j, hj => by
    have ih := srt_i T h i (by omega)
    show insS T (srt T f i i) i (srt T f i) j = insS T (srt T g i i) i (srt T g i) j
    rw [ih i (by omega)]
    by_cases e : j ≤ i
    · exact insS_c T i _ _ (fun q hq => ih q (by omega)) j e
    · rw [insS_cov.insS_hi T i _ j (by omega), insS_cov.insS_hi T i _ j (by omega), ih j hj]
theorem jn_i {T O O' pl pl' : Nat → Int32} {n : Nat} (h : ∀ r, r < n → pl r = pl' r) : ∀ i, (∀ j, j ≤ i → O j = O' j ∧ tn (O j) < n) → ∀ r, r < n → jn T O pl i r = jn T O' pl' i r
  | 0, _, r, hr => h r hr
  | i + 1, hO, r, hr => by
    have ih := jn_i (T := T) (O := O) (O' := O') h i (fun j hj => hO j (by omega))
    have h1 := hO (i + 1) (by omega)
    have h0 := hO i (by omega)
    simp only [jn]
    rw [← h1.1, ← h0.1]
    split
    · by_cases e : r = tn (O (i + 1))
      · rw [e, pk_us, pk_us]; exact ih _ h0.2
      · rw [pk_un e, pk_un e]; exact ih r hr
    · exact ih r hr
theorem tPl_i {T : Nat → Int32} {w : Nat → Nat} {W k n : Nat} {o16 o15 o16' o15' : Nat → Int32} (hn : n ≤ 100) : ∀ r, r < n → tPl T w W k n o16 o15 r = tPl T w W k n o16' o15' r := by
  have hO : ∀ j, j < n → tO T n o16 j = tO T n o16' j := fun j hj => srt_i T (m := n) (fun q hq => by rw [mx_lt hq, mx_lt hq]) n (Nat.le_refl n) j hj
  intro r hr
  unfold tPl
  refine jn_i (fun r hr => dl_c (fun i hi => ⟨hO i hi, rfl⟩) (Or.inl ?_)) (n - 1) (fun j hj => ⟨hO j (by omega), (vld_lt (tO_v (T := T) hn (o16 := o16)) (by omega) (by omega)).1⟩) r hr
  obtain ⟨i, hi, e⟩ := tO_cov (T := T) (n := n) (o16 := o16) r hr
  exact ⟨i, hi, by rw [e]; exact nI_clamp (by omega)⟩
