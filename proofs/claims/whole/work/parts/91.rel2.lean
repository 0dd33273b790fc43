/-! the splits, both ways -/
theorem lst_hit {Lb : Nat → Int32} {w : Nat → Nat} {W k n : Nat} {z : Int64} {o16 o15 : Nat → Int32} (hn : n ≤ 100) (hk : 0 < k) : ∀ l r, r < n → (∃ j, j < l ∧ Lb r = nI j) → ∃ c, c < k ∧ (lst Lb w W k n z o16 o15 l).2.2 r = nI c
  | 0, r, _, ⟨j, hj, _⟩ => by omega
  | l + 1, r, hr, h => by
    have ih := lst_hit (Lb := Lb) (w := w) (W := W) (k := k) (z := z) (o16 := o16) (o15 := o15) hn hk l r hr
    simp only [lst]
    generalize (lst Lb w W k n z o16 o15 l).1 = zz
    generalize (lst Lb w W k n z o16 o15 l).2.1 = f
    by_cases hl : ∃ i, i < ct (fun r => Lb r = nI l) n ∧ tn ((shm (ct (fun r => Lb r = nI l) n) zz (sel (fun r => Lb r = nI l) f n)).2 i) = r
    · obtain ⟨i, hi, e⟩ := dl_hit (g := fun a => nI (pt (qf w W k (ct (fun r => Lb r = nI l) n)) a k)) (old := (lst Lb w W k n z o16 o15 l).2.2) hl
      exact ⟨_, pt_lt hk, e⟩
    · rw [dl_not (fun i hi e => hl ⟨i, hi, e⟩)]
      refine ih ?_
      obtain ⟨j, hj, hp⟩ := h
      refine ⟨j, ?_, hp⟩
      have : j ≠ l := fun z => by
        subst z
        obtain ⟨q, hq, e⟩ := sel_cov (p := fun r => Lb r = nI j) (old := f) n r hr hp
        obtain ⟨i, hi, e2⟩ := shm_cov (m := ct (fun r => Lb r = nI j) n) (z := zz) (f := sel (fun r => Lb r = nI j) f n) hq
        exact hl ⟨i, hi, by rw [e2, e]; exact nI_clamp (by omega)⟩
      omega
theorem gst_hit {Gp w O : Nat → Int32} {a b : Int32} {k n : Nat} {pl H : Nat → Int32} (hk : 1 ≤ k) : ∀ i r, r < n → (∃ j, j < i ∧ Gp r = O j) → ∃ c, c < k ∧ (gst Gp w O a b k n pl H i).1 r = nI c
  | 0, r, _, ⟨j, hj, _⟩ => by omega
  | i + 1, r, hr, h => by
    have ih := gst_hit (Gp := Gp) (w := w) (O := O) (a := a) (b := b) (pl := pl) (H := H) hk i r hr
    have hal := ag_le (need w (gst Gp w O a b k n pl H i).2 a b) (k - 1)
    simp only [gst, pgr]
    by_cases e : Gp r = O i
    · rw [if_pos ⟨hr, e⟩]
      exact ⟨_, by omega, rfl⟩
    · rw [if_neg (fun z => e z.2)]
      refine ih ?_
      obtain ⟨j, hj, hp⟩ := h
      have : j ≠ i := fun z => e (z ▸ hp)
      exact ⟨j, by omega, hp⟩
section Ops2
variable {n : Nat} {w : Nat → Nat} {W k : Nat} {S M : Sx} {v v' : Option Value} {u u' : List va_E}
theorem PLN_eq (h : Rel n w W k S M) {kd : Nat} (hkd : kd ≤ 3) {z : Int64} {g : Int32} (hg : 0 ≤ g ∧ g < 100001) {q : Nat → Int32} : ∀ r, r < n → PLN S w W k n kd z g r = PMN M w W k n kd z g q r := by
  obtain ⟨⟨a1, a2, a3, a4⟩, ⟨⟨g1, g2, g3, g4⟩, ⟨m1, m2, m3, m4⟩⟩, ⟨b1, b2, b3, b4, b5, b6, b7, b8, b9⟩, ⟨c1, c2, c3, c4, c5, c6, c7⟩⟩ := h
  have hg2 : ∃ b, b ≤ 100000 ∧ g = nI b := by
    obtain ⟨b, hb, e⟩ := in_of (b := 100001) (by decide) hg
    exact ⟨b, by omega, e⟩
  have hT : ∀ r, r < n → ∃ t, t ≤ 100000 ∧ S.2.2.1 4 r = nI t := fun r hr => by
    obtain ⟨t, ht, e⟩ := c6 r hr
    exact ⟨t, by omega, e⟩
  intro r hr
  have hc : kd = 0 ∨ kd = 1 ∨ kd = 2 ∨ kd = 3 := by omega
  rcases hc with rfl | rfl | rfl | rfl
  · exact PL0_i a1 r hr
  · show PL1 (S.2.2.1 2) (S.2.2.1 10) (S.1 3) k n z (S.2.2.1 16) (S.2.2.1 15) (S.2.2.1 17) r = PL1 (M.2.2.1 1) (M.2.2.1 7) (M.1 2) k n z (M.2.2.1 13) (M.2.2.1 12) q r
    rw [← b1, ← b5, g3, m3]
    exact PL1_i a1 g1.1 g1.2.1 c5 r hr
  · show PL2 (S.2.2.1 4) w W k n g (S.2.2.1 16) (S.2.2.1 15) (S.2.2.1 18) r = PM2 (M.2.2.1 3) w W k n g (M.2.2.1 13) (M.2.2.1 12) r
    rw [← b3]
    exact PL2_eq a1 g1.1 g1.2.1 hT hg2 r hr
  · show (lst (S.2.2.1 3) w W k n z (S.2.2.1 16) (S.2.2.1 15) 5).2.2 r = (lst (M.2.2.1 2) w W k n z (M.2.2.1 13) (M.2.2.1 12) 5).2.2 r
    rw [← b2]
    refine (lst_i a1 5).2 r hr (Or.inl ?_)
    exact c4 r hr
theorem PLN_ok (h : Rel n w W k S M) {kd : Nat} (hkd : kd ≤ 3) {z : Int64} {g : Int32} : ∀ r, r < n → PLN S w W k n kd z g r = -1 ∨ ∃ c, c < 4 ∧ PLN S w W k n kd z g r = nI c := by
  obtain ⟨⟨a1, a2, a3, a4⟩, ⟨⟨g1, g2, g3, g4⟩, -⟩, -, ⟨c1, c2, c3, c4, c5, c6, c7⟩⟩ := h
  have hk1 := g1.1
  have hk4 := g1.2.1
  intro r hr
  have hc : kd = 0 ∨ kd = 1 ∨ kd = 2 ∨ kd = 3 := by omega
  rcases hc with rfl | rfl | rfl | rfl
  · right
    show ∃ c, c < 4 ∧ PL0 w W k n z (S.2.2.1 16) (S.2.2.1 15) r = nI c
    unfold PL0
    obtain ⟨i, hi, e⟩ := shm_cov (m := n) (z := z) (f := mx n nI (S.2.2.1 16)) (j := r) hr
    obtain ⟨j, hj, e2⟩ := dl_hit (g := fun a => nI (pt (qf w W k n) a k)) (old := S.2.2.1 15) (O := (shm n z (mx n nI (S.2.2.1 16))).2) (m := n) (r := r) ⟨i, hi, by rw [e, mx_lt hr]; exact nI_clamp (by omega)⟩
    have := pt_lt (q := qf w W k n) (a := j) hk1
    exact ⟨_, by omega, e2⟩
  · right
    show ∃ c, c < 4 ∧ PL1 (S.2.2.1 2) (S.2.2.1 10) (S.1 3) k n z (S.2.2.1 16) (S.2.2.1 15) (S.2.2.1 17) r = nI c
    unfold PL1
    obtain ⟨g, hg30, e⟩ := c5 r hr
    have hh : hasg (S.2.2.1 2) n g := fun z => fs_no z r hr e
    obtain ⟨q, hq, e2⟩ := sel_cov (p := hasg (S.2.2.1 2) n) (old := S.2.2.1 16) 30 g hg30 hh
    obtain ⟨i, hi, e3⟩ := shm_cov (m := ct (hasg (S.2.2.1 2) n) 30) (z := z) (f := sel (hasg (S.2.2.1 2) n) (S.2.2.1 16) 30) hq
    obtain ⟨c, hc, e4⟩ := gst_hit (Gp := S.2.2.1 2) (w := S.2.2.1 10) (O := (shm (ct (hasg (S.2.2.1 2) n) 30) z (sel (hasg (S.2.2.1 2) n) (S.2.2.1 16) 30)).2) (a := nI n) (b := S.1 3) (n := n) (pl := S.2.2.1 15) (H := mx 4 (fun _ => 0) (S.2.2.1 17)) hk1 (ct (hasg (S.2.2.1 2) n) 30) r hr ⟨i, hi, by rw [e3, e2, e]⟩
    exact ⟨c, by omega, e4⟩
  · show PL2 (S.2.2.1 4) w W k n g (S.2.2.1 16) (S.2.2.1 15) (S.2.2.1 18) r = -1 ∨ ∃ c, c < 4 ∧ PL2 (S.2.2.1 4) w W k n g (S.2.2.1 16) (S.2.2.1 15) (S.2.2.1 18) r = nI c
    unfold PL2
    rw [mx_lt hr]
    split
    · exact Or.inl rfl
    · obtain ⟨c, hc, e⟩ := tPl_in (T := S.2.2.1 4) (w := w) (W := W) (k := k) (o16 := S.2.2.1 16) (o15 := S.2.2.1 15) hk1 a1 r hr
      exact Or.inr ⟨c, by omega, e⟩
  · right
    obtain ⟨c, hc, e⟩ := lst_hit (Lb := S.2.2.1 3) (w := w) (W := W) (z := z) (o16 := S.2.2.1 16) (o15 := S.2.2.1 15) a1 hk1 5 r hr (c4 r hr)
    exact ⟨c, by omega, e⟩
theorem mx_e {F F' : Nat → Int32} {old old' : Nat → Int32} (h : ∀ r, r < n → F r = F' r) (ho : old = old') : mx n F old = mx n F' old' := by
  subst ho
  funext r
  by_cases e : r < n
  · rw [mx_lt e, mx_lt e, h r e]
  · rw [mx_ge (by omega), mx_ge (by omega)]
theorem rel_part (h : Rel n w W k S M) {F F' : Nat → Int32} (hF : ∀ r, r < n → F r = F' r) (hok : ∀ r, r < n → F r = -1 ∨ ∃ c, c < 4 ∧ F r = nI c) : Rel n w W k (xa S 5 (mx n F (S.2.2.1 5))) (xa M 6 (mx n F' (M.2.2.1 6))) := by
  obtain ⟨⟨a1, a2, a3, a4⟩, ⟨gx, gm⟩, ⟨b1, b2, b3, b4, b5, b6, b7, b8, b9⟩, ⟨c1, c2, c3, c4, c5, c6, c7⟩⟩ := h
  refine ⟨⟨a1, a2, a3, a4⟩, ⟨gx, gm⟩, ⟨b1, b2, b3, mx_e hF b4, b5, b6, b7, b8, b9⟩, c1, c2, ?_, c4, c5, c6, c7⟩
  intro r hr
  show mx n F (S.2.2.1 5) r = -1 ∨ ∃ c, c < 4 ∧ mx n F (S.2.2.1 5) r = nI c
  rw [mx_lt hr]
  exact hok r hr
theorem splq_k {kd g : Int32} (h : splq kd g) : tn kd ≤ 3 := by
  obtain ⟨j, hj, rfl⟩ := le_of (b := 3) (by decide) h.1
  rw [show tn (nI j) = j from nI_clamp (by omega)]
  exact hj
theorem datM_a6 {M M' : Sx} {f : Nat → Int32} (h : kpm (xi M 4 0) M') : datM (xa M 6 f) (xa M' 6 f) := by
  have d := datM_tr (datM_i (M := M) (j := 4) (v := 0) (by omega)) (datM_k h)
  refine ⟨d.1, fun a ha => ?_, d.2.2⟩
  show (if a = 6 then f else M'.2.2.1 a) = (if a = 6 then f else M.2.2.1 a)
  rw [d.2.1 a ha]
theorem op_split (h : Rel n w W k S M) {kd g : Int32} {z : Int64}
    (hx : (¬ splq kd g ∧ ansD v u (-2) S) ∨ (splq kd g ∧ ansD v u (nI (ct (fun r => PLN S w W k n (tn kd) z g r ≠ -1) n)) (xa S 5 (mx n (PLN S w W k n (tn kd) z g) (S.2.2.1 5)))))
    (hm : (¬ splq kd g ∧ ansM v' u' (-2) (xi M 4 0)) ∨ (splq kd g ∧ ∃ M' q, kpm (xi M 4 0) M' ∧ ansM v' u' (nI (ct (fun r => PMN M w W k n (tn kd) z g q r ≠ -1) n)) (xa M' 6 (mx n (PMN M w W k n (tn kd) z g q) (M.2.2.1 6))))) : both v u v' u' := by
  rcases hx with ⟨q, e, S', e2, hd⟩ | ⟨q, e, S', e2, hd⟩
  · rcases hm with ⟨-, hm⟩ | ⟨q', -⟩
    · exact ⟨_, S', _, e, e2, hm.1, hm.2, n, w, W, k, rel_dat h hd (datM_i (by omega))⟩
    · exact absurd q' q
  · rcases hm with ⟨q', -⟩ | ⟨-, M', qq, hk, hm⟩
    · exact absurd q q'
    · have hF := PLN_eq h (splq_k q) (z := z) q.2 (q := qq)
      have e' := hm.1
      rw [← ct_c (p := fun r => PLN S w W k n (tn kd) z g r ≠ -1) (fun i hi => by rw [hF i hi])] at e'
      exact ⟨_, S', _, e, e2, e', hm.2, n, w, W, k, rel_dat (rel_part h hF (PLN_ok h (splq_k q))) hd (datM_a6 hk)⟩
theorem op_same (h : Rel n w W k S M) {kd g : Int32} {z : Int64}
    (hx : (¬ splq kd g ∧ ansD v u 0 S) ∨ (splq kd g ∧ ansD v u (bl (fs (fun r => S.2.2.1 5 r ≠ PLN S w W k n (tn kd) z g r) n = none)) S))
    (hm : (¬ splq kd g ∧ ansM v' u' 0 (xi M 4 0)) ∨ (splq kd g ∧ ∃ M' q, kpm (xi M 4 0) M' ∧ ansM v' u' (bl (fs (fun r => M.2.2.1 6 r ≠ PMN M w W k n (tn kd) z g q r) n = none)) M')) : both v u v' u' := by
  rcases hx with ⟨q, e, S', e2, hd⟩ | ⟨q, e, S', e2, hd⟩
  · rcases hm with ⟨-, hm⟩ | ⟨q', -⟩
    · exact ⟨_, S', _, e, e2, hm.1, hm.2, n, w, W, k, rel_dat h hd (datM_i (by omega))⟩
    · exact absurd q' q
  · rcases hm with ⟨q', -⟩ | ⟨-, M', qq, hk, hm⟩
    · exact absurd q q'
    · have hF := PLN_eq h (splq_k q) (z := z) q.2 (q := qq)
      have b4 := h.2.2.1.2.2.2.1
      have ef : fs (fun r => S.2.2.1 5 r ≠ PLN S w W k n (tn kd) z g r) n = fs (fun r => M.2.2.1 6 r ≠ PMN M w W k n (tn kd) z g qq r) n := fs_c (fun i hi => by rw [b4, hF i hi])
      rw [bl_c (q := fs (fun r => M.2.2.1 6 r ≠ PMN M w W k n (tn kd) z g qq r) n = none) (by rw [ef])] at e
      exact ⟨_, S', M', e, e2, hm.1, hm.2, n, w, W, k, rel_dat h hd (datM_tr (datM_i (by omega)) (datM_k hk))⟩
/-- even weights -/
theorem sm_1 : ∀ k, sm (fun _ => 1) k = k
  | 0 => rfl
  | k + 1 => by
    show sm (fun _ => 1) k + 1 = k + 1
    rw [sm_1 k]
theorem rel_even (h : Rel n w W k S M) {kk : Nat} (h2 : 2 ≤ kk) (h4 : kk ≤ 4) : Rel n (fun _ => 1) kk kk (evx S kk) (evm (xi M 4 0) kk) := by
  obtain ⟨⟨a1, a2, a3, a4⟩, -, ⟨b1, b2, b3, b4, b5, b6, b7, b8, b9⟩, cc⟩ := h
  have hok : wok (fun _ => 1) kk kk := ⟨by omega, h4, fun _ => show 1 ≤ 1000 by decide, sm_1 kk, by omega, by omega⟩
  have hrow : ∀ old : Nat → Int32, upd (upd (upd (upd old 0 1) 1 1) 2 (if 2 < kk then 1 else 0)) 3 (if 3 < kk then 1 else 0) = mx 4 (fun p => if p < kk then 1 else 0) old := fun old => row4 (if_pos (by omega)) (if_pos (by omega)) rfl rfl
  have hs : (1 : Int32) + 1 + (if 2 < kk then 1 else 0) + (if 3 < kk then 1 else 0) = nI kk := by
    have : kk = 2 ∨ kk = 3 ∨ kk = 4 := by omega
    rcases this with rfl | rfl | rfl <;> decide
  refine ⟨⟨a1, a2, a3, a4⟩, ⟨⟨hok, rfl, hs, fun j hj => ?_⟩, ⟨hok, rfl, rfl, fun j hj => ?_⟩⟩, ⟨b1, b2, b3, b4, ?_, b6, b7, b8, b9⟩, cc⟩
  · show upd (upd (upd (upd (S.2.2.1 10) 0 1) 1 1) 2 (if 2 < kk then 1 else 0)) 3 (if 3 < kk then 1 else 0) j = nI 1
    rw [hrow, mx_lt (by omega), if_pos hj]; rfl
  · show mx 4 (fun p => if p < kk then 1 else 0) (M.2.2.1 7) j = nI 1
    rw [mx_lt (by omega), if_pos hj]; rfl
  · show upd (upd (upd (upd (S.2.2.1 10) 0 1) 1 1) 2 (if 2 < kk then 1 else 0)) 3 (if 3 < kk then 1 else 0) = mx 4 (fun p => if p < kk then 1 else 0) (M.2.2.1 7)
    rw [hrow, b5]
theorem datM_e6 {M N : Sx} {f : Nat → Int32} (h : kpm M N) : datM (xa M 6 f) (xa N 6 f) := by
  have d := datM_k h
  refine ⟨d.1, fun a ha => ?_, d.2.2⟩
  show (if a = 6 then f else N.2.2.1 a) = (if a = 6 then f else M.2.2.1 a)
  rw [d.2.1 a ha]
theorem op_folds (h : Rel n w W k S M) {kk : Int32} {z : Int64}
    (hx : (¬ (2 ≤ kk ∧ kk ≤ 4) ∧ ansD v u (-2) S) ∨ ((2 ≤ kk ∧ kk ≤ 4) ∧ ansW v u (nI (ct (fun l => 0 < cpl (mx n (PLF S (tn kk) n z) (S.2.2.1 5)) (S.2.2.1 3) n (nI l) ∧ cpl (mx n (PLF S (tn kk) n z) (S.2.2.1 5)) (S.2.2.1 3) n (nI l) < tn kk) 5)) S (tn kk) (mx n (PLF S (tn kk) n z) (S.2.2.1 5))))
    (hm : (¬ (2 ≤ kk ∧ kk ≤ 4) ∧ ansM v' u' (-2) (xi M 4 0)) ∨ ((2 ≤ kk ∧ kk ≤ 4) ∧ ∃ M', kpm (evm (xi M 4 0) (tn kk)) M' ∧ ansM v' u' (nI (ct (few (M.2.2.1 2) (M.2.2.1 12) 0 (tn kk) n) 5)) (xa M' 6 (mx n (PMF M (tn kk) n z) (M.2.2.1 6))))) : both v u v' u' := by
  rcases hx with ⟨q, e, S', e2, hd⟩ | ⟨q, e, S', e2, hd⟩
  · rcases hm with ⟨-, hm⟩ | ⟨q', -⟩
    · exact ⟨_, S', _, e, e2, hm.1, hm.2, n, w, W, k, rel_dat h hd (datM_i (by omega))⟩
    · exact absurd q' q
  · rcases hm with ⟨q', -⟩ | ⟨-, M', hk, hm⟩
    · exact absurd q q'
    · obtain ⟨j, hj4, rfl⟩ := le_of (b := 4) (by decide) ⟨Int32.le_trans (by decide) q.1, q.2⟩
      have hj2 : 2 ≤ j := (nI_leI (by decide) (by omega)).mp q.1
      rw [show tn (nI j) = j from nI_clamp (by omega)] at e hd hk hm
      have hR := rel_even h hj2 hj4
      have a1 := h.1.1
      have b2 := h.2.2.1.2.1
      have c4 := h.2.2.2.2.2.2.1
      have cov : ∀ r, r < n → ∃ l, l < 5 ∧ S.2.2.1 3 r = nI l := c4
      have hF : ∀ r, r < n → PLF S j n z r = PMF M j n z r := by
        intro r hr
        unfold PLF PMF
        rw [← b2, fst_c (p := rnd (S.2.2.1 3) (M.2.2.1 12) 0) (q := fun l r => S.2.2.1 3 r = nI l) (fun l r _ => ⟨fun z => z.1, fun z => ⟨z, Or.inl rfl⟩⟩)]
        exact (fst_i a1 5).2.2 r hr (Or.inl (cov r hr))
      have hok : ∀ r, r < n → ∃ c, c < 4 ∧ PLF S j n z r = nI c := by
        intro r hr
        obtain ⟨c, hc, e3⟩ := fst_hit (p := fun l r => S.2.2.1 3 r = nI l) (k := j) (z := z) (o16 := S.2.2.1 16) (o15 := S.2.2.1 15) a1 (by omega) 5 r hr (cov r hr)
        exact ⟨c, by omega, e3⟩
      have hfew : ct (fun l => 0 < cpl (mx n (PLF S j n z) (S.2.2.1 5)) (S.2.2.1 3) n (nI l) ∧ cpl (mx n (PLF S j n z) (S.2.2.1 5)) (S.2.2.1 3) n (nI l) < j) 5 = ct (few (M.2.2.1 2) (M.2.2.1 12) 0 j n) 5 := by
        refine ct_c (fun l hl => ?_)
        rw [cpl_all (nI_ne (by omega)) (fun r hr _ => by rw [mx_lt hr]; exact hok r hr)]
        have e4 : ct (fun r => S.2.2.1 3 r = nI l) n = ct (rnd (M.2.2.1 2) (M.2.2.1 12) 0 l) n := ct_c (fun r hr => by
          rw [← b2]; exact ⟨fun z => ⟨z, Or.inl rfl⟩, fun z => z.1⟩)
        rw [e4]
      rw [hfew] at e
      exact ⟨_, S', _, e, e2, hm.1, hm.2, n, _, j, j, rel_dat (rel_part hR hF (fun r hr => Or.inr (hok r hr))) hd (datM_e6 hk)⟩
theorem op_nested (h : Rel n w W k S M) {o kk : Int32} {z : Int64}
    (hx : (¬ nesq o kk ∧ ansD v u (-2) S) ∨ (nesq o kk ∧ cin (S.2.2.1 5) (S.2.2.1 3) n o (-1) = 0 ∧ ansD v u (-4) S) ∨ (nesq o kk ∧ cin (S.2.2.1 5) (S.2.2.1 3) n o (-1) ≠ 0 ∧ ansW v u (nI (ct (fun r => PLG S (tn kk) n z o r ≠ -1) n)) S (tn kk) (mx n (PLG S (tn kk) n z o) (S.2.2.1 5))))
    (hm : (¬ nesq o kk ∧ ansM v' u' (-2) (xi M 4 0)) ∨ (nesq o kk ∧ cin (M.2.2.1 6) (M.2.2.1 2) n o (-1) = 0 ∧ ansM v' u' (-4) (xi M 4 0)) ∨ (nesq o kk ∧ cin (M.2.2.1 6) (M.2.2.1 2) n o (-1) ≠ 0 ∧ ∃ M', kpm (evm (xi M 4 0) (tn kk)) M' ∧ ansM v' u' (nI (ct (fun r => PMG M (tn kk) n z o r ≠ -1) n)) (xa M' 6 (mx n (PMG M (tn kk) n z o) (M.2.2.1 6))))) : both v u v' u' := by
  have b2 := h.2.2.1.2.1
  have b4 := h.2.2.1.2.2.2.1
  rw [b2, b4] at hx
  rcases hx with ⟨q, e, S', e2, hd⟩ | ⟨q, f, e, S', e2, hd⟩ | ⟨q, f, e, S', e2, hd⟩
  · rcases hm with ⟨-, hm⟩ | ⟨q', -⟩ | ⟨q', -⟩
    · exact ⟨_, S', _, e, e2, hm.1, hm.2, n, w, W, k, rel_dat h hd (datM_i (by omega))⟩
    · exact absurd q' q
    · exact absurd q' q
  · rcases hm with ⟨q', -⟩ | ⟨-, -, hm⟩ | ⟨-, f', -⟩
    · exact absurd q q'
    · exact ⟨_, S', _, e, e2, hm.1, hm.2, n, w, W, k, rel_dat h hd (datM_i (by omega))⟩
    · exact absurd f f'
  · rcases hm with ⟨q', -⟩ | ⟨-, f', -⟩ | ⟨-, -, M', hk, hm⟩
    · exact absurd q q'
    · exact absurd f' f
    · obtain ⟨q1, q2⟩ := q
      obtain ⟨j, hj4, rfl⟩ := le_of (b := 4) (by decide) ⟨Int32.le_trans (by decide) q2.1, q2.2⟩
      have hj2 : 2 ≤ j := (nI_leI (by decide) (by omega)).mp q2.1
      rw [show tn (nI j) = j from nI_clamp (by omega)] at e hd hk hm
      have hR := rel_even h hj2 hj4
      have a1 := h.1.1
      have c4 := h.2.2.2.2.2.2.1
      have cov : ∀ r, r < n → ∃ l, l < 5 ∧ S.2.2.1 3 r = nI l := c4
      have ho : o ≠ -1 := fun z => by rw [z] at q1; exact absurd q1.1 (by decide)
      have hD : ∀ r, r < n → (nd0 (M.2.2.1 6) o n (M.2.2.1 12) r ≠ -1 ↔ (S.2.2.1 5 r ≠ -1 ∧ S.2.2.1 5 r ≠ o)) := by
        intro r hr
        unfold nd0
        rw [mx_lt hr, b4]
        by_cases e3 : M.2.2.1 6 r = o
        · rw [if_pos e3]
          exact ⟨fun z => absurd rfl z, fun z => absurd e3 z.2⟩
        · rw [if_neg e3]
          exact ⟨fun z => ⟨z, e3⟩, fun z => z.1⟩
      have hp : ∀ l r, r < n → (rnd (S.2.2.1 3) (nd0 (M.2.2.1 6) o n (M.2.2.1 12)) 1 l r ↔ (S.2.2.1 3 r = nI l ∧ S.2.2.1 5 r ≠ -1 ∧ S.2.2.1 5 r ≠ o)) := by
        intro l r hr
        constructor
        · rintro ⟨x1, x2 | x2⟩
          · exact absurd x2 (by decide)
          · exact ⟨x1, (hD r hr).mp x2⟩
        · rintro ⟨x1, x2⟩
          exact ⟨x1, Or.inr ((hD r hr).mpr x2)⟩
      have hF : ∀ r, r < n → PLG S j n z o r = PMG M j n z o r := by
        intro r hr
        unfold PLG PMG
        rw [← b2, fst_c (p := rnd (S.2.2.1 3) (nd0 (M.2.2.1 6) o n (M.2.2.1 12)) 1) (q := fun l r => S.2.2.1 3 r = nI l ∧ S.2.2.1 5 r ≠ -1 ∧ S.2.2.1 5 r ≠ o) hp]
        refine (fst_i a1 5).2.2 r hr ?_
        obtain ⟨l, hl, el⟩ := cov r hr
        by_cases e3 : S.2.2.1 5 r ≠ -1 ∧ S.2.2.1 5 r ≠ o
        · exact Or.inl ⟨l, hl, el, e3⟩
        · right
          rw [mx_lt hr]
          exact (Decidable.byContradiction fun z => e3 ((hD r hr).mp (fun y => z y.symm)))
      have hok : ∀ r, r < n → PLG S j n z o r = -1 ∨ ∃ c, c < 4 ∧ PLG S j n z o r = nI c := by
        intro r hr
        obtain ⟨l, hl, el⟩ := cov r hr
        by_cases e3 : S.2.2.1 5 r ≠ -1 ∧ S.2.2.1 5 r ≠ o
        · right
          obtain ⟨c, hc, e4⟩ := fst_hit (p := fun l r => S.2.2.1 3 r = nI l ∧ S.2.2.1 5 r ≠ -1 ∧ S.2.2.1 5 r ≠ o) (k := j) (z := z + o.toInt64) (o16 := S.2.2.1 16) (o15 := mx n (fun _ => -1) (S.2.2.1 15)) a1 (by omega) 5 r hr ⟨l, hl, el, e3⟩
          exact ⟨c, by omega, e4⟩
        · left
          unfold PLG
          rw [fst_not a1 5 r hr (fun j _ z => e3 z.2), mx_lt hr]
      rw [← b4] at hd
      have e' := hm.1
      rw [← ct_c (p := fun r => PLG S j n z o r ≠ -1) (fun i hi => by rw [hF i hi])] at e'
      exact ⟨_, S', _, e, e2, e', hm.2, n, _, j, j, rel_dat (rel_part hR hF hok) hd (datM_e6 hk)⟩
end Ops2
theorem rel_0 : Rel 0 (fun j => if j = 0 then 1 else 0) 1 1 Sx0 Sm0 := by
  refine ⟨⟨by decide, rfl, rfl, rfl⟩, ⟨⟨?_, rfl, rfl, ?_⟩, ⟨?_, rfl, rfl, ?_⟩⟩, ⟨rfl, rfl, rfl, rfl, rfl, rfl, rfl, rfl, rfl⟩, fun _ => Or.inl rfl, ?_, fun r hr => by omega, fun r hr => by omega, fun r hr => by omega, fun r hr => by omega, ?_⟩
  · refine ⟨by decide, by decide, fun j => ?_, rfl, by decide, by decide⟩
    dsimp only
    split <;> decide
  · intro j hj
    have : j = 0 := by omega
    subst this; rfl
  · refine ⟨by decide, by decide, fun j => ?_, rfl, by decide, by decide⟩
    dsimp only
    split <;> decide
  · intro j hj
    have : j = 0 := by omega
    subst this; rfl
  · intro j hj
    left
    show mx 8 (fun _ => -1) (fun _ => 0) j = -1
    rw [mx_lt hj]
  · intro s hs
    show (0 : Int32) = nI (ct (fun r => (0 : Int32) ≠ 0) 100)
    rw [ct_0 (fun i _ z => z rfl)]; rfl
