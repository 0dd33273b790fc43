/-! pure: the lists of leaks, two ways; what the i-th leak is; few labels; shares of parts -/
theorem lsn_c {f g : Nat → List (Int32 × Int32)} : ∀ {n : Nat}, (∀ i, i < n → f i = g i) → lsn f n = lsn g n
  | 0, _ => rfl
  | n + 1, h => by
    simp only [lsn]
    rw [lsn_c (n := n) (fun i hi => h i (by omega)), h n (by omega)]
theorem lsn_len {f : Nat → List (Int32 × Int32)} {m : Nat} : ∀ {n : Nat}, (∀ i, i < n → (f i).length ≤ m) → (lsn f n).length ≤ n * m
  | 0, _ => by simp [lsn]
  | n + 1, h => by
    have ih := lsn_len (n := n) (fun i hi => h i (by omega))
    have h2 := h n (by omega)
    simp only [lsn]
    rw [List.length_append, Nat.add_mul]
    omega
theorem ifl_len {p : Prop} [Decidable p] {a b : Int32} : (ifl p a b).length ≤ 1 := by
  unfold ifl
  split
  · exact Nat.le_refl 1
  · exact Nat.zero_le 1
theorem ifl_c {p q : Prop} [Decidable p] [Decidable q] {a b a' b' : Int32} (h : p ↔ q) (ha : a = a') (hb : p → b = b') : ifl p a b = ifl q a' b' := by
  subst ha
  by_cases hp : p
  · rw [ifl_t hp, ifl_t (h.mp hp), hb hp]
  · rw [ifl_f hp, ifl_f (fun z => hp (h.mpr z))]
theorem near_eq {N Wd : Nat → Int64} {nn : Int32} {a b : Nat} : nearq N Wd nn a b ↔ nearm N Wd nn a b := by
  unfold nearq nearm
  rw [pcr_bcn, pcr_bcn]
theorem pair_eq0 {N Wd : Nat → Int64} {P : Nat → Int32} {nn : Int32} {n : Nat} : Lpair N Wd P (nI 0) nn n = LpairM N Wd P 1 nn n := by
  unfold Lpair LpairM
  refine lsn_c (fun a _ => lsn_c (fun b _ => ifl_c ?_ rfl (fun _ => rfl)))
  unfold pairq pairm
  rw [if_pos (show nI 0 = 0 from rfl), if_neg (show ¬ (1 : Int32) = 0 by decide)]
theorem pair_eq1 {N Wd : Nat → Int64} {P : Nat → Int32} {nn : Int32} {n : Nat} : Lpair N Wd P (nI 1) nn n = LpairM N Wd P 0 nn n := by
  unfold Lpair LpairM
  refine lsn_c (fun a _ => lsn_c (fun b _ => ifl_c ?_ rfl (fun _ => rfl)))
  unfold pairq pairm
  rw [if_neg (show ¬ nI 1 = 0 by decide), if_pos rfl, near_eq]
theorem tell_eq {N : Nat → Int64} {P Lb : Nat → Int32} {n : Nat} (hL : ∀ r, r < n → Lb r ≠ -1) : Ltell N P Lb n = LtellM N P Lb n := by
  unfold Ltell LtellM
  exact lsn_c (fun c _ => ifl_c (tells_eq hL) rfl (fun _ => by rw [nums_eq hL]))
theorem tks_n (wt : Int32) : ∀ (L : List (Int32 × Int32)) (j : Nat) (a b : Int32), (tks wt (nI j, a, b) L).1 = nI (j + L.length)
  | [], j, a, b => rfl
  | x :: L, j, a, b => by
    show (tks wt (nI j + 1, _, _) L).1 = _
    rw [← nI_succ, tks_n wt L (j + 1)]
    congr 1
    rw [List.length_cons]
    omega
theorem tks_i (i : Nat) : ∀ (L : List (Int32 × Int32)) (j : Nat) (a b a' b' : Int32), j ≤ i → i < j + L.length → j + L.length < 2 ^ 31 → (tks (nI i) (nI j, a, b) L).2 = (tks (nI i) (nI j, a', b') L).2
  | [], j, a, b, a', b', h1, h2, h3 => by
    simp at h2
    omega
  | x :: L, j, a, b, a', b', h1, h2, h3 => by
    rw [List.length_cons] at h2 h3
    show (tks (nI i) (nI j + 1, if nI j = nI i then x.1 else a, if nI j = nI i then x.2 else b) L).2 = (tks (nI i) (nI j + 1, if nI j = nI i then x.1 else a', if nI j = nI i then x.2 else b') L).2
    by_cases e : j = i
    · subst e
      rw [if_pos rfl, if_pos rfl, if_pos rfl, if_pos rfl]
    · have ne : ¬ nI j = nI i := fun z => e ((nI_eq (by omega) (by omega)).mp z)
      rw [if_neg ne, if_neg ne, if_neg ne, if_neg ne, ← nI_succ]
      exact tks_i i L (j + 1) a b a' b' (by omega) (by omega) (by omega)
theorem leak_eq {L : List (Int32 × Int32)} (hL : L.length ≤ 10000) {i : Int32} (hi : 0 ≤ i) {a b a' b' wh : Int32} : (if i < (tks i (0, a, b) L).1 then (if wh = 0 then (tks i (0, a, b) L).2.1 else (tks i (0, a, b) L).2.2) else -2) = (if i < (tks i (0, a', b') L).1 then (if wh = 0 then (tks i (0, a', b') L).2.1 else (tks i (0, a', b') L).2.2) else -2) := by
  have n1 := tks_n i L 0 a b
  have n2 := tks_n i L 0 a' b'
  rw [show nI 0 = 0 from rfl, Nat.zero_add] at n1 n2
  rw [n1, n2]
  by_cases h : i < nI L.length
  · rw [if_pos h, if_pos h]
    obtain ⟨j, hj, rfl⟩ := in_of (b := L.length) (by omega) ⟨hi, h⟩
    have e := tks_i j L 0 a b a' b' (by omega) (by omega) (by omega)
    rw [show nI 0 = 0 from rfl] at e
    rw [e]
  · rw [if_neg h, if_neg h]
theorem leaks_eq {wt a b a' b' : Int32} {L : List (Int32 × Int32)} : (tks wt (0, a, b) L).1 = (tks wt (0, a', b') L).1 := (tks_n wt L 0 a b).trans (tks_n wt L 0 a' b').symm
theorem LK_len {N Wd : Nat → Int64} {Gp Lb T P By Ft : Nat → Int32} {n kd : Nat} {nn : Int32} (hn : n ≤ 100) : (LK N Wd Gp Lb T P By Ft n kd nn).length ≤ 10000 := by
  have pr : ∀ kk, (Lpair N Wd P kk nn n).length ≤ 10000 := fun kk => by
    have h := lsn_len (f := fun a => lsn (fun b => ifl (pairq N Wd P kk nn a b) (nI a) (nI b)) n) (m := n * 1) (n := n) (fun i _ => lsn_len (fun j _ => ifl_len))
    have h2 : n * (n * 1) ≤ 100 * (100 * 1) := Nat.mul_le_mul hn (Nat.mul_le_mul hn (Nat.le_refl 1))
    exact Nat.le_trans h h2
  unfold LK
  split
  · exact pr _
  · exact pr _
  · have h := lsn_len (f := fun g => ifl (2 ≤ pog Gp P n (nI g)) (nI g) (nI (pog Gp P n (nI g)))) (m := 1) (n := 30) (fun i _ => ifl_len)
    exact Nat.le_trans h (by decide)
  · unfold Llate
    split
    · exact Nat.zero_le _
    · have h := lsn_len (f := fun r => ifl (P r = 0 ∧ ¬ T r < T (tn (elt P T n))) (nI r) (elt P T n)) (m := 1) (n := n) (fun i _ => ifl_len)
      omega
  · have h := lsn_len (f := fun c => ifl (tells N P Lb n c) (nI c) (nI (ct (fun a => P a ≠ -1 ∧ ¬ sab N P n c a) n))) (m := 1) (n := 3) (fun i _ => ifl_len)
    exact Nat.le_trans h (by decide)
  · have h := lsn_len (f := fun s => lsn (fun r => ifl (0 < P r ∧ chn By Ft r 8 (nI s) = true) (nI s) (nI r)) n) (m := n * 1) (n := 8) (fun i _ => lsn_len (fun j _ => ifl_len))
    have h2 : 8 * (n * 1) ≤ 8 * (100 * 1) := Nat.mul_le_mul_left 8 (Nat.mul_le_mul hn (Nat.le_refl 1))
    exact Nat.le_trans h (Nat.le_trans h2 (by decide))
/-- rows that are in the four parts -/
theorem cpl_all {P Lb : Nat → Int32} {l : Int32} (hl : l ≠ -1) : ∀ {n : Nat}, (∀ r, r < n → Lb r = l → ∃ c, c < 4 ∧ P r = nI c) → cpl P Lb n l = ct (fun r => Lb r = l) n
  | 0, _ => rfl
  | n + 1, h => by
    have ih := cpl_all (P := P) (Lb := Lb) hl (n := n) (fun r hr => h r (by omega))
    unfold cpl cin at ih ⊢
    by_cases e : Lb n = l
    · obtain ⟨c, hc, hP⟩ := h n (by omega) e
      rw [ct_t (p := fun r => Lb r = l) e, ← ih]
      have key : ∀ q : Int32, ct (fun r => P r = q ∧ (l = -1 ∨ Lb r = l)) (n + 1) = ct (fun r => P r = q ∧ (l = -1 ∨ Lb r = l)) n + (if nI c = q then 1 else 0) := by
        intro q
        by_cases hq : nI c = q
        · rw [if_pos hq, ct_t (p := fun r => P r = q ∧ (l = -1 ∨ Lb r = l)) ⟨hP.trans hq, Or.inr e⟩]
        · rw [if_neg hq, ct_f (p := fun r => P r = q ∧ (l = -1 ∨ Lb r = l)) (fun z => hq (hP.symm.trans z.1))]; rfl
      rw [key 0, key 1, key 2, key 3]
      have : c = 0 ∨ c = 1 ∨ c = 2 ∨ c = 3 := by omega
      rcases this with rfl | rfl | rfl | rfl
      · rw [if_pos (by decide), if_neg (by decide), if_neg (by decide), if_neg (by decide)]; omega
      · rw [if_neg (by decide), if_pos (by decide), if_neg (by decide), if_neg (by decide)]; omega
      · rw [if_neg (by decide), if_neg (by decide), if_pos (by decide), if_neg (by decide)]; omega
      · rw [if_neg (by decide), if_neg (by decide), if_neg (by decide), if_pos (by decide)]; omega
    · rw [ct_f (p := fun r => Lb r = l) e, ← ih]
      have key : ∀ q : Int32, ct (fun r => P r = q ∧ (l = -1 ∨ Lb r = l)) (n + 1) = ct (fun r => P r = q ∧ (l = -1 ∨ Lb r = l)) n := fun q =>
        ct_f (p := fun r => P r = q ∧ (l = -1 ∨ Lb r = l)) (fun z => z.2.elim hl e)
      rw [key 0, key 1, key 2, key 3]
/-- the weights, as both write them -/
theorem par_eq {k a b c d : Int32} : parq k a b c d ↔ parm k (ww a b c d) := by
  have q1 : ∀ x : Int32, wq x ↔ (0 ≤ x ∧ x ≤ 1000) := fun x => and_congr Iff.rfl (le_lt (b := 1000) (by decide)).symm
  have z : wq 0 := by decide
  constructor
  · rintro ⟨hk, ha, hb, hc, hd, hs⟩
    refine ⟨hk, ?_⟩
    obtain ⟨j, hj, rfl⟩ := le_of (b := 4) (by decide) ⟨Int32.le_trans (by decide) hk.1, hk.2⟩
    rw [show tn (nI j) = j from nI_clamp (by omega)]
    have hj1 : 1 ≤ j := (nI_leI (by decide) (by omega)).mp hk.1
    rw [q1] at ha hb hc hd
    have : j = 1 ∨ j = 2 ∨ j = 3 ∨ j = 4 := by omega
    rcases this with rfl | rfl | rfl | rfl
    · rw [if_neg (by decide), if_neg (by decide), if_neg (by decide)] at hs
      have g1 : gdp (ww a b c d) 1 = true := by simp only [gdp, ww, if_pos]; simp [ha]
      refine ⟨g1, ?_⟩
      simp only [smp]
      rw [if_pos g1]
      simpa [ww] using hs
    · rw [if_pos (by decide)] at hb
      rw [if_pos (by decide), if_neg (by decide), if_neg (by decide)] at hs
      have g1 : gdp (ww a b c d) 1 = true := by simp [gdp, ww, ha]
      have g2 : gdp (ww a b c d) 2 = true := by simp [gdp, ww, ha, hb]
      refine ⟨g2, ?_⟩
      simp only [smp]
      rw [if_pos g1, if_pos g2]
      simpa [ww] using hs
    · rw [if_pos (by decide)] at hb
      rw [if_pos (by decide)] at hc
      rw [if_pos (by decide), if_pos (by decide), if_neg (by decide)] at hs
      have g1 : gdp (ww a b c d) 1 = true := by simp [gdp, ww, ha]
      have g2 : gdp (ww a b c d) 2 = true := by simp [gdp, ww, ha, hb]
      have g3 : gdp (ww a b c d) 3 = true := by simp [gdp, ww, ha, hb, hc]
      refine ⟨g3, ?_⟩
      simp only [smp]
      rw [if_pos g1, if_pos g2, if_pos g3]
      simpa [ww] using hs
    · rw [if_pos (by decide)] at hb
      rw [if_pos (by decide)] at hc
      rw [if_pos (by decide)] at hd
      rw [if_pos (by decide), if_pos (by decide), if_pos (by decide)] at hs
      have g1 : gdp (ww a b c d) 1 = true := by simp [gdp, ww, ha]
      have g2 : gdp (ww a b c d) 2 = true := by simp [gdp, ww, ha, hb]
      have g3 : gdp (ww a b c d) 3 = true := by simp [gdp, ww, ha, hb, hc]
      have g4 : gdp (ww a b c d) 4 = true := by simp [gdp, ww, ha, hb, hc, hd]
      refine ⟨g4, ?_⟩
      simp only [smp]
      rw [if_pos g1, if_pos g2, if_pos g3, if_pos g4]
      simpa [ww] using hs
  · rintro ⟨hk, hg, hs⟩
    refine ⟨hk, ?_⟩
    obtain ⟨j, hj, rfl⟩ := le_of (b := 4) (by decide) ⟨Int32.le_trans (by decide) hk.1, hk.2⟩
    rw [show tn (nI j) = j from nI_clamp (by omega)] at hg hs
    have hj1 : 1 ≤ j := (nI_leI (by decide) (by omega)).mp hk.1
    have : j = 1 ∨ j = 2 ∨ j = 3 ∨ j = 4 := by omega
    rcases this with rfl | rfl | rfl | rfl
    · rw [if_neg (by decide), if_neg (by decide), if_neg (by decide), q1]
      have ha : 0 ≤ a ∧ a ≤ 1000 := by simpa [gdp, ww] using hg
      refine ⟨ha, z, z, z, ?_⟩
      simp only [smp] at hs
      rw [if_pos hg] at hs
      simpa [ww] using hs
    · rw [if_pos (by decide), if_neg (by decide), if_neg (by decide), q1, q1]
      have h2 : (0 ≤ a ∧ a ≤ 1000) ∧ (0 ≤ b ∧ b ≤ 1000) := by simpa [gdp, ww] using hg
      have g1 : gdp (ww a b c d) 1 = true := by simp [gdp, ww, h2.1]
      refine ⟨h2.1, h2.2, z, z, ?_⟩
      simp only [smp] at hs
      rw [if_pos g1, if_pos hg] at hs
      simpa [ww] using hs
    · rw [if_pos (by decide), if_pos (by decide), if_neg (by decide), q1, q1, q1]
      have h2 : ((0 ≤ a ∧ a ≤ 1000) ∧ (0 ≤ b ∧ b ≤ 1000)) ∧ (0 ≤ c ∧ c ≤ 1000) := by simpa [gdp, ww] using hg
      have g1 : gdp (ww a b c d) 1 = true := by simp [gdp, ww, h2.1.1]
      have g2 : gdp (ww a b c d) 2 = true := by simp [gdp, ww, h2.1]
      refine ⟨h2.1.1, h2.1.2, h2.2, z, ?_⟩
      simp only [smp] at hs
      rw [if_pos g1, if_pos g2, if_pos hg] at hs
      simpa [ww] using hs
    · rw [if_pos (by decide), if_pos (by decide), if_pos (by decide), q1, q1, q1, q1]
      have h2 : (((0 ≤ a ∧ a ≤ 1000) ∧ (0 ≤ b ∧ b ≤ 1000)) ∧ (0 ≤ c ∧ c ≤ 1000)) ∧ (0 ≤ d ∧ d ≤ 1000) := by simpa [gdp, ww] using hg
      have g1 : gdp (ww a b c d) 1 = true := by simp [gdp, ww, h2.1.1.1]
      have g2 : gdp (ww a b c d) 2 = true := by simp [gdp, ww, h2.1.1]
      have g3 : gdp (ww a b c d) 3 = true := by simp [gdp, ww, h2.1]
      refine ⟨h2.1.1.1, h2.1.1.2, h2.1.2, h2.2, ?_⟩
      simp only [smp] at hs
      rw [if_pos g1, if_pos g2, if_pos g3, if_pos hg] at hs
      simpa [ww] using hs
theorem row4 {old f : Nat → Int32} {x0 x1 x2 x3 : Int32} (h0 : f 0 = x0) (h1 : f 1 = x1) (h2 : f 2 = x2) (h3 : f 3 = x3) : upd (upd (upd (upd old 0 x0) 1 x1) 2 x2) 3 x3 = mx 4 f old := by
  funext i
  by_cases e3 : i = 3
  · subst e3; rw [pk_us, mx_lt (by omega), h3]
  · rw [pk_un e3]
    by_cases e2 : i = 2
    · subst e2; rw [pk_us, mx_lt (by omega), h2]
    · rw [pk_un e2]
      by_cases e1 : i = 1
      · subst e1; rw [pk_us, mx_lt (by omega), h1]
      · rw [pk_un e1]
        by_cases e0 : i = 0
        · subst e0; rw [pk_us, mx_lt (by omega), h0]
        · rw [pk_un e0, mx_ge (by omega)]
/-- the sum, as both write it; it is a number up to 4000; the rows of weights -/
theorem par_sum {k a b c d : Int32} (h : parq k a b c d) : a + (if 1 < k then b else 0) + (if 2 < k then c else 0) + (if 3 < k then d else 0) = smp (ww a b c d) (tn k) ∧ (∀ old : Nat → Int32, upd (upd (upd (upd old 0 a) 1 (if 1 < k then b else 0)) 2 (if 2 < k then c else 0)) 3 (if 3 < k then d else 0) = mx 4 (fun i => if i < tn k then ww a b c d i else 0) old) ∧ ∃ (w : Nat → Nat) (W : Nat), wok w W (tn k) ∧ smp (ww a b c d) (tn k) = nI W ∧ ∀ j, j < tn k → ww a b c d j = nI (w j) := by
  have hm := par_eq.mp h
  obtain ⟨hk, hg, hs⟩ := hm
  obtain ⟨-, ha, hb, hc, hd, hne⟩ := h
  obtain ⟨j, hj, rfl⟩ := le_of (b := 4) (by decide) ⟨Int32.le_trans (by decide) hk.1, hk.2⟩
  rw [show tn (nI j) = j from nI_clamp (by omega)] at hg hs ⊢
  have hj1 : 1 ≤ j := (nI_leI (by decide) (by omega)).mp hk.1
  obtain ⟨a', ha', rfl⟩ := in_of (b := 1001) (by decide) ha
  obtain ⟨b', hb', eb⟩ := in_of (b := 1001) (by decide) hb
  obtain ⟨c', hc', ec⟩ := in_of (b := 1001) (by decide) hc
  obtain ⟨d', hd', ed⟩ := in_of (b := 1001) (by decide) hd
  have z0 : ∀ {x : Nat}, x < 1001 → (0 : Int32) = nI x → x = 0 := fun hx e => ((nI_eq (b := 0) (by omega) (by decide)).mp e.symm)
  have big : ∀ x : Nat, x ≤ 4000 → nI x ≠ 0 → 1 ≤ x := fun x hx hn => by
    refine Nat.one_le_iff_ne_zero.mpr fun e => hn ?_
    rw [e]; rfl
  rw [eb, ec, ed] at hne ⊢
  rw [nI_add, nI_add, nI_add] at hne ⊢
  have hpos := big _ (by omega) hne
  have hw : ∀ i : Nat, (fun i : Nat => if i = 0 then a' else if i = 1 then b' else if i = 2 then c' else d') i ≤ 1000 := by
    intro i
    show (if i = 0 then a' else if i = 1 then b' else if i = 2 then c' else d') ≤ 1000
    split
    · omega
    · split
      · omega
      · split <;> omega
  have hcase : j = 1 ∨ j = 2 ∨ j = 3 ∨ j = 4 := by omega
  rcases hcase with rfl | rfl | rfl | rfl
  · rw [if_neg (by decide)] at eb ec ed
    have b0 := z0 hb' eb
    have c0 := z0 hc' ec
    have d0 := z0 hd' ed
    subst b0 c0 d0
    have hsm : smp (ww (nI a') b c d) 1 = nI (a' + 0 + 0 + 0) := by
      simp only [smp]
      rw [if_pos hg]
      simp [ww]
    refine ⟨hsm.symm, fun old => row4 rfl rfl rfl rfl, fun i => if i = 0 then a' else if i = 1 then 0 else if i = 2 then 0 else 0, a' + 0 + 0 + 0, ⟨by omega, by omega, hw, ?_, hpos, by omega⟩, hsm, fun j hj => ?_⟩
    · simp [sm]
    · have : j = 0 := by omega
      subst this; rfl
  · rw [if_pos (by decide)] at eb
    rw [if_neg (by decide)] at ec ed
    have c0 := z0 hc' ec
    have d0 := z0 hd' ed
    subst c0 d0 eb
    have h2 := hg
    simp only [gdp, Bool.and_eq_true] at h2
    have g1 : gdp (ww (nI a') (nI b') c d) 1 = true := by simp only [gdp, Bool.and_eq_true]; exact h2.1
    have hsm : smp (ww (nI a') (nI b') c d) 2 = nI (a' + b' + 0 + 0) := by
      simp only [smp]
      rw [if_pos g1, if_pos hg]
      show 0 + nI a' + nI b' = _
      rw [Int32.zero_add, nI_add]; rfl
    refine ⟨hsm.symm, fun old => row4 rfl rfl rfl rfl, fun i => if i = 0 then a' else if i = 1 then b' else if i = 2 then 0 else 0, a' + b' + 0 + 0, ⟨by omega, by omega, hw, ?_, hpos, by omega⟩, hsm, fun j hj => ?_⟩
    · simp [sm]
    · have : j = 0 ∨ j = 1 := by omega
      rcases this with rfl | rfl <;> rfl
  · rw [if_pos (by decide)] at eb
    rw [if_pos (by decide)] at ec
    rw [if_neg (by decide)] at ed
    have d0 := z0 hd' ed
    subst d0 eb ec
    have h2 := hg
    simp only [gdp, Bool.and_eq_true] at h2
    have g1 : gdp (ww (nI a') (nI b') (nI c') d) 1 = true := by simp only [gdp, Bool.and_eq_true]; exact h2.1.1
    have g2 : gdp (ww (nI a') (nI b') (nI c') d) 2 = true := by simp only [gdp, Bool.and_eq_true]; exact h2.1
    have hsm : smp (ww (nI a') (nI b') (nI c') d) 3 = nI (a' + b' + c' + 0) := by
      simp only [smp]
      rw [if_pos g1, if_pos g2, if_pos hg]
      show 0 + nI a' + nI b' + nI c' = _
      rw [Int32.zero_add, nI_add, nI_add]; rfl
    refine ⟨hsm.symm, fun old => row4 rfl rfl rfl rfl, fun i => if i = 0 then a' else if i = 1 then b' else if i = 2 then c' else 0, a' + b' + c' + 0, ⟨by omega, by omega, hw, ?_, hpos, by omega⟩, hsm, fun j hj => ?_⟩
    · simp [sm]
    · have : j = 0 ∨ j = 1 ∨ j = 2 := by omega
      rcases this with rfl | rfl | rfl <;> rfl
  · rw [if_pos (by decide)] at eb
    rw [if_pos (by decide)] at ec
    rw [if_pos (by decide)] at ed
    subst eb ec ed
    have h2 := hg
    simp only [gdp, Bool.and_eq_true] at h2
    have g1 : gdp (ww (nI a') (nI b') (nI c') (nI d')) 1 = true := by simp only [gdp, Bool.and_eq_true]; exact h2.1.1.1
    have g2 : gdp (ww (nI a') (nI b') (nI c') (nI d')) 2 = true := by simp only [gdp, Bool.and_eq_true]; exact h2.1.1
    have g3 : gdp (ww (nI a') (nI b') (nI c') (nI d')) 3 = true := by simp only [gdp, Bool.and_eq_true]; exact h2.1
    have hsm : smp (ww (nI a') (nI b') (nI c') (nI d')) 4 = nI (a' + b' + c' + d') := by
      simp only [smp]
      rw [if_pos g1, if_pos g2, if_pos g3, if_pos hg]
      show 0 + nI a' + nI b' + nI c' + nI d' = _
      rw [Int32.zero_add, nI_add, nI_add, nI_add]
    refine ⟨hsm.symm, fun old => row4 rfl rfl rfl rfl, fun i => if i = 0 then a' else if i = 1 then b' else if i = 2 then c' else d', a' + b' + c' + d', ⟨by omega, by omega, hw, ?_, hpos, by omega⟩, hsm, fun j hj => ?_⟩
    · simp [sm]
    · have : j = 0 ∨ j = 1 ∨ j = 2 ∨ j = 3 := by omega
      rcases this with rfl | rfl | rfl | rfl <;> rfl
/-- fitted rows are counted -/
theorem fit_ct {F : Nat → Int32} {s j : Nat} (hj : j < 100) (h0 : F (s * 100 + j) = 0) : ct (fun r => upd F (s * 100 + j) 1 (s * 100 + r) ≠ 0) 100 = ct (fun r => F (s * 100 + r) ≠ 0) 100 + 1 :=
  ct_drop (a := j) (by rw [pk_us]; decide) (fun z => z h0) hj (fun i hi hne => by rw [pk_un (by omega)])
theorem fit_ot {F : Nat → Int32} {s t j : Nat} (hj : j < 100) (h : t ≠ s) : ct (fun r => upd F (s * 100 + j) 1 (t * 100 + r) ≠ 0) 100 = ct (fun r => F (t * 100 + r) ≠ 0) 100 :=
  ct_c (fun i hi => by rw [pk_un (by omega)])
