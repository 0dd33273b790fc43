/-! the reference: round, folds, nested -/
/-- the things that are chosen have p -/
theorem sel_p {p : Nat → Prop} [DecidablePred p] {old : Nat → Int32} : ∀ n i, i < ct p n → ∃ r, r < n ∧ p r ∧ sel p old n i = nI r
  | 0, i, h => by cases h
  | n + 1, i, hi => by
    have ih := sel_p (p := p) (old := old) n
    by_cases h : p n
    · rw [sel_t h]
      rw [ct_t h] at hi
      by_cases e : i = ct p n
      · subst e; rw [pk_us]; exact ⟨n, by omega, h, rfl⟩
      · rw [pk_un e]
        obtain ⟨r, hr, e2⟩ := ih i (by omega)
        exact ⟨r, by omega, e2⟩
    · rw [sel_f h]
      rw [ct_f h] at hi
      obtain ⟨r, hr, e2⟩ := ih i hi
      exact ⟨r, by omega, e2⟩
theorem shm_in {m : Nat} {z : Int64} {f : Nat → Int32} {i : Nat} (hi : i < m) : ∃ j, j < m ∧ (shm m z f).2 i = f j := by
  obtain ⟨j, hj, e⟩ := shf_in (m - 1) z f i (by omega)
  exact ⟨j, by omega, e⟩
theorem nx_mod {k a : Nat} (h : a < k) : (a + 1) % k = if a + 1 < k then a + 1 else 0 := by
  by_cases e : a + 1 < k
  · rw [if_pos e, Nat.mod_eq_of_lt e]
  · have : a + 1 = k := by omega
    rw [if_neg e, this, Nat.mod_self]
/-- the rows of a label, as they are at first -/
abbrev rnd (Lb D : Nat → Int32) (th : Int32) (l r : Nat) : Prop := Lb r = nI l ∧ (th = 0 ∨ D r ≠ -1)
/-- the reference's even weights -/
def evm (S : Sx) (k : Nat) : Sx := xa (xi (xi S 1 (nI k)) 2 (nI k)) 7 (mx 4 (fun p => if p < k then 1 else 0) (S.2.2.1 7))
/-- how many labels have few rows -/
abbrev few (Lb D : Nat → Int32) (th : Int32) (k n l : Nat) : Prop := 0 < ct (rnd Lb D th l) n ∧ ct (rnd Lb D th l) n < k
def f_X7_round := en_f (σ := Nat × Int32 × Nat × Sx) (fun x => [.ref 0, .int (nI x.1), .int x.2.1]) (fun x => wM x.2.2.2) (fun x => 2 ≤ x.1 ∧ x.1 ≤ 4 ∧ x.2.2.1 ≤ 100 ∧ x.2.2.2.1 0 = nI x.2.2.1) (fun x v w => v = some (.int (nI (ct (few (x.2.2.2.2.2.1 2) (x.2.2.2.2.2.1 12) x.2.1 x.1 x.2.2.1) 5))) ∧ ∃ S', w = wM S' ∧ kpm (evm x.2.2.2 x.1) S' ∧ S'.2.2.1 12 = (fst (rnd (x.2.2.2.2.2.1 2) (x.2.2.2.2.2.1 12) x.2.1) x.1 x.2.2.1 x.2.2.2.2.1 (x.2.2.2.2.2.1 13) (x.2.2.2.2.2.1 12) 5).2.2.1)
def rm_X7_round : Room := { frames := 2, cells := 0, slots := 0, locals := 44 }
def t_X7_round : en_T := ((7, 0, 0), tb_X7_round, fl_X7, cn_X7, [(119, 3, 9, 0, 0, f_X7_ofLabel), (104, 1, 9, 0, 0, f_X7_shuffle)], [], 0, some .int)
set_option maxRecDepth 100000 in
theorem tB_X7_round (D : va_G) (dT : Nat → Nat) (l : Launch) : en_TB en_WD D vwCl dT l rm_X7_round t_X7_round RX7 "round" cX7_round := ⟨tk_X7_round, fun s args meth h hn => ⟨fo_X7 h args meth, co_X7 h args, List.forall_mem_cons.mpr ⟨mk_X7_ofLabel (own := RX7) h (Nat.le_of_ble_eq_true rfl) (Nat.le_of_ble_eq_true rfl) (Or.inl (en_wd h 894 (by decide +kernel) rfl args)), List.forall_mem_cons.mpr ⟨mk_X7_shuffle (own := RX7) h (Nat.le_of_ble_eq_true rfl) (Nat.le_of_ble_eq_true rfl) (Or.inl (en_wd h 872 (by decide +kernel) rfl args)), fun _ h => absurd h List.not_mem_nil⟩⟩, fun _ h => absurd h List.not_mem_nil, Or.inl rfl, en_arr h args⟩⟩
set_option maxHeartbeats 4000000 in
set_option maxRecDepth 100000 in
theorem bd_X7_round : en_B (σ := Nat × Int32 × Nat × Sx) t_X7_round (fun x => [.ref 0, .int (nI x.1), .int x.2.1]) (fun x => wM x.2.2.2) (fun x => 2 ≤ x.1 ∧ x.1 ≤ 4 ∧ x.2.2.1 ≤ 100 ∧ x.2.2.2.1 0 = nI x.2.2.1) (fun x v w => v = some (.int (nI (ct (few (x.2.2.2.2.2.1 2) (x.2.2.2.2.2.1 12) x.2.1 x.1 x.2.2.1) 5))) ∧ ∃ S', w = wM S' ∧ kpm (evm x.2.2.2 x.1) S' ∧ S'.2.2.1 12 = (fst (rnd (x.2.2.2.2.2.1 2) (x.2.2.2.2.2.1 12) x.2.1) x.1 x.2.2.1 x.2.2.2.2.1 (x.2.2.2.2.2.1 13) (x.2.2.2.2.2.1 12) 5).2.2.1) := by
  rintro ⟨k, th, n, S⟩ ⟨hk2, hk4, hn, h1⟩ G hG OK ⟨run, sub⟩
  dsimp only at hk2 hk4 hn h1 hG ⊢
  have loop := lp_up (fun l => ∀ S' : Sx, kpm (evm S k) S' → S'.2.1 = (fst (rnd (S.2.2.1 2) (S.2.2.1 12) th) k n S.2.1 (S.2.2.1 13) (S.2.2.1 12) l).1 → S'.2.2.1 13 = (fst (rnd (S.2.2.1 2) (S.2.2.1 12) th) k n S.2.1 (S.2.2.1 13) (S.2.2.1 12) l).2.1 → S'.2.2.1 12 = (fst (rnd (S.2.2.1 2) (S.2.2.1 12) th) k n S.2.1 (S.2.2.1 13) (S.2.2.1 12) l).2.2.1 → (∀ r, r < n → (∀ j, j < l → S.2.2.1 2 r ≠ nI j) → S'.2.2.1 12 r = S.2.2.1 12 r) → OK 0 0 47 [(0, .ref 0), (1, .int (nI k)), (2, .int th), (3, .int (nI (fst (rnd (S.2.2.1 2) (S.2.2.1 12) th) k n S.2.1 (S.2.2.1 13) (S.2.2.1 12) l).2.2.2)), (4, .int (nI (ct (few (S.2.2.1 2) (S.2.2.1 12) th k n) l))), (5, .int (nI l))] [] (wM S')) 5
    (fun S' hS' hz h13 h12 _ => by
      have hG2 := hG (some (.int (nI (ct (few (S.2.2.1 2) (S.2.2.1 12) th k n) 5)))) (wM S') ⟨rfl, S', rfl, hS', h12⟩
      generalize (fst (rnd (S.2.2.1 2) (S.2.2.1 12) th) k n S.2.1 (S.2.2.1 13) (S.2.2.1 12) 5).2.2.2 = ff
      generalize ct (few (S.2.2.1 2) (S.2.2.1 12) th k n) 5 = fw at hG2 ⊢
      refine run [47] 60 _ _ _ _ _ _ ?_
      conv => whnf
      refine pk_le 5 5 (fun h => ?_) (fun h => absurd h (by omega))
      conv => whnf
      exact hG2)
    (fun l hl ih S' hS' hz h13 h12 hkeep => by
      have h1' : S'.1 0 = nI n := (hS'.1 0 (by decide)).trans h1
      have h2' : S'.2.2.1 2 = S.2.2.1 2 := hS'.2.1 2 (by decide)
      have hlt := fst_lt (p := rnd (S.2.2.1 2) (S.2.2.1 12) th) (n := n) (z := S.2.1) (o16 := S.2.2.1 13) (o15 := S.2.2.1 12) (k := k) (by omega) l
      have eo : ∀ r, r < n → (ofl (S'.2.2.1 2) (S'.2.2.1 12) (nI l) th r ↔ rnd (S.2.2.1 2) (S.2.2.1 12) th l r) := fun r hr => by
        rw [h2']
        by_cases e : S.2.2.1 2 r = nI l
        · have := hkeep r hr (fun j hj z => by
            rw [e] at z
            have := (nI_eq (by omega) (by omega)).mp z
            omega)
          unfold ofl rnd
          rw [this]
        · exact ⟨fun z => absurd z.1 e, fun z => absurd z.1 e⟩
      have eS : sel (ofl (S'.2.2.1 2) (S'.2.2.1 12) (nI l) th) (S'.2.2.1 13) n = sel (rnd (S.2.2.1 2) (S.2.2.1 12) th l) (S'.2.2.1 13) n := sel_c eo
      have eC : ct (ofl (S'.2.2.1 2) (S'.2.2.1 12) (nI l) th) n = ct (rnd (S.2.2.1 2) (S.2.2.1 12) th l) n := ct_c eo
      have hv := vld_mono (sel_v (p := rnd (S.2.2.1 2) (S.2.2.1 12) th l) (old := S'.2.2.1 13) n) hn
      have hsp := sel_p (p := rnd (S.2.2.1 2) (S.2.2.1 12) th l) (old := S'.2.2.1 13) n
      have hc := ct_le (rnd (S.2.2.1 2) (S.2.2.1 12) th l) n
      have hfe : few (S.2.2.1 2) (S.2.2.1 12) th k n l ↔ 0 < ct (rnd (S.2.2.1 2) (S.2.2.1 12) th l) n ∧ ct (rnd (S.2.2.1 2) (S.2.2.1 12) th l) n < k := Iff.rfl
      have ft := ct_t (p := few (S.2.2.1 2) (S.2.2.1 12) th k n) (n := l)
      have ff := ct_f (p := few (S.2.2.1 2) (S.2.2.1 12) th k n) (n := l)
      simp only [fst] at ih
      rw [← hz, ← h13, ← h12] at ih
      generalize ct (few (S.2.2.1 2) (S.2.2.1 12) th k n) (l + 1) = fw' at ft ff ih
      generalize ct (few (S.2.2.1 2) (S.2.2.1 12) th k n) l = fw at ft ff ⊢
      generalize few (S.2.2.1 2) (S.2.2.1 12) th k n l = fq at hfe ft ff
      generalize (fst (rnd (S.2.2.1 2) (S.2.2.1 12) th) k n S.2.1 (S.2.2.1 13) (S.2.2.1 12) l).2.2.2 = nf at hlt ih ⊢
      generalize sel (rnd (S.2.2.1 2) (S.2.2.1 12) th l) (S'.2.2.1 13) n = SE at eS hv hsp ih
      generalize ct (rnd (S.2.2.1 2) (S.2.2.1 12) th l) n = C at eC hv hsp hc hfe ih
      have hv2 := shm_v (z := S'.2.1) hv
      have hin := fun (i : Nat) (hi : i < C) => shm_in (z := S'.2.1) (f := SE) hi
      rw [nI_succ] at ih
      refine run [47, 67] 60 _ _ _ _ _ _ ?_
      conv => whnf
      refine pk_le 5 l (fun h => absurd h (by omega)) (fun h => ?_)
      conv => whnf
      refine ⟨(n, nI l, th, S'), rfl, rfl, ⟨hn, h1'⟩, ?_⟩
      intro v u hvu
      obtain ⟨rfl, rfl⟩ : v = none ∧ u = wM (xi (xa S' 13 SE) 5 (nI C)) := by rw [← eS, ← eC]; exact hvu
      conv => whnf
      refine ⟨(C, xi (xa S' 13 SE) 5 (nI C)), rfl, rfl, ⟨(by dsimp only; omega), rfl⟩, ?_⟩
      intro v u hvu
      obtain ⟨rfl, rfl⟩ : v = none ∧ u = wM (xa (xz (xi (xa S' 13 SE) 5 (nI C)) (shm C S'.2.1 SE).1) 13 (shm C S'.2.1 SE).2) := hvu
      generalize shm C S'.2.1 SE = Z at hv2 hin ih ⊢
      have fin : ∀ fw2 : Nat, fw2 = fw' → OK 0 0 126 [(0, .ref 0), (1, .int (nI k)), (2, .int th), (3, .int (nI (nx k nf C))), (4, .int (nI fw2)), (5, .int (nI l)), (6, .int (nI C))] [] (wM (xa (xa (xz (xi (xa S' 13 SE) 5 (nI C)) Z.1) 13 Z.2) 12 (dl Z.2 (fun i => nI (nx k nf i)) (S'.2.2.1 12) C))) := by
        rintro _ rfl
        have hih := ih (xa (xa (xz (xi (xa S' 13 SE) 5 (nI C)) Z.1) 13 Z.2) 12 (dl Z.2 (fun i => nI (nx k nf i)) (S'.2.2.1 12) C)) (kpm_tr hS' (kpm_tr (kpm_tr (kpm_tr (kpm_tr (kpm_a (by omega)) kpm_i) kpm_z) (kpm_a (by omega))) (kpm_a (by omega)))) rfl rfl rfl (fun r hr hno => by
          show dl Z.2 (fun i => nI (nx k nf i)) (S'.2.2.1 12) C r = S.2.2.1 12 r
          rw [dl_not, hkeep r hr (fun j hj => hno j (by omega))]
          intro i hi e
          obtain ⟨j, hj, e2⟩ := hin i hi
          obtain ⟨q, hq, hpq, e3⟩ := hsp j hj
          rw [e2, e3, show tn (nI q) = q from nI_clamp (by omega)] at e
          subst e
          exact hno l (by omega) hpq.1)
        generalize dl Z.2 (fun i => nI (nx k nf i)) (S'.2.2.1 12) C = D at hih ⊢
        generalize nx k nf C = nn at hih ⊢
        refine run [47] 60 _ _ _ _ _ _ ?_
        conv => whnf
        exact sub [0, 1, 2, 3, 4, 5] _ _ _ _ _ _ _ rfl hih
      have inner : ∀ i, i ≤ C → OK 0 0 67 [(0, .ref 0), (1, .int (nI k)), (2, .int th), (3, .int (nI (nx k nf i))), (4, .int (nI fw)), (5, .int (nI l)), (6, .int (nI i))] [] (wM (xa (xa (xz (xi (xa S' 13 SE) 5 (nI C)) Z.1) 13 Z.2) 12 (dl Z.2 (fun i => nI (nx k nf i)) (S'.2.2.1 12) i))) := by
        refine lp_up (fun i => OK 0 0 67 [(0, .ref 0), (1, .int (nI k)), (2, .int th), (3, .int (nI (nx k nf i))), (4, .int (nI fw)), (5, .int (nI l)), (6, .int (nI i))] [] (wM (xa (xa (xz (xi (xa S' 13 SE) 5 (nI C)) Z.1) 13 Z.2) 12 (dl Z.2 (fun i => nI (nx k nf i)) (S'.2.2.1 12) i)))) C ?_ ?_
        · generalize dl Z.2 (fun i => nI (nx k nf i)) (S'.2.2.1 12) C = D at fin ⊢
          generalize nx k nf C = nn at fin ⊢
          refine run [67, 126] 60 _ _ _ _ _ _ ?_
          conv => whnf
          refine pk_le C C (fun h => ?_) (fun h => absurd h (by omega))
          conv => whnf
          refine pk_le C 0 (fun h => ?_) (fun h => ?_)
          · have h2 := fin fw (ff (fun z => by have := hfe.mp z; omega)).symm
            rw [← Int32.add_zero (nI fw)] at h2
            conv => whnf
            exact h2
          · conv => whnf
            refine pk_le k C (fun h => ?_) (fun h => ?_)
            · have h2 := fin fw (ff (fun z => by have := hfe.mp z; omega)).symm
              rw [← Int32.add_zero (nI fw)] at h2
              conv => whnf
              exact h2
            · have h2 := fin (fw + 1) (ft (hfe.mpr ⟨by omega, h⟩)).symm
              rw [nI_succ] at h2
              conv => whnf
              exact h2
        · intro i hi ihi
          have hnlt := nx_lt hlt i
          have hmod := nx_mod hnlt
          rw [nI_succ] at ihi
          simp only [nx, dl] at ihi
          rw [← hmod] at ihi
          generalize nx k nf i = a at hnlt ihi ⊢
          generalize dl Z.2 (fun i => nI (nx k nf i)) (S'.2.2.1 12) i = D at ihi ⊢
          have hr : nI ((a + 1) % k) = nI (a + 1) - nI (a + 1) / nI k * nI k := (pk_rem (by omega) (by omega) (by omega)).symm
          rw [hr, nI_succ a] at ihi
          refine run [67] 60 _ _ _ _ _ _ ?_
          conv => whnf
          refine pk_le C i (fun h => absurd h (by omega)) (fun h => ?_)
          conv => whnf
          refine ⟨vp_in_nI (by omega) (by decide), ?_⟩
          rw [nI_clamp (by omega)]
          conv => whnf
          refine ⟨vld_in hv2 hi (by decide), ?_⟩
          conv => whnf
          refine ⟨fun e => absurd ((nI_eq (b := 0) (by omega) (by decide)).mp e) (by omega), ?_⟩
          conv => whnf
          exact ihi
      conv => whnf
      exact inner 0 (by omega))
  have loop1 := lp_up (fun p => OK 0 0 12 [(0, .ref 0), (1, .int (nI k)), (2, .int th), (3, .int (nI p))] [] (wM (xa (xi (xi S 1 (nI k)) 2 (nI k)) 7 (mx p (fun p => if p < k then 1 else 0) (S.2.2.1 7))))) 4
    (by
      have h0 := loop 0 (by omega) (evm S k) (kpm_rf _) rfl rfl rfl (fun _ _ _ => rfl)
      refine run [12, 47] 60 _ _ _ _ _ _ ?_
      conv => whnf
      refine pk_le 4 4 (fun h => ?_) (fun h => absurd h (by omega))
      conv => whnf
      exact h0)
    (fun p hp ih => by
      rw [nI_succ, ← mx_s] at ih
      refine run [12, 47] 60 _ _ _ _ _ _ ?_
      conv => whnf
      refine pk_le 4 p (fun h => absurd h (by omega)) (fun h => ?_)
      conv => whnf
      refine pk_le k p (fun h => ?_) (fun h => ?_)
      · rw [if_neg (by omega)] at ih
        conv => whnf
        refine ⟨vp_in_nI (by omega) (by decide), ?_⟩
        rw [nI_clamp (by omega)]
        conv => whnf
        exact ih
      · rw [if_pos h] at ih
        conv => whnf
        refine ⟨vp_in_nI (by omega) (by decide), ?_⟩
        rw [nI_clamp (by omega)]
        conv => whnf
        exact ih)
  refine run [12] 60 _ _ _ _ _ _ ?_
  conv => whnf
  have h0 := loop1 0 (by omega)
  rw [mx_0] at h0
  exact h0
theorem ct_X7_round (D : va_G) (dT : Nat → Nat) (l : Launch) : en_CT en_WD D vwCl dT l yX7_round cX7_round 7 (some .int) rm_X7_round f_X7_round := en_met en_WD1 en_WD2 (by decide) rfl rfl (tB_X7_round D dT l) (en_f_ln (fun _ => Nat.le_of_ble_eq_true rfl)) (en_f_bd bd_X7_round)
set_option maxRecDepth 100000 in
theorem mk_X7_round {D : va_G} {dT : Nat → Nat} {l : Launch} {R : Room} {s : State} {args : Array Value} {own : String} {idx : Nat} (h : en_WD s) (h1 : rm_X7_round.frames + 1 ≤ R.frames) (h2 : 8 + (7 + 11) + rm_X7_round.locals ≤ R.locals) (hl : (Jvm.Cond.methodLink own idx yX7_round).before args s = true ∨ ∃ host, (Jvm.Cond.methodLinkNest own idx yX7_round host).before args s = true) : en_mok en_WD D vwCl dT l R s args own (idx, 3, 9, 0, 0, f_X7_round) :=
  ⟨yX7_round, cX7_round, 7, some .int, rm_X7_round, 2, ct_X7_round D dT l, rfl, rfl, h1, h2, en_wd h 913 rfl rfl args, en_wd h 66 (by decide +kernel) rfl args, by decide, by decide, hl, ⟨RX7, TX7, 24, rfl, en_wd h 912 (by decide +kernel) rfl args, en_wd h 46 (by decide +kernel) rfl args, rfl⟩⟩
/-- what the folds deal -/
def PMF (S : Sx) (k n : Nat) (z : Int64) : Nat → Int32 := (fst (rnd (S.2.2.1 2) (S.2.2.1 12) 0) k n z (S.2.2.1 13) (S.2.2.1 12) 5).2.2.1
def f_X7_folds := en_f (σ := Int32 × Int64 × Nat × Sx) (fun x => [.ref 0, .int x.1, .long x.2.1]) (fun x => wM x.2.2.2) (fun x => x.2.2.1 ≤ 100 ∧ x.2.2.2.1 0 = nI x.2.2.1) (fun x v w => (¬ (2 ≤ x.1 ∧ x.1 ≤ 4) ∧ ansM v w (-2) (xi x.2.2.2 4 0)) ∨ ((2 ≤ x.1 ∧ x.1 ≤ 4) ∧ ∃ S', kpm (evm (xi x.2.2.2 4 0) (tn x.1)) S' ∧ ansM v w (nI (ct (few (x.2.2.2.2.2.1 2) (x.2.2.2.2.2.1 12) 0 (tn x.1) x.2.2.1) 5)) (xa S' 6 (mx x.2.2.1 (PMF x.2.2.2 (tn x.1) x.2.2.1 x.2.1) (x.2.2.2.2.2.1 6)))))
def rm_X7_folds : Room := { frames := 3, cells := 0, slots := 0, locals := 70 }
def t_X7_folds : en_T := ((5, 0, 0), tb_X7_folds, fl_X7, cn_X7, [(70, 3, 0, 0, 0, f_X7_in), (131, 3, 9, 0, 0, f_X7_round), (127, 1, 9, 0, 0, f_X7_take)], [], 0, some .int)
set_option maxRecDepth 100000 in
theorem tB_X7_folds (D : va_G) (dT : Nat → Nat) (l : Launch) : en_TB en_WD D vwCl dT l rm_X7_folds t_X7_folds RX7 "folds" cX7_folds := ⟨tk_X7_folds, fun s args meth h hn => ⟨fo_X7 h args meth, co_X7 h args, List.forall_mem_cons.mpr ⟨mk_X7_in (own := RX7) h (Nat.le_of_ble_eq_true rfl) (Nat.le_of_ble_eq_true rfl) (Or.inl (en_wd h 828 (by decide +kernel) rfl args)), List.forall_mem_cons.mpr ⟨mk_X7_round (own := RX7) h (Nat.le_of_ble_eq_true rfl) (Nat.le_of_ble_eq_true rfl) (Or.inl (en_wd h 910 (by decide +kernel) rfl args)), List.forall_mem_cons.mpr ⟨mk_X7_take (own := RX7) h (Nat.le_of_ble_eq_true rfl) (Nat.le_of_ble_eq_true rfl) (Or.inl (en_wd h 898 (by decide +kernel) rfl args)), fun _ h => absurd h List.not_mem_nil⟩⟩⟩, fun _ h => absurd h List.not_mem_nil, Or.inl rfl, en_arr h args⟩⟩
set_option maxHeartbeats 4000000 in
set_option maxRecDepth 100000 in
theorem bd_X7_folds : en_B (σ := Int32 × Int64 × Nat × Sx) t_X7_folds (fun x => [.ref 0, .int x.1, .long x.2.1]) (fun x => wM x.2.2.2) (fun x => x.2.2.1 ≤ 100 ∧ x.2.2.2.1 0 = nI x.2.2.1) (fun x v w => (¬ (2 ≤ x.1 ∧ x.1 ≤ 4) ∧ ansM v w (-2) (xi x.2.2.2 4 0)) ∨ ((2 ≤ x.1 ∧ x.1 ≤ 4) ∧ ∃ S', kpm (evm (xi x.2.2.2 4 0) (tn x.1)) S' ∧ ansM v w (nI (ct (few (x.2.2.2.2.2.1 2) (x.2.2.2.2.2.1 12) 0 (tn x.1) x.2.2.1) 5)) (xa S' 6 (mx x.2.2.1 (PMF x.2.2.2 (tn x.1) x.2.2.1 x.2.1) (x.2.2.2.2.2.1 6))))) := by
  rintro ⟨kk, z, n, S⟩ ⟨hn, h1⟩ G hG OK ⟨run, sub⟩
  dsimp only at hn h1 hG ⊢
  refine run [] 60 _ _ _ _ _ _ ?_
  conv => whnf
  refine ⟨(kk, 2, 4, wM (xi S 4 0)), rfl, rfl, trivial, ?_⟩
  rintro _ _ ⟨rfl, rfl⟩
  conv => whnf
  refine bl_br2 (fun c1 => ?_) (fun c1 => ?_)
  rotate_left
  · conv => whnf
    exact hG _ _ (Or.inl ⟨c1, rfl, rfl⟩)
  have c1 : 2 ≤ kk ∧ kk ≤ 4 := c1
  obtain ⟨k, hk4, rfl⟩ := le_of (b := 4) (by decide) ⟨Int32.le_trans (by decide) c1.1, c1.2⟩
  have hk2 : 2 ≤ k := (nI_leI (by decide) (by omega)).mp c1.1
  rw [show tn (nI k) = k from nI_clamp (by omega)] at hG
  conv => whnf
  refine ⟨(k, 0, n, xz (xi S 4 0) z), rfl, rfl, ⟨hk2, hk4, hn, h1⟩, ?_⟩
  rintro v u ⟨hv0, S', hu, hS', h12⟩
  obtain rfl : v = some (.int (nI (ct (few (S.2.2.1 2) (S.2.2.1 12) 0 k n) 5))) := hv0
  obtain rfl : u = wM S' := hu
  have h12 : S'.2.2.1 12 = PMF S k n z := h12
  have hS' : kpm (evm (xi S 4 0) k) S' := ⟨hS'.1, hS'.2.1, hS'.2.2⟩
  have h1' : S'.1 0 = nI n := (hS'.1 0 (by decide)).trans h1
  have h6 : S'.2.2.1 6 = S.2.2.1 6 := hS'.2.1 6 (by decide)
  generalize PMF S k n z = F at h12 hG
  generalize ct (few (S.2.2.1 2) (S.2.2.1 12) 0 k n) 5 = fw at hG ⊢
  conv => whnf
  refine ⟨(n, S'), rfl, rfl, ⟨hn, h1'⟩, ?_⟩
  intro v u hvu
  obtain ⟨rfl, rfl⟩ : v = some (.int (nI (ct (fun r => S'.2.2.1 12 r ≠ -1) n))) ∧ u = wM (xa S' 6 (mx n (S'.2.2.1 12) (S'.2.2.1 6))) := hvu
  rw [h12, h6]
  conv => whnf
  exact hG _ _ (Or.inr ⟨c1, S', hS', rfl, rfl⟩)
theorem ct_X7_folds (D : va_G) (dT : Nat → Nat) (l : Launch) : en_CT en_WD D vwCl dT l yX7_folds cX7_folds 5 (some .int) rm_X7_folds f_X7_folds := en_met en_WD1 en_WD2 (by decide) rfl rfl (tB_X7_folds D dT l) (en_f_ln (fun _ => Nat.le_of_ble_eq_true rfl)) (en_f_bd bd_X7_folds)
set_option maxRecDepth 100000 in
theorem mk_X7_folds {D : va_G} {dT : Nat → Nat} {l : Launch} {R : Room} {s : State} {args : Array Value} {own : String} {idx : Nat} (h : en_WD s) (h1 : rm_X7_folds.frames + 1 ≤ R.frames) (h2 : 8 + (5 + 11) + rm_X7_folds.locals ≤ R.locals) (hl : (Jvm.Cond.methodLink own idx yX7_folds).before args s = true ∨ ∃ host, (Jvm.Cond.methodLinkNest own idx yX7_folds host).before args s = true) : en_mok en_WD D vwCl dT l R s args own (idx, 3, 9, 0, 0, f_X7_folds) :=
  ⟨yX7_folds, cX7_folds, 5, some .int, rm_X7_folds, 2, ct_X7_folds D dT l, rfl, rfl, h1, h2, en_wd h 909 rfl rfl args, en_wd h 66 (by decide +kernel) rfl args, by decide, by decide, hl, ⟨RX7, TX7, 24, rfl, en_wd h 907 (by decide +kernel) rfl args, en_wd h 908 (by decide +kernel) rfl args, rfl⟩⟩
/-- what stands before folds of folds -/
abbrev nd0 (P : Nat → Int32) (o : Int32) (n : Nat) (old : Nat → Int32) : Nat → Int32 := mx n (fun r => if P r = o then -1 else P r) old
def PMG (S : Sx) (k n : Nat) (z : Int64) (o : Int32) : Nat → Int32 := (fst (rnd (S.2.2.1 2) (nd0 (S.2.2.1 6) o n (S.2.2.1 12)) 1) k n (z + o.toInt64) (S.2.2.1 13) (nd0 (S.2.2.1 6) o n (S.2.2.1 12)) 5).2.2.1
def f_X7_nested := en_f (σ := Int32 × Int32 × Int64 × Nat × Sx) (fun x => [.ref 0, .int x.1, .int x.2.1, .long x.2.2.1]) (fun x => wM x.2.2.2.2) (fun x => x.2.2.2.1 ≤ 100 ∧ x.2.2.2.2.1 0 = nI x.2.2.2.1) (fun x v w => (¬ nesq x.1 x.2.1 ∧ ansM v w (-2) (xi x.2.2.2.2 4 0)) ∨ (nesq x.1 x.2.1 ∧ cin (x.2.2.2.2.2.2.1 6) (x.2.2.2.2.2.2.1 2) x.2.2.2.1 x.1 (-1) = 0 ∧ ansM v w (-4) (xi x.2.2.2.2 4 0)) ∨ (nesq x.1 x.2.1 ∧ cin (x.2.2.2.2.2.2.1 6) (x.2.2.2.2.2.2.1 2) x.2.2.2.1 x.1 (-1) ≠ 0 ∧ ∃ S', kpm (evm (xi x.2.2.2.2 4 0) (tn x.2.1)) S' ∧ ansM v w (nI (ct (fun r => PMG x.2.2.2.2 (tn x.2.1) x.2.2.2.1 x.2.2.1 x.1 r ≠ -1) x.2.2.2.1)) (xa S' 6 (mx x.2.2.2.1 (PMG x.2.2.2.2 (tn x.2.1) x.2.2.2.1 x.2.2.1 x.1) (x.2.2.2.2.2.2.1 6)))))
def rm_X7_nested : Room := { frames := 3, cells := 0, slots := 0, locals := 70 }
def t_X7_nested : en_T := ((6, 0, 0), tb_X7_nested, fl_X7, cn_X7, [(70, 3, 0, 0, 0, f_X7_in), (135, 3, 9, 0, 0, f_X7_many), (131, 3, 9, 0, 0, f_X7_round), (127, 1, 9, 0, 0, f_X7_take)], [], 0, some .int)
set_option maxRecDepth 100000 in
theorem tB_X7_nested (D : va_G) (dT : Nat → Nat) (l : Launch) : en_TB en_WD D vwCl dT l rm_X7_nested t_X7_nested RX7 "nested" cX7_nested := ⟨tk_X7_nested, fun s args meth h hn => ⟨fo_X7 h args meth, co_X7 h args, List.forall_mem_cons.mpr ⟨mk_X7_in (own := RX7) h (Nat.le_of_ble_eq_true rfl) (Nat.le_of_ble_eq_true rfl) (Or.inl (en_wd h 828 (by decide +kernel) rfl args)), List.forall_mem_cons.mpr ⟨mk_X7_many (own := RX7) h (Nat.le_of_ble_eq_true rfl) (Nat.le_of_ble_eq_true rfl) (Or.inl (en_wd h 918 (by decide +kernel) rfl args)), List.forall_mem_cons.mpr ⟨mk_X7_round (own := RX7) h (Nat.le_of_ble_eq_true rfl) (Nat.le_of_ble_eq_true rfl) (Or.inl (en_wd h 910 (by decide +kernel) rfl args)), List.forall_mem_cons.mpr ⟨mk_X7_take (own := RX7) h (Nat.le_of_ble_eq_true rfl) (Nat.le_of_ble_eq_true rfl) (Or.inl (en_wd h 898 (by decide +kernel) rfl args)), fun _ h => absurd h List.not_mem_nil⟩⟩⟩⟩, fun _ h => absurd h List.not_mem_nil, Or.inl rfl, en_arr h args⟩⟩
set_option maxHeartbeats 4000000 in
set_option maxRecDepth 100000 in
theorem bd_X7_nested : en_B (σ := Int32 × Int32 × Int64 × Nat × Sx) t_X7_nested (fun x => [.ref 0, .int x.1, .int x.2.1, .long x.2.2.1]) (fun x => wM x.2.2.2.2) (fun x => x.2.2.2.1 ≤ 100 ∧ x.2.2.2.2.1 0 = nI x.2.2.2.1) (fun x v w => (¬ nesq x.1 x.2.1 ∧ ansM v w (-2) (xi x.2.2.2.2 4 0)) ∨ (nesq x.1 x.2.1 ∧ cin (x.2.2.2.2.2.2.1 6) (x.2.2.2.2.2.2.1 2) x.2.2.2.1 x.1 (-1) = 0 ∧ ansM v w (-4) (xi x.2.2.2.2 4 0)) ∨ (nesq x.1 x.2.1 ∧ cin (x.2.2.2.2.2.2.1 6) (x.2.2.2.2.2.2.1 2) x.2.2.2.1 x.1 (-1) ≠ 0 ∧ ∃ S', kpm (evm (xi x.2.2.2.2 4 0) (tn x.2.1)) S' ∧ ansM v w (nI (ct (fun r => PMG x.2.2.2.2 (tn x.2.1) x.2.2.2.1 x.2.2.1 x.1 r ≠ -1) x.2.2.2.1)) (xa S' 6 (mx x.2.2.2.1 (PMG x.2.2.2.2 (tn x.2.1) x.2.2.2.1 x.2.2.1 x.1) (x.2.2.2.2.2.2.1 6))))) := by
  rintro ⟨o, kk, z, n, S⟩ ⟨hn, h1⟩ G hG OK ⟨run, sub⟩
  dsimp only at hn h1 hG ⊢
  refine run [41] 60 _ _ _ _ _ _ ?_
  conv => whnf
  refine ⟨(o, 0, 3, wM (xi S 4 0)), rfl, rfl, trivial, ?_⟩
  rintro _ _ ⟨rfl, rfl⟩
  conv => whnf
  refine bl_br (fun c1 => ?_) (fun c1 => ?_)
  · conv => whnf
    exact hG _ _ (Or.inl ⟨fun z => c1 ⟨z.1.1, (le_lt (b := 3) (by decide)).mpr z.1.2⟩, rfl, rfl⟩)
  have c1 : 0 ≤ o ∧ o < 4 := ⟨c1.1, (le_lt (b := 3) (by decide)).mp c1.2⟩
  conv => whnf
  refine ⟨(kk, 2, 4, wM (xi S 4 0)), rfl, rfl, trivial, ?_⟩
  rintro _ _ ⟨rfl, rfl⟩
  conv => whnf
  refine bl_br2 (fun c2 => ?_) (fun c2 => ?_)
  rotate_left
  · conv => whnf
    exact hG _ _ (Or.inl ⟨fun z => c2 z.2, rfl, rfl⟩)
  have c2 : 2 ≤ kk ∧ kk ≤ 4 := c2
  conv => whnf
  refine ⟨(o, -1, n, xi S 4 0), rfl, rfl, ⟨hn, h1⟩, ?_⟩
  intro v u hvu
  obtain ⟨rfl, rfl⟩ : v = some (.int (nI (cin (S.2.2.1 6) (S.2.2.1 2) n o (-1)))) ∧ u = wM (xi S 4 0) := by
    refine ⟨hvu.1.trans ?_, hvu.2⟩
    show some (Value.int (if manq o (-1) then _ else _)) = _
    rw [if_pos ⟨c1, Or.inl rfl⟩]
    rfl
  have hcl : cin (S.2.2.1 6) (S.2.2.1 2) n o (-1) ≤ n := ct_le _ n
  have hc0 : nI (cin (S.2.2.1 6) (S.2.2.1 2) n o (-1)) = 0 ↔ cin (S.2.2.1 6) (S.2.2.1 2) n o (-1) = 0 := nI_eq (b := 0) (by omega) (by decide)
  generalize cin (S.2.2.1 6) (S.2.2.1 2) n o (-1) = ci at hcl hc0 hG ⊢
  conv => whnf
  refine ⟨fun c3 => ?_, fun c3 => ?_⟩
  rotate_left
  · conv => whnf
    exact hG _ _ (Or.inr (Or.inl ⟨⟨c1, c2⟩, hc0.mp c3, rfl, rfl⟩))
  have c3 : ci ≠ 0 := fun z => c3 (hc0.mpr z)
  obtain ⟨k, hk4, rfl⟩ := le_of (b := 4) (by decide) ⟨Int32.le_trans (by decide) c2.1, c2.2⟩
  have hk2 : 2 ≤ k := (nI_leI (by decide) (by omega)).mp c2.1
  rw [show tn (nI k) = k from nI_clamp (by omega)] at hG
  have tail : OK 0 0 85 [(0, .ref 0), (1, .int o), (2, .int (nI k)), (3, .long z)] [] (wM (xa (xi S 4 0) 12 (nd0 (S.2.2.1 6) o n (S.2.2.1 12)))) := by
    have hPG : PMG S k n z o = (fst (rnd (S.2.2.1 2) (nd0 (S.2.2.1 6) o n (S.2.2.1 12)) 1) k n (z + o.toInt64) (S.2.2.1 13) (nd0 (S.2.2.1 6) o n (S.2.2.1 12)) 5).2.2.1 := rfl
    generalize PMG S k n z o = F at hPG hG
    generalize nd0 (S.2.2.1 6) o n (S.2.2.1 12) = D0 at hPG ⊢
    refine run [] 60 _ _ _ _ _ _ ?_
    conv => whnf
    refine ⟨(k, 1, n, xz (xa (xi S 4 0) 12 D0) (z + o.toInt64)), rfl, rfl, ⟨hk2, hk4, hn, h1⟩, ?_⟩
    rintro v u ⟨hv0, S', hu, hS', h12⟩
    obtain rfl : v = some (.int (nI (ct (few (S.2.2.1 2) D0 1 k n) 5))) := hv0
    obtain rfl : u = wM S' := hu
    have h12 : S'.2.2.1 12 = F := by rw [hPG]; exact h12
    have hS' : kpm (evm (xi S 4 0) k) S' := kpm_tr (T := evm (xz (xa (xi S 4 0) 12 D0) (z + o.toInt64)) k) ⟨fun _ _ => rfl, fun a ha => by
      show (if a = 7 then _ else if a = 12 then _ else _) = (if a = 7 then _ else _)
      rw [if_neg (show ¬ a = 12 by omega)]; rfl, rfl⟩ hS'
    have h1' : S'.1 0 = nI n := (hS'.1 0 (by decide)).trans h1
    have h6 : S'.2.2.1 6 = S.2.2.1 6 := hS'.2.1 6 (by decide)
    generalize ct (few (S.2.2.1 2) D0 1 k n) 5 = fw
    conv => whnf
    refine ⟨(n, S'), rfl, rfl, ⟨hn, h1'⟩, ?_⟩
    intro v u hvu
    obtain ⟨rfl, rfl⟩ : v = some (.int (nI (ct (fun r => S'.2.2.1 12 r ≠ -1) n))) ∧ u = wM (xa S' 6 (mx n (S'.2.2.1 12) (S'.2.2.1 6))) := hvu
    rw [h12, h6]
    conv => whnf
    exact hG _ _ (Or.inr (Or.inr ⟨⟨c1, c2⟩, c3, S', hS', rfl, rfl⟩))
  have loop := lp_up (fun i => OK 0 0 41 [(0, .ref 0), (1, .int o), (2, .int (nI k)), (3, .long z), (5, .int (nI i))] [] (wM (xa (xi S 4 0) 12 (mx i (fun r => if S.2.2.1 6 r = o then -1 else S.2.2.1 6 r) (S.2.2.1 12))))) n
    (by
      refine run [41, 85] 60 _ _ _ _ _ _ ?_
      conv => whnf
      refine pk_le n n (fun h => ?_) (fun h => absurd h (by omega)) h1
      conv => whnf
      exact sub [0, 1, 2, 3] _ _ _ _ _ _ _ rfl tail)
    (fun i hi ih => by
      rw [nI_succ, ← mx_s] at ih
      refine run [41, 85] 60 _ _ _ _ _ _ ?_
      conv => whnf
      refine pk_le n i (fun h => absurd h (by omega)) (fun h => ?_) h1
      conv => whnf
      refine ⟨vp_in_nI (by omega) (by decide), ?_⟩
      rw [nI_clamp (by omega)]
      conv => whnf
      refine ⟨fun hc => ?_, fun hc => ?_⟩
      · have hc : ¬ S.2.2.1 6 i = o := hc
        rw [if_neg hc] at ih
        conv => whnf
        refine ⟨vp_in_nI (by omega) (by decide), ?_⟩
        rw [nI_clamp (by omega)]
        conv => whnf
        refine ⟨vp_in_nI (by omega) (by decide), ?_⟩
        rw [nI_clamp (by omega)]
        conv => whnf
        exact ih
      · have hc : S.2.2.1 6 i = o := hc
        rw [if_pos hc] at ih
        conv => whnf
        refine ⟨vp_in_nI (by omega) (by decide), ?_⟩
        rw [nI_clamp (by omega)]
        conv => whnf
        exact ih)
  conv => whnf
  have h0 := loop 0 (by omega)
  rw [mx_0] at h0
  exact h0
theorem ct_X7_nested (D : va_G) (dT : Nat → Nat) (l : Launch) : en_CT en_WD D vwCl dT l yX7_nested cX7_nested 6 (some .int) rm_X7_nested f_X7_nested := en_met en_WD1 en_WD2 (by decide) rfl rfl (tB_X7_nested D dT l) (en_f_ln (fun _ => Nat.le_of_ble_eq_true rfl)) (en_f_bd bd_X7_nested)
set_option maxRecDepth 100000 in
theorem mk_X7_nested {D : va_G} {dT : Nat → Nat} {l : Launch} {R : Room} {s : State} {args : Array Value} {own : String} {idx : Nat} (h : en_WD s) (h1 : rm_X7_nested.frames + 1 ≤ R.frames) (h2 : 8 + (6 + 11) + rm_X7_nested.locals ≤ R.locals) (hl : (Jvm.Cond.methodLink own idx yX7_nested).before args s = true ∨ ∃ host, (Jvm.Cond.methodLinkNest own idx yX7_nested host).before args s = true) : en_mok en_WD D vwCl dT l R s args own (idx, 4, 9, 0, 0, f_X7_nested) :=
  ⟨yX7_nested, cX7_nested, 6, some .int, rm_X7_nested, 3, ct_X7_nested D dT l, rfl, rfl, h1, h2, en_wd h 917 rfl rfl args, en_wd h 66 (by decide +kernel) rfl args, by decide, by decide, hl, ⟨RX7, TX7, 24, rfl, en_wd h 915 (by decide +kernel) rfl args, en_wd h 916 (by decide +kernel) rfl args, rfl⟩⟩
