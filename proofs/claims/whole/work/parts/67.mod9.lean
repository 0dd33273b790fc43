/-! the reference: by groups -/
theorem ct_fs {p : Nat → Prop} [DecidablePred p] : ∀ {n : Nat}, 0 < ct p n ↔ fs p n ≠ none
  | 0 => ⟨fun h => absurd h (Nat.lt_irrefl 0), fun h => absurd rfl h⟩
  | n + 1 => by
    have ih := ct_fs (p := p) (n := n)
    by_cases hp : p n
    · rw [ct_t hp]
      refine ⟨fun _ h => fs_no h n (by omega) hp, fun _ => by omega⟩
    · rw [ct_f hp, ih]
      constructor
      · intro h h2
        obtain ⟨r, hr⟩ : ∃ r, fs p n = some r := by
          cases hf : fs p n with
          | none => exact absurd hf h
          | some r => exact ⟨r, rfl⟩
        rw [fs_s hr (n + 1) (by omega)] at h2
        cases h2
      · intro h h2
        exact h (fs_f h2 hp)
def f_X7_byGroups := en_f (σ := Nat × Nat × Sx) (fun _ => [.ref 0]) (fun x => wM x.2.2) (fun x => 1 ≤ x.1 ∧ x.1 ≤ 4 ∧ x.2.2.1 1 = nI x.1 ∧ x.2.1 ≤ 100 ∧ x.2.2.1 0 = nI x.2.1) (fun x v w => v = none ∧ ∃ S' q, w = wM S' ∧ kpm x.2.2 S' ∧ S'.2.2.1 12 = PL1 (x.2.2.2.2.1 1) (x.2.2.2.2.1 7) (x.2.2.1 2) x.1 x.2.1 x.2.2.2.1 (x.2.2.2.2.1 13) (x.2.2.2.2.1 12) q)
def rm_X7_byGroups : Room := { frames := 2, cells := 0, slots := 0, locals := 44 }
def t_X7_byGroups : en_T := ((4, 0, 0), tb_X7_byGroups, fl_X7, cn_X7, [(104, 1, 9, 0, 0, f_X7_shuffle)], [], 0, none)
set_option maxRecDepth 100000 in
theorem tB_X7_byGroups (D : va_G) (dT : Nat → Nat) (l : Launch) : en_TB en_WD D vwCl dT l rm_X7_byGroups t_X7_byGroups RX7 "byGroups" cX7_byGroups := ⟨tk_X7_byGroups, fun s args meth h hn => ⟨fo_X7 h args meth, co_X7 h args, List.forall_mem_cons.mpr ⟨mk_X7_shuffle (own := RX7) h (Nat.le_of_ble_eq_true rfl) (Nat.le_of_ble_eq_true rfl) (Or.inl (en_wd h 872 (by decide +kernel) rfl args)), fun _ h => absurd h List.not_mem_nil⟩, fun _ h => absurd h List.not_mem_nil, Or.inl rfl, en_arr h args⟩⟩
set_option maxHeartbeats 4000000 in
set_option maxRecDepth 100000 in
theorem bd_X7_byGroups : en_B (σ := Nat × Nat × Sx) t_X7_byGroups (fun _ => [.ref 0]) (fun x => wM x.2.2) (fun x => 1 ≤ x.1 ∧ x.1 ≤ 4 ∧ x.2.2.1 1 = nI x.1 ∧ x.2.1 ≤ 100 ∧ x.2.2.1 0 = nI x.2.1) (fun x v w => v = none ∧ ∃ S' q, w = wM S' ∧ kpm x.2.2 S' ∧ S'.2.2.1 12 = PL1 (x.2.2.2.2.1 1) (x.2.2.2.2.1 7) (x.2.2.1 2) x.1 x.2.1 x.2.2.2.1 (x.2.2.2.2.1 13) (x.2.2.2.2.1 12) q) := by
  rintro ⟨k, n, S⟩ ⟨hk1, hk4, hk, hn, h1⟩ G hG OK ⟨run, sub⟩
  dsimp only at hk1 hk4 hk hn h1 hG ⊢
  have hv30 := sel_v (p := hasg (S.2.2.1 1) n) (old := S.2.2.1 13) 30
  have hc := ct_le (hasg (S.2.2.1 1) n) 30
  have phase2 : ∀ (hs : Nat → Int32), (∀ g, g < 30 → hs g = nI (ct (fun r => S.2.2.1 1 r = nI g) n)) → OK 0 0 95 [(0, .ref 0)] [] (wM (xi (xa (xa S 14 hs) 13 (sel (hasg (S.2.2.1 1) n) (S.2.2.1 13) 30)) 5 (nI (ct (hasg (S.2.2.1 1) n) 30)))) := by
    intro hs hh
    unfold PL1 at hG
    rw [← h1] at hG
    generalize ct (hasg (S.2.2.1 1) n) 30 = m at hc hv30 hG ⊢
    generalize sel (hasg (S.2.2.1 1) n) (S.2.2.1 13) 30 = SE at hv30 hG ⊢
    refine run [101] 60 _ _ _ _ _ _ ?_
    conv => whnf
    refine ⟨(m, xi (xa (xa S 14 hs) 13 SE) 5 (nI m)), rfl, rfl, ⟨(by dsimp only; omega), rfl⟩, ?_⟩
    intro v u hvu
    obtain ⟨rfl, rfl⟩ : v = none ∧ u = wM (xa (xz (xi (xa (xa S 14 hs) 13 SE) 5 (nI m)) (shm m S.2.1 SE).1) 13 (shm m S.2.1 SE).2) := hvu
    have hv := shm_v (z := S.2.1) hv30
    generalize shm m S.2.1 SE = Z at hv hG ⊢
    have loop2 : ∀ i, i ≤ m → OK 0 0 121 [(0, .ref 0), (1, .int (nI i))] [] (wM (xa (xa (xa (xz (xi (xa (xa S 14 hs) 13 SE) 5 (nI m)) Z.1) 13 Z.2) 12 (gst (S.2.2.1 1) (S.2.2.1 7) Z.2 (S.1 0) (S.1 2) k n (S.2.2.1 12) (mx 4 (fun _ => 0) (S.2.2.1 10)) i).1) 10 (gst (S.2.2.1 1) (S.2.2.1 7) Z.2 (S.1 0) (S.1 2) k n (S.2.2.1 12) (mx 4 (fun _ => 0) (S.2.2.1 10)) i).2)) := by
      refine lp_up (fun i => OK 0 0 121 [(0, .ref 0), (1, .int (nI i))] [] (wM (xa (xa (xa (xz (xi (xa (xa S 14 hs) 13 SE) 5 (nI m)) Z.1) 13 Z.2) 12 (gst (S.2.2.1 1) (S.2.2.1 7) Z.2 (S.1 0) (S.1 2) k n (S.2.2.1 12) (mx 4 (fun _ => 0) (S.2.2.1 10)) i).1) 10 (gst (S.2.2.1 1) (S.2.2.1 7) Z.2 (S.1 0) (S.1 2) k n (S.2.2.1 12) (mx 4 (fun _ => 0) (S.2.2.1 10)) i).2))) m ?_ ?_
      · refine run [121] 60 _ _ _ _ _ _ ?_
        conv => whnf
        refine pk_le m m (fun h => ?_) (fun h => absurd h (by omega))
        conv => whnf
        exact hG _ _ ⟨rfl, _, (S.2.2.1 10), rfl, kpm_tr (kpm_tr (kpm_tr (kpm_tr (kpm_tr (kpm_tr (kpm_a (by omega)) (kpm_a (by omega))) kpm_i) kpm_z) (kpm_a (by omega))) (kpm_a (by omega))) (kpm_a (by omega)), rfl⟩
      · intro i hi ih
        rw [nI_succ] at ih
        simp only [gst] at ih
        generalize gst (S.2.2.1 1) (S.2.2.1 7) Z.2 (S.1 0) (S.1 2) k n (S.2.2.1 12) (mx 4 (fun _ => 0) (S.2.2.1 10)) i = Y at ih ⊢
        generalize hN : need (S.2.2.1 7) Y.2 (S.1 0) (S.1 2) = N at ih
        have ha := ag_le N (k - 1)
        obtain ⟨gi, hgi, hZi⟩ := hv i hi
        have inner3 := lp_up (fun r => OK 0 0 204 [(0, .ref 0), (1, .int (nI i)), (2, .int (nI (ag N (k - 1)))), (3, .int (nI r))] [] (wM (xa (xa (xa (xz (xi (xa (xa S 14 hs) 13 SE) 5 (nI m)) Z.1) 13 Z.2) 12 (pgr (S.2.2.1 1) (Z.2 i) (nI (ag N (k - 1))) Y.1 r)) 10 Y.2))) n
          (by
            generalize ag N (k - 1) = p at ha ih ⊢
            refine run [121, 204] 60 _ _ _ _ _ _ ?_
            conv => whnf
            refine pk_le n n (fun h => ?_) (fun h => absurd h (by omega)) h1
            conv => whnf
            refine ⟨vp_in_nI (by omega) (by decide), ?_⟩
            rw [nI_clamp (by omega)]
            conv => whnf
            refine ⟨vp_in_nI (by omega) (by decide), ?_⟩
            rw [nI_clamp (by omega)]
            conv => whnf
            refine ⟨vld_in hv hi (by decide), ?_⟩
            conv => whnf
            refine ⟨vp_in_nI (by omega) (by decide), ?_⟩
            rw [nI_clamp (by omega)]
            conv => whnf
            have e : nI (ct (fun r => S.2.2.1 1 r = Z.2 i) n) = hs (Z.2 i).toNatClampNeg := by
              rw [hZi, nI_clamp (by omega), hh gi hgi]
            rw [e] at ih
            exact sub [0, 1] _ _ _ _ _ _ _ rfl ih)
          (fun r hr ihr => by
            rw [nI_succ] at ihr
            generalize ag N (k - 1) = p at ha ihr ⊢
            refine run [121, 204] 60 _ _ _ _ _ _ ?_
            conv => whnf
            refine pk_le n r (fun h => absurd h (by omega)) (fun h => ?_) h1
            conv => whnf
            refine ⟨vp_in_nI (by omega) (by decide), ?_⟩
            rw [nI_clamp (by omega)]
            conv => whnf
            refine ⟨vp_in_nI (by omega) (by decide), ?_⟩
            rw [nI_clamp (by omega)]
            conv => whnf
            refine ⟨fun hc => ?_, fun hc => ?_⟩
            · have hc : ¬ S.2.2.1 1 r = Z.2 i := hc
              rw [pgr_f hc, ← upd_id (pgr (S.2.2.1 1) (Z.2 i) (nI p) Y.1 r) r] at ihr
              conv => whnf
              refine ⟨vp_in_nI (by omega) (by decide), ?_⟩
              rw [nI_clamp (by omega)]
              conv => whnf
              refine ⟨vp_in_nI (by omega) (by decide), ?_⟩
              rw [nI_clamp (by omega)]
              conv => whnf
              exact ihr
            · have hc : S.2.2.1 1 r = Z.2 i := hc
              rw [pgr_t hc] at ihr
              conv => whnf
              refine ⟨vp_in_nI (by omega) (by decide), ?_⟩
              rw [nI_clamp (by omega)]
              conv => whnf
              exact ihr)
        have inner2 := lp_up (fun p => 1 ≤ p → OK 0 0 133 [(0, .ref 0), (1, .int (nI i)), (2, .int (nI (ag N (p - 1)))), (3, .int (nI p))] [] (wM (xa (xa (xa (xz (xi (xa (xa S 14 hs) 13 SE) 5 (nI m)) Z.1) 13 Z.2) 12 Y.1) 10 Y.2))) k
          (fun _ => by
            have h0 := inner3 0 (by omega)
            rw [pgr_0] at h0
            refine run [133, 204] 60 _ _ _ _ _ _ ?_
            conv => whnf
            refine pk_le k k (fun h => ?_) (fun h => absurd h (by omega)) hk
            conv => whnf
            exact h0)
          (fun p hp ihp hp1 => by
            obtain ⟨q, rfl⟩ : ∃ q, p = q + 1 := ⟨p - 1, by omega⟩
            have ihp : OK 0 0 133 [(0, .ref 0), (1, .int (nI i)), (2, .int (nI (ag N (q + 1)))), (3, .int (nI (q + 1 + 1)))] [] (wM (xa (xa (xa (xz (xi (xa (xa S 14 hs) 13 SE) 5 (nI m)) Z.1) 13 Z.2) 12 Y.1) 10 Y.2)) := ihp (by omega)
            have hle := ag_le N q
            show OK 0 0 133 [(0, .ref 0), (1, .int (nI i)), (2, .int (nI (ag N q))), (3, .int (nI (q + 1)))] [] (wM (xa (xa (xa (xz (xi (xa (xa S 14 hs) 13 SE) 5 (nI m)) Z.1) 13 Z.2) 12 Y.1) 10 Y.2))
            simp only [ag] at ihp
            rw [nI_succ (q + 1)] at ihp
            have eN : ∀ j, N j = S.2.2.1 7 j * S.1 0 - S.1 2 * Y.2 j := fun j => by rw [← hN]; rfl
            generalize ag N q = a at hle ihp ⊢
            rw [eN, eN] at ihp
            refine run [133] 80 _ _ _ _ _ _ ?_
            conv => whnf
            refine pk_le k (q + 1) (fun h => absurd h (by omega)) (fun h => ?_) hk
            conv => whnf
            refine ⟨vp_in_nI (by omega) (by decide), ?_⟩
            rw [nI_clamp (by omega)]
            conv => whnf
            refine ⟨vp_in_nI (by omega) (by decide), ?_⟩
            rw [nI_clamp (by omega)]
            conv => whnf
            refine ⟨vp_in_nI (by omega) (by decide), ?_⟩
            rw [nI_clamp (by omega)]
            conv => whnf
            refine ⟨vp_in_nI (by omega) (by decide), ?_⟩
            rw [nI_clamp (by omega)]
            conv => whnf
            refine ⟨fun hc => ?_, fun hc => ?_⟩
            · have hc : S.2.2.1 7 (q + 1) * S.1 0 - S.1 2 * Y.2 (q + 1) ≤ S.2.2.1 7 a * S.1 0 - S.1 2 * Y.2 a := hc
              conv => whnf
              rw [if_neg (Int32.not_lt.mpr hc)] at ihp
              exact ihp
            · have hc : ¬ S.2.2.1 7 (q + 1) * S.1 0 - S.1 2 * Y.2 (q + 1) ≤ S.2.2.1 7 a * S.1 0 - S.1 2 * Y.2 a := hc
              conv => whnf
              rw [if_pos (Int32.not_le.mp hc)] at ihp
              exact ihp)
        refine run [121, 133] 60 _ _ _ _ _ _ ?_
        conv => whnf
        refine pk_le m i (fun h => absurd h (by omega)) (fun h => ?_)
        conv => whnf
        exact inner2 1 (by omega) (Nat.le_refl 1)
    have loop1 := lp_up (fun p => OK 0 0 101 [(0, .ref 0), (1, .int (nI p))] [] (wM (xa (xa (xz (xi (xa (xa S 14 hs) 13 SE) 5 (nI m)) Z.1) 13 Z.2) 10 (mx p (fun _ => 0) (S.2.2.1 10))))) 4
      (by
        refine run [101, 121] 60 _ _ _ _ _ _ ?_
        conv => whnf
        refine pk_le 4 4 (fun h => ?_) (fun h => absurd h (by omega))
        conv => whnf
        exact loop2 0 (by omega))
      (fun p hp ih => by
        rw [nI_succ, ← mx_s] at ih
        refine run [101, 121] 60 _ _ _ _ _ _ ?_
        conv => whnf
        refine pk_le 4 p (fun h => absurd h (by omega)) (fun h => ?_)
        conv => whnf
        refine ⟨vp_in_nI (by omega) (by decide), ?_⟩
        rw [nI_clamp (by omega)]
        conv => whnf
        exact ih)
    conv => whnf
    have h0 := loop1 0 (by omega)
    rw [mx_0] at h0
    exact h0
  have loop0 := lp_up (fun g => ∀ hs : Nat → Int32, (∀ j, j < g → hs j = nI (ct (fun r => S.2.2.1 1 r = nI j) n)) → OK 0 0 7 [(0, .ref 0), (1, .int (nI g))] [] (wM (xi (xa (xa S 14 hs) 13 (sel (hasg (S.2.2.1 1) n) (S.2.2.1 13) g)) 5 (nI (ct (hasg (S.2.2.1 1) n) g))))) 30
    (fun hs hh => by
      have h2 := phase2 hs hh
      generalize sel (hasg (S.2.2.1 1) n) (S.2.2.1 13) 30 = SE at h2 ⊢
      generalize ct (hasg (S.2.2.1 1) n) 30 = C at h2 ⊢
      refine run [7, 95] 60 _ _ _ _ _ _ ?_
      conv => whnf
      refine pk_le 30 30 (fun h => ?_) (fun h => absurd h (by omega))
      conv => whnf
      exact sub [0] _ _ _ _ _ _ _ rfl h2)
    (fun g hg ih hs hh => by
      have hcg := ct_le (hasg (S.2.2.1 1) n) g
      have hcn := ct_le (fun r => S.2.2.1 1 r = nI g) n
      have hq : ct (fun r => S.2.2.1 1 r = nI g) n ≤ 0 ↔ ¬ hasg (S.2.2.1 1) n g := by
        rw [← not_congr (ct_fs (p := fun r => S.2.2.1 1 r = nI g) (n := n))]; omega
      have e1 := sel_t (p := hasg (S.2.2.1 1) n) (old := S.2.2.1 13) (i := g)
      have e2 := sel_f (p := hasg (S.2.2.1 1) n) (old := S.2.2.1 13) (i := g)
      have e3 := ct_t (p := hasg (S.2.2.1 1) n) (n := g)
      have e4 := ct_f (p := hasg (S.2.2.1 1) n) (n := g)
      generalize sel (hasg (S.2.2.1 1) n) (S.2.2.1 13) (g + 1) = SE' at e1 e2 ih
      generalize ct (hasg (S.2.2.1 1) n) (g + 1) = C' at e3 e4 ih
      generalize sel (hasg (S.2.2.1 1) n) (S.2.2.1 13) g = SE at e1 e2 ⊢
      generalize ct (hasg (S.2.2.1 1) n) g = C at hcg e1 e3 e4 ⊢
      have inner := lp_up (fun r => OK 0 0 22 [(0, .ref 0), (1, .int (nI g)), (2, .int (nI r))] [] (wM (xi (xa (xa S 14 (upd hs g (nI (ct (fun r => S.2.2.1 1 r = nI g) r)))) 13 SE) 5 (nI C)))) n
        (by
          have hih := ih (upd hs g (nI (ct (fun r => S.2.2.1 1 r = nI g) n))) (fun j hj => by
            by_cases e : j = g
            · rw [e, pk_us]
            · rw [pk_un e]; exact hh j (by omega))
          generalize ct (fun r => S.2.2.1 1 r = nI g) n = cn at hcn hq hih ⊢
          rw [nI_succ] at hih
          refine run [7, 22] 60 _ _ _ _ _ _ ?_
          conv => whnf
          refine pk_le n n (fun h => ?_) (fun h => absurd h (by omega)) h1
          conv => whnf
          refine ⟨vp_in_nI (by omega) (by decide), ?_⟩
          rw [nI_clamp (by omega)]
          conv => whnf
          refine pk_le cn 0 (fun h => ?_) (fun h => ?_) pk_us
          · have hq := hq.mp h
            rw [e2 hq, e4 hq] at hih
            conv => whnf
            exact sub [0, 1] _ _ _ _ _ _ _ rfl hih
          · have hq : hasg (S.2.2.1 1) n g := Decidable.of_not_not fun z => by have := hq.mpr z; omega
            rw [e1 hq, e3 hq, nI_succ] at hih
            conv => whnf
            refine ⟨vp_in_nI (n := C) (by omega) (by decide), ?_⟩
            conv => whnf
            have hu : upd SE C (nI g) = upd SE (nI C).toNatClampNeg (nI g) := by rw [nI_clamp (by omega)]
            rw [hu] at hih
            exact sub [0, 1] _ _ _ _ _ _ _ rfl hih)
        (fun r hr ihr => by
          rw [nI_succ] at ihr
          refine run [7, 22] 60 _ _ _ _ _ _ ?_
          conv => whnf
          refine pk_le n r (fun h => absurd h (by omega)) (fun h => ?_) h1
          conv => whnf
          refine ⟨vp_in_nI (by omega) (by decide), ?_⟩
          rw [nI_clamp (by omega)]
          conv => whnf
          refine ⟨vp_in_nI (by omega) (by decide), ?_⟩
          rw [nI_clamp (by omega)]
          conv => whnf
          refine ⟨fun hc => ?_, fun hc => ?_⟩
          · have hc : ¬ S.2.2.1 1 r = nI g := hc
            rw [ct_f (p := fun r => S.2.2.1 1 r = nI g) hc] at ihr
            generalize ct (fun r => S.2.2.1 1 r = nI g) r = cc at ihr ⊢
            conv => whnf
            refine ⟨vp_in_nI (by omega) (by decide), ?_⟩
            rw [nI_clamp (by omega)]
            conv => whnf
            have e : upd hs g (nI cc) = upd (upd hs g (nI cc)) g (upd hs g (nI cc) g + 0) := by rw [upd_uu, pk_us, Int32.add_zero]
            rw [e] at ihr
            exact ihr
          · have hc : S.2.2.1 1 r = nI g := hc
            rw [ct_t (p := fun r => S.2.2.1 1 r = nI g) hc] at ihr
            generalize ct (fun r => S.2.2.1 1 r = nI g) r = cc at ihr ⊢
            conv => whnf
            refine ⟨vp_in_nI (by omega) (by decide), ?_⟩
            rw [nI_clamp (by omega)]
            conv => whnf
            have e : upd hs g (nI (cc + 1)) = upd (upd hs g (nI cc)) g (upd hs g (nI cc) g + 1) := by rw [upd_uu, pk_us, nI_succ]
            rw [e] at ihr
            exact ihr)
      have h0 := inner 0 (by omega)
      refine run [7, 22] 60 _ _ _ _ _ _ ?_
      conv => whnf
      refine pk_le 30 g (fun h => absurd h (by omega)) (fun h => ?_)
      conv => whnf
      refine ⟨vp_in_nI (by omega) (by decide), ?_⟩
      rw [nI_clamp (by omega)]
      conv => whnf
      exact h0)
  refine run [7] 60 _ _ _ _ _ _ ?_
  conv => whnf
  exact loop0 0 (by omega) (S.2.2.1 14) (fun j hj => by omega)
theorem ct_X7_byGroups (D : va_G) (dT : Nat → Nat) (l : Launch) : en_CT en_WD D vwCl dT l yX7_byGroups cX7_byGroups 4 (none) rm_X7_byGroups f_X7_byGroups := en_met en_WD1 en_WD2 (by decide) rfl rfl (tB_X7_byGroups D dT l) (en_f_ln (fun _ => Nat.le_of_ble_eq_true rfl)) (en_f_bd bd_X7_byGroups)
set_option maxRecDepth 100000 in
theorem mk_X7_byGroups {D : va_G} {dT : Nat → Nat} {l : Launch} {R : Room} {s : State} {args : Array Value} {own : String} {idx : Nat} (h : en_WD s) (h1 : rm_X7_byGroups.frames + 1 ≤ R.frames) (h2 : 8 + (4 + 11) + rm_X7_byGroups.locals ≤ R.locals) (hl : (Jvm.Cond.methodLink own idx yX7_byGroups).before args s = true ∨ ∃ host, (Jvm.Cond.methodLinkNest own idx yX7_byGroups host).before args s = true) : en_mok en_WD D vwCl dT l R s args own (idx, 1, 9, 0, 0, f_X7_byGroups) :=
  ⟨yX7_byGroups, cX7_byGroups, 4, none, rm_X7_byGroups, 0, ct_X7_byGroups D dT l, rfl, rfl, h1, h2, en_wd h 889 rfl rfl args, en_wd h 66 (by decide +kernel) rfl args, by decide, by decide, hl, ⟨RX7, TX7, 24, rfl, en_wd h 888 (by decide +kernel) rfl args, en_wd h 42 (by decide +kernel) rfl args, rfl⟩⟩
