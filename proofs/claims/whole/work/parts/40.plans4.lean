/-! SplitLeaks$Splitter: by groups -/
/-- group by group: what is planned, how many each part has -/
def gst (Gp w O : Nat → Int32) (nI_ Wi : Int32) (k n : Nat) (pl0 H0 : Nat → Int32) : Nat → (Nat → Int32) × (Nat → Int32)
  | 0 => (pl0, H0)
  | i + 1 =>
    (pgr Gp (O i) (nI (ag (need w (gst Gp w O nI_ Wi k n pl0 H0 i).2 nI_ Wi) (k - 1))) (gst Gp w O nI_ Wi k n pl0 H0 i).1 n,
     upd (gst Gp w O nI_ Wi k n pl0 H0 i).2 (ag (need w (gst Gp w O nI_ Wi k n pl0 H0 i).2 nI_ Wi) (k - 1)) ((gst Gp w O nI_ Wi k n pl0 H0 i).2 (ag (need w (gst Gp w O nI_ Wi k n pl0 H0 i).2 nI_ Wi) (k - 1)) + nI (ct (fun r => Gp r = O i) n)))
/-- has a group rows -/
abbrev hasg (Gp : Nat → Int32) (n g : Nat) : Prop := fs (fun r => Gp r = nI g) n ≠ none
/-- the split by groups: what is planned -/
def PL1 (Gp w : Nat → Int32) (Wi : Int32) (k n : Nat) (z : Int64) (o16 o15 o17 : Nat → Int32) : Nat → Int32 :=
  (gst Gp w (shm (ct (hasg Gp n) 30) z (sel (hasg Gp n) o16 30)).2 (nI n) Wi k n o15 (mx 4 (fun _ => 0) o17) (ct (hasg Gp n) 30)).1
def f_X3_planGroups := en_f (σ := Nat × Nat × Sx) (fun _ => [.ref 13]) (fun x => wX x.2.2) (fun x => 1 ≤ x.1 ∧ x.1 ≤ 4 ∧ x.2.2.1 2 = nI x.1 ∧ x.2.1 ≤ 100 ∧ x.2.2.1 1 = nI x.2.1) (fun x v w => v = none ∧ ∃ S', w = wX S' ∧ kept x.2.2 S' ∧ S'.2.2.1 15 = PL1 (x.2.2.2.2.1 2) (x.2.2.2.2.1 10) (x.2.2.1 3) x.1 x.2.1 x.2.2.2.1 (x.2.2.2.2.1 16) (x.2.2.2.2.1 15) (x.2.2.2.2.1 17))
def rm_X3_planGroups : Room := { frames := 2, cells := 0, slots := 0, locals := 46 }
def t_X3_planGroups : en_T := ((2, 0, 0), tb_X3_planGroups, fl_X3, cn_X3, [(89, 1, 5, 0, 0, f_X3_gatherGroups), (82, 3, 2, 0, 0, f_X0_shuffle), (92, 1, 5, 0, 0, f_X3_neediestPart), (96, 3, 5, 0, 0, f_X3_placeGroup)], [], 0, none)
set_option maxRecDepth 100000 in
theorem tB_X3_planGroups (D : va_G) (dT : Nat → Nat) (l : Launch) : en_TB en_WD D vwCl dT l rm_X3_planGroups t_X3_planGroups RX3 "planGroups" cX3_planGroups := ⟨tk_X3_planGroups, fun s args meth h hn => ⟨fo_X3 h args meth, co_X3 h args, List.forall_mem_cons.mpr ⟨mk_X3_gatherGroups (own := RX3) h (Nat.le_of_ble_eq_true rfl) (Nat.le_of_ble_eq_true rfl) (Or.inl (en_wd h 360 (by decide +kernel) rfl args)), List.forall_mem_cons.mpr ⟨mk_X0_shuffle (own := RX3) h (Nat.le_of_ble_eq_true rfl) (Nat.le_of_ble_eq_true rfl) (Or.inl (en_wd h 341 (by decide +kernel) rfl args)), List.forall_mem_cons.mpr ⟨mk_X3_neediestPart (own := RX3) h (Nat.le_of_ble_eq_true rfl) (Nat.le_of_ble_eq_true rfl) (Or.inl (en_wd h 368 (by decide +kernel) rfl args)), List.forall_mem_cons.mpr ⟨mk_X3_placeGroup (own := RX3) h (Nat.le_of_ble_eq_true rfl) (Nat.le_of_ble_eq_true rfl) (Or.inl (en_wd h 376 (by decide +kernel) rfl args)), fun _ h => absurd h List.not_mem_nil⟩⟩⟩⟩, fun _ h => absurd h List.not_mem_nil, Or.inl rfl, en_arr h args⟩⟩
set_option maxHeartbeats 4000000 in
set_option maxRecDepth 100000 in
theorem bd_X3_planGroups : en_B (σ := Nat × Nat × Sx) t_X3_planGroups (fun _ => [.ref 13]) (fun x => wX x.2.2) (fun x => 1 ≤ x.1 ∧ x.1 ≤ 4 ∧ x.2.2.1 2 = nI x.1 ∧ x.2.1 ≤ 100 ∧ x.2.2.1 1 = nI x.2.1) (fun x v w => v = none ∧ ∃ S', w = wX S' ∧ kept x.2.2 S' ∧ S'.2.2.1 15 = PL1 (x.2.2.2.2.1 2) (x.2.2.2.2.1 10) (x.2.2.1 3) x.1 x.2.1 x.2.2.2.1 (x.2.2.2.2.1 16) (x.2.2.2.2.1 15) (x.2.2.2.2.1 17)) := by
  rintro ⟨k, n, S⟩ ⟨hk1, hk4, hk, hn, h1⟩ G hG OK ⟨run, sub⟩
  dsimp only at hk1 hk4 hk hn h1 hG ⊢
  refine run [21] 60 _ _ _ _ _ _ ?_
  conv => whnf
  refine ⟨(n, S), rfl, rfl, ⟨hn, h1⟩, ?_⟩
  intro v u hvu
  obtain ⟨rfl, rfl⟩ : v = none ∧ u = wX (xi (xa S 16 (sel (hasg (S.2.2.1 2) n) (S.2.2.1 16) 30)) 4 (nI (ct (hasg (S.2.2.1 2) n) 30))) := hvu
  have hc := ct_le (hasg (S.2.2.1 2) n) 30
  unfold PL1 at hG
  generalize ct (hasg (S.2.2.1 2) n) 30 = m at hc hG ⊢
  generalize sel (hasg (S.2.2.1 2) n) (S.2.2.1 16) 30 = SE at hG ⊢
  conv => whnf
  refine ⟨(m, xi (xa S 16 SE) 4 (nI m)), rfl, rfl, (by dsimp only; omega), ?_⟩
  intro v u hvu
  obtain ⟨rfl, rfl⟩ : v = none ∧ u = wX (xa (xz (xi (xa S 16 SE) 4 (nI m)) (shm m S.2.1 SE).1) 16 (shm m S.2.1 SE).2) := hvu
  generalize shm m S.2.1 SE = Z at hG ⊢
  have loop2 : ∀ i, i ≤ m → OK 0 0 41 [(0, .ref 13), (1, .int (nI i))] [] (wX (xa (xa (xa (xz (xi (xa S 16 SE) 4 (nI m)) Z.1) 16 Z.2) 15 (gst (S.2.2.1 2) (S.2.2.1 10) Z.2 (nI n) (S.1 3) k n (S.2.2.1 15) (mx 4 (fun _ => 0) (S.2.2.1 17)) i).1) 17 (gst (S.2.2.1 2) (S.2.2.1 10) Z.2 (nI n) (S.1 3) k n (S.2.2.1 15) (mx 4 (fun _ => 0) (S.2.2.1 17)) i).2)) := by
    refine lp_up (fun i => OK 0 0 41 [(0, .ref 13), (1, .int (nI i))] [] (wX (xa (xa (xa (xz (xi (xa S 16 SE) 4 (nI m)) Z.1) 16 Z.2) 15 (gst (S.2.2.1 2) (S.2.2.1 10) Z.2 (nI n) (S.1 3) k n (S.2.2.1 15) (mx 4 (fun _ => 0) (S.2.2.1 17)) i).1) 17 (gst (S.2.2.1 2) (S.2.2.1 10) Z.2 (nI n) (S.1 3) k n (S.2.2.1 15) (mx 4 (fun _ => 0) (S.2.2.1 17)) i).2))) m ?_ ?_
    · refine run [41] 60 _ _ _ _ _ _ ?_
      conv => whnf
      refine pk_le m m (fun h => ?_) (fun h => absurd h (by omega))
      conv => whnf
      exact hG _ _ ⟨rfl, _, rfl, kept_tr (kept_tr (kept_tr (kept_tr (kept_tr (kept_a (by omega)) kept_i) kept_z) (kept_a (by omega))) (kept_a (by omega))) (kept_a (by omega)), rfl⟩
    · intro i hi ih
      rw [nI_succ] at ih
      simp only [gst] at ih
      generalize gst (S.2.2.1 2) (S.2.2.1 10) Z.2 (nI n) (S.1 3) k n (S.2.2.1 15) (mx 4 (fun _ => 0) (S.2.2.1 17)) i = Y at ih ⊢
      have ha := ag_le (need (S.2.2.1 10) Y.2 (nI n) (S.1 3)) (k - 1)
      refine run [41] 60 _ _ _ _ _ _ ?_
      conv => whnf
      refine pk_le m i (fun h => absurd h (by omega)) (fun h => ?_)
      conv => whnf
      refine ⟨vp_in_nI (by omega) (by decide), ?_⟩
      rw [nI_clamp (by omega)]
      conv => whnf
      refine ⟨(k, xa (xa (xa (xz (xi (xa S 16 SE) 4 (nI m)) Z.1) 16 Z.2) 15 Y.1) 17 Y.2), rfl, rfl, ⟨hk1, hk4, hk⟩, ?_⟩
      intro v u hvu
      obtain ⟨rfl, rfl⟩ : v = some (.int (nI (ag (need (S.2.2.1 10) Y.2 (nI n) (S.1 3)) (k - 1)))) ∧ u = wX (xa (xa (xa (xz (xi (xa S 16 SE) 4 (nI m)) Z.1) 16 Z.2) 15 Y.1) 17 Y.2) := by rw [← h1]; exact hvu
      generalize ag (need (S.2.2.1 10) Y.2 (nI n) (S.1 3)) (k - 1) = p at ha ih ⊢
      conv => whnf
      refine ⟨(n, Z.2 i, p, xa (xa (xa (xz (xi (xa S 16 SE) 4 (nI m)) Z.1) 16 Z.2) 15 Y.1) 17 Y.2), rfl, rfl, ⟨hn, h1, by dsimp only; omega⟩, ?_⟩
      intro v u hvu
      obtain ⟨rfl, rfl⟩ : v = none ∧ u = wX (xa (xa (xa (xz (xi (xa S 16 SE) 4 (nI m)) Z.1) 16 Z.2) 15 (pgr (S.2.2.1 2) (Z.2 i) (nI p) Y.1 n)) 17 (upd Y.2 p (Y.2 p + nI (ct (fun r => S.2.2.1 2 r = Z.2 i) n)))) := hvu
      conv => whnf
      exact ih
  have loop1 := lp_up (fun p => OK 0 0 21 [(0, .ref 13), (1, .int (nI p))] [] (wX (xa (xa (xz (xi (xa S 16 SE) 4 (nI m)) Z.1) 16 Z.2) 17 (mx p (fun _ => 0) (S.2.2.1 17))))) 4
    (by
      refine run [21, 41] 60 _ _ _ _ _ _ ?_
      conv => whnf
      refine pk_le 4 4 (fun h => ?_) (fun h => absurd h (by omega))
      conv => whnf
      exact loop2 0 (by omega))
    (fun p hp ih => by
      rw [nI_succ, ← mx_s] at ih
      refine run [21, 41] 60 _ _ _ _ _ _ ?_
      conv => whnf
      refine pk_le 4 p (fun h => absurd h (by omega)) (fun h => ?_)
      conv => whnf
      refine ⟨vp_in_nI (by omega) (by decide), ?_⟩
      rw [nI_clamp (by omega)]
      conv => whnf
      exact ih)
  conv => whnf
  have h0 := loop1 0 (by omega)
  rw [mx_0] at h0
  exact h0
theorem ct_X3_planGroups (D : va_G) (dT : Nat → Nat) (l : Launch) : en_CT en_WD D vwCl dT l yX3_planGroups cX3_planGroups 2 (none) rm_X3_planGroups f_X3_planGroups := en_met en_WD1 en_WD2 (by decide) rfl rfl (tB_X3_planGroups D dT l) (en_f_ln (fun _ => Nat.le_of_ble_eq_true rfl)) (en_f_bd bd_X3_planGroups)
set_option maxRecDepth 100000 in
theorem mk_X3_planGroups {D : va_G} {dT : Nat → Nat} {l : Launch} {R : Room} {s : State} {args : Array Value} {own : String} {idx : Nat} (h : en_WD s) (h1 : rm_X3_planGroups.frames + 1 ≤ R.frames) (h2 : 8 + (2 + 11) + rm_X3_planGroups.locals ≤ R.locals) (hl : (Jvm.Cond.methodLink own idx yX3_planGroups).before args s = true ∨ ∃ host, (Jvm.Cond.methodLinkNest own idx yX3_planGroups host).before args s = true) : en_mok en_WD D vwCl dT l R s args own (idx, 1, 5, 0, 0, f_X3_planGroups) :=
  ⟨yX3_planGroups, cX3_planGroups, 2, none, rm_X3_planGroups, 0, ct_X3_planGroups D dT l, rfl, rfl, h1, h2, en_wd h 359 rfl rfl args, en_wd h 62 (by decide +kernel) rfl args, by decide, by decide, hl, ⟨RX3, TX3, 8, rfl, en_wd h 358 (by decide +kernel) rfl args, en_wd h 5 (by decide +kernel) rfl args, rfl⟩⟩
