/-! SplitLeaks$Splitter: groups -/
/-- how much a part needs -/
def need (w H : Nat → Int32) (n W : Int32) (p : Nat) : Int32 := w p * n - W * H p
def f_X3_need := en_f (σ := Nat × Sx) (fun x => [.ref 13, .int (nI x.1)]) (fun x => wX x.2) (fun x => x.1 < 4) (fun x v w => v = some (.int (need (x.2.2.2.1 10) (x.2.2.2.1 17) (x.2.1 1) (x.2.1 3) x.1)) ∧ w = wX x.2)
def rm_X3_need : Room := { frames := 0, cells := 0, slots := 0, locals := 0 }
def t_X3_need : en_T := ((2, 0, 0), tb_X3_need, fl_X3, cn_X3, [], [], 0, some .int)
set_option maxRecDepth 100000 in
theorem tB_X3_need (D : va_G) (dT : Nat → Nat) (l : Launch) : en_TB en_WD D vwCl dT l rm_X3_need t_X3_need RX3 "need" cX3_need := ⟨tk_X3_need, fun s args meth h hn => ⟨fo_X3 h args meth, co_X3 h args, fun _ h => absurd h List.not_mem_nil, fun _ h => absurd h List.not_mem_nil, Or.inl rfl, en_arr h args⟩⟩
set_option maxHeartbeats 4000000 in
set_option maxRecDepth 100000 in
theorem bd_X3_need : en_B (σ := Nat × Sx) t_X3_need (fun x => [.ref 13, .int (nI x.1)]) (fun x => wX x.2) (fun x => x.1 < 4) (fun x v w => v = some (.int (need (x.2.2.2.1 10) (x.2.2.2.1 17) (x.2.1 1) (x.2.1 3) x.1)) ∧ w = wX x.2) := by
  rintro ⟨p, S⟩ hp G hG OK ⟨run, sub⟩
  dsimp only at hp hG ⊢
  refine run [] 60 _ _ _ _ _ _ ?_
  conv => whnf
  refine ⟨vp_in_nI hp (by decide), ?_⟩
  rw [nI_clamp (by omega)]
  conv => whnf
  refine ⟨vp_in_nI hp (by decide), ?_⟩
  rw [nI_clamp (by omega)]
  conv => whnf
  exact hG _ _ ⟨rfl, rfl⟩
theorem ct_X3_need (D : va_G) (dT : Nat → Nat) (l : Launch) : en_CT en_WD D vwCl dT l yX3_need cX3_need 2 (some .int) rm_X3_need f_X3_need := en_met en_WD1 en_WD2 (by decide) rfl rfl (tB_X3_need D dT l) (en_f_ln (fun _ => Nat.le_of_ble_eq_true rfl)) (en_f_bd bd_X3_need)
set_option maxRecDepth 100000 in
theorem mk_X3_need {D : va_G} {dT : Nat → Nat} {l : Launch} {R : Room} {s : State} {args : Array Value} {own : String} {idx : Nat} (h : en_WD s) (h1 : rm_X3_need.frames + 1 ≤ R.frames) (h2 : 8 + (2 + 11) + rm_X3_need.locals ≤ R.locals) (hl : (Jvm.Cond.methodLink own idx yX3_need).before args s = true ∨ ∃ host, (Jvm.Cond.methodLinkNest own idx yX3_need host).before args s = true) : en_mok en_WD D vwCl dT l R s args own (idx, 2, 5, 0, 0, f_X3_need) :=
  ⟨yX3_need, cX3_need, 2, some .int, rm_X3_need, 1, ct_X3_need D dT l, rfl, rfl, h1, h2, en_wd h 375 rfl rfl args, en_wd h 62 (by decide +kernel) rfl args, by decide, by decide, hl, ⟨RX3, TX3, 8, rfl, en_wd h 374 (by decide +kernel) rfl args, en_wd h 8 (by decide +kernel) rfl args, rfl⟩⟩
def f_X3_neediestPart := en_f (σ := Nat × Sx) (fun _ => [.ref 13]) (fun x => wX x.2) (fun x => 1 ≤ x.1 ∧ x.1 ≤ 4 ∧ x.2.1 2 = nI x.1) (fun x v w => v = some (.int (nI (ag (need (x.2.2.2.1 10) (x.2.2.2.1 17) (x.2.1 1) (x.2.1 3)) (x.1 - 1)))) ∧ w = wX x.2)
def rm_X3_neediestPart : Room := { frames := 1, cells := 0, slots := 0, locals := 21 }
def t_X3_neediestPart : en_T := ((3, 0, 0), tb_X3_neediestPart, fl_X3, cn_X3, [(131, 2, 5, 0, 0, f_X3_need)], [], 0, some .int)
set_option maxRecDepth 100000 in
theorem tB_X3_neediestPart (D : va_G) (dT : Nat → Nat) (l : Launch) : en_TB en_WD D vwCl dT l rm_X3_neediestPart t_X3_neediestPart RX3 "neediestPart" cX3_neediestPart := ⟨tk_X3_neediestPart, fun s args meth h hn => ⟨fo_X3 h args meth, co_X3 h args, List.forall_mem_cons.mpr ⟨mk_X3_need (own := RX3) h (Nat.le_of_ble_eq_true rfl) (Nat.le_of_ble_eq_true rfl) (Or.inl (en_wd h 372 (by decide +kernel) rfl args)), fun _ h => absurd h List.not_mem_nil⟩, fun _ h => absurd h List.not_mem_nil, Or.inl rfl, en_arr h args⟩⟩
set_option maxHeartbeats 4000000 in
set_option maxRecDepth 100000 in
theorem bd_X3_neediestPart : en_B (σ := Nat × Sx) t_X3_neediestPart (fun _ => [.ref 13]) (fun x => wX x.2) (fun x => 1 ≤ x.1 ∧ x.1 ≤ 4 ∧ x.2.1 2 = nI x.1) (fun x v w => v = some (.int (nI (ag (need (x.2.2.2.1 10) (x.2.2.2.1 17) (x.2.1 1) (x.2.1 3)) (x.1 - 1)))) ∧ w = wX x.2) := by
  rintro ⟨k, S⟩ ⟨hk1, hk4, hk⟩ G hG OK ⟨run, sub⟩
  dsimp only at hk1 hk4 hk hG ⊢
  generalize hN : need (S.2.2.1 10) (S.2.2.1 17) (S.1 1) (S.1 3) = N at hG
  have loop := lp_up (fun p => 1 ≤ p → OK 0 0 4 [(0, .ref 13), (1, .int (nI (ag N (p - 1)))), (2, .int (nI p))] [] (wX S)) k
    (fun _ => by
      refine run [4] 60 _ _ _ _ _ _ ?_
      conv => whnf
      refine pk_le k k (fun h => ?_) (fun h => absurd h (by omega)) hk
      conv => whnf
      exact hG _ _ ⟨rfl, rfl⟩)
    (fun p hp ih h1 => by
      obtain ⟨q, rfl⟩ : ∃ q, p = q + 1 := ⟨p - 1, by omega⟩
      have ih : OK 0 0 4 [(0, .ref 13), (1, .int (nI (ag N (q + 1)))), (2, .int (nI (q + 1 + 1)))] [] (wX S) := ih (by omega)
      have hle := ag_le N q
      show OK 0 0 4 [(0, .ref 13), (1, .int (nI (ag N q))), (2, .int (nI (q + 1)))] [] (wX S)
      refine run [4] 60 _ _ _ _ _ _ ?_
      conv => whnf
      refine pk_le k (q + 1) (fun h => absurd h (by omega)) (fun h => ?_) hk
      conv => whnf
      refine ⟨(q + 1, S), rfl, rfl, (by dsimp only; omega), ?_⟩
      intro v u hvu
      obtain ⟨rfl, rfl⟩ : v = some (.int (N (q + 1))) ∧ u = wX S := by rw [← hN]; exact hvu
      conv => whnf
      refine ⟨(ag N q, S), rfl, rfl, (by dsimp only; omega), ?_⟩
      intro v u hvu
      obtain ⟨rfl, rfl⟩ : v = some (.int (N (ag N q))) ∧ u = wX S := by rw [← hN] at hvu ⊢; exact hvu
      conv => whnf
      simp only [ag] at ih
      rw [nI_succ (q + 1)] at ih
      refine ⟨fun hc => ?_, fun hc => ?_⟩
      · conv => whnf
        rw [if_neg (Int32.not_lt.mpr hc)] at ih
        exact ih
      · conv => whnf
        rw [if_pos (Int32.not_le.mp hc)] at ih
        exact ih)
  refine run [4] 60 _ _ _ _ _ _ ?_
  conv => whnf
  exact loop 1 (by omega) (Nat.le_refl 1)
theorem ct_X3_neediestPart (D : va_G) (dT : Nat → Nat) (l : Launch) : en_CT en_WD D vwCl dT l yX3_neediestPart cX3_neediestPart 3 (some .int) rm_X3_neediestPart f_X3_neediestPart := en_met en_WD1 en_WD2 (by decide) rfl rfl (tB_X3_neediestPart D dT l) (en_f_ln (fun _ => Nat.le_of_ble_eq_true rfl)) (en_f_bd bd_X3_neediestPart)
set_option maxRecDepth 100000 in
theorem mk_X3_neediestPart {D : va_G} {dT : Nat → Nat} {l : Launch} {R : Room} {s : State} {args : Array Value} {own : String} {idx : Nat} (h : en_WD s) (h1 : rm_X3_neediestPart.frames + 1 ≤ R.frames) (h2 : 8 + (3 + 11) + rm_X3_neediestPart.locals ≤ R.locals) (hl : (Jvm.Cond.methodLink own idx yX3_neediestPart).before args s = true ∨ ∃ host, (Jvm.Cond.methodLinkNest own idx yX3_neediestPart host).before args s = true) : en_mok en_WD D vwCl dT l R s args own (idx, 1, 5, 0, 0, f_X3_neediestPart) :=
  ⟨yX3_neediestPart, cX3_neediestPart, 3, some .int, rm_X3_neediestPart, 0, ct_X3_neediestPart D dT l, rfl, rfl, h1, h2, en_wd h 371 rfl rfl args, en_wd h 62 (by decide +kernel) rfl args, by decide, by decide, hl, ⟨RX3, TX3, 8, rfl, en_wd h 370 (by decide +kernel) rfl args, en_wd h 7 (by decide +kernel) rfl args, rfl⟩⟩
/-- all rows of a group (below i) are put into a part -/
def pgr (Gp : Nat → Int32) (g x : Int32) (old : Nat → Int32) (i : Nat) : Nat → Int32 := fun r => if r < i ∧ Gp r = g then x else old r
theorem pgr_0 {Gp : Nat → Int32} {g x : Int32} {old : Nat → Int32} : pgr Gp g x old 0 = old := by
  funext r; exact if_neg (by omega)
theorem pgr_f {Gp : Nat → Int32} {g x : Int32} {old : Nat → Int32} {i : Nat} (h : ¬ Gp i = g) : pgr Gp g x old (i + 1) = pgr Gp g x old i := by
  funext r
  unfold pgr
  by_cases e : r = i
  · subst e; rw [if_neg (fun z => h z.2), if_neg (fun z => h z.2)]
  · by_cases h2 : r < i ∧ Gp r = g
    · rw [if_pos ⟨by omega, h2.2⟩, if_pos h2]
    · rw [if_neg (fun z => h2 ⟨by omega, z.2⟩), if_neg h2]
theorem pgr_t {Gp : Nat → Int32} {g x : Int32} {old : Nat → Int32} {i : Nat} (h : Gp i = g) : pgr Gp g x old (i + 1) = upd (pgr Gp g x old i) i x := by
  funext r
  unfold upd pgr
  by_cases e : r = i
  · subst e; rw [if_pos ⟨by omega, h⟩, if_pos rfl]
  · rw [if_neg e]
    by_cases h2 : r < i ∧ Gp r = g
    · rw [if_pos ⟨by omega, h2.2⟩, if_pos h2]
    · rw [if_neg (fun z => h2 ⟨by omega, z.2⟩), if_neg h2]
theorem upd_uu (f : Nat → Int32) (k : Nat) (v w : Int32) : upd (upd f k v) k w = upd f k w := by
  funext j; unfold upd
  by_cases e : j = k
  · rw [if_pos e, if_pos e]
  · rw [if_neg e, if_neg e, if_neg e]
theorem upd_id (f : Nat → Int32) (k : Nat) : upd f k (f k) = f := by
  funext j; unfold upd
  by_cases e : j = k
  · rw [if_pos e, e]
  · rw [if_neg e]
def f_X3_placeGroup := en_f (σ := Nat × Int32 × Nat × Sx) (fun x => [.ref 13, .int x.2.1, .int (nI x.2.2.1)]) (fun x => wX x.2.2.2) (fun x => x.1 ≤ 100 ∧ x.2.2.2.1 1 = nI x.1 ∧ x.2.2.1 < 4) (fun x v w => v = none ∧ w = wX (xa (xa x.2.2.2 15 (pgr (x.2.2.2.2.2.1 2) x.2.1 (nI x.2.2.1) (x.2.2.2.2.2.1 15) x.1)) 17 (upd (x.2.2.2.2.2.1 17) x.2.2.1 (x.2.2.2.2.2.1 17 x.2.2.1 + nI (ct (fun r => x.2.2.2.2.2.1 2 r = x.2.1) x.1)))))
def rm_X3_placeGroup : Room := { frames := 0, cells := 0, slots := 0, locals := 0 }
def t_X3_placeGroup : en_T := ((4, 0, 0), tb_X3_placeGroup, fl_X3, cn_X3, [], [], 0, none)
set_option maxRecDepth 100000 in
theorem tB_X3_placeGroup (D : va_G) (dT : Nat → Nat) (l : Launch) : en_TB en_WD D vwCl dT l rm_X3_placeGroup t_X3_placeGroup RX3 "placeGroup" cX3_placeGroup := ⟨tk_X3_placeGroup, fun s args meth h hn => ⟨fo_X3 h args meth, co_X3 h args, fun _ h => absurd h List.not_mem_nil, fun _ h => absurd h List.not_mem_nil, Or.inl rfl, en_arr h args⟩⟩
set_option maxHeartbeats 4000000 in
set_option maxRecDepth 100000 in
theorem bd_X3_placeGroup : en_B (σ := Nat × Int32 × Nat × Sx) t_X3_placeGroup (fun x => [.ref 13, .int x.2.1, .int (nI x.2.2.1)]) (fun x => wX x.2.2.2) (fun x => x.1 ≤ 100 ∧ x.2.2.2.1 1 = nI x.1 ∧ x.2.2.1 < 4) (fun x v w => v = none ∧ w = wX (xa (xa x.2.2.2 15 (pgr (x.2.2.2.2.2.1 2) x.2.1 (nI x.2.2.1) (x.2.2.2.2.2.1 15) x.1)) 17 (upd (x.2.2.2.2.2.1 17) x.2.2.1 (x.2.2.2.2.2.1 17 x.2.2.1 + nI (ct (fun r => x.2.2.2.2.2.1 2 r = x.2.1) x.1))))) := by
  rintro ⟨n, g, p, S⟩ ⟨hn, h1, hp⟩ G hG OK ⟨run, sub⟩
  dsimp only at hn h1 hp hG ⊢
  have loop := lp_up (fun i => OK 0 0 2 [(0, .ref 13), (1, .int g), (2, .int (nI p)), (3, .int (nI i))] [] (wX (xa (xa S 15 (pgr (S.2.2.1 2) g (nI p) (S.2.2.1 15) i)) 17 (upd (S.2.2.1 17) p (S.2.2.1 17 p + nI (ct (fun r => S.2.2.1 2 r = g) i)))))) n
    (by
      refine run [2] 60 _ _ _ _ _ _ ?_
      conv => whnf
      refine pk_le n n (fun h => ?_) (fun h => absurd h (by omega)) h1
      conv => whnf
      exact hG _ _ ⟨rfl, rfl⟩)
    (fun i hi ih => by
      rw [nI_succ] at ih
      refine run [2] 60 _ _ _ _ _ _ ?_
      conv => whnf
      refine pk_le n i (fun h => absurd h (by omega)) (fun h => ?_) h1
      conv => whnf
      refine ⟨vp_in_nI (by omega) (by decide), ?_⟩
      rw [nI_clamp (by omega)]
      conv => whnf
      refine ⟨fun hc => ?_, fun hc => ?_⟩
      · conv => whnf
        have hc : ¬ S.2.2.1 2 i = g := hc
        rw [ct_f (p := fun r => S.2.2.1 2 r = g) hc, pgr_f hc] at ih
        exact ih
      · conv => whnf
        refine ⟨vp_in_nI (by omega) (by decide), ?_⟩
        rw [nI_clamp (by omega)]
        conv => whnf
        refine ⟨vp_in_nI hp (by decide), ?_⟩
        rw [nI_clamp (by omega)]
        conv => whnf
        refine ⟨vp_in_nI hp (by decide), ?_⟩
        conv => whnf
        rw [nI_clamp (by omega)]
        have hc : S.2.2.1 2 i = g := hc
        rw [ct_t (p := fun r => S.2.2.1 2 r = g) hc, pgr_t hc, nI_succ] at ih
        have e : upd (S.2.2.1 17) p (S.2.2.1 17 p + (nI (ct (fun r => S.2.2.1 2 r = g) i) + 1)) = upd (upd (S.2.2.1 17) p (S.2.2.1 17 p + nI (ct (fun r => S.2.2.1 2 r = g) i))) p (upd (S.2.2.1 17) p (S.2.2.1 17 p + nI (ct (fun r => S.2.2.1 2 r = g) i)) p + 1) := by
          rw [upd_uu, pk_us, Int32.add_assoc]
        rw [e] at ih
        exact ih)
  refine run [2] 60 _ _ _ _ _ _ ?_
  conv => whnf
  have h0 := loop 0 (by omega)
  rw [pgr_0, show ct (fun r => S.2.2.1 2 r = g) 0 = 0 from rfl, show S.2.2.1 17 p + nI 0 = S.2.2.1 17 p from Int32.add_zero _, upd_id] at h0
  exact h0
theorem ct_X3_placeGroup (D : va_G) (dT : Nat → Nat) (l : Launch) : en_CT en_WD D vwCl dT l yX3_placeGroup cX3_placeGroup 4 (none) rm_X3_placeGroup f_X3_placeGroup := en_met en_WD1 en_WD2 (by decide) rfl rfl (tB_X3_placeGroup D dT l) (en_f_ln (fun _ => Nat.le_of_ble_eq_true rfl)) (en_f_bd bd_X3_placeGroup)
set_option maxRecDepth 100000 in
theorem mk_X3_placeGroup {D : va_G} {dT : Nat → Nat} {l : Launch} {R : Room} {s : State} {args : Array Value} {own : String} {idx : Nat} (h : en_WD s) (h1 : rm_X3_placeGroup.frames + 1 ≤ R.frames) (h2 : 8 + (4 + 11) + rm_X3_placeGroup.locals ≤ R.locals) (hl : (Jvm.Cond.methodLink own idx yX3_placeGroup).before args s = true ∨ ∃ host, (Jvm.Cond.methodLinkNest own idx yX3_placeGroup host).before args s = true) : en_mok en_WD D vwCl dT l R s args own (idx, 3, 5, 0, 0, f_X3_placeGroup) :=
  ⟨yX3_placeGroup, cX3_placeGroup, 4, none, rm_X3_placeGroup, 2, ct_X3_placeGroup D dT l, rfl, rfl, h1, h2, en_wd h 379 rfl rfl args, en_wd h 62 (by decide +kernel) rfl args, by decide, by decide, hl, ⟨RX3, TX3, 8, rfl, en_wd h 378 (by decide +kernel) rfl args, en_wd h 9 (by decide +kernel) rfl args, rfl⟩⟩
