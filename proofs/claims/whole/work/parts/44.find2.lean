/-! SplitLeaks$Finder: groups, late ones, fitted ones -/
def Lgrp (Gp P : Nat → Int32) (n : Nat) : List (Int32 × Int32) := lsn (fun g => ifl (2 ≤ pog Gp P n (nI g)) (nI g) (nI (pog Gp P n (nI g)))) 30
theorem pog_le {Gp P : Nat → Int32} {n : Nat} {g : Int32} : pog Gp P n g ≤ 4 := ct_le _ 4
def f_X1_findGroups := en_f (σ := Nat × Sx) (fun _ => [.ref 23]) (fun x => wX x.2) (fun x => x.1 ≤ 100 ∧ x.2.1 1 = nI x.1) (fun x v w => v = none ∧ w = wX (xf x.2 (tks (x.2.1 5) (s3 x.2) (Lgrp (x.2.2.2.1 2) (x.2.2.2.1 5) x.1))))
def rm_X1_findGroups : Room := { frames := 2, cells := 0, slots := 0, locals := 46 }
def t_X1_findGroups : en_T := ((3, 0, 0), tb_X1_findGroups, fl_X1, cn_X1, [(77, 2, 4, 0, 0, f_X2_countPartsOfGroup), (64, 3, 3, 0, 0, f_X1_take)], [], 0, none)
set_option maxRecDepth 100000 in
theorem tB_X1_findGroups (D : va_G) (dT : Nat → Nat) (l : Launch) : en_TB en_WD D vwCl dT l rm_X1_findGroups t_X1_findGroups RX1 "findGroups" cX1_findGroups := ⟨tk_X1_findGroups, fun s args meth h hn => ⟨fo_X1 h args meth, co_X1 h args, List.forall_mem_cons.mpr ⟨mk_X2_countPartsOfGroup (own := RX1) h (Nat.le_of_ble_eq_true rfl) (Nat.le_of_ble_eq_true rfl) (Or.inl (en_wd h 544 (by decide +kernel) rfl args)), List.forall_mem_cons.mpr ⟨mk_X1_take (own := RX1) h (Nat.le_of_ble_eq_true rfl) (Nat.le_of_ble_eq_true rfl) (Or.inl (en_wd h 536 (by decide +kernel) rfl args)), fun _ h => absurd h List.not_mem_nil⟩⟩, fun _ h => absurd h List.not_mem_nil, Or.inl rfl, en_arr h args⟩⟩
set_option maxHeartbeats 4000000 in
set_option maxRecDepth 100000 in
theorem bd_X1_findGroups : en_B (σ := Nat × Sx) t_X1_findGroups (fun _ => [.ref 23]) (fun x => wX x.2) (fun x => x.1 ≤ 100 ∧ x.2.1 1 = nI x.1) (fun x v w => v = none ∧ w = wX (xf x.2 (tks (x.2.1 5) (s3 x.2) (Lgrp (x.2.2.2.1 2) (x.2.2.2.1 5) x.1)))) := by
  rintro ⟨n, S⟩ ⟨hn, h1⟩ G hG OK ⟨run, sub⟩
  dsimp only at hn h1 hG ⊢
  unfold Lgrp at hG
  have outer := lp_up (fun g => OK 0 0 2 [(0, .ref 23), (1, .int (nI g))] [] (wX (xf S (tks (S.1 5) (s3 S) (lsn (fun g => ifl (2 ≤ pog (S.2.2.1 2) (S.2.2.1 5) n (nI g)) (nI g) (nI (pog (S.2.2.1 2) (S.2.2.1 5) n (nI g)))) g))))) 30
    (by
      refine run [2] 60 _ _ _ _ _ _ ?_
      conv => whnf
      refine pk_le 30 30 (fun h => ?_) (fun h => absurd h (by omega))
      conv => whnf
      exact hG _ _ ⟨rfl, rfl⟩)
    (fun g hg ih => by
      simp only [lsn] at ih
      rw [tks_app, nI_succ] at ih
      generalize tks (S.1 5) (s3 S) (lsn (fun g => ifl (2 ≤ pog (S.2.2.1 2) (S.2.2.1 5) n (nI g)) (nI g) (nI (pog (S.2.2.1 2) (S.2.2.1 5) n (nI g)))) g) = Y at ih ⊢
      have hle := pog_le (Gp := S.2.2.1 2) (P := S.2.2.1 5) (n := n) (g := nI g)
      refine run [2] 60 _ _ _ _ _ _ ?_
      conv => whnf
      refine pk_le 30 g (fun h => absurd h (by omega)) (fun h => ?_)
      conv => whnf
      refine ⟨(n, nI g, xf S Y), rfl, rfl, ⟨hn, h1⟩, ?_⟩
      intro v u hvu
      obtain ⟨rfl, rfl⟩ : v = some (.int (nI (pog (S.2.2.1 2) (S.2.2.1 5) n (nI g)))) ∧ u = wX (xf S Y) := hvu
      conv => whnf
      refine pk_lt (pog (S.2.2.1 2) (S.2.2.1 5) n (nI g)) 2 (fun hc => ?_) (fun hc => ?_)
      · conv => whnf
        rw [ifl_f (by omega), tks_0] at ih
        exact sub [0, 1] _ _ _ _ _ _ _ rfl ih
      · conv => whnf
        refine ⟨(nI g, nI (pog (S.2.2.1 2) (S.2.2.1 5) n (nI g)), xf S Y), rfl, rfl, trivial, ?_⟩
        rintro _ _ ⟨rfl, rfl⟩
        conv => whnf
        rw [ifl_t hc, tks_1] at ih
        exact sub [0, 1] _ _ _ _ _ _ _ rfl ih)
  refine run [2] 60 _ _ _ _ _ _ ?_
  conv => whnf
  exact outer 0 (by omega)
theorem ct_X1_findGroups (D : va_G) (dT : Nat → Nat) (l : Launch) : en_CT en_WD D vwCl dT l yX1_findGroups cX1_findGroups 3 (none) rm_X1_findGroups f_X1_findGroups := en_met en_WD1 en_WD2 (by decide) rfl rfl (tB_X1_findGroups D dT l) (en_f_ln (fun _ => Nat.le_of_ble_eq_true rfl)) (en_f_bd bd_X1_findGroups)
set_option maxRecDepth 100000 in
theorem mk_X1_findGroups {D : va_G} {dT : Nat → Nat} {l : Launch} {R : Room} {s : State} {args : Array Value} {own : String} {idx : Nat} (h : en_WD s) (h1 : rm_X1_findGroups.frames + 1 ≤ R.frames) (h2 : 8 + (3 + 11) + rm_X1_findGroups.locals ≤ R.locals) (hl : (Jvm.Cond.methodLink own idx yX1_findGroups).before args s = true ∨ ∃ host, (Jvm.Cond.methodLinkNest own idx yX1_findGroups host).before args s = true) : en_mok en_WD D vwCl dT l R s args own (idx, 1, 3, 0, 0, f_X1_findGroups) :=
  ⟨yX1_findGroups, cX1_findGroups, 3, none, rm_X1_findGroups, 0, ct_X1_findGroups D dT l, rfl, rfl, h1, h2, en_wd h 543 rfl rfl args, en_wd h 65 (by decide +kernel) rfl args, by decide, by decide, hl, ⟨RX1, TX1, 6, rfl, en_wd h 542 (by decide +kernel) rfl args, en_wd h 22 (by decide +kernel) rfl args, rfl⟩⟩
/-- the first row of the least time outside part 0 -/
def elt (P T : Nat → Int32) : Nat → Int32
  | 0 => -1
  | r + 1 => if 0 < P r ∧ (elt P T r = -1 ∨ T r < T (tn (elt P T r))) then nI r else elt P T r
theorem elt_in (P T : Nat → Int32) : ∀ n, elt P T n = -1 ∨ ∃ r, r < n ∧ elt P T n = nI r
  | 0 => Or.inl rfl
  | n + 1 => by
    have ih := elt_in P T n
    simp only [elt]
    split
    · exact Or.inr ⟨n, by omega, rfl⟩
    · rcases ih with h | ⟨r, hr, h⟩
      · exact Or.inl h
      · exact Or.inr ⟨r, by omega, h⟩
def f_X1_earliestOutsideFirstPart := en_f (σ := Nat × Sx) (fun _ => [.ref 23]) (fun x => wX x.2) (fun x => x.1 ≤ 100 ∧ x.2.1 1 = nI x.1) (fun x v w => v = some (.int (elt (x.2.2.2.1 5) (x.2.2.2.1 4) x.1)) ∧ w = wX x.2)
def rm_X1_earliestOutsideFirstPart : Room := { frames := 0, cells := 0, slots := 0, locals := 0 }
def t_X1_earliestOutsideFirstPart : en_T := ((3, 0, 0), tb_X1_earliestOutsideFirstPart, fl_X1, cn_X1, [], [], 0, some .int)
set_option maxRecDepth 100000 in
theorem tB_X1_earliestOutsideFirstPart (D : va_G) (dT : Nat → Nat) (l : Launch) : en_TB en_WD D vwCl dT l rm_X1_earliestOutsideFirstPart t_X1_earliestOutsideFirstPart RX1 "earliestOutsideFirstPart" cX1_earliestOutsideFirstPart := ⟨tk_X1_earliestOutsideFirstPart, fun s args meth h hn => ⟨fo_X1 h args meth, co_X1 h args, fun _ h => absurd h List.not_mem_nil, fun _ h => absurd h List.not_mem_nil, Or.inl rfl, en_arr h args⟩⟩
set_option maxHeartbeats 4000000 in
set_option maxRecDepth 100000 in
theorem bd_X1_earliestOutsideFirstPart : en_B (σ := Nat × Sx) t_X1_earliestOutsideFirstPart (fun _ => [.ref 23]) (fun x => wX x.2) (fun x => x.1 ≤ 100 ∧ x.2.1 1 = nI x.1) (fun x v w => v = some (.int (elt (x.2.2.2.1 5) (x.2.2.2.1 4) x.1)) ∧ w = wX x.2) := by
  rintro ⟨n, S⟩ ⟨hn, h1⟩ G hG OK ⟨run, sub⟩
  dsimp only at hn h1 hG ⊢
  have loop := lp_up (fun i => OK 0 0 4 [(0, .ref 23), (1, .int (elt (S.2.2.1 5) (S.2.2.1 4) i)), (2, .int (nI i))] [] (wX S)) n
    (by
      refine run [4] 60 _ _ _ _ _ _ ?_
      conv => whnf
      refine pk_le n n (fun h => ?_) (fun h => absurd h (by omega)) h1
      conv => whnf
      exact hG _ _ ⟨rfl, rfl⟩)
    (fun i hi ih => by
      rw [nI_succ] at ih
      simp only [elt] at ih
      have hei := elt_in (S.2.2.1 5) (S.2.2.1 4) i
      generalize elt (S.2.2.1 5) (S.2.2.1 4) i = e at hei ih ⊢
      refine run [4] 60 _ _ _ _ _ _ ?_
      conv => whnf
      refine pk_le n i (fun h => absurd h (by omega)) (fun h => ?_) h1
      conv => whnf
      refine ⟨vp_in_nI (by omega) (by decide), ?_⟩
      rw [nI_clamp (by omega)]
      conv => whnf
      refine ⟨fun hp => ?_, fun hp => ?_⟩
      · conv => whnf
        rw [if_neg (fun z => absurd z.1 (Int32.not_lt.mpr hp))] at ih
        exact ih
      · have hp : 0 < S.2.2.1 5 i := Int32.not_le.mp hp
        conv => whnf
        refine ⟨fun he => ?_, fun he => ?_⟩
        · conv => whnf
          rw [if_pos ⟨hp, Or.inl he⟩] at ih
          exact ih
        · obtain ⟨q, hq, rfl⟩ := hei.resolve_left he
          conv => whnf
          refine ⟨vp_in_nI (by omega) (by decide), ?_⟩
          rw [nI_clamp (by omega)]
          conv => whnf
          refine ⟨vp_in_nI (by omega) (by decide), ?_⟩
          conv => whnf
          refine ⟨fun ht => ?_, fun ht => ?_⟩
          · have ht : S.2.2.1 4 (tn (nI q)) ≤ S.2.2.1 4 i := ht
            conv => whnf
            rw [if_neg (fun z => z.2.elim he (fun w => absurd w (Int32.not_lt.mpr ht)))] at ih
            exact ih
          · have ht : ¬ S.2.2.1 4 (tn (nI q)) ≤ S.2.2.1 4 i := ht
            conv => whnf
            rw [if_pos ⟨hp, Or.inr (Int32.not_le.mp ht)⟩] at ih
            exact ih)
  refine run [4] 60 _ _ _ _ _ _ ?_
  conv => whnf
  exact loop 0 (by omega)
theorem ct_X1_earliestOutsideFirstPart (D : va_G) (dT : Nat → Nat) (l : Launch) : en_CT en_WD D vwCl dT l yX1_earliestOutsideFirstPart cX1_earliestOutsideFirstPart 3 (some .int) rm_X1_earliestOutsideFirstPart f_X1_earliestOutsideFirstPart := en_met en_WD1 en_WD2 (by decide) rfl rfl (tB_X1_earliestOutsideFirstPart D dT l) (en_f_ln (fun _ => Nat.le_of_ble_eq_true rfl)) (en_f_bd bd_X1_earliestOutsideFirstPart)
set_option maxRecDepth 100000 in
theorem mk_X1_earliestOutsideFirstPart {D : va_G} {dT : Nat → Nat} {l : Launch} {R : Room} {s : State} {args : Array Value} {own : String} {idx : Nat} (h : en_WD s) (h1 : rm_X1_earliestOutsideFirstPart.frames + 1 ≤ R.frames) (h2 : 8 + (3 + 11) + rm_X1_earliestOutsideFirstPart.locals ≤ R.locals) (hl : (Jvm.Cond.methodLink own idx yX1_earliestOutsideFirstPart).before args s = true ∨ ∃ host, (Jvm.Cond.methodLinkNest own idx yX1_earliestOutsideFirstPart host).before args s = true) : en_mok en_WD D vwCl dT l R s args own (idx, 1, 3, 0, 0, f_X1_earliestOutsideFirstPart) :=
  ⟨yX1_earliestOutsideFirstPart, cX1_earliestOutsideFirstPart, 3, some .int, rm_X1_earliestOutsideFirstPart, 0, ct_X1_earliestOutsideFirstPart D dT l, rfl, rfl, h1, h2, en_wd h 559 rfl rfl args, en_wd h 65 (by decide +kernel) rfl args, by decide, by decide, hl, ⟨RX1, TX1, 6, rfl, en_wd h 558 (by decide +kernel) rfl args, en_wd h 25 (by decide +kernel) rfl args, rfl⟩⟩
/-- leaks of the kind 3 -/
def Llate (P T : Nat → Int32) (e : Int32) (n : Nat) : List (Int32 × Int32) := if e = -1 then [] else lsn (fun r => ifl (P r = 0 ∧ ¬ T r < T (tn e)) (nI r) e) n
def f_X1_findLate := en_f (σ := Nat × Sx) (fun _ => [.ref 23]) (fun x => wX x.2) (fun x => x.1 ≤ 100 ∧ x.2.1 1 = nI x.1) (fun x v w => v = none ∧ w = wX (xf x.2 (tks (x.2.1 5) (s3 x.2) (Llate (x.2.2.2.1 5) (x.2.2.2.1 4) (elt (x.2.2.2.1 5) (x.2.2.2.1 4) x.1) x.1))))
def rm_X1_findLate : Room := { frames := 1, cells := 0, slots := 0, locals := 22 }
def t_X1_findLate : en_T := ((3, 0, 0), tb_X1_findLate, fl_X1, cn_X1, [(81, 1, 3, 0, 0, f_X1_earliestOutsideFirstPart), (64, 3, 3, 0, 0, f_X1_take)], [], 0, none)
set_option maxRecDepth 100000 in
theorem tB_X1_findLate (D : va_G) (dT : Nat → Nat) (l : Launch) : en_TB en_WD D vwCl dT l rm_X1_findLate t_X1_findLate RX1 "findLate" cX1_findLate := ⟨tk_X1_findLate, fun s args meth h hn => ⟨fo_X1 h args meth, co_X1 h args, List.forall_mem_cons.mpr ⟨mk_X1_earliestOutsideFirstPart (own := RX1) h (Nat.le_of_ble_eq_true rfl) (Nat.le_of_ble_eq_true rfl) (Or.inl (en_wd h 556 (by decide +kernel) rfl args)), List.forall_mem_cons.mpr ⟨mk_X1_take (own := RX1) h (Nat.le_of_ble_eq_true rfl) (Nat.le_of_ble_eq_true rfl) (Or.inl (en_wd h 536 (by decide +kernel) rfl args)), fun _ h => absurd h List.not_mem_nil⟩⟩, fun _ h => absurd h List.not_mem_nil, Or.inl rfl, en_arr h args⟩⟩
set_option maxHeartbeats 4000000 in
set_option maxRecDepth 100000 in
theorem bd_X1_findLate : en_B (σ := Nat × Sx) t_X1_findLate (fun _ => [.ref 23]) (fun x => wX x.2) (fun x => x.1 ≤ 100 ∧ x.2.1 1 = nI x.1) (fun x v w => v = none ∧ w = wX (xf x.2 (tks (x.2.1 5) (s3 x.2) (Llate (x.2.2.2.1 5) (x.2.2.2.1 4) (elt (x.2.2.2.1 5) (x.2.2.2.1 4) x.1) x.1)))) := by
  rintro ⟨n, S⟩ ⟨hn, h1⟩ G hG OK ⟨run, sub⟩
  dsimp only at hn h1 hG ⊢
  have hei := elt_in (S.2.2.1 5) (S.2.2.1 4) n
  refine run [13] 60 _ _ _ _ _ _ ?_
  conv => whnf
  refine ⟨(n, S), rfl, rfl, ⟨hn, h1⟩, ?_⟩
  intro v u hvu
  obtain ⟨rfl, rfl⟩ : v = some (.int (elt (S.2.2.1 5) (S.2.2.1 4) n)) ∧ u = wX S := hvu
  generalize elt (S.2.2.1 5) (S.2.2.1 4) n = e at hei hG ⊢
  unfold Llate at hG
  conv => whnf
  refine ⟨fun he => ?_, fun he => ?_⟩
  rotate_left
  · conv => whnf
    have he : e = -1 := he
    rw [if_pos he, tks_0] at hG
    exact hG _ _ ⟨rfl, rfl⟩
  have he : ¬ e = -1 := he
  rw [if_neg he] at hG
  obtain ⟨q, hq, hqe⟩ := hei.resolve_left he
  have hinq : vp_in e 100 := by rw [hqe]; exact vp_in_nI (by omega) (by decide)
  have loop := lp_up (fun i => OK 0 0 13 [(0, .ref 23), (1, .int e), (2, .int (nI i))] [] (wX (xf S (tks (S.1 5) (s3 S) (lsn (fun r => ifl (S.2.2.1 5 r = 0 ∧ ¬ S.2.2.1 4 r < S.2.2.1 4 (tn e)) (nI r) e) i))))) n
    (by
      refine run [13] 60 _ _ _ _ _ _ ?_
      conv => whnf
      refine pk_le n n (fun h => ?_) (fun h => absurd h (by omega)) h1
      conv => whnf
      exact hG _ _ ⟨rfl, rfl⟩)
    (fun i hi ih => by
      simp only [lsn] at ih
      rw [tks_app, nI_succ] at ih
      generalize tks (S.1 5) (s3 S) (lsn (fun r => ifl (S.2.2.1 5 r = 0 ∧ ¬ S.2.2.1 4 r < S.2.2.1 4 (tn e)) (nI r) e) i) = Y at ih ⊢
      refine run [13] 60 _ _ _ _ _ _ ?_
      conv => whnf
      refine pk_le n i (fun h => absurd h (by omega)) (fun h => ?_) h1
      conv => whnf
      refine ⟨vp_in_nI (by omega) (by decide), ?_⟩
      rw [nI_clamp (by omega)]
      conv => whnf
      refine ⟨fun hp => ?_, fun hp => ?_⟩
      · conv => whnf
        rw [ifl_f (fun z => hp z.1), tks_0] at ih
        exact ih
      · conv => whnf
        refine ⟨vp_in_nI (by omega) (by decide), ?_⟩
        rw [nI_clamp (by omega)]
        conv => whnf
        refine ⟨hinq, ?_⟩
        conv => whnf
        refine ⟨fun ht => ?_, fun ht => ?_⟩
        · have ht : S.2.2.1 4 i < S.2.2.1 4 (tn e) := ht
          conv => whnf
          rw [ifl_f (fun z => z.2 ht), tks_0] at ih
          exact ih
        · have ht : ¬ S.2.2.1 4 i < S.2.2.1 4 (tn e) := ht
          conv => whnf
          refine ⟨(nI i, e, xf S Y), rfl, rfl, trivial, ?_⟩
          rintro _ _ ⟨rfl, rfl⟩
          conv => whnf
          rw [ifl_t ⟨hp, ht⟩, tks_1] at ih
          exact ih)
  conv => whnf
  exact loop 0 (by omega)
theorem ct_X1_findLate (D : va_G) (dT : Nat → Nat) (l : Launch) : en_CT en_WD D vwCl dT l yX1_findLate cX1_findLate 3 (none) rm_X1_findLate f_X1_findLate := en_met en_WD1 en_WD2 (by decide) rfl rfl (tB_X1_findLate D dT l) (en_f_ln (fun _ => Nat.le_of_ble_eq_true rfl)) (en_f_bd bd_X1_findLate)
set_option maxRecDepth 100000 in
theorem mk_X1_findLate {D : va_G} {dT : Nat → Nat} {l : Launch} {R : Room} {s : State} {args : Array Value} {own : String} {idx : Nat} (h : en_WD s) (h1 : rm_X1_findLate.frames + 1 ≤ R.frames) (h2 : 8 + (3 + 11) + rm_X1_findLate.locals ≤ R.locals) (hl : (Jvm.Cond.methodLink own idx yX1_findLate).before args s = true ∨ ∃ host, (Jvm.Cond.methodLinkNest own idx yX1_findLate host).before args s = true) : en_mok en_WD D vwCl dT l R s args own (idx, 1, 3, 0, 0, f_X1_findLate) :=
  ⟨yX1_findLate, cX1_findLate, 3, none, rm_X1_findLate, 0, ct_X1_findLate D dT l, rfl, rfl, h1, h2, en_wd h 555 rfl rfl args, en_wd h 65 (by decide +kernel) rfl args, by decide, by decide, hl, ⟨RX1, TX1, 6, rfl, en_wd h 554 (by decide +kernel) rfl args, en_wd h 24 (by decide +kernel) rfl args, rfl⟩⟩
/-- leaks of the kind 5 -/
def Lfit (By Ft P : Nat → Int32) (n : Nat) : List (Int32 × Int32) := lsn (fun s => lsn (fun r => ifl (0 < P r ∧ chn By Ft r 8 (nI s) = true) (nI s) (nI r)) n) 8
def f_X1_findFitted := en_f (σ := Nat × Sx) (fun _ => [.ref 23]) (fun x => wX x.2) (fun x => x.1 ≤ 100 ∧ x.2.1 1 = nI x.1 ∧ zb (x.2.2.2.1 22) ∧ byok (x.2.2.2.1 20)) (fun x v w => v = none ∧ w = wX (xf x.2 (tks (x.2.1 5) (s3 x.2) (Lfit (x.2.2.2.1 20) (x.2.2.2.1 22) (x.2.2.2.1 5) x.1))))
def rm_X1_findFitted : Room := { frames := 2, cells := 0, slots := 0, locals := 46 }
def t_X1_findFitted : en_T := ((3, 0, 0), tb_X1_findFitted, fl_X1, cn_X1, [(114, 3, 6, 0, 0, f_X4_isFitted), (64, 3, 3, 0, 0, f_X1_take)], [], 0, none)
set_option maxRecDepth 100000 in
theorem tB_X1_findFitted (D : va_G) (dT : Nat → Nat) (l : Launch) : en_TB en_WD D vwCl dT l rm_X1_findFitted t_X1_findFitted RX1 "findFitted" cX1_findFitted := ⟨tk_X1_findFitted, fun s args meth h hn => ⟨fo_X1 h args meth, co_X1 h args, List.forall_mem_cons.mpr ⟨mk_X4_isFitted (own := RX1) h (Nat.le_of_ble_eq_true rfl) (Nat.le_of_ble_eq_true rfl) (Or.inl (en_wd h 586 (by decide +kernel) rfl args)), List.forall_mem_cons.mpr ⟨mk_X1_take (own := RX1) h (Nat.le_of_ble_eq_true rfl) (Nat.le_of_ble_eq_true rfl) (Or.inl (en_wd h 536 (by decide +kernel) rfl args)), fun _ h => absurd h List.not_mem_nil⟩⟩, fun _ h => absurd h List.not_mem_nil, Or.inl rfl, en_arr h args⟩⟩
set_option maxHeartbeats 4000000 in
set_option maxRecDepth 100000 in
theorem bd_X1_findFitted : en_B (σ := Nat × Sx) t_X1_findFitted (fun _ => [.ref 23]) (fun x => wX x.2) (fun x => x.1 ≤ 100 ∧ x.2.1 1 = nI x.1 ∧ zb (x.2.2.2.1 22) ∧ byok (x.2.2.2.1 20)) (fun x v w => v = none ∧ w = wX (xf x.2 (tks (x.2.1 5) (s3 x.2) (Lfit (x.2.2.2.1 20) (x.2.2.2.1 22) (x.2.2.2.1 5) x.1)))) := by
  rintro ⟨n, S⟩ ⟨hn, h1, hz, hby⟩ G hG OK ⟨run, sub⟩
  dsimp only at hn h1 hz hby hG ⊢
  unfold Lfit at hG
  have outer := lp_up (fun s => OK 0 0 2 [(0, .ref 23), (1, .int (nI s))] [] (wX (xf S (tks (S.1 5) (s3 S) (lsn (fun s => lsn (fun r => ifl (0 < S.2.2.1 5 r ∧ chn (S.2.2.1 20) (S.2.2.1 22) r 8 (nI s) = true) (nI s) (nI r)) n) s))))) 8
    (by
      refine run [2] 60 _ _ _ _ _ _ ?_
      conv => whnf
      refine pk_le 8 8 (fun h => ?_) (fun h => absurd h (by omega))
      conv => whnf
      exact hG _ _ ⟨rfl, rfl⟩)
    (fun s hs ih => by
      simp only [lsn] at ih
      rw [tks_app, nI_succ] at ih
      generalize tks (S.1 5) (s3 S) (lsn (fun s => lsn (fun r => ifl (0 < S.2.2.1 5 r ∧ chn (S.2.2.1 20) (S.2.2.1 22) r 8 (nI s) = true) (nI s) (nI r)) n) s) = Y at ih ⊢
      have inner := lp_up (fun r => OK 0 0 10 [(0, .ref 23), (1, .int (nI s)), (2, .int (nI r))] [] (wX (xf S (tks (S.1 5) Y (lsn (fun r => ifl (0 < S.2.2.1 5 r ∧ chn (S.2.2.1 20) (S.2.2.1 22) r 8 (nI s) = true) (nI s) (nI r)) r))))) n
        (by
          refine run [2, 10] 60 _ _ _ _ _ _ ?_
          conv => whnf
          refine pk_le n n (fun h => ?_) (fun h => absurd h (by omega)) h1
          conv => whnf
          exact sub [0, 1] _ _ _ _ _ _ _ rfl ih)
        (fun r hr ihr => by
          simp only [lsn] at ihr
          rw [tks_app, nI_succ] at ihr
          generalize tks (S.1 5) Y (lsn (fun r => ifl (0 < S.2.2.1 5 r ∧ chn (S.2.2.1 20) (S.2.2.1 22) r 8 (nI s) = true) (nI s) (nI r)) r) = X at ihr ⊢
          refine run [2, 10] 60 _ _ _ _ _ _ ?_
          conv => whnf
          refine pk_le n r (fun h => absurd h (by omega)) (fun h => ?_) h1
          conv => whnf
          refine ⟨vp_in_nI (by omega) (by decide), ?_⟩
          rw [nI_clamp (by omega)]
          conv => whnf
          refine ⟨fun hp => ?_, fun hp => ?_⟩
          · have hp : S.2.2.1 5 r ≤ 0 := hp
            conv => whnf
            rw [ifl_f (fun z => absurd z.1 (Int32.not_lt.mpr hp)), tks_0] at ihr
            exact ihr
          · have hp : ¬ S.2.2.1 5 r ≤ 0 := hp
            conv => whnf
            refine ⟨(s, r, xf S X), rfl, rfl, ⟨by dsimp only; omega, by dsimp only; omega, hz, hby⟩, ?_⟩
            intro v u hvu
            obtain ⟨rfl, rfl⟩ : v = some (.int (bl (chn (S.2.2.1 20) (S.2.2.1 22) r 8 (nI s) = true))) ∧ u = wX (xf S X) := hvu
            conv => whnf
            refine bl_br (fun hc => ?_) (fun hc => ?_)
            · conv => whnf
              rw [ifl_f (fun z => hc z.2), tks_0] at ihr
              exact ihr
            · conv => whnf
              refine ⟨(nI s, nI r, xf S X), rfl, rfl, trivial, ?_⟩
              rintro _ _ ⟨rfl, rfl⟩
              conv => whnf
              rw [ifl_t ⟨Int32.not_le.mp hp, hc⟩, tks_1] at ihr
              exact ihr)
      refine run [2, 10] 60 _ _ _ _ _ _ ?_
      conv => whnf
      refine pk_le 8 s (fun h => absurd h (by omega)) (fun h => ?_)
      conv => whnf
      exact inner 0 (by omega))
  refine run [2] 60 _ _ _ _ _ _ ?_
  conv => whnf
  exact outer 0 (by omega)
theorem ct_X1_findFitted (D : va_G) (dT : Nat → Nat) (l : Launch) : en_CT en_WD D vwCl dT l yX1_findFitted cX1_findFitted 3 (none) rm_X1_findFitted f_X1_findFitted := en_met en_WD1 en_WD2 (by decide) rfl rfl (tB_X1_findFitted D dT l) (en_f_ln (fun _ => Nat.le_of_ble_eq_true rfl)) (en_f_bd bd_X1_findFitted)
set_option maxRecDepth 100000 in
theorem mk_X1_findFitted {D : va_G} {dT : Nat → Nat} {l : Launch} {R : Room} {s : State} {args : Array Value} {own : String} {idx : Nat} (h : en_WD s) (h1 : rm_X1_findFitted.frames + 1 ≤ R.frames) (h2 : 8 + (3 + 11) + rm_X1_findFitted.locals ≤ R.locals) (hl : (Jvm.Cond.methodLink own idx yX1_findFitted).before args s = true ∨ ∃ host, (Jvm.Cond.methodLinkNest own idx yX1_findFitted host).before args s = true) : en_mok en_WD D vwCl dT l R s args own (idx, 1, 3, 0, 0, f_X1_findFitted) :=
  ⟨yX1_findFitted, cX1_findFitted, 3, none, rm_X1_findFitted, 0, ct_X1_findFitted D dT l, rfl, rfl, h1, h2, en_wd h 585 rfl rfl args, en_wd h 65 (by decide +kernel) rfl args, by decide, by decide, hl, ⟨RX1, TX1, 6, rfl, en_wd h 584 (by decide +kernel) rfl args, en_wd h 31 (by decide +kernel) rfl args, rfl⟩⟩
