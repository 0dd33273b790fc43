/-! SplitLeaks$Finder: the search -/
theorem xf_xi (S : Sx) (v : Int32) (Y : Int32 × Int32 × Int32) : wX (xf (xi S 6 v) Y) = wX (xf S Y) := rfl
/-- leaks of the kind 4 -/
def Ltell (N : Nat → Int64) (P Lb : Nat → Int32) (n : Nat) : List (Int32 × Int32) := lsn (fun c => ifl (tells N P Lb n c) (nI c) (nI (ct (fun a => P a ≠ -1 ∧ ¬ sab N P n c a) n))) 3
def f_X1_findTelling := en_f (σ := Nat × Sx) (fun _ => [.ref 23]) (fun x => wX x.2) (fun x => x.1 ≤ 100 ∧ x.2.1 1 = nI x.1) (fun x v w => v = none ∧ w = wX (xf x.2 (tks (x.2.1 5) (s3 x.2) (Ltell (x.2.2.2.2 6) (x.2.2.2.1 5) (x.2.2.2.1 3) x.1))))
def rm_X1_findTelling : Room := { frames := 3, cells := 0, slots := 0, locals := 70 }
def t_X1_findTelling : en_T := ((2, 0, 0), tb_X1_findTelling, fl_X1, cn_X1, [(92, 2, 3, 0, 0, f_X1_tellsLabel), (96, 2, 3, 0, 0, f_X1_countNumbers), (64, 3, 3, 0, 0, f_X1_take)], [], 0, none)
set_option maxRecDepth 100000 in
theorem tB_X1_findTelling (D : va_G) (dT : Nat → Nat) (l : Launch) : en_TB en_WD D vwCl dT l rm_X1_findTelling t_X1_findTelling RX1 "findTelling" cX1_findTelling := ⟨tk_X1_findTelling, fun s args meth h hn => ⟨fo_X1 h args meth, co_X1 h args, List.forall_mem_cons.mpr ⟨mk_X1_tellsLabel (own := RX1) h (Nat.le_of_ble_eq_true rfl) (Nat.le_of_ble_eq_true rfl) (Or.inl (en_wd h 564 (by decide +kernel) rfl args)), List.forall_mem_cons.mpr ⟨mk_X1_countNumbers (own := RX1) h (Nat.le_of_ble_eq_true rfl) (Nat.le_of_ble_eq_true rfl) (Or.inl (en_wd h 578 (by decide +kernel) rfl args)), List.forall_mem_cons.mpr ⟨mk_X1_take (own := RX1) h (Nat.le_of_ble_eq_true rfl) (Nat.le_of_ble_eq_true rfl) (Or.inl (en_wd h 536 (by decide +kernel) rfl args)), fun _ h => absurd h List.not_mem_nil⟩⟩⟩, fun _ h => absurd h List.not_mem_nil, Or.inl rfl, en_arr h args⟩⟩
set_option maxHeartbeats 4000000 in
set_option maxRecDepth 100000 in
theorem bd_X1_findTelling : en_B (σ := Nat × Sx) t_X1_findTelling (fun _ => [.ref 23]) (fun x => wX x.2) (fun x => x.1 ≤ 100 ∧ x.2.1 1 = nI x.1) (fun x v w => v = none ∧ w = wX (xf x.2 (tks (x.2.1 5) (s3 x.2) (Ltell (x.2.2.2.2 6) (x.2.2.2.1 5) (x.2.2.2.1 3) x.1)))) := by
  rintro ⟨n, S⟩ ⟨hn, h1⟩ G hG OK ⟨run, sub⟩
  dsimp only at hn h1 hG ⊢
  unfold Ltell at hG
  have outer := lp_up (fun c => OK 0 0 2 [(0, .ref 23), (1, .int (nI c))] [] (wX (xf S (tks (S.1 5) (s3 S) (lsn (fun c => ifl (tells (S.2.2.2 6) (S.2.2.1 5) (S.2.2.1 3) n c) (nI c) (nI (ct (fun a => S.2.2.1 5 a ≠ -1 ∧ ¬ sab (S.2.2.2 6) (S.2.2.1 5) n c a) n))) c))))) 3
    (by
      refine run [2] 60 _ _ _ _ _ _ ?_
      conv => whnf
      refine pk_le 3 3 (fun h => ?_) (fun h => absurd h (by omega))
      conv => whnf
      exact hG _ _ ⟨rfl, rfl⟩)
    (fun c hc ih => by
      simp only [lsn] at ih
      rw [tks_app, nI_succ] at ih
      generalize tks (S.1 5) (s3 S) (lsn (fun c => ifl (tells (S.2.2.2 6) (S.2.2.1 5) (S.2.2.1 3) n c) (nI c) (nI (ct (fun a => S.2.2.1 5 a ≠ -1 ∧ ¬ sab (S.2.2.2 6) (S.2.2.1 5) n c a) n))) c) = Y at ih ⊢
      refine run [2] 60 _ _ _ _ _ _ ?_
      conv => whnf
      refine pk_le 3 c (fun h => absurd h (by omega)) (fun h => ?_)
      conv => whnf
      refine ⟨(n, c, xf S Y), rfl, rfl, ⟨hn, h1, hc⟩, ?_⟩
      intro v u hvu
      obtain ⟨rfl, rfl⟩ : v = some (.int (bl (tells (S.2.2.2 6) (S.2.2.1 5) (S.2.2.1 3) n c))) ∧ u = wX (xf S Y) := hvu
      conv => whnf
      refine bl_br (fun hp => ?_) (fun hp => ?_)
      · conv => whnf
        rw [ifl_f hp, tks_0] at ih
        exact ih
      · conv => whnf
        refine ⟨(n, c, xf S Y), rfl, rfl, ⟨hn, h1, hc⟩, ?_⟩
        intro v u hvu
        obtain ⟨rfl, rfl⟩ : v = some (.int (nI (ct (fun a => S.2.2.1 5 a ≠ -1 ∧ ¬ sab (S.2.2.2 6) (S.2.2.1 5) n c a) n))) ∧ u = wX (xf S Y) := hvu
        conv => whnf
        refine ⟨(nI c, nI (ct (fun a => S.2.2.1 5 a ≠ -1 ∧ ¬ sab (S.2.2.2 6) (S.2.2.1 5) n c a) n), xf S Y), rfl, rfl, trivial, ?_⟩
        rintro _ _ ⟨rfl, rfl⟩
        conv => whnf
        rw [ifl_t hp, tks_1] at ih
        exact ih)
  refine run [2] 60 _ _ _ _ _ _ ?_
  conv => whnf
  exact outer 0 (by omega)
theorem ct_X1_findTelling (D : va_G) (dT : Nat → Nat) (l : Launch) : en_CT en_WD D vwCl dT l yX1_findTelling cX1_findTelling 2 (none) rm_X1_findTelling f_X1_findTelling := en_met en_WD1 en_WD2 (by decide) rfl rfl (tB_X1_findTelling D dT l) (en_f_ln (fun _ => Nat.le_of_ble_eq_true rfl)) (en_f_bd bd_X1_findTelling)
set_option maxRecDepth 100000 in
theorem mk_X1_findTelling {D : va_G} {dT : Nat → Nat} {l : Launch} {R : Room} {s : State} {args : Array Value} {own : String} {idx : Nat} (h : en_WD s) (h1 : rm_X1_findTelling.frames + 1 ≤ R.frames) (h2 : 8 + (2 + 11) + rm_X1_findTelling.locals ≤ R.locals) (hl : (Jvm.Cond.methodLink own idx yX1_findTelling).before args s = true ∨ ∃ host, (Jvm.Cond.methodLinkNest own idx yX1_findTelling host).before args s = true) : en_mok en_WD D vwCl dT l R s args own (idx, 1, 3, 0, 0, f_X1_findTelling) :=
  ⟨yX1_findTelling, cX1_findTelling, 2, none, rm_X1_findTelling, 0, ct_X1_findTelling D dT l, rfl, rfl, h1, h2, en_wd h 563 rfl rfl args, en_wd h 65 (by decide +kernel) rfl args, by decide, by decide, hl, ⟨RX1, TX1, 6, rfl, en_wd h 562 (by decide +kernel) rfl args, en_wd h 26 (by decide +kernel) rfl args, rfl⟩⟩
/-- the leaks of a kind -/
def LK (N Wd : Nat → Int64) (Gp Lb T P By Ft : Nat → Int32) (n : Nat) (kd : Nat) (nn : Int32) : List (Int32 × Int32) := match kd with
  | 0 => Lpair N Wd P (nI 0) nn n
  | 1 => Lpair N Wd P (nI 1) nn n
  | 2 => Lgrp Gp P n
  | 3 => Llate P T (elt P T n) n
  | 4 => Ltell N P Lb n
  | _ => Lfit By Ft P n
abbrev LKX (S : Sx) (n : Nat) (kd : Nat) (nn : Int32) : List (Int32 × Int32) := LK (S.2.2.2 6) (S.2.2.2 7) (S.2.2.1 2) (S.2.2.1 3) (S.2.2.1 4) (S.2.2.1 5) (S.2.2.1 20) (S.2.2.1 22) n kd nn
def f_X1_search := en_f (σ := Nat × Nat × Int32 × Int32 × Sx) (fun x => [.ref 23, .int (nI x.2.1), .int x.2.2.1, .int x.2.2.2.1]) (fun x => wX x.2.2.2.2) (fun x => x.1 ≤ 100 ∧ x.2.2.2.2.1 1 = nI x.1 ∧ x.2.1 ≤ 5 ∧ zb (x.2.2.2.2.2.2.1 22) ∧ byok (x.2.2.2.2.2.2.1 20)) (fun x v w => v = some (.int (tks x.2.2.2.1 (0, x.2.2.2.2.1 7, x.2.2.2.2.1 8) (LKX x.2.2.2.2 x.1 x.2.1 x.2.2.1)).1) ∧ w = wX (xf (xi x.2.2.2.2 5 x.2.2.2.1) (tks x.2.2.2.1 (0, x.2.2.2.2.1 7, x.2.2.2.2.1 8) (LKX x.2.2.2.2 x.1 x.2.1 x.2.2.1))))
def rm_X1_search : Room := { frames := 4, cells := 0, slots := 0, locals := 97 }
def t_X1_search : en_T := ((4, 0, 0), tb_X1_search, fl_X1, cn_X1, [(32, 3, 3, 0, 0, f_X1_findPairs), (36, 1, 3, 0, 0, f_X1_findGroups), (39, 1, 3, 0, 0, f_X1_findLate), (42, 1, 3, 0, 0, f_X1_findTelling), (45, 1, 3, 0, 0, f_X1_findFitted)], [], 0, some .int)
set_option maxRecDepth 100000 in
theorem tB_X1_search (D : va_G) (dT : Nat → Nat) (l : Launch) : en_TB en_WD D vwCl dT l rm_X1_search t_X1_search RX1 "search" cX1_search := ⟨tk_X1_search, fun s args meth h hn => ⟨fo_X1 h args meth, co_X1 h args, List.forall_mem_cons.mpr ⟨mk_X1_findPairs (own := RX1) h (Nat.le_of_ble_eq_true rfl) (Nat.le_of_ble_eq_true rfl) (Or.inl (en_wd h 515 (by decide +kernel) rfl args)), List.forall_mem_cons.mpr ⟨mk_X1_findGroups (own := RX1) h (Nat.le_of_ble_eq_true rfl) (Nat.le_of_ble_eq_true rfl) (Or.inl (en_wd h 540 (by decide +kernel) rfl args)), List.forall_mem_cons.mpr ⟨mk_X1_findLate (own := RX1) h (Nat.le_of_ble_eq_true rfl) (Nat.le_of_ble_eq_true rfl) (Or.inl (en_wd h 552 (by decide +kernel) rfl args)), List.forall_mem_cons.mpr ⟨mk_X1_findTelling (own := RX1) h (Nat.le_of_ble_eq_true rfl) (Nat.le_of_ble_eq_true rfl) (Or.inl (en_wd h 560 (by decide +kernel) rfl args)), List.forall_mem_cons.mpr ⟨mk_X1_findFitted (own := RX1) h (Nat.le_of_ble_eq_true rfl) (Nat.le_of_ble_eq_true rfl) (Or.inl (en_wd h 582 (by decide +kernel) rfl args)), fun _ h => absurd h List.not_mem_nil⟩⟩⟩⟩⟩, fun _ h => absurd h List.not_mem_nil, Or.inl rfl, en_arr h args⟩⟩
set_option maxHeartbeats 4000000 in
set_option maxRecDepth 100000 in
theorem bd_X1_search : en_B (σ := Nat × Nat × Int32 × Int32 × Sx) t_X1_search (fun x => [.ref 23, .int (nI x.2.1), .int x.2.2.1, .int x.2.2.2.1]) (fun x => wX x.2.2.2.2) (fun x => x.1 ≤ 100 ∧ x.2.2.2.2.1 1 = nI x.1 ∧ x.2.1 ≤ 5 ∧ zb (x.2.2.2.2.2.2.1 22) ∧ byok (x.2.2.2.2.2.2.1 20)) (fun x v w => v = some (.int (tks x.2.2.2.1 (0, x.2.2.2.2.1 7, x.2.2.2.2.1 8) (LKX x.2.2.2.2 x.1 x.2.1 x.2.2.1)).1) ∧ w = wX (xf (xi x.2.2.2.2 5 x.2.2.2.1) (tks x.2.2.2.1 (0, x.2.2.2.2.1 7, x.2.2.2.2.1 8) (LKX x.2.2.2.2 x.1 x.2.1 x.2.2.1)))) := by
  rintro ⟨n, kd, nn, wh, S⟩ ⟨hn, h1, hkd, hz, hby⟩ G hG OK ⟨run, sub⟩
  dsimp only at hn h1 hkd hz hby hG ⊢
  refine run [] 60 _ _ _ _ _ _ ?_
  conv => whnf
  refine ⟨fun h => ?_, fun h => ?_, fun h => ?_, fun h => ?_, fun h => ?_, fun h => ?_, trivial⟩
  · have : kd = 5 := by rw [nI_toInt (by omega)] at h; omega
    subst this
    conv => whnf
    refine ⟨(n, xi (xi S 5 wh) 6 0), rfl, rfl, ⟨hn, h1, hz, hby⟩, ?_⟩
    intro v u hvu
    obtain ⟨rfl, rfl⟩ : v = none ∧ u = wX (xf (xi (xi S 5 wh) 6 0) (tks wh (0, S.1 7, S.1 8) (LKX S n 5 nn))) := hvu
    rw [xf_xi]
    generalize tks wh (0, S.1 7, S.1 8) (LKX S n 5 nn) = Y at hG ⊢
    conv => whnf
    exact hG _ _ ⟨rfl, rfl⟩
  · have : kd = 0 := by have := nI_int (by omega) h; omega
    subst this
    conv => whnf
    refine ⟨(n, nI 0, nn, xi (xi S 5 wh) 6 0), rfl, rfl, ⟨hn, h1⟩, ?_⟩
    intro v u hvu
    obtain ⟨rfl, rfl⟩ : v = none ∧ u = wX (xf (xi (xi S 5 wh) 6 0) (tks wh (0, S.1 7, S.1 8) (LKX S n 0 nn))) := hvu
    rw [xf_xi]
    generalize tks wh (0, S.1 7, S.1 8) (LKX S n 0 nn) = Y at hG ⊢
    conv => whnf
    exact hG _ _ ⟨rfl, rfl⟩
  · have : kd = 1 := by have := nI_int (by omega) h; omega
    subst this
    conv => whnf
    refine ⟨(n, nI 1, nn, xi (xi S 5 wh) 6 0), rfl, rfl, ⟨hn, h1⟩, ?_⟩
    intro v u hvu
    obtain ⟨rfl, rfl⟩ : v = none ∧ u = wX (xf (xi (xi S 5 wh) 6 0) (tks wh (0, S.1 7, S.1 8) (LKX S n 1 nn))) := hvu
    rw [xf_xi]
    generalize tks wh (0, S.1 7, S.1 8) (LKX S n 1 nn) = Y at hG ⊢
    conv => whnf
    exact hG _ _ ⟨rfl, rfl⟩
  · have : kd = 2 := by have := nI_int (by omega) h; omega
    subst this
    conv => whnf
    refine ⟨(n, xi (xi S 5 wh) 6 0), rfl, rfl, ⟨hn, h1⟩, ?_⟩
    intro v u hvu
    obtain ⟨rfl, rfl⟩ : v = none ∧ u = wX (xf (xi (xi S 5 wh) 6 0) (tks wh (0, S.1 7, S.1 8) (LKX S n 2 nn))) := hvu
    rw [xf_xi]
    generalize tks wh (0, S.1 7, S.1 8) (LKX S n 2 nn) = Y at hG ⊢
    conv => whnf
    exact hG _ _ ⟨rfl, rfl⟩
  · have : kd = 3 := by have := nI_int (by omega) h; omega
    subst this
    conv => whnf
    refine ⟨(n, xi (xi S 5 wh) 6 0), rfl, rfl, ⟨hn, h1⟩, ?_⟩
    intro v u hvu
    obtain ⟨rfl, rfl⟩ : v = none ∧ u = wX (xf (xi (xi S 5 wh) 6 0) (tks wh (0, S.1 7, S.1 8) (LKX S n 3 nn))) := hvu
    rw [xf_xi]
    generalize tks wh (0, S.1 7, S.1 8) (LKX S n 3 nn) = Y at hG ⊢
    conv => whnf
    exact hG _ _ ⟨rfl, rfl⟩
  · have : kd = 4 := by have := nI_int (by omega) h; omega
    subst this
    conv => whnf
    refine ⟨(n, xi (xi S 5 wh) 6 0), rfl, rfl, ⟨hn, h1⟩, ?_⟩
    intro v u hvu
    obtain ⟨rfl, rfl⟩ : v = none ∧ u = wX (xf (xi (xi S 5 wh) 6 0) (tks wh (0, S.1 7, S.1 8) (LKX S n 4 nn))) := hvu
    rw [xf_xi]
    generalize tks wh (0, S.1 7, S.1 8) (LKX S n 4 nn) = Y at hG ⊢
    conv => whnf
    exact hG _ _ ⟨rfl, rfl⟩
theorem ct_X1_search (D : va_G) (dT : Nat → Nat) (l : Launch) : en_CT en_WD D vwCl dT l yX1_search cX1_search 4 (some .int) rm_X1_search f_X1_search := en_met en_WD1 en_WD2 (by decide) rfl rfl (tB_X1_search D dT l) (en_f_ln (fun _ => Nat.le_of_ble_eq_true rfl)) (en_f_bd bd_X1_search)
set_option maxRecDepth 100000 in
theorem mk_X1_search {D : va_G} {dT : Nat → Nat} {l : Launch} {R : Room} {s : State} {args : Array Value} {own : String} {idx : Nat} (h : en_WD s) (h1 : rm_X1_search.frames + 1 ≤ R.frames) (h2 : 8 + (4 + 11) + rm_X1_search.locals ≤ R.locals) (hl : (Jvm.Cond.methodLink own idx yX1_search).before args s = true ∨ ∃ host, (Jvm.Cond.methodLinkNest own idx yX1_search host).before args s = true) : en_mok en_WD D vwCl dT l R s args own (idx, 4, 3, 0, 0, f_X1_search) :=
  ⟨yX1_search, cX1_search, 4, some .int, rm_X1_search, 3, ct_X1_search D dT l, rfl, rfl, h1, h2, en_wd h 514 rfl rfl args, en_wd h 65 (by decide +kernel) rfl args, by decide, by decide, hl, ⟨RX1, TX1, 6, rfl, en_wd h 512 (by decide +kernel) rfl args, en_wd h 513 (by decide +kernel) rfl args, rfl⟩⟩
