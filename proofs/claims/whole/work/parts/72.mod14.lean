/-! the reference: look, leaks, leak -/
def LM (S : Sx) (n : Nat) (kd : Nat) : List (Int32 × Int32) := match kd with
  | 0 => LpairM (S.2.2.2 4) (S.2.2.2 5) (S.2.2.1 6) 1 (S.1 3) n
  | 1 => LpairM (S.2.2.2 4) (S.2.2.2 5) (S.2.2.1 6) 0 (S.1 3) n
  | 2 => Lgrp (S.2.2.1 1) (S.2.2.1 6) n
  | 3 => Llate (S.2.2.1 6) (S.2.2.1 3) (elt (S.2.2.1 6) (S.2.2.1 3) n) n
  | 4 => LtellM (S.2.2.2 4) (S.2.2.1 6) (S.2.2.1 2) n
  | _ => Lfit (S.2.2.1 9) (S.2.2.1 8) (S.2.2.1 6) n
theorem xfM_xi (S : Sx) (v : Int32) (Y : Int32 × Int32 × Int32) : wM (xf (xi S 6 v) Y) = wM (xf S Y) := rfl
def f_X7_look := en_f (σ := Nat × Nat × Int32 × Sx) (fun x => [.ref 0, .int (nI x.2.1), .int x.2.2.1]) (fun x => wM x.2.2.2) (fun x => x.1 ≤ 100 ∧ x.2.2.2.1 0 = nI x.1 ∧ x.2.1 ≤ 5 ∧ byok (x.2.2.2.2.2.1 9)) (fun x v w => v = none ∧ w = wM (xf x.2.2.2 (tks x.2.2.1 (0, x.2.2.2.1 7, x.2.2.2.1 8) (LM x.2.2.2 x.1 x.2.1))))
def rm_X7_look : Room := { frames := 3, cells := 0, slots := 0, locals := 71 }
def t_X7_look : en_T := ((3, 0, 0), tb_X7_look, fl_X7, cn_X7, [(161, 3, 9, 0, 0, f_X7_pairs), (165, 2, 9, 0, 0, f_X7_groups), (168, 2, 9, 0, 0, f_X7_late), (171, 2, 9, 0, 0, f_X7_columns), (174, 2, 9, 0, 0, f_X7_steps)], [], 0, none)
set_option maxRecDepth 100000 in
theorem tB_X7_look (D : va_G) (dT : Nat → Nat) (l : Launch) : en_TB en_WD D vwCl dT l rm_X7_look t_X7_look RX7 "look" cX7_look := ⟨tk_X7_look, fun s args meth h hn => ⟨fo_X7 h args meth, co_X7 h args, List.forall_mem_cons.mpr ⟨mk_X7_pairs (own := RX7) h (Nat.le_of_ble_eq_true rfl) (Nat.le_of_ble_eq_true rfl) (Or.inl (en_wd h 955 (by decide +kernel) rfl args)), List.forall_mem_cons.mpr ⟨mk_X7_groups (own := RX7) h (Nat.le_of_ble_eq_true rfl) (Nat.le_of_ble_eq_true rfl) (Or.inl (en_wd h 975 (by decide +kernel) rfl args)), List.forall_mem_cons.mpr ⟨mk_X7_late (own := RX7) h (Nat.le_of_ble_eq_true rfl) (Nat.le_of_ble_eq_true rfl) (Or.inl (en_wd h 979 (by decide +kernel) rfl args)), List.forall_mem_cons.mpr ⟨mk_X7_columns (own := RX7) h (Nat.le_of_ble_eq_true rfl) (Nat.le_of_ble_eq_true rfl) (Or.inl (en_wd h 983 (by decide +kernel) rfl args)), List.forall_mem_cons.mpr ⟨mk_X7_steps (own := RX7) h (Nat.le_of_ble_eq_true rfl) (Nat.le_of_ble_eq_true rfl) (Or.inl (en_wd h 987 (by decide +kernel) rfl args)), fun _ h => absurd h List.not_mem_nil⟩⟩⟩⟩⟩, fun _ h => absurd h List.not_mem_nil, Or.inl rfl, en_arr h args⟩⟩
set_option maxHeartbeats 4000000 in
set_option maxRecDepth 100000 in
theorem bd_X7_look : en_B (σ := Nat × Nat × Int32 × Sx) t_X7_look (fun x => [.ref 0, .int (nI x.2.1), .int x.2.2.1]) (fun x => wM x.2.2.2) (fun x => x.1 ≤ 100 ∧ x.2.2.2.1 0 = nI x.1 ∧ x.2.1 ≤ 5 ∧ byok (x.2.2.2.2.2.1 9)) (fun x v w => v = none ∧ w = wM (xf x.2.2.2 (tks x.2.2.1 (0, x.2.2.2.1 7, x.2.2.2.1 8) (LM x.2.2.2 x.1 x.2.1)))) := by
  rintro ⟨n, kd, wt, S⟩ ⟨hn, h1, hk5, hby⟩ G hG OK ⟨run, sub⟩
  dsimp only at hn h1 hk5 hby hG ⊢
  have done : ∀ L : List (Int32 × Int32), L = LM S n kd → G none (wM (xf (xi S 6 0) (tks wt (0, S.1 7, S.1 8) L))) := by
    rintro _ rfl
    exact hG _ _ ⟨rfl, xfM_xi S 0 _⟩
  refine run [] 60 _ _ _ _ _ _ ?_
  conv => whnf
  refine pk_le 2 kd (fun h => ?_) (fun h => ?_)
  · have ne : ∀ q, q ≤ 5 → q ≠ kd → ¬ nI kd = nI q := fun q hq hne z => hne ((nI_eq (by omega) (by omega)).mp z).symm
    conv => whnf
    refine ⟨fun k2 => ?_, fun k2 => ?_⟩
    · have k2 : ¬ nI kd = 2 := k2
      conv => whnf
      refine ⟨fun k3 => ?_, fun k3 => ?_⟩
      · have k3 : ¬ nI kd = 3 := k3
        conv => whnf
        refine ⟨fun k4 => ?_, fun k4 => ?_⟩
        · have k4 : ¬ nI kd = 4 := k4
          have : kd = 5 := by
            have d2 : kd ≠ 2 := fun e => k2 (by rw [e]; rfl)
            have d3 : kd ≠ 3 := fun e => k3 (by rw [e]; rfl)
            have d4 : kd ≠ 4 := fun e => k4 (by rw [e]; rfl)
            omega
          subst this
          conv => whnf
          refine ⟨(n, wt, xi S 6 0), rfl, rfl, ⟨hn, h1, hby⟩, ?_⟩
          intro v u hvu
          have hd := done (Lfit (S.2.2.1 9) (S.2.2.1 8) (S.2.2.1 6) n) rfl
          obtain ⟨rfl, rfl⟩ : v = none ∧ u = wM (xf (xi S 6 0) (tks wt (0, S.1 7, S.1 8) (Lfit (S.2.2.1 9) (S.2.2.1 8) (S.2.2.1 6) n))) := hvu
          generalize tks wt (0, S.1 7, S.1 8) (Lfit (S.2.2.1 9) (S.2.2.1 8) (S.2.2.1 6) n) = Y at hd ⊢
          conv => whnf
          exact hd
        · have : kd = 4 := (nI_eq (b := 4) (by omega) (by decide)).mp k4
          subst this
          conv => whnf
          refine ⟨(n, wt, xi S 6 0), rfl, rfl, ⟨hn, h1⟩, ?_⟩
          intro v u hvu
          have hd := done (LtellM (S.2.2.2 4) (S.2.2.1 6) (S.2.2.1 2) n) rfl
          obtain ⟨rfl, rfl⟩ : v = none ∧ u = wM (xf (xi S 6 0) (tks wt (0, S.1 7, S.1 8) (LtellM (S.2.2.2 4) (S.2.2.1 6) (S.2.2.1 2) n))) := hvu
          generalize tks wt (0, S.1 7, S.1 8) (LtellM (S.2.2.2 4) (S.2.2.1 6) (S.2.2.1 2) n) = Y at hd ⊢
          conv => whnf
          exact hd
      · have : kd = 3 := (nI_eq (b := 3) (by omega) (by decide)).mp k3
        subst this
        conv => whnf
        refine ⟨(n, wt, xi S 6 0), rfl, rfl, ⟨hn, h1⟩, ?_⟩
        intro v u hvu
        have hd := done (Llate (S.2.2.1 6) (S.2.2.1 3) (elt (S.2.2.1 6) (S.2.2.1 3) n) n) rfl
        obtain ⟨rfl, rfl⟩ : v = none ∧ u = wM (xf (xi S 6 0) (tks wt (0, S.1 7, S.1 8) (Llate (S.2.2.1 6) (S.2.2.1 3) (elt (S.2.2.1 6) (S.2.2.1 3) n) n))) := hvu
        generalize tks wt (0, S.1 7, S.1 8) (Llate (S.2.2.1 6) (S.2.2.1 3) (elt (S.2.2.1 6) (S.2.2.1 3) n) n) = Y at hd ⊢
        conv => whnf
        exact hd
    · have : kd = 2 := (nI_eq (b := 2) (by omega) (by decide)).mp k2
      subst this
      conv => whnf
      refine ⟨(n, wt, xi S 6 0), rfl, rfl, ⟨hn, h1⟩, ?_⟩
      intro v u hvu
      have hd := done (Lgrp (S.2.2.1 1) (S.2.2.1 6) n) rfl
      obtain ⟨rfl, rfl⟩ : v = none ∧ u = wM (xf (xi S 6 0) (tks wt (0, S.1 7, S.1 8) (Lgrp (S.2.2.1 1) (S.2.2.1 6) n))) := hvu
      generalize tks wt (0, S.1 7, S.1 8) (Lgrp (S.2.2.1 1) (S.2.2.1 6) n) = Y at hd ⊢
      conv => whnf
      exact hd
  · conv => whnf
    refine ⟨fun k0 => ?_, fun k0 => ?_⟩
    · have : kd = 1 := by
        have k0 : ¬ nI kd = 0 := k0
        have d0 : kd ≠ 0 := fun e => k0 (by rw [e]; rfl)
        omega
      subst this
      conv => whnf
      refine ⟨(n, 0, wt, xi S 6 0), rfl, rfl, ⟨hn, h1⟩, ?_⟩
      intro v u hvu
      have hd := done (LpairM (S.2.2.2 4) (S.2.2.2 5) (S.2.2.1 6) 0 (S.1 3) n) rfl
      obtain ⟨rfl, rfl⟩ : v = none ∧ u = wM (xf (xi S 6 0) (tks wt (0, S.1 7, S.1 8) (LpairM (S.2.2.2 4) (S.2.2.2 5) (S.2.2.1 6) 0 (S.1 3) n))) := hvu
      generalize tks wt (0, S.1 7, S.1 8) (LpairM (S.2.2.2 4) (S.2.2.2 5) (S.2.2.1 6) 0 (S.1 3) n) = Y at hd ⊢
      conv => whnf
      exact hd
    · have : kd = 0 := (nI_eq (b := 0) (by omega) (by decide)).mp k0
      subst this
      conv => whnf
      refine ⟨(n, 1, wt, xi S 6 0), rfl, rfl, ⟨hn, h1⟩, ?_⟩
      intro v u hvu
      have hd := done (LpairM (S.2.2.2 4) (S.2.2.2 5) (S.2.2.1 6) 1 (S.1 3) n) rfl
      obtain ⟨rfl, rfl⟩ : v = none ∧ u = wM (xf (xi S 6 0) (tks wt (0, S.1 7, S.1 8) (LpairM (S.2.2.2 4) (S.2.2.2 5) (S.2.2.1 6) 1 (S.1 3) n))) := hvu
      generalize tks wt (0, S.1 7, S.1 8) (LpairM (S.2.2.2 4) (S.2.2.2 5) (S.2.2.1 6) 1 (S.1 3) n) = Y at hd ⊢
      conv => whnf
      exact hd
theorem ct_X7_look (D : va_G) (dT : Nat → Nat) (l : Launch) : en_CT en_WD D vwCl dT l yX7_look cX7_look 3 (none) rm_X7_look f_X7_look := en_met en_WD1 en_WD2 (by decide) rfl rfl (tB_X7_look D dT l) (en_f_ln (fun _ => Nat.le_of_ble_eq_true rfl)) (en_f_bd bd_X7_look)
set_option maxRecDepth 100000 in
theorem mk_X7_look {D : va_G} {dT : Nat → Nat} {l : Launch} {R : Room} {s : State} {args : Array Value} {own : String} {idx : Nat} (h : en_WD s) (h1 : rm_X7_look.frames + 1 ≤ R.frames) (h2 : 8 + (3 + 11) + rm_X7_look.locals ≤ R.locals) (hl : (Jvm.Cond.methodLink own idx yX7_look).before args s = true ∨ ∃ host, (Jvm.Cond.methodLinkNest own idx yX7_look host).before args s = true) : en_mok en_WD D vwCl dT l R s args own (idx, 3, 9, 0, 0, f_X7_look) :=
  ⟨yX7_look, cX7_look, 3, none, rm_X7_look, 2, ct_X7_look D dT l, rfl, rfl, h1, h2, en_wd h 954 rfl rfl args, en_wd h 66 (by decide +kernel) rfl args, by decide, by decide, hl, ⟨RX7, TX7, 24, rfl, en_wd h 953 (by decide +kernel) rfl args, en_wd h 47 (by decide +kernel) rfl args, rfl⟩⟩
/-- an answer after a look -/
def ansL (v : Option Value) (w : List va_E) (x : Int32) (S : Sx) : Prop := v = some (.int x) ∧ ∃ Y, w = wM (xf (xi S 4 0) Y)
def f_X7_leaks := en_f (σ := Int32 × Nat × Sx) (fun x => [.ref 0, .int x.1]) (fun x => wM x.2.2) (fun x => x.2.1 ≤ 100 ∧ x.2.2.1 0 = nI x.2.1 ∧ byok (x.2.2.2.2.1 9)) (fun x v w => ansL v w (if 0 ≤ x.1 ∧ x.1 ≤ 5 then (tks (-1) (0, x.2.2.1 7, x.2.2.1 8) (LM x.2.2 x.2.1 (tn x.1))).1 else -2) x.2.2)
def rm_X7_leaks : Room := { frames := 4, cells := 0, slots := 0, locals := 93 }
def t_X7_leaks : en_T := ((2, 0, 0), tb_X7_leaks, fl_X7, cn_X7, [(70, 3, 0, 0, 0, f_X7_in), (177, 3, 9, 0, 0, f_X7_look)], [], 0, some .int)
set_option maxRecDepth 100000 in
theorem tB_X7_leaks (D : va_G) (dT : Nat → Nat) (l : Launch) : en_TB en_WD D vwCl dT l rm_X7_leaks t_X7_leaks RX7 "leaks" cX7_leaks := ⟨tk_X7_leaks, fun s args meth h hn => ⟨fo_X7 h args meth, co_X7 h args, List.forall_mem_cons.mpr ⟨mk_X7_in (own := RX7) h (Nat.le_of_ble_eq_true rfl) (Nat.le_of_ble_eq_true rfl) (Or.inl (en_wd h 828 (by decide +kernel) rfl args)), List.forall_mem_cons.mpr ⟨mk_X7_look (own := RX7) h (Nat.le_of_ble_eq_true rfl) (Nat.le_of_ble_eq_true rfl) (Or.inl (en_wd h 951 (by decide +kernel) rfl args)), fun _ h => absurd h List.not_mem_nil⟩⟩, fun _ h => absurd h List.not_mem_nil, Or.inl rfl, en_arr h args⟩⟩
set_option maxHeartbeats 4000000 in
set_option maxRecDepth 100000 in
theorem bd_X7_leaks : en_B (σ := Int32 × Nat × Sx) t_X7_leaks (fun x => [.ref 0, .int x.1]) (fun x => wM x.2.2) (fun x => x.2.1 ≤ 100 ∧ x.2.2.1 0 = nI x.2.1 ∧ byok (x.2.2.2.2.1 9)) (fun x v w => ansL v w (if 0 ≤ x.1 ∧ x.1 ≤ 5 then (tks (-1) (0, x.2.2.1 7, x.2.2.1 8) (LM x.2.2 x.2.1 (tn x.1))).1 else -2) x.2.2) := by
  rintro ⟨kd, n, S⟩ ⟨hn, h1, hby⟩ G hG OK ⟨run, sub⟩
  dsimp only at hn h1 hby hG ⊢
  refine run [] 60 _ _ _ _ _ _ ?_
  conv => whnf
  refine ⟨(kd, 0, 5, wM (xi S 4 0)), rfl, rfl, trivial, ?_⟩
  rintro _ _ ⟨rfl, rfl⟩
  conv => whnf
  refine bl_br2 (fun c1 => ?_) (fun c1 => ?_)
  rotate_left
  · have c1 : ¬ (0 ≤ kd ∧ kd ≤ 5) := c1
    conv => whnf
    rw [if_neg c1] at hG
    exact hG _ _ ⟨rfl, s3 S, rfl⟩
  have c1 : 0 ≤ kd ∧ kd ≤ 5 := c1
  obtain ⟨j, hj, rfl⟩ := le_of (b := 5) (by decide) c1
  rw [if_pos c1, show tn (nI j) = j from nI_clamp (by omega)] at hG
  conv => whnf
  refine ⟨(n, j, -1, xi S 4 0), rfl, rfl, ⟨hn, h1, hj, hby⟩, ?_⟩
  intro v u hvu
  obtain ⟨rfl, rfl⟩ : v = none ∧ u = wM (xf (xi S 4 0) (tks (-1) (0, S.1 7, S.1 8) (LM S n j))) := hvu
  generalize tks (-1) (0, S.1 7, S.1 8) (LM S n j) = Y at hG ⊢
  conv => whnf
  exact hG _ _ ⟨rfl, Y, rfl⟩
theorem ct_X7_leaks (D : va_G) (dT : Nat → Nat) (l : Launch) : en_CT en_WD D vwCl dT l yX7_leaks cX7_leaks 2 (some .int) rm_X7_leaks f_X7_leaks := en_met en_WD1 en_WD2 (by decide) rfl rfl (tB_X7_leaks D dT l) (en_f_ln (fun _ => Nat.le_of_ble_eq_true rfl)) (en_f_bd bd_X7_leaks)
set_option maxRecDepth 100000 in
theorem mk_X7_leaks {D : va_G} {dT : Nat → Nat} {l : Launch} {R : Room} {s : State} {args : Array Value} {own : String} {idx : Nat} (h : en_WD s) (h1 : rm_X7_leaks.frames + 1 ≤ R.frames) (h2 : 8 + (2 + 11) + rm_X7_leaks.locals ≤ R.locals) (hl : (Jvm.Cond.methodLink own idx yX7_leaks).before args s = true ∨ ∃ host, (Jvm.Cond.methodLinkNest own idx yX7_leaks host).before args s = true) : en_mok en_WD D vwCl dT l R s args own (idx, 2, 9, 0, 0, f_X7_leaks) :=
  ⟨yX7_leaks, cX7_leaks, 2, some .int, rm_X7_leaks, 1, ct_X7_leaks D dT l, rfl, rfl, h1, h2, en_wd h 950 rfl rfl args, en_wd h 66 (by decide +kernel) rfl args, by decide, by decide, hl, ⟨RX7, TX7, 24, rfl, en_wd h 948 (by decide +kernel) rfl args, en_wd h 949 (by decide +kernel) rfl args, rfl⟩⟩
theorem wh_eq {x : Int32} : (0 ≤ x ∧ x ≤ 1) ↔ (x = 0 ∨ x = 1) := by
  constructor
  · intro h
    obtain ⟨j, hj, rfl⟩ := le_of (b := 1) (by decide) h
    have : j = 0 ∨ j = 1 := by omega
    rcases this with rfl | rfl
    · exact Or.inl rfl
    · exact Or.inr rfl
  · rintro (rfl | rfl) <;> decide
def f_X7_leak := en_f (σ := Int32 × Int32 × Int32 × Nat × Sx) (fun x => [.ref 0, .int x.1, .int x.2.1, .int x.2.2.1]) (fun x => wM x.2.2.2.2) (fun x => x.2.2.2.1 ≤ 100 ∧ x.2.2.2.2.1 0 = nI x.2.2.2.1 ∧ byok (x.2.2.2.2.2.2.1 9)) (fun x v w => ansL v w (if lkq x.1 x.2.1 x.2.2.1 then (if x.2.1 < (tks x.2.1 (0, x.2.2.2.2.1 7, x.2.2.2.2.1 8) (LM x.2.2.2.2 x.2.2.2.1 (tn x.1))).1 then (if x.2.2.1 = 0 then (tks x.2.1 (0, x.2.2.2.2.1 7, x.2.2.2.2.1 8) (LM x.2.2.2.2 x.2.2.2.1 (tn x.1))).2.1 else (tks x.2.1 (0, x.2.2.2.2.1 7, x.2.2.2.2.1 8) (LM x.2.2.2.2 x.2.2.2.1 (tn x.1))).2.2) else -2) else -2) x.2.2.2.2)
def rm_X7_leak : Room := { frames := 4, cells := 0, slots := 0, locals := 93 }
def t_X7_leak : en_T := ((4, 0, 0), tb_X7_leak, fl_X7, cn_X7, [(70, 3, 0, 0, 0, f_X7_in), (177, 3, 9, 0, 0, f_X7_look)], [], 0, some .int)
set_option maxRecDepth 100000 in
theorem tB_X7_leak (D : va_G) (dT : Nat → Nat) (l : Launch) : en_TB en_WD D vwCl dT l rm_X7_leak t_X7_leak RX7 "leak" cX7_leak := ⟨tk_X7_leak, fun s args meth h hn => ⟨fo_X7 h args meth, co_X7 h args, List.forall_mem_cons.mpr ⟨mk_X7_in (own := RX7) h (Nat.le_of_ble_eq_true rfl) (Nat.le_of_ble_eq_true rfl) (Or.inl (en_wd h 828 (by decide +kernel) rfl args)), List.forall_mem_cons.mpr ⟨mk_X7_look (own := RX7) h (Nat.le_of_ble_eq_true rfl) (Nat.le_of_ble_eq_true rfl) (Or.inl (en_wd h 951 (by decide +kernel) rfl args)), fun _ h => absurd h List.not_mem_nil⟩⟩, fun _ h => absurd h List.not_mem_nil, Or.inl rfl, en_arr h args⟩⟩
set_option maxHeartbeats 4000000 in
set_option maxRecDepth 100000 in
theorem bd_X7_leak : en_B (σ := Int32 × Int32 × Int32 × Nat × Sx) t_X7_leak (fun x => [.ref 0, .int x.1, .int x.2.1, .int x.2.2.1]) (fun x => wM x.2.2.2.2) (fun x => x.2.2.2.1 ≤ 100 ∧ x.2.2.2.2.1 0 = nI x.2.2.2.1 ∧ byok (x.2.2.2.2.2.2.1 9)) (fun x v w => ansL v w (if lkq x.1 x.2.1 x.2.2.1 then (if x.2.1 < (tks x.2.1 (0, x.2.2.2.2.1 7, x.2.2.2.2.1 8) (LM x.2.2.2.2 x.2.2.2.1 (tn x.1))).1 then (if x.2.2.1 = 0 then (tks x.2.1 (0, x.2.2.2.2.1 7, x.2.2.2.2.1 8) (LM x.2.2.2.2 x.2.2.2.1 (tn x.1))).2.1 else (tks x.2.1 (0, x.2.2.2.2.1 7, x.2.2.2.2.1 8) (LM x.2.2.2.2 x.2.2.2.1 (tn x.1))).2.2) else -2) else -2) x.2.2.2.2) := by
  rintro ⟨kd, i, wh, n, S⟩ ⟨hn, h1, hby⟩ G hG OK ⟨run, sub⟩
  dsimp only at hn h1 hby hG ⊢
  refine run [] 60 _ _ _ _ _ _ ?_
  conv => whnf
  refine ⟨(kd, 0, 5, wM (xi S 4 0)), rfl, rfl, trivial, ?_⟩
  rintro _ _ ⟨rfl, rfl⟩
  conv => whnf
  refine bl_br (fun c1 => ?_) (fun c1 => ?_)
  · have c1 : ¬ (0 ≤ kd ∧ kd ≤ 5) := c1
    rw [if_neg (fun z => c1 z.1)] at hG
    conv => whnf
    exact hG _ _ ⟨rfl, s3 S, rfl⟩
  have c1 : 0 ≤ kd ∧ kd ≤ 5 := c1
  conv => whnf
  refine ⟨fun c2 => ?_, fun c2 => ?_⟩
  · have c2 : i < 0 := c2
    rw [if_neg (fun z => absurd c2 (Int32.not_lt.mpr z.2.1))] at hG
    conv => whnf
    exact hG _ _ ⟨rfl, s3 S, rfl⟩
  have c2 : ¬ i < 0 := c2
  conv => whnf
  refine ⟨(wh, 0, 1, wM (xi S 4 0)), rfl, rfl, trivial, ?_⟩
  rintro _ _ ⟨rfl, rfl⟩
  conv => whnf
  refine bl_br2 (fun c3 => ?_) (fun c3 => ?_)
  rotate_left
  · have c3 : ¬ (0 ≤ wh ∧ wh ≤ 1) := c3
    rw [if_neg (fun z => c3 (wh_eq.mpr z.2.2))] at hG
    conv => whnf
    exact hG _ _ ⟨rfl, s3 S, rfl⟩
  have c3 : 0 ≤ wh ∧ wh ≤ 1 := c3
  have hq : lkq kd i wh := ⟨c1, Int32.not_lt.mp c2, wh_eq.mp c3⟩
  obtain ⟨j, hj, rfl⟩ := le_of (b := 5) (by decide) c1
  rw [if_pos hq, show tn (nI j) = j from nI_clamp (by omega)] at hG
  conv => whnf
  refine ⟨(n, j, i, xi S 4 0), rfl, rfl, ⟨hn, h1, hj, hby⟩, ?_⟩
  intro v u hvu
  obtain ⟨rfl, rfl⟩ : v = none ∧ u = wM (xf (xi S 4 0) (tks i (0, S.1 7, S.1 8) (LM S n j))) := hvu
  generalize tks i (0, S.1 7, S.1 8) (LM S n j) = Y at hG ⊢
  conv => whnf
  refine ⟨fun c => ?_, fun c => ?_⟩
  · have c : i < Y.1 := c
    rw [if_pos c] at hG
    conv => whnf
    refine ⟨fun c4 => ?_, fun c4 => ?_⟩
    · have c4 : ¬ wh = 0 := c4
      rw [if_neg c4] at hG
      conv => whnf
      exact hG _ _ ⟨rfl, Y, rfl⟩
    · have c4 : wh = 0 := c4
      rw [if_pos c4] at hG
      conv => whnf
      exact hG _ _ ⟨rfl, Y, rfl⟩
  · have c : ¬ i < Y.1 := c
    rw [if_neg c] at hG
    conv => whnf
    exact hG _ _ ⟨rfl, Y, rfl⟩
theorem ct_X7_leak (D : va_G) (dT : Nat → Nat) (l : Launch) : en_CT en_WD D vwCl dT l yX7_leak cX7_leak 4 (some .int) rm_X7_leak f_X7_leak := en_met en_WD1 en_WD2 (by decide) rfl rfl (tB_X7_leak D dT l) (en_f_ln (fun _ => Nat.le_of_ble_eq_true rfl)) (en_f_bd bd_X7_leak)
set_option maxRecDepth 100000 in
theorem mk_X7_leak {D : va_G} {dT : Nat → Nat} {l : Launch} {R : Room} {s : State} {args : Array Value} {own : String} {idx : Nat} (h : en_WD s) (h1 : rm_X7_leak.frames + 1 ≤ R.frames) (h2 : 8 + (4 + 11) + rm_X7_leak.locals ≤ R.locals) (hl : (Jvm.Cond.methodLink own idx yX7_leak).before args s = true ∨ ∃ host, (Jvm.Cond.methodLinkNest own idx yX7_leak host).before args s = true) : en_mok en_WD D vwCl dT l R s args own (idx, 4, 9, 0, 0, f_X7_leak) :=
  ⟨yX7_leak, cX7_leak, 4, some .int, rm_X7_leak, 3, ct_X7_leak D dT l, rfl, rfl, h1, h2, en_wd h 994 rfl rfl args, en_wd h 66 (by decide +kernel) rfl args, by decide, by decide, hl, ⟨RX7, TX7, 24, rfl, en_wd h 992 (by decide +kernel) rfl args, en_wd h 993 (by decide +kernel) rfl args, rfl⟩⟩
