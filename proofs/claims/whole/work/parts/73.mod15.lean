/-! the reference: over, parts, share -/
/-- parts are parts -/
def pok (P : Nat → Int32) (n : Nat) : Prop := ∀ r, r < n → P r = -1 ∨ ∃ c, c < 4 ∧ P r = nI c
def ovv (Gp P : Nat → Int32) (w : Nat → Nat) (W k n : Nat) (g : Int32) : Int32 := match fs (fun r => Gp r = g) n with
  | none => 0
  | some r => if 0 ≤ P r ∧ P r < nI k then (if nI (ct (fun r => Gp r = g) n) - nI (qf w W k n (tn (P r))) ≤ 0 then 0 else nI (ct (fun r => Gp r = g) n) - nI (qf w W k n (tn (P r)))) else 0
def f_X7_over := en_f (σ := Int32 × Nat × (Nat → Nat) × Nat × Nat × Sx) (fun x => [.ref 0, .int x.1]) (fun x => wM x.2.2.2.2.2) (fun x => x.2.1 ≤ 100 ∧ x.2.2.2.2.2.1 0 = nI x.2.1 ∧ wgm x.2.2.2.2.2 x.2.2.1 x.2.2.2.1 x.2.2.2.2.1 ∧ pok (x.2.2.2.2.2.2.2.1 6) x.2.1) (fun x v w => ∃ S', kpm (xi x.2.2.2.2.2 4 0) S' ∧ ansM v w (if 0 ≤ x.1 ∧ x.1 < 30 then ovv (x.2.2.2.2.2.2.2.1 1) (x.2.2.2.2.2.2.2.1 6) x.2.2.1 x.2.2.2.1 x.2.2.2.2.1 x.2.1 x.1 else -2) S')
def rm_X7_over : Room := { frames := 1, cells := 0, slots := 0, locals := 24 }
def t_X7_over : en_T := ((5, 0, 0), tb_X7_over, fl_X7, cn_X7, [(70, 3, 0, 0, 0, f_X7_in), (85, 2, 9, 0, 0, f_X7_quotasOf)], [], 0, some .int)
set_option maxRecDepth 100000 in
theorem tB_X7_over (D : va_G) (dT : Nat → Nat) (l : Launch) : en_TB en_WD D vwCl dT l rm_X7_over t_X7_over RX7 "over" cX7_over := ⟨tk_X7_over, fun s args meth h hn => ⟨fo_X7 h args meth, co_X7 h args, List.forall_mem_cons.mpr ⟨mk_X7_in (own := RX7) h (Nat.le_of_ble_eq_true rfl) (Nat.le_of_ble_eq_true rfl) (Or.inl (en_wd h 828 (by decide +kernel) rfl args)), List.forall_mem_cons.mpr ⟨mk_X7_quotasOf (own := RX7) h (Nat.le_of_ble_eq_true rfl) (Nat.le_of_ble_eq_true rfl) (Or.inl (en_wd h 856 (by decide +kernel) rfl args)), fun _ h => absurd h List.not_mem_nil⟩⟩, fun _ h => absurd h List.not_mem_nil, Or.inl rfl, en_arr h args⟩⟩
set_option maxHeartbeats 4000000 in
set_option maxRecDepth 100000 in
theorem bd_X7_over : en_B (σ := Int32 × Nat × (Nat → Nat) × Nat × Nat × Sx) t_X7_over (fun x => [.ref 0, .int x.1]) (fun x => wM x.2.2.2.2.2) (fun x => x.2.1 ≤ 100 ∧ x.2.2.2.2.2.1 0 = nI x.2.1 ∧ wgm x.2.2.2.2.2 x.2.2.1 x.2.2.2.1 x.2.2.2.2.1 ∧ pok (x.2.2.2.2.2.2.2.1 6) x.2.1) (fun x v w => ∃ S', kpm (xi x.2.2.2.2.2 4 0) S' ∧ ansM v w (if 0 ≤ x.1 ∧ x.1 < 30 then ovv (x.2.2.2.2.2.2.2.1 1) (x.2.2.2.2.2.2.2.1 6) x.2.2.1 x.2.2.2.1 x.2.2.2.2.1 x.2.1 x.1 else -2) S') := by
  rintro ⟨g, n, w, W, k, S⟩ ⟨hn, h1, hwg, hpo⟩ G hG OK ⟨run, sub⟩
  dsimp only at hn h1 hwg hpo hG ⊢
  have hk : S.1 1 = nI k := hwg.2.1
  have hk4 : k ≤ 4 := hwg.1.2.1
  refine run [30] 60 _ _ _ _ _ _ ?_
  conv => whnf
  refine ⟨(g, 0, 29, wM (xi S 4 0)), rfl, rfl, trivial, ?_⟩
  rintro _ _ ⟨rfl, rfl⟩
  conv => whnf
  refine bl_br2 (fun c1 => ?_) (fun c1 => ?_)
  rotate_left
  · have c1 : ¬ (0 ≤ g ∧ g ≤ 29) := c1
    rw [if_neg (fun z => c1 ⟨z.1, (le_lt (b := 29) (by decide)).mpr z.2⟩)] at hG
    conv => whnf
    exact hG _ _ ⟨_, kpm_rf _, rfl, rfl⟩
  have c1 : 0 ≤ g ∧ g ≤ 29 := c1
  rw [if_pos ⟨c1.1, (le_lt (b := 29) (by decide)).mp c1.2⟩] at hG
  unfold ovv at hG
  have fin : OK 0 0 58 [(0, .ref 0), (1, .int g), (2, .int (oI (fs (fun r => S.2.2.1 1 r = g) n))), (3, .int (nI (ct (fun r => S.2.2.1 1 r = g) n)))] [] (wM (xi S 4 0)) := by
    have hlt := @fs_lt (fun r => S.2.2.1 1 r = g) _ n
    generalize ct (fun r => S.2.2.1 1 r = g) n = cn at hG ⊢
    generalize fs (fun r => S.2.2.1 1 r = g) n = F at hG hlt ⊢
    cases F with
    | none =>
      have hG : ∀ v w, (∃ S', kpm (xi S 4 0) S' ∧ ansM v w 0 S') → G v w := hG
      refine run [] 60 _ _ _ _ _ _ ?_
      conv => whnf
      refine ⟨fun _ => ?_, fun z => absurd rfl z⟩
      conv => whnf
      exact hG _ _ ⟨_, kpm_rf _, rfl, rfl⟩
    | some r =>
      have hr := (hlt rfl).1
      obtain ⟨w0, hw0⟩ : ∃ w0, w0 = w := ⟨w, rfl⟩
      rw [← hw0] at hG
      have hG : ∀ v w, (∃ S', kpm (xi S 4 0) S' ∧ ansM v w (if 0 ≤ S.2.2.1 6 r ∧ S.2.2.1 6 r < nI k then (if nI cn - nI (qf w0 W k n (tn (S.2.2.1 6 r))) ≤ 0 then 0 else nI cn - nI (qf w0 W k n (tn (S.2.2.1 6 r)))) else 0) S') → G v w := hG
      rw [hw0] at hG
      show OK 0 0 58 [(0, .ref 0), (1, .int g), (2, .int (nI r)), (3, .int (nI cn))] [] (wM (xi S 4 0))
      refine run [] 80 _ _ _ _ _ _ ?_
      conv => whnf
      refine ⟨fun z => absurd z (nI_ne (by omega)), fun _ => ?_⟩
      conv => whnf
      refine ⟨vp_in_nI (by omega) (by decide), ?_⟩
      rw [nI_clamp (by omega)]
      conv => whnf
      refine ⟨fun d1 => ?_, fun d1 => ?_⟩
      · have d1 : S.2.2.1 6 r = -1 := d1
        rw [if_neg (fun z => by rw [d1] at z; exact absurd z.1 (by decide))] at hG
        conv => whnf
        exact hG _ _ ⟨_, kpm_rf _, rfl, rfl⟩
      · have d1 : ¬ S.2.2.1 6 r = -1 := d1
        obtain ⟨c, hc, hPc⟩ := (hpo r hr).resolve_left d1
        conv => whnf
        refine ⟨vp_in_nI (by omega) (by decide), ?_⟩
        rw [nI_clamp (by omega)]
        conv => whnf
        rw [hPc, show tn (nI c) = c from nI_clamp (by omega)] at hG
        refine pk_lt c k (fun h => ?_) (fun h => ?_) hPc hk
        · rw [if_pos ⟨nI_pos' (by omega), nI_lt h (by omega)⟩] at hG
          conv => whnf
          refine ⟨(w, W, k, n, xi S 4 0), (by show [Value.ref 0, Value.int (S.1 0)] = [Value.ref 0, Value.int (nI n)]; rw [h1]), rfl, ⟨hwg, by dsimp only; omega⟩, ?_⟩
          rintro v u ⟨hv0, q, rr, hu, hq⟩
          obtain rfl : v = none := hv0
          obtain rfl : u = wM (xa (xa (xi S 4 0) 10 q) 11 rr) := hu
          have hqc : q c = nI (qf w W k n c) := hq c h
          rw [← hqc] at hG
          conv => whnf
          refine ⟨vp_in_nI (by omega) (by decide), ?_⟩
          rw [nI_clamp (by omega)]
          conv => whnf
          refine ⟨by show vp_in (S.2.2.1 6 r) 4; rw [hPc]; exact vp_in_nI (by omega) (by decide), ?_⟩
          conv => whnf
          have hqt : q (S.2.2.1 6 r).toNatClampNeg = q c := by rw [hPc, nI_clamp (by omega)]
          rw [← hqt] at hG
          refine ⟨fun e => ?_, fun e => ?_⟩
          · have e : nI cn - q (S.2.2.1 6 r).toNatClampNeg ≤ 0 := e
            rw [if_pos e] at hG
            conv => whnf
            exact hG _ _ ⟨_, kpm_tr (kpm_a (by omega)) (kpm_a (by omega)), rfl, rfl⟩
          · have e : ¬ nI cn - q (S.2.2.1 6 r).toNatClampNeg ≤ 0 := e
            rw [if_neg e] at hG
            conv => whnf
            exact hG _ _ ⟨_, kpm_tr (kpm_a (by omega)) (kpm_a (by omega)), rfl, rfl⟩
        · rw [if_neg (fun z => absurd z.2 (Int32.not_lt.mpr (nI_le (by omega) (by omega))))] at hG
          conv => whnf
          exact hG _ _ ⟨_, kpm_rf _, rfl, rfl⟩
  have loop : ∀ i, i ≤ n → ∀ (f : Int32) (c : Nat), (fs (fun r => S.2.2.1 1 r = g) i = none → f = oI (fs (fun r => S.2.2.1 1 r = g) n)) → c + ct (fun r => S.2.2.1 1 r = g) i = ct (fun r => S.2.2.1 1 r = g) n → OK 0 0 30 [(0, .ref 0), (1, .int g), (2, .int f), (3, .int (nI c)), (4, .int (nI i - 1))] [] (wM (xi S 4 0)) := by
    intro i
    induction i with
    | zero =>
      intro _ f c hf hc
      rw [hf rfl, show c = ct (fun r => S.2.2.1 1 r = g) n from hc]
      generalize oI (fs (fun r => S.2.2.1 1 r = g) n) = F at fin ⊢
      generalize ct (fun r => S.2.2.1 1 r = g) n = C at fin ⊢
      refine run [30, 58] 60 _ _ _ _ _ _ ?_
      conv => whnf
      refine ⟨fun _ => ?_, fun z => absurd (show nI 0 - 1 < 0 by decide) z⟩
      conv => whnf
      exact sub [0, 1, 2, 3] _ _ _ _ _ _ _ rfl fin
    | succ i ih =>
      intro hi f c hf hc
      have ih := ih (by omega)
      rw [nI_pred i]
      refine run [30, 58] 60 _ _ _ _ _ _ ?_
      conv => whnf
      refine pk_lt i 0 (fun h => absurd h (by omega)) (fun h => ?_)
      conv => whnf
      refine ⟨vp_in_nI (by omega) (by decide), ?_⟩
      rw [nI_clamp (by omega)]
      conv => whnf
      refine ⟨fun hp => ?_, fun hp => ?_⟩
      · have hp : ¬ S.2.2.1 1 i = g := hp
        rw [ct_f (p := fun r => S.2.2.1 1 r = g) hp] at hc
        have h2 := ih f c (fun z => hf (fs_f z hp)) hc
        rw [show nI i - 1 = nI i + Int32.ofInt (-1) from Int32.sub_eq_add_neg _ _] at h2
        conv => whnf
        exact h2
      · have hp : S.2.2.1 1 i = g := hp
        rw [ct_t (p := fun r => S.2.2.1 1 r = g) hp] at hc
        have h2 := ih (nI i) (c + 1) (fun z => by rw [fs_s (fs_t (p := fun r => S.2.2.1 1 r = g) z hp) n (by omega)]; rfl) (by omega)
        rw [nI_succ c, show nI i - 1 = nI i + Int32.ofInt (-1) from Int32.sub_eq_add_neg _ _] at h2
        conv => whnf
        exact h2
  conv => whnf
  have h0 := loop n (Nat.le_refl n) (-1) 0 (fun z => by rw [z]; rfl) (Nat.zero_add _)
  rw [← h1] at h0
  exact h0
theorem ct_X7_over (D : va_G) (dT : Nat → Nat) (l : Launch) : en_CT en_WD D vwCl dT l yX7_over cX7_over 5 (some .int) rm_X7_over f_X7_over := en_met en_WD1 en_WD2 (by decide) rfl rfl (tB_X7_over D dT l) (en_f_ln (fun _ => Nat.le_of_ble_eq_true rfl)) (en_f_bd bd_X7_over)
set_option maxRecDepth 100000 in
theorem mk_X7_over {D : va_G} {dT : Nat → Nat} {l : Launch} {R : Room} {s : State} {args : Array Value} {own : String} {idx : Nat} (h : en_WD s) (h1 : rm_X7_over.frames + 1 ≤ R.frames) (h2 : 8 + (5 + 11) + rm_X7_over.locals ≤ R.locals) (hl : (Jvm.Cond.methodLink own idx yX7_over).before args s = true ∨ ∃ host, (Jvm.Cond.methodLinkNest own idx yX7_over host).before args s = true) : en_mok en_WD D vwCl dT l R s args own (idx, 2, 9, 0, 0, f_X7_over) :=
  ⟨yX7_over, cX7_over, 5, some .int, rm_X7_over, 1, ct_X7_over D dT l, rfl, rfl, h1, h2, en_wd h 934 rfl rfl args, en_wd h 66 (by decide +kernel) rfl args, by decide, by decide, hl, ⟨RX7, TX7, 24, rfl, en_wd h 932 (by decide +kernel) rfl args, en_wd h 933 (by decide +kernel) rfl args, rfl⟩⟩
/-- the weights that are given -/
def ww (a b c d : Int32) (i : Nat) : Int32 := if i = 0 then a else if i = 1 then b else if i = 2 then c else d
def gdp (f : Nat → Int32) : Nat → Bool
  | 0 => true
  | i + 1 => gdp f i && decide (0 ≤ f i ∧ f i ≤ 1000)
def smp (f : Nat → Int32) : Nat → Int32
  | 0 => 0
  | i + 1 => smp f i + (if gdp f (i + 1) = true then f i else 0)
abbrev parm (k : Int32) (f : Nat → Int32) : Prop := (1 ≤ k ∧ k ≤ 4) ∧ gdp f (tn k) = true ∧ smp f (tn k) ≠ 0
def bcm (S : Sx) (k : Int32) (f : Nat → Int32) : Sx := xa (xi (xi (xi S 4 0) 1 k) 2 (smp f (tn k))) 7 (mx 4 (fun i => if i < tn k then f i else 0) (S.2.2.1 7))
def f_X7_parts := en_f (σ := Int32 × Int32 × Int32 × Int32 × Int32 × Sx) (fun x => [.ref 0, .int x.1, .int x.2.1, .int x.2.2.1, .int x.2.2.2.1, .int x.2.2.2.2.1]) (fun x => wM x.2.2.2.2.2) (fun _ => True) (fun x v w => (¬ parm x.1 (ww x.2.1 x.2.2.1 x.2.2.2.1 x.2.2.2.2.1) ∧ ansM v w (-2) (xi x.2.2.2.2.2 4 0)) ∨ (parm x.1 (ww x.2.1 x.2.2.1 x.2.2.2.1 x.2.2.2.2.1) ∧ ansM v w (smp (ww x.2.1 x.2.2.1 x.2.2.2.1 x.2.2.2.2.1) (tn x.1)) (bcm x.2.2.2.2.2 x.1 (ww x.2.1 x.2.2.1 x.2.2.2.1 x.2.2.2.2.1))))
def rm_X7_parts : Room := { frames := 1, cells := 0, slots := 0, locals := 22 }
def t_X7_parts : en_T := ((10, 0, 0), tb_X7_parts, fl_X7, cn_X7, [(70, 3, 0, 0, 0, f_X7_in)], [], 0, some .int)
set_option maxRecDepth 100000 in
theorem tB_X7_parts (D : va_G) (dT : Nat → Nat) (l : Launch) : en_TB en_WD D vwCl dT l rm_X7_parts t_X7_parts RX7 "parts" cX7_parts := ⟨tk_X7_parts, fun s args meth h hn => ⟨fo_X7 h args meth, co_X7 h args, List.forall_mem_cons.mpr ⟨mk_X7_in (own := RX7) h (Nat.le_of_ble_eq_true rfl) (Nat.le_of_ble_eq_true rfl) (Or.inl (en_wd h 828 (by decide +kernel) rfl args)), fun _ h => absurd h List.not_mem_nil⟩, fun _ h => absurd h List.not_mem_nil, Or.inl rfl, en_arr h args⟩⟩
set_option maxHeartbeats 4000000 in
set_option maxRecDepth 100000 in
theorem bd_X7_parts : en_B (σ := Int32 × Int32 × Int32 × Int32 × Int32 × Sx) t_X7_parts (fun x => [.ref 0, .int x.1, .int x.2.1, .int x.2.2.1, .int x.2.2.2.1, .int x.2.2.2.2.1]) (fun x => wM x.2.2.2.2.2) (fun _ => True) (fun x v w => (¬ parm x.1 (ww x.2.1 x.2.2.1 x.2.2.2.1 x.2.2.2.2.1) ∧ ansM v w (-2) (xi x.2.2.2.2.2 4 0)) ∨ (parm x.1 (ww x.2.1 x.2.2.1 x.2.2.2.1 x.2.2.2.2.1) ∧ ansM v w (smp (ww x.2.1 x.2.2.1 x.2.2.2.1 x.2.2.2.2.1) (tn x.1)) (bcm x.2.2.2.2.2 x.1 (ww x.2.1 x.2.2.1 x.2.2.2.1 x.2.2.2.2.1)))) := by
  rintro ⟨kk, a, b, c, d, S⟩ - G hG OK ⟨run, sub⟩
  dsimp only at hG ⊢
  refine run [26] 60 _ _ _ _ _ _ ?_
  conv => whnf
  refine ⟨(kk, 1, 4, wM (xi S 4 0)), rfl, rfl, trivial, ?_⟩
  rintro _ _ ⟨rfl, rfl⟩
  conv => whnf
  refine bl_br2 (fun c1 => ?_) (fun c1 => ?_)
  rotate_left
  · have c1 : ¬ (1 ≤ kk ∧ kk ≤ 4) := c1
    conv => whnf
    exact hG _ _ (Or.inl ⟨fun z => c1 z.1, rfl, rfl⟩)
  have c1 : 1 ≤ kk ∧ kk ≤ 4 := c1
  obtain ⟨k, hk4, rfl⟩ := le_of (b := 4) (by decide) ⟨Int32.le_trans (by decide) c1.1, c1.2⟩
  unfold parm bcm at hG
  rw [show tn (nI k) = k from nI_clamp (by omega)] at hG
  have w0 : ww a b c d 0 = a := rfl
  have w1 : ww a b c d 1 = b := rfl
  have w2 : ww a b c d 2 = c := rfl
  have w3 : ww a b c d 3 = d := rfl
  have wi : ∀ i, i < 4 → (i = 0 ∧ ww a b c d i = a) ∨ (i = 1 ∧ ww a b c d i = b) ∨ (i = 2 ∧ ww a b c d i = c) ∨ (i = 3 ∧ ww a b c d i = d) := by
    intro i hi
    have : i = 0 ∨ i = 1 ∨ i = 2 ∨ i = 3 := by omega
    rcases this with rfl | rfl | rfl | rfl
    · exact Or.inl ⟨rfl, rfl⟩
    · exact Or.inr (Or.inl ⟨rfl, rfl⟩)
    · exact Or.inr (Or.inr (Or.inl ⟨rfl, rfl⟩))
    · exact Or.inr (Or.inr (Or.inr ⟨rfl, rfl⟩))
  generalize ww a b c d = f at hG wi
  have loop2 : gdp f k = true → smp f k ≠ 0 → ∀ i, i ≤ 4 → OK 0 0 139 [(0, .ref 0), (1, .int (nI k)), (2, .int a), (3, .int b), (4, .int c), (5, .int d), (6, .int (smp f k)), (7, .int 1), (8, .int (nI i))] [] (wM (xa (xi (xi (xi S 4 0) 1 (nI k)) 2 (smp f k)) 7 (mx i (fun i => if i < k then f i else 0) (S.2.2.1 7)))) := by
    intro g1 g2
    have hGG := fun v w (h : ansM v w (smp f k) (xa (xi (xi (xi S 4 0) 1 (nI k)) 2 (smp f k)) 7 (mx 4 (fun i => if i < k then f i else 0) (S.2.2.1 7)))) => hG v w (Or.inr ⟨⟨c1, g1, g2⟩, h⟩)
    generalize smp f k = sk at hGG ⊢
    refine lp_up (fun i => OK 0 0 139 [(0, .ref 0), (1, .int (nI k)), (2, .int a), (3, .int b), (4, .int c), (5, .int d), (6, .int sk), (7, .int 1), (8, .int (nI i))] [] (wM (xa (xi (xi (xi S 4 0) 1 (nI k)) 2 sk) 7 (mx i (fun i => if i < k then f i else 0) (S.2.2.1 7))))) 4 ?_ ?_
    · refine run [139] 60 _ _ _ _ _ _ ?_
      conv => whnf
      refine pk_le 4 4 (fun h => ?_) (fun h => absurd h (by omega))
      conv => whnf
      exact hGG _ _ ⟨rfl, rfl⟩
    · intro i hi ih
      rw [nI_succ, ← mx_s] at ih
      have st : ∀ x : Int32, (x = if i < k then f i else 0) → OK 0 0 193 [(0, .ref 0), (1, .int (nI k)), (2, .int a), (3, .int b), (4, .int c), (5, .int d), (6, .int sk), (7, .int 1), (8, .int (nI i))] [.int x, .int (nI i), .ref 7] (wM (xa (xi (xi (xi S 4 0) 1 (nI k)) 2 sk) 7 (mx i (fun i => if i < k then f i else 0) (S.2.2.1 7)))) := by
        intro x hx
        rw [← hx] at ih
        refine run [139] 60 _ _ _ _ _ _ ?_
        conv => whnf
        refine ⟨vp_in_nI (by omega) (by decide), ?_⟩
        rw [nI_clamp (by omega)]
        conv => whnf
        exact ih
      refine run [139, 193] 60 _ _ _ _ _ _ ?_
      conv => whnf
      refine pk_le 4 i (fun h => absurd h (by omega)) (fun h => ?_)
      conv => whnf
      refine pk_le k i (fun h => ?_) (fun h => ?_)
      · have h2 := st 0 (by rw [if_neg (by omega)])
        conv => whnf
        exact h2
      · rw [if_pos h] at st
        rcases wi i hi with ⟨rfl, e⟩ | ⟨rfl, e⟩ | ⟨rfl, e⟩ | ⟨rfl, e⟩
        · have h2 := st a e.symm
          conv => whnf
          refine ⟨fun z => absurd rfl z, fun _ => ?_⟩
          conv => whnf
          exact h2
        · have h2 := st b e.symm
          conv => whnf
          refine ⟨fun _ => ?_, fun z => absurd z (by decide)⟩
          conv => whnf
          refine ⟨fun z => absurd rfl z, fun _ => ?_⟩
          conv => whnf
          exact h2
        · have h2 := st c e.symm
          conv => whnf
          refine ⟨fun _ => ?_, fun z => absurd z (by decide)⟩
          conv => whnf
          refine ⟨fun _ => ?_, fun z => absurd z (by decide)⟩
          conv => whnf
          refine ⟨fun z => absurd rfl z, fun _ => ?_⟩
          conv => whnf
          exact h2
        · have h2 := st d e.symm
          conv => whnf
          refine ⟨fun _ => ?_, fun z => absurd z (by decide)⟩
          conv => whnf
          refine ⟨fun _ => ?_, fun z => absurd z (by decide)⟩
          conv => whnf
          refine ⟨fun _ => ?_, fun z => absurd z (by decide)⟩
          conv => whnf
          exact h2
  have loop1 := lp_up (fun i => OK 0 0 26 [(0, .ref 0), (1, .int (nI k)), (2, .int a), (3, .int b), (4, .int c), (5, .int d), (6, .int (smp f i)), (7, .int (bl (gdp f i = true))), (8, .int (nI i))] [] (wM (xi S 4 0))) k
    (by
      have h0 := fun g1 g2 => loop2 g1 g2 0 (by omega)
      rw [mx_0] at h0
      generalize gdp f k = gk at hG h0 ⊢
      generalize smp f k = sk at hG h0 ⊢
      refine run [26, 139] 60 _ _ _ _ _ _ ?_
      conv => whnf
      refine pk_le k k (fun h => ?_) (fun h => absurd h (by omega))
      conv => whnf
      refine bl_br (fun d1 => ?_) (fun d1 => ?_)
      · conv => whnf
        exact hG _ _ (Or.inl ⟨fun z => d1 z.2.1, rfl, rfl⟩)
      · subst d1
        conv => whnf
        refine ⟨fun d2 => ?_, fun d2 => ?_⟩
        · have h2 := h0 rfl d2
          conv => whnf
          exact h2
        · conv => whnf
          exact hG _ _ (Or.inl ⟨fun z => z.2.2 d2, rfl, rfl⟩))
    (fun i hi ih => by
      rw [nI_succ] at ih
      have e1 : gdp f (i + 1) = (gdp f i && decide (0 ≤ f i ∧ f i ≤ 1000)) := rfl
      have e2 : smp f (i + 1) = smp f i + (if gdp f (i + 1) = true then f i else 0) := rfl
      rw [e2, e1] at ih
      clear e1 e2
      generalize gdp f i = gi at ih ⊢
      generalize smp f i = si at ih ⊢
      have h90 : ∀ gn : Bool, gn = (gi && decide (0 ≤ f i ∧ f i ≤ 1000)) → OK 0 0 90 [(0, .ref 0), (1, .int (nI k)), (2, .int a), (3, .int b), (4, .int c), (5, .int d), (6, .int si), (7, .int (bl (gn = true))), (8, .int (nI i)), (9, .int (f i))] [] (wM (xi S 4 0)) := by
        intro gn hgn
        rw [← hgn] at ih
        refine run [26] 60 _ _ _ _ _ _ ?_
        conv => whnf
        refine bl_br (fun d1 => ?_) (fun d1 => ?_)
        · rw [if_neg d1] at ih
          conv => whnf
          exact sub [0, 1, 2, 3, 4, 5, 6, 7, 8] _ _ _ _ _ _ _ rfl ih
        · rw [if_pos d1] at ih
          conv => whnf
          exact sub [0, 1, 2, 3, 4, 5, 6, 7, 8] _ _ _ _ _ _ _ rfl ih
      have h64 : OK 0 0 64 [(0, .ref 0), (1, .int (nI k)), (2, .int a), (3, .int b), (4, .int c), (5, .int d), (6, .int si), (7, .int (bl (gi = true))), (8, .int (nI i))] [.int (f i)] (wM (xi S 4 0)) := by
        refine run [90] 60 _ _ _ _ _ _ ?_
        conv => whnf
        refine bl_br (fun d1 => ?_) (fun d1 => ?_)
        · have h2 := h90 false (by have : gi = false := by simpa using d1
                                   rw [this]; rfl)
          conv => whnf
          exact h2
        · subst d1
          conv => whnf
          refine ⟨(f i, 0, 1000, wM (xi S 4 0)), rfl, rfl, trivial, ?_⟩
          rintro _ _ ⟨rfl, rfl⟩
          conv => whnf
          refine bl_br (fun d2 => ?_) (fun d2 => ?_)
          · have d2 : ¬ (0 ≤ f i ∧ f i ≤ 1000) := d2
            have h2 := h90 false (by rw [decide_eq_false d2]; rfl)
            conv => whnf
            exact h2
          · have d2 : 0 ≤ f i ∧ f i ≤ 1000 := d2
            have h2 := h90 true (by rw [decide_eq_true d2]; rfl)
            conv => whnf
            exact h2
      refine run [26, 64] 60 _ _ _ _ _ _ ?_
      conv => whnf
      refine pk_le k i (fun h => absurd h (by omega)) (fun h => ?_)
      rcases wi i (by omega) with ⟨rfl, e⟩ | ⟨rfl, e⟩ | ⟨rfl, e⟩ | ⟨rfl, e⟩
      · rw [e] at h64
        conv => whnf
        refine ⟨fun z => absurd rfl z, fun _ => ?_⟩
        conv => whnf
        exact h64
      · rw [e] at h64
        conv => whnf
        refine ⟨fun _ => ?_, fun z => absurd z (by decide)⟩
        conv => whnf
        refine ⟨fun z => absurd rfl z, fun _ => ?_⟩
        conv => whnf
        exact h64
      · rw [e] at h64
        conv => whnf
        refine ⟨fun _ => ?_, fun z => absurd z (by decide)⟩
        conv => whnf
        refine ⟨fun _ => ?_, fun z => absurd z (by decide)⟩
        conv => whnf
        refine ⟨fun z => absurd rfl z, fun _ => ?_⟩
        conv => whnf
        exact h64
      · rw [e] at h64
        conv => whnf
        refine ⟨fun _ => ?_, fun z => absurd z (by decide)⟩
        conv => whnf
        refine ⟨fun _ => ?_, fun z => absurd z (by decide)⟩
        conv => whnf
        refine ⟨fun _ => ?_, fun z => absurd z (by decide)⟩
        conv => whnf
        exact h64)
  conv => whnf
  exact loop1 0 (by omega)
theorem ct_X7_parts (D : va_G) (dT : Nat → Nat) (l : Launch) : en_CT en_WD D vwCl dT l yX7_parts cX7_parts 10 (some .int) rm_X7_parts f_X7_parts := en_met en_WD1 en_WD2 (by decide) rfl rfl (tB_X7_parts D dT l) (en_f_ln (fun _ => Nat.le_of_ble_eq_true rfl)) (en_f_bd bd_X7_parts)
set_option maxRecDepth 100000 in
theorem mk_X7_parts {D : va_G} {dT : Nat → Nat} {l : Launch} {R : Room} {s : State} {args : Array Value} {own : String} {idx : Nat} (h : en_WD s) (h1 : rm_X7_parts.frames + 1 ≤ R.frames) (h2 : 8 + (10 + 11) + rm_X7_parts.locals ≤ R.locals) (hl : (Jvm.Cond.methodLink own idx yX7_parts).before args s = true ∨ ∃ host, (Jvm.Cond.methodLinkNest own idx yX7_parts host).before args s = true) : en_mok en_WD D vwCl dT l R s args own (idx, 6, 9, 0, 0, f_X7_parts) :=
  ⟨yX7_parts, cX7_parts, 10, some .int, rm_X7_parts, 5, ct_X7_parts D dT l, rfl, rfl, h1, h2, en_wd h 851 rfl rfl args, en_wd h 66 (by decide +kernel) rfl args, by decide, by decide, hl, ⟨RX7, TX7, 24, rfl, en_wd h 849 (by decide +kernel) rfl args, en_wd h 850 (by decide +kernel) rfl args, rfl⟩⟩
