/-! shares: common divisors; over -/
theorem gcd_le {a b d : Nat} (hb : 1 ≤ b) (hd : 1 ≤ d) (h : Nat.gcd a b ≤ d) (hn : ¬ (a % d = 0 ∧ b % d = 0)) : Nat.gcd a b ≤ d - 1 := by
  have : Nat.gcd a b ≠ d := fun e => hn ⟨Nat.mod_eq_zero_of_dvd (by rw [← e]; exact Nat.gcd_dvd_left a b), Nat.mod_eq_zero_of_dvd (by rw [← e]; exact Nat.gcd_dvd_right a b)⟩
  omega
theorem gcd_is {a b d : Nat} (hb : 1 ≤ b) (h : Nat.gcd a b ≤ d) (h1 : a % d = 0) (h2 : b % d = 0) : Nat.gcd a b = d := by
  have := Nat.le_of_dvd (Nat.gcd_pos_of_pos_right a hb) (Nat.dvd_gcd (Nat.dvd_of_mod_eq_zero h1) (Nat.dvd_of_mod_eq_zero h2))
  omega
def f_X6_commonDivisor := en_f (σ := Nat × Nat × List va_E) (fun x => [.int (nI x.1), .int (nI x.2.1)]) (fun x => x.2.2) (fun x => x.1 ≤ 400 ∧ 1 ≤ x.2.1 ∧ x.2.1 ≤ 400) (fun x v w => v = some (.int (nI (Nat.gcd x.1 x.2.1))) ∧ w = x.2.2)
def rm_X6_commonDivisor : Room := { frames := 0, cells := 0, slots := 0, locals := 0 }
def t_X6_commonDivisor : en_T := ((3, 0, 0), tb_X6_commonDivisor, fl_X6, cn_X6, [], [], 0, some .int)
set_option maxRecDepth 100000 in
theorem tB_X6_commonDivisor (D : va_G) (dT : Nat → Nat) (l : Launch) : en_TB en_WD D vwCl dT l rm_X6_commonDivisor t_X6_commonDivisor RX6 "commonDivisor" cX6_commonDivisor := ⟨tk_X6_commonDivisor, fun s args meth h hn => ⟨fo_X6 h args meth, co_X6 h args, fun _ h => absurd h List.not_mem_nil, fun _ h => absurd h List.not_mem_nil, Or.inl rfl, en_arr h args⟩⟩
set_option maxHeartbeats 4000000 in
set_option maxRecDepth 100000 in
theorem bd_X6_commonDivisor : en_B (σ := Nat × Nat × List va_E) t_X6_commonDivisor (fun x => [.int (nI x.1), .int (nI x.2.1)]) (fun x => x.2.2) (fun x => x.1 ≤ 400 ∧ 1 ≤ x.2.1 ∧ x.2.1 ≤ 400) (fun x v w => v = some (.int (nI (Nat.gcd x.1 x.2.1))) ∧ w = x.2.2) := by
  rintro ⟨a, b, ws⟩ ⟨ha, hb1, hb⟩ G hG OK ⟨run, sub⟩
  dsimp only at ha hb1 hb hG ⊢
  have hpos := Nat.gcd_pos_of_pos_right a hb1
  have loop : ∀ d, 1 ≤ d → d ≤ b → Nat.gcd a b ≤ d → OK 0 0 2 [(0, .int (nI a)), (1, .int (nI b)), (2, .int (nI d))] [] ws := by
    intro d
    induction d with
    | zero => intro h; omega
    | succ d ih =>
      intro _ hd hg
      have hgl := @gcd_le a b (d + 1) hb1 (by omega) hg
      have hgi := @gcd_is a b (d + 1) hb1 hg
      generalize hgg : Nat.gcd a b = gg at hpos hg hgl hgi hG ih
      have r1 : nI a - nI a / nI (d + 1) * nI (d + 1) = nI (a % (d + 1)) := pk_rem (by omega) (by omega) (by omega)
      have r2 : nI b - nI b / nI (d + 1) * nI (d + 1) = nI (b % (d + 1)) := pk_rem (by omega) (by omega) (by omega)
      have m1 := Nat.mod_lt a (show 0 < d + 1 by omega)
      have m2 := Nat.mod_lt b (show 0 < d + 1 by omega)
      have nz : ¬ nI (d + 1) = 0 := fun e => absurd ((nI_eq (b := 0) (by omega) (by decide)).mp e) (by omega)
      have z1 : nI (a % (d + 1)) = 0 ↔ a % (d + 1) = 0 := nI_eq (b := 0) (by omega) (by decide)
      have z2 : nI (b % (d + 1)) = 0 ↔ b % (d + 1) = 0 := nI_eq (b := 0) (by omega) (by decide)
      have next : ¬ (a % (d + 1) = 0 ∧ b % (d + 1) = 0) → 1 < d + 1 → OK 0 0 2 [(0, .int (nI a)), (1, .int (nI b)), (2, .int (nI (d + 1) + Int32.ofInt (-1)))] [] ws := fun hn h1 => by
        have h2 := ih (by omega) (by omega) (hgl hn)
        rw [← pk_m1 d] at h2
        exact h2
      refine run [2] 60 _ _ _ _ _ _ ?_
      conv => whnf
      refine pk_le (d + 1) 1 (fun h => ?_) (fun h => ?_)
      · have : gg = 1 := by omega
        subst this
        conv => whnf
        exact hG _ _ ⟨rfl, rfl⟩
      · conv => whnf
        refine ⟨nz, ?_⟩
        conv => whnf
        refine ⟨fun c => ?_, fun c => ?_⟩
        · have c : ¬ nI a - nI a / nI (d + 1) * nI (d + 1) = 0 := c
          rw [r1, z1] at c
          conv => whnf
          exact next (fun z => c z.1) h
        · have c : nI a - nI a / nI (d + 1) * nI (d + 1) = 0 := c
          rw [r1, z1] at c
          conv => whnf
          refine ⟨nz, ?_⟩
          conv => whnf
          refine ⟨fun c2 => ?_, fun c2 => ?_⟩
          · have c2 : ¬ nI b - nI b / nI (d + 1) * nI (d + 1) = 0 := c2
            rw [r2, z2] at c2
            conv => whnf
            exact next (fun z => c2 z.2) h
          · have c2 : nI b - nI b / nI (d + 1) * nI (d + 1) = 0 := c2
            rw [r2, z2] at c2
            rw [hgi c c2] at hG
            conv => whnf
            exact hG _ _ ⟨rfl, rfl⟩
  refine run [2] 60 _ _ _ _ _ _ ?_
  conv => whnf
  exact loop b hb1 (Nat.le_refl b) (Nat.gcd_le_right a hb1)
theorem ct_X6_commonDivisor (D : va_G) (dT : Nat → Nat) (l : Launch) : en_CT en_WD D vwCl dT l yX6_commonDivisor cX6_commonDivisor 3 (some .int) rm_X6_commonDivisor f_X6_commonDivisor := en_met en_WD1 en_WD2 (by decide) rfl rfl (tB_X6_commonDivisor D dT l) (en_f_ln (fun _ => Nat.le_of_ble_eq_true rfl)) (en_f_bd bd_X6_commonDivisor)
set_option maxRecDepth 100000 in
theorem mk_X6_commonDivisor {D : va_G} {dT : Nat → Nat} {l : Launch} {R : Room} {s : State} {args : Array Value} {own : String} {idx : Nat} (h : en_WD s) (h1 : rm_X6_commonDivisor.frames + 1 ≤ R.frames) (h2 : 8 + (3 + 11) + rm_X6_commonDivisor.locals ≤ R.locals) (hl : (Jvm.Cond.methodLink own idx yX6_commonDivisor).before args s = true ∨ ∃ host, (Jvm.Cond.methodLinkNest own idx yX6_commonDivisor host).before args s = true) : en_mok en_WD D vwCl dT l R s args own (idx, 2, 0, 0, 0, f_X6_commonDivisor) :=
  ⟨yX6_commonDivisor, cX6_commonDivisor, 3, some .int, rm_X6_commonDivisor, 2, ct_X6_commonDivisor D dT l, rfl, rfl, h1, h2, en_wd h 740 rfl rfl args, en_wd h 59 (by decide +kernel) rfl args, by decide, by decide, hl, ⟨en_wd h 739 (by decide +kernel) rfl args, rfl⟩⟩
/-- a share -/
def shv (P Lb : Nat → Int32) (n : Nat) (l p sd : Int32) : Int32 := nI ((if sd = 0 then cin P Lb n p l else cpl P Lb n l) / Nat.gcd (cin P Lb n p l) (cpl P Lb n l))
abbrev shq (l p : Int32) : Prop := (0 ≤ l ∧ l < 5) ∧ (0 ≤ p ∧ p < 4)
theorem cpl_le {P Lb : Nat → Int32} {n : Nat} {l : Int32} : cpl P Lb n l ≤ 4 * n := by
  have h0 : cin P Lb n 0 l ≤ n := ct_le _ n
  have h1 : cin P Lb n 1 l ≤ n := ct_le _ n
  have h2 : cin P Lb n 2 l ≤ n := ct_le _ n
  have h3 : cin P Lb n 3 l ≤ n := ct_le _ n
  unfold cpl
  omega
/-- the rows that share asks: where it throws is left open -/
def f_X6_share : List Value → List va_E → (Option Value → List va_E → Prop) → Prop := fun _ _ _ => False
def rm_X6_share : Room := { frames := 7, cells := 1, slots := 6, locals := 100 }
def t_X6_share : en_T := ((6, 1, 6), tb_X6_share, fl_X6, cn_X6, [(52, 2, 0, 0, 0, f_X6_isWithin), (153, 2, 4, 0, 0, f_X2_countPlacedOfLabel), (130, 3, 4, 0, 0, f_X2_countIn), (161, 2, 0, 0, 0, f_X6_commonDivisor)], [], 0, some .int)
set_option maxRecDepth 100000 in
theorem tB_X6_share (D : va_G) (dT : Nat → Nat) (l : Launch) : en_TB en_WD D vwCl dT l rm_X6_share t_X6_share RX6 "share" cX6_share := ⟨tk_X6_share, fun s args meth h hn => ⟨fo_X6 h args meth, co_X6 h args, List.forall_mem_cons.mpr ⟨mk_X6_isWithin (own := RX6) h (Nat.le_of_ble_eq_true rfl) (Nat.le_of_ble_eq_true rfl) (Or.inl (en_wd h 267 (by decide +kernel) rfl args)), List.forall_mem_cons.mpr ⟨mk_X2_countPlacedOfLabel (own := RX6) h (Nat.le_of_ble_eq_true rfl) (Nat.le_of_ble_eq_true rfl) (Or.inl (en_wd h 721 (by decide +kernel) rfl args)), List.forall_mem_cons.mpr ⟨mk_X2_countIn (own := RX6) h (Nat.le_of_ble_eq_true rfl) (Nat.le_of_ble_eq_true rfl) (Or.inl (en_wd h 457 (by decide +kernel) rfl args)), List.forall_mem_cons.mpr ⟨mk_X6_commonDivisor (own := RX6) h (Nat.le_of_ble_eq_true rfl) (Nat.le_of_ble_eq_true rfl) (Or.inl (en_wd h 738 (by decide +kernel) rfl args)), fun _ h => absurd h List.not_mem_nil⟩⟩⟩⟩, fun _ h => absurd h List.not_mem_nil, Or.inl rfl, en_arr h args⟩⟩
set_option maxHeartbeats 4000000 in
set_option maxRecDepth 100000 in
theorem sh_body (l p sd : Int32) (n : Nat) (S : Sx) (hn : n ≤ 100) (h1 : S.1 1 = nI n) (G : Option Value → List va_E → Prop) (OK : en_K) (hR : en_Run t_X6_share G OK)
    (hG : shq l p → (sd = 0 ∨ sd = 1) → cpl (S.2.2.1 5) (S.2.2.1 3) n l ≠ 0 → G (some (.int (shv (S.2.2.1 5) (S.2.2.1 3) n l p sd))) (wX S))
    (t16 : ¬ shq l p → OK 0 0 16 [(0, .ref 0), (1, .int l), (2, .int p), (3, .int sd)] [] (wX S))
    (t35 : shq l p → ¬ (sd = 0 ∨ sd = 1) → OK 0 0 35 [(0, .ref 0), (1, .int l), (2, .int p), (3, .int sd)] [] (wX S))
    (t60 : shq l p → (sd = 0 ∨ sd = 1) → cpl (S.2.2.1 5) (S.2.2.1 3) n l = 0 → OK 0 0 60 [(0, .ref 0), (1, .int l), (2, .int p), (3, .int sd), (4, .int 0)] [] (wX S)) :
    OK 0 0 0 [(0, .ref 0), (1, .int l), (2, .int p), (3, .int sd)] [] (wX S) := by
  obtain ⟨run, sub⟩ := hR
  have hci : cin (S.2.2.1 5) (S.2.2.1 3) n p l ≤ n := ct_le _ n
  have hcp := cpl_le (P := S.2.2.1 5) (Lb := S.2.2.1 3) (n := n) (l := l)
  unfold shv at hG
  have tail : shq l p → (sd = 0 ∨ sd = 1) → OK 0 0 45 [(0, .ref 0), (1, .int l), (2, .int p), (3, .int sd)] [] (wX S) := by
    intro hq hsd
    refine run [60] 60 _ _ _ _ _ _ ?_
    conv => whnf
    refine ⟨(n, l, S), rfl, rfl, ⟨hn, h1⟩, ?_⟩
    intro v u hvu
    obtain ⟨rfl, rfl⟩ : v = some (.int (nI (cpl (S.2.2.1 5) (S.2.2.1 3) n l))) ∧ u = wX S := hvu
    generalize cpl (S.2.2.1 5) (S.2.2.1 3) n l = cp at hG t60 hcp ⊢
    have c0 : nI cp = 0 ↔ cp = 0 := nI_eq (b := 0) (by omega) (by decide)
    conv => whnf
    refine ⟨fun c => ?_, fun c => ?_⟩
    rotate_left
    · have c := c0.mp c
      subst c
      conv => whnf
      exact t60 hq hsd rfl
    have c : cp ≠ 0 := fun z => c (c0.mpr z)
    conv => whnf
    refine ⟨(n, p, l, S), rfl, rfl, ⟨hn, h1⟩, ?_⟩
    intro v u hvu
    obtain ⟨rfl, rfl⟩ : v = some (.int (nI (cin (S.2.2.1 5) (S.2.2.1 3) n p l))) ∧ u = wX S := hvu
    generalize cin (S.2.2.1 5) (S.2.2.1 3) n p l = ci at hG hci ⊢
    have hgp := Nat.gcd_pos_of_pos_right ci (show 0 < cp by omega)
    have hgl := Nat.gcd_le_right (n := cp) ci (by omega)
    have gnz : ¬ nI (Nat.gcd ci cp) = 0 := fun e => absurd ((nI_eq (b := 0) (by omega) (by decide)).mp e) (by omega)
    have hG := hG hq hsd c
    conv => whnf
    refine ⟨fun d => ?_, fun d => ?_⟩
    · have d : ¬ sd = 0 := d
      rw [if_neg d] at hG
      have e := pk_div (a := cp) (d := Nat.gcd ci cp) (by omega) (by omega) (by omega)
      rw [← e] at hG
      conv => whnf
      refine ⟨(ci, cp, wX S), rfl, rfl, ⟨by dsimp only; omega, by dsimp only; omega, by dsimp only; omega⟩, ?_⟩
      intro v u hvu
      obtain ⟨rfl, rfl⟩ : v = some (.int (nI (Nat.gcd ci cp))) ∧ u = wX S := hvu
      generalize Nat.gcd ci cp = gg at gnz hG ⊢
      conv => whnf
      refine ⟨gnz, ?_⟩
      conv => whnf
      exact hG
    · have d : sd = 0 := d
      rw [if_pos d] at hG
      have e := pk_div (a := ci) (d := Nat.gcd ci cp) (by omega) (by omega) (by omega)
      rw [← e] at hG
      conv => whnf
      refine ⟨(ci, cp, wX S), rfl, rfl, ⟨by dsimp only; omega, by dsimp only; omega, by dsimp only; omega⟩, ?_⟩
      intro v u hvu
      obtain ⟨rfl, rfl⟩ : v = some (.int (nI (Nat.gcd ci cp))) ∧ u = wX S := hvu
      generalize Nat.gcd ci cp = gg at gnz hG ⊢
      conv => whnf
      refine ⟨gnz, ?_⟩
      conv => whnf
      exact hG
  refine run [16, 35, 45] 60 _ _ _ _ _ _ ?_
  conv => whnf
  refine ⟨(l, 5, wX S), rfl, rfl, trivial, ?_⟩
  rintro _ _ ⟨rfl, rfl⟩
  conv => whnf
  refine bl_br (fun c1 => ?_) (fun c1 => ?_)
  · conv => whnf
    exact t16 (fun z => c1 z.1)
  have c1 : 0 ≤ l ∧ l < 5 := c1
  conv => whnf
  refine ⟨(p, 4, wX S), rfl, rfl, trivial, ?_⟩
  rintro _ _ ⟨rfl, rfl⟩
  conv => whnf
  refine bl_br2 (fun c2 => ?_) (fun c2 => ?_)
  rotate_left
  · conv => whnf
    exact t16 (fun z => c2 z.2)
  have c2 : 0 ≤ p ∧ p < 4 := c2
  conv => whnf
  refine ⟨fun c3 => ?_, fun c3 => ?_⟩
  · have c3 : sd = 0 := c3
    conv => whnf
    exact tail ⟨c1, c2⟩ (Or.inl c3)
  · have c3 : ¬ sd = 0 := c3
    conv => whnf
    refine ⟨fun c4 => ?_, fun c4 => ?_⟩
    · have c4 : sd = 1 := c4
      conv => whnf
      exact tail ⟨c1, c2⟩ (Or.inr c4)
    · have c4 : ¬ sd = 1 := c4
      conv => whnf
      exact t35 ⟨c1, c2⟩ (fun z => z.elim c3 c4)
def f_X6_over := en_f (σ := Int32 × Nat × (Nat → Nat) × Nat × Nat × Sx) (fun x => [.ref 0, .int x.1]) (fun x => wX x.2.2.2.2.2) (fun x => x.2.1 ≤ 100 ∧ x.2.2.2.2.2.1 1 = nI x.2.1 ∧ wgt x.2.2.2.2.2 x.2.2.1 x.2.2.2.1 x.2.2.2.2.1) (fun x v w => ansE v w (if 0 ≤ x.1 ∧ x.1 < 30 then ovv (x.2.2.2.2.2.2.2.1 2) (x.2.2.2.2.2.2.2.1 5) x.2.2.1 x.2.2.2.1 x.2.2.2.2.1 x.2.1 x.1 else -2) x.2.2.2.2.2)
def rm_X6_over : Room := { frames := 2, cells := 0, slots := 0, locals := 46 }
def t_X6_over : en_T := ((4, 0, 0), tb_X6_over, fl_X6, cn_X6, [(52, 2, 0, 0, 0, f_X6_isWithin), (164, 2, 4, 0, 0, f_X2_firstOfGroup), (94, 2, 7, 0, 0, f_X5_apportion), (167, 2, 4, 0, 0, f_X2_countOfGroup)], [], 0, some .int)
set_option maxRecDepth 100000 in
theorem tB_X6_over (D : va_G) (dT : Nat → Nat) (l : Launch) : en_TB en_WD D vwCl dT l rm_X6_over t_X6_over RX6 "over" cX6_over := ⟨tk_X6_over, fun s args meth h hn => ⟨fo_X6 h args meth, co_X6 h args, List.forall_mem_cons.mpr ⟨mk_X6_isWithin (own := RX6) h (Nat.le_of_ble_eq_true rfl) (Nat.le_of_ble_eq_true rfl) (Or.inl (en_wd h 267 (by decide +kernel) rfl args)), List.forall_mem_cons.mpr ⟨mk_X2_firstOfGroup (own := RX6) h (Nat.le_of_ble_eq_true rfl) (Nat.le_of_ble_eq_true rfl) (Or.inl (en_wd h 479 (by decide +kernel) rfl args)), List.forall_mem_cons.mpr ⟨mk_X5_apportion (own := RX6) h (Nat.le_of_ble_eq_true rfl) (Nat.le_of_ble_eq_true rfl) (Or.inl (en_wd h 310 (by decide +kernel) rfl args)), List.forall_mem_cons.mpr ⟨mk_X2_countOfGroup (own := RX6) h (Nat.le_of_ble_eq_true rfl) (Nat.le_of_ble_eq_true rfl) (Or.inl (en_wd h 480 (by decide +kernel) rfl args)), fun _ h => absurd h List.not_mem_nil⟩⟩⟩⟩, fun _ h => absurd h List.not_mem_nil, Or.inl rfl, en_arr h args⟩⟩
set_option maxHeartbeats 4000000 in
set_option maxRecDepth 100000 in
theorem bd_X6_over : en_B (σ := Int32 × Nat × (Nat → Nat) × Nat × Nat × Sx) t_X6_over (fun x => [.ref 0, .int x.1]) (fun x => wX x.2.2.2.2.2) (fun x => x.2.1 ≤ 100 ∧ x.2.2.2.2.2.1 1 = nI x.2.1 ∧ wgt x.2.2.2.2.2 x.2.2.1 x.2.2.2.1 x.2.2.2.2.1) (fun x v w => ansE v w (if 0 ≤ x.1 ∧ x.1 < 30 then ovv (x.2.2.2.2.2.2.2.1 2) (x.2.2.2.2.2.2.2.1 5) x.2.2.1 x.2.2.2.1 x.2.2.2.2.1 x.2.1 x.1 else -2) x.2.2.2.2.2) := by
  rintro ⟨g, n, w, W, k, S⟩ ⟨hn, h1, hwg⟩ G hG OK ⟨run, sub⟩
  dsimp only at hn h1 hwg hG ⊢
  obtain ⟨hok, hk, hW, hw⟩ := hwg
  have hk4 : k ≤ 4 := hok.2.1
  refine run [] 80 _ _ _ _ _ _ ?_
  conv => whnf
  refine ⟨(g, 30, wX S), rfl, rfl, trivial, ?_⟩
  rintro _ _ ⟨rfl, rfl⟩
  conv => whnf
  refine bl_br2 (fun c1 => ?_) (fun c1 => ?_)
  rotate_left
  · have c1 : ¬ (0 ≤ g ∧ g < 30) := c1
    rw [if_neg c1] at hG
    conv => whnf
    exact hG _ _ ⟨rfl, S, rfl, kept_rf S⟩
  have c1 : 0 ≤ g ∧ g < 30 := c1
  rw [if_pos c1] at hG
  unfold ovv at hG
  conv => whnf
  refine ⟨(n, g, S), rfl, rfl, ⟨hn, h1⟩, ?_⟩
  intro v u hvu
  obtain ⟨rfl, rfl⟩ : v = some (.int (oI (fs (fun r => S.2.2.1 2 r = g) n))) ∧ u = wX S := hvu
  have hlt := @fs_lt (fun r => S.2.2.1 2 r = g) _ n
  generalize fs (fun r => S.2.2.1 2 r = g) n = F at hG hlt ⊢
  cases F with
  | none =>
    have hG : ∀ v w, ansE v w 0 S → G v w := hG
    conv => whnf
    refine ⟨fun _ => ?_, fun z => absurd rfl z⟩
    conv => whnf
    exact hG _ _ ⟨rfl, S, rfl, kept_rf S⟩
  | some r =>
    have hr := (hlt rfl).1
    rw [show oI (some r) = nI r from rfl]
    obtain ⟨w0, hw0⟩ : ∃ w0, w0 = w := ⟨w, rfl⟩
    rw [← hw0] at hG
    have hG : ∀ v w, ansE v w (if 0 ≤ S.2.2.1 5 r ∧ S.2.2.1 5 r < nI k then (if nI (ct (fun r => S.2.2.1 2 r = g) n) - nI (qf w0 W k n (tn (S.2.2.1 5 r))) ≤ 0 then 0 else nI (ct (fun r => S.2.2.1 2 r = g) n) - nI (qf w0 W k n (tn (S.2.2.1 5 r)))) else 0) S → G v w := hG
    rw [hw0] at hG
    conv => whnf
    refine ⟨fun z => absurd z (nI_ne (by omega)), fun _ => ?_⟩
    conv => whnf
    refine ⟨vp_in_nI (by omega) (by decide), ?_⟩
    conv => whnf
    have hr2 : (nI r).toNatClampNeg = r := nI_clamp (by omega)
    refine ⟨(S.2.2.1 5 (nI r).toNatClampNeg, S.1 2, wX S), rfl, rfl, trivial, ?_⟩
    rw [hr2]
    rintro _ _ ⟨rfl, rfl⟩
    conv => whnf
    refine bl_br2 (fun c2 => ?_) (fun c2 => ?_)
    rotate_left
    · have c2 : ¬ (0 ≤ S.2.2.1 5 r ∧ S.2.2.1 5 r < S.1 2) := c2
      rw [hk] at c2
      rw [if_neg c2] at hG
      conv => whnf
      exact hG _ _ ⟨rfl, S, rfl, kept_rf S⟩
    have c2 : 0 ≤ S.2.2.1 5 r ∧ S.2.2.1 5 r < S.1 2 := c2
    rw [hk] at c2
    rw [if_pos c2] at hG
    obtain ⟨c, hc, hPc⟩ := in_of (by omega) c2
    rw [hPc, show tn (nI c) = c from nI_clamp (by omega)] at hG
    conv => whnf
    refine ⟨(w, W, k, n, S), (by show [Value.ref 9, Value.int (S.1 1)] = [Value.ref 9, Value.int (nI n)]; rw [h1]), rfl, ⟨hok, (by dsimp only; omega), hk, hW, hw⟩, ?_⟩
    rintro v u ⟨hv0, rr, hu⟩
    obtain rfl : v = none := hv0
    obtain rfl : u = wX (xa (xa S 11 (mx k (fun j => nI (qf w W k n j)) (S.2.2.1 11))) 12 rr) := hu
    have hqc : mx k (fun j => nI (qf w W k n j)) (S.2.2.1 11) c = nI (qf w W k n c) := mx_lt hc
    rw [← hqc] at hG
    generalize mx k (fun j => nI (qf w W k n j)) (S.2.2.1 11) = q at hG ⊢
    conv => whnf
    refine ⟨(n, g, xa (xa S 11 q) 12 rr), rfl, rfl, ⟨hn, h1⟩, ?_⟩
    intro v u hvu
    obtain ⟨rfl, rfl⟩ : v = some (.int (nI (ct (fun r => S.2.2.1 2 r = g) n))) ∧ u = wX (xa (xa S 11 q) 12 rr) := hvu
    generalize ct (fun r => S.2.2.1 2 r = g) n = cn at hG ⊢
    conv => whnf
    refine ⟨vp_in_nI (by omega) (by decide), ?_⟩
    rw [nI_clamp (by omega)]
    conv => whnf
    refine ⟨by show vp_in (S.2.2.1 5 r) 4; rw [hPc]; exact vp_in_nI (by omega) (by decide), ?_⟩
    conv => whnf
    have hqt : q (S.2.2.1 5 r).toNatClampNeg = q c := by rw [hPc, nI_clamp (by omega)]
    rw [← hqt] at hG
    refine ⟨fun e => ?_, fun e => ?_⟩
    · have e : nI cn - q (S.2.2.1 5 r).toNatClampNeg ≤ 0 := e
      rw [if_pos e] at hG
      conv => whnf
      exact hG _ _ ⟨rfl, _, rfl, kept_tr (kept_a (by omega)) (kept_a (by omega))⟩
    · have e : ¬ nI cn - q (S.2.2.1 5 r).toNatClampNeg ≤ 0 := e
      rw [if_neg e] at hG
      conv => whnf
      exact hG _ _ ⟨rfl, _, rfl, kept_tr (kept_a (by omega)) (kept_a (by omega))⟩
theorem ct_X6_over (D : va_G) (dT : Nat → Nat) (l : Launch) : en_CT en_WD D vwCl dT l yX6_over cX6_over 4 (some .int) rm_X6_over f_X6_over := en_met en_WD1 en_WD2 (by decide) rfl rfl (tB_X6_over D dT l) (en_f_ln (fun _ => Nat.le_of_ble_eq_true rfl)) (en_f_bd bd_X6_over)
set_option maxRecDepth 100000 in
theorem mk_X6_over {D : va_G} {dT : Nat → Nat} {l : Launch} {R : Room} {s : State} {args : Array Value} {own : String} {idx : Nat} (h : en_WD s) (h1 : rm_X6_over.frames + 1 ≤ R.frames) (h2 : 8 + (4 + 11) + rm_X6_over.locals ≤ R.locals) (hl : (Jvm.Cond.methodLink own idx yX6_over).before args s = true ∨ ∃ host, (Jvm.Cond.methodLinkNest own idx yX6_over host).before args s = true) : en_mok en_WD D vwCl dT l R s args own (idx, 2, 8, 0, 0, f_X6_over) :=
  ⟨yX6_over, cX6_over, 4, some .int, rm_X6_over, 1, ct_X6_over D dT l, rfl, rfl, h1, h2, en_wd h 478 rfl rfl args, en_wd h 59 (by decide +kernel) rfl args, by decide, by decide, hl, ⟨RX6, TX6, 6, rfl, en_wd h 476 (by decide +kernel) rfl args, en_wd h 477 (by decide +kernel) rfl args, rfl⟩⟩
def f_X7_share := en_f (σ := Int32 × Int32 × Int32 × Nat × Sx) (fun x => [.ref 0, .int x.1, .int x.2.1, .int x.2.2.1]) (fun x => wM x.2.2.2.2) (fun x => x.2.2.2.1 ≤ 100 ∧ x.2.2.2.2.1 0 = nI x.2.2.2.1) (fun x v w => (¬ shq x.1 x.2.1 ∧ ansM v w 0 (xi x.2.2.2.2 4 1)) ∨ (shq x.1 x.2.1 ∧ ¬ (x.2.2.1 = 0 ∨ x.2.2.1 = 1) ∧ ansM v w 0 (xi x.2.2.2.2 4 2)) ∨ (shq x.1 x.2.1 ∧ (x.2.2.1 = 0 ∨ x.2.2.1 = 1) ∧ cpl (x.2.2.2.2.2.2.1 6) (x.2.2.2.2.2.2.1 2) x.2.2.2.1 x.1 = 0 ∧ ansM v w 0 (xi x.2.2.2.2 4 3)) ∨ (shq x.1 x.2.1 ∧ (x.2.2.1 = 0 ∨ x.2.2.1 = 1) ∧ cpl (x.2.2.2.2.2.2.1 6) (x.2.2.2.2.2.2.1 2) x.2.2.2.1 x.1 ≠ 0 ∧ ansM v w (shv (x.2.2.2.2.2.2.1 6) (x.2.2.2.2.2.2.1 2) x.2.2.2.1 x.1 x.2.1 x.2.2.1) (xi x.2.2.2.2 4 0)))
def rm_X7_share : Room := { frames := 2, cells := 0, slots := 0, locals := 46 }
def t_X7_share : en_T := ((9, 0, 0), tb_X7_share, fl_X7, cn_X7, [(70, 3, 0, 0, 0, f_X7_in), (135, 3, 9, 0, 0, f_X7_many)], [], 0, some .int)
set_option maxRecDepth 100000 in
theorem tB_X7_share (D : va_G) (dT : Nat → Nat) (l : Launch) : en_TB en_WD D vwCl dT l rm_X7_share t_X7_share RX7 "share" cX7_share := ⟨tk_X7_share, fun s args meth h hn => ⟨fo_X7 h args meth, co_X7 h args, List.forall_mem_cons.mpr ⟨mk_X7_in (own := RX7) h (Nat.le_of_ble_eq_true rfl) (Nat.le_of_ble_eq_true rfl) (Or.inl (en_wd h 828 (by decide +kernel) rfl args)), List.forall_mem_cons.mpr ⟨mk_X7_many (own := RX7) h (Nat.le_of_ble_eq_true rfl) (Nat.le_of_ble_eq_true rfl) (Or.inl (en_wd h 918 (by decide +kernel) rfl args)), fun _ h => absurd h List.not_mem_nil⟩⟩, fun _ h => absurd h List.not_mem_nil, Or.inl rfl, en_arr h args⟩⟩
set_option maxHeartbeats 4000000 in
set_option maxRecDepth 100000 in
theorem bd_X7_share : en_B (σ := Int32 × Int32 × Int32 × Nat × Sx) t_X7_share (fun x => [.ref 0, .int x.1, .int x.2.1, .int x.2.2.1]) (fun x => wM x.2.2.2.2) (fun x => x.2.2.2.1 ≤ 100 ∧ x.2.2.2.2.1 0 = nI x.2.2.2.1) (fun x v w => (¬ shq x.1 x.2.1 ∧ ansM v w 0 (xi x.2.2.2.2 4 1)) ∨ (shq x.1 x.2.1 ∧ ¬ (x.2.2.1 = 0 ∨ x.2.2.1 = 1) ∧ ansM v w 0 (xi x.2.2.2.2 4 2)) ∨ (shq x.1 x.2.1 ∧ (x.2.2.1 = 0 ∨ x.2.2.1 = 1) ∧ cpl (x.2.2.2.2.2.2.1 6) (x.2.2.2.2.2.2.1 2) x.2.2.2.1 x.1 = 0 ∧ ansM v w 0 (xi x.2.2.2.2 4 3)) ∨ (shq x.1 x.2.1 ∧ (x.2.2.1 = 0 ∨ x.2.2.1 = 1) ∧ cpl (x.2.2.2.2.2.2.1 6) (x.2.2.2.2.2.2.1 2) x.2.2.2.1 x.1 ≠ 0 ∧ ansM v w (shv (x.2.2.2.2.2.2.1 6) (x.2.2.2.2.2.2.1 2) x.2.2.2.1 x.1 x.2.1 x.2.2.1) (xi x.2.2.2.2 4 0))) := by
  rintro ⟨l, p, sd, n, S⟩ ⟨hn, h1⟩ G hG OK ⟨run, sub⟩
  dsimp only at hn h1 hG ⊢
  refine run [60] 60 _ _ _ _ _ _ ?_
  conv => whnf
  refine ⟨(l, 0, 4, wM (xi S 4 0)), rfl, rfl, trivial, ?_⟩
  rintro _ _ ⟨rfl, rfl⟩
  conv => whnf
  refine bl_br (fun c1 => ?_) (fun c1 => ?_)
  · have c1 : ¬ (0 ≤ l ∧ l ≤ 4) := c1
    conv => whnf
    exact hG _ _ (Or.inl ⟨fun z => c1 ⟨z.1.1, (le_lt (b := 4) (by decide)).mpr z.1.2⟩, rfl, rfl⟩)
  have c1 : 0 ≤ l ∧ l < 5 := ⟨c1.1, (le_lt (b := 4) (by decide)).mp c1.2⟩
  conv => whnf
  refine ⟨(p, 0, 3, wM (xi S 4 0)), rfl, rfl, trivial, ?_⟩
  rintro _ _ ⟨rfl, rfl⟩
  conv => whnf
  refine bl_br2 (fun c2 => ?_) (fun c2 => ?_)
  rotate_left
  · have c2 : ¬ (0 ≤ p ∧ p ≤ 3) := c2
    conv => whnf
    exact hG _ _ (Or.inl ⟨fun z => c2 ⟨z.2.1, (le_lt (b := 3) (by decide)).mpr z.2.2⟩, rfl, rfl⟩)
  have c2 : 0 ≤ p ∧ p < 4 := ⟨c2.1, (le_lt (b := 3) (by decide)).mp c2.2⟩
  conv => whnf
  refine ⟨(sd, 0, 1, wM (xi S 4 0)), rfl, rfl, trivial, ?_⟩
  rintro _ _ ⟨rfl, rfl⟩
  conv => whnf
  refine bl_br2 (fun c3 => ?_) (fun c3 => ?_)
  rotate_left
  · have c3 : ¬ (0 ≤ sd ∧ sd ≤ 1) := c3
    conv => whnf
    exact hG _ _ (Or.inr (Or.inl ⟨⟨c1, c2⟩, fun z => c3 (wh_eq.mpr z), rfl, rfl⟩))
  have c3 : sd = 0 ∨ sd = 1 := wh_eq.mp c3
  have hman : ∀ q : Nat, q < 4 → manq (nI q) l := fun q hq => ⟨of_in hq (by decide), Or.inr c1⟩
  have hci : cin (S.2.2.1 6) (S.2.2.1 2) n p l ≤ n := ct_le _ n
  conv => whnf
  refine ⟨(p, l, n, xi S 4 0), rfl, rfl, ⟨hn, h1⟩, ?_⟩
  intro v u hvu
  obtain ⟨rfl, rfl⟩ : v = some (.int (nI (cin (S.2.2.1 6) (S.2.2.1 2) n p l))) ∧ u = wM (xi S 4 0) := by
    refine ⟨hvu.1.trans ?_, hvu.2⟩
    show some (Value.int (if manq p l then _ else _)) = _
    rw [if_pos ⟨c2, Or.inr c1⟩]
    rfl
  have hcp := cpl_le (P := S.2.2.1 6) (Lb := S.2.2.1 2) (n := n) (l := l)
  have hsum : sm (fun q => cin (S.2.2.1 6) (S.2.2.1 2) n (nI q) l) 4 = cpl (S.2.2.1 6) (S.2.2.1 2) n l := by
    unfold cpl
    simp only [sm, Nat.zero_add]
    rfl
  unfold shv at hG
  generalize cin (S.2.2.1 6) (S.2.2.1 2) n p l = ci at hci hG ⊢
  have tail : OK 0 0 84 [(0, .ref 0), (1, .int l), (2, .int p), (3, .int sd), (4, .int (nI ci)), (5, .int (nI (cpl (S.2.2.1 6) (S.2.2.1 2) n l)))] [] (wM (xi S 4 0)) := by
    generalize cpl (S.2.2.1 6) (S.2.2.1 2) n l = cp at hcp hG
    have c0 : nI cp = 0 ↔ cp = 0 := nI_eq (b := 0) (by omega) (by decide)
    have euc0 : ∀ a : Nat, a ≤ 400 → cp ≠ 0 → Nat.gcd a 0 = Nat.gcd ci cp → OK 0 0 104 [(0, .ref 0), (1, .int l), (2, .int p), (3, .int sd), (4, .int (nI ci)), (5, .int (nI cp)), (6, .int (nI a)), (7, .int (nI 0))] [] (wM (xi S 4 0)) := by
      intro a ha hne hg
      rw [Nat.gcd_zero_right] at hg
      subst hg
      have hgp := Nat.gcd_pos_of_pos_right ci (show 0 < cp by omega)
      have hgl := Nat.gcd_le_right (n := cp) ci (by omega)
      have gnz : ¬ nI (Nat.gcd ci cp) = 0 := fun e => absurd ((nI_eq (b := 0) (by omega) (by decide)).mp e) (by omega)
      have e1 := pk_div (a := cp) (d := Nat.gcd ci cp) (by omega) (by omega) (by omega)
      have e2 := pk_div (a := ci) (d := Nat.gcd ci cp) (by omega) (by omega) (by omega)
      have hGG := fun v w h => hG v w (Or.inr (Or.inr (Or.inr ⟨⟨c1, c2⟩, c3, hne, h⟩)))
      generalize Nat.gcd ci cp = gg at gnz e1 e2 hGG ⊢
      refine run [] 60 _ _ _ _ _ _ ?_
      conv => whnf
      refine ⟨fun _ => ?_, fun z => absurd rfl z⟩
      conv => whnf
      refine ⟨fun d => ?_, fun d => ?_⟩
      · have d : ¬ sd = 0 := d
        rw [if_neg d, ← e1] at hGG
        conv => whnf
        refine ⟨gnz, ?_⟩
        conv => whnf
        exact hGG _ _ ⟨rfl, rfl⟩
      · have d : sd = 0 := d
        rw [if_pos d, ← e2] at hGG
        conv => whnf
        refine ⟨gnz, ?_⟩
        conv => whnf
        exact hGG _ _ ⟨rfl, rfl⟩
    have euc : ∀ (N a b : Nat), b ≤ N → a ≤ 400 → b ≤ 400 → cp ≠ 0 → Nat.gcd a b = Nat.gcd ci cp → OK 0 0 104 [(0, .ref 0), (1, .int l), (2, .int p), (3, .int sd), (4, .int (nI ci)), (5, .int (nI cp)), (6, .int (nI a)), (7, .int (nI b))] [] (wM (xi S 4 0)) := by
      intro N
      induction N with
      | zero =>
        intro a b hb ha hb4 hne hg
        have : b = 0 := by omega
        subst this
        exact euc0 a ha hne hg
      | succ N ih =>
        intro a b hb ha hb4 hne hg
        by_cases hb0 : b = 0
        · subst hb0
          exact euc0 a ha hne hg
        · have hr : nI a - nI a / nI b * nI b = nI (a % b) := pk_rem (by omega) (by omega) (by omega)
          have hml := Nat.mod_lt a (show 0 < b by omega)
          have h2 := ih b (a % b) (by omega) (by omega) (by omega) hne (by rw [Nat.gcd_comm b, ← Nat.gcd_rec, Nat.gcd_comm, hg])
          rw [← hr] at h2
          have bnz : ¬ nI b = 0 := fun e => absurd ((nI_eq (b := 0) (by omega) (by decide)).mp e) (by omega)
          refine run [104] 60 _ _ _ _ _ _ ?_
          conv => whnf
          refine ⟨fun z => absurd z bnz, fun _ => ?_⟩
          conv => whnf
          refine ⟨bnz, ?_⟩
          conv => whnf
          exact sub [0, 1, 2, 3, 4, 5, 6, 7] _ _ _ _ _ _ _ rfl h2
    refine run [104] 60 _ _ _ _ _ _ ?_
    conv => whnf
    refine ⟨fun c => ?_, fun c => ?_⟩
    · have c : cp ≠ 0 := fun z => c (c0.mpr z)
      conv => whnf
      exact euc cp ci cp (Nat.le_refl _) (by omega) (by omega) c rfl
    · have c := c0.mp c
      subst c
      conv => whnf
      exact hG _ _ (Or.inr (Or.inr (Or.inl ⟨⟨c1, c2⟩, c3, rfl, rfl, rfl⟩)))
  have loop := lp_up (fun q => OK 0 0 60 [(0, .ref 0), (1, .int l), (2, .int p), (3, .int sd), (4, .int (nI ci)), (5, .int (nI (sm (fun q => cin (S.2.2.1 6) (S.2.2.1 2) n (nI q) l) q))), (6, .int (nI q))] [] (wM (xi S 4 0))) 4
    (by
      rw [hsum]
      generalize cpl (S.2.2.1 6) (S.2.2.1 2) n l = cp at tail ⊢
      refine run [60, 84] 60 _ _ _ _ _ _ ?_
      conv => whnf
      refine pk_le 4 4 (fun h => ?_) (fun h => absurd h (by omega))
      conv => whnf
      exact sub [0, 1, 2, 3, 4, 5] _ _ _ _ _ _ _ rfl tail)
    (fun q hq ih => by
      rw [nI_succ] at ih
      simp only [sm] at ih
      rw [← nI_add] at ih
      have hmq := hman q hq
      generalize sm (fun q => cin (S.2.2.1 6) (S.2.2.1 2) n (nI q) l) q = T at ih ⊢
      refine run [60] 60 _ _ _ _ _ _ ?_
      conv => whnf
      refine pk_le 4 q (fun h => absurd h (by omega)) (fun h => ?_)
      conv => whnf
      refine ⟨(nI q, l, n, xi S 4 0), rfl, rfl, ⟨hn, h1⟩, ?_⟩
      intro v u hvu
      obtain ⟨rfl, rfl⟩ : v = some (.int (nI (cin (S.2.2.1 6) (S.2.2.1 2) n (nI q) l))) ∧ u = wM (xi S 4 0) := by
        refine ⟨hvu.1.trans ?_, hvu.2⟩
        show some (Value.int (if manq (nI q) l then _ else _)) = _
        rw [if_pos hmq]
        rfl
      conv => whnf
      exact ih)
  conv => whnf
  exact loop 0 (by omega)
theorem ct_X7_share (D : va_G) (dT : Nat → Nat) (l : Launch) : en_CT en_WD D vwCl dT l yX7_share cX7_share 9 (some .int) rm_X7_share f_X7_share := en_met en_WD1 en_WD2 (by decide) rfl rfl (tB_X7_share D dT l) (en_f_ln (fun _ => Nat.le_of_ble_eq_true rfl)) (en_f_bd bd_X7_share)
set_option maxRecDepth 100000 in
theorem mk_X7_share {D : va_G} {dT : Nat → Nat} {l : Launch} {R : Room} {s : State} {args : Array Value} {own : String} {idx : Nat} (h : en_WD s) (h1 : rm_X7_share.frames + 1 ≤ R.frames) (h2 : 8 + (9 + 11) + rm_X7_share.locals ≤ R.locals) (hl : (Jvm.Cond.methodLink own idx yX7_share).before args s = true ∨ ∃ host, (Jvm.Cond.methodLinkNest own idx yX7_share host).before args s = true) : en_mok en_WD D vwCl dT l R s args own (idx, 4, 9, 0, 0, f_X7_share) :=
  ⟨yX7_share, cX7_share, 9, some .int, rm_X7_share, 3, ct_X7_share D dT l, rfl, rfl, h1, h2, en_wd h 930 rfl rfl args, en_wd h 66 (by decide +kernel) rfl args, by decide, by decide, hl, ⟨RX7, TX7, 24, rfl, en_wd h 928 (by decide +kernel) rfl args, en_wd h 929 (by decide +kernel) rfl args, rfl⟩⟩
