/-! the reference: equal, near, told leaks -/
def eqb (N Wd : Nat → Int64) (a b : Nat) : Nat → Bool
  | 0 => decide (Wd a = Wd b)
  | c + 1 => eqb N Wd a b c && decide (N (a * 3 + c) = N (b * 3 + c))
theorem eqb_3 {N Wd : Nat → Int64} {a b : Nat} : eqb N Wd a b 3 = true ↔ alike N Wd a b := by
  simp only [eqb, Bool.and_eq_true, decide_eq_true_eq, Nat.add_zero]
  constructor
  · rintro ⟨⟨⟨h0, h1⟩, h2⟩, h3⟩; exact ⟨h1, h2, h3, h0⟩
  · rintro ⟨h1, h2, h3, h0⟩; exact ⟨⟨⟨h0, h1⟩, h2⟩, h3⟩
def f_X7_isEqual := en_f (σ := Nat × Nat × Sx) (fun x => [.ref 0, .int (nI x.1), .int (nI x.2.1)]) (fun x => wM x.2.2) (fun x => x.1 < 100 ∧ x.2.1 < 100) (fun x v w => v = some (.int (bl (alike (x.2.2.2.2.2 4) (x.2.2.2.2.2 5) x.1 x.2.1))) ∧ w = wM x.2.2)
def rm_X7_isEqual : Room := { frames := 0, cells := 0, slots := 0, locals := 0 }
def t_X7_isEqual : en_T := ((5, 0, 0), tb_X7_isEqual, fl_X7, cn_X7, [], [], 0, some .boolean)
set_option maxRecDepth 100000 in
theorem tB_X7_isEqual (D : va_G) (dT : Nat → Nat) (l : Launch) : en_TB en_WD D vwCl dT l rm_X7_isEqual t_X7_isEqual RX7 "isEqual" cX7_isEqual := ⟨tk_X7_isEqual, fun s args meth h hn => ⟨fo_X7 h args meth, co_X7 h args, fun _ h => absurd h List.not_mem_nil, fun _ h => absurd h List.not_mem_nil, Or.inl rfl, en_arr h args⟩⟩
set_option maxHeartbeats 4000000 in
set_option maxRecDepth 100000 in
theorem bd_X7_isEqual : en_B (σ := Nat × Nat × Sx) t_X7_isEqual (fun x => [.ref 0, .int (nI x.1), .int (nI x.2.1)]) (fun x => wM x.2.2) (fun x => x.1 < 100 ∧ x.2.1 < 100) (fun x v w => v = some (.int (bl (alike (x.2.2.2.2.2 4) (x.2.2.2.2.2 5) x.1 x.2.1))) ∧ w = wM x.2.2) := by
  rintro ⟨a, b, S⟩ ⟨ha, hb⟩ G hG OK ⟨run, sub⟩
  dsimp only at ha hb hG ⊢
  rw [← bl_c (p := eqb (S.2.2.2 4) (S.2.2.2 5) a b 3 = true) eqb_3] at hG
  have loop := lp_up (fun c => OK 0 0 25 [(0, .ref 0), (1, .int (nI a)), (2, .int (nI b)), (3, .int (bl (eqb (S.2.2.2 4) (S.2.2.2 5) a b c = true))), (4, .int (nI c))] [] (wM S)) 3
    (by
      refine run [25] 60 _ _ _ _ _ _ ?_
      conv => whnf
      refine pk_le 3 3 (fun h => ?_) (fun h => absurd h (by omega))
      conv => whnf
      exact ⟨bl_b, hG _ _ ⟨rfl, rfl⟩⟩)
    (fun c hc ih => by
      rw [nI_succ] at ih
      refine run [25] 60 _ _ _ _ _ _ ?_
      conv => whnf
      refine pk_le 3 c (fun h => absurd h (by omega)) (fun h => ?_)
      conv => whnf
      refine bl_br (fun h1 => ?_) (fun h1 => ?_)
      · have e : bl (eqb (S.2.2.2 4) (S.2.2.2 5) a b (c + 1) = true) = 0 := bl_f (by
          show ¬ (eqb (S.2.2.2 4) (S.2.2.2 5) a b c && _) = true
          rw [Bool.and_eq_true]; exact fun z => h1 z.1)
        rw [e] at ih
        conv => whnf
        exact ih
      · conv => whnf
        rw [mul3']
        refine ⟨vp_in_nI (by omega) (by decide), ?_⟩
        rw [nI_clamp (by omega)]
        conv => whnf
        rw [mul3']
        refine ⟨vp_in_nI (by omega) (by decide), ?_⟩
        rw [nI_clamp (by omega)]
        conv => whnf
        refine lc_br2 (fun h2 => ?_) (fun h2 => ?_)
        · have e : bl (eqb (S.2.2.2 4) (S.2.2.2 5) a b (c + 1) = true) = 0 := bl_f (by
            show ¬ (eqb (S.2.2.2 4) (S.2.2.2 5) a b c && decide (S.2.2.2 4 (a * 3 + c) = S.2.2.2 4 (b * 3 + c))) = true
            rw [Bool.and_eq_true, decide_eq_true_eq]; exact fun z => h2 z.2)
          rw [e] at ih
          conv => whnf
          exact ih
        · have e : bl (eqb (S.2.2.2 4) (S.2.2.2 5) a b (c + 1) = true) = 1 := bl_t (by
            show (eqb (S.2.2.2 4) (S.2.2.2 5) a b c && decide (S.2.2.2 4 (a * 3 + c) = S.2.2.2 4 (b * 3 + c))) = true
            rw [Bool.and_eq_true, decide_eq_true_eq]; exact ⟨h1, h2⟩)
          rw [e] at ih
          conv => whnf
          exact ih)
  have h0 := loop 0 (by omega)
  refine run [25] 60 _ _ _ _ _ _ ?_
  conv => whnf
  refine ⟨vp_in_nI ha (by decide), ?_⟩
  rw [nI_clamp (by omega)]
  conv => whnf
  refine ⟨vp_in_nI hb (by decide), ?_⟩
  rw [nI_clamp (by omega)]
  conv => whnf
  refine lc_br2 (fun h2 => ?_) (fun h2 => ?_)
  · have h2 : ¬ S.2.2.2 5 a = S.2.2.2 5 b := h2
    rw [bl_f (p := eqb (S.2.2.2 4) (S.2.2.2 5) a b 0 = true) (by show ¬ decide _ = true; rw [decide_eq_true_eq]; exact h2)] at h0
    conv => whnf
    exact h0
  · have h2 : S.2.2.2 5 a = S.2.2.2 5 b := h2
    rw [bl_t (p := eqb (S.2.2.2 4) (S.2.2.2 5) a b 0 = true) (by show decide _ = true; rw [decide_eq_true_eq]; exact h2)] at h0
    conv => whnf
    exact h0
theorem ct_X7_isEqual (D : va_G) (dT : Nat → Nat) (l : Launch) : en_CT en_WD D vwCl dT l yX7_isEqual cX7_isEqual 5 (some .boolean) rm_X7_isEqual f_X7_isEqual := en_met en_WD1 en_WD2 (by decide) rfl rfl (tB_X7_isEqual D dT l) (en_f_ln (fun _ => Nat.le_of_ble_eq_true rfl)) (en_f_bd bd_X7_isEqual)
set_option maxRecDepth 100000 in
theorem mk_X7_isEqual {D : va_G} {dT : Nat → Nat} {l : Launch} {R : Room} {s : State} {args : Array Value} {own : String} {idx : Nat} (h : en_WD s) (h1 : rm_X7_isEqual.frames + 1 ≤ R.frames) (h2 : 8 + (5 + 11) + rm_X7_isEqual.locals ≤ R.locals) (hl : (Jvm.Cond.methodLink own idx yX7_isEqual).before args s = true ∨ ∃ host, (Jvm.Cond.methodLinkNest own idx yX7_isEqual host).before args s = true) : en_mok en_WD D vwCl dT l R s args own (idx, 3, 9, 0, 0, f_X7_isEqual) :=
  ⟨yX7_isEqual, cX7_isEqual, 5, some .boolean, rm_X7_isEqual, 2, ct_X7_isEqual D dT l, rfl, rfl, h1, h2, en_wd h 966 rfl rfl args, en_wd h 66 (by decide +kernel) rfl args, by decide, by decide, hl, ⟨RX7, TX7, 24, rfl, en_wd h 965 (by decide +kernel) rfl args, en_wd h 50 (by decide +kernel) rfl args, rfl⟩⟩
def f_X7_areApart := en_f (σ := Nat × Nat × Sx) (fun x => [.ref 0, .int (nI x.1), .int (nI x.2.1)]) (fun x => wM x.2.2) (fun x => x.1 < 100 ∧ x.2.1 < 100) (fun x v w => v = some (.int (bl (x.2.2.2.2.1 6 x.1 ≠ -1 ∧ x.2.2.2.2.1 6 x.2.1 ≠ -1 ∧ x.2.2.2.2.1 6 x.1 ≠ x.2.2.2.2.1 6 x.2.1))) ∧ w = wM x.2.2)
def rm_X7_areApart : Room := { frames := 0, cells := 0, slots := 0, locals := 0 }
def t_X7_areApart : en_T := ((3, 0, 0), tb_X7_areApart, fl_X7, cn_X7, [], [], 0, some .boolean)
set_option maxRecDepth 100000 in
theorem tB_X7_areApart (D : va_G) (dT : Nat → Nat) (l : Launch) : en_TB en_WD D vwCl dT l rm_X7_areApart t_X7_areApart RX7 "areApart" cX7_areApart := ⟨tk_X7_areApart, fun s args meth h hn => ⟨fo_X7 h args meth, co_X7 h args, fun _ h => absurd h List.not_mem_nil, fun _ h => absurd h List.not_mem_nil, Or.inl rfl, en_arr h args⟩⟩
set_option maxHeartbeats 4000000 in
set_option maxRecDepth 100000 in
theorem bd_X7_areApart : en_B (σ := Nat × Nat × Sx) t_X7_areApart (fun x => [.ref 0, .int (nI x.1), .int (nI x.2.1)]) (fun x => wM x.2.2) (fun x => x.1 < 100 ∧ x.2.1 < 100) (fun x v w => v = some (.int (bl (x.2.2.2.2.1 6 x.1 ≠ -1 ∧ x.2.2.2.2.1 6 x.2.1 ≠ -1 ∧ x.2.2.2.2.1 6 x.1 ≠ x.2.2.2.2.1 6 x.2.1))) ∧ w = wM x.2.2) := by
  rintro ⟨a, b, S⟩ ⟨ha, hb⟩ G hG OK ⟨run, sub⟩
  dsimp only at ha hb hG ⊢
  refine run [] 40 _ _ _ _ _ _ ?_
  conv => whnf
  refine ⟨vp_in_nI ha (by decide), ?_⟩
  rw [nI_clamp (by omega)]
  conv => whnf
  refine ⟨fun h1 => ?_, fun h1 => ?_⟩
  · conv => whnf
    exact ⟨rfl, hG _ _ ⟨bl_af (fun z => z.1 h1) rfl, rfl⟩⟩
  · conv => whnf
    refine ⟨vp_in_nI hb (by decide), ?_⟩
    rw [nI_clamp (by omega)]
    conv => whnf
    refine ⟨fun h2 => ?_, fun h2 => ?_⟩
    · conv => whnf
      exact ⟨rfl, hG _ _ ⟨bl_af (fun z => z.2.1 h2) rfl, rfl⟩⟩
    · conv => whnf
      refine ⟨vp_in_nI ha (by decide), ?_⟩
      rw [nI_clamp (by omega)]
      conv => whnf
      refine ⟨vp_in_nI hb (by decide), ?_⟩
      rw [nI_clamp (by omega)]
      conv => whnf
      refine ⟨fun h => ?_, fun h => ?_⟩
      · conv => whnf
        exact ⟨rfl, hG _ _ ⟨bl_af (fun z => z.2.2 h) rfl, rfl⟩⟩
      · conv => whnf
        exact ⟨rfl, hG _ _ ⟨bl_at ⟨h1, h2, h⟩ rfl, rfl⟩⟩
theorem ct_X7_areApart (D : va_G) (dT : Nat → Nat) (l : Launch) : en_CT en_WD D vwCl dT l yX7_areApart cX7_areApart 3 (some .boolean) rm_X7_areApart f_X7_areApart := en_met en_WD1 en_WD2 (by decide) rfl rfl (tB_X7_areApart D dT l) (en_f_ln (fun _ => Nat.le_of_ble_eq_true rfl)) (en_f_bd bd_X7_areApart)
set_option maxRecDepth 100000 in
theorem mk_X7_areApart {D : va_G} {dT : Nat → Nat} {l : Launch} {R : Room} {s : State} {args : Array Value} {own : String} {idx : Nat} (h : en_WD s) (h1 : rm_X7_areApart.frames + 1 ≤ R.frames) (h2 : 8 + (3 + 11) + rm_X7_areApart.locals ≤ R.locals) (hl : (Jvm.Cond.methodLink own idx yX7_areApart).before args s = true ∨ ∃ host, (Jvm.Cond.methodLinkNest own idx yX7_areApart host).before args s = true) : en_mok en_WD D vwCl dT l R s args own (idx, 3, 9, 0, 0, f_X7_areApart) :=
  ⟨yX7_areApart, cX7_areApart, 3, some .boolean, rm_X7_areApart, 2, ct_X7_areApart D dT l, rfl, rfl, h1, h2, en_wd h 962 rfl rfl args, en_wd h 66 (by decide +kernel) rfl args, by decide, by decide, hl, ⟨RX7, TX7, 24, rfl, en_wd h 961 (by decide +kernel) rfl args, en_wd h 49 (by decide +kernel) rfl args, rfl⟩⟩
/-- near, as the reference says it -/
abbrev nearm (N Wd : Nat → Int64) (nn : Int32) (a b : Nat) : Prop := Wd a ≠ 0 ∧ Wd b ≠ 0 ∧ ¬ alike N Wd a b ∧ ¬ bcn (Wd a &&& Wd b) 64 * (Int8.ofInt 100).toInt32 < nn * bcn (Wd a ||| Wd b) 64
def f_X7_areNear := en_f (σ := Nat × Nat × Sx) (fun x => [.ref 0, .int (nI x.1), .int (nI x.2.1)]) (fun x => wM x.2.2) (fun x => x.1 < 100 ∧ x.2.1 < 100) (fun x v w => v = some (.int (bl (nearm (x.2.2.2.2.2 4) (x.2.2.2.2.2 5) (x.2.2.1 3) x.1 x.2.1))) ∧ w = wM x.2.2)
def rm_X7_areNear : Room := { frames := 1, cells := 0, slots := 0, locals := 24 }
def t_X7_areNear : en_T := ((4, 0, 0), tb_X7_areNear, fl_X7, cn_X7, [(138, 3, 9, 0, 0, f_X7_isEqual), (81, 1, 0, 0, 0, f_X7_bits)], [], 0, some .boolean)
set_option maxRecDepth 100000 in
theorem tB_X7_areNear (D : va_G) (dT : Nat → Nat) (l : Launch) : en_TB en_WD D vwCl dT l rm_X7_areNear t_X7_areNear RX7 "areNear" cX7_areNear := ⟨tk_X7_areNear, fun s args meth h hn => ⟨fo_X7 h args meth, co_X7 h args, List.forall_mem_cons.mpr ⟨mk_X7_isEqual (own := RX7) h (Nat.le_of_ble_eq_true rfl) (Nat.le_of_ble_eq_true rfl) (Or.inl (en_wd h 963 (by decide +kernel) rfl args)), List.forall_mem_cons.mpr ⟨mk_X7_bits (own := RX7) h (Nat.le_of_ble_eq_true rfl) (Nat.le_of_ble_eq_true rfl) (Or.inl (en_wd h 845 (by decide +kernel) rfl args)), fun _ h => absurd h List.not_mem_nil⟩⟩, fun _ h => absurd h List.not_mem_nil, Or.inl rfl, en_arr h args⟩⟩
set_option maxHeartbeats 4000000 in
set_option maxRecDepth 100000 in
theorem bd_X7_areNear : en_B (σ := Nat × Nat × Sx) t_X7_areNear (fun x => [.ref 0, .int (nI x.1), .int (nI x.2.1)]) (fun x => wM x.2.2) (fun x => x.1 < 100 ∧ x.2.1 < 100) (fun x v w => v = some (.int (bl (nearm (x.2.2.2.2.2 4) (x.2.2.2.2.2 5) (x.2.2.1 3) x.1 x.2.1))) ∧ w = wM x.2.2) := by
  rintro ⟨a, b, S⟩ ⟨ha, hb⟩ G hG OK ⟨run, sub⟩
  dsimp only at ha hb hG ⊢
  unfold nearm at hG
  generalize hB1 : bcn (S.2.2.2 5 a &&& S.2.2.2 5 b) 64 = B1 at hG
  generalize hB2 : bcn (S.2.2.2 5 a ||| S.2.2.2 5 b) 64 = B2 at hG
  refine run [] 80 _ _ _ _ _ _ ?_
  conv => whnf
  refine ⟨vp_in_nI ha (by decide), ?_⟩
  rw [nI_clamp (by omega)]
  conv => whnf
  refine lc_br (fun h1 => ?_) (fun h1 => ?_)
  · conv => whnf
    refine ⟨fun _ => ?_, fun z => absurd rfl z⟩
    conv => whnf
    exact ⟨rfl, hG _ _ ⟨bl_af (fun z => z.1 h1) rfl, rfl⟩⟩
  · conv => whnf
    refine ⟨vp_in_nI hb (by decide), ?_⟩
    rw [nI_clamp (by omega)]
    conv => whnf
    refine lc_br (fun h2 => ?_) (fun h2 => ?_)
    · conv => whnf
      refine ⟨fun _ => ?_, fun z => absurd rfl z⟩
      conv => whnf
      exact ⟨rfl, hG _ _ ⟨bl_af (fun z => z.2.1 h2) rfl, rfl⟩⟩
    · conv => whnf
      refine ⟨(a, b, S), rfl, rfl, ⟨ha, hb⟩, ?_⟩
      rintro _ _ ⟨rfl, rfl⟩
      conv => whnf
      refine bl_br2 (fun h3 => ?_) (fun h3 => ?_)
      · conv => whnf
        refine ⟨fun _ => ?_, fun z => absurd rfl z⟩
        conv => whnf
        exact ⟨rfl, hG _ _ ⟨bl_af (fun z => z.2.2.1 h3) rfl, rfl⟩⟩
      · conv => whnf
        refine ⟨fun z => absurd (show (Int32.ofInt 1) = 0 from z) (by decide), fun _ => ?_⟩
        conv => whnf
        refine ⟨vp_in_nI ha (by decide), ?_⟩
        rw [nI_clamp (by omega)]
        conv => whnf
        refine ⟨vp_in_nI hb (by decide), ?_⟩
        rw [nI_clamp (by omega)]
        conv => whnf
        refine ⟨(S.2.2.2 5 a &&& S.2.2.2 5 b, wM S), rfl, rfl, trivial, ?_⟩
        intro v u hvu
        obtain ⟨rfl, rfl⟩ : v = some (.int B1) ∧ u = wM S := by rw [← hB1]; exact hvu
        conv => whnf
        refine ⟨vp_in_nI ha (by decide), ?_⟩
        rw [nI_clamp (by omega)]
        conv => whnf
        refine ⟨vp_in_nI hb (by decide), ?_⟩
        rw [nI_clamp (by omega)]
        conv => whnf
        refine ⟨(S.2.2.2 5 a ||| S.2.2.2 5 b, wM S), rfl, rfl, trivial, ?_⟩
        intro v u hvu
        obtain ⟨rfl, rfl⟩ : v = some (.int B2) ∧ u = wM S := by rw [← hB2]; exact hvu
        conv => whnf
        refine ⟨fun h4 => ?_, fun h4 => ?_⟩
        · conv => whnf
          exact ⟨rfl, hG _ _ ⟨bl_af (fun z => z.2.2.2 h4) rfl, rfl⟩⟩
        · conv => whnf
          exact ⟨rfl, hG _ _ ⟨bl_at ⟨h1, h2, h3, h4⟩ rfl, rfl⟩⟩
theorem ct_X7_areNear (D : va_G) (dT : Nat → Nat) (l : Launch) : en_CT en_WD D vwCl dT l yX7_areNear cX7_areNear 4 (some .boolean) rm_X7_areNear f_X7_areNear := en_met en_WD1 en_WD2 (by decide) rfl rfl (tB_X7_areNear D dT l) (en_f_ln (fun _ => Nat.le_of_ble_eq_true rfl)) (en_f_bd bd_X7_areNear)
set_option maxRecDepth 100000 in
theorem mk_X7_areNear {D : va_G} {dT : Nat → Nat} {l : Launch} {R : Room} {s : State} {args : Array Value} {own : String} {idx : Nat} (h : en_WD s) (h1 : rm_X7_areNear.frames + 1 ≤ R.frames) (h2 : 8 + (4 + 11) + rm_X7_areNear.locals ≤ R.locals) (hl : (Jvm.Cond.methodLink own idx yX7_areNear).before args s = true ∨ ∃ host, (Jvm.Cond.methodLinkNest own idx yX7_areNear host).before args s = true) : en_mok en_WD D vwCl dT l R s args own (idx, 3, 9, 0, 0, f_X7_areNear) :=
  ⟨yX7_areNear, cX7_areNear, 4, some .boolean, rm_X7_areNear, 2, ct_X7_areNear D dT l, rfl, rfl, h1, h2, en_wd h 970 rfl rfl args, en_wd h 66 (by decide +kernel) rfl args, by decide, by decide, hl, ⟨RX7, TX7, 24, rfl, en_wd h 969 (by decide +kernel) rfl args, en_wd h 51 (by decide +kernel) rfl args, rfl⟩⟩
def f_X7_tell := en_f (σ := Int32 × Int32 × Int32 × Sx) (fun x => [.ref 0, .int x.1, .int x.2.1, .int x.2.2.1]) (fun x => wM x.2.2.2) (fun _ => True) (fun x v w => v = none ∧ w = wM (xf x.2.2.2 (tk x.1 (s3 x.2.2.2) x.2.1 x.2.2.1)))
def rm_X7_tell : Room := { frames := 0, cells := 0, slots := 0, locals := 0 }
def t_X7_tell : en_T := ((4, 0, 0), tb_X7_tell, fl_X7, cn_X7, [], [], 0, none)
set_option maxRecDepth 100000 in
theorem tB_X7_tell (D : va_G) (dT : Nat → Nat) (l : Launch) : en_TB en_WD D vwCl dT l rm_X7_tell t_X7_tell RX7 "tell" cX7_tell := ⟨tk_X7_tell, fun s args meth h hn => ⟨fo_X7 h args meth, co_X7 h args, fun _ h => absurd h List.not_mem_nil, fun _ h => absurd h List.not_mem_nil, Or.inl rfl, en_arr h args⟩⟩
set_option maxHeartbeats 4000000 in
set_option maxRecDepth 100000 in
theorem bd_X7_tell : en_B (σ := Int32 × Int32 × Int32 × Sx) t_X7_tell (fun x => [.ref 0, .int x.1, .int x.2.1, .int x.2.2.1]) (fun x => wM x.2.2.2) (fun _ => True) (fun x v w => v = none ∧ w = wM (xf x.2.2.2 (tk x.1 (s3 x.2.2.2) x.2.1 x.2.2.1))) := by
  rintro ⟨i, a, b, S⟩ - G hG OK ⟨run, sub⟩
  dsimp only at hG ⊢
  refine run [] 60 _ _ _ _ _ _ ?_
  conv => whnf
  refine ⟨fun h => ?_, fun h => ?_⟩
  · conv => whnf
    refine hG _ _ ⟨rfl, ?_⟩
    unfold tk
    rw [if_neg h, if_neg h]
    rfl
  · conv => whnf
    refine hG _ _ ⟨rfl, ?_⟩
    unfold tk
    rw [if_pos h, if_pos h]
    rfl
theorem ct_X7_tell (D : va_G) (dT : Nat → Nat) (l : Launch) : en_CT en_WD D vwCl dT l yX7_tell cX7_tell 4 (none) rm_X7_tell f_X7_tell := en_met en_WD1 en_WD2 (by decide) rfl rfl (tB_X7_tell D dT l) (en_f_ln (fun _ => Nat.le_of_ble_eq_true rfl)) (en_f_bd bd_X7_tell)
set_option maxRecDepth 100000 in
theorem mk_X7_tell {D : va_G} {dT : Nat → Nat} {l : Launch} {R : Room} {s : State} {args : Array Value} {own : String} {idx : Nat} (h : en_WD s) (h1 : rm_X7_tell.frames + 1 ≤ R.frames) (h2 : 8 + (4 + 11) + rm_X7_tell.locals ≤ R.locals) (hl : (Jvm.Cond.methodLink own idx yX7_tell).before args s = true ∨ ∃ host, (Jvm.Cond.methodLinkNest own idx yX7_tell host).before args s = true) : en_mok en_WD D vwCl dT l R s args own (idx, 4, 9, 0, 0, f_X7_tell) :=
  ⟨yX7_tell, cX7_tell, 4, none, rm_X7_tell, 3, ct_X7_tell D dT l, rfl, rfl, h1, h2, en_wd h 974 rfl rfl args, en_wd h 66 (by decide +kernel) rfl args, by decide, by decide, hl, ⟨RX7, TX7, 24, rfl, en_wd h 973 (by decide +kernel) rfl args, en_wd h 52 (by decide +kernel) rfl args, rfl⟩⟩
abbrev pairm (N Wd : Nat → Int64) (P : Nat → Int32) (eq nn : Int32) (a b : Nat) : Prop := a + 1 ≤ b ∧ (P a ≠ -1 ∧ P b ≠ -1 ∧ P a ≠ P b) ∧ (if eq = 0 then nearm N Wd nn a b else alike N Wd a b)
def LpairM (N Wd : Nat → Int64) (P : Nat → Int32) (eq nn : Int32) (n : Nat) : List (Int32 × Int32) := lsn (fun a => lsn (fun b => ifl (pairm N Wd P eq nn a b) (nI a) (nI b)) n) n
def f_X7_pairs := en_f (σ := Nat × Int32 × Int32 × Sx) (fun x => [.ref 0, .int x.2.1, .int x.2.2.1]) (fun x => wM x.2.2.2) (fun x => x.1 ≤ 100 ∧ x.2.2.2.1 0 = nI x.1) (fun x v w => v = none ∧ w = wM (xf x.2.2.2 (tks x.2.2.1 (s3 x.2.2.2) (LpairM (x.2.2.2.2.2.2 4) (x.2.2.2.2.2.2 5) (x.2.2.2.2.2.1 6) x.2.1 (x.2.2.2.1 3) x.1))))
def rm_X7_pairs : Room := { frames := 2, cells := 0, slots := 0, locals := 47 }
def t_X7_pairs : en_T := ((5, 0, 0), tb_X7_pairs, fl_X7, cn_X7, [(151, 3, 9, 0, 0, f_X7_areApart), (138, 3, 9, 0, 0, f_X7_isEqual), (154, 3, 9, 0, 0, f_X7_areNear), (157, 4, 9, 0, 0, f_X7_tell)], [], 0, none)
set_option maxRecDepth 100000 in
theorem tB_X7_pairs (D : va_G) (dT : Nat → Nat) (l : Launch) : en_TB en_WD D vwCl dT l rm_X7_pairs t_X7_pairs RX7 "pairs" cX7_pairs := ⟨tk_X7_pairs, fun s args meth h hn => ⟨fo_X7 h args meth, co_X7 h args, List.forall_mem_cons.mpr ⟨mk_X7_areApart (own := RX7) h (Nat.le_of_ble_eq_true rfl) (Nat.le_of_ble_eq_true rfl) (Or.inl (en_wd h 959 (by decide +kernel) rfl args)), List.forall_mem_cons.mpr ⟨mk_X7_isEqual (own := RX7) h (Nat.le_of_ble_eq_true rfl) (Nat.le_of_ble_eq_true rfl) (Or.inl (en_wd h 963 (by decide +kernel) rfl args)), List.forall_mem_cons.mpr ⟨mk_X7_areNear (own := RX7) h (Nat.le_of_ble_eq_true rfl) (Nat.le_of_ble_eq_true rfl) (Or.inl (en_wd h 967 (by decide +kernel) rfl args)), List.forall_mem_cons.mpr ⟨mk_X7_tell (own := RX7) h (Nat.le_of_ble_eq_true rfl) (Nat.le_of_ble_eq_true rfl) (Or.inl (en_wd h 971 (by decide +kernel) rfl args)), fun _ h => absurd h List.not_mem_nil⟩⟩⟩⟩, fun _ h => absurd h List.not_mem_nil, Or.inl rfl, en_arr h args⟩⟩
set_option maxHeartbeats 4000000 in
set_option maxRecDepth 100000 in
theorem bd_X7_pairs : en_B (σ := Nat × Int32 × Int32 × Sx) t_X7_pairs (fun x => [.ref 0, .int x.2.1, .int x.2.2.1]) (fun x => wM x.2.2.2) (fun x => x.1 ≤ 100 ∧ x.2.2.2.1 0 = nI x.1) (fun x v w => v = none ∧ w = wM (xf x.2.2.2 (tks x.2.2.1 (s3 x.2.2.2) (LpairM (x.2.2.2.2.2.2 4) (x.2.2.2.2.2.2 5) (x.2.2.2.2.2.1 6) x.2.1 (x.2.2.2.1 3) x.1)))) := by
  rintro ⟨n, eq, wt, S⟩ ⟨hn, h1⟩ G hG OK ⟨run, sub⟩
  dsimp only at hn h1 hG ⊢
  unfold LpairM at hG
  have outer := lp_up (fun a => OK 0 0 2 [(0, .ref 0), (1, .int eq), (2, .int wt), (3, .int (nI a))] [] (wM (xf S (tks wt (s3 S) (lsn (fun a => lsn (fun b => ifl (pairm (S.2.2.2 4) (S.2.2.2 5) (S.2.2.1 6) eq (S.1 3) a b) (nI a) (nI b)) n) a))))) n
    (by
      generalize tks wt (s3 S) (lsn (fun a => lsn (fun b => ifl (pairm (S.2.2.2 4) (S.2.2.2 5) (S.2.2.1 6) eq (S.1 3) a b) (nI a) (nI b)) n) n) = Y at hG ⊢
      refine run [2] 60 _ _ _ _ _ _ ?_
      conv => whnf
      refine pk_le n n (fun h => ?_) (fun h => absurd h (by omega)) h1
      conv => whnf
      exact hG _ _ ⟨rfl, rfl⟩)
    (fun a ha iha => by
      simp only [lsn] at iha
      rw [tks_app, nI_succ] at iha
      generalize tks wt (s3 S) (lsn (fun a => lsn (fun b => ifl (pairm (S.2.2.2 4) (S.2.2.2 5) (S.2.2.1 6) eq (S.1 3) a b) (nI a) (nI b)) n) a) = Y at iha ⊢
      have inner := lp_up (fun b => a + 1 ≤ b → OK 0 0 15 [(0, .ref 0), (1, .int eq), (2, .int wt), (3, .int (nI a)), (4, .int (nI b))] [] (wM (xf S (tks wt Y (lsn (fun b => ifl (pairm (S.2.2.2 4) (S.2.2.2 5) (S.2.2.1 6) eq (S.1 3) a b) (nI a) (nI b)) b))))) n
        (fun _ => by
          generalize tks wt Y (lsn (fun b => ifl (pairm (S.2.2.2 4) (S.2.2.2 5) (S.2.2.1 6) eq (S.1 3) a b) (nI a) (nI b)) n) = X at iha ⊢
          refine run [2, 15] 60 _ _ _ _ _ _ ?_
          conv => whnf
          refine pk_le n n (fun h => ?_) (fun h => absurd h (by omega)) h1
          conv => whnf
          exact sub [0, 1, 2, 3] _ _ _ _ _ _ _ rfl iha)
        (fun b hb ihb hab => by
          have ihb := ihb (by omega)
          simp only [lsn] at ihb
          rw [tks_app, nI_succ] at ihb
          generalize tks wt Y (lsn (fun b => ifl (pairm (S.2.2.2 4) (S.2.2.2 5) (S.2.2.1 6) eq (S.1 3) a b) (nI a) (nI b)) b) = X at ihb ⊢
          have hno : ¬ pairm (S.2.2.2 4) (S.2.2.2 5) (S.2.2.1 6) eq (S.1 3) a b → OK 0 0 15 [(0, .ref 0), (1, .int eq), (2, .int wt), (3, .int (nI a)), (4, .int (nI b + 1))] [] (wM (xf S X)) := fun h => by
            rw [ifl_f h, tks_0] at ihb; exact ihb
          have htake : pairm (S.2.2.2 4) (S.2.2.2 5) (S.2.2.1 6) eq (S.1 3) a b → ∀ (v : Option Value) (u : List va_E), (v = none ∧ u = wM (xf (xf S X) (tk wt (s3 (xf S X)) (nI a) (nI b)))) → v = none ∧ OK 0 0 15 [(0, .ref 0), (1, .int eq), (2, .int wt), (3, .int (nI a)), (4, .int (nI b + 1))] [] u := fun hq v u hvu => by
            obtain ⟨rfl, rfl⟩ := hvu
            rw [ifl_t hq, tks_1] at ihb
            exact ⟨rfl, ihb⟩
          refine run [2, 15] 80 _ _ _ _ _ _ ?_
          conv => whnf
          refine pk_le n b (fun h => absurd h (by omega)) (fun h => ?_) h1
          conv => whnf
          refine ⟨(a, b, xf S X), rfl, rfl, (by dsimp only; omega), ?_⟩
          intro v u hvu
          obtain ⟨rfl, rfl⟩ : v = some (.int (bl (S.2.2.1 6 a ≠ -1 ∧ S.2.2.1 6 b ≠ -1 ∧ S.2.2.1 6 a ≠ S.2.2.1 6 b))) ∧ u = wM (xf S X) := hvu
          conv => whnf
          refine bl_br (fun hp => ?_) (fun hp => ?_)
          · conv => whnf
            exact hno (fun z => hp z.2.1)
          · conv => whnf
            refine ⟨fun hk => ?_, fun hk => ?_⟩
            · have hk : eq = 0 := hk
              conv => whnf
              refine ⟨(a, b, xf S X), rfl, rfl, (by dsimp only; omega), ?_⟩
              intro v u hvu
              obtain ⟨rfl, rfl⟩ : v = some (.int (bl (nearm (S.2.2.2 4) (S.2.2.2 5) (S.1 3) a b))) ∧ u = wM (xf S X) := hvu
              conv => whnf
              refine bl_br (fun hq => ?_) (fun hq => ?_)
              · conv => whnf
                exact hno (fun z => hq (by have := z.2.2; rw [if_pos hk] at this; exact this))
              · conv => whnf
                refine ⟨(wt, nI a, nI b, xf S X), rfl, rfl, trivial, ?_⟩
                intro v u hvu
                obtain ⟨rfl, h2⟩ := htake ⟨hab, hp, by rw [if_pos hk]; exact hq⟩ v u hvu
                conv => whnf
                exact h2
            · have hk : ¬ eq = 0 := hk
              conv => whnf
              refine ⟨(a, b, xf S X), rfl, rfl, (by dsimp only; omega), ?_⟩
              intro v u hvu
              obtain ⟨rfl, rfl⟩ : v = some (.int (bl (alike (S.2.2.2 4) (S.2.2.2 5) a b))) ∧ u = wM (xf S X) := hvu
              conv => whnf
              refine bl_br (fun hq => ?_) (fun hq => ?_)
              · conv => whnf
                exact hno (fun z => hq (by have := z.2.2; rw [if_neg hk] at this; exact this))
              · conv => whnf
                refine ⟨(wt, nI a, nI b, xf S X), rfl, rfl, trivial, ?_⟩
                intro v u hvu
                obtain ⟨rfl, h2⟩ := htake ⟨hab, hp, by rw [if_neg hk]; exact hq⟩ v u hvu
                conv => whnf
                exact h2)
      have hi := inner (a + 1) (by omega) (Nat.le_refl _)
      rw [lsn_0 (fun i hi => ifl_f (fun z => by have := z.1; omega)), tks_0, nI_succ] at hi
      refine run [2, 15] 60 _ _ _ _ _ _ ?_
      conv => whnf
      refine pk_le n a (fun h => absurd h (by omega)) (fun h => ?_) h1
      conv => whnf
      exact hi)
  refine run [2] 60 _ _ _ _ _ _ ?_
  conv => whnf
  exact outer 0 (by omega)
theorem ct_X7_pairs (D : va_G) (dT : Nat → Nat) (l : Launch) : en_CT en_WD D vwCl dT l yX7_pairs cX7_pairs 5 (none) rm_X7_pairs f_X7_pairs := en_met en_WD1 en_WD2 (by decide) rfl rfl (tB_X7_pairs D dT l) (en_f_ln (fun _ => Nat.le_of_ble_eq_true rfl)) (en_f_bd bd_X7_pairs)
set_option maxRecDepth 100000 in
theorem mk_X7_pairs {D : va_G} {dT : Nat → Nat} {l : Launch} {R : Room} {s : State} {args : Array Value} {own : String} {idx : Nat} (h : en_WD s) (h1 : rm_X7_pairs.frames + 1 ≤ R.frames) (h2 : 8 + (5 + 11) + rm_X7_pairs.locals ≤ R.locals) (hl : (Jvm.Cond.methodLink own idx yX7_pairs).before args s = true ∨ ∃ host, (Jvm.Cond.methodLinkNest own idx yX7_pairs host).before args s = true) : en_mok en_WD D vwCl dT l R s args own (idx, 3, 9, 0, 0, f_X7_pairs) :=
  ⟨yX7_pairs, cX7_pairs, 5, none, rm_X7_pairs, 2, ct_X7_pairs D dT l, rfl, rfl, h1, h2, en_wd h 958 rfl rfl args, en_wd h 66 (by decide +kernel) rfl args, by decide, by decide, hl, ⟨RX7, TX7, 24, rfl, en_wd h 957 (by decide +kernel) rfl args, en_wd h 48 (by decide +kernel) rfl args, rfl⟩⟩
