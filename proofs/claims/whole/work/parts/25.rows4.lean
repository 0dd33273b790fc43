/-! SplitLeaks$Rows: digests and meetings, a new row -/
def f_X2_digestOf := en_f (σ := Nat × Sx) (fun x => [.ref 1, .int (nI x.1)]) (fun x => wX x.2) (fun x => x.1 < 100) (fun x v w => v = some (.int (dig (x.2.2.2.2 6) (x.2.2.2.2 7) x.1)) ∧ w = wX x.2)
def rm_X2_digestOf : Room := { frames := 0, cells := 0, slots := 0, locals := 0 }
def t_X2_digestOf : en_T := ((5, 0, 0), tb_X2_digestOf, fl_X2, cn_X2, [], [], 0, some .int)
set_option maxRecDepth 100000 in
theorem tB_X2_digestOf (D : va_G) (dT : Nat → Nat) (l : Launch) : en_TB en_WD D vwCl dT l rm_X2_digestOf t_X2_digestOf RX2 "digestOf" cX2_digestOf := ⟨tk_X2_digestOf, fun s args meth h hn => ⟨fo_X2 h args meth, co_X2 h args, fun _ h => absurd h List.not_mem_nil, fun _ h => absurd h List.not_mem_nil, Or.inl rfl, en_arr h args⟩⟩
set_option maxHeartbeats 4000000 in
set_option maxRecDepth 100000 in
theorem bd_X2_digestOf : en_B (σ := Nat × Sx) t_X2_digestOf (fun x => [.ref 1, .int (nI x.1)]) (fun x => wX x.2) (fun x => x.1 < 100) (fun x v w => v = some (.int (dig (x.2.2.2.2 6) (x.2.2.2.2 7) x.1)) ∧ w = wX x.2) := by
  rintro ⟨a, S⟩ ha G hG OK ⟨run, sub⟩
  dsimp only at ha hG ⊢
  have loop := lp_up (fun i => OK 0 0 7 [(0, .ref 1), (1, .int (nI a)), (2, .long (dh (S.2.2.2 6) a i)), (4, .int (nI i))] [] (wX S)) 3
    (by
      refine run [7] 60 _ _ _ _ _ _ ?_
      conv => whnf
      refine pk_le 3 3 (fun h => ?_) (fun h => absurd h (by omega))
      conv => whnf
      refine ⟨vp_in_nI ha (by decide), ?_⟩
      rw [nI_clamp (by omega)]
      conv => whnf
      exact hG _ _ ⟨rfl, rfl⟩)
    (fun i hi ih => by
      refine run [7] 60 _ _ _ _ _ _ ?_
      conv => whnf
      refine pk_le 3 i (fun h => absurd h (by omega)) (fun h => ?_)
      conv => whnf
      rw [mul3]
      refine ⟨vp_in_nI (by omega) (by decide), ?_⟩
      rw [nI_clamp (by omega)]
      conv => whnf
      rw [nI_succ] at ih
      exact ih)
  refine run [7] 60 _ _ _ _ _ _ ?_
  conv => whnf
  exact loop 0 (by omega)
theorem ct_X2_digestOf (D : va_G) (dT : Nat → Nat) (l : Launch) : en_CT en_WD D vwCl dT l yX2_digestOf cX2_digestOf 5 (some .int) rm_X2_digestOf f_X2_digestOf := en_met en_WD1 en_WD2 (by decide) rfl rfl (tB_X2_digestOf D dT l) (en_f_ln (fun _ => Nat.le_of_ble_eq_true rfl)) (en_f_bd bd_X2_digestOf)
set_option maxRecDepth 100000 in
theorem mk_X2_digestOf {D : va_G} {dT : Nat → Nat} {l : Launch} {R : Room} {s : State} {args : Array Value} {own : String} {idx : Nat} (h : en_WD s) (h1 : rm_X2_digestOf.frames + 1 ≤ R.frames) (h2 : 8 + (5 + 11) + rm_X2_digestOf.locals ≤ R.locals) (hl : (Jvm.Cond.methodLink own idx yX2_digestOf).before args s = true ∨ ∃ host, (Jvm.Cond.methodLinkNest own idx yX2_digestOf host).before args s = true) : en_mok en_WD D vwCl dT l R s args own (idx, 2, 4, 0, 0, f_X2_digestOf) :=
  ⟨yX2_digestOf, cX2_digestOf, 5, some .int, rm_X2_digestOf, 1, ct_X2_digestOf D dT l, rfl, rfl, h1, h2, en_wd h 606 rfl rfl args, en_wd h 60 (by decide +kernel) rfl args, by decide, by decide, hl, ⟨RX2, TX2, 8, rfl, en_wd h 605 (by decide +kernel) rfl args, en_wd h 32 (by decide +kernel) rfl args, rfl⟩⟩
/-- which rows behind a meet it -/
abbrev mtq (N Wd : Nat → Int64) (P : Nat → Int32) (a b : Nat) : Prop := dig N Wd a = dig N Wd b ∧ P b ≠ -1 ∧ ¬ alike N Wd a b
def f_X2_countMeetingsBehind := en_f (σ := Nat × Nat × Sx) (fun x => [.ref 1, .int (nI x.2.1)]) (fun x => wX x.2.2) (fun x => x.1 ≤ 100 ∧ x.2.2.1 1 = nI x.1 ∧ x.2.1 < x.1 ∧ ∀ r, r < x.1 → x.2.2.2.2.1 8 r = dig (x.2.2.2.2.2 6) (x.2.2.2.2.2 7) r) (fun x v w => v = some (.int (nI (ct (fun b => x.2.1 + 1 ≤ b ∧ mtq (x.2.2.2.2.2 6) (x.2.2.2.2.2 7) (x.2.2.2.2.1 5) x.2.1 b) x.1))) ∧ w = wX x.2.2)
def rm_X2_countMeetingsBehind : Room := { frames := 2, cells := 0, slots := 0, locals := 46 }
def t_X2_countMeetingsBehind : en_T := ((4, 0, 0), tb_X2_countMeetingsBehind, fl_X2, cn_X2, [(42, 2, 4, 0, 0, f_X2_isPlaced), (67, 3, 4, 0, 0, f_X2_areAlike)], [], 0, some .int)
set_option maxRecDepth 100000 in
theorem tB_X2_countMeetingsBehind (D : va_G) (dT : Nat → Nat) (l : Launch) : en_TB en_WD D vwCl dT l rm_X2_countMeetingsBehind t_X2_countMeetingsBehind RX2 "countMeetingsBehind" cX2_countMeetingsBehind := ⟨tk_X2_countMeetingsBehind, fun s args meth h hn => ⟨fo_X2 h args meth, co_X2 h args, List.forall_mem_cons.mpr ⟨mk_X2_isPlaced (own := RX2) h (Nat.le_of_ble_eq_true rfl) (Nat.le_of_ble_eq_true rfl) (Or.inl (en_wd h 417 (by decide +kernel) rfl args)), List.forall_mem_cons.mpr ⟨mk_X2_areAlike (own := RX2) h (Nat.le_of_ble_eq_true rfl) (Nat.le_of_ble_eq_true rfl) (Or.inl (en_wd h 614 (by decide +kernel) rfl args)), fun _ h => absurd h List.not_mem_nil⟩⟩, fun _ h => absurd h List.not_mem_nil, Or.inl rfl, en_arr h args⟩⟩
set_option maxHeartbeats 4000000 in
set_option maxRecDepth 100000 in
theorem bd_X2_countMeetingsBehind : en_B (σ := Nat × Nat × Sx) t_X2_countMeetingsBehind (fun x => [.ref 1, .int (nI x.2.1)]) (fun x => wX x.2.2) (fun x => x.1 ≤ 100 ∧ x.2.2.1 1 = nI x.1 ∧ x.2.1 < x.1 ∧ ∀ r, r < x.1 → x.2.2.2.2.1 8 r = dig (x.2.2.2.2.2 6) (x.2.2.2.2.2 7) r) (fun x v w => v = some (.int (nI (ct (fun b => x.2.1 + 1 ≤ b ∧ mtq (x.2.2.2.2.2 6) (x.2.2.2.2.2 7) (x.2.2.2.2.1 5) x.2.1 b) x.1))) ∧ w = wX x.2.2) := by
  rintro ⟨n, a, S⟩ ⟨hn, h1, ha, hd⟩ G hG OK ⟨run, sub⟩
  dsimp only at hn h1 ha hd hG ⊢
  have loop := lp_up (fun i => a + 1 ≤ i → OK 0 0 6 [(0, .ref 1), (1, .int (nI a)), (2, .int (nI (ct (fun b => a + 1 ≤ b ∧ mtq (S.2.2.2 6) (S.2.2.2 7) (S.2.2.1 5) a b) i))), (3, .int (nI i))] [] (wX S)) n
    (fun _ => by
      refine run [6] 60 _ _ _ _ _ _ ?_
      conv => whnf
      refine pk_le n n (fun h => ?_) (fun h => absurd h (by omega)) h1
      conv => whnf
      exact hG _ _ ⟨rfl, rfl⟩)
    (fun i hi ih hai => by
      have ih := ih (by omega)
      refine run [6] 60 _ _ _ _ _ _ ?_
      conv => whnf
      refine pk_le n i (fun h => absurd h (by omega)) (fun h => ?_) h1
      conv => whnf
      refine ⟨vp_in_nI (by omega) (by decide), ?_⟩
      rw [nI_clamp (by omega)]
      conv => whnf
      refine ⟨vp_in_nI (by omega) (by decide), ?_⟩
      rw [nI_clamp (by omega)]
      conv => whnf
      rw [hd a ha, hd i hi]
      rw [nI_succ] at ih
      refine ⟨fun hp => ?_, fun hp => ?_⟩
      · conv => whnf
        rw [ct_f (fun z => hp z.2.1)] at ih
        exact ih
      · conv => whnf
        refine ⟨(i, S), rfl, rfl, (by dsimp only; omega), ?_⟩
        rintro _ _ ⟨rfl, rfl⟩
        conv => whnf
        refine bl_br (fun hq => ?_) (fun hq => ?_)
        · conv => whnf
          rw [ct_f (fun z => hq z.2.2.1)] at ih
          exact ih
        · conv => whnf
          refine ⟨(a, i, S), rfl, rfl, (by dsimp only; omega), ?_⟩
          rintro _ _ ⟨rfl, rfl⟩
          conv => whnf
          refine bl_br2 (fun hr => ?_) (fun hr => ?_)
          · conv => whnf
            rw [ct_f (fun z => z.2.2.2 hr)] at ih
            exact ih
          · conv => whnf
            rw [ct_t ⟨hai, hp, hq, hr⟩, nI_succ] at ih
            exact ih)
  refine run [6] 60 _ _ _ _ _ _ ?_
  conv => whnf
  have h0 := loop (a + 1) (by omega) (Nat.le_refl _)
  rw [ct_0 (fun i hi z => by omega), nI_succ] at h0
  exact h0
theorem ct_X2_countMeetingsBehind (D : va_G) (dT : Nat → Nat) (l : Launch) : en_CT en_WD D vwCl dT l yX2_countMeetingsBehind cX2_countMeetingsBehind 4 (some .int) rm_X2_countMeetingsBehind f_X2_countMeetingsBehind := en_met en_WD1 en_WD2 (by decide) rfl rfl (tB_X2_countMeetingsBehind D dT l) (en_f_ln (fun _ => Nat.le_of_ble_eq_true rfl)) (en_f_bd bd_X2_countMeetingsBehind)
set_option maxRecDepth 100000 in
theorem mk_X2_countMeetingsBehind {D : va_G} {dT : Nat → Nat} {l : Launch} {R : Room} {s : State} {args : Array Value} {own : String} {idx : Nat} (h : en_WD s) (h1 : rm_X2_countMeetingsBehind.frames + 1 ≤ R.frames) (h2 : 8 + (4 + 11) + rm_X2_countMeetingsBehind.locals ≤ R.locals) (hl : (Jvm.Cond.methodLink own idx yX2_countMeetingsBehind).before args s = true ∨ ∃ host, (Jvm.Cond.methodLinkNest own idx yX2_countMeetingsBehind host).before args s = true) : en_mok en_WD D vwCl dT l R s args own (idx, 2, 4, 0, 0, f_X2_countMeetingsBehind) :=
  ⟨yX2_countMeetingsBehind, cX2_countMeetingsBehind, 4, some .int, rm_X2_countMeetingsBehind, 1, ct_X2_countMeetingsBehind D dT l, rfl, rfl, h1, h2, en_wd h 613 rfl rfl args, en_wd h 60 (by decide +kernel) rfl args, by decide, by decide, hl, ⟨RX2, TX2, 8, rfl, en_wd h 612 (by decide +kernel) rfl args, en_wd h 33 (by decide +kernel) rfl args, rfl⟩⟩
/-- how many pairs meet -/
def mts (N Wd : Nat → Int64) (P : Nat → Int32) (n : Nat) : Nat := sm (fun a => if P a ≠ -1 then ct (fun b => a + 1 ≤ b ∧ mtq N Wd P a b) n else 0) n
def f_X2_countMeetings := en_f (σ := Nat × Sx) (fun _ => [.ref 1]) (fun x => wX x.2) (fun x => x.1 ≤ 100 ∧ x.2.1 1 = nI x.1) (fun x v w => v = some (.int (nI (mts (x.2.2.2.2 6) (x.2.2.2.2 7) (x.2.2.2.1 5) x.1))) ∧ ∃ f, w = wX (xa x.2 8 f))
def rm_X2_countMeetings : Room := { frames := 3, cells := 0, slots := 0, locals := 69 }
def t_X2_countMeetings : en_T := ((3, 0, 0), tb_X2_countMeetings, fl_X2, cn_X2, [(61, 2, 4, 0, 0, f_X2_digestOf), (42, 2, 4, 0, 0, f_X2_isPlaced), (64, 2, 4, 0, 0, f_X2_countMeetingsBehind)], [], 0, some .int)
set_option maxRecDepth 100000 in
theorem tB_X2_countMeetings (D : va_G) (dT : Nat → Nat) (l : Launch) : en_TB en_WD D vwCl dT l rm_X2_countMeetings t_X2_countMeetings RX2 "countMeetings" cX2_countMeetings := ⟨tk_X2_countMeetings, fun s args meth h hn => ⟨fo_X2 h args meth, co_X2 h args, List.forall_mem_cons.mpr ⟨mk_X2_digestOf (own := RX2) h (Nat.le_of_ble_eq_true rfl) (Nat.le_of_ble_eq_true rfl) (Or.inl (en_wd h 603 (by decide +kernel) rfl args)), List.forall_mem_cons.mpr ⟨mk_X2_isPlaced (own := RX2) h (Nat.le_of_ble_eq_true rfl) (Nat.le_of_ble_eq_true rfl) (Or.inl (en_wd h 417 (by decide +kernel) rfl args)), List.forall_mem_cons.mpr ⟨mk_X2_countMeetingsBehind (own := RX2) h (Nat.le_of_ble_eq_true rfl) (Nat.le_of_ble_eq_true rfl) (Or.inl (en_wd h 610 (by decide +kernel) rfl args)), fun _ h => absurd h List.not_mem_nil⟩⟩⟩, fun _ h => absurd h List.not_mem_nil, Or.inl rfl, en_arr h args⟩⟩
set_option maxHeartbeats 4000000 in
set_option maxRecDepth 100000 in
theorem bd_X2_countMeetings : en_B (σ := Nat × Sx) t_X2_countMeetings (fun _ => [.ref 1]) (fun x => wX x.2) (fun x => x.1 ≤ 100 ∧ x.2.1 1 = nI x.1) (fun x v w => v = some (.int (nI (mts (x.2.2.2.2 6) (x.2.2.2.2 7) (x.2.2.2.1 5) x.1))) ∧ ∃ f, w = wX (xa x.2 8 f)) := by
  rintro ⟨n, S⟩ ⟨hn, h1⟩ G hG OK ⟨run, sub⟩
  dsimp only at hn h1 hG ⊢
  have loop2 : ∀ f : Nat → Int32, (∀ r, r < n → f r = dig (S.2.2.2 6) (S.2.2.2 7) r) → OK 0 0 31 [(0, .ref 1), (1, .int (nI 0)), (2, .int (nI 0))] [] (wX (xa S 8 f)) := by
    intro f hf
    refine lp_up (fun i => OK 0 0 31 [(0, .ref 1), (1, .int (nI (sm (fun a => if S.2.2.1 5 a ≠ -1 then ct (fun b => a + 1 ≤ b ∧ mtq (S.2.2.2 6) (S.2.2.2 7) (S.2.2.1 5) a b) n else 0) i))), (2, .int (nI i))] [] (wX (xa S 8 f))) n ?_ ?_ 0 (by omega)
    · refine run [31] 60 _ _ _ _ _ _ ?_
      conv => whnf
      refine pk_le n n (fun h => ?_) (fun h => absurd h (by omega)) h1
      conv => whnf
      exact hG _ _ ⟨rfl, f, rfl⟩
    · intro i hi ih
      refine run [31] 60 _ _ _ _ _ _ ?_
      conv => whnf
      refine pk_le n i (fun h => absurd h (by omega)) (fun h => ?_) h1
      conv => whnf
      refine ⟨(i, xa S 8 f), rfl, rfl, (by dsimp only; omega), ?_⟩
      rintro _ _ ⟨rfl, rfl⟩
      conv => whnf
      rw [nI_succ] at ih
      simp only [sm] at ih
      refine bl_br (fun hp => ?_) (fun hp => ?_)
      · conv => whnf
        rw [if_neg (c := S.2.2.1 5 i ≠ -1) hp, Nat.add_zero] at ih
        exact ih
      · conv => whnf
        refine ⟨(n, i, xa S 8 f), rfl, rfl, ⟨hn, h1, hi, hf⟩, ?_⟩
        rintro _ _ ⟨rfl, rfl⟩
        conv => whnf
        rw [if_pos (c := S.2.2.1 5 i ≠ -1) hp, ← nI_add] at ih
        exact ih
  have loop1 : ∀ i, i ≤ n → ∀ f : Nat → Int32, (∀ r, r < i → f r = dig (S.2.2.2 6) (S.2.2.2 7) r) → OK 0 0 2 [(0, .ref 1), (1, .int (nI i))] [] (wX (xa S 8 f)) := by
    refine lp_up (fun i => ∀ f : Nat → Int32, (∀ r, r < i → f r = dig (S.2.2.2 6) (S.2.2.2 7) r) → OK 0 0 2 [(0, .ref 1), (1, .int (nI i))] [] (wX (xa S 8 f))) n ?_ ?_
    · intro f hf
      refine run [2, 31] 60 _ _ _ _ _ _ ?_
      conv => whnf
      refine pk_le n n (fun h => ?_) (fun h => absurd h (by omega)) h1
      conv => whnf
      exact loop2 f hf
    · intro i hi ih f hf
      refine run [2] 60 _ _ _ _ _ _ ?_
      conv => whnf
      refine pk_le n i (fun h => absurd h (by omega)) (fun h => ?_) h1
      conv => whnf
      refine ⟨(i, xa S 8 f), rfl, rfl, (by dsimp only; omega), ?_⟩
      rintro _ _ ⟨rfl, rfl⟩
      conv => whnf
      refine ⟨vp_in_nI (by omega) (by decide), ?_⟩
      rw [nI_clamp (by omega)]
      conv => whnf
      have := ih (upd f i (dig (S.2.2.2 6) (S.2.2.2 7) i)) (fun r hr => by
        by_cases e : r = i
        · subst e; exact pk_us
        · rw [pk_un e]; exact hf r (by omega))
      rw [nI_succ] at this
      exact this
  refine run [2] 60 _ _ _ _ _ _ ?_
  conv => whnf
  exact loop1 0 (by omega) (S.2.2.1 8) (fun r hr => by omega)
theorem ct_X2_countMeetings (D : va_G) (dT : Nat → Nat) (l : Launch) : en_CT en_WD D vwCl dT l yX2_countMeetings cX2_countMeetings 3 (some .int) rm_X2_countMeetings f_X2_countMeetings := en_met en_WD1 en_WD2 (by decide) rfl rfl (tB_X2_countMeetings D dT l) (en_f_ln (fun _ => Nat.le_of_ble_eq_true rfl)) (en_f_bd bd_X2_countMeetings)
set_option maxRecDepth 100000 in
theorem mk_X2_countMeetings {D : va_G} {dT : Nat → Nat} {l : Launch} {R : Room} {s : State} {args : Array Value} {own : String} {idx : Nat} (h : en_WD s) (h1 : rm_X2_countMeetings.frames + 1 ≤ R.frames) (h2 : 8 + (3 + 11) + rm_X2_countMeetings.locals ≤ R.locals) (hl : (Jvm.Cond.methodLink own idx yX2_countMeetings).before args s = true ∨ ∃ host, (Jvm.Cond.methodLinkNest own idx yX2_countMeetings host).before args s = true) : en_mok en_WD D vwCl dT l R s args own (idx, 1, 4, 0, 0, f_X2_countMeetings) :=
  ⟨yX2_countMeetings, cX2_countMeetings, 3, some .int, rm_X2_countMeetings, 0, ct_X2_countMeetings D dT l, rfl, rfl, h1, h2, en_wd h 602 rfl rfl args, en_wd h 60 (by decide +kernel) rfl args, by decide, by decide, hl, ⟨RX2, TX2, 8, rfl, en_wd h 600 (by decide +kernel) rfl args, en_wd h 601 (by decide +kernel) rfl args, rfl⟩⟩
def f_X2_append := en_f (σ := Nat × Int32 × Int32 × Int32 × Sx) (fun x => [.ref 1, .int x.2.1, .int x.2.2.1, .int x.2.2.2.1]) (fun x => wX x.2.2.2.2) (fun x => x.1 < 100 ∧ x.2.2.2.2.1 1 = nI x.1) (fun x v w => v = some (.int (nI x.1)) ∧ w = wX (xi (xa (xa (xa (xa x.2.2.2.2 2 (upd (x.2.2.2.2.2.2.1 2) x.1 x.2.1)) 3 (upd (x.2.2.2.2.2.2.1 3) x.1 x.2.2.1)) 4 (upd (x.2.2.2.2.2.2.1 4) x.1 x.2.2.2.1)) 5 (upd (x.2.2.2.2.2.2.1 5) x.1 (-1))) 1 (nI (x.1 + 1))))
def rm_X2_append : Room := { frames := 0, cells := 0, slots := 0, locals := 0 }
def t_X2_append : en_T := ((5, 0, 0), tb_X2_append, fl_X2, cn_X2, [], [], 0, some .int)
set_option maxRecDepth 100000 in
theorem tB_X2_append (D : va_G) (dT : Nat → Nat) (l : Launch) : en_TB en_WD D vwCl dT l rm_X2_append t_X2_append RX2 "append" cX2_append := ⟨tk_X2_append, fun s args meth h hn => ⟨fo_X2 h args meth, co_X2 h args, fun _ h => absurd h List.not_mem_nil, fun _ h => absurd h List.not_mem_nil, Or.inl rfl, en_arr h args⟩⟩
set_option maxHeartbeats 4000000 in
set_option maxRecDepth 100000 in
theorem bd_X2_append : en_B (σ := Nat × Int32 × Int32 × Int32 × Sx) t_X2_append (fun x => [.ref 1, .int x.2.1, .int x.2.2.1, .int x.2.2.2.1]) (fun x => wX x.2.2.2.2) (fun x => x.1 < 100 ∧ x.2.2.2.2.1 1 = nI x.1) (fun x v w => v = some (.int (nI x.1)) ∧ w = wX (xi (xa (xa (xa (xa x.2.2.2.2 2 (upd (x.2.2.2.2.2.2.1 2) x.1 x.2.1)) 3 (upd (x.2.2.2.2.2.2.1 3) x.1 x.2.2.1)) 4 (upd (x.2.2.2.2.2.2.1 4) x.1 x.2.2.2.1)) 5 (upd (x.2.2.2.2.2.2.1 5) x.1 (-1))) 1 (nI (x.1 + 1)))) := by
  rintro ⟨n, g, l, t, S⟩ ⟨hn, h1⟩ G hG OK ⟨run, sub⟩
  dsimp only at hn h1 hG ⊢
  refine run [] 60 _ _ _ _ _ _ ?_
  conv => whnf
  rw [h1]
  refine ⟨vp_in_nI hn (by decide), ?_⟩
  rw [nI_clamp (by omega)]
  conv => whnf
  refine ⟨vp_in_nI hn (by decide), ?_⟩
  rw [nI_clamp (by omega)]
  conv => whnf
  refine ⟨vp_in_nI hn (by decide), ?_⟩
  rw [nI_clamp (by omega)]
  conv => whnf
  refine ⟨vp_in_nI hn (by decide), ?_⟩
  rw [nI_clamp (by omega)]
  conv => whnf
  rw [nI_succ] at hG
  exact hG _ _ ⟨rfl, rfl⟩
theorem ct_X2_append (D : va_G) (dT : Nat → Nat) (l : Launch) : en_CT en_WD D vwCl dT l yX2_append cX2_append 5 (some .int) rm_X2_append f_X2_append := en_met en_WD1 en_WD2 (by decide) rfl rfl (tB_X2_append D dT l) (en_f_ln (fun _ => Nat.le_of_ble_eq_true rfl)) (en_f_bd bd_X2_append)
set_option maxRecDepth 100000 in
theorem mk_X2_append {D : va_G} {dT : Nat → Nat} {l : Launch} {R : Room} {s : State} {args : Array Value} {own : String} {idx : Nat} (h : en_WD s) (h1 : rm_X2_append.frames + 1 ≤ R.frames) (h2 : 8 + (5 + 11) + rm_X2_append.locals ≤ R.locals) (hl : (Jvm.Cond.methodLink own idx yX2_append).before args s = true ∨ ∃ host, (Jvm.Cond.methodLinkNest own idx yX2_append host).before args s = true) : en_mok en_WD D vwCl dT l R s args own (idx, 4, 4, 0, 0, f_X2_append) :=
  ⟨yX2_append, cX2_append, 5, some .int, rm_X2_append, 3, ct_X2_append D dT l, rfl, rfl, h1, h2, en_wd h 274 rfl rfl args, en_wd h 60 (by decide +kernel) rfl args, by decide, by decide, hl, ⟨RX2, TX2, 8, rfl, en_wd h 272 (by decide +kernel) rfl args, en_wd h 273 (by decide +kernel) rfl args, rfl⟩⟩
