/-! SplitLeaks: its static helpers -/
def f_X6_isWithin := en_f (σ := Int32 × Int32 × List va_E) (fun x => [.int x.1, .int x.2.1]) (fun x => x.2.2) (fun _ => True) (fun x v w => v = some (.int (bl (0 ≤ x.1 ∧ x.1 < x.2.1))) ∧ w = x.2.2)
def rm_X6_isWithin : Room := { frames := 0, cells := 0, slots := 0, locals := 0 }
def t_X6_isWithin : en_T := ((2, 0, 0), tb_X6_isWithin, fl_X6, cn_X6, [], [], 0, some .boolean)
set_option maxRecDepth 100000 in
theorem tB_X6_isWithin (D : va_G) (dT : Nat → Nat) (l : Launch) : en_TB en_WD D vwCl dT l rm_X6_isWithin t_X6_isWithin RX6 "isWithin" cX6_isWithin := ⟨tk_X6_isWithin, fun s args meth h hn => ⟨fo_X6 h args meth, co_X6 h args, fun _ h => absurd h List.not_mem_nil, fun _ h => absurd h List.not_mem_nil, Or.inl rfl, en_arr h args⟩⟩
set_option maxHeartbeats 4000000 in
set_option maxRecDepth 100000 in
theorem bd_X6_isWithin : en_B (σ := Int32 × Int32 × List va_E) t_X6_isWithin (fun x => [.int x.1, .int x.2.1]) (fun x => x.2.2) (fun _ => True) (fun x v w => v = some (.int (bl (0 ≤ x.1 ∧ x.1 < x.2.1))) ∧ w = x.2.2) := by
  rintro ⟨x, b, ws⟩ - G hG OK ⟨run, sub⟩
  dsimp only at hG ⊢
  refine run [] 20 _ _ _ _ _ _ ?_
  conv => whnf
  refine ⟨fun h => ?_, fun h => ?_⟩
  · conv => whnf
    exact ⟨rfl, hG _ _ ⟨by rw [bl_f (fun z => by have := z.1; exact absurd h (Int32.not_lt.mpr this))]; rfl, rfl⟩⟩
  · have h0 : 0 ≤ x := Int32.not_lt.mp h
    conv => whnf
    refine ⟨fun h2 => ?_, fun h2 => ?_⟩
    · conv => whnf
      exact ⟨rfl, hG _ _ ⟨by rw [bl_f (fun z => absurd z.2 (Int32.not_lt.mpr h2))]; rfl, rfl⟩⟩
    · conv => whnf
      exact ⟨rfl, hG _ _ ⟨by rw [bl_t ⟨h0, Int32.not_le.mp h2⟩]; rfl, rfl⟩⟩
theorem ct_X6_isWithin (D : va_G) (dT : Nat → Nat) (l : Launch) : en_CT en_WD D vwCl dT l yX6_isWithin cX6_isWithin 2 (some .boolean) rm_X6_isWithin f_X6_isWithin := en_met en_WD1 en_WD2 (by decide) rfl rfl (tB_X6_isWithin D dT l) (en_f_ln (fun _ => Nat.le_of_ble_eq_true rfl)) (en_f_bd bd_X6_isWithin)
set_option maxRecDepth 100000 in
theorem mk_X6_isWithin {D : va_G} {dT : Nat → Nat} {l : Launch} {R : Room} {s : State} {args : Array Value} {own : String} {idx : Nat} (h : en_WD s) (h1 : rm_X6_isWithin.frames + 1 ≤ R.frames) (h2 : 8 + (2 + 11) + rm_X6_isWithin.locals ≤ R.locals) (hl : (Jvm.Cond.methodLink own idx yX6_isWithin).before args s = true ∨ ∃ host, (Jvm.Cond.methodLinkNest own idx yX6_isWithin host).before args s = true) : en_mok en_WD D vwCl dT l R s args own (idx, 2, 0, 0, 0, f_X6_isWithin) :=
  ⟨yX6_isWithin, cX6_isWithin, 2, some .boolean, rm_X6_isWithin, 2, ct_X6_isWithin D dT l, rfl, rfl, h1, h2, en_wd h 269 rfl rfl args, en_wd h 59 (by decide +kernel) rfl args, by decide, by decide, hl, ⟨en_wd h 268 (by decide +kernel) rfl args, rfl⟩⟩
