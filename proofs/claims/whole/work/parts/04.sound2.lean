/-! one instruction is sound -/
theorem en_i_e {st : List Value} {f : Int32 → List Value → Prop} (h : en_i st f) : ∃ x r, st = .int x :: r ∧ f x r := by
  unfold en_i at h; split at h; exact ⟨_, _, rfl, h⟩; exact h.elim
theorem en_j_e {st : List Value} {f : Int64 → List Value → Prop} (h : en_j st f) : ∃ x r, st = .long x :: r ∧ f x r := by
  unfold en_j at h; split at h; exact ⟨_, _, rfl, h⟩; exact h.elim
theorem en_r_e {st : List Value} {f : Nat → List Value → Prop} (h : en_r st f) : ∃ x r, st = .ref x :: r ∧ f x r := by
  unfold en_r at h; split at h; exact ⟨_, _, rfl, h⟩; exact h.elim
theorem en_ii_e {st : List Value} {f : Int32 → Int32 → List Value → Prop} (h : en_ii st f) : ∃ x y r, st = .int y :: .int x :: r ∧ f x y r := by
  unfold en_ii at h; split at h; exact ⟨_, _, _, rfl, h⟩; exact h.elim
theorem en_jj_e {st : List Value} {f : Int64 → Int64 → List Value → Prop} (h : en_jj st f) : ∃ x y r, st = .long y :: .long x :: r ∧ f x y r := by
  unfold en_jj at h; split at h; exact ⟨_, _, _, rfl, h⟩; exact h.elim
theorem en_ji_e {st : List Value} {f : Int64 → Int32 → List Value → Prop} (h : en_ji st f) : ∃ x y r, st = .int y :: .long x :: r ∧ f x y r := by
  unfold en_ji at h; split at h; exact ⟨_, _, _, rfl, h⟩; exact h.elim
theorem en_ai_e {st : List Value} {f : Nat → Int32 → List Value → Prop} (h : en_ai st f) : ∃ a i r, st = .int i :: .ref a :: r ∧ f a i r := by
  unfold en_ai at h; split at h; exact ⟨_, _, _, rfl, h⟩; exact h.elim
theorem en_aii_e {st : List Value} {f : Nat → Int32 → Int32 → List Value → Prop} (h : en_aii st f) : ∃ a i x r, st = .int x :: .int i :: .ref a :: r ∧ f a i x r := by
  unfold en_aii at h; split at h; exact ⟨_, _, _, _, rfl, h⟩; exact h.elim
theorem en_aij_e {st : List Value} {f : Nat → Int32 → Int64 → List Value → Prop} (h : en_aij st f) : ∃ a i x r, st = .long x :: .int i :: .ref a :: r ∧ f a i x r := by
  unfold en_aij at h; split at h; exact ⟨_, _, _, _, rfl, h⟩; exact h.elim
theorem en_bif {b : Bool} {P : Prop} (h : bif b then P else False) : b = true ∧ P := by
  cases b with
  | true => exact ⟨rfl, h⟩
  | false => exact h.elim
theorem en_ar_e {ws : List va_E} {k a : Nat} {f : Nat → (Nat → Int32) → Prop} (h : en_ar ws k a f) : ∃ n g, ws[a]? = some (.inl (k, n, .inl g)) ∧ f n g := by
  unfold en_ar at h; split at h
  · rename_i tk n g heq
    obtain ⟨h1, h2⟩ := en_bif h
    have : tk = k := Nat.eq_of_beq_eq_true h1
    subst this
    exact ⟨_, _, heq, h2⟩
  · exact h.elim
theorem en_al_e {ws : List va_E} {a : Nat} {f : Nat → (Nat → Int64) → Prop} (h : en_al ws a f) : ∃ n g, ws[a]? = some (.inl (1, n, .inr (.inl g))) ∧ f n g := by
  unfold en_al at h; split at h
  · rename_i tk n g heq
    obtain ⟨h1, h2⟩ := en_bif h
    have : tk = 1 := Nat.eq_of_beq_eq_true h1
    subst this
    exact ⟨_, _, heq, h2⟩
  · exact h.elim
theorem en_an_e {ws : List va_E} {a : Nat} {f : Nat → Prop} (h : en_an ws a f) : ∃ tk n g, ws[a]? = some (.inl (tk, n, g)) ∧ tk < 3 ∧ f n := by
  unfold en_an at h; split at h
  · rename_i tk n g heq
    obtain ⟨h1, h2⟩ := en_bif h
    exact ⟨_, _, _, heq, Nat.le_of_ble_eq_true h1, h2⟩
  · exact h.elim
theorem en_ob_e {ws : List va_E} {ci a : Nat} {f : List Value → Prop} (h : en_ob ws ci a f) : ∃ fs, ws[a]? = some (.inr (ci, fs)) ∧ f fs := by
  unfold en_ob at h; split at h
  · rename_i c fs heq
    obtain ⟨h1, h2⟩ := en_bif h
    have : c = ci := Nat.eq_of_beq_eq_true h1
    subst this
    exact ⟨_, heq, h2⟩
  · exact h.elim
theorem en_fit_ok {ty : FieldType} {v : Value} (h : en_fit ty v = true) (ad : Nat → Nat) : narrow ty (en_v ad v) = en_v ad v ∧ fits ty (en_v ad v) = true := by
  cases ty <;> cases v <;> first | (simp [en_fit] at h; done) | exact ⟨rfl, rfl⟩
theorem en_zip1 {pc : Nat} {o : Int} {g : Nat} (h : en_zip pc [o] [g] = true) : (pc : Int) + o = (g : Int) := by
  simp only [en_zip, Bool.and_true, decide_eq_true_eq] at h
  exact h
theorem en_tyg (dT : Nat → Nat) {tk : Nat} (h : tk < 3) : ∃ ty, (en_ty dT)[tk]? = some (dT tk, ty) := by
  match tk, h with
  | 0, _ => exact ⟨_, rfl⟩
  | 1, _ => exact ⟨_, rfl⟩
  | 2, _ => exact ⟨_, rfl⟩

section SND2
variable {p : Program} {l : Launch} {e : Env} {R : Room} {s : State} {m : MethodId} {args : Array Value} {below : List Frame} {meth : Method} {c : Code} {Q : State → Prop}
variable {WD : State → Prop} {D : va_G} {cl : List vw_C} {dT : Nat → Nat} {A : Nat → Prop} {t : en_T} {own : String} {cc : ByteArray} {n0 : Nat} {ad : Nat → Nat}

/-- a call is sound -/
theorem en_call_ok (hW1 : ∀ u U : State, u.vm = U.vm → WD u → WD U) (hW2 : ∀ u U : State, u.WarmedH U.vm → WD u → WD U) (C : en_X WD D cl dT A t p l R s m args meth c own cc) {k : en_K} (hk : ∀ cs sl pc lv st ws, k cs sl pc lv st ws → en_OK D cl dT A t n0 ad p l e R s m args below meth c Q cs sl pc lv st ws)
    {x pc nx cs sl : Nat} {lv : en_L} {st : List Value} {ws : List va_E} {q : en_C} (hq : (x, q) ∈ t.2.2.2.2.1) (hnx : nx = pc + 3) (hd : (q.2.1 = 0 ∧ decode cc pc = .ok (.invokestatic x, 3)) ∨ (q.2.1 = 1 ∧ decode cc pc = .ok (.invokespecial x, 3)) ∨ (2 ≤ q.2.1 ∧ decode cc pc = .ok (.invokevirtual x, 3)))
    (h : en_call t.1.2.1 t.1.2.2 q k cs sl nx lv st ws) : en_OK D cl dT A t n0 ad p l e R s m args below meth c Q cs sl pc lv st ws := by
  intro h0 h1 h2 ad1 H locs ls had hP hD hS hl
  obtain ⟨hx, hb, hml, hown, hK, hA, hWD, hR, -, -, -, hM, -⟩ := C
  obtain ⟨y, bytes, maxL, ret, rm, na, hCT, hrc, hrs, hfr, hlo, hcode, hini, hy, hpar, hlink, hkind⟩ := hM _ hq
  obtain ⟨hb0, h⟩ := en_bif h
  simp only [Bool.and_eq_true] at hb0
  obtain ⟨⟨⟨⟨b1, b2⟩, b3⟩, b4⟩, b5⟩ := hb0
  have b1 : q.1 ≤ st.length := Nat.le_of_ble_eq_true b1
  have b3 : en_sum (st.drop q.1) ≤ 8 := Nat.le_of_ble_eq_true b3
  have hfit : cs + q.2.2.1 ≤ t.1.2.1 ∧ sl + q.2.2.2.1 ≤ t.1.2.2 ∧ q.2.2.2.2 (st.take q.1).reverse ws (fun v w => k (cs + q.2.2.1) (sl + q.2.2.2.1) nx lv (v.toList ++ st.drop q.1) w) := by
    unfold en_bf at h
    cases hz : (Nat.beq q.2.2.1 0 && Nat.beq q.2.2.2.1 0) with
    | true =>
      rw [hz] at h
      simp only [Bool.and_eq_true] at hz
      have z1 : q.2.2.1 = 0 := Nat.eq_of_beq_eq_true hz.1
      have z2 : q.2.2.2.1 = 0 := Nat.eq_of_beq_eq_true hz.2
      exact ⟨by omega, by omega, h⟩
    | false =>
      rw [hz] at h
      exact ⟨h.1.1, h.1.2, h.2⟩
  obtain ⟨f1, f2, hf⟩ := hfit
  have hMet := hCT ad1 H.size _ ws _ hf
  rw [hrc, hrs] at hMet
  have hpre : ∀ U : State, U.heap = H → s.WarmedH U.vm → en_P WD D cl dT ad1 (st.take q.1).reverse ws H.size (((st.take q.1).reverse.map (en_v ad1)).toArray) U := fun U hU hW =>
    ⟨rfl, by rw [hU], by rw [hU]; exact hP, va_K.moved hW.alike hK, hD.weaken (fun _ _ _ _ => trivial), hW2 s U hW hWD⟩
  have hsum : 2 * (F0 m pc ls (st.map (en_v ad1))).monitorRoom + (((st.drop q.1).map (en_v ad1)).map fun v => v.category).sum ≤ 8 := by
    rw [en_sum_cat]
    show 2 * 0 + _ ≤ 8
    omega
  have hcw : ∀ w ∈ [Jvm.Cond.code y bytes maxL ret], ∀ (a' : Array Value) (U : State), s.WarmedH U.vm → w.before a' U = true := by
    intro w hw a' U hW
    rw [List.mem_singleton] at hw
    subst hw
    exact word_at hW (Or.inl rfl) hcode
  have hpl : ∀ sig, parseMethodDescriptor y.desc = some sig → na = sig.parameters.length := fun sig hs => by
    rw [hs] at hpar
    simpa using hpar.symm
  have hcb : rm.cells = q.2.2.1 ∧ rm.slots = q.2.2.2.1 ∧ rm.frames + 1 ≤ R.frames ∧ 8 + (maxL + 11) + rm.locals ≤ R.locals ∧ (∀ w ∈ [Jvm.Cond.code y bytes maxL ret], ∀ (a' : Array Value) (U : State), s.WarmedH U.vm → w.before a' U = true) ∧ Jvm.Cond.code y bytes maxL ret ∈ [Jvm.Cond.code y bytes maxL ret] := ⟨hrc, hrs, hfr, hlo, hcw, List.mem_singleton.mpr rfl⟩
  have hbld : FrameBlind (en_P WD D cl dT ad1 (st.take q.1).reverse ws H.size) := en_P_blind hW1
  have hlen : ((st.take q.1).reverse.map (en_v ad1)).length = q.1 := by
    rw [List.length_map, List.length_reverse, List.length_take]
    omega
  have hst : (F0 m pc ls (st.map (en_v ad1))).stack = (((st.take q.1).reverse).map (en_v ad1)).reverse ++ (st.drop q.1).map (en_v ad1) := en_rev ad1 st q.1
  have hcr : cs + q.2.2.1 ≤ R.cells ∧ sl + q.2.2.2.1 ≤ R.slots := ⟨Nat.le_trans f1 hR.1, Nat.le_trans f2 hR.2⟩
  have S : CallFix p m c cc t.1.1 s args [] own := ⟨hx, hb, hml, hown, fun w h => by cases h⟩
  generalize hargs : (st.take q.1).reverse = av at *
  rcases hd with ⟨hkd, hd⟩ | ⟨hkd, hd⟩ | ⟨hkd, hd⟩
  · rw [hkd] at hkind
    obtain ⟨hstat, hna⟩ := hkind
    rcases hlink with hlink | ⟨host, hlink⟩
    · exact en_after (va_runS (ret := ret) (bytes := bytes) (maxL := maxL) (n := na) (rm := rm) S hMet ⟨⟨hrc, hrs, hfr, hlo, hcw, List.mem_singleton.mpr rfl, hcode, hini, hy, hpl, hlink⟩, hstat⟩ ⟨hbld, hpre⟩ rfl (by rw [hlen, hna]) hl.1 hst hsum hd hcr) hnx hA h0 had hD hS hl f1 f2 b4 b5 (fun v w z => z) hk
    · exact en_after (va_runSN (ret := ret) (bytes := bytes) (maxL := maxL) (n := na) (rm := rm) S hMet ⟨⟨hcb, hcode, hini, hy, hpl, hlink⟩, hstat, trivial⟩ ⟨hbld, hpre⟩ rfl (by rw [hlen, hna]) hl.1 hst hsum hd hcr) hnx hA h0 had hD hS hl f1 f2 b4 b5 (fun v w z => z) hk
  · rw [hkd] at hkind
    obtain ⟨hin1, hinst, hna, hret⟩ := hkind
    subst hret
    rw [hkd] at b2
    match av, hargs, b2, hlen, hst, hpre, hMet, hbld with
    | .ref b :: av, hargs, b2, hlen, hst, hpre, hMet, hbld =>
      have hna : q.1 = na + 1 := hna
      have hlen2 : (av.map (en_v ad1)).length = na := by
        simp only [List.map_cons, List.length_cons] at hlen
        omega
      have hst2 : (F0 m pc ls (st.map (en_v ad1))).stack = (av.map (en_v ad1)).reverse ++ Value.ref (ad1 b) :: (st.drop q.1).map (en_v ad1) := by
        rw [hst]
        simp only [List.map_cons, List.reverse_cons, List.append_assoc, List.singleton_append]
        rfl
      rcases hlink with hlink | ⟨host, hlink⟩
      · exact en_after (va_runI (As := av.map (en_v ad1)) (b := ad1 b) (bytes := bytes) (maxL := maxL) (n := na) (rm := rm) S hMet ⟨⟨hrc, hrs, hfr, hlo, hcw, List.mem_singleton.mpr rfl, hcode, hini, hy, hpl, hlink⟩, hin1, hinst⟩ ⟨hbld, hpre⟩ rfl hlen2 hl.1 hst2 hsum hd hcr) hnx hA h0 had hD hS hl f1 f2 b4 b5 (fun v w z => z) hk
      · exact en_after (va_runIN (As := av.map (en_v ad1)) (b := ad1 b) (bytes := bytes) (maxL := maxL) (n := na) (rm := rm) S hMet ⟨⟨hcb, hcode, hini, hy, hpl, hlink⟩, hin1, hinst⟩ ⟨hbld, hpre⟩ rfl hlen2 hl.1 hst2 hsum hd hcr) hnx hA h0 had hD hS hl f1 f2 b4 b5 (fun v w z => z) hk
  · obtain ⟨ci, hci⟩ : ∃ ci, q.2.1 = ci + 2 := ⟨q.2.1 - 2, by omega⟩
    rw [hci] at hkind b2
    obtain ⟨C, T, N, hcl, hinst, hsel, hna⟩ := hkind
    match av, hargs, b2, hlen, hst, hpre, hMet, hbld with
    | .ref b :: av, hargs, b2, hlen, hst, hpre, hMet, hbld =>
      have hrec : ∃ fs, ws[b]? = some (.inr (ci, fs)) := by
        simp only [en_rcv] at b2
        split at b2
        · rename_i c1 fs heq
          have : c1 = ci := Nat.eq_of_beq_eq_true b2
          subst this
          exact ⟨fs, heq⟩
        · cases b2
      obtain ⟨fs, hfs⟩ := hrec
      have hcell := va_recv (q0 := b) hK hP hcl (en_w_some hfs)
      have hna : q.1 = na + 1 := hna
      have hlen2 : (av.map (en_v ad1)).length = na := by
        simp only [List.map_cons, List.length_cons] at hlen
        omega
      have hst2 : (F0 m pc ls (st.map (en_v ad1))).stack = (av.map (en_v ad1)).reverse ++ Value.ref (ad1 b) :: (st.drop q.1).map (en_v ad1) := by
        rw [hst]
        simp only [List.map_cons, List.reverse_cons, List.append_assoc, List.singleton_append]
        rfl
      rcases hlink with hlink | ⟨host, hlink⟩
      · exact en_after (va_runV (As := av.map (en_v ad1)) (b := ad1 b) (C := C) (ret := ret) (bytes := bytes) (maxL := maxL) (n := na) (rm := rm) S hMet ⟨⟨hrc, hrs, hfr, hlo, hcw, List.mem_singleton.mpr rfl, hcode, hini, hy, hpl, hlink⟩, hinst, hsel⟩ ⟨hbld, hcell, hpre⟩ rfl hlen2 hl.1 hst2 hsum hd hcr) hnx hA h0 had hD hS hl f1 f2 b4 b5 (fun v w z => z) hk
      · exact en_after (va_runVN (As := av.map (en_v ad1)) (b := ad1 b) (C := C) (ret := ret) (bytes := bytes) (maxL := maxL) (n := na) (rm := rm) S hMet ⟨⟨hcb, hcode, hini, hy, hpl, hlink⟩, hinst, hsel⟩ ⟨hbld, hcell, hpre⟩ rfl hlen2 hl.1 hst2 hsum hd hcr) hnx hA h0 had hD hS hl f1 f2 b4 b5 (fun v w z => z) hk

end SND2
