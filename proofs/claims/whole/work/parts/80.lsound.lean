/-! THE ENGINE'S SOUNDNESS ONCE MORE, some locals (X) holding real values: for the law (printed by gen_lsound.py) -/
def ek_no : Instr → Bool
  | .istore j | .lstore j | .astore j => Nat.blt 0 j
  | .istore_n j | .lstore_n j | .astore_n j => Nat.blt 0 j.val
  | .iinc j _ => Nat.blt 0 j
  | _ => true
theorem ek_low {X : List (Nat × Value)} {ls : Array Slot} {nL : Nat} {l : List (Nat × Value)} (h : lv_has ls nL (X ++ l)) : lv_has ls nL l := ⟨h.1, h.2.1, fun q hq => h.2.2 q (List.mem_append_right X hq)⟩
theorem ek_both {X : List (Nat × Value)} {ls : Array Slot} {nL : Nat} {l : List (Nat × Value)} (h : lv_has ls nL l) (hx : ∀ q ∈ X, ls[q.1]? = some (.val q.2)) : lv_has ls nL (X ++ l) := ⟨h.1, h.2.1, fun q hq => (List.mem_append.mp hq).elim (hx q) (h.2.2 q)⟩
theorem ek_pick {X : List (Nat × Value)} {ls : Array Slot} {nL : Nat} {l l' : List (Nat × Value)} (h : lv_has ls nL (X ++ l)) (ks : List Nat) (hl : lv_pick l ks = l') : lv_has ls nL (X ++ l') := ek_both (lv_sub (ek_low h) ks hl) (fun q hq => h.2.2 q (List.mem_append_left _ hq))
theorem ek_put1 {X : List (Nat × Value)} {ad : Nat → Nat} {ls' : Array Slot} {nL i : Nat} {v : Value} {lv : en_L} (hX : ∀ q ∈ X, q.1 = 0 ∧ q.2.category = 1) (hi : 0 < i) (h : lv_has ls' nL ((i, en_v ad v) :: (X ++ en_l ad lv).filter (fun q => !(q.1 == i) && !(q.1 + 1 == i && q.2.category == 2)))) : lv_has ls' nL (X ++ en_l ad (en_put 1 i v lv)) := by
  refine ek_both (en_put1 ⟨h.1, h.2.1, fun q hq => h.2.2 q ?_⟩) (fun q hq => h.2.2 q (List.mem_cons_of_mem _ (List.mem_filter.mpr ⟨List.mem_append_left _ hq, ?_⟩)))
  · rcases List.mem_cons.mp hq with rfl | hq
    · exact List.mem_cons_self
    · rw [List.mem_filter] at hq
      exact List.mem_cons_of_mem _ (List.mem_filter.mpr ⟨List.mem_append_right _ hq.1, hq.2⟩)
  · obtain ⟨h1, h2⟩ := hX q hq
    have e1 : (q.1 == i) = false := by rw [h1]; simpa using (by omega : ¬ 0 = i)
    have e2 : (q.2.category == 2) = false := by rw [h2]; rfl
    simp only [e1, e2, Bool.and_false, Bool.not_false, Bool.and_self]
theorem ek_put2 {X : List (Nat × Value)} {ad : Nat → Nat} {ls' : Array Slot} {nL i : Nat} {v : Value} {lv : en_L} (hX : ∀ q ∈ X, q.1 = 0 ∧ q.2.category = 1) (hi : 0 < i) (h : lv_has ls' nL ((i, en_v ad v) :: (X ++ en_l ad lv).filter (fun q => !(q.1 == i) && (!(q.1 == i + 1) && !(q.1 + 1 == i && q.2.category == 2))))) : lv_has ls' nL (X ++ en_l ad (en_put 2 i v lv)) := by
  refine ek_both (en_put2 ⟨h.1, h.2.1, fun q hq => h.2.2 q ?_⟩) (fun q hq => h.2.2 q (List.mem_cons_of_mem _ (List.mem_filter.mpr ⟨List.mem_append_left _ hq, ?_⟩)))
  · rcases List.mem_cons.mp hq with rfl | hq
    · exact List.mem_cons_self
    · rw [List.mem_filter] at hq
      exact List.mem_cons_of_mem _ (List.mem_filter.mpr ⟨List.mem_append_right _ hq.1, hq.2⟩)
  · obtain ⟨h1, h2⟩ := hX q hq
    have e1 : (q.1 == i) = false := by rw [h1]; simpa using (by omega : ¬ 0 = i)
    have e3 : (q.1 == i + 1) = false := by rw [h1]; simpa using (by omega : ¬ 0 = i + 1)
    have e2 : (q.2.category == 2) = false := by rw [h2]; rfl
    simp only [e1, e2, e3, Bool.and_false, Bool.not_false, Bool.and_self]
def ek_OK (X : List (Nat × Value)) (D : va_G) (cl : List vw_C) (dT : Nat → Nat) (A : Nat → Prop) (t : en_T) (n0 : Nat) (ad : Nat → Nat) (p : Program) (l : Launch) (e : Env) (R : Room) (s : State) (m : MethodId) (args : Array Value) (below : List Frame) (meth : Method) (c : Code) (Q : State → Prop) : en_K := fun cs sl pc lv st ws =>
  n0 ≤ ws.length → cs ≤ t.1.2.1 → sl ≤ t.1.2.2 → ∀ (ad1 : Nat → Nat) (H : Heap) (locs : List Loc) (ls : Array Slot), (∀ k, k < n0 → ad1 k = ad k) → va_P D cl (en_w ad1 dT ws) H → va_D A (en_w ad1 dT ws) → va_S A s.heap H locs → lv_has ls t.1.1 (X ++ en_l ad1 lv) → W p l e R s m args below meth c H locs cs sl Q (F0 m pc ls (st.map (en_v ad1)))
section SND4
variable {X : List (Nat × Value)}
variable {p : Program} {l : Launch} {e : Env} {R : Room} {s : State} {m : MethodId} {args : Array Value} {below : List Frame} {meth : Method} {c : Code} {Q : State → Prop}
variable {WD : State → Prop} {D : va_G} {cl : List vw_C} {dT : Nat → Nat} {A : Nat → Prop} {t : en_T} {own : String} {cc : ByteArray} {n0 : Nat} {ad : Nat → Nat}
/-- behind a call -/
theorem ek_after {H : Heap} {locs : List Loc} {cs sl mc ms pc : Nat} {ls : Array Slot} {st0 rest : List Value} {a : Array Value} {ws : List va_E} {ad1 : Nat → Nat} {G : Option Value → List va_E → Prop} {k : en_K} {nx : Nat} {lv : en_L}
    (hr : va_Run p l e R s m args below meth c H locs cs sl mc ms (F0 m pc ls st0) (rest.map (en_v ad1)) (en_Q D cl dT ad1 ws.length G (va_A (en_w ad1 dT ws) H.size) a) (va_A (en_w ad1 dT ws) H.size))
    (hnx : nx = pc + 3) (hA : ∀ q, s.heap.size ≤ q → A q) (h0 : n0 ≤ ws.length) (had : ∀ k, k < n0 → ad1 k = ad k) (hD : va_D A (en_w ad1 dT ws)) (hS : va_S A s.heap H locs) (hl : lv_has ls t.1.1 (X ++ en_l ad1 lv)) (h1 : cs + mc ≤ t.1.2.1) (h2 : sl + ms ≤ t.1.2.2) (hb1 : en_los ws.length rest = true) (hb2 : en_loL ws.length lv = true)
    (hG : ∀ v w, G v w → k (cs + mc) (sl + ms) nx lv (v.toList ++ rest) w) (hk : ∀ cs sl pc lv st ws, k cs sl pc lv st ws → ek_OK X D cl dT A t n0 ad p l e R s m args below meth c Q cs sl pc lv st ws) :
    W p l e R s m args below meth c H locs cs sl Q (F0 m pc ls st0) := by
  intro T hT X
  obtain ⟨v, st₀, t1, T', L, hh0, X', hL, e1, e2, ⟨⟨v1, w, ad2, hv, hGv, hlen, had2, hP2, -, hD2⟩, hz, hkk⟩, st⟩ := hr T hT X
  cases hv
  rw [hh0] at hz hkk
  have hfree : ∀ q, va_A (en_w ad1 dT ws) H.size q → A q := by
    intro q hq
    rcases hq with ⟨j, x, hj⟩ | hq
    · exact hD.2 j _ hj
    · exact hA q (Nat.le_trans hS.1 hq)
  have hS2 : va_S A s.heap T'.heap (locs ++ L) := by
    refine ⟨Nat.le_trans hS.1 (by rw [e1]; exact hz), fun q h1 h2 => ?_, fun q hq => ?_⟩
    · rw [e1, hkk q (Nat.lt_of_lt_of_le h1 hS.1) (fun z => h2 (hfree q z))]
      exact hS.2.1 q h1 h2
    · rcases List.mem_append.mp hq with h | h
      · exact hS.2.2 q h
      · exact hfree _ (hL q h)
  have K := hk _ _ _ _ _ _ (hG v1 w hGv) (Nat.le_trans h0 hlen) h1 h2 ad2 T'.heap (locs ++ L) ls (fun j hj => (had2 j (Nat.lt_of_lt_of_le hj h0)).trans (had j hj)) (by rw [e1]; exact hP2) (hD2.weaken (fun _ _ _ z => hfree _ z)) hS2 (by rw [en_lo_l had2 hb2]; exact hl)
  obtain ⟨t2, a1, b1⟩ := K T' rfl X'
  refine ⟨t2, st t2 ?_, b1⟩
  have he : (v1.map (en_v ad2)).toList ++ rest.map (en_v ad1) = (v1.toList ++ rest).map (en_v ad2) := by
    rw [List.map_append, en_lo_vs had2 hb1]
    cases v1 <;> rfl
  rw [he]
  subst hnx
  exact a1
end SND4

section SND5
variable {X : List (Nat × Value)}
variable {p : Program} {l : Launch} {e : Env} {R : Room} {s : State} {m : MethodId} {args : Array Value} {below : List Frame} {meth : Method} {c : Code} {Q : State → Prop}
variable {WD : State → Prop} {D : va_G} {cl : List vw_C} {dT : Nat → Nat} {A : Nat → Prop} {t : en_T} {own : String} {cc : ByteArray} {n0 : Nat} {ad : Nat → Nat}

/-- a call is sound -/
theorem ek_call_ok (hW1 : ∀ u U : State, u.vm = U.vm → WD u → WD U) (hW2 : ∀ u U : State, u.WarmedH U.vm → WD u → WD U) (C : en_X WD D cl dT A t p l R s m args meth c own cc) {k : en_K} (hk : ∀ cs sl pc lv st ws, k cs sl pc lv st ws → ek_OK X D cl dT A t n0 ad p l e R s m args below meth c Q cs sl pc lv st ws)
    {x pc nx cs sl : Nat} {lv : en_L} {st : List Value} {ws : List va_E} {q : en_C} (hq : (x, q) ∈ t.2.2.2.2.1) (hnx : nx = pc + 3) (hd : (q.2.1 = 0 ∧ decode cc pc = .ok (.invokestatic x, 3)) ∨ (q.2.1 = 1 ∧ decode cc pc = .ok (.invokespecial x, 3)) ∨ (2 ≤ q.2.1 ∧ decode cc pc = .ok (.invokevirtual x, 3)))
    (h : en_call t.1.2.1 t.1.2.2 q k cs sl nx lv st ws) : ek_OK X D cl dT A t n0 ad p l e R s m args below meth c Q cs sl pc lv st ws := by
  intro h0 h1 h2 ad1 H locs ls had hP hD hS hl
  obtain ⟨hx, hb, hml, hown, hK, hA, hWD, hR, -, -, -, hM, -⟩ := C
  obtain ⟨y, bytes, maxL, ret, rm, na, hCT, hrc, hrs, hfr, hlo, hcode, hini, hy, hpar, hlink, hkind⟩ := hM _ hq
  obtain ⟨hb0, h⟩ := en_bif h
  simp only [Bool.and_eq_true] at hb0
  obtain ⟨⟨⟨⟨b1, b2⟩, b3⟩, b4⟩, b5⟩ := hb0
  have b1 : q.1 ≤ st.length := Nat.le_of_ble_eq_true b1
  have b3 : en_sum (st.drop q.1) ≤ 8 := Nat.le_of_ble_eq_true b3
  have hfit : cs + q.2.2.1 ≤ t.1.2.1 ∧ sl + q.2.2.2.1 ≤ t.1.2.2 ∧ q.2.2.2.2 (st.take q.1).reverse ws (fun v w => k (cs + q.2.2.1) (sl + q.2.2.2.1) nx lv (v.toList ++ st.drop q.1) w) := by
    unfold en_bf at h
    cases hz : (Nat.beq q.2.2.1 0 && Nat.beq q.2.2.2.1 0) with
    | true =>
      rw [hz] at h
      simp only [Bool.and_eq_true] at hz
      have z1 : q.2.2.1 = 0 := Nat.eq_of_beq_eq_true hz.1
      have z2 : q.2.2.2.1 = 0 := Nat.eq_of_beq_eq_true hz.2
      exact ⟨by omega, by omega, h⟩
    | false =>
      rw [hz] at h
      exact ⟨h.1.1, h.1.2, h.2⟩
  obtain ⟨f1, f2, hf⟩ := hfit
  have hMet := hCT ad1 H.size _ ws _ hf
  rw [hrc, hrs] at hMet
  have hpre : ∀ U : State, U.heap = H → s.WarmedH U.vm → en_P WD D cl dT ad1 (st.take q.1).reverse ws H.size (((st.take q.1).reverse.map (en_v ad1)).toArray) U := fun U hU hW =>
    ⟨rfl, by rw [hU], by rw [hU]; exact hP, va_K.moved hW.alike hK, hD.weaken (fun _ _ _ _ => trivial), hW2 s U hW hWD⟩
  have hsum : 2 * (F0 m pc ls (st.map (en_v ad1))).monitorRoom + (((st.drop q.1).map (en_v ad1)).map fun v => v.category).sum ≤ 8 := by
    rw [en_sum_cat]
    show 2 * 0 + _ ≤ 8
    omega
  have hcw : ∀ w ∈ [Jvm.Cond.code y bytes maxL ret], ∀ (a' : Array Value) (U : State), s.WarmedH U.vm → w.before a' U = true := by
    intro w hw a' U hW
    rw [List.mem_singleton] at hw
    subst hw
    exact word_at hW (Or.inl rfl) hcode
  have hpl : ∀ sig, parseMethodDescriptor y.desc = some sig → na = sig.parameters.length := fun sig hs => by
    rw [hs] at hpar
    simpa using hpar.symm
  have hcb : rm.cells = q.2.2.1 ∧ rm.slots = q.2.2.2.1 ∧ rm.frames + 1 ≤ R.frames ∧ 8 + (maxL + 11) + rm.locals ≤ R.locals ∧ (∀ w ∈ [Jvm.Cond.code y bytes maxL ret], ∀ (a' : Array Value) (U : State), s.WarmedH U.vm → w.before a' U = true) ∧ Jvm.Cond.code y bytes maxL ret ∈ [Jvm.Cond.code y bytes maxL ret] := ⟨hrc, hrs, hfr, hlo, hcw, List.mem_singleton.mpr rfl⟩
  have hbld : FrameBlind (en_P WD D cl dT ad1 (st.take q.1).reverse ws H.size) := en_P_blind hW1
  have hlen : ((st.take q.1).reverse.map (en_v ad1)).length = q.1 := by
    rw [List.length_map, List.length_reverse, List.length_take]
    omega
  have hst : (F0 m pc ls (st.map (en_v ad1))).stack = (((st.take q.1).reverse).map (en_v ad1)).reverse ++ (st.drop q.1).map (en_v ad1) := en_rev ad1 st q.1
  have hcr : cs + q.2.2.1 ≤ R.cells ∧ sl + q.2.2.2.1 ≤ R.slots := ⟨Nat.le_trans f1 hR.1, Nat.le_trans f2 hR.2⟩
  have S : CallFix p m c cc t.1.1 s args [] own := ⟨hx, hb, hml, hown, fun w h => by cases h⟩
  generalize hargs : (st.take q.1).reverse = av at *
  rcases hd with ⟨hkd, hd⟩ | ⟨hkd, hd⟩ | ⟨hkd, hd⟩
  · rw [hkd] at hkind
    obtain ⟨hstat, hna⟩ := hkind
    rcases hlink with hlink | ⟨host, hlink⟩
    · exact ek_after (va_runS (ret := ret) (bytes := bytes) (maxL := maxL) (n := na) (rm := rm) S hMet ⟨⟨hrc, hrs, hfr, hlo, hcw, List.mem_singleton.mpr rfl, hcode, hini, hy, hpl, hlink⟩, hstat⟩ ⟨hbld, hpre⟩ rfl (by rw [hlen, hna]) hl.1 hst hsum hd hcr) hnx hA h0 had hD hS hl f1 f2 b4 b5 (fun v w z => z) hk
    · exact ek_after (va_runSN (ret := ret) (bytes := bytes) (maxL := maxL) (n := na) (rm := rm) S hMet ⟨⟨hcb, hcode, hini, hy, hpl, hlink⟩, hstat, trivial⟩ ⟨hbld, hpre⟩ rfl (by rw [hlen, hna]) hl.1 hst hsum hd hcr) hnx hA h0 had hD hS hl f1 f2 b4 b5 (fun v w z => z) hk
  · rw [hkd] at hkind
    obtain ⟨hin1, hinst, hna, hret⟩ := hkind
    subst hret
    rw [hkd] at b2
    match av, hargs, b2, hlen, hst, hpre, hMet, hbld with
    | .ref b :: av, hargs, b2, hlen, hst, hpre, hMet, hbld =>
      have hna : q.1 = na + 1 := hna
      have hlen2 : (av.map (en_v ad1)).length = na := by
        simp only [List.map_cons, List.length_cons] at hlen
        omega
      have hst2 : (F0 m pc ls (st.map (en_v ad1))).stack = (av.map (en_v ad1)).reverse ++ Value.ref (ad1 b) :: (st.drop q.1).map (en_v ad1) := by
        rw [hst]
        simp only [List.map_cons, List.reverse_cons, List.append_assoc, List.singleton_append]
        rfl
      rcases hlink with hlink | ⟨host, hlink⟩
      · exact ek_after (va_runI (As := av.map (en_v ad1)) (b := ad1 b) (bytes := bytes) (maxL := maxL) (n := na) (rm := rm) S hMet ⟨⟨hrc, hrs, hfr, hlo, hcw, List.mem_singleton.mpr rfl, hcode, hini, hy, hpl, hlink⟩, hin1, hinst⟩ ⟨hbld, hpre⟩ rfl hlen2 hl.1 hst2 hsum hd hcr) hnx hA h0 had hD hS hl f1 f2 b4 b5 (fun v w z => z) hk
      · exact ek_after (va_runIN (As := av.map (en_v ad1)) (b := ad1 b) (bytes := bytes) (maxL := maxL) (n := na) (rm := rm) S hMet ⟨⟨hcb, hcode, hini, hy, hpl, hlink⟩, hin1, hinst⟩ ⟨hbld, hpre⟩ rfl hlen2 hl.1 hst2 hsum hd hcr) hnx hA h0 had hD hS hl f1 f2 b4 b5 (fun v w z => z) hk
  · obtain ⟨ci, hci⟩ : ∃ ci, q.2.1 = ci + 2 := ⟨q.2.1 - 2, by omega⟩
    rw [hci] at hkind b2
    obtain ⟨C, T, N, hcl, hinst, hsel, hna⟩ := hkind
    match av, hargs, b2, hlen, hst, hpre, hMet, hbld with
    | .ref b :: av, hargs, b2, hlen, hst, hpre, hMet, hbld =>
      have hrec : ∃ fs, ws[b]? = some (.inr (ci, fs)) := by
        simp only [en_rcv] at b2
        split at b2
        · rename_i c1 fs heq
          have : c1 = ci := Nat.eq_of_beq_eq_true b2
          subst this
          exact ⟨fs, heq⟩
        · cases b2
      obtain ⟨fs, hfs⟩ := hrec
      have hcell := va_recv (q0 := b) hK hP hcl (en_w_some hfs)
      have hna : q.1 = na + 1 := hna
      have hlen2 : (av.map (en_v ad1)).length = na := by
        simp only [List.map_cons, List.length_cons] at hlen
        omega
      have hst2 : (F0 m pc ls (st.map (en_v ad1))).stack = (av.map (en_v ad1)).reverse ++ Value.ref (ad1 b) :: (st.drop q.1).map (en_v ad1) := by
        rw [hst]
        simp only [List.map_cons, List.reverse_cons, List.append_assoc, List.singleton_append]
        rfl
      rcases hlink with hlink | ⟨host, hlink⟩
      · exact ek_after (va_runV (As := av.map (en_v ad1)) (b := ad1 b) (C := C) (ret := ret) (bytes := bytes) (maxL := maxL) (n := na) (rm := rm) S hMet ⟨⟨hrc, hrs, hfr, hlo, hcw, List.mem_singleton.mpr rfl, hcode, hini, hy, hpl, hlink⟩, hinst, hsel⟩ ⟨hbld, hcell, hpre⟩ rfl hlen2 hl.1 hst2 hsum hd hcr) hnx hA h0 had hD hS hl f1 f2 b4 b5 (fun v w z => z) hk
      · exact ek_after (va_runVN (As := av.map (en_v ad1)) (b := ad1 b) (C := C) (ret := ret) (bytes := bytes) (maxL := maxL) (n := na) (rm := rm) S hMet ⟨⟨hcb, hcode, hini, hy, hpl, hlink⟩, hinst, hsel⟩ ⟨hbld, hcell, hpre⟩ rfl hlen2 hl.1 hst2 hsum hd hcr) hnx hA h0 had hD hS hl f1 f2 b4 b5 (fun v w z => z) hk

end SND5

section SND6
variable {X : List (Nat × Value)}
variable {p : Program} {l : Launch} {e : Env} {R : Room} {s : State} {m : MethodId} {args : Array Value} {below : List Frame} {meth : Method} {c : Code} {Q : State → Prop}
variable {WD : State → Prop} {D : va_G} {cl : List vw_C} {dT : Nat → Nat} {A : Nat → Prop} {t : en_T} {own : String} {cc : ByteArray} {n0 : Nat} {ad : Nat → Nat}
/-- what a method's end must give -/
def ek_R (D : va_G) (cl : List vw_C) (dT : Nat → Nat) (A : Nat → Prop) (t : en_T) (n0 : Nat) (ad : Nat → Nat) (p : Program) (l : Launch) (e : Env) (R : Room) (s : State) (m : MethodId) (args : Array Value) (below : List Frame) (meth : Method) (c : Code) (Q : State → Prop) (G : Option Value → List va_E → Prop) (cc : ByteArray) : Prop :=
  ∀ (v : Option Value) (ws : List va_E) (i : Instr) (pc cs sl : Nat), G v ws → decode cc pc = .ok (i, 1) → ((∃ x, i = .ireturn ∧ v = some (.int x) ∧ (t.2.2.2.2.2.2.2 = some .int ∨ (t.2.2.2.2.2.2.2 = some .boolean ∧ narrow .boolean (.int x) = .int x))) ∨ (i = .return_ ∧ v = none ∧ t.2.2.2.2.2.2.2 = none)) →
    n0 ≤ ws.length → cs ≤ t.1.2.1 → sl ≤ t.1.2.2 → ∀ (ad1 : Nat → Nat) (H : Heap) (locs : List Loc) (ls : Array Slot), (∀ k, k < n0 → ad1 k = ad k) → va_P D cl (en_w ad1 dT ws) H → va_D A (en_w ad1 dT ws) → va_S A s.heap H locs → W p l e R s m args below meth c H locs cs sl Q (F0 m pc ls ((v.map (en_v ad1)).toList))
theorem ek_newa_ok (hx : p.tables.exec = Jvm.exec) (hb : c.code = cc) {atype : ArrayType} {ty : FieldType} (harr : (Jvm.Cond.arrayClass ty).before args s = true) (hty : newarray.typeOf atype = ty) (hK : va_K D cl (en_ty dT) s) (hA : ∀ q, s.heap.size ≤ q → A q) (hR : t.1.2.1 ≤ R.cells ∧ t.1.2.2 ≤ R.slots)
    {ki : Nat} (hki : (en_ty dT)[ki]? = some (dT ki, ty)) (hpr : ∀ cA, va_RA s cA ty = (s.vm.findClass ("[" ++ ty.toString) = some cA)) {n : Int32} {a0 : Nat → vp_A} (ha : ∀ cA : ClassId, vp_cell cA (a0 n.toNatClampNeg) = arrV cA n.toNatClampNeg (fun _ => defaultValue ty)) (hn : ¬ n < 0) (hle : n.toNatClampNeg ≤ 1000000) {cs sl pc : Nat} (hc1 : cs + 1 ≤ t.1.2.1) (hc2 : sl + n.toNatClampNeg ≤ t.1.2.2) (hby : componentBytes ty ≤ 8) (hd : decode cc pc = .ok (.newarray atype, 2))
    {lv : en_L} {r : List Value} {ws : List va_E} (j1 : en_los ws.length r = true) (j2 : en_loL ws.length lv = true) (j3 : en_loW ws.length ws = true)
    (K : ek_OK X D cl dT A t n0 ad p l e R s m args below meth c Q (cs + 1) (sl + n.toNatClampNeg) (pc + 2) lv (.ref ws.length :: r) (ws ++ [.inl (ki, a0 n.toNatClampNeg)])) : ek_OK X D cl dT A t n0 ad p l e R s m args below meth c Q cs sl pc lv (.int n :: r) ws := by
  intro h0 h1 h2 ad1 H locs ls had hP hD hS hl
  subst hty
  refine va_newa (a0 := a0 n.toNatClampNeg) hx hb harr rfl hK hP hD hS hA ha hn rfl (Nat.le_trans (Nat.mul_le_mul hle hby) (by decide)) (Nat.le_trans hc1 hR.1) (Nat.le_trans hc2 hR.2) hd (fun q cA H1 hK1 hP1 hD1 hS1 => ?_)
  have hcA : cA = dT ki := by
    have z1 := (hK1.2 3 (cA, newarray.typeOf atype) rfl).2
    have z2 := (hK.2 ki _ hki).2
    rw [hpr] at z1 z2
    exact Option.some.inj (z1.symm.trans z2)
  subst hcA
  have hpu := en_w_push (ad := ad1) (dT := dT) (ws := ws) (x := .inl (ki, a0 n.toNatClampNeg)) q j3 rfl
  have hag : ∀ k, k < ws.length → (fun k => if k = ws.length then q else ad1 k) k = ad1 k := fun k hk => by
    show (if k = ws.length then q else ad1 k) = ad1 k
    rw [if_neg (by omega)]
  have K2 := K (by rw [List.length_append]; exact Nat.le_trans h0 (Nat.le_add_right _ _)) hc1 hc2 (fun k => if k = ws.length then q else ad1 k) H1 locs ls (fun k hk => (hag k (Nat.lt_of_lt_of_le hk h0)).trans (had k hk)) (by rw [hpu]; exact hP1) (by rw [hpu]; exact hD1) hS1 (by rw [en_lo_l hag j2]; exact hl)
  have hst : (Value.ref ws.length :: r).map (en_v (fun k => if k = ws.length then q else ad1 k)) = Value.ref q :: r.map (en_v ad1) := by
    rw [List.map_cons, en_lo_vs hag j1]
    show Value.ref (if ws.length = ws.length then q else ad1 ws.length) :: _ = _
    rw [if_pos rfl]
  rw [hst] at K2
  exact K2
set_option maxHeartbeats 8000000 in
set_option maxRecDepth 100000 in
theorem ek_st_ok (hX : ∀ q ∈ X, q.1 = 0 ∧ q.2.category = 1) (hXt : ∀ q ∈ t.2.1, ek_no q.2.1 = true) (hW1 : ∀ u U : State, u.vm = U.vm → WD u → WD U) (hW2 : ∀ u U : State, u.WarmedH U.vm → WD u → WD U) (C : en_X WD D cl dT A t p l R s m args meth c own cc) {G : Option Value → List va_E → Prop} (hret : ek_R D cl dT A t n0 ad p l e R s m args below meth c Q G cc) {k : en_K} (hk : ∀ cs sl pc lv st ws, k cs sl pc lv st ws → ek_OK X D cl dT A t n0 ad p l e R s m args below meth c Q cs sl pc lv st ws)
    {cs sl pc : Nat} {lv : en_L} {st : List Value} {ws : List va_E} (h : en_st t G k cs sl pc lv st ws) : ek_OK X D cl dT A t n0 ad p l e R s m args below meth c Q cs sl pc lv st ws := by
  have C' := C
  obtain ⟨hx, hb, hml, hown, hK, hA, hWD, hR, hT, hF, hCn, hM, hN, hO, hAr⟩ := C
  unfold en_st at h
  cases hlk : en_lk t.2.1 pc with
  | none => rw [hlk] at h; exact h.elim
  | some q =>
  obtain ⟨i, nx, tg⟩ := q
  rw [hlk] at h
  obtain ⟨hd, hck⟩ := hT _ (en_lk_mem hlk)
  have hno := hXt _ (en_lk_mem hlk)
  dsimp only at hd h
  cases i with
  | iconst n =>
    have hn : nx = pc + 1 := Nat.eq_of_beq_eq_true hck
    subst hn
    rw [Nat.add_sub_cancel_left] at hd
    intro h0 h1 h2 ad1 H locs ls had hP hD hS hl
    exact lv_iconst hx hb hd rfl (hk _ _ _ _ _ _ h h0 h1 h2 ad1 H locs ls had hP hD hS hl)
  | bipush n =>
    have hn : nx = pc + 2 := Nat.eq_of_beq_eq_true hck
    subst hn
    rw [Nat.add_sub_cancel_left] at hd
    intro h0 h1 h2 ad1 H locs ls had hP hD hS hl
    exact lv_bipush hx hb hd rfl (hk _ _ _ _ _ _ h h0 h1 h2 ad1 H locs ls had hP hD hS hl)
  | sipush n =>
    have hn : nx = pc + 3 := Nat.eq_of_beq_eq_true hck
    subst hn
    rw [Nat.add_sub_cancel_left] at hd
    intro h0 h1 h2 ad1 H locs ls had hP hD hS hl
    exact lv_sipush hx hb hd rfl (hk _ _ _ _ _ _ h h0 h1 h2 ad1 H locs ls had hP hD hS hl)
  | lconst n =>
    have hn : nx = pc + 1 := Nat.eq_of_beq_eq_true hck
    subst hn
    rw [Nat.add_sub_cancel_left] at hd
    intro h0 h1 h2 ad1 H locs ls had hP hD hS hl
    exact lv_lconst hx hb hd rfl (hk _ _ _ _ _ _ h h0 h1 h2 ad1 H locs ls had hP hD hS hl)
  | ldc x =>
    have hn : nx = pc + 2 := Nat.eq_of_beq_eq_true hck
    subst hn
    rw [Nat.add_sub_cancel_left] at hd
    dsimp only at h
    split at h
    · rename_i v heq
      have hc := hCn _ (en_lk_mem heq)
      intro h0 h1 h2 ad1 H locs ls had hP hD hS hl
      exact lv_ldc hx hb hown hc hd (hk _ _ _ _ _ _ h h0 h1 h2 ad1 H locs ls had hP hD hS hl)
    · exact h.elim
  | ldc2_w x =>
    have hn : nx = pc + 3 := Nat.eq_of_beq_eq_true hck
    subst hn
    rw [Nat.add_sub_cancel_left] at hd
    dsimp only at h
    split at h
    · rename_i v heq
      have hc := hCn _ (en_lk_mem heq)
      intro h0 h1 h2 ad1 H locs ls had hP hD hS hl
      exact lv_ldc2 hx hb hown hc hd (hk _ _ _ _ _ _ h h0 h1 h2 ad1 H locs ls had hP hD hS hl)
    · exact h.elim
  | iload j =>
    have hn : nx = pc + 2 := Nat.eq_of_beq_eq_true hck
    subst hn
    rw [Nat.add_sub_cancel_left] at hd
    dsimp only at h
    split at h
    · rename_i v heq
      intro h0 h1 h2 ad1 H locs ls had hP hD hS hl
      exact lv_iload hx hb hd (en_at (ek_low hl) heq) (hk _ _ _ _ _ _ h h0 h1 h2 ad1 H locs ls had hP hD hS hl)
    · exact h.elim
  | iload_n j =>
    have hn : nx = pc + 1 := Nat.eq_of_beq_eq_true hck
    subst hn
    rw [Nat.add_sub_cancel_left] at hd
    dsimp only at h
    split at h
    · rename_i v heq
      intro h0 h1 h2 ad1 H locs ls had hP hD hS hl
      exact lv_iload_n hx hb hd rfl (en_at (ek_low hl) heq) (hk _ _ _ _ _ _ h h0 h1 h2 ad1 H locs ls had hP hD hS hl)
    · exact h.elim
  | lload j =>
    have hn : nx = pc + 2 := Nat.eq_of_beq_eq_true hck
    subst hn
    rw [Nat.add_sub_cancel_left] at hd
    dsimp only at h
    split at h
    · rename_i v heq
      intro h0 h1 h2 ad1 H locs ls had hP hD hS hl
      exact lv_lload hx hb hd (en_at (ek_low hl) heq) (hk _ _ _ _ _ _ h h0 h1 h2 ad1 H locs ls had hP hD hS hl)
    · exact h.elim
  | lload_n j =>
    have hn : nx = pc + 1 := Nat.eq_of_beq_eq_true hck
    subst hn
    rw [Nat.add_sub_cancel_left] at hd
    dsimp only at h
    split at h
    · rename_i v heq
      intro h0 h1 h2 ad1 H locs ls had hP hD hS hl
      exact lv_lload_n hx hb hd rfl (en_at (ek_low hl) heq) (hk _ _ _ _ _ _ h h0 h1 h2 ad1 H locs ls had hP hD hS hl)
    · exact h.elim
  | aload j =>
    have hn : nx = pc + 2 := Nat.eq_of_beq_eq_true hck
    subst hn
    rw [Nat.add_sub_cancel_left] at hd
    dsimp only at h
    split at h
    · rename_i v heq
      intro h0 h1 h2 ad1 H locs ls had hP hD hS hl
      exact lv_aload hx hb hd (en_at (ek_low hl) heq) (hk _ _ _ _ _ _ h h0 h1 h2 ad1 H locs ls had hP hD hS hl)
    · exact h.elim
  | aload_n j =>
    have hn : nx = pc + 1 := Nat.eq_of_beq_eq_true hck
    subst hn
    rw [Nat.add_sub_cancel_left] at hd
    dsimp only at h
    split at h
    · rename_i v heq
      intro h0 h1 h2 ad1 H locs ls had hP hD hS hl
      exact lv_aload_n hx hb hd rfl (en_at (ek_low hl) heq) (hk _ _ _ _ _ _ h h0 h1 h2 ad1 H locs ls had hP hD hS hl)
    · exact h.elim
  | istore j =>
    have hn : nx = pc + 2 := Nat.eq_of_beq_eq_true hck
    subst hn
    rw [Nat.add_sub_cancel_left] at hd
    obtain ⟨x, r, rfl, h⟩ := en_i_e h
    obtain ⟨hj, h⟩ := en_bif h
    intro h0 h1 h2 ad1 H locs ls had hP hD hS hl
    exact lv_istore hx hb hd hl (Nat.le_of_ble_eq_true hj) rfl (fun ls hl => hk _ _ _ _ _ _ h h0 h1 h2 ad1 H locs ls had hP hD hS (ek_put1 hX (Nat.le_of_ble_eq_true hno) hl))
  | istore_n j =>
    have hn : nx = pc + 1 := Nat.eq_of_beq_eq_true hck
    subst hn
    rw [Nat.add_sub_cancel_left] at hd
    obtain ⟨x, r, rfl, h⟩ := en_i_e h
    obtain ⟨hj, h⟩ := en_bif h
    intro h0 h1 h2 ad1 H locs ls had hP hD hS hl
    exact lv_istore_n hx hb hd rfl hl (Nat.le_of_ble_eq_true hj) rfl (fun ls hl => hk _ _ _ _ _ _ h h0 h1 h2 ad1 H locs ls had hP hD hS (ek_put1 hX (Nat.le_of_ble_eq_true hno) hl))
  | lstore j =>
    have hn : nx = pc + 2 := Nat.eq_of_beq_eq_true hck
    subst hn
    rw [Nat.add_sub_cancel_left] at hd
    obtain ⟨x, r, rfl, h⟩ := en_j_e h
    obtain ⟨hj, h⟩ := en_bif h
    intro h0 h1 h2 ad1 H locs ls had hP hD hS hl
    exact lv_lstore hx hb hd hl (Nat.le_of_ble_eq_true hj) rfl (fun ls hl => hk _ _ _ _ _ _ h h0 h1 h2 ad1 H locs ls had hP hD hS (ek_put2 hX (Nat.le_of_ble_eq_true hno) hl))
  | lstore_n j =>
    have hn : nx = pc + 1 := Nat.eq_of_beq_eq_true hck
    subst hn
    rw [Nat.add_sub_cancel_left] at hd
    obtain ⟨x, r, rfl, h⟩ := en_j_e h
    obtain ⟨hj, h⟩ := en_bif h
    intro h0 h1 h2 ad1 H locs ls had hP hD hS hl
    exact lv_lstore_n hx hb hd rfl hl (Nat.le_of_ble_eq_true hj) rfl (fun ls hl => hk _ _ _ _ _ _ h h0 h1 h2 ad1 H locs ls had hP hD hS (ek_put2 hX (Nat.le_of_ble_eq_true hno) hl))
  | astore j =>
    have hn : nx = pc + 2 := Nat.eq_of_beq_eq_true hck
    subst hn
    rw [Nat.add_sub_cancel_left] at hd
    obtain ⟨x, r, rfl, h⟩ := en_r_e h
    obtain ⟨hj, h⟩ := en_bif h
    intro h0 h1 h2 ad1 H locs ls had hP hD hS hl
    exact lv_astore hx hb hd hl (Nat.le_of_ble_eq_true hj) rfl (fun ls hl => hk _ _ _ _ _ _ h h0 h1 h2 ad1 H locs ls had hP hD hS (ek_put1 hX (Nat.le_of_ble_eq_true hno) hl))
  | astore_n j =>
    have hn : nx = pc + 1 := Nat.eq_of_beq_eq_true hck
    subst hn
    rw [Nat.add_sub_cancel_left] at hd
    obtain ⟨x, r, rfl, h⟩ := en_r_e h
    obtain ⟨hj, h⟩ := en_bif h
    intro h0 h1 h2 ad1 H locs ls had hP hD hS hl
    exact lv_astore_n hx hb hd rfl hl (Nat.le_of_ble_eq_true hj) rfl (fun ls hl => hk _ _ _ _ _ _ h h0 h1 h2 ad1 H locs ls had hP hD hS (ek_put1 hX (Nat.le_of_ble_eq_true hno) hl))
  | iinc j n =>
    have hn : nx = pc + 3 := Nat.eq_of_beq_eq_true hck
    subst hn
    rw [Nat.add_sub_cancel_left] at hd
    dsimp only at h
    split at h
    · rename_i v heq
      obtain ⟨hj, h⟩ := en_bif h
      intro h0 h1 h2 ad1 H locs ls had hP hD hS hl
      obtain ⟨kk, hkk⟩ := List.getElem?_of_mem (List.mem_map.mpr ⟨(j, Value.int v), en_get_mem heq, rfl⟩ : (j, Value.int v) ∈ en_l ad1 lv)
      obtain ⟨kk, hkk⟩ := List.getElem?_of_mem (List.mem_append_right X (List.mem_of_getElem? hkk))
      exact lv_iinc hx hb hd hl hkk rfl (Nat.le_of_ble_eq_true hj) rfl (fun ls hl => hk _ _ _ _ _ _ h h0 h1 h2 ad1 H locs ls had hP hD hS (ek_put1 (v := .int (v + Int32.ofInt n)) hX (Nat.le_of_ble_eq_true hno) hl))
    · exact h.elim
  | iadd =>
    have hn : nx = pc + 1 := Nat.eq_of_beq_eq_true hck
    subst hn
    rw [Nat.add_sub_cancel_left] at hd
    obtain ⟨x, y, r, rfl, h⟩ := en_ii_e h
    intro h0 h1 h2 ad1 H locs ls had hP hD hS hl
    exact lv_iadd hx hb hd (hk _ _ _ _ _ _ h h0 h1 h2 ad1 H locs ls had hP hD hS hl)
  | isub =>
    have hn : nx = pc + 1 := Nat.eq_of_beq_eq_true hck
    subst hn
    rw [Nat.add_sub_cancel_left] at hd
    obtain ⟨x, y, r, rfl, h⟩ := en_ii_e h
    intro h0 h1 h2 ad1 H locs ls had hP hD hS hl
    exact lv_isub hx hb hd (hk _ _ _ _ _ _ h h0 h1 h2 ad1 H locs ls had hP hD hS hl)
  | imul =>
    have hn : nx = pc + 1 := Nat.eq_of_beq_eq_true hck
    subst hn
    rw [Nat.add_sub_cancel_left] at hd
    obtain ⟨x, y, r, rfl, h⟩ := en_ii_e h
    intro h0 h1 h2 ad1 H locs ls had hP hD hS hl
    exact lv_imul hx hb hd (hk _ _ _ _ _ _ h h0 h1 h2 ad1 H locs ls had hP hD hS hl)
  | iand =>
    have hn : nx = pc + 1 := Nat.eq_of_beq_eq_true hck
    subst hn
    rw [Nat.add_sub_cancel_left] at hd
    obtain ⟨x, y, r, rfl, h⟩ := en_ii_e h
    intro h0 h1 h2 ad1 H locs ls had hP hD hS hl
    exact lv_iand hx hb hd (hk _ _ _ _ _ _ h h0 h1 h2 ad1 H locs ls had hP hD hS hl)
  | ior =>
    have hn : nx = pc + 1 := Nat.eq_of_beq_eq_true hck
    subst hn
    rw [Nat.add_sub_cancel_left] at hd
    obtain ⟨x, y, r, rfl, h⟩ := en_ii_e h
    intro h0 h1 h2 ad1 H locs ls had hP hD hS hl
    exact lv_ior hx hb hd (hk _ _ _ _ _ _ h h0 h1 h2 ad1 H locs ls had hP hD hS hl)
  | ixor =>
    have hn : nx = pc + 1 := Nat.eq_of_beq_eq_true hck
    subst hn
    rw [Nat.add_sub_cancel_left] at hd
    obtain ⟨x, y, r, rfl, h⟩ := en_ii_e h
    intro h0 h1 h2 ad1 H locs ls had hP hD hS hl
    exact lv_ixor hx hb hd (hk _ _ _ _ _ _ h h0 h1 h2 ad1 H locs ls had hP hD hS hl)
  | ishl =>
    have hn : nx = pc + 1 := Nat.eq_of_beq_eq_true hck
    subst hn
    rw [Nat.add_sub_cancel_left] at hd
    obtain ⟨x, y, r, rfl, h⟩ := en_ii_e h
    intro h0 h1 h2 ad1 H locs ls had hP hD hS hl
    exact lv_ishl hx hb hd (hk _ _ _ _ _ _ h h0 h1 h2 ad1 H locs ls had hP hD hS hl)
  | ishr =>
    have hn : nx = pc + 1 := Nat.eq_of_beq_eq_true hck
    subst hn
    rw [Nat.add_sub_cancel_left] at hd
    obtain ⟨x, y, r, rfl, h⟩ := en_ii_e h
    intro h0 h1 h2 ad1 H locs ls had hP hD hS hl
    exact lv_ishr hx hb hd (hk _ _ _ _ _ _ h h0 h1 h2 ad1 H locs ls had hP hD hS hl)
  | idiv =>
    have hn : nx = pc + 1 := Nat.eq_of_beq_eq_true hck
    subst hn
    rw [Nat.add_sub_cancel_left] at hd
    obtain ⟨x, y, r, rfl, hne, h⟩ := en_ii_e h
    intro h0 h1 h2 ad1 H locs ls had hP hD hS hl
    exact lv_idiv hx hb hd hne (hk _ _ _ _ _ _ h h0 h1 h2 ad1 H locs ls had hP hD hS hl)
  | irem =>
    have hn : nx = pc + 1 := Nat.eq_of_beq_eq_true hck
    subst hn
    rw [Nat.add_sub_cancel_left] at hd
    obtain ⟨x, y, r, rfl, hne, h⟩ := en_ii_e h
    intro h0 h1 h2 ad1 H locs ls had hP hD hS hl
    exact lv_irem hx hb hd hne (hk _ _ _ _ _ _ h h0 h1 h2 ad1 H locs ls had hP hD hS hl)
  | ineg =>
    have hn : nx = pc + 1 := Nat.eq_of_beq_eq_true hck
    subst hn
    rw [Nat.add_sub_cancel_left] at hd
    obtain ⟨x, r, rfl, h⟩ := en_i_e h
    intro h0 h1 h2 ad1 H locs ls had hP hD hS hl
    exact lv_ineg hx hb hd (hk _ _ _ _ _ _ h h0 h1 h2 ad1 H locs ls had hP hD hS hl)
  | ladd =>
    have hn : nx = pc + 1 := Nat.eq_of_beq_eq_true hck
    subst hn
    rw [Nat.add_sub_cancel_left] at hd
    obtain ⟨x, y, r, rfl, h⟩ := en_jj_e h
    intro h0 h1 h2 ad1 H locs ls had hP hD hS hl
    exact lv_ladd hx hb hd (hk _ _ _ _ _ _ h h0 h1 h2 ad1 H locs ls had hP hD hS hl)
  | lsub =>
    have hn : nx = pc + 1 := Nat.eq_of_beq_eq_true hck
    subst hn
    rw [Nat.add_sub_cancel_left] at hd
    obtain ⟨x, y, r, rfl, h⟩ := en_jj_e h
    intro h0 h1 h2 ad1 H locs ls had hP hD hS hl
    exact lv_lsub hx hb hd (hk _ _ _ _ _ _ h h0 h1 h2 ad1 H locs ls had hP hD hS hl)
  | lmul =>
    have hn : nx = pc + 1 := Nat.eq_of_beq_eq_true hck
    subst hn
    rw [Nat.add_sub_cancel_left] at hd
    obtain ⟨x, y, r, rfl, h⟩ := en_jj_e h
    intro h0 h1 h2 ad1 H locs ls had hP hD hS hl
    exact lv_lmul hx hb hd (hk _ _ _ _ _ _ h h0 h1 h2 ad1 H locs ls had hP hD hS hl)
  | land =>
    have hn : nx = pc + 1 := Nat.eq_of_beq_eq_true hck
    subst hn
    rw [Nat.add_sub_cancel_left] at hd
    obtain ⟨x, y, r, rfl, h⟩ := en_jj_e h
    intro h0 h1 h2 ad1 H locs ls had hP hD hS hl
    exact lv_land hx hb hd (hk _ _ _ _ _ _ h h0 h1 h2 ad1 H locs ls had hP hD hS hl)
  | lor =>
    have hn : nx = pc + 1 := Nat.eq_of_beq_eq_true hck
    subst hn
    rw [Nat.add_sub_cancel_left] at hd
    obtain ⟨x, y, r, rfl, h⟩ := en_jj_e h
    intro h0 h1 h2 ad1 H locs ls had hP hD hS hl
    exact lv_lor hx hb hd (hk _ _ _ _ _ _ h h0 h1 h2 ad1 H locs ls had hP hD hS hl)
  | lxor =>
    have hn : nx = pc + 1 := Nat.eq_of_beq_eq_true hck
    subst hn
    rw [Nat.add_sub_cancel_left] at hd
    obtain ⟨x, y, r, rfl, h⟩ := en_jj_e h
    intro h0 h1 h2 ad1 H locs ls had hP hD hS hl
    exact lv_lxor hx hb hd (hk _ _ _ _ _ _ h h0 h1 h2 ad1 H locs ls had hP hD hS hl)
  | ldiv =>
    have hn : nx = pc + 1 := Nat.eq_of_beq_eq_true hck
    subst hn
    rw [Nat.add_sub_cancel_left] at hd
    obtain ⟨x, y, r, rfl, hne, h⟩ := en_jj_e h
    intro h0 h1 h2 ad1 H locs ls had hP hD hS hl
    exact lv_ldiv hx hb hd hne (hk _ _ _ _ _ _ h h0 h1 h2 ad1 H locs ls had hP hD hS hl)
  | lrem =>
    have hn : nx = pc + 1 := Nat.eq_of_beq_eq_true hck
    subst hn
    rw [Nat.add_sub_cancel_left] at hd
    obtain ⟨x, y, r, rfl, hne, h⟩ := en_jj_e h
    intro h0 h1 h2 ad1 H locs ls had hP hD hS hl
    exact lv_lrem hx hb hd hne (hk _ _ _ _ _ _ h h0 h1 h2 ad1 H locs ls had hP hD hS hl)
  | lushr =>
    have hn : nx = pc + 1 := Nat.eq_of_beq_eq_true hck
    subst hn
    rw [Nat.add_sub_cancel_left] at hd
    obtain ⟨x, y, r, rfl, h⟩ := en_ji_e h
    intro h0 h1 h2 ad1 H locs ls had hP hD hS hl
    exact lv_lushr hx hb hd rfl (hk _ _ _ _ _ _ h h0 h1 h2 ad1 H locs ls had hP hD hS hl)
  | lshl =>
    have hn : nx = pc + 1 := Nat.eq_of_beq_eq_true hck
    subst hn
    rw [Nat.add_sub_cancel_left] at hd
    obtain ⟨x, y, r, rfl, h⟩ := en_ji_e h
    intro h0 h1 h2 ad1 H locs ls had hP hD hS hl
    exact lv_lshl hx hb hd rfl (hk _ _ _ _ _ _ h h0 h1 h2 ad1 H locs ls had hP hD hS hl)
  | lshr =>
    have hn : nx = pc + 1 := Nat.eq_of_beq_eq_true hck
    subst hn
    rw [Nat.add_sub_cancel_left] at hd
    obtain ⟨x, y, r, rfl, h⟩ := en_ji_e h
    intro h0 h1 h2 ad1 H locs ls had hP hD hS hl
    exact lv_lshr hx hb hd rfl (hk _ _ _ _ _ _ h h0 h1 h2 ad1 H locs ls had hP hD hS hl)
  | lcmp =>
    have hn : nx = pc + 1 := Nat.eq_of_beq_eq_true hck
    subst hn
    rw [Nat.add_sub_cancel_left] at hd
    obtain ⟨x, y, r, rfl, h⟩ := en_jj_e h
    intro h0 h1 h2 ad1 H locs ls had hP hD hS hl
    exact W.lcmp hx hb hd (hk _ _ _ _ _ _ h h0 h1 h2 ad1 H locs ls had hP hD hS hl)
  | i2l =>
    have hn : nx = pc + 1 := Nat.eq_of_beq_eq_true hck
    subst hn
    rw [Nat.add_sub_cancel_left] at hd
    obtain ⟨x, r, rfl, h⟩ := en_i_e h
    intro h0 h1 h2 ad1 H locs ls had hP hD hS hl
    exact lv_i2l hx hb hd rfl (hk _ _ _ _ _ _ h h0 h1 h2 ad1 H locs ls had hP hD hS hl)
  | l2i =>
    have hn : nx = pc + 1 := Nat.eq_of_beq_eq_true hck
    subst hn
    rw [Nat.add_sub_cancel_left] at hd
    obtain ⟨x, r, rfl, h⟩ := en_j_e h
    intro h0 h1 h2 ad1 H locs ls had hP hD hS hl
    exact lv_l2i hx hb hd rfl (hk _ _ _ _ _ _ h h0 h1 h2 ad1 H locs ls had hP hD hS hl)
  | dup =>
    have hn : nx = pc + 1 := Nat.eq_of_beq_eq_true hck
    subst hn
    rw [Nat.add_sub_cancel_left] at hd
    dsimp only at h
    split at h
    · obtain ⟨hj, h⟩ := en_bif h
      intro h0 h1 h2 ad1 H locs ls had hP hD hS hl
      exact lv_dup hx hb hd ((en_v_cat ad1 _).trans (Nat.eq_of_beq_eq_true hj)) (hk _ _ _ _ _ _ h h0 h1 h2 ad1 H locs ls had hP hD hS hl)
    · exact h.elim
  | pop =>
    have hn : nx = pc + 1 := Nat.eq_of_beq_eq_true hck
    subst hn
    rw [Nat.add_sub_cancel_left] at hd
    dsimp only at h
    split at h
    · obtain ⟨hj, h⟩ := en_bif h
      intro h0 h1 h2 ad1 H locs ls had hP hD hS hl
      exact lv_pop hx hb hd ((en_v_cat ad1 _).trans (Nat.eq_of_beq_eq_true hj)) (hk _ _ _ _ _ _ h h0 h1 h2 ad1 H locs ls had hP hD hS hl)
    · exact h.elim
  | dup_x1 =>
    have hn : nx = pc + 1 := Nat.eq_of_beq_eq_true hck
    subst hn
    rw [Nat.add_sub_cancel_left] at hd
    dsimp only at h
    split at h
    · obtain ⟨hj, h⟩ := en_bif h
      simp only [Bool.and_eq_true] at hj
      intro h0 h1 h2 ad1 H locs ls had hP hD hS hl
      exact lv_dup_x1 hx hb hd ((en_v_cat ad1 _).trans (Nat.eq_of_beq_eq_true hj.1)) ((en_v_cat ad1 _).trans (Nat.eq_of_beq_eq_true hj.2)) (hk _ _ _ _ _ _ h h0 h1 h2 ad1 H locs ls had hP hD hS hl)
    · exact h.elim
  | dup_x2 =>
    have hn : nx = pc + 1 := Nat.eq_of_beq_eq_true hck
    subst hn
    rw [Nat.add_sub_cancel_left] at hd
    dsimp only at h
    split at h
    · obtain ⟨hj, h⟩ := en_bif h
      simp only [Bool.and_eq_true] at hj
      intro h0 h1 h2 ad1 H locs ls had hP hD hS hl
      exact lv_dup_x2 hx hb hd ((en_v_cat ad1 _).trans (Nat.eq_of_beq_eq_true hj.1.1)) ((en_v_cat ad1 _).trans (Nat.eq_of_beq_eq_true hj.1.2)) ((en_v_cat ad1 _).trans (Nat.eq_of_beq_eq_true hj.2)) (hk _ _ _ _ _ _ h h0 h1 h2 ad1 H locs ls had hP hD hS hl)
    · exact h.elim
  | dup2 =>
    have hn : nx = pc + 1 := Nat.eq_of_beq_eq_true hck
    subst hn
    rw [Nat.add_sub_cancel_left] at hd
    dsimp only at h
    split at h
    · rename_i v r
      cases h2c : Nat.beq v.category 2 with
      | true =>
        rw [h2c] at h
        intro h0 h1 h2 ad1 H locs ls had hP hD hS hl
        exact lv_dup2_2 hx hb hd ((en_v_cat ad1 v).trans (Nat.eq_of_beq_eq_true h2c)) (hk _ _ _ _ _ _ h h0 h1 h2 ad1 H locs ls had hP hD hS hl)
      | false =>
        rw [h2c] at h
        simp only [cond_false] at h
        split at h
        · obtain ⟨hj, h⟩ := en_bif h
          simp only [Bool.and_eq_true] at hj
          intro h0 h1 h2 ad1 H locs ls had hP hD hS hl
          exact lv_dup2_11 hx hb hd ((en_v_cat ad1 _).trans (Nat.eq_of_beq_eq_true hj.1)) ((en_v_cat ad1 _).trans (Nat.eq_of_beq_eq_true hj.2)) (hk _ _ _ _ _ _ h h0 h1 h2 ad1 H locs ls had hP hD hS hl)
        · exact h.elim
    · exact h.elim
  | goto o =>
    have hck2 : (Nat.beq nx (pc + 3) && en_zip pc [o] tg) = true := hck
    simp only [Bool.and_eq_true] at hck2
    have hn : nx = pc + 3 := Nat.eq_of_beq_eq_true hck2.1
    subst hn
    rw [Nat.add_sub_cancel_left] at hd
    dsimp only at h
    split at h
    · intro h0 h1 h2 ad1 H locs ls had hP hD hS hl
      exact lv_goto hx hb hd (en_zip1 hck2.2) (hk _ _ _ _ _ _ h h0 h1 h2 ad1 H locs ls had hP hD hS hl)
    · exact h.elim
  | ifCond cd o =>
    have hck2 : (Nat.beq nx (pc + 3) && en_zip pc [o] tg) = true := hck
    simp only [Bool.and_eq_true] at hck2
    have hn : nx = pc + 3 := Nat.eq_of_beq_eq_true hck2.1
    subst hn
    rw [Nat.add_sub_cancel_left] at hd
    dsimp only at h
    split at h
    · obtain ⟨x, r, rfl, h⟩ := en_i_e h
      intro h0 h1 h2 ad1 H locs ls had hP hD hS hl
      cases cd with
      | eq => exact lv_if_eq hx hb hd (en_zip1 hck2.2) (fun z => hk _ _ _ _ _ _ (h.1 z) h0 h1 h2 ad1 H locs ls had hP hD hS hl) (fun z => hk _ _ _ _ _ _ (h.2 z) h0 h1 h2 ad1 H locs ls had hP hD hS hl)
      | ne => exact lv_if_ne hx hb hd (en_zip1 hck2.2) (fun z => hk _ _ _ _ _ _ (h.1 z) h0 h1 h2 ad1 H locs ls had hP hD hS hl) (fun z => hk _ _ _ _ _ _ (h.2 z) h0 h1 h2 ad1 H locs ls had hP hD hS hl)
      | lt => exact lv_if_lt hx hb hd (en_zip1 hck2.2) (fun z => hk _ _ _ _ _ _ (h.1 z) h0 h1 h2 ad1 H locs ls had hP hD hS hl) (fun z => hk _ _ _ _ _ _ (h.2 z) h0 h1 h2 ad1 H locs ls had hP hD hS hl)
      | ge => exact lv_if_ge hx hb hd (en_zip1 hck2.2) (fun z => hk _ _ _ _ _ _ (h.1 z) h0 h1 h2 ad1 H locs ls had hP hD hS hl) (fun z => hk _ _ _ _ _ _ (h.2 z) h0 h1 h2 ad1 H locs ls had hP hD hS hl)
      | gt => exact lv_if_gt hx hb hd (en_zip1 hck2.2) (fun z => hk _ _ _ _ _ _ (h.1 z) h0 h1 h2 ad1 H locs ls had hP hD hS hl) (fun z => hk _ _ _ _ _ _ (h.2 z) h0 h1 h2 ad1 H locs ls had hP hD hS hl)
      | le => exact lv_if_le hx hb hd (en_zip1 hck2.2) (fun z => hk _ _ _ _ _ _ (h.1 z) h0 h1 h2 ad1 H locs ls had hP hD hS hl) (fun z => hk _ _ _ _ _ _ (h.2 z) h0 h1 h2 ad1 H locs ls had hP hD hS hl)
    · exact h.elim
  | if_icmp cd o =>
    have hck2 : (Nat.beq nx (pc + 3) && en_zip pc [o] tg) = true := hck
    simp only [Bool.and_eq_true] at hck2
    have hn : nx = pc + 3 := Nat.eq_of_beq_eq_true hck2.1
    subst hn
    rw [Nat.add_sub_cancel_left] at hd
    dsimp only at h
    split at h
    · obtain ⟨x, y, r, rfl, h⟩ := en_ii_e h
      intro h0 h1 h2 ad1 H locs ls had hP hD hS hl
      cases cd with
      | eq => exact lv_icmp_eq hx hb hd (en_zip1 hck2.2) (fun z => hk _ _ _ _ _ _ (h.1 z) h0 h1 h2 ad1 H locs ls had hP hD hS hl) (fun z => hk _ _ _ _ _ _ (h.2 z) h0 h1 h2 ad1 H locs ls had hP hD hS hl)
      | ne => exact lv_icmp_ne hx hb hd (en_zip1 hck2.2) (fun z => hk _ _ _ _ _ _ (h.1 z) h0 h1 h2 ad1 H locs ls had hP hD hS hl) (fun z => hk _ _ _ _ _ _ (h.2 z) h0 h1 h2 ad1 H locs ls had hP hD hS hl)
      | lt => exact lv_icmp_lt hx hb hd (en_zip1 hck2.2) (fun z => hk _ _ _ _ _ _ (h.1 z) h0 h1 h2 ad1 H locs ls had hP hD hS hl) (fun z => hk _ _ _ _ _ _ (h.2 z) h0 h1 h2 ad1 H locs ls had hP hD hS hl)
      | ge => exact lv_icmp_ge hx hb hd (en_zip1 hck2.2) (fun z => hk _ _ _ _ _ _ (h.1 z) h0 h1 h2 ad1 H locs ls had hP hD hS hl) (fun z => hk _ _ _ _ _ _ (h.2 z) h0 h1 h2 ad1 H locs ls had hP hD hS hl)
      | gt => exact lv_icmp_gt hx hb hd (en_zip1 hck2.2) (fun z => hk _ _ _ _ _ _ (h.1 z) h0 h1 h2 ad1 H locs ls had hP hD hS hl) (fun z => hk _ _ _ _ _ _ (h.2 z) h0 h1 h2 ad1 H locs ls had hP hD hS hl)
      | le => exact lv_icmp_le hx hb hd (en_zip1 hck2.2) (fun z => hk _ _ _ _ _ _ (h.1 z) h0 h1 h2 ad1 H locs ls had hP hD hS hl) (fun z => hk _ _ _ _ _ _ (h.2 z) h0 h1 h2 ad1 H locs ls had hP hD hS hl)
    · exact h.elim
  | tableswitch df lo hi offs =>
    have hck2 : (decide (hi + 1 = lo + (offs.size : Int)) && en_zip pc (df :: offs.toList) tg) = true := hck
    dsimp only at h
    split at h
    · rename_i d gs
      obtain ⟨x, r, rfl, h⟩ := en_i_e h
      simp only [en_zip, Bool.and_eq_true, decide_eq_true_eq] at hck2
      obtain ⟨hsz, hd0, hzp⟩ := hck2
      intro h0 h1 h2 ad1 H locs ls had hP hD hS hl
      by_cases hz : x.toInt < lo ∨ hi < x.toInt
      · exact lv_tableOut hx hb hd hz hd0 (hk _ _ _ _ _ _ (h.1 hz) h0 h1 h2 ad1 H locs ls had hP hD hS hl)
      · have hlo : lo ≤ x.toInt := by omega
        have hhi : x.toInt ≤ hi := by omega
        obtain ⟨off, g, e1, e2, e3⟩ := en_sw_ok gs offs.toList lo hzp h.2 (x.toInt - lo).toNat (by omega) (by rw [Array.length_toList]; omega)
        rw [Array.getElem?_toList] at e1
        exact lv_tableIn hx hb hd (fun z => hz (Or.inl z)) (fun z => hz (Or.inr z)) e1 e2 (hk _ _ _ _ _ _ e3 h0 h1 h2 ad1 H locs ls had hP hD hS hl)
    · exact h.elim
  | getfield x =>
    have hn : nx = pc + 3 := Nat.eq_of_beq_eq_true hck
    subst hn
    rw [Nat.add_sub_cancel_left] at hd
    dsimp only at h
    split at h
    · rename_i ci kf ty w heq
      obtain ⟨a, r, rfl, h⟩ := en_r_e h
      obtain ⟨fs, hfs, h⟩ := en_ob_e h
      obtain ⟨C, T, N, Ts, ty0, hcl, hkf, hts, hin, hlink, hty, htk, hnm, -⟩ := hF _ (en_lk_mem heq)
      split at h
      · rename_i v hv
        intro h0 h1 h2 ad1 H locs ls had hP hD hS hl
        exact va_get (q0 := a) (v := en_v ad1 v) (fs := fs.map (en_v ad1)) hx hb hts hin hown hK hP (en_w_some hfs) hcl kf hkf hlink (fun _ h9 => h9) (by rw [List.getElem?_map, hv]; rfl) hd (hk _ _ _ _ _ _ h h0 h1 h2 ad1 H locs ls had hP hD hS hl)
      · exact h.elim
    · exact h.elim
  | putfield x =>
    have hn : nx = pc + 3 := Nat.eq_of_beq_eq_true hck
    subst hn
    rw [Nat.add_sub_cancel_left] at hd
    dsimp only at h
    split at h
    · rename_i ci kf ty w heq
      split at h
      · rename_i v a r
        obtain ⟨hwf, h⟩ := en_bif h
        simp only [Bool.and_eq_true] at hwf
        obtain ⟨fs, hfs, h⟩ := en_ob_e h
        obtain ⟨hlt, h⟩ := en_bif h
        have hlt : kf < fs.length := Nat.le_of_ble_eq_true hlt
        obtain ⟨C, T, N, Ts, ty0, hcl, hkf, hts, hin, hlink, hty, htk, hnm, hwr⟩ := hF _ (en_lk_mem heq)
        intro h0 h1 h2 ad1 H locs ls had hP hD hS hl
        obtain ⟨hna, hfi⟩ := en_fit_ok hwf.2 ad1
        have hgo : ∀ (H1 : Heap) (locs1 : List Loc), va_P D cl ((en_w ad1 dT ws).set a (ad1 a, .inr (ci, (fs.map (en_v ad1)).set kf (en_v ad1 v)))) H1 → va_D A ((en_w ad1 dT ws).set a (ad1 a, .inr (ci, (fs.map (en_v ad1)).set kf (en_v ad1 v)))) → va_S A s.heap H1 locs1 → W p l e R s m args below meth c H1 locs1 cs sl Q (F0 m (pc + 3) ls (r.map (en_v ad1))) := by
          intro H1 locs1 hP1 hD1 hS1
          have he : (en_w ad1 dT ws).set a (ad1 a, .inr (ci, (fs.map (en_v ad1)).set kf (en_v ad1 v))) = en_w ad1 dT (ws.set a (.inr (ci, fs.set kf v))) := by
            rw [en_w_set, ← List.map_set]
            rfl
          rw [he] at hP1 hD1
          exact hk _ _ _ _ _ _ h (by rw [List.length_set]; exact h0) h1 h2 ad1 H1 locs1 ls had hP1 hD1 hS1 hl
        have htk2 : ty0 kf = ty := htk
        have hpt : parseFieldDescriptor (T kf).2.2.1 = some ty := by rw [← htk2]; exact hty _ hkf
        rcases hwr hwf.1 with hw | ⟨hw, hin1, hdc⟩
        · exact va_put (q0 := a) (fs := fs.map (en_v ad1)) (ty := ty) hx hb hts hin ty0 hty hnm hown hK hP hD hS (en_w_some hfs) hcl kf hkf hlink (fun _ h9 => h9) hw hpt hna hfi (by rw [List.length_map]; exact hlt) hd hgo
        · exact va_putF (q0 := a) (fs := fs.map (en_v ad1)) (ty := ty) hx hb hts hin ty0 hty hnm hown hK hP hD hS (en_w_some hfs) hcl kf hkf hlink (fun _ h9 => h9) hw hin1 hdc hpt hna hfi (by rw [List.length_map]; exact hlt) hd hgo
      · exact h.elim
    · exact h.elim
  | iaload =>
    have hn : nx = pc + 1 := Nat.eq_of_beq_eq_true hck
    subst hn
    rw [Nat.add_sub_cancel_left] at hd
    obtain ⟨a, i, r, rfl, h⟩ := en_ai_e h
    obtain ⟨n, f, hf, hin, h⟩ := en_ar_e h
    intro h0 h1 h2 ad1 H locs ls had hP hD hS hl
    exact va_iald (q0 := a) (t0 := 0) hx hb hK hP (en_w_some hf) rfl hin hd (hk _ _ _ _ _ _ h h0 h1 h2 ad1 H locs ls had hP hD hS hl)
  | baload =>
    have hn : nx = pc + 1 := Nat.eq_of_beq_eq_true hck
    subst hn
    rw [Nat.add_sub_cancel_left] at hd
    obtain ⟨a, i, r, rfl, h⟩ := en_ai_e h
    obtain ⟨n, f, hf, hin, h⟩ := en_ar_e h
    intro h0 h1 h2 ad1 H locs ls had hP hD hS hl
    exact va_zald (q0 := a) (t0 := 2) hx hb hK hP (en_w_some hf) rfl hin hd (hk _ _ _ _ _ _ h h0 h1 h2 ad1 H locs ls had hP hD hS hl)
  | laload =>
    have hn : nx = pc + 1 := Nat.eq_of_beq_eq_true hck
    subst hn
    rw [Nat.add_sub_cancel_left] at hd
    obtain ⟨a, i, r, rfl, h⟩ := en_ai_e h
    obtain ⟨n, f, hf, hin, h⟩ := en_al_e h
    intro h0 h1 h2 ad1 H locs ls had hP hD hS hl
    exact va_lald (q0 := a) (t0 := 1) hx hb hK hP (en_w_some hf) rfl hin hd (hk _ _ _ _ _ _ h h0 h1 h2 ad1 H locs ls had hP hD hS hl)
  | iastore =>
    have hn : nx = pc + 1 := Nat.eq_of_beq_eq_true hck
    subst hn
    rw [Nat.add_sub_cancel_left] at hd
    obtain ⟨a, i, x, r, rfl, h⟩ := en_aii_e h
    obtain ⟨n, f, hf, hin, h⟩ := en_ar_e h
    intro h0 h1 h2 ad1 H locs ls had hP hD hS hl
    exact va_iast (q0 := a) (t0 := 0) hx hb hK hP hD hS (en_w_some hf) rfl hin hd (fun H1 locs1 hP1 hD1 hS1 => hk _ _ _ _ _ _ h (by rw [List.length_set]; exact h0) h1 h2 ad1 H1 locs1 ls had (by rw [en_w_set]; exact hP1) (by rw [en_w_set]; exact hD1) hS1 hl)
  | bastore =>
    have hn : nx = pc + 1 := Nat.eq_of_beq_eq_true hck
    subst hn
    rw [Nat.add_sub_cancel_left] at hd
    obtain ⟨a, i, x, r, rfl, h⟩ := en_aii_e h
    obtain ⟨n, f, hf, hin, h⟩ := en_ar_e h
    intro h0 h1 h2 ad1 H locs ls had hP hD hS hl
    exact va_zast (q0 := a) (t0 := 2) hx hb hK hP hD hS (en_w_some hf) rfl hin hd (fun H1 locs1 hP1 hD1 hS1 => hk _ _ _ _ _ _ h (by rw [List.length_set]; exact h0) h1 h2 ad1 H1 locs1 ls had (by rw [en_w_set]; exact hP1) (by rw [en_w_set]; exact hD1) hS1 hl)
  | lastore =>
    have hn : nx = pc + 1 := Nat.eq_of_beq_eq_true hck
    subst hn
    rw [Nat.add_sub_cancel_left] at hd
    obtain ⟨a, i, x, r, rfl, h⟩ := en_aij_e h
    obtain ⟨n, f, hf, hin, h⟩ := en_al_e h
    intro h0 h1 h2 ad1 H locs ls had hP hD hS hl
    exact va_last (q0 := a) (t0 := 1) hx hb hK hP hD hS (en_w_some hf) rfl hin hd (fun H1 locs1 hP1 hD1 hS1 => hk _ _ _ _ _ _ h (by rw [List.length_set]; exact h0) h1 h2 ad1 H1 locs1 ls had (by rw [en_w_set]; exact hP1) (by rw [en_w_set]; exact hD1) hS1 hl)
  | arraylength =>
    have hn : nx = pc + 1 := Nat.eq_of_beq_eq_true hck
    subst hn
    rw [Nat.add_sub_cancel_left] at hd
    obtain ⟨a, r, rfl, h⟩ := en_r_e h
    obtain ⟨tk, n, g, hg, htk, h⟩ := en_an_e h
    obtain ⟨ty, hty⟩ := en_tyg dT htk
    intro h0 h1 h2 ad1 H locs ls had hP hD hS hl
    exact va_alen (q0 := a) (t0 := tk) hx hb hK hP (en_w_some hg) hty rfl hd (hk _ _ _ _ _ _ h h0 h1 h2 ad1 H locs ls had hP hD hS hl)
  | invokevirtual x =>
    have hn : nx = pc + 3 := Nat.eq_of_beq_eq_true hck
    subst hn
    rw [Nat.add_sub_cancel_left] at hd
    dsimp only at h
    split at h
    · rename_i q heq
      obtain ⟨hj, h⟩ := en_bif h
      exact ek_call_ok hW1 hW2 C' hk (en_lk_mem heq) rfl (Or.inr (Or.inr ⟨Nat.le_of_ble_eq_true hj, hd⟩)) h
    · exact h.elim
  | invokestatic x =>
    have hn : nx = pc + 3 := Nat.eq_of_beq_eq_true hck
    subst hn
    rw [Nat.add_sub_cancel_left] at hd
    dsimp only at h
    split at h
    · rename_i q heq
      obtain ⟨hj, h⟩ := en_bif h
      exact ek_call_ok hW1 hW2 C' hk (en_lk_mem heq) rfl (Or.inl ⟨(Nat.eq_of_beq_eq_true hj).symm, hd⟩) h
    · exact h.elim
  | invokespecial x =>
    have hn : nx = pc + 3 := Nat.eq_of_beq_eq_true hck
    subst hn
    rw [Nat.add_sub_cancel_left] at hd
    dsimp only at h
    cases hoi : Nat.beq x t.2.2.2.2.2.2.1 with
    | true =>
      rw [hoi] at h
      simp only [cond_true] at h
      have hxo : x = t.2.2.2.2.2.2.1 := Nat.eq_of_beq_eq_true hoi
      split at h
      · rename_i a r
        obtain ⟨hj, h⟩ := en_bif h
        simp only [Bool.and_eq_true] at hj
        obtain ⟨hz, hj⟩ := hj
        have hj : en_sum r ≤ 8 := Nat.le_of_ble_eq_true hj
        rcases hO with hO | ⟨o1, o2, o3, o4, o5⟩
        · rw [hO] at hxo
          subst hxo
          cases hz
        · rw [← hxo] at o3
          intro h0 h1 h2 ad1 H locs ls had hP hD hS hl
          refine W.objInit (g := F0 m pc ls (Value.ref (ad1 a) :: r.map (en_v ad1))) hx hb hown o3 o4 o5 rfl (by rw [hml]; exact hl.1) rfl hd o1 (by rw [en_sum_cat]; show 2 * 0 + _ + 12 ≤ _; omega) ?_
          exact hk _ _ _ _ _ _ h h0 h1 h2 ad1 H locs ls had hP hD hS hl
      · exact h.elim
    | false =>
      rw [hoi] at h
      simp only [cond_false] at h
      split at h
      · rename_i q heq
        obtain ⟨hj, h⟩ := en_bif h
        exact ek_call_ok hW1 hW2 C' hk (en_lk_mem heq) rfl (Or.inr (Or.inl ⟨(Nat.eq_of_beq_eq_true hj).symm, hd⟩)) h
      · exact h.elim
  | new x =>
    have hn : nx = pc + 3 := Nat.eq_of_beq_eq_true hck
    subst hn
    rw [Nat.add_sub_cancel_left] at hd
    dsimp only at h
    split at h
    · rename_i ci N fs heq
      obtain ⟨hj, ⟨hc1, hc2⟩, h⟩ := en_bif h
      simp only [Bool.and_eq_true] at hj
      obtain ⟨C, T, Ts, ty0, hcl, hts, hin, hty, hlk1, hins, hini, hdf, hlo⟩ := hN _ (en_lk_mem heq)
      intro h0 h1 h2 ad1 H locs ls had hP hD hS hl
      refine va_new (ci := ci) (fs := fs) hx hb hts hin ty0 hty hown hlk1 hins hini hK hP hD hS hA hcl hdf (Nat.le_trans hc1 hR.1) (Nat.le_trans hc2 hR.2) hd (fun q H1 hP1 hD1 hS1 => ?_)
      have hpu := en_w_push (ad := ad1) (dT := dT) (ws := ws) (x := .inr (ci, fs)) q hj.2 hlo
      have hfs : en_e ad1 dT (.inr (ci, fs)) = .inr (ci, fs) := by
        show Sum.inr (ci, fs.map (en_v ad1)) = Sum.inr (ci, fs)
        rw [en_lo_vs (n := 0) (ad := id) (ad1 := ad1) (fun k hk => absurd hk (Nat.not_lt_zero k)) hlo]
        congr 2
        have : ∀ v : Value, en_v id v = v := fun v => by cases v <;> rfl
        rw [List.map_congr_left (fun v _ => this v)]
        exact List.map_id' fs
      rw [hfs] at hpu
      rw [← hpu] at hP1 hD1
      have hag : ∀ k, k < ws.length → (fun k => if k = ws.length then q else ad1 k) k = ad1 k := fun k hk => by
        show (if k = ws.length then q else ad1 k) = ad1 k
        rw [if_neg (by omega)]
      have K := hk _ _ _ _ _ _ h (by rw [List.length_append]; exact Nat.le_trans h0 (Nat.le_add_right _ _)) hc1 hc2 (fun k => if k = ws.length then q else ad1 k) H1 locs ls (fun k hk => (hag k (Nat.lt_of_lt_of_le hk h0)).trans (had k hk)) hP1 hD1 hS1 (by rw [en_lo_l hag hj.1.2]; exact hl)
      have hst : (Value.ref ws.length :: st).map (en_v (fun k => if k = ws.length then q else ad1 k)) = Value.ref q :: st.map (en_v ad1) := by
        rw [List.map_cons, en_lo_vs hag hj.1.1]
        show Value.ref (if ws.length = ws.length then q else ad1 ws.length) :: _ = _
        rw [if_pos rfl]
      rw [hst] at K
      exact K
    · exact h.elim
  | newarray ty =>
    have hn : nx = pc + 2 := Nat.eq_of_beq_eq_true hck
    subst hn
    rw [Nat.add_sub_cancel_left] at hd
    obtain ⟨n, r, rfl, h⟩ := en_i_e h
    obtain ⟨hj, ⟨hg1, hg2, hc1, hc2⟩, h⟩ := en_bif h
    simp only [Bool.and_eq_true] at hj
    obtain ⟨a1, a2, a3⟩ := hAr
    cases ty with
    | int => exact ek_newa_ok (ki := 0) (a0 := fun N => (N, .inl (fun _ => 0))) hx hb a1 rfl hK hA hR rfl (fun _ => rfl) (fun _ => rfl) hg1 hg2 hc1 hc2 (by decide) hd hj.1.1 hj.1.2 hj.2 (hk _ _ _ _ _ _ h)
    | long => exact ek_newa_ok (ki := 1) (a0 := fun N => (N, .inr (.inl (fun _ => 0)))) hx hb a2 rfl hK hA hR rfl (fun _ => rfl) (fun _ => rfl) hg1 hg2 hc1 hc2 (by decide) hd hj.1.1 hj.1.2 hj.2 (hk _ _ _ _ _ _ h)
    | boolean => exact ek_newa_ok (ki := 2) (a0 := fun N => (N, .inl (fun _ => 0))) hx hb a3 rfl hK hA hR rfl (fun _ => rfl) (fun _ => rfl) hg1 hg2 hc1 hc2 (by decide) hd hj.1.1 hj.1.2 hj.2 (hk _ _ _ _ _ _ h)
    | _ => exact h.elim
  | ireturn =>
    have hn : nx = pc + 1 := Nat.eq_of_beq_eq_true hck
    subst hn
    rw [Nat.add_sub_cancel_left] at hd
    dsimp only at h
    split at h
    · rename_i v
      split at h
      · rename_i hty
        intro h0 h1 h2 ad1 H locs ls had hP hD hS hl
        exact hret (some (.int v)) ws _ pc cs sl h hd (Or.inl ⟨v, rfl, rfl, Or.inl hty⟩) h0 h1 h2 ad1 H locs ls had hP hD hS
      · rename_i hty
        intro h0 h1 h2 ad1 H locs ls had hP hD hS hl
        exact hret (some (.int v)) ws _ pc cs sl h.2 hd (Or.inl ⟨v, rfl, rfl, Or.inr ⟨hty, h.1⟩⟩) h0 h1 h2 ad1 H locs ls had hP hD hS
      · exact h.elim
    · exact h.elim
  | return_ =>
    have hn : nx = pc + 1 := Nat.eq_of_beq_eq_true hck
    subst hn
    rw [Nat.add_sub_cancel_left] at hd
    dsimp only at h
    split at h
    · rename_i hty
      intro h0 h1 h2 ad1 H locs ls had hP hD hS hl
      exact hret none ws _ pc cs sl h hd (Or.inr ⟨rfl, rfl, hty⟩) h0 h1 h2 ad1 H locs ls had hP hD hS
    · exact h.elim
  | _ => exact h.elim
/-- a run is sound -/
theorem ek_vc_ok (hX : ∀ q ∈ X, q.1 = 0 ∧ q.2.category = 1) (hXt : ∀ q ∈ t.2.1, ek_no q.2.1 = true) (hW1 : ∀ u U : State, u.vm = U.vm → WD u → WD U) (hW2 : ∀ u U : State, u.WarmedH U.vm → WD u → WD U) (C : en_X WD D cl dT A t p l R s m args meth c own cc) {G : Option Value → List va_E → Prop} (hret : ek_R D cl dT A t n0 ad p l e R s m args below meth c Q G cc) (stop : List Nat) : ∀ (n : Nat) (cs sl pc : Nat) (lv : en_L) (st : List Value) (ws : List va_E), en_vc t G stop (ek_OK X D cl dT A t n0 ad p l e R s m args below meth c Q) n cs sl pc lv st ws → ek_OK X D cl dT A t n0 ad p l e R s m args below meth c Q cs sl pc lv st ws
  | 0, cs, sl, pc, lv, st, ws, h => h
  | n + 1, cs, sl, pc, lv, st, ws, h => ek_st_ok hX hXt hW1 hW2 C hret (fun cs sl pc lv st ws h2 => by
      cases hs : en_in stop pc with
      | true => rw [hs] at h2; exact h2
      | false => rw [hs] at h2; exact ek_vc_ok hX hXt hW1 hW2 C hret stop n cs sl pc lv st ws h2) h
/-- fewer locals are enough -/
theorem ek_sub {cs sl pc : Nat} {lv lv' : en_L} {st : List Value} {ws : List va_E} (ks : List Nat) (hl : lv_pick lv ks = lv') (h : ek_OK X D cl dT A t n0 ad p l e R s m args below meth c Q cs sl pc lv' st ws) : ek_OK X D cl dT A t n0 ad p l e R s m args below meth c Q cs sl pc lv st ws := by
  intro h0 h1 h2 ad1 H locs ls had hP hD hS hl2
  refine h h0 h1 h2 ad1 H locs ls had hP hD hS (ek_pick hl2 ks ?_)
  subst hl
  unfold lv_pick en_l
  rw [List.map_filterMap]
  congr 1
  funext k
  rw [List.getElem?_map]
end SND6
