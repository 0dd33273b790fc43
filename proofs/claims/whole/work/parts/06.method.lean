/-! A METHOD'S CONTRACT out of what its body asks, the machine hidden -/
def en_args : Nat → List Value → en_L
  | _, [] => []
  | i, v :: vs => (i, v) :: en_args (bif Nat.beq v.category 2 then i + 2 else i + 1) vs
theorem en_args_l (ad : Nat → Nat) : ∀ (vs : List Value) (i : Nat), en_l ad (en_args i vs) = lv_args i (vs.map (en_v ad))
  | [], _ => rfl
  | v :: vs, i => by
    simp only [en_args, lv_args, List.map_cons]
    have h := en_args_l ad vs (bif Nat.beq v.category 2 then i + 2 else i + 1)
    rw [en_v_cat, ← show (bif Nat.beq v.category 2 then i + 2 else i + 1) = (if v.category = 2 then i + 2 else i + 1) from ?_, ← h]
    · rfl
    · cases hb : Nat.beq v.category 2 with
      | true => rw [if_pos (Nat.eq_of_beq_eq_true hb)]; rfl
      | false => rw [if_neg (Nat.ne_of_beq_eq_false hb)]; rfl
theorem en_sl_len (ad : Nat → Nat) : ∀ vs : List Value, (lg_sl (vs.map (en_v ad))).length = en_sum vs
  | [] => rfl
  | v :: vs => by
    have h := en_sl_len ad vs
    unfold lg_sl at h ⊢
    rw [List.map_cons, List.flatMap_cons, List.length_append, h, en_v_cat]
    show _ = v.category + en_sum vs
    rcases lv_cat v with h1 | h1
    · rw [if_neg (by omega), h1]; rfl
    · rw [if_pos h1, h1]; rfl
/-- a body's world: what a run of instructions asks is enough; fewer locals are enough -/
def en_Run (t : en_T) (G : Option Value → List va_E → Prop) (OK : en_K) : Prop :=
  (∀ (stop : List Nat) (n cs sl pc : Nat) (lv : en_L) (st : List Value) (ws : List va_E), en_vc t G stop OK n cs sl pc lv st ws → OK cs sl pc lv st ws) ∧
  (∀ (ks : List Nat) (cs sl pc : Nat) (lv lv' : en_L) (st : List Value) (ws : List va_E), lv_pick lv ks = lv' → OK cs sl pc lv' st ws → OK cs sl pc lv st ws)
/-- what the tables give for a method -/
def en_TB (WD : State → Prop) (D : va_G) (cl : List vw_C) (dT : Nat → Nat) (l : Launch) (R : Room) (t : en_T) (own nm : String) (cc : ByteArray) : Prop :=
  (∀ q ∈ t.2.1, decode cc q.1 = .ok (q.2.1, q.2.2.1 - q.1) ∧ en_ck q = true) ∧
  ∀ (s : State) (args : Array Value) (meth : Method), WD s → meth.name = nm → (∀ q ∈ t.2.2.1, en_fok cl s args meth own q) ∧ (∀ q ∈ t.2.2.2.1, en_cok s args own q) ∧ (∀ q ∈ t.2.2.2.2.1, en_mok WD D cl dT l R s args own q) ∧ (∀ q ∈ t.2.2.2.2.2.1, en_nok cl s args own q) ∧
    ((t.2.2.2.2.2.2.1 = 0 ∨ (1 ≤ R.frames ∧ 20 ≤ R.locals ∧ (Jvm.Cond.methodLink own t.2.2.2.2.2.2.1 Lib.objectInit).before args s = true ∧ (Jvm.Cond.instanceMethod Lib.objectInit).before args s = true ∧ (Jvm.Cond.code Lib.objectInit ⟨#[0xb1]⟩ 1 none).before args s = true))) ∧
    ((Jvm.Cond.arrayClass .int).before args s = true ∧ (Jvm.Cond.arrayClass .long).before args s = true ∧ (Jvm.Cond.arrayClass .boolean).before args s = true)
set_option maxHeartbeats 4000000 in
theorem en_met {WD : State → Prop} {D : va_G} {cl : List vw_C} {dT : Nat → Nat} {l : Launch} {y : MethodName} {bytes : ByteArray} {maxL : Nat} {ret : Option FieldType} {rm : Room} {t : en_T} {f : List Value → List va_E → (Option Value → List va_E → Prop) → Prop}
    (hW1 : ∀ u U : State, u.vm = U.vm → WD u → WD U) (hW2 : ∀ u U : State, u.WarmedH U.vm → WD u → WD U) (hy : plainName y.cls = true) (ht1 : t.1 = (maxL, rm.cells, rm.slots)) (ht2 : t.2.2.2.2.2.2.2 = ret) (hTB : en_TB WD D cl dT l rm t y.cls y.name bytes)
    (hlen : ∀ av ws G, f av ws G → en_sum av ≤ maxL)
    (body : ∀ (av : List Value) (ws : List va_E) (G : Option Value → List va_E → Prop), f av ws G → ∀ OK : en_K, en_Run t G OK → OK 0 0 0 (en_args 0 av) [] ws) : en_CT WD D cl dT l y bytes maxL ret rm f := by
  intro ad sz av ws G hf
  refine Met.ofW (cc := bytes) (maxL := maxL) (ret := ret) hy rfl ?_
  intro p e s m args below meth c s₁ B hml hv
  obtain ⟨rfl, hsz, hP, hK, hD0, hWD⟩ := hv
  have hown : s.vm.findClass y.cls = some m.cls := findClass_of_methodNamed B.named
  have hlocks := B.notSynchronized
  have hr := B.returns
  subst hsz
  have hD := hD0.self (sz := s.heap.size)
  have hA : ∀ q : Nat, s.heap.size ≤ q → va_A (en_w ad dT ws) s.heap.size q := fun q h => Or.inr h
  have hS : va_S (va_A (en_w ad dT ws) s.heap.size) s.heap s.heap [] := va_S.rf
  obtain ⟨hT, hrest⟩ := hTB
  obtain ⟨hF, hC, hM, hN, hO, hAr⟩ := hrest s (av.map (en_v ad)).toArray meth hWD (name_of_methodNamed B.named B.method).1
  have e1 : t.1.1 = maxL := by rw [ht1]
  have e2 : t.1.2.1 = rm.cells := by rw [ht1]
  have e3 : t.1.2.2 = rm.slots := by rw [ht1]
  have C : en_X WD D cl dT (va_A (en_w ad dT ws) s.heap.size) t p l rm s m (av.map (en_v ad)).toArray meth c y.cls bytes :=
    ⟨B.exec, B.bytes, hml.trans e1.symm, hown, hK, hA, hWD, ⟨Nat.le_of_eq e2, Nat.le_of_eq e3⟩, hT, hF, hC, hM, hN, hO, hAr⟩
  have hret : en_R D cl dT (va_A (en_w ad dT ws) s.heap.size) t ws.length ad p l e rm s m (av.map (en_v ad)).toArray below meth c (MQ below (en_Q D cl dT ad ws.length G (va_A (en_w ad dT ws) s.heap.size)) (av.map (en_v ad)).toArray s rm.cells rm.slots (va_A (en_w ad dT ws) s.heap.size)) G bytes := by
    intro v w i pc cs sl hG hd hi h0 h1 h2 ad1 H locs ls had hP1 hD1 hS1
    refine W.widen (k := rm.cells) (n := rm.slots) (by rw [← e2]; exact h1) (by rw [← e3]; exact h2) ?_
    have hq : ∀ tt : State, tt.heap = H → s.WarmedH tt.vm → en_Q D cl dT ad ws.length G (va_A (en_w ad dT ws) s.heap.size) (av.map (en_v ad)).toArray s (.returned (v.map (en_v ad1))) tt := fun tt ht hW =>
      ⟨⟨v, w, ad1, rfl, hG, h0, had, by rw [ht]; exact hP1, va_K.moved hW.alike hK, hD1⟩, hS1.F ht⟩
    rcases hi with ⟨x, rfl, rfl, hty⟩ | ⟨rfl, rfl, hty⟩
    · rcases hty with hty | ⟨hty, hnar⟩
      · exact W.iret (v := x) B.exec B.bytes (by rw [hr, ← ht2, hty]) hq hS1.2.2 hd
      · exact W.zret (v := x) (ty := .boolean) B.exec B.bytes (by rw [hr, ← ht2, hty]) hnar hq hS1.2.2 hd
    · exact W.vret B.exec B.bytes (by rw [hr, ← ht2, hty]) hq hS1.2.2 hd
  have K := body av ws G hf (en_OK D cl dT (va_A (en_w ad dT ws) s.heap.size) t ws.length ad p l e rm s m (av.map (en_v ad)).toArray below meth c (MQ below (en_Q D cl dT ad ws.length G (va_A (en_w ad dT ws) s.heap.size)) (av.map (en_v ad)).toArray s rm.cells rm.slots (va_A (en_w ad dT ws) s.heap.size)))
    ⟨fun stop n cs sl pc lv st ws h => en_vc_ok hW1 hW2 C hret stop n cs sl pc lv st ws h, fun ks cs sl pc lv lv' st ws h1 h2 => en_sub ks h1 h2⟩
  have hle : (lg_sl (av.map (en_v ad))).length ≤ maxL := by
    rw [en_sl_len]
    exact hlen av ws G hf
  have hl := lv_entry (av.map (en_v ad)) hle
  rw [lg_entry_eq]
  exact K (Nat.le_refl _) (Nat.zero_le _) (Nat.zero_le _) ad s.heap [] _ (fun _ _ => rfl) hP hD hS (by rw [en_args_l, e1]; exact hl)
