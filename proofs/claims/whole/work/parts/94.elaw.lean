/-! THE LAW'S OWN RUNS: the script's loads are one step -/
abbrev el_M : Type := List (Nat × Nat × Nat)
def el_st (t : en_T) (G : Option Value → List va_E → Prop) (mc : el_M) (i : Nat) (xs : Nat → Int32) (k : en_K) (cs sl pc : Nat) (lv : en_L) (st : List Value) (ws : List va_E) : Prop :=
  match en_lk mc pc with
  | some (j, nx) => en_get lv 4 = some (.int (nI i)) ∧ k cs sl nx lv (.int (xs (i + j)) :: st) ws
  | none => en_st t G k cs sl pc lv st ws
def el_vc (t : en_T) (G : Option Value → List va_E → Prop) (mc : el_M) (i : Nat) (xs : Nat → Int32) (stop : List Nat) (K : en_K) : Nat → en_K
  | 0, cs, sl, pc, lv, st, ws => K cs sl pc lv st ws
  | n + 1, cs, sl, pc, lv, st, ws => el_st t G mc i xs (fun cs sl pc lv st ws => bif en_in stop pc then K cs sl pc lv st ws else el_vc t G mc i xs stop K n cs sl pc lv st ws) cs sl pc lv st ws
abbrev el_ck (cc : ByteArray) (q : Nat × Nat × Nat) : Prop := decode cc q.1 = .ok (.aload_n 0, 1) ∧ decode cc (q.1 + 1) = .ok (.iload 4, 2) ∧ q.2.1 ≤ 5 ∧ ((q.2.1 = 0 ∧ decode cc (q.1 + 3) = .ok (.iaload, 1) ∧ q.2.2 = q.1 + 4) ∨ (decode cc (q.1 + 3) = .ok (.iconst (q.2.1 : Int), 1) ∧ decode cc (q.1 + 4) = .ok (.iadd, 1) ∧ decode cc (q.1 + 5) = .ok (.iaload, 1) ∧ q.2.2 = q.1 + 6))
def el_Run (t : en_T) (mc : el_M) (G : Option Value → List va_E → Prop) (i : Nat) (xs : Nat → Int32) (OK : en_K) : Prop :=
  ∀ (stop : List Nat) (n cs sl pc : Nat) (lv : en_L) (st : List Value) (ws : List va_E), el_vc t G mc i xs stop OK n cs sl pc lv st ws → OK cs sl pc lv st ws
section ELAW
variable {p : Program} {l : Launch} {e : Env} {R : Room} {s : State} {m : MethodId} {args : Array Value} {below : List Frame} {meth : Method} {c : Code} {Q : State → Prop}
variable {WD : State → Prop} {D : va_G} {cl : List vw_C} {dT : Nat → Nat} {A : Nat → Prop} {t : en_T} {own : String} {cc : ByteArray} {n0 : Nat} {ad : Nat → Nat} {b L i : Nat} {xs : Nat → Int32}
theorem el_ld (hx : p.tables.exec = Jvm.exec) (hb : c.code = cc) (hXs : va_X b L xs s s.heap) (hbl : b < s.heap.size) (hbA : ¬ A b) (hi : i + 5 < L) (hL : L ≤ 3072) {q : Nat × Nat × Nat} (hq : el_ck cc q) {cs sl : Nat} {lv : en_L} {st : List Value} {ws : List va_E} (hg : en_get lv 4 = some (.int (nI i)))
    (h : ek_OK [(0, .ref b)] D cl dT A t n0 ad p l e R s m args below meth c Q cs sl q.2.2 lv (.int (xs (i + q.2.1)) :: st) ws) : ek_OK [(0, .ref b)] D cl dT A t n0 ad p l e R s m args below meth c Q cs sl q.1 lv st ws := by
  obtain ⟨pc, j, nx⟩ := q
  obtain ⟨d0, d1, hj, hq⟩ := hq
  dsimp only at d0 d1 hj hq h ⊢
  intro h0 h1 h2 ad1 H locs ls had hP hD hS hl
  have hK := h h0 h1 h2 ad1 H locs ls had hP hD hS hl
  have hcl : (nI (i + j)).toNatClampNeg = i + j := nI_clamp (by omega)
  have hin : vp_in (nI (i + j)) L := nI_in (by omega) (by omega)
  refine lv_aload_n hx hb d0 rfl (hl.2.2 (0, .ref b) List.mem_cons_self) ?_
  refine lv_iload hx hb d1 (en_at (ek_low hl) hg) ?_
  rcases hq with ⟨rfl, d2, rfl⟩ | ⟨d2, d3, d4, rfl⟩
  · refine va_sld hx hb hXs hbl hbA hS (i := nI i) hin d2 ?_
    have hcl : (nI i).toNatClampNeg = i := hcl
    rw [hcl]
    exact hK
  · refine lv_iconst hx hb d2 rfl ?_
    refine lv_iadd hx hb d3 ?_
    have e : nI i + Int32.ofInt (j : Int) = nI (i + j) := nI_add i j
    rw [e]
    refine va_sld hx hb hXs hbl hbA hS (i := nI (i + j)) hin d4 ?_
    rw [hcl]
    exact hK
theorem el_len (hx : p.tables.exec = Jvm.exec) (hb : c.code = cc) (hXs : va_X b L xs s s.heap) (hbl : b < s.heap.size) (hbA : ¬ A b) {pc : Nat} (d0 : decode cc pc = .ok (.aload_n 0, 1)) (d1 : decode cc (pc + 1) = .ok (.arraylength, 1)) {cs sl : Nat} {lv : en_L} {st : List Value} {ws : List va_E}
    (h : ek_OK [(0, .ref b)] D cl dT A t n0 ad p l e R s m args below meth c Q cs sl (pc + 2) lv (.int (nI L) :: st) ws) : ek_OK [(0, .ref b)] D cl dT A t n0 ad p l e R s m args below meth c Q cs sl pc lv st ws := by
  intro h0 h1 h2 ad1 H locs ls had hP hD hS hl
  have hK := h h0 h1 h2 ad1 H locs ls had hP hD hS hl
  refine lv_aload_n hx hb d0 rfl (hl.2.2 (0, .ref b) List.mem_cons_self) ?_
  exact va_slen hx hb hXs hbl hbA hS d1 hK
theorem el_vc_ok (hXt : ∀ q ∈ t.2.1, ek_no q.2.1 = true) (hW1 : ∀ u U : State, u.vm = U.vm → WD u → WD U) (hW2 : ∀ u U : State, u.WarmedH U.vm → WD u → WD U) (C : en_X WD D cl dT A t p l R s m args meth c own cc) {G : Option Value → List va_E → Prop} (hret : ek_R D cl dT A t n0 ad p l e R s m args below meth c Q G cc)
    (hXs : va_X b L xs s s.heap) (hbl : b < s.heap.size) (hbA : ¬ A b) (hi : i + 5 < L) (hL : L ≤ 3072) {mc : el_M} (hmc : ∀ q ∈ mc, el_ck cc q) (stop : List Nat) : ∀ (n : Nat) (cs sl pc : Nat) (lv : en_L) (st : List Value) (ws : List va_E), el_vc t G mc i xs stop (ek_OK [(0, .ref b)] D cl dT A t n0 ad p l e R s m args below meth c Q) n cs sl pc lv st ws → ek_OK [(0, .ref b)] D cl dT A t n0 ad p l e R s m args below meth c Q cs sl pc lv st ws
  | 0, cs, sl, pc, lv, st, ws, h => h
  | n + 1, cs, sl, pc, lv, st, ws, h => by
    have nxt : ∀ (cs sl pc : Nat) (lv : en_L) (st : List Value) (ws : List va_E), (bif en_in stop pc then ek_OK [(0, .ref b)] D cl dT A t n0 ad p l e R s m args below meth c Q cs sl pc lv st ws else el_vc t G mc i xs stop (ek_OK [(0, .ref b)] D cl dT A t n0 ad p l e R s m args below meth c Q) n cs sl pc lv st ws) → ek_OK [(0, .ref b)] D cl dT A t n0 ad p l e R s m args below meth c Q cs sl pc lv st ws := by
      intro cs sl pc lv st ws h2
      cases hs : en_in stop pc with
      | true => rw [hs] at h2; exact h2
      | false => rw [hs] at h2; exact el_vc_ok hXt hW1 hW2 C hret hXs hbl hbA hi hL hmc stop n cs sl pc lv st ws h2
    have h : el_st t G mc i xs _ cs sl pc lv st ws := h
    unfold el_st at h
    cases hlk : en_lk mc pc with
    | none =>
      rw [hlk] at h
      exact ek_st_ok (fun q hq => by rw [List.mem_singleton] at hq; subst hq; exact ⟨rfl, rfl⟩) hXt hW1 hW2 C hret nxt h
    | some q =>
      obtain ⟨j, nx⟩ := q
      rw [hlk] at h
      exact el_ld (q := (pc, j, nx)) C.1 C.2.1 hXs hbl hbA hi hL (hmc _ (en_lk_mem hlk)) h.1 (nxt _ _ _ _ _ _ h.2)
end ELAW
/-! TWO CALLS, of the class and of the reference -/
def LF (o : Nat) (f : List Value → List va_E → (Option Value → List va_E → Prop) → Prop) : List Value → List va_E → (Option Value → List va_E → Prop) → Prop := fun av ws G => True → en_lift o f av ws G
theorem en_mok_LF {WD : State → Prop} {D : va_G} {cl : List vw_C} {dT : Nat → Nat} {l : Launch} {R : Room} {s : State} {args : Array Value} {own : String} {a b c d e : Nat} {f : List Value → List va_E → (Option Value → List va_E → Prop) → Prop} (o : Nat) (h : en_mok WD D cl dT l R s args own (a, b, c, d, e, f)) : en_mok WD D cl dT l R s args own (a, b, c, d, e, LF o f) := by
  obtain ⟨y, bytes, maxL, ret, rm, na, h1, h2⟩ := h
  exact ⟨y, bytes, maxL, ret, rm, na, fun ad sz av ws G hf => en_liftA o h1 ad sz av ws G (hf trivial), h2⟩
abbrev en_Fn : Type := List Value → List va_E → (Option Value → List va_E → Prop) → Prop
def MN (f : en_Fn) : Prop := ∀ av ws G G', f av ws G → (∀ v w, G v w → G' v w) → f av ws G'
theorem en_f_mn {σ : Type} {A : σ → List Value} {B : σ → List va_E} {pre : σ → Prop} {post : σ → Option Value → List va_E → Prop} : MN (en_f A B pre post) := by
  rintro av ws G G' ⟨x, h1, h2, h3, h4⟩ h
  exact ⟨x, h1, h2, h3, fun v w hp => h v w (h4 v w hp)⟩
/-- what the class's call leaves for the reference's -/
def tok (f' : en_Fn) (as : List Value) (M : Sx) (a : Int32) (S1 : Sx) : Prop := ∀ K' : Int32 → Sx → Prop, (∀ S2 M2, RelE S2 M2 → wX S2 = wX S1 → K' a M2) → f' (.ref 0 :: as) (wM M) (fun v w => ∃ b M1, v = some (.int b) ∧ w = wM M1 ∧ K' b M1)
def PC (f f' : en_Fn) (as : List Value) : Prop := ∀ S M, RelE S M → ∀ K : Int32 → Sx → Prop, (∀ a S1, tok f' as M a S1 → K a S1) → f (.ref 0 :: as) (wX S) (fun v w => ∃ a S1, v = some (.int a) ∧ w = wX S1 ∧ K a S1)
abbrev WL (S M : Sx) (o : Nat → Int64) : List va_E := sh_w 0 (wX S) ++ (sh_w 24 (wM M) ++ [oc o])
theorem sh_nr (o : Nat) : ∀ {as : List Value}, en_los 0 as = true → as.map (sh_v o) = as
  | [], _ => rfl
  | v :: as, h => by
    simp only [en_los, Bool.and_eq_true] at h
    rw [List.map_cons, sh_nr o h.2]
    cases v with
    | ref a => exact absurd h.1 (by simp [en_lo, Nat.blt])
    | _ => rfl
set_option maxRecDepth 100000 in
theorem call1 {f f' : en_Fn} {as : List Value} (hp : PC f f' as) (hf : MN f) (has : en_los 0 as = true) {S M : Sx} {o : Nat → Int64} (hr : RelE S M) {k : Option Value → List va_E → Prop} (hk : ∀ a S1, tok f' as M a S1 → k (some (.int a)) (WL S1 M o)) : en_lift 0 f (.ref 0 :: as) (WL S M o) k := by
  refine ⟨.ref 0 :: as, [], wX S, sh_w 24 (wM M) ++ [oc o], ?_, rfl, rfl, hf _ _ _ _ (hp S M hr (fun a S1 => k (some (.int a)) (WL S1 M o)) hk) ?_⟩
  · rw [List.map_cons, sh_nr 0 has]; rfl
  · rintro _ _ ⟨a, S1, rfl, rfl, h⟩
    exact ⟨Nat.le_refl _, rfl, rfl, Or.inl rfl, h⟩
set_option maxRecDepth 100000 in
theorem call2 {f' : en_Fn} {as : List Value} (hf : MN f') (has : en_los 0 as = true) {M S1 : Sx} {a : Int32} {o : Nat → Int64} (ht : tok f' as M a S1) {k : Option Value → List va_E → Prop} (hk : ∀ S2 M2, RelE S2 M2 → k (some (.int a)) (WL S2 M2 o)) : en_lift 24 f' (.ref 24 :: as) (WL S1 M o) k := by
  refine ⟨.ref 0 :: as, sh_w 0 (wX S1), wM M, [oc o], ?_, rfl, rfl, hf _ _ _ _ (ht (fun b M1 => k (some (.int b)) (WL S1 M1 o)) (fun S2 M2 hr he => ?_)) ?_⟩
  · rw [List.map_cons, sh_nr 24 has]; rfl
  · have := hk S2 M2 hr
    unfold WL at this
    rw [he] at this
    exact this
  · rintro _ _ ⟨b, M1, rfl, rfl, h⟩
    exact ⟨Nat.le_refl _, rfl, rfl, Or.inl rfl, h⟩
