/-! THE LAW'S OWN share: it calls the class's, and catches -/
theorem en_sb {ad ad1 dT : Nat → Nat} {ws sub : List va_E} (g : Nat → Nat) (hg : ∀ k x, sub[k]? = some x → ∃ z, ws[g k]? = some z ∧ en_e ad dT x = en_e ad1 dT z) (had : ∀ k, k < sub.length → ad k = ad1 (g k)) : ∀ (k : Nat) (q : Nat × va_E), (en_w ad dT sub)[k]? = some q → (en_w ad1 dT ws)[g k]? = some q := by
  intro k q hk
  rw [en_w_get] at hk ⊢
  cases hx : sub[k]? with
  | none => rw [hx] at hk; cases hk
  | some x =>
    rw [hx] at hk
    obtain ⟨z, hz, he⟩ := hg k x hx
    rw [hz]
    simp only [Option.map_some] at hk ⊢
    rw [← he, ← had k (List.getElem?_eq_some_iff.mp hx).1]
    exact hk
theorem va_Psub {D : va_G} {cl : List vw_C} {A : Nat → Prop} {big big2 sub sub2 : va_W} {H H1 : Heap} (g : Nat → Nat) (hsub : ∀ (k : Nat) (q : Nat × va_E), sub[k]? = some q → big[g k]? = some q) (hP : va_P D cl big H) (hD : va_D A big) (hF : ∀ q : Nat, q < H.size → ¬ va_A sub H.size q → H1[q]? = H[q]?) (hP2 : va_P D cl sub2 H1)
    (hb : ∀ (k : Nat) (q : Nat × va_E), big2[k]? = some q → (∃ j : Nat, sub2[j]? = some q) ∨ (big[k]? = some q ∧ ∀ j, j < sub.length → g j ≠ k)) : va_P D cl big2 H1 := by
  intro k q hk
  rcases hb k q hk with ⟨j, hj⟩ | ⟨h, hn⟩
  · exact hP2 j q hj
  · refine (hP k q h).kept (hF q.1 (hP k q h).lt ?_)
    rintro (⟨j, x, hj⟩ | hz)
    · exact hn j (List.getElem?_eq_some_iff.mp hj).1 (hD.1 _ _ _ _ (hsub j _ hj) h rfl)
    · exact absurd (hP k q h).lt (Nat.not_lt.mpr hz)
def t_L_share : en_T := ((6, 1, 6), tb_L_share, [], [], [], [], 0, some .int)
def rm_L_share : Room := { frames := 8, cells := 1, slots := 6, locals := 125 }
abbrev hhL : List (Nat × Nat × Nat × Nat) := [(0, 12, 15, 13), (0, 12, 19, 15), (0, 12, 23, 17)]
abbrev cdL : Jvm.Cond := .codeWith yL_share cL_share 6 (some .int) hhL
abbrev lvL (lb pt sd : Int32) : en_L := [(0, .ref 0), (1, .int lb), (2, .int pt), (3, .int sd), (4, .ref 24)]
set_option maxHeartbeats 4000000 in
set_option maxRecDepth 100000 in
theorem ls_b0 {lb pt sd : Int32} {S : Sx} {g : Nat → Int64} {G : Option Value → List va_E → Prop} {OK : en_K} (hR : en_Run t_L_share G OK) (h : OK 0 0 7 (lvL lb pt sd) [.int sd, .int pt, .int lb, .ref 0, .int 0, .ref 24] (wX S ++ [oc g])) : OK 0 0 0 (lvL lb pt sd) [] (wX S ++ [oc g]) := by
  obtain ⟨run, sub⟩ := hR
  refine run [7] 20 _ _ _ _ _ _ ?_
  conv => whnf
  exact h
set_option maxHeartbeats 4000000 in
set_option maxRecDepth 100000 in
theorem ls_b1 {lb pt sd r : Int32} {S : Sx} {g : Nat → Int64} {G : Option Value → List va_E → Prop} {OK : en_K} (hR : en_Run t_L_share G OK) (h : G (some (.int 0)) (wX S ++ [oc (vp_updL g 0 r.toInt64)])) : OK 1 6 10 (lvL lb pt sd) [.int r, .int 0, .ref 24] (wX S ++ [oc g]) := by
  obtain ⟨run, sub⟩ := hR
  refine run [] 20 _ _ _ _ _ _ ?_
  conv => whnf
  refine ⟨nI_in (c := 0) (N := 1) (by decide) (by decide), ?_⟩
  conv => whnf
  exact h
set_option maxHeartbeats 4000000 in
set_option maxRecDepth 100000 in
theorem ls_b2 {lb pt sd : Int32} {S : Sx} {g : Nat → Int64} {G : Option Value → List va_E → Prop} {OK : en_K} (hR : en_Run t_L_share G OK) (h : G (some (.int 1)) (wX S ++ [oc g])) : OK 1 6 15 (lvL lb pt sd) [.ref 25] (wX S ++ [oc g]) := by
  obtain ⟨run, sub⟩ := hR
  refine run [] 20 _ _ _ _ _ _ ?_
  conv => whnf
  exact h
set_option maxHeartbeats 4000000 in
set_option maxRecDepth 100000 in
theorem ls_b3 {lb pt sd : Int32} {S : Sx} {g : Nat → Int64} {G : Option Value → List va_E → Prop} {OK : en_K} (hR : en_Run t_L_share G OK) (h : G (some (.int 2)) (wX S ++ [oc g])) : OK 1 6 19 (lvL lb pt sd) [.ref 25] (wX S ++ [oc g]) := by
  obtain ⟨run, sub⟩ := hR
  refine run [] 20 _ _ _ _ _ _ ?_
  conv => whnf
  exact h
set_option maxHeartbeats 4000000 in
set_option maxRecDepth 100000 in
theorem ls_b4 {lb pt sd : Int32} {S : Sx} {g : Nat → Int64} {G : Option Value → List va_E → Prop} {OK : en_K} (hR : en_Run t_L_share G OK) (h : G (some (.int 3)) (wX S ++ [oc g])) : OK 1 6 23 (lvL lb pt sd) [.ref 25] (wX S ++ [oc g]) := by
  obtain ⟨run, sub⟩ := hR
  refine run [] 20 _ _ _ _ _ _ ?_
  conv => whnf
  exact h
/-- what the law's share answers -/
def slR (lb pt sd : Int32) (n : Nat) (S : Sx) (g : Nat → Int64) (r : Int32) (g' : Nat → Int64) : Prop :=
  (r = 0 ∧ (shq lb pt ∧ (sd = 0 ∨ sd = 1) ∧ cpl (S.2.2.1 5) (S.2.2.1 3) n lb ≠ 0) ∧ g' = vp_updL g 0 (shv (S.2.2.1 5) (S.2.2.1 3) n lb pt sd).toInt64) ∨ (r = 1 ∧ ¬ shq lb pt) ∨ (r = 2 ∧ shq lb pt ∧ ¬ (sd = 0 ∨ sd = 1)) ∨ (r = 3 ∧ shq lb pt ∧ (sd = 0 ∨ sd = 1) ∧ cpl (S.2.2.1 5) (S.2.2.1 3) n lb = 0)
def slG (lb pt sd : Int32) (n : Nat) (S : Sx) (g : Nat → Int64) : Option Value → List va_E → Prop := fun v w => ∃ (r : Int32) (g' : Nat → Int64), slR lb pt sd n S g r g' ∧ v = some (.int r) ∧ w = wX S ++ [oc g']
theorem ex_c1 : Jvm.Cond.castable eIOB eIOB ∈ lw_tbl := List.mem_of_getElem? (i := 639) (by decide +kernel)
theorem ex_c2 : Jvm.Cond.castable eIAE eIAE ∈ lw_tbl := List.mem_of_getElem? (i := 707) (by decide +kernel)
theorem ex_c3 : Jvm.Cond.castable eAE eAE ∈ lw_tbl := List.mem_of_getElem? (i := 724) (by decide +kernel)
set_option maxHeartbeats 4000000 in
set_option maxRecDepth 100000 in
theorem ls_met (D : va_G) (dT : Nat → Nat) {l : Launch} (hl : l.stackTraces = false) (ad : Nat → Nat) (sz : Nat) (lb pt sd : Int32) (n : Nat) (S : Sx) (g : Nat → Int64) (hn : n ≤ 100) (hn1 : S.1 1 = nI n) :
    Met l yL_share [cdL] rm_L_share (sh_P D dT ad [.ref 0, .int lb, .int pt, .int sd, .ref 24] (wX S ++ [oc g]) sz)
      (en_Q D vwCl dT ad 25 (slG lb pt sd n S g) (va_A (en_w ad dT (wX S ++ [oc g])) sz)) 1 6 (va_A (en_w ad dT (wX S ++ [oc g])) sz) := by
  refine va_MetW (hh := hhL) (cc := cL_share) (maxL := 6) (ret := some .int) (by decide) rfl ?_
  intro p e s m args below meth c s₁ B hml hv
  obtain ⟨⟨hargs, hsz, hP, hK, hD0, hWD⟩, hSW⟩ := hv
  subst hargs
  have hown : s.vm.findClass RL = some m.cls := findClass_of_methodNamed B.named
  have hlocks := B.notSynchronized
  have hr := B.returns
  subst hsz
  have hD := hD0.self (sz := s.heap.size)
  have hA : ∀ q : Nat, s.heap.size ≤ q → va_A (en_w ad dT (wX S ++ [oc g])) s.heap.size q := fun q h => Or.inr h
  have hS : va_S (va_A (en_w ad dT (wX S ++ [oc g])) s.heap.size) s.heap s.heap [] := va_S.rf
  generalize va_A (en_w ad dT (wX S ++ [oc g])) s.heap.size = A at hA hS hD hSW ⊢
  generalize hav : (List.map (en_v ad) [Value.ref 0, .int lb, .int pt, .int sd, .ref 24]).toArray = args at B ⊢
  have htb : c.exceptionTable.toList = tableOf hhL := vx_table (x := yL_share) B (atoms_spec (ws := [cdL]) B.pre _ List.mem_cons_self)
  have C : en_X en_WD D vwCl dT A t_L_share p l rm_L_share s m args meth c RL cL_share :=
    ⟨B.exec, B.bytes, hml, hown, hK, hA, hWD, ⟨Nat.le_refl _, Nat.le_refl _⟩, tk_L_share, fun _ h => absurd h List.not_mem_nil, fun _ h => absurd h List.not_mem_nil, fun _ h => absurd h List.not_mem_nil, fun _ h => absurd h List.not_mem_nil, Or.inl rfl, en_arr hWD args⟩
  have hret : en_R D vwCl dT A t_L_share 25 ad p l e rm_L_share s m args below meth c (MQ below (en_Q D vwCl dT ad 25 (slG lb pt sd n S g) A) args s 1 6 A) (slG lb pt sd n S g) cL_share := by
    intro v w i pc cs sl hG hd hi h0 h1 h2 ad1 H locs ls had hP1 hD1 hS1
    refine W.widen (k := 1) (n := 6) h1 h2 ?_
    have hq : ∀ tt : State, tt.heap = H → s.WarmedH tt.vm → en_Q D vwCl dT ad 25 (slG lb pt sd n S g) A args s (.returned (v.map (en_v ad1))) tt := fun tt ht hW =>
      ⟨⟨v, w, ad1, rfl, hG, h0, had, by rw [ht]; exact hP1, va_K.moved hW.alike hK, hD1⟩, hS1.F ht⟩
    rcases hi with ⟨x, rfl, rfl, hty⟩ | ⟨rfl, rfl, hty⟩
    · exact W.iret (v := x) B.exec B.bytes hr hq hS1.2.2 hd
    · cases hty
  have RR : en_Run t_L_share (slG lb pt sd n S g) (en_OK D vwCl dT A t_L_share 25 ad p l e rm_L_share s m args below meth c (MQ below (en_Q D vwCl dT ad 25 (slG lb pt sd n S g) A) args s 1 6 A)) :=
    ⟨fun stop n cs sl pc lv st ws h => en_vc_ok en_WD1 en_WD2 C hret stop n cs sl pc lv st ws h, fun ks cs sl pc lv lv' st ws h1 h2 => en_sub ks h1 h2⟩
  have K := ls_b0 RR (lb := lb) (pt := pt) (sd := sd) (S := S) (g := g) (by
    intro h0 h1 h2 ad1 H locs ls had hP1 hD1 hS1 hl1
    have hsub : ∀ (k : Nat) (q : Nat × va_E), (en_w ad1 dT (wX S))[k]? = some q → (en_w ad1 dT (wX S ++ [oc g]))[k]? = some q :=
      en_sb (fun k => k) (fun k x hx => ⟨x, by rw [List.getElem?_append_left (List.getElem?_eq_some_iff.mp hx).1]; exact hx, rfl⟩) (fun _ _ => rfl)
    have hfree : ∀ q, va_A (en_w ad1 dT (wX S)) H.size q → A q := by
      rintro q (⟨j, x, hj⟩ | hq)
      · exact hD1.2 j _ (hsub j _ hj)
      · exact hA q (Nat.le_trans hS1.1 hq)
    obtain ⟨fs, hfs⟩ : ∃ fs, (wX S ++ [oc g])[0]? = some (.inr (6, fs)) := ⟨_, rfl⟩
    have hcell := va_recv (q := (RX6, TX6, 6)) (q0 := 0) hK hP1 rfl (en_w_some hfs)
    have hpre : ∀ U : State, U.heap = H → s.WarmedH U.vm → sh_P D dT ad1 [.ref 0, .int lb, .int pt, .int sd] (wX S) H.size (Value.ref (ad1 0) :: [.int lb, .int pt, .int sd]).toArray U := fun U hU hW =>
      ⟨⟨rfl, by rw [hU], by rw [hU]; exact hP1.by (fun k => k) hsub, va_K.moved hW.alike hK, (hD1.by (fun k => k) hsub (fun i j _ _ h => h)).weaken (fun _ _ _ _ => trivial), en_WD2 s U hW hWD⟩, hSW.go hW (fun a h1 h2 => by rw [hU]; exact hS1.2.1 a h1 h2) hfree⟩
    have hcode : (Jvm.Cond.code yX6_share cX6_share 6 (some .int)).before args s = true := en_wd hWD 636 rfl rfl args
    have hcw : ∀ w ∈ [Jvm.Cond.code yX6_share cX6_share 6 (some .int)], ∀ (a' : Array Value) (U : State), s.WarmedH U.vm → w.before a' U = true := by
      intro w hw a' U hW
      rw [List.mem_singleton] at hw
      subst hw
      exact word_at hW (Or.inl rfl) hcode
    have FX : CallFix p m c cL_share 6 s args [] RL := ⟨B.exec, B.bytes, hml, hown, fun w h => by cases h⟩
    have hrun := vx_runV (p := p) (e := e) (below := below) (meth := meth) (R := rm_L_share) (H := H) (locs := locs) (cells := 0) (slots := 0) (C := RX6) (index := 7) (b := ad1 0) (n := 3) (As := [.int lb, .int pt, .int sd]) (rest := [.int 0, .ref (ad1 24)]) (g := F0 m 7 ls [.int sd, .int pt, .int lb, .ref (ad1 0), .int 0, .ref (ad1 24)]) FX (sh_met D dT hl ad1 H.size lb pt sd n S hn hn1)
      ⟨⟨rfl, rfl, by decide, by decide, hcw, List.mem_singleton.mpr rfl, hcode, en_wd hWD 59 (by decide +kernel) rfl args, by decide, (fun sig h => by
        have h2 : (parseMethodDescriptor yX6_share.desc).map (fun d => d.parameters.length) = some 3 := by decide
        rw [h] at h2
        simpa using h2.symm), en_wd hWD 633 (by decide +kernel) rfl args⟩, en_wd hWD 634 (by decide +kernel) rfl args, en_wd hWD 635 (by decide +kernel) rfl args⟩
      ⟨sh_P_blind, hcell, hpre⟩ rfl rfl hl1.1 rfl (Nat.le_of_ble_eq_true rfl) (show decode cL_share 7 = .ok (.invokevirtual 7, 3) by decide +kernel) ⟨Nat.le_of_ble_eq_true rfl, Nat.le_of_ble_eq_true rfl⟩
    intro T hT X
    rcases hrun T hT X with ⟨v, st₀, t1, T', L, hh0, X', hL, e1, e2, ⟨⟨v1, w, ad2, hv, ⟨hGc, hGv, hGw⟩, hlen, had2, hP2, -, hD2⟩, hz, hkk⟩, st⟩ | ⟨q, st₀, t1, T', L, E, ce, hh0, X', hL, e1, e2, ⟨hXc, hP2, hz, hkk⟩, hce, hcv, hcl, st⟩
    · cases hv
      subst hGv
      subst hGw
      rw [hh0, ← e1] at hz hkk
      rw [← e1, en_w_lo (ad := ad1) (ad1 := ad2) (ws := wX S) rfl had2] at hP2
      have hS2 : va_S A s.heap T'.heap (locs ++ L) := by
        refine ⟨Nat.le_trans hS1.1 hz, fun q h1 h2 => ?_, fun q hq => ?_⟩
        · rw [hkk q (Nat.lt_of_lt_of_le h1 hS1.1) (fun z => h2 (hfree q z))]
          exact hS1.2.1 q h1 h2
        · rcases List.mem_append.mp hq with h | h
          · exact hS1.2.2 q h
          · exact hfree _ (hL q h)
      have hP3 : va_P D vwCl (en_w ad1 dT (wX S ++ [oc g])) T'.heap := va_Psub (fun k => k) hsub hP1 hD1 hkk hP2 (fun k q hk => by
        by_cases hk2 : k < 24
        · left
          refine ⟨k, ?_⟩
          rw [en_w_get, List.getElem?_append_left hk2] at hk
          rw [en_w_get]
          exact hk
        · exact Or.inr ⟨hk, fun j hj he => hk2 (by rw [en_w_len] at hj; exact he ▸ hj)⟩)
      obtain ⟨t2, a1, b1⟩ := ls_b1 RR (lb := lb) (pt := pt) (sd := sd) (S := S) (g := g) (r := shv (S.2.2.1 5) (S.2.2.1 3) n lb pt sd) ⟨0, _, Or.inl ⟨rfl, hGc, rfl⟩, rfl, rfl⟩ (Nat.le_refl _) (Nat.le_refl _) (Nat.le_refl _) ad1 T'.heap (locs ++ L) ls had hP3 hD1 hS2 hl1 T' rfl X'
      exact ⟨t2, st t2 a1, b1⟩
    · rw [hh0, ← e1] at hz hkk
      rw [← e1] at hP2 hce
      have hS2 : va_S A s.heap T'.heap (locs ++ L) := by
        refine ⟨Nat.le_trans hS1.1 hz, fun q h1 h2 => ?_, fun q hq => ?_⟩
        · rw [hkk q (Nat.lt_of_lt_of_le h1 hS1.1) (fun z => h2 (hfree q z))]
          exact hS1.2.1 q h1 h2
        · rcases List.mem_append.mp hq with h | h
          · exact hS1.2.2 q h
          · exact hfree _ (hL q h)
      have hP3 : va_P D vwCl (en_w ad1 dT (wX S ++ [oc g])) T'.heap := va_Psub (fun k => k) hsub hP1 hD1 hkk hP2 (fun k q hk => by
        by_cases hk2 : k < 24
        · left
          refine ⟨k, ?_⟩
          rw [en_w_get, List.getElem?_append_left hk2] at hk
          rw [en_w_get]
          exact hk
        · exact Or.inr ⟨hk, fun j hj he => hk2 (by rw [en_w_len] at hj; exact he ▸ hj)⟩)
      have had3 : ∀ k, k < 25 → (if k = 25 then q else ad1 k) = ad1 k := fun k hk => if_neg (by omega)
      have e3 : en_w (fun k => if k = 25 then q else ad1 k) dT (wX S ++ [oc g]) = en_w ad1 dT (wX S ++ [oc g]) := en_w_lo rfl had3
      have e4 : en_l (fun k => if k = 25 then q else ad1 k) (lvL lb pt sd) = en_l ad1 (lvL lb pt sd) := en_lo_l (n := 25) had3 rfl
      have hcat : ∀ (pc : Nat), en_OK D vwCl dT A t_L_share 25 ad p l e rm_L_share s m args below meth c (MQ below (en_Q D vwCl dT ad 25 (slG lb pt sd n S g) A) args s 1 6 A) 1 6 pc (lvL lb pt sd) [.ref 25] (wX S ++ [oc g]) →
          W p l e rm_L_share s m args below meth c T'.heap (locs ++ L) 1 6 (MQ below (en_Q D vwCl dT ad 25 (slG lb pt sd n S g) A) args s 1 6 A) (F0 m pc ls [.ref q]) := fun pc h =>
        h (Nat.le_refl _) (Nat.le_refl _) (Nat.le_refl _) (fun k => if k = 25 then q else ad1 k) T'.heap (locs ++ L) ls (fun k hk => (had3 k hk).trans (had k hk)) (by rw [e3]; exact hP3) (by rw [e3]; exact hD1) hS2 (by rw [e4]; exact hl1)
      have fin : vx_W p l e rm_L_share s m args below meth c T'.heap (locs ++ L) 1 6 (MQ below (en_Q D vwCl dT ad 25 (slG lb pt sd n S g) A) args s 1 6 A) (F0 m 7 ls [.int 0, .ref (ad1 24)]) q := by
        have ca : ∀ w ∈ lw_tbl, ex_kind w = true → w.before args s = true := fun w h1 h2 => ex_on h2 (State.WarmedH.refl s) (hSW.1 w h1 h2)
        have cl1 : (Jvm.Cond.classLink RL 13 eIOB).before args s = true := en_wd hWD 630 (by decide +kernel) rfl args
        have cl2 : (Jvm.Cond.classLink RL 15 eIAE).before args s = true := en_wd hWD 631 (by decide +kernel) rfl args
        have cl3 : (Jvm.Cond.classLink RL 17 eAE).before args s = true := en_wd hWD 632 (by decide +kernel) rfl args
        rcases hXc with ⟨rfl, c1⟩ | ⟨rfl, c1, c2⟩ | ⟨rfl, c1, c2, c3⟩
        · exact vx_catch hown [] ⟨0, 12, 15, 13⟩ [⟨0, 12, 19, 15⟩, ⟨0, 12, 23, 17⟩] htb (fun z hz => nomatch hz) (by decide) (by decide) cl1 (ca _ ex_c1 rfl) hce hcv hcl (hcat 15 (ls_b2 RR ⟨1, g, Or.inr (Or.inl ⟨rfl, c1⟩), rfl, rfl⟩))
        · exact vx_catch hown [⟨0, 12, 15, 13⟩] ⟨0, 12, 19, 15⟩ [⟨0, 12, 23, 17⟩] htb (fun z hz => by
            rw [List.mem_singleton] at hz
            subst hz
            exact Or.inr ⟨by decide, eIOB, cl1, hSW.2.2.2.2.2.1⟩) (by decide) (by decide) cl2 (ca _ ex_c2 rfl) hce hcv hcl (hcat 19 (ls_b3 RR ⟨2, g, Or.inr (Or.inr (Or.inl ⟨rfl, c1, c2⟩)), rfl, rfl⟩))
        · exact vx_catch hown [⟨0, 12, 15, 13⟩, ⟨0, 12, 19, 15⟩] ⟨0, 12, 23, 17⟩ [] htb (fun z hz => by
            rcases List.mem_cons.mp hz with rfl | hz
            · exact Or.inr ⟨by decide, eIOB, cl1, hSW.2.2.2.2.2.2.1⟩
            · rw [List.mem_singleton] at hz
              subst hz
              exact Or.inr ⟨by decide, eIAE, cl2, hSW.2.2.2.2.2.2.2⟩) (by decide) (by decide) cl3 (ca _ ex_c3 rfl) hce hcv hcl (hcat 23 (ls_b4 RR ⟨3, g, Or.inr (Or.inr (Or.inr ⟨rfl, c1, c2, c3⟩)), rfl, rfl⟩))
      obtain ⟨t2, a1, b1⟩ := fin T' rfl X'
      exact ⟨t2, st.trans a1, b1⟩)
  have hle : (lg_sl ([Value.ref 0, .int lb, .int pt, .int sd, .ref 24].map (en_v ad))).length ≤ 6 := by
    rw [en_sl_len]
    exact Nat.le_of_ble_eq_true rfl
  have hl := lv_entry ([Value.ref 0, .int lb, .int pt, .int sd, .ref 24].map (en_v ad)) hle
  subst hav
  rw [lg_entry_eq]
  exact K (Nat.le_refl _) (Nat.zero_le _) (Nat.zero_le _) ad s.heap [] _ (fun _ _ => rfl) hP hD hS (by rw [show lvL lb pt sd = en_args 0 [Value.ref 0, .int lb, .int pt, .int sd, .ref 24] from rfl, en_args_l]; exact hl)
