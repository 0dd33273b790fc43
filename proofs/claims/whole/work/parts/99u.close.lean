/-! THE CLAIM OUT OF ONE WALK OF THE LAW'S BODY. Your part is whole_start (and what it stands on); all else here is the same for every law, but numbers. -/
def R_law : String := "SplitLeaksLaw"
def lw_P (b : Addr) (xs : List Int32) (args : Array Value) (s : State) : Prop := args = #[.ref b] ∧ s.IntsAt b xs ∧ xs.length ≤ 3072 ∧ (Jvm.Cond.and given_1 narrow_1).before args s = true
def lw_Q (_ : Array Value) (s : State) (o : Outcome) (t : State) : Prop := o = .returned (some (.int 1)) ∧ Framed s o t [] 1067 12058
def lw_Z (below : List Frame) (a : Array Value) (s : State) : State → Prop := fun t => ∃ o, t.status = .running ∧ Ended t below o ∧ lw_Q a s o t
/-- the law's own end, with 1 on the stack, nothing written that was there before, its room as the claim has it -/
theorem lw_ret {p : Program} {l : Launch} {e : Env} {s : State} {m : MethodId} {below : List Frame} {meth : Method} {c : Code} {b : Nat} (hx : p.tables.exec = Jvm.exec) (hb : c.code = code) (hr : meth.sig.returnType = ret) (hlocks : meth.locks = false) {pc : Nat} {H : Heap} {ls : Array Slot} (hdg : decode code pc = .ok (.ireturn, 1)) : W p l e room_1 s m #[Value.ref b] below meth c H [] 1067 12058 (lw_Z below #[Value.ref b] s) (F0 m pc ls [.int 1]) := by
  intro T hT X
  obtain ⟨fs, hret, hrun, hended, hW, hframe⟩ := X.leave (v := some (.int 1)) (hlocks := hlocks) (fun h => by rw [hr] at h; cases h)
  have hmeth' : T.vm.method? m = some meth := X.method'
  refine ⟨T.setFrames fs, ?_, .returned (some (.int 1)), hrun, hended, rfl, ⟨_, rfl⟩, hW, hframe⟩
  jvm_step X.here [X.here.top, hx, hb, hdg, hmeth', hr, ret, narrow_b1]
  (try refine ⟨rfl, ?_⟩); (try refine ⟨rfl, ?_⟩)
  first | (intro acts; rw [hret _ acts rfl rfl rfl]) | rw [hret _ _ rfl rfl rfl]
  exact Steps.refl _
/-- what holds at the law's entry: the machine, the code, the tables' words (any of lw_tbl by 'hts w (by decide +kernel)'), the script of L ints xs at the cell b, what the Statement gives of the start (any of its parts by flat_of_before) -/
def lw_At (p : Program) (s : State) (m : MethodId) (meth : Method) (c : Code) (b L : Nat) (xs : Nat → Int32) : Prop :=
  p.tables.exec = Jvm.exec ∧ c.code = code ∧ meth.sig.returnType = ret ∧ c.maxLocals = 7 ∧ s.vm.findClass R_law = some m.cls ∧ (∀ w ∈ lw_tbl, w.before #[Value.ref b] s = true) ∧ va_X b L xs s s.heap ∧ b < s.heap.size ∧ meth.locks = false ∧ (Jvm.Cond.and given_1 narrow_1).before #[Value.ref b] s = true
theorem lw_str {s : State} {args : Array Value} (hts : ∀ w ∈ lw_tbl, w.before args s = true) {k : Nat} {tx : String} (hm : Jvm.Cond.stringRef RX6 k tx ∈ lw_tbl) (hx : (Jvm.Cond.exactly (.string RX6 k) "java/lang/String").before args s = true) : ∃ a, vk_R RX6 k tx a s := by
  obtain ⟨a, c, cell, kk, q1, -⟩ := Cond.exactly_spec hx
  exact ⟨a, vk_R.of (hts _ hm) q1⟩
set_option maxRecDepth 100000 in
theorem lw_sw {s : State} {args : Array Value} (hts : ∀ w ∈ lw_tbl, w.before args s = true) (hgv : (Jvm.Cond.and given_1 narrow_1).before args s = true) : sh_W (fun q => s.heap.size ≤ q) s := by
  have hs9 := flat_of_before _ hgv
  have hA : ∀ a : Nat, a < s.heap.size → ¬ s.heap.size ≤ a := fun a h z => absurd h (Nat.not_lt.mpr z)
  exact ⟨fun w hm hk => ex_on hk (State.WarmedH.refl s) (hts w hm),
    lw_str hts (by decide +kernel) (hs9 _ (by decide +kernel)), lw_str hts (by decide +kernel) (hs9 _ (by decide +kernel)), lw_str hts (by decide +kernel) (hs9 _ (by decide +kernel)),
    ⟨vx_Zqof (hts _ (by decide +kernel)) (hts _ (by decide +kernel)) (hs9 _ (by decide +kernel)) hA, vx_Zqof (hts _ (by decide +kernel)) (hts _ (by decide +kernel)) (hs9 _ (by decide +kernel)) hA⟩,
    va_Nc.of (hs9 _ (by decide +kernel)), va_Nc.of (hs9 _ (by decide +kernel)), va_Nc.of (hs9 _ (by decide +kernel))⟩
set_option maxHeartbeats 4000000 in
set_option maxRecDepth 100000 in
theorem whole_start {p : Program} {e : Env} {s : State} {m : MethodId} {below : List Frame} {meth : Method} {c : Code} (l : Launch) (hl : l.stackTraces = false) {b L : Nat} {xs : Nat → Int32} (hL : L ≤ 3072) (C0 : lw_At p s m meth c b L xs) : W p l e room_1 s m #[Value.ref b] below meth c s.heap [] 0 0 (lw_Z below #[Value.ref b] s) (entryFrame m ([Value.ref b] : List Value).toArray 7) := by
  obtain ⟨hx, hb, hrt, hml, hown, hts, hX, hbl, hlocks, hgv⟩ := C0
  have hWD : en_WD s := fun w hm hk => en_kind_on hk rfl (hts w hm)
  have hSW := lw_sw hts hgv
  obtain ⟨D, dT, hK⟩ := lw_known hts
  have hbA : ¬ s.heap.size ≤ b := Nat.not_le.mpr hbl
  have hcd : cdL.before #[Value.ref b] s = true := hts _ (List.mem_of_getElem? (i := 629) (by rfl))
  have CX : ∀ t : en_T, t.1 = (7, 1067, 12058) → en_TB en_WD D vwCl dT l room_1 t RL meth.name cL_law → en_X en_WD D vwCl dT (fun q => s.heap.size ≤ q) t p l room_1 s m #[Value.ref b] meth c RL cL_law := by
    intro t ht hTB
    obtain ⟨hT, hrest⟩ := hTB
    obtain ⟨hF, hC, hM, hN, hO, hAr⟩ := hrest s #[Value.ref b] meth hWD rfl
    exact ⟨hx, hb, by rw [ht]; exact hml, hown, hK, fun _ h => h, hWD, ⟨by rw [ht]; exact Nat.le_refl _, by rw [ht]; exact Nat.le_refl _⟩, hT, hF, hC, hM, hN, hO, hAr⟩
  have hret : ∀ t : en_T, t.1 = (7, 1067, 12058) → ek_R D vwCl dT (fun q => s.heap.size ≤ q) t 0 (fun k => k) p l e room_1 s m #[Value.ref b] below meth c (lw_Z below #[Value.ref b] s) (fun v _ => v = some (.int 1)) cL_law := by
    intro t ht v w i pc cs sl hG hd hi h0 h1 h2 ad1 H locs ls had hP1 hD1 hS1
    rw [ht] at h1 h2
    subst hG
    refine W.widen (k := 1067) (n := 12058) h1 h2 (va_forget hS1.2.2 ?_)
    rcases hi with ⟨x, rfl, -, -⟩ | ⟨rfl, hv, -⟩
    · exact lw_ret hx hb hrt hlocks hd
    · cases hv
  obtain ⟨OK, hOK⟩ : ∃ OK : en_K, OK = ek_OK [(0, .ref b)] D vwCl dT (fun q => s.heap.size ≤ q) t_La 0 (fun k => k) p l e room_1 s m #[Value.ref b] below meth c (lw_Z below #[Value.ref b] s) := ⟨_, rfl⟩
  have hX1 : ∀ q ∈ [((0 : Nat), Value.ref b)], q.1 = 0 ∧ q.2.category = 1 := fun q hq => by rw [List.mem_singleton] at hq; subst hq; exact ⟨rfl, rfl⟩
  have RE : ∀ t : en_T, t.1 = (7, 1067, 12058) → (∀ q ∈ t.2.1, ek_no q.2.1 = true) → en_TB en_WD D vwCl dT l room_1 t RL meth.name cL_law → ∀ (stop : List Nat) (n cs sl pc : Nat) (lv : en_L) (st : List Value) (ws : List va_E), en_vc t (fun v _ => v = some (.int 1)) stop OK n cs sl pc lv st ws → OK cs sl pc lv st ws := by
    intro t ht hn hTB
    rw [hOK, ek_t (t := t_La) (t' := t) ht.symm]
    intro stop n cs sl pc lv st ws h
    exact ek_vc_ok hX1 hn en_WD1 en_WD2 (CX t ht hTB) (hret t ht) stop n cs sl pc lv st ws h
  have RK : ∀ (t : en_T) (mc : el_M), t.1 = (7, 1067, 12058) → (∀ q ∈ t.2.1, ek_no q.2.1 = true) → en_TB en_WD D vwCl dT l room_1 t RL meth.name cL_law → (∀ q ∈ mc, el_ck cL_law q) → ∀ i, i + 5 < L → el_Run t mc (fun v _ => v = some (.int 1)) i xs OK := by
    intro t mc ht hn hTB hmc i hi
    rw [hOK, ek_t (t := t_La) (t' := t) ht.symm]
    intro stop n cs sl pc lv st ws h
    exact el_vc_ok hn en_WD1 en_WD2 (CX t ht hTB) (hret t ht) hX hbl hbA hi hL hmc stop n cs sl pc lv st ws h
  have sub : ∀ (ks : List Nat) (cs sl pc : Nat) (lv lv' : en_L) (st : List Value) (ws : List va_E), lv_pick lv ks = lv' → OK cs sl pc lv' st ws → OK cs sl pc lv st ws := by
    rw [hOK]
    intro ks cs sl pc lv lv' st ws h1 h2
    exact ek_sub ks h1 h2
  have len : ∀ (cs sl : Nat) (lv : en_L) (st : List Value) (ws : List va_E), OK cs sl 27 lv (.int (nI L) :: st) ws → OK cs sl 25 lv st ws := by
    rw [hOK]
    intro cs sl lv st ws h
    exact el_len hx hb hX hbl hbA (pc := 25) (show decode cL_law 25 = .ok (.aload_n 0, 1) by decide +kernel) (show decode cL_law 26 = .ok (.arraylength, 1) by decide +kernel) h
  have shc : ∀ (i cs sl n : Nat) (w : Nat → Nat) (W k : Nat) (S M : Sx) (o : Nat → Int64), cs + 1 ≤ 1067 → sl + 6 ≤ 12058 → Rel n w W k S M → (∀ r o', slR (xs (i + 1)) (xs (i + 2)) (xs (i + 3)) n S o r o' → OK (cs + 1) (sl + 6) 757 (lvW i) [.int r] (WL S M o')) → OK cs sl 754 (lvW i) [.ref 39, .int (xs (i + 3)), .int (xs (i + 2)), .int (xs (i + 1)), .ref 0] (WL S M o) := by
    rw [hOK]
    intro i cs sl n w W k S M o h1 h2 h3 h4
    exact lw_shc hl hx hb hml hown hcd hK hWD hSW h1 h2 h3 h4
  have K := lw_init (RE t_La rfl tn_La (tB_La D dT l meth.name)) (lw_loop hL (fun _ => rfl) (RE t_Lb rfl tn_Lb (tB_Lb D dT l meth.name)) len sub shc (RK t_Lc mc_Lc rfl tn_Lc (tB_Lc D dT l meth.name) mo_Lc)
    (RK t_L0 mc_L0 rfl tn_L0 (tB_L0 D dT l meth.name) mo_L0)
    (RK t_L1 mc_L1 rfl tn_L1 (tB_L1 D dT l meth.name) mo_L1)
    (RK t_L2 mc_L2 rfl tn_L2 (tB_L2 D dT l meth.name) mo_L2)
    (RK t_L3 mc_L3 rfl tn_L3 (tB_L3 D dT l meth.name) mo_L3)
    (RK t_L4 mc_L4 rfl tn_L4 (tB_L4 D dT l meth.name) mo_L4)
    (RK t_L5 mc_L5 rfl tn_L5 (tB_L5 D dT l meth.name) mo_L5)
    (RK t_L6 mc_L6 rfl tn_L6 (tB_L6 D dT l meth.name) mo_L6)
    (RK t_L7 mc_L7 rfl tn_L7 (tB_L7 D dT l meth.name) mo_L7)
    (RK t_L8 mc_L8 rfl tn_L8 (tB_L8 D dT l meth.name) mo_L8)
    (RK t_L9 mc_L9 rfl tn_L9 (tB_L9 D dT l meth.name) mo_L9)
    (RK t_L10 mc_L10 rfl tn_L10 (tB_L10 D dT l meth.name) mo_L10)
    (RK t_L11 mc_L11 rfl tn_L11 (tB_L11 D dT l meth.name) mo_L11)
    (RK t_L12 mc_L12 rfl tn_L12 (tB_L12 D dT l meth.name) mo_L12)
    (RK t_L13 mc_L13 rfl tn_L13 (tB_L13 D dT l meth.name) mo_L13)
    (RK t_L14 mc_L14 rfl tn_L14 (tB_L14 D dT l meth.name) mo_L14)
    (RK t_L15 mc_L15 rfl tn_L15 (tB_L15 D dT l meth.name) mo_L15)
    (RK t_L16 mc_L16 rfl tn_L16 (tB_L16 D dT l meth.name) mo_L16)
    (RK t_L17 mc_L17 rfl tn_L17 (tB_L17 D dT l meth.name) mo_L17)
    (RK t_L18 mc_L18 rfl tn_L18 (tB_L18 D dT l meth.name) mo_L18)
    (RK t_L19 mc_L19 rfl tn_L19 (tB_L19 D dT l meth.name) mo_L19)
    L 0 0 Sx0 Sm0 (fun _ => 0) (by omega) (by omega) (by omega) ⟨_, _, _, _, rel_0⟩)
  rw [hOK] at K
  have hle : (lg_sl ([Value.ref b] : List Value)).length ≤ 7 := Nat.le_of_ble_eq_true rfl
  have hl7 := lv_entry ([Value.ref b] : List Value) hle
  rw [lg_entry_eq]
  exact K (Nat.zero_le _) (Nat.zero_le _) (Nat.zero_le _) (fun k => k) s.heap [] _ (fun _ _ => rfl) (fun k q hk => absurd hk (by rw [en_w_get]; simp)) ⟨fun i j p q hi => absurd hi (by rw [en_w_get]; simp), fun k q hk => absurd hk (by rw [en_w_get]; simp)⟩ va_S.rf hl7
set_option maxHeartbeats 4000000 in
theorem lw_walk (l : Launch) (hl : l.stackTraces = false) (b : Addr) (xs : List Int32) : MetFree l x (headSpec (Jvm.Cond.code x code maxLocals ret :: tables_1) room_1) (lw_P b xs) (fun _ _ _ _ _ => True) lw_Q := by
  refine MetFree.of_bodyS (code := code) (maxLocals := maxLocals) (ret := ret) (by decide) ?_ ?_
  · intro args s m h hn
    obtain ⟨meth, c, h1, h2, h3, h4, h5, h6, -, -⟩ := Cond.code_spec hn (atoms_spec (ws := Jvm.Cond.code x code maxLocals ret :: tables_1) h _ List.mem_cons_self)
    exact ⟨meth, c, h1, h2, h3, h4, h5, h6⟩
  · intro p e s m args below meth c s₁ B hml0 hP _
    obtain ⟨rfl, hx, hbd, hgv⟩ := hP
    obtain ⟨scr, harrAt, hlist, hof, hsmall⟩ := hx
    obtain ⟨hcb, hkn, -, -⟩ := State.arrayAt?_spec harrAt
    have hown : s.vm.findClass R_law = some m.cls := findClass_of_methodNamed B.named
    have hts0 : ∀ c ∈ (Jvm.Cond.code x code maxLocals ret :: tables_1), c.before #[Value.ref b] s = true := atoms_spec (ws := Jvm.Cond.code x code maxLocals ret :: tables_1) B.pre
    have hts : ∀ w ∈ lw_tbl, w.before #[Value.ref b] s = true := k2_hts_sels lw_privs (fun w hw => hts0 w (List.mem_cons_of_mem _ hw)) lw_privs_ok
    have hml : c.maxLocals = 7 := B.maxLocals_eq (hts0 _ List.mem_cons_self)
    have X₀ : Stand p l e room_1 s m #[Value.ref b] below meth c s₁ [] 0 0 := Stand.of_body B
    have hh0 : s₁.heap = s.heap := by rw [B.state]; rfl
    have hsz : scr.slots.size = xs.length := by rw [← Array.length_toList, hlist, List.length_map]
    have hval : ∀ j : Nat, j < xs.length → scr.slots[j]? = some (.int (xs.getD j 0)) := fun j hj => by
      rw [← Array.getElem?_toList, hlist]
      simp [hj]
    have hbl : b < s.heap.size := (Array.getElem?_eq_some_iff.mp hcb).1
    have hX : va_X b xs.length (fun j => xs.getD j 0) s s.heap := ⟨scr, hcb, hof, hkn, hsz, hval⟩
    have K : W p l e room_1 s m #[Value.ref b] below meth c s₁.heap [] 0 0 (lw_Z below #[Value.ref b] s) (entryFrame m ([Value.ref b] : List Value).toArray 7) := by
      rw [hh0]
      exact whole_start l hl hbd ⟨B.exec, B.bytes, B.returns, hml, hown, hts, hX, hbl, B.notSynchronized, hgv⟩
    obtain ⟨t, a1, o, b1, b2, b3⟩ := K s₁ rfl X₀
    exact ⟨t, o, a1, b1, b2, b3⟩
theorem lw_pre_spec {args : Array Value} {s : State} (h : (Jvm.Cond.and given_1 narrow_1).before args s = true) (hr : rest_1_c.before args s = true) : ∃ (b : Addr) (xs : List Int32), lw_P b xs args s := by
  have hs := flat_of_before _ h
  have hq := flat_of_before _ hr
  have hc : (Cond.count 1).before args s = true := hs _ (by decide +kernel)
  have harr : (Cond.arrayOf (.arg 0) .int).before args s = true := hs _ (by decide +kernel)
  have hle : (Cond.le (.length (.arg 0)) (.int 3072)).before args s = true := hs _ (by decide +kernel)
  have hlen : (Cond.isInt (.length (.arg 0))).before args s = true := hq _ (by decide +kernel)
  have hall : (Cond.all (.arg 0) (.isInt (.elem (.arg 0) (.index 0)))).before args s = true := hq _ (by decide +kernel)
  obtain ⟨b, xs, hb, hx⟩ := State.ints_of_pre rfl harr hlen hall
  have hsm : xs.length < 2 ^ 31 := hx.choose_spec.2.2.2
  have hev : (Term.length (.arg 0)).eval args s none [] s = some (.int xs.length.toInt32) := hx.length_eval hb
  have hv := Cond.le_ints hev (show (Term.int 3072).eval args s none [] s = some (.int 3072) from rfl)
  have hd : xs.length.toInt32 ≤ 3072 := by
    simpa [Cond.before, Cond.holds, hv] using hle
  have hN : xs.length ≤ 3072 := (Int32.ofNat_le_ofNat hsm (by decide)).mp (show Int32.ofNat xs.length ≤ Int32.ofNat 3072 from hd)
  exact ⟨b, xs, Cond.one_arg hc (show args[0]? = some (.ref b) from hb), hx, hN, h⟩
theorem lw_comes (l : Launch) (hl : l.stackTraces = false) : Comes l x (Jvm.Cond.code x code maxLocals ret :: tables_1) room_1 (fun tb e args s => Calls_1 tb e args s ∧ rest_1 tb e args s ∧ Pre_1 tb e args s)
    (fun _ _ args s o t => lw_Q args s o t) := by
  intro p e ha hc hk s m args below hf hfit hheap happ hpre
  obtain ⟨b, xs, hP⟩ := lw_pre_spec hpre.2.2 hpre.2.1
  obtain ⟨k, o, h1, h2, h3, hQ⟩ := lw_walk l hl b xs p e ha hc hk s m args below hf ((Spec.applies_iff_loose hf).mp happ).1 hP trivial
  exact ⟨k, o, h1, h2, h3, hQ⟩
theorem lw_frame {s t : State} {o : Outcome} {args : Array Value} (h : Framed s o t [] 1067 12058) :
    Framed s o t (fieldLocs frame_1_writes args s ++ arrayLocs frame_1_arrays args s ++ staticLocs frame_1_statics s) 1067 12058 := h
theorem lw_limb (L : Cond) (hL : ∀ (args : Array Value) (s t : State), L.after args s (.returned (some (.int 1))) t = true) :
    ArmFor flags0 classFile x code maxLocals ret World_1 tables_1 room_1 Calls_1 rest_1 Pre_1
      (fun tb e a s o t => postC L tb e a s o t ∧ Framed s o t (fieldLocs frame_1_writes a s ++ arrayLocs frame_1_arrays a s ++ staticLocs frame_1_statics s) 1067 12058) := by
  intro l hfl _ _ p e ha hc hk s m args below hf hfit hheap happ hpre
  obtain ⟨k, o, h1, h2, h3, rfl, hF⟩ := lw_comes l (by unfold Launch.stackTraces; rw [hfl]; decide +kernel) p e ha hc hk s m args below hf hfit hheap happ hpre
  exact ⟨k, _, h1, h2, h3, hL args s _, lw_frame hF⟩
theorem i_vc : Claimed_1_1 ∧ Claimed_1_2 := ⟨lw_limb limb_1_1 (fun args s t => by simp [limb_1_1, Cond.after, Cond.holds, Cond.value]), lw_limb limb_1_2 (fun args s t => Cond.after_iff.mpr (by
  first | (rw [show limb_1_2 = Cond.eq .result (.int 1) from rfl, Cond.eq_ints (x := 1) (y := 1) rfl rfl]; simp; done) | (simp [limb_1_2, Cond.value, Term.eval]; done)))⟩
