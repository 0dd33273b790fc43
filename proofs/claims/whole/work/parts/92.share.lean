/-! SHARE, with what it throws -/
def ex_kind : Jvm.Cond → Bool
  | .declares _ => true
  | .castable _ _ => true
  | w => goodWord w
def ex_W (U : State) : Prop := ∀ w ∈ lw_tbl, ex_kind w = true → w.before #[] U = true
theorem ex_on {w : Jvm.Cond} (h : ex_kind w = true) {A A' : Array Value} {u U : State} (hW : u.WarmedH U.vm) (hb : w.before A u = true) : w.before A' U = true := by
  cases w with
  | declares x => exact va_Nw.use rfl (va_Nw.warmD hW (va_Nw.of rfl hb))
  | castable a b => exact va_Nw.use rfl (va_Nw.warmC hW (va_Nw.of rfl hb))
  | _ => exact word_at hW (good_of_word h) hb
theorem ex_ws {U : State} (h : ex_W U) {L : List Jvm.Cond} (hL : ∀ w ∈ L, (w ∈ lw_tbl ∧ ex_kind w = true) ∧ vx_ot w = true) (args : Array Value) : ∀ w ∈ L, w.before args U = true := fun w hw =>
  ex_on (hL w hw).1.2 (State.WarmedH.refl U) (h w (hL w hw).1.1 (hL w hw).1.2)
abbrev eIOB : String := "java/lang/IndexOutOfBoundsException"
abbrev eIAE : String := "java/lang/IllegalArgumentException"
abbrev eAE : String := "java/lang/ArithmeticException"
abbrev nmX : List String := ["java/lang/RuntimeException", "java/lang/Exception"]
abbrev exL (i : Nat) (E : String) (j : Nat) : List Jvm.Cond := Jvm.Cond.classLink RX6 i E :: Jvm.Cond.initialized E :: vx_atS RX6 j E nmX
set_option maxRecDepth 100000 in
theorem ex_a1 : ∀ w ∈ exL 141 eIOB 145, (w ∈ lw_tbl ∧ ex_kind w = true) ∧ vx_ot w = true := by decide +kernel
set_option maxRecDepth 100000 in
theorem ex_a2 : ∀ w ∈ exL 148 eIAE 152, (w ∈ lw_tbl ∧ ex_kind w = true) ∧ vx_ot w = true := by decide +kernel
set_option maxRecDepth 100000 in
theorem ex_a3 : ∀ w ∈ exL 156 eAE 160, (w ∈ lw_tbl ∧ ex_kind w = true) ∧ vx_ot w = true := by decide +kernel
/-- what share's throws stand on -/
def sh_W (A : Nat → Prop) (U : State) : Prop := ex_W U ∧ (∃ a, vk_R RX6 143 "no such label or part" a U) ∧ (∃ a, vk_R RX6 150 "the side is 0 or 1" a U) ∧ (∃ a, vk_R RX6 158 "no row of the label is in a part" a U) ∧ (vx_Zq Bundle.tN "UNASSIGNED_STACK" Bundle.steD A U U.heap ∧ vx_Zq Bundle.tN "SUPPRESSED_SENTINEL" Bundle.listD A U U.heap) ∧ va_Nc eIAE eIOB U ∧ va_Nc eAE eIOB U ∧ va_Nc eAE eIAE U
theorem sh_W.go {A B : Nat → Prop} {s U : State} (h : sh_W A s) (hW : s.WarmedH U.vm) (hq : ∀ a : Nat, a < s.heap.size → ¬ A a → U.heap[a]? = s.heap[a]?) (hAB : ∀ q, B q → A q) : sh_W B U := by
  obtain ⟨h1, ⟨a, h2⟩, ⟨b, h3⟩, ⟨c, h4⟩, ⟨h5, h6⟩, h7, h8, h9⟩ := h
  exact ⟨fun w hm hk => ex_on hk hW (h1 w hm hk), ⟨a, vk_R.warm hW h2⟩, ⟨b, vk_R.warm hW h3⟩, ⟨c, vk_R.warm hW h4⟩, ⟨vx_Zq.narrow (vx_Zq.moved hW.alike (vx_Zq.kept h5 hq)) hAB, vx_Zq.narrow (vx_Zq.moved hW.alike (vx_Zq.kept h6 hq)) hAB⟩, va_Nc.moved hW.alike h7, va_Nc.moved hW.alike h8, va_Nc.moved hW.alike h9⟩
def sh_P (D : va_G) (dT ad : Nat → Nat) (av : List Value) (ws : List va_E) (sz : Nat) : Array Value → State → Prop := fun a U => en_P en_WD D vwCl dT ad av ws sz a U ∧ sh_W (va_A (en_w ad dT ws) sz) U
theorem sh_P_blind {D : va_G} {dT ad : Nat → Nat} {av : List Value} {ws : List va_E} {sz : Nat} : FrameBlind (sh_P D dT ad av ws sz) := by
  intro a U g mk q
  exact ⟨en_P_blind en_WD1 a U g mk q.1, sh_W.go (U := U.calling g mk a) q.2 (State.WarmedH.refl U) (fun _ _ _ => rfl) (fun _ h => h)⟩
def shGr (l p sd : Int32) (n : Nat) (S : Sx) : Option Value → List va_E → Prop := fun v w => (shq l p ∧ (sd = 0 ∨ sd = 1) ∧ cpl (S.2.2.1 5) (S.2.2.1 3) n l ≠ 0) ∧ v = some (.int (shv (S.2.2.1 5) (S.2.2.1 3) n l p sd)) ∧ w = wX S
def shXc (l p sd : Int32) (n : Nat) (S : Sx) (E : String) : Prop := (E = eIOB ∧ ¬ shq l p) ∨ (E = eIAE ∧ shq l p ∧ ¬ (sd = 0 ∨ sd = 1)) ∨ (E = eAE ∧ shq l p ∧ (sd = 0 ∨ sd = 1) ∧ cpl (S.2.2.1 5) (S.2.2.1 3) n l = 0)
def sh_X (D : va_G) (dT ad : Nat → Nat) (A : Nat → Prop) (l p sd : Int32) (n : Nat) (S : Sx) : String → State → State → Prop := fun E st t => shXc l p sd n S E ∧ va_P D vwCl (en_w ad dT (wX S)) t.heap ∧ va_F A st t
theorem va_Pk {D : va_G} {cl : List vw_C} {ws : va_W} {H H1 : Heap} (h : va_P D cl ws H) (hq : ∀ q : Nat, q < H.size → H1[q]? = H[q]?) : va_P D cl ws H1 := fun k q hk => (h k q hk).kept (hq q.1 (h k q hk).lt)
theorem en_w_lo {ad ad1 dT : Nat → Nat} {ws : List va_E} (h : en_loW ws.length ws = true) (had : ∀ k, k < ws.length → ad1 k = ad k) : en_w ad1 dT ws = en_w ad dT ws := by
  apply List.ext_getElem?
  intro k
  rw [en_w_get, en_w_get]
  cases hk : ws[k]? with
  | none => rfl
  | some x =>
    have hlt : k < ws.length := (List.getElem?_eq_some_iff.mp hk).1
    simp only [Option.map_some]
    rw [had k hlt, en_lo_e had (en_loW_get h hk)]
set_option maxHeartbeats 4000000 in
set_option maxRecDepth 100000 in
theorem sh_met (D : va_G) (dT : Nat → Nat) {l : Launch} (hl : l.stackTraces = false) (ad : Nat → Nat) (sz : Nat) (lb pt sd : Int32) (n : Nat) (S : Sx) (hn : n ≤ 100) (hn1 : S.1 1 = nI n) :
    vx_Met l yX6_share [Jvm.Cond.code yX6_share cX6_share 6 (some .int)] rm_X6_share (sh_P D dT ad [.ref 0, .int lb, .int pt, .int sd] (wX S) sz)
      (en_Q D vwCl dT ad 24 (shGr lb pt sd n S) (va_A (en_w ad dT (wX S)) sz)) (sh_X D dT ad (va_A (en_w ad dT (wX S)) sz) lb pt sd n S) 1 6 (va_A (en_w ad dT (wX S)) sz) := by
  refine vx_ofW (cc := cX6_share) (maxL := 6) (ret := some .int) (by decide) rfl ?_
  intro p e s m args below meth c s₁ B hml htab hv
  obtain ⟨⟨hargs, hsz, hP, hK, hD0, hWD⟩, hSW⟩ := hv
  subst hargs
  have hown : s.vm.findClass RX6 = some m.cls := findClass_of_methodNamed B.named
  have hlocks := B.notSynchronized
  have hr := B.returns
  subst hsz
  have hD := hD0.self (sz := s.heap.size)
  have hA : ∀ q : Nat, s.heap.size ≤ q → va_A (en_w ad dT (wX S)) s.heap.size q := fun q h => Or.inr h
  have hS : va_S (va_A (en_w ad dT (wX S)) s.heap.size) s.heap s.heap [] := va_S.rf
  generalize va_A (en_w ad dT (wX S)) s.heap.size = A at hA hS hD hSW ⊢
  obtain ⟨hT, hrest⟩ := tB_X6_share D dT l
  generalize hav : (List.map (en_v ad) [Value.ref 0, .int lb, .int pt, .int sd]).toArray = args at B ⊢
  obtain ⟨hF, hC, hM, hN, hO, hAr⟩ := hrest s args meth hWD (name_of_methodNamed B.named B.method).1
  have C : en_X en_WD D vwCl dT A t_X6_share p l rm_X6_share s m args meth c RX6 cX6_share :=
    ⟨B.exec, B.bytes, hml, hown, hK, hA, hWD, ⟨Nat.le_refl _, Nat.le_refl _⟩, hT, hF, hC, hM, hN, hO, hAr⟩
  have hret : en_R D vwCl dT A t_X6_share 24 ad p l e rm_X6_share s m args below meth c (vx_MQ below (en_Q D vwCl dT ad 24 (shGr lb pt sd n S) A) (sh_X D dT ad A lb pt sd n S) args s 1 6 A) (shGr lb pt sd n S) cX6_share := by
    intro v w i pc cs sl hG hd hi h0 h1 h2 ad1 H locs ls had hP1 hD1 hS1
    refine W.widen (k := 1) (n := 6) h1 h2 (vx_ret ?_)
    have hq : ∀ tt : State, tt.heap = H → s.WarmedH tt.vm → en_Q D vwCl dT ad 24 (shGr lb pt sd n S) A args s (.returned (v.map (en_v ad1))) tt := fun tt ht hW =>
      ⟨⟨v, w, ad1, rfl, hG, h0, had, by rw [ht]; exact hP1, va_K.moved hW.alike hK, hD1⟩, hS1.F ht⟩
    rcases hi with ⟨x, rfl, rfl, hty⟩ | ⟨rfl, rfl, hty⟩
    · exact W.iret (v := x) B.exec B.bytes hr hq hS1.2.2 hd
    · cases hty
  have thr : ∀ (pc ik is ic : Nat) (E tx : String) (lv : en_L), Bundle.fit E = true → (∀ w ∈ exL ik E ic, (w ∈ lw_tbl ∧ ex_kind w = true) ∧ vx_ot w = true) → (∃ a, vk_R RX6 is tx a s) → decode cX6_share pc = .ok (.new ik, 3) → decode cX6_share (pc + 3) = .ok (.dup, 1) → decode cX6_share (pc + 4) = .ok (.ldc is, 2) → decode cX6_share (pc + 6) = .ok (.invokespecial ic, 3) → decode cX6_share (pc + 9) = .ok (.athrow, 1) → shXc lb pt sd n S E →
      en_OK D vwCl dT A t_X6_share 24 ad p l e rm_X6_share s m args below meth c (vx_MQ below (en_Q D vwCl dT ad 24 (shGr lb pt sd n S) A) (sh_X D dT ad A lb pt sd n S) args s 1 6 A) 0 0 pc lv [] (wX S) := by
    intro pc ik is ic E tx lv hfit hw hst d0 d3 d4 d6 d9 hXc h0 h1 h2 ad1 H locs ls had hP1 hD1 hS1 hl1
    obtain ⟨sa, hsa⟩ := hst
    have hall := ex_ws hSW.1 hw args
    have e : en_w ad1 dT (wX S) = en_w ad dT (wX S) := en_w_lo rfl had
    rw [e] at hP1
    refine vx_throwS (names := nmX) (own := RX6) (cls := E) (text := tx) (ik := ik) (is := is) (ic := ic) (sa := sa) (A := A) B.exec B.bytes hl hown hfit (by decide) (hall _ List.mem_cons_self) (hall _ (List.mem_cons_of_mem _ List.mem_cons_self)) hsa (fun w hw => hall w (List.mem_cons_of_mem _ (List.mem_cons_of_mem _ hw))) (fun w h => (hw w h).2) hSW.2.2.2.2.1.1 hSW.2.2.2.2.1.2 hS1 (hl1.1.trans hml.symm) d0 d3 d4 d6 d9 (fun x hx => (htab x hx).elim) (Nat.le_of_ble_eq_true rfl) (Nat.le_of_ble_eq_true rfl) (Nat.le_of_ble_eq_true rfl) (Nat.le_of_ble_eq_true rfl) hlocks ?_ hS1.2.2 (Nat.le_of_ble_eq_true rfl) (Nat.le_of_ble_eq_true rfl)
    intro t hv hz hq
    exact ⟨hXc, va_Pk hP1 hq, Nat.le_trans hS1.1 hz, fun q h1 h2 => (hq q (Nat.lt_of_lt_of_le h1 hS1.1)).trans (hS1.2.1 q h1 h2)⟩
  have K := sh_body lb pt sd n S hn hn1 (shGr lb pt sd n S) (en_OK D vwCl dT A t_X6_share 24 ad p l e rm_X6_share s m args below meth c (vx_MQ below (en_Q D vwCl dT ad 24 (shGr lb pt sd n S) A) (sh_X D dT ad A lb pt sd n S) args s 1 6 A))
    ⟨fun stop n cs sl pc lv st ws h => en_vc_ok en_WD1 en_WD2 C hret stop n cs sl pc lv st ws h, fun ks cs sl pc lv lv' st ws h1 h2 => en_sub ks h1 h2⟩
    (fun a b c => ⟨⟨a, b, c⟩, rfl, rfl⟩)
    (fun a => thr 16 141 143 145 eIOB _ _ (by decide) ex_a1 hSW.2.1 (by decide +kernel) (by decide +kernel) (by decide +kernel) (by decide +kernel) (by decide +kernel) (Or.inl ⟨rfl, a⟩))
    (fun a b => thr 35 148 150 152 eIAE _ _ (by decide) ex_a2 hSW.2.2.1 (by decide +kernel) (by decide +kernel) (by decide +kernel) (by decide +kernel) (by decide +kernel) (Or.inr (Or.inl ⟨rfl, a, b⟩)))
    (fun a b c => thr 60 156 158 160 eAE _ _ (by decide) ex_a3 hSW.2.2.2.1 (by decide +kernel) (by decide +kernel) (by decide +kernel) (by decide +kernel) (by decide +kernel) (Or.inr (Or.inr ⟨rfl, a, b, c⟩)))
  have hle : (lg_sl ([Value.ref 0, .int lb, .int pt, .int sd].map (en_v ad))).length ≤ 6 := by
    rw [en_sl_len]
    exact Nat.le_of_ble_eq_true rfl
  have hl := lv_entry ([Value.ref 0, .int lb, .int pt, .int sd].map (en_v ad)) hle
  subst hav
  rw [lg_entry_eq]
  exact K (Nat.le_refl _) (Nat.zero_le _) (Nat.zero_le _) ad s.heap [] _ (fun _ _ => rfl) hP hD hS (by rw [show [(0, Value.ref 0), (1, .int lb), (2, .int pt), (3, .int sd)] = en_args 0 [Value.ref 0, .int lb, .int pt, .int sd] from rfl, en_args_l]; exact hl)
