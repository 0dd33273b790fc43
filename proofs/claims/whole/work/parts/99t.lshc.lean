/-! THE LAW'S CALL OF share -/
def gk (k : Nat) : Nat := if k < 24 then k else 39
theorem gk_lo {k : Nat} (h : k < 24) : gk k = k := if_pos h
theorem gk_hi {k : Nat} (h : ¬ k < 24) : gk k = 39 := if_neg h
theorem wM_len (M : Sx) : (wM M).length = 15 := rfl
theorem sh_len (o : Nat) (w : List va_E) : (sh_w o w).length = w.length := List.length_map ..
theorem WL_len (S M : Sx) (o : Nat → Int64) : (WL S M o).length = 40 := by
  unfold WL
  rw [List.length_append, List.length_append, sh_len, sh_len, wX_len, wM_len]
  rfl
theorem wo_len (S : Sx) (o : Nat → Int64) : (wX S ++ [oc o]).length = 25 := by rw [List.length_append, wX_len]; rfl
theorem WL_lo {S M : Sx} {o : Nat → Int64} {k : Nat} (h : k < 24) : (WL S M o)[k]? = ((wX S)[k]?).map (sh_e 0) := by
  unfold WL
  rw [List.getElem?_append_left (by rw [sh_len, wX_len]; exact h)]
  unfold sh_w
  rw [List.getElem?_map]
theorem WL_mid {S M : Sx} {o : Nat → Int64} {k : Nat} (h : ¬ k < 24) (h2 : k < 39) : (WL S M o)[k]? = (sh_w 24 (wM M))[k - 24]? := by
  unfold WL
  rw [List.getElem?_append_right (by rw [sh_len, wX_len]; omega), sh_len, wX_len, List.getElem?_append_left (by rw [sh_len, wM_len]; omega)]
theorem WL_hi {S M : Sx} {o : Nat → Int64} : (WL S M o)[39]? = some (oc o) := by
  unfold WL
  rw [List.getElem?_append_right (by rw [sh_len, wX_len]; omega), sh_len, wX_len, List.getElem?_append_right (by rw [sh_len, wM_len]; omega), sh_len, wM_len]
  rfl
theorem wo_hi {S : Sx} {o : Nat → Int64} : (wX S ++ [oc o])[24]? = some (oc o) := by
  rw [List.getElem?_append_right (by rw [wX_len]; omega), wX_len]
  rfl
theorem gk_sub {ad ad1 dT : Nat → Nat} {S M : Sx} (had : ∀ k, k < 25 → ad k = ad1 (gk k)) (o : Nat → Int64) : ∀ (k : Nat) (q : Nat × va_E), (en_w ad dT (wX S ++ [oc o]))[k]? = some q → (en_w ad1 dT (WL S M o))[gk k]? = some q := by
  have hlow : ∀ k, k < 24 → ad k = ad1 k := fun k hk => by rw [had k (by omega), gk_lo hk]
  refine en_sb gk (fun k x hx => ?_) (fun k hk => had k (by rw [wo_len] at hk; exact hk))
  by_cases hk : k < 24
  · rw [List.getElem?_append_left (by rw [wX_len]; exact hk)] at hx
    refine ⟨sh_e 0 x, ?_, ?_⟩
    · rw [gk_lo hk, WL_lo hk, hx]
      rfl
    · rw [sh_ee]
      exact en_lo_e (n := 24) hlow (en_loW_get (ws := wX S) rfl hx)
  · have hk2 := (List.getElem?_eq_some_iff.mp hx).1
    rw [wo_len] at hk2
    have hk3 : k = 24 := by omega
    subst hk3
    rw [wo_hi] at hx
    cases hx
    exact ⟨oc o, by rw [gk_hi hk, WL_hi], rfl⟩
theorem gk_back {ad ad1 dT : Nat → Nat} {S M : Sx} (had : ∀ k, k < 25 → ad k = ad1 (gk k)) (o o' : Nat → Int64) : ∀ (k : Nat) (q : Nat × va_E), (en_w ad1 dT (WL S M o'))[k]? = some q → (∃ j : Nat, (en_w ad dT (wX S ++ [oc o']))[j]? = some q) ∨ ((en_w ad1 dT (WL S M o))[k]? = some q ∧ ∀ j, j < (en_w ad dT (wX S ++ [oc o])).length → gk j ≠ k) := by
  intro k q hk
  have hkl := (List.getElem?_eq_some_iff.mp hk).1
  rw [en_w_len, WL_len] at hkl
  by_cases k1 : k < 24
  · left
    obtain ⟨x, hx⟩ : ∃ x, (wX S ++ [oc o'])[k]? = some x := ⟨_, List.getElem?_eq_getElem (by rw [wo_len]; omega)⟩
    refine ⟨k, ?_⟩
    have h9 := gk_sub (M := M) had o' k _ (en_w_some (ad := ad) (dT := dT) hx)
    rw [gk_lo k1] at h9
    rw [en_w_some hx]
    exact h9.symm.trans hk
  · by_cases k2 : k = 39
    · left
      subst k2
      refine ⟨24, ?_⟩
      have h9 := gk_sub (S := S) (M := M) had o' 24 _ (en_w_some (ad := ad) (dT := dT) wo_hi)
      rw [gk_hi (by omega)] at h9
      rw [en_w_some (wo_hi (S := S))]
      exact h9.symm.trans hk
    · right
      refine ⟨?_, fun j hj he => ?_⟩
      · rw [en_w_get] at hk ⊢
        rw [WL_mid k1 (by omega)] at hk ⊢
        exact hk
      · by_cases c : j < 24
        · rw [gk_lo c] at he; omega
        · rw [gk_hi c] at he; omega
theorem gk_inj {i j : Nat} (hi : i < 25) (hj : j < 25) (h : gk i = gk j) : i = j := by
  by_cases a : i < 24
  · rw [gk_lo a] at h
    by_cases c : j < 24
    · rw [gk_lo c] at h; exact h
    · rw [gk_hi c] at h; omega
  · rw [gk_hi a] at h
    by_cases c : j < 24
    · rw [gk_lo c] at h; omega
    · omega
set_option maxHeartbeats 400000 in
theorem lw_shc {p : Program} {l : Launch} {e : Env} {s : State} {m : MethodId} {below : List Frame} {meth : Method} {c : Code} {b : Nat} {D : va_G} {dT ad : Nat → Nat} {Q : State → Prop} (hl : l.stackTraces = false) (hx : p.tables.exec = Jvm.exec) (hb : c.code = cL_law) (hml : c.maxLocals = 7) (hown : s.vm.findClass RL = some m.cls)
    (hcd : cdL.before #[Value.ref b] s = true) (hK : va_K D vwCl (en_ty dT) s) (hWD : en_WD s) (hSW : sh_W (fun q => s.heap.size ≤ q) s) {lb pt sd : Int32} {i cs sl n : Nat} {w : Nat → Nat} {W0 k : Nat} {S M : Sx} {o : Nat → Int64} (hc : cs + 1 ≤ 1067) (hs : sl + 6 ≤ 12058) (hrel : Rel n w W0 k S M)
    (hk : ∀ r o', slR lb pt sd n S o r o' → ek_OK [(0, .ref b)] D vwCl dT (fun q => s.heap.size ≤ q) t_La 0 ad p l e room_1 s m #[Value.ref b] below meth c Q (cs + 1) (sl + 6) 757 (lvW i) [.int r] (WL S M o')) :
    ek_OK [(0, .ref b)] D vwCl dT (fun q => s.heap.size ≤ q) t_La 0 ad p l e room_1 s m #[Value.ref b] below meth c Q cs sl 754 (lvW i) [.ref 39, .int sd, .int pt, .int lb, .ref 0] (WL S M o) := by
  intro h0 h1 h2 ad1 H locs ls had hP hD hS hl1
  obtain ⟨ad', had'⟩ : ∃ ad' : Nat → Nat, ∀ k, k < 25 → ad' k = ad1 (gk k) := ⟨fun k => ad1 (gk k), fun _ _ => rfl⟩
  have h00 : ad' 0 = ad1 0 := had' 0 (by omega)
  have h24 : ad' 24 = ad1 39 := had' 24 (by omega)
  have hsub := gk_sub (dT := dT) (S := S) (M := M) had' o
  have hback := gk_back (dT := dT) (S := S) (M := M) had' o
  have hfree : ∀ q, va_A (en_w ad' dT (wX S ++ [oc o])) H.size q → s.heap.size ≤ q := by
    rintro q (⟨j, x, hj⟩ | hq)
    · exact hD.2 _ _ (hsub j _ hj)
    · exact Nat.le_trans hS.1 hq
  have hinj : ∀ i j : Nat, i < (en_w ad' dT (wX S ++ [oc o])).length → j < (en_w ad' dT (wX S ++ [oc o])).length → gk i = gk j → i = j := by
    intro i j hi hj hij
    rw [en_w_len, wo_len] at hi hj
    exact gk_inj hi hj hij
  have hpre : ∀ U : State, U.heap = H → s.WarmedH U.vm → sh_P D dT ad' [.ref 0, .int lb, .int pt, .int sd, .ref 24] (wX S ++ [oc o]) H.size ([.ref (ad1 0), .int lb, .int pt, .int sd, .ref (ad1 39)] : List Value).toArray U := fun U hU hW =>
    ⟨⟨by rw [← h00, ← h24]; rfl, by rw [hU], by rw [hU]; exact hP.by _ hsub, va_K.moved hW.alike hK, (hD.by _ hsub hinj).weaken (fun _ _ _ _ => trivial), en_WD2 s U hW hWD⟩, hSW.go hW (fun a g1 g2 => by rw [hU]; exact hS.2.1 a g1 g2) hfree⟩
  have hcw : ∀ w ∈ [cdL], ∀ (a' : Array Value) (U : State), s.WarmedH U.vm → w.before a' U = true := by
    intro w hw a' U hW
    rw [List.mem_singleton] at hw
    subst hw
    exact word_at hW (Or.inl rfl) hcd
  have FX : CallFix p m c cL_law 7 s #[Value.ref b] [] RL := ⟨hx, hb, hml, hown, fun w h => by cases h⟩
  have hrun := vx_runSW (p := p) (e := e) (below := below) (meth := meth) (R := room_1) (H := H) (locs := locs) (cells := cs) (slots := sl) (index := 72) (n := 5) (hh := hhL) (bytes := cL_share) (maxL := 6) (ret := some .int) (As := [.ref (ad1 0), .int lb, .int pt, .int sd, .ref (ad1 39)]) (rest := []) (g := F0 m 754 ls [.ref (ad1 39), .int sd, .int pt, .int lb, .ref (ad1 0)]) FX (ls_met D dT hl ad' H.size lb pt sd n S o hrel.1.1 hrel.1.2.1)
    ⟨⟨rfl, rfl, Nat.le_of_ble_eq_true rfl, Nat.le_of_ble_eq_true rfl, hcw, List.mem_singleton.mpr rfl⟩, hcd, en_wd hWD 58 (by decide +kernel) rfl _, by decide, (fun sig h => by
      have h2 : (parseMethodDescriptor yL_share.desc).map (fun d => d.parameters.length) = some 5 := by decide
      rw [h] at h2
      simpa using h2.symm), en_wd hWD 627 (by decide +kernel) rfl _, en_wd hWD 628 (by decide +kernel) rfl _⟩
    ⟨sh_P_blind, hpre⟩ rfl rfl hl1.1 rfl (Nat.le_of_ble_eq_true rfl) (show decode cL_law 754 = .ok (.invokestatic 72, 3) by decide +kernel) ⟨hc, hs⟩
  intro T hT X
  obtain ⟨v, st₀, t1, T', L, hh0, X', hL, e1, e2, ⟨⟨v1, w', ad2, hv, ⟨r, g', hsl, hv1, hw1⟩, hlen, had2, hP2, -, hD2⟩, hz, hkk⟩, st⟩ := hrun T hT X
  subst hv1
  subst hw1
  cases hv
  rw [hh0, ← e1] at hz hkk
  rw [← e1, en_w_lo (ad := ad') (ad1 := ad2) (ws := wX S ++ [oc g']) rfl had2] at hP2
  have hS2 : va_S (fun q => s.heap.size ≤ q) s.heap T'.heap (locs ++ L) := by
    refine ⟨Nat.le_trans hS.1 hz, fun q g1 g2 => ?_, fun q hq => ?_⟩
    · rw [hkk q (Nat.lt_of_lt_of_le g1 hS.1) (fun z => g2 (hfree q z))]
      exact hS.2.1 q g1 g2
    · rcases List.mem_append.mp hq with h | h
      · exact hS.2.2 q h
      · exact hfree _ (hL q h)
  have hP3 : va_P D vwCl (en_w ad1 dT (WL S M g')) T'.heap := va_Psub gk hsub hP hD hkk hP2 (hback g')
  have hD3 : va_D (fun q => s.heap.size ≤ q) (en_w ad1 dT (WL S M g')) := en_D_same ((WL_len S M g').trans (WL_len S M o).symm) hD
  have K := hk r g' hsl (Nat.zero_le _) hc hs ad1 T'.heap (locs ++ L) ls had hP3 hD3 hS2 hl1
  obtain ⟨t2, a1, b1⟩ := K T' rfl X'
  exact ⟨t2, st t2 a1, b1⟩
