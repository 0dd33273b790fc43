/-! the reference: by times -/
theorem insS_c (T : Nat → Int32) {row : Int32} : ∀ (a : Nat) (f g : Nat → Int32), (∀ j, j < a → f j = g j) → ∀ j, j ≤ a → insS T row a f j = insS T row a g j
  | 0, f, g, h, j, hj => by
    have : j = 0 := by omega
    subst this
    show upd f 0 row 0 = upd g 0 row 0
    rw [pk_us, pk_us]
  | a + 1, f, g, h, j, hj => by
    simp only [insS]
    rw [← h a (by omega)]
    split
    · by_cases e : j = a + 1
      · rw [e, pk_us, pk_us]
      · rw [pk_un e, pk_un e, h j (by omega)]
    · by_cases e : j = a + 1
      · rw [e, insS_cov.insS_hi T a _ (a + 1) (by omega), insS_cov.insS_hi T a _ (a + 1) (by omega), pk_us, pk_us]
      · refine insS_c T a _ _ (fun q hq => ?_) j (by omega)
        rw [pk_un (by omega), pk_un (by omega), h q (by omega)]
/-- the reference's sorting: row by row -/
def sr (T old : Nat → Int32) : Nat → (Nat → Int32)
  | 0 => old
  | i + 1 => insS T (nI i) i (sr T old i)
theorem sr_hi (T old : Nat → Int32) : ∀ (i j : Nat), i ≤ j → sr T old i j = old j
  | 0, j, _ => rfl
  | i + 1, j, h => by
    show insS T (nI i) i (sr T old i) j = old j
    rw [insS_cov.insS_hi T i _ j (by omega), sr_hi T old i j (by omega)]
theorem sr_lo (T old : Nat → Int32) {n : Nat} : ∀ (i : Nat), i ≤ n → ∀ j, j < i → sr T old i j = srt T (mx n nI old) i j
  | 0, _, j, h => by omega
  | i + 1, hi, j, h => by
    show insS T (nI i) i (sr T old i) j = insS T (srt T (mx n nI old) i i) i (srt T (mx n nI old) i) j
    rw [srt_hi T _ i i (Nat.le_refl i), mx_lt (by omega)]
    exact insS_c T i _ _ (sr_lo T old i (by omega)) j (by omega)
theorem sr_tO (T old : Nat → Int32) (n : Nat) : sr T old n = tO T n old := by
  funext j
  by_cases h : j < n
  · exact sr_lo T old n (Nat.le_refl n) j h
  · rw [sr_hi T old n j (by omega)]
    show _ = srt T (mx n nI old) n j
    rw [srt_hi T _ n j (by omega), mx_ge (by omega)]
/-- the greatest time of earlier parts, after r rows -/
def gq (T Pl : Nat → Int32) : Nat → Nat → Int32
  | 0 => fun _ => -1
  | r + 1 => fun p => if (tn (Pl r) < p ∧ p < 4) ∧ gq T Pl r p < T r then T r else gq T Pl r p
def PM2 (T : Nat → Int32) (w : Nat → Nat) (W k n : Nat) (g : Int32) (o13 o12 : Nat → Int32) : Nat → Int32 :=
  mx n (fun r => if gq T (tPl T w W k n o13 o12) n (tn (tPl T w W k n o13 o12 r)) ≠ -1 ∧ T r < g + gq T (tPl T w W k n o13 o12) n (tn (tPl T w W k n o13 o12 r)) then -1 else tPl T w W k n o13 o12 r) (tPl T w W k n o13 o12)
def f_X7_byTimes := en_f (σ := (Nat → Nat) × Nat × Nat × Nat × Int32 × Sx) (fun x => [.ref 0, .int x.2.2.2.2.1]) (fun x => wM x.2.2.2.2.2) (fun x => wgm x.2.2.2.2.2 x.1 x.2.1 x.2.2.1 ∧ x.2.2.2.1 ≤ 100 ∧ x.2.2.2.2.2.1 0 = nI x.2.2.2.1) (fun x v w => v = none ∧ ∃ S', w = wM S' ∧ kpm x.2.2.2.2.2 S' ∧ S'.2.2.1 12 = PM2 (x.2.2.2.2.2.2.2.1 3) x.1 x.2.1 x.2.2.1 x.2.2.2.1 x.2.2.2.2.1 (x.2.2.2.2.2.2.2.1 13) (x.2.2.2.2.2.2.2.1 12))
def rm_X7_byTimes : Room := { frames := 2, cells := 0, slots := 0, locals := 47 }
def t_X7_byTimes : en_T := ((4, 0, 0), tb_X7_byTimes, fl_X7, cn_X7, [(107, 1, 9, 0, 0, f_X7_give)], [], 0, none)
set_option maxRecDepth 100000 in
theorem tB_X7_byTimes (D : va_G) (dT : Nat → Nat) (l : Launch) : en_TB en_WD D vwCl dT l rm_X7_byTimes t_X7_byTimes RX7 "byTimes" cX7_byTimes := ⟨tk_X7_byTimes, fun s args meth h hn => ⟨fo_X7 h args meth, co_X7 h args, List.forall_mem_cons.mpr ⟨mk_X7_give (own := RX7) h (Nat.le_of_ble_eq_true rfl) (Nat.le_of_ble_eq_true rfl) (Or.inl (en_wd h 882 (by decide +kernel) rfl args)), fun _ h => absurd h List.not_mem_nil⟩, fun _ h => absurd h List.not_mem_nil, Or.inl rfl, en_arr h args⟩⟩
set_option maxHeartbeats 4000000 in
set_option maxRecDepth 100000 in
theorem bd_X7_byTimes : en_B (σ := (Nat → Nat) × Nat × Nat × Nat × Int32 × Sx) t_X7_byTimes (fun x => [.ref 0, .int x.2.2.2.2.1]) (fun x => wM x.2.2.2.2.2) (fun x => wgm x.2.2.2.2.2 x.1 x.2.1 x.2.2.1 ∧ x.2.2.2.1 ≤ 100 ∧ x.2.2.2.2.2.1 0 = nI x.2.2.2.1) (fun x v w => v = none ∧ ∃ S', w = wM S' ∧ kpm x.2.2.2.2.2 S' ∧ S'.2.2.1 12 = PM2 (x.2.2.2.2.2.2.2.1 3) x.1 x.2.1 x.2.2.1 x.2.2.2.1 x.2.2.2.2.1 (x.2.2.2.2.2.2.2.1 13) (x.2.2.2.2.2.2.2.1 12)) := by
  rintro ⟨w, W, k, n, g, S⟩ ⟨hwg, hn, h1⟩ G hG OK ⟨run, sub⟩
  dsimp only at hwg hn h1 hG ⊢
  have hok : wok w W k := hwg.1
  have hk4 : k ≤ 4 := hok.2.1
  have hpi := tPl_in (T := S.2.2.1 3) (w := w) (W := W) (k := k) (o16 := S.2.2.1 13) (o15 := S.2.2.1 12) hok.1 hn
  have hvO := vld_mono (tO_v (T := S.2.2.1 3) hn (o16 := S.2.2.1 13)) hn
  have phase2 : OK 0 0 89 [(0, .ref 0), (1, .int g)] [] (wM (xi (xa S 13 (tO (S.2.2.1 3) n (S.2.2.1 13))) 5 (nI n))) := by
    unfold PM2 at hG
    have hPl : tPl (S.2.2.1 3) w W k n (S.2.2.1 13) (S.2.2.1 12) = jn (S.2.2.1 3) (tO (S.2.2.1 3) n (S.2.2.1 13)) (dl (tO (S.2.2.1 3) n (S.2.2.1 13)) (fun a => nI (pt (qf w W k n) a k)) (S.2.2.1 12) n) (n - 1) := rfl
    generalize tPl (S.2.2.1 3) w W k n (S.2.2.1 13) (S.2.2.1 12) = Pl at hpi hPl hG
    generalize tO (S.2.2.1 3) n (S.2.2.1 13) = O at hvO hPl ⊢
    refine run [95] 60 _ _ _ _ _ _ ?_
    conv => whnf
    refine ⟨(w, W, k, n, xi (xa S 13 O) 5 (nI n)), rfl, rfl, ⟨hwg, hn, rfl, hvO⟩, ?_⟩
    rintro v u ⟨hv0, q, rr, hu⟩
    obtain rfl : v = none := hv0
    obtain rfl : u = wM (xa (xa (xa (xi (xa S 13 O) 5 (nI n)) 10 q) 11 rr) 12 (dl O (fun a => nI (pt (qf w W k n) a k)) (S.2.2.1 12) n)) := hu
    generalize dl O (fun a => nI (pt (qf w W k n) a k)) (S.2.2.1 12) n = D0 at hPl ⊢
    have last : ∀ f : Nat → Int32, (∀ p, p < 4 → f p = gq (S.2.2.1 3) Pl n p) → ∀ i, i ≤ n → OK 0 0 254 [(0, .ref 0), (1, .int g), (2, .int (nI i))] [] (wM (xa (xa (xa (xi (xa S 13 O) 5 (nI n)) 10 f) 11 rr) 12 (mx i (fun r => if gq (S.2.2.1 3) Pl n (tn (Pl r)) ≠ -1 ∧ S.2.2.1 3 r < g + gq (S.2.2.1 3) Pl n (tn (Pl r)) then -1 else Pl r) Pl))) := by
      intro f hf
      generalize gq (S.2.2.1 3) Pl n = F at hf hG ⊢
      refine lp_up (fun i => OK 0 0 254 [(0, .ref 0), (1, .int g), (2, .int (nI i))] [] (wM (xa (xa (xa (xi (xa S 13 O) 5 (nI n)) 10 f) 11 rr) 12 (mx i (fun r => if F (tn (Pl r)) ≠ -1 ∧ S.2.2.1 3 r < g + F (tn (Pl r)) then -1 else Pl r) Pl)))) n ?_ ?_
      · refine run [254] 60 _ _ _ _ _ _ ?_
        conv => whnf
        refine pk_le n n (fun h => ?_) (fun h => absurd h (by omega)) h1
        conv => whnf
        exact hG _ _ ⟨rfl, _, rfl, kpm_tr (kpm_tr (kpm_tr (kpm_tr (kpm_a (by omega)) kpm_i) (kpm_a (by omega))) (kpm_a (by omega))) (kpm_a (by omega)), rfl⟩
      · intro i hi ih
        obtain ⟨c, hc, hci⟩ := hpi i hi
        have hm : mx i (fun r => if F (tn (Pl r)) ≠ -1 ∧ S.2.2.1 3 r < g + F (tn (Pl r)) then -1 else Pl r) Pl i = nI c := by rw [mx_ge (Nat.le_refl i), hci]
        rw [nI_succ, ← mx_s] at ih
        have hkeep := upd_id (mx i (fun r => if F (tn (Pl r)) ≠ -1 ∧ S.2.2.1 3 r < g + F (tn (Pl r)) then -1 else Pl r) Pl) i
        rw [hm] at hkeep
        rw [hci, show tn (nI c) = c from nI_clamp (by omega), ← hf c (by omega)] at ih
        generalize mx i (fun r => if F (tn (Pl r)) ≠ -1 ∧ S.2.2.1 3 r < g + F (tn (Pl r)) then -1 else Pl r) Pl = D at hm hkeep ih ⊢
        have hin : vp_in (D i) 4 := by rw [hm]; exact vp_in_nI (by omega) (by decide)
        have hDi : (D i).toNatClampNeg = c := by rw [hm]; exact nI_clamp (by omega)
        refine run [254] 60 _ _ _ _ _ _ ?_
        conv => whnf
        refine pk_le n i (fun h => absurd h (by omega)) (fun h => ?_) h1
        conv => whnf
        refine ⟨vp_in_nI (by omega) (by decide), ?_⟩
        rw [nI_clamp (by omega)]
        conv => whnf
        refine ⟨hin, ?_⟩
        conv => whnf
        refine ⟨fun hc1 => ?_, fun hc1 => ?_⟩
        · have hc1 : f (D i).toNatClampNeg = -1 := hc1
          rw [hDi] at hc1
          rw [if_neg (fun z => z.1 hc1), hkeep] at ih
          conv => whnf
          exact ih
        · have hc1 : ¬ f (D i).toNatClampNeg = -1 := hc1
          rw [hDi] at hc1
          conv => whnf
          refine ⟨vp_in_nI (by omega) (by decide), ?_⟩
          rw [nI_clamp (by omega)]
          conv => whnf
          refine ⟨vp_in_nI (by omega) (by decide), ?_⟩
          rw [nI_clamp (by omega)]
          conv => whnf
          refine ⟨hin, ?_⟩
          conv => whnf
          refine ⟨fun hc2 => ?_, fun hc2 => ?_⟩
          · have hc2 : g + f (D i).toNatClampNeg ≤ S.2.2.1 3 i := hc2
            rw [hDi] at hc2
            rw [if_neg (fun z => absurd z.2 (Int32.not_lt.mpr hc2)), hkeep] at ih
            conv => whnf
            exact ih
          · have hc2 : ¬ g + f (D i).toNatClampNeg ≤ S.2.2.1 3 i := hc2
            rw [hDi] at hc2
            rw [if_pos ⟨hc1, Int32.not_le.mp hc2⟩] at ih
            conv => whnf
            refine ⟨vp_in_nI (by omega) (by decide), ?_⟩
            rw [nI_clamp (by omega)]
            conv => whnf
            exact ih
    have great : ∀ i, i ≤ n → ∀ f : Nat → Int32, (∀ p, p < 4 → f p = gq (S.2.2.1 3) Pl i p) → OK 0 0 182 [(0, .ref 0), (1, .int g), (2, .int (nI i))] [] (wM (xa (xa (xa (xi (xa S 13 O) 5 (nI n)) 10 f) 11 rr) 12 Pl)) := by
      refine lp_up (fun i => ∀ f : Nat → Int32, (∀ p, p < 4 → f p = gq (S.2.2.1 3) Pl i p) → OK 0 0 182 [(0, .ref 0), (1, .int g), (2, .int (nI i))] [] (wM (xa (xa (xa (xi (xa S 13 O) 5 (nI n)) 10 f) 11 rr) 12 Pl))) n ?_ ?_
      · intro f hf
        have h0 := last f hf 0 (by omega)
        rw [mx_0] at h0
        refine run [182, 254] 60 _ _ _ _ _ _ ?_
        conv => whnf
        refine pk_le n n (fun h => ?_) (fun h => absurd h (by omega)) h1
        conv => whnf
        exact h0
      · intro i hi ih f hf
        obtain ⟨c, hc, hci⟩ := hpi i hi
        have ih : ∀ f : Nat → Int32, (∀ p, p < 4 → f p = if (tn (Pl i) < p ∧ p < 4) ∧ gq (S.2.2.1 3) Pl i p < S.2.2.1 3 i then S.2.2.1 3 i else gq (S.2.2.1 3) Pl i p) → OK 0 0 182 [(0, .ref 0), (1, .int g), (2, .int (nI (i + 1)))] [] (wM (xa (xa (xa (xi (xa S 13 O) 5 (nI n)) 10 f) 11 rr) 12 Pl)) := ih
        rw [hci, show tn (nI c) = c from nI_clamp (by omega), nI_succ] at ih
        generalize gq (S.2.2.1 3) Pl i = F at hf ih
        have inner := lp_up (fun p => c + 1 ≤ p → OK 0 0 199 [(0, .ref 0), (1, .int g), (2, .int (nI i)), (3, .int (nI p))] [] (wM (xa (xa (xa (xi (xa S 13 O) 5 (nI n)) 10 (fun j => if (c < j ∧ j < p) ∧ f j < S.2.2.1 3 i then S.2.2.1 3 i else f j)) 11 rr) 12 Pl))) 4
          (fun _ => by
            have hih := ih (fun j => if (c < j ∧ j < 4) ∧ f j < S.2.2.1 3 i then S.2.2.1 3 i else f j) (fun p hp => by rw [hf p hp])
            refine run [182, 199] 60 _ _ _ _ _ _ ?_
            conv => whnf
            refine pk_le 4 4 (fun h => ?_) (fun h => absurd h (by omega))
            conv => whnf
            exact sub [0, 1, 2] _ _ _ _ _ _ _ rfl hih)
          (fun p hp ihp hcp => by
            have ihp := ihp (by omega)
            rw [nI_succ] at ihp
            have e : (fun j => if (c < j ∧ j < p + 1) ∧ f j < S.2.2.1 3 i then S.2.2.1 3 i else f j) = upd (fun j => if (c < j ∧ j < p) ∧ f j < S.2.2.1 3 i then S.2.2.1 3 i else f j) p (if f p < S.2.2.1 3 i then S.2.2.1 3 i else f p) := by
              funext j
              by_cases e : j = p
              · subst e
                rw [pk_us]
                by_cases h : f j < S.2.2.1 3 i
                · rw [if_pos ⟨⟨by omega, by omega⟩, h⟩, if_pos h]
                · rw [if_neg (fun z => h z.2), if_neg h]
              · rw [pk_un e]
                by_cases h : (c < j ∧ j < p) ∧ f j < S.2.2.1 3 i
                · rw [if_pos ⟨⟨h.1.1, by omega⟩, h.2⟩, if_pos h]
                · rw [if_neg (fun z => h ⟨⟨z.1.1, by omega⟩, z.2⟩), if_neg h]
            have hfp : (fun j => if (c < j ∧ j < p) ∧ f j < S.2.2.1 3 i then S.2.2.1 3 i else f j) p = f p := if_neg (fun z => by omega)
            rw [e] at ihp
            generalize (fun j => if (c < j ∧ j < p) ∧ f j < S.2.2.1 3 i then S.2.2.1 3 i else f j) = Fp at hfp ihp ⊢
            rw [← hfp] at ihp
            refine run [182, 199] 60 _ _ _ _ _ _ ?_
            conv => whnf
            refine pk_le 4 p (fun h => absurd h (by omega)) (fun h => ?_)
            conv => whnf
            refine ⟨vp_in_nI (by omega) (by decide), ?_⟩
            rw [nI_clamp (by omega)]
            conv => whnf
            refine ⟨vp_in_nI (by omega) (by decide), ?_⟩
            rw [nI_clamp (by omega)]
            conv => whnf
            refine ⟨fun hl => ?_, fun hl => ?_⟩
            · have hl : S.2.2.1 3 i ≤ Fp p := hl
              rw [if_neg (Int32.not_lt.mpr hl)] at ihp
              conv => whnf
              refine ⟨vp_in_nI (by omega) (by decide), ?_⟩
              rw [nI_clamp (by omega)]
              conv => whnf
              refine ⟨vp_in_nI (by omega) (by decide), ?_⟩
              rw [nI_clamp (by omega)]
              conv => whnf
              exact ihp
            · have hl : ¬ S.2.2.1 3 i ≤ Fp p := hl
              rw [if_pos (Int32.not_le.mp hl)] at ihp
              conv => whnf
              refine ⟨vp_in_nI (by omega) (by decide), ?_⟩
              rw [nI_clamp (by omega)]
              conv => whnf
              refine ⟨vp_in_nI (by omega) (by decide), ?_⟩
              rw [nI_clamp (by omega)]
              conv => whnf
              exact ihp)
        have h0 := inner (c + 1) (by omega) (Nat.le_refl _)
        rw [show (fun j => if (c < j ∧ j < c + 1) ∧ f j < S.2.2.1 3 i then S.2.2.1 3 i else f j) = f from by funext j; exact if_neg (fun z => by omega), nI_succ c, ← hci] at h0
        refine run [182, 199] 60 _ _ _ _ _ _ ?_
        conv => whnf
        refine pk_le n i (fun h => absurd h (by omega)) (fun h => ?_) h1
        conv => whnf
        refine ⟨vp_in_nI (by omega) (by decide), ?_⟩
        rw [nI_clamp (by omega)]
        conv => whnf
        exact h0
    have clear := lp_up (fun p => OK 0 0 162 [(0, .ref 0), (1, .int g), (2, .int (nI p))] [] (wM (xa (xa (xa (xi (xa S 13 O) 5 (nI n)) 10 (mx p (fun _ => -1) q)) 11 rr) 12 Pl))) 4
      (by
        have h0 := great 0 (by omega) (mx 4 (fun _ => -1) q) (fun p hp => mx_lt hp)
        refine run [162, 182] 60 _ _ _ _ _ _ ?_
        conv => whnf
        refine pk_le 4 4 (fun h => ?_) (fun h => absurd h (by omega))
        conv => whnf
        exact h0)
      (fun p hp ih => by
        rw [nI_succ, ← mx_s] at ih
        refine run [162, 182] 60 _ _ _ _ _ _ ?_
        conv => whnf
        refine pk_le 4 p (fun h => absurd h (by omega)) (fun h => ?_)
        conv => whnf
        refine ⟨vp_in_nI (by omega) (by decide), ?_⟩
        rw [nI_clamp (by omega)]
        conv => whnf
        exact ih)
    have h160 := clear 0 (by omega)
    rw [mx_0, hPl] at h160
    have loop := lp_up (fun i => 1 ≤ i → OK 0 0 95 [(0, .ref 0), (1, .int g), (2, .int (nI i))] [] (wM (xa (xa (xa (xi (xa S 13 O) 5 (nI n)) 10 q) 11 rr) 12 (jn (S.2.2.1 3) O D0 (i - 1))))) n
      (fun _ => by
        refine run [95, 162] 60 _ _ _ _ _ _ ?_
        conv => whnf
        refine pk_le n n (fun h => ?_) (fun h => absurd h (by omega))
        conv => whnf
        exact h160)
      (fun i hi ih hi1 => by
        obtain ⟨j, rfl⟩ : ∃ j, i = j + 1 := ⟨i - 1, by omega⟩
        have ih : OK 0 0 95 [(0, .ref 0), (1, .int g), (2, .int (nI (j + 1 + 1)))] [] (wM (xa (xa (xa (xi (xa S 13 O) 5 (nI n)) 10 q) 11 rr) 12 (jn (S.2.2.1 3) O D0 (j + 1)))) := ih (by omega)
        show OK 0 0 95 [(0, .ref 0), (1, .int g), (2, .int (nI (j + 1)))] [] (wM (xa (xa (xa (xi (xa S 13 O) 5 (nI n)) 10 q) 11 rr) 12 (jn (S.2.2.1 3) O D0 j)))
        rw [nI_succ (j + 1)] at ih
        simp only [jn] at ih
        generalize jn (S.2.2.1 3) O D0 j = J at ih ⊢
        refine run [95] 60 _ _ _ _ _ _ ?_
        conv => whnf
        refine pk_le n (j + 1) (fun h => absurd h (by omega)) (fun h => ?_)
        conv => whnf
        refine ⟨vp_in_nI (by omega) (by decide), ?_⟩
        rw [nI_clamp (by omega)]
        conv => whnf
        refine ⟨vld_in hvO (by omega) (by decide), ?_⟩
        conv => whnf
        rw [show nI (j + 1) - Int32.ofInt 1 = nI j from nI_pred j]
        refine ⟨vp_in_nI (by omega) (by decide), ?_⟩
        rw [nI_clamp (by omega)]
        conv => whnf
        refine ⟨vld_in hvO (by omega) (by decide), ?_⟩
        conv => whnf
        refine ⟨fun hc => ?_, fun hc => ?_⟩
        · have hc : ¬ S.2.2.1 3 (tn (O (j + 1))) = S.2.2.1 3 (tn (O j)) := hc
          conv => whnf
          rw [if_neg hc] at ih
          exact ih
        · have hc : S.2.2.1 3 (tn (O (j + 1))) = S.2.2.1 3 (tn (O j)) := hc
          conv => whnf
          refine ⟨vp_in_nI (by omega) (by decide), ?_⟩
          rw [nI_clamp (by omega)]
          conv => whnf
          rw [show nI (j + 1) - Int32.ofInt 1 = nI j from nI_pred j]
          refine ⟨vp_in_nI (by omega) (by decide), ?_⟩
          rw [nI_clamp (by omega)]
          conv => whnf
          refine ⟨vld_in hvO (by omega) (by decide), ?_⟩
          conv => whnf
          refine ⟨vld_in hvO (by omega) (by decide), ?_⟩
          conv => whnf
          rw [if_pos hc] at ih
          exact ih)
    by_cases h0 : n = 0
    · subst h0
      conv => whnf
      show OK 0 0 95 [(0, .ref 0), (1, .int g), (2, .int 1)] [] (wM (xa (xa (xa (xi (xa S 13 O) 5 (nI 0)) 10 q) 11 rr) 12 D0))
      refine run [162] 60 _ _ _ _ _ _ ?_
      conv => whnf
      refine pk_le 0 1 (fun _ => ?_) (fun h => absurd h (by omega))
      conv => whnf
      exact h160
    · conv => whnf
      exact loop 1 (by omega) (Nat.le_refl 1)
  rw [← sr_tO] at phase2
  have hvr : ∀ i, i ≤ n → vld (sr (S.2.2.1 3) (S.2.2.1 13) i) i 100 := fun i hi j hj => by
    rw [sr_lo (S.2.2.1 3) (S.2.2.1 13) (n := n) i hi j hj]
    exact vld_mono (srt_v (S.2.2.1 3) (mx_v (Nat.le_refl n)) i hi) hn j (by omega)
  have inner : ∀ (i : Nat), i < n → ∀ (a : Nat) (f : Nat → Int32), a ≤ i → vld f a 100 → OK 0 0 7 [(0, .ref 0), (1, .int g), (2, .int (nI (i + 1)))] [] (wM (xi (xa S 13 (insS (S.2.2.1 3) (nI i) a f)) 5 (nI (i + 1)))) → OK 0 0 20 [(0, .ref 0), (1, .int g), (2, .int (nI i)), (3, .int (nI a))] [] (wM (xi (xa S 13 f) 5 (nI i))) := by
    intro i hi a
    induction a with
    | zero =>
      intro f ha hf hN
      rw [nI_succ] at hN
      refine run [7, 20] 60 _ _ _ _ _ _ ?_
      conv => whnf
      refine pk_le 0 0 (fun _ => ?_) (fun h => absurd h (by omega))
      conv => whnf
      refine ⟨vp_in_nI (n := 0) (by omega) (by decide), ?_⟩
      conv => whnf
      exact sub [0, 1, 2] _ _ _ _ _ _ _ rfl hN
    | succ a ih =>
      intro f ha hf hN
      refine run [7, 20] 60 _ _ _ _ _ _ ?_
      conv => whnf
      refine pk_le (a + 1) 0 (fun h => absurd h (by omega)) (fun _ => ?_)
      conv => whnf
      rw [show nI (a + 1) - Int32.ofInt 1 = nI a from nI_pred a]
      refine ⟨vp_in_nI (by omega) (by decide), ?_⟩
      rw [nI_clamp (by omega)]
      conv => whnf
      refine ⟨vld_in hf (by omega) (by decide), ?_⟩
      conv => whnf
      refine ⟨vp_in_nI (by omega) (by decide), ?_⟩
      rw [nI_clamp (by omega)]
      conv => whnf
      simp only [insS] at hN
      rw [show tn (nI i) = i from nI_clamp (by omega)] at hN
      refine ⟨fun hc => ?_, fun hc => ?_⟩
      · have hc : S.2.2.1 3 (tn (f a)) ≤ S.2.2.1 3 i := hc
        conv => whnf
        refine ⟨vp_in_nI (by omega) (by decide), ?_⟩
        rw [nI_clamp (by omega)]
        conv => whnf
        rw [if_pos hc, nI_succ i] at hN
        exact sub [0, 1, 2] _ _ _ _ _ _ _ rfl hN
      · have hc : ¬ S.2.2.1 3 (tn (f a)) ≤ S.2.2.1 3 i := hc
        conv => whnf
        rw [show nI (a + 1) - Int32.ofInt 1 = nI a from nI_pred a]
        refine ⟨vp_in_nI (by omega) (by decide), ?_⟩
        rw [nI_clamp (by omega)]
        conv => whnf
        refine ⟨vp_in_nI (by omega) (by decide), ?_⟩
        rw [nI_clamp (by omega)]
        conv => whnf
        rw [if_neg hc] at hN
        have h2 := ih (upd f (a + 1) (f a)) (by omega) (fun j hj => by rw [pk_un (by omega)]; exact hf j (by omega)) hN
        rw [← pk_m1 a] at h2
        exact sub [0, 1, 2, 3] _ _ _ _ _ _ _ rfl h2
  have loop := lp_up (fun i => OK 0 0 7 [(0, .ref 0), (1, .int g), (2, .int (nI i))] [] (wM (xi (xa S 13 (sr (S.2.2.1 3) (S.2.2.1 13) i)) 5 (nI i)))) n
    (by
      generalize sr (S.2.2.1 3) (S.2.2.1 13) n = O at phase2 ⊢
      refine run [7, 89] 60 _ _ _ _ _ _ ?_
      conv => whnf
      refine pk_le n n (fun h => ?_) (fun h => absurd h (by omega)) h1
      conv => whnf
      exact sub [0, 1] _ _ _ _ _ _ _ rfl phase2)
    (fun i hi ih => by
      have hN := inner i hi i (sr (S.2.2.1 3) (S.2.2.1 13) i) (Nat.le_refl _) (hvr i (by omega)) ih
      generalize sr (S.2.2.1 3) (S.2.2.1 13) i = f at hN ⊢
      refine run [7, 20] 60 _ _ _ _ _ _ ?_
      conv => whnf
      refine pk_le n i (fun h => absurd h (by omega)) (fun h => ?_) h1
      conv => whnf
      exact hN)
  refine run [7] 60 _ _ _ _ _ _ ?_
  conv => whnf
  exact loop 0 (by omega)
theorem ct_X7_byTimes (D : va_G) (dT : Nat → Nat) (l : Launch) : en_CT en_WD D vwCl dT l yX7_byTimes cX7_byTimes 4 (none) rm_X7_byTimes f_X7_byTimes := en_met en_WD1 en_WD2 (by decide) rfl rfl (tB_X7_byTimes D dT l) (en_f_ln (fun _ => Nat.le_of_ble_eq_true rfl)) (en_f_bd bd_X7_byTimes)
set_option maxRecDepth 100000 in
theorem mk_X7_byTimes {D : va_G} {dT : Nat → Nat} {l : Launch} {R : Room} {s : State} {args : Array Value} {own : String} {idx : Nat} (h : en_WD s) (h1 : rm_X7_byTimes.frames + 1 ≤ R.frames) (h2 : 8 + (4 + 11) + rm_X7_byTimes.locals ≤ R.locals) (hl : (Jvm.Cond.methodLink own idx yX7_byTimes).before args s = true ∨ ∃ host, (Jvm.Cond.methodLinkNest own idx yX7_byTimes host).before args s = true) : en_mok en_WD D vwCl dT l R s args own (idx, 2, 9, 0, 0, f_X7_byTimes) :=
  ⟨yX7_byTimes, cX7_byTimes, 4, none, rm_X7_byTimes, 1, ct_X7_byTimes D dT l, rfl, rfl, h1, h2, en_wd h 893 rfl rfl args, en_wd h 66 (by decide +kernel) rfl args, by decide, by decide, hl, ⟨RX7, TX7, 24, rfl, en_wd h 892 (by decide +kernel) rfl args, en_wd h 43 (by decide +kernel) rfl args, rfl⟩⟩
