/-! the reference: steps, digests, meets, told -/
theorem chn_m1 {By Ft : Nat → Int32} {r : Nat} : ∀ f, chn By Ft r f (-1) = false
  | 0 => rfl
  | f + 1 => rfl
theorem nI_ne {j : Nat} (hj : j < 2 ^ 31) : ¬ nI j = -1 := fun e => absurd (show nI j < 0 by rw [e]; decide) (nI_pos hj)
/-- enough fuel is enough -/
theorem chn_more {By Ft : Nat → Int32} {r : Nat} (hby : byok By) : ∀ (j : Nat), j < 8 → ∀ f, j < f → chn By Ft r f (nI j) = chn By Ft r (j + 1) (nI j) := by
  intro j
  induction j using Nat.strongRecOn with
  | ind j ih =>
    intro hj f hf
    obtain ⟨g, rfl⟩ : ∃ g, f = g + 1 := ⟨f - 1, by omega⟩
    rw [chn_s (by omega) (nI_ne (by omega)), chn_s (by omega) (nI_ne (by omega))]
    congr 1
    rcases hby j hj with h | ⟨q, hq, h⟩
    · rw [h, chn_m1, chn_m1]
    · rw [h, ih q hq (by omega) g (by omega), ih q hq (by omega) j (by omega)]
def f_X7_steps := en_f (σ := Nat × Int32 × Sx) (fun x => [.ref 0, .int x.2.1]) (fun x => wM x.2.2) (fun x => x.1 ≤ 100 ∧ x.2.2.1 0 = nI x.1 ∧ byok (x.2.2.2.2.1 9)) (fun x v w => v = none ∧ w = wM (xf x.2.2 (tks x.2.1 (s3 x.2.2) (Lfit (x.2.2.2.2.1 9) (x.2.2.2.2.1 8) (x.2.2.2.2.1 6) x.1))))
def rm_X7_steps : Room := { frames := 1, cells := 0, slots := 0, locals := 23 }
def t_X7_steps : en_T := ((6, 0, 0), tb_X7_steps, fl_X7, cn_X7, [(157, 4, 9, 0, 0, f_X7_tell)], [], 0, none)
set_option maxRecDepth 100000 in
theorem tB_X7_steps (D : va_G) (dT : Nat → Nat) (l : Launch) : en_TB en_WD D vwCl dT l rm_X7_steps t_X7_steps RX7 "steps" cX7_steps := ⟨tk_X7_steps, fun s args meth h hn => ⟨fo_X7 h args meth, co_X7 h args, List.forall_mem_cons.mpr ⟨mk_X7_tell (own := RX7) h (Nat.le_of_ble_eq_true rfl) (Nat.le_of_ble_eq_true rfl) (Or.inl (en_wd h 971 (by decide +kernel) rfl args)), fun _ h => absurd h List.not_mem_nil⟩, fun _ h => absurd h List.not_mem_nil, Or.inl rfl, en_arr h args⟩⟩
set_option maxHeartbeats 4000000 in
set_option maxRecDepth 100000 in
theorem bd_X7_steps : en_B (σ := Nat × Int32 × Sx) t_X7_steps (fun x => [.ref 0, .int x.2.1]) (fun x => wM x.2.2) (fun x => x.1 ≤ 100 ∧ x.2.2.1 0 = nI x.1 ∧ byok (x.2.2.2.2.1 9)) (fun x v w => v = none ∧ w = wM (xf x.2.2 (tks x.2.1 (s3 x.2.2) (Lfit (x.2.2.2.2.1 9) (x.2.2.2.2.1 8) (x.2.2.2.2.1 6) x.1)))) := by
  rintro ⟨n, wt, S⟩ ⟨hn, h1, hby⟩ G hG OK ⟨run, sub⟩
  dsimp only at hn h1 hby hG ⊢
  unfold Lfit at hG
  have walk : ∀ (s r : Nat) (Y : Int32 × Int32 × Int32), s < 8 → r < n → ∀ (j : Nat), j < 8 → ∀ (acc : Bool), OK 0 0 69 [(0, .ref 0), (1, .int wt), (2, .int (nI s)), (3, .int (nI r)), (4, .int (bl ((acc || chn (S.2.2.1 9) (S.2.2.1 8) r (j + 1) (nI j)) = true)))] [] (wM (xf S Y)) → OK 0 0 24 [(0, .ref 0), (1, .int wt), (2, .int (nI s)), (3, .int (nI r)), (4, .int (bl (acc = true))), (5, .int (nI j))] [] (wM (xf S Y)) := by
    intro s r Y hs hr j
    induction j using Nat.strongRecOn with
    | ind j ih =>
      intro hj acc hE
      rw [chn_s (by omega) (nI_ne (by omega))] at hE
      have hne : ¬ nI j = -1 := nI_ne (by omega)
      have step : ∀ acc2 : Bool, (acc2 = (acc || decide (S.2.2.1 8 (j * 100 + r) ≠ 0))) → OK 0 0 57 [(0, .ref 0), (1, .int wt), (2, .int (nI s)), (3, .int (nI r)), (4, .int (bl (acc2 = true))), (5, .int (nI j))] [] (wM (xf S Y)) := by
        intro acc2 ha2
        rw [← Bool.or_assoc, ← ha2] at hE
        refine run [24] 60 _ _ _ _ _ _ ?_
        conv => whnf
        refine ⟨vp_in_nI (by omega) (by decide), ?_⟩
        rw [nI_clamp (by omega)]
        rcases hby j hj with h | ⟨q, hq, h⟩
        · rw [h, chn_m1, Bool.or_false] at hE
          conv => whnf
          refine Eq.mp ?_ (show OK 0 0 24 [(0, .ref 0), (1, .int wt), (2, .int (nI s)), (3, .int (nI r)), (4, .int (bl (acc2 = true))), (5, .int (-1))] [] (wM (xf S Y)) from ?_)
          · rw [← h]; rfl
          · refine run [69] 60 _ _ _ _ _ _ ?_
            conv => whnf
            refine ⟨fun _ => ?_, fun z => absurd rfl z⟩
            conv => whnf
            exact sub [0, 1, 2, 3, 4] _ _ _ _ _ _ _ rfl hE
        · rw [h, chn_more hby q (by omega) j hq] at hE
          have h2 := ih q hq (by omega) acc2 hE
          conv => whnf
          refine Eq.mp ?_ h2
          rw [← h]; rfl
      refine run [57] 60 _ _ _ _ _ _ ?_
      conv => whnf
      refine ⟨fun z => absurd z hne, fun _ => ?_⟩
      conv => whnf
      refine bl_br2 (fun ha => ?_) (fun ha => ?_)
      · have h2 := step true (by rw [ha]; rfl)
        conv => whnf
        exact h2
      · have ha : acc = false := by simpa using ha
        conv => whnf
        rw [mul100']
        refine ⟨vp_in_nI (by omega) (by decide), ?_⟩
        rw [nI_clamp (by omega)]
        conv => whnf
        refine ⟨fun hc => ?_, fun hc => ?_⟩
        · have hc : S.2.2.1 8 (j * 100 + r) = 0 := hc
          have h2 := step false (by rw [ha]; simp [hc])
          conv => whnf
          exact h2
        · have hc : ¬ S.2.2.1 8 (j * 100 + r) = 0 := hc
          have h2 := step true (by rw [ha]; simp [hc])
          conv => whnf
          exact h2
  have outer := lp_up (fun s => OK 0 0 2 [(0, .ref 0), (1, .int wt), (2, .int (nI s))] [] (wM (xf S (tks wt (s3 S) (lsn (fun s => lsn (fun r => ifl (0 < S.2.2.1 6 r ∧ chn (S.2.2.1 9) (S.2.2.1 8) r 8 (nI s) = true) (nI s) (nI r)) n) s))))) 8
    (by
      generalize tks wt (s3 S) (lsn (fun s => lsn (fun r => ifl (0 < S.2.2.1 6 r ∧ chn (S.2.2.1 9) (S.2.2.1 8) r 8 (nI s) = true) (nI s) (nI r)) n) 8) = Y at hG ⊢
      refine run [2] 60 _ _ _ _ _ _ ?_
      conv => whnf
      refine pk_le 8 8 (fun h => ?_) (fun h => absurd h (by omega))
      conv => whnf
      exact hG _ _ ⟨rfl, rfl⟩)
    (fun s hs ih => by
      simp only [lsn] at ih
      rw [tks_app, nI_succ] at ih
      generalize tks wt (s3 S) (lsn (fun s => lsn (fun r => ifl (0 < S.2.2.1 6 r ∧ chn (S.2.2.1 9) (S.2.2.1 8) r 8 (nI s) = true) (nI s) (nI r)) n) s) = Y at ih ⊢
      have inner := lp_up (fun r => OK 0 0 10 [(0, .ref 0), (1, .int wt), (2, .int (nI s)), (3, .int (nI r))] [] (wM (xf S (tks wt Y (lsn (fun r => ifl (0 < S.2.2.1 6 r ∧ chn (S.2.2.1 9) (S.2.2.1 8) r 8 (nI s) = true) (nI s) (nI r)) r))))) n
        (by
          generalize tks wt Y (lsn (fun r => ifl (0 < S.2.2.1 6 r ∧ chn (S.2.2.1 9) (S.2.2.1 8) r 8 (nI s) = true) (nI s) (nI r)) n) = X at ih ⊢
          refine run [2, 10] 60 _ _ _ _ _ _ ?_
          conv => whnf
          refine pk_le n n (fun h => ?_) (fun h => absurd h (by omega)) h1
          conv => whnf
          exact sub [0, 1, 2] _ _ _ _ _ _ _ rfl ih)
        (fun r hr ihr => by
          simp only [lsn] at ihr
          rw [tks_app, nI_succ] at ihr
          generalize tks wt Y (lsn (fun r => ifl (0 < S.2.2.1 6 r ∧ chn (S.2.2.1 9) (S.2.2.1 8) r 8 (nI s) = true) (nI s) (nI r)) r) = X at ihr ⊢
          rw [chn_more hby s hs 8 hs] at ihr
          have h69 : OK 0 0 69 [(0, .ref 0), (1, .int wt), (2, .int (nI s)), (3, .int (nI r)), (4, .int (bl ((false || chn (S.2.2.1 9) (S.2.2.1 8) r (s + 1) (nI s)) = true)))] [] (wM (xf S X)) := by
            rw [Bool.false_or]
            generalize chn (S.2.2.1 9) (S.2.2.1 8) r (s + 1) (nI s) = C at ihr ⊢
            refine run [10] 60 _ _ _ _ _ _ ?_
            conv => whnf
            refine bl_br (fun hc => ?_) (fun hc => ?_)
            · rw [ifl_f (fun z => hc z.2), tks_0] at ihr
              conv => whnf
              exact sub [0, 1, 2, 3] _ _ _ _ _ _ _ rfl ihr
            · conv => whnf
              refine ⟨vp_in_nI (by omega) (by decide), ?_⟩
              rw [nI_clamp (by omega)]
              conv => whnf
              refine ⟨fun hp => ?_, fun hp => ?_⟩
              · have hp : S.2.2.1 6 r ≤ 0 := hp
                rw [ifl_f (fun z => absurd z.1 (Int32.not_lt.mpr hp)), tks_0] at ihr
                conv => whnf
                exact sub [0, 1, 2, 3] _ _ _ _ _ _ _ rfl ihr
              · have hp : ¬ S.2.2.1 6 r ≤ 0 := hp
                rw [ifl_t ⟨Int32.not_le.mp hp, hc⟩, tks_1] at ihr
                conv => whnf
                refine ⟨(wt, nI s, nI r, xf S X), rfl, rfl, trivial, ?_⟩
                rintro _ _ ⟨rfl, rfl⟩
                conv => whnf
                exact sub [0, 1, 2, 3] _ _ _ _ _ _ _ rfl ihr
          have h24 := walk s r X hs hr s hs false h69
          refine run [2, 10, 24] 60 _ _ _ _ _ _ ?_
          conv => whnf
          refine pk_le n r (fun h => absurd h (by omega)) (fun h => ?_) h1
          conv => whnf
          exact h24)
      refine run [2, 10] 60 _ _ _ _ _ _ ?_
      conv => whnf
      refine pk_le 8 s (fun h => absurd h (by omega)) (fun h => ?_)
      conv => whnf
      exact inner 0 (by omega))
  refine run [2] 60 _ _ _ _ _ _ ?_
  conv => whnf
  exact outer 0 (by omega)
theorem ct_X7_steps (D : va_G) (dT : Nat → Nat) (l : Launch) : en_CT en_WD D vwCl dT l yX7_steps cX7_steps 6 (none) rm_X7_steps f_X7_steps := en_met en_WD1 en_WD2 (by decide) rfl rfl (tB_X7_steps D dT l) (en_f_ln (fun _ => Nat.le_of_ble_eq_true rfl)) (en_f_bd bd_X7_steps)
set_option maxRecDepth 100000 in
theorem mk_X7_steps {D : va_G} {dT : Nat → Nat} {l : Launch} {R : Room} {s : State} {args : Array Value} {own : String} {idx : Nat} (h : en_WD s) (h1 : rm_X7_steps.frames + 1 ≤ R.frames) (h2 : 8 + (6 + 11) + rm_X7_steps.locals ≤ R.locals) (hl : (Jvm.Cond.methodLink own idx yX7_steps).before args s = true ∨ ∃ host, (Jvm.Cond.methodLinkNest own idx yX7_steps host).before args s = true) : en_mok en_WD D vwCl dT l R s args own (idx, 2, 9, 0, 0, f_X7_steps) :=
  ⟨yX7_steps, cX7_steps, 6, none, rm_X7_steps, 1, ct_X7_steps D dT l, rfl, rfl, h1, h2, en_wd h 990 rfl rfl args, en_wd h 66 (by decide +kernel) rfl args, by decide, by decide, hl, ⟨RX7, TX7, 24, rfl, en_wd h 989 (by decide +kernel) rfl args, en_wd h 56 (by decide +kernel) rfl args, rfl⟩⟩
def f_X7_digest := en_f (σ := Nat × Sx) (fun x => [.ref 0, .int (nI x.1)]) (fun x => wM x.2) (fun x => x.1 < 100) (fun x v w => v = some (.int (dig (x.2.2.2.2 4) (x.2.2.2.2 5) x.1)) ∧ w = wM x.2)
def rm_X7_digest : Room := { frames := 0, cells := 0, slots := 0, locals := 0 }
def t_X7_digest : en_T := ((5, 0, 0), tb_X7_digest, fl_X7, cn_X7, [], [], 0, some .int)
set_option maxRecDepth 100000 in
theorem tB_X7_digest (D : va_G) (dT : Nat → Nat) (l : Launch) : en_TB en_WD D vwCl dT l rm_X7_digest t_X7_digest RX7 "digest" cX7_digest := ⟨tk_X7_digest, fun s args meth h hn => ⟨fo_X7 h args meth, co_X7 h args, fun _ h => absurd h List.not_mem_nil, fun _ h => absurd h List.not_mem_nil, Or.inl rfl, en_arr h args⟩⟩
set_option maxHeartbeats 4000000 in
set_option maxRecDepth 100000 in
theorem bd_X7_digest : en_B (σ := Nat × Sx) t_X7_digest (fun x => [.ref 0, .int (nI x.1)]) (fun x => wM x.2) (fun x => x.1 < 100) (fun x v w => v = some (.int (dig (x.2.2.2.2 4) (x.2.2.2.2 5) x.1)) ∧ w = wM x.2) := by
  rintro ⟨a, S⟩ ha G hG OK ⟨run, sub⟩
  dsimp only at ha hG ⊢
  have loop := lp_up (fun i => OK 0 0 7 [(0, .ref 0), (1, .int (nI a)), (2, .long (dh (S.2.2.2 4) a i)), (4, .int (nI i))] [] (wM S)) 3
    (by
      refine run [7] 60 _ _ _ _ _ _ ?_
      conv => whnf
      refine pk_le 3 3 (fun h => ?_) (fun h => absurd h (by omega))
      conv => whnf
      refine ⟨vp_in_nI ha (by decide), ?_⟩
      rw [nI_clamp (by omega)]
      conv => whnf
      exact hG _ _ ⟨rfl, rfl⟩)
    (fun i hi ih => by
      refine run [7] 60 _ _ _ _ _ _ ?_
      conv => whnf
      refine pk_le 3 i (fun h => absurd h (by omega)) (fun h => ?_)
      conv => whnf
      rw [mul3']
      refine ⟨vp_in_nI (by omega) (by decide), ?_⟩
      rw [nI_clamp (by omega)]
      conv => whnf
      rw [nI_succ] at ih
      exact ih)
  refine run [7] 60 _ _ _ _ _ _ ?_
  conv => whnf
  exact loop 0 (by omega)
theorem ct_X7_digest (D : va_G) (dT : Nat → Nat) (l : Launch) : en_CT en_WD D vwCl dT l yX7_digest cX7_digest 5 (some .int) rm_X7_digest f_X7_digest := en_met en_WD1 en_WD2 (by decide) rfl rfl (tB_X7_digest D dT l) (en_f_ln (fun _ => Nat.le_of_ble_eq_true rfl)) (en_f_bd bd_X7_digest)
set_option maxRecDepth 100000 in
theorem mk_X7_digest {D : va_G} {dT : Nat → Nat} {l : Launch} {R : Room} {s : State} {args : Array Value} {own : String} {idx : Nat} (h : en_WD s) (h1 : rm_X7_digest.frames + 1 ≤ R.frames) (h2 : 8 + (5 + 11) + rm_X7_digest.locals ≤ R.locals) (hl : (Jvm.Cond.methodLink own idx yX7_digest).before args s = true ∨ ∃ host, (Jvm.Cond.methodLinkNest own idx yX7_digest host).before args s = true) : en_mok en_WD D vwCl dT l R s args own (idx, 2, 9, 0, 0, f_X7_digest) :=
  ⟨yX7_digest, cX7_digest, 5, some .int, rm_X7_digest, 1, ct_X7_digest D dT l, rfl, rfl, h1, h2, en_wd h 1002 rfl rfl args, en_wd h 66 (by decide +kernel) rfl args, by decide, by decide, hl, ⟨RX7, TX7, 24, rfl, en_wd h 1001 (by decide +kernel) rfl args, en_wd h 57 (by decide +kernel) rfl args, rfl⟩⟩
abbrev mtm (N Wd : Nat → Int64) (P : Nat → Int32) (a b : Nat) : Prop := a + 1 ≤ b ∧ P a ≠ -1 ∧ P b ≠ -1 ∧ dig N Wd a = dig N Wd b ∧ ¬ alike N Wd a b
def mtsM (N Wd : Nat → Int64) (P : Nat → Int32) (n : Nat) : Nat := sm (fun a => ct (fun b => mtm N Wd P a b) n) n
theorem mts_eq {N Wd : Nat → Int64} {P : Nat → Int32} {n : Nat} : mtsM N Wd P n = mts N Wd P n := by
  unfold mtsM mts
  refine sm_c (fun a _ => ?_)
  by_cases h : P a ≠ -1
  · rw [if_pos h]
    exact ct_c (fun b _ => ⟨fun z => ⟨z.1, z.2.2.2.1, z.2.2.1, z.2.2.2.2⟩, fun z => ⟨z.1, h, z.2.2.1, z.2.1, z.2.2.2⟩⟩)
  · rw [if_neg h]
    exact ct_0 (fun b _ z => h z.2.1)
def f_X7_meets := en_f (σ := Nat × Sx) (fun _ => [.ref 0]) (fun x => wM x.2) (fun x => x.1 ≤ 100 ∧ x.2.1 0 = nI x.1) (fun x v w => ansM v w (nI (mts (x.2.2.2.2 4) (x.2.2.2.2 5) (x.2.2.2.1 6) x.1)) (xi x.2 4 0))
def rm_X7_meets : Room := { frames := 1, cells := 0, slots := 0, locals := 24 }
def t_X7_meets : en_T := ((4, 0, 0), tb_X7_meets, fl_X7, cn_X7, [(187, 2, 9, 0, 0, f_X7_digest), (138, 3, 9, 0, 0, f_X7_isEqual)], [], 0, some .int)
set_option maxRecDepth 100000 in
theorem tB_X7_meets (D : va_G) (dT : Nat → Nat) (l : Launch) : en_TB en_WD D vwCl dT l rm_X7_meets t_X7_meets RX7 "meets" cX7_meets := ⟨tk_X7_meets, fun s args meth h hn => ⟨fo_X7 h args meth, co_X7 h args, List.forall_mem_cons.mpr ⟨mk_X7_digest (own := RX7) h (Nat.le_of_ble_eq_true rfl) (Nat.le_of_ble_eq_true rfl) (Or.inl (en_wd h 999 (by decide +kernel) rfl args)), List.forall_mem_cons.mpr ⟨mk_X7_isEqual (own := RX7) h (Nat.le_of_ble_eq_true rfl) (Nat.le_of_ble_eq_true rfl) (Or.inl (en_wd h 963 (by decide +kernel) rfl args)), fun _ h => absurd h List.not_mem_nil⟩⟩, fun _ h => absurd h List.not_mem_nil, Or.inl rfl, en_arr h args⟩⟩
set_option maxHeartbeats 4000000 in
set_option maxRecDepth 100000 in
theorem bd_X7_meets : en_B (σ := Nat × Sx) t_X7_meets (fun _ => [.ref 0]) (fun x => wM x.2) (fun x => x.1 ≤ 100 ∧ x.2.1 0 = nI x.1) (fun x v w => ansM v w (nI (mts (x.2.2.2.2 4) (x.2.2.2.2 5) (x.2.2.2.1 6) x.1)) (xi x.2 4 0)) := by
  rintro ⟨n, S⟩ ⟨hn, h1⟩ G hG OK ⟨run, sub⟩
  dsimp only at hn h1 hG ⊢
  rw [← mts_eq] at hG
  unfold mtsM at hG
  have outer := lp_up (fun a => OK 0 0 9 [(0, .ref 0), (1, .int (nI (sm (fun a => ct (fun b => mtm (S.2.2.2 4) (S.2.2.2 5) (S.2.2.1 6) a b) n) a))), (2, .int (nI a))] [] (wM (xi S 4 0))) n
    (by
      refine run [9] 60 _ _ _ _ _ _ ?_
      conv => whnf
      refine pk_le n n (fun h => ?_) (fun h => absurd h (by omega)) h1
      conv => whnf
      exact hG _ _ ⟨rfl, rfl⟩)
    (fun a ha ih => by
      rw [nI_succ] at ih
      simp only [sm] at ih
      generalize sm (fun a => ct (fun b => mtm (S.2.2.2 4) (S.2.2.2 5) (S.2.2.1 6) a b) n) a = T at ih ⊢
      have inner := lp_up (fun b => a + 1 ≤ b → OK 0 0 21 [(0, .ref 0), (1, .int (nI (T + ct (fun b => mtm (S.2.2.2 4) (S.2.2.2 5) (S.2.2.1 6) a b) b))), (2, .int (nI a)), (3, .int (nI b))] [] (wM (xi S 4 0))) n
        (fun _ => by
          refine run [9, 21] 60 _ _ _ _ _ _ ?_
          conv => whnf
          refine pk_le n n (fun h => ?_) (fun h => absurd h (by omega)) h1
          conv => whnf
          exact sub [0, 1, 2] _ _ _ _ _ _ _ rfl ih)
        (fun b hb ihb hab => by
          have ihb := ihb (by omega)
          rw [nI_succ] at ihb
          have h0 : ¬ mtm (S.2.2.2 4) (S.2.2.2 5) (S.2.2.1 6) a b → OK 0 0 21 [(0, .ref 0), (1, .int (nI (T + ct (fun b => mtm (S.2.2.2 4) (S.2.2.2 5) (S.2.2.1 6) a b) b) + 0)), (2, .int (nI a)), (3, .int (nI b + 1))] [] (wM (xi S 4 0)) := fun h => by
            rw [ct_f h] at ihb; rw [Int32.add_zero]; exact ihb
          have h1' : mtm (S.2.2.2 4) (S.2.2.2 5) (S.2.2.1 6) a b → OK 0 0 21 [(0, .ref 0), (1, .int (nI (T + ct (fun b => mtm (S.2.2.2 4) (S.2.2.2 5) (S.2.2.1 6) a b) b) + 1)), (2, .int (nI a)), (3, .int (nI b + 1))] [] (wM (xi S 4 0)) := fun h => by
            rw [ct_t h, ← Nat.add_assoc, nI_succ] at ihb; exact ihb
          generalize nI (T + ct (fun b => mtm (S.2.2.2 4) (S.2.2.2 5) (S.2.2.1 6) a b) b) = C at h0 h1' ⊢
          refine run [9, 21] 60 _ _ _ _ _ _ ?_
          conv => whnf
          refine pk_le n b (fun h => absurd h (by omega)) (fun h => ?_) h1
          conv => whnf
          refine ⟨vp_in_nI (by omega) (by decide), ?_⟩
          rw [nI_clamp (by omega)]
          conv => whnf
          refine ⟨fun c1 => ?_, fun c1 => ?_⟩
          · conv => whnf
            exact h0 (fun z => z.2.1 c1)
          · conv => whnf
            refine ⟨vp_in_nI (by omega) (by decide), ?_⟩
            rw [nI_clamp (by omega)]
            conv => whnf
            refine ⟨fun c2 => ?_, fun c2 => ?_⟩
            · conv => whnf
              exact h0 (fun z => z.2.2.1 c2)
            · conv => whnf
              refine ⟨(a, xi S 4 0), rfl, rfl, (by dsimp only; omega), ?_⟩
              rintro _ _ ⟨rfl, rfl⟩
              conv => whnf
              refine ⟨(b, xi S 4 0), rfl, rfl, (by dsimp only; omega), ?_⟩
              rintro _ _ ⟨rfl, rfl⟩
              conv => whnf
              refine ⟨fun c3 => ?_, fun c3 => ?_⟩
              · conv => whnf
                exact h0 (fun z => c3 z.2.2.2.1)
              · conv => whnf
                refine ⟨(a, b, xi S 4 0), rfl, rfl, (by dsimp only; omega), ?_⟩
                rintro _ _ ⟨rfl, rfl⟩
                conv => whnf
                refine bl_br2 (fun c4 => ?_) (fun c4 => ?_)
                · conv => whnf
                  exact h0 (fun z => z.2.2.2.2 c4)
                · conv => whnf
                  exact h1' ⟨hab, c1, c2, c3, c4⟩)
      have hi := inner (a + 1) (by omega) (Nat.le_refl _)
      rw [ct_0 (fun i hi z => by have := z.1; omega), Nat.add_zero, nI_succ] at hi
      refine run [9, 21] 60 _ _ _ _ _ _ ?_
      conv => whnf
      refine pk_le n a (fun h => absurd h (by omega)) (fun h => ?_) h1
      conv => whnf
      exact hi)
  refine run [9] 60 _ _ _ _ _ _ ?_
  conv => whnf
  exact outer 0 (by omega)
theorem ct_X7_meets (D : va_G) (dT : Nat → Nat) (l : Launch) : en_CT en_WD D vwCl dT l yX7_meets cX7_meets 4 (some .int) rm_X7_meets f_X7_meets := en_met en_WD1 en_WD2 (by decide) rfl rfl (tB_X7_meets D dT l) (en_f_ln (fun _ => Nat.le_of_ble_eq_true rfl)) (en_f_bd bd_X7_meets)
set_option maxRecDepth 100000 in
theorem mk_X7_meets {D : va_G} {dT : Nat → Nat} {l : Launch} {R : Room} {s : State} {args : Array Value} {own : String} {idx : Nat} (h : en_WD s) (h1 : rm_X7_meets.frames + 1 ≤ R.frames) (h2 : 8 + (4 + 11) + rm_X7_meets.locals ≤ R.locals) (hl : (Jvm.Cond.methodLink own idx yX7_meets).before args s = true ∨ ∃ host, (Jvm.Cond.methodLinkNest own idx yX7_meets host).before args s = true) : en_mok en_WD D vwCl dT l R s args own (idx, 1, 9, 0, 0, f_X7_meets) :=
  ⟨yX7_meets, cX7_meets, 4, some .int, rm_X7_meets, 0, ct_X7_meets D dT l, rfl, rfl, h1, h2, en_wd h 998 rfl rfl args, en_wd h 66 (by decide +kernel) rfl args, by decide, by decide, hl, ⟨RX7, TX7, 24, rfl, en_wd h 996 (by decide +kernel) rfl args, en_wd h 997 (by decide +kernel) rfl args, rfl⟩⟩
def f_X7_told := en_f (σ := Int32 × Nat × Sx) (fun x => [.ref 0, .int x.1]) (fun x => wM x.2.2) (fun x => x.2.1 ≤ 100 ∧ x.2.2.1 0 = nI x.2.1) (fun x v w => ansM v w (if x.1 = 0 then nI x.2.1 else if x.1 = 1 then x.2.2.1 1 else if x.1 = 2 then x.2.2.1 2 else if x.1 = 3 then nI (ct (fun r => x.2.2.2.2.1 6 r ≠ -1) x.2.1) else if x.1 = 4 then x.2.2.1 3 else -2) (xi x.2.2 4 0))
def rm_X7_told : Room := { frames := 0, cells := 0, slots := 0, locals := 0 }
def t_X7_told : en_T := ((4, 0, 0), tb_X7_told, fl_X7, cn_X7, [], [], 0, some .int)
set_option maxRecDepth 100000 in
theorem tB_X7_told (D : va_G) (dT : Nat → Nat) (l : Launch) : en_TB en_WD D vwCl dT l rm_X7_told t_X7_told RX7 "told" cX7_told := ⟨tk_X7_told, fun s args meth h hn => ⟨fo_X7 h args meth, co_X7 h args, fun _ h => absurd h List.not_mem_nil, fun _ h => absurd h List.not_mem_nil, Or.inl rfl, en_arr h args⟩⟩
set_option maxHeartbeats 4000000 in
set_option maxRecDepth 100000 in
theorem bd_X7_told : en_B (σ := Int32 × Nat × Sx) t_X7_told (fun x => [.ref 0, .int x.1]) (fun x => wM x.2.2) (fun x => x.2.1 ≤ 100 ∧ x.2.2.1 0 = nI x.2.1) (fun x v w => ansM v w (if x.1 = 0 then nI x.2.1 else if x.1 = 1 then x.2.2.1 1 else if x.1 = 2 then x.2.2.1 2 else if x.1 = 3 then nI (ct (fun r => x.2.2.2.2.1 6 r ≠ -1) x.2.1) else if x.1 = 4 then x.2.2.1 3 else -2) (xi x.2.2 4 0)) := by
  rintro ⟨x, n, S⟩ ⟨hn, h1⟩ G hG OK ⟨run, sub⟩
  dsimp only at hn h1 hG ⊢
  have tail : OK 0 0 41 [(0, .ref 0), (1, .int x), (2, .int (nI (ct (fun r => S.2.2.1 6 r ≠ -1) n)))] [] (wM (xi S 4 0)) := by
    refine run [] 60 _ _ _ _ _ _ ?_
    conv => whnf
    refine ⟨fun c0 => ?_, fun c0 => ?_⟩
    · have c0 : ¬ x = 0 := c0
      rw [if_neg c0] at hG
      conv => whnf
      refine ⟨fun c1 => ?_, fun c1 => ?_⟩
      · have c1 : ¬ x = 1 := c1
        rw [if_neg c1] at hG
        conv => whnf
        refine ⟨fun c2 => ?_, fun c2 => ?_⟩
        · have c2 : ¬ x = 2 := c2
          rw [if_neg c2] at hG
          conv => whnf
          refine ⟨fun c3 => ?_, fun c3 => ?_⟩
          · have c3 : ¬ x = 3 := c3
            rw [if_neg c3] at hG
            conv => whnf
            refine ⟨fun c4 => ?_, fun c4 => ?_⟩
            · have c4 : ¬ x = 4 := c4
              rw [if_neg c4] at hG
              conv => whnf
              exact hG _ _ ⟨rfl, rfl⟩
            · have c4 : x = 4 := c4
              rw [if_pos c4] at hG
              conv => whnf
              exact hG _ _ ⟨rfl, rfl⟩
          · have c3 : x = 3 := c3
            rw [if_pos c3] at hG
            conv => whnf
            exact hG _ _ ⟨rfl, rfl⟩
        · have c2 : x = 2 := c2
          rw [if_pos c2] at hG
          conv => whnf
          exact hG _ _ ⟨rfl, rfl⟩
      · have c1 : x = 1 := c1
        rw [if_pos c1] at hG
        conv => whnf
        exact hG _ _ ⟨rfl, rfl⟩
    · have c0 : x = 0 := c0
      rw [if_pos c0, ← h1] at hG
      conv => whnf
      exact hG _ _ ⟨rfl, rfl⟩
  have loop := lp_up (fun i => OK 0 0 9 [(0, .ref 0), (1, .int x), (2, .int (nI (ct (fun r => S.2.2.1 6 r ≠ -1) i))), (3, .int (nI i))] [] (wM (xi S 4 0))) n
    (by
      refine run [9, 41] 60 _ _ _ _ _ _ ?_
      conv => whnf
      refine pk_le n n (fun h => ?_) (fun h => absurd h (by omega)) h1
      conv => whnf
      exact sub [0, 1, 2] _ _ _ _ _ _ _ rfl tail)
    (fun i hi ih => by
      rw [nI_succ] at ih
      refine run [9, 41] 60 _ _ _ _ _ _ ?_
      conv => whnf
      refine pk_le n i (fun h => absurd h (by omega)) (fun h => ?_) h1
      conv => whnf
      refine ⟨vp_in_nI (by omega) (by decide), ?_⟩
      rw [nI_clamp (by omega)]
      conv => whnf
      refine ⟨fun hp => ?_, fun hp => ?_⟩
      · rw [ct_f (p := fun r => S.2.2.1 6 r ≠ -1) (fun z => z hp), ← Int32.add_zero (nI (ct (fun r => S.2.2.1 6 r ≠ -1) i))] at ih
        conv => whnf
        exact ih
      · rw [ct_t (p := fun r => S.2.2.1 6 r ≠ -1) hp, nI_succ] at ih
        conv => whnf
        exact ih)
  refine run [9] 60 _ _ _ _ _ _ ?_
  conv => whnf
  exact loop 0 (by omega)
theorem ct_X7_told (D : va_G) (dT : Nat → Nat) (l : Launch) : en_CT en_WD D vwCl dT l yX7_told cX7_told 4 (some .int) rm_X7_told f_X7_told := en_met en_WD1 en_WD2 (by decide) rfl rfl (tB_X7_told D dT l) (en_f_ln (fun _ => Nat.le_of_ble_eq_true rfl)) (en_f_bd bd_X7_told)
set_option maxRecDepth 100000 in
theorem mk_X7_told {D : va_G} {dT : Nat → Nat} {l : Launch} {R : Room} {s : State} {args : Array Value} {own : String} {idx : Nat} (h : en_WD s) (h1 : rm_X7_told.frames + 1 ≤ R.frames) (h2 : 8 + (4 + 11) + rm_X7_told.locals ≤ R.locals) (hl : (Jvm.Cond.methodLink own idx yX7_told).before args s = true ∨ ∃ host, (Jvm.Cond.methodLinkNest own idx yX7_told host).before args s = true) : en_mok en_WD D vwCl dT l R s args own (idx, 2, 9, 0, 0, f_X7_told) :=
  ⟨yX7_told, cX7_told, 4, some .int, rm_X7_told, 1, ct_X7_told D dT l, rfl, rfl, h1, h2, en_wd h 1009 rfl rfl args, en_wd h 66 (by decide +kernel) rfl args, by decide, by decide, hl, ⟨RX7, TX7, 24, rfl, en_wd h 1007 (by decide +kernel) rfl args, en_wd h 1008 (by decide +kernel) rfl args, rfl⟩⟩
