/-! SplitLeaks$Finder: pairs, groups, late ones, fitted ones -/
/-- a leak is told: found, first, second -/
def tk (wt : Int32) (s : Int32 × Int32 × Int32) (a b : Int32) : Int32 × Int32 × Int32 := (s.1 + 1, if s.1 = wt then a else s.2.1, if s.1 = wt then b else s.2.2)
def tks (wt : Int32) (s : Int32 × Int32 × Int32) (L : List (Int32 × Int32)) : Int32 × Int32 × Int32 := L.foldl (fun s ab => tk wt s ab.1 ab.2) s
theorem tks_app {wt : Int32} {s : Int32 × Int32 × Int32} {L M : List (Int32 × Int32)} : tks wt s (L ++ M) = tks wt (tks wt s L) M := List.foldl_append
theorem tks_1 {wt : Int32} {s : Int32 × Int32 × Int32} {a b : Int32} : tks wt s [(a, b)] = tk wt s a b := rfl
theorem tks_0 {wt : Int32} {s : Int32 × Int32 × Int32} : tks wt s [] = s := rfl
/-- lists, one behind another -/
def lsn (f : Nat → List (Int32 × Int32)) : Nat → List (Int32 × Int32)
  | 0 => []
  | n + 1 => lsn f n ++ f n
/-- one, if p -/
def ifl (p : Prop) [Decidable p] (a b : Int32) : List (Int32 × Int32) := if p then [(a, b)] else []
theorem ifl_t {p : Prop} [Decidable p] {a b : Int32} (h : p) : ifl p a b = [(a, b)] := if_pos h
theorem ifl_f {p : Prop} [Decidable p] {a b : Int32} (h : ¬ p) : ifl p a b = [] := if_neg h
def xf (S : Sx) (f : Int32 × Int32 × Int32) : Sx := xi (xi (xi S 6 f.1) 7 f.2.1) 8 f.2.2
abbrev s3 (S : Sx) : Int32 × Int32 × Int32 := (S.1 6, S.1 7, S.1 8)
def f_X1_take := en_f (σ := Int32 × Int32 × Sx) (fun x => [.ref 23, .int x.1, .int x.2.1]) (fun x => wX x.2.2) (fun _ => True) (fun x v w => v = none ∧ w = wX (xf x.2.2 (tk (x.2.2.1 5) (s3 x.2.2) x.1 x.2.1)))
def rm_X1_take : Room := { frames := 0, cells := 0, slots := 0, locals := 0 }
def t_X1_take : en_T := ((3, 0, 0), tb_X1_take, fl_X1, cn_X1, [], [], 0, none)
set_option maxRecDepth 100000 in
theorem tB_X1_take (D : va_G) (dT : Nat → Nat) (l : Launch) : en_TB en_WD D vwCl dT l rm_X1_take t_X1_take RX1 "take" cX1_take := ⟨tk_X1_take, fun s args meth h hn => ⟨fo_X1 h args meth, co_X1 h args, fun _ h => absurd h List.not_mem_nil, fun _ h => absurd h List.not_mem_nil, Or.inl rfl, en_arr h args⟩⟩
set_option maxHeartbeats 4000000 in
set_option maxRecDepth 100000 in
theorem bd_X1_take : en_B (σ := Int32 × Int32 × Sx) t_X1_take (fun x => [.ref 23, .int x.1, .int x.2.1]) (fun x => wX x.2.2) (fun _ => True) (fun x v w => v = none ∧ w = wX (xf x.2.2 (tk (x.2.2.1 5) (s3 x.2.2) x.1 x.2.1))) := by
  rintro ⟨a, b, S⟩ - G hG OK ⟨run, sub⟩
  dsimp only at hG ⊢
  refine run [] 60 _ _ _ _ _ _ ?_
  conv => whnf
  refine ⟨fun h => ?_, fun h => ?_⟩
  · conv => whnf
    refine hG _ _ ⟨rfl, ?_⟩
    unfold tk
    rw [if_neg h, if_neg h]
    rfl
  · conv => whnf
    refine hG _ _ ⟨rfl, ?_⟩
    unfold tk
    rw [if_pos h, if_pos h]
    rfl
theorem ct_X1_take (D : va_G) (dT : Nat → Nat) (l : Launch) : en_CT en_WD D vwCl dT l yX1_take cX1_take 3 (none) rm_X1_take f_X1_take := en_met en_WD1 en_WD2 (by decide) rfl rfl (tB_X1_take D dT l) (en_f_ln (fun _ => Nat.le_of_ble_eq_true rfl)) (en_f_bd bd_X1_take)
set_option maxRecDepth 100000 in
theorem mk_X1_take {D : va_G} {dT : Nat → Nat} {l : Launch} {R : Room} {s : State} {args : Array Value} {own : String} {idx : Nat} (h : en_WD s) (h1 : rm_X1_take.frames + 1 ≤ R.frames) (h2 : 8 + (3 + 11) + rm_X1_take.locals ≤ R.locals) (hl : (Jvm.Cond.methodLink own idx yX1_take).before args s = true ∨ ∃ host, (Jvm.Cond.methodLinkNest own idx yX1_take host).before args s = true) : en_mok en_WD D vwCl dT l R s args own (idx, 3, 3, 0, 0, f_X1_take) :=
  ⟨yX1_take, cX1_take, 3, none, rm_X1_take, 2, ct_X1_take D dT l, rfl, rfl, h1, h2, en_wd h 539 rfl rfl args, en_wd h 65 (by decide +kernel) rfl args, by decide, by decide, hl, ⟨RX1, TX1, 6, rfl, en_wd h 538 (by decide +kernel) rfl args, en_wd h 21 (by decide +kernel) rfl args, rfl⟩⟩
/-- near, but not alike -/
abbrev nearq (N Wd : Nat → Int64) (nn : Int32) (a b : Nat) : Prop := Wd a ≠ 0 ∧ Wd b ≠ 0 ∧ ¬ alike N Wd a b ∧ ¬ pcr (Wd a &&& Wd b) * (Int8.ofInt 100).toInt32 < nn * pcr (Wd a ||| Wd b)
def f_X1_areNear := en_f (σ := Nat × Nat × Int32 × Sx) (fun x => [.ref 23, .int (nI x.1), .int (nI x.2.1), .int x.2.2.1]) (fun x => wX x.2.2.2) (fun x => x.1 < 100 ∧ x.2.1 < 100) (fun x v w => v = some (.int (bl (nearq (x.2.2.2.2.2.2 6) (x.2.2.2.2.2.2 7) x.2.2.1 x.1 x.2.1))) ∧ w = wX x.2.2.2)
def rm_X1_areNear : Room := { frames := 2, cells := 0, slots := 0, locals := 46 }
def t_X1_areNear : en_T := ((8, 0, 0), tb_X1_areNear, fl_X1, cn_X1, [(57, 3, 4, 0, 0, f_X2_areAlike), (71, 1, 0, 0, 0, f_JL_bitCount)], [], 0, some .boolean)
set_option maxRecDepth 100000 in
theorem tB_X1_areNear (D : va_G) (dT : Nat → Nat) (l : Launch) : en_TB en_WD D vwCl dT l rm_X1_areNear t_X1_areNear RX1 "areNear" cX1_areNear := ⟨tk_X1_areNear, fun s args meth h hn => ⟨fo_X1 h args meth, co_X1 h args, List.forall_mem_cons.mpr ⟨mk_X2_areAlike (own := RX1) h (Nat.le_of_ble_eq_true rfl) (Nat.le_of_ble_eq_true rfl) (Or.inl (en_wd h 523 (by decide +kernel) rfl args)), List.forall_mem_cons.mpr ⟨mk_JL_bitCount (own := RX1) h (Nat.le_of_ble_eq_true rfl) (Nat.le_of_ble_eq_true rfl) (Or.inl (en_wd h 535 (by decide +kernel) rfl args)), fun _ h => absurd h List.not_mem_nil⟩⟩, fun _ h => absurd h List.not_mem_nil, Or.inl rfl, en_arr h args⟩⟩
set_option maxHeartbeats 4000000 in
set_option maxRecDepth 100000 in
theorem bd_X1_areNear : en_B (σ := Nat × Nat × Int32 × Sx) t_X1_areNear (fun x => [.ref 23, .int (nI x.1), .int (nI x.2.1), .int x.2.2.1]) (fun x => wX x.2.2.2) (fun x => x.1 < 100 ∧ x.2.1 < 100) (fun x v w => v = some (.int (bl (nearq (x.2.2.2.2.2.2 6) (x.2.2.2.2.2.2 7) x.2.2.1 x.1 x.2.1))) ∧ w = wX x.2.2.2) := by
  rintro ⟨a, b, nn, S⟩ ⟨ha, hb⟩ G hG OK ⟨run, sub⟩
  dsimp only at ha hb hG ⊢
  refine run [] 80 _ _ _ _ _ _ ?_
  conv => whnf
  refine ⟨vp_in_nI ha (by decide), ?_⟩
  rw [nI_clamp (by omega)]
  conv => whnf
  refine ⟨vp_in_nI hb (by decide), ?_⟩
  rw [nI_clamp (by omega)]
  conv => whnf
  refine lc_br (fun h1 => ?_) (fun h1 => ?_)
  · conv => whnf
    exact ⟨rfl, hG _ _ ⟨bl_af (fun z => z.1 h1) rfl, rfl⟩⟩
  · conv => whnf
    refine lc_br (fun h2 => ?_) (fun h2 => ?_)
    · conv => whnf
      exact ⟨rfl, hG _ _ ⟨bl_af (fun z => z.2.1 h2) rfl, rfl⟩⟩
    · conv => whnf
      refine ⟨(a, b, S), rfl, rfl, ⟨ha, hb⟩, ?_⟩
      rintro _ _ ⟨rfl, rfl⟩
      conv => whnf
      refine bl_br (fun h3 => ?_) (fun h3 => ?_)
      · conv => whnf
        refine ⟨(S.2.2.2 7 a &&& S.2.2.2 7 b, wX S), rfl, rfl, trivial, ?_⟩
        intro v u hvu
        obtain ⟨rfl, rfl⟩ : v = some (.int (pcr (S.2.2.2 7 a &&& S.2.2.2 7 b))) ∧ u = wX S := hvu
        conv => whnf
        refine ⟨(S.2.2.2 7 a ||| S.2.2.2 7 b, wX S), rfl, rfl, trivial, ?_⟩
        intro v u hvu
        obtain ⟨rfl, rfl⟩ : v = some (.int (pcr (S.2.2.2 7 a ||| S.2.2.2 7 b))) ∧ u = wX S := hvu
        conv => whnf
        refine ⟨fun h4 => ?_, fun h4 => ?_⟩
        · conv => whnf
          exact ⟨rfl, hG _ _ ⟨bl_af (fun z => z.2.2.2 h4) rfl, rfl⟩⟩
        · conv => whnf
          exact ⟨rfl, hG _ _ ⟨bl_at ⟨h1, h2, h3, h4⟩ rfl, rfl⟩⟩
      · conv => whnf
        exact ⟨rfl, hG _ _ ⟨bl_af (fun z => z.2.2.1 h3) rfl, rfl⟩⟩
theorem ct_X1_areNear (D : va_G) (dT : Nat → Nat) (l : Launch) : en_CT en_WD D vwCl dT l yX1_areNear cX1_areNear 8 (some .boolean) rm_X1_areNear f_X1_areNear := en_met en_WD1 en_WD2 (by decide) rfl rfl (tB_X1_areNear D dT l) (en_f_ln (fun _ => Nat.le_of_ble_eq_true rfl)) (en_f_bd bd_X1_areNear)
set_option maxRecDepth 100000 in
theorem mk_X1_areNear {D : va_G} {dT : Nat → Nat} {l : Launch} {R : Room} {s : State} {args : Array Value} {own : String} {idx : Nat} (h : en_WD s) (h1 : rm_X1_areNear.frames + 1 ≤ R.frames) (h2 : 8 + (8 + 11) + rm_X1_areNear.locals ≤ R.locals) (hl : (Jvm.Cond.methodLink own idx yX1_areNear).before args s = true ∨ ∃ host, (Jvm.Cond.methodLinkNest own idx yX1_areNear host).before args s = true) : en_mok en_WD D vwCl dT l R s args own (idx, 4, 3, 0, 0, f_X1_areNear) :=
  ⟨yX1_areNear, cX1_areNear, 8, some .boolean, rm_X1_areNear, 3, ct_X1_areNear D dT l, rfl, rfl, h1, h2, en_wd h 534 rfl rfl args, en_wd h 65 (by decide +kernel) rfl args, by decide, by decide, hl, ⟨RX1, TX1, 6, rfl, en_wd h 533 (by decide +kernel) rfl args, en_wd h 20 (by decide +kernel) rfl args, rfl⟩⟩
/-- leaks of the kinds 0 and 1 -/
abbrev pairq (N Wd : Nat → Int64) (P : Nat → Int32) (kd nn : Int32) (a b : Nat) : Prop := a + 1 ≤ b ∧ (P a ≠ -1 ∧ P b ≠ -1 ∧ P a ≠ P b) ∧ (if kd = 0 then alike N Wd a b else nearq N Wd nn a b)
def Lpair (N Wd : Nat → Int64) (P : Nat → Int32) (kd nn : Int32) (n : Nat) : List (Int32 × Int32) := lsn (fun a => lsn (fun b => ifl (pairq N Wd P kd nn a b) (nI a) (nI b)) n) n
theorem lsn_0 {f : Nat → List (Int32 × Int32)} : ∀ {n : Nat}, (∀ i, i < n → f i = []) → lsn f n = []
  | 0, _ => rfl
  | n + 1, h => by
    show lsn f n ++ f n = []
    rw [lsn_0 (fun i hi => h i (by omega)), h n (by omega)]
    rfl
theorem xf_s3 (S : Sx) : wX (xf S (s3 S)) = wX S := rfl
def f_X1_findPairs := en_f (σ := Nat × Int32 × Int32 × Sx) (fun x => [.ref 23, .int x.2.1, .int x.2.2.1]) (fun x => wX x.2.2.2) (fun x => x.1 ≤ 100 ∧ x.2.2.2.1 1 = nI x.1) (fun x v w => v = none ∧ w = wX (xf x.2.2.2 (tks (x.2.2.2.1 5) (s3 x.2.2.2) (Lpair (x.2.2.2.2.2.2 6) (x.2.2.2.2.2.2 7) (x.2.2.2.2.2.1 5) x.2.1 x.2.2.1 x.1))))
def rm_X1_findPairs : Room := { frames := 3, cells := 0, slots := 0, locals := 73 }
def t_X1_findPairs : en_T := ((5, 0, 0), tb_X1_findPairs, fl_X1, cn_X1, [(53, 3, 4, 0, 0, f_X2_areParted), (57, 3, 4, 0, 0, f_X2_areAlike), (60, 4, 3, 0, 0, f_X1_areNear), (64, 3, 3, 0, 0, f_X1_take)], [], 0, none)
set_option maxRecDepth 100000 in
theorem tB_X1_findPairs (D : va_G) (dT : Nat → Nat) (l : Launch) : en_TB en_WD D vwCl dT l rm_X1_findPairs t_X1_findPairs RX1 "findPairs" cX1_findPairs := ⟨tk_X1_findPairs, fun s args meth h hn => ⟨fo_X1 h args meth, co_X1 h args, List.forall_mem_cons.mpr ⟨mk_X2_areParted (own := RX1) h (Nat.le_of_ble_eq_true rfl) (Nat.le_of_ble_eq_true rfl) (Or.inl (en_wd h 519 (by decide +kernel) rfl args)), List.forall_mem_cons.mpr ⟨mk_X2_areAlike (own := RX1) h (Nat.le_of_ble_eq_true rfl) (Nat.le_of_ble_eq_true rfl) (Or.inl (en_wd h 523 (by decide +kernel) rfl args)), List.forall_mem_cons.mpr ⟨mk_X1_areNear (own := RX1) h (Nat.le_of_ble_eq_true rfl) (Nat.le_of_ble_eq_true rfl) (Or.inl (en_wd h 531 (by decide +kernel) rfl args)), List.forall_mem_cons.mpr ⟨mk_X1_take (own := RX1) h (Nat.le_of_ble_eq_true rfl) (Nat.le_of_ble_eq_true rfl) (Or.inl (en_wd h 536 (by decide +kernel) rfl args)), fun _ h => absurd h List.not_mem_nil⟩⟩⟩⟩, fun _ h => absurd h List.not_mem_nil, Or.inl rfl, en_arr h args⟩⟩
set_option maxHeartbeats 4000000 in
set_option maxRecDepth 100000 in
theorem bd_X1_findPairs : en_B (σ := Nat × Int32 × Int32 × Sx) t_X1_findPairs (fun x => [.ref 23, .int x.2.1, .int x.2.2.1]) (fun x => wX x.2.2.2) (fun x => x.1 ≤ 100 ∧ x.2.2.2.1 1 = nI x.1) (fun x v w => v = none ∧ w = wX (xf x.2.2.2 (tks (x.2.2.2.1 5) (s3 x.2.2.2) (Lpair (x.2.2.2.2.2.2 6) (x.2.2.2.2.2.2 7) (x.2.2.2.2.2.1 5) x.2.1 x.2.2.1 x.1)))) := by
  rintro ⟨n, kd, nn, S⟩ ⟨hn, h1⟩ G hG OK ⟨run, sub⟩
  dsimp only at hn h1 hG ⊢
  unfold Lpair at hG
  have outer := lp_up (fun a => OK 0 0 2 [(0, .ref 23), (1, .int kd), (2, .int nn), (3, .int (nI a))] [] (wX (xf S (tks (S.1 5) (s3 S) (lsn (fun a => lsn (fun b => ifl (pairq (S.2.2.2 6) (S.2.2.2 7) (S.2.2.1 5) kd nn a b) (nI a) (nI b)) n) a))))) n
    (by
      refine run [2] 60 _ _ _ _ _ _ ?_
      conv => whnf
      refine pk_le n n (fun h => ?_) (fun h => absurd h (by omega)) h1
      conv => whnf
      exact hG _ _ ⟨rfl, rfl⟩)
    (fun a ha iha => by
      simp only [lsn] at iha
      rw [tks_app, nI_succ] at iha
      generalize tks (S.1 5) (s3 S) (lsn (fun a => lsn (fun b => ifl (pairq (S.2.2.2 6) (S.2.2.2 7) (S.2.2.1 5) kd nn a b) (nI a) (nI b)) n) a) = Y at iha ⊢
      have inner := lp_up (fun b => a + 1 ≤ b → OK 0 0 18 [(0, .ref 23), (1, .int kd), (2, .int nn), (3, .int (nI a)), (4, .int (nI b))] [] (wX (xf S (tks (S.1 5) Y (lsn (fun b => ifl (pairq (S.2.2.2 6) (S.2.2.2 7) (S.2.2.1 5) kd nn a b) (nI a) (nI b)) b))))) n
        (fun _ => by
          refine run [2, 18] 60 _ _ _ _ _ _ ?_
          conv => whnf
          refine pk_le n n (fun h => ?_) (fun h => absurd h (by omega)) h1
          conv => whnf
          exact sub [0, 1, 2, 3] _ _ _ _ _ _ _ rfl iha)
        (fun b hb ihb hab => by
          have ihb := ihb (by omega)
          simp only [lsn] at ihb
          rw [tks_app, nI_succ] at ihb
          generalize tks (S.1 5) Y (lsn (fun b => ifl (pairq (S.2.2.2 6) (S.2.2.2 7) (S.2.2.1 5) kd nn a b) (nI a) (nI b)) b) = X at ihb ⊢
          have hno : ¬ pairq (S.2.2.2 6) (S.2.2.2 7) (S.2.2.1 5) kd nn a b → OK 0 0 18 [(0, .ref 23), (1, .int kd), (2, .int nn), (3, .int (nI a)), (4, .int (nI b + 1))] [] (wX (xf S X)) := fun h => by
            rw [ifl_f h, tks_0] at ihb; exact ihb
          refine run [2, 18] 80 _ _ _ _ _ _ ?_
          conv => whnf
          refine pk_le n b (fun h => absurd h (by omega)) (fun h => ?_) h1
          conv => whnf
          refine ⟨(a, b, xf S X), rfl, rfl, (by dsimp only; omega), ?_⟩
          intro v u hvu
          obtain ⟨rfl, rfl⟩ : v = some (.int (bl (S.2.2.1 5 a ≠ -1 ∧ S.2.2.1 5 b ≠ -1 ∧ S.2.2.1 5 a ≠ S.2.2.1 5 b))) ∧ u = wX (xf S X) := hvu
          conv => whnf
          refine bl_br (fun hp => ?_) (fun hp => ?_)
          · conv => whnf
            exact hno (fun z => hp z.2.1)
          · have htake : pairq (S.2.2.2 6) (S.2.2.2 7) (S.2.2.1 5) kd nn a b → ∀ (v : Option Value) (u : List va_E), (v = none ∧ u = wX (xf (xf S X) (tk ((xf S X).1 5) (s3 (xf S X)) (nI a) (nI b)))) → v = none ∧ OK 0 0 18 [(0, .ref 23), (1, .int kd), (2, .int nn), (3, .int (nI a)), (4, .int (nI b + 1))] [] u := fun hq v u hvu => by
              obtain ⟨rfl, rfl⟩ := hvu
              rw [ifl_t hq, tks_1] at ihb
              exact ⟨rfl, ihb⟩
            conv => whnf
            refine ⟨fun hk => ?_, fun hk => ?_⟩
            · conv => whnf
              refine ⟨(a, b, nn, xf S X), rfl, rfl, (by dsimp only; omega), ?_⟩
              intro v u hvu
              obtain ⟨rfl, rfl⟩ : v = some (.int (bl (nearq (S.2.2.2 6) (S.2.2.2 7) nn a b))) ∧ u = wX (xf S X) := hvu
              conv => whnf
              refine bl_br (fun hq => ?_) (fun hq => ?_)
              · conv => whnf
                exact hno (fun z => hq (by have := z.2.2; rw [if_neg hk] at this; exact this))
              · conv => whnf
                refine ⟨(nI a, nI b, xf S X), rfl, rfl, trivial, ?_⟩
                intro v u hvu
                obtain ⟨rfl, h2⟩ := htake ⟨hab, hp, by rw [if_neg hk]; exact hq⟩ v u hvu
                conv => whnf
                exact h2
            · conv => whnf
              refine ⟨(a, b, xf S X), rfl, rfl, (by dsimp only; omega), ?_⟩
              intro v u hvu
              obtain ⟨rfl, rfl⟩ : v = some (.int (bl (alike (S.2.2.2 6) (S.2.2.2 7) a b))) ∧ u = wX (xf S X) := hvu
              conv => whnf
              refine bl_br (fun hq => ?_) (fun hq => ?_)
              · conv => whnf
                exact hno (fun z => hq (by have := z.2.2; rw [if_pos hk] at this; exact this))
              · conv => whnf
                refine ⟨(nI a, nI b, xf S X), rfl, rfl, trivial, ?_⟩
                intro v u hvu
                obtain ⟨rfl, h2⟩ := htake ⟨hab, hp, by rw [if_pos hk]; exact hq⟩ v u hvu
                conv => whnf
                exact h2)
      have hi := inner (a + 1) (by omega) (Nat.le_refl _)
      rw [lsn_0 (fun i hi => ifl_f (fun z => by have := z.1; omega)), tks_0, nI_succ] at hi
      refine run [2, 18] 60 _ _ _ _ _ _ ?_
      conv => whnf
      refine pk_le n a (fun h => absurd h (by omega)) (fun h => ?_) h1
      conv => whnf
      exact hi)
  refine run [2] 60 _ _ _ _ _ _ ?_
  conv => whnf
  exact outer 0 (by omega)
theorem ct_X1_findPairs (D : va_G) (dT : Nat → Nat) (l : Launch) : en_CT en_WD D vwCl dT l yX1_findPairs cX1_findPairs 5 (none) rm_X1_findPairs f_X1_findPairs := en_met en_WD1 en_WD2 (by decide) rfl rfl (tB_X1_findPairs D dT l) (en_f_ln (fun _ => Nat.le_of_ble_eq_true rfl)) (en_f_bd bd_X1_findPairs)
set_option maxRecDepth 100000 in
theorem mk_X1_findPairs {D : va_G} {dT : Nat → Nat} {l : Launch} {R : Room} {s : State} {args : Array Value} {own : String} {idx : Nat} (h : en_WD s) (h1 : rm_X1_findPairs.frames + 1 ≤ R.frames) (h2 : 8 + (5 + 11) + rm_X1_findPairs.locals ≤ R.locals) (hl : (Jvm.Cond.methodLink own idx yX1_findPairs).before args s = true ∨ ∃ host, (Jvm.Cond.methodLinkNest own idx yX1_findPairs host).before args s = true) : en_mok en_WD D vwCl dT l R s args own (idx, 3, 3, 0, 0, f_X1_findPairs) :=
  ⟨yX1_findPairs, cX1_findPairs, 5, none, rm_X1_findPairs, 2, ct_X1_findPairs D dT l, rfl, rfl, h1, h2, en_wd h 518 rfl rfl args, en_wd h 65 (by decide +kernel) rfl args, by decide, by decide, hl, ⟨RX1, TX1, 6, rfl, en_wd h 517 (by decide +kernel) rfl args, en_wd h 19 (by decide +kernel) rfl args, rfl⟩⟩
