/-! the reference: groups, late ones, fitted ones, digests -/
def f_X7_groups := en_f (σ := Nat × Int32 × Sx) (fun x => [.ref 0, .int x.2.1]) (fun x => wM x.2.2) (fun x => x.1 ≤ 100 ∧ x.2.2.1 0 = nI x.1) (fun x v w => v = none ∧ w = wM (xf x.2.2 (tks x.2.1 (s3 x.2.2) (Lgrp (x.2.2.2.2.1 1) (x.2.2.2.2.1 6) x.1))))
def rm_X7_groups : Room := { frames := 1, cells := 0, slots := 0, locals := 23 }
def t_X7_groups : en_T := ((7, 0, 0), tb_X7_groups, fl_X7, cn_X7, [(157, 4, 9, 0, 0, f_X7_tell)], [], 0, none)
set_option maxRecDepth 100000 in
theorem tB_X7_groups (D : va_G) (dT : Nat → Nat) (l : Launch) : en_TB en_WD D vwCl dT l rm_X7_groups t_X7_groups RX7 "groups" cX7_groups := ⟨tk_X7_groups, fun s args meth h hn => ⟨fo_X7 h args meth, co_X7 h args, List.forall_mem_cons.mpr ⟨mk_X7_tell (own := RX7) h (Nat.le_of_ble_eq_true rfl) (Nat.le_of_ble_eq_true rfl) (Or.inl (en_wd h 971 (by decide +kernel) rfl args)), fun _ h => absurd h List.not_mem_nil⟩, fun _ h => absurd h List.not_mem_nil, Or.inl rfl, en_arr h args⟩⟩
set_option maxHeartbeats 4000000 in
set_option maxRecDepth 100000 in
theorem bd_X7_groups : en_B (σ := Nat × Int32 × Sx) t_X7_groups (fun x => [.ref 0, .int x.2.1]) (fun x => wM x.2.2) (fun x => x.1 ≤ 100 ∧ x.2.2.1 0 = nI x.1) (fun x v w => v = none ∧ w = wM (xf x.2.2 (tks x.2.1 (s3 x.2.2) (Lgrp (x.2.2.2.2.1 1) (x.2.2.2.2.1 6) x.1)))) := by
  rintro ⟨n, wt, S⟩ ⟨hn, h1⟩ G hG OK ⟨run, sub⟩
  dsimp only at hn h1 hG ⊢
  unfold Lgrp at hG
  have inner2 : ∀ (g p : Nat) (c : Int32) (Y : Int32 × Int32 × Int32), g < 30 → p < 4 → OK 0 0 75 [(0, .ref 0), (1, .int wt), (2, .int (nI g)), (3, .int c), (4, .int (nI p)), (5, .int (bl (fs (fun r => S.2.2.1 1 r = nI g ∧ S.2.2.1 6 r = nI p) n ≠ none)))] [] (wM (xf S Y)) → OK 0 0 25 [(0, .ref 0), (1, .int wt), (2, .int (nI g)), (3, .int c), (4, .int (nI p)), (5, .int 0), (6, .int (nI 0))] [] (wM (xf S Y)) := by
    intro g p c Y hg hp hE
    refine lp_up (fun r => OK 0 0 25 [(0, .ref 0), (1, .int wt), (2, .int (nI g)), (3, .int c), (4, .int (nI p)), (5, .int (bl (fs (fun r => S.2.2.1 1 r = nI g ∧ S.2.2.1 6 r = nI p) r ≠ none))), (6, .int (nI r))] [] (wM (xf S Y))) n ?_ ?_ 0 (by omega)
    · refine run [25, 75] 60 _ _ _ _ _ _ ?_
      conv => whnf
      refine pk_le n n (fun h => ?_) (fun h => absurd h (by omega)) h1
      conv => whnf
      exact sub [0, 1, 2, 3, 4, 5] _ _ _ _ _ _ _ rfl hE
    · intro r hr ih
      rw [nI_succ] at ih
      refine run [25, 75] 60 _ _ _ _ _ _ ?_
      conv => whnf
      refine pk_le n r (fun h => absurd h (by omega)) (fun h => ?_) h1
      conv => whnf
      refine bl_br2 (fun hf => ?_) (fun hf => ?_)
      · obtain ⟨q, hq⟩ : ∃ q, fs (fun r => S.2.2.1 1 r = nI g ∧ S.2.2.1 6 r = nI p) r = some q := Option.ne_none_iff_exists'.mp hf
        rw [bl_t (p := fs (fun r => S.2.2.1 1 r = nI g ∧ S.2.2.1 6 r = nI p) (r + 1) ≠ none) (by rw [fs_s hq (r + 1) (by omega)]; exact fun z => by cases z)] at ih
        conv => whnf
        exact ih
      · have hf : fs (fun r => S.2.2.1 1 r = nI g ∧ S.2.2.1 6 r = nI p) r = none := Decidable.of_not_not hf
        have h0 : ¬ (S.2.2.1 1 r = nI g ∧ S.2.2.1 6 r = nI p) → OK 0 0 25 [(0, .ref 0), (1, .int wt), (2, .int (nI g)), (3, .int c), (4, .int (nI p)), (5, .int 0), (6, .int (nI r + 1))] [] (wM (xf S Y)) := fun z => by
          rw [bl_f (p := fs (fun r => S.2.2.1 1 r = nI g ∧ S.2.2.1 6 r = nI p) (r + 1) ≠ none) (fun w => w (fs_f hf z))] at ih
          exact ih
        conv => whnf
        refine ⟨vp_in_nI (by omega) (by decide), ?_⟩
        rw [nI_clamp (by omega)]
        conv => whnf
        refine ⟨fun h2 => ?_, fun h2 => ?_⟩
        · conv => whnf
          exact h0 (fun z => h2 z.1)
        · have h2 : S.2.2.1 1 r = nI g := h2
          conv => whnf
          refine ⟨vp_in_nI (by omega) (by decide), ?_⟩
          rw [nI_clamp (by omega)]
          conv => whnf
          refine ⟨fun h3 => ?_, fun h3 => ?_⟩
          · conv => whnf
            exact h0 (fun z => h3 z.2)
          · have h3 : S.2.2.1 6 r = nI p := h3
            rw [bl_t (p := fs (fun r => S.2.2.1 1 r = nI g ∧ S.2.2.1 6 r = nI p) (r + 1) ≠ none) (by rw [fs_t hf ⟨h2, h3⟩]; exact fun z => by cases z)] at ih
            conv => whnf
            exact ih
  have inner1 : ∀ (g : Nat) (Y : Int32 × Int32 × Int32), g < 30 → OK 0 0 94 [(0, .ref 0), (1, .int wt), (2, .int (nI g)), (3, .int (nI (pog (S.2.2.1 1) (S.2.2.1 6) n (nI g))))] [] (wM (xf S Y)) → OK 0 0 13 [(0, .ref 0), (1, .int wt), (2, .int (nI g)), (3, .int 0), (4, .int (nI 0))] [] (wM (xf S Y)) := by
    intro g Y hg hE
    unfold pog at hE
    refine lp_up (fun p => OK 0 0 13 [(0, .ref 0), (1, .int wt), (2, .int (nI g)), (3, .int (nI (ct (fun p => fs (fun r => S.2.2.1 1 r = nI g ∧ S.2.2.1 6 r = nI p) n ≠ none) p))), (4, .int (nI p))] [] (wM (xf S Y))) 4 ?_ ?_ 0 (by omega)
    · refine run [13, 94] 60 _ _ _ _ _ _ ?_
      conv => whnf
      refine pk_le 4 4 (fun h => ?_) (fun h => absurd h (by omega))
      conv => whnf
      exact sub [0, 1, 2, 3] _ _ _ _ _ _ _ rfl hE
    · intro p hp ih
      rw [nI_succ] at ih
      generalize hC : nI (ct (fun p => fs (fun r => S.2.2.1 1 r = nI g ∧ S.2.2.1 6 r = nI p) n ≠ none) p) = C at ih ⊢
      have h75 : OK 0 0 75 [(0, .ref 0), (1, .int wt), (2, .int (nI g)), (3, .int C), (4, .int (nI p)), (5, .int (bl (fs (fun r => S.2.2.1 1 r = nI g ∧ S.2.2.1 6 r = nI p) n ≠ none)))] [] (wM (xf S Y)) := by
        refine run [13] 60 _ _ _ _ _ _ ?_
        conv => whnf
        refine bl_br (fun h2 => ?_) (fun h2 => ?_)
        · rw [ct_f (p := fun p => fs (fun r => S.2.2.1 1 r = nI g ∧ S.2.2.1 6 r = nI p) n ≠ none) h2, hC] at ih
          conv => whnf
          rw [← Int32.add_zero C] at ih
          exact sub [0, 1, 2, 3, 4] _ _ _ _ _ _ _ rfl ih
        · rw [ct_t (p := fun p => fs (fun r => S.2.2.1 1 r = nI g ∧ S.2.2.1 6 r = nI p) n ≠ none) h2, nI_succ, hC] at ih
          conv => whnf
          exact sub [0, 1, 2, 3, 4] _ _ _ _ _ _ _ rfl ih
      refine run [13, 25] 60 _ _ _ _ _ _ ?_
      conv => whnf
      refine pk_le 4 p (fun h => absurd h (by omega)) (fun h => ?_)
      conv => whnf
      exact inner2 g p C Y hg hp h75
  have outer := lp_up (fun g => OK 0 0 2 [(0, .ref 0), (1, .int wt), (2, .int (nI g))] [] (wM (xf S (tks wt (s3 S) (lsn (fun g => ifl (2 ≤ pog (S.2.2.1 1) (S.2.2.1 6) n (nI g)) (nI g) (nI (pog (S.2.2.1 1) (S.2.2.1 6) n (nI g)))) g))))) 30
    (by
      generalize tks wt (s3 S) (lsn (fun g => ifl (2 ≤ pog (S.2.2.1 1) (S.2.2.1 6) n (nI g)) (nI g) (nI (pog (S.2.2.1 1) (S.2.2.1 6) n (nI g)))) 30) = Y at hG ⊢
      refine run [2] 60 _ _ _ _ _ _ ?_
      conv => whnf
      refine pk_le 30 30 (fun h => ?_) (fun h => absurd h (by omega))
      conv => whnf
      exact hG _ _ ⟨rfl, rfl⟩)
    (fun g hg ih => by
      simp only [lsn] at ih
      rw [tks_app, nI_succ] at ih
      generalize tks wt (s3 S) (lsn (fun g => ifl (2 ≤ pog (S.2.2.1 1) (S.2.2.1 6) n (nI g)) (nI g) (nI (pog (S.2.2.1 1) (S.2.2.1 6) n (nI g)))) g) = Y at ih ⊢
      have hle := pog_le (Gp := S.2.2.1 1) (P := S.2.2.1 6) (n := n) (g := nI g)
      have h94 : OK 0 0 94 [(0, .ref 0), (1, .int wt), (2, .int (nI g)), (3, .int (nI (pog (S.2.2.1 1) (S.2.2.1 6) n (nI g))))] [] (wM (xf S Y)) := by
        refine run [2] 60 _ _ _ _ _ _ ?_
        conv => whnf
        refine pk_le (pog (S.2.2.1 1) (S.2.2.1 6) n (nI g)) 1 (fun hc => ?_) (fun hc => ?_)
        · rw [ifl_f (by omega), tks_0] at ih
          conv => whnf
          exact sub [0, 1, 2] _ _ _ _ _ _ _ rfl ih
        · rw [ifl_t (by omega), tks_1] at ih
          conv => whnf
          refine ⟨(wt, nI g, nI (pog (S.2.2.1 1) (S.2.2.1 6) n (nI g)), xf S Y), rfl, rfl, trivial, ?_⟩
          rintro _ _ ⟨rfl, rfl⟩
          conv => whnf
          exact sub [0, 1, 2] _ _ _ _ _ _ _ rfl ih
      refine run [2, 13] 60 _ _ _ _ _ _ ?_
      conv => whnf
      refine pk_le 30 g (fun h => absurd h (by omega)) (fun h => ?_)
      conv => whnf
      exact inner1 g Y hg h94)
  refine run [2] 60 _ _ _ _ _ _ ?_
  conv => whnf
  exact outer 0 (by omega)
theorem ct_X7_groups (D : va_G) (dT : Nat → Nat) (l : Launch) : en_CT en_WD D vwCl dT l yX7_groups cX7_groups 7 (none) rm_X7_groups f_X7_groups := en_met en_WD1 en_WD2 (by decide) rfl rfl (tB_X7_groups D dT l) (en_f_ln (fun _ => Nat.le_of_ble_eq_true rfl)) (en_f_bd bd_X7_groups)
set_option maxRecDepth 100000 in
theorem mk_X7_groups {D : va_G} {dT : Nat → Nat} {l : Launch} {R : Room} {s : State} {args : Array Value} {own : String} {idx : Nat} (h : en_WD s) (h1 : rm_X7_groups.frames + 1 ≤ R.frames) (h2 : 8 + (7 + 11) + rm_X7_groups.locals ≤ R.locals) (hl : (Jvm.Cond.methodLink own idx yX7_groups).before args s = true ∨ ∃ host, (Jvm.Cond.methodLinkNest own idx yX7_groups host).before args s = true) : en_mok en_WD D vwCl dT l R s args own (idx, 2, 9, 0, 0, f_X7_groups) :=
  ⟨yX7_groups, cX7_groups, 7, none, rm_X7_groups, 1, ct_X7_groups D dT l, rfl, rfl, h1, h2, en_wd h 978 rfl rfl args, en_wd h 66 (by decide +kernel) rfl args, by decide, by decide, hl, ⟨RX7, TX7, 24, rfl, en_wd h 977 (by decide +kernel) rfl args, en_wd h 53 (by decide +kernel) rfl args, rfl⟩⟩
def f_X7_late := en_f (σ := Nat × Int32 × Sx) (fun x => [.ref 0, .int x.2.1]) (fun x => wM x.2.2) (fun x => x.1 ≤ 100 ∧ x.2.2.1 0 = nI x.1) (fun x v w => v = none ∧ w = wM (xf x.2.2 (tks x.2.1 (s3 x.2.2) (Llate (x.2.2.2.2.1 6) (x.2.2.2.2.1 3) (elt (x.2.2.2.2.1 6) (x.2.2.2.2.1 3) x.1) x.1))))
def rm_X7_late : Room := { frames := 1, cells := 0, slots := 0, locals := 23 }
def t_X7_late : en_T := ((4, 0, 0), tb_X7_late, fl_X7, cn_X7, [(157, 4, 9, 0, 0, f_X7_tell)], [], 0, none)
set_option maxRecDepth 100000 in
theorem tB_X7_late (D : va_G) (dT : Nat → Nat) (l : Launch) : en_TB en_WD D vwCl dT l rm_X7_late t_X7_late RX7 "late" cX7_late := ⟨tk_X7_late, fun s args meth h hn => ⟨fo_X7 h args meth, co_X7 h args, List.forall_mem_cons.mpr ⟨mk_X7_tell (own := RX7) h (Nat.le_of_ble_eq_true rfl) (Nat.le_of_ble_eq_true rfl) (Or.inl (en_wd h 971 (by decide +kernel) rfl args)), fun _ h => absurd h List.not_mem_nil⟩, fun _ h => absurd h List.not_mem_nil, Or.inl rfl, en_arr h args⟩⟩
set_option maxHeartbeats 4000000 in
set_option maxRecDepth 100000 in
theorem bd_X7_late : en_B (σ := Nat × Int32 × Sx) t_X7_late (fun x => [.ref 0, .int x.2.1]) (fun x => wM x.2.2) (fun x => x.1 ≤ 100 ∧ x.2.2.1 0 = nI x.1) (fun x v w => v = none ∧ w = wM (xf x.2.2 (tks x.2.1 (s3 x.2.2) (Llate (x.2.2.2.2.1 6) (x.2.2.2.2.1 3) (elt (x.2.2.2.2.1 6) (x.2.2.2.2.1 3) x.1) x.1)))) := by
  rintro ⟨n, wt, S⟩ ⟨hn, h1⟩ G hG OK ⟨run, sub⟩
  dsimp only at hn h1 hG ⊢
  have hei := elt_in (S.2.2.1 6) (S.2.2.1 3) n
  have second : OK 0 0 55 [(0, .ref 0), (1, .int wt), (2, .int (elt (S.2.2.1 6) (S.2.2.1 3) n)), (3, .int (nI 0))] [] (wM S) := by
    generalize elt (S.2.2.1 6) (S.2.2.1 3) n = e at hei hG ⊢
    unfold Llate at hG
    by_cases he : e = -1
    · rw [if_pos he, tks_0] at hG
      refine run [] 60 _ _ _ _ _ _ ?_
      conv => whnf
      refine ⟨fun h => ?_, fun h => ?_⟩
      · conv => whnf
        exact hG _ _ ⟨rfl, rfl⟩
      · conv => whnf
        refine ⟨fun h => ?_, fun h => absurd he h⟩
        conv => whnf
        exact hG _ _ ⟨rfl, rfl⟩
    · rw [if_neg he] at hG
      obtain ⟨q, hq, hqe⟩ := hei.resolve_left he
      have hinq : vp_in e 100 := by rw [hqe]; exact vp_in_nI (by omega) (by decide)
      have loop := lp_up (fun i => OK 0 0 55 [(0, .ref 0), (1, .int wt), (2, .int e), (3, .int (nI i))] [] (wM (xf S (tks wt (s3 S) (lsn (fun r => ifl (S.2.2.1 6 r = 0 ∧ ¬ S.2.2.1 3 r < S.2.2.1 3 (tn e)) (nI r) e) i))))) n
        (by
          generalize tks wt (s3 S) (lsn (fun r => ifl (S.2.2.1 6 r = 0 ∧ ¬ S.2.2.1 3 r < S.2.2.1 3 (tn e)) (nI r) e) n) = Y at hG ⊢
          refine run [55] 60 _ _ _ _ _ _ ?_
          conv => whnf
          refine pk_le n n (fun h => ?_) (fun h => absurd h (by omega)) h1
          conv => whnf
          exact hG _ _ ⟨rfl, rfl⟩)
        (fun i hi ih => by
          simp only [lsn] at ih
          rw [tks_app, nI_succ] at ih
          generalize tks wt (s3 S) (lsn (fun r => ifl (S.2.2.1 6 r = 0 ∧ ¬ S.2.2.1 3 r < S.2.2.1 3 (tn e)) (nI r) e) i) = Y at ih ⊢
          refine run [55] 60 _ _ _ _ _ _ ?_
          conv => whnf
          refine pk_le n i (fun h => absurd h (by omega)) (fun h => ?_) h1
          conv => whnf
          refine ⟨fun z => absurd z he, fun _ => ?_⟩
          conv => whnf
          refine ⟨vp_in_nI (by omega) (by decide), ?_⟩
          rw [nI_clamp (by omega)]
          conv => whnf
          refine ⟨fun hp => ?_, fun hp => ?_⟩
          · rw [ifl_f (fun z => hp z.1), tks_0] at ih
            conv => whnf
            exact ih
          · conv => whnf
            refine ⟨vp_in_nI (by omega) (by decide), ?_⟩
            rw [nI_clamp (by omega)]
            conv => whnf
            refine ⟨hinq, ?_⟩
            conv => whnf
            refine ⟨fun ht => ?_, fun ht => ?_⟩
            · have ht : S.2.2.1 3 i < S.2.2.1 3 (tn e) := ht
              rw [ifl_f (fun z => z.2 ht), tks_0] at ih
              conv => whnf
              exact ih
            · have ht : ¬ S.2.2.1 3 i < S.2.2.1 3 (tn e) := ht
              rw [ifl_t ⟨hp, ht⟩, tks_1] at ih
              conv => whnf
              refine ⟨(wt, nI i, e, xf S Y), rfl, rfl, trivial, ?_⟩
              rintro _ _ ⟨rfl, rfl⟩
              conv => whnf
              exact ih)
      exact loop 0 (by omega)
  have loop := lp_up (fun i => OK 0 0 4 [(0, .ref 0), (1, .int wt), (2, .int (elt (S.2.2.1 6) (S.2.2.1 3) i)), (3, .int (nI i))] [] (wM S)) n
    (by
      refine run [4, 55] 60 _ _ _ _ _ _ ?_
      conv => whnf
      refine pk_le n n (fun h => ?_) (fun h => absurd h (by omega)) h1
      conv => whnf
      exact second)
    (fun i hi ih => by
      rw [nI_succ] at ih
      simp only [elt] at ih
      have hei := elt_in (S.2.2.1 6) (S.2.2.1 3) i
      generalize elt (S.2.2.1 6) (S.2.2.1 3) i = e at hei ih ⊢
      refine run [4, 55] 60 _ _ _ _ _ _ ?_
      conv => whnf
      refine pk_le n i (fun h => absurd h (by omega)) (fun h => ?_) h1
      conv => whnf
      refine ⟨vp_in_nI (by omega) (by decide), ?_⟩
      rw [nI_clamp (by omega)]
      conv => whnf
      refine ⟨fun hp => ?_, fun hp => ?_⟩
      · rw [if_neg (fun z => absurd z.1 (Int32.not_lt.mpr hp))] at ih
        conv => whnf
        exact ih
      · have hp : 0 < S.2.2.1 6 i := Int32.not_le.mp hp
        conv => whnf
        refine ⟨fun he => ?_, fun he => ?_⟩
        · rw [if_pos ⟨hp, Or.inl he⟩] at ih
          conv => whnf
          exact ih
        · obtain ⟨q, hq, rfl⟩ := hei.resolve_left he
          conv => whnf
          refine ⟨vp_in_nI (by omega) (by decide), ?_⟩
          rw [nI_clamp (by omega)]
          conv => whnf
          refine ⟨vp_in_nI (by omega) (by decide), ?_⟩
          conv => whnf
          refine ⟨fun ht => ?_, fun ht => ?_⟩
          · have ht : S.2.2.1 3 (tn (nI q)) ≤ S.2.2.1 3 i := ht
            rw [if_neg (fun z => z.2.elim he (fun w => absurd w (Int32.not_lt.mpr ht)))] at ih
            conv => whnf
            exact ih
          · have ht : ¬ S.2.2.1 3 (tn (nI q)) ≤ S.2.2.1 3 i := ht
            rw [if_pos ⟨hp, Or.inr (Int32.not_le.mp ht)⟩] at ih
            conv => whnf
            exact ih)
  refine run [4] 60 _ _ _ _ _ _ ?_
  conv => whnf
  exact loop 0 (by omega)
theorem ct_X7_late (D : va_G) (dT : Nat → Nat) (l : Launch) : en_CT en_WD D vwCl dT l yX7_late cX7_late 4 (none) rm_X7_late f_X7_late := en_met en_WD1 en_WD2 (by decide) rfl rfl (tB_X7_late D dT l) (en_f_ln (fun _ => Nat.le_of_ble_eq_true rfl)) (en_f_bd bd_X7_late)
set_option maxRecDepth 100000 in
theorem mk_X7_late {D : va_G} {dT : Nat → Nat} {l : Launch} {R : Room} {s : State} {args : Array Value} {own : String} {idx : Nat} (h : en_WD s) (h1 : rm_X7_late.frames + 1 ≤ R.frames) (h2 : 8 + (4 + 11) + rm_X7_late.locals ≤ R.locals) (hl : (Jvm.Cond.methodLink own idx yX7_late).before args s = true ∨ ∃ host, (Jvm.Cond.methodLinkNest own idx yX7_late host).before args s = true) : en_mok en_WD D vwCl dT l R s args own (idx, 2, 9, 0, 0, f_X7_late) :=
  ⟨yX7_late, cX7_late, 4, none, rm_X7_late, 1, ct_X7_late D dT l, rfl, rfl, h1, h2, en_wd h 982 rfl rfl args, en_wd h 66 (by decide +kernel) rfl args, by decide, by decide, hl, ⟨RX7, TX7, 24, rfl, en_wd h 981 (by decide +kernel) rfl args, en_wd h 54 (by decide +kernel) rfl args, rfl⟩⟩
