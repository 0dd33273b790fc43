/-! THE CLASS AND THE REFERENCE SAY THE SAME: what holds between their worlds -/
def lbok (f : Nat → Int32) (n b : Nat) : Prop := ∀ r, r < n → ∃ c, c < b ∧ f r = nI c
def szok (Z F : Nat → Int32) : Prop := ∀ s, s < 8 → Z s = nI (ct (fun r => F (s * 100 + r) ≠ 0) 100)
def RelA (n : Nat) (S M : Sx) : Prop := n ≤ 100 ∧ S.1 1 = nI n ∧ M.1 0 = nI n ∧ S.1 0 = M.1 3
def RelB (S M : Sx) : Prop := S.2.2.1 2 = M.2.2.1 1 ∧ S.2.2.1 3 = M.2.2.1 2 ∧ S.2.2.1 4 = M.2.2.1 3 ∧ S.2.2.1 5 = M.2.2.1 6 ∧ S.2.2.1 10 = M.2.2.1 7 ∧ S.2.2.1 20 = M.2.2.1 9 ∧ S.2.2.1 22 = M.2.2.1 8 ∧ S.2.2.2 6 = M.2.2.2 4 ∧ S.2.2.2 7 = M.2.2.2 5
def RelC (n : Nat) (S : Sx) : Prop := zb (S.2.2.1 22) ∧ byok (S.2.2.1 20) ∧ pok (S.2.2.1 5) n ∧ lbok (S.2.2.1 3) n 5 ∧ lbok (S.2.2.1 2) n 30 ∧ lbok (S.2.2.1 4) n 100001 ∧ szok (S.2.2.1 21) (S.2.2.1 22)
def Rel (n : Nat) (w : Nat → Nat) (W k : Nat) (S M : Sx) : Prop := RelA n S M ∧ (wgt S w W k ∧ wgm M w W k) ∧ RelB S M ∧ RelC n S
def RelE (S M : Sx) : Prop := ∃ (n : Nat) (w : Nat → Nat) (W k : Nat), Rel n w W k S M
def datM (M M' : Sx) : Prop := (∀ j, j < 4 → M'.1 j = M.1 j) ∧ (∀ a, a < 10 → M'.2.2.1 a = M.2.2.1 a) ∧ M'.2.2.2 = M.2.2.2
theorem datM_rf (M : Sx) : datM M M := ⟨fun _ _ => rfl, fun _ _ => rfl, rfl⟩
theorem datM_tr {M N O : Sx} (h : datM M N) (g : datM N O) : datM M O := ⟨fun j hj => (g.1 j hj).trans (h.1 j hj), fun a ha => (g.2.1 a ha).trans (h.2.1 a ha), g.2.2.trans h.2.2⟩
theorem datM_i {M : Sx} {j : Nat} {v : Int32} (h : 4 ≤ j) : datM M (xi M j v) := ⟨fun i hi => if_neg (by omega), fun _ _ => rfl, rfl⟩
theorem datM_k {M M' : Sx} (h : kpm M M') : datM M M' := ⟨fun j hj => h.1 j (by omega), h.2.1, h.2.2⟩
theorem datM_a {M : Sx} {k : Nat} {f : Nat → Int32} (h : 10 ≤ k) : datM M (xa M k f) := ⟨fun _ _ => rfl, fun a ha => if_neg (by omega), rfl⟩
theorem datM_f {M : Sx} {Y : Int32 × Int32 × Int32} : datM M (xf M Y) := datM_tr (datM_tr (datM_i (by omega)) (datM_i (by omega))) (datM_i (by omega))
theorem rel_dat {n : Nat} {w : Nat → Nat} {W k : Nat} {S S' M M' : Sx} (h : Rel n w W k S M) (hS : dat S S') (hM : datM M M') : Rel n w W k S' M' := by
  obtain ⟨⟨a1, a2, a3, a4⟩, ⟨⟨g1, g2, g3, g4⟩, ⟨m1, m2, m3, m4⟩⟩, ⟨b1, b2, b3, b4, b5, b6, b7, b8, b9⟩, ⟨c1, c2, c3, c4, c5, c6, c7⟩⟩ := h
  obtain ⟨s0, ⟨s2, s3_, s4, s5, s10, s20, s21, s22⟩, sl⟩ := hS
  obtain ⟨t0, ta, tl⟩ := hM
  have t1 := ta 1 (by omega)
  have t2 := ta 2 (by omega)
  have t3 := ta 3 (by omega)
  have t6 := ta 6 (by omega)
  have t7 := ta 7 (by omega)
  have t8 := ta 8 (by omega)
  have t9 := ta 9 (by omega)
  refine ⟨⟨a1, (s0 1 (by omega)).trans a2, (t0 0 (by omega)).trans a3, ?_⟩, ⟨⟨g1, (s0 2 (by omega)).trans g2, (s0 3 (by omega)).trans g3, by rw [s10]; exact g4⟩, ⟨m1, (t0 1 (by omega)).trans m2, (t0 2 (by omega)).trans m3, by rw [t7]; exact m4⟩⟩, ⟨?_, ?_, ?_, ?_, ?_, ?_, ?_, ?_, ?_⟩, ?_, ?_, ?_, ?_, ?_, ?_, ?_⟩
  · rw [s0 0 (by omega), t0 3 (by omega), a4]
  · rw [s2, t1, b1]
  · rw [s3_, t2, b2]
  · rw [s4, t3, b3]
  · rw [s5, t6, b4]
  · rw [s10, t7, b5]
  · rw [s20, t9, b6]
  · rw [s22, t8, b7]
  · rw [sl, tl, b8]
  · rw [sl, tl, b9]
  · rw [s22]; exact c1
  · rw [s20]; exact c2
  · rw [s5]; exact c3
  · rw [s3_]; exact c4
  · rw [s2]; exact c5
  · rw [s4]; exact c6
  · rw [s21, s22]; exact c7
/-- both answer the same, and the worlds go on as they must -/
def both (v : Option Value) (w : List va_E) (v' : Option Value) (w' : List va_E) : Prop := ∃ (a : Int32) (S M : Sx), v = some (.int a) ∧ w = wX S ∧ v' = some (.int a) ∧ w' = wM M ∧ RelE S M
section Ops
variable {n : Nat} {w : Nat → Nat} {W k : Nat} {S M : Sx} {v v' : Option Value} {u u' : List va_E}
theorem op_id (h : Rel n w W k S M) {x : Int32} (hx : ans v u x S) (hm : ansM v' u' x (xi M 4 0)) : both v u v' u' := ⟨x, S, _, hx.1, hx.2, hm.1, hm.2, n, w, W, k, rel_dat h (dat_rf S) (datM_i (by omega))⟩
theorem op_row (h : Rel n w W k S M) {g l t : Int32}
    (hx : (¬ rowq g l t ∧ ans v u (-2) S) ∨ (rowq g l t ∧ n = 100 ∧ ans v u (-3) S) ∨ (rowq g l t ∧ n < 100 ∧ ans v u (nI n) (apx S n g l t)))
    (hm : (¬ rowq g l t ∧ ansM v' u' (-2) (xi M 4 0)) ∨ (rowq g l t ∧ n = 100 ∧ ansM v' u' (-3) (xi M 4 0)) ∨ (rowq g l t ∧ n < 100 ∧ ansM v' u' (nI n) (apm M n g l t))) : both v u v' u' := by
  rcases hx with ⟨q, hx⟩ | ⟨q, e, hx⟩ | ⟨q, e, hx⟩
  · rcases hm with ⟨-, hm⟩ | ⟨q', -⟩ | ⟨q', -⟩
    · exact op_id h hx hm
    · exact absurd q' q
    · exact absurd q' q
  · rcases hm with ⟨q', -⟩ | ⟨-, -, hm⟩ | ⟨-, e', -⟩
    · exact absurd q q'
    · exact op_id h hx hm
    · omega
  · rcases hm with ⟨q', -⟩ | ⟨-, e', -⟩ | ⟨-, -, hm⟩
    · exact absurd q q'
    · omega
    · refine ⟨nI n, _, _, hx.1, hx.2, hm.1, hm.2, n + 1, w, W, k, ?_⟩
      obtain ⟨⟨a1, a2, a3, a4⟩, ⟨gx, gm⟩, ⟨b1, b2, b3, b4, b5, b6, b7, b8, b9⟩, ⟨c1, c2, c3, c4, c5, c6, c7⟩⟩ := h
      obtain ⟨q1, q2, q3⟩ := q
      refine ⟨⟨by omega, rfl, rfl, a4⟩, ⟨gx, gm⟩, ⟨?_, ?_, ?_, ?_, b5, b6, b7, b8, b9⟩, c1, c2, ?_, ?_, ?_, ?_, c7⟩
      · show upd (S.2.2.1 2) n g = upd (M.2.2.1 1) n g
        rw [b1]
      · show upd (S.2.2.1 3) n l = upd (M.2.2.1 2) n l
        rw [b2]
      · show upd (S.2.2.1 4) n t = upd (M.2.2.1 3) n t
        rw [b3]
      · show upd (S.2.2.1 5) n (-1) = upd (M.2.2.1 6) n (-1)
        rw [b4]
      · intro r hr
        show upd (S.2.2.1 5) n (-1) r = -1 ∨ ∃ c, c < 4 ∧ upd (S.2.2.1 5) n (-1) r = nI c
        by_cases e2 : r = n
        · left; rw [e2, pk_us]
        · rw [pk_un e2]; exact c3 r (by omega)
      · intro r hr
        show ∃ c, c < 5 ∧ upd (S.2.2.1 3) n l r = nI c
        by_cases e2 : r = n
        · rw [e2, pk_us]; exact in_of (by decide) q2
        · rw [pk_un e2]; exact c4 r (by omega)
      · intro r hr
        show ∃ c, c < 30 ∧ upd (S.2.2.1 2) n g r = nI c
        by_cases e2 : r = n
        · rw [e2, pk_us]; exact in_of (by decide) q1
        · rw [pk_un e2]; exact c5 r (by omega)
      · intro r hr
        show ∃ c, c < 100001 ∧ upd (S.2.2.1 4) n t r = nI c
        by_cases e2 : r = n
        · rw [e2, pk_us]; exact in_of (by decide) q3
        · rw [pk_un e2]; exact c6 r (by omega)
theorem op_column (h : Rel n w W k S M) {r c : Int32} {y : Int64}
    (hx : (¬ (inr_ r n ∧ inr_ c 3) ∧ ans v u (-2) S) ∨ ((inr_ r n ∧ inr_ c 3) ∧ ans v u 1 (xl S 6 (vp_updL (S.2.2.2 6) (tn r * 3 + tn c) y))))
    (hm : (¬ (inr_ r n ∧ inr_ c 3) ∧ ansM v' u' (-2) (xi M 4 0)) ∨ ((inr_ r n ∧ inr_ c 3) ∧ ansM v' u' 1 (xl (xi M 4 0) 4 (vp_updL (M.2.2.2 4) (tn r * 3 + tn c) y)))) : both v u v' u' := by
  rcases hx with ⟨q, hx⟩ | ⟨q, hx⟩
  · rcases hm with ⟨-, hm⟩ | ⟨q', -⟩
    · exact op_id h hx hm
    · exact absurd q' q
  · rcases hm with ⟨q', -⟩ | ⟨-, hm⟩
    · exact absurd q q'
    · refine ⟨1, _, _, hx.1, hx.2, hm.1, hm.2, n, w, W, k, ?_⟩
      obtain ⟨⟨a1, a2, a3, a4⟩, ⟨gx, gm⟩, ⟨b1, b2, b3, b4, b5, b6, b7, b8, b9⟩, cc⟩ := h
      refine ⟨⟨a1, a2, a3, a4⟩, ⟨gx, gm⟩, ⟨b1, b2, b3, b4, b5, b6, b7, ?_, b9⟩, cc⟩
      show vp_updL (S.2.2.2 6) (tn r * 3 + tn c) y = vp_updL (M.2.2.2 4) (tn r * 3 + tn c) y
      rw [b8]
theorem op_word (h : Rel n w W k S M) {r c y : Int32}
    (hx : (¬ (inr_ r n ∧ inr_ c 64) ∧ ans v u (-2) S) ∨ ((inr_ r n ∧ inr_ c 64) ∧ ans v u (pcr (nwd (S.2.2.2 7 (tn r)) c y)) (xl S 7 (vp_updL (S.2.2.2 7) (tn r) (nwd (S.2.2.2 7 (tn r)) c y)))))
    (hm : (¬ (inr_ r n ∧ inr_ c 64) ∧ ansM v' u' (-2) (xi M 4 0)) ∨ ((inr_ r n ∧ inr_ c 64) ∧ ansM v' u' (bcn (nwd (M.2.2.2 5 (tn r)) c y) 64) (xl (xi M 4 0) 5 (vp_updL (M.2.2.2 5) (tn r) (nwd (M.2.2.2 5 (tn r)) c y))))) : both v u v' u' := by
  rcases hx with ⟨q, hx⟩ | ⟨q, hx⟩
  · rcases hm with ⟨-, hm⟩ | ⟨q', -⟩
    · exact op_id h hx hm
    · exact absurd q' q
  · rcases hm with ⟨q', -⟩ | ⟨-, hm⟩
    · exact absurd q q'
    · obtain ⟨⟨a1, a2, a3, a4⟩, ⟨gx, gm⟩, ⟨b1, b2, b3, b4, b5, b6, b7, b8, b9⟩, cc⟩ := h
      rw [pcr_bcn, b9] at hx
      refine ⟨_, _, _, hx.1, hx.2, hm.1, hm.2, n, w, W, k, ⟨a1, a2, a3, a4⟩, ⟨gx, gm⟩, ⟨b1, b2, b3, b4, b5, b6, b7, b8, rfl⟩, cc⟩
theorem op_parts (h : Rel n w W k S M) {kk a b c d : Int32}
    (hx : (¬ parq kk a b c d ∧ ans v u (-2) S) ∨ (parq kk a b c d ∧ ans v u (a + (if 1 < kk then b else 0) + (if 2 < kk then c else 0) + (if 3 < kk then d else 0)) (bcx S kk a (if 1 < kk then b else 0) (if 2 < kk then c else 0) (if 3 < kk then d else 0))))
    (hm : (¬ parm kk (ww a b c d) ∧ ansM v' u' (-2) (xi M 4 0)) ∨ (parm kk (ww a b c d) ∧ ansM v' u' (smp (ww a b c d) (tn kk)) (bcm M kk (ww a b c d)))) : both v u v' u' := by
  rw [← par_eq] at hm
  rcases hx with ⟨q, hx⟩ | ⟨q, hx⟩
  · rcases hm with ⟨-, hm⟩ | ⟨q', -⟩
    · exact op_id h hx hm
    · exact absurd q' q
  · rcases hm with ⟨q', -⟩ | ⟨-, hm⟩
    · exact absurd q q'
    · obtain ⟨e1, e2, w', W', hok, eW, ew⟩ := par_sum q
      obtain ⟨⟨a1, a2, a3, a4⟩, ⟨gx, gm⟩, ⟨b1, b2, b3, b4, b5, b6, b7, b8, b9⟩, cc⟩ := h
      rw [e1] at hx
      have hk2 : kk = nI (tn kk) := by
        obtain ⟨j, hj, rfl⟩ := le_of (b := 4) (by decide) ⟨Int32.le_trans (by decide) q.1.1, q.1.2⟩
        rw [show tn (nI j) = j from nI_clamp (by omega)]
      refine ⟨_, _, _, hx.1, hx.2, hm.1, hm.2, n, w', W', tn kk, ⟨a1, a2, a3, a4⟩, ⟨⟨hok, hk2, e1.trans eW, fun j hj => ?_⟩, ⟨hok, hk2, eW, fun j hj => ?_⟩⟩, ⟨b1, b2, b3, b4, ?_, b6, b7, b8, b9⟩, cc⟩
      · show upd (upd (upd (upd (S.2.2.1 10) 0 a) 1 (if 1 < kk then b else 0)) 2 (if 2 < kk then c else 0)) 3 (if 3 < kk then d else 0) j = nI (w' j)
        have : tn kk ≤ 4 := hok.2.1
        rw [e2, mx_lt (by omega), if_pos hj, ew j hj]
      · show mx 4 (fun i => if i < tn kk then ww a b c d i else 0) (M.2.2.1 7) j = nI (w' j)
        have : tn kk ≤ 4 := hok.2.1
        rw [mx_lt (by omega), if_pos hj, ew j hj]
      · show upd (upd (upd (upd (S.2.2.1 10) 0 a) 1 (if 1 < kk then b else 0)) 2 (if 2 < kk then c else 0)) 3 (if 3 < kk then d else 0) = mx 4 (fun i => if i < tn kk then ww a b c d i else 0) (M.2.2.1 7)
        rw [e2, b5]
theorem op_quota (h : Rel n w W k S M) {p m : Int32}
    (hx : (¬ (inr_ p k ∧ (0 ≤ m ∧ m < 100001)) ∧ ansE v u (-2) S) ∨ ((inr_ p k ∧ (0 ≤ m ∧ m < 100001)) ∧ ansE v u (nI (qf w W k (tn m) (tn p))) S))
    (hm : (¬ (inr_ p k ∧ (0 ≤ m ∧ m < 100001)) ∧ ansM v' u' (-2) (xi M 4 0)) ∨ ((inr_ p k ∧ (0 ≤ m ∧ m < 100001)) ∧ ∃ q r, ansM v' u' (nI (qf w W k (tn m) (tn p))) (xa (xa (xi M 4 0) 10 q) 11 r))) : both v u v' u' := by
  rcases hx with ⟨q, e, S', e2, hk⟩ | ⟨q, e, S', e2, hk⟩
  · rcases hm with ⟨-, hm⟩ | ⟨q', -⟩
    · exact ⟨_, S', _, e, e2, hm.1, hm.2, n, w, W, k, rel_dat h (dat_k hk) (datM_i (by omega))⟩
    · exact absurd q' q
  · rcases hm with ⟨q', -⟩ | ⟨-, qq, rr, hm⟩
    · exact absurd q q'
    · exact ⟨_, S', _, e, e2, hm.1, hm.2, n, w, W, k, rel_dat h (dat_k hk) (datM_tr (datM_tr (datM_i (by omega)) (datM_a (by omega))) (datM_a (by omega)))⟩
theorem op_of (h : Rel n w W k S M) {r : Int32} (hx : ans v u (if inr_ r n then S.2.2.1 5 (tn r) else -2) S) (hm : ansM v' u' (if inr_ r n then M.2.2.1 6 (tn r) else -2) (xi M 4 0)) : both v u v' u' := by
  rw [h.2.2.1.2.2.2.1] at hx
  exact op_id h hx hm
theorem op_many (h : Rel n w W k S M) {p l : Int32} (hx : ans v u (if manq p l then nI (cin (S.2.2.1 5) (S.2.2.1 3) n p l) else -2) S) (hm : ansM v' u' (if manq p l then nI (cin (M.2.2.1 6) (M.2.2.1 2) n p l) else -2) (xi M 4 0)) : both v u v' u' := by
  rw [h.2.2.1.2.2.2.1, h.2.2.1.2.1] at hx
  exact op_id h hx hm
theorem op_over (h : Rel n w W k S M) {g : Int32} (hx : ansE v u (if 0 ≤ g ∧ g < 30 then ovv (S.2.2.1 2) (S.2.2.1 5) w W k n g else -2) S) (hm : ∃ M', kpm (xi M 4 0) M' ∧ ansM v' u' (if 0 ≤ g ∧ g < 30 then ovv (M.2.2.1 1) (M.2.2.1 6) w W k n g else -2) M') : both v u v' u' := by
  rw [h.2.2.1.1, h.2.2.1.2.2.2.1] at hx
  obtain ⟨e, S', e2, hk⟩ := hx
  obtain ⟨M', hk', hm⟩ := hm
  exact ⟨_, S', M', e, e2, hm.1, hm.2, n, w, W, k, rel_dat h (dat_k hk) (datM_tr (datM_i (by omega)) (datM_k hk'))⟩
theorem op_near (h : Rel n w W k S M) {p : Int32} (hx : (¬ (1 ≤ p ∧ p ≤ 100) ∧ ans v u (-2) S) ∨ ((1 ≤ p ∧ p ≤ 100) ∧ ans v u (S.1 0) (xi S 0 p))) (hm : (¬ (1 ≤ p ∧ p ≤ 100) ∧ ansM v' u' (-2) (xi M 4 0)) ∨ ((1 ≤ p ∧ p ≤ 100) ∧ ansM v' u' (M.1 3) (xi (xi M 4 0) 3 p))) : both v u v' u' := by
  rcases hx with ⟨q, hx⟩ | ⟨q, hx⟩
  · rcases hm with ⟨-, hm⟩ | ⟨q', -⟩
    · exact op_id h hx hm
    · exact absurd q' q
  · rcases hm with ⟨q', -⟩ | ⟨-, hm⟩
    · exact absurd q q'
    · obtain ⟨⟨a1, a2, a3, a4⟩, ⟨gx, gm⟩, bb, cc⟩ := h
      rw [a4] at hx
      exact ⟨_, _, _, hx.1, hx.2, hm.1, hm.2, n, w, W, k, ⟨a1, a2, a3, rfl⟩, ⟨gx, gm⟩, bb, cc⟩
theorem op_fit (h : Rel n w W k S M) {s r : Int32}
    (hx : (¬ fitq s r n ∧ ans v u (-2) S) ∨ (fitq s r n ∧ ¬ S.2.2.1 22 (tn s * 100 + tn r) = 0 ∧ ans v u (-4) S) ∨ (fitq s r n ∧ S.2.2.1 22 (tn s * 100 + tn r) = 0 ∧ ans v u (S.2.2.1 21 (tn s) + 1) (xa (xa S 22 (upd (S.2.2.1 22) (tn s * 100 + tn r) 1)) 21 (upd (S.2.2.1 21) (tn s) (S.2.2.1 21 (tn s) + 1)))))
    (hm : (¬ fitq s r n ∧ ansM v' u' (-2) (xi M 4 0)) ∨ (fitq s r n ∧ ¬ M.2.2.1 8 (tn s * 100 + tn r) = 0 ∧ ansM v' u' (-4) (xi M 4 0)) ∨ (fitq s r n ∧ M.2.2.1 8 (tn s * 100 + tn r) = 0 ∧ ansM v' u' (nI (ct (fun q => upd (M.2.2.1 8) (tn s * 100 + tn r) 1 (tn s * 100 + q) ≠ 0) 100)) (xa (xi M 4 0) 8 (upd (M.2.2.1 8) (tn s * 100 + tn r) 1)))) : both v u v' u' := by
  have e22 := h.2.2.1.2.2.2.2.2.2.1
  rcases hx with ⟨q, hx⟩ | ⟨q, e, hx⟩ | ⟨q, e, hx⟩
  · rcases hm with ⟨-, hm⟩ | ⟨q', -⟩ | ⟨q', -⟩
    · exact op_id h hx hm
    · exact absurd q' q
    · exact absurd q' q
  · rw [e22] at e
    rcases hm with ⟨q', -⟩ | ⟨-, -, hm⟩ | ⟨-, e', -⟩
    · exact absurd q q'
    · exact op_id h hx hm
    · exact absurd e' e
  · rcases hm with ⟨q', -⟩ | ⟨-, e', -⟩ | ⟨-, -, hm⟩
    · exact absurd q q'
    · rw [← e22] at e'
      exact absurd e e'
    · obtain ⟨⟨a1, a2, a3, a4⟩, ⟨gx, gm⟩, ⟨b1, b2, b3, b4, b5, b6, b7, b8, b9⟩, ⟨c1, c2, c3, c4, c5, c6, c7⟩⟩ := h
      obtain ⟨i, hi, rfl⟩ := in_of (b := 8) (by decide) q.1
      obtain ⟨j, hj, rfl⟩ := in_of (by omega) q.2
      rw [show tn (nI i) = i from nI_clamp (by omega), show tn (nI j) = j from nI_clamp (by omega)] at e hx hm
      rw [← b7, fit_ct (by omega) e, nI_succ, ← c7 i hi] at hm
      refine ⟨_, _, _, hx.1, hx.2, hm.1, hm.2, n, w, W, k, ⟨a1, a2, a3, a4⟩, ⟨gx, gm⟩, ⟨b1, b2, b3, b4, b5, b6, rfl, b8, b9⟩, ?_, c2, c3, c4, c5, c6, ?_⟩
      · intro x
        show upd (S.2.2.1 22) (i * 100 + j) 1 x = 0 ∨ upd (S.2.2.1 22) (i * 100 + j) 1 x = 1
        by_cases e2 : x = i * 100 + j
        · right; rw [e2, pk_us]
        · rw [pk_un e2]; exact c1 x
      · intro t ht
        show upd (S.2.2.1 21) i (S.2.2.1 21 i + 1) t = nI (ct (fun r => upd (S.2.2.1 22) (i * 100 + j) 1 (t * 100 + r) ≠ 0) 100)
        by_cases e2 : t = i
        · rw [e2, pk_us, fit_ct (by omega) e, nI_succ, c7 i hi]
        · rw [pk_un e2, fit_ot (by omega) e2, c7 t ht]
theorem op_base (h : Rel n w W k S M) {s b : Int32}
    (hx : (¬ basq s b ∧ ans v u (-2) S) ∨ (basq s b ∧ ans v u (S.2.2.1 20 (tn s)) (xa S 20 (upd (S.2.2.1 20) (tn s) b))))
    (hm : (¬ basq s b ∧ ansM v' u' (-2) (xi M 4 0)) ∨ (basq s b ∧ ansM v' u' (M.2.2.1 9 (tn s)) (xa (xi M 4 0) 9 (upd (M.2.2.1 9) (tn s) b)))) : both v u v' u' := by
  rcases hx with ⟨q, hx⟩ | ⟨q, hx⟩
  · rcases hm with ⟨-, hm⟩ | ⟨q', -⟩
    · exact op_id h hx hm
    · exact absurd q' q
  · rcases hm with ⟨q', -⟩ | ⟨-, hm⟩
    · exact absurd q q'
    · obtain ⟨⟨a1, a2, a3, a4⟩, ⟨gx, gm⟩, ⟨b1, b2, b3, b4, b5, b6, b7, b8, b9⟩, ⟨c1, c2, c3, c4, c5, c6, c7⟩⟩ := h
      rw [b6] at hx
      refine ⟨_, _, _, hx.1, hx.2, hm.1, hm.2, n, w, W, k, ⟨a1, a2, a3, a4⟩, ⟨gx, gm⟩, ⟨b1, b2, b3, b4, b5, rfl, b7, b8, b9⟩, c1, ?_, c3, c4, c5, c6, c7⟩
      obtain ⟨i, hi, rfl⟩ := in_of (b := 8) (by decide) q.1
      intro x hx8
      show upd (M.2.2.1 9) (tn (nI i)) b x = -1 ∨ ∃ j, j < x ∧ upd (M.2.2.1 9) (tn (nI i)) b x = nI j
      rw [show tn (nI i) = i from nI_clamp (by omega)]
      by_cases e2 : x = i
      · rw [e2, pk_us]
        rcases q.2 with q2 | q2
        · exact Or.inl q2
        · exact Or.inr (in_of (by omega) q2)
      · rw [pk_un e2, ← b6]; exact c2 x hx8
theorem LK_eq (h : Rel n w W k S M) {j : Nat} : LKX S n j (S.1 0) = LM M n j := by
  obtain ⟨⟨a1, a2, a3, a4⟩, -, ⟨b1, b2, b3, b4, b5, b6, b7, b8, b9⟩, ⟨c1, c2, c3, c4, c5, c6, c7⟩⟩ := h
  have hL : ∀ r, r < n → M.2.2.1 2 r ≠ -1 := fun r hr => by
    obtain ⟨c, hc, e⟩ := c4 r hr
    rw [← b2, e]; exact nI_ne (by omega)
  match j with
  | 0 =>
    show Lpair (S.2.2.2 6) (S.2.2.2 7) (S.2.2.1 5) (nI 0) (S.1 0) n = LpairM (M.2.2.2 4) (M.2.2.2 5) (M.2.2.1 6) 1 (M.1 3) n
    rw [b4, b8, b9, a4]
    exact pair_eq0
  | 1 =>
    show Lpair (S.2.2.2 6) (S.2.2.2 7) (S.2.2.1 5) (nI 1) (S.1 0) n = LpairM (M.2.2.2 4) (M.2.2.2 5) (M.2.2.1 6) 0 (M.1 3) n
    rw [b4, b8, b9, a4]
    exact pair_eq1
  | 2 =>
    show Lgrp (S.2.2.1 2) (S.2.2.1 5) n = Lgrp (M.2.2.1 1) (M.2.2.1 6) n
    rw [b1, b4]
  | 3 =>
    show Llate (S.2.2.1 5) (S.2.2.1 4) (elt (S.2.2.1 5) (S.2.2.1 4) n) n = Llate (M.2.2.1 6) (M.2.2.1 3) (elt (M.2.2.1 6) (M.2.2.1 3) n) n
    rw [b3, b4]
  | 4 =>
    show Ltell (S.2.2.2 6) (S.2.2.1 5) (S.2.2.1 3) n = LtellM (M.2.2.2 4) (M.2.2.1 6) (M.2.2.1 2) n
    rw [b2, b4, b8]
    exact tell_eq hL
  | j + 5 =>
    show Lfit (S.2.2.1 20) (S.2.2.1 22) (S.2.2.1 5) n = Lfit (M.2.2.1 9) (M.2.2.1 8) (M.2.2.1 6) n
    rw [b4, b6, b7]
theorem op_leaks (h : Rel n w W k S M) {kd : Int32} (hx : ansD v u (if 0 ≤ kd ∧ kd ≤ 5 then (tks (-1) (0, S.1 7, S.1 8) (LKX S n (tn kd) (S.1 0))).1 else -2) S) (hm : ansL v' u' (if 0 ≤ kd ∧ kd ≤ 5 then (tks (-1) (0, M.1 7, M.1 8) (LM M n (tn kd))).1 else -2) M) : both v u v' u' := by
  rw [LK_eq h, leaks_eq (a' := M.1 7) (b' := M.1 8)] at hx
  obtain ⟨e, S', e2, hd⟩ := hx
  obtain ⟨e', Y, e2'⟩ := hm
  exact ⟨_, S', _, e, e2, e', e2', n, w, W, k, rel_dat h hd (datM_tr (datM_i (by omega)) datM_f)⟩
theorem op_leak (h : Rel n w W k S M) {kd i wh : Int32} (hx : ansD v u (if lkq kd i wh then (if i < (tks i (0, S.1 7, S.1 8) (LKX S n (tn kd) (S.1 0))).1 then (if wh = 0 then (tks i (0, S.1 7, S.1 8) (LKX S n (tn kd) (S.1 0))).2.1 else (tks i (0, S.1 7, S.1 8) (LKX S n (tn kd) (S.1 0))).2.2) else -2) else -2) S) (hm : ansL v' u' (if lkq kd i wh then (if i < (tks i (0, M.1 7, M.1 8) (LM M n (tn kd))).1 then (if wh = 0 then (tks i (0, M.1 7, M.1 8) (LM M n (tn kd))).2.1 else (tks i (0, M.1 7, M.1 8) (LM M n (tn kd))).2.2) else -2) else -2) M) : both v u v' u' := by
  have hlen : (LM M n (tn kd)).length ≤ 10000 := by
    rw [← LK_eq h]; exact LK_len h.1.1
  obtain ⟨e, S', e2, hd⟩ := hx
  obtain ⟨e', Y, e2'⟩ := hm
  refine ⟨_, S', _, e, e2, ?_, e2', n, w, W, k, rel_dat h hd (datM_tr (datM_i (by omega)) datM_f)⟩
  rw [e', LK_eq h]
  by_cases q : lkq kd i wh
  · rw [if_pos q, if_pos q, leak_eq hlen q.2.1]
  · rw [if_neg q, if_neg q]
theorem op_meets (h : Rel n w W k S M) (hx : ansD v u (nI (mts (S.2.2.2 6) (S.2.2.2 7) (S.2.2.1 5) n)) S) (hm : ansM v' u' (nI (mts (M.2.2.2 4) (M.2.2.2 5) (M.2.2.1 6) n)) (xi M 4 0)) : both v u v' u' := by
  rw [h.2.2.1.2.2.2.1, h.2.2.1.2.2.2.2.2.2.2.1, h.2.2.1.2.2.2.2.2.2.2.2] at hx
  obtain ⟨e, S', e2, hd⟩ := hx
  exact ⟨_, S', _, e, e2, hm.1, hm.2, n, w, W, k, rel_dat h hd (datM_i (by omega))⟩
theorem op_told (h : Rel n w W k S M) {x : Int32} (hx : ans v u (if x = 0 then nI n else if x = 1 then S.1 2 else if x = 2 then S.1 3 else if x = 3 then nI (ct (fun r => S.2.2.1 5 r ≠ -1) n) else if x = 4 then S.1 0 else -2) S) (hm : ansM v' u' (if x = 0 then nI n else if x = 1 then M.1 1 else if x = 2 then M.1 2 else if x = 3 then nI (ct (fun r => M.2.2.1 6 r ≠ -1) n) else if x = 4 then M.1 3 else -2) (xi M 4 0)) : both v u v' u' := by
  obtain ⟨a1, a2, a3, a4⟩ := h.1
  obtain ⟨⟨-, g2, g3, -⟩, ⟨-, m2, m3, -⟩⟩ := h.2.1
  rw [g2, g3, a4, h.2.2.1.2.2.2.1] at hx
  rw [m2, m3] at hm
  exact op_id h hx hm
end Ops
