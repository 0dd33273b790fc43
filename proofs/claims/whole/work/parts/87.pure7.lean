/-! pure: columns that tell the label, two ways -/
theorem fs_iff {p : Nat → Prop} [DecidablePred p] {n : Nat} : fs p n = none ↔ ∀ j, j < n → ¬ p j := ⟨fs_no, fs_none⟩
theorem ct_drop {p q : Nat → Prop} [DecidablePred p] [DecidablePred q] {a : Nat} (hp : p a) (hq : ¬ q a) : ∀ {n : Nat}, a < n → (∀ i, i < n → i ≠ a → (p i ↔ q i)) → ct p n = ct q n + 1
  | 0, h, _ => by omega
  | n + 1, h, hi => by
    by_cases e : a = n
    · subst e
      rw [ct_t hp, ct_f hq, ct_c (p := p) (q := q) (fun i hi2 => hi i (by omega) (by omega))]
    · have ih := ct_drop (n := n) hp hq (by omega) (fun i h1 h2 => hi i (by omega) h2)
      have hn := hi n (by omega) (fun z => e z.symm)
      by_cases h3 : p n
      · rw [ct_t h3, ct_t (hn.mp h3), ih]
      · rw [ct_f h3, ct_f (fun z => h3 (hn.mpr z)), ih]
theorem ct_le1 {p : Nat → Prop} [DecidablePred p] {r : Nat} : ∀ {n : Nat}, (∀ i, i < n → p i → i = r) → ct p n ≤ 1
  | 0, _ => Nat.zero_le 1
  | n + 1, h => by
    by_cases hp : p n
    · have e := h n (by omega) hp
      rw [ct_t hp, ct_0 (fun i hi hpi => by have := h i (by omega) hpi; omega)]
      exact Nat.le_refl 1
    · rw [ct_f hp]
      exact ct_le1 (fun i hi => h i (by omega))
theorem ct_ge {p : Nat → Prop} [DecidablePred p] {i : Nat} (hp : p i) : ∀ {n : Nat}, i < n → 1 ≤ ct p n
  | 0, h => by omega
  | n + 1, h => by
    by_cases e : i = n
    · subst e; rw [ct_t hp]; omega
    · have := ct_ge (n := n) hp (by omega)
      by_cases h2 : p n
      · rw [ct_t h2]; omega
      · rw [ct_f h2]; exact this
theorem ct_two {p : Nat → Prop} [DecidablePred p] {i j : Nat} (hi : p i) (hj : p j) (hij : i < j) : ∀ {n : Nat}, j < n → 1 < ct p n
  | 0, h => by omega
  | n + 1, h => by
    by_cases e : j = n
    · subst e
      have := ct_ge hi hij
      rw [ct_t hj]; omega
    · have := ct_two (n := n) hi hj hij (by omega)
      by_cases h2 : p n
      · rw [ct_t h2]; omega
      · rw [ct_f h2]; exact this
theorem last_of {r : Nat → Prop} : ∀ {m : Nat}, (∃ a, a < m ∧ r a) → ∃ a, a < m ∧ r a ∧ ∀ b, a < b → b < m → ¬ r b
  | 0, ⟨a, h, _⟩ => by omega
  | m + 1, ⟨a, h, hr⟩ => by
    by_cases hm : r m
    · exact ⟨m, by omega, hm, fun b h1 h2 => by omega⟩
    · obtain ⟨q, h1, h2, h3⟩ := last_of (m := m) ⟨a, by
        have : a ≠ m := fun z => hm (z ▸ hr)
        omega, hr⟩
      refine ⟨q, by omega, h2, fun b hb1 hb2 => ?_⟩
      by_cases e : b = m
      · rw [e]; exact hm
      · exact h3 b hb1 (by omega)
/-- as many first ones as last ones -/
theorem firsts_lasts (K : Nat → Int64) (P : Nat → Int32) : ∀ m, ct (fun a => P a ≠ -1 ∧ fs (fun q => P q ≠ -1 ∧ K q = K a) a = none) m = ct (fun a => P a ≠ -1 ∧ fs (fun b => a + 1 ≤ b ∧ P b ≠ -1 ∧ K a = K b) m = none) m
  | 0 => rfl
  | m + 1 => by
    have ih := firsts_lasts K P m
    by_cases hm : P m ≠ -1
    · have hlast : P m ≠ -1 ∧ fs (fun b => m + 1 ≤ b ∧ P b ≠ -1 ∧ K m = K b) (m + 1) = none := ⟨hm, fs_iff.mpr (fun j hj z => by have := z.1; omega)⟩
      rw [ct_t (p := fun a => P a ≠ -1 ∧ fs (fun b => a + 1 ≤ b ∧ P b ≠ -1 ∧ K a = K b) (m + 1) = none) hlast]
      by_cases he : ∃ a, a < m ∧ (P a ≠ -1 ∧ K a = K m)
      · have hnf : ¬ (P m ≠ -1 ∧ fs (fun q => P q ≠ -1 ∧ K q = K m) m = none) := fun z => by
          obtain ⟨a, ha, hp⟩ := he
          exact fs_iff.mp z.2 a ha hp
        rw [ct_f (p := fun a => P a ≠ -1 ∧ fs (fun q => P q ≠ -1 ∧ K q = K a) a = none) hnf, ih]
        obtain ⟨a, ha, hpa, hl⟩ := last_of (r := fun a => P a ≠ -1 ∧ K a = K m) he
        refine ct_drop (a := a) ⟨hpa.1, fs_iff.mpr (fun j hj z => hl j (by have := z.1; omega) hj ⟨z.2.1, by rw [← z.2.2]; exact hpa.2⟩)⟩ (fun z => fs_iff.mp z.2 m (by omega) ⟨by omega, hm, hpa.2⟩) ha (fun i hi hia => ?_)
        constructor
        · rintro ⟨h1, h2⟩
          refine ⟨h1, fs_iff.mpr (fun j hj z => ?_)⟩
          by_cases e : j = m
          · subst e
            by_cases h3 : i < a
            · exact fs_iff.mp h2 a ha ⟨by omega, hpa.1, by rw [z.2.2, hpa.2]⟩
            · exact hl i (by omega) hi ⟨h1, z.2.2⟩
          · exact fs_iff.mp h2 j (by omega) z
        · rintro ⟨h1, h2⟩
          exact ⟨h1, fs_iff.mpr (fun j hj z => fs_iff.mp h2 j (by omega) z)⟩
      · have hf : P m ≠ -1 ∧ fs (fun q => P q ≠ -1 ∧ K q = K m) m = none := ⟨hm, fs_iff.mpr (fun j hj z => he ⟨j, hj, z⟩)⟩
        rw [ct_t (p := fun a => P a ≠ -1 ∧ fs (fun q => P q ≠ -1 ∧ K q = K a) a = none) hf, ih]
        congr 1
        refine ct_c (fun i hi => ?_)
        constructor
        · rintro ⟨h1, h2⟩
          refine ⟨h1, fs_iff.mpr (fun j hj z => ?_)⟩
          by_cases e : j = m
          · subst e
            exact he ⟨i, hi, h1, z.2.2⟩
          · exact fs_iff.mp h2 j (by omega) z
        · rintro ⟨h1, h2⟩
          exact ⟨h1, fs_iff.mpr (fun j hj z => fs_iff.mp h2 j (by omega) z)⟩
    · rw [ct_f (p := fun a => P a ≠ -1 ∧ fs (fun b => a + 1 ≤ b ∧ P b ≠ -1 ∧ K a = K b) (m + 1) = none) (fun z => hm z.1), ct_f (p := fun a => P a ≠ -1 ∧ fs (fun q => P q ≠ -1 ∧ K q = K a) a = none) (fun z => hm z.1), ih]
      refine ct_c (fun i hi => ?_)
      constructor
      · rintro ⟨h1, h2⟩
        refine ⟨h1, fs_iff.mpr (fun j hj z => ?_)⟩
        by_cases e : j = m
        · subst e
          exact hm z.2.1
        · exact fs_iff.mp h2 j (by omega) z
      · rintro ⟨h1, h2⟩
        exact ⟨h1, fs_iff.mpr (fun j hj z => fs_iff.mp h2 j (by omega) z)⟩
/-- two rows that have q have unlike labels -/
def unl (q : Nat → Prop) (Lb : Nat → Int32) (n : Nat) : Prop := ∃ b b', b < n ∧ b' < n ∧ q b ∧ q b' ∧ Lb b ≠ Lb b'
theorem tst_is {N : Nat → Int64} {P Lb : Nat → Int32} {n c : Nat} (hL : ∀ r, r < n → Lb r ≠ -1) : ∀ i, i ≤ n → ((∀ a, a < i → ¬ (P a ≠ -1 ∧ sab N P n c a)) ∧ tst N P Lb n c i = (-1, false)) ∨ (∃ a, a < i ∧ (P a ≠ -1 ∧ sab N P n c a) ∧ (tst N P Lb n c i).1 = Lb a ∧ ((tst N P Lb n c i).2 = false → ∀ b, b < i → (P b ≠ -1 ∧ sab N P n c b) → Lb b = Lb a) ∧ ((tst N P Lb n c i).2 = true → unl (fun a => P a ≠ -1 ∧ sab N P n c a) Lb i))
  | 0, _ => Or.inl ⟨fun a h => by omega, rfl⟩
  | i + 1, hi => by
    have ih := tst_is (N := N) (P := P) (c := c) hL i (by omega)
    by_cases hq : P i ≠ -1 ∧ sab N P n c i
    · right
      refine ⟨i, by omega, hq, ?_⟩
      rw [tst_t hq]
      rcases ih with ⟨h1, h2⟩ | ⟨a, ha, hqa, h1, h2, h3⟩
      · rw [h2]
        refine ⟨rfl, fun _ b hb hqb => ?_, fun z => ?_⟩
        · by_cases e : b = i
          · rw [e]
          · exact absurd hqb (h1 b (by omega))
        · exfalso
          have z : (false || decide ((-1 : Int32) ≠ -1 ∧ (-1 : Int32) ≠ Lb i)) = true := z
          simp at z
      · refine ⟨rfl, fun z b hb hqb => ?_, fun z => ?_⟩
        · have z : ((tst N P Lb n c i).2 || decide ((tst N P Lb n c i).1 ≠ -1 ∧ (tst N P Lb n c i).1 ≠ Lb i)) = false := z
          rw [Bool.or_eq_false_iff, decide_eq_false_iff_not, h1] at z
          have hai : Lb a = Lb i := Decidable.byContradiction fun y => z.2 ⟨hL a (by omega), y⟩
          by_cases e : b = i
          · rw [e]
          · rw [h2 z.1 b (by omega) hqb, hai]
        · have z : ((tst N P Lb n c i).2 || decide ((tst N P Lb n c i).1 ≠ -1 ∧ (tst N P Lb n c i).1 ≠ Lb i)) = true := z
          rw [Bool.or_eq_true, decide_eq_true_iff, h1] at z
          rcases z with z | z
          · obtain ⟨b, b', x1, x2, x3, x4, x5⟩ := h3 z
            exact ⟨b, b', by omega, by omega, x3, x4, x5⟩
          · exact ⟨a, i, by omega, by omega, hqa, hq, z.2⟩
    · rw [tst_f hq]
      rcases ih with ⟨h1, h2⟩ | ⟨a, ha, hqa, h1, h2, h3⟩
      · left
        refine ⟨fun a ha => ?_, h2⟩
        by_cases e : a = i
        · rw [e]; exact hq
        · exact h1 a (by omega)
      · right
        refine ⟨a, by omega, hqa, h1, fun z b hb hqb => ?_, fun z => ?_⟩
        · refine h2 z b ?_ hqb
          have : b ≠ i := fun y => hq (y ▸ hqb)
          omega
        · obtain ⟨b, b', x1, x2, x3, x4, x5⟩ := h3 z
          exact ⟨b, b', by omega, by omega, x3, x4, x5⟩
theorem tst_un {N : Nat → Int64} {P Lb : Nat → Int32} {n c : Nat} (hL : ∀ r, r < n → Lb r ≠ -1) : (tst N P Lb n c n).2 = true ↔ unl (fun a => P a ≠ -1 ∧ sab N P n c a) Lb n := by
  rcases tst_is (N := N) (P := P) (c := c) hL n (Nat.le_refl n) with ⟨h1, h2⟩ | ⟨a, ha, hqa, h1, h2, h3⟩
  · rw [h2]
    constructor
    · intro z; cases z
    · rintro ⟨b, b', x1, x2, x3, x4, x5⟩
      exact absurd x3 (h1 b x1)
  · refine ⟨h3, ?_⟩
    rintro ⟨b, b', x1, x2, x3, x4, x5⟩
    cases hz : (tst N P Lb n c n).2 with
    | true => rfl
    | false => exact absurd ((h2 hz b x1 x3).trans (h2 hz b' x2 x4).symm) x5
/-- the reference's first rows that stand for a pure number that comes again -/
abbrev gr (N : Nat → Int64) (P Lb : Nat → Int32) (n c r : Nat) : Prop := fsr N P c r n ∧ 1 < ct (smn N P c r) n ∧ oner N P Lb c r n
theorem cst_is {N : Nat → Int64} {P Lb : Nat → Int32} {n c : Nat} (hL : ∀ r, r < n → Lb r ≠ -1) : ∀ i, i ≤ n → (cst N P Lb n c i).1 = ct (fun r => fsr N P c r n) i ∧ ((cst N P Lb n c i).2.2.2.2 = true ↔ ∃ r, r < i ∧ fsr N P c r n ∧ ¬ oner N P Lb c r n) ∧ (((∀ r, r < i → ¬ gr N P Lb n c r) ∧ (cst N P Lb n c i).2.2.1 = -1 ∧ (cst N P Lb n c i).2.2.2.1 = false) ∨ (∃ a, a < i ∧ gr N P Lb n c a ∧ (cst N P Lb n c i).2.2.1 = Lb a ∧ 1 ≤ (cst N P Lb n c i).2.1 ∧ ((cst N P Lb n c i).2.2.2.1 = false → ∀ b, b < i → gr N P Lb n c b → Lb b = Lb a) ∧ ((cst N P Lb n c i).2.2.2.1 = true → 1 < (cst N P Lb n c i).2.1 ∧ unl (gr N P Lb n c) Lb i)))
  | 0, _ => ⟨rfl, ⟨fun z => absurd (show false = true from z) (by decide), fun ⟨r, h, _⟩ => absurd h (Nat.not_lt_zero r)⟩, Or.inl ⟨fun r h => absurd h (Nat.not_lt_zero r), rfl, rfl⟩⟩
  | i + 1, hi => by
    obtain ⟨i1, i2, i3⟩ := cst_is (N := N) (P := P) (c := c) hL i (by omega)
    have e : cst N P Lb n c (i + 1) = if fsr N P c i n then cs1 (cst N P Lb n c i) (ct (smn N P c i) n) (oner N P Lb c i n) (Lb i) else cst N P Lb n c i := rfl
    rw [e]
    generalize cst N P Lb n c i = s at i1 i2 i3 ⊢
    by_cases hf : fsr N P c i n
    · rw [if_pos hf]
      have hg : gr N P Lb n c i ↔ 1 < ct (smn N P c i) n ∧ oner N P Lb c i n := ⟨fun z => z.2, fun z => ⟨hf, z⟩⟩
      refine ⟨?_, ?_, ?_⟩
      · show s.1 + 1 = _
        rw [ct_t (p := fun r => fsr N P c r n) hf, i1]
      · show (s.2.2.2.2 || decide (¬ oner N P Lb c i n)) = true ↔ _
        rw [Bool.or_eq_true, i2, decide_eq_true_iff]
        constructor
        · rintro (⟨r, h1, h2⟩ | h)
          · exact ⟨r, by omega, h2⟩
          · exact ⟨i, by omega, hf, h⟩
        · rintro ⟨r, h1, h2, h3⟩
          by_cases e2 : r = i
          · subst e2; exact Or.inr h3
          · exact Or.inl ⟨r, by omega, h2, h3⟩
      · by_cases hgi : 1 < ct (smn N P c i) n ∧ oner N P Lb c i n
        · have e1 : (cs1 s (ct (smn N P c i) n) (oner N P Lb c i n) (Lb i)).2.1 = s.2.1 + 1 := if_pos hgi
          have e2 : (cs1 s (ct (smn N P c i) n) (oner N P Lb c i n) (Lb i)).2.2.1 = if s.2.2.1 = -1 then Lb i else s.2.2.1 := by
            show (if (1 < ct (smn N P c i) n ∧ oner N P Lb c i n) ∧ s.2.2.1 = -1 then Lb i else s.2.2.1) = _
            by_cases h : s.2.2.1 = -1
            · rw [if_pos ⟨hgi, h⟩, if_pos h]
            · rw [if_neg (fun z => h z.2), if_neg h]
          have e3 : (cs1 s (ct (smn N P c i) n) (oner N P Lb c i n) (Lb i)).2.2.2.1 = (s.2.2.2.1 || decide (s.2.2.1 ≠ -1 ∧ s.2.2.1 ≠ Lb i)) := by
            show (s.2.2.2.1 || decide ((1 < ct (smn N P c i) n ∧ oner N P Lb c i n) ∧ s.2.2.1 ≠ -1 ∧ s.2.2.1 ≠ Lb i)) = _
            congr 1
            exact decide_eq_decide.mpr ⟨fun z => z.2, fun z => ⟨hgi, z⟩⟩
          rw [e1, e2, e3]
          right
          rcases i3 with ⟨j1, j2, j3⟩ | ⟨a, ha, hga, j1, j2, j3, j4⟩
          · refine ⟨i, by omega, hg.mpr hgi, by rw [if_pos j2], by omega, fun _ b hb hqb => ?_, fun z => ?_⟩
            · by_cases e4 : b = i
              · rw [e4]
              · exact absurd hqb (j1 b (by omega))
            · exfalso
              rw [j3, j2] at z
              simp at z
          · refine ⟨a, by omega, hga, by rw [if_neg (by rw [j1]; exact hL a (by omega)), j1], by omega, fun z b hb hqb => ?_, fun z => ?_⟩
            · rw [Bool.or_eq_false_iff, decide_eq_false_iff_not, j1] at z
              have hai : Lb a = Lb i := Decidable.byContradiction fun y => z.2 ⟨hL a (by omega), y⟩
              by_cases e4 : b = i
              · rw [e4, hai]
              · exact j3 z.1 b (by omega) hqb
            · rw [Bool.or_eq_true, decide_eq_true_iff, j1] at z
              refine ⟨by omega, ?_⟩
              rcases z with z | z
              · obtain ⟨b, b', x1, x2, x3, x4, x5⟩ := (j4 z).2
                exact ⟨b, b', by omega, by omega, x3, x4, x5⟩
              · exact ⟨a, i, by omega, by omega, hga, hg.mpr hgi, z.2⟩
        · have e1 : (cs1 s (ct (smn N P c i) n) (oner N P Lb c i n) (Lb i)).2.1 = s.2.1 := if_neg hgi
          have e2 : (cs1 s (ct (smn N P c i) n) (oner N P Lb c i n) (Lb i)).2.2.1 = s.2.2.1 := if_neg (fun z => hgi z.1)
          have e3 : (cs1 s (ct (smn N P c i) n) (oner N P Lb c i n) (Lb i)).2.2.2.1 = s.2.2.2.1 := by
            show (s.2.2.2.1 || decide ((1 < ct (smn N P c i) n ∧ oner N P Lb c i n) ∧ s.2.2.1 ≠ -1 ∧ s.2.2.1 ≠ Lb i)) = _
            rw [decide_eq_false (fun z => hgi z.1), Bool.or_false]
          rw [e1, e2, e3]
          exact cst_keep (fun z => hgi (hg.mp z)) i3
    · rw [if_neg hf]
      refine ⟨?_, ?_, cst_keep (fun z => hf z.1) i3⟩
      · rw [ct_f (p := fun r => fsr N P c r n) hf, i1]
      · rw [i2]
        constructor
        · rintro ⟨r, h1, h2⟩
          exact ⟨r, by omega, h2⟩
        · rintro ⟨r, h1, h2, h3⟩
          have : r ≠ i := fun y => hf (y ▸ h2)
          exact ⟨r, by omega, h2, h3⟩
where
  cst_keep {N : Nat → Int64} {P Lb : Nat → Int32} {n c i : Nat} {s1 : Nat} {s2 : Int32} {s3 : Bool} (hq : ¬ gr N P Lb n c i) (i3 : ((∀ r, r < i → ¬ gr N P Lb n c r) ∧ s2 = -1 ∧ s3 = false) ∨ (∃ a, a < i ∧ gr N P Lb n c a ∧ s2 = Lb a ∧ 1 ≤ s1 ∧ (s3 = false → ∀ b, b < i → gr N P Lb n c b → Lb b = Lb a) ∧ (s3 = true → 1 < s1 ∧ unl (gr N P Lb n c) Lb i))) : ((∀ r, r < i + 1 → ¬ gr N P Lb n c r) ∧ s2 = -1 ∧ s3 = false) ∨ (∃ a, a < i + 1 ∧ gr N P Lb n c a ∧ s2 = Lb a ∧ 1 ≤ s1 ∧ (s3 = false → ∀ b, b < i + 1 → gr N P Lb n c b → Lb b = Lb a) ∧ (s3 = true → 1 < s1 ∧ unl (gr N P Lb n c) Lb (i + 1))) := by
    rcases i3 with ⟨j1, j2, j3⟩ | ⟨a, ha, hga, j1, j2, j3, j4⟩
    · refine Or.inl ⟨fun r hr => ?_, j2, j3⟩
      by_cases e : r = i
      · rw [e]; exact hq
      · exact j1 r (by omega)
    · refine Or.inr ⟨a, by omega, hga, j1, j2, fun z b hb hqb => ?_, fun z => ?_⟩
      · have : b ≠ i := fun y => hq (y ▸ hqb)
        exact j3 z b (by omega) hqb
      · obtain ⟨b, b', x1, x2, x3, x4, x5⟩ := (j4 z).2
        exact ⟨(j4 z).1, b, b', by omega, by omega, x3, x4, x5⟩
theorem telm_is {N : Nat → Int64} {P Lb : Nat → Int32} {n c : Nat} (hL : ∀ r, r < n → Lb r ≠ -1) : telm (cst N P Lb n c n) ↔ unl (gr N P Lb n c) Lb n ∧ ¬ ∃ r, r < n ∧ fsr N P c r n ∧ ¬ oner N P Lb c r n := by
  obtain ⟨-, i2, i3⟩ := cst_is (N := N) (P := P) (c := c) hL n (Nat.le_refl n)
  unfold telm
  rw [i2]
  constructor
  · rintro ⟨h1, h2, h3⟩
    refine ⟨?_, h3⟩
    rcases i3 with ⟨-, -, j3⟩ | ⟨a, -, -, -, -, -, j4⟩
    · rw [j3] at h2; cases h2
    · exact (j4 h2).2
  · rintro ⟨h1, h3⟩
    rcases i3 with ⟨j1, -, -⟩ | ⟨a, ha, hga, j1, j2, j3, j4⟩
    · obtain ⟨b, b', x1, x2, x3, x4, x5⟩ := h1
      exact absurd x3 (j1 b x1)
    · cases hz : (cst N P Lb n c n).2.2.2.1 with
      | true => exact ⟨(j4 hz).1, rfl, h3⟩
      | false =>
        obtain ⟨b, b', x1, x2, x3, x4, x5⟩ := h1
        exact absurd ((j3 hz b x1 x3).trans (j3 hz b' x2 x4).symm) x5
/-- the first row of a number -/
theorem first_of {N : Nat → Int64} {P : Nat → Int32} {n c : Nat} : ∀ a, a < n → P a ≠ -1 → ∃ r, r ≤ a ∧ fsr N P c r n ∧ N (r * 3 + c) = N (a * 3 + c) := by
  intro a
  induction a using Nat.strongRecOn with
  | ind a ih =>
    intro ha hp
    by_cases h : fs (fun q => smn N P c a q ∧ q < a) n = none
    · exact ⟨a, Nat.le_refl a, ⟨hp, h⟩, rfl⟩
    · obtain ⟨q, hq, ⟨h1, h2⟩, h3⟩ := ex_fs.mpr h
      obtain ⟨r, x1, x2, x3⟩ := ih q h3 hq h1
      exact ⟨r, by omega, x2, x3.trans h2⟩
/-- like numbers, like labels -/
def pur (N : Nat → Int64) (P Lb : Nat → Int32) (n c : Nat) : Prop := ∀ a b, a < n → b < n → P a ≠ -1 → P b ≠ -1 → N (a * 3 + c) = N (b * 3 + c) → Lb a = Lb b
theorem pur_c {N : Nat → Int64} {P Lb : Nat → Int32} {n c : Nat} : fs (fun a => P a ≠ -1 ∧ swo N P Lb n c a) n = none ↔ pur N P Lb n c := by
  rw [fs_iff]
  have key : ∀ a, swo N P Lb n c a ↔ ∃ b, b < n ∧ (a + 1 ≤ b ∧ P b ≠ -1 ∧ N (a * 3 + c) = N (b * 3 + c) ∧ Lb a ≠ Lb b) := fun a => ex_fs.symm
  constructor
  · intro h a b ha hb pa pb e
    refine Decidable.byContradiction fun hne => ?_
    by_cases h1 : a < b
    · exact h a ha ⟨pa, (key a).mpr ⟨b, hb, h1, pb, e, hne⟩⟩
    · have h2 : b < a := by
        have : a ≠ b := fun z => hne (by rw [z])
        omega
      exact h b hb ⟨pb, (key b).mpr ⟨a, ha, h2, pa, e.symm, fun z => hne z.symm⟩⟩
  · rintro h a ha ⟨pa, hs⟩
    obtain ⟨b, hb, h1, pb, e, hne⟩ := (key a).mp hs
    exact hne (h a b ha hb pa pb e)
theorem pur_m {N : Nat → Int64} {P Lb : Nat → Int32} {n c : Nat} : (¬ ∃ r, r < n ∧ fsr N P c r n ∧ ¬ oner N P Lb c r n) ↔ pur N P Lb n c := by
  constructor
  · intro h a b ha hb pa pb e
    obtain ⟨r, x1, x2, x3⟩ := first_of (N := N) (P := P) (n := n) (c := c) a ha pa
    have ho : oner N P Lb c r n := Decidable.byContradiction fun z => h ⟨r, by omega, x2, z⟩
    have h1 := fs_iff.mp ho
    have e1 : Lb a = Lb r := Decidable.byContradiction fun z => h1 a ha ⟨⟨pa, x3.symm⟩, z⟩
    have e2 : Lb b = Lb r := Decidable.byContradiction fun z => h1 b hb ⟨⟨pb, e.symm.trans x3.symm⟩, z⟩
    rw [e1, e2]
  · rintro h ⟨r, hr, hf, ho⟩
    refine ho (fs_iff.mpr (fun q hq z => z.2 (h q r hq hr z.1.1 hf.1 z.1.2)))
theorem tells_eq {N : Nat → Int64} {P Lb : Nat → Int32} {n c : Nat} (hL : ∀ r, r < n → Lb r ≠ -1) : tells N P Lb n c ↔ telm (cst N P Lb n c n) := by
  unfold tells
  rw [telm_is hL, pur_c, pur_m, tst_un hL, And.comm]
  refine and_congr_left (fun hp => ?_)
  constructor
  · have tr : ∀ a, a < n → (P a ≠ -1 ∧ sab N P n c a) → ∃ r, r < n ∧ gr N P Lb n c r ∧ Lb r = Lb a := by
      rintro a ha ⟨pa, hs⟩
      obtain ⟨b, hb, h1, pb, e⟩ := ex_fs.mpr hs
      obtain ⟨r, x1, x2, x3⟩ := first_of (N := N) (P := P) (n := n) (c := c) a ha pa
      refine ⟨r, by omega, ⟨x2, ct_two (p := smn N P c r) ⟨pa, x3.symm⟩ ⟨pb, e.symm.trans x3.symm⟩ h1 hb, fs_iff.mpr (fun q hq z => z.2 (hp q r hq (by omega) z.1.1 x2.1 z.1.2))⟩, hp r a (by omega) ha x2.1 pa x3⟩
    rintro ⟨b, b', x1, x2, x3, x4, x5⟩
    obtain ⟨r, r1, r2, r3⟩ := tr b x1 x3
    obtain ⟨r', s1, s2, s3⟩ := tr b' x2 x4
    exact ⟨r, r', r1, s1, r2, s2, by rw [r3, s3]; exact x5⟩
  · have tr : ∀ r, r < n → gr N P Lb n c r → P r ≠ -1 ∧ sab N P n c r := by
      rintro r hr ⟨hf, hm, -⟩
      refine ⟨hf.1, ex_fs.mp ?_⟩
      refine Classical.byContradiction fun hno => ?_
      have := ct_le1 (p := smn N P c r) (r := r) (n := n) (fun i hi hs => ?_)
      · omega
      · have h1 : ¬ i < r := fun z => fs_iff.mp hf.2 i hi ⟨hs, z⟩
        refine Decidable.byContradiction fun hne => hno ⟨i, hi, by omega, hs.1, hs.2.symm⟩
    rintro ⟨b, b', x1, x2, x3, x4, x5⟩
    exact ⟨b, b', x1, x2, tr b x1 x3, tr b' x2 x4, x5⟩
theorem nums_eq {N : Nat → Int64} {P Lb : Nat → Int32} {n c : Nat} (hL : ∀ r, r < n → Lb r ≠ -1) : (cst N P Lb n c n).1 = ct (fun a => P a ≠ -1 ∧ ¬ sab N P n c a) n := by
  rw [(cst_is (N := N) (P := P) (c := c) hL n (Nat.le_refl n)).1]
  have h := firsts_lasts (fun a => N (a * 3 + c)) P n
  rw [ct_c (q := fun a => P a ≠ -1 ∧ fs (fun q => P q ≠ -1 ∧ N (q * 3 + c) = N (a * 3 + c)) a = none), h]
  · refine ct_c (fun i hi => ?_)
    constructor
    · rintro ⟨h1, h2⟩
      exact ⟨h1, fun z => z h2⟩
    · rintro ⟨h1, h2⟩
      exact ⟨h1, Decidable.byContradiction h2⟩
  · intro i hi
    constructor
    · rintro ⟨h1, h2⟩
      exact ⟨h1, fs_iff.mpr (fun j hj z => fs_iff.mp h2 j (by omega) ⟨z, hj⟩)⟩
    · rintro ⟨h1, h2⟩
      exact ⟨h1, fs_iff.mpr (fun j hj z => fs_iff.mp h2 j z.2 z.1)⟩
