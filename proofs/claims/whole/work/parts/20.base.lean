/-! contracts by a picture: what stands at first, what must hold, what stands then -/
def en_f {σ : Type} (A : σ → List Value) (B : σ → List va_E) (pre : σ → Prop) (post : σ → Option Value → List va_E → Prop) : List Value → List va_E → (Option Value → List va_E → Prop) → Prop := fun av ws G =>
  ∃ x : σ, av = A x ∧ ws = B x ∧ pre x ∧ ∀ v w, post x v w → G v w
theorem en_f_ln {σ : Type} {A : σ → List Value} {B : σ → List va_E} {pre : σ → Prop} {post : σ → Option Value → List va_E → Prop} {n : Nat} (h : ∀ x, en_sum (A x) ≤ n) : ∀ av ws G, en_f A B pre post av ws G → en_sum av ≤ n := by
  rintro _ _ G ⟨x, rfl, rfl, -⟩
  exact h x
/-- what a method's body owes -/
def en_B {σ : Type} (t : en_T) (A : σ → List Value) (B : σ → List va_E) (pre : σ → Prop) (post : σ → Option Value → List va_E → Prop) : Prop :=
  ∀ x, pre x → ∀ G : Option Value → List va_E → Prop, (∀ v w, post x v w → G v w) → ∀ OK : en_K, en_Run t G OK → OK 0 0 0 (en_args 0 (A x)) [] (B x)
theorem en_f_bd {σ : Type} {A : σ → List Value} {B : σ → List va_E} {pre : σ → Prop} {post : σ → Option Value → List va_E → Prop} {t : en_T} (h : en_B t A B pre post) :
    ∀ (av : List Value) (ws : List va_E) (G : Option Value → List va_E → Prop), en_f A B pre post av ws G → ∀ OK : en_K, en_Run t G OK → OK 0 0 0 (en_args 0 av) [] ws := by
  rintro _ _ G ⟨x, rfl, rfl, hp, hG⟩ OK hr
  exact h x hp G hG OK hr
/-- a loop that goes up -/
theorem lp_up (P : Nat → Prop) (n : Nat) (he : P n) (hs : ∀ i, i < n → P (i + 1) → P i) : ∀ i, i ≤ n → P i := by
  intro i hi
  obtain ⟨k, hk⟩ : ∃ k, n - i = k := ⟨_, rfl⟩
  induction k generalizing i with
  | zero => have : i = n := by omega
            subst this; exact he
  | succ k ih => exact hs i (by omega) (ih (i + 1) (by omega) (by omega))
/-- a boolean's number -/
def bl (p : Prop) [Decidable p] : Int32 := if p then 1 else 0
theorem bl_t {p : Prop} [Decidable p] (h : p) : bl p = 1 := if_pos h
theorem bl_f {p : Prop} [Decidable p] (h : ¬ p) : bl p = 0 := if_neg h
theorem bl_0 {p : Prop} [Decidable p] : bl p = 0 ↔ ¬ p := by
  unfold bl
  split
  · rename_i h; exact ⟨fun z => absurd z (by decide), fun z => absurd h z⟩
  · rename_i h; exact ⟨fun _ => h, fun _ => rfl⟩
theorem bl_c {p q : Prop} [Decidable p] [Decidable q] (h : p ↔ q) : bl p = bl q := by
  by_cases hp : p
  · rw [bl_t hp, bl_t (h.mp hp)]
  · rw [bl_f hp, bl_f (fun z => hp (h.mpr z))]
theorem bl_b {p : Prop} [Decidable p] : narrow .boolean (.int (bl p)) = .int (bl p) := by
  unfold bl
  split <;> rfl
/-- an answer of a boolean method is tested -/
theorem bl_br {p : Prop} [Decidable p] {A B : Prop} (a : ¬ p → A) (b : p → B) : (bl p = 0 → A) ∧ (¬ bl p = 0 → B) := by
  rw [bl_0]
  exact ⟨a, fun h => b (Decidable.of_not_not h)⟩
theorem bl_br2 {p : Prop} [Decidable p] {A B : Prop} (a : p → A) (b : ¬ p → B) : (¬ bl p = 0 → A) ∧ (bl p = 0 → B) := by
  rw [bl_0]
  exact ⟨fun h => a (Decidable.of_not_not h), b⟩
/-- how many numbers below n have p -/
def ct (p : Nat → Prop) [DecidablePred p] : Nat → Nat
  | 0 => 0
  | n + 1 => if p n then ct p n + 1 else ct p n
theorem ct_le (p : Nat → Prop) [DecidablePred p] : ∀ n, ct p n ≤ n
  | 0 => Nat.le_refl 0
  | n + 1 => by
    have := ct_le p n
    simp only [ct]
    split <;> omega
theorem ct_t {p : Nat → Prop} [DecidablePred p] {n : Nat} (h : p n) : ct p (n + 1) = ct p n + 1 := if_pos h
theorem ct_f {p : Nat → Prop} [DecidablePred p] {n : Nat} (h : ¬ p n) : ct p (n + 1) = ct p n := if_neg h
theorem ct_c {p q : Nat → Prop} [DecidablePred p] [DecidablePred q] : ∀ {n : Nat}, (∀ i, i < n → (p i ↔ q i)) → ct p n = ct q n
  | 0, _ => rfl
  | n + 1, h => by
    have h1 := ct_c (n := n) (fun i hi => h i (by omega))
    by_cases hp : p n
    · rw [ct_t hp, ct_t ((h n (by omega)).mp hp), h1]
    · rw [ct_f hp, ct_f (fun z => hp ((h n (by omega)).mpr z)), h1]
/-! THE CLASS'S WORLD: ints (0 nearness, 1 rows.count, 2 weights.count, 3 weights.sum, 4 splitter.length, 5 wanted, 6 found, 7 first, 8 second), z, the arrays by their places -/
abbrev Sx : Type := (Nat → Int32) × Int64 × (Nat → Nat → Int32) × (Nat → Nat → Int64)
def wX (S : Sx) : List va_E := [
  .inr (6, [.ref 1, .ref 9, .ref 13, .ref 19, .ref 23, .int (S.1 0)]),
  .inr (2, [.int (S.1 1), .ref 2, .ref 3, .ref 4, .ref 5, .ref 6, .ref 7, .ref 8]),
  .inl (0, 100, .inl (S.2.2.1 2)), .inl (0, 100, .inl (S.2.2.1 3)), .inl (0, 100, .inl (S.2.2.1 4)), .inl (0, 100, .inl (S.2.2.1 5)),
  .inl (1, 300, .inr (.inl (S.2.2.2 6))), .inl (1, 100, .inr (.inl (S.2.2.2 7))), .inl (0, 100, .inl (S.2.2.1 8)),
  .inr (5, [.int (S.1 2), .int (S.1 3), .ref 10, .ref 11, .ref 12]),
  .inl (0, 4, .inl (S.2.2.1 10)), .inl (0, 4, .inl (S.2.2.1 11)), .inl (0, 4, .inl (S.2.2.1 12)),
  .inr (3, [.ref 1, .ref 9, .ref 14, .ref 15, .ref 16, .int (S.1 4), .ref 17, .ref 18]),
  .inr (0, [.long S.2.1]),
  .inl (0, 100, .inl (S.2.2.1 15)), .inl (0, 100, .inl (S.2.2.1 16)), .inl (0, 4, .inl (S.2.2.1 17)), .inl (0, 4, .inl (S.2.2.1 18)),
  .inr (4, [.ref 20, .ref 21, .ref 22]),
  .inl (0, 8, .inl (S.2.2.1 20)), .inl (0, 8, .inl (S.2.2.1 21)), .inl (2, 800, .inl (S.2.2.1 22)),
  .inr (1, [.ref 1, .ref 19, .int (S.1 5), .int (S.1 6), .int (S.1 7), .int (S.1 8)])]
def xi (S : Sx) (k : Nat) (v : Int32) : Sx := (fun j => if j = k then v else S.1 j, S.2)
def xz (S : Sx) (v : Int64) : Sx := (S.1, v, S.2.2)
def xa (S : Sx) (k : Nat) (f : Nat → Int32) : Sx := (S.1, S.2.1, fun j => if j = k then f else S.2.2.1 j, S.2.2.2)
def xl (S : Sx) (k : Nat) (f : Nat → Int64) : Sx := (S.1, S.2.1, S.2.2.1, fun j => if j = k then f else S.2.2.2 j)
/-- the field order of the classes is as the world has it -/
theorem wX_len (S : Sx) : (wX S).length = 24 := rfl
