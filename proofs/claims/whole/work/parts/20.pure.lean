/-! pure words that both the class and its reference are told by -/
theorem mul3 (a c : Nat) : nI a * Int32.ofInt 3 + nI c = nI (a * 3 + c) := by rw [← nI_add, ← pk_mul]; rfl
/-- like numbers in all columns, the same words -/
abbrev alike (N : Nat → Int64) (Wd : Nat → Int64) (a b : Nat) : Prop := N (a * 3) = N (b * 3) ∧ N (a * 3 + 1) = N (b * 3 + 1) ∧ N (a * 3 + 2) = N (b * 3 + 2) ∧ Wd a = Wd b
/-- the first number below n that has p -/
def fs (p : Nat → Prop) [DecidablePred p] : Nat → Option Nat
  | 0 => none
  | n + 1 => match fs p n with
    | some r => some r
    | none => if p n then some n else none
def oI : Option Nat → Int32
  | none => -1
  | some r => nI r
theorem fs_s {p : Nat → Prop} [DecidablePred p] {i r : Nat} (h : fs p i = some r) : ∀ n, i ≤ n → fs p n = some r := by
  intro n hn
  obtain ⟨k, rfl⟩ : ∃ k, n = i + k := ⟨n - i, by omega⟩
  induction k with
  | zero => exact h
  | succ k ih =>
    have := ih (by omega)
    show (match fs p (i + k) with
      | some r => some r
      | none => if p (i + k) then some (i + k) else none) = some r
    rw [this]
theorem fs_t {p : Nat → Prop} [DecidablePred p] {i : Nat} (h : fs p i = none) (hp : p i) : fs p (i + 1) = some i := by
  show (match fs p i with
      | some r => some r
      | none => if p i then some i else none) = some i
  rw [h, if_pos hp]
theorem fs_f {p : Nat → Prop} [DecidablePred p] {i : Nat} (h : fs p i = none) (hp : ¬ p i) : fs p (i + 1) = none := by
  show (match fs p i with
      | some r => some r
      | none => if p i then some i else none) = none
  rw [h, if_neg hp]
theorem fs_lt {p : Nat → Prop} [DecidablePred p] : ∀ {n r : Nat}, fs p n = some r → r < n ∧ p r
  | 0, r, h => by cases h
  | n + 1, r, h => by
    have h2 : (match fs p n with
      | some r => some r
      | none => if p n then some n else none) = some r := h
    cases hf : fs p n with
    | some q =>
      rw [hf] at h2
      cases h2
      have := fs_lt hf
      exact ⟨by omega, this.2⟩
    | none =>
      rw [hf] at h2
      by_cases hp : p n
      · rw [if_pos hp] at h2
        cases h2
        exact ⟨by omega, hp⟩
      · rw [if_neg hp] at h2
        cases h2
theorem fs_no {p : Nat → Prop} [DecidablePred p] : ∀ {n : Nat}, fs p n = none → ∀ j, j < n → ¬ p j
  | 0, h, j, hj => by omega
  | n + 1, h, j, hj => by
    have h2 : (match fs p n with
      | some r => some r
      | none => if p n then some n else none) = none := h
    cases hf : fs p n with
    | some q => rw [hf] at h2; cases h2
    | none =>
      rw [hf] at h2
      by_cases hp : p n
      · rw [if_pos hp] at h2; cases h2
      · by_cases hj2 : j < n
        · exact fs_no hf j hj2
        · have : j = n := by omega
          subst this; exact hp
theorem fs_c {p q : Nat → Prop} [DecidablePred p] [DecidablePred q] : ∀ {n : Nat}, (∀ i, i < n → (p i ↔ q i)) → fs p n = fs q n
  | 0, _ => rfl
  | n + 1, h => by
    show (match fs p n with
      | some r => some r
      | none => if p n then some n else none) = (match fs q n with
      | some r => some r
      | none => if q n then some n else none)
    rw [fs_c (n := n) (fun i hi => h i (by omega))]
    cases fs q n with
    | some r => rfl
    | none =>
      by_cases hp : p n
      · rw [if_pos hp, if_pos ((h n (by omega)).mp hp)]
      · rw [if_neg hp, if_neg (fun z => hp ((h n (by omega)).mpr z))]
/-- is there one below n -/
def ex (p : Nat → Prop) (n : Nat) : Prop := ∃ j, j < n ∧ p j
theorem ex_fs {p : Nat → Prop} [DecidablePred p] {n : Nat} : ex p n ↔ fs p n ≠ none := by
  constructor
  · rintro ⟨j, hj, hp⟩ h
    exact fs_no h j hj hp
  · intro h
    cases hf : fs p n with
    | none => exact absurd hf h
    | some r => exact ⟨r, fs_lt hf⟩
/-- sums below n -/
def sm (f : Nat → Nat) : Nat → Nat
  | 0 => 0
  | n + 1 => sm f n + f n
theorem sm_c {f g : Nat → Nat} : ∀ {n : Nat}, (∀ i, i < n → f i = g i) → sm f n = sm g n
  | 0, _ => rfl
  | n + 1, h => by
    show sm f n + f n = sm g n + g n
    rw [sm_c (n := n) (fun i hi => h i (by omega)), h n (by omega)]
theorem ct_0 {p : Nat → Prop} [DecidablePred p] : ∀ {n : Nat}, (∀ i, i < n → ¬ p i) → ct p n = 0
  | 0, _ => rfl
  | n + 1, h => by rw [ct_f (h n (by omega))]; exact ct_0 (fun i hi => h i (by omega))
/-- the digest of a row -/
def dh (N : Nat → Int64) (a : Nat) : Nat → Int64
  | 0 => 7
  | c + 1 => dh N a c * 31 + N (a * 3 + c)
def dig (N : Nat → Int64) (Wd : Nat → Int64) (a : Nat) : Int32 := ((dh N a 3 * 31 + Wd a) &&& 63).toInt32
