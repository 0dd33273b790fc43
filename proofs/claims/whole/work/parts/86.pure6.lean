/-! pure: how many bits are set -/
theorem lM_add (a b : Nat) : lN a + lN b = lN (a + b) := wb_inj (by rw [Int64.toBitVec_add, wb_tb, wb_tb, wb_tb, BitVec.ofNat_add])
theorem lM_sub {a b : Nat} (h : b ≤ a) : lN a - lN b = lN (a - b) := by
  have e : lN a = lN (a - b) + lN b := by rw [lM_add]; congr 1; omega
  rw [e, Int64.add_sub_cancel]
theorem lM_i (m : Nat) : (lN m).toInt32 = nI m := by
  apply Int32.toBitVec_inj.mp
  show (BitVec.ofNat 64 m).signExtend 32 = BitVec.ofNat 32 m
  rw [BitVec.signExtend_eq_setWidth_of_le _ (by decide)]
  exact BitVec.setWidth_ofNat_of_le (by decide) m
theorem nI_and (m : Nat) : nI m &&& nI 127 = nI (m % 128) := by
  apply Int32.toBitVec_inj.mp
  rw [Int32.toBitVec_and]
  show BitVec.ofNat 32 m &&& BitVec.ofNat 32 127 = BitVec.ofNat 32 (m % 128)
  apply BitVec.eq_of_toNat_eq
  rw [BitVec.toNat_and, BitVec.toNat_ofNat, BitVec.toNat_ofNat, BitVec.toNat_ofNat]
  show m % 2 ^ 32 &&& (2 ^ 7 - 1) = m % 2 ^ 7 % 2 ^ 32
  rw [Nat.and_two_pow_sub_one_eq_mod, Nat.mod_mod_of_dvd m (by decide), Nat.mod_eq_of_lt (a := m % 2 ^ 7) (by have := Nat.mod_lt m (show 0 < 2 ^ 7 by decide); omega)]
/-- a mask of k bytes -/
def mk8 (b : Nat) : Nat → Nat
  | 0 => 0
  | k + 1 => b + 256 * mk8 b k
theorem and8 (a b m c : Nat) (ha : a < 256) (hm : m < 256) : (a + 256 * b) &&& (m + 256 * c) = (a &&& m) + 256 * (b &&& c) := by
  have h1 := Nat.and_mod_two_pow (a := a + 256 * b) (b := m + 256 * c) (n := 8)
  have h2 := Nat.and_div_two_pow (a := a + 256 * b) (b := m + 256 * c) (n := 8)
  have e1 : (a + 256 * b) % 2 ^ 8 = a := by omega
  have e2 : (m + 256 * c) % 2 ^ 8 = m := by omega
  have e3 : (a + 256 * b) / 2 ^ 8 = b := by omega
  have e4 : (m + 256 * c) / 2 ^ 8 = c := by omega
  rw [e1, e2] at h1
  rw [e3, e4] at h2
  generalize (a + 256 * b) &&& (m + 256 * c) = x at h1 h2 ⊢
  omega
def t1 (a : Nat) : Nat := a - (a / 2 &&& 0x55)
def t2 (a : Nat) : Nat := (a &&& 0x33) + (a / 4 &&& 0x33)
def t3 (a : Nat) : Nat := (a + a / 16) &&& 0x0f
def s1 (k n : Nat) : Nat := n - (n / 2 &&& mk8 0x55 k)
def s2 (k n : Nat) : Nat := (n &&& mk8 0x33 k) + (n / 4 &&& mk8 0x33 k)
def q3 (k n : Nat) : Nat := (n + n / 16) &&& mk8 0x0f k
theorem b1 : ∀ h, h < 2 → ∀ a, a < 256 → (a / 2 + 128 * h) &&& 0x55 = a / 2 &&& 0x55 := by decide +kernel
theorem b2 : ∀ h, h < 4 → ∀ a, a < 256 → (a / 4 + 64 * h) &&& 0x33 = a / 4 &&& 0x33 := by decide +kernel
theorem b3 : ∀ h, h < 5 → ∀ a, a < 256 → (t2 (t1 a) + t2 (t1 a) / 16 + 16 * h) &&& 0x0f = t3 (t2 (t1 a)) := by decide +kernel
theorem c1 : ∀ a, a < 256 → t1 a < 256 ∧ (a / 2 &&& 0x55) ≤ a := by decide +kernel
theorem c2 : ∀ a, a < 256 → t2 (t1 a) % 16 ≤ 4 ∧ t2 (t1 a) / 16 ≤ 4 ∧ t2 (t1 a) < 256 := by decide +kernel
theorem c3 : ∀ a, a < 256 → t2 a < 256 := by decide +kernel
theorem s1_le : ∀ (k n : Nat), (n / 2 &&& mk8 0x55 k) ≤ n := fun k n => Nat.le_trans Nat.and_le_left (Nat.div_le_self n 2)
theorem s1_s {k a b : Nat} (ha : a < 256) : s1 (k + 1) (a + 256 * b) = t1 a + 256 * s1 k b := by
  have e : (a + 256 * b) / 2 = (a / 2 + 128 * (b % 2)) + 256 * (b / 2) := by omega
  have h1 := s1_le k b
  have h2 := (c1 a ha).2
  unfold s1 t1
  show a + 256 * b - ((a + 256 * b) / 2 &&& (0x55 + 256 * mk8 0x55 k)) = _
  rw [e, and8 _ _ _ _ (by omega) (by decide), b1 (b % 2) (by omega) a ha, Nat.mul_sub]
  omega
theorem s2_s {k a b : Nat} (ha : a < 256) : s2 (k + 1) (a + 256 * b) = t2 a + 256 * s2 k b := by
  have e : (a + 256 * b) / 4 = (a / 4 + 64 * (b % 4)) + 256 * (b / 4) := by omega
  unfold s2 t2
  show ((a + 256 * b) &&& (0x33 + 256 * mk8 0x33 k)) + ((a + 256 * b) / 4 &&& (0x33 + 256 * mk8 0x33 k)) = _
  rw [e, and8 _ _ _ _ ha (by decide), and8 _ _ _ _ (by omega) (by decide), b2 (b % 4) (by omega) a ha]
  omega
theorem q3_s {k a b : Nat} (ha : a < 256) (hb : b % 16 ≤ 4) : q3 (k + 1) (t2 (t1 a) + 256 * b) = t3 (t2 (t1 a)) + 256 * q3 k b := by
  obtain ⟨h1, h2, h3⟩ := c2 a ha
  unfold q3
  show ((t2 (t1 a) + 256 * b) + (t2 (t1 a) + 256 * b) / 16) &&& (0x0f + 256 * mk8 0x0f k) = _
  have e : (t2 (t1 a) + 256 * b) + (t2 (t1 a) + 256 * b) / 16 = (t2 (t1 a) + t2 (t1 a) / 16 + 16 * (b % 16)) + 256 * (b + b / 16) := by omega
  rw [e, and8 _ _ _ _ (by omega) (by decide), b3 (b % 16) (by omega) a ha]
/-- the bytes' counts, one behind another -/
def by8 : Nat → Nat → Nat
  | 0, _ => 0
  | k + 1, n => t3 (t2 (t1 (n % 256))) + 256 * by8 k (n / 256)
theorem s12_low : ∀ (k n : Nat), s2 k (s1 k n) % 16 ≤ 4
  | 0, n => by
    show ((n - (n / 2 &&& 0) &&& 0) + ((n - (n / 2 &&& 0)) / 4 &&& 0)) % 16 ≤ 4
    rw [Nat.and_zero, Nat.and_zero]
    decide
  | k + 1, n => by
    have hn : n = n % 256 + 256 * (n / 256) := by omega
    have ha : n % 256 < 256 := Nat.mod_lt _ (by decide)
    rw [hn, s1_s ha, s2_s (c1 _ ha).1]
    have := (c2 _ ha).1
    omega
theorem s123 : ∀ (k n : Nat), q3 k (s2 k (s1 k n)) = by8 k n
  | 0, n => by
    show _ &&& 0 = 0
    rw [Nat.and_zero]
  | k + 1, n => by
    have hn : n = n % 256 + 256 * (n / 256) := by omega
    have ha : n % 256 < 256 := Nat.mod_lt _ (by decide)
    have e : s1 (k + 1) n = t1 (n % 256) + 256 * s1 k (n / 256) := by
      have := s1_s (k := k) (b := n / 256) ha
      rwa [← hn] at this
    rw [e, s2_s (c1 _ ha).1, q3_s ha (s12_low k _), s123 k (n / 256)]
    rfl
/-- bits by number -/
def pcn (n : Nat) : Nat → Nat
  | 0 => 0
  | k + 1 => pcn n k + n / 2 ^ k % 2
theorem bcn_n {n : Nat} (hn : n < 2 ^ 64) : ∀ k, k ≤ 64 → bcn (lN n) k = nI (pcn n k)
  | 0, _ => rfl
  | k + 1, hk => by
    simp only [bcn, pcn]
    rw [bcn_n hn k (by omega), wb_bit hn (by omega), ← nI_add]
    congr 1
    have h2 : n / 2 ^ k % 2 = 0 ∨ n / 2 ^ k % 2 = 1 := by omega
    rcases h2 with h | h
    · rw [h, if_neg (by decide)]; rfl
    · rw [h, if_pos (by decide)]; rfl
theorem pcn_split (n : Nat) : ∀ k, pcn n (8 + k) = pcn (n % 256) 8 + pcn (n / 256) k
  | 0 => by
    show pcn n 8 = pcn (n % 256) 8 + 0
    simp only [pcn, Nat.add_zero, Nat.zero_add]
    omega
  | k + 1 => by
    show pcn n (8 + k) + n / 2 ^ (8 + k) % 2 = pcn (n % 256) 8 + (pcn (n / 256) k + n / 256 / 2 ^ k % 2)
    rw [pcn_split n k, Nat.div_div_eq_div_mul, Nat.pow_add]
    show _ + n / (256 * 2 ^ k) % 2 = _
    omega
theorem pcn_b : ∀ a, a < 256 → pcn a 8 = t3 (t2 (t1 a)) ∧ t3 (t2 (t1 a)) ≤ 8 := by decide +kernel
/-- the bytes' sum -/
def sum8 : Nat → Nat → Nat
  | 0, _ => 0
  | k + 1, n => n % 256 + sum8 k (n / 256)
theorem pcn_by : ∀ (k n : Nat), pcn n (8 * k) = sum8 k (by8 k n)
  | 0, n => rfl
  | k + 1, n => by
    have ha : n % 256 < 256 := Nat.mod_lt _ (by decide)
    obtain ⟨h1, h2⟩ := pcn_b _ ha
    rw [show 8 * (k + 1) = 8 + 8 * k by omega, pcn_split, pcn_by k, h1]
    show _ = (t3 (t2 (t1 (n % 256))) + 256 * by8 k (n / 256)) % 256 + sum8 k ((t3 (t2 (t1 (n % 256))) + 256 * by8 k (n / 256)) / 256)
    have e1 : (t3 (t2 (t1 (n % 256))) + 256 * by8 k (n / 256)) % 256 = t3 (t2 (t1 (n % 256))) := by omega
    have e2 : (t3 (t2 (t1 (n % 256))) + 256 * by8 k (n / 256)) / 256 = by8 k (n / 256) := by omega
    rw [e1, e2]
theorem by8_is (n : Nat) : ∃ a b c d e f g h, a ≤ 8 ∧ b ≤ 8 ∧ c ≤ 8 ∧ d ≤ 8 ∧ e ≤ 8 ∧ f ≤ 8 ∧ g ≤ 8 ∧ h ≤ 8 ∧ by8 8 n = a + 256 * (b + 256 * (c + 256 * (d + 256 * (e + 256 * (f + 256 * (g + 256 * h)))))) := by
  have hb : ∀ m, t3 (t2 (t1 (m % 256))) ≤ 8 := fun m => (pcn_b _ (Nat.mod_lt _ (by decide))).2
  exact ⟨_, _, _, _, _, _, _, _, hb _, hb _, hb _, hb _, hb _, hb _, hb _, hb _, rfl⟩
theorem d1 {a X : Nat} (h : a ≤ 8) : (a + 256 * X) / 2 ^ 8 = X := by omega
theorem d2 {p q Y : Nat} (h : p < 256) (h2 : q < 256) : (p + 256 * q + 65536 * Y) / 2 ^ 16 = Y := by omega
theorem d3 {p q r t Z : Nat} (h : p < 256) (h2 : q < 256) (h3 : r < 256) (h4 : t < 256) : (p + 256 * q + 65536 * r + 16777216 * t + 4294967296 * Z) / 2 ^ 32 = Z := by omega
theorem d4 {p q r t Z z0 B : Nat} (h : p + z0 < 128) (hZ : Z = z0 + 256 * B) : (p + 256 * q + 65536 * r + 16777216 * t + 4294967296 * Z + Z) % 128 = p + z0 := by
  have e : p + 256 * q + 65536 * r + 16777216 * t + 4294967296 * Z + Z = (p + z0) + 128 * (2 * q + 512 * r + 131072 * t + 33554432 * Z + 2 * B) := by omega
  rw [e, Nat.add_mul_mod_self_left, Nat.mod_eq_of_lt h]
theorem d5 {a b c d e f g h X : Nat} (hX : X = b + 256 * (c + 256 * (d + 256 * (e + 256 * (f + 256 * (g + 256 * h)))))) : a + 256 * X + X = (a + b) + 256 * (b + c) + 65536 * ((c + d) + 256 * ((d + e) + 256 * ((e + f) + 256 * ((f + g) + 256 * ((g + h) + 256 * h))))) := by omega
theorem d6 {a b c d e f g h Y Z : Nat} (hY : Y = (c + d) + 256 * ((d + e) + 256 * ((e + f) + 256 * ((f + g) + 256 * ((g + h) + 256 * h))))) (hZ : Z = (e + f + g + h) + 256 * ((f + g + h) + 256 * ((g + h) + 256 * h))) : (a + b) + 256 * (b + c) + 65536 * Y + Y = (a + b + c + d) + 256 * (b + c + d + e) + 65536 * (c + d + e + f) + 16777216 * (d + e + f + g) + 4294967296 * Z := by omega
theorem d7 {b c d e f g h X : Nat} (hb : b ≤ 8) (hc : c ≤ 8) (hd : d ≤ 8) (he : e ≤ 8) (hf : f ≤ 8) (hg : g ≤ 8) (hh : h ≤ 8) (hX : X = b + 256 * (c + 256 * (d + 256 * (e + 256 * (f + 256 * (g + 256 * h)))))) : X < 2 ^ 52 := by omega
theorem d8 {c d e f g h Y : Nat} (hc : c ≤ 8) (hd : d ≤ 8) (he : e ≤ 8) (hf : f ≤ 8) (hg : g ≤ 8) (hh : h ≤ 8) (hY : Y = (c + d) + 256 * ((d + e) + 256 * ((e + f) + 256 * ((f + g) + 256 * ((g + h) + 256 * h))))) : Y < 2 ^ 44 := by omega
theorem d9 {e f g h Z : Nat} (he : e ≤ 8) (hf : f ≤ 8) (hg : g ≤ 8) (hh : h ≤ 8) (hZ : Z = (e + f + g + h) + 256 * ((f + g + h) + 256 * ((g + h) + 256 * h))) : Z < 2 ^ 28 := by omega
theorem sum8_s {k a Y : Nat} (h : a ≤ 8) : sum8 (k + 1) (a + 256 * Y) = a + sum8 k Y := by
  show (a + 256 * Y) % 256 + sum8 k ((a + 256 * Y) / 256) = _
  rw [show (a + 256 * Y) % 256 = a by omega, show (a + 256 * Y) / 256 = Y by omega]
set_option maxHeartbeats 400000 in
theorem pcr_bcn (x : Int64) : pcr x = bcn x 64 := by
  obtain ⟨n, hn, rfl⟩ := wb_of x
  rw [bcn_n hn 64 (Nat.le_refl 64), show (64 : Nat) = 8 * 8 from rfl, pcn_by]
  have m5 : mk8 0x55 8 = 6148914691236517205 := by decide
  have m3 : mk8 0x33 8 = 3689348814741910323 := by decide
  have mf : mk8 0x0f 8 = 1085102592571150095 := by decide
  have h1 : pc1 (lN n) = lN (s1 8 n) := by
    unfold pc1 s1
    rw [show Int32.ofInt 1 = nI 1 from rfl, wb_shr hn (by decide), m5, show (6148914691236517205 : Int64) = lN 6148914691236517205 from rfl, wb_and (by omega) (by decide), lM_sub]
    exact Nat.le_trans Nat.and_le_left (Nat.div_le_self _ _)
  have l1 : s1 8 n < 2 ^ 64 := Nat.lt_of_le_of_lt (Nat.sub_le _ _) hn
  have h2 : pc2 (lN (s1 8 n)) = lN (s2 8 (s1 8 n)) := by
    unfold pc2 s2
    rw [show Int32.ofInt 2 = nI 2 from rfl, wb_shr l1 (by decide), m3, show (3689348814741910323 : Int64) = lN 3689348814741910323 from rfl, wb_and l1 (by decide), wb_and (by omega) (by decide), lM_add]
  have l2 : s2 8 (s1 8 n) < 2 ^ 63 := by
    have a1 : (s1 8 n &&& mk8 0x33 8) ≤ mk8 0x33 8 := Nat.and_le_right
    have a2 : (s1 8 n / 4 &&& mk8 0x33 8) ≤ mk8 0x33 8 := Nat.and_le_right
    unfold s2
    omega
  have h3 : pc3 (lN (s2 8 (s1 8 n))) = lN (by8 8 n) := by
    unfold pc3
    rw [show Int32.ofInt 4 = nI 4 from rfl, wb_shr (by omega) (by decide), lM_add, show (1085102592571150095 : Int64) = lN 1085102592571150095 from rfl, wb_and (by omega) (by decide), ← mf, ← s123]
    rfl
  have hs : ∀ (k m : Nat), k < 64 → m < 2 ^ 64 → pcs (nI k) (lN m) = lN (m + m / 2 ^ k) := by
    intro k m hk hm
    unfold pcs
    rw [wb_shr hm hk, lM_add]
  obtain ⟨a, b, c, d, e, f, g, h, ha, hb, hc, hd, he, hf, hg, hh, e8⟩ := by8_is n
  unfold pcr
  rw [h1, h2, h3, show (Int8.ofInt 8).toInt32 = nI 8 from rfl, show (Int8.ofInt 16).toInt32 = nI 16 from rfl, show (Int8.ofInt 32).toInt32 = nI 32 from rfl, show (Int8.ofInt 127).toInt32 = nI 127 from rfl]
  rw [e8, sum8_s ha, sum8_s hb, sum8_s hc, sum8_s hd, sum8_s he, sum8_s hf, sum8_s hg]
  have hl : sum8 1 h = h := by
    show h % 256 + 0 = h
    omega
  rw [hl]
  clear h1 h2 h3 l1 l2 m5 m3 mf e8 hl hn
  obtain ⟨X, hX⟩ : ∃ X, X = b + 256 * (c + 256 * (d + 256 * (e + 256 * (f + 256 * (g + 256 * h))))) := ⟨_, rfl⟩
  obtain ⟨Y, hY⟩ : ∃ Y, Y = (c + d) + 256 * ((d + e) + 256 * ((e + f) + 256 * ((f + g) + 256 * ((g + h) + 256 * h)))) := ⟨_, rfl⟩
  obtain ⟨Z, hZ⟩ : ∃ Z, Z = (e + f + g + h) + 256 * ((f + g + h) + 256 * ((g + h) + 256 * h)) := ⟨_, rfl⟩
  have bX := d7 hb hc hd he hf hg hh hX
  have bY := d8 hc hd he hf hg hh hY
  have bZ := d9 he hf hg hh hZ
  have v2 := d5 (a := a) hX
  have v4 := d6 (a := a) (b := b) hY hZ
  rw [← hY] at v2
  rw [← hX]
  clear hX hY
  rw [hs 8 _ (by decide) (by omega), d1 ha, v2, hs 16 _ (by decide) (by omega), d2 (by omega) (by omega), v4, hs 32 _ (by decide) (by omega), d3 (by omega) (by omega) (by omega) (by omega), lM_i, nI_and, d4 (z0 := e + f + g + h) (B := (f + g + h) + 256 * ((g + h) + 256 * h)) (by omega) hZ]
  congr 1
  omega
