/-! ===== PURE: how many bits ===== -/
def pcF : Nat → Nat → Nat
  | 0, _ => 0
  | d + 1, m => m % 2 + pcF d (m / 2)
theorem bc_and (a b : Nat) : nI a &&& nI b = nI (a &&& b) := by
  apply Int32.toBitVec_inj.mp
  show (nI a).toBitVec &&& (nI b).toBitVec = (nI (a &&& b)).toBitVec
  unfold nI
  simp only [Int32.toBitVec_ofNat']
  rw [BitVec.ofNat_and]
theorem and_2 (x y : Nat) : (x &&& y) % 2 = (x % 2) * (y % 2) ∧ (x &&& y) / 2 = (x / 2) &&& (y / 2) := by
  refine ⟨?_, ?_⟩
  · have h := Nat.and_mod_two_pow (a := x) (b := y) (n := 1)
    rw [show 2 ^ 1 = 2 from rfl] at h
    rw [h]
    rcases Nat.mod_two_eq_zero_or_one x with a | a <;> rcases Nat.mod_two_eq_zero_or_one y with b | b <;> rw [a, b] <;> rfl
  · have h := Nat.shiftRight_and_distrib (a := x) (b := y) (i := 1)
    simpa [Nat.shiftRight_eq_div_pow] using h
theorem pc_low : ∀ d m, 0 < m → m < 2 ^ d → pcF d m = pcF d (m &&& (m - 1)) + 1 := by
  intro d
  induction d with
  | zero => intro m h1 h2; omega
  | succ d ih =>
    intro m h1 h2
    obtain ⟨e1, e2⟩ := and_2 m (m - 1)
    show m % 2 + pcF d (m / 2) = (m &&& (m - 1)) % 2 + pcF d ((m &&& (m - 1)) / 2) + 1
    rw [e1, e2]
    rcases Nat.mod_two_eq_zero_or_one m with a | a
    · have b : (m - 1) / 2 = m / 2 - 1 := by omega
      rw [b, a, ih (m / 2) (by omega) (by rw [Nat.pow_succ] at h2; omega)]
      omega
    · have b : (m - 1) / 2 = m / 2 := by omega
      have c : (m - 1) % 2 = 0 := by omega
      rw [b, c, a, Nat.and_self]
      omega
theorem pc_0 : ∀ d, pcF d 0 = 0 := by
  intro d
  induction d with
  | zero => rfl
  | succ d ih => show 0 % 2 + pcF d (0 / 2) = 0; simpa using ih
theorem pc_pos : ∀ d m, 0 < m → m < 2 ^ d → 0 < pcF d m := fun d m h1 h2 => by rw [pc_low d m h1 h2]; omega
theorem pc_le : ∀ d m, pcF d m ≤ d := by
  intro d
  induction d with
  | zero => intro m; exact Nat.le_refl 0
  | succ d ih => intro m; have := ih (m / 2); show m % 2 + pcF d (m / 2) ≤ d + 1; omega
theorem m_onesL (V : VV) (k0 : Nat) : ∀ k m fuel, pcF 24 m = k → m < 2 ^ 24 → k < fuel → f_X4_ones_L4 fuel (nI k0) (nI m) V = some (nI (k0 + k), V) := by
  intro k
  induction k generalizing k0 with
  | zero =>
    intro m fuel h1 h2 h3
    obtain ⟨f, rfl⟩ : ∃ f, fuel = f + 1 := ⟨fuel - 1, by omega⟩
    have hm : m = 0 := by
      by_cases e : m = 0
      · exact e
      · have := pc_pos 24 m (by omega) h2; omega
    subst hm
    rw [f_X4_ones_L4, if_pos nI_0]
    rfl
  | succ k ih =>
    intro m fuel h1 h2 h3
    obtain ⟨f, rfl⟩ : ∃ f, fuel = f + 1 := ⟨fuel - 1, by omega⟩
    have hm : 0 < m := by
      by_cases e : m = 0
      · rw [e, pc_0] at h1; omega
      · omega
    have hl := pc_low 24 m hm h2
    have hand : m &&& (m - 1) ≤ m := Nat.and_le_left
    rw [f_X4_ones_L4, if_neg (nI_ne0 hm (by omega)), show nI m - 1 = nI (m - 1) from pk_sub (b := 1) (by omega), bc_and, nI_succ', ih (k0 + 1) (m &&& (m - 1)) f (by omega) (by omega) (by omega)]
    rw [show k0 + 1 + k = k0 + (k + 1) by omega]
theorem m_ones (V : VV) {m : Nat} (h : m < 2 ^ 24) : f_X4_ones (nI m) V = some (nI (pcF 24 m), V) := by
  unfold f_X4_ones
  have := pc_le 24 m
  have e := m_onesL V 0 (pcF 24 m) m 200 rfl h (by omega)
  rw [Nat.zero_add] at e
  exact e
/-! the JDK's way, in natural numbers -/
def b1 (m : Nat) : Nat := m - (m / 2 &&& 1431655765)
def b2 (x : Nat) : Nat := (x &&& 858993459) + (x / 4 &&& 858993459)
def b3 (x : Nat) : Nat := (x + x / 16) &&& 252645135
def b4 (x : Nat) : Nat := (x + x / 256)
def b5 (x : Nat) : Nat := (x + x / 65536) &&& 63
theorem and_256 (x y : Nat) : (x &&& y) % 256 = (x % 256) &&& (y % 256) ∧ (x &&& y) / 256 = (x / 256) &&& (y / 256) := by
  refine ⟨Nat.and_mod_two_pow (a := x) (b := y) (n := 8), ?_⟩
  have h := Nat.shiftRight_and_distrib (a := x) (b := y) (i := 8)
  simpa [Nat.shiftRight_eq_div_pow] using h
/-- three bytes -/
def by3 (a b c : Nat) : Nat := a + 256 * b + 65536 * c
theorem and3 {a b c p q r : Nat} (ha : a < 256) (hb : b < 256) (hp : p < 256) (hq : q < 256) : by3 a b c &&& by3 p q r = by3 (a &&& p) (b &&& q) (c &&& r) := by
  unfold by3
  obtain ⟨e1, e2⟩ := and_256 (a + 256 * b + 65536 * c) (p + 256 * q + 65536 * r)
  rw [show (a + 256 * b + 65536 * c) % 256 = a by omega, show (p + 256 * q + 65536 * r) % 256 = p by omega] at e1
  rw [show (a + 256 * b + 65536 * c) / 256 = b + 256 * c by omega, show (p + 256 * q + 65536 * r) / 256 = q + 256 * r by omega] at e2
  obtain ⟨f1, f2⟩ := and_256 (b + 256 * c) (q + 256 * r)
  rw [show (b + 256 * c) % 256 = b by omega, show (q + 256 * r) % 256 = q by omega] at f1
  rw [show (b + 256 * c) / 256 = c by omega, show (q + 256 * r) / 256 = r by omega] at f2
  omega
theorem k1 : ∀ a, a < 256 → ∀ t, t < 2 → (a / 2 + 128 * t) &&& 85 = a / 2 &&& 85 ∧ (a / 2 &&& 85) ≤ a ∧ a - (a / 2 &&& 85) < 256 := by decide +kernel
theorem k2 : ∀ a, a < 256 → ∀ t, t < 4 → (a / 4 + 64 * t) &&& 51 = a / 4 &&& 51 ∧ (a / 4 &&& 51) ≤ 51 ∧ (a &&& 51) ≤ 51 := by decide +kernel
theorem k4 : ∀ a, a < 256 → (a - (a / 2 &&& 85)) < 256 ∧ (((a - (a / 2 &&& 85)) &&& 51) + ((a - (a / 2 &&& 85)) / 4 &&& 51)) % 16 ≤ 4 ∧ (((a - (a / 2 &&& 85)) &&& 51) + ((a - (a / 2 &&& 85)) / 4 &&& 51)) / 16 ≤ 4 ∧ ((((a - (a / 2 &&& 85)) &&& 51) + ((a - (a / 2 &&& 85)) / 4 &&& 51)) + (((a - (a / 2 &&& 85)) &&& 51) + ((a - (a / 2 &&& 85)) / 4 &&& 51)) / 16) % 16 = pcF 8 a := by decide +kernel
theorem and15 (x : Nat) : x &&& 15 = x % 16 := Nat.and_two_pow_sub_one_eq_mod x 4
theorem and63 (x : Nat) : x &&& 63 = x % 64 := Nat.and_two_pow_sub_one_eq_mod x 6
theorem b1_3 {a b c : Nat} (ha : a < 256) (hb : b < 256) (hc : c < 256) : b1 (by3 a b c) = by3 (a - (a / 2 &&& 85)) (b - (b / 2 &&& 85)) (c - (c / 2 &&& 85)) := by
  have e : by3 a b c / 2 = by3 (a / 2 + 128 * (b % 2)) (b / 2 + 128 * (c % 2)) (c / 2) := by unfold by3; omega
  have m : (1431655765 : Nat) = by3 85 85 21845 := by decide
  unfold b1
  rw [e, m, and3 (by omega) (by omega) (by decide) (by decide)]
  obtain ⟨a1, a2, a3⟩ := k1 a ha (b % 2) (by omega)
  obtain ⟨c1, c2, c3⟩ := k1 b hb (c % 2) (by omega)
  obtain ⟨d1, d2, d3⟩ := k1 c hc 0 (by omega)
  rw [a1, c1]
  have hc2 : c / 2 &&& 21845 = c / 2 &&& 85 := by
    have key : ∀ c, c < 256 → c / 2 &&& 21845 = c / 2 &&& 85 := by decide +kernel
    exact key c hc
  rw [hc2]
  unfold by3
  omega
theorem b2_3 {a b c : Nat} (ha : a < 256) (hb : b < 256) (hc : c < 256) : b2 (by3 a b c) = by3 ((a &&& 51) + (a / 4 &&& 51)) ((b &&& 51) + (b / 4 &&& 51)) ((c &&& 51) + (c / 4 &&& 51)) := by
  have e : by3 a b c / 4 = by3 (a / 4 + 64 * (b % 4)) (b / 4 + 64 * (c % 4)) (c / 4) := by unfold by3; omega
  have m : (858993459 : Nat) = by3 51 51 13107 := by decide
  unfold b2
  rw [e, m, and3 ha hb (by decide) (by decide), and3 (by omega) (by omega) (by decide) (by decide)]
  obtain ⟨a1, a2, a3⟩ := k2 a ha (b % 4) (by omega)
  obtain ⟨c1, c2, c3⟩ := k2 b hb (c % 4) (by omega)
  rw [a1, c1]
  have key : ∀ c, c < 256 → c &&& 13107 = c &&& 51 ∧ c / 4 &&& 13107 = c / 4 &&& 51 := by decide +kernel
  rw [(key c hc).1, (key c hc).2]
  unfold by3
  omega
theorem b3_3 {a b c : Nat} (a1 : a % 16 ≤ 4) (a2 : a / 16 ≤ 4) (b1 : b % 16 ≤ 4) (b2 : b / 16 ≤ 4) (c1 : c % 16 ≤ 4) (c2 : c / 16 ≤ 4) : b3 (by3 a b c) = by3 ((a + a / 16) % 16) ((b + b / 16) % 16) ((c + c / 16) % 16) := by
  have e : by3 a b c + by3 a b c / 16 = by3 (a + a / 16 + 16 * (b % 16)) (b + b / 16 + 16 * (c % 16)) (c + c / 16) := by unfold by3; omega
  have m : (252645135 : Nat) = by3 15 15 3855 := by decide
  unfold b3
  rw [e, m, and3 (by omega) (by omega) (by decide) (by decide), and15, and15]
  have key : ∀ x, x < 256 → x &&& 3855 = x % 16 := by decide +kernel
  rw [key _ (by omega)]
  unfold by3
  omega
theorem pc_split : ∀ k d a x, a < 2 ^ k → pcF (d + k) (a + 2 ^ k * x) = pcF k a + pcF d x := by
  intro k
  induction k with
  | zero => intro d a x h; have : a = 0 := by simpa using h
            subst this
            simp [pcF]
  | succ k ih =>
    intro d a x h
    show (a + 2 ^ (k + 1) * x) % 2 + pcF (d + k) ((a + 2 ^ (k + 1) * x) / 2) = a % 2 + pcF k (a / 2) + pcF d x
    rw [Nat.pow_succ] at h ⊢
    have e1 : (a + 2 ^ k * 2 * x) / 2 = a / 2 + 2 ^ k * x := by
      rw [show 2 ^ k * 2 * x = 2 * (2 ^ k * x) by rw [Nat.mul_comm (2 ^ k) 2, Nat.mul_assoc]]
      omega
    have e2 : (a + 2 ^ k * 2 * x) % 2 = a % 2 := by
      rw [show 2 ^ k * 2 * x = 2 * (2 ^ k * x) by rw [Nat.mul_comm (2 ^ k) 2, Nat.mul_assoc]]
      omega
    rw [e1, e2, ih d (a / 2) x (by omega)]
    omega
theorem fin3 {x y z : Nat} (hx : x ≤ 8) (hy : y ≤ 8) (hz : z ≤ 8) : b5 (b4 (by3 x y z)) = x + (y + z) := by
  unfold b5 b4 by3
  rw [and63]
  have e1 : (x + 256 * y + 65536 * z) / 256 = y + 256 * z := by omega
  rw [e1]
  have e2 : (x + 256 * y + 65536 * z + (y + 256 * z)) / 65536 = z := by omega
  rw [e2]
  omega
theorem bc_nat {m : Nat} (h : m < 2 ^ 24) : b5 (b4 (b3 (b2 (b1 m)))) = pcF 24 m := by
  obtain ⟨a, b, c, ha, hb, hc, rfl⟩ : ∃ a b c, a < 256 ∧ b < 256 ∧ c < 256 ∧ m = by3 a b c := ⟨m % 256, m / 256 % 256, m / 65536, by omega, by omega, by omega, by unfold by3; omega⟩
  obtain ⟨a1, a2, a3, a4⟩ := k4 a ha
  obtain ⟨b1', b2', b3', b4'⟩ := k4 b hb
  obtain ⟨c1, c2, c3, c4⟩ := k4 c hc
  rw [b1_3 ha hb hc, b2_3 a1 b1' c1, b3_3 a2 a3 b2' b3' c2 c3, a4, b4', c4]
  have pa := pc_le 8 a
  have pb := pc_le 8 b
  have pc := pc_le 8 c
  have e : pcF 24 (by3 a b c) = pcF 8 a + (pcF 8 b + pcF 8 c) := by
    have h1 := pc_split 8 16 a (b + 256 * c) ha
    have h2 := pc_split 8 8 b c hb
    rw [show by3 a b c = a + 2 ^ 8 * (b + 256 * c) by unfold by3; omega, show 24 = 16 + 8 from rfl, h1]
    rw [show b + 256 * c = b + 2 ^ 8 * c from rfl, show 16 = 8 + 8 from rfl, h2]
  rw [e]
  exact fin3 (by omega) (by omega) (by omega)
theorem ush (n k : Nat) (s : Int32) (hn : n < 2 ^ 32) (hs : ((s.toUInt32 &&& Int32.toUInt32 31).toBitVec % 32).toNat = k) : ((nI n).toUInt32 >>> (s.toUInt32 &&& Int32.toUInt32 31)).toInt32 = nI (n / 2 ^ k) := pk_ushrN hn s k hs
theorem and_le (x y : Nat) : x &&& y ≤ x := Nat.and_le_left
theorem bc_1 {m : Nat} (h : m < 2 ^ 32) : nI m - (((nI m).toUInt32 >>> ((1 : Int32).toUInt32 &&& Int32.toUInt32 31)).toInt32 &&& 1431655765) = nI (b1 m) := by
  rw [ush m 1 1 h (by decide), show (1431655765 : Int32) = nI 1431655765 from rfl, bc_and, pk_sub (by have := and_le (m / 2 ^ 1) 1431655765; omega)]
  rfl
theorem bc_2 {m : Nat} (h : m < 2 ^ 32) : (nI m &&& 858993459) + (((nI m).toUInt32 >>> ((2 : Int32).toUInt32 &&& Int32.toUInt32 31)).toInt32 &&& 858993459) = nI (b2 m) := by
  rw [ush m 2 2 h (by decide), show (858993459 : Int32) = nI 858993459 from rfl, bc_and, bc_and, nI_add]
  rfl
theorem bc_3 {m : Nat} (h : m < 2 ^ 32) : (nI m + ((nI m).toUInt32 >>> ((4 : Int32).toUInt32 &&& Int32.toUInt32 31)).toInt32) &&& 252645135 = nI (b3 m) := by
  rw [ush m 4 4 h (by decide), show (252645135 : Int32) = nI 252645135 from rfl, nI_add, bc_and]
  rfl
theorem bc_4 {m : Nat} (h : m < 2 ^ 32) : nI m + ((nI m).toUInt32 >>> ((8 : Int32).toUInt32 &&& Int32.toUInt32 31)).toInt32 = nI (b4 m) := by
  rw [ush m 8 8 h (by decide), nI_add]
  rfl
theorem bc_5 {m : Nat} (h : m < 2 ^ 32) : (nI m + ((nI m).toUInt32 >>> ((16 : Int32).toUInt32 &&& Int32.toUInt32 31)).toInt32) &&& 63 = nI (b5 m) := by
  rw [ush m 16 16 h (by decide), show (63 : Int32) = nI 63 from rfl, nI_add, bc_and]
  rfl
theorem k_bitCount (V : VV) {m : Nat} (h : m < 2 ^ 24) : f_J6_bitCount_0f7a4 (nI m) V = some (nI (pcF 24 m), V) := by
  have h1 : b1 m ≤ m := by unfold b1; omega
  have h2 : b2 (b1 m) < 2 ^ 31 := by
    unfold b2
    have := and_le (b1 m) 858993459
    have := and_le (b1 m / 4) 858993459
    omega
  have h3 : b3 (b2 (b1 m)) < 2 ^ 29 := by
    unfold b3
    have : (b2 (b1 m) + b2 (b1 m) / 16) &&& 252645135 ≤ 252645135 := Nat.and_le_right
    omega
  have h4 : b4 (b3 (b2 (b1 m))) < 2 ^ 30 := by unfold b4; omega
  unfold f_J6_bitCount_0f7a4
  rw [bc_1 (by omega), bc_2 (by omega), bc_3 (by omega), bc_4 (by omega), bc_5 (by omega), bc_nat h]
theorem bits_lt (P : Nat → Bool) : ∀ n, n ≤ 8 → ∃ m, m < 2 ^ n ∧ bitsR P n = nI m := by
  intro n
  induction n with
  | zero => intro _; exact ⟨0, by decide, rfl⟩
  | succ n ih =>
    intro hn
    obtain ⟨m, h1, h2⟩ := ih (by omega)
    unfold bitsR
    by_cases hp : P n = true
    · rw [if_pos hp, h2]
      have e : (1 : Int32) <<< (nI n &&& 31) = nI (2 ^ n) := by
        have key : ∀ n, n < 8 → (1 : Int32) <<< (nI n &&& 31) = nI (2 ^ n) := by decide
        exact key n (by omega)
      rw [e]
      have key : ∀ n, n < 8 → ∀ m, m < 2 ^ n → nI m ||| nI (2 ^ n) = nI (m + 2 ^ n) := by decide +kernel
      exact ⟨m + 2 ^ n, by rw [Nat.pow_succ]; omega, key n (by omega) m h1⟩
    · rw [if_neg hp]
      exact ⟨m, by rw [Nat.pow_succ]; omega, h2⟩
/-- the number of those, told by both in the same way -/
def cntR (P : Nat → Bool) (n : Nat) : Nat := pcF 24 (bitsR P n).toNatClampNeg
theorem cnt_ok (P : Nat → Bool) {n : Nat} (h8 : n ≤ 8) (V : VV) : f_J6_bitCount_0f7a4 (bitsR P n) V = some (nI (cntR P n), V) ∧ f_X4_ones (bitsR P n) V = some (nI (cntR P n), V) := by
  obtain ⟨m, h1, h2⟩ := bits_lt P n h8
  have hm : m < 2 ^ 24 := Nat.lt_of_lt_of_le h1 (Nat.pow_le_pow_right (by decide) (by omega))
  unfold cntR
  rw [h2, cl_nI (by omega), k_bitCount V hm, m_ones V hm]
  exact ⟨rfl, rfl⟩
