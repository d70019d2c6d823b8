/-! ===== numbers, bits and masks over Int, for conditions ===== -/
theorem w32_id {x : Int} (h1 : -2147483648 ≤ x) (h2 : x < 2147483648) : w32 x = x := by
  rw [w32_eq]; omega
theorem w64_id {x : Int} (h1 : -9223372036854775808 ≤ x) (h2 : x < 9223372036854775808) : w64 x = x := by
  rw [w64_eq]; omega
theorem ofI {a : Nat} (h : a < 2147483648) : Int32.ofInt (a : Int) = nI a := by
  apply Int32.toInt_inj.mp
  rw [Int32.toInt_ofInt, nI_toInt (by omega), bm32, w32_eq]
  omega
theorem nI_and (a b : Nat) : nI a &&& nI b = nI (a &&& b) := by
  apply Int32.toBitVec_inj.1
  show BitVec.ofNat 32 a &&& BitVec.ofNat 32 b = BitVec.ofNat 32 (a &&& b)
  apply BitVec.eq_of_getLsbD_eq
  intro i hi
  simp [hi]
theorem nI_or (a b : Nat) : nI a ||| nI b = nI (a ||| b) := by
  apply Int32.toBitVec_inj.1
  show BitVec.ofNat 32 a ||| BitVec.ofNat 32 b = BitVec.ofNat 32 (a ||| b)
  apply BitVec.eq_of_getLsbD_eq
  intro i hi
  simp [hi]
theorem nI_xor (a b : Nat) : nI a ^^^ nI b = nI (a ^^^ b) := by
  apply Int32.toBitVec_inj.1
  show BitVec.ofNat 32 a ^^^ BitVec.ofNat 32 b = BitVec.ofNat 32 (a ^^^ b)
  apply BitVec.eq_of_getLsbD_eq
  intro i hi
  simp [hi]
theorem m_and_n {a b : Nat} (ha : a < 2147483648) (hb : b < 2147483648) : m_and a b = ((a &&& b : Nat) : Int) := by
  have : a &&& b ≤ a := Nat.and_le_left
  rw [m_and_eq, ofI ha, ofI hb, nI_and, nI_toInt (by omega)]
theorem or_lt31 {a b : Nat} (ha : a < 2147483648) (hb : b < 2147483648) : a ||| b < 2147483648 := Nat.or_lt_two_pow (n := 31) ha hb
theorem m_or_n {a b : Nat} (ha : a < 2147483648) (hb : b < 2147483648) : m_or a b = ((a ||| b : Nat) : Int) := by
  have := or_lt31 ha hb
  rw [m_or_eq, ofI ha, ofI hb, nI_or, nI_toInt (by omega)]
theorem m_xor_n {a b : Nat} (ha : a < 2147483648) (hb : b < 2147483648) : m_xor a b = ((a ^^^ b : Nat) : Int) := by
  have : a ^^^ b < 2147483648 := Nat.xor_lt_two_pow (n := 31) ha hb
  rw [m_xor_eq, ofI ha, ofI hb, nI_xor, nI_toInt (by omega)]
theorem sh31 : ∀ n, n < 32 → ((nI n &&& 31).toBitVec.smod 32).toNat = n := by decide +kernel
theorem m_shl_n {a k : Nat} (hk : k < 31) (h : a * 2 ^ k < 2147483648) : m_shl a k = ((a * 2 ^ k : Nat) : Int) := by
  have h0 : a ≤ a * 2 ^ k := Nat.le_mul_of_pos_right a (Nat.two_pow_pos k)
  rw [m_shl_eq, ofI (by omega), ofI (by omega), pk_shlN _ k (sh31 k (by omega)) (by omega), nI_toInt (by omega)]
theorem m_shr_n {a k : Nat} (ha : a < 2147483648) (hk : k < 32) : m_shr a k = ((a / 2 ^ k : Nat) : Int) := by
  have h0 : a / 2 ^ k ≤ a := Nat.div_le_self _ _
  rw [m_shr_eq, ofI ha, ofI (by omega), pk_shrN (by omega) _ k (sh31 k hk), nI_toInt (by omega)]
theorem p2_lt {k : Nat} (h : k < 31) : 2 ^ k < 2147483648 := Nat.pow_lt_pow_right (a := 2) (by omega) (m := k) (n := 31) h
theorem m_one {k : Nat} (hk : k < 31) : m_shl 1 k = ((2 ^ k : Nat) : Int) := by
  have h := m_shl_n (a := 1) hk (by rw [Nat.one_mul]; exact p2_lt hk)
  rw [Nat.one_mul] at h
  exact h
/-- a bit, as a number -/
theorem m_bit {a k : Nat} (ha : a < 2147483648) (hk : k < 32) : m_and (m_shr a k) 1 = ((a / 2 ^ k % 2 : Nat) : Int) := by
  have h0 : a / 2 ^ k ≤ a := Nat.div_le_self _ _
  rw [m_shr_n ha hk]
  have := m_and_n (a := a / 2 ^ k) (b := 1) (by omega) (by omega)
  rw [Nat.and_one_is_mod] at this
  exact this
/-- how many of the first n bits are set -/
def popc : Nat → Nat → Nat
  | 0, _ => 0
  | n + 1, s => popc n s + s / 2 ^ n % 2
theorem popc_le : ∀ (n s : Nat), popc n s ≤ n
  | 0, _ => Nat.le_refl 0
  | n + 1, s => by
    have := popc_le n s
    have h2 : s / 2 ^ n % 2 < 2 := Nat.mod_lt _ (by omega)
    show popc n s + s / 2 ^ n % 2 ≤ n + 1
    omega
/-- a set of numbers below n, as bits -/
def msk (p : Nat → Bool) : Nat → Nat
  | 0 => 0
  | n + 1 => msk p n + (if p n then 2 ^ n else 0)
theorem msk_lt (p : Nat → Bool) : ∀ n, msk p n < 2 ^ n
  | 0 => Nat.one_pos
  | n + 1 => by
    have := msk_lt p n
    show msk p n + (if p n then 2 ^ n else 0) < 2 ^ (n + 1)
    rw [Nat.pow_succ]
    split <;> omega
theorem msk_lt31 (p : Nat → Bool) {n : Nat} (h : n ≤ 31) : msk p n < 2147483648 := Nat.lt_of_lt_of_le (msk_lt p n) (Nat.pow_le_pow_right (n := 2) (by omega) h)
theorem or_pow {a n : Nat} (h : a < 2 ^ n) : a ||| 2 ^ n = a + 2 ^ n := by
  have := Nat.two_pow_add_eq_or_of_lt h 1
  rw [Nat.mul_one] at this
  rw [Nat.or_comm, ← this, Nat.add_comm]
theorem msk_or (p : Nat → Bool) {n : Nat} (hn : n < 31) : m_or (msk p n) (if p n then m_shl 1 n else 0) = ((msk p (n + 1) : Nat) : Int) := by
  have h1 := msk_lt31 p (n := n) (by omega)
  show _ = ((msk p n + (if p n then 2 ^ n else 0) : Nat) : Int)
  cases p n with
  | true =>
    show m_or (msk p n) (m_shl 1 n) = ((msk p n + 2 ^ n : Nat) : Int)
    rw [m_one hn, m_or_n h1 (p2_lt hn), or_pow (msk_lt p n)]
  | false =>
    show m_or (msk p n) ((0 : Nat) : Int) = ((msk p n + 0 : Nat) : Int)
    rw [m_or_n h1 (by omega), Nat.or_zero, Nat.add_zero]
theorem msk_bit (p : Nat → Bool) : ∀ (n k : Nat), k < n → msk p n / 2 ^ k % 2 = if p k then 1 else 0
  | 0, k, h => by omega
  | n + 1, k, h => by
    show (msk p n + (if p n then 2 ^ n else 0)) / 2 ^ k % 2 = _
    by_cases e : k = n
    · subst e
      have h1 := msk_lt p k
      split
      · rw [show msk p k + 2 ^ k = msk p k + 1 * 2 ^ k by omega, Nat.add_mul_div_right _ _ (Nat.two_pow_pos k), Nat.div_eq_of_lt h1]
      · rw [Nat.add_zero, Nat.div_eq_of_lt h1]
    · have ih := msk_bit p n k (by omega)
      split
      · have e2 : 2 ^ n = 2 ^ (n - k - 1) * 2 * 2 ^ k := by
          rw [← Nat.pow_succ, ← Nat.pow_add]
          congr 1
          omega
        rw [e2, Nat.add_mul_div_right _ _ (Nat.two_pow_pos k), Nat.add_mul_mod_self_right, ih]
      · rw [Nat.add_zero, ih]
/-- bitsOf counts the bits of a set -/
theorem sp_bitsOf {d : Nat} {n : Nat × Nat} {Φ : Int → (Nat → Nat → Int) → Prop} {M : Nat → Nat → Int} (s : Nat) (hs : s < 2147483648) (q : Φ (popc 12 s : Nat) M) : CR (d + 1) 218 [(0, (s : Int))] M n Φ := by
  have key : ∀ (j k : Nat), k + j = 12 → W12_bitsOf_4 d n Φ (s : Int) (popc k s : Nat) (k : Nat) M := by
    intro j
    induction j with
    | zero =>
      intro k hk
      cases (show k = 12 by omega)
      exact v12_bitsOf_4 ⟨fun _ => q, fun c => absurd (by decide) c⟩
    | succ j ih =>
      intro k hk
      refine v12_bitsOf_4 ⟨fun c => absurd c (by omega), fun _ => ?_⟩
      have h1 := popc_le k s
      rw [m_bit hs (by omega), w32_id (by omega) (by omega), w32_id (by omega) (by omega)]
      exact ih (k + 1) (by omega)
  exact e12_bitsOf (key 12 0 rfl)
