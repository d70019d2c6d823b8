/-! ===== the small machine's numbers are the machine's ===== -/
theorem bm32 (x : Int) : Int.bmod x (2 ^ 32) = w32 x := by
  rw [w32_eq, Int.bmod_def]
  split <;> omega
theorem bm64 (x : Int) : Int.bmod x (2 ^ 64) = w64 x := by
  rw [w64_eq, Int.bmod_def]
  split <;> omega
theorem nu_add (x y : Int32) : (x + y).toInt = w32 (x.toInt + y.toInt) := by rw [Int32.toInt_add, bm32]
theorem nu_sub (x y : Int32) : (x - y).toInt = w32 (x.toInt - y.toInt) := by rw [Int32.toInt_sub, bm32]
theorem nu_mul (x y : Int32) : (x * y).toInt = w32 (x.toInt * y.toInt) := by rw [Int32.toInt_mul, bm32]
theorem nu_neg (x : Int32) : (-x).toInt = w32 (-x.toInt) := by rw [Int32.toInt_neg, bm32]
theorem nu_and (x y : Int32) : (x &&& y).toInt = m_and x.toInt y.toInt := by rw [m_and_eq, Int32.ofInt_toInt, Int32.ofInt_toInt]
theorem nu_or (x y : Int32) : (x ||| y).toInt = m_or x.toInt y.toInt := by rw [m_or_eq, Int32.ofInt_toInt, Int32.ofInt_toInt]
theorem nu_xor (x y : Int32) : (x ^^^ y).toInt = m_xor x.toInt y.toInt := by rw [m_xor_eq, Int32.ofInt_toInt, Int32.ofInt_toInt]
theorem nu_shl (x y : Int32) : (x <<< (y &&& 31)).toInt = m_shl x.toInt y.toInt := by rw [m_shl_eq, Int32.ofInt_toInt, Int32.ofInt_toInt]
theorem nu_shr (x y : Int32) : (x >>> (y &&& 31)).toInt = m_shr x.toInt y.toInt := by rw [m_shr_eq, Int32.ofInt_toInt, Int32.ofInt_toInt]
theorem nu_ushr (x y : Int32) : ((x.toUInt32 >>> (y.toUInt32 &&& Int32.toUInt32 31)).toInt32).toInt = m_ushr x.toInt y.toInt := by rw [m_ushr_eq, Int32.ofInt_toInt, Int32.ofInt_toInt]
theorem nu_div (x y : Int32) : (x / y).toInt = m_div x.toInt y.toInt := by rw [m_div_eq, Int32.ofInt_toInt, Int32.ofInt_toInt]
theorem nu_rem (x y : Int32) : (x - x / y * y).toInt = m_rem x.toInt y.toInt := by rw [m_rem_eq, Int32.ofInt_toInt, Int32.ofInt_toInt]
theorem nu_ne0 {y : Int32} (h : y.toInt ≠ 0) : ¬ y = 0 := fun e => h (by rw [e]; rfl)
theorem nl_add (x y : Int64) : (x + y).toInt = w64 (x.toInt + y.toInt) := by rw [Int64.toInt_add, bm64]
theorem nl_sub (x y : Int64) : (x - y).toInt = w64 (x.toInt - y.toInt) := by rw [Int64.toInt_sub, bm64]
theorem nl_mul (x y : Int64) : (x * y).toInt = w64 (x.toInt * y.toInt) := by rw [Int64.toInt_mul, bm64]
theorem nl_and (x y : Int64) : (x &&& y).toInt = l_and x.toInt y.toInt := by rw [l_and_eq, Int64.ofInt_toInt, Int64.ofInt_toInt]
theorem nl_or (x y : Int64) : (x ||| y).toInt = l_or x.toInt y.toInt := by rw [l_or_eq, Int64.ofInt_toInt, Int64.ofInt_toInt]
theorem nl_shl (x : Int64) (y : Int32) : (x <<< (y.toInt64 &&& 63)).toInt = l_shl x.toInt y.toInt := by rw [l_shl_eq, Int64.ofInt_toInt, Int32.ofInt_toInt]
theorem nl_shr (x : Int64) (y : Int32) : (x >>> (y.toInt64 &&& 63)).toInt = l_shr x.toInt y.toInt := by rw [l_shr_eq, Int64.ofInt_toInt, Int32.ofInt_toInt]
theorem nl_div (x y : Int64) : (x / y).toInt = l_div x.toInt y.toInt := by rw [l_div_eq, Int64.ofInt_toInt, Int64.ofInt_toInt]
theorem nl_rem (x y : Int64) : (x - x / y * y).toInt = l_rem x.toInt y.toInt := by rw [l_rem_eq, Int64.ofInt_toInt, Int64.ofInt_toInt]
theorem nl_ne0 {y : Int64} (h : y.toInt ≠ 0) : ¬ y = 0 := fun e => h (by rw [e]; rfl)
theorem nu_i2l (x : Int32) : x.toInt64.toInt = x.toInt := by simp
theorem nu_l2i (x : Int64) : x.toInt32.toInt = w32 x.toInt := by rw [Int64.toInt_toInt32, bm32]
theorem nu_i2b (x : Int32) : x.toInt8.toInt32.toInt = m_i2b x.toInt := by
  rw [Int8.toInt_toInt32, Int32.toInt_toInt8, Int.bmod_def]
  unfold m_i2b
  split <;> omega
theorem nu_i2s (x : Int32) : x.toInt16.toInt32.toInt = m_i2s x.toInt := by
  rw [Int16.toInt_toInt32, Int32.toInt_toInt16, Int.bmod_def]
  unfold m_i2s
  split <;> omega
theorem nu_i2c (x : Int32) : ((x.toUInt32 % 65536).toInt32).toInt = m_i2c x.toInt := by
  rw [pk_char, nI_toInt (by omega)]
  have h : x.toInt = x.toBitVec.toInt := rfl
  rw [h, BitVec.toInt_eq_toNat_cond]
  unfold m_i2c
  split <;> omega
theorem nu_lt {x y : Int32} : x < y ↔ x.toInt < y.toInt := Int32.lt_iff_toInt_lt
theorem nu_le {x y : Int32} : x ≤ y ↔ x.toInt ≤ y.toInt := Int32.le_iff_toInt_le
theorem nu_eq {x y : Int32} : x = y ↔ x.toInt = y.toInt := Int32.toInt_inj.symm
theorem nl_lt {x y : Int64} : x < y ↔ x.toInt < y.toInt := Int64.lt_iff_toInt_lt
theorem nl_eq {x y : Int64} : x = y ↔ x.toInt = y.toInt := Int64.toInt_inj.symm
theorem nl_cmp (x y : Int64) : (lg_cmp x y).toInt = m_cmp x.toInt y.toInt := by
  unfold lg_cmp m_cmp
  simp only [nl_lt, nl_eq]
  split <;> split <;> first | rfl | omega | (split <;> first | rfl | omega)
theorem nu_inc (x : Int32) (n : Int) : (x + Int32.ofInt n).toInt = w32 (x.toInt + n) := by
  rw [Int32.toInt_add, Int32.toInt_ofInt, ← bm32]
  simp
theorem nu_0 : (0 : Int32).toInt = 0 := rfl
theorem nu_max (x y : Int32) : (if x < y then y else x).toInt = if x.toInt < y.toInt then y.toInt else x.toInt := by
  by_cases h : x < y
  · rw [if_pos h, if_pos (nu_lt.mp h)]
  · rw [if_neg h, if_neg (fun q => h (nu_lt.mpr q))]
theorem nu_min (x y : Int32) : (if y < x then y else x).toInt = if y.toInt < x.toInt then y.toInt else x.toInt := by
  by_cases h : y < x
  · rw [if_pos h, if_pos (nu_lt.mp h)]
  · rw [if_neg h, if_neg (fun q => h (nu_lt.mpr q))]
theorem nu_abs (x : Int32) : (if 0 ≤ x then x else 0 - x).toInt = if 0 ≤ x.toInt then x.toInt else w32 (0 - x.toInt) := by
  by_cases h : 0 ≤ x
  · have h1 : 0 ≤ x.toInt := nu_le.mp h
    rw [if_pos h, if_pos h1]
  · have h1 : ¬ 0 ≤ x.toInt := fun q => h (nu_le.mpr q)
    rw [if_neg h, if_neg h1, nu_sub]; rfl
theorem nl_max (x y : Int64) : (if y < x then x else y).toInt = if x.toInt < y.toInt then y.toInt else x.toInt := by
  by_cases h : y < x
  · rw [if_pos h, if_neg (by have := nl_lt.mp h; omega)]
  · rw [if_neg h]
    have h2 : ¬ y.toInt < x.toInt := fun q => h (nl_lt.mpr q)
    split <;> omega
theorem nl_min (x y : Int64) : (if y < x then y else x).toInt = if y.toInt < x.toInt then y.toInt else x.toInt := by
  by_cases h : y < x
  · rw [if_pos h, if_pos (nl_lt.mp h)]
  · rw [if_neg h, if_neg (fun q => h (nl_lt.mpr q))]
