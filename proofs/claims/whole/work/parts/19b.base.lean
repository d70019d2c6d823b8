/-! ===== more numbers; loops; small members ===== -/
theorem up {Q : Nat → Prop} {N : Nat} (hN : Q N) (hs : ∀ k, k < N → Q (k + 1) → Q k) : ∀ k, k ≤ N → Q k := by
  have key : ∀ j k, k + j = N → Q k := by
    intro j
    induction j with
    | zero => intro k hk; cases (show k = N by omega); exact hN
    | succ j ih => intro k hk; exact hs k (by omega) (ih (k + 1) (by omega))
  intro k hk
  exact key (N - k) k (by omega)
theorem ofL {a : Nat} (h : a < 9223372036854775808) : Int64.ofInt (a : Int) = lN a := by
  apply Int64.toInt_inj.mp
  rw [Int64.toInt_ofInt, pk_lT (by omega), bm64, w64_eq]
  omega
theorem lN_andN (a b : Nat) : lN a &&& lN b = lN (a &&& b) := by
  apply Int64.toBitVec_inj.1
  show BitVec.ofNat 64 a &&& BitVec.ofNat 64 b = BitVec.ofNat 64 (a &&& b)
  apply BitVec.eq_of_getLsbD_eq
  intro i hi
  simp [hi]
theorem lN_orN (a b : Nat) : lN a ||| lN b = lN (a ||| b) := by
  apply Int64.toBitVec_inj.1
  show BitVec.ofNat 64 a ||| BitVec.ofNat 64 b = BitVec.ofNat 64 (a ||| b)
  apply BitVec.eq_of_getLsbD_eq
  intro i hi
  simp [hi]
theorem l_and_n {a b : Nat} (ha : a < 9223372036854775808) (hb : b < 9223372036854775808) : l_and a b = ((a &&& b : Nat) : Int) := by
  have : a &&& b ≤ a := Nat.and_le_left
  rw [l_and_eq, ofL ha, ofL hb, lN_andN, pk_lT (by omega)]
theorem l_or_n {a b : Nat} (ha : a < 9223372036854775808) (hb : b < 9223372036854775808) : l_or a b = ((a ||| b : Nat) : Int) := by
  have : a ||| b < 9223372036854775808 := Nat.or_lt_two_pow (n := 63) ha hb
  rw [l_or_eq, ofL ha, ofL hb, lN_orN, pk_lT (by omega)]
theorem sh63 : ∀ n, n < 64 → (((nI n).toInt64 &&& 63).toBitVec.smod 64).toNat = n := by decide +kernel
theorem l_shr_n {a k : Nat} (ha : a < 9223372036854775808) (hk : k < 64) : l_shr a k = ((a / 2 ^ k : Nat) : Int) := by
  have h0 : a / 2 ^ k ≤ a := Nat.div_le_self _ _
  rw [l_shr_eq, ofL ha, ofI (by omega)]
  have e : ((lN a) >>> ((nI k).toInt64 &&& 63)).toInt = (lN a).toInt >>> ((((nI k).toInt64 &&& 63).toBitVec.smod 64).toNat) := BitVec.toInt_sshiftRight ..
  rw [e, sh63 k hk, Int.shiftRight_eq_div_pow, pk_lT (by omega)]
  rfl
/-- a bit of a long -/
theorem l_bit {a k : Nat} (ha : a < 9223372036854775808) (hk : k < 64) : l_and (l_shr a k) 1 = ((a / 2 ^ k % 2 : Nat) : Int) := by
  have h0 : a / 2 ^ k ≤ a := Nat.div_le_self _ _
  rw [l_shr_n ha hk]
  have := l_and_n (a := a / 2 ^ k) (b := 1) (by omega) (by omega)
  rw [Nat.and_one_is_mod] at this
  exact this
theorem ush31 : ∀ n, n < 32 → (((nI n).toUInt32 &&& Int32.toUInt32 31).toBitVec % 32).toNat = n := by decide +kernel
theorem m_ushr_n {a k : Nat} (ha : a < 2147483648) (hk : k < 32) : m_ushr a k = ((a / 2 ^ k : Nat) : Int) := by
  have h0 : a / 2 ^ k ≤ a := Nat.div_le_self _ _
  rw [m_ushr_eq, ofI ha, ofI (by omega), pk_ushrN (by omega) _ k (ush31 k hk), nI_toInt (by omega)]
theorem m_div_n {a b : Nat} (ha : a < 2147483648) (h0 : 0 < b) (hb : b < 2147483648) : m_div a b = ((a / b : Nat) : Int) := by
  have h1 : a / b ≤ a := Nat.div_le_self _ _
  rw [m_div_eq, ofI ha, ofI hb, pk_div ha h0 hb, nI_toInt (by omega)]
theorem m_rem_n {a b : Nat} (ha : a < 2147483648) (h0 : 0 < b) (hb : b < 2147483648) : m_rem a b = ((a % b : Nat) : Int) := by
  have h1 : a % b ≤ a := Nat.mod_le _ _
  rw [m_rem_eq, ofI ha, ofI hb, pk_rem ha h0 hb, nI_toInt (by omega)]
theorem l_div_n {a b : Nat} (ha : a < 9223372036854775808) (h0 : 0 < b) (hb : b < 9223372036854775808) : l_div a b = ((a / b : Nat) : Int) := by
  have h1 : a / b ≤ a := Nat.div_le_self _ _
  rw [l_div_eq, ofL ha, ofL hb, pk_lDiv ha h0 hb, pk_lT (by omega)]
theorem l_rem_n {a b : Nat} (ha : a < 9223372036854775808) (h0 : 0 < b) (hb : b < 9223372036854775808) : l_rem a b = ((a % b : Nat) : Int) := by
  have h1 : a % b ≤ a := Nat.mod_le _ _
  rw [l_rem_eq, ofL ha, ofL hb, pk_lRem ha h0 hb, pk_lT (by omega)]
/-- the next number -/
theorem w32_s {k : Nat} (h : k < 2147483647) : w32 ((k : Int) + 1) = ((k + 1 : Nat) : Int) := by
  rw [w32_eq]; omega
/-- a truth as a number -/
def b2i (b : Bool) : Int := bif b then 1 else 0
theorem b2i_or (b : Bool) : b2i b = 0 ∨ b2i b = 1 := by cases b <;> simp [b2i]
theorem cmp_lt0 {x y : Int} : m_cmp x y < 0 ↔ x < y := by unfold m_cmp; split <;> (try split) <;> omega
theorem cmp_gt0 {x y : Int} : 0 < m_cmp x y ↔ y < x := by unfold m_cmp; split <;> (try split) <;> omega
theorem cmp_le0 {x y : Int} : m_cmp x y ≤ 0 ↔ x ≤ y := by unfold m_cmp; split <;> (try split) <;> omega
theorem cmp_ge0 {x y : Int} : 0 ≤ m_cmp x y ↔ y ≤ x := by unfold m_cmp; split <;> (try split) <;> omega
theorem cmp_eq0 {x y : Int} : m_cmp x y = 0 ↔ x = y := by unfold m_cmp; split <;> (try split) <;> omega
theorem cmp_ne0 {x y : Int} : m_cmp x y ≠ 0 ↔ x ≠ y := by unfold m_cmp; split <;> (try split) <;> omega
section
variable {d : Nat} {n : Nat × Nat} {Φ : Int → (Nat → Nat → Int) → Prop} {M : Nat → Nat → Int} {w : cQ}
theorem sp_within (v lo hi : Int) (q : Φ (b2i (decide (lo ≤ v ∧ v ≤ hi))) M) : CR (d + 1) 182 [(1, v), (1, lo), (1, hi)] M n Φ := by
  apply e12_within
  rw [cmp_lt0, cmp_gt0]
  refine ⟨fun h => ?_, fun h => ⟨fun h2 => ?_, fun h2 => ?_⟩⟩
  · rw [decide_eq_false (by omega)] at q; exact q
  · rw [decide_eq_false (by omega)] at q; exact q
  · rw [decide_eq_true (by omega)] at q; exact q
/-- whether a number is in a set -/
def inS (s k : Nat) : Bool := s / 2 ^ k % 2 == 1
theorem sp_isIn (s k : Nat) (hs : s < 9223372036854775808) (hk : k < 64) (q : Φ (b2i (inS s k)) M) : CR (d + 1) 195 [(1, (s : Int)), (0, (k : Int))] M n Φ := by
  apply e12_isIn
  rw [cmp_ne0, l_bit hs hk]
  have h2 : s / 2 ^ k % 2 < 2 := Nat.mod_lt _ (by omega)
  refine ⟨fun h => ?_, fun h => ?_⟩
  · have e : inS s k = false := by unfold inS; rw [beq_eq_false_iff_ne]; omega
    rw [e] at q; exact q
  · have e : inS s k = true := by unfold inS; rw [beq_iff_eq]; omega
    rw [e] at q; exact q
theorem sp_isFarm (v : Int) (h : -2147483647 ≤ M 2 1 ∧ M 2 1 < 2147483648) (q : Φ (b2i (decide (0 ≤ v ∧ v < M 2 1))) M) : CR (d + 2) 214 [(2, 1), (1, v)] M n Φ := by
  refine e12_isFarm (sp_within _ _ _ ⟨b2i_or _, ?_⟩)
  rw [w32_id (by omega) (by omega), decide_eq_decide.mpr (show (0 ≤ v ∧ v ≤ M 2 1 - 1) ↔ (0 ≤ v ∧ v < M 2 1) by omega)]
  exact q
theorem sp_isMoment (v : Int) (h : -2147483647 ≤ M 2 2 ∧ M 2 2 < 2147483648) (q : Φ (b2i (decide (0 ≤ v ∧ v < M 2 2))) M) : CR (d + 2) 215 [(2, 1), (1, v)] M n Φ := by
  refine e12_isMoment (sp_within _ _ _ ⟨b2i_or _, ?_⟩)
  rw [w32_id (by omega) (by omega), decide_eq_decide.mpr (show (0 ≤ v ∧ v ≤ M 2 2 - 1) ↔ (0 ≤ v ∧ v < M 2 2) by omega)]
  exact q
theorem sp_isBit (v : Int) (h : -2147483647 ≤ M 2 3 ∧ M 2 3 < 2147483648) (q : Φ (b2i (decide (0 ≤ v ∧ v < M 2 3))) M) : CR (d + 2) 216 [(2, 1), (1, v)] M n Φ := by
  refine e12_isBit (sp_within _ _ _ ⟨b2i_or _, ?_⟩)
  rw [w32_id (by omega) (by omega), decide_eq_decide.mpr (show (0 ≤ v ∧ v ≤ M 2 3 - 1) ↔ (0 ≤ v ∧ v < M 2 3) by omega)]
  exact q
theorem sp_isWire (v : Int) (h : -2147483646 ≤ M 2 1 ∧ M 2 1 < 2147483648) (q : Φ (b2i (decide (0 ≤ v ∧ v < M 2 1 - 1))) M) : CR (d + 2) 217 [(2, 1), (1, v)] M n Φ := by
  refine e12_isWire (sp_within _ _ _ ⟨b2i_or _, ?_⟩)
  rw [w32_id (by omega) (by omega), decide_eq_decide.mpr (show (0 ≤ v ∧ v ≤ M 2 1 - 2) ↔ (0 ≤ v ∧ v < M 2 1 - 1) by omega)]
  exact q
/-- the class's bitCount, over Nat -/
def bcN (s : Nat) : Nat :=
  let a := s - (s / 2 &&& 1431655765)
  let b := (a &&& 858993459) + (a / 4 &&& 858993459)
  let c := (b + b / 16) &&& 252645135
  let e := c + c / 256
  (e + e / 65536) &&& 63
theorem bc_all2 : ∀ a, a < 64 → ∀ b, b < 64 → bcN (64 * a + b) = popc 12 (64 * a + b) ∧ (64 * a + b) / 2 &&& 1431655765 ≤ 64 * a + b := by decide +kernel
theorem bc_all (s : Nat) (h : s < 4096) : bcN s = popc 12 s ∧ s / 2 &&& 1431655765 ≤ s := by
  have := bc_all2 (s / 64) (by omega) (s % 64) (by omega)
  rw [show 64 * (s / 64) + s % 64 = s by omega] at this
  exact this
theorem sp_bitCount (s : Nat) (hs : s < 4096) (q : Φ (popc 12 s : Nat) M) : CF (d + 1) 318 [(0, (s : Int))] w M n Φ := by
  apply eJ_bitCount
  obtain ⟨h1, h2⟩ := bc_all s hs
  have u1 := m_ushr_n (a := s) (k := 1) (by omega) (by omega)
  have a1 := m_and_n (a := s / 2 ^ 1) (b := 1431655765) (by omega) (by omega)
  have s1 : w32 ((s : Int) - ((s / 2 ^ 1 &&& 1431655765 : Nat) : Int)) = ((s - (s / 2 &&& 1431655765) : Nat) : Int) := by
    rw [w32_eq]
    show (((s : Int) - ((s / 2 &&& 1431655765 : Nat) : Int)) + _) % _ - _ = _
    omega
  rw [show (1 : Int) = ((1 : Nat) : Int) from rfl, show (1431655765 : Int) = ((1431655765 : Nat) : Int) from rfl, u1, a1, s1]
  generalize ha : s - (s / 2 &&& 1431655765) = a
  have ha2 : a < 4096 := by omega
  have a2 := m_and_n (a := a) (b := 858993459) (by omega) (by omega)
  have u2 := m_ushr_n (a := a) (k := 2) (by omega) (by omega)
  have a3 := m_and_n (a := a / 2 ^ 2) (b := 858993459) (by omega) (by omega)
  rw [show (858993459 : Int) = ((858993459 : Nat) : Int) from rfl, show (2 : Int) = ((2 : Nat) : Int) from rfl, a2, u2, a3]
  have l2 : a &&& 858993459 ≤ a := Nat.and_le_left
  have l3 : a / 2 ^ 2 &&& 858993459 ≤ a / 2 ^ 2 := Nat.and_le_left
  have s2 : w32 (((a &&& 858993459 : Nat) : Int) + ((a / 2 ^ 2 &&& 858993459 : Nat) : Int)) = (((a &&& 858993459) + (a / 4 &&& 858993459) : Nat) : Int) := by
    rw [w32_eq]
    show (((a &&& 858993459 : Nat) : Int) + ((a / 4 &&& 858993459 : Nat) : Int) + _) % _ - _ = _
    have l3 : a / 4 &&& 858993459 ≤ a / 4 := Nat.and_le_left
    omega
  rw [s2]
  have l4 : a / 4 &&& 858993459 ≤ a / 4 := Nat.and_le_left
  generalize hb : (a &&& 858993459) + (a / 4 &&& 858993459) = b
  have hb2 : b < 8192 := by omega
  have u3 := m_ushr_n (a := b) (k := 4) (by omega) (by omega)
  rw [show (4 : Int) = ((4 : Nat) : Int) from rfl, u3]
  have s3 : w32 ((b : Int) + ((b / 2 ^ 4 : Nat) : Int)) = ((b + b / 16 : Nat) : Int) := by
    rw [w32_eq]
    show ((b : Int) + ((b / 16 : Nat) : Int) + _) % _ - _ = _
    omega
  rw [s3]
  have a4 := m_and_n (a := b + b / 16) (b := 252645135) (by omega) (by omega)
  rw [show (252645135 : Int) = ((252645135 : Nat) : Int) from rfl, a4]
  have l5 : (b + b / 16) &&& 252645135 ≤ b + b / 16 := Nat.and_le_left
  generalize hc : (b + b / 16) &&& 252645135 = c
  have hc2 : c < 16384 := by omega
  have u4 := m_ushr_n (a := c) (k := 8) (by omega) (by omega)
  rw [show (8 : Int) = ((8 : Nat) : Int) from rfl, u4]
  have s4 : w32 ((c : Int) + ((c / 2 ^ 8 : Nat) : Int)) = ((c + c / 256 : Nat) : Int) := by
    rw [w32_eq]
    show ((c : Int) + ((c / 256 : Nat) : Int) + _) % _ - _ = _
    omega
  rw [s4]
  generalize he : c + c / 256 = e
  have he2 : e < 32768 := by omega
  have u5 := m_ushr_n (a := e) (k := 16) (by omega) (by omega)
  rw [show (16 : Int) = ((16 : Nat) : Int) from rfl, u5]
  have s5 : w32 ((e : Int) + ((e / 2 ^ 16 : Nat) : Int)) = ((e + e / 65536 : Nat) : Int) := by
    rw [w32_eq]
    show ((e : Int) + ((e / 65536 : Nat) : Int) + _) % _ - _ = _
    omega
  rw [s5]
  have a5 := m_and_n (a := e + e / 65536) (b := 63) (by omega) (by omega)
  rw [show (63 : Int) = ((63 : Nat) : Int) from rfl, a5]
  have e0 : (e + e / 65536) &&& 63 = popc 12 s := by
    rw [← h1]
    show _ = bcN s
    unfold bcN
    rw [ha]
    dsimp only
    rw [hb, hc, he]
  rw [e0]
  exact q
end
