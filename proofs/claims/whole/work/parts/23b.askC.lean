/-! ===== plain questions: the class ===== -/
def KC (M M' : Nat → Nat → Int) : Prop := ∀ a, (a < 4 ∨ (9 ≤ a ∧ a < 14) ∨ (17 ≤ a ∧ a < 42) ∨ (44 ≤ a ∧ a < 96) ∨ 110 ≤ a) → M' a = M a
theorem KC.refl (M : Nat → Nat → Int) : KC M M := fun _ _ => rfl
theorem KC.trans {M M' N : Nat → Nat → Int} (h : KC M M') (h2 : KC M' N) : KC M N := fun a ha => (h2 a ha).trans (h a ha)
theorem KC.of43 {M M' : Nat → Nat → Int} (h : Q43 M M') : KC M M' := fun a ha => h a (by omega) (by omega)
theorem KC.set {M : Nat → Nat → Int} {a k : Nat} {x : Int} (h : (4 ≤ a ∧ a ≤ 8) ∨ (14 ≤ a ∧ a ≤ 16) ∨ a = 42 ∨ a = 43 ∨ (96 ≤ a ∧ a ≤ 109)) : KC M (sI M a k x) := fun b hb => sI_row (by omega)
theorem relW.kc {M M' : Nat → Nat → Int} {P : Nat → Int} (h : KC M M') (r : relW M P) : relW M' P := r.congr (fun b h1 h2 => h b (by omega))
/-- covers by a set of farms, one by one -/
def covC (P : Nat → Int) (s : Nat) : Nat → Nat
  | 0 => 0
  | k + 1 => if inS s k = true then covC P s k ||| (heardS P k ||| 2 ^ k) else covC P s k
theorem covC_lt {P : Nat → Int} (ok : okP P) (s : Nat) : ∀ k, k ≤ 8 → covC P s k < 256
  | 0, _ => by show 0 < 256; omega
  | k + 1, h => by
    have ih := covC_lt ok s k (by omega)
    have h1 := heardS_lt ok k
    have h2 := p2_8 k (by omega)
    show (if inS s k = true then covC P s k ||| (heardS P k ||| 2 ^ k) else covC P s k) < 256
    split
    · exact Nat.or_lt_two_pow (n := 8) ih (Nat.or_lt_two_pow (n := 8) h1 (by omega))
    · exact ih
theorem inS_tb (s k : Nat) : inS s k = s.testBit k := by
  unfold inS
  rw [Nat.testBit_eq_decide_div_mod_eq]
  by_cases h : s / 2 ^ k % 2 = 1
  · rw [h]; rfl
  · rw [decide_eq_false h, beq_eq_false_iff_ne]; exact h
theorem covC_tb (P : Nat → Int) (s j : Nat) : ∀ k, (covC P s k).testBit j = true ↔ ∃ i, i < k ∧ inS s i = true ∧ ((heardS P i).testBit j = true ∨ j = i)
  | 0 => by
    constructor
    · intro h
      have h : (0 : Nat).testBit j = true := h
      rw [Nat.zero_testBit] at h
      cases h
    · rintro ⟨i, h, _⟩; omega
  | k + 1 => by
    have ih := covC_tb P s j k
    show (if inS s k = true then covC P s k ||| (heardS P k ||| 2 ^ k) else covC P s k).testBit j = true ↔ _
    by_cases c : inS s k = true
    · rw [if_pos c, Nat.testBit_or, Nat.testBit_or, Nat.testBit_two_pow, Bool.or_eq_true, Bool.or_eq_true, decide_eq_true_eq, ih]
      constructor
      · rintro (⟨i, h1, h2⟩ | h | h)
        · exact ⟨i, by omega, h2⟩
        · exact ⟨k, by omega, c, Or.inl h⟩
        · exact ⟨k, by omega, c, Or.inr h.symm⟩
      · rintro ⟨i, h1, h2, h3⟩
        by_cases e : i = k
        · subst e
          rcases h3 with h3 | h3
          · exact Or.inr (Or.inl h3)
          · exact Or.inr (Or.inr h3.symm)
        · exact Or.inl ⟨i, by omega, h2, h3⟩
    · rw [if_neg c, ih]
      constructor
      · rintro ⟨i, h1, h2⟩; exact ⟨i, by omega, h2⟩
      · rintro ⟨i, h1, h2, h3⟩
        by_cases e : i = k
        · subst e; exact absurd h2 c
        · exact ⟨i, by omega, h2, h3⟩
theorem covK_tb (P : Nat → Int) (s j : Nat) : ∀ k, (covK P s k).testBit j = true ↔ s.testBit j = true ∨ ∃ i, i < k ∧ inS s i = true ∧ (heardS P i).testBit j = true
  | 0 => by
    constructor
    · intro h; exact Or.inl h
    · rintro (h | ⟨i, h, _⟩)
      · exact h
      · omega
  | k + 1 => by
    have ih := covK_tb P s j k
    show (covK P s k ||| (if inS s k = true then heardS P k else 0)).testBit j = true ↔ _
    rw [Nat.testBit_or, Bool.or_eq_true, ih]
    by_cases c : inS s k = true
    · rw [if_pos c]
      constructor
      · rintro ((h | ⟨i, h1, h2⟩) | h)
        · exact Or.inl h
        · exact Or.inr ⟨i, by omega, h2⟩
        · exact Or.inr ⟨k, by omega, c, h⟩
      · rintro (h | ⟨i, h1, h2, h3⟩)
        · exact Or.inl (Or.inl h)
        · by_cases e : i = k
          · subst e; exact Or.inr h3
          · exact Or.inl (Or.inr ⟨i, by omega, h2, h3⟩)
    · rw [if_neg c, Nat.zero_testBit]
      constructor
      · rintro ((h | ⟨i, h1, h2⟩) | h)
        · exact Or.inl h
        · exact Or.inr ⟨i, by omega, h2⟩
        · cases h
      · rintro (h | ⟨i, h1, h2, h3⟩)
        · exact Or.inl (Or.inl h)
        · by_cases e : i = k
          · subst e; exact absurd h2 c
          · exact Or.inl (Or.inr ⟨i, by omega, h2, h3⟩)
theorem cov_eq {P : Nat → Int} (ok : okP P) {s : Nat} (hs : s < 2 ^ nF P) : covC P s 8 = covK P s (nF P) := by
  obtain ⟨_, h1, h2⟩ := ok.nFe
  have hb : ∀ i, inS s i = true → i < nF P := by
    intro i hi
    rw [inS_tb] at hi
    apply Decidable.byContradiction
    intro c
    rw [Nat.testBit_lt_two_pow (Nat.lt_of_lt_of_le hs (Nat.pow_le_pow_right (by omega) (by omega)))] at hi
    cases hi
  apply Nat.eq_of_testBit_eq
  intro j
  rw [Bool.eq_iff_iff, covC_tb, covK_tb]
  constructor
  · rintro ⟨i, _, h4, h5 | h5⟩
    · exact Or.inr ⟨i, hb i h4, h4, h5⟩
    · subst h5
      rw [inS_tb] at h4
      exact Or.inl h4
  · rintro (h4 | ⟨i, h3, h4, h5⟩)
    · have h6 : inS s j = true := by rw [inS_tb]; exact h4
      have := hb j h6
      exact ⟨j, by omega, h6, Or.inr rfl⟩
    · exact ⟨i, by omega, h4, Or.inl h5⟩
theorem popc_mono : ∀ (n s : Nat), popc n s ≤ popc n (2 ^ n - 1)
  | 0, _ => Nat.le_refl _
  | n + 1, s => by
    have e : ∀ m, m ≤ n + 1 → popc m (2 ^ (n + 1) - 1) = m := by
      intro m
      induction m with
      | zero => intro _; rfl
      | succ m ih =>
        intro hm
        show popc m _ + (2 ^ (n + 1) - 1) / 2 ^ m % 2 = m + 1
        rw [ih (by omega)]
        have h1 : (2 ^ (n + 1) - 1).testBit m = true := by
          rw [Nat.testBit_two_pow_sub_one]
          exact decide_eq_true (by omega)
        rw [Nat.testBit_eq_decide_div_mod_eq] at h1
        rw [of_decide_eq_true h1]
    rw [e (n + 1) (Nat.le_refl _)]
    exact popc_le _ _
theorem popc_all {P : Nat → Int} (ok : okP P) {s : Nat} (hs : s ≤ allS P) : popc 12 s ≤ popc 12 (allS P) := by
  obtain ⟨_, h1, h2⟩ := ok.nFe
  obtain ⟨a1, a2, a3⟩ := allS_b ok
  have hi : ∀ s, s < 2 ^ nF P → ∀ j, nF P + j ≤ 12 → popc (nF P + j) s = popc (nF P) s := by
    intro s hs j
    induction j with
    | zero => intro _; rfl
    | succ j ih =>
      intro h
      show popc (nF P + j) s + s / 2 ^ (nF P + j) % 2 = _
      rw [ih (by omega), Nat.div_eq_of_lt (Nat.lt_of_lt_of_le hs (Nat.pow_le_pow_right (by omega) (by omega)))]
      rfl
  have k1 := hi s (by omega) (12 - nF P) (by omega)
  have k2 := hi (allS P) (by omega) (12 - nF P) (by omega)
  rw [show nF P + (12 - nF P) = 12 by omega] at k1 k2
  rw [k1, k2]
  exact popc_mono _ _
/-- bytes of an int, one way and another -/
theorem byte_eq (x : Int) (s : Nat) (hs : s ≤ 24) : m_i2b (m_i2b (m_ushr x (s : Int))) = m_i2b (m_and (m_shr x (s : Int)) 255) ∧ 0 ≤ m_and (m_shr x (s : Int)) 255 ∧ m_and (m_shr x (s : Int)) 255 < 256 := by
  have e1 : (Int32.ofInt x >>> (Int32.ofInt (s : Int) &&& 31)).toBitVec = (Int32.ofInt x).toBitVec.sshiftRight s := by
    rw [ofI (by omega)]
    show BitVec.sshiftRight _ (((nI s &&& 31).toBitVec.smod 32).toNat) = _
    rw [sh31 s (by omega)]
  have e2 : (((Int32.ofInt x).toUInt32 >>> ((Int32.ofInt (s : Int)).toUInt32 &&& Int32.toUInt32 31)).toInt32).toBitVec = (Int32.ofInt x).toBitVec.ushiftRight s := by
    rw [ofI (by omega)]
    show BitVec.ushiftRight _ ((((nI s).toUInt32 &&& Int32.toUInt32 31).toBitVec % 32).toNat) = _
    rw [ush31 s (by omega)]
    rfl
  generalize hv : (Int32.ofInt x).toBitVec = v at e1 e2
  have e3 : (v.sshiftRight s) &&& 255#32 = (v.ushiftRight s) &&& 255#32 := by
    apply BitVec.eq_of_getLsbD_eq
    intro i hi
    rw [BitVec.getLsbD_and, BitVec.getLsbD_and]
    by_cases c : i < 8
    · have h1 : (v.sshiftRight s).getLsbD i = v.getLsbD (s + i) := by
        rw [BitVec.getLsbD_sshiftRight]
        have h2 : ¬ (32 ≤ i) := by omega
        have h3 : s + i < 32 := by omega
        simp [h2, h3]
      have h4 : (v.ushiftRight s).getLsbD i = v.getLsbD (s + i) := BitVec.getLsbD_ushiftRight ..
      rw [h1, h4]
    · have h5 : (255#32).getLsbD i = false := by
        have hk : ∀ i, i < 32 → ¬ (i < 8) → (255#32).getLsbD i = false := by decide
        exact hk i hi c
      rw [h5, Bool.and_false, Bool.and_false]
  have e4 : m_shr x (s : Int) = (v.sshiftRight s).toInt := by
    rw [m_shr_eq, ← e1]
    rfl
  have e5 : m_ushr x (s : Int) = (v.ushiftRight s).toInt := by
    rw [m_ushr_eq, ← e2]
    rfl
  have e6 : (Int32.ofInt (v.sshiftRight s).toInt).toBitVec = v.sshiftRight s := BitVec.ofInt_toInt
  have e7 : m_and (m_shr x (s : Int)) 255 = ((v.sshiftRight s) &&& 255#32).toInt := by
    rw [m_and_eq, e4]
    show ((Int32.ofInt (v.sshiftRight s).toInt).toBitVec &&& (Int32.ofInt 255).toBitVec).toInt = _
    rw [e6]
    rfl
  have e8 : ((v.ushiftRight s) &&& 255#32).toNat = (v.ushiftRight s).toNat % 256 := by
    rw [BitVec.toNat_and]
    exact Nat.and_two_pow_sub_one_eq_mod _ 8
  have h9 : ((v.ushiftRight s) &&& 255#32).toInt = (((v.ushiftRight s).toNat % 256 : Nat) : Int) := by
    rw [BitVec.toInt_eq_toNat_cond, e8]
    have : (v.ushiftRight s).toNat % 256 < 256 := Nat.mod_lt _ (by omega)
    rw [if_pos (by omega)]
  have h10 : (v.ushiftRight s).toInt = ((v.ushiftRight s).toNat : Int) ∨ (v.ushiftRight s).toInt = ((v.ushiftRight s).toNat : Int) - 4294967296 := by
    rw [BitVec.toInt_eq_toNat_cond]
    split
    · exact Or.inl rfl
    · exact Or.inr rfl
  rw [e7, e3, h9, e5]
  unfold m_i2b
  refine ⟨?_, by omega, by omega⟩
  rcases h10 with h | h <;> rw [h] <;> omega
section
variable {d : Nat} {n : Nat × Nat} {Φ : Int → (Nat → Nat → Int) → Prop} {Ψ : Int → cQ → (Nat → Nat → Int) → Nat × Nat → Prop} {M : Nat → Nat → Int} {w : cQ} {P S Z U : Nat → Int}
theorem c_farm (f x : Int) (r : relW M P) (ok : okP P) (q : ∀ M', KC M M' → Φ (zFarm P f x) M') : CF (d + 5) 124 [(2, 1), (0, f), (0, x)] w M n Φ := by
  have hF := ok.F
  have hB := ok.nBe
  have q0 := q M (KC.refl M)
  unfold zFarm at q q0
  refine e11_farm (c_isFarm f r (br' (fun e => ?_) (fun e => ?_)))
  · have e := of_decide_eq_true e
    rw [if_pos e] at q q0
    rw [r.at (f := f.toNat) (by omega), r.doubt (f := f.toNat) (by omega), r.mood (f := f.toNat) (by omega), r.wish (f := f.toNat) (by omega)]
    refine ⟨fun c0 => ⟨by omega, ?_⟩, fun c0 => ⟨fun c1 => ⟨by omega, ?_⟩, fun c1 => ⟨fun c2 => ⟨by omega, ?_⟩, fun c2 => ⟨fun c3 => ⟨by omega, ?_⟩, fun c3 => ⟨fun c4 => ?_, fun c4 => ⟨fun c5 => ?_, fun c5 => ?_⟩⟩⟩⟩⟩⟩
    · rw [if_pos c0] at q0; exact q0
    · rw [if_neg c0, if_pos c1] at q0; exact q0
    · rw [if_neg c0, if_neg c1, if_pos c2] at q0; exact q0
    · rw [if_neg c0, if_neg c1, if_neg c2, if_pos c3] at q0; exact q0
    · rw [if_neg c0, if_neg c1, if_neg c2, if_neg c3, if_pos c4] at q
      rw [show f = (f.toNat : Int) by omega]
      exact sp_heardFarms _ r ok (by omega) (fun M' h => q M' (KC.of43 h))
    · rw [if_neg c0, if_neg c1, if_neg c2, if_neg c3, if_neg c4, if_pos c5] at q
      have ef : f = (f.toNat : Int) := by omega
      rw [ef, Int.toNat_natCast]
      refine sp_allowedBits _ r ok (by omega) (fun M' h => ⟨by omega, ?_⟩)
      have r' := r.q h
      rw [r'.at (by omega)]
      refine sp_bitsFrom _ r' ok ?_
      have l1 := msk_lt12 (fun b => mayT P f.toNat b) hB.2
      have l2 := msk_lt12 (fun b => decide (P (13 + b) = P (68 + f.toNat))) hB.2
      have e3 : m_and (mayS P f.toNat : Nat) (fromS P (P (68 + f.toNat)) : Nat) = ((canS P f.toNat : Nat) : Int) := by
        rw [← canS_eq]
        exact m_and_n (Nat.lt_trans l1 (by omega)) (Nat.lt_trans l2 (by omega))
      rw [e3]
      exact q M' (KC.of43 h)
    · rw [if_neg c0, if_neg c1, if_neg c2, if_neg c3, if_neg c4, if_neg c5] at q0; exact q0
  · have e := of_decide_eq_false e
    rw [if_neg e] at q0
    exact q0
theorem c_bit (f x : Int) (r : relW M P) (ok : okP P) (q : ∀ M', KC M M' → Φ (zBit P f x) M') : CF (d + 5) 125 [(2, 1), (0, f), (0, x)] w M n Φ := by
  have hB := ok.nBe
  have q0 := q M (KC.refl M)
  unfold zBit at q q0
  refine e11_bit (c_isBit f r (br' (fun e => ?_) (fun e => ?_)))
  · have e := of_decide_eq_true e
    rw [if_pos e] at q q0
    rw [r.from (b := f.toNat) (by omega), r.to (b := f.toNat) (by omega), r.must]
    refine ⟨fun c0 => ⟨by omega, ?_⟩, fun c0 => ⟨fun c1 => ⟨by omega, ?_⟩, fun c1 => ⟨fun c2 => ?_, fun c2 => ⟨fun c3 => ?_, fun c3 => ?_⟩⟩⟩⟩
    · rw [if_pos c0] at q0; exact q0
    · rw [if_neg c0, if_pos c1] at q0; exact q0
    · rw [if_neg c0, if_neg c1, if_pos c2] at q0
      have l2 := msk_lt12 (fun b => decide (P (37 + b) = 1)) hB.2
      have l3 : mustN P < 2147483648 := Nat.lt_trans l2 (by omega)
      have e1 : m_and (m_shr (mustN P : Nat) f) 1 = P (37 + f.toNat) := by
        have e2 := m_bit (a := mustN P) (k := f.toNat) l3 (by omega)
        rw [Int.toNat_of_nonneg (by omega)] at e2
        rw [e2]
        unfold mustN
        rw [msk_bit _ _ _ (by omega)]
        have h01 := (ok.bit (b := f.toNat) (by omega)).2.2
        rcases h01 with h | h
        · rw [h]; rfl
        · rw [h]; rfl
      rw [e1]
      exact q0
    · rw [if_neg c0, if_neg c1, if_neg c2, if_pos c3] at q
      rw [show f = (f.toNat : Int) by omega]
      exact sp_allowedFarms _ r ok (by omega) (fun M' h => q M' (KC.of43 h))
    · rw [if_neg c0, if_neg c1, if_neg c2, if_neg c3] at q0; exact q0
  · have e := of_decide_eq_false e
    rw [if_neg e] at q0
    exact q0
theorem c_wire (f x : Int) (r : relW M P) (ok : okP P) (q : Φ (zWire P f x) M) : CF (d + 2) 126 [(2, 1), (0, f), (0, x)] w M n Φ := by
  have hF := ok.F
  unfold zWire at q
  refine e11_wire (c_isWire f r ok (br' (fun e => ?_) (fun e => ?_)))
  · have e := of_decide_eq_true e
    rw [r.cut, r.snow (f := f.toNat) (by omega)]
    refine ⟨fun c => ?_, fun c => ⟨fun c1 => ⟨by omega, ?_⟩, fun c1 => ?_⟩⟩
    · rw [if_pos ⟨e, by omega⟩, if_pos c] at q; exact q
    · rw [if_pos ⟨e, by omega⟩, if_neg c] at q; exact q
    · rw [if_neg (by omega)] at q; exact q
  · have e := of_decide_eq_false e
    rw [if_neg (fun z => e z.1)] at q
    exact q
theorem c_likes (f m : Int) (r : relW M P) (ok : okP P) (q : ∀ M', KC M M' → Φ (zLikes P f m) M') : CF (d + 4) 127 [(2, 1), (0, f), (0, m)] w M n Φ := by
  have hF := ok.F
  have hM := ok.Mo
  have q0 := q M (KC.refl M)
  unfold zLikes at q q0
  refine e11_likes (c_isFarm f r (br (fun e => ?_) (fun e => c_isMoment m r (br' (fun e2 => ?_) (fun e2 => ?_)))))
  · have e := of_decide_eq_false e
    rw [if_neg (fun z => e z.1)] at q0
    exact q0
  · have e := of_decide_eq_true e
    have e2 := of_decide_eq_true e2
    rw [if_pos ⟨e, e2⟩] at q
    rw [show f = (f.toNat : Int) by omega, show m = (m.toNat : Int) by omega]
    exact sp_liking _ _ r ok (by omega) (by omega) (fun M' h => q M' (KC.of43 h))
  · have e2 := of_decide_eq_false e2
    rw [if_neg (fun z => e2 z.2)] at q0
    exact q0
theorem c_heardBy (f : Int) (r : relW M P) (ok : okP P) (q : ∀ M', KC M M' → Φ (zHeardBy P f) M') : CF (d + 5) 138 [(2, 1), (0, f)] w M n Φ := by
  have hF := ok.F
  unfold zHeardBy at q
  refine e11_heardBy (c_isFarm f r (br (fun e => ?_) (fun e => ?_)))
  · have e := of_decide_eq_false e
    rw [if_neg e] at q
    exact q M (KC.refl M)
  · have e := of_decide_eq_true e
    rw [if_pos e] at q
    rw [show f = (f.toNat : Int) by omega]
    exact sp_hearers _ r ok (by omega) (fun M' h => q M' (KC.of43 h))
theorem c_ear (r : relW M P) (ok : okP P) (q : ∀ M', KC M M' → Φ (earB P (nF P) : Nat) M') : CF (d + 5) 139 [(2, 1)] w M n Φ := by
  obtain ⟨eF, hF1, hF2⟩ := ok.nFe
  have key : ∀ k, k ≤ nF P → 1 ≤ k → ∀ M', Q43 M M' → W11_ear_6 (d + 4) Φ (earB P k : Nat) (hN P (earB P k) : Nat) (k : Nat) w M' n := by
    refine up (fun _ M' hM' => ?_) (fun k hk ih hk1 M' hM' => ?_)
    · apply v11_ear_6
      rw [(r.q hM').F, eF]
      exact ⟨fun _ => q M' (KC.of43 hM'), fun c => absurd (Int.le_refl _) c⟩
    · apply v11_ear_6
      have hs1 := heardS_lt ok k
      rw [(r.q hM').F, eF, w32_s (by omega)]
      refine ⟨fun c => absurd c (by omega), fun _ => sp_heardFarms k (r.q hM') ok (by omega) (fun M1 h1 => sp_bitCount _ (by omega) ?_)⟩
      have es : earB P (k + 1) = if hN P (earB P k) < hN P k then k else earB P k := rfl
      rw [es] at ih
      refine ⟨fun c => ?_, fun c => ?_⟩
      · have c' : ¬ (hN P (earB P k) < hN P k) := by
          have c2 : ((hN P k : Nat) : Int) ≤ ((hN P (earB P k) : Nat) : Int) := c
          omega
        rw [if_neg c'] at ih
        exact ih (by omega) M1 (hM'.trans h1)
      · have c' : hN P (earB P k) < hN P k := by
          have c2 : ¬ (((hN P k : Nat) : Int) ≤ ((hN P (earB P k) : Nat) : Int)) := c
          omega
        rw [if_pos c'] at ih
        exact ih (by omega) M1 (hM'.trans h1)
  have e1 : earB P 1 = 0 := Nat.le_zero.mp (earB_lt P 0)
  have hs1 := heardS_lt ok 0
  refine e11_ear (v11_ear_6 ?_)
  rw [r.F, eF]
  refine ⟨fun c => absurd c (by omega), fun _ => sp_heardFarms 0 r ok (by omega) (fun M1 h1 => sp_bitCount _ (by omega) ⟨fun c => absurd c (by omega), fun _ => ?_⟩)⟩
  have := key 1 (by omega) (by omega) M1 h1
  rw [e1] at this
  have e2 : w32 ((0 : Int) + 1) = ((1 : Nat) : Int) := by rw [w32_id] <;> omega
  rw [e2]
  exact this
theorem c_areTwo (f g : Int) (r : relW M P) (q : Φ (b2i (decide ((0 ≤ f ∧ f < P 1) ∧ (0 ≤ g ∧ g < P 1) ∧ f ≠ g))) M) : CF (d + 2) 179 [(2, 1), (0, f), (0, g)] w M n Φ := by
  refine e11_areTwo (c_isFarm f r (br (fun e => ?_) (fun e => c_isFarm g r (br (fun e2 => ?_) (fun e2 => ⟨fun c => ?_, fun c => ?_⟩)))))
  · have e := of_decide_eq_false e
    rw [decide_eq_false (fun z => e z.1)] at q; exact q
  · have e2 := of_decide_eq_false e2
    rw [decide_eq_false (fun z => e2 z.2.1)] at q; exact q
  · rw [decide_eq_false (fun z => z.2.2 c)] at q; exact q
  · have e := of_decide_eq_true e
    have e2 := of_decide_eq_true e2
    rw [decide_eq_true ⟨e, e2, c⟩] at q; exact q
theorem c_needs (f g : Int) (r : relW M P) (ok : okP P) (q : ∀ M', KC M M' → Φ (zNeeds P f g) M') : CF (d + 4) 140 [(2, 1), (0, f), (0, g)] w M n Φ := by
  have hF := ok.F
  unfold zNeeds at q
  refine e11_needs (c_areTwo f g r (br' (fun e => ?_) (fun e => ?_)))
  · have e := of_decide_eq_true e
    rw [if_pos e] at q
    rw [show f = (f.toNat : Int) by omega, show g = (g.toNat : Int) by omega]
    refine sp_hearsFrom _ _ r ok (by omega) (by omega) (fun M' h => ?_)
    have q' := q M' (KC.of43 h)
    refine br (fun e2 => ?_) (fun e2 => ?_)
    · rw [if_neg (by rw [e2]; decide)] at q'; exact q'
    · rw [if_pos e2] at q'
      exact sp_wiresBetween _ _ (by omega) (by omega) q'
  · have e := of_decide_eq_false e
    rw [if_neg e] at q
    exact q M (KC.refl M)
theorem c_pieces (r : relW M P) (ok : okP P) (q : Φ (zPieces P) M) : CF (d + 2) 141 [(2, 1)] w M n Φ := by
  have hc := ok.cut
  have hp := popc_le 12 (P 67).toNat
  apply e11_pieces
  rw [r.cut, show P 67 = ((P 67).toNat : Int) by omega]
  refine sp_bitCount _ (by omega) ?_
  rw [w32_id (by omega) (by omega)]
  exact q
theorem c_covered (s : Nat) (hs : s < 256) (ok : okP P) (h16 : ∀ k, inS s k = true → k < 8 → M 16 k = ((heardS P k ||| 2 ^ k : Nat) : Int)) (q : Φ (covC P s 8 : Nat) M) : CF (d + 1) 143 [(2, 1), (0, (s : Int))] w M n Φ := by
  have key : ∀ k, k ≤ 8 → W11_covered_4 d Φ (s : Nat) (covC P s k : Nat) (k : Nat) w M n := by
    refine up ?_ (fun k hk ih => ?_)
    · exact v11_covered_4 ⟨fun _ => q, fun c => absurd (by decide) c⟩
    · apply v11_covered_4
      have h1 := heardS_lt ok k
      have h2 := p2_8 k hk
      have h3 := covC_lt ok s k (by omega)
      have h4 : heardS P k ||| 2 ^ k < 256 := Nat.or_lt_two_pow (n := 8) h1 (by omega)
      have es : covC P s (k + 1) = if inS s k = true then covC P s k ||| (heardS P k ||| 2 ^ k) else covC P s k := rfl
      have h5 : s / 2 ^ k % 2 < 2 := Nat.mod_lt _ (by omega)
      rw [m_bit (by omega) (by omega), w32_s (by omega), Int.toNat_natCast]
      refine ⟨fun c => absurd c (by omega), fun _ => ⟨fun c => ?_, fun c => ⟨by omega, ?_⟩⟩⟩
      · have e : inS s k = false := by unfold inS; rw [beq_eq_false_iff_ne]; omega
        rw [e, if_neg (by decide)] at es
        rw [← es]
        exact ih
      · have e : inS s k = true := by unfold inS; rw [beq_iff_eq]; omega
        rw [h16 k e hk, m_or_n (by omega) (by omega)]
        rw [if_pos e] at es
        rw [← es]
        exact ih
  exact e11_covered (key 0 (Nat.zero_le _))
theorem c_listeners (r : relW M P) (ok : okP P) (q : ∀ M', KC M M' → Φ (lisB P (allS P + 1) : Nat) M') : CF (d + 5) 142 [(2, 1)] w M n Φ := by
  obtain ⟨eF, hF1, hF2⟩ := ok.nFe
  obtain ⟨a1, a2, a3⟩ := allS_b ok
  have e1 : w32 (m_shl 1 (nF P : Int) - 1) = ((allS P : Nat) : Int) := by
    rw [m_one (by omega), ← a3, w32_eq]
    omega
  have l0 : lisB P 1 = allS P := by
    show (if covK P 0 (nF P) = allS P ∧ popc 12 0 < popc 12 (lisB P 0) then 0 else lisB P 0) = _
    have : covK P 0 (nF P) = 0 := by
      apply Nat.eq_of_testBit_eq
      intro j
      rw [Bool.eq_iff_iff, covK_tb, Nat.zero_testBit]
      constructor
      · rintro (h | ⟨i, _, h, _⟩)
        · exact h
        · rw [inS_tb, Nat.zero_testBit] at h; cases h
      · intro h; cases h
    rw [if_neg (by omega)]
    rfl
  have l1 : lisB P (allS P + 1) = lisB P (allS P) := by
    show (if covK P (allS P) (nF P) = allS P ∧ popc 12 (allS P) < popc 12 (lisB P (allS P)) then allS P else lisB P (allS P)) = _
    have := popc_all ok (lisB_lt ok (allS P) (by omega))
    rw [if_neg (by omega)]
  rw [l1] at q
  have key2 : ∀ k, k ≤ allS P → 1 ≤ k → ∀ M', KC M M' → (∀ f, f < nF P → M' 16 f = ((heardS P f ||| 2 ^ f : Nat) : Int)) → W11_listeners_53 (d + 4) Φ (allS P : Nat) (lisB P k : Nat) (k : Nat) w M' n := by
    refine up (fun _ M' hM' _ => ?_) (fun k hk ih hk1 M' hM' h16 => ?_)
    · exact v11_listeners_53 ⟨fun _ => q M' hM', fun c => absurd (Int.le_refl _) c⟩
    · apply v11_listeners_53
      have hl := lisB_lt ok k (by omega)
      have es : lisB P (k + 1) = if covK P k (nF P) = allS P ∧ popc 12 k < popc 12 (lisB P k) then k else lisB P k := rfl
      have ec := cov_eq ok (s := k) (by omega)
      rw [w32_s (by omega)]
      refine ⟨fun c => absurd c (by omega), fun _ => sp_bitCount _ (by omega) (sp_bitCount _ (by omega) ⟨fun c => ?_, fun c => c_covered k (by omega) ok (fun i hi h8 => ?_) ⟨fun c2 => ?_, fun c2 => ?_⟩⟩)⟩
      · rw [if_neg (by omega)] at es
        rw [← es]
        exact ih (by omega) M' hM' h16
      · refine h16 i ?_
        apply Decidable.byContradiction
        intro c3
        rw [inS_tb, Nat.testBit_lt_two_pow (Nat.lt_of_lt_of_le (show k < 2 ^ nF P by omega) (Nat.pow_le_pow_right (by omega) (by omega)))] at hi
        cases hi
      · rw [ec] at c2
        rw [if_neg (by omega)] at es
        rw [← es]
        exact ih (by omega) M' hM' h16
      · rw [ec] at c2
        rw [if_pos (by omega)] at es
        rw [es] at ih
        exact ih (by omega) M' hM' h16
  have key1 : ∀ k, k ≤ nF P → ∀ M', KC M M' → (∀ f, f < k → M' 16 f = ((heardS P f ||| 2 ^ f : Nat) : Int)) → W11_listeners_13 (d + 4) Φ (nF P : Nat) (k : Nat) w M' n := by
    refine up (fun M' hM' h16 => ?_) (fun k hk ih M' hM' h16 => ?_)
    · apply v11_listeners_13
      rw [e1]
      refine ⟨fun _ => ?_, fun c => absurd (Int.le_refl _) c⟩
      have := key2 1 (by omega) (by omega) M' hM' h16
      rw [l0] at this
      exact this
    · apply v11_listeners_13
      have r' := r.kc hM'
      have h1 := heardS_lt ok k
      have h2 := p2_8 k (by omega)
      rw [w32_s (by omega), Int.toNat_natCast]
      refine ⟨fun c => absurd c (by omega), fun _ => sp_heardFarms k r' ok (by omega) (fun M1 hq => ⟨⟨by omega, by omega, trivial⟩, ?_⟩)⟩
      rw [m_one (by omega), m_or_n (by omega) (by omega)]
      refine ih _ (hM'.trans ((KC.of43 hq).trans (KC.set (by omega)))) (fun f hf => ?_)
      rw [sI_if]
      by_cases c : f = k
      · rw [if_pos c, c]
      · rw [if_neg c, hq 16 (by omega) (by omega)]
        exact h16 f (by omega)
  apply e11_listeners
  rw [r.F, eF]
  exact key1 0 (Nat.zero_le _) M (KC.refl M) (fun f hf => absurd hf (Nat.not_lt_zero f))
theorem c_tales (r : relW M P) (ok : okP P) (q : Φ (talesN P : Nat) M) : CF (d + 3) 156 [(2, 1)] w M n Φ := e11_tales (c_unlikeMoments r ok q)
theorem c_count (x : Int) (r : relW M P) (u : M 9 1 = P 92) (ok : okP P) (q : Φ (zCount P (M 1 1) x) M) : CF (d + 2) 177 [(2, 1), (0, x)] w M n Φ := by
  unfold zCount at q
  apply e11_count
  rw [r.F, r.Mo, r.B, r.must, r.cut, r.turn, r.told, r.lines, u]
  refine ⟨fun c0 => ?_, fun c0 => ⟨fun c1 => ?_, fun c1 => ⟨fun c2 => ?_, fun c2 => ⟨fun c3 => ?_, fun c3 => ⟨fun c4 => ?_, fun c4 => ⟨fun c5 => ?_, fun c5 => ⟨fun c6 => ?_, fun c6 => ⟨fun c7 => c_allDoubts r ok ?_, fun c7 => ⟨fun c8 => ?_, fun c8 => ⟨fun c9 => ?_, fun c9 => ⟨fun c10 => ?_, fun c10 => ?_⟩⟩⟩⟩⟩⟩⟩⟩⟩⟩⟩
  · rw [if_pos c0] at q; exact q
  · rw [if_neg c0, if_pos c1] at q; exact q
  · rw [if_neg c0, if_neg c1, if_pos c2] at q; exact q
  · rw [if_neg c0, if_neg c1, if_neg c2, if_pos c3] at q; exact q
  · rw [if_neg c0, if_neg c1, if_neg c2, if_neg c3, if_pos c4] at q; exact q
  · rw [if_neg c0, if_neg c1, if_neg c2, if_neg c3, if_neg c4, if_pos c5] at q; exact q
  · rw [if_neg c0, if_neg c1, if_neg c2, if_neg c3, if_neg c4, if_neg c5, if_pos c6] at q; exact q
  · rw [if_neg c0, if_neg c1, if_neg c2, if_neg c3, if_neg c4, if_neg c5, if_neg c6, if_pos c7] at q; exact q
  · rw [if_neg c0, if_neg c1, if_neg c2, if_neg c3, if_neg c4, if_neg c5, if_neg c6, if_neg c7, if_pos c8] at q; exact q
  · rw [if_neg c0, if_neg c1, if_neg c2, if_neg c3, if_neg c4, if_neg c5, if_neg c6, if_neg c7, if_neg c8, if_pos c9] at q; exact q
  · rw [if_neg c0, if_neg c1, if_neg c2, if_neg c3, if_neg c4, if_neg c5, if_neg c6, if_neg c7, if_neg c8, if_neg c9, if_pos c10] at q; exact q
  · rw [if_neg c0, if_neg c1, if_neg c2, if_neg c3, if_neg c4, if_neg c5, if_neg c6, if_neg c7, if_neg c8, if_neg c9, if_neg c10] at q; exact q
theorem c_fault (x : Int) (q : Φ (zFault (M 3 1) (M 3 2) x) M) : CF (d + 1) 123 [(2, 1), (0, x)] w M n Φ := by
  unfold zFault at q
  refine e11_fault ⟨fun c => ⟨fun c2 => ?_, fun c2 => ?_⟩, fun c => ?_⟩
  · rw [if_neg c, if_neg c2] at q; exact q
  · rw [if_neg c, if_pos (Decidable.not_not.mp c2)] at q; exact q
  · rw [if_pos (Decidable.not_not.mp c)] at q; exact q
theorem c_putBytes (x : Int) (t : Nat) (ht : M 1 1 = (t : Int)) (h9 : t + 4 ≤ 900) (q : ∀ M', (∀ a, a ≠ 1 → a ≠ 2 → M' a = M a) → (∀ k, k ≠ 1 → M' 1 k = M 1 k) → M' 1 1 = ((t + 4 : Nat) : Int) → (∀ j, M' 2 j = if t ≤ j ∧ j < t + 4 then m_i2b (m_and (m_shr x ((24 - 8 * (j - t) : Nat) : Int)) 255) else M 2 j) → Φ 0 M') : CF (d + 1) 121 [(2, 1), (0, x)] w M n Φ := by
  have key : ∀ k, k ≤ 4 → ∀ M', (∀ a, a ≠ 1 → a ≠ 2 → M' a = M a) → (∀ k, k ≠ 1 → M' 1 k = M 1 k) → M' 1 1 = ((t + k : Nat) : Int) → (∀ j, M' 2 j = if t ≤ j ∧ j < t + k then m_i2b (m_and (m_shr x ((24 - 8 * (j - t) : Nat) : Int)) 255) else M 2 j) → W11_putBytes_3 d Φ x (24 - 8 * (k : Int)) w M' n := by
    refine up (fun M' h1 h2 h3 h4 => ?_) (fun k hk ih M' h1 h2 h3 h4 => ?_)
    · exact v11_putBytes_3 ⟨fun _ => q M' h1 h2 h3 h4, fun c => absurd (by decide) c⟩
    · apply v11_putBytes_3
      have e0 : (24 : Int) - 8 * (k : Int) = ((24 - 8 * k : Nat) : Int) := by omega
      have e1 : w32 (24 - 8 * (k : Int) + (-8)) = 24 - 8 * ((k + 1 : Nat) : Int) := by rw [w32_id] <;> omega
      have eb := (byte_eq x (24 - 8 * k) (by omega)).1
      rw [e1, h3, e0, eb, sI_row (a := 2) (b := 1) (by omega), h3, w32_s (by omega), Int.toNat_natCast]
      refine ⟨fun c => absurd c (by omega), fun _ => ⟨fun c => absurd c (by omega), fun _ => ⟨⟨by omega, by omega, trivial⟩, ih _ (fun a ha1 ha2 => by rw [sI_row ha1, sI_row ha2, h1 a ha1 ha2]) (fun j hj => by rw [sI_ne hj, sI_row (by omega), h2 j hj]) (sI_same _ _ _ _) (fun j => ?_)⟩⟩⟩
      rw [sI_row (by omega), sI_if]
      by_cases cj : j = t + k
      · rw [if_pos cj, if_pos (by omega), cj, show t + k - t = k by omega]
      · rw [if_neg cj, h4 j]
        by_cases c2 : t ≤ j ∧ j < t + k
        · rw [if_pos c2, if_pos (by omega)]
        · rw [if_neg c2, if_neg (by omega)]
  have := key 0 (Nat.zero_le _) M (fun _ _ _ => rfl) (fun _ _ => rfl) ht (fun j => (if_neg (by omega)).symm)
  exact e11_putBytes this
theorem c_feed (a b c e f : Int) (t : Nat) (ht : M 1 1 = (t : Int)) (ht2 : t ≤ 900) (q : ∀ M', (t + 20 ≤ 900 → (∀ x, x ≠ 1 → x ≠ 2 → M' x = M x) → (∀ k, k ≠ 1 → M' 1 k = M 1 k) → M' 1 1 = ((t + 20 : Nat) : Int) → (∀ j, M' 2 j = if t ≤ j ∧ j < t + 20 then m_i2b (fdB a b c e f (j - t)) else M 2 j) → Φ ((t + 20 : Nat) : Int) M') ∧ (¬ (t + 20 ≤ 900) → M' = M → Φ (-5) M')) : CF (d + 2) 120 [(2, 1), (0, a), (0, b), (0, c), (0, e), (0, f)] w M n Φ := by
  apply e11_feed
  rw [ht, w32_id (by omega) (by omega)]
  refine ⟨fun h => ?_, fun h => (q M).2 (by omega) rfl⟩
  refine c_putBytes a t ht (by omega) (fun M1 p1 p2 p3 p4 => c_putBytes b (t + 4) p3 (by omega) (fun M2 q1 q2 q3 q4 => c_putBytes c (t + 4 + 4) q3 (by omega) (fun M3 s1 s2 s3 s4 => c_putBytes e (t + 4 + 4 + 4) s3 (by omega) (fun M4 u1 u2 u3 u4 => c_putBytes f (t + 4 + 4 + 4 + 4) u3 (by omega) (fun M5 v1 v2 v3 v4 => ?_)))))
  rw [v3]
  refine (q M5).1 (by omega) (fun x h1 h2 => by rw [v1 x h1 h2, u1 x h1 h2, s1 x h1 h2, q1 x h1 h2, p1 x h1 h2]) (fun k hk => by rw [v2 k hk, u2 k hk, s2 k hk, q2 k hk, p2 k hk]) v3 (fun j => ?_)
  rw [v4 j, u4 j, s4 j, q4 j, p4 j]
  have eb : ∀ (i : Nat) (x : Int), fdV a b c e f i = x → m_i2b (fdB a b c e f i) = m_i2b (m_and (m_shr x ((24 - 8 * (i % 4) : Nat) : Int)) 255) := by
    intro i x hx
    unfold fdB
    rw [hx]
  by_cases c0 : t ≤ j ∧ j < t + 20
  · rw [if_pos c0]
    by_cases c5 : t + 16 ≤ j
    · rw [if_pos (by omega), eb (j - t) f (by unfold fdV; rw [if_neg (by omega), if_neg (by omega), if_neg (by omega), if_neg (by omega)])]
      rw [show 24 - 8 * (j - (t + 4 + 4 + 4 + 4)) = 24 - 8 * ((j - t) % 4) by omega]
    · rw [if_neg (by omega)]
      by_cases c4 : t + 12 ≤ j
      · rw [if_pos (by omega), eb (j - t) e (by unfold fdV; rw [if_neg (by omega), if_neg (by omega), if_neg (by omega), if_pos (by omega)])]
        rw [show 24 - 8 * (j - (t + 4 + 4 + 4)) = 24 - 8 * ((j - t) % 4) by omega]
      · rw [if_neg (by omega)]
        by_cases c3 : t + 8 ≤ j
        · rw [if_pos (by omega), eb (j - t) c (by unfold fdV; rw [if_neg (by omega), if_neg (by omega), if_pos (by omega)])]
          rw [show 24 - 8 * (j - (t + 4 + 4)) = 24 - 8 * ((j - t) % 4) by omega]
        · rw [if_neg (by omega)]
          by_cases c2 : t + 4 ≤ j
          · rw [if_pos (by omega), eb (j - t) b (by unfold fdV; rw [if_neg (by omega), if_pos (by omega)])]
            rw [show 24 - 8 * (j - (t + 4)) = 24 - 8 * ((j - t) % 4) by omega]
          · rw [if_neg (by omega), if_pos (by omega), eb (j - t) a (by unfold fdV; rw [if_pos (by omega)])]
            rw [show 24 - 8 * (j - t) = 24 - 8 * ((j - t) % 4) by omega]
  · rw [if_neg c0, if_neg (by omega), if_neg (by omega), if_neg (by omega), if_neg (by omega), if_neg (by omega)]
theorem c_lay (t : Nat) (s x : Int) (ht : t < 4) (q : ∀ M', (∀ a, a ≠ 85 + 2 * t → a ≠ 86 + 2 * t → M' a = M a) → M' (85 + 2 * t) 1 = s → M' (85 + 2 * t) 2 = x → (∀ k, k < 40 → M' (86 + 2 * t) k = 0) → Φ 0 M') : CF (d + 1) 74 [(2, ((85 + 2 * t : Nat) : Int)), (0, s), (0, x)] w M n Φ := by
  obtain ⟨⟨t1, t2, t3⟩, _⟩ := isTr_t w t ht
  have key : ∀ k, k ≤ 40 → ∀ M', (∀ a, a ≠ 85 + 2 * t → a ≠ 86 + 2 * t → M' a = M a) → M' (85 + 2 * t) 1 = s → M' (85 + 2 * t) 2 = x → (∀ j, j < k → M' (86 + 2 * t) j = 0) → W8_lay_12 (85 + 2 * t) d Φ (k : Nat) w M' n := by
    refine up (fun M' h1 h2 h3 h4 => ?_) (fun k hk ih M' h1 h2 h3 h4 => ?_)
    · exact v8_lay_12 ⟨fun _ => q M' h1 h2 h3 h4, fun c => absurd (by decide) c⟩
    · apply v8_lay_12
      rw [t2, t3, w32_s (by omega), Int.toNat_natCast, show 85 + 2 * t + 1 = 86 + 2 * t by omega]
      refine ⟨fun c => absurd c (by omega), fun _ => ⟨t1, rfl, ⟨by omega, by show (k : Int) < ((40 : Nat) : Int); omega, trivial⟩, ih _ (fun a ha1 ha2 => by rw [sI_row ha2, h1 a ha1 ha2]) (by rw [sI_row (by omega), h2]) (by rw [sI_row (by omega), h3]) (fun j hj => ?_)⟩⟩
      rw [sI_if]
      by_cases c : j = k
      · rw [if_pos c]
      · rw [if_neg c]; exact h4 j (by omega)
  apply e8_lay
  refine ⟨by rw [t1]; rfl, by rw [t1]; rfl, key 0 (Nat.zero_le _) _ (fun a h1 h2 => by rw [sI_row h1, sI_row h1]) (by rw [sI_ne (by omega), sI_same]) (sI_same _ _ _ _) (fun j hj => absurd hj (Nat.not_lt_zero j))⟩
theorem c_numbers (t s x : Int) (q : ∀ M', (¬ ((0 ≤ t ∧ t ≤ 3) ∧ 0 ≤ s ∧ s ≤ 3) → M' = M → Φ (-2) M') ∧ (((0 ≤ t ∧ t ≤ 3) ∧ 0 ≤ s ∧ s ≤ 3) → ¬ (0 ≤ x ∧ x ≤ 40) → M' = M → Φ (-3) M') ∧ (((0 ≤ t ∧ t ≤ 3) ∧ 0 ≤ s ∧ s ≤ 3) → (0 ≤ x ∧ x ≤ 40) → (∀ a, a ≠ 85 + 2 * t.toNat → a ≠ 86 + 2 * t.toNat → M' a = M a) → M' (85 + 2 * t.toNat) 1 = s → M' (85 + 2 * t.toNat) 2 = x → (∀ k, k < 40 → M' (86 + 2 * t.toNat) k = 0) → Φ 0 M')) : CF (d + 2) 172 [(2, 1), (0, t), (0, s), (0, x)] w M n Φ := by
  refine e11_numbers (c_isTray t (br (fun e => ?_) (fun e => ⟨fun c => ?_, fun c => ⟨fun c2 => ⟨fun c3 => ?_, fun c3 => ⟨fun c4 => ?_, fun c4 => ?_⟩⟩, fun c2 => ?_⟩⟩)))
  · have e := of_decide_eq_false e
    exact (q M).1 (by omega) rfl
  · exact (q M).1 (by omega) rfl
  · have e := of_decide_eq_true e
    exact (q M).2.1 (by omega) (by omega) rfl
  · have e := of_decide_eq_true e
    obtain ⟨b, hb⟩ := isTr_t w t.toNat (by omega)
    rw [hb]
    exact ⟨by omega, b.1, c_lay _ s x (by omega) (fun M' h1 h2 h3 h4 => (q M').2.2 (by omega) (by omega) h1 h2 h3 h4)⟩
  · have e := of_decide_eq_true e
    exact (q M).2.1 (by omega) (by omega) rfl
  · exact (q M).1 (by omega) rfl
theorem c_trim (t : Nat) (v : Int) (ht : t < 4) (hs : 0 ≤ M (85 + 2 * t) 1 ∧ M (85 + 2 * t) 1 ≤ 3) (q : Φ (cutV v (M (85 + 2 * t) 1)) M) : CF (d + 1) 77 [(2, ((85 + 2 * t : Nat) : Int)), (1, v)] w M n Φ := by
  obtain ⟨⟨t1, t2, t3⟩, _⟩ := isTr_t w t ht
  unfold cutV at q
  refine e8_trim ⟨t1, fun c => ?_, fun c => ⟨fun c2 => ?_, fun c2 => ⟨fun c3 => ?_, fun c3 => ?_⟩⟩⟩
  · rw [if_pos c] at q; exact q
  · rw [if_neg c, if_pos c2] at q; exact q
  · rw [if_neg c, if_neg c2, if_pos c3] at q; exact q
  · rw [if_neg c, if_neg c2, if_neg c3] at q; exact q
theorem c_put (t k : Nat) (v : Int) (ht : t < 4) (rt : relT M S Z U) (hs : S t ≠ -1) (hk : (k : Int) < Z t) (q : Φ (cutV v (S t)) (sI M (86 + 2 * t) k (cutV v (S t)))) : CF (d + 2) 76 [(2, ((85 + 2 * t : Nat) : Int)), (0, (k : Int)), (1, v)] w M n Φ := by
  obtain ⟨⟨t1, t2, t3⟩, _⟩ := isTr_t w t ht
  obtain ⟨r1, r2, r3, r4, r5⟩ := (rt t ht).2 hs
  refine e8_put ⟨t1, c_trim t v ht (by rw [r1]; exact r4) ?_⟩
  rw [r1, r2, t2, t3, show 85 + 2 * t + 1 = 86 + 2 * t by omega]
  simp only [Int.toNat_natCast]
  exact ⟨fun c => absurd c (by omega), fun _ => ⟨t1, fun c => absurd c (by omega), fun _ => ⟨t1, rfl, ⟨by omega, by show (k : Int) < ((40 : Nat) : Int); omega, trivial⟩, q⟩⟩⟩
theorem c_write (t i v : Int) (rt : relT M S Z U) (q : ∀ M', (noT S t ≠ 0 → M' = M → Φ (noT S t) M') ∧ (noT S t = 0 → ¬ (0 ≤ i ∧ i < Z t.toNat) → M' = M → Φ (-7) M') ∧ (noT S t = 0 → (0 ≤ i ∧ i < Z t.toNat) → M' = sI M (86 + 2 * t.toNat) i.toNat (cutV v (S t.toNat)) → Φ (cutV v (S t.toNat)) M')) : CF (d + 3) 173 [(2, 1), (0, t), (0, i), (1, v)] w M n Φ := by
  refine e11_write (c_isTray t (br' (fun e => ?_) (fun e => ?_)))
  · have e := of_decide_eq_true e
    obtain ⟨b, hb⟩ := isTr_t w t.toNat (by omega)
    rw [hb]
    refine ⟨by omega, b.1, c_isMissing _ (by omega) rt (br (fun e2 => ?_) (fun e2 => ?_))⟩
    · have e2 := of_decide_eq_false e2
      have en : noT S t = 0 := by unfold noT; rw [if_pos e, if_neg e2]
      obtain ⟨_, z1, z2, z3, z4⟩ := (rt _ (by omega)).2 e2
      rw [z1]
      refine ⟨fun c => (q M).2.1 en (by omega) rfl, fun c => ⟨b.1, fun c2 => ⟨b.1, ?_⟩, fun c2 => (q M).2.1 en (by omega) rfl⟩⟩
      rw [show i = (i.toNat : Int) by omega]
      exact c_put _ _ v (by omega) rt e2 (by omega) ((q _).2.2 en (by omega) rfl)
    · have e2 := of_decide_eq_true e2
      have en : noT S t = -6 := by unfold noT; rw [if_pos e, if_pos e2]
      have := (q M).1 (by omega) rfl
      rw [en] at this
      exact this
  · have e := of_decide_eq_false e
    have en : noT S t = -2 := if_neg e
    have := (q M).1 (by omega) rfl
    rw [en] at this
    exact this
end
