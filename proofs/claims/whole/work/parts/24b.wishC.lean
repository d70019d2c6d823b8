/-! ===== wishes, snow, ends, reach: the class ===== -/
theorem m_andnot {a x : Nat} (ha : a < 2147483648) (hx : x < 2147483648) : m_and (a : Int) (m_xor (x : Int) (-1)) = ((a ^^^ (a &&& x) : Nat) : Int) := by
  have h1 : a &&& x ≤ a := Nat.and_le_left
  have h2 : a ^^^ (a &&& x) < 2147483648 := Nat.xor_lt_two_pow (n := 31) ha (by omega)
  have e0 : Int32.ofInt (m_xor (x : Int) (-1)) = nI x ^^^ Int32.ofInt (-1) := by
    rw [m_xor_eq, ofI hx, Int32.ofInt_toInt]
  have e1 : nI a &&& (nI x ^^^ Int32.ofInt (-1)) = nI a ^^^ (nI a &&& nI x) := by
    apply Int32.toBitVec_inj.1
    show (nI a).toBitVec &&& ((nI x).toBitVec ^^^ (Int32.ofInt (-1)).toBitVec) = (nI a).toBitVec ^^^ ((nI a).toBitVec &&& (nI x).toBitVec)
    have e2 : (Int32.ofInt (-1)).toBitVec = BitVec.allOnes 32 := by decide
    rw [e2]
    apply BitVec.eq_of_getLsbD_eq
    intro i hi
    rw [BitVec.getLsbD_and, BitVec.getLsbD_xor, BitVec.getLsbD_xor, BitVec.getLsbD_and, BitVec.getLsbD_allOnes, decide_eq_true hi]
    cases (nI a).toBitVec.getLsbD i <;> cases (nI x).toBitVec.getLsbD i <;> rfl
  rw [m_and_eq, ofI ha, e0, e1, nI_and, nI_xor, nI_toInt (by omega)]
theorem andnot_tb (a x j : Nat) : (a ^^^ (a &&& x)).testBit j = (a.testBit j && !(x.testBit j)) := by
  rw [Nat.testBit_xor, Nat.testBit_and]
  cases a.testBit j <;> cases x.testBit j <;> rfl
/-- moments from which bits lead on -/
def ldK (P : Nat → Int) : Nat → Nat
  | 0 => 0
  | b + 1 => if useT P b = true then ldK P b ||| 2 ^ (P (13 + b)).toNat else ldK P b
theorem ldK_lt {P : Nat → Int} (ok : okP P) : ∀ b, b ≤ nB P → ldK P b < 256
  | 0, _ => by show 0 < 256; omega
  | b + 1, h => by
    have ih := ldK_lt ok b (by omega)
    have hb := ok.nBe
    have h1 := ok.bit (b := b) (by omega)
    have h2 := ok.Mo
    have h3 := p2_8 (P (13 + b)).toNat (by omega)
    show (if useT P b = true then ldK P b ||| 2 ^ (P (13 + b)).toNat else ldK P b) < 256
    split
    · exact Nat.or_lt_two_pow (n := 8) ih (by omega)
    · exact ih
theorem ldK_tb (P : Nat → Int) (j : Nat) : ∀ b, (ldK P b).testBit j = true ↔ ∃ i, i < b ∧ useT P i = true ∧ j = (P (13 + i)).toNat
  | 0 => by
    constructor
    · intro h
      have h : (0 : Nat).testBit j = true := h
      rw [Nat.zero_testBit] at h
      cases h
    · rintro ⟨i, h, _⟩; omega
  | b + 1 => by
    have ih := ldK_tb P j b
    show (if useT P b = true then ldK P b ||| 2 ^ (P (13 + b)).toNat else ldK P b).testBit j = true ↔ _
    by_cases c : useT P b = true
    · rw [if_pos c, Nat.testBit_or, Nat.testBit_two_pow, Bool.or_eq_true, decide_eq_true_eq, ih]
      constructor
      · rintro (⟨i, h1, h2⟩ | h)
        · exact ⟨i, by omega, h2⟩
        · exact ⟨b, by omega, c, h.symm⟩
      · rintro ⟨i, h1, h2, h3⟩
        by_cases e : i = b
        · subst e; exact Or.inr h3.symm
        · exact Or.inl ⟨i, by omega, h2, h3⟩
    · rw [if_neg c, ih]
      constructor
      · rintro ⟨i, h1, h2⟩; exact ⟨i, by omega, h2⟩
      · rintro ⟨i, h1, h2, h3⟩
        by_cases e : i = b
        · subst e; exact absurd h2 c
        · exact ⟨i, by omega, h2, h3⟩
/-- reaching, as it goes along the bits -/
def crK (P : Nat → Int) (s : Nat) : Nat → Nat
  | 0 => s
  | b + 1 => if useT P b = true ∧ inS (crK P s b) (P (13 + b)).toNat = true then crK P s b ||| 2 ^ (P (25 + b)).toNat else crK P s b
def crc (P : Nat → Int) (m : Nat) : Nat → Nat
  | 0 => 2 ^ m
  | k + 1 => crK P (crc P m k) (nB P)
theorem crK_lt {P : Nat → Int} (ok : okP P) {s : Nat} (hs : s < 256) : ∀ b, b ≤ nB P → crK P s b < 256
  | 0, _ => hs
  | b + 1, h => by
    have ih := crK_lt ok hs b (by omega)
    have hb := ok.nBe
    have h1 := ok.bit (b := b) (by omega)
    have h2 := ok.Mo
    have h3 := p2_8 (P (25 + b)).toNat (by omega)
    show (if useT P b = true ∧ inS (crK P s b) (P (13 + b)).toNat = true then crK P s b ||| 2 ^ (P (25 + b)).toNat else crK P s b) < 256
    split
    · exact Nat.or_lt_two_pow (n := 8) ih (by omega)
    · exact ih
theorem crK_in (P : Nat → Int) {s j : Nat} (h : s.testBit j = true) : ∀ b, (crK P s b).testBit j = true
  | 0 => h
  | b + 1 => by
    have ih := crK_in P h b
    show (if useT P b = true ∧ inS (crK P s b) (P (13 + b)).toNat = true then crK P s b ||| 2 ^ (P (25 + b)).toNat else crK P s b).testBit j = true
    split
    · rw [Nat.testBit_or, ih]; rfl
    · exact ih
theorem crK_sup {P : Nat → Int} {s t : Nat} (h : ∀ j, s.testBit j = true → t.testBit j = true) : ∀ b j, (rsK P s b).testBit j = true → (crK P t b).testBit j = true
  | 0, j, hj => h j hj
  | b + 1, j, hj => by
    have ih := crK_sup (P := P) h b
    have hj : (if useT P b = true ∧ inS s (P (13 + b)).toNat = true then rsK P s b ||| 2 ^ (P (25 + b)).toNat else rsK P s b).testBit j = true := hj
    show (if useT P b = true ∧ inS (crK P t b) (P (13 + b)).toNat = true then crK P t b ||| 2 ^ (P (25 + b)).toNat else crK P t b).testBit j = true
    by_cases c : useT P b = true ∧ inS s (P (13 + b)).toNat = true
    · have c2 : useT P b = true ∧ inS (crK P t b) (P (13 + b)).toNat = true := by
        refine ⟨c.1, ?_⟩
        rw [inS_tb]
        exact crK_in P (h _ (by rw [← inS_tb]; exact c.2)) b
      rw [if_pos c, Nat.testBit_or, Bool.or_eq_true] at hj
      rw [if_pos c2, Nat.testBit_or, Bool.or_eq_true]
      exact hj.imp (ih j) id
    · rw [if_neg c] at hj
      have := ih j hj
      split
      · rw [Nat.testBit_or, this]; rfl
      · exact this
theorem crK_sub {P : Nat → Int} {s R : Nat} (hR : ∀ i, i < nB P → useT P i = true → R.testBit (P (13 + i)).toNat = true → R.testBit (P (25 + i)).toNat = true) (h : ∀ j, s.testBit j = true → R.testBit j = true) : ∀ b, b ≤ nB P → ∀ j, (crK P s b).testBit j = true → R.testBit j = true
  | 0, _, j, hj => h j hj
  | b + 1, hb, j, hj => by
    have ih := crK_sub hR h b (by omega)
    have hj : (if useT P b = true ∧ inS (crK P s b) (P (13 + b)).toNat = true then crK P s b ||| 2 ^ (P (25 + b)).toNat else crK P s b).testBit j = true := hj
    by_cases c : useT P b = true ∧ inS (crK P s b) (P (13 + b)).toNat = true
    · rw [if_pos c, Nat.testBit_or, Nat.testBit_two_pow, Bool.or_eq_true, decide_eq_true_eq] at hj
      rcases hj with hj | hj
      · exact ih j hj
      · subst hj
        have c2 := c.2
        rw [inS_tb] at c2
        exact hR b (by omega) c.1 (ih _ c2)
    · rw [if_neg c] at hj
      exact ih j hj
theorem crc_lt {P : Nat → Int} (ok : okP P) {m : Nat} (hm : m < 8) : ∀ k, crc P m k < 256
  | 0 => by have := p2_8 m hm; show 2 ^ m < 256; omega
  | k + 1 => crK_lt ok (crc_lt ok hm k) _ (Nat.le_refl _)
theorem crc_8 {P : Nat → Int} (ok : okP P) {m : Nat} (hm : m < 8) : crc P m 8 = rch P m 8 := by
  have sup : ∀ k j, (rch P m k).testBit j = true → (crc P m k).testBit j = true := by
    intro k
    induction k with
    | zero => intro j h; exact h
    | succ k ih => intro j h; exact crK_sup ih _ j h
  have h9 : rch P m 9 = rch P m 8 := by
    obtain ⟨i, hi, e⟩ := rch_stop ok hm
    have h1 := rch_fix e (8 - i)
    have h2 := rch_fix e (9 - i)
    rw [show i + (8 - i) = 8 by omega] at h1
    rw [show i + (9 - i) = 9 by omega] at h2
    rw [h1, h2]
  have hR : ∀ i, i < nB P → useT P i = true → (rch P m 8).testBit (P (13 + i)).toNat = true → (rch P m 8).testBit (P (25 + i)).toNat = true := by
    intro i hi hu hf
    rw [← h9]
    exact (rsK_tb P (rch P m 8) _ (nB P)).mpr (Or.inr ⟨i, hi, hu, by rw [inS_tb]; exact hf, rfl⟩)
  have sub : ∀ k j, (crc P m k).testBit j = true → (rch P m 8).testBit j = true := by
    intro k
    induction k with
    | zero =>
      intro j h
      have : ∀ k, (rch P m k).testBit j = true := by
        intro k
        induction k with
        | zero => exact h
        | succ k ih => exact rch_sub ih
      exact this 8
    | succ k ih => intro j h; exact crK_sub hR ih _ (Nat.le_refl _) j h
  apply Nat.eq_of_testBit_eq
  intro j
  rw [Bool.eq_iff_iff]
  exact ⟨sub 8 j, sup 8 j⟩
section
variable {d : Nat} {n : Nat × Nat} {Φ : Int → (Nat → Nat → Int) → Prop} {Ψ : Int → cQ → (Nat → Nat → Int) → Nat × Nat → Prop} {M : Nat → Nat → Int} {w : cQ} {P : Nat → Int}
theorem c_isBetter (m : Nat) (r : relW M P) (ok : okP P) (hm : m < 8) (q : ∀ M', Q43 M M' → Φ (b2i (btT P m)) M') : CF (d + 4) 166 [(2, 1), (0, (m : Int))] w M n Φ := by
  obtain ⟨eF, hF1, hF2⟩ := ok.nFe
  have key : ∀ k, k ≤ nF P → anyB (lessT P m) k = false → ∀ M', Q43 M M' → W11_isBetter_4 (d + 3) Φ (m : Nat) (b2i (anyB (moreT P m) k)) (k : Nat) w M' n := by
    refine up (fun hl M' hM' => ?_) (fun k hk ih hl M' hM' => ?_)
    · apply v11_isBetter_4
      rw [(r.q hM').F, eF]
      have q' := q M' hM'
      unfold btT at q'
      rw [hl] at q'
      simp only [Bool.not_false, Bool.and_true] at q'
      exact ⟨fun _ => ⟨b2i_or _, q'⟩, fun c => absurd (Int.le_refl _) c⟩
    · apply v11_isBetter_4
      have r' := r.q hM'
      have hat := ok.at (f := k) (by omega)
      have hMo := ok.Mo
      rw [r'.F, eF, w32_s (by omega)]
      refine ⟨fun c => absurd c (by omega), fun _ => sp_liking k m r' ok (by omega) hm (fun M1 h1 => ⟨by omega, ?_⟩)⟩
      have r1 := r'.q h1
      rw [Int.toNat_natCast, r1.at (by omega), show P (68 + k) = (((P (68 + k)).toNat : Nat) : Int) by omega]
      refine sp_liking k _ r1 ok (by omega) (by omega) (fun M2 h2 => ?_)
      have hQ := hM'.trans (h1.trans h2)
      have e3 : anyB (lessT P m) (k + 1) = (anyB (lessT P m) k || lessT P m k) := rfl
      have e4 : anyB (moreT P m) (k + 1) = (anyB (moreT P m) k || moreT P m k) := rfl
      refine ⟨fun c => ?_, fun c => ?_⟩
      · have e5 : lessT P m k = false := by unfold lessT; rw [decide_eq_false_iff_not]; omega
        rw [hl, e5] at e3
        have ih' := ih e3 M2 hQ
        rw [e4] at ih'
        refine ⟨fun c2 => ?_, fun c2 => ?_⟩
        · have e6 : moreT P m k = false := by unfold moreT; rw [decide_eq_false_iff_not]; omega
          rw [e6, Bool.or_false] at ih'
          rw [or_b2i0]
          exact ih'
        · have e6 : moreT P m k = true := by unfold moreT; rw [decide_eq_true_eq]; omega
          rw [e6, Bool.or_true] at ih'
          rw [or_b2i1]
          exact ih'
      · have e5 : lessT P m k = true := by unfold lessT; rw [decide_eq_true_eq]; omega
        have e6 : anyB (lessT P m) (nF P) = true := (anyB_iff _ _).mpr ⟨k, hk, e5⟩
        have e7 : btT P m = false := by unfold btT; rw [e6, Bool.not_true, Bool.and_false]
        have q' := q M2 hQ
        rw [e7] at q'
        exact q'
  exact e11_isBetter (key 0 (Nat.zero_le _) rfl M (Q43.refl M))
theorem c_better (r : relW M P) (ok : okP P) (q : ∀ M', KC M M' → Φ (msk (btT P) (nM P) : Nat) M') : CF (d + 5) 165 [(2, 1)] w M n Φ := by
  obtain ⟨eM, hM1, hM2⟩ := ok.nMe
  have key : ∀ m, m ≤ nM P → ∀ M', Q43 M M' → W11_better_4 (d + 4) Φ (msk (btT P) m : Nat) (m : Nat) w M' n := by
    refine up (fun M' hM' => ?_) (fun m hm ih M' hM' => ?_)
    · apply v11_better_4
      rw [(r.q hM').Mo, eM]
      exact ⟨fun _ => q M' (KC.of43 hM'), fun c => absurd (Int.le_refl _) c⟩
    · apply v11_better_4
      rw [(r.q hM').Mo, eM, w32_s (by omega)]
      refine ⟨fun c => absurd c (by omega), fun _ => c_isBetter m (r.q hM') ok (by omega) (fun M1 h1 => br (fun e => ?_) (fun e => ?_))⟩
      · rw [← msk_no (btT P) e]; exact ih M1 (hM'.trans h1)
      · rw [or_s (btT P) (by omega) e]; exact ih M1 (hM'.trans h1)
  exact e11_better (key 0 (Nat.zero_le _) M (Q43.refl M))
theorem c_leastLiking (m : Nat) (r : relW M P) (ok : okP P) (hm : m < 8) (q : ∀ M', Q43 M M' → Φ (lst P m) M') : CF (d + 4) 168 [(2, 1), (0, (m : Int))] w M n Φ := by
  obtain ⟨eF, hF1, hF2⟩ := ok.nFe
  have key : ∀ k, k ≤ nF P → ∀ M', Q43 M M' → W11_leastLiking_6 (d + 3) Φ (m : Nat) (lstK P m 1000000 k) (k : Nat) w M' n := by
    refine up (fun M' hM' => ?_) (fun k hk ih M' hM' => ?_)
    · apply v11_leastLiking_6
      rw [(r.q hM').F, eF]
      exact ⟨fun _ => q M' hM', fun c => absurd (Int.le_refl _) c⟩
    · apply v11_leastLiking_6
      rw [(r.q hM').F, eF, w32_s (by omega)]
      exact ⟨fun c => absurd c (by omega), fun _ => sp_liking k m (r.q hM') ok (by omega) hm (fun M1 h1 => ih M1 (hM'.trans h1))⟩
  exact e11_leastLiking (key 0 (Nat.zero_le _) M (Q43.refl M))
theorem c_fairest (r : relW M P) (ok : okP P) (q : ∀ M', KC M M' → Φ (frB P (nM P) : Nat) M') : CF (d + 5) 167 [(2, 1)] w M n Φ := by
  obtain ⟨eM, hM1, hM2⟩ := ok.nMe
  have key : ∀ k, k ≤ nM P → 1 ≤ k → ∀ M', Q43 M M' → W11_fairest_4 (d + 4) Φ (frB P k : Nat) (k : Nat) w M' n := by
    refine up (fun _ M' hM' => ?_) (fun k hk ih hk1 M' hM' => ?_)
    · apply v11_fairest_4
      rw [(r.q hM').Mo, eM]
      exact ⟨fun _ => q M' (KC.of43 hM'), fun c => absurd (Int.le_refl _) c⟩
    · apply v11_fairest_4
      have hl : frB P k ≤ k - 1 := by
        have := frB_lt P (k - 1)
        rw [show k - 1 + 1 = k by omega] at this
        exact this
      rw [(r.q hM').Mo, eM, w32_s (by omega)]
      refine ⟨fun c => absurd c (by omega), fun _ => c_leastLiking k (r.q hM') ok (by omega) (fun M1 h1 => c_leastLiking _ (r.q (hM'.trans h1)) ok (by omega) (fun M2 h2 => ?_))⟩
      have es : frB P (k + 1) = if lst P (frB P k) < lst P k then k else frB P k := rfl
      rw [es] at ih
      refine ⟨fun c => ?_, fun c => ?_⟩
      · rw [if_neg (by omega)] at ih
        exact ih (by omega) M2 (hM'.trans (h1.trans h2))
      · rw [if_pos (by omega)] at ih
        exact ih (by omega) M2 (hM'.trans (h1.trans h2))
  have e1 : frB P 1 = 0 := Nat.le_zero.mp (frB_lt P 0)
  have := key 1 (by omega) (by omega) M (Q43.refl M)
  rw [e1] at this
  exact e11_fairest this
theorem c_wholeAbove (f g : Nat) (r : relW M P) (ok : okP P) (hf : f < 8) (hg : g < 8) (q : Φ (wpK P f g 8 : Nat) M) : CF (d + 2) 117 [(2, 4), (0, (f : Int)), (0, (g : Int))] w M n Φ := by
  have hc := ok.cut
  have hw := wrs_lt f g
  refine e10_wholeAbove (sp_wiresBetween f g hf hg ?_)
  rw [r.cut, show P 67 = ((P 67).toNat : Int) by omega, and0_lt (by omega) hw]
  refine ⟨fun c => ?_, fun c => ?_⟩
  · have hno : ∀ k, inS (wrs f g) k = true → inS (P 67).toNat k = false := by
      intro k hk
      rw [inS_tb] at hk ⊢
      cases e : ((P 67).toNat).testBit k with
      | false => rfl
      | true =>
        have e2 : ((P 67).toNat &&& wrs f g).testBit k = true := by rw [Nat.testBit_and, e, hk]; rfl
        rw [show (P 67).toNat &&& wrs f g = 0 by omega, Nat.zero_testBit] at e2
        cases e2
    have key : ∀ k, k ≤ 8 → W10_wholeAbove_26 (d + 1) Φ (wrs f g : Nat) (wpK P f g k : Nat) (k : Nat) w M n := by
      refine up ?_ (fun k hk ih => ?_)
      · exact v10_wholeAbove_26 ⟨fun _ => q, fun c => absurd (by decide) c⟩
      · apply v10_wholeAbove_26
        have hs := (ok.farm (f := k) (by omega)).2
        have hwp := wpK_le ok f g k (by omega)
        have hp := p10 k (by omega)
        have es : wpK P f g (k + 1) = if inS (wrs f g) k = true then wpK P f g k * (if inS (P 67).toNat k = true then 0 else (10 - P (57 + k)).toNat) else wpK P f g k := rfl
        have h5 : wrs f g / 2 ^ k % 2 < 2 := Nat.mod_lt _ (by omega)
        rw [m_bit (by omega) (by omega), w32_s (by omega), Int.toNat_natCast, r.snow (by omega)]
        refine ⟨fun c => absurd c (by omega), fun _ => ⟨fun c => ?_, fun c => ⟨by omega, ?_⟩⟩⟩
        · have e : inS (wrs f g) k = false := by unfold inS; rw [beq_eq_false_iff_ne]; omega
          rw [if_neg (by rw [e]; decide)] at es
          rw [← es]
          exact ih
        · have e : inS (wrs f g) k = true := by unfold inS; rw [beq_iff_eq]; omega
          rw [if_pos e, if_neg (by rw [hno k e]; decide)] at es
          have ev : w64 ((wpK P f g k : Nat) * w32 (10 - P (57 + k))) = ((wpK P f g (k + 1) : Nat) : Int) := by
            rw [w32_id (by omega) (by omega), es]
            have e10 : (10 - P (57 + k)) = (((10 - P (57 + k)).toNat : Nat) : Int) := by omega
            generalize (10 - P (57 + k)).toNat = z at e10 ⊢
            have hz : z ≤ 10 := by omega
            rw [e10, ← Int.natCast_mul]
            have hm : wpK P f g k * z ≤ 100000000 * 10 := Nat.mul_le_mul (by omega) hz
            rw [w64_id (by omega) (by omega)]
          rw [ev]
          exact ih
    exact key 0 (Nat.zero_le _)
  · have hex : ∃ k, k < 8 ∧ inS (wrs f g) k = true ∧ inS (P 67).toNat k = true := by
      apply Decidable.byContradiction
      intro hn
      apply c
      have : (P 67).toNat &&& wrs f g = 0 := by
        apply Nat.eq_of_testBit_eq
        intro j
        rw [Nat.testBit_and, Nat.zero_testBit]
        cases e1 : ((P 67).toNat).testBit j with
        | false => rfl
        | true =>
          cases e2 : (wrs f g).testBit j with
          | false => rfl
          | true =>
            exfalso
            refine hn ⟨j, ?_, by rw [inS_tb]; exact e2, by rw [inS_tb]; exact e1⟩
            apply Decidable.byContradiction
            intro hj
            rw [Nat.testBit_lt_two_pow (Nat.lt_of_lt_of_le (show wrs f g < 2 ^ 8 from hw) (Nat.pow_le_pow_right (by omega) (by omega)))] at e2
            cases e2
      rw [this]
      rfl
    obtain ⟨k, hk, h1, h2⟩ := hex
    have z : ∀ j, k < j → j ≤ 8 → wpK P f g j = 0 := by
      intro j
      induction j with
      | zero => intro h; omega
      | succ j ih =>
        intro h h8
        show (if inS (wrs f g) j = true then wpK P f g j * (if inS (P 67).toNat j = true then 0 else (10 - P (57 + j)).toNat) else wpK P f g j) = 0
        by_cases e : j = k
        · subst e
          rw [if_pos h1, if_pos h2, Nat.mul_zero]
        · rw [ih (by omega) (by omega), Nat.zero_mul]
          split <;> rfl
    rw [z 8 (by omega) (by omega)] at q
    exact q
theorem c_wholeBelow (f g : Nat) (hf : f < 8) (hg : g < 8) (q : Φ (wB f g : Nat) M) : CF (d + 1) 118 [(2, 4), (0, (f : Int)), (0, (g : Int))] w M n Φ := by
  have hab := absN_b hf hg
  have ed : (if 0 ≤ w32 ((f : Int) - (g : Int)) then w32 ((f : Int) - (g : Int)) else w32 (0 - w32 ((f : Int) - (g : Int)))) = (absN f g : Int) := by
    rw [w32_id (x := (f : Int) - (g : Int)) (by omega) (by omega)]
    unfold absN
    split <;> split <;> first | omega | (rw [w32_id] <;> omega)
  apply e10_wholeBelow
  rw [ed]
  have key : ∀ j, j ≤ absN f g → W10_wholeBelow_10 d Φ ((10 ^ j : Nat) : Int) ((absN f g - j : Nat) : Int) w M n := by
    refine up ?_ (fun j hj ih => ?_)
    · exact v10_wholeBelow_10 ⟨fun _ => q, fun c => absurd (by omega) c⟩
    · apply v10_wholeBelow_10
      have hp := p10 j (by omega)
      have e : w64 (((10 ^ j : Nat) : Int) * 10) = ((10 ^ (j + 1) : Nat) : Int) := by
        rw [w64_id (by omega) (by omega), Nat.pow_succ]
        omega
      have e2 : w32 (((absN f g - j : Nat) : Int) + (-1)) = ((absN f g - (j + 1) : Nat) : Int) := by rw [w32_id] <;> omega
      rw [e, e2]
      exact ⟨fun c => absurd c (by omega), fun _ => ih⟩
  exact key 0 (Nat.zero_le _)
theorem c_common : ∀ (j a b i : Nat), b < 2 ^ j → i + (2 * j + 1) ≤ 100 → a < 1000000000 → b < 1000000000 → Φ (Nat.gcd a b : Nat) M → W11_commonDivisor_9 d Φ (a : Nat) (b : Nat) (i : Nat) w M n
  | 0, a, b, i, hb, hi, ha, hb2, q => by
    have e : b = 0 := by omega
    subst e
    rw [Nat.gcd_zero_right] at q
    refine v11_commonDivisor_9 ⟨fun c => absurd c (by omega), fun _ => ⟨fun _ => q, fun c => ?_⟩⟩
    rw [cmp_eq0] at c
    exact absurd rfl c
  | j + 1, a, b, i, hb, hi, ha, hb2, q => by
    refine v11_commonDivisor_9 ⟨fun c => absurd c (by omega), fun _ => ⟨fun c => ?_, fun c => ?_⟩⟩
    · rw [cmp_eq0] at c
      have e : b = 0 := by omega
      subst e
      rw [Nat.gcd_zero_right] at q
      exact q
    · rw [cmp_eq0] at c
      have hb0 : 0 < b := by omega
      have h1 := Nat.mod_lt a hb0
      rw [l_rem_n (by omega) hb0 (by omega), w32_s (by omega)]
      refine ⟨c, v11_commonDivisor_9 ⟨fun c => absurd c (by omega), fun _ => ⟨fun c2 => ?_, fun c2 => ?_⟩⟩⟩
      · rw [cmp_eq0] at c2
        have hr0 : a % b = 0 := by omega
        rw [← gcd_step, hr0, Nat.gcd_zero_right] at q
        exact q
      · rw [cmp_eq0] at c2
        have hr0 : 0 < a % b := by omega
        rw [l_rem_n (by omega) hr0 (by omega), w32_s (by omega)]
        refine ⟨c2, c_common j (a % b) (b % (a % b)) (i + 1 + 1) ?_ (by omega) (by omega) ?_ ?_⟩
        · have := half_rem hb0 hr0
          rw [Nat.pow_succ] at hb
          omega
        · have := Nat.mod_lt b hr0; omega
        · rw [gcd_step, gcd_step]; exact q
theorem c_snow (f g x : Int) (r : relW M P) (ok : okP P) (q : Φ (zSnow P f g x) M) : CF (d + 3) 169 [(2, 1), (0, f), (0, g), (0, x)] w M n Φ := by
  have hF := ok.nFe
  unfold zSnow at q
  have no : ¬ (((0 ≤ f ∧ f < P 1) ∧ (0 ≤ g ∧ g < P 1) ∧ f ≠ g) ∧ 0 ≤ x ∧ x ≤ 1) → Φ (-2) M := by
    intro c
    rw [if_neg c] at q
    exact q
  refine e11_snow (c_areTwo f g r (br (fun e => no (fun z => of_decide_eq_false e z.1)) (fun e => ⟨fun c => no (by omega), fun c => ⟨fun c2 => ?_, fun c2 => no (by omega)⟩⟩)))
  have e := of_decide_eq_true e
  rw [if_pos ⟨e, by omega⟩] at q
  have hf8 : f.toNat < 8 := by omega
  have hg8 : g.toNat < 8 := by omega
  rw [show f = (f.toNat : Int) by omega, show g = (g.toNat : Int) by omega]
  have hb := wB_b hf8 hg8
  have ha := wpK_le ok f.toNat g.toNat 8 (by omega)
  have hgp : 0 < Nat.gcd (wpK P f.toNat g.toNat 8) (wB f.toNat g.toNat) := Nat.gcd_pos_of_pos_right _ (by omega)
  have hgl : Nat.gcd (wpK P f.toNat g.toNat 8) (wB f.toNat g.toNat) ≤ wB f.toNat g.toNat := Nat.gcd_le_right _ (by omega)
  refine c_wholeAbove _ _ r ok hf8 hg8 (c_wholeBelow _ _ hf8 hg8 (e11_commonDivisor (c_common 27 _ _ 0 (Nat.lt_of_le_of_lt hb.2 (by decide)) (by omega) (by omega) (Nat.lt_of_le_of_lt hb.2 (by omega)) ?_)))
  rw [cmp_le0, l_div_n (by omega) hgp (by omega), l_div_n (by omega) hgp (by omega)]
  have one : ∀ y : Nat, ((Nat.gcd (wpK P f.toNat g.toNat 8) (wB f.toNat g.toNat) : Nat) : Int) ≤ 1 → y / Nat.gcd (wpK P f.toNat g.toNat 8) (wB f.toNat g.toNat) = y := by
    intro y h
    rw [show Nat.gcd (wpK P f.toNat g.toNat 8) (wB f.toNat g.toNat) = 1 by omega, Nat.div_one]
  refine ⟨fun c => ⟨fun c2 => ?_, fun c2 => ⟨by omega, ?_⟩⟩, fun c => ⟨fun c2 => ?_, fun c2 => ⟨by omega, ?_⟩⟩⟩
  · rw [if_neg c, one _ c2] at q; exact q
  · rw [if_neg c] at q; exact q
  · rw [if_pos (Decidable.not_not.mp c), one _ c2] at q; exact q
  · rw [if_pos (Decidable.not_not.mp c)] at q; exact q
theorem c_left (f m : Int) (r : relW M P) (ok : okP P) (q : Φ (zLeft P f m) M) : CF (d + 3) 171 [(2, 1), (0, f), (0, m)] w M n Φ := by
  obtain ⟨eF, hF1, hF2⟩ := ok.nFe
  unfold zLeft at q
  refine e11_left (c_isFarm f r (br' (fun e => ⟨fun c => ?_, fun c => ⟨fun c2 => ?_, fun c2 => ?_⟩⟩) (fun e => ?_)))
  · have e := of_decide_eq_true e
    rw [if_pos e, if_neg (by omega)] at q; exact q
  · have e := of_decide_eq_true e
    rw [if_pos e, if_pos (by omega)] at q
    rw [show f = (f.toNat : Int) by omega, show m = (m.toNat : Int) by omega]
    have hf8 : f.toNat < 8 := by omega
    have hm : m.toNat ≤ 100 := by omega
    generalize f.toNat = a at q hf8 ⊢
    generalize m.toNat = b at q hm ⊢
    have key : ∀ k, k ≤ nF P → W11_left_32 (d + 2) Φ (a : Nat) (b : Nat) (cntB (lfT P a b) k : Nat) (k : Nat) w M n := by
      refine up ?_ (fun k hk ih => ?_)
      · apply v11_left_32
        rw [r.F, eF]
        exact ⟨fun _ => q, fun c => absurd (Int.le_refl _) c⟩
      · apply v11_left_32
        have hcl := cntB_le (lfT P a b) k
        have es : cntB (lfT P a b) (k + 1) = cntB (lfT P a b) k + (if lfT P a b k then 1 else 0) := rfl
        have hb := wB_b hf8 (show k < 8 by omega)
        have ha := wpK_le ok a k 8 (by omega)
        have hm2 : b * wB a k ≤ 100 * 100000000 := Nat.mul_le_mul hm hb.2
        rw [r.F, eF, w32_s (k := k) (by omega)]
        refine ⟨fun c => absurd c (by omega), fun _ => ⟨fun c => ?_, fun c => c_wholeAbove a k r ok hf8 (by omega) (c_wholeBelow a k hf8 (by omega) ?_)⟩⟩
        · have ef : lfT P a b k = false := by unfold lfT; rw [decide_eq_false_iff_not]; omega
          rw [ef] at es
          rw [show cntB (lfT P a b) (k + 1) = cntB (lfT P a b) k from es] at ih
          exact ih
        · rw [cmp_lt0, ← Int.natCast_mul, w64_id (x := 100 * ((wpK P a k 8 : Nat) : Int)) (by omega) (by omega), w64_id (by omega) (by omega)]
          refine ⟨fun c2 => ?_, fun c2 => ?_⟩
          · have ef : lfT P a b k = false := by unfold lfT; rw [decide_eq_false_iff_not]; omega
            rw [ef] at es
            rw [show cntB (lfT P a b) (k + 1) = cntB (lfT P a b) k from es] at ih
            exact ih
          · have ef : lfT P a b k = true := by unfold lfT; rw [decide_eq_true_eq]; omega
            rw [ef] at es
            rw [show cntB (lfT P a b) (k + 1) = cntB (lfT P a b) k + 1 from es] at ih
            rw [w32_s (by omega)]
            exact ih
    exact key 0 (Nat.zero_le _)
  · have e := of_decide_eq_true e
    rw [if_pos e, if_neg (by omega)] at q; exact q
  · have e := of_decide_eq_false e
    rw [if_neg e] at q
    exact q
theorem c_ends (r : relW M P) (ok : okP P) (q : ∀ M', KC M M' → Φ (msk (enT P) (nM P) : Nat) M') : CF (d + 5) 151 [(2, 1)] w M n Φ := by
  obtain ⟨eB, hB⟩ := ok.nBe
  obtain ⟨eM, hM1, hM2⟩ := ok.nMe
  have hus := useS_lt ok
  refine e11_ends (sp_tellableBits r ok (fun M1 h1 => ?_))
  have r1 := r.q h1
  have key : ∀ b, b ≤ nB P → W11_ends_12 (d + 4) Φ (ldK P b : Nat) (useS P : Nat) (b : Nat) w M1 n := by
    refine up ?_ (fun b hb ih => ?_)
    · apply v11_ends_12
      have hl := ldK_lt ok (nB P) (Nat.le_refl _)
      have h2 : ∀ k, k ≤ 8 → 2 ≤ k → 4 ≤ 2 ^ k ∧ 2 ^ k ≤ 256 := by decide
      have h3 := h2 _ hM2 hM1
      have e1 : w32 (m_shl 1 (nM P : Int) - 1) = ((2 ^ nM P - 1 : Nat) : Int) := by
        rw [m_one (by omega), w32_eq]
        omega
      rw [r1.B, r1.Mo, eB, eM, e1, m_andnot (by omega) (by omega)]
      have e2 : (2 ^ nM P - 1) ^^^ ((2 ^ nM P - 1) &&& ldK P (nB P)) = msk (enT P) (nM P) := by
        apply Nat.eq_of_testBit_eq
        intro j
        rw [andnot_tb, Nat.testBit_two_pow_sub_one, msk_tb]
        by_cases c : j < nM P
        · rw [decide_eq_true c, Bool.true_and, Bool.true_and]
          unfold enT
          congr 1
          rw [Bool.eq_iff_iff, ldK_tb, anyB_iff]
          constructor
          · rintro ⟨i, h1, h2, h3⟩
            refine ⟨i, h1, ?_⟩
            unfold frT
            have := ok.bit (b := i) (by omega)
            rw [h2, Bool.true_and, decide_eq_true_eq]
            omega
          · rintro ⟨i, h1, h2⟩
            unfold frT at h2
            rw [Bool.and_eq_true, decide_eq_true_eq] at h2
            exact ⟨i, h1, h2.1, by omega⟩
        · rw [decide_eq_false c, Bool.false_and, Bool.false_and]
      rw [e2]
      exact ⟨fun _ => q M1 (KC.of43 h1), fun c => absurd (Int.le_refl _) c⟩
    · apply v11_ends_12
      have hbt := ok.bit (b := b) (by omega)
      have hl := ldK_lt ok b (by omega)
      have h28 := p2_8 (P (13 + b)).toNat (by omega)
      have es : ldK P (b + 1) = if useT P b = true then ldK P b ||| 2 ^ (P (13 + b)).toNat else ldK P b := rfl
      rw [r1.B, eB, m_bit (by omega) (by omega), w32_s (by omega), Int.toNat_natCast, r1.from (by omega)]
      have e0 : useS P / 2 ^ b % 2 = if useT P b then 1 else 0 := msk_bit _ _ _ hb
      rw [e0]
      refine ⟨fun c => absurd c (by omega), fun _ => ⟨fun c => ?_, fun c => ⟨by omega, ?_⟩⟩⟩
      · have e3 : ¬ (useT P b = true) := fun e => by rw [if_pos e] at c; omega
        rw [if_neg e3] at es
        rw [← es]
        exact ih
      · have e3 : useT P b = true := by
          cases e4 : useT P b with
          | true => rfl
          | false => rw [e4] at c; exact absurd rfl c
        rw [if_pos e3] at es
        rw [show P (13 + b) = (((P (13 + b)).toNat : Nat) : Int) by omega, m_one (by omega), m_or_n (by omega) (by omega), ← es]
        exact ih
  exact key 0 (Nat.zero_le _)
theorem c_reached (m : Nat) (hm : m < 8) (r : relW M P) (ok : okP P) (q : ∀ M', KC M M' → Φ (rch P m 8 : Nat) M') : CF (d + 5) 79 [(2, 13), (0, (m : Int))] w M n Φ := by
  obtain ⟨eB, hB⟩ := ok.nBe
  have hMo := ok.Mo
  have hus := useS_lt ok
  refine e9_reached (sp_tellableBits r ok (fun M1 h1 => ?_))
  have r1 := r.q h1
  rw [m_one (by omega)]
  have key : ∀ k, k ≤ 8 → W9_reached_24 (d + 4) Φ (useS P : Nat) (crc P m k : Nat) (k : Nat) w M1 n := by
    refine up ?_ (fun k hk ih => ?_)
    · have q' := q M1 (KC.of43 h1)
      rw [← crc_8 ok hm] at q'
      exact v9_reached_24 ⟨fun _ => q', fun c => absurd (by decide) c⟩
    · refine v9_reached_24 ⟨fun c => absurd c (by omega), fun _ => ?_⟩
      have hs := crc_lt ok hm k
      have inn : ∀ b, b ≤ nB P → W9_reached_34 (d + 4) Φ (useS P : Nat) (crK P (crc P m k) b : Nat) (k : Nat) (b : Nat) w M1 n := by
        refine up ?_ (fun b hb ih2 => ?_)
        · apply v9_reached_34
          rw [r1.B, eB, w32_s (by omega)]
          exact ⟨fun _ => ih, fun c => absurd (Int.le_refl _) c⟩
        · apply v9_reached_34
          have hbt := ok.bit (b := b) (by omega)
          have hr := crK_lt ok hs b (by omega)
          have h28 := p2_8 (P (25 + b)).toNat (by omega)
          have es : crK P (crc P m k) (b + 1) = if useT P b = true ∧ inS (crK P (crc P m k) b) (P (13 + b)).toNat = true then crK P (crc P m k) b ||| 2 ^ (P (25 + b)).toNat else crK P (crc P m k) b := rfl
          have e0 : useS P / 2 ^ b % 2 = if useT P b then 1 else 0 := msk_bit _ _ _ hb
          rw [r1.B, eB, m_bit (a := useS P) (by omega) (by omega), w32_s (k := b) (by omega), Int.toNat_natCast, r1.from (by omega), r1.to (by omega), e0]
          refine ⟨fun c => absurd c (by omega), fun _ => ⟨fun c => ?_, fun c => ⟨by omega, ?_⟩⟩⟩
          · have e3 : ¬ (useT P b = true) := fun e => by rw [if_pos e] at c; omega
            rw [if_neg (fun z => e3 z.1)] at es
            rw [← es]
            exact ih2
          · have e3 : useT P b = true := by
              cases e4 : useT P b with
              | true => rfl
              | false => rw [e4] at c; exact absurd rfl c
            have h5 : crK P (crc P m k) b / 2 ^ (P (13 + b)).toNat % 2 < 2 := Nat.mod_lt _ (by omega)
            have e6 : P (13 + b) = (((P (13 + b)).toNat : Nat) : Int) := by omega
            have e7 := m_bit (a := crK P (crc P m k) b) (k := (P (13 + b)).toNat) (by omega) (by omega)
            rw [← e6] at e7
            rw [e7]
            refine ⟨fun c2 => ?_, fun c2 => ⟨by omega, ?_⟩⟩
            · have e8 : ¬ (inS (crK P (crc P m k) b) (P (13 + b)).toNat = true) := by unfold inS; rw [beq_iff_eq]; omega
              rw [if_neg (fun z => e8 z.2)] at es
              rw [← es]
              exact ih2
            · have e8 : inS (crK P (crc P m k) b) (P (13 + b)).toNat = true := by unfold inS; rw [beq_iff_eq]; omega
              rw [if_pos ⟨e3, e8⟩] at es
              rw [show P (25 + b) = (((P (25 + b)).toNat : Nat) : Int) by omega, m_one (by omega), m_or_n (by omega) (by omega), ← es]
              exact ih2
      exact inn 0 (Nat.zero_le _)
  exact key 0 (Nat.zero_le _)
theorem c_reach (m : Int) (r : relW M P) (ok : okP P) (q : ∀ M', KC M M' → Φ (zReach P m) M') : CF (d + 6) 144 [(2, 1), (0, m)] w M n Φ := by
  have hMo := ok.Mo
  unfold zReach at q
  refine e11_reach (c_isMoment m r (br (fun e => ?_) (fun e => ?_)))
  · have e := of_decide_eq_false e
    rw [if_neg e] at q
    exact q M (KC.refl M)
  · have e := of_decide_eq_true e
    rw [if_pos e] at q
    rw [show m = (m.toNat : Int) by omega]
    exact c_reached _ (by omega) r ok q
end
