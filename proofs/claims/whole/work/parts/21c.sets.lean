/-! ===== sets: whom one hears, who hears one, who may tell, what can be told ===== -/
def heardS (P : Nat → Int) (f : Nat) : Nat := msk (fun g => hrs P f g) (nF P)
def hearersS (P : Nat → Int) (f : Nat) : Nat := msk (fun g => hrs P g f) (nF P)
def whoS (P : Nat → Int) (b : Nat) : Nat := msk (fun f => mayT P f b) (nF P)
def mayS (P : Nat → Int) (f : Nat) : Nat := msk (fun b => mayT P f b) (nB P)
def canT (P : Nat → Int) (f b : Nat) : Bool := decide (P (13 + b) = P (68 + f)) && mayT P f b
def canS (P : Nat → Int) (f : Nat) : Nat := msk (fun b => canT P f b) (nB P)
def useT (P : Nat → Int) (b : Nat) : Bool := decide (whoS P b ≠ 0)
def useS (P : Nat → Int) : Nat := msk (fun b => useT P b) (nB P)
def fromS (P : Nat → Int) (m : Int) : Nat := msk (fun b => decide (P (13 + b) = m)) (nB P)
theorem msk_ne0 {p : Nat → Bool} {n : Nat} : msk p n ≠ 0 ↔ ∃ k, k < n ∧ p k = true := by
  induction n with
  | zero => exact ⟨fun h => absurd rfl h, fun ⟨k, h, _⟩ => by omega⟩
  | succ n ih =>
    have e : msk p (n + 1) = msk p n + (if p n then 2 ^ n else 0) := rfl
    have h2 := Nat.two_pow_pos n
    cases hp : p n with
    | true =>
      rw [e, hp]
      exact ⟨fun _ => ⟨n, by omega, hp⟩, fun _ => by show msk p n + 2 ^ n ≠ 0; omega⟩
    | false =>
      rw [msk_no p hp, ih]
      constructor
      · rintro ⟨k, h1, h3⟩; exact ⟨k, by omega, h3⟩
      · rintro ⟨k, h1, h3⟩
        by_cases c : k = n
        · subst c; rw [hp] at h3; cases h3
        · exact ⟨k, by omega, h3⟩
theorem useT_iff {P : Nat → Int} {b : Nat} : useT P b = true ↔ ∃ f, f < nF P ∧ mayT P f b = true := by
  unfold useT
  rw [decide_eq_true_eq]
  exact msk_ne0
theorem msk_tb (p : Nat → Bool) : ∀ (n k : Nat), (msk p n).testBit k = (decide (k < n) && p k) := by
  intro n k
  rw [Nat.testBit_eq_decide_div_mod_eq]
  by_cases h : k < n
  · rw [msk_bit p n k h]
    cases hp : p k <;> simp [h]
  · have h1 : msk p n / 2 ^ k = 0 := Nat.div_eq_of_lt (Nat.lt_of_lt_of_le (msk_lt p n) (Nat.pow_le_pow_right (by omega) (by omega)))
    rw [h1]
    simp [h]
theorem msk_and (p q : Nat → Bool) (n : Nat) : msk p n &&& msk q n = msk (fun k => p k && q k) n := by
  apply Nat.eq_of_testBit_eq
  intro k
  rw [Nat.testBit_and, msk_tb, msk_tb, msk_tb]
  cases decide (k < n) <;> simp
theorem canS_eq (P : Nat → Int) (f : Nat) : mayS P f &&& fromS P (P (68 + f)) = canS P f := by
  unfold mayS fromS canS
  rw [msk_and]
  refine msk_ext _ (fun k _ => ?_)
  unfold canT
  exact Bool.and_comm _ _
theorem msk_lt8 (p : Nat → Bool) {n : Nat} (h : n ≤ 8) : msk p n < 256 := Nat.lt_of_lt_of_le (msk_lt p n) (Nat.pow_le_pow_right (n := 2) (by omega) h)
theorem msk_lt12 (p : Nat → Bool) {n : Nat} (h : n ≤ 12) : msk p n < 4096 := Nat.lt_of_lt_of_le (msk_lt p n) (Nat.pow_le_pow_right (n := 2) (by omega) h)
section
variable {d : Nat} {n : Nat × Nat} {Φ : Int → (Nat → Nat → Int) → Prop} {M : Nat → Nat → Int} {w : cQ} {P : Nat → Int}
theorem sp_heardOf (f : Nat) (hP : M 2 = P) (ok : okP P) (hf : f < 8) (q : ∀ M', Q67 M M' → Φ (heardS P f : Nat) M') : CR (d + 4) 225 [(2, 1), (0, (f : Int))] M n Φ := by
  obtain ⟨eF, hF1, hF2⟩ := ok.nFe
  have key : ∀ k, k ≤ nF P → ∀ M', Q67 M M' → W12_heardOf_4 (d + 3) n Φ f (msk (fun g => hrs P f g) k : Nat) (k : Nat) M' := by
    refine up (fun M' hM' => ?_) (fun k hk ih M' hM' => ?_)
    · apply v12_heardOf_4
      rw [(hM' 2 (by omega) (by omega)).trans hP, eF]
      exact ⟨fun _ => q M' hM', fun c => absurd (Int.le_refl _) c⟩
    · apply v12_heardOf_4
      rw [(hM' 2 (by omega) (by omega)).trans hP, eF]
      refine ⟨fun c => absurd c (by omega), fun _ => sp_hears f k ((hM' 2 (by omega) (by omega)).trans hP) ok (by omega) (by omega) (fun M2 h2 => ?_)⟩
      rw [w32_s (by omega)]
      refine br (fun e => ?_) (fun e => ?_)
      · rw [or_z (fun g => hrs P f g) (by omega) e]; exact ih M2 (hM'.trans h2)
      · rw [or_s (fun g => hrs P f g) (by omega) e]; exact ih M2 (hM'.trans h2)
  exact e12_heardOf (key 0 (Nat.zero_le _) M (Q67.refl M))
theorem sp_hearersOf (f : Nat) (hP : M 2 = P) (ok : okP P) (hf : f < 8) (q : ∀ M', Q67 M M' → Φ (hearersS P f : Nat) M') : CR (d + 4) 226 [(2, 1), (0, (f : Int))] M n Φ := by
  obtain ⟨eF, hF1, hF2⟩ := ok.nFe
  have key : ∀ k, k ≤ nF P → ∀ M', Q67 M M' → W12_hearersOf_4 (d + 3) n Φ f (msk (fun g => hrs P g f) k : Nat) (k : Nat) M' := by
    refine up (fun M' hM' => ?_) (fun k hk ih M' hM' => ?_)
    · apply v12_hearersOf_4
      rw [(hM' 2 (by omega) (by omega)).trans hP, eF]
      exact ⟨fun _ => q M' hM', fun c => absurd (Int.le_refl _) c⟩
    · apply v12_hearersOf_4
      rw [(hM' 2 (by omega) (by omega)).trans hP, eF]
      refine ⟨fun c => absurd c (by omega), fun _ => sp_hears k f ((hM' 2 (by omega) (by omega)).trans hP) ok (by omega) (by omega) (fun M2 h2 => ?_)⟩
      rw [w32_s (by omega)]
      refine br (fun e => ?_) (fun e => ?_)
      · rw [or_z (fun g => hrs P g f) (by omega) e]; exact ih M2 (hM'.trans h2)
      · rw [or_s (fun g => hrs P g f) (by omega) e]; exact ih M2 (hM'.trans h2)
  exact e12_hearersOf (key 0 (Nat.zero_le _) M (Q67.refl M))
theorem sp_whoMay (b : Nat) (hP : M 2 = P) (ok : okP P) (hb : (b : Int) < P 3) (q : ∀ M', Q67 M M' → Φ (whoS P b : Nat) M') : CR (d + 4) 227 [(2, 1), (0, (b : Int))] M n Φ := by
  obtain ⟨eF, hF1, hF2⟩ := ok.nFe
  have key : ∀ k, k ≤ nF P → ∀ M', Q67 M M' → W12_whoMay_4 (d + 3) n Φ b (msk (fun f => mayT P f b) k : Nat) (k : Nat) M' := by
    refine up (fun M' hM' => ?_) (fun k hk ih M' hM' => ?_)
    · apply v12_whoMay_4
      rw [(hM' 2 (by omega) (by omega)).trans hP, eF]
      exact ⟨fun _ => q M' hM', fun c => absurd (Int.le_refl _) c⟩
    · apply v12_whoMay_4
      rw [(hM' 2 (by omega) (by omega)).trans hP, eF]
      refine ⟨fun c => absurd c (by omega), fun _ => sp_mayTell k b ((hM' 2 (by omega) (by omega)).trans hP) ok (by omega) (by omega) (fun M2 h2 => ?_)⟩
      rw [w32_s (by omega)]
      refine br (fun e => ?_) (fun e => ?_)
      · rw [or_z (fun f => mayT P f b) (by omega) e]; exact ih M2 (hM'.trans h2)
      · rw [or_s (fun f => mayT P f b) (by omega) e]; exact ih M2 (hM'.trans h2)
  exact e12_whoMay (key 0 (Nat.zero_le _) M (Q67.refl M))
theorem sp_canTell (f : Nat) (hP : M 2 = P) (ok : okP P) (hf : f < 8) (q : ∀ M', Q67 M M' → Φ (canS P f : Nat) M') : CR (d + 4) 228 [(2, 1), (0, (f : Int))] M n Φ := by
  obtain ⟨eB, hB⟩ := ok.nBe
  have e68 : w32 (68 + (f : Int)) = ((68 + f : Nat) : Int) := by rw [w32_eq]; omega
  have key : ∀ k, k ≤ nB P → ∀ M', Q67 M M' → W12_canTell_4 (d + 3) n Φ f (msk (fun b => canT P f b) k : Nat) (k : Nat) M' := by
    refine up (fun M' hM' => ?_) (fun k hk ih M' hM' => ?_)
    · apply v12_canTell_4
      rw [(hM' 2 (by omega) (by omega)).trans hP, eB]
      exact ⟨fun _ => q M' hM', fun c => absurd (Int.le_refl _) c⟩
    · have e13 : w32 (13 + (k : Int)) = ((13 + k : Nat) : Int) := by rw [w32_eq]; omega
      apply v12_canTell_4
      rw [(hM' 2 (by omega) (by omega)).trans hP, eB, e68, e13, Int.toNat_natCast, Int.toNat_natCast, w32_s (by omega)]
      refine ⟨fun c => absurd c (by omega), fun _ => ⟨by omega, by omega, fun c => ?_, fun c => ?_⟩⟩
      · rw [or_z (fun b => canT P f b) (by omega) (by unfold canT; rw [decide_eq_false c]; rfl)]
        exact ih M' hM'
      · have e0 : canT P f k = mayT P f k := by unfold canT; rw [decide_eq_true (Decidable.not_not.mp c)]; rfl
        refine sp_mayTell f k ((hM' 2 (by omega) (by omega)).trans hP) ok hf (by omega) (fun M2 h2 => ?_)
        refine br (fun e => ?_) (fun e => ?_)
        · rw [or_z (fun b => canT P f b) (by omega) (e0.trans e)]; exact ih M2 (hM'.trans h2)
        · rw [or_s (fun b => canT P f b) (by omega) (e0.trans e)]; exact ih M2 (hM'.trans h2)
  exact e12_canTell (key 0 (Nat.zero_le _) M (Q67.refl M))
/-- the bits that can be told are laid -/
def QU (M M' : Nat → Nat → Int) : Prop := (∀ a, a ≠ 1 → a ≠ 6 → a ≠ 7 → M' a = M a) ∧ (∀ k, k ≠ 21 → M' 1 k = M 1 k)
theorem QU.trans {M M' N : Nat → Nat → Int} (h : QU M M') (h2 : QU M' N) : QU M N := ⟨fun a h1 h6 h7 => (h2.1 a h1 h6 h7).trans (h.1 a h1 h6 h7), fun k hk => (h2.2 k hk).trans (h.2 k hk)⟩
theorem QU.of67 {M M' : Nat → Nat → Int} (h : Q67 M M') : QU M M' := ⟨fun a _ h6 h7 => h a h6 h7, fun k _ => by rw [h 1 (by omega) (by omega)]⟩
theorem QU.put (M : Nat → Nat → Int) (x : Int) : QU M (sI M 1 21 x) := ⟨fun a h1 _ _ => sI_row h1, fun k hk => sI_ne hk⟩
theorem sp_laysUsable (hP : M 2 = P) (ok : okP P) (q : ∀ M', QU M M' → M' 1 21 = (useS P : Nat) → Φ 0 M') : CR (d + 5) 261 [(2, 1)] M n Φ := by
  obtain ⟨eB, hB⟩ := ok.nBe
  have key : ∀ k, k ≤ nB P → ∀ M', QU M M' → M' 1 21 = (msk (fun b => useT P b) k : Nat) → W12_laysUsable_7 (d + 4) n Φ (k : Nat) M' := by
    refine up (fun M' hM' hu => ?_) (fun k hk ih M' hM' hu => ?_)
    · apply v12_laysUsable_7
      rw [(hM'.1 2 (by omega) (by omega) (by omega)).trans hP, eB]
      exact ⟨fun _ => q M' hM' hu, fun c => absurd (Int.le_refl _) c⟩
    · apply v12_laysUsable_7
      have m2 := (hM'.1 2 (by omega) (by omega) (by omega)).trans hP
      rw [m2, eB, hu, w32_s (by omega)]
      refine ⟨fun c => absurd c (by omega), fun _ => sp_whoMay k m2 ok (by omega) (fun M2 h2 => ⟨fun c => ?_, fun c => ?_⟩)⟩
      · rw [or_z (fun b => useT P b) (by omega) (by unfold useT; rw [decide_eq_false_iff_not]; omega)]
        exact ih _ ((hM'.trans (QU.of67 h2)).trans (QU.put _ _)) (sI_same _ _ _ _)
      · rw [or_s (fun b => useT P b) (by omega) (by unfold useT; rw [decide_eq_true_eq]; omega)]
        exact ih _ ((hM'.trans (QU.of67 h2)).trans (QU.put _ _)) (sI_same _ _ _ _)
  exact e12_laysUsable (key 0 (Nat.zero_le _) _ (QU.put M 0) (sI_same _ _ _ _))
theorem sp_mustAll (hP : M 2 = P) (ok : okP P) (q : Φ (mustN P : Nat) M) : CR (d + 1) 315 [(2, 1)] M n Φ := by
  obtain ⟨eB, hB⟩ := ok.nBe
  have key : ∀ k, k ≤ nB P → W12_mustAll_4 d n Φ (msk (fun b => decide (P (37 + b) = 1)) k : Nat) (k : Nat) M := by
    refine up ?_ (fun k hk ih => ?_)
    · apply v12_mustAll_4
      rw [hP, eB]
      exact ⟨fun _ => q, fun c => absurd (Int.le_refl _) c⟩
    · have e37 : w32 (37 + (k : Int)) = ((37 + k : Nat) : Int) := by rw [w32_eq]; omega
      apply v12_mustAll_4
      rw [hP, eB, e37, Int.toNat_natCast, w32_s (by omega)]
      refine ⟨fun c => absurd c (by omega), fun _ => ⟨by omega, fun c => ?_, fun c => ?_⟩⟩
      · rw [or_z (fun b => decide (P (37 + b) = 1)) (by omega) (decide_eq_false c)]; exact ih
      · rw [or_s (fun b => decide (P (37 + b) = 1)) (by omega) (decide_eq_true (Decidable.not_not.mp c))]; exact ih
  exact e12_mustAll (key 0 (Nat.zero_le _))
theorem sp_allowedBits (f : Nat) (r : relW M P) (ok : okP P) (hf : f < 8) (q : ∀ M', Q43 M M' → Φ (mayS P f : Nat) M') : CF (d + 4) 96 [(2, 4), (0, (f : Int))] w M n Φ := by
  obtain ⟨eF, hF1, hF2⟩ := ok.nFe
  obtain ⟨eB, hB⟩ := ok.nBe
  have key : ∀ k, k ≤ nB P → ∀ M', Q43 M M' → W10_allowedBits_4 (d + 3) Φ f (msk (fun b => mayT P f b) k : Nat) (k : Nat) w M' n := by
    refine up (fun M' hM' => ?_) (fun k hk ih M' hM' => ?_)
    · apply v10_allowedBits_4
      rw [(r.q hM').B, eB]
      exact ⟨fun _ => q M' hM', fun c => absurd (Int.le_refl _) c⟩
    · apply v10_allowedBits_4
      rw [(r.q hM').B, eB]
      refine ⟨fun c => absurd c (by omega), fun _ => sp_allows f k (r.q hM') ok (by omega) (by omega) (fun M2 h2 => ?_)⟩
      rw [w32_s (by omega)]
      refine br (fun e => ?_) (fun e => ?_)
      · rw [← msk_no (fun b => mayT P f b) e]; exact ih M2 (hM'.trans h2)
      · rw [or_s (fun b => mayT P f b) (by omega) e]; exact ih M2 (hM'.trans h2)
  exact e10_allowedBits (key 0 (Nat.zero_le _) M (Q43.refl M))
theorem sp_allowedFarms (b : Nat) (r : relW M P) (ok : okP P) (hb : (b : Int) < P 3) (q : ∀ M', Q43 M M' → Φ (whoS P b : Nat) M') : CF (d + 4) 97 [(2, 4), (0, (b : Int))] w M n Φ := by
  obtain ⟨eF, hF1, hF2⟩ := ok.nFe
  obtain ⟨eB, hB⟩ := ok.nBe
  have key : ∀ k, k ≤ nF P → ∀ M', Q43 M M' → W10_allowedFarms_4 (d + 3) Φ b (msk (fun f => mayT P f b) k : Nat) (k : Nat) w M' n := by
    refine up (fun M' hM' => ?_) (fun k hk ih M' hM' => ?_)
    · apply v10_allowedFarms_4
      rw [(r.q hM').F, eF]
      exact ⟨fun _ => q M' hM', fun c => absurd (Int.le_refl _) c⟩
    · apply v10_allowedFarms_4
      rw [(r.q hM').F, eF]
      refine ⟨fun c => absurd c (by omega), fun _ => sp_allows k b (r.q hM') ok (by omega) (by omega) (fun M2 h2 => ?_)⟩
      rw [w32_s (by omega)]
      refine br (fun e => ?_) (fun e => ?_)
      · rw [← msk_no (fun f => mayT P f b) e]; exact ih M2 (hM'.trans h2)
      · rw [or_s (fun f => mayT P f b) (by omega) e]; exact ih M2 (hM'.trans h2)
  exact e10_allowedFarms (key 0 (Nat.zero_le _) M (Q43.refl M))
theorem sp_heardFarms (f : Nat) (r : relW M P) (ok : okP P) (hf : f < 8) (q : ∀ M', Q43 M M' → Φ (heardS P f : Nat) M') : CF (d + 4) 100 [(2, 4), (0, (f : Int))] w M n Φ := by
  obtain ⟨eF, hF1, hF2⟩ := ok.nFe
  obtain ⟨eB, hB⟩ := ok.nBe
  have key : ∀ k, k ≤ nF P → ∀ M', Q43 M M' → W10_heardFarms_4 (d + 3) Φ f (msk (fun g => hrs P f g) k : Nat) (k : Nat) w M' n := by
    refine up (fun M' hM' => ?_) (fun k hk ih M' hM' => ?_)
    · apply v10_heardFarms_4
      rw [(r.q hM').F, eF]
      exact ⟨fun _ => q M' hM', fun c => absurd (Int.le_refl _) c⟩
    · apply v10_heardFarms_4
      rw [(r.q hM').F, eF]
      refine ⟨fun c => absurd c (by omega), fun _ => sp_hearsFrom f k (r.q hM') ok (by omega) (by omega) (fun M2 h2 => ?_)⟩
      rw [w32_s (by omega)]
      refine br (fun e => ?_) (fun e => ?_)
      · rw [← msk_no (fun g => hrs P f g) e]; exact ih M2 (hM'.trans h2)
      · rw [or_s (fun g => hrs P f g) (by omega) e]; exact ih M2 (hM'.trans h2)
  exact e10_heardFarms (key 0 (Nat.zero_le _) M (Q43.refl M))
theorem sp_hearers (f : Nat) (r : relW M P) (ok : okP P) (hf : f < 8) (q : ∀ M', Q43 M M' → Φ (hearersS P f : Nat) M') : CF (d + 4) 101 [(2, 4), (0, (f : Int))] w M n Φ := by
  obtain ⟨eF, hF1, hF2⟩ := ok.nFe
  obtain ⟨eB, hB⟩ := ok.nBe
  have key : ∀ k, k ≤ nF P → ∀ M', Q43 M M' → W10_hearers_4 (d + 3) Φ f (msk (fun g => hrs P g f) k : Nat) (k : Nat) w M' n := by
    refine up (fun M' hM' => ?_) (fun k hk ih M' hM' => ?_)
    · apply v10_hearers_4
      rw [(r.q hM').F, eF]
      exact ⟨fun _ => q M' hM', fun c => absurd (Int.le_refl _) c⟩
    · apply v10_hearers_4
      rw [(r.q hM').F, eF]
      refine ⟨fun c => absurd c (by omega), fun _ => sp_hearsFrom k f (r.q hM') ok (by omega) (by omega) (fun M2 h2 => ?_)⟩
      rw [w32_s (by omega)]
      refine br (fun e => ?_) (fun e => ?_)
      · rw [← msk_no (fun g => hrs P g f) e]; exact ih M2 (hM'.trans h2)
      · rw [or_s (fun g => hrs P g f) (by omega) e]; exact ih M2 (hM'.trans h2)
  exact e10_hearers (key 0 (Nat.zero_le _) M (Q43.refl M))
theorem sp_bitsFrom (m : Int) (r : relW M P) (ok : okP P) (q : Φ (fromS P m : Nat) M) : CF (d + 1) 24 [(2, 29), (0, m)] w M n Φ := by
  obtain ⟨eB, hB⟩ := ok.nBe
  have key : ∀ k, k ≤ nB P → W2_bitsFrom_4 d Φ m (msk (fun b => decide (P (13 + b) = m)) k : Nat) (k : Nat) w M n := by
    refine up ?_ (fun k hk ih => ?_)
    · apply v2_bitsFrom_4
      rw [r.B, eB]
      exact ⟨fun _ => q, fun c => absurd (Int.le_refl _) c⟩
    · apply v2_bitsFrom_4
      rw [r.B, eB, Int.toNat_natCast, r.from (by omega), w32_s (by omega)]
      refine ⟨fun c => absurd c (by omega), fun _ => ⟨by omega, fun c => ?_, fun c => ?_⟩⟩
      · rw [← msk_no (fun b => decide (P (13 + b) = m)) (decide_eq_false c)]; exact ih
      · rw [or_s (fun b => decide (P (13 + b) = m)) (by omega) (decide_eq_true (Decidable.not_not.mp c))]; exact ih
  exact e2_bitsFrom (key 0 (Nat.zero_le _))
theorem sp_tellableBits (r : relW M P) (ok : okP P) (q : ∀ M', Q43 M M' → Φ (useS P : Nat) M') : CF (d + 4) 98 [(2, 4)] w M n Φ := by
  obtain ⟨eF, hF1, hF2⟩ := ok.nFe
  obtain ⟨eB, hB⟩ := ok.nBe
  have key : ∀ k, k ≤ nB P → ∀ M', Q43 M M' → W10_tellableBits_4 (d + 3) Φ (msk (fun b => useT P b) k : Nat) (k : Nat) w M' n := by
    refine up (fun M' hM' => ?_) (fun k hk ih M' hM' => ?_)
    · apply v10_tellableBits_4
      rw [(r.q hM').B, eB]
      exact ⟨fun _ => q M' hM', fun c => absurd (Int.le_refl _) c⟩
    · apply v10_tellableBits_4
      rw [(r.q hM').B, eB]
      refine ⟨fun c => absurd c (by omega), fun _ => ?_⟩
      have fnd : useT P k = true → ∀ (j : Nat) M2, Q43 M M2 → W10_tellableBits_17 (d + 3) Φ (msk (fun b => useT P b) (k + 1) : Nat) (k : Nat) (j : Nat) w M2 n := by
        intro hu j M2 h2
        apply v10_tellableBits_17
        rw [(r.q h2).F, eF, w32_s (by omega), m_bit (msk_lt31 _ (by omega)) (by omega), msk_bit _ (k + 1) k (by omega), hu]
        exact ⟨fun _ => ih M2 h2, fun _ => ⟨fun _ => ih M2 h2, fun c => absurd (by decide) c⟩⟩
      have inn : ∀ j, j ≤ nF P → ∀ M2, Q43 M M2 → (∀ f, f < j → mayT P f k = false) → W10_tellableBits_17 (d + 3) Φ (msk (fun b => useT P b) k : Nat) (k : Nat) (j : Nat) w M2 n := by
        refine up (fun M2 h2 hn => ?_) (fun j hj ih2 M2 h2 hn => ?_)
        · apply v10_tellableBits_17
          rw [(r.q h2).F, eF, w32_s (by omega)]
          refine ⟨fun _ => ?_, fun c => absurd (Int.le_refl _) c⟩
          have hu : useT P k = false := by
            cases e : useT P k with
            | false => rfl
            | true =>
              obtain ⟨f, h3, h4⟩ := useT_iff.mp e
              rw [hn f h3] at h4
              cases h4
          rw [← msk_no (fun b => useT P b) hu]
          exact ih M2 h2
        · apply v10_tellableBits_17
          have hz : msk (fun b => useT P b) k / 2 ^ k % 2 = 0 := by rw [Nat.div_eq_of_lt (msk_lt _ k)]
          rw [(r.q h2).F, eF, w32_s (k := k) (by omega), w32_s (k := j) (by omega), m_bit (msk_lt31 _ (by omega)) (by omega), hz]
          refine ⟨fun c => absurd c (by omega), fun _ => ⟨fun c => absurd rfl c, fun _ => ?_⟩⟩
          refine sp_allows j k (r.q h2) ok (by omega) (by omega) (fun M3 h3 => ?_)
          refine br (fun e => ?_) (fun e => ?_)
          · refine ih2 M3 (h2.trans h3) (fun f hf => ?_)
            by_cases c : f = j
            · rw [c]; exact e
            · exact hn f (by omega)
          · have hu : useT P k = true := useT_iff.mpr ⟨j, hj, e⟩
            rw [or_s (fun b => useT P b) (by omega) hu]
            exact fnd hu (j + 1) M3 (h2.trans h3)
      exact inn 0 (Nat.zero_le _) M' hM' (fun f hf => by omega)
  exact e10_tellableBits (key 0 (Nat.zero_le _) M (Q43.refl M))
end
