/-! ===== the game: the class ===== -/
/-- moments to which a farm can lead from one -/
def ldG (P : Nat → Int) (t m : Nat) : Nat → Nat
  | 0 => 0
  | b + 1 => if gmT P t m b = true then ldG P t m b ||| 2 ^ toN P b else ldG P t m b
theorem ldG_lt {P : Nat → Int} (ok : okP P) (t m : Nat) : ∀ b, b ≤ nB P → ldG P t m b < 256
  | 0, _ => by show 0 < 256; omega
  | b + 1, h => by
    have ih := ldG_lt ok t m b (by omega)
    have hb := ok.nBe
    have h1 := ok.bit (b := b) (by omega)
    have h2 := ok.Mo
    have h3 := p2_8 (toN P b) (by unfold toN; omega)
    show (if gmT P t m b = true then ldG P t m b ||| 2 ^ toN P b else ldG P t m b) < 256
    split
    · exact Nat.or_lt_two_pow (n := 8) ih (by omega)
    · exact ih
theorem ldG_tb (P : Nat → Int) (t m j : Nat) : ∀ b, (ldG P t m b).testBit j = true ↔ ∃ i, i < b ∧ gmT P t m i = true ∧ j = toN P i
  | 0 => by
    constructor
    · intro h
      have h : (0 : Nat).testBit j = true := h
      rw [Nat.zero_testBit] at h
      cases h
    · rintro ⟨i, h, _⟩; omega
  | b + 1 => by
    have ih := ldG_tb P t m j b
    show (if gmT P t m b = true then ldG P t m b ||| 2 ^ toN P b else ldG P t m b).testBit j = true ↔ _
    by_cases c : gmT P t m b = true
    · rw [if_pos c, tb_or2, Bool.or_eq_true, decide_eq_true_eq, ih]
      constructor
      · rintro (⟨i, h1, h2⟩ | h)
        · exact ⟨i, by omega, h2⟩
        · exact ⟨b, by omega, c, h.symm⟩
      · rintro ⟨i, h1, h2, h3⟩
        by_cases e : i = b
        · subst e; exact Or.inr h3.symm
        · exact Or.inl ⟨i, by omega, h2, h3⟩
    · rw [if_neg c, ih]
      constructor
      · rintro ⟨i, h1, h2⟩; exact ⟨i, by omega, h2⟩
      · rintro ⟨i, h1, h2, h3⟩
        by_cases e : i = b
        · subst e; exact absurd h2 c
        · exact ⟨i, by omega, h2, h3⟩
def lrn (M : Nat → Nat → Int) (P : Nat → Int) : Prop := ∀ t m, t < nF P → m < nM P → M 101 (8 * t + m) = (ldG P t m (nB P) : Nat)
def wonK (M : Nat → Nat → Int) (a : Nat) (P : Nat → Int) (fr g k : Nat) : Prop := ∀ t, t < nF P → M a t = (msk (fun m => wn P fr g k m t) (nM P) : Nat)
section
variable {d : Nat} {n : Nat × Nat} {Φ : Int → (Nat → Nat → Int) → Prop} {Ψ : Int → cQ → (Nat → Nat → Int) → Nat × Nat → Prop} {M : Nat → Nat → Int} {w : cQ} {P : Nat → Int}
theorem c_nextFarm (t : Nat) (ht : t < nF P) (r : relW M P) (ok : okP P) (q : Φ (nxN P t : Nat) M) : CF (d + 1) 108 [(2, 4), (0, (t : Int))] w M n Φ := by
  obtain ⟨eF, hF1, hF2⟩ := ok.nFe
  apply e10_nextFarm
  rw [r.F, eF, w32_s (by omega)]
  unfold nxN at q
  refine ⟨fun c => ?_, fun c => ?_⟩
  · rw [if_neg (by omega)] at q; exact q
  · rw [if_pos (by omega)] at q; exact q
theorem c_learn (r : relW M P) (ok : okP P) (q : ∀ M', KC M M' → lrn M' P → Φ 0 M') : CF (d + 4) 1 [(2, 14)] w M n Φ := by
  obtain ⟨eF, hF1, hF2⟩ := ok.nFe
  obtain ⟨eM, hM1, hM2⟩ := ok.nMe
  obtain ⟨eB, hB⟩ := ok.nBe
  have key : ∀ f, f ≤ nF P → ∀ M', KC M M' → (∀ t m, t < 8 → m < 8 → M' 101 (8 * t + m) = if t < f then ((ldG P t m (nB P) : Nat) : Int) else 0) → W0_learn_34 (d + 3) Φ (f : Nat) w M' n := by
    refine up (fun M' hM' h1 => ?_) (fun f hf ih M' hM' h1 => ?_)
    · apply v0_learn_34
      rw [(r.kc hM').F, eF]
      refine ⟨fun _ => q M' hM' (fun t m ht hm => ?_), fun c => absurd (Int.le_refl _) c⟩
      rw [h1 t m (by omega) (by omega), if_pos ht]
    · apply v0_learn_34
      rw [(r.kc hM').F, eF]
      refine ⟨fun c => absurd c (by omega), fun _ => ?_⟩
      have inn : ∀ b, b ≤ nB P → ∀ M2, KC M M2 → (∀ t m, t < 8 → m < 8 → M2 101 (8 * t + m) = if t < f then ((ldG P t m (nB P) : Nat) : Int) else if t = f then ((ldG P t m b : Nat) : Int) else 0) → W0_learn_44 (d + 3) Φ (f : Nat) (b : Nat) w M2 n := by
        refine up (fun M2 hM2 h2 => ?_) (fun b hb ih2 M2 hM2 h2 => ?_)
        · apply v0_learn_44
          rw [(r.kc hM2).B, eB, w32_s (by omega)]
          refine ⟨fun _ => ih M2 hM2 (fun t m ht hm => ?_), fun c => absurd (Int.le_refl _) c⟩
          rw [h2 t m ht hm]
          by_cases c : t < f
          · rw [if_pos c, if_pos (by omega)]
          · rw [if_neg c]
            by_cases c2 : t = f
            · rw [if_pos c2, if_pos (by omega)]
            · rw [if_neg c2, if_neg (by omega)]
        · apply v0_learn_44
          have hbt := ok.bit (b := b) (by omega)
          have hfr : frN P b < nM P := by unfold frN; omega
          have hto : toN P b < 8 := by unfold toN; omega
          rw [(r.kc hM2).B, eB, w32_s (k := b) (by omega)]
          refine ⟨fun c => absurd c (by omega), fun _ => sp_allows f b (r.kc hM2) ok (by omega) (by omega) (fun M3 h3 => ?_)⟩
          have hM3 := hM2.trans (KC.of43 h3)
          have r3 := r.kc hM3
          have h33 : ∀ t m, t < 8 → m < 8 → M3 101 (8 * t + m) = if t < f then ((ldG P t m (nB P) : Nat) : Int) else if t = f then ((ldG P t m b : Nat) : Int) else 0 := fun t m ht hm => by rw [h3 101 (by omega) (by omega)]; exact h2 t m ht hm
          have es : ∀ m, ldG P f m (b + 1) = if gmT P f m b = true then ldG P f m b ||| 2 ^ toN P b else ldG P f m b := fun _ => rfl
          rw [Int.toNat_natCast, r3.from (by omega), r3.to (by omega)]
          have ei : w32 (w32 ((f : Int) * 8) + P (13 + b)) = ((8 * f + frN P b : Nat) : Int) := by
            unfold frN
            rw [w32_id (x := (f : Int) * 8) (by omega) (by omega), w32_id (by omega) (by omega)]; omega
          rw [ei, Int.toNat_natCast]
          refine br (fun e => ?_) (fun e => ⟨by omega, by omega, by omega, ⟨by omega, by omega, trivial⟩, ?_⟩)
          · refine ih2 M3 hM3 (fun t m ht hm => ?_)
            rw [h33 t m ht hm]
            by_cases c : t < f
            · rw [if_pos c, if_pos c]
            · rw [if_neg c, if_neg c]
              by_cases c2 : t = f
              · subst c2
                rw [if_pos rfl, if_pos rfl, es m, if_neg (by unfold gmT; rw [e, Bool.false_and]; decide)]
              · rw [if_neg c2, if_neg c2]
          · have e1 : M3 101 (8 * f + frN P b) = ((ldG P f (frN P b) b : Nat) : Int) := by
              rw [h33 f (frN P b) (by omega) (by omega), if_neg (by omega), if_pos rfl]
            have hl := ldG_lt ok f (frN P b) b (by omega)
            obtain ⟨e5, e6⟩ := or2_tb (s := ldG P f (frN P b) b) (t := toN P b) hto hl
            rw [e1, show P (25 + b) = ((toN P b : Nat) : Int) by unfold toN; omega, e5]
            refine ih2 _ (hM3.trans (KC.set (by omega))) (fun t m ht hm => ?_)
            rw [sI_if]
            by_cases c : 8 * t + m = 8 * f + frN P b
            · have ct : t = f := by omega
              have cm : m = frN P b := by omega
              subst ct cm
              rw [if_pos rfl, if_neg (by omega), if_pos rfl, es (frN P b), if_pos (by unfold gmT; rw [e, decide_eq_true rfl]; rfl)]
            · rw [if_neg c, h33 t m ht hm]
              by_cases c1 : t < f
              · rw [if_pos c1, if_pos c1]
              · rw [if_neg c1, if_neg c1]
                by_cases c2 : t = f
                · subst c2
                  rw [if_pos rfl, if_pos rfl, es m, if_neg (by unfold gmT; rw [decide_eq_false (show ¬ (frN P b = m) by omega), Bool.and_false]; decide)]
                · rw [if_neg c2, if_neg c2]
      refine inn 0 (Nat.zero_le _) M' hM' (fun t m ht hm => ?_)
      rw [h1 t m ht hm]
      by_cases c : t < f
      · rw [if_pos c, if_pos c]
      · rw [if_neg c, if_neg c]
        split <;> rfl
  have ini : ∀ k, k ≤ 64 → ∀ M', KC M M' → (∀ i, i < k → M' 101 i = 0) → W0_learn_10 (d + 3) Φ (k : Nat) w M' n := by
    refine up (fun M' hM' h1 => ?_) (fun k hk ih M' hM' h1 => ?_)
    · refine v0_learn_10 ⟨fun _ => key 0 (Nat.zero_le _) M' hM' (fun t m ht hm => ?_), fun c => absurd (by decide) c⟩
      rw [h1 _ (by omega), if_neg (by omega)]
    · apply v0_learn_10
      rw [w32_s (by omega), Int.toNat_natCast]
      refine ⟨fun c => absurd c (by omega), fun _ => ⟨⟨by omega, by omega, trivial⟩, ih _ (hM'.trans (KC.set (by omega))) (fun i hi => ?_)⟩⟩
      rw [sI_if]
      by_cases c : i = k
      · rw [if_pos c]
      · rw [if_neg c]; exact h1 i (by omega)
  exact e0_learn (ini 0 (Nat.zero_le _) M (KC.refl M) (fun i hi => absurd hi (Nat.not_lt_zero i)))
theorem c_leadsInto (m t fr : Nat) (W : Nat → Nat → Bool) (hv : vl P m t) (ok : okP P) (q : Φ (b2i (gst P fr W m t)) M) : CF (d + 1) 4 [(0, ((ldG P t m (nB P) : Nat) : Int)), (0, (m : Int)), (0, ((msk (fun j => W j (nxN P t)) (nM P) : Nat) : Int)), (0, b2i (inS fr t))] w M n Φ := by
  obtain ⟨eM, hM1, hM2⟩ := ok.nMe
  obtain ⟨eB, hB⟩ := ok.nBe
  have hm := hv.1
  have hl := ldG_lt ok t m (nB P) (Nat.le_refl _)
  have hs := msk_lt8 (fun j => W j (nxN P t)) hM2
  have tb : ∀ j, (msk (fun j => W j (nxN P t)) (nM P)).testBit j = (decide (j < nM P) && W j (nxN P t)) := fun j => msk_tb _ _ _
  have hto : ∀ i, i < nB P → toN P i < nM P := fun i hi => by
    have := ok.bit (b := i) (by omega)
    unfold toN; omega
  have hz : ldG P t m (nB P) = 0 ↔ anyB (gmT P t m) (nB P) = false := by
    constructor
    · intro h
      cases e : anyB (gmT P t m) (nB P) with
      | false => rfl
      | true =>
        obtain ⟨i, h1, h2⟩ := (anyB_iff _ _).mp e
        have := (ldG_tb P t m (toN P i) (nB P)).mpr ⟨i, h1, h2, rfl⟩
        rw [h, Nat.zero_testBit] at this
        cases this
    · intro h
      apply Nat.eq_of_testBit_eq
      intro j
      rw [Nat.zero_testBit]
      cases e : (ldG P t m (nB P)).testBit j with
      | false => rfl
      | true =>
        obtain ⟨i, h1, h2, _⟩ := (ldG_tb P t m j (nB P)).mp e
        rw [(anyB_iff _ _).mpr ⟨i, h1, h2⟩] at h
        cases h
  unfold gst at q
  apply e0_leadsInto
  rw [m_andnot (by omega) (by omega), m_and_n (by omega) (by omega), bit_tb hs (by omega)]
  refine ⟨fun c => ?_, fun c => ?_⟩
  · have hany : anyB (gmT P t m) (nB P) = true := by
      cases e : anyB (gmT P t m) (nB P) with
      | true => rfl
      | false => exact absurd (by rw [hz.mpr e]; rfl) c
    rw [if_pos hany] at q
    refine br (fun ef => ?_) (fun ef => ?_)
    · rw [if_neg (by rw [ef]; decide)] at q
      have hx : ldG P t m (nB P) ^^^ (ldG P t m (nB P) &&& msk (fun j => W j (nxN P t)) (nM P)) = 0 ↔ anyB (fun b => gmT P t m b && !(W (toN P b) (nxN P t))) (nB P) = false := by
        constructor
        · intro h
          cases e : anyB (fun b => gmT P t m b && !(W (toN P b) (nxN P t))) (nB P) with
          | false => rfl
          | true =>
            obtain ⟨i, h1, h2⟩ := (anyB_iff _ _).mp e
            rw [Bool.and_eq_true] at h2
            have h3 : (ldG P t m (nB P) ^^^ (ldG P t m (nB P) &&& msk (fun j => W j (nxN P t)) (nM P))).testBit (toN P i) = true := by
              rw [andnot_tb, (ldG_tb P t m (toN P i) (nB P)).mpr ⟨i, h1, h2.1, rfl⟩, tb, decide_eq_true (hto i h1), Bool.true_and, Bool.true_and]
              exact h2.2
            rw [h, Nat.zero_testBit] at h3
            cases h3
        · intro h
          apply Nat.eq_of_testBit_eq
          intro j
          rw [andnot_tb, Nat.zero_testBit]
          cases e : (ldG P t m (nB P)).testBit j with
          | false => rfl
          | true =>
            obtain ⟨i, h1, h2, h3⟩ := (ldG_tb P t m j (nB P)).mp e
            subst h3
            rw [tb, decide_eq_true (hto i h1), Bool.true_and, Bool.true_and]
            cases e2 : W (toN P i) (nxN P t) with
            | true => rfl
            | false =>
              rw [(anyB_iff _ _).mpr ⟨i, h1, by rw [h2, e2]; rfl⟩] at h
              cases h
      refine ⟨fun c2 => ?_, fun c2 => ?_⟩
      · have e : anyB (fun b => gmT P t m b && !(W (toN P b) (nxN P t))) (nB P) = true := by
          cases e : anyB (fun b => gmT P t m b && !(W (toN P b) (nxN P t))) (nB P) with
          | true => rfl
          | false => exact absurd (by rw [hx.mpr e]; rfl) c2
        rw [e] at q
        exact q
      · rw [hx.mp (by omega)] at q
        exact q
    · rw [if_pos ef] at q
      have hx : ldG P t m (nB P) &&& msk (fun j => W j (nxN P t)) (nM P) = 0 ↔ anyB (fun b => gmT P t m b && W (toN P b) (nxN P t)) (nB P) = false := by
        constructor
        · intro h
          cases e : anyB (fun b => gmT P t m b && W (toN P b) (nxN P t)) (nB P) with
          | false => rfl
          | true =>
            obtain ⟨i, h1, h2⟩ := (anyB_iff _ _).mp e
            rw [Bool.and_eq_true] at h2
            have h3 : (ldG P t m (nB P) &&& msk (fun j => W j (nxN P t)) (nM P)).testBit (toN P i) = true := by
              rw [Nat.testBit_and, (ldG_tb P t m (toN P i) (nB P)).mpr ⟨i, h1, h2.1, rfl⟩, tb, decide_eq_true (hto i h1), Bool.true_and, Bool.true_and]
              exact h2.2
            rw [h, Nat.zero_testBit] at h3
            cases h3
        · intro h
          apply Nat.eq_of_testBit_eq
          intro j
          rw [Nat.testBit_and, Nat.zero_testBit]
          cases e : (ldG P t m (nB P)).testBit j with
          | false => rfl
          | true =>
            obtain ⟨i, h1, h2, h3⟩ := (ldG_tb P t m j (nB P)).mp e
            subst h3
            rw [tb, decide_eq_true (hto i h1), Bool.true_and, Bool.true_and]
            cases e2 : W (toN P i) (nxN P t) with
            | false => rfl
            | true =>
              rw [(anyB_iff _ _).mpr ⟨i, h1, by rw [h2, e2]; rfl⟩] at h
              cases h
      refine ⟨fun c2 => ?_, fun c2 => ?_⟩
      · rw [hx.mp (by omega)] at q
        exact q
      · have e : anyB (fun b => gmT P t m b && W (toN P b) (nxN P t)) (nB P) = true := by
          cases e : anyB (fun b => gmT P t m b && W (toN P b) (nxN P t)) (nB P) with
          | true => rfl
          | false => exact absurd (by rw [hx.mpr e]; rfl) c2
        rw [e] at q
        exact q
  · have hany : anyB (gmT P t m) (nB P) = false := hz.mp (by omega)
    rw [if_neg (by rw [hany]; decide)] at q
    rw [tb, decide_eq_true hm, Bool.true_and]
    refine br (fun e => ?_) (fun e => ?_)
    · rw [e] at q; exact q
    · rw [e] at q; exact q
theorem c_widen (fr g k : Nat) (hfr : fr < 256) (hl : lrn M P) (hw : wonK M 102 P fr g k) (r : relW M P) (ok : okP P) (q : ∀ M', KC M M' → M' 101 = M 101 → M' 102 = M 102 → wonK M' 103 P fr g (k + 1) → Φ (b2i (anyB (fun t => decide (msk (fun m => wn P fr g (k + 1) m t) (nM P) ≠ msk (fun m => wn P fr g k m t) (nM P))) (nF P))) M') : CF (d + 2) 3 [(2, 14), (0, (fr : Int))] w M n Φ := by
  obtain ⟨eF, hF1, hF2⟩ := ok.nFe
  obtain ⟨eM, hM1, hM2⟩ := ok.nMe
  have key : ∀ t, t ≤ nF P → ∀ M', KC M M' → M' 101 = M 101 → M' 102 = M 102 → (∀ i, i < t → M' 103 i = (msk (fun m => wn P fr g (k + 1) m i) (nM P) : Nat)) → W0_widen_4 (d + 1) Φ (fr : Nat) (b2i (anyB (fun t => decide (msk (fun m => wn P fr g (k + 1) m t) (nM P) ≠ msk (fun m => wn P fr g k m t) (nM P))) t)) (t : Nat) w M' n := by
    refine up (fun M' hM' e1 e2 h3 => ?_) (fun t ht ih M' hM' e1 e2 h3 => ?_)
    · apply v0_widen_4
      rw [(r.kc hM').F, eF]
      exact ⟨fun _ => ⟨b2i_or _, q M' hM' e1 e2 h3⟩, fun c => absurd (Int.le_refl _) c⟩
    · apply v0_widen_4
      have hn := nxN_lt ok ht
      rw [(r.kc hM').F, eF]
      refine ⟨fun c => absurd c (by omega), fun _ => c_nextFarm t ht (r.kc hM') ok ⟨by omega, ?_⟩⟩
      simp only [Int.toNat_natCast]
      rw [e2, hw _ hn, hw t ht, bit_tb hfr (by omega), ← inS_tb]
      -- inner loop
      have inn : ∀ m, m ≤ nM P → ∀ M2, KC M M2 → M2 101 = M 101 → M2 102 = M 102 → (∀ i, i < t → M2 103 i = (msk (fun m => wn P fr g (k + 1) m i) (nM P) : Nat)) → (∃ X : Nat, M2 103 t = (X : Int) ∧ X < 256 ∧ ∀ j, X.testBit j = (decide (j < nM P) && (wn P fr g k j t || (decide (j < m) && gst P fr (wn P fr g k) j t)))) → W0_widen_63 (d + 1) Φ (fr : Nat) (b2i (anyB (fun t => decide (msk (fun m => wn P fr g (k + 1) m t) (nM P) ≠ msk (fun m => wn P fr g k m t) (nM P))) t)) (t : Nat) (msk (fun j => wn P fr g k j (nxN P t)) (nM P) : Nat) (b2i (inS fr t)) (m : Nat) w M2 n := by
        refine up (fun M2 hM2 f1 f2 f3 hX => ?_) (fun m hm ih2 M2 hM2 f1 f2 f3 hX => ?_)
        · apply v0_widen_63
          obtain ⟨X, x1, x2, x3⟩ := hX
          have eX : X = msk (fun m => wn P fr g (k + 1) m t) (nM P) := by
            apply Nat.eq_of_testBit_eq
            intro j
            rw [x3 j, msk_tb]
            by_cases c : j < nM P
            · rw [decide_eq_true c, Bool.true_and, Bool.true_and, Bool.true_and]
              rfl
            · rw [decide_eq_false c, Bool.false_and, Bool.false_and]
          rw [(r.kc hM2).Mo, eM, w32_s (k := t) (by omega), Int.toNat_natCast, x1, f2, hw t ht, eX]
          have es : anyB (fun t => decide (msk (fun m => wn P fr g (k + 1) m t) (nM P) ≠ msk (fun m => wn P fr g k m t) (nM P))) (t + 1) = (anyB (fun t => decide (msk (fun m => wn P fr g (k + 1) m t) (nM P) ≠ msk (fun m => wn P fr g k m t) (nM P))) t || decide (msk (fun m => wn P fr g (k + 1) m t) (nM P) ≠ msk (fun m => wn P fr g k m t) (nM P))) := rfl
          have h3' : ∀ i, i < t + 1 → M2 103 i = (msk (fun m => wn P fr g (k + 1) m i) (nM P) : Nat) := by
            intro i hi
            by_cases c : i = t
            · rw [c, x1, eX]
            · exact f3 i (by omega)
          have ih' := ih M2 hM2 f1 f2 h3'
          rw [es] at ih'
          refine ⟨fun _ => ⟨by omega, by omega, fun c => ?_, fun c => ?_⟩, fun c => absurd (Int.le_refl _) c⟩
          · rw [decide_eq_false (by omega), Bool.or_false] at ih'
            rw [or_b2i0]
            exact ih'
          · rw [decide_eq_true (by omega), Bool.or_true] at ih'
            rw [or_b2i1]
            exact ih'
        · apply v0_widen_63
          obtain ⟨X, x1, x2, x3⟩ := hX
          have ei : w32 (w32 ((t : Int) * 8) + (m : Int)) = ((8 * t + m : Nat) : Int) := by
            rw [w32_id (x := (t : Int) * 8) (by omega) (by omega), w32_id (by omega) (by omega)]; omega
          rw [(r.kc hM2).Mo, eM, ei, Int.toNat_natCast, Int.toNat_natCast, f1, hl t m ht hm, w32_s (k := m) (by omega)]
          refine ⟨fun c => absurd c (by omega), fun _ => ⟨by omega, c_leadsInto m t fr (wn P fr g k) ⟨hm, ht⟩ ok ?_⟩⟩
          refine br (fun e => ?_) (fun e => ⟨by omega, ⟨by omega, by omega, trivial⟩, ?_⟩)
          · refine ih2 M2 hM2 f1 f2 f3 ⟨X, x1, x2, fun j => ?_⟩
            rw [x3 j]
            by_cases c : j = m
            · subst c
              rw [e, Bool.and_false, Bool.and_false]
            · rw [decide_eq_decide.mpr (show j < m ↔ j < m + 1 by omega)]
          · obtain ⟨e5, e6⟩ := or2_tb (s := X) (t := m) (by omega) x2
            rw [x1, e5]
            refine ih2 _ (hM2.trans (KC.set (by omega))) (by rw [sI_row (by omega)]; exact f1) (by rw [sI_row (by omega)]; exact f2) (fun i hi => by rw [sI_ne (by omega)]; exact f3 i hi) ⟨_, sI_same _ _ _ _, e6, fun j => ?_⟩
            rw [tb_or2, x3 j]
            by_cases c : j = m
            · subst c
              rw [e, decide_eq_true rfl, decide_eq_true hm, decide_eq_true (show j < j + 1 by omega), Bool.or_true, Bool.true_and, Bool.true_and, Bool.or_true]
            · rw [decide_eq_false (show ¬ (m = j) by omega), Bool.or_false, decide_eq_decide.mpr (show j < m ↔ j < m + 1 by omega)]
      have start : ∃ X : Nat, sI M' 103 t ((msk (fun m => wn P fr g k m t) (nM P) : Nat) : Int) 103 t = (X : Int) ∧ X < 256 ∧ ∀ j, X.testBit j = (decide (j < nM P) && (wn P fr g k j t || (decide (j < 0) && gst P fr (wn P fr g k) j t))) := by
        refine ⟨_, sI_same _ _ _ _, msk_lt8 _ hM2, fun j => ?_⟩
        rw [msk_tb, decide_eq_false (Nat.not_lt_zero j), Bool.false_and, Bool.or_false]
      have go := inn 0 (Nat.zero_le _) (sI M' 103 t ((msk (fun m => wn P fr g k m t) (nM P) : Nat) : Int)) (hM'.trans (KC.set (by omega))) (by rw [sI_row (by omega)]; exact e1) (by rw [sI_row (by omega)]; exact e2) (fun i hi => by rw [sI_ne (by omega)]; exact h3 i hi) start
      refine br (fun e => ⟨by omega, ⟨by omega, by omega, trivial⟩, ?_⟩) (fun e => ⟨by omega, ⟨by omega, by omega, trivial⟩, ?_⟩)
      · rw [e] at go; exact go
      · rw [e] at go; exact go
  exact e0_widen (key 0 (Nat.zero_le _) M (KC.refl M) rfl rfl (fun i hi => absurd hi (Nat.not_lt_zero i)))
theorem c_turns (f g fr : Nat) (hf : f < nF P) (hg : g < nM P) (hfr : fr < 256) (hl : lrn M P) (r : relW M P) (ok : okP P) (q : ∀ M', KC M M' → lrn M' P → (∀ N : Nat, frc P fr g (P (68 + f)).toNat (P 65).toNat = ((N + 1 : Nat) : Int) → wonK M' 102 P fr g N) → Φ (frc P fr g (P (68 + f)).toNat (P 65).toNat) M') : CF (d + 3) 2 [(2, 14), (0, (f : Int)), (0, (g : Int)), (0, (fr : Int))] w M n Φ := by
  obtain ⟨eF, hF1, hF2⟩ := ok.nFe
  obtain ⟨eM, hM1, hM2⟩ := ok.nMe
  have hat := ok.at (f := f) (by omega)
  have htn := ok.turn
  have hv : vl P (P (68 + f)).toNat (P 65).toNat := ⟨by omega, by omega⟩
  apply e0_turnsNeeded
  rw [Int.toNat_natCast, r.at (by omega), r.F, eF]
  refine ⟨by omega, fun c => ?_, fun c => ?_⟩
  · have hne : (P (68 + f)).toNat ≠ g := by omega
    have lp : ∀ j k, k + j = 64 → ∀ M', KC M M' → lrn M' P → wonK M' 102 P fr g k → wn P fr g k (P (68 + f)).toNat (P 65).toNat = false → W0_turnsNeeded_63 (d + 2) Φ (fr : Nat) (P (68 + f)) (nF P : Nat) ((k + 1 : Nat) : Int) w M' n := by
      intro j
      induction j with
      | zero =>
        intro k hk M' hM' hl' hw hno
        have e : k = 64 := by omega
        subst e
        refine v0_turnsNeeded_63 ⟨fun _ => ?_, fun c => absurd (by omega) c⟩
        have ef := frc_no hno
        have q' := q M' hM' hl' (fun N hN => absurd hN (by rw [ef]; omega))
        rw [ef] at q'
        exact q'
      | succ j ih =>
        intro k hk M' hM' hl' hw hno
        refine v0_turnsNeeded_63 ⟨fun c => absurd c (by omega), fun _ => c_widen fr g k hfr hl' hw (r.kc hM') ok (fun M2 h2 f1 f2 h3 => ?_)⟩
        have hK2 := hM'.trans h2
        have r2 := r.kc hK2
        have hl2 : lrn M2 P := fun t m ht hm => by rw [f1]; exact hl' t m ht hm
        have hw2 : wonK M2 102 P fr g k := fun t ht => by rw [f2]; exact hw t ht
        refine br' (fun e => ?_) (fun e => ?_)
        · rw [r2.turn, show P 65 = (((P 65).toNat : Nat) : Int) by omega, Int.toNat_natCast, h3 _ hv.2]
          refine ⟨by omega, ?_⟩
          have hs := msk_lt8 (fun m => wn P fr g (k + 1) m (P 65).toNat) hM2
          have eb := bit_tb (s := msk (fun m => wn P fr g (k + 1) m (P 65).toNat) (nM P)) (k := (P (68 + f)).toNat) (by omega) (by omega)
          rw [show (((P (68 + f)).toNat : Nat) : Int) = P (68 + f) by omega, msk_tb, decide_eq_true hv.1, Bool.true_and] at eb
          rw [eb]
          refine br (fun e4 => ⟨⟨by omega, by omega, by omega, by omega, by omega⟩, ?_⟩) (fun e4 => ?_)
          · rw [w32_s (by omega), Int.toNat_natCast]
            refine ih (k + 1) (by omega) _ (hK2.trans (fun a ha => cI_row (by omega))) (fun t m ht hm => by rw [cI_row (by omega)]; exact hl2 t m ht hm) (fun t ht => ?_) e4
            rw [cI_in ht]
            exact h3 t ht
          · have ef := frc_lt (P := P) (fr := fr) (g := g) e4 (fun i hi => ?_) (by omega)
            · have q' := q M2 hK2 hl2 (fun N hN => by
                rw [ef] at hN
                have : N = k := by omega
                rw [this]
                exact hw2)
              rw [ef] at q'
              exact q'
            · cases e5 : wn P fr g i (P (68 + f)).toNat (P 65).toNat with
              | false => rfl
              | true =>
                have := wn_le' e5 (show i ≤ k by omega)
                rw [hno] at this
                cases this
        · have hst : stb P fr g k := by
            intro m t hv'
            have e6 : msk (fun m => wn P fr g (k + 1) m t) (nM P) = msk (fun m => wn P fr g k m t) (nM P) := by
              apply Decidable.byContradiction
              intro hc
              rw [(anyB_iff _ _).mpr ⟨t, hv'.2, decide_eq_true hc⟩] at e
              cases e
            have e7 := congrArg (fun s => Nat.testBit s m) e6
            rw [msk_tb, msk_tb, decide_eq_true hv'.1, Bool.true_and, Bool.true_and] at e7
            exact e7
          have ef : frc P fr g (P (68 + f)).toNat (P 65).toNat = -1 := by
            apply frc_no
            have h8 := stb_all ok hst (64 - k) _ _ hv
            rw [show k + (64 - k) = 64 by omega] at h8
            rw [h8, hno]
          have q' := q M2 hK2 hl2 (fun N hN => absurd hN (by rw [ef]; omega))
          rw [ef] at q'
          exact q'
    have ini : ∀ t, t ≤ nF P → ∀ M', KC M M' → lrn M' P → (∀ i, i < t → M' 102 i = (msk (fun m => wn P fr g 0 m i) (nM P) : Nat)) → W0_turnsNeeded_37 (d + 2) Φ (g : Nat) (fr : Nat) (P (68 + f)) (nF P : Nat) (t : Nat) w M' n := by
      refine up (fun M' hM' hl' h1 => ?_) (fun t ht ih M' hM' hl' h1 => ?_)
      · refine v0_turnsNeeded_37 ⟨fun _ => lp 64 0 (by omega) M' hM' hl' h1 (decide_eq_false hne), fun c => absurd (Int.le_refl _) c⟩
      · apply v0_turnsNeeded_37
        rw [w32_s (by omega), Int.toNat_natCast, m_one (by omega)]
        refine ⟨fun c => absurd c (by omega), fun _ => ⟨⟨by omega, by omega, trivial⟩, ih _ (hM'.trans (KC.set (by omega))) (fun t' m ht' hm => by rw [sI_row (by omega)]; exact hl' t' m ht' hm) (fun i hi => ?_)⟩⟩
        rw [sI_if]
        by_cases c : i = t
        · rw [if_pos c]
          have e : 2 ^ g = msk (fun m => wn P fr g 0 m i) (nM P) := by
            apply Nat.eq_of_testBit_eq
            intro j
            rw [Nat.testBit_two_pow, msk_tb]
            show decide (g = j) = (decide (j < nM P) && decide (j = g))
            by_cases c2 : j = g
            · rw [decide_eq_true c2.symm, decide_eq_true c2, decide_eq_true (by omega)]; rfl
            · rw [decide_eq_false (fun z => c2 z.symm), decide_eq_false c2, Bool.and_false]
          rw [e]
        · rw [if_neg c]; exact h1 i (by omega)
    exact ini 0 (Nat.zero_le _) M (KC.refl M) hl (fun i hi => absurd hi (Nat.not_lt_zero i))
  · have e : (P (68 + f)).toNat = g := by omega
    have ef : frc P fr g (P (68 + f)).toNat (P 65).toNat = ((0 : Nat) : Int) := frc_lt (by rw [e]; exact wn_goal 0) (fun j hj => absurd hj (Nat.not_lt_zero j)) (by omega)
    have q' := q M (KC.refl M) hl (fun N hN => absurd hN (by rw [ef]; omega))
    rw [ef] at q'
    exact q'
theorem c_forces (f m : Int) (r : relW M P) (ok : okP P) (q : ∀ M', KC M M' → Φ (zForces P f m) M') : CF (d + 5) 152 [(2, 1), (0, f), (0, m)] w M n Φ := by
  obtain ⟨eF, hF1, hF2⟩ := ok.nFe
  obtain ⟨eM, hM1, hM2⟩ := ok.nMe
  unfold zForces at q
  have no : ¬ ((0 ≤ f ∧ f < P 1) ∧ 0 ≤ m ∧ m < P 2) → Φ (-2) M := fun c => by
    rw [if_neg c] at q
    exact q M (KC.refl M)
  refine e11_forces (c_isFarm f r (br (fun e => no (fun z => of_decide_eq_false e z.1)) (fun e => c_isMoment m r (br' (fun e2 => ?_) (fun e2 => no (fun z => of_decide_eq_false e2 z.2))))))
  have e := of_decide_eq_true e
  have e2 := of_decide_eq_true e2
  rw [if_pos ⟨e, e2⟩] at q
  have h28 := p2_8 f.toNat (by omega)
  refine c_learn r ok (fun M1 h1 hl => ?_)
  rw [show f = (f.toNat : Int) by omega, show m = (m.toNat : Int) by omega, m_one (by omega)]
  exact c_turns _ _ _ (by omega) (by omega) (by omega) hl (r.kc h1) ok (fun M' h2 _ _ => q M' (h1.trans h2))
theorem c_power (f : Int) (r : relW M P) (ok : okP P) (q : ∀ M', KC M M' → Φ (zPower P f) M') : CF (d + 5) 153 [(2, 1), (0, f)] w M n Φ := by
  obtain ⟨eF, hF1, hF2⟩ := ok.nFe
  obtain ⟨eM, hM1, hM2⟩ := ok.nMe
  unfold zPower at q
  refine e11_power (c_isFarm f r (br' (fun e => ?_) (fun e => ?_)))
  · have e := of_decide_eq_true e
    rw [if_pos e] at q
    rw [show f = (f.toNat : Int) by omega]
    have hf : f.toNat < nF P := by omega
    generalize f.toNat = a at q hf ⊢
    have h28 := p2_8 a (by omega)
    refine c_learn r ok (fun M1 h1 hl => ?_)
    have key : ∀ m, m ≤ nM P → ∀ M', KC M M' → lrn M' P → W11_power_25 (d + 4) Φ (a : Nat) (msk (pwT P a) m : Nat) (m : Nat) w M' n := by
      refine up (fun M' hq _ => ?_) (fun m hm ih M' hq hl' => ?_)
      · apply v11_power_25
        rw [(r.kc hq).Mo, eM]
        exact ⟨fun _ => q M' hq, fun c => absurd (Int.le_refl _) c⟩
      · apply v11_power_25
        rw [(r.kc hq).Mo, eM, m_one (k := a) (by omega), w32_s (by omega)]
        refine ⟨fun c => absurd c (by omega), fun _ => c_turns a m (2 ^ a) hf hm (by omega) hl' (r.kc hq) ok (fun M2 h2 hl2 _ => ⟨fun c => ?_, fun c => ?_⟩)⟩
        · rw [← msk_no (pwT P a) (by unfold pwT; rw [decide_eq_false_iff_not]; omega)]; exact ih M2 (hq.trans h2) hl2
        · rw [or_s (pwT P a) (by omega) (by unfold pwT; rw [decide_eq_true_eq]; exact c)]; exact ih M2 (hq.trans h2) hl2
    exact key 0 (Nat.zero_le _) M1 h1 hl
  · have e := of_decide_eq_false e
    rw [if_neg e] at q
    exact q M (KC.refl M)
theorem c_best (f m : Int) (r : relW M P) (ok : okP P) (q : ∀ M', KC M M' → Φ (zBest P f m) M') : CF (d + 6) 154 [(2, 1), (0, f), (0, m)] w M n Φ := by
  obtain ⟨eF, hF1, hF2⟩ := ok.nFe
  obtain ⟨eM, hM1, hM2⟩ := ok.nMe
  obtain ⟨eB, hB⟩ := ok.nBe
  unfold zBest at q
  have no : ¬ ((0 ≤ f ∧ f < P 1) ∧ 0 ≤ m ∧ m < P 2) → Φ (-2) M := fun c => by
    rw [if_neg c] at q
    exact q M (KC.refl M)
  apply e11_best
  refine c_isFarm f r (br (fun e => no (fun z => of_decide_eq_false e z.1)) (fun e => c_isMoment m r (br' (fun e2 => ?_) (fun e2 => no (fun z => of_decide_eq_false e2 z.2)))))
  rw [r.turn]
  have e := of_decide_eq_true e
  have e2 := of_decide_eq_true e2
  rw [if_pos ⟨e, e2⟩] at q
  refine ⟨fun c => ?_, fun c => ?_⟩
  · rw [if_pos c] at q
    refine c_learn r ok (fun M1 h1 hl => ?_)
    have h28 := p2_8 f.toNat (by omega)
    have hat := ok.at (f := f.toNat) (by omega)
    rw [show f = (f.toNat : Int) by omega, show m = (m.toNat : Int) by omega]
    have ht : (P 65).toNat = f.toNat := by omega
    rw [ht] at q
    have hf : f.toNat < nF P := by omega
    have hm : m.toNat < nM P := by omega
    generalize f.toNat = a at q hf h28 hat ht ⊢
    generalize m.toNat = b at q hm ⊢
    apply e0_firstBest
    rw [m_one (by omega)]
    refine c_turns a b (2 ^ a) hf hm (by omega) hl (r.kc h1) ok (fun M2 h2 hl2 hw => ?_)
    rw [ht] at hw ⊢
    have hk2 := h1.trans h2
    have r2 := r.kc hk2
    refine ⟨fun c1 => ?_, fun c1 => ?_⟩
    · rw [if_pos (by omega)] at q
      obtain ⟨N, hN⟩ : ∃ N : Nat, frc P (2 ^ a) b (P (68 + a)).toNat a = ((N + 1 : Nat) : Int) := ⟨(frc P (2 ^ a) b (P (68 + a)).toNat a - 1).toNat, by omega⟩
      rw [hN] at q
      have eN : (((N + 1 : Nat) : Int) - 1).toNat = N := by omega
      rw [eN] at q
      have hn := nxN_lt ok hf
      refine c_nextFarm a hf r2 ok ⟨by omega, ?_⟩
      simp only [Int.toNat_natCast]
      rw [hw N hN _ hn]
      refine sp_allowedBits a r2 ok (by omega) (fun M3 h3 => ⟨by omega, ?_⟩)
      have r3 := r2.q h3
      have hk3 := hk2.trans (KC.of43 h3)
      rw [r3.at (by omega)]
      refine sp_bitsFrom _ r3 ok ?_
      have l1 := msk_lt12 (fun b => mayT P a b) hB
      have l2 := msk_lt12 (fun b => decide (P (13 + b) = P (68 + a))) hB
      have e3 : m_and (mayS P a : Nat) (fromS P (P (68 + a)) : Nat) = ((canS P a : Nat) : Int) := by
        rw [← canS_eq]
        exact m_and_n (Nat.lt_trans l1 (by omega)) (Nat.lt_trans l2 (by omega))
      rw [e3]
      have hcs := canS_lt ok a
      have q' := q M3 hk3
      obtain ⟨f1, f2, f3⟩ := fstB_all (bsT P a b N) (nB P)
      have hs := msk_lt8 (fun j => wn P (2 ^ a) b N j (nxN P a)) hM2
      have one : ∀ k, k < nB P → (bsT P a b N k = false → W0_firstBest_68 (d + 4) Φ (msk (fun j => wn P (2 ^ a) b N j (nxN P a)) (nM P) : Nat) (canS P a : Nat) ((k + 1 : Nat) : Int) w M3 n) → (bsT P a b N k = true → Φ (k : Nat) M3) → W0_firstBest_68 (d + 4) Φ (msk (fun j => wn P (2 ^ a) b N j (nxN P a)) (nM P) : Nat) (canS P a : Nat) (k : Nat) w M3 n := by
        intro k hk hno hyes
        apply v0_firstBest_68
        have hbt := ok.bit (b := k) (by omega)
        have hto : toN P k < nM P := by unfold toN; omega
        have e0 : canS P a / 2 ^ k % 2 = if canT P a k then 1 else 0 := msk_bit _ _ _ hk
        rw [r3.B, eB, m_bit (a := canS P a) (by omega) (by omega), e0, w32_s (by omega), Int.toNat_natCast, r3.to (by omega), show P (25 + k) = ((toN P k : Nat) : Int) by unfold toN; omega, bit_tb hs (by omega), msk_tb, decide_eq_true hto, Bool.true_and]
        refine ⟨fun c => absurd c (by omega), fun _ => ?_⟩
        cases ec : canT P a k with
        | false => exact ⟨fun _ => hno (by unfold bsT; rw [ec]; rfl), fun c => absurd rfl c⟩
        | true =>
          refine ⟨fun c => absurd c (by decide), fun _ => ⟨by omega, br (fun e5 => hno ?_) (fun e5 => hyes ?_)⟩⟩
          · unfold bsT; rw [ec, e5]; rfl
          · unfold bsT; rw [ec, e5]; rfl
      have key : ∀ k, k ≤ fstB (bsT P a b N) (nB P) → W0_firstBest_68 (d + 4) Φ (msk (fun j => wn P (2 ^ a) b N j (nxN P a)) (nM P) : Nat) (canS P a : Nat) (k : Nat) w M3 n := by
        generalize fstB (bsT P a b N) (nB P) = x at q' f1 f2 f3
        refine up ?_ (fun k hk ih => ?_)
        · by_cases cx : x < nB P
          · rw [if_pos cx] at q'
            exact one x cx (fun z => by rw [f2 cx] at z; cases z) (fun _ => q')
          · rw [if_neg cx] at q'
            apply v0_firstBest_68
            rw [r3.B, eB]
            exact ⟨fun _ => q', fun c => absurd (by omega) c⟩
        · exact one k (by omega) (fun _ => ih) (fun z => by rw [f3 k hk] at z; cases z)
      exact key 0 (Nat.zero_le _)
    · rw [if_neg (by omega)] at q
      exact q M2 hk2
  · rw [if_neg c] at q
    exact q M (KC.refl M)
theorem c_ally (f m : Int) (r : relW M P) (ok : okP P) (q : ∀ M', KC M M' → Φ (zAlly P f m) M') : CF (d + 5) 155 [(2, 1), (0, f), (0, m)] w M n Φ := by
  obtain ⟨eF, hF1, hF2⟩ := ok.nFe
  obtain ⟨eM, hM1, hM2⟩ := ok.nMe
  unfold zAlly at q
  have no : ¬ ((0 ≤ f ∧ f < P 1) ∧ 0 ≤ m ∧ m < P 2) → Φ (-2) M := fun c => by
    rw [if_neg c] at q
    exact q M (KC.refl M)
  refine e11_ally (c_isFarm f r (br (fun e => no (fun z => of_decide_eq_false e z.1)) (fun e => c_isMoment m r (br' (fun e2 => ?_) (fun e2 => no (fun z => of_decide_eq_false e2 z.2))))))
  have e := of_decide_eq_true e
  have e2 := of_decide_eq_true e2
  rw [if_pos ⟨e, e2⟩] at q
  refine c_learn r ok (fun M1 h1 hl => ?_)
  have h28 := p2_8 f.toNat (by omega)
  rw [show f = (f.toNat : Int) by omega, show m = (m.toNat : Int) by omega, m_one (by omega)]
  have hf : f.toNat < nF P := by omega
  have hm : m.toNat < nM P := by omega
  generalize f.toNat = a at q hf h28 ⊢
  generalize m.toNat = b at q hm ⊢
  refine c_turns a b (2 ^ a) hf hm (by omega) hl (r.kc h1) ok (fun M2 h2 hl2 _ => ⟨fun c => ?_, fun c => ?_⟩)
  · rw [if_pos c] at q
    obtain ⟨f1, f2, f3⟩ := fstB_all (alT P a b) (nF P)
    have one : ∀ k M', k < nF P → KC M M' → lrn M' P → (alT P a b k = false → ∀ M2, KC M M2 → lrn M2 P → W11_ally_52 (d + 4) Φ (a : Nat) (b : Nat) ((k + 1 : Nat) : Int) w M2 n) → (alT P a b k = true → ∀ M2, KC M M2 → Φ (k : Nat) M2) → W11_ally_52 (d + 4) Φ (a : Nat) (b : Nat) (k : Nat) w M' n := by
      intro k M' hk hq hl' hno hyes
      apply v11_ally_52
      have h28k := p2_8 k (by omega)
      have hor : 2 ^ a ||| 2 ^ k < 256 := Nat.or_lt_two_pow (n := 8) (by omega) (by omega)
      rw [(r.kc hq).F, eF, m_one (k := a) (by omega), m_one (k := k) (by omega), m_or_n (by omega) (by omega), w32_s (by omega)]
      refine ⟨fun c => absurd c (by omega), fun _ => ⟨fun c2 => hno ?_ M' hq hl', fun c2 => c_turns a b _ hf hm hor hl' (r.kc hq) ok (fun M2 h2 hl2 _ => ⟨fun c3 => hno ?_ M2 (hq.trans h2) hl2, fun c3 => hyes ?_ M2 (hq.trans h2)⟩)⟩⟩
      · unfold alT; rw [decide_eq_false_iff_not]; omega
      · unfold alT; rw [decide_eq_false_iff_not]; omega
      · unfold alT; rw [decide_eq_true_eq]; exact ⟨by omega, c3⟩
    have key : ∀ k, k ≤ fstB (alT P a b) (nF P) → ∀ M', KC M M' → lrn M' P → W11_ally_52 (d + 4) Φ (a : Nat) (b : Nat) (k : Nat) w M' n := by
      generalize fstB (alT P a b) (nF P) = x at q f1 f2 f3
      refine up (fun M' hq hl' => ?_) (fun k hk ih M' hq hl' => ?_)
      · by_cases cx : x < nF P
        · rw [if_pos cx] at q
          exact one x M' cx hq hl' (fun z => by rw [f2 cx] at z; cases z) (fun _ M2 hq2 => q M2 hq2)
        · rw [if_neg cx] at q
          apply v11_ally_52
          rw [(r.kc hq).F, eF]
          exact ⟨fun _ => q M' hq, fun c => absurd (by omega) c⟩
      · exact one k M' (by omega) hq hl' (fun _ M2 hq2 hl2 => ih M2 hq2 hl2) (fun z => by rw [f3 k hk] at z; cases z)
    exact key 0 (Nat.zero_le _) M2 (h1.trans h2) hl2
  · rw [if_neg c] at q
    exact q M2 (h1.trans h2)
end
