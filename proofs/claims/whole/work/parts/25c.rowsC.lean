/-! ===== rows of bits and of farms: the class (variants printed by wip/whole/gen25c.py) ===== -/
def okR (p : Nat × Nat) : Prop := p = (105, 106) ∨ p = (106, 105)
def okY (p : Nat × Nat) : Prop := p = (99, 100) ∨ p = (100, 99)
def wRow (w : cQ) (p : Nat × Nat) : cQ := (w.1, w.2.1, w.2.2.1, p, w.2.2.2.2)
def wWay (w : cQ) (p : Nat × Nat) : cQ := (w.1, w.2.1, p, w.2.2.2)
theorem stN_pos {P : Nat → Int} {sel : Nat → Bool} {v : Nat → Nat} {j : Nat} : ∀ b, 0 < stN P sel v b j ↔ ∃ i, i < b ∧ sel i = true ∧ 0 < v (frN P i) ∧ j = toN P i
  | 0 => ⟨fun h => absurd h (Nat.lt_irrefl 0), fun ⟨i, h, _⟩ => absurd h (Nat.not_lt_zero i)⟩
  | b + 1 => by
    have ih := stN_pos (P := P) (sel := sel) (v := v) (j := j) b
    show 0 < (if sel b = true then (fun j => if j = toN P b then stN P sel v b j + v (frN P b) else stN P sel v b j) else stN P sel v b) j ↔ _
    by_cases c : sel b = true
    · rw [if_pos c]
      show 0 < (if j = toN P b then stN P sel v b j + v (frN P b) else stN P sel v b j) ↔ _
      by_cases c2 : j = toN P b
      · rw [if_pos c2]
        constructor
        · intro h
          by_cases c3 : 0 < v (frN P b)
          · exact ⟨b, by omega, c, c3, c2⟩
          · obtain ⟨i, h1, h2⟩ := ih.mp (by omega)
            exact ⟨i, by omega, h2⟩
        · rintro ⟨i, h1, h2, h3, h4⟩
          by_cases e : i = b
          · subst e; omega
          · have := ih.mpr ⟨i, by omega, h2, h3, h4⟩; omega
      · rw [if_neg c2, ih]
        constructor
        · rintro ⟨i, h1, h2⟩; exact ⟨i, by omega, h2⟩
        · rintro ⟨i, h1, h2, h3, h4⟩
          by_cases e : i = b
          · subst e; exact absurd h4 c2
          · exact ⟨i, by omega, h2, h3, h4⟩
    · rw [if_neg c, ih]
      constructor
      · rintro ⟨i, h1, h2⟩; exact ⟨i, by omega, h2⟩
      · rintro ⟨i, h1, h2, h3, h4⟩
        by_cases e : i = b
        · subst e; exact absurd h2 c
        · exact ⟨i, by omega, h2, h3, h4⟩
theorem bkN_pos {P : Nat → Int} {sel : Nat → Bool} {U : Nat → Nat} {j : Nat} : ∀ b, 0 < bkN P sel U j b ↔ ∃ i, i < b ∧ sel i = true ∧ 0 < U (toN P i) ∧ j = frN P i
  | 0 => ⟨fun h => absurd h (Nat.lt_irrefl 0), fun ⟨i, h, _⟩ => absurd h (Nat.not_lt_zero i)⟩
  | b + 1 => by
    have ih := bkN_pos (P := P) (sel := sel) (U := U) (j := j) b
    show 0 < bkN P sel U j b + (if sel b = true ∧ frN P b = j then U (toN P b) else 0) ↔ _
    by_cases c : sel b = true ∧ frN P b = j
    · rw [if_pos c]
      constructor
      · intro h
        by_cases c3 : 0 < U (toN P b)
        · exact ⟨b, by omega, c.1, c3, c.2.symm⟩
        · obtain ⟨i, h1, h2⟩ := ih.mp (by omega)
          exact ⟨i, by omega, h2⟩
      · rintro ⟨i, h1, h2, h3, h4⟩
        by_cases e : i = b
        · subst e; omega
        · have := ih.mpr ⟨i, by omega, h2, h3, h4⟩; omega
    · rw [if_neg c, Nat.add_zero, ih]
      constructor
      · rintro ⟨i, h1, h2⟩; exact ⟨i, by omega, h2⟩
      · rintro ⟨i, h1, h2, h3, h4⟩
        by_cases e : i = b
        · subst e; exact absurd ⟨h2, h4.symm⟩ c
        · exact ⟨i, by omega, h2, h3, h4⟩
theorem m_and_comm (x y : Int) : m_and x y = m_and y x := by
  rw [m_and_eq, m_and_eq]
  congr 1
  apply Int32.toBitVec_inj.1
  exact BitVec.and_comm _ _
def ntzN (v : Nat) : Nat := if v ≤ 256 then (if v ≤ 16 then (if v ≤ 4 then 1 + v / 2 else 3 + v / 4 / 2) else if v / 16 ≤ 4 then 5 + v / 16 / 2 else 7 + v / 16 / 4 / 2) else if v / 256 ≤ 4 then 9 + v / 256 / 2 else 11 + v / 256 / 4 / 2
theorem ntz_all : ∀ b, b < 12 → 1 ≤ b → ntzN (2 ^ b - 1) = b ∧ (2 ^ b - 1) ^^^ ((2 ^ b - 1) &&& 2 ^ b) = 2 ^ b - 1 ∧ 1 ≤ 2 ^ b - 1 ∧ 2 ^ b - 1 < 4096 := by decide
section
variable {d : Nat} {n : Nat × Nat} {Φ : Int → (Nat → Nat → Int) → Prop} {Ψ : Int → cQ → (Nat → Nat → Int) → Nat × Nat → Prop} {M : Nat → Nat → Int} {w : cQ} {P S Z U : Nat → Int}
theorem c_ntz (b : Nat) (hb : b < 12) (q : Φ (b : Nat) M) : CF (d + 1) 317 [(0, ((2 ^ b : Nat) : Int))] w M n Φ := by
  apply eJ_numberOfTrailingZeros
  have h12 : ∀ b, b < 12 → 1 ≤ 2 ^ b ∧ 2 ^ b ≤ 2048 := by decide
  have hb2 := h12 b hb
  have e0 : w32 (((2 ^ b : Nat) : Int) - 1) = ((2 ^ b - 1 : Nat) : Int) := by rw [w32_eq]; omega
  rw [e0, m_and_comm, m_andnot (by omega) (by omega)]
  by_cases c : b = 0
  · subst c
    refine ⟨fun h => ?_, fun _ => ?_⟩
    · exact absurd h (by decide)
    · have : m_and (((2 ^ 0 - 1) ^^^ ((2 ^ 0 - 1) &&& 2 ^ 0) : Nat) : Int) 32 = ((0 : Nat) : Int) := by
        have := m_and_n (a := (2 ^ 0 - 1) ^^^ ((2 ^ 0 - 1) &&& 2 ^ 0)) (b := 32) (by decide) (by decide)
        exact this
      rw [this]
      exact q
  · obtain ⟨a1, a2, a3, a4⟩ := ntz_all b hb (by omega)
    rw [a2]
    rw [← a1] at q
    generalize 2 ^ b - 1 = v at q a3 a4 ⊢
    have u : ∀ (x k : Nat), x < 4096 → k < 32 → m_ushr (x : Int) (k : Int) = ((x / 2 ^ k : Nat) : Int) := fun x k h1 h2 => m_ushr_n (by omega) h2
    have u1 := u v 1 (by omega) (by omega)
    have u2 := u v 2 (by omega) (by omega)
    have u4 := u v 4 (by omega) (by omega)
    have u8 := u v 8 (by omega) (by omega)
    rw [show ((1 : Nat) : Int) = 1 from rfl] at u1
    rw [show ((2 : Nat) : Int) = 2 from rfl] at u2
    rw [show ((4 : Nat) : Int) = 4 from rfl] at u4
    rw [show ((8 : Nat) : Int) = 8 from rfl] at u8
    rw [u1, u2, u4, u8]
    have u21 := u (v / 2 ^ 2) 1 (by omega) (by omega)
    have u41 := u (v / 2 ^ 4) 1 (by omega) (by omega)
    have u42 := u (v / 2 ^ 4) 2 (by omega) (by omega)
    have u81 := u (v / 2 ^ 8) 1 (by omega) (by omega)
    have u82 := u (v / 2 ^ 8) 2 (by omega) (by omega)
    rw [show ((1 : Nat) : Int) = 1 from rfl] at u21 u41 u81
    rw [show ((2 : Nat) : Int) = 2 from rfl] at u42 u82
    rw [u21, u41, u42, u81, u82]
    have u421 := u (v / 2 ^ 4 / 2 ^ 2) 1 (by omega) (by omega)
    have u821 := u (v / 2 ^ 8 / 2 ^ 2) 1 (by omega) (by omega)
    rw [show ((1 : Nat) : Int) = 1 from rfl] at u421 u821
    rw [u421, u821]
    unfold ntzN at q
    have wk : ∀ x y : Int, 0 ≤ x → 0 ≤ y → x < 100000 → y < 100000 → w32 (x + y) = x + y := fun x y _ _ _ _ => by rw [w32_id] <;> omega
    refine ⟨fun _ => ⟨fun _ => ⟨fun c1 => ⟨fun c2 => ⟨fun c3 => ?_, fun c3 => ?_⟩, fun c2 => ⟨fun c3 => ?_, fun c3 => ?_⟩⟩, fun c1 => ⟨fun c2 => ⟨fun c3 => ?_, fun c3 => ?_⟩, fun c2 => absurd (by omega) c2⟩⟩, fun h => absurd (by omega) h⟩, fun h => absurd (by omega) h⟩
    · rw [if_pos (by omega), if_pos (by omega), if_pos (by omega)] at q
      have e : w32 (1 + ((v / 2 ^ 1 : Nat) : Int)) = ((1 + v / 2 : Nat) : Int) := by rw [wk _ _ (by omega) (by omega) (by omega) (by omega)]; omega
      rw [e]; exact q
    · rw [if_pos (by omega), if_pos (by omega), if_neg (by omega)] at q
      have e : w32 (w32 (1 + 2) + ((v / 2 ^ 2 / 2 ^ 1 : Nat) : Int)) = ((3 + v / 4 / 2 : Nat) : Int) := by rw [wk 1 2 (by omega) (by omega) (by omega) (by omega), wk _ _ (by omega) (by omega) (by omega) (by omega)]; omega
      rw [e]; exact q
    · rw [if_pos (by omega), if_neg (by omega), if_pos (by omega)] at q
      have e : w32 (w32 (1 + 4) + ((v / 2 ^ 4 / 2 ^ 1 : Nat) : Int)) = ((5 + v / 16 / 2 : Nat) : Int) := by rw [wk 1 4 (by omega) (by omega) (by omega) (by omega), wk _ _ (by omega) (by omega) (by omega) (by omega)]; omega
      rw [e]; exact q
    · rw [if_pos (by omega), if_neg (by omega), if_neg (by omega)] at q
      have e : w32 (w32 (w32 (1 + 4) + 2) + ((v / 2 ^ 4 / 2 ^ 2 / 2 ^ 1 : Nat) : Int)) = ((7 + v / 16 / 4 / 2 : Nat) : Int) := by rw [wk 1 4 (by omega) (by omega) (by omega) (by omega), wk _ 2 (by omega) (by omega) (by omega) (by omega), wk _ _ (by omega) (by omega) (by omega) (by omega)]; omega
      rw [e]; exact q
    · rw [if_neg (by omega), if_pos (by omega)] at q
      have e : w32 (w32 (1 + 8) + ((v / 2 ^ 8 / 2 ^ 1 : Nat) : Int)) = ((9 + v / 256 / 2 : Nat) : Int) := by rw [wk 1 8 (by omega) (by omega) (by omega) (by omega), wk _ _ (by omega) (by omega) (by omega) (by omega)]; omega
      rw [e]; exact q
    · rw [if_neg (by omega), if_neg (by omega)] at q
      have e : w32 (w32 (w32 (1 + 8) + 2) + ((v / 2 ^ 8 / 2 ^ 2 / 2 ^ 1 : Nat) : Int)) = ((11 + v / 256 / 4 / 2 : Nat) : Int) := by rw [wk 1 8 (by omega) (by omega) (by omega) (by omega), wk _ 2 (by omega) (by omega) (by omega) (by omega), wk _ _ (by omega) (by omega) (by omega) (by omega)]; omega
      rw [e]; exact q
theorem useS_bit {b : Nat} (hb : b < nB P) : useS P / 2 ^ b % 2 = if useT P b then 1 else 0 := msk_bit _ _ _ hb

theorem c_howManyA {w0 w1 : Nat} {wb : (Nat × Nat) × (Nat × Nat) × (Bool × Bool) × (Nat → Bool) × (Nat → Nat)} (fr to x : Nat) (hfr : fr < 8) (hto : to < 8) (hx : x ≤ 15) (r : relW M P) (ok : okP P) (q : ∀ p M', okY p → KC M M' → Ψ (rwG P (fun _ => useT P) fr x to : Nat) (w0, w1, p, wb) M' n) : CW (d + 5) 80 [(2, 13), (0, (fr : Int)), (0, (to : Int)), (0, (x : Int))] (w0, w1, (99, 100), wb) M n Ψ := by
  obtain ⟨eB, hB12⟩ := ok.nBe
  have hMo := ok.Mo
  have hus := useS_lt ok
  refine e9_howManyA (sp_tellableBits r ok (fun M1 h1 => ?_))
  have key : ∀ j k, k + j = x → (∀ M', KC M1 M' → (∀ i, i < 8 → M' 99 i = ((rwG P (fun _ => useT P) fr k i : Nat) : Int)) → W9_howManyA_55 (d + 4) Ψ (to : Nat) (x : Nat) (useS P : Nat) (k : Nat) (w0, w1, (99, 100), wb) M' n) ∧ (∀ M', KC M1 M' → (∀ i, i < 8 → M' 100 i = ((rwG P (fun _ => useT P) fr k i : Nat) : Int)) → W9_howManyA_55x2 (d + 4) Ψ (to : Nat) (x : Nat) (useS P : Nat) (k : Nat) (w0, w1, (100, 99), wb) M' n) := by
    intro j
    induction j with
    | zero =>
      intro k hk
      have ek : k = x := by omega
      subst ek
      refine ⟨fun M' hM' h8 => v9_howManyA_55 ⟨fun _ => ⟨by omega, ?_⟩, fun c => absurd (Int.le_refl _) c⟩, fun M' hM' h8 => v9_howManyA_55x2 ⟨fun _ => ⟨by omega, ?_⟩, fun c => absurd (Int.le_refl _) c⟩⟩
      · rw [Int.toNat_natCast, h8 to hto]
        exact q _ M' (Or.inl rfl) ((KC.of43 h1).trans hM')
      · rw [Int.toNat_natCast, h8 to hto]
        exact q _ M' (Or.inr rfl) ((KC.of43 h1).trans hM')
    | succ j ih =>
      intro k hk
      obtain ⟨ih1, ih2⟩ := ih (k + 1) (by omega)
      have hp := p12 k (by omega)
      refine ⟨?_, ?_⟩
      · intro M' hM' h8
        refine v9_howManyA_55 ⟨fun c => absurd c (by omega), fun _ => ?_⟩
        have b2 : ∀ b, b ≤ nB P → ∀ M2, KC M1 M2 → (∀ i, i < 8 → M2 99 i = ((rwG P (fun _ => useT P) fr k i : Nat) : Int)) → (∀ i, i < 8 → M2 100 i = ((stN P (useT P) (rwG P (fun _ => useT P) fr k) b i : Nat) : Int)) → W9_howManyA_88 (d + 4) Ψ (to : Nat) (x : Nat) (useS P : Nat) (k : Nat) (b : Nat) (w0, w1, (99, 100), wb) M2 n := by
          refine up (fun M2 hM2 g1 g2 => ?_) (fun b hb ih3 M2 hM2 g1 g2 => ?_)
          · apply v9_howManyA_88
            have r2 := r.kc ((KC.of43 h1).trans hM2)
            rw [r2.B, eB, w32_s (by omega)]
            exact ⟨fun _ => ih2 M2 hM2 g2, fun c => absurd (Int.le_refl _) c⟩
          · apply v9_howManyA_88
            have r2 := r.kc ((KC.of43 h1).trans hM2)
            have hbt := ok.bit (b := b) (by omega)
            have es : stN P (useT P) (rwG P (fun _ => useT P) fr k) (b + 1) = if useT P b = true then (fun j => if j = toN P b then stN P (useT P) (rwG P (fun _ => useT P) fr k) b j + rwG P (fun _ => useT P) fr k (frN P b) else stN P (useT P) (rwG P (fun _ => useT P) fr k) b j) else stN P (useT P) (rwG P (fun _ => useT P) fr k) b := rfl
            rw [r2.B, eB, m_bit (by omega) (by omega), useS_bit hb, w32_s (k := b) (by omega)]
            simp only [Int.toNat_natCast]
            rw [r2.to (by omega), r2.from (by omega)]
            refine ⟨fun c => absurd c (by omega), fun _ => ⟨fun c => ?_, fun c => ⟨by omega, by omega, by omega, by omega, ⟨by omega, by omega, trivial⟩, ?_⟩⟩⟩
            · have e3 : ¬ (useT P b = true) := fun e => by rw [if_pos e] at c; omega
              rw [if_neg e3] at es
              exact ih3 M2 hM2 g1 (by rw [es]; exact g2)
            · have e3 : useT P b = true := by
                cases e4 : useT P b with
                | true => rfl
                | false => rw [e4] at c; exact absurd rfl c
              have hfr' : frN P b < 8 := by unfold frN; omega
              have hto' : toN P b < 8 := by unfold toN; omega
              have l1 := stN_le (P := P) (sel := useT P) (rwG_le ok (fun _ => useT P) fr k) b (toN P b)
              have l2 := rwG_le ok (fun _ => useT P) fr k (frN P b)
              have l3 : b * 12 ^ k ≤ 12 * 12 ^ k := Nat.mul_le_mul_right _ (by omega)
              have e1 : M2 100 (P (25 + b)).toNat = ((stN P (useT P) (rwG P (fun _ => useT P) fr k) b (toN P b) : Nat) : Int) := g2 _ hto'
              have e2 : M2 99 (P (13 + b)).toNat = ((rwG P (fun _ => useT P) fr k (frN P b) : Nat) : Int) := g1 _ hfr'
              rw [e1, e2, w64_id (by omega) (by omega)]
              refine ih3 _ (hM2.trans (KC.set (by omega))) (fun i hi => by rw [sI_row (by omega)]; exact g1 i hi) (fun i hi => ?_)
              rw [sI_if, es, if_pos e3]
              by_cases c4 : i = toN P b
              · have c5 : i = (P (25 + b)).toNat := c4
                rw [if_pos c5, if_pos c4, c4]; omega
              · have c5 : ¬ (i = (P (25 + b)).toNat) := c4
                rw [if_neg c5, if_neg c4]; exact g2 i hi
        have b1 : ∀ m, m ≤ 8 → ∀ M2, KC M1 M2 → (∀ i, i < 8 → M2 99 i = ((rwG P (fun _ => useT P) fr k i : Nat) : Int)) → (∀ i, i < m → M2 100 i = 0) → W9_howManyA_64 (d + 4) Ψ (to : Nat) (x : Nat) (useS P : Nat) (k : Nat) (m : Nat) (w0, w1, (99, 100), wb) M2 n := by
          refine up (fun M2 hM2 g1 g2 => ?_) (fun m hm ih3 M2 hM2 g1 g2 => ?_)
          · exact v9_howManyA_64 ⟨fun _ => b2 0 (Nat.zero_le _) M2 hM2 g1 g2, fun c => absurd (by decide) c⟩
          · apply v9_howManyA_64
            rw [w32_s (k := m) (by omega), Int.toNat_natCast]
            refine ⟨fun c => absurd c (by omega), fun _ => ⟨⟨by omega, by omega, trivial⟩, ih3 _ (hM2.trans (KC.set (by omega))) (fun i hi => by rw [sI_row (by omega)]; exact g1 i hi) (fun i hi => ?_)⟩⟩
            rw [sI_if]
            by_cases e : i = m
            · rw [if_pos e]
            · rw [if_neg e]; exact g2 i (by omega)
        exact b1 0 (Nat.zero_le _) M' hM' h8 (fun i hi => absurd hi (Nat.not_lt_zero i))
      · intro M' hM' h8
        refine v9_howManyA_55x2 ⟨fun c => absurd c (by omega), fun _ => ?_⟩
        have b2 : ∀ b, b ≤ nB P → ∀ M2, KC M1 M2 → (∀ i, i < 8 → M2 100 i = ((rwG P (fun _ => useT P) fr k i : Nat) : Int)) → (∀ i, i < 8 → M2 99 i = ((stN P (useT P) (rwG P (fun _ => useT P) fr k) b i : Nat) : Int)) → W9_howManyA_88x2 (d + 4) Ψ (to : Nat) (x : Nat) (useS P : Nat) (k : Nat) (b : Nat) (w0, w1, (100, 99), wb) M2 n := by
          refine up (fun M2 hM2 g1 g2 => ?_) (fun b hb ih3 M2 hM2 g1 g2 => ?_)
          · apply v9_howManyA_88x2
            have r2 := r.kc ((KC.of43 h1).trans hM2)
            rw [r2.B, eB, w32_s (by omega)]
            exact ⟨fun _ => ih1 M2 hM2 g2, fun c => absurd (Int.le_refl _) c⟩
          · apply v9_howManyA_88x2
            have r2 := r.kc ((KC.of43 h1).trans hM2)
            have hbt := ok.bit (b := b) (by omega)
            have es : stN P (useT P) (rwG P (fun _ => useT P) fr k) (b + 1) = if useT P b = true then (fun j => if j = toN P b then stN P (useT P) (rwG P (fun _ => useT P) fr k) b j + rwG P (fun _ => useT P) fr k (frN P b) else stN P (useT P) (rwG P (fun _ => useT P) fr k) b j) else stN P (useT P) (rwG P (fun _ => useT P) fr k) b := rfl
            rw [r2.B, eB, m_bit (by omega) (by omega), useS_bit hb, w32_s (k := b) (by omega)]
            simp only [Int.toNat_natCast]
            rw [r2.to (by omega), r2.from (by omega)]
            refine ⟨fun c => absurd c (by omega), fun _ => ⟨fun c => ?_, fun c => ⟨by omega, by omega, by omega, by omega, ⟨by omega, by omega, trivial⟩, ?_⟩⟩⟩
            · have e3 : ¬ (useT P b = true) := fun e => by rw [if_pos e] at c; omega
              rw [if_neg e3] at es
              exact ih3 M2 hM2 g1 (by rw [es]; exact g2)
            · have e3 : useT P b = true := by
                cases e4 : useT P b with
                | true => rfl
                | false => rw [e4] at c; exact absurd rfl c
              have hfr' : frN P b < 8 := by unfold frN; omega
              have hto' : toN P b < 8 := by unfold toN; omega
              have l1 := stN_le (P := P) (sel := useT P) (rwG_le ok (fun _ => useT P) fr k) b (toN P b)
              have l2 := rwG_le ok (fun _ => useT P) fr k (frN P b)
              have l3 : b * 12 ^ k ≤ 12 * 12 ^ k := Nat.mul_le_mul_right _ (by omega)
              have e1 : M2 99 (P (25 + b)).toNat = ((stN P (useT P) (rwG P (fun _ => useT P) fr k) b (toN P b) : Nat) : Int) := g2 _ hto'
              have e2 : M2 100 (P (13 + b)).toNat = ((rwG P (fun _ => useT P) fr k (frN P b) : Nat) : Int) := g1 _ hfr'
              rw [e1, e2, w64_id (by omega) (by omega)]
              refine ih3 _ (hM2.trans (KC.set (by omega))) (fun i hi => by rw [sI_row (by omega)]; exact g1 i hi) (fun i hi => ?_)
              rw [sI_if, es, if_pos e3]
              by_cases c4 : i = toN P b
              · have c5 : i = (P (25 + b)).toNat := c4
                rw [if_pos c5, if_pos c4, c4]; omega
              · have c5 : ¬ (i = (P (25 + b)).toNat) := c4
                rw [if_neg c5, if_neg c4]; exact g2 i hi
        have b1 : ∀ m, m ≤ 8 → ∀ M2, KC M1 M2 → (∀ i, i < 8 → M2 100 i = ((rwG P (fun _ => useT P) fr k i : Nat) : Int)) → (∀ i, i < m → M2 99 i = 0) → W9_howManyA_64x2 (d + 4) Ψ (to : Nat) (x : Nat) (useS P : Nat) (k : Nat) (m : Nat) (w0, w1, (100, 99), wb) M2 n := by
          refine up (fun M2 hM2 g1 g2 => ?_) (fun m hm ih3 M2 hM2 g1 g2 => ?_)
          · exact v9_howManyA_64x2 ⟨fun _ => b2 0 (Nat.zero_le _) M2 hM2 g1 g2, fun c => absurd (by decide) c⟩
          · apply v9_howManyA_64x2
            rw [w32_s (k := m) (by omega), Int.toNat_natCast]
            refine ⟨fun c => absurd c (by omega), fun _ => ⟨⟨by omega, by omega, trivial⟩, ih3 _ (hM2.trans (KC.set (by omega))) (fun i hi => by rw [sI_row (by omega)]; exact g1 i hi) (fun i hi => ?_)⟩⟩
            rw [sI_if]
            by_cases e : i = m
            · rw [if_pos e]
            · rw [if_neg e]; exact g2 i (by omega)
        exact b1 0 (Nat.zero_le _) M' hM' h8 (fun i hi => absurd hi (Nat.not_lt_zero i))
  have init : ∀ k, k ≤ 8 → ∀ M', KC M1 M' → (∀ i, i < k → M' 99 i = ((rwG P (fun _ => useT P) fr 0 i : Nat) : Int)) → W9_howManyA_21 (d + 4) Ψ (fr : Nat) (to : Nat) (x : Nat) (useS P : Nat) (k : Nat) (w0, w1, (99, 100), wb) M' n := by
    refine up (fun M' hM' h8 => ?_) (fun k hk ih M' hM' h8 => ?_)
    · exact v9_howManyA_21 ⟨fun _ => (key x 0 (by omega)).1 M' hM' h8, fun c => absurd (by decide) c⟩
    · apply v9_howManyA_21
      rw [w32_s (by omega), Int.toNat_natCast]
      have e0 : rwG P (fun _ => useT P) fr 0 k = if k = fr then 1 else 0 := rfl
      refine ⟨fun c => absurd c (by omega), fun _ => ⟨fun c => ⟨⟨by omega, by omega, trivial⟩, ih _ (hM'.trans (KC.set (by omega))) (fun i hi => ?_)⟩, fun c => ⟨⟨by omega, by omega, trivial⟩, ih _ (hM'.trans (KC.set (by omega))) (fun i hi => ?_)⟩⟩⟩
      · rw [sI_if]
        by_cases e : i = k
        · rw [if_pos e, e, e0, if_neg (by omega)]; rfl
        · rw [if_neg e]; exact h8 i (by omega)
      · rw [sI_if]
        by_cases e : i = k
        · rw [if_pos e, e, e0, if_pos (by omega)]; rfl
        · rw [if_neg e]; exact h8 i (by omega)
  exact init 0 (Nat.zero_le _) M1 (KC.refl M1) (fun i hi => absurd hi (Nat.not_lt_zero i))

theorem c_howManyB {w0 w1 : Nat} {wb : (Nat × Nat) × (Nat × Nat) × (Bool × Bool) × (Nat → Bool) × (Nat → Nat)} (fr to x : Nat) (hfr : fr < 8) (hto : to < 8) (hx : x ≤ 15) (r : relW M P) (ok : okP P) (q : ∀ p M', okY p → KC M M' → Ψ (rwG P (fun _ => useT P) fr x to : Nat) (w0, w1, p, wb) M' n) : CW (d + 5) 80 [(2, 13), (0, (fr : Int)), (0, (to : Int)), (0, (x : Int))] (w0, w1, (100, 99), wb) M n Ψ := by
  obtain ⟨eB, hB12⟩ := ok.nBe
  have hMo := ok.Mo
  have hus := useS_lt ok
  refine e9_howManyB (sp_tellableBits r ok (fun M1 h1 => ?_))
  have key : ∀ j k, k + j = x → (∀ M', KC M1 M' → (∀ i, i < 8 → M' 100 i = ((rwG P (fun _ => useT P) fr k i : Nat) : Int)) → W9_howManyB_55 (d + 4) Ψ (to : Nat) (x : Nat) (useS P : Nat) (k : Nat) (w0, w1, (100, 99), wb) M' n) ∧ (∀ M', KC M1 M' → (∀ i, i < 8 → M' 99 i = ((rwG P (fun _ => useT P) fr k i : Nat) : Int)) → W9_howManyB_55x2 (d + 4) Ψ (to : Nat) (x : Nat) (useS P : Nat) (k : Nat) (w0, w1, (99, 100), wb) M' n) := by
    intro j
    induction j with
    | zero =>
      intro k hk
      have ek : k = x := by omega
      subst ek
      refine ⟨fun M' hM' h8 => v9_howManyB_55 ⟨fun _ => ⟨by omega, ?_⟩, fun c => absurd (Int.le_refl _) c⟩, fun M' hM' h8 => v9_howManyB_55x2 ⟨fun _ => ⟨by omega, ?_⟩, fun c => absurd (Int.le_refl _) c⟩⟩
      · rw [Int.toNat_natCast, h8 to hto]
        exact q _ M' (Or.inr rfl) ((KC.of43 h1).trans hM')
      · rw [Int.toNat_natCast, h8 to hto]
        exact q _ M' (Or.inl rfl) ((KC.of43 h1).trans hM')
    | succ j ih =>
      intro k hk
      obtain ⟨ih1, ih2⟩ := ih (k + 1) (by omega)
      have hp := p12 k (by omega)
      refine ⟨?_, ?_⟩
      · intro M' hM' h8
        refine v9_howManyB_55 ⟨fun c => absurd c (by omega), fun _ => ?_⟩
        have b2 : ∀ b, b ≤ nB P → ∀ M2, KC M1 M2 → (∀ i, i < 8 → M2 100 i = ((rwG P (fun _ => useT P) fr k i : Nat) : Int)) → (∀ i, i < 8 → M2 99 i = ((stN P (useT P) (rwG P (fun _ => useT P) fr k) b i : Nat) : Int)) → W9_howManyB_88 (d + 4) Ψ (to : Nat) (x : Nat) (useS P : Nat) (k : Nat) (b : Nat) (w0, w1, (100, 99), wb) M2 n := by
          refine up (fun M2 hM2 g1 g2 => ?_) (fun b hb ih3 M2 hM2 g1 g2 => ?_)
          · apply v9_howManyB_88
            have r2 := r.kc ((KC.of43 h1).trans hM2)
            rw [r2.B, eB, w32_s (by omega)]
            exact ⟨fun _ => ih2 M2 hM2 g2, fun c => absurd (Int.le_refl _) c⟩
          · apply v9_howManyB_88
            have r2 := r.kc ((KC.of43 h1).trans hM2)
            have hbt := ok.bit (b := b) (by omega)
            have es : stN P (useT P) (rwG P (fun _ => useT P) fr k) (b + 1) = if useT P b = true then (fun j => if j = toN P b then stN P (useT P) (rwG P (fun _ => useT P) fr k) b j + rwG P (fun _ => useT P) fr k (frN P b) else stN P (useT P) (rwG P (fun _ => useT P) fr k) b j) else stN P (useT P) (rwG P (fun _ => useT P) fr k) b := rfl
            rw [r2.B, eB, m_bit (by omega) (by omega), useS_bit hb, w32_s (k := b) (by omega)]
            simp only [Int.toNat_natCast]
            rw [r2.to (by omega), r2.from (by omega)]
            refine ⟨fun c => absurd c (by omega), fun _ => ⟨fun c => ?_, fun c => ⟨by omega, by omega, by omega, by omega, ⟨by omega, by omega, trivial⟩, ?_⟩⟩⟩
            · have e3 : ¬ (useT P b = true) := fun e => by rw [if_pos e] at c; omega
              rw [if_neg e3] at es
              exact ih3 M2 hM2 g1 (by rw [es]; exact g2)
            · have e3 : useT P b = true := by
                cases e4 : useT P b with
                | true => rfl
                | false => rw [e4] at c; exact absurd rfl c
              have hfr' : frN P b < 8 := by unfold frN; omega
              have hto' : toN P b < 8 := by unfold toN; omega
              have l1 := stN_le (P := P) (sel := useT P) (rwG_le ok (fun _ => useT P) fr k) b (toN P b)
              have l2 := rwG_le ok (fun _ => useT P) fr k (frN P b)
              have l3 : b * 12 ^ k ≤ 12 * 12 ^ k := Nat.mul_le_mul_right _ (by omega)
              have e1 : M2 99 (P (25 + b)).toNat = ((stN P (useT P) (rwG P (fun _ => useT P) fr k) b (toN P b) : Nat) : Int) := g2 _ hto'
              have e2 : M2 100 (P (13 + b)).toNat = ((rwG P (fun _ => useT P) fr k (frN P b) : Nat) : Int) := g1 _ hfr'
              rw [e1, e2, w64_id (by omega) (by omega)]
              refine ih3 _ (hM2.trans (KC.set (by omega))) (fun i hi => by rw [sI_row (by omega)]; exact g1 i hi) (fun i hi => ?_)
              rw [sI_if, es, if_pos e3]
              by_cases c4 : i = toN P b
              · have c5 : i = (P (25 + b)).toNat := c4
                rw [if_pos c5, if_pos c4, c4]; omega
              · have c5 : ¬ (i = (P (25 + b)).toNat) := c4
                rw [if_neg c5, if_neg c4]; exact g2 i hi
        have b1 : ∀ m, m ≤ 8 → ∀ M2, KC M1 M2 → (∀ i, i < 8 → M2 100 i = ((rwG P (fun _ => useT P) fr k i : Nat) : Int)) → (∀ i, i < m → M2 99 i = 0) → W9_howManyB_64 (d + 4) Ψ (to : Nat) (x : Nat) (useS P : Nat) (k : Nat) (m : Nat) (w0, w1, (100, 99), wb) M2 n := by
          refine up (fun M2 hM2 g1 g2 => ?_) (fun m hm ih3 M2 hM2 g1 g2 => ?_)
          · exact v9_howManyB_64 ⟨fun _ => b2 0 (Nat.zero_le _) M2 hM2 g1 g2, fun c => absurd (by decide) c⟩
          · apply v9_howManyB_64
            rw [w32_s (k := m) (by omega), Int.toNat_natCast]
            refine ⟨fun c => absurd c (by omega), fun _ => ⟨⟨by omega, by omega, trivial⟩, ih3 _ (hM2.trans (KC.set (by omega))) (fun i hi => by rw [sI_row (by omega)]; exact g1 i hi) (fun i hi => ?_)⟩⟩
            rw [sI_if]
            by_cases e : i = m
            · rw [if_pos e]
            · rw [if_neg e]; exact g2 i (by omega)
        exact b1 0 (Nat.zero_le _) M' hM' h8 (fun i hi => absurd hi (Nat.not_lt_zero i))
      · intro M' hM' h8
        refine v9_howManyB_55x2 ⟨fun c => absurd c (by omega), fun _ => ?_⟩
        have b2 : ∀ b, b ≤ nB P → ∀ M2, KC M1 M2 → (∀ i, i < 8 → M2 99 i = ((rwG P (fun _ => useT P) fr k i : Nat) : Int)) → (∀ i, i < 8 → M2 100 i = ((stN P (useT P) (rwG P (fun _ => useT P) fr k) b i : Nat) : Int)) → W9_howManyB_88x2 (d + 4) Ψ (to : Nat) (x : Nat) (useS P : Nat) (k : Nat) (b : Nat) (w0, w1, (99, 100), wb) M2 n := by
          refine up (fun M2 hM2 g1 g2 => ?_) (fun b hb ih3 M2 hM2 g1 g2 => ?_)
          · apply v9_howManyB_88x2
            have r2 := r.kc ((KC.of43 h1).trans hM2)
            rw [r2.B, eB, w32_s (by omega)]
            exact ⟨fun _ => ih1 M2 hM2 g2, fun c => absurd (Int.le_refl _) c⟩
          · apply v9_howManyB_88x2
            have r2 := r.kc ((KC.of43 h1).trans hM2)
            have hbt := ok.bit (b := b) (by omega)
            have es : stN P (useT P) (rwG P (fun _ => useT P) fr k) (b + 1) = if useT P b = true then (fun j => if j = toN P b then stN P (useT P) (rwG P (fun _ => useT P) fr k) b j + rwG P (fun _ => useT P) fr k (frN P b) else stN P (useT P) (rwG P (fun _ => useT P) fr k) b j) else stN P (useT P) (rwG P (fun _ => useT P) fr k) b := rfl
            rw [r2.B, eB, m_bit (by omega) (by omega), useS_bit hb, w32_s (k := b) (by omega)]
            simp only [Int.toNat_natCast]
            rw [r2.to (by omega), r2.from (by omega)]
            refine ⟨fun c => absurd c (by omega), fun _ => ⟨fun c => ?_, fun c => ⟨by omega, by omega, by omega, by omega, ⟨by omega, by omega, trivial⟩, ?_⟩⟩⟩
            · have e3 : ¬ (useT P b = true) := fun e => by rw [if_pos e] at c; omega
              rw [if_neg e3] at es
              exact ih3 M2 hM2 g1 (by rw [es]; exact g2)
            · have e3 : useT P b = true := by
                cases e4 : useT P b with
                | true => rfl
                | false => rw [e4] at c; exact absurd rfl c
              have hfr' : frN P b < 8 := by unfold frN; omega
              have hto' : toN P b < 8 := by unfold toN; omega
              have l1 := stN_le (P := P) (sel := useT P) (rwG_le ok (fun _ => useT P) fr k) b (toN P b)
              have l2 := rwG_le ok (fun _ => useT P) fr k (frN P b)
              have l3 : b * 12 ^ k ≤ 12 * 12 ^ k := Nat.mul_le_mul_right _ (by omega)
              have e1 : M2 100 (P (25 + b)).toNat = ((stN P (useT P) (rwG P (fun _ => useT P) fr k) b (toN P b) : Nat) : Int) := g2 _ hto'
              have e2 : M2 99 (P (13 + b)).toNat = ((rwG P (fun _ => useT P) fr k (frN P b) : Nat) : Int) := g1 _ hfr'
              rw [e1, e2, w64_id (by omega) (by omega)]
              refine ih3 _ (hM2.trans (KC.set (by omega))) (fun i hi => by rw [sI_row (by omega)]; exact g1 i hi) (fun i hi => ?_)
              rw [sI_if, es, if_pos e3]
              by_cases c4 : i = toN P b
              · have c5 : i = (P (25 + b)).toNat := c4
                rw [if_pos c5, if_pos c4, c4]; omega
              · have c5 : ¬ (i = (P (25 + b)).toNat) := c4
                rw [if_neg c5, if_neg c4]; exact g2 i hi
        have b1 : ∀ m, m ≤ 8 → ∀ M2, KC M1 M2 → (∀ i, i < 8 → M2 99 i = ((rwG P (fun _ => useT P) fr k i : Nat) : Int)) → (∀ i, i < m → M2 100 i = 0) → W9_howManyB_64x2 (d + 4) Ψ (to : Nat) (x : Nat) (useS P : Nat) (k : Nat) (m : Nat) (w0, w1, (99, 100), wb) M2 n := by
          refine up (fun M2 hM2 g1 g2 => ?_) (fun m hm ih3 M2 hM2 g1 g2 => ?_)
          · exact v9_howManyB_64x2 ⟨fun _ => b2 0 (Nat.zero_le _) M2 hM2 g1 g2, fun c => absurd (by decide) c⟩
          · apply v9_howManyB_64x2
            rw [w32_s (k := m) (by omega), Int.toNat_natCast]
            refine ⟨fun c => absurd c (by omega), fun _ => ⟨⟨by omega, by omega, trivial⟩, ih3 _ (hM2.trans (KC.set (by omega))) (fun i hi => by rw [sI_row (by omega)]; exact g1 i hi) (fun i hi => ?_)⟩⟩
            rw [sI_if]
            by_cases e : i = m
            · rw [if_pos e]
            · rw [if_neg e]; exact g2 i (by omega)
        exact b1 0 (Nat.zero_le _) M' hM' h8 (fun i hi => absurd hi (Nat.not_lt_zero i))
  have init : ∀ k, k ≤ 8 → ∀ M', KC M1 M' → (∀ i, i < k → M' 100 i = ((rwG P (fun _ => useT P) fr 0 i : Nat) : Int)) → W9_howManyB_21 (d + 4) Ψ (fr : Nat) (to : Nat) (x : Nat) (useS P : Nat) (k : Nat) (w0, w1, (100, 99), wb) M' n := by
    refine up (fun M' hM' h8 => ?_) (fun k hk ih M' hM' h8 => ?_)
    · exact v9_howManyB_21 ⟨fun _ => (key x 0 (by omega)).1 M' hM' h8, fun c => absurd (by decide) c⟩
    · apply v9_howManyB_21
      rw [w32_s (by omega), Int.toNat_natCast]
      have e0 : rwG P (fun _ => useT P) fr 0 k = if k = fr then 1 else 0 := rfl
      refine ⟨fun c => absurd c (by omega), fun _ => ⟨fun c => ⟨⟨by omega, by omega, trivial⟩, ih _ (hM'.trans (KC.set (by omega))) (fun i hi => ?_)⟩, fun c => ⟨⟨by omega, by omega, trivial⟩, ih _ (hM'.trans (KC.set (by omega))) (fun i hi => ?_)⟩⟩⟩
      · rw [sI_if]
        by_cases e : i = k
        · rw [if_pos e, e, e0, if_neg (by omega)]; rfl
        · rw [if_neg e]; exact h8 i (by omega)
      · rw [sI_if]
        by_cases e : i = k
        · rw [if_pos e, e, e0, if_pos (by omega)]; rfl
        · rw [if_neg e]; exact h8 i (by omega)
  exact init 0 (Nat.zero_le _) M1 (KC.refl M1) (fun i hi => absurd hi (Nat.not_lt_zero i))

theorem c_areMoments (f g : Int) (r : relW M P) (q : Φ (b2i (decide ((0 ≤ f ∧ f < P 2) ∧ 0 ≤ g ∧ g < P 2))) M) : CF (d + 2) 180 [(2, 1), (0, f), (0, g)] w M n Φ := by
  refine e11_areMoments (c_isMoment f r (br (fun e => ?_) (fun e => c_isMoment g r (br (fun e2 => ?_) (fun e2 => ?_)))))
  · have e := of_decide_eq_false e
    rw [decide_eq_false (fun z => e z.1)] at q; exact q
  · have e2 := of_decide_eq_false e2
    rw [decide_eq_false (fun z => e2 z.2)] at q; exact q
  · have e := of_decide_eq_true e
    have e2 := of_decide_eq_true e2
    rw [decide_eq_true ⟨e, e2⟩] at q; exact q
theorem c_ways (f t x : Int) (hw : okY w.2.2.1) (r : relW M P) (ok : okP P) (q : ∀ p M', okY p → KC M M' → Ψ (zWays P f t x) (wWay w p) M' n) : CW (d + 6) 147 [(2, 1), (0, f), (0, t), (0, x)] w M n Ψ := by
  have hMo := ok.Mo
  have q0 := q w.2.2.1 M hw (KC.refl M)
  have ew : wWay w w.2.2.1 = w := rfl
  rw [ew] at q0
  unfold zWays at q q0
  refine e11_ways (c_areMoments f t r (br' (fun e => ⟨fun c => ?_, fun c => ⟨fun c2 => ?_, fun c2 => ?_⟩⟩) (fun e => ?_)))
  · have e := of_decide_eq_true e
    rw [if_pos e, if_neg (by omega)] at q0; exact q0
  · have e := of_decide_eq_true e
    rw [if_pos e, if_pos (by omega)] at q
    rw [show f = (f.toNat : Int) by omega, show t = (t.toNat : Int) by omega, show x = (x.toNat : Int) by omega]
    obtain ⟨w0, w1, p, wb⟩ := w
    rcases hw with hw | hw
    · have hw : p = (99, 100) := hw
      subst hw
      exact c_howManyA _ _ _ (by omega) (by omega) (by omega) r ok (fun p M' hp hk => q p M' hp hk)
    · have hw : p = (100, 99) := hw
      subst hw
      exact c_howManyB _ _ _ (by omega) (by omega) (by omega) r ok (fun p M' hp hk => q p M' hp hk)
  · have e := of_decide_eq_true e
    rw [if_pos e, if_neg (by omega)] at q0; exact q0
  · have e := of_decide_eq_false e
    rw [if_neg e] at q0; exact q0
/-- what a tray's numbers are, once taken -/
def hrd (M : Nat → Nat → Int) (P : Nat → Int) (h : Nat → Int) (L : Nat) : Prop := M 15 2 = (L : Int) ∧ M 15 3 = (useS P : Nat) ∧ ∀ k, k < L → M 104 k = h k
theorem hrd.congr {M M' : Nat → Nat → Int} {P h : Nat → Int} {L : Nat} (e1 : M' 15 = M 15) (e2 : M' 104 = M 104) (a : hrd M P h L) : hrd M' P h L := by
  unfold hrd
  rw [e1, e2]
  exact a
theorem c_take (t : Nat) (bits : Bool) (lo hi : Int) (ht : t < 4) (hlo : lo = if bits = true then 0 else -1) (hhi : hi = if bits = true then P 3 else P 2) (r : relW M P) (rt : relT M S Z U) (ok : okP P) (q : ∀ M', KC M M' → (noR P S Z U t bits = 0 → hrd M' P (nmT U t) (Z t).toNat) → Φ (noR P S Z U t bits) M') : CF (d + 5) 50 [(2, 15), (2, ((85 + 2 * t : Nat) : Int)), (0, lo), (0, hi)] w M n Φ := by
  have hMo := ok.Mo
  have hBb := ok.B
  have b := (isTr_t w t ht).1.1
  have et : (t : Int).toNat = t := Int.toNat_natCast t
  unfold noR at q
  have en : noT S t = if S t = -1 then -6 else 0 := by unfold noT; rw [if_pos (by omega), et]
  rw [en, et] at q
  refine e5_take ⟨b, c_isMissing t ht rt (br (fun e => ⟨b, ?_⟩) (fun e => ?_))⟩
  · have e := of_decide_eq_false e
    rw [if_neg e, if_pos rfl] at q
    obtain ⟨_, z1, z2, z3, z4⟩ := (rt t ht).2 e
    rw [z1]
    have no4 : ¬ (1 ≤ Z t ∧ Z t ≤ 12) → Φ (-4) M := by
      intro c
      have q' := q M (KC.refl M)
      rw [if_neg c] at q'
      exact q' (fun h => absurd h (by omega))
    refine ⟨fun c => no4 (by omega), fun c => ⟨b, fun c2 => ⟨b, ?_⟩, fun c2 => no4 (by omega)⟩⟩
    rw [if_pos (by omega)] at q
    have ez : Z t = (((Z t).toNat : Nat) : Int) := by omega
    have key : ∀ k, k ≤ (Z t).toNat → anyB (badT P (nmT U t) bits) k = false → ∀ M', KC M M' → M' 15 2 = Z t → (∀ j, j < k → M' 104 j = nmT U t j) → W5_take_41 (85 + 2 * t) (d + 4) Φ lo hi (k : Nat) w M' n := by
      refine up (fun hn M' hM' h2 h104 => ?_) (fun k hk ih hn M' hM' h2 h104 => ?_)
      · apply v5_take_41
        rw [h2]
        refine ⟨fun _ => sp_tellableBits (r.kc hM') ok (fun M1 h1 => ?_), fun c => absurd (by omega) c⟩
        rw [hn, if_neg (by decide)] at q
        refine q _ (hM'.trans ((KC.of43 h1).trans (KC.set (by omega)))) (fun _ => ⟨?_, sI_same _ _ _ _, fun j hj => ?_⟩)
        · rw [sI_ne (by omega), h1 15 (by omega) (by omega), h2]; omega
        · rw [sI_row (by omega), h1 104 (by omega) (by omega)]; exact h104 j hj
      · apply v5_take_41
        have rt' : relT M' S Z U := rt.congr (fun c h1 h2 => hM' c (by omega))
        rw [h2, w32_s (by omega)]
        refine ⟨fun c => absurd c (by omega), fun _ => ⟨b, c_at t k ht rt' e (by omega) ?_⟩⟩
        have env : U (40 * t + k) = nmT U t k := by unfold nmT; rw [et]
        rw [env, cmp_lt0, cmp_lt0]
        have good : badT P (nmT U t) bits k = false → -1 ≤ nmT U t k → nmT U t k < 100 → W5_take_41 (85 + 2 * t) (d + 4) Φ lo hi ((k + 1 : Nat) : Int) w (sI M' 104 k (w32 (nmT U t k))) n := by
          intro e2 l1 l2
          rw [w32_id (by omega) (by omega)]
          refine ih ?_ _ (hM'.trans (KC.set (by omega))) (by rw [sI_row (by omega)]; exact h2) (fun j hj => ?_)
          · show (anyB (badT P (nmT U t) bits) k || badT P (nmT U t) bits k) = false
            rw [hn, e2]; rfl
          · rw [sI_if]
            by_cases c4 : j = k
            · rw [if_pos c4, c4]
            · rw [if_neg c4]; exact h104 j (by omega)
        have badc : badT P (nmT U t) bits k = true → Φ (-3) M' := by
          intro e2
          have q' := q M' hM'
          rw [if_pos ((anyB_iff _ _).mpr ⟨k, hk, e2⟩)] at q'
          exact q' (fun h => absurd h (by omega))
        cases eb : bits with
        | true =>
          have ev : badT P (nmT U t) bits k = decide (¬ (0 ≤ nmT U t k ∧ nmT U t k < P 3)) := by unfold badT; rw [eb]; rfl
          rw [eb, if_pos rfl] at hlo hhi
          rw [Int.toNat_natCast]
          refine ⟨fun c3 => badc (by rw [ev, decide_eq_true_eq]; omega), fun c3 => ⟨fun c4 => ⟨⟨by omega, by omega, trivial⟩, good (by rw [ev, decide_eq_false_iff_not]; omega) (by omega) (by omega)⟩, fun c4 => badc (by rw [ev, decide_eq_true_eq]; omega)⟩⟩
        | false =>
          have ev : badT P (nmT U t) bits k = decide (nmT U t k ≠ -1 ∧ ¬ (0 ≤ nmT U t k ∧ nmT U t k < P 2)) := by unfold badT; rw [eb]; rfl
          rw [eb, if_neg (by decide)] at hlo hhi
          rw [Int.toNat_natCast]
          refine ⟨fun c3 => badc (by rw [ev, decide_eq_true_eq]; omega), fun c3 => ⟨fun c4 => ⟨⟨by omega, by omega, trivial⟩, good (by rw [ev, decide_eq_false_iff_not]; omega) (by omega) (by omega)⟩, fun c4 => badc (by rw [ev, decide_eq_true_eq]; omega)⟩⟩
    exact key 0 (Nat.zero_le _) rfl _ (KC.set (by omega)) (sI_same _ _ _ _) (fun j hj => absurd hj (Nat.not_lt_zero j))
  · have e := of_decide_eq_true e
    rw [if_pos e, if_neg (by omega)] at q
    exact q M (KC.refl M) (fun h => absurd h (by omega))
theorem c_takeSeen (t f : Int) (r : relW M P) (rt : relT M S Z U) (ok : okP P) (q : ∀ M', KC M M' → (noS P S Z U t f = 0 → hrd M' P (nmT U t) (Z t.toNat).toNat) → Φ (noS P S Z U t f) M') : CF (d + 6) 161 [(2, 1), (0, t), (0, f)] w M n Φ := by
  unfold noS at q
  refine e11_takeSeen (c_isTray t (br (fun e => ?_) (fun e => c_isMoment f r (br' (fun e2 => ?_) (fun e2 => ?_)))))
  · have e := of_decide_eq_false e
    rw [if_neg (fun z => e z.1)] at q
    exact q M (KC.refl M) (fun h => absurd h (by omega))
  · have e := of_decide_eq_true e
    have e2 := of_decide_eq_true e2
    rw [if_pos ⟨e, e2⟩] at q
    obtain ⟨_, hb⟩ := isTr_t w t.toNat (by omega)
    rw [hb, r.Mo]
    refine ⟨by omega, c_take t.toNat false _ _ (by omega) rfl rfl r rt ok ?_⟩
    rw [show ((t.toNat : Nat) : Int) = t by omega]
    exact q
  · have e2 := of_decide_eq_false e2
    rw [if_neg (fun z => e2 z.2)] at q
    exact q M (KC.refl M) (fun h => absurd h (by omega))
theorem c_takeTold (t : Int) (r : relW M P) (rt : relT M S Z U) (ok : okP P) (q : ∀ M', KC M M' → (noR P S Z U t true = 0 → hrd M' P (nmT U t) (Z t.toNat).toNat) → Φ (noR P S Z U t true) M') : CF (d + 6) 164 [(2, 1), (0, t)] w M n Φ := by
  refine e11_takeTold (c_isTray t (br (fun e => ?_) (fun e => ?_)))
  · have e := of_decide_eq_false e
    have en : noT S t = -2 := if_neg e
    have er : noR P S Z U t true = -2 := by unfold noR; rw [en, if_neg (by omega)]
    rw [er] at q
    exact q M (KC.refl M) (fun h => absurd h (by omega))
  · have e := of_decide_eq_true e
    obtain ⟨_, hb⟩ := isTr_t w t.toNat (by omega)
    rw [hb, r.B]
    refine ⟨by omega, c_take t.toNat true _ _ (by omega) rfl rfl r rt ok ?_⟩
    rw [show ((t.toNat : Nat) : Int) = t by omega]
    exact q
theorem c_hasPlace (p : Int) {h : Nat → Int} {L : Nat} (a : hrd M P h L) (q : Φ (b2i (decide (0 ≤ p ∧ p < (L : Int)))) M) : CF (d + 1) 51 [(2, 15), (0, p)] w M n Φ := by
  apply e5_hasPlace
  rw [a.1]
  refine ⟨fun c => ?_, fun c => ⟨fun c2 => ?_, fun c2 => ?_⟩⟩
  · rw [decide_eq_false (by omega)] at q; exact q
  · rw [decide_eq_false (by omega)] at q; exact q
  · rw [decide_eq_true (by omega)] at q; exact q
theorem c_fits (k b : Nat) {h : Nat → Int} {L : Nat} (a : hrd M P h L) (hk : k < L) (hL : L ≤ 12) (hb : b < nB P) (r : relW M P) (ok : okP P) (q : Φ (b2i (sel0 P h k b)) M) : CF (d + 1) 52 [(2, 15), (0, (k : Int)), (0, (b : Int))] w M n Φ := by
  have hus := useS_lt ok
  have hB := ok.nBe
  apply e5_fits
  rw [a.2.1, m_bit (by omega) (by omega), useS_bit hb]
  simp only [Int.toNat_natCast]
  rw [a.2.2 k hk, r.to (by omega)]
  unfold sel0 at q
  cases e : useT P b with
  | false =>
    rw [e, Bool.false_and] at q
    exact ⟨fun _ => q, fun c => absurd rfl c⟩
  | true =>
    rw [e, Bool.true_and] at q
    refine ⟨fun c => absurd c (by decide), fun _ => ⟨by omega, fun c => ?_, fun c => ⟨by omega, by omega, fun c2 => ?_, fun c2 => ?_⟩⟩⟩
    · rw [decide_eq_true (Or.inl c)] at q; exact q
    · rw [decide_eq_false (show ¬ (h k = -1 ∨ h k = P (25 + b)) by omega)] at q; exact q
    · rw [decide_eq_true (show h k = -1 ∨ h k = P (25 + b) by omega)] at q; exact q

theorem c_sumA {w0 w1 : Nat} {wa : Nat × Nat} {wc : (Nat × Nat) × (Bool × Bool) × (Nat → Bool) × (Nat → Nat)} (v : Nat → Nat) (B : Nat) (hv : ∀ i, i < 8 → M 105 i = ((v i : Nat) : Int)) (hB : ∀ i, v i ≤ B) (hB2 : 9 * B < 9223372036854775808) (q : Φ (smN v 8 : Nat) M) : CF (d + 1) 55 [(2, 15)] (w0, w1, wa, (105, 106), wc) M n Φ := by
  have key : ∀ k, k ≤ 8 → W5_sumA_4 d Φ (smN v k : Nat) (k : Nat) (w0, w1, wa, (105, 106), wc) M n := by
    refine up ?_ (fun k hk ih => ?_)
    · exact v5_sumA_4 ⟨fun _ => q, fun c => absurd (by decide) c⟩
    · apply v5_sumA_4
      have l1 := smN_le (f := v) (B := B) k (fun i _ => hB i)
      have l2 := hB k
      have l3 : k * B ≤ 8 * B := Nat.mul_le_mul_right _ (by omega)
      rw [w32_s (by omega), Int.toNat_natCast, hv k hk, w64_id (by omega) (by omega)]
      exact ⟨fun c => absurd c (by omega), fun _ => ⟨by omega, ih⟩⟩
  exact e5_sumA (key 0 (Nat.zero_le _))

theorem c_sumB {w0 w1 : Nat} {wa : Nat × Nat} {wc : (Nat × Nat) × (Bool × Bool) × (Nat → Bool) × (Nat → Nat)} (v : Nat → Nat) (B : Nat) (hv : ∀ i, i < 8 → M 106 i = ((v i : Nat) : Int)) (hB : ∀ i, v i ≤ B) (hB2 : 9 * B < 9223372036854775808) (q : Φ (smN v 8 : Nat) M) : CF (d + 1) 55 [(2, 15)] (w0, w1, wa, (106, 105), wc) M n Φ := by
  have key : ∀ k, k ≤ 8 → W5_sumB_4 d Φ (smN v k : Nat) (k : Nat) (w0, w1, wa, (106, 105), wc) M n := by
    refine up ?_ (fun k hk ih => ?_)
    · exact v5_sumB_4 ⟨fun _ => q, fun c => absurd (by decide) c⟩
    · apply v5_sumB_4
      have l1 := smN_le (f := v) (B := B) k (fun i _ => hB i)
      have l2 := hB k
      have l3 : k * B ≤ 8 * B := Nat.mul_le_mul_right _ (by omega)
      rw [w32_s (by omega), Int.toNat_natCast, hv k hk, w64_id (by omega) (by omega)]
      exact ⟨fun c => absurd c (by omega), fun _ => ⟨by omega, ih⟩⟩
  exact e5_sumB (key 0 (Nat.zero_le _))

theorem c_howManySeenA {w0 w1 : Nat} {wa : Nat × Nat} {wc : (Nat × Nat) × (Bool × Bool) × (Nat → Bool) × (Nat → Nat)} (fr L : Nat) (h : Nat → Int) (hfr : fr < 8) (hL : L ≤ 12) (a : hrd M P h L) (r : relW M P) (ok : okP P) (q : ∀ p M', okR p → KC M M' → Ψ (totS P h fr L : Nat) (w0, w1, wa, p, wc) M' n) : CW (d + 2) 53 [(2, 15), (0, (fr : Int))] (w0, w1, wa, (105, 106), wc) M n Ψ := by
  obtain ⟨eB, hB12⟩ := ok.nBe
  have hMo := ok.Mo
  have key : ∀ j k, k + j = L → (∀ M', KC M M' → hrd M' P h L → (∀ i, i < 8 → M' 105 i = ((rwG P (sel0 P h) fr k i : Nat) : Int)) → W5_howManySeenA_40 (d + 1) Ψ (k : Nat) (w0, w1, wa, (105, 106), wc) M' n) ∧ (∀ M', KC M M' → hrd M' P h L → (∀ i, i < 8 → M' 106 i = ((rwG P (sel0 P h) fr k i : Nat) : Int)) → W5_howManySeenA_40x1 (d + 1) Ψ (k : Nat) (w0, w1, wa, (106, 105), wc) M' n) := by
    intro j
    induction j with
    | zero =>
      intro k hk
      have ek : k = L := by omega
      subst ek
      have hp := p12 k (by omega)
      refine ⟨fun M' hM' ha h8 => v5_howManySeenA_40 ?_, fun M' hM' ha h8 => v5_howManySeenA_40x1 ?_⟩
      · rw [ha.1]
        exact ⟨fun _ => c_sumA _ (12 ^ k) h8 (rwG_le ok _ _ k) (by omega) (q _ M' (Or.inl rfl) hM'), fun c => absurd (Int.le_refl _) c⟩
      · rw [ha.1]
        exact ⟨fun _ => c_sumB _ (12 ^ k) h8 (rwG_le ok _ _ k) (by omega) (q _ M' (Or.inr rfl) hM'), fun c => absurd (Int.le_refl _) c⟩
    | succ j ih =>
      intro k hk
      obtain ⟨ih1, ih2⟩ := ih (k + 1) (by omega)
      have hp := p12 k (by omega)
      refine ⟨?_, ?_⟩
      · intro M' hM' ha h8
        apply v5_howManySeenA_40
        rw [ha.1]
        refine ⟨fun c => absurd c (by omega), fun _ => ?_⟩
        have b2 : ∀ b, b ≤ nB P → ∀ M2, KC M M2 → hrd M2 P h L → (∀ i, i < 8 → M2 105 i = ((rwG P (sel0 P h) fr k i : Nat) : Int)) → (∀ i, i < 8 → M2 106 i = ((stN P (sel0 P h k) (rwG P (sel0 P h) fr k) b i : Nat) : Int)) → W5_howManySeenA_75 (d + 1) Ψ (k : Nat) (b : Nat) (w0, w1, wa, (105, 106), wc) M2 n := by
          refine up (fun M2 hM2 ha2 g1 g2 => ?_) (fun b hb ih3 M2 hM2 ha2 g1 g2 => ?_)
          · apply v5_howManySeenA_75
            have r2 := r.kc hM2
            rw [r2.B, eB, w32_s (by omega)]
            exact ⟨fun _ => e5_swapA (ih2 M2 hM2 ha2 g2), fun c => absurd (Int.le_refl _) c⟩
          · apply v5_howManySeenA_75
            have r2 := r.kc hM2
            have hbt := ok.bit (b := b) (by omega)
            have es : stN P (sel0 P h k) (rwG P (sel0 P h) fr k) (b + 1) = if sel0 P h k b = true then (fun j => if j = toN P b then stN P (sel0 P h k) (rwG P (sel0 P h) fr k) b j + rwG P (sel0 P h) fr k (frN P b) else stN P (sel0 P h k) (rwG P (sel0 P h) fr k) b j) else stN P (sel0 P h k) (rwG P (sel0 P h) fr k) b := rfl
            rw [r2.B, eB, w32_s (k := b) (by omega)]
            simp only [Int.toNat_natCast]
            refine ⟨fun c => absurd c (by omega), fun _ => c_fits k b ha2 (by omega) hL hb r2 ok ?_⟩
            rw [r2.to (by omega), r2.from (by omega)]
            refine br (fun e3 => ?_) (fun e3 => ⟨by omega, by omega, by omega, by omega, ⟨by omega, by omega, trivial⟩, ?_⟩)
            · rw [e3, if_neg (by decide)] at es
              exact ih3 M2 hM2 ha2 g1 (by rw [es]; exact g2)
            · have hfr' : frN P b < 8 := by unfold frN; omega
              have hto' : toN P b < 8 := by unfold toN; omega
              have l1 := stN_le (P := P) (sel := sel0 P h k) (rwG_le ok (sel0 P h) fr k) b (toN P b)
              have l2 := rwG_le ok (sel0 P h) fr k (frN P b)
              have l3 : b * 12 ^ k ≤ 12 * 12 ^ k := Nat.mul_le_mul_right _ (by omega)
              have e1 : M2 106 (P (25 + b)).toNat = ((stN P (sel0 P h k) (rwG P (sel0 P h) fr k) b (toN P b) : Nat) : Int) := g2 _ hto'
              have e2 : M2 105 (P (13 + b)).toNat = ((rwG P (sel0 P h) fr k (frN P b) : Nat) : Int) := g1 _ hfr'
              rw [e1, e2, w64_id (by omega) (by omega)]
              refine ih3 _ (hM2.trans (KC.set (by omega))) (ha2.congr (sI_row (by omega)) (sI_row (by omega))) (fun i hi => by rw [sI_row (by omega)]; exact g1 i hi) (fun i hi => ?_)
              rw [sI_if, es, if_pos e3]
              by_cases c4 : i = toN P b
              · have c5 : i = (P (25 + b)).toNat := c4
                rw [if_pos c5, if_pos c4, c4]; omega
              · have c5 : ¬ (i = (P (25 + b)).toNat) := c4
                rw [if_neg c5, if_neg c4]; exact g2 i hi
        have b1 : ∀ m, m ≤ 8 → ∀ M2, KC M M2 → hrd M2 P h L → (∀ i, i < 8 → M2 105 i = ((rwG P (sel0 P h) fr k i : Nat) : Int)) → (∀ i, i < m → M2 106 i = 0) → W5_howManySeenA_51 (d + 1) Ψ (k : Nat) (m : Nat) (w0, w1, wa, (105, 106), wc) M2 n := by
          refine up (fun M2 hM2 ha2 g1 g2 => ?_) (fun m hm ih3 M2 hM2 ha2 g1 g2 => ?_)
          · exact v5_howManySeenA_51 ⟨fun _ => b2 0 (Nat.zero_le _) M2 hM2 ha2 g1 g2, fun c => absurd (by decide) c⟩
          · apply v5_howManySeenA_51
            rw [w32_s (k := m) (by omega), Int.toNat_natCast]
            refine ⟨fun c => absurd c (by omega), fun _ => ⟨⟨by omega, by omega, trivial⟩, ih3 _ (hM2.trans (KC.set (by omega))) (ha2.congr (sI_row (by omega)) (sI_row (by omega))) (fun i hi => by rw [sI_row (by omega)]; exact g1 i hi) (fun i hi => ?_)⟩⟩
            rw [sI_if]
            by_cases e : i = m
            · rw [if_pos e]
            · rw [if_neg e]; exact g2 i (by omega)
        exact b1 0 (Nat.zero_le _) M' hM' ha h8 (fun i hi => absurd hi (Nat.not_lt_zero i))
      · intro M' hM' ha h8
        apply v5_howManySeenA_40x1
        rw [ha.1]
        refine ⟨fun c => absurd c (by omega), fun _ => ?_⟩
        have b2 : ∀ b, b ≤ nB P → ∀ M2, KC M M2 → hrd M2 P h L → (∀ i, i < 8 → M2 106 i = ((rwG P (sel0 P h) fr k i : Nat) : Int)) → (∀ i, i < 8 → M2 105 i = ((stN P (sel0 P h k) (rwG P (sel0 P h) fr k) b i : Nat) : Int)) → W5_howManySeenA_75x1 (d + 1) Ψ (k : Nat) (b : Nat) (w0, w1, wa, (106, 105), wc) M2 n := by
          refine up (fun M2 hM2 ha2 g1 g2 => ?_) (fun b hb ih3 M2 hM2 ha2 g1 g2 => ?_)
          · apply v5_howManySeenA_75x1
            have r2 := r.kc hM2
            rw [r2.B, eB, w32_s (by omega)]
            exact ⟨fun _ => e5_swapB (ih1 M2 hM2 ha2 g2), fun c => absurd (Int.le_refl _) c⟩
          · apply v5_howManySeenA_75x1
            have r2 := r.kc hM2
            have hbt := ok.bit (b := b) (by omega)
            have es : stN P (sel0 P h k) (rwG P (sel0 P h) fr k) (b + 1) = if sel0 P h k b = true then (fun j => if j = toN P b then stN P (sel0 P h k) (rwG P (sel0 P h) fr k) b j + rwG P (sel0 P h) fr k (frN P b) else stN P (sel0 P h k) (rwG P (sel0 P h) fr k) b j) else stN P (sel0 P h k) (rwG P (sel0 P h) fr k) b := rfl
            rw [r2.B, eB, w32_s (k := b) (by omega)]
            simp only [Int.toNat_natCast]
            refine ⟨fun c => absurd c (by omega), fun _ => c_fits k b ha2 (by omega) hL hb r2 ok ?_⟩
            rw [r2.to (by omega), r2.from (by omega)]
            refine br (fun e3 => ?_) (fun e3 => ⟨by omega, by omega, by omega, by omega, ⟨by omega, by omega, trivial⟩, ?_⟩)
            · rw [e3, if_neg (by decide)] at es
              exact ih3 M2 hM2 ha2 g1 (by rw [es]; exact g2)
            · have hfr' : frN P b < 8 := by unfold frN; omega
              have hto' : toN P b < 8 := by unfold toN; omega
              have l1 := stN_le (P := P) (sel := sel0 P h k) (rwG_le ok (sel0 P h) fr k) b (toN P b)
              have l2 := rwG_le ok (sel0 P h) fr k (frN P b)
              have l3 : b * 12 ^ k ≤ 12 * 12 ^ k := Nat.mul_le_mul_right _ (by omega)
              have e1 : M2 105 (P (25 + b)).toNat = ((stN P (sel0 P h k) (rwG P (sel0 P h) fr k) b (toN P b) : Nat) : Int) := g2 _ hto'
              have e2 : M2 106 (P (13 + b)).toNat = ((rwG P (sel0 P h) fr k (frN P b) : Nat) : Int) := g1 _ hfr'
              rw [e1, e2, w64_id (by omega) (by omega)]
              refine ih3 _ (hM2.trans (KC.set (by omega))) (ha2.congr (sI_row (by omega)) (sI_row (by omega))) (fun i hi => by rw [sI_row (by omega)]; exact g1 i hi) (fun i hi => ?_)
              rw [sI_if, es, if_pos e3]
              by_cases c4 : i = toN P b
              · have c5 : i = (P (25 + b)).toNat := c4
                rw [if_pos c5, if_pos c4, c4]; omega
              · have c5 : ¬ (i = (P (25 + b)).toNat) := c4
                rw [if_neg c5, if_neg c4]; exact g2 i hi
        have b1 : ∀ m, m ≤ 8 → ∀ M2, KC M M2 → hrd M2 P h L → (∀ i, i < 8 → M2 106 i = ((rwG P (sel0 P h) fr k i : Nat) : Int)) → (∀ i, i < m → M2 105 i = 0) → W5_howManySeenA_51x1 (d + 1) Ψ (k : Nat) (m : Nat) (w0, w1, wa, (106, 105), wc) M2 n := by
          refine up (fun M2 hM2 ha2 g1 g2 => ?_) (fun m hm ih3 M2 hM2 ha2 g1 g2 => ?_)
          · exact v5_howManySeenA_51x1 ⟨fun _ => b2 0 (Nat.zero_le _) M2 hM2 ha2 g1 g2, fun c => absurd (by decide) c⟩
          · apply v5_howManySeenA_51x1
            rw [w32_s (k := m) (by omega), Int.toNat_natCast]
            refine ⟨fun c => absurd c (by omega), fun _ => ⟨⟨by omega, by omega, trivial⟩, ih3 _ (hM2.trans (KC.set (by omega))) (ha2.congr (sI_row (by omega)) (sI_row (by omega))) (fun i hi => by rw [sI_row (by omega)]; exact g1 i hi) (fun i hi => ?_)⟩⟩
            rw [sI_if]
            by_cases e : i = m
            · rw [if_pos e]
            · rw [if_neg e]; exact g2 i (by omega)
        exact b1 0 (Nat.zero_le _) M' hM' ha h8 (fun i hi => absurd hi (Nat.not_lt_zero i))
  have init : ∀ k, k ≤ 8 → ∀ M', KC M M' → hrd M' P h L → (∀ i, i < k → M' 105 i = ((rwG P (sel0 P h) fr 0 i : Nat) : Int)) → W5_howManySeenA_10 (d + 1) Ψ (fr : Nat) (k : Nat) (w0, w1, wa, (105, 106), wc) M' n := by
    refine up (fun M' hM' ha h8 => ?_) (fun k hk ih M' hM' ha h8 => ?_)
    · exact v5_howManySeenA_10 ⟨fun _ => (key L 0 (by omega)).1 M' hM' ha h8, fun c => absurd (by decide) c⟩
    · apply v5_howManySeenA_10
      rw [w32_s (by omega), Int.toNat_natCast]
      have e0 : rwG P (sel0 P h) fr 0 k = if k = fr then 1 else 0 := rfl
      refine ⟨fun c => absurd c (by omega), fun _ => ⟨fun c => ⟨⟨by omega, by omega, trivial⟩, ih _ (hM'.trans (KC.set (by omega))) (ha.congr (sI_row (by omega)) (sI_row (by omega))) (fun i hi => ?_)⟩, fun c => ⟨⟨by omega, by omega, trivial⟩, ih _ (hM'.trans (KC.set (by omega))) (ha.congr (sI_row (by omega)) (sI_row (by omega))) (fun i hi => ?_)⟩⟩⟩
      · rw [sI_if]
        by_cases e : i = k
        · rw [if_pos e, e, e0, if_neg (by omega)]; rfl
        · rw [if_neg e]; exact h8 i (by omega)
      · rw [sI_if]
        by_cases e : i = k
        · rw [if_pos e, e, e0, if_pos (by omega)]; rfl
        · rw [if_neg e]; exact h8 i (by omega)
  exact e5_howManySeenA (init 0 (Nat.zero_le _) M (KC.refl M) a (fun i hi => absurd hi (Nat.not_lt_zero i)))

theorem c_howManySeenB {w0 w1 : Nat} {wa : Nat × Nat} {wc : (Nat × Nat) × (Bool × Bool) × (Nat → Bool) × (Nat → Nat)} (fr L : Nat) (h : Nat → Int) (hfr : fr < 8) (hL : L ≤ 12) (a : hrd M P h L) (r : relW M P) (ok : okP P) (q : ∀ p M', okR p → KC M M' → Ψ (totS P h fr L : Nat) (w0, w1, wa, p, wc) M' n) : CW (d + 2) 53 [(2, 15), (0, (fr : Int))] (w0, w1, wa, (106, 105), wc) M n Ψ := by
  obtain ⟨eB, hB12⟩ := ok.nBe
  have hMo := ok.Mo
  have key : ∀ j k, k + j = L → (∀ M', KC M M' → hrd M' P h L → (∀ i, i < 8 → M' 106 i = ((rwG P (sel0 P h) fr k i : Nat) : Int)) → W5_howManySeenB_40 (d + 1) Ψ (k : Nat) (w0, w1, wa, (106, 105), wc) M' n) ∧ (∀ M', KC M M' → hrd M' P h L → (∀ i, i < 8 → M' 105 i = ((rwG P (sel0 P h) fr k i : Nat) : Int)) → W5_howManySeenB_40x1 (d + 1) Ψ (k : Nat) (w0, w1, wa, (105, 106), wc) M' n) := by
    intro j
    induction j with
    | zero =>
      intro k hk
      have ek : k = L := by omega
      subst ek
      have hp := p12 k (by omega)
      refine ⟨fun M' hM' ha h8 => v5_howManySeenB_40 ?_, fun M' hM' ha h8 => v5_howManySeenB_40x1 ?_⟩
      · rw [ha.1]
        exact ⟨fun _ => c_sumB _ (12 ^ k) h8 (rwG_le ok _ _ k) (by omega) (q _ M' (Or.inr rfl) hM'), fun c => absurd (Int.le_refl _) c⟩
      · rw [ha.1]
        exact ⟨fun _ => c_sumA _ (12 ^ k) h8 (rwG_le ok _ _ k) (by omega) (q _ M' (Or.inl rfl) hM'), fun c => absurd (Int.le_refl _) c⟩
    | succ j ih =>
      intro k hk
      obtain ⟨ih1, ih2⟩ := ih (k + 1) (by omega)
      have hp := p12 k (by omega)
      refine ⟨?_, ?_⟩
      · intro M' hM' ha h8
        apply v5_howManySeenB_40
        rw [ha.1]
        refine ⟨fun c => absurd c (by omega), fun _ => ?_⟩
        have b2 : ∀ b, b ≤ nB P → ∀ M2, KC M M2 → hrd M2 P h L → (∀ i, i < 8 → M2 106 i = ((rwG P (sel0 P h) fr k i : Nat) : Int)) → (∀ i, i < 8 → M2 105 i = ((stN P (sel0 P h k) (rwG P (sel0 P h) fr k) b i : Nat) : Int)) → W5_howManySeenB_75 (d + 1) Ψ (k : Nat) (b : Nat) (w0, w1, wa, (106, 105), wc) M2 n := by
          refine up (fun M2 hM2 ha2 g1 g2 => ?_) (fun b hb ih3 M2 hM2 ha2 g1 g2 => ?_)
          · apply v5_howManySeenB_75
            have r2 := r.kc hM2
            rw [r2.B, eB, w32_s (by omega)]
            exact ⟨fun _ => e5_swapB (ih2 M2 hM2 ha2 g2), fun c => absurd (Int.le_refl _) c⟩
          · apply v5_howManySeenB_75
            have r2 := r.kc hM2
            have hbt := ok.bit (b := b) (by omega)
            have es : stN P (sel0 P h k) (rwG P (sel0 P h) fr k) (b + 1) = if sel0 P h k b = true then (fun j => if j = toN P b then stN P (sel0 P h k) (rwG P (sel0 P h) fr k) b j + rwG P (sel0 P h) fr k (frN P b) else stN P (sel0 P h k) (rwG P (sel0 P h) fr k) b j) else stN P (sel0 P h k) (rwG P (sel0 P h) fr k) b := rfl
            rw [r2.B, eB, w32_s (k := b) (by omega)]
            simp only [Int.toNat_natCast]
            refine ⟨fun c => absurd c (by omega), fun _ => c_fits k b ha2 (by omega) hL hb r2 ok ?_⟩
            rw [r2.to (by omega), r2.from (by omega)]
            refine br (fun e3 => ?_) (fun e3 => ⟨by omega, by omega, by omega, by omega, ⟨by omega, by omega, trivial⟩, ?_⟩)
            · rw [e3, if_neg (by decide)] at es
              exact ih3 M2 hM2 ha2 g1 (by rw [es]; exact g2)
            · have hfr' : frN P b < 8 := by unfold frN; omega
              have hto' : toN P b < 8 := by unfold toN; omega
              have l1 := stN_le (P := P) (sel := sel0 P h k) (rwG_le ok (sel0 P h) fr k) b (toN P b)
              have l2 := rwG_le ok (sel0 P h) fr k (frN P b)
              have l3 : b * 12 ^ k ≤ 12 * 12 ^ k := Nat.mul_le_mul_right _ (by omega)
              have e1 : M2 105 (P (25 + b)).toNat = ((stN P (sel0 P h k) (rwG P (sel0 P h) fr k) b (toN P b) : Nat) : Int) := g2 _ hto'
              have e2 : M2 106 (P (13 + b)).toNat = ((rwG P (sel0 P h) fr k (frN P b) : Nat) : Int) := g1 _ hfr'
              rw [e1, e2, w64_id (by omega) (by omega)]
              refine ih3 _ (hM2.trans (KC.set (by omega))) (ha2.congr (sI_row (by omega)) (sI_row (by omega))) (fun i hi => by rw [sI_row (by omega)]; exact g1 i hi) (fun i hi => ?_)
              rw [sI_if, es, if_pos e3]
              by_cases c4 : i = toN P b
              · have c5 : i = (P (25 + b)).toNat := c4
                rw [if_pos c5, if_pos c4, c4]; omega
              · have c5 : ¬ (i = (P (25 + b)).toNat) := c4
                rw [if_neg c5, if_neg c4]; exact g2 i hi
        have b1 : ∀ m, m ≤ 8 → ∀ M2, KC M M2 → hrd M2 P h L → (∀ i, i < 8 → M2 106 i = ((rwG P (sel0 P h) fr k i : Nat) : Int)) → (∀ i, i < m → M2 105 i = 0) → W5_howManySeenB_51 (d + 1) Ψ (k : Nat) (m : Nat) (w0, w1, wa, (106, 105), wc) M2 n := by
          refine up (fun M2 hM2 ha2 g1 g2 => ?_) (fun m hm ih3 M2 hM2 ha2 g1 g2 => ?_)
          · exact v5_howManySeenB_51 ⟨fun _ => b2 0 (Nat.zero_le _) M2 hM2 ha2 g1 g2, fun c => absurd (by decide) c⟩
          · apply v5_howManySeenB_51
            rw [w32_s (k := m) (by omega), Int.toNat_natCast]
            refine ⟨fun c => absurd c (by omega), fun _ => ⟨⟨by omega, by omega, trivial⟩, ih3 _ (hM2.trans (KC.set (by omega))) (ha2.congr (sI_row (by omega)) (sI_row (by omega))) (fun i hi => by rw [sI_row (by omega)]; exact g1 i hi) (fun i hi => ?_)⟩⟩
            rw [sI_if]
            by_cases e : i = m
            · rw [if_pos e]
            · rw [if_neg e]; exact g2 i (by omega)
        exact b1 0 (Nat.zero_le _) M' hM' ha h8 (fun i hi => absurd hi (Nat.not_lt_zero i))
      · intro M' hM' ha h8
        apply v5_howManySeenB_40x1
        rw [ha.1]
        refine ⟨fun c => absurd c (by omega), fun _ => ?_⟩
        have b2 : ∀ b, b ≤ nB P → ∀ M2, KC M M2 → hrd M2 P h L → (∀ i, i < 8 → M2 105 i = ((rwG P (sel0 P h) fr k i : Nat) : Int)) → (∀ i, i < 8 → M2 106 i = ((stN P (sel0 P h k) (rwG P (sel0 P h) fr k) b i : Nat) : Int)) → W5_howManySeenB_75x1 (d + 1) Ψ (k : Nat) (b : Nat) (w0, w1, wa, (105, 106), wc) M2 n := by
          refine up (fun M2 hM2 ha2 g1 g2 => ?_) (fun b hb ih3 M2 hM2 ha2 g1 g2 => ?_)
          · apply v5_howManySeenB_75x1
            have r2 := r.kc hM2
            rw [r2.B, eB, w32_s (by omega)]
            exact ⟨fun _ => e5_swapA (ih1 M2 hM2 ha2 g2), fun c => absurd (Int.le_refl _) c⟩
          · apply v5_howManySeenB_75x1
            have r2 := r.kc hM2
            have hbt := ok.bit (b := b) (by omega)
            have es : stN P (sel0 P h k) (rwG P (sel0 P h) fr k) (b + 1) = if sel0 P h k b = true then (fun j => if j = toN P b then stN P (sel0 P h k) (rwG P (sel0 P h) fr k) b j + rwG P (sel0 P h) fr k (frN P b) else stN P (sel0 P h k) (rwG P (sel0 P h) fr k) b j) else stN P (sel0 P h k) (rwG P (sel0 P h) fr k) b := rfl
            rw [r2.B, eB, w32_s (k := b) (by omega)]
            simp only [Int.toNat_natCast]
            refine ⟨fun c => absurd c (by omega), fun _ => c_fits k b ha2 (by omega) hL hb r2 ok ?_⟩
            rw [r2.to (by omega), r2.from (by omega)]
            refine br (fun e3 => ?_) (fun e3 => ⟨by omega, by omega, by omega, by omega, ⟨by omega, by omega, trivial⟩, ?_⟩)
            · rw [e3, if_neg (by decide)] at es
              exact ih3 M2 hM2 ha2 g1 (by rw [es]; exact g2)
            · have hfr' : frN P b < 8 := by unfold frN; omega
              have hto' : toN P b < 8 := by unfold toN; omega
              have l1 := stN_le (P := P) (sel := sel0 P h k) (rwG_le ok (sel0 P h) fr k) b (toN P b)
              have l2 := rwG_le ok (sel0 P h) fr k (frN P b)
              have l3 : b * 12 ^ k ≤ 12 * 12 ^ k := Nat.mul_le_mul_right _ (by omega)
              have e1 : M2 106 (P (25 + b)).toNat = ((stN P (sel0 P h k) (rwG P (sel0 P h) fr k) b (toN P b) : Nat) : Int) := g2 _ hto'
              have e2 : M2 105 (P (13 + b)).toNat = ((rwG P (sel0 P h) fr k (frN P b) : Nat) : Int) := g1 _ hfr'
              rw [e1, e2, w64_id (by omega) (by omega)]
              refine ih3 _ (hM2.trans (KC.set (by omega))) (ha2.congr (sI_row (by omega)) (sI_row (by omega))) (fun i hi => by rw [sI_row (by omega)]; exact g1 i hi) (fun i hi => ?_)
              rw [sI_if, es, if_pos e3]
              by_cases c4 : i = toN P b
              · have c5 : i = (P (25 + b)).toNat := c4
                rw [if_pos c5, if_pos c4, c4]; omega
              · have c5 : ¬ (i = (P (25 + b)).toNat) := c4
                rw [if_neg c5, if_neg c4]; exact g2 i hi
        have b1 : ∀ m, m ≤ 8 → ∀ M2, KC M M2 → hrd M2 P h L → (∀ i, i < 8 → M2 105 i = ((rwG P (sel0 P h) fr k i : Nat) : Int)) → (∀ i, i < m → M2 106 i = 0) → W5_howManySeenB_51x1 (d + 1) Ψ (k : Nat) (m : Nat) (w0, w1, wa, (105, 106), wc) M2 n := by
          refine up (fun M2 hM2 ha2 g1 g2 => ?_) (fun m hm ih3 M2 hM2 ha2 g1 g2 => ?_)
          · exact v5_howManySeenB_51x1 ⟨fun _ => b2 0 (Nat.zero_le _) M2 hM2 ha2 g1 g2, fun c => absurd (by decide) c⟩
          · apply v5_howManySeenB_51x1
            rw [w32_s (k := m) (by omega), Int.toNat_natCast]
            refine ⟨fun c => absurd c (by omega), fun _ => ⟨⟨by omega, by omega, trivial⟩, ih3 _ (hM2.trans (KC.set (by omega))) (ha2.congr (sI_row (by omega)) (sI_row (by omega))) (fun i hi => by rw [sI_row (by omega)]; exact g1 i hi) (fun i hi => ?_)⟩⟩
            rw [sI_if]
            by_cases e : i = m
            · rw [if_pos e]
            · rw [if_neg e]; exact g2 i (by omega)
        exact b1 0 (Nat.zero_le _) M' hM' ha h8 (fun i hi => absurd hi (Nat.not_lt_zero i))
  have init : ∀ k, k ≤ 8 → ∀ M', KC M M' → hrd M' P h L → (∀ i, i < k → M' 106 i = ((rwG P (sel0 P h) fr 0 i : Nat) : Int)) → W5_howManySeenB_10 (d + 1) Ψ (fr : Nat) (k : Nat) (w0, w1, wa, (106, 105), wc) M' n := by
    refine up (fun M' hM' ha h8 => ?_) (fun k hk ih M' hM' ha h8 => ?_)
    · exact v5_howManySeenB_10 ⟨fun _ => (key L 0 (by omega)).1 M' hM' ha h8, fun c => absurd (by decide) c⟩
    · apply v5_howManySeenB_10
      rw [w32_s (by omega), Int.toNat_natCast]
      have e0 : rwG P (sel0 P h) fr 0 k = if k = fr then 1 else 0 := rfl
      refine ⟨fun c => absurd c (by omega), fun _ => ⟨fun c => ⟨⟨by omega, by omega, trivial⟩, ih _ (hM'.trans (KC.set (by omega))) (ha.congr (sI_row (by omega)) (sI_row (by omega))) (fun i hi => ?_)⟩, fun c => ⟨⟨by omega, by omega, trivial⟩, ih _ (hM'.trans (KC.set (by omega))) (ha.congr (sI_row (by omega)) (sI_row (by omega))) (fun i hi => ?_)⟩⟩⟩
      · rw [sI_if]
        by_cases e : i = k
        · rw [if_pos e, e, e0, if_neg (by omega)]; rfl
        · rw [if_neg e]; exact h8 i (by omega)
      · rw [sI_if]
        by_cases e : i = k
        · rw [if_pos e, e, e0, if_pos (by omega)]; rfl
        · rw [if_neg e]; exact h8 i (by omega)
  exact e5_howManySeenB (init 0 (Nat.zero_le _) M (KC.refl M) a (fun i hi => absurd hi (Nat.not_lt_zero i)))

theorem c_howManyToldA {w0 w1 : Nat} {wa : Nat × Nat} {wc : (Nat × Nat) × (Bool × Bool) × (Nat → Bool) × (Nat → Nat)} (L : Nat) (h : Nat → Int) (hL : L ≤ 12) (hL1 : 1 ≤ L) (hr : ∀ k, k < L → 0 ≤ h k ∧ h k < P 3) (a : hrd M P h L) (r : relW M P) (ok : okP P) (q : ∀ p M', okR p → KC M M' → Ψ (telS P h L : Nat) (w0, w1, wa, p, wc) M' n) : CW (d + 5) 58 [(2, 15)] (w0, w1, wa, (105, 106), wc) M n Ψ := by
  obtain ⟨eF, hF1, hF2⟩ := ok.nFe
  have hB := ok.B
  have who : ∀ k, k < L → ∀ f, f < 8 → whoS P (h k).toNat / 2 ^ f % 2 = if can0 P h k f then 1 else 0 := by
    intro k hk f hf
    unfold can0 mayB whoS
    by_cases c : f < nF P
    · rw [msk_bit _ _ _ c, decide_eq_true c, Bool.true_and]
    · rw [decide_eq_false c, Bool.false_and, Nat.div_eq_of_lt (Nat.lt_of_lt_of_le (msk_lt _ _) (Nat.pow_le_pow_right (by omega) (by omega)))]
      rfl
  have whl : ∀ k, whoS P (h k).toNat < 256 := fun k => msk_lt8 _ hF2
  have key : ∀ j k, k + j = L → 1 ≤ k → (∀ M', KC M M' → hrd M' P h L → (∀ i, i < 8 → M' 105 i = ((tlG (can0 P h) (k - 1) i : Nat) : Int)) → W5_howManyToldA_42 (d + 4) Ψ (k : Nat) (w0, w1, wa, (105, 106), wc) M' n) ∧ (∀ M', KC M M' → hrd M' P h L → (∀ i, i < 8 → M' 106 i = ((tlG (can0 P h) (k - 1) i : Nat) : Int)) → W5_howManyToldA_42x1 (d + 4) Ψ (k : Nat) (w0, w1, wa, (106, 105), wc) M' n) := by
    intro j
    induction j with
    | zero =>
      intro k hk hk1
      have ek : k = L := by omega
      subst ek
      have hp := p8 (k - 1) (by omega)
      refine ⟨fun M' hM' ha h8 => v5_howManyToldA_42 ?_, fun M' hM' ha h8 => v5_howManyToldA_42x1 ?_⟩
      · rw [ha.1]
        exact ⟨fun _ => c_sumA _ (8 ^ (k - 1)) h8 (tlG_le _ (k - 1)) (by omega) (q _ M' (Or.inl rfl) hM'), fun c => absurd (Int.le_refl _) c⟩
      · rw [ha.1]
        exact ⟨fun _ => c_sumB _ (8 ^ (k - 1)) h8 (tlG_le _ (k - 1)) (by omega) (q _ M' (Or.inr rfl) hM'), fun c => absurd (Int.le_refl _) c⟩
    | succ j ih =>
      intro k hk hk1
      obtain ⟨ih1, ih2⟩ := ih (k + 1) (by omega) (by omega)
      rw [show k + 1 - 1 = k by omega] at ih1 ih2
      have hp := p8 (k - 1) (by omega)
      have es : ∀ f, tlG (can0 P h) k f = if can0 P h k f = true then smN (tlG (can0 P h) (k - 1)) 8 - tlG (can0 P h) (k - 1) f else 0 := by
        intro f
        have e5 : k = (k - 1) + 1 := by omega
        rw [e5]
        rfl
      have hrk := hr k (by omega)
      refine ⟨?_, ?_⟩
      · intro M' hM' ha h8
        apply v5_howManyToldA_42
        rw [ha.1, Int.toNat_natCast, ha.2.2 k (by omega), show h k = (((h k).toNat : Nat) : Int) by omega]
        refine ⟨fun c => absurd c (by omega), fun _ => ⟨by omega, sp_allowedFarms _ (r.kc hM') ok (by omega) (fun M2 h2 => ?_)⟩⟩
        have ha2 : hrd M2 P h L := ha.congr (h2 15 (by omega) (by omega)) (h2 104 (by omega) (by omega))
        have h82 : ∀ i, i < 8 → M2 105 i = ((tlG (can0 P h) (k - 1) i : Nat) : Int) := fun i hi => by rw [h2 105 (by omega) (by omega)]; exact h8 i hi
        refine c_sumA _ (8 ^ (k - 1)) h82 (tlG_le _ (k - 1)) (by omega) ?_
        have wl := whl k
        have b1 : ∀ m, m ≤ 8 → ∀ M3, KC M M3 → hrd M3 P h L → (∀ i, i < 8 → M3 105 i = ((tlG (can0 P h) (k - 1) i : Nat) : Int)) → (∀ i, i < m → M3 106 i = ((tlG (can0 P h) k i : Nat) : Int)) → W5_howManyToldA_73 (d + 4) Ψ (k : Nat) (whoS P (h k).toNat : Nat) (smN (tlG (can0 P h) (k - 1)) 8 : Nat) (m : Nat) (w0, w1, wa, (105, 106), wc) M3 n := by
          refine up (fun M3 hM3 ha3 g1 g2 => ?_) (fun m hm ih3 M3 hM3 ha3 g1 g2 => ?_)
          · apply v5_howManyToldA_73
            rw [w32_s (k := k) (by omega)]
            exact ⟨fun _ => e5_swapA (ih2 M3 hM3 ha3 g2), fun c => absurd (by decide) c⟩
          · apply v5_howManyToldA_73
            have l1 := smN_one (f := tlG (can0 P h) (k - 1)) (c := m) 8 hm
            have l2 := smN_le (f := tlG (can0 P h) (k - 1)) (B := 8 ^ (k - 1)) 8 (fun g _ => tlG_le _ (k - 1) g)
            rw [w32_s (k := m) (by omega), Int.toNat_natCast, m_bit (by omega) (by omega), who k (by omega) m hm, g1 m hm]
            have put : ∀ v : Int, v = ((tlG (can0 P h) k m : Nat) : Int) → W5_howManyToldA_73 (d + 4) Ψ (k : Nat) (whoS P (h k).toNat : Nat) (smN (tlG (can0 P h) (k - 1)) 8 : Nat) ((m + 1 : Nat) : Int) (w0, w1, wa, (105, 106), wc) (sI M3 106 m v) n := by
              intro v hv
              refine ih3 _ (hM3.trans (KC.set (by omega))) (ha3.congr (sI_row (by omega)) (sI_row (by omega))) (fun i hi => by rw [sI_row (by omega)]; exact g1 i hi) (fun i hi => ?_)
              rw [sI_if]
              by_cases e : i = m
              · rw [if_pos e, e, hv]
              · rw [if_neg e]; exact g2 i (by omega)
            have em := es m
            cases ec : can0 P h k m with
            | false =>
              rw [ec, if_neg (by decide)] at em
              exact ⟨fun c => absurd c (by omega), fun _ => ⟨fun _ => ⟨⟨by omega, by omega, trivial⟩, put 0 (by rw [em]; rfl)⟩, fun c => absurd rfl c⟩⟩
            | true =>
              rw [ec, if_pos rfl] at em
              exact ⟨fun c => absurd c (by omega), fun _ => ⟨fun c => absurd c (by decide), fun _ => ⟨by omega, ⟨by omega, by omega, trivial⟩, put _ (by rw [em, w64_id (by omega) (by omega)]; omega)⟩⟩⟩
        exact b1 0 (Nat.zero_le _) M2 (hM'.trans (KC.of43 h2)) ha2 h82 (fun i hi => absurd hi (Nat.not_lt_zero i))
      · intro M' hM' ha h8
        apply v5_howManyToldA_42x1
        rw [ha.1, Int.toNat_natCast, ha.2.2 k (by omega), show h k = (((h k).toNat : Nat) : Int) by omega]
        refine ⟨fun c => absurd c (by omega), fun _ => ⟨by omega, sp_allowedFarms _ (r.kc hM') ok (by omega) (fun M2 h2 => ?_)⟩⟩
        have ha2 : hrd M2 P h L := ha.congr (h2 15 (by omega) (by omega)) (h2 104 (by omega) (by omega))
        have h82 : ∀ i, i < 8 → M2 106 i = ((tlG (can0 P h) (k - 1) i : Nat) : Int) := fun i hi => by rw [h2 106 (by omega) (by omega)]; exact h8 i hi
        refine c_sumB _ (8 ^ (k - 1)) h82 (tlG_le _ (k - 1)) (by omega) ?_
        have wl := whl k
        have b1 : ∀ m, m ≤ 8 → ∀ M3, KC M M3 → hrd M3 P h L → (∀ i, i < 8 → M3 106 i = ((tlG (can0 P h) (k - 1) i : Nat) : Int)) → (∀ i, i < m → M3 105 i = ((tlG (can0 P h) k i : Nat) : Int)) → W5_howManyToldA_73x1 (d + 4) Ψ (k : Nat) (whoS P (h k).toNat : Nat) (smN (tlG (can0 P h) (k - 1)) 8 : Nat) (m : Nat) (w0, w1, wa, (106, 105), wc) M3 n := by
          refine up (fun M3 hM3 ha3 g1 g2 => ?_) (fun m hm ih3 M3 hM3 ha3 g1 g2 => ?_)
          · apply v5_howManyToldA_73x1
            rw [w32_s (k := k) (by omega)]
            exact ⟨fun _ => e5_swapB (ih1 M3 hM3 ha3 g2), fun c => absurd (by decide) c⟩
          · apply v5_howManyToldA_73x1
            have l1 := smN_one (f := tlG (can0 P h) (k - 1)) (c := m) 8 hm
            have l2 := smN_le (f := tlG (can0 P h) (k - 1)) (B := 8 ^ (k - 1)) 8 (fun g _ => tlG_le _ (k - 1) g)
            rw [w32_s (k := m) (by omega), Int.toNat_natCast, m_bit (by omega) (by omega), who k (by omega) m hm, g1 m hm]
            have put : ∀ v : Int, v = ((tlG (can0 P h) k m : Nat) : Int) → W5_howManyToldA_73x1 (d + 4) Ψ (k : Nat) (whoS P (h k).toNat : Nat) (smN (tlG (can0 P h) (k - 1)) 8 : Nat) ((m + 1 : Nat) : Int) (w0, w1, wa, (106, 105), wc) (sI M3 105 m v) n := by
              intro v hv
              refine ih3 _ (hM3.trans (KC.set (by omega))) (ha3.congr (sI_row (by omega)) (sI_row (by omega))) (fun i hi => by rw [sI_row (by omega)]; exact g1 i hi) (fun i hi => ?_)
              rw [sI_if]
              by_cases e : i = m
              · rw [if_pos e, e, hv]
              · rw [if_neg e]; exact g2 i (by omega)
            have em := es m
            cases ec : can0 P h k m with
            | false =>
              rw [ec, if_neg (by decide)] at em
              exact ⟨fun c => absurd c (by omega), fun _ => ⟨fun _ => ⟨⟨by omega, by omega, trivial⟩, put 0 (by rw [em]; rfl)⟩, fun c => absurd rfl c⟩⟩
            | true =>
              rw [ec, if_pos rfl] at em
              exact ⟨fun c => absurd c (by omega), fun _ => ⟨fun c => absurd c (by decide), fun _ => ⟨by omega, ⟨by omega, by omega, trivial⟩, put _ (by rw [em, w64_id (by omega) (by omega)]; omega)⟩⟩⟩
        exact b1 0 (Nat.zero_le _) M2 (hM'.trans (KC.of43 h2)) ha2 h82 (fun i hi => absurd hi (Nat.not_lt_zero i))
  have ew : M 104 0 = ((h 0).toNat : Int) := by
    have := hr 0 (by omega)
    rw [a.2.2 0 (by omega)]; omega
  apply e5_howManyToldA
  rw [ew]
  refine sp_allowedFarms _ r ok (by have := hr 0 (by omega); omega) (fun M1 h1 => ?_)
  have wl := whl 0
  have init : ∀ k, k ≤ 8 → ∀ M', KC M M' → hrd M' P h L → (∀ i, i < k → M' 105 i = ((tlG (can0 P h) 0 i : Nat) : Int)) → W5_howManyToldA_16 (d + 4) Ψ (whoS P (h 0).toNat : Nat) (k : Nat) (w0, w1, wa, (105, 106), wc) M' n := by
    refine up (fun M' hM' ha h8 => ?_) (fun k hk ih M' hM' ha h8 => ?_)
    · exact v5_howManyToldA_16 ⟨fun _ => (key (L - 1) 1 (by omega) (by omega)).1 M' hM' ha h8, fun c => absurd (by decide) c⟩
    · apply v5_howManyToldA_16
      rw [w32_s (by omega), Int.toNat_natCast, m_bit (by omega) (by omega), who 0 (by omega) k hk]
      have e0 : tlG (can0 P h) 0 k = if can0 P h 0 k = true then 1 else 0 := rfl
      refine ⟨fun c => absurd c (by omega), fun _ => ⟨⟨by omega, by omega, trivial⟩, ih _ (hM'.trans (KC.set (by omega))) (ha.congr (sI_row (by omega)) (sI_row (by omega))) (fun i hi => ?_)⟩⟩
      rw [sI_if]
      by_cases e : i = k
      · rw [if_pos e, e, e0]
      · rw [if_neg e]; exact h8 i (by omega)
  exact init 0 (Nat.zero_le _) M1 (KC.of43 h1) (a.congr (h1 15 (by omega) (by omega)) (h1 104 (by omega) (by omega))) (fun i hi => absurd hi (Nat.not_lt_zero i))

theorem c_howManyToldB {w0 w1 : Nat} {wa : Nat × Nat} {wc : (Nat × Nat) × (Bool × Bool) × (Nat → Bool) × (Nat → Nat)} (L : Nat) (h : Nat → Int) (hL : L ≤ 12) (hL1 : 1 ≤ L) (hr : ∀ k, k < L → 0 ≤ h k ∧ h k < P 3) (a : hrd M P h L) (r : relW M P) (ok : okP P) (q : ∀ p M', okR p → KC M M' → Ψ (telS P h L : Nat) (w0, w1, wa, p, wc) M' n) : CW (d + 5) 58 [(2, 15)] (w0, w1, wa, (106, 105), wc) M n Ψ := by
  obtain ⟨eF, hF1, hF2⟩ := ok.nFe
  have hB := ok.B
  have who : ∀ k, k < L → ∀ f, f < 8 → whoS P (h k).toNat / 2 ^ f % 2 = if can0 P h k f then 1 else 0 := by
    intro k hk f hf
    unfold can0 mayB whoS
    by_cases c : f < nF P
    · rw [msk_bit _ _ _ c, decide_eq_true c, Bool.true_and]
    · rw [decide_eq_false c, Bool.false_and, Nat.div_eq_of_lt (Nat.lt_of_lt_of_le (msk_lt _ _) (Nat.pow_le_pow_right (by omega) (by omega)))]
      rfl
  have whl : ∀ k, whoS P (h k).toNat < 256 := fun k => msk_lt8 _ hF2
  have key : ∀ j k, k + j = L → 1 ≤ k → (∀ M', KC M M' → hrd M' P h L → (∀ i, i < 8 → M' 106 i = ((tlG (can0 P h) (k - 1) i : Nat) : Int)) → W5_howManyToldB_42 (d + 4) Ψ (k : Nat) (w0, w1, wa, (106, 105), wc) M' n) ∧ (∀ M', KC M M' → hrd M' P h L → (∀ i, i < 8 → M' 105 i = ((tlG (can0 P h) (k - 1) i : Nat) : Int)) → W5_howManyToldB_42x1 (d + 4) Ψ (k : Nat) (w0, w1, wa, (105, 106), wc) M' n) := by
    intro j
    induction j with
    | zero =>
      intro k hk hk1
      have ek : k = L := by omega
      subst ek
      have hp := p8 (k - 1) (by omega)
      refine ⟨fun M' hM' ha h8 => v5_howManyToldB_42 ?_, fun M' hM' ha h8 => v5_howManyToldB_42x1 ?_⟩
      · rw [ha.1]
        exact ⟨fun _ => c_sumB _ (8 ^ (k - 1)) h8 (tlG_le _ (k - 1)) (by omega) (q _ M' (Or.inr rfl) hM'), fun c => absurd (Int.le_refl _) c⟩
      · rw [ha.1]
        exact ⟨fun _ => c_sumA _ (8 ^ (k - 1)) h8 (tlG_le _ (k - 1)) (by omega) (q _ M' (Or.inl rfl) hM'), fun c => absurd (Int.le_refl _) c⟩
    | succ j ih =>
      intro k hk hk1
      obtain ⟨ih1, ih2⟩ := ih (k + 1) (by omega) (by omega)
      rw [show k + 1 - 1 = k by omega] at ih1 ih2
      have hp := p8 (k - 1) (by omega)
      have es : ∀ f, tlG (can0 P h) k f = if can0 P h k f = true then smN (tlG (can0 P h) (k - 1)) 8 - tlG (can0 P h) (k - 1) f else 0 := by
        intro f
        have e5 : k = (k - 1) + 1 := by omega
        rw [e5]
        rfl
      have hrk := hr k (by omega)
      refine ⟨?_, ?_⟩
      · intro M' hM' ha h8
        apply v5_howManyToldB_42
        rw [ha.1, Int.toNat_natCast, ha.2.2 k (by omega), show h k = (((h k).toNat : Nat) : Int) by omega]
        refine ⟨fun c => absurd c (by omega), fun _ => ⟨by omega, sp_allowedFarms _ (r.kc hM') ok (by omega) (fun M2 h2 => ?_)⟩⟩
        have ha2 : hrd M2 P h L := ha.congr (h2 15 (by omega) (by omega)) (h2 104 (by omega) (by omega))
        have h82 : ∀ i, i < 8 → M2 106 i = ((tlG (can0 P h) (k - 1) i : Nat) : Int) := fun i hi => by rw [h2 106 (by omega) (by omega)]; exact h8 i hi
        refine c_sumB _ (8 ^ (k - 1)) h82 (tlG_le _ (k - 1)) (by omega) ?_
        have wl := whl k
        have b1 : ∀ m, m ≤ 8 → ∀ M3, KC M M3 → hrd M3 P h L → (∀ i, i < 8 → M3 106 i = ((tlG (can0 P h) (k - 1) i : Nat) : Int)) → (∀ i, i < m → M3 105 i = ((tlG (can0 P h) k i : Nat) : Int)) → W5_howManyToldB_73 (d + 4) Ψ (k : Nat) (whoS P (h k).toNat : Nat) (smN (tlG (can0 P h) (k - 1)) 8 : Nat) (m : Nat) (w0, w1, wa, (106, 105), wc) M3 n := by
          refine up (fun M3 hM3 ha3 g1 g2 => ?_) (fun m hm ih3 M3 hM3 ha3 g1 g2 => ?_)
          · apply v5_howManyToldB_73
            rw [w32_s (k := k) (by omega)]
            exact ⟨fun _ => e5_swapB (ih2 M3 hM3 ha3 g2), fun c => absurd (by decide) c⟩
          · apply v5_howManyToldB_73
            have l1 := smN_one (f := tlG (can0 P h) (k - 1)) (c := m) 8 hm
            have l2 := smN_le (f := tlG (can0 P h) (k - 1)) (B := 8 ^ (k - 1)) 8 (fun g _ => tlG_le _ (k - 1) g)
            rw [w32_s (k := m) (by omega), Int.toNat_natCast, m_bit (by omega) (by omega), who k (by omega) m hm, g1 m hm]
            have put : ∀ v : Int, v = ((tlG (can0 P h) k m : Nat) : Int) → W5_howManyToldB_73 (d + 4) Ψ (k : Nat) (whoS P (h k).toNat : Nat) (smN (tlG (can0 P h) (k - 1)) 8 : Nat) ((m + 1 : Nat) : Int) (w0, w1, wa, (106, 105), wc) (sI M3 105 m v) n := by
              intro v hv
              refine ih3 _ (hM3.trans (KC.set (by omega))) (ha3.congr (sI_row (by omega)) (sI_row (by omega))) (fun i hi => by rw [sI_row (by omega)]; exact g1 i hi) (fun i hi => ?_)
              rw [sI_if]
              by_cases e : i = m
              · rw [if_pos e, e, hv]
              · rw [if_neg e]; exact g2 i (by omega)
            have em := es m
            cases ec : can0 P h k m with
            | false =>
              rw [ec, if_neg (by decide)] at em
              exact ⟨fun c => absurd c (by omega), fun _ => ⟨fun _ => ⟨⟨by omega, by omega, trivial⟩, put 0 (by rw [em]; rfl)⟩, fun c => absurd rfl c⟩⟩
            | true =>
              rw [ec, if_pos rfl] at em
              exact ⟨fun c => absurd c (by omega), fun _ => ⟨fun c => absurd c (by decide), fun _ => ⟨by omega, ⟨by omega, by omega, trivial⟩, put _ (by rw [em, w64_id (by omega) (by omega)]; omega)⟩⟩⟩
        exact b1 0 (Nat.zero_le _) M2 (hM'.trans (KC.of43 h2)) ha2 h82 (fun i hi => absurd hi (Nat.not_lt_zero i))
      · intro M' hM' ha h8
        apply v5_howManyToldB_42x1
        rw [ha.1, Int.toNat_natCast, ha.2.2 k (by omega), show h k = (((h k).toNat : Nat) : Int) by omega]
        refine ⟨fun c => absurd c (by omega), fun _ => ⟨by omega, sp_allowedFarms _ (r.kc hM') ok (by omega) (fun M2 h2 => ?_)⟩⟩
        have ha2 : hrd M2 P h L := ha.congr (h2 15 (by omega) (by omega)) (h2 104 (by omega) (by omega))
        have h82 : ∀ i, i < 8 → M2 105 i = ((tlG (can0 P h) (k - 1) i : Nat) : Int) := fun i hi => by rw [h2 105 (by omega) (by omega)]; exact h8 i hi
        refine c_sumA _ (8 ^ (k - 1)) h82 (tlG_le _ (k - 1)) (by omega) ?_
        have wl := whl k
        have b1 : ∀ m, m ≤ 8 → ∀ M3, KC M M3 → hrd M3 P h L → (∀ i, i < 8 → M3 105 i = ((tlG (can0 P h) (k - 1) i : Nat) : Int)) → (∀ i, i < m → M3 106 i = ((tlG (can0 P h) k i : Nat) : Int)) → W5_howManyToldB_73x1 (d + 4) Ψ (k : Nat) (whoS P (h k).toNat : Nat) (smN (tlG (can0 P h) (k - 1)) 8 : Nat) (m : Nat) (w0, w1, wa, (105, 106), wc) M3 n := by
          refine up (fun M3 hM3 ha3 g1 g2 => ?_) (fun m hm ih3 M3 hM3 ha3 g1 g2 => ?_)
          · apply v5_howManyToldB_73x1
            rw [w32_s (k := k) (by omega)]
            exact ⟨fun _ => e5_swapA (ih1 M3 hM3 ha3 g2), fun c => absurd (by decide) c⟩
          · apply v5_howManyToldB_73x1
            have l1 := smN_one (f := tlG (can0 P h) (k - 1)) (c := m) 8 hm
            have l2 := smN_le (f := tlG (can0 P h) (k - 1)) (B := 8 ^ (k - 1)) 8 (fun g _ => tlG_le _ (k - 1) g)
            rw [w32_s (k := m) (by omega), Int.toNat_natCast, m_bit (by omega) (by omega), who k (by omega) m hm, g1 m hm]
            have put : ∀ v : Int, v = ((tlG (can0 P h) k m : Nat) : Int) → W5_howManyToldB_73x1 (d + 4) Ψ (k : Nat) (whoS P (h k).toNat : Nat) (smN (tlG (can0 P h) (k - 1)) 8 : Nat) ((m + 1 : Nat) : Int) (w0, w1, wa, (105, 106), wc) (sI M3 106 m v) n := by
              intro v hv
              refine ih3 _ (hM3.trans (KC.set (by omega))) (ha3.congr (sI_row (by omega)) (sI_row (by omega))) (fun i hi => by rw [sI_row (by omega)]; exact g1 i hi) (fun i hi => ?_)
              rw [sI_if]
              by_cases e : i = m
              · rw [if_pos e, e, hv]
              · rw [if_neg e]; exact g2 i (by omega)
            have em := es m
            cases ec : can0 P h k m with
            | false =>
              rw [ec, if_neg (by decide)] at em
              exact ⟨fun c => absurd c (by omega), fun _ => ⟨fun _ => ⟨⟨by omega, by omega, trivial⟩, put 0 (by rw [em]; rfl)⟩, fun c => absurd rfl c⟩⟩
            | true =>
              rw [ec, if_pos rfl] at em
              exact ⟨fun c => absurd c (by omega), fun _ => ⟨fun c => absurd c (by decide), fun _ => ⟨by omega, ⟨by omega, by omega, trivial⟩, put _ (by rw [em, w64_id (by omega) (by omega)]; omega)⟩⟩⟩
        exact b1 0 (Nat.zero_le _) M2 (hM'.trans (KC.of43 h2)) ha2 h82 (fun i hi => absurd hi (Nat.not_lt_zero i))
  have ew : M 104 0 = ((h 0).toNat : Int) := by
    have := hr 0 (by omega)
    rw [a.2.2 0 (by omega)]; omega
  apply e5_howManyToldB
  rw [ew]
  refine sp_allowedFarms _ r ok (by have := hr 0 (by omega); omega) (fun M1 h1 => ?_)
  have wl := whl 0
  have init : ∀ k, k ≤ 8 → ∀ M', KC M M' → hrd M' P h L → (∀ i, i < k → M' 106 i = ((tlG (can0 P h) 0 i : Nat) : Int)) → W5_howManyToldB_16 (d + 4) Ψ (whoS P (h 0).toNat : Nat) (k : Nat) (w0, w1, wa, (106, 105), wc) M' n := by
    refine up (fun M' hM' ha h8 => ?_) (fun k hk ih M' hM' ha h8 => ?_)
    · exact v5_howManyToldB_16 ⟨fun _ => (key (L - 1) 1 (by omega) (by omega)).1 M' hM' ha h8, fun c => absurd (by decide) c⟩
    · apply v5_howManyToldB_16
      rw [w32_s (by omega), Int.toNat_natCast, m_bit (by omega) (by omega), who 0 (by omega) k hk]
      have e0 : tlG (can0 P h) 0 k = if can0 P h 0 k = true then 1 else 0 := rfl
      refine ⟨fun c => absurd c (by omega), fun _ => ⟨⟨by omega, by omega, trivial⟩, ih _ (hM'.trans (KC.set (by omega))) (ha.congr (sI_row (by omega)) (sI_row (by omega))) (fun i hi => ?_)⟩⟩
      rw [sI_if]
      by_cases e : i = k
      · rw [if_pos e, e, e0]
      · rw [if_neg e]; exact h8 i (by omega)
  exact init 0 (Nat.zero_le _) M1 (KC.of43 h1) (a.congr (h1 15 (by omega) (by omega)) (h1 104 (by omega) (by omega))) (fun i hi => absurd hi (Nat.not_lt_zero i))

theorem c_rows (t f : Int) (hw : okR w.2.2.2.1) (r : relW M P) (rt : relT M S Z U) (ok : okP P) (q : ∀ p M', okR p → KC M M' → Ψ (zRows P S Z U t f) (wRow w p) M' n) : CW (d + 7) 159 [(2, 1), (0, t), (0, f)] w M n Ψ := by
  have hMo := ok.Mo
  unfold zRows at q
  refine e11_rows (c_takeSeen t f r rt ok (fun M1 h1 ha => ⟨fun c => ?_, fun c => ?_⟩))
  · rw [if_pos c] at q
    obtain ⟨c1, c2, c3, c4⟩ := noS_0 hMo.2 c
    have r1 := r.kc h1
    rw [show f = (f.toNat : Int) by omega]
    obtain ⟨w0, w1, wa, p, wb⟩ := w
    rcases hw with hw | hw
    · have hw : p = (105, 106) := hw
      subst hw
      exact c_howManySeenA _ _ _ (by omega) (by omega) (ha c) r1 ok (fun p M' hp hk => q p M' hp (h1.trans hk))
    · have hw : p = (106, 105) := hw
      subst hw
      exact c_howManySeenB _ _ _ (by omega) (by omega) (ha c) r1 ok (fun p M' hp hk => q p M' hp (h1.trans hk))
  · rw [if_neg c] at q
    have q' := q w.2.2.2.1 M1 hw h1
    exact q'
theorem c_tellers (t : Int) (hw : okR w.2.2.2.1) (r : relW M P) (rt : relT M S Z U) (ok : okP P) (q : ∀ p M', okR p → KC M M' → Ψ (zTellers P S Z U t) (wRow w p) M' n) : CW (d + 7) 162 [(2, 1), (0, t)] w M n Ψ := by
  unfold zTellers at q
  refine e11_tellers (c_takeTold t r rt ok (fun M1 h1 ha => ⟨fun c => ?_, fun c => ?_⟩))
  · rw [if_pos c] at q
    obtain ⟨c1, c2, c3⟩ := noR_bits c
    have r1 := r.kc h1
    obtain ⟨w0, w1, wa, p, wb⟩ := w
    rcases hw with hw | hw
    · have hw : p = (105, 106) := hw
      subst hw
      exact c_howManyToldA _ _ (by omega) (by omega) c3 (ha c) r1 ok (fun p M' hp hk => q p M' hp (h1.trans hk))
    · have hw : p = (106, 105) := hw
      subst hw
      exact c_howManyToldB _ _ (by omega) (by omega) c3 (ha c) r1 ok (fun p M' hp hk => q p M' hp (h1.trans hk))
  · rw [if_neg c] at q
    have q' := q w.2.2.2.1 M1 hw h1
    exact q'
end
