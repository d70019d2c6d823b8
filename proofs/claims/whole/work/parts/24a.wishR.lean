/-! ===== wishes, snow, ends, reach: what is answered; the reference ===== -/
def anyB (p : Nat → Bool) : Nat → Bool
  | 0 => false
  | k + 1 => anyB p k || p k
theorem anyB_iff (p : Nat → Bool) : ∀ n, anyB p n = true ↔ ∃ k, k < n ∧ p k = true
  | 0 => ⟨fun h => (by cases h), fun ⟨k, h, _⟩ => absurd h (Nat.not_lt_zero k)⟩
  | n + 1 => by
    show (anyB p n || p n) = true ↔ _
    rw [Bool.or_eq_true, anyB_iff p n]
    constructor
    · rintro (⟨k, h1, h2⟩ | h)
      · exact ⟨k, by omega, h2⟩
      · exact ⟨n, by omega, h⟩
    · rintro ⟨k, h1, h2⟩
      by_cases c : k = n
      · exact Or.inr (c ▸ h2)
      · exact Or.inl ⟨k, by omega, h2⟩
theorem or_b2i (a b : Bool) : m_or (b2i a) (b2i b) = b2i (a || b) := by
  have h := (and01 (b2i_or a) (b2i_or b)).2.1
  rw [h]
  cases a <;> cases b <;> rfl
theorem or_b2i0 (a : Bool) : m_or (b2i a) 0 = b2i a := by
  have := or_b2i a false
  rw [Bool.or_false] at this
  exact this
theorem or_b2i1 (a : Bool) : m_or (b2i a) 1 = b2i true := by
  have := or_b2i a true
  rw [Bool.or_true] at this
  exact this
def lessT (P : Nat → Int) (m f : Nat) : Bool := decide (lks P f m < lks P f (P (68 + f)).toNat)
def moreT (P : Nat → Int) (m f : Nat) : Bool := decide (lks P f (P (68 + f)).toNat < lks P f m)
def btT (P : Nat → Int) (m : Nat) : Bool := anyB (moreT P m) (nF P) && !(anyB (lessT P m) (nF P))
def lstK (P : Nat → Int) (m : Nat) (I : Int) : Nat → Int
  | 0 => I
  | k + 1 => if lks P k m < lstK P m I k then lks P k m else lstK P m I k
def lst (P : Nat → Int) (m : Nat) : Int := lstK P m 1000000 (nF P)
theorem lks_b {P : Nat → Int} (ok : okP P) {f m : Nat} (hf : f < 8) (hm : m < 8) : -1000000 ≤ lks P f m ∧ lks P f m ≤ 1000000 := by
  unfold lks
  by_cases c : P 6 = 0
  · rw [if_pos c]; split <;> omega
  · rw [if_neg c]
    obtain ⟨_, _, _, _, h5⟩ := okL.all ok (l := 2) (by omega) c
    have hv := tyk_vs (ws := wsL P f m) (fun x _ => wsL_b ok hf hm x) _ h5
    unfold lawV
    cases hs : stk (cdP P 2) (wsL P f m) (mnP P 2) with
    | nil => exact ⟨by decide, by decide⟩
    | cons v r =>
      rw [hs] at hv
      exact hv.1
theorem lst_eq {P : Nat → Int} (ok : okP P) {m : Nat} (hm : m < 8) : ∀ k, k < 8 → lstK P m 268435456 (k + 1) = lstK P m 1000000 (k + 1)
  | 0, _ => by
    have := lks_b ok (f := 0) (by omega) hm
    show (if lks P 0 m < 268435456 then lks P 0 m else 268435456) = if lks P 0 m < 1000000 then lks P 0 m else 1000000
    rw [if_pos (by omega)]
    split <;> omega
  | k + 1, h => by
    show (if lks P (k + 1) m < lstK P m 268435456 (k + 1) then lks P (k + 1) m else lstK P m 268435456 (k + 1)) = if lks P (k + 1) m < lstK P m 1000000 (k + 1) then lks P (k + 1) m else lstK P m 1000000 (k + 1)
    rw [lst_eq ok hm k (by omega)]
def frB (P : Nat → Int) : Nat → Nat
  | 0 => 0
  | k + 1 => if lst P (frB P k) < lst P k then k else frB P k
theorem frB_lt (P : Nat → Int) : ∀ k, frB P (k + 1) ≤ k
  | 0 => by show (if lst P 0 < lst P 0 then 0 else 0) ≤ 0; split <;> omega
  | k + 1 => by
    have := frB_lt P k
    show (if lst P (frB P (k + 1)) < lst P (k + 1) then k + 1 else frB P (k + 1)) ≤ k + 1
    split <;> omega
/-- how likely no wire between two is cut, of ten to the number of wires -/
def wpK (P : Nat → Int) (f g : Nat) : Nat → Nat
  | 0 => 1
  | k + 1 => if inS (wrs f g) k = true then wpK P f g k * (if inS (P 67).toNat k = true then 0 else (10 - P (57 + k)).toNat) else wpK P f g k
theorem wpK_le {P : Nat → Int} (ok : okP P) (f g : Nat) : ∀ k, k ≤ 8 → wpK P f g k ≤ 10 ^ k
  | 0, _ => by show 1 ≤ 1; omega
  | k + 1, h => by
    have ih := wpK_le ok f g k (by omega)
    have hs := (ok.farm (f := k) (by omega)).2
    have e : (10 : Nat) ^ (k + 1) = 10 ^ k * 10 := Nat.pow_succ ..
    show (if inS (wrs f g) k = true then wpK P f g k * (if inS (P 67).toNat k = true then 0 else (10 - P (57 + k)).toNat) else wpK P f g k) ≤ _
    rw [e]
    split
    · refine Nat.mul_le_mul ih ?_
      split <;> omega
    · omega
theorem p10 : ∀ k, k ≤ 8 → 1 ≤ 10 ^ k ∧ 10 ^ k ≤ 100000000 := by decide
theorem wrs_hi : ∀ f, f < 8 → ∀ g, g < 8 → ∀ k, k < 8 → inS (wrs f g) k = true → k < f ∨ k < g := by decide +kernel
theorem wrs_pop : ∀ f, f < 8 → ∀ g, g < 8 → popc 12 (wrs f g) = absN f g := by decide +kernel
theorem wpK_hi {P : Nat → Int} {f g N : Nat} (hf : f ≤ N) (hg : g ≤ N) (hN : N < 8) : ∀ j, N + j ≤ 8 → wpK P f g (N + j) = wpK P f g N
  | 0, _ => rfl
  | j + 1, h => by
    show (if inS (wrs f g) (N + j) = true then _ else wpK P f g (N + j)) = _
    have : ¬ (inS (wrs f g) (N + j) = true) := fun e => by
      have := wrs_hi f (by omega) g (by omega) (N + j) (by omega) e
      omega
    rw [if_neg this]
    exact wpK_hi hf hg hN j (by omega)
theorem gcd_step {a b : Nat} : Nat.gcd b (a % b) = Nat.gcd a b := by
  rw [Nat.gcd_comm b, ← Nat.gcd_rec, Nat.gcd_comm]
theorem half_rem {a b : Nat} (hb : 0 < b) (hr : 0 < a % b) : 2 * (b % (a % b)) < b := by
  have h1 := Nat.mod_lt b hr
  have h2 := Nat.mod_lt a hb
  have h3 := Nat.div_add_mod b (a % b)
  have h4 : 1 ≤ b / (a % b) := Nat.div_pos (by omega) hr
  have h5 : (a % b) * 1 ≤ (a % b) * (b / (a % b)) := Nat.mul_le_mul_left _ h4
  omega
def wB (f g : Nat) : Nat := 10 ^ absN f g
noncomputable def zSnow (P : Nat → Int) (f g x : Int) : Int := if ((0 ≤ f ∧ f < P 1) ∧ (0 ≤ g ∧ g < P 1) ∧ f ≠ g) ∧ 0 ≤ x ∧ x ≤ 1 then (if x = 0 then ((wpK P f.toNat g.toNat 8 / Nat.gcd (wpK P f.toNat g.toNat 8) (wB f.toNat g.toNat) : Nat) : Int) else ((wB f.toNat g.toNat / Nat.gcd (wpK P f.toNat g.toNat 8) (wB f.toNat g.toNat) : Nat) : Int)) else -2
def lfT (P : Nat → Int) (f m g : Nat) : Bool := decide (g ≠ f ∧ m * wB f g ≤ wpK P f g 8 * 100)
def zLeft (P : Nat → Int) (f m : Int) : Int := if 0 ≤ f ∧ f < P 1 then (if 0 ≤ m ∧ m ≤ 100 then (cntB (lfT P f.toNat m.toNat) (nF P) : Nat) else -3) else -2
/-- a bit that can be told leads on from a moment -/
def frT (P : Nat → Int) (m b : Nat) : Bool := useT P b && decide (P (13 + b) = m)
def enT (P : Nat → Int) (m : Nat) : Bool := !(anyB (frT P m) (nB P))
/-- one step of reaching, and k of them -/
def rsK (P : Nat → Int) (s : Nat) : Nat → Nat
  | 0 => s
  | b + 1 => if useT P b = true ∧ inS s (P (13 + b)).toNat = true then rsK P s b ||| 2 ^ (P (25 + b)).toNat else rsK P s b
def rch (P : Nat → Int) (m : Nat) : Nat → Nat
  | 0 => 2 ^ m
  | k + 1 => rsK P (rch P m k) (nB P)
theorem useS_lt {P : Nat → Int} (ok : okP P) : useS P < 4096 := msk_lt12 _ ok.nBe.2
theorem rsK_lt {P : Nat → Int} (ok : okP P) {s : Nat} (hs : s < 256) : ∀ b, b ≤ nB P → rsK P s b < 256
  | 0, _ => hs
  | b + 1, h => by
    have ih := rsK_lt ok hs b (by omega)
    have hb := ok.nBe
    have h1 := ok.bit (b := b) (by omega)
    have h2 := ok.Mo
    have h3 := p2_8 (P (25 + b)).toNat (by omega)
    show (if useT P b = true ∧ inS s (P (13 + b)).toNat = true then rsK P s b ||| 2 ^ (P (25 + b)).toNat else rsK P s b) < 256
    split
    · exact Nat.or_lt_two_pow (n := 8) ih (by omega)
    · exact ih
theorem rch_lt {P : Nat → Int} (ok : okP P) {m : Nat} (hm : m < 8) : ∀ k, rch P m k < 256
  | 0 => by have := p2_8 m hm; show 2 ^ m < 256; omega
  | k + 1 => rsK_lt ok (rch_lt ok hm k) _ (Nat.le_refl _)
theorem rsK_tb (P : Nat → Int) (s j : Nat) : ∀ b, (rsK P s b).testBit j = true ↔ s.testBit j = true ∨ ∃ i, i < b ∧ useT P i = true ∧ inS s (P (13 + i)).toNat = true ∧ j = (P (25 + i)).toNat
  | 0 => by
    constructor
    · intro h; exact Or.inl h
    · rintro (h | ⟨i, h, _⟩)
      · exact h
      · omega
  | b + 1 => by
    have ih := rsK_tb P s j b
    show (if useT P b = true ∧ inS s (P (13 + b)).toNat = true then rsK P s b ||| 2 ^ (P (25 + b)).toNat else rsK P s b).testBit j = true ↔ _
    by_cases c : useT P b = true ∧ inS s (P (13 + b)).toNat = true
    · rw [if_pos c, Nat.testBit_or, Nat.testBit_two_pow, Bool.or_eq_true, decide_eq_true_eq, ih]
      constructor
      · rintro ((h | ⟨i, h1, h2⟩) | h)
        · exact Or.inl h
        · exact Or.inr ⟨i, by omega, h2⟩
        · exact Or.inr ⟨b, by omega, c.1, c.2, h.symm⟩
      · rintro (h | ⟨i, h1, h2, h3, h4⟩)
        · exact Or.inl (Or.inl h)
        · by_cases e : i = b
          · subst e; exact Or.inr h4.symm
          · exact Or.inl (Or.inr ⟨i, by omega, h2, h3, h4⟩)
    · rw [if_neg c, ih]
      constructor
      · rintro (h | ⟨i, h1, h2⟩)
        · exact Or.inl h
        · exact Or.inr ⟨i, by omega, h2⟩
      · rintro (h | ⟨i, h1, h2, h3, h4⟩)
        · exact Or.inl h
        · by_cases e : i = b
          · subst e; exact absurd ⟨h2, h3⟩ c
          · exact Or.inr ⟨i, by omega, h2, h3, h4⟩
theorem bit_le {a b : Nat} (h : ∀ j, a.testBit j = true → b.testBit j = true) (k : Nat) : a / 2 ^ k % 2 ≤ b / 2 ^ k % 2 := by
  have h1 := h k
  rw [Nat.testBit_eq_decide_div_mod_eq, Nat.testBit_eq_decide_div_mod_eq] at h1
  have h2 : a / 2 ^ k % 2 < 2 := Nat.mod_lt _ (by omega)
  by_cases c : a / 2 ^ k % 2 = 1
  · have := of_decide_eq_true (h1 (decide_eq_true c)); omega
  · omega
theorem popc_sub {a b : Nat} (h : ∀ j, a.testBit j = true → b.testBit j = true) : ∀ n, popc n a ≤ popc n b
  | 0 => Nat.le_refl _
  | n + 1 => by
    have := popc_sub h n
    have := bit_le h n
    show popc n a + a / 2 ^ n % 2 ≤ popc n b + b / 2 ^ n % 2
    omega
theorem popc_ssub {a b : Nat} (h : ∀ j, a.testBit j = true → b.testBit j = true) {n : Nat} (ha : a < 2 ^ n) (hb : b < 2 ^ n) (hne : a ≠ b) : popc n a < popc n b := by
  have hex : ∃ k, k < n ∧ a.testBit k ≠ b.testBit k := by
    apply Decidable.byContradiction
    intro c
    apply hne
    apply Nat.eq_of_testBit_eq
    intro i
    by_cases hi : i < n
    · apply Decidable.byContradiction
      intro c2
      exact c ⟨i, hi, c2⟩
    · rw [Nat.testBit_lt_two_pow (Nat.lt_of_lt_of_le ha (Nat.pow_le_pow_right (by omega) (by omega))), Nat.testBit_lt_two_pow (Nat.lt_of_lt_of_le hb (Nat.pow_le_pow_right (by omega) (by omega)))]
  obtain ⟨k, hk, hd⟩ := hex
  have key : ∀ m, k < m → popc m a < popc m b := by
    intro m
    induction m with
    | zero => intro h; omega
    | succ m ih =>
      intro hm
      have h1 := bit_le h m
      show popc m a + a / 2 ^ m % 2 < popc m b + b / 2 ^ m % 2
      by_cases e : k = m
      · subst e
        have h2 := popc_sub h k
        have h3 : a / 2 ^ k % 2 ≠ b / 2 ^ k % 2 := by
          intro e
          apply hd
          rw [Nat.testBit_eq_decide_div_mod_eq, Nat.testBit_eq_decide_div_mod_eq, e]
        omega
      · have := ih (by omega)
        omega
  exact key n hk
theorem rch_sub {P : Nat → Int} {m k j : Nat} (h : (rch P m k).testBit j = true) : (rch P m (k + 1)).testBit j = true := (rsK_tb P _ j _).mpr (Or.inl h)
theorem rch_fix {P : Nat → Int} {m k : Nat} (h : rch P m (k + 1) = rch P m k) : ∀ j, rch P m (k + j) = rch P m k
  | 0 => rfl
  | j + 1 => by
    have ih := rch_fix h j
    show rsK P (rch P m (k + j)) (nB P) = _
    rw [ih]
    exact h
theorem rch_stop {P : Nat → Int} (ok : okP P) {m : Nat} (hm : m < 8) : ∃ k, k < 8 ∧ rch P m (k + 1) = rch P m k := by
  apply Decidable.byContradiction
  intro c
  have hc : ∀ k, k < 8 → rch P m (k + 1) ≠ rch P m k := fun k hk e => c ⟨k, hk, e⟩
  have key : ∀ k, k ≤ 8 → k + 1 ≤ popc 8 (rch P m k) := by
    intro k
    induction k with
    | zero =>
      intro _
      have h0 : ∀ m, m < 8 → 1 ≤ popc 8 (2 ^ m) := by decide
      exact h0 m hm
    | succ k ih =>
      intro hk
      have h1 := ih (by omega)
      have h2 := popc_ssub (n := 8) (fun j h => rch_sub (P := P) (m := m) (k := k) h) (rch_lt ok hm k) (rch_lt ok hm (k + 1)) (Ne.symm (hc k (by omega)))
      omega
  have h1 := key 8 (Nat.le_refl _)
  have h2 := popc_le 8 (rch P m 8)
  omega
theorem rch_8 {P : Nat → Int} (ok : okP P) {m k : Nat} (hm : m < 8) (h : rch P m (k + 1) = rch P m k) : rch P m k = rch P m 8 := by
  obtain ⟨i, hi, e⟩ := rch_stop ok hm
  have h1 := rch_fix e (8 - i)
  rw [show i + (8 - i) = 8 by omega] at h1
  rw [h1]
  by_cases c : k ≤ i
  · have := rch_fix h (i - k)
    rw [show k + (i - k) = i by omega] at this
    exact this.symm
  · have := rch_fix e (k - i)
    rw [show i + (k - i) = k by omega] at this
    exact this
def zReach (P : Nat → Int) (m : Int) : Int := if 0 ≤ m ∧ m < P 2 then (rch P m.toNat 8 : Nat) else -2
section
variable {d : Nat} {n : Nat × Nat} {Φ : Int → (Nat → Nat → Int) → Prop} {M : Nat → Nat → Int} {P : Nat → Int}
theorem r_better (hP : M 2 = P) (ok : okP P) (q : ∀ M', KR M M' → M' 2 = P → Φ (msk (btT P) (nM P) : Nat) M') : CR (d + 4) 301 [(2, 1)] M n Φ := by
  obtain ⟨eF, hF1, hF2⟩ := ok.nFe
  obtain ⟨eM, hM1, hM2⟩ := ok.nMe
  have h0 : KR M (sI M 1 0 0) := KR.one (by omega)
  have m0 : (sI M 1 0 0) 2 = P := (sI_row (by omega)).trans hP
  have key : ∀ m, m ≤ nM P → ∀ M', KR M M' → M' 2 = P → W12_better_9 (d + 3) n Φ (msk (btT P) m : Nat) (m : Nat) M' := by
    refine up (fun M' hM' m2 => ?_) (fun m hm ih M' hM' m2 => ?_)
    · apply v12_better_9
      rw [m2, eM]
      exact ⟨fun _ => q M' hM' m2, fun c => absurd (Int.le_refl _) c⟩
    · apply v12_better_9
      rw [m2, eM]
      refine ⟨fun c => absurd c (by omega), fun _ => ?_⟩
      have inn : ∀ f, f ≤ nF P → ∀ M2, KR M M2 → M2 2 = P → W12_better_27 (d + 3) n Φ (msk (btT P) m : Nat) (m : Nat) (b2i (anyB (lessT P m) f)) (b2i (anyB (moreT P m) f)) (f : Nat) M2 := by
        refine up (fun M2 hM2 e2 => ?_) (fun f hf ih2 M2 hM2 e2 => ?_)
        · apply v12_better_27
          rw [e2, eF, w32_s (by omega)]
          refine ⟨fun _ => br (fun e => ?_) (fun e => br' (fun e3 => ?_) (fun e3 => ?_)), fun c => absurd (Int.le_refl _) c⟩
          · rw [or_z (btT P) (by omega) (by unfold btT; rw [e]; rfl)]; exact ih M2 hM2 e2
          · rw [or_z (btT P) (by omega) (by unfold btT; rw [e, e3]; rfl)]; exact ih M2 hM2 e2
          · rw [or_s (btT P) (by omega) (by unfold btT; rw [e, e3]; rfl)]; exact ih M2 hM2 e2
        · apply v12_better_27
          have e68 := wA 68 f (68 + f) (by omega) (by omega)
          have hat := ok.at (f := f) (by omega)
          rw [e2, eF, e68, w32_s (k := f) (by omega)]
          refine ⟨fun c => absurd c (by omega), fun _ => ?_⟩
          refine sp_likesOf f m e2 ok (by omega) (by omega) (fun M3 h3 => ⟨by omega, ?_⟩)
          have r3 : M3 2 = P := (h3 2 (by omega) (by omega)).trans e2
          rw [Int.toNat_natCast, r3]
          have ea : P (68 + f) = (((P (68 + f)).toNat : Nat) : Int) := by omega
          rw [ea]
          refine sp_likesOf f _ r3 ok (by omega) (by omega) (fun M4 h4 => ?_)
          have r4 : M4 2 = P := (h4 2 (by omega) (by omega)).trans r3
          have k4 : KR M M4 := hM2.trans ((KR.of67 h3).trans (KR.of67 h4))
          have fin : ∀ x : Bool, (x = lessT P m f) → ∀ M5, KR M M5 → M5 2 = P → CR (d + 3) 224 [(2, 1), (0, (f : Int)), (0, (m : Int))] M5 n (fun r2 M6 => (0 ≤ ((68 + f : Nat) : Int) ∧ ((68 + f : Nat) : Int) < ((3792 : Nat) : Int)) ∧ (CR (d + 3) 224 [(2, 1), (0, (f : Int)), (0, M6 2 (68 + f))] M6 n (fun r3 M7 => (r2 ≤ r3 → W12_better_27 (d + 3) n Φ (msk (btT P) m : Nat) (m : Nat) (b2i (anyB (lessT P m) f || x)) (m_or (b2i (anyB (moreT P m) f)) 0) ((f + 1 : Nat) : Int) M7) ∧ (¬ (r2 ≤ r3) → W12_better_27 (d + 3) n Φ (msk (btT P) m : Nat) (m : Nat) (b2i (anyB (lessT P m) f || x)) (m_or (b2i (anyB (moreT P m) f)) 1) ((f + 1 : Nat) : Int) M7)))) := by
            intro x hx M5 k5 r5
            refine sp_likesOf f m r5 ok (by omega) (by omega) (fun M6 h6 => ⟨by omega, ?_⟩)
            have r6 : M6 2 = P := (h6 2 (by omega) (by omega)).trans r5
            rw [r6, ea]
            refine sp_likesOf f _ r6 ok (by omega) (by omega) (fun M7 h7 => ?_)
            have r7 : M7 2 = P := (h7 2 (by omega) (by omega)).trans r6
            have k7 : KR M M7 := k5.trans ((KR.of67 h6).trans (KR.of67 h7))
            have ih3 := ih2 M7 k7 r7
            have e3 : anyB (lessT P m) (f + 1) = (anyB (lessT P m) f || x) := by rw [hx]; rfl
            have e4 : anyB (moreT P m) (f + 1) = (anyB (moreT P m) f || moreT P m f) := rfl
            rw [e3, e4] at ih3
            refine ⟨fun c => ?_, fun c => ?_⟩
            · have e5 : moreT P m f = false := by unfold moreT; rw [decide_eq_false_iff_not]; omega
              rw [e5, Bool.or_false] at ih3
              rw [or_b2i0]
              exact ih3
            · have e5 : moreT P m f = true := by unfold moreT; rw [decide_eq_true_eq]; omega
              rw [e5, Bool.or_true] at ih3
              rw [or_b2i1]
              exact ih3
          refine ⟨fun c => ?_, fun c => ?_⟩
          · have e5 : lessT P m f = false := by unfold lessT; rw [decide_eq_false_iff_not]; omega
            have := fin false e5.symm M4 k4 r4
            rw [Bool.or_false] at this
            rw [or_b2i0]
            exact this
          · have e5 : lessT P m f = true := by unfold lessT; rw [decide_eq_true_eq]; omega
            have := fin true e5.symm M4 k4 r4
            rw [Bool.or_true] at this
            rw [or_b2i1]
            exact this
      exact inn 0 (Nat.zero_le _) M' hM' m2
  exact e12_better (key 0 (Nat.zero_le _) _ h0 m0)
theorem sp_leastLikes (m : Nat) (hP : M 2 = P) (ok : okP P) (hm : m < 8) (q : ∀ M', Q67 M M' → Φ (lst P m) M') : CR (d + 4) 302 [(2, 1), (0, (m : Int))] M n Φ := by
  obtain ⟨eF, hF1, hF2⟩ := ok.nFe
  have el : lstK P m 268435456 (nF P) = lst P m := by
    have := lst_eq ok hm (nF P - 1) (by omega)
    rw [show nF P - 1 + 1 = nF P by omega] at this
    exact this
  have key : ∀ k, k ≤ nF P → ∀ M', Q67 M M' → W12_leastLikes_6 (d + 3) n Φ (m : Nat) (lstK P m 268435456 k) (k : Nat) M' := by
    refine up (fun M' hM' => ?_) (fun k hk ih M' hM' => ?_)
    · apply v12_leastLikes_6
      rw [(hM' 2 (by omega) (by omega)).trans hP, eF, el]
      exact ⟨fun _ => q M' hM', fun c => absurd (Int.le_refl _) c⟩
    · apply v12_leastLikes_6
      have m2 := (hM' 2 (by omega) (by omega)).trans hP
      have es : lstK P m 268435456 (k + 1) = if lks P k m < lstK P m 268435456 k then lks P k m else lstK P m 268435456 k := rfl
      rw [m2, eF, w32_s (by omega)]
      refine ⟨fun c => absurd c (by omega), fun _ => sp_likesOf k m m2 ok (by omega) hm (fun M1 h1 => ⟨fun c => ?_, fun c => sp_likesOf k m ((h1 2 (by omega) (by omega)).trans m2) ok (by omega) hm (fun M2 h2 => ?_)⟩)⟩
      · rw [if_neg (by omega)] at es
        rw [← es]
        exact ih M1 (hM'.trans h1)
      · rw [if_pos (by omega)] at es
        rw [← es]
        exact ih M2 (hM'.trans (h1.trans h2))
  exact e12_leastLikes (key 0 (Nat.zero_le _) M (Q67.refl M))
theorem r_fairest (hP : M 2 = P) (ok : okP P) (q : ∀ M', KR M M' → M' 2 = P → Φ (frB P (nM P) : Nat) M') : CR (d + 5) 303 [(2, 1)] M n Φ := by
  obtain ⟨eM, hM1, hM2⟩ := ok.nMe
  have h0 : KR M (sI M 1 0 0) := KR.one (by omega)
  have m0 : (sI M 1 0 0) 2 = P := (sI_row (by omega)).trans hP
  have key : ∀ k, k ≤ nM P → 1 ≤ k → ∀ M', KR M M' → M' 2 = P → W12_fairest_9 (d + 4) n Φ (frB P k : Nat) (k : Nat) M' := by
    refine up (fun _ M' hM' m2 => ?_) (fun k hk ih hk1 M' hM' m2 => ?_)
    · apply v12_fairest_9
      rw [m2, eM]
      exact ⟨fun _ => q M' hM' m2, fun c => absurd (Int.le_refl _) c⟩
    · apply v12_fairest_9
      have hl : frB P k ≤ k - 1 := by
        have := frB_lt P (k - 1)
        rw [show k - 1 + 1 = k by omega] at this
        exact this
      rw [m2, eM, w32_s (by omega)]
      refine ⟨fun c => absurd c (by omega), fun _ => sp_leastLikes k m2 ok (by omega) (fun M1 h1 => sp_leastLikes _ ((h1 2 (by omega) (by omega)).trans m2) ok (by omega) (fun M2 h2 => ?_))⟩
      have k2 : KR M M2 := hM'.trans ((KR.of67 h1).trans (KR.of67 h2))
      have e2 : M2 2 = P := (h2 2 (by omega) (by omega)).trans ((h1 2 (by omega) (by omega)).trans m2)
      have es : frB P (k + 1) = if lst P (frB P k) < lst P k then k else frB P k := rfl
      rw [es] at ih
      refine ⟨fun c => ?_, fun c => ?_⟩
      · rw [if_neg (by omega)] at ih
        exact ih (by omega) M2 k2 e2
      · rw [if_pos (by omega)] at ih
        exact ih (by omega) M2 k2 e2
  have e1 : frB P 1 = 0 := Nat.le_zero.mp (frB_lt P 0)
  have := key 1 (by omega) (by omega) _ h0 m0
  rw [e1] at this
  exact e12_fairest this
theorem sp_tens (k : Nat) (hk : k ≤ 8) (q : Φ ((10 ^ k : Nat) : Int) M) : CR (d + 1) 304 [(0, (k : Int))] M n Φ := by
  have key : ∀ j, j ≤ k → W12_tens_4 d n Φ (k : Nat) ((10 ^ j : Nat) : Int) (j : Nat) M := by
    refine up ?_ (fun j hj ih => ?_)
    · exact v12_tens_4 ⟨fun _ => q, fun c => absurd (Int.le_refl _) c⟩
    · apply v12_tens_4
      have hp := p10 j (by omega)
      have e : w64 (((10 ^ j : Nat) : Int) * 10) = ((10 ^ (j + 1) : Nat) : Int) := by
        rw [w64_id (by omega) (by omega), Nat.pow_succ]
        omega
      rw [e, w32_s (by omega)]
      exact ⟨fun c => absurd c (by omega), fun _ => ih⟩
  exact e12_tens (key 0 (Nat.zero_le _))
theorem sp_common : ∀ (j d a b : Nat), b < 2 ^ j → a < 1000000000 → b < 1000000000 → Φ (Nat.gcd a b : Nat) M → CR (d + (2 * j + 1)) 305 [(1, (a : Int)), (1, (b : Int))] M n Φ
  | 0, d, a, b, hb, ha, hb2, q => by
    have e : b = 0 := by omega
    subst e
    rw [Nat.gcd_zero_right] at q
    refine e12_common ⟨fun c => ?_, fun _ => q⟩
    rw [cmp_ne0] at c
    exact absurd rfl c
  | j + 1, d, a, b, hb, ha, hb2, q => by
    have hd : d + (2 * (j + 1) + 1) = (d + (2 * j + 1)) + 1 + 1 := by omega
    rw [hd]
    refine e12_common ⟨fun c => ?_, fun c => ?_⟩
    · rw [cmp_ne0] at c
      have hb0 : 0 < b := by omega
      rw [l_rem_n (by omega) hb0 (by omega)]
      have h1 := Nat.mod_lt a hb0
      refine ⟨c, e12_common ⟨fun c2 => ?_, fun c2 => ?_⟩⟩
      · rw [cmp_ne0] at c2
        have hr0 : 0 < a % b := by omega
        rw [l_rem_n (by omega) hr0 (by omega)]
        refine ⟨c2, sp_common j d (a % b) (b % (a % b)) ?_ (by omega) ?_ ?_⟩
        · have := half_rem hb0 hr0
          rw [Nat.pow_succ] at hb
          omega
        · have := Nat.mod_lt b hr0; omega
        · rw [gcd_step, gcd_step]; exact q
      · rw [cmp_ne0] at c2
        have hr0 : a % b = 0 := by omega
        rw [← gcd_step, hr0, Nat.gcd_zero_right] at q
        exact q
    · rw [cmp_ne0] at c
      have e : b = 0 := by omega
      subst e
      rw [Nat.gcd_zero_right] at q
      exact q
theorem sp_wholeOf (f g : Nat) (hP : M 2 = P) (ok : okP P) (hf : f < nF P) (hg : g < nF P) (q : Φ (wpK P f g 8 : Nat) M) : CR (d + 2) 306 [(2, 1), (0, (f : Int)), (0, (g : Int))] M n Φ := by
  obtain ⟨eF, hF1, hF2⟩ := ok.nFe
  have hc := ok.cut
  have ehi : wpK P f g 8 = wpK P f g (nF P - 1) := by
    have := wpK_hi (P := P) (f := f) (g := g) (N := nF P - 1) (by omega) (by omega) (by omega) (8 - (nF P - 1)) (by omega)
    rw [show nF P - 1 + (8 - (nF P - 1)) = 8 by omega] at this
    exact this
  rw [ehi] at q
  have hw := wrs_lt f g
  have key : ∀ k, k ≤ nF P - 1 → W12_wholeOf_5 (d + 1) n Φ (f : Nat) (g : Nat) (wpK P f g k : Nat) (k : Nat) M := by
    refine up ?_ (fun k hk ih => ?_)
    · apply v12_wholeOf_5
      rw [hP, eF, w32_id (by omega) (by omega)]
      exact ⟨fun _ => q, fun c => absurd (by omega) c⟩
    · apply v12_wholeOf_5
      have hs := (ok.farm (f := k) (by omega)).2
      have hwp := wpK_le ok f g k (by omega)
      have hp := p10 k (by omega)
      have e57 := wA 57 k (57 + k) (by omega) (by omega)
      have es : wpK P f g (k + 1) = if inS (wrs f g) k = true then wpK P f g k * (if inS (P 67).toNat k = true then 0 else (10 - P (57 + k)).toNat) else wpK P f g k := rfl
      rw [hP, eF, w32_id (by omega) (by omega), w32_s (by omega), e57]
      refine ⟨fun c => absurd c (by omega), fun _ => sp_wiresOf f g (by omega) (by omega) (sp_isIn _ k (by omega) (by omega) (br (fun e => ?_) (fun e => ?_)))⟩
      · rw [if_neg (by rw [e]; decide)] at es
        rw [← es]
        exact ih
      · rw [hP, show P 67 = ((P 67).toNat : Int) by omega]
        rw [if_pos e] at es
        refine sp_isIn _ k (by omega) (by omega) (br (fun e2 => ⟨by omega, ?_⟩) (fun e2 => ?_))
        · rw [if_neg (by rw [e2]; decide)] at es
          have ev : w64 ((wpK P f g k : Nat) * w32 (10 - P (57 + k))) = ((wpK P f g (k + 1) : Nat) : Int) := by
            rw [w32_id (by omega) (by omega), es]
            have e10 : (10 - P (57 + k)) = (((10 - P (57 + k)).toNat : Nat) : Int) := by omega
            generalize (10 - P (57 + k)).toNat = z at e10 ⊢
            have hz : z ≤ 10 := by omega
            rw [e10, ← Int.natCast_mul]
            have hm : wpK P f g k * z ≤ 100000000 * 10 := Nat.mul_le_mul (by omega) hz
            rw [w64_id (by omega) (by omega)]
          rw [Int.toNat_natCast, hP, ev]
          exact ih
        · rw [if_pos e2, Nat.mul_zero] at es
          have ev : w64 ((wpK P f g k : Nat) * 0) = ((wpK P f g (k + 1) : Nat) : Int) := by
            rw [es, Int.mul_zero, w64_id (by omega) (by omega)]
            rfl
          rw [ev]
          exact ih
  exact e12_wholeOf (key 0 (Nat.zero_le _))
theorem wB_b {f g : Nat} (hf : f < 8) (hg : g < 8) : 1 ≤ wB f g ∧ wB f g ≤ 100000000 := p10 _ (by have := absN_b hf hg; omega)
theorem r_snow (f g x : Int) (hP : M 2 = P) (ok : okP P) (q : ∀ M', KR M M' → M' 2 = P → Φ (zSnow P f g x) M') : CR (d + 56) 307 [(2, 1), (0, f), (0, g), (0, x)] M n Φ := by
  have hF := ok.nFe
  have h0 : KR M (sI M 1 0 0) := KR.one (by omega)
  have m0 : (sI M 1 0 0) 2 = P := (sI_row (by omega)).trans hP
  have q0 := q _ h0 m0
  unfold zSnow at q0
  refine e12_snow (sp_areTwo f g m0 ok (br (fun e => ?_) (fun e => sp_within x 0 1 (br' (fun e2 => ?_) (fun e2 => ?_)))))
  · have e := of_decide_eq_false e
    rw [if_neg (fun z => e z.1)] at q0
    exact q0
  · have e := of_decide_eq_true e
    have e2 := of_decide_eq_true e2
    rw [if_pos ⟨e, e2⟩] at q0
    have hf8 : f.toNat < 8 := by omega
    have hg8 : g.toNat < 8 := by omega
    rw [show f = (f.toNat : Int) by omega, show g = (g.toNat : Int) by omega]
    have hw := wrs_lt f.toNat g.toNat
    have hab := absN_b hf8 hg8
    have hb := wB_b hf8 hg8
    have ha := wpK_le ok f.toNat g.toNat 8 (by omega)
    refine sp_wholeOf _ _ m0 ok (by omega) (by omega) (sp_wiresOf _ _ hf8 hg8 (sp_bitsOf _ (by omega) ?_))
    rw [wrs_pop _ hf8 _ hg8]
    refine sp_tens _ (by omega) ?_
    have hgp : 0 < Nat.gcd (wpK P f.toNat g.toNat 8) (wB f.toNat g.toNat) := Nat.gcd_pos_of_pos_right _ (by omega)
    have hgl : Nat.gcd (wpK P f.toNat g.toNat 8) (wB f.toNat g.toNat) ≤ wB f.toNat g.toNat := Nat.gcd_le_right _ (by omega)
    refine sp_common 27 d _ _ (Nat.lt_of_le_of_lt hb.2 (by decide)) (by omega) (Nat.lt_of_le_of_lt hb.2 (by omega)) ?_
    show (x ≠ 0 → ((Nat.gcd (wpK P f.toNat g.toNat 8) (wB f.toNat g.toNat) : Nat) : Int) ≠ 0 ∧ Φ (l_div ((wB f.toNat g.toNat : Nat) : Int) ((Nat.gcd (wpK P f.toNat g.toNat 8) (wB f.toNat g.toNat) : Nat) : Int)) _) ∧ _
    rw [l_div_n (by omega) hgp (by omega)]
    refine ⟨fun c => ⟨by omega, ?_⟩, fun c => ⟨by show ((Nat.gcd (wpK P f.toNat g.toNat 8) (wB f.toNat g.toNat) : Nat) : Int) ≠ 0; omega, ?_⟩⟩
    · rw [if_neg c] at q0; exact q0
    · show Φ (l_div ((wpK P f.toNat g.toNat 8 : Nat) : Int) ((Nat.gcd (wpK P f.toNat g.toNat 8) (wB f.toNat g.toNat) : Nat) : Int)) _
      rw [l_div_n (by omega) hgp (by omega)]
      rw [if_pos (Decidable.not_not.mp c)] at q0
      exact q0
  · have e2 := of_decide_eq_false e2
    rw [if_neg (fun z => e2 z.2)] at q0
    exact q0
theorem r_left (f m : Int) (hP : M 2 = P) (ok : okP P) (q : ∀ M', KR M M' → M' 2 = P → Φ (zLeft P f m) M') : CR (d + 3) 308 [(2, 1), (0, f), (0, m)] M n Φ := by
  obtain ⟨eF, hF1, hF2⟩ := ok.nFe
  have h0 : KR M (sI M 1 0 0) := KR.one (by omega)
  have m0 : (sI M 1 0 0) 2 = P := (sI_row (by omega)).trans hP
  have q0 := q _ h0 m0
  unfold zLeft at q0
  refine e12_left (sp_isFarm f (by rw [m0]; omega) ?_)
  rw [m0]
  refine br' (fun e => sp_within m 0 100 (br' (fun e2 => ?_) (fun e2 => ?_))) (fun e => ?_)
  · have e := of_decide_eq_true e
    have e2 := of_decide_eq_true e2
    rw [if_pos e, if_pos e2] at q0
    rw [show f = (f.toNat : Int) by omega, show m = (m.toNat : Int) by omega]
    have hf8 : f.toNat < 8 := by omega
    have hm : m.toNat ≤ 100 := by omega
    have hfn : f.toNat < nF P := by omega
    generalize f.toNat = a at q0 hf8 hfn ⊢
    generalize m.toNat = b at q0 hm ⊢
    have key : ∀ k, k ≤ nF P → W12_left_37 (d + 2) n Φ (a : Nat) (b : Nat) (cntB (lfT P a b) k : Nat) (k : Nat) (sI M 1 0 0) := by
      refine up ?_ (fun k hk ih => ?_)
      · apply v12_left_37
        rw [m0, eF]
        exact ⟨fun _ => q0, fun c => absurd (Int.le_refl _) c⟩
      · apply v12_left_37
        have hcl := cntB_le (lfT P a b) k
        have es : cntB (lfT P a b) (k + 1) = cntB (lfT P a b) k + (if lfT P a b k then 1 else 0) := rfl
        have hw := wrs_lt a k
        have hab := absN_b hf8 (show k < 8 by omega)
        have hb := wB_b hf8 (show k < 8 by omega)
        have ha := wpK_le ok a k 8 (by omega)
        have e0 : w32 ((cntB (lfT P a b) k : Nat) + 0) = ((cntB (lfT P a b) k : Nat) : Int) := by rw [w32_id] <;> omega
        rw [m0, eF, w32_s (k := k) (by omega), e0]
        refine ⟨fun c => absurd c (by omega), fun _ => ⟨fun c => ?_, fun c => sp_wholeOf a k m0 ok hfn hk (sp_wiresOf _ _ hf8 (by omega) (sp_bitsOf _ (by omega) ?_))⟩⟩
        · have ef : lfT P a b k = false := by unfold lfT; rw [decide_eq_false_iff_not]; omega
          rw [ef] at es
          rw [show cntB (lfT P a b) (k + 1) = cntB (lfT P a b) k from es] at ih
          exact ih
        · rw [wrs_pop _ hf8 _ (by omega)]
          refine sp_tens _ (by omega) ?_
          have hm2 : b * wB a k ≤ 100 * 100000000 := Nat.mul_le_mul hm hb.2
          have ec : ∀ X : Prop, X = (m_cmp (w64 (((wpK P a k 8 : Nat) : Int) * 100)) (w64 ((b : Int) * ((wB a k : Nat) : Int))) < 0) → (X ↔ ¬ (b * wB a k ≤ wpK P a k 8 * 100)) := by
            intro X hX
            rw [hX, cmp_lt0, ← Int.natCast_mul, w64_id (by omega) (by omega), w64_id (by omega) (by omega)]
            omega
          refine ⟨fun c2 => ?_, fun c2 => ?_⟩
          · have c3 := (ec _ rfl).mp c2
            have ef : lfT P a b k = false := by unfold lfT; rw [decide_eq_false_iff_not]; omega
            rw [ef] at es
            rw [show cntB (lfT P a b) (k + 1) = cntB (lfT P a b) k from es] at ih
            exact ih
          · have c3 := mt (ec _ rfl).mpr c2
            have ef : lfT P a b k = true := by unfold lfT; rw [decide_eq_true_eq]; omega
            rw [ef] at es
            rw [show cntB (lfT P a b) (k + 1) = cntB (lfT P a b) k + 1 from es] at ih
            rw [w32_s (by omega)]
            exact ih
    exact key 0 (Nat.zero_le _)
  · have e := of_decide_eq_true e
    have e2 := of_decide_eq_false e2
    rw [if_pos e, if_neg e2] at q0
    exact q0
  · have e := of_decide_eq_false e
    rw [if_neg e] at q0
    exact q0
theorem sp_isFrom (b m : Nat) (hP : M 2 = P) (ok : okP P) (hu : M 1 21 = (useS P : Nat)) (hb : b < nB P) (q : Φ (b2i (frT P m b)) M) : CR (d + 2) 262 [(2, 1), (0, (b : Int)), (0, (m : Int))] M n Φ := by
  have hB := ok.nBe
  have hus := useS_lt ok
  have e13 := wA 13 b (13 + b) (by omega) (by omega)
  apply e12_isFrom
  rw [hu]
  refine sp_isIn _ b (by omega) (by omega) ?_
  have ei : inS (useS P) b = useT P b := inS_msk _ hb
  rw [ei, e13, hP]
  simp only [Int.toNat_natCast]
  refine br (fun e => ?_) (fun e => ⟨by omega, fun c => ?_, fun c => ?_⟩)
  · have : frT P m b = false := by unfold frT; rw [e]; rfl
    rw [this] at q; exact q
  · have : frT P m b = false := by unfold frT; rw [e, decide_eq_false c]; rfl
    rw [this] at q; exact q
  · have : frT P m b = true := by unfold frT; rw [e, decide_eq_true (Decidable.not_not.mp c)]; rfl
    rw [this] at q; exact q
theorem r_ends (hP : M 2 = P) (ok : okP P) (q : ∀ M', KR M M' → M' 2 = P → Φ (msk (enT P) (nM P) : Nat) M') : CR (d + 6) 277 [(2, 1)] M n Φ := by
  obtain ⟨eB, hB⟩ := ok.nBe
  obtain ⟨eM, hM1, hM2⟩ := ok.nMe
  have h0 : KR M (sI M 1 0 0) := KR.one (by omega)
  have m0 : (sI M 1 0 0) 2 = P := (sI_row (by omega)).trans hP
  refine e12_ends (sp_laysUsable m0 ok (fun M1 h1 hu => ?_))
  have m1 : M1 2 = P := (h1.1 2 (by omega) (by omega) (by omega)).trans m0
  have k1 : KR M M1 := h0.trans (KR.ofU h1)
  have key : ∀ m, m ≤ nM P → W12_ends_13 (d + 5) n Φ (msk (enT P) m : Nat) (m : Nat) M1 := by
    refine up ?_ (fun m hm ih => ?_)
    · apply v12_ends_13
      rw [m1, eM]
      exact ⟨fun _ => q M1 k1 m1, fun c => absurd (Int.le_refl _) c⟩
    · apply v12_ends_13
      rw [m1, eM]
      refine ⟨fun c => absurd c (by omega), fun _ => ?_⟩
      have inn : ∀ b, b ≤ nB P → W12_ends_28 (d + 5) n Φ (msk (enT P) m : Nat) (m : Nat) (b2i (anyB (frT P m) b)) (b : Nat) M1 := by
        refine up ?_ (fun b hb ih2 => ?_)
        · apply v12_ends_28
          rw [m1, eB, w32_s (by omega)]
          refine ⟨fun _ => br (fun e => ?_) (fun e => ?_), fun c => absurd (Int.le_refl _) c⟩
          · rw [or_s (enT P) (by omega) (by unfold enT; rw [e]; rfl)]; exact ih
          · rw [or_z (enT P) (by omega) (by unfold enT; rw [e]; rfl)]; exact ih
        · apply v12_ends_28
          rw [m1, eB, w32_s (k := b) (by omega)]
          refine ⟨fun c => absurd c (by omega), fun _ => sp_isFrom b m m1 ok hu hb ?_⟩
          rw [or_b2i]
          exact ih2
      exact inn 0 (Nat.zero_le _)
  exact key 0 (Nat.zero_le _)
theorem r_reach (m : Int) (hP : M 2 = P) (ok : okP P) (q : ∀ M', KR M M' → M' 2 = P → Φ (zReach P m) M') : CR (d + 6) 263 [(2, 1), (0, m)] M n Φ := by
  obtain ⟨eB, hB⟩ := ok.nBe
  obtain ⟨eM, hM1, hM2⟩ := ok.nMe
  have h0 : KR M (sI M 1 0 0) := KR.one (by omega)
  have m0 : (sI M 1 0 0) 2 = P := (sI_row (by omega)).trans hP
  have hus := useS_lt ok
  unfold zReach at q
  refine e12_reach (sp_isMoment m (by rw [m0]; omega) ?_)
  rw [m0]
  refine br' (fun e => ?_) (fun e => ?_)
  · have e := of_decide_eq_true e
    rw [if_pos e] at q
    refine sp_laysUsable m0 ok (fun M1 h1 hu => ?_)
    have m1 : M1 2 = P := (h1.1 2 (by omega) (by omega) (by omega)).trans m0
    have k1 : KR M M1 := h0.trans (KR.ofU h1)
    have hm8 : m.toNat < 8 := by omega
    have em : m = (m.toNat : Int) := by omega
    rw [em, m_one (by omega)]
    generalize m.toNat = a at hm8 q ⊢
    have inn : ∀ (s : Nat), s < 256 → W12_reach_27 (d + 5) n Φ (s : Nat) (rsK P s (nB P) : Nat) M1 → W12_reach_37 (d + 5) n Φ (s : Nat) (s : Nat) 0 M1 := by
      intro s hs hfin
      have k2 : ∀ b, b ≤ nB P → W12_reach_37 (d + 5) n Φ (s : Nat) (rsK P s b : Nat) (b : Nat) M1 := by
        refine up ?_ (fun b hb ih => ?_)
        · apply v12_reach_37
          rw [m1, eB]
          exact ⟨fun _ => hfin, fun c => absurd (Int.le_refl _) c⟩
        · apply v12_reach_37
          have hbt := ok.bit (b := b) (by omega)
          have hr := rsK_lt ok hs b (by omega)
          have h28 := p2_8 (P (25 + b)).toNat (by omega)
          have es : rsK P s (b + 1) = if useT P b = true ∧ inS s (P (13 + b)).toNat = true then rsK P s b ||| 2 ^ (P (25 + b)).toNat else rsK P s b := rfl
          rw [m1, eB, hu, w32_s (by omega), wA 13 b (13 + b) (by omega) (by omega), wA 25 b (25 + b) (by omega) (by omega)]
          simp only [Int.toNat_natCast]
          refine ⟨fun c => absurd c (by omega), fun _ => sp_isIn _ b (by omega) (by omega) ?_⟩
          have ei : inS (useS P) b = useT P b := inS_msk _ hb
          rw [ei]
          refine br (fun e1 => ?_) (fun e1 => ⟨by omega, ?_⟩)
          · rw [if_neg (by rw [e1]; intro z; cases z.1)] at es
            rw [← es]
            exact ih
          · rw [m1, show P (13 + b) = (((P (13 + b)).toNat : Nat) : Int) by omega]
            refine sp_isIn _ _ (by omega) (by omega) (br (fun e2 => ?_) (fun e2 => ⟨by omega, ?_⟩))
            · rw [if_neg (by rw [e2]; intro z; cases z.2)] at es
              rw [← es]
              exact ih
            · rw [m1, show P (25 + b) = (((P (25 + b)).toNat : Nat) : Int) by omega, m_one (by omega), m_or_n (by omega) (by omega)]
              rw [if_pos ⟨e1, e2⟩] at es
              rw [← es]
              exact ih
      exact k2 0 (Nat.zero_le _)
    have key : ∀ j k, k + j = 9 → W12_reach_27 (d + 5) n Φ (rch P a k : Nat) (rch P a (k + 1) : Nat) M1 := by
      intro j
      induction j with
      | zero =>
        intro k hk
        refine v12_reach_27 ⟨fun c => ?_, fun c => ?_⟩
        · have := rch_8 ok hm8 (k := k) (by omega)
          rw [this]
          exact q M1 k1 m1
        · exfalso
          obtain ⟨i, hi, e2⟩ := rch_stop ok hm8
          have h2 := rch_fix e2 (k - i)
          have h3 := rch_fix e2 (k + 1 - i)
          rw [show i + (k - i) = k by omega] at h2
          rw [show i + (k + 1 - i) = k + 1 by omega] at h3
          rw [h2, h3] at c
          exact c rfl
      | succ j ih =>
        intro k hk
        refine v12_reach_27 ⟨fun c => ?_, fun c => ?_⟩
        · have := rch_8 ok hm8 (k := k) (by omega)
          rw [this]
          exact q M1 k1 m1
        · exact inn _ (rch_lt ok hm8 (k + 1)) (ih (k + 1) (by omega))
    refine v12_reach_27 ⟨fun c => ?_, fun c => inn (2 ^ a) (rch_lt ok hm8 0) (key 9 0 (by omega))⟩
    have := Nat.two_pow_pos a
    omega
  · have e := of_decide_eq_false e
    rw [if_neg e] at q
    exact q _ h0 m0
end
