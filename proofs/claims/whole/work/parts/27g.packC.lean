/-! ===== sets of bits that must be told, packed; bits sorted by where they are from ===== -/
theorem popc_s (n U : Nat) : popc (n + 1) U = popc n U + (if U.testBit n = true then 1 else 0) := by
  show popc n U + U / 2 ^ n % 2 = _
  rw [Nat.testBit_eq_decide_div_mod_eq]
  have h2 : U / 2 ^ n % 2 < 2 := Nat.mod_lt _ (by omega)
  by_cases c : U / 2 ^ n % 2 = 1
  · rw [c]; rfl
  · rw [show U / 2 ^ n % 2 = 0 by omega]; rfl
theorem popc_up (U : Nat) {m : Nat} : ∀ n, m ≤ n → popc m U ≤ popc n U
  | 0, h => by rw [show m = 0 by omega]; exact Nat.le_refl _
  | n + 1, h => by
    by_cases c : m = n + 1
    · rw [c]; exact Nat.le_refl _
    · have := popc_up U (m := m) n (by omega)
      rw [popc_s]
      omega
/-- the set S of bits of U, packed: the first n bits -/
def pkS (U S : Nat) : Nat → Nat
  | 0 => 0
  | n + 1 => pkS U S n + (if S.testBit n = true then 2 ^ popc n U else 0)
def mkB (U b : Nat) : Nat := if U.testBit b = true then 2 ^ popc b U else 0
theorem pkS_lt {U S : Nat} (h : ∀ i, S.testBit i = true → U.testBit i = true) : ∀ n, pkS U S n < 2 ^ popc n U
  | 0 => Nat.one_pos
  | n + 1 => by
    have ih := pkS_lt h n
    rw [popc_s]
    show pkS U S n + (if S.testBit n = true then 2 ^ popc n U else 0) < _
    by_cases c : S.testBit n = true
    · rw [if_pos c, if_pos (h n c), Nat.pow_succ]; omega
    · rw [if_neg c]
      have : 2 ^ popc n U ≤ 2 ^ (popc n U + (if U.testBit n = true then 1 else 0)) := Nat.pow_le_pow_right (by omega) (by omega)
      omega
theorem pkS_ext {U S S' : Nat} : ∀ n, (∀ i, i < n → S.testBit i = S'.testBit i) → pkS U S n = pkS U S' n
  | 0, _ => rfl
  | n + 1, h => by
    show pkS U S n + (if S.testBit n = true then 2 ^ popc n U else 0) = pkS U S' n + (if S'.testBit n = true then 2 ^ popc n U else 0)
    rw [pkS_ext n (fun i hi => h i (by omega)), h n (by omega)]
theorem or_b_tb (S b i : Nat) : (S ||| 2 ^ b).testBit i = (S.testBit i || decide (b = i)) := by rw [Nat.testBit_or, Nat.testBit_two_pow]
theorem pkS_or {U S b : Nat} (h : ∀ i, S.testBit i = true → U.testBit i = true) (hb : U.testBit b = true) : ∀ n, b < n → pkS U (S ||| 2 ^ b) n = pkS U S n ||| 2 ^ popc b U
  | 0, hn => absurd hn (Nat.not_lt_zero _)
  | n + 1, hn => by
    have h1 := pkS_lt h n
    show pkS U (S ||| 2 ^ b) n + (if (S ||| 2 ^ b).testBit n = true then 2 ^ popc n U else 0) = (pkS U S n + (if S.testBit n = true then 2 ^ popc n U else 0)) ||| 2 ^ popc b U
    by_cases c : b = n
    · subst c
      have e : pkS U (S ||| 2 ^ b) b = pkS U S b := pkS_ext b (fun i hi => by rw [or_b_tb, decide_eq_false (by omega), Bool.or_false])
      rw [e, or_b_tb, decide_eq_true rfl, Bool.or_true, if_pos rfl]
      by_cases c2 : S.testBit b = true
      · rw [if_pos c2, ← or_pow h1, Nat.or_assoc, Nat.or_self]
      · rw [if_neg c2, Nat.add_zero, or_pow h1]
    · have ih := pkS_or h hb n (by omega)
      rw [ih, or_b_tb, decide_eq_false c, Bool.or_false]
      by_cases c2 : S.testBit n = true
      · have h3 : popc b U < popc n U := by
          have := popc_up U n (show b + 1 ≤ n by omega)
          rw [popc_s, if_pos hb] at this
          omega
        have h4 : pkS U S n ||| 2 ^ popc b U < 2 ^ popc n U := Nat.or_lt_two_pow h1 (Nat.pow_lt_pow_right (by omega) h3)
        rw [if_pos c2, ← or_pow h1, ← or_pow h4, Nat.or_assoc, Nat.or_assoc, Nat.or_comm (2 ^ popc n U)]
      · rw [if_neg c2, Nat.add_zero, Nat.add_zero]
theorem pkS_inj {U S S' : Nat} (h : ∀ i, S.testBit i = true → U.testBit i = true) (h' : ∀ i, S'.testBit i = true → U.testBit i = true) : ∀ n, pkS U S n = pkS U S' n → ∀ i, i < n → S.testBit i = S'.testBit i
  | 0, _, i, hi => absurd hi (Nat.not_lt_zero _)
  | n + 1, e, i, hi => by
    have e : pkS U S n + (if S.testBit n = true then 2 ^ popc n U else 0) = pkS U S' n + (if S'.testBit n = true then 2 ^ popc n U else 0) := e
    have l1 := pkS_lt h n
    have l2 := pkS_lt h' n
    have e2 : S.testBit n = S'.testBit n ∧ pkS U S n = pkS U S' n := by
      cases c1 : S.testBit n <;> cases c2 : S'.testBit n <;> rw [c1, c2] at e
      · exact ⟨rfl, by simpa using e⟩
      · exfalso; simp at e; omega
      · exfalso; simp at e; omega
      · exact ⟨rfl, by simpa using e⟩
    by_cases c : i = n
    · rw [c]; exact e2.1
    · exact pkS_inj h h' n e2.2 i (by omega)
theorem pkS_all (U : Nat) : ∀ n, pkS U U n + 1 = 2 ^ popc n U
  | 0 => rfl
  | n + 1 => by
    have ih := pkS_all U n
    rw [popc_s]
    show pkS U U n + (if U.testBit n = true then 2 ^ popc n U else 0) + 1 = _
    by_cases c : U.testBit n = true
    · rw [if_pos c, if_pos c, Nat.pow_succ]; omega
    · rw [if_neg c, if_neg c]; exact ih
theorem pkS_zero (U : Nat) : ∀ n, pkS U 0 n = 0
  | 0 => rfl
  | n + 1 => by
    show pkS U 0 n + (if (0 : Nat).testBit n = true then 2 ^ popc n U else 0) = 0
    rw [pkS_zero U n, Nat.zero_testBit, if_neg (by decide)]
/-- the class's graph, and how the reference's states look in it -/
def nxP (P : Nat → Int) (U : Nat) : gN := fun s b => if frT P (s % 8) b = true then some ((s / 8 ||| mkB U b) * 8 + (P (25 + b)).toNat) else none
def enP (U s : Nat) : Nat := pkS U (s % 4096) 12 * 8 + s / 4096
def glP (U t : Nat) : Nat → Prop := fun s => s = (2 ^ popc 12 U - 1) * 8 + t
theorem pkS_td {U S b : Nat} (h : ∀ i, S.testBit i = true → U.testBit i = true) (hb : b < 12) : pkS U (tdN U S b) 12 = pkS U S 12 ||| mkB U b := by
  unfold tdN mkB
  rw [inS_tb]
  by_cases c : U.testBit b = true
  · rw [if_pos c, if_pos c, pkS_or h c 12 hb]
  · rw [if_neg c, if_neg c, Nat.or_zero]
theorem sim_P {P : Nat → Int} (ok : okP P) {U t : Nat} (hU : U < 4096) (ht : t < nM P) : simG (nxF P U) (nxP P U) (nB P) (glF U t) (glP U t) (vdF P U) (enP U) := by
  have hM := ok.nMe
  have hB := ok.nBe
  refine ⟨fun s b hs hb => ?_, fun s k s' h1 h2 h3 => vdF_c ok s k s' h1 h2 h3, fun s hs => ?_⟩
  · have hs1 := hs.1
    have hbt := ok.bit (b := b) (by omega)
    have e1 : enP U s % 8 = s / 4096 := by unfold enP; omega
    have e2 : enP U s / 8 = pkS U (s % 4096) 12 := by unfold enP; omega
    unfold nxP nxF
    rw [e1, e2]
    by_cases c : frT P (s / 4096) b = true
    · rw [if_pos c, if_pos c]
      have hl := tdN_lt (U := U) (S := s % 4096) (b := b) (by omega) (by omega)
      show some _ = some (enP U _)
      unfold enP
      rw [show (4096 * (P (25 + b)).toNat + tdN U (s % 4096) b) % 4096 = tdN U (s % 4096) b by omega, show (4096 * (P (25 + b)).toNat + tdN U (s % 4096) b) / 4096 = (P (25 + b)).toNat by omega, pkS_td hs.2 (by omega)]
    · rw [if_neg c, if_neg c]; rfl
  · have hs1 := hs.1
    have hall := pkS_all U 12
    have hlt := pkS_lt hs.2 12
    show enP U s = (2 ^ popc 12 U - 1) * 8 + t ↔ s = 4096 * t + U
    unfold enP
    constructor
    · intro e
      have e1 : pkS U (s % 4096) 12 = pkS U U 12 := by omega
      have e2 : s % 4096 = U := by
        apply Nat.eq_of_testBit_eq
        intro i
        by_cases hi : i < 12
        · exact pkS_inj hs.2 (fun _ h => h) 12 e1 i hi
        · have h12 : 2 ^ 12 ≤ 2 ^ i := Nat.pow_le_pow_right (by omega) (by omega)
          rw [Nat.testBit_lt_two_pow (Nat.lt_of_lt_of_le (show s % 4096 < 2 ^ 12 from Nat.mod_lt s (by omega)) h12), Nat.testBit_lt_two_pow (Nat.lt_of_lt_of_le (show U < 2 ^ 12 from hU) h12)]
      omega
    · intro e
      rw [show s % 4096 = U by omega]
      omega
/-- a bit that must be told can't be: no way -/
theorem wy_none {P : Nat → Int} (ok : okP P) {U f t i : Nat} (hU : U < 4096) (hi : U.testBit i = true) (hn : (useS P).testBit i = false) : wyD P U f t = -1 := by
  have hB := ok.nBe
  have key : ∀ n s, rG (nxF P U) (nB P) (4096 * f) n s → (s % 4096).testBit i = false := by
    intro n
    induction n with
    | zero =>
      intro s e
      have e : 4096 * f = s := e
      rw [← e, show 4096 * f % 4096 = 0 by omega, Nat.zero_testBit]
    | succ n ih =>
      rintro s ⟨u, k, h1, h2, h3⟩
      obtain ⟨c, e⟩ := nxF_some h3
      have hlt := tdN_lt (U := U) (S := u % 4096) (b := k) (by omega) (by omega)
      rw [show s % 4096 = tdN U (u % 4096) k by omega]
      cases hc : (tdN U (u % 4096) k).testBit i with
      | false => rfl
      | true =>
        rcases tdN_tb.mp hc with z | z
        · rw [ih u h1] at z; cases z
        · have hu : useT P k = true := by
            unfold frT at c
            rw [Bool.and_eq_true] at c
            exact c.1
          unfold useS at hn
          rw [msk_tb, z.1, hu, decide_eq_true h2] at hn
          cases hn
  unfold wyD
  refine dG_no (fun n hp => ?_)
  obtain ⟨x, h1, h2⟩ := (pG_iff n _).mp hp
  have h2 : x = 4096 * t + U := h2
  have := key n x h1
  rw [h2, show (4096 * t + U) % 4096 = U by omega, hi] at this
  cases this
/-- where a bit lies among those sorted -/
def lsT (P : Nat → Int) (m b : Nat) : Bool := useT P b && decide (P (13 + b) < (m : Int))
def posB (P : Nat → Int) (m b : Nat) : Nat := cntB (lsT P m) (nB P) + cntB (frT P m) b
theorem cntB_add (P : Nat → Int) (m : Nat) : ∀ n, cntB (lsT P (m + 1)) n = cntB (lsT P m) n + cntB (frT P m) n
  | 0 => rfl
  | n + 1 => by
    have ih := cntB_add P m n
    show cntB (lsT P (m + 1)) n + (if lsT P (m + 1) n then 1 else 0) = (cntB (lsT P m) n + (if lsT P m n then 1 else 0)) + (cntB (frT P m) n + (if frT P m n then 1 else 0))
    have e : (if lsT P (m + 1) n then 1 else 0) = (if lsT P m n then 1 else 0) + (if frT P m n then 1 else 0) := by
      unfold lsT frT
      cases useT P n with
      | false => rfl
      | true =>
        simp only [Bool.true_and, decide_eq_true_eq]
        by_cases c1 : P (13 + n) < (m : Int)
        · rw [if_pos (by omega), if_pos c1, if_neg (by omega)]
        · by_cases c2 : P (13 + n) = (m : Int)
          · rw [if_pos (by omega), if_neg c1, if_pos c2]
          · rw [if_neg (by omega), if_neg c1, if_neg c2]
    omega
theorem cntB_up (p : Nat → Bool) {m : Nat} : ∀ n, m ≤ n → cntB p m ≤ cntB p n
  | 0, h => by rw [show m = 0 by omega]; exact Nat.le_refl _
  | n + 1, h => by
    by_cases c : m = n + 1
    · rw [c]; exact Nat.le_refl _
    · have := cntB_up p (m := m) n (by omega)
      show cntB p m ≤ cntB p n + _
      omega
theorem posB_s {P : Nat → Int} {m b : Nat} : posB P m (b + 1) = posB P m b + (if frT P m b then 1 else 0) := by
  unfold posB
  show _ + (cntB (frT P m) b + _) = _
  omega
theorem posB_m (P : Nat → Int) (m : Nat) : posB P (m + 1) 0 = posB P m (nB P) := by
  unfold posB
  rw [cntB_add]
  rfl
theorem posB_up {P : Nat → Int} {m m' b b' : Nat} (h : m' < m ∨ (m' = m ∧ b' < b)) (hf : frT P m' b' = true) (hb' : b' < nB P) : posB P m' b' < posB P m b := by
  have h1 : posB P m' b' + 1 = posB P m' (b' + 1) := by rw [posB_s, if_pos hf]
  rcases h with h | ⟨h, hb⟩
  · have h2 : posB P m' (b' + 1) ≤ posB P (m' + 1) 0 := by
      rw [posB_m]
      have := cntB_up (frT P m') (nB P) (show b' + 1 ≤ nB P by omega)
      unfold posB
      omega
    have h3 : ∀ k, posB P (m' + 1) 0 ≤ posB P (m' + 1 + k) 0 := by
      intro k
      induction k with
      | zero => exact Nat.le_refl _
      | succ k ih =>
        have : posB P (m' + 1 + k) 0 ≤ posB P (m' + 1 + (k + 1)) 0 := by
          rw [show m' + 1 + (k + 1) = (m' + 1 + k) + 1 by omega, posB_m]
          unfold posB
          show _ + 0 ≤ _
          omega
        omega
    have h4 := h3 (m - m' - 1)
    rw [show m' + 1 + (m - m' - 1) = m by omega] at h4
    have h5 : posB P m 0 ≤ posB P m b := by
      unfold posB
      show _ + 0 ≤ _
      omega
    omega
  · subst h
    have := cntB_up (frT P m') b (show b' + 1 ≤ b by omega)
    unfold posB at *
    omega
theorem posB_lt {P : Nat → Int} (ok : okP P) {m b : Nat} (hb : b < nB P) (hf : frT P m b = true) : posB P m b < 12 := by
  have h1 : posB P m b < posB P (m + 1) 0 := posB_up (Or.inl (by omega)) hf hb
  have h2 : posB P (m + 1) 0 ≤ nB P := by
    have := cntB_le (lsT P (m + 1)) (nB P)
    unfold posB
    show _ + 0 ≤ _
    omega
  have := ok.nBe
  omega
section
variable {d : Nat} {n : Nat × Nat} {Φ : Int → (Nat → Nat → Int) → Prop} {M : Nat → Nat → Int} {w : cQ} {P : Nat → Int}
theorem c_markBits (U : Nat) (hU : U < 4096) (q : ∀ (M' : Nat → Nat → Int), (∀ a, a ≠ 96 → M' a = M a) → (∀ b, b < 12 → M' 96 b = (mkB U b : Nat)) → Φ (2 ^ popc 12 U : Nat) M') : CF (d + 1) 82 [(2, 13), (0, (U : Int))] w M n Φ := by
  have key : ∀ k, k ≤ 12 → ∀ (M' : Nat → Nat → Int), (∀ a, a ≠ 96 → M' a = M a) → (∀ b, b < k → M' 96 b = (mkB U b : Nat)) → W9_markBits_4 d Φ (U : Nat) (2 ^ popc k U : Nat) (k : Nat) w M' n := by
    refine up (fun M' h1 h2 => ?_) (fun k hk ih M' h1 h2 => ?_)
    · apply v9_markBits_4
      exact ⟨fun _ => q M' h1 h2, fun c => absurd (by omega) c⟩
    · apply v9_markBits_4
      have hm := m_bit (a := U) (k := k) (by omega) (by omega)
      have h2' : U / 2 ^ k % 2 < 2 := Nat.mod_lt _ (by omega)
      have htb : U.testBit k = decide (U / 2 ^ k % 2 = 1) := Nat.testBit_eq_decide_div_mod_eq
      have hp : popc k U ≤ k := popc_le k U
      have hpp : 2 ^ popc k U ≤ 2 ^ 12 := Nat.pow_le_pow_right (by omega) (by omega)
      rw [hm, w32_s (by omega), Int.toNat_natCast]
      refine ⟨fun c => absurd c (by omega), fun _ => ⟨⟨by omega, by omega, trivial⟩, fun c => ?_, fun c => ⟨⟨by omega, by omega, trivial⟩, ?_⟩⟩⟩
      · have ht : U.testBit k = false := by rw [htb, decide_eq_false (by omega)]
        have := ih (sI M' 96 k 0) (fun a ha => (sI_row ha).trans (h1 a ha)) (fun b hb => ?_)
        · rw [popc_s, ht] at this
          exact this
        · rw [sI_p]
          by_cases e : b = k
          · rw [e, pset_eq]; unfold mkB; rw [ht]; rfl
          · rw [pset_ne e]; exact h2 b (by omega)
      · have ht : U.testBit k = true := by rw [htb, decide_eq_true (by omega)]
        have := ih (sI (sI M' 96 k 0) 96 k (2 ^ popc k U : Nat)) (fun a ha => (sI_row ha).trans ((sI_row ha).trans (h1 a ha))) (fun b hb => ?_)
        · rw [popc_s, if_pos ht, Nat.pow_succ] at this
          have ew0 : ∀ x : Nat, x ≤ 4096 → w32 ((x : Int) * 2) = ((x * 2 : Nat) : Int) := fun x hx => by
            rw [w32_id (by omega) (by omega)]; omega
          have ew : w32 (((2 ^ popc k U : Nat) : Int) * 2) = ((2 ^ popc k U * 2 : Nat) : Int) := ew0 _ hpp
          rw [ew]
          exact this
        · rw [sI_sI, sI_p]
          by_cases e : b = k
          · rw [e, pset_eq]; unfold mkB; rw [if_pos ht]
          · rw [pset_ne e]; exact h2 b (by omega)
  exact e9_markBits (key 0 (Nat.zero_le _) M (fun _ _ => rfl) (fun b hb => absurd hb (Nat.not_lt_zero _)))
/-- the bits are sorted -/
def srtB (P : Nat → Int) (M : Nat → Nat → Int) : Prop := (∀ m, m ≤ 8 → M 98 m = (posB P m 0 : Nat)) ∧ (∀ m b, m < 8 → b < nB P → frT P m b = true → M 97 (posB P m b) = (b : Int))
theorem c_sortBits (r : relW M P) (ok : okP P) (q : ∀ (M' : Nat → Nat → Int), (∀ a, a ≠ 97 → a ≠ 98 → M' a = M a) → srtB P M' → Φ 0 M') : CF (d + 1) 83 [(2, 13), (0, (useS P : Int))] w M n Φ := by
  obtain ⟨eB, hB⟩ := ok.nBe
  have hus := useS_lt ok
  have key : ∀ m, m ≤ 8 → ∀ (M' : Nat → Nat → Int), (∀ a, a ≠ 97 → a ≠ 98 → M' a = M a) → (∀ m', m' < m → M' 98 m' = (posB P m' 0 : Nat)) → (∀ m' b', (m' < m ∨ (m' = m ∧ b' < 0)) → b' < nB P → frT P m' b' = true → M' 97 (posB P m' b') = (b' : Int)) → W9_sortBits_13 d Φ (useS P : Nat) (posB P m 0 : Nat) (m : Nat) w M' n := by
    refine up (fun M' h1 h2 h3 => ?_) (fun m hm ih M' h1 h2 h3 => ?_)
    · apply v9_sortBits_13
      refine ⟨fun _ => q _ (fun a ha hb => (sI_row hb).trans (h1 a ha hb)) ⟨fun m hm => ?_, fun m b hm hb hf => ?_⟩, fun c => absurd (by omega) c⟩
      · rw [sI_p]
        by_cases e : m = 8
        · rw [e, pset_eq]
        · rw [pset_ne e]; exact h2 m (by omega)
      · rw [sI_row (by omega)]; exact h3 m b (Or.inl hm) hb hf
    · apply v9_sortBits_13
      rw [Int.toNat_natCast]
      refine ⟨fun c => absurd c (by omega), fun _ => ⟨⟨by omega, by omega, trivial⟩, ?_⟩⟩
      have inn : ∀ b, b ≤ nB P → ∀ (M' : Nat → Nat → Int), (∀ a, a ≠ 97 → a ≠ 98 → M' a = M a) → (∀ m', m' < m + 1 → M' 98 m' = (posB P m' 0 : Nat)) → (∀ m' b', (m' < m ∨ (m' = m ∧ b' < b)) → b' < nB P → frT P m' b' = true → M' 97 (posB P m' b') = (b' : Int)) → W9_sortBits_31 d Φ (useS P : Nat) (posB P m b : Nat) (m : Nat) (b : Nat) w M' n := by
        refine up (fun M' h1 h2 h3 => ?_) (fun b hb ih2 M' h1 h2 h3 => ?_)
        · apply v9_sortBits_31
          have r' : relW M' P := r.congr (fun a _ _ => h1 a (by omega) (by omega))
          rw [r'.B, eB, w32_s (by omega)]
          refine ⟨fun _ => ?_, fun c => absurd (Int.le_refl _) c⟩
          have := ih M' h1 h2 (fun m' b' hc hb' hf => h3 m' b' (by omega) hb' hf)
          rw [posB_m] at this
          exact this
        · apply v9_sortBits_31
          have r' : relW M' P := r.congr (fun a _ _ => h1 a (by omega) (by omega))
          have hm' := m_bit (a := useS P) (k := b) (by omega) (by omega)
          have h2' : useS P / 2 ^ b % 2 < 2 := Nat.mod_lt _ (by omega)
          have eu : inS (useS P) b = useT P b := inS_msk _ hb
          rw [r'.B, eB, hm', w32_s (k := b) (by omega), Int.toNat_natCast, r'.from (b := b) (by omega)]
          have no : frT P m b = false → W9_sortBits_31 d Φ (useS P : Nat) (posB P m b : Nat) (m : Nat) ((b + 1 : Nat) : Int) w M' n := by
            intro e
            have := ih2 M' h1 h2 (fun m' b' hc hb' hf => ?_)
            · rw [posB_s, e] at this; exact this
            · by_cases cc : m' < m ∨ (m' = m ∧ b' < b)
              · exact h3 m' b' cc hb' hf
              · have y1 : m' = m := by omega
                have y2 : b' = b := by omega
                rw [y1, y2, e] at hf; cases hf
          refine ⟨fun c => absurd c (by omega), fun _ => ⟨fun c => no ?_, fun c => ⟨by omega, fun c2 => no ?_, fun c2 => ?_⟩⟩⟩
          · unfold frT
            rw [← eu]
            unfold inS
            rw [show useS P / 2 ^ b % 2 = 0 by omega]; rfl
          · unfold frT
            rw [decide_eq_false c2, Bool.and_false]
          · have hf : frT P m b = true := by
              unfold frT
              rw [decide_eq_true (Decidable.not_not.mp c2), Bool.and_true, ← eu]
              unfold inS
              rw [show useS P / 2 ^ b % 2 = 1 by omega]; rfl
            have hp := posB_lt ok hb hf
            rw [w32_s (by omega), Int.toNat_natCast]
            refine ⟨⟨by omega, by omega, trivial⟩, ?_⟩
            have := ih2 (sI M' 97 (posB P m b) (b : Int)) (fun a ha hb => (sI_row ha).trans (h1 a ha hb)) (fun m' hm' => by rw [sI_row (by omega)]; exact h2 m' hm') (fun m' b' hc hb' hf' => ?_)
            · rw [posB_s, if_pos hf] at this; exact this
            · rw [sI_p]
              by_cases cc : m' < m ∨ (m' = m ∧ b' < b)
              · have := posB_up cc hf' hb'
                rw [pset_ne (by omega)]
                exact h3 m' b' cc hb' hf'
              · have y1 : m' = m := by omega
                have y2 : b' = b := by omega
                rw [y1, y2, pset_eq]
      refine inn 0 (Nat.zero_le _) _ (fun a ha hb => (sI_row hb).trans (h1 a ha hb)) (fun m' hm' => ?_) (fun m' b' hc hb' hf => by rw [sI_row (by omega)]; exact h3 m' b' hc hb' hf)
      rw [sI_p]
      by_cases e : m' = m
      · rw [e, pset_eq]
      · rw [pset_ne e]; exact h2 m' (by omega)
  have e0 : posB P 0 0 = 0 := by
    unfold posB
    have : ∀ n, n ≤ nB P → cntB (lsT P 0) n = 0 := by
      intro n
      induction n with
      | zero => intro _; rfl
      | succ n ih =>
        intro hn
        have hbt := ok.bit (b := n) (by omega)
        show cntB (lsT P 0) n + (if lsT P 0 n then 1 else 0) = 0
        have e : lsT P 0 n = false := by
          unfold lsT
          rw [decide_eq_false (by omega), Bool.and_false]
        rw [ih (by omega), e]; rfl
    rw [this _ (Nat.le_refl _)]
    rfl
  have := key 0 (Nat.zero_le _) M (fun _ _ _ => rfl) (fun m hm => absurd hm (Nat.not_lt_zero _)) (fun m' b' hc => by omega)
  rw [e0] at this
  exact e9_sortBits this
end
