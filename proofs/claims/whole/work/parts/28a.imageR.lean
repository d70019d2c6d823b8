/-! ===== image, restore: the reference ===== -/
def cpP (P : Nat → Int) (o k : Nat) : Nat → Int := fun j => if o ≤ j ∧ j < o + k then P (j - o) else P j
def bkP (P : Nat → Int) (o k : Nat) : Nat → Int := fun j => if j < k then P (o + j) else P j
def imgP (P : Nat → Int) (i : Nat) : Nat → Int := cpP P (1264 * (i + 1)) 1264
def rstP (P : Nat → Int) (i : Nat) : Nat → Int := pset (bkP P (1264 * (i + 1)) 1264) 92 0
section
variable {d : Nat} {n : Nat × Nat} {Φ : Int → (Nat → Nat → Int) → Prop} {M : Nat → Nat → Int} {P : Nat → Int}
theorem cpP_s (P : Nat → Int) (o k : Nat) : cpP P o (k + 1) = pset (cpP P o k) (o + k) (P k) := by
  funext j
  unfold cpP
  by_cases c : j = o + k
  · rw [c, pset_eq, if_pos (by omega), show o + k - o = k by omega]
  · rw [pset_ne c]
    by_cases c2 : o ≤ j ∧ j < o + k
    · rw [if_pos c2, if_pos (by omega)]
    · rw [if_neg c2, if_neg (by omega)]
theorem bkP_s (P : Nat → Int) (o k : Nat) : bkP P o (k + 1) = pset (bkP P o k) k (P (o + k)) := by
  funext j
  unfold bkP
  by_cases c : j = k
  · rw [c, pset_eq, if_pos (by omega)]
  · rw [pset_ne c]
    by_cases c2 : j < k
    · rw [if_pos c2, if_pos (by omega)]
    · rw [if_neg c2, if_neg (by omega)]
theorem w1264 {i k : Nat} (hi : i < 2) (hk : k < 1264) : w32 (w32 (1264 * w32 ((i : Int) + 1)) + (k : Int)) = ((1264 * (i + 1) + k : Nat) : Int) := by
  rw [w32_s (by omega), w32_id (x := 1264 * ((i + 1 : Nat) : Int)) (by omega) (by omega), w32_id (by omega) (by omega)]
  omega
theorem r_image (x : Int) (hP : M 2 = P) (q : ∀ M', (¬ (0 ≤ x ∧ x ≤ 1) → KR M M' → M' 2 = P → Φ (-2) M') ∧ ((0 ≤ x ∧ x ≤ 1) → (∀ a, a ≠ 1 → a ≠ 2 → a ≠ 3 → M' a = M a) → (∀ k, k ≠ 0 → M' 1 k = M 1 k) → M' 3 = pset (M 3) x.toNat 1 → M' 2 = imgP P x.toNat → Φ 0 M')) : CR (d + 2) 313 [(2, 1), (0, x)] M n Φ := by
  have h0 : KR M (sI M 1 0 0) := KR.one (by omega)
  have m0 : (sI M 1 0 0) 2 = P := (sI_row (by omega)).trans hP
  refine e12_image (sp_within x 0 1 (br' (fun e => ?_) (fun e => ?_)))
  · have e := of_decide_eq_true e
    obtain ⟨i, hi⟩ : ∃ i : Nat, x = (i : Int) := ⟨x.toNat, by omega⟩
    subst hi
    rw [Int.toNat_natCast] at q
    have key : ∀ k, k ≤ 1264 → ∀ (M' : Nat → Nat → Int), (∀ a, a ≠ 2 → M' a = (sI M 1 0 0) a) → M' 2 = cpP P (1264 * (i + 1)) k → W12_image_20 (d + 1) n Φ (i : Nat) (k : Nat) M' := by
      refine up (fun M' k1 k2 => ?_) (fun k hk ih M' k1 k2 => ?_)
      · apply v12_image_20
        rw [Int.toNat_natCast]
        refine ⟨fun _ => ⟨⟨by omega, by omega, Or.inr rfl⟩, (q _).2 e (fun a h1 h2 h3 => ?_) (fun k hk => ?_) ?_ ?_⟩, fun c => absurd (by omega) c⟩
        · rw [sI_row h3, k1 a h2, sI_row h1]
        · rw [sI_row (by omega), k1 1 (by omega), sI_ne hk]
        · rw [sI_p, k1 3 (by omega), sI_row (by omega)]
        · rw [sI_row (by omega), k2]; rfl
      · apply v12_image_20
        rw [w1264 (by omega) hk, w32_s (k := k) (by omega)]
        simp only [Int.toNat_natCast]
        rw [k2]
        refine ⟨fun c => absurd c (by omega), fun _ => ⟨by omega, ⟨by omega, by omega, trivial⟩, ?_⟩⟩
        refine ih _ (fun a ha => (sI_row ha).trans (k1 a ha)) ?_
        have ek : cpP P (1264 * (i + 1)) k k = P k := by
          unfold cpP
          rw [if_neg (by omega)]
        rw [sI_p, k2, cpP_s, ek]
    refine key 0 (Nat.zero_le _) _ (fun _ _ => rfl) ?_
    rw [m0]
    funext j
    unfold cpP
    rw [if_neg (by omega)]
  · have e := of_decide_eq_false e
    exact (q _).1 e h0 m0
theorem r_restore (x : Int) (hP : M 2 = P) (q : ∀ M', (¬ (0 ≤ x ∧ x ≤ 1) → KR M M' → M' 2 = P → Φ (-2) M') ∧ ((0 ≤ x ∧ x ≤ 1) → (M 3 x.toNat = 0 → KR M M' → M' 2 = P → Φ (-5) M') ∧ (M 3 x.toNat ≠ 0 → KR M M' → M' 2 = rstP P x.toNat → Φ 0 M'))) : CR (d + 2) 314 [(2, 1), (0, x)] M n Φ := by
  have h0 : KR M (sI M 1 0 0) := KR.one (by omega)
  have m0 : (sI M 1 0 0) 2 = P := (sI_row (by omega)).trans hP
  refine e12_restore (sp_within x 0 1 (br' (fun e => ?_) (fun e => ?_)))
  · have e := of_decide_eq_true e
    obtain ⟨i, hi⟩ : ∃ i : Nat, x = (i : Int) := ⟨x.toNat, by omega⟩
    subst hi
    simp only [Int.toNat_natCast] at q ⊢
    have r3 : (sI M 1 0 0) 3 = M 3 := sI_row (by omega)
    rw [r3]
    refine ⟨by omega, fun c3 => ?_, fun c3 => ((q _).2 e).1 (Decidable.not_not.mp c3) h0 m0⟩
    have key : ∀ k, k ≤ 1264 → ∀ (M' : Nat → Nat → Int), (∀ a, a ≠ 2 → M' a = (sI M 1 0 0) a) → M' 2 = bkP P (1264 * (i + 1)) k → W12_restore_32 (d + 1) n Φ (i : Nat) (k : Nat) M' := by
      refine up (fun M' k1 k2 => ?_) (fun k hk ih M' k1 k2 => ?_)
      · apply v12_restore_32
        refine ⟨fun _ => ((q _).2 e).2 c3 (h0.trans ((KR.of2 k1).trans (KR.row (by omega)))) ?_, fun c => absurd (by omega) c⟩
        rw [sI_p, k2]; rfl
      · apply v12_restore_32
        rw [w1264 (by omega) hk, w32_s (k := k) (by omega)]
        simp only [Int.toNat_natCast]
        rw [k2]
        refine ⟨fun c => absurd c (by omega), fun _ => ⟨by omega, ⟨by omega, by omega, trivial⟩, ?_⟩⟩
        refine ih _ (fun a ha => (sI_row ha).trans (k1 a ha)) ?_
        have ek : bkP P (1264 * (i + 1)) k (1264 * (i + 1) + k) = P (1264 * (i + 1) + k) := by
          unfold bkP
          rw [if_neg (by omega)]
        rw [sI_p, k2, bkP_s, ek]
    refine key 0 (Nat.zero_le _) _ (fun _ _ => rfl) ?_
    rw [m0]
    funext j
    unfold bkP
    rw [if_neg (by omega)]
  · have e := of_decide_eq_false e
    exact (q _).1 e h0 m0
end
