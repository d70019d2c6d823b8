/-! ===== the way is written into a tray: the reference ===== -/
def wrU (U : Nat → Int) (o : Nat) (L : Nat → Nat) (k : Nat) : Nat → Int := fun j => if o ≤ j ∧ j < o + k then (L (j - o) : Nat) else U j
section
variable {d : Nat} {n : Nat × Nat} {Φ : Int → (Nat → Nat → Int) → Prop} {M : Nat → Nat → Int} {P : Nat → Int}
theorem wrU_s (U : Nat → Int) (o : Nat) (L : Nat → Nat) (k : Nat) : wrU U o L (k + 1) = pset (wrU U o L k) (o + k) (L k : Nat) := by
  funext j
  unfold wrU
  by_cases c : j = o + k
  · rw [c, pset_eq, if_pos (by omega), show o + k - o = k by omega]
  · rw [pset_ne c]
    by_cases c2 : o ≤ j ∧ j < o + k
    · rw [if_pos c2, if_pos (by omega)]
    · rw [if_neg c2, if_neg (by omega)]
theorem r_lists (t x y : Int) (hP : M 2 = P) (ok : okP P) (hZ : ∀ i, i < 4 → M 20 i ≠ -1 → 0 ≤ M 21 i ∧ M 21 i ≤ 40) (q : ∀ M', (¬ ((0 ≤ t ∧ t ≤ 3) ∧ (0 ≤ x ∧ x < P 2) ∧ 0 ≤ y ∧ y < P 2) → KR M M' → M' 2 = P → Φ (-2) M') ∧ ((0 ≤ t ∧ t ≤ 3) ∧ (0 ≤ x ∧ x < P 2) ∧ 0 ≤ y ∧ y < P 2 → (noT (M 20) t ≠ 0 → KR M M' → M' 2 = P → Φ (noT (M 20) t) M') ∧ (noT (M 20) t = 0 → wyD P 0 x.toNat y.toNat = -1 → KR M M' → M' 2 = P → Φ (-5) M') ∧ (noT (M 20) t = 0 → wyD P 0 x.toNat y.toNat ≠ -1 → (∀ a, a = 3 ∨ a = 4 ∨ a = 20 ∨ a = 21 → M' a = M a) → (∀ k, k = 5 ∨ k = 13 ∨ k = 14 → M' 1 k = M 1 k) → M' 2 = P → M' 22 = wrU (M 22) (40 * t.toNat) (wyL P 0 x.toNat y.toNat) (min (wyD P 0 x.toNat y.toNat) (M 21 t.toNat)).toNat → Φ (min (wyD P 0 x.toNat y.toNat) (M 21 t.toNat)) M'))) : CR (d + 8) 312 [(2, 1), (0, t), (0, x), (0, y)] M n Φ := by
  obtain ⟨eM, hM1, hM2⟩ := ok.nMe
  have h0 : KR M (sI M 1 0 0) := KR.one (by omega)
  have m0 : (sI M 1 0 0) 2 = P := (sI_row (by omega)).trans hP
  have r20 : (sI M 1 0 0) 20 = M 20 := sI_row (by omega)
  have r21 : (sI M 1 0 0) 21 = M 21 := sI_row (by omega)
  have r22 : (sI M 1 0 0) 22 = M 22 := sI_row (by omega)
  refine e12_lists (sp_within t 0 3 (br (fun e => ?_) (fun e => sp_areMoments x y m0 ok (br' (fun e2 => ?_) (fun e2 => ?_)))))
  · have e := of_decide_eq_false e
    exact (q _).1 (fun z => e z.1) h0 m0
  · have e := of_decide_eq_true e
    have e2 := of_decide_eq_true e2
    refine sp_noTray t ?_
    rw [r20]
    refine ⟨fun c => ?_, fun c => ((q _).2 ⟨e, e2⟩).1 c h0 m0⟩
    obtain ⟨a, ha⟩ : ∃ a : Nat, x = (a : Int) := ⟨x.toNat, by omega⟩
    obtain ⟨b, hb⟩ : ∃ b : Nat, y = (b : Int) := ⟨y.toNat, by omega⟩
    obtain ⟨i, hi⟩ : ∃ i : Nat, t = (i : Int) := ⟨t.toNat, by omega⟩
    subst ha hb hi
    simp only [Int.toNat_natCast] at q ⊢
    have ht : M 20 i ≠ -1 := by
      unfold noT at c
      rw [if_pos (by omega), Int.toNat_natCast] at c
      intro z
      rw [if_pos z] at c
      omega
    have hz := hZ i (by omega) ht
    refine sp_laysWay a b 0 m0 ok (by omega) (by omega) (fun M1 g1 g2 g3 => ?_)
    have g2 : ∀ j : Nat, (j : Int) < wyD P 0 a b → M1 10 j = (wyL P 0 a b j : Nat) := g2
    have g3 : wyD P 0 a b < 104 := g3
    show (wyD P 0 a b ≠ -1 → _) ∧ (¬ (wyD P 0 a b ≠ -1) → _)
    have m1 : M1 2 = P := (g1.1 2 (by omega) (by omega) (by omega) (by omega) (by omega)).trans m0
    have s21 : M1 21 = M 21 := (g1.1 21 (by omega) (by omega) (by omega) (by omega) (by omega)).trans r21
    have s22 : M1 22 = M 22 := (g1.1 22 (by omega) (by omega) (by omega) (by omega) (by omega)).trans r22
    refine ⟨fun cn => ?_, fun cn => ((q _).2 ⟨e, e2⟩).2.1 c (Decidable.not_not.mp cn) (h0.trans (KR.ofN g1)) m1⟩
    have hD0 : 0 ≤ wyD P 0 a b := by
      unfold wyD at cn ⊢
      rcases dG_cases (nxF P 0) (nB P) (glF 0 b) (4096 * a) with ⟨k, _, z⟩ | ⟨z, _⟩
      · omega
      · exact absurd z cn
    have key : ∀ N : Nat, (N : Int) = min (wyD P 0 a b) (M 21 i) → W12_lists_89 (d + 7) n Φ (i : Nat) (N : Nat) 0 M1 := by
      intro N hN
      have loop : ∀ k, k ≤ N → ∀ M', (∀ a, a ≠ 22 → M' a = M1 a) → M' 22 = wrU (M 22) (40 * i) (wyL P 0 a b) k → W12_lists_89 (d + 7) n Φ (i : Nat) (N : Nat) (k : Nat) M' := by
        refine up (fun M' k1 k2 => ?_) (fun k hk ih M' k1 k2 => ?_)
        · apply v12_lists_89
          refine ⟨fun _ => ?_, fun c => absurd (Int.le_refl _) c⟩
          have := ((q M').2 ⟨e, e2⟩).2.2 c cn (fun a ha => ?_) (fun k hk => ?_) ((k1 2 (by omega)).trans m1)
          · rw [← hN, Int.toNat_natCast] at this
            exact this k2
          · rw [k1 a (by omega), g1.1 a (by omega) (by omega) (by omega) (by omega) (by omega), sI_row (by omega)]
          · rw [k1 1 (by omega), g1.2 k (by omega) (by omega), sI_ne (by omega)]
        · apply v12_lists_89
          have ei : w32 (w32 (40 * (i : Int)) + (k : Int)) = ((40 * i + k : Nat) : Int) := w100 (c := 40) (by omega)
          rw [ei, w32_s (by omega)]
          simp only [Int.toNat_natCast]
          refine ⟨fun c => absurd c (by omega), fun _ => ⟨by omega, ⟨by omega, by omega, trivial⟩, ?_⟩⟩
          refine ih _ (fun a ha => (sI_row ha).trans (k1 a ha)) ?_
          rw [sI_p, k2, wrU_s, k1 10 (by omega), g2 k (by omega)]
      refine loop 0 (Nat.zero_le _) M1 (fun _ _ => rfl) ?_
      rw [s22]
      funext j
      unfold wrU
      rw [if_neg (by omega)]
    rw [s21]
    refine ⟨by omega, fun c1 => ⟨by omega, ?_⟩, fun c1 => ?_⟩
    · have c1 : M 21 i ≤ wyD P 0 a b := c1
      have := key (M 21 i).toNat (by omega)
      rw [show ((M 21 i).toNat : Int) = M 21 i by omega] at this
      exact this
    · have c1 : ¬ (M 21 i ≤ wyD P 0 a b) := c1
      have := key (wyD P 0 a b).toNat (by omega)
      rw [show ((wyD P 0 a b).toNat : Int) = wyD P 0 a b by omega] at this
      exact this
  · have e2 := of_decide_eq_false e2
    exact (q _).1 (fun z => e2 z.2) h0 m0
end
