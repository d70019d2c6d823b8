/-! ===== only the first 1264 numbers of a row matter ===== -/
theorem tyk_ext {l : Nat} {cd cd' : Nat → Int} : ∀ m, (∀ k, k < m → cd' k = cd k) → tyk l cd' m = tyk l cd m
  | 0, _ => rfl
  | m + 1, h => by
    unfold tyk
    rw [tyk_ext m (fun k hk => h k (by omega)), h m (by omega)]
theorem relL.lows {M : Nat → Nat → Int} {a : Nat} {P P' : Nat → Int} (h : ∀ j, j < 1264 → P' j = P j) (hB : P 3 ≤ 12) (hn : P 363 ≤ 900) (r : relL M a P) : relL M a P' := by
  have eB : nB P' = nB P := by unfold nB; rw [h 3 (by omega)]
  have em : mustN P' = mustN P := by
    unfold mustN
    rw [eB]
    refine msk_ext _ (fun k hk => ?_)
    have : nB P ≤ 12 := by unfold nB; omega
    rw [h (37 + k) (by omega)]
  obtain ⟨⟨r1, r2, r3, r4, r5, r6⟩, r7, r8, r9, r10⟩ := r
  refine ⟨⟨?_, ?_, ?_, ?_, ?_, ?_⟩, fun b hb => ?_, fun f hf => ?_, fun l hl => ?_, fun k hk => ?_⟩
  · rw [h 1 (by omega)]; exact r1
  · rw [h 2 (by omega)]; exact r2
  · rw [h 3 (by omega)]; exact r3
  · rw [em]; exact r4
  · rw [h 0 (by omega)]; exact r5
  · rw [h 363 (by omega)]; exact r6
  · rw [h 3 (by omega)] at hb
    rw [h (13 + b) (by omega), h (25 + b) (by omega)]
    exact r7 b hb
  · rw [h (49 + f) (by omega), h (57 + f) (by omega)]
    exact r8 f hf
  · rw [h (4 + l) (by omega), h (7 + l) (by omega), h (10 + l) (by omega)]
    exact r9 l hl
  · rw [h 363 (by omega)] at hk
    rw [h (364 + k) (by omega)]
    exact r10 k hk
theorem relS.lows {M : Nat → Nat → Int} {a : Nat} {Q Q' : Nat → Int} (h : ∀ j, j < 27 → Q' j = Q j) (r : relS M a Q) : relS M a Q' := by
  obtain ⟨⟨r1, r2, r3⟩, r4⟩ := r
  refine ⟨⟨?_, ?_, ?_⟩, fun f hf => ?_⟩
  · rw [h 0 (by omega)]; exact r1
  · rw [h 1 (by omega)]; exact r2
  · rw [h 2 (by omega)]; exact r3
  · rw [h (3 + f) (by omega), h (11 + f) (by omega), h (19 + f) (by omega)]
    exact r4 f hf
theorem okP.lows {P P' : Nat → Int} (h : ∀ j, j < 1264 → P' j = P j) (ok : okP P) : okP P' := by
  have hn := ok.nc
  have hB := ok.B
  refine ⟨?_, ?_, ?_, fun b hb => ?_, fun f hf => ?_, ⟨?_, ?_, fun l hl => ?_⟩, ?_⟩
  · rw [h 1 (by omega)]; exact ok.F
  · rw [h 2 (by omega)]; exact ok.Mo
  · rw [h 3 (by omega)]; exact ok.B
  · rw [h 3 (by omega)] at hb
    rw [h 2 (by omega), h (13 + b) (by omega), h (25 + b) (by omega), h (37 + b) (by omega)]
    exact ok.bit hb
  · rw [h 2 (by omega), h (49 + f) (by omega), h (57 + f) (by omega)]
    exact ok.farm hf
  · rw [h 363 (by omega)]; exact hn.1
  · rw [h 363 (by omega)]; exact hn.2
  · have hl' := ok.law hl
    unfold okL at hl' ⊢
    rw [h (4 + l) (by omega), h (7 + l) (by omega), h (10 + l) (by omega), h 363 (by omega)]
    rcases hl' with z | ⟨z1, z2, z3, z4, z5⟩
    · exact Or.inl z
    · refine Or.inr ⟨z1, z2, z3, z4, ?_⟩
      have em : mnP P' l = mnP P l := by unfold mnP; rw [h (10 + l) (by omega)]
      rw [em, tyk_ext (cd := cdP P l) (mnP P l) (fun k hk => ?_)]
      · exact z5
      · unfold mnP at hk
        unfold cdP
        rw [h (7 + l) (by omega), h (364 + (P (7 + l)).toNat + k) (by omega)]
  · obtain ⟨s1, s2, s3⟩ := ok.st
    refine ⟨?_, ?_, fun f hf => ?_⟩
    · show 0 ≤ P' (65 + 0) ∧ P' (65 + 0) < P' 1
      rw [h (65 + 0) (by omega), h 1 (by omega)]; exact s1
    · show 0 ≤ P' (65 + 2) ∧ P' (65 + 2) < 256
      rw [h (65 + 2) (by omega)]; exact s2
    · show (0 ≤ P' (65 + (3 + f)) ∧ P' (65 + (3 + f)) < P' 2) ∧ 0 ≤ P' (65 + (19 + f)) ∧ P' (65 + (19 + f)) ≤ 9
      rw [h (65 + (3 + f)) (by omega), h (65 + (19 + f)) (by omega), h 2 (by omega)]; exact s3 f hf
