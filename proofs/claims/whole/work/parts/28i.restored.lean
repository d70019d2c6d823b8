/-! ===== after restore ===== -/
theorem rstP_q (P : Nat → Int) (i j : Nat) (hj : j < 1264) : rstP P i j = pset (fun j => P (1264 * (i + 1) + j)) 92 0 j := by
  by_cases c : j = 92
  · subst c
    unfold rstP
    rw [pset_eq, pset_eq]
  · rw [rstP_low P i j hj c, pset_ne c]
theorem okP.undone {Q : Nat → Int} (ok : okP Q) : okP (pset Q 92 0) := by
  refine ok.of (fun j hj => pset_ne (by omega)) ?_
  obtain ⟨s1, s2, s3⟩ := ok.st
  refine ⟨?_, ?_, fun f hf => ?_⟩
  · show 0 ≤ pset Q 92 0 (65 + 0) ∧ pset Q 92 0 (65 + 0) < Q 1
    rw [pset_ne (by omega)]; exact s1
  · show 0 ≤ pset Q 92 0 (65 + 2) ∧ pset Q 92 0 (65 + 2) < 256
    rw [pset_ne (by omega)]; exact s2
  · show (0 ≤ pset Q 92 0 (65 + (3 + f)) ∧ pset Q 92 0 (65 + (3 + f)) < Q 2) ∧ 0 ≤ pset Q 92 0 (65 + (19 + f)) ∧ pset Q 92 0 (65 + (19 + f)) ≤ 9
    rw [pset_ne (by omega), pset_ne (by omega)]; exact s3 f hf
theorem okP.rst {P : Nat → Int} {i : Nat} (ok : okP (fun j => P (1264 * (i + 1) + j))) : okP (rstP P i) := okP.lows (fun j hj => rstP_q P i j hj) ok.undone
theorem relW.rst {M : Nat → Nat → Int} {P : Nat → Int} {i : Nat} (r : relW M (fun j => P (1264 * (i + 1) + j))) (ok : okP (fun j => P (1264 * (i + 1) + j))) : relW M (rstP P i) := by
  have ok' := ok.undone
  have r' : relW M (pset (fun j => P (1264 * (i + 1) + j)) 92 0) := r.lo ok (fun j hj => pset_ne (by omega))
  exact ⟨r'.1.lows (fun j hj => rstP_q P i j hj) ok'.B.2 ok'.nc.2, r'.2.lows (fun j hj => rstP_q P i (65 + j) (by omega))⟩
theorem rstP_92 (P : Nat → Int) (i : Nat) : rstP P i 92 = 0 := pset_eq _ _ _
