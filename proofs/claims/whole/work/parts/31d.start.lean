/-! ===== both worlds as they are made ===== -/
set_option maxRecDepth 100000 in
theorem p0_tape : ∀ k, k < 900 → hP129.1 2 k = 0 ∧ hQ26.1 4 k = 0 := by decide +kernel
set_option maxRecDepth 100000 in
theorem p0_flds : (hP129.1 1 1 = 0 ∧ hP129.1 3 1 = 0 ∧ hP129.1 3 2 = -1 ∧ hQ26.1 1 5 = 0 ∧ hQ26.1 1 13 = 0 ∧ hQ26.1 1 14 = -1) ∧ (hP129.1 29 0 = 2 ∧ hP129.1 29 1 = 2 ∧ hP129.1 29 2 = 0 ∧ hP129.1 29 3 = 0 ∧ hP129.1 29 6 = 0 ∧ hP129.1 29 13 = 0) ∧ (hP129.1 38 4 = 0 ∧ hP129.1 38 5 = 0 ∧ hP129.1 38 3 = 0) ∧ hP129.1 9 1 = 0 ∧ hP129.1 93 4 = 0 := by decide +kernel
set_option maxRecDepth 100000 in
theorem p0_rows : ∀ f, f < 8 → hP129.1 32 f = 0 ∧ hP129.1 34 f = 0 ∧ hP129.1 39 f = 0 ∧ hP129.1 40 f = 0 ∧ hP129.1 41 f = 0 := by decide +kernel
set_option maxRecDepth 100000 in
theorem p0_laws : ∀ l, l < 3 → hP129.1 37 l = 0 := by decide +kernel
set_option maxRecDepth 100000 in
theorem p0_trays : ∀ t, t < 4 → hP129.1 (85 + 2 * t) 2 = -1 ∧ hQ26.1 20 t = -1 := by decide +kernel
set_option maxRecDepth 100000 in
theorem p0_ims : ∀ i, i < 2 → hQ26.1 3 i = 0 ∧ imW w0C i = false := by decide +kernel
set_option maxRecDepth 100000 in
theorem p0_came : ∀ s, s < 64 → hP129.1 94 s = 0 := by decide +kernel
def P0r : Nat → Int := pset (pset (fun _ => 0) 1 2) 2 2
theorem P0r_0 (j : Nat) (h1 : j ≠ 1) (h2 : j ≠ 2) : P0r j = 0 := by
  unfold P0r
  rw [pset_ne h2, pset_ne h1]
theorem P0r_ok : okP P0r := okP.head (fun _ _ _ _ => rfl) (by decide) (by decide)
set_option maxRecDepth 100000 in
theorem j_start {R : Nat → Nat → Int} (h1 : ∀ c, c ≠ 2 → R c = hQ26.1 c) (h2 : ∀ j, j < 1264 → j ≠ 1 → j ≠ 2 → R 2 j = 0) (h3 : R 2 1 = 2) (h4 : R 2 2 = 2) : J w0C (106, 3878) hP129.1 R := by
  obtain ⟨⟨f1, f2, f3, f4, f5, f6⟩, ⟨l1, l2, l3, l4, l5, l6⟩, ⟨s1, s2, s3⟩, u9, v4⟩ := p0_flds
  have lo : ∀ j, j < 1264 → R 2 j = P0r j := by
    intro j hj
    by_cases c1 : j = 1
    · subst c1; rw [h3]; rfl
    · by_cases c2 : j = 2
      · subst c2; rw [h4]; rfl
      · rw [P0r_0 j c1 c2]; exact h2 j hj c1 c2
  have ok : okP (R 2) := P0r_ok.lows lo
  have z : ∀ j, j < 1264 → j ≠ 1 → j ≠ 2 → R 2 j = 0 := h2
  refine ⟨0, 0, ⟨by rw [h1 1 (by omega)]; exact f4, f1, by omega, fun k hk => ?_⟩, ⟨by rw [f2, h1 1 (by omega), f5], by rw [f3, h1 1 (by omega), f6]⟩, gdP.of0 ok (z 92 (by omega) (by omega) (by omega)), ⟨⟨⟨?_, ?_, ?_, ?_, ?_, ?_⟩, fun b hb => ?_, fun f hf => ?_, fun l hl => ⟨fun _ => p0_laws l hl, fun y => ?_⟩, fun k hk => ?_⟩, ⟨⟨?_, ?_, ?_⟩, fun f hf => ?_⟩⟩, ⟨?_, ⟨fun i hi => ⟨i, hi, rfl⟩, fun i j hi hj e => ?_⟩, fun i hi => ?_⟩, fun t ht => ?_, fun i hi => ?_, ⟨Or.inl rfl, Or.inl rfl⟩, ⟨by omega, rfl, fun y => absurd rfl y, fun i _ _ => rfl⟩, ⟨Nat.le_of_ble_eq_true rfl, Nat.le_of_ble_eq_true rfl⟩, 0, fun _ => 0, v4, Nat.zero_le _, fun i hi => absurd hi (by omega), fun s hs _ => p0_came s hs⟩
  · rw [h1 4 (by omega), (p0_tape k hk).1, (p0_tape k hk).2]
    decide
  · rw [h3]; exact l1
  · rw [h4]; exact l2
  · rw [z 3 (by omega) (by omega) (by omega)]; exact l3
  · have e : mustN (R 2) = 0 := by
      unfold mustN nB
      rw [z 3 (by omega) (by omega) (by omega)]
      rfl
    rw [e]; exact l4
  · rw [z 0 (by omega) (by omega) (by omega)]; exact l5
  · rw [z 363 (by omega) (by omega) (by omega)]; exact l6
  · rw [z 3 (by omega) (by omega) (by omega)] at hb; omega
  · obtain ⟨a1, a2, _⟩ := p0_rows f hf
    rw [z (49 + f) (by omega) (by omega) (by omega), z (57 + f) (by omega) (by omega) (by omega)]
    exact ⟨a1, a2⟩
  · exact absurd (z (4 + l) (by omega) (by omega) (by omega)) y
  · rw [z 363 (by omega) (by omega) (by omega)] at hk; omega
  · show hP129.1 38 4 = R 2 (65 + 0)
    rw [z (65 + 0) (by omega) (by omega) (by omega)]; exact s1
  · show hP129.1 38 5 = R 2 (65 + 1)
    rw [z (65 + 1) (by omega) (by omega) (by omega)]; exact s2
  · show hP129.1 38 3 = R 2 (65 + 2)
    rw [z (65 + 2) (by omega) (by omega) (by omega)]; exact s3
  · obtain ⟨_, _, a3, a4, a5⟩ := p0_rows f hf
    show hP129.1 39 f = R 2 (65 + (3 + f)) ∧ hP129.1 40 f = R 2 (65 + (11 + f)) ∧ hP129.1 41 f = R 2 (65 + (19 + f))
    rw [z (65 + (3 + f)) (by omega) (by omega) (by omega), z (65 + (11 + f)) (by omega) (by omega) (by omega), z (65 + (19 + f)) (by omega) (by omega) (by omega)]
    exact ⟨a3, a4, a5⟩
  · rw [z 92 (by omega) (by omega) (by omega)]; exact u9
  · have e : 45 + 4 * i = 45 + 4 * j := e
    omega
  · rw [z 92 (by omega) (by omega) (by omega)] at hi; omega
  · obtain ⟨a1, a2⟩ := p0_trays t ht
    rw [h1 20 (by omega), a2]
    exact ⟨fun _ => a1, fun y => absurd rfl y⟩
  · obtain ⟨a1, a2⟩ := p0_ims i hi
    rw [h1 3 (by omega)]
    exact Or.inl ⟨a1, a2⟩
