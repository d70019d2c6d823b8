/-! ===== fewest, way, full, fullWay, lists: the class ===== -/
theorem cutV_small {v : Nat} {s : Int} (hv : v < 12) : cutV (v : Int) s = (v : Int) := by
  have e : w32 (v : Int) = (v : Int) := w32_id (by omega) (by omega)
  unfold cutV
  rw [e]
  unfold m_i2b m_i2s
  split
  · omega
  · split
    · omega
    · split <;> rfl
theorem wyL_lt {P : Nat → Int} (ok : okP P) {U f t j : Nat} (hj : (j : Int) < wyD P U f t) : wyL P U f t j < 12 := by
  have hB := ok.nBe
  have hD : dG (nxF P U) (nB P) (glF U t) (4096 * f) = ((wyD P U f t).toNat : Int) := by
    show wyD P U f t = _
    omega
  have h1 := way_all hD j (by omega)
  have h2 := (way_step (n := (wyD P U f t).toNat - j - 1) (s := sG (nxF P U) (nB P) (glF U t) (4096 * f) j) (by rw [h1]; omega)).1
  unfold wyL
  omega
section
variable {d : Nat} {n : Nat × Nat} {Ψ : Int → cQ → (Nat → Nat → Int) → Nat × Nat → Prop} {M : Nat → Nat → Int} {w : cQ} {P : Nat → Int} {c : Nat}
theorem c_fewest (x y : Int) (S : srI w n M c) (r : relW M P) (ok : okP P) (q : ∀ w' n' M' c', eqW w w' → srI w' n' M' c' → KY M M' → Ψ (zFew P 0 x y) w' M' n') : CW (d + 6) 145 [(2, 1), (0, x), (0, y)] w M n Ψ := by
  obtain ⟨eM, hM1, hM2⟩ := ok.nMe
  unfold zFew at q
  refine e11_fewest (c_areMoments x y r (br (fun e => ?_) (fun e => ?_)))
  · rw [if_neg (of_decide_eq_false e)] at q
    exact q w n M c (eqW.refl w) S (fun _ _ => rfl)
  · have e := of_decide_eq_true e
    rw [if_pos e] at q
    obtain ⟨a, ha⟩ : ∃ a : Nat, x = (a : Int) := ⟨x.toNat, by omega⟩
    obtain ⟨b, hb⟩ : ∃ b : Nat, y = (b : Int) := ⟨y.toNat, by omega⟩
    subst ha hb
    simp only [Int.toNat_natCast] at q
    exact c_find a b 0 S r ok (by omega) (by omega) (by omega) (fun w' n' M' c' g1 g2 g3 _ _ => q w' n' M' c' g1 g2 g3)
theorem c_full (x y : Int) (S : srI w n M c) (r : relW M P) (ok : okP P) (q : ∀ w' n' M' c', eqW w w' → srI w' n' M' c' → KY M M' → Ψ (zFew P (mustN P) x y) w' M' n') : CW (d + 6) 148 [(2, 1), (0, x), (0, y)] w M n Ψ := by
  obtain ⟨eM, hM1, hM2⟩ := ok.nMe
  unfold zFew at q
  refine e11_full (c_areMoments x y r (br (fun e => ?_) (fun e => ?_)))
  · rw [if_neg (of_decide_eq_false e)] at q
    exact q w n M c (eqW.refl w) S (fun _ _ => rfl)
  · have e := of_decide_eq_true e
    rw [if_pos e] at q
    obtain ⟨a, ha⟩ : ∃ a : Nat, x = (a : Int) := ⟨x.toNat, by omega⟩
    obtain ⟨b, hb⟩ : ∃ b : Nat, y = (b : Int) := ⟨y.toNat, by omega⟩
    subst ha hb
    simp only [Int.toNat_natCast] at q
    rw [r.must]
    exact c_find a b (mustN P) S r ok (by omega) (by omega) (msk_lt12 _ ok.nBe.2) (fun w' n' M' c' g1 g2 g3 _ _ => q w' n' M' c' g1 g2 g3)
theorem c_placeOfWay (x y i : Int) (U : Nat) (hU : U < 4096) (S : srI w n M c) (r : relW M P) (ok : okP P) (q : ∀ w' n' M' c', eqW w w' → srI w' n' M' c' → KY M M' → Ψ (zWay P U x y i) w' M' n') : CW (d + 6) 150 [(2, 1), (0, x), (0, y), (0, i), (0, (U : Int))] w M n Ψ := by
  obtain ⟨eM, hM1, hM2⟩ := ok.nMe
  unfold zWay at q
  refine e11_placeOfWay (c_areMoments x y r (br' (fun e => ?_) (fun e => ?_)))
  · have e := of_decide_eq_true e
    rw [if_pos e] at q
    obtain ⟨a, ha⟩ : ∃ a : Nat, x = (a : Int) := ⟨x.toNat, by omega⟩
    obtain ⟨b, hb⟩ : ∃ b : Nat, y = (b : Int) := ⟨y.toNat, by omega⟩
    subst ha hb
    simp only [Int.toNat_natCast] at q
    refine ⟨fun c1 => ?_, fun c1 => ?_⟩
    · rw [if_pos c1] at q
      refine c_find a b U S r ok (by omega) (by omega) hU (fun w' n' M' c' g1 g2 g3 g4 _ => ?_)
      have q1 := q w' n' M' c' g1 g2 g3
      refine ⟨fun c2 => ?_, fun c2 => ?_⟩
      · rw [if_neg (by omega)] at q1; exact q1
      · rw [if_pos (by omega)] at q1
        obtain ⟨j, hj⟩ : ∃ j : Nat, i = (j : Int) := ⟨i.toNat, by omega⟩
        subst hj
        rw [Int.toNat_natCast] at q1
        exact g4 j (by omega) M' (fun _ _ => rfl) (d + 2) n' (fun r2 M3 => Ψ r2 w' M3 n') q1
    · rw [if_neg c1] at q
      exact q w n M c (eqW.refl w) S (fun _ _ => rfl)
  · rw [if_neg (of_decide_eq_false e)] at q
    exact q w n M c (eqW.refl w) S (fun _ _ => rfl)
theorem c_way (x y i : Int) (S : srI w n M c) (r : relW M P) (ok : okP P) (q : ∀ w' n' M' c', eqW w w' → srI w' n' M' c' → KY M M' → Ψ (zWay P 0 x y i) w' M' n') : CW (d + 7) 146 [(2, 1), (0, x), (0, y), (0, i)] w M n Ψ :=
  e11_way (c_placeOfWay x y i 0 (by omega) S r ok q)
theorem c_fullWay (x y i : Int) (S : srI w n M c) (r : relW M P) (ok : okP P) (q : ∀ w' n' M' c', eqW w w' → srI w' n' M' c' → KY M M' → Ψ (zWay P (mustN P) x y i) w' M' n') : CW (d + 7) 149 [(2, 1), (0, x), (0, y), (0, i)] w M n Ψ := by
  apply e11_fullWay
  rw [r.must]
  exact c_placeOfWay x y i (mustN P) (msk_lt12 _ ok.nBe.2) S r ok q
theorem c_lists {Sr Z U : Nat → Int} (t x y : Int) (S : srI w n M c) (r : relW M P) (ok : okP P) (rt : relT M Sr Z U) (q : ∀ w' n' M' c', eqW w w' → srI w' n' M' c' → (¬ ((0 ≤ t ∧ t ≤ 3) ∧ (0 ≤ x ∧ x < P 2) ∧ 0 ≤ y ∧ y < P 2) → KY M M' → Ψ (-2) w' M' n') ∧ ((0 ≤ t ∧ t ≤ 3) ∧ (0 ≤ x ∧ x < P 2) ∧ 0 ≤ y ∧ y < P 2 → (noT Sr t ≠ 0 → KY M M' → Ψ (noT Sr t) w' M' n') ∧ (noT Sr t = 0 → wyD P 0 x.toNat y.toNat = -1 → KY M M' → Ψ (-5) w' M' n') ∧ (noT Sr t = 0 → wyD P 0 x.toNat y.toNat ≠ -1 → (∀ a, (a < 4 ∨ (9 ≤ a ∧ a < 14) ∨ (17 ≤ a ∧ a < 42) ∨ (44 ≤ a ∧ a < 85) ∨ (110 ≤ a ∧ a < 140)) → M' a = M a) → relT M' Sr Z (wrU U (40 * t.toNat) (wyL P 0 x.toNat y.toNat) (min (wyD P 0 x.toNat y.toNat) (Z t.toNat)).toNat) → Ψ (min (wyD P 0 x.toNat y.toNat) (Z t.toNat)) w' M' n'))) : CW (d + 6) 174 [(2, 1), (0, t), (0, x), (0, y)] w M n Ψ := by
  obtain ⟨eM, hM1, hM2⟩ := ok.nMe
  refine e11_lists (c_isTray t (br (fun e => ?_) (fun e => c_areMoments x y r (br' (fun e2 => ?_) (fun e2 => ?_)))))
  · have e := of_decide_eq_false e
    exact (q w n M c (eqW.refl w) S).1 (fun z => e z.1) (fun _ _ => rfl)
  · have e := of_decide_eq_true e
    have e2 := of_decide_eq_true e2
    obtain ⟨a, ha⟩ : ∃ a : Nat, x = (a : Int) := ⟨x.toNat, by omega⟩
    obtain ⟨b, hb⟩ : ∃ b : Nat, y = (b : Int) := ⟨y.toNat, by omega⟩
    obtain ⟨i, hi⟩ : ∃ i : Nat, t = (i : Int) := ⟨t.toNat, by omega⟩
    subst ha hb hi
    simp only [Int.toNat_natCast] at q ⊢
    have hi4 : i < 4 := by omega
    obtain ⟨tr, hr10⟩ := isTr_t w i hi4
    rw [hr10]
    refine ⟨by omega, tr.1, c_isMissing i hi4 rt (br (fun e3 => ?_) (fun e3 => ?_))⟩
    · have e3 := of_decide_eq_false e3
      have en : noT Sr (i : Int) = 0 := by
        unfold noT
        rw [if_pos e, Int.toNat_natCast, if_neg e3]
      obtain ⟨z1, z2, z3, z4, z5⟩ := (rt i hi4).2 e3
      refine c_find a b 0 S r ok (by omega) (by omega) (by omega) (fun w' n' M' c' g1 g2 g3 g4 g5 => ?_)
      have e85 : M' (85 + 2 * i) = M (85 + 2 * i) := g3 _ (by omega)
      have rt' : relT M' Sr Z U := rt.congr (fun x h1 h2 => g3 x (by omega))
      rw [e85, z2]
      refine ⟨fun cn => ⟨(isTr_t w' i hi4).1.1, ?_⟩, fun cn => ((q w' n' M' c' g1 g2).2 ⟨e, e2⟩).2.1 en (Decidable.not_not.mp cn) g3⟩
      have hD0 : 0 ≤ wyD P 0 a b := by
        unfold wyD at cn ⊢
        rcases dG_cases (nxF P 0) (nB P) (glF 0 b) (4096 * a) with ⟨k, _, z⟩ | ⟨z, _⟩
        · omega
        · exact absurd z cn
      have em : (if Z i < wyD P 0 a b then Z i else wyD P 0 a b) = (((min (wyD P 0 a b) (Z i)).toNat : Nat) : Int) := by
        split <;> omega
      have hmin : min (wyD P 0 a b) (Z i) = (((min (wyD P 0 a b) (Z i)).toNat : Nat) : Int) := by omega
      rw [em]
      generalize hN : (min (wyD P 0 a b) (Z i)).toNat = N at *
      have loop : ∀ k, k ≤ N → ∀ (M5 : Nat → Nat → Int), (∀ x, x ≠ 86 + 2 * i → M5 x = M' x) → relT M5 Sr Z (wrU U (40 * i) (wyL P 0 a b) k) → W11_lists_74 (d + 5) Ψ (N : Nat) (k : Nat) (85 + 2 * i) w' M5 n' := by
        refine up (fun M5 k1 k2 => ?_) (fun k hk ih M5 k1 k2 => ?_)
        · apply v11_lists_74
          refine ⟨fun _ => ?_, fun z => absurd (Int.le_refl _) z⟩
          have s5 : srI w' n' M5 c' := g2.kc (fun x hx => k1 x (by omega))
          have := ((q w' n' M5 c' g1 s5).2 ⟨e, e2⟩).2.2 en cn (fun x hx => (k1 x (by omega)).trans (g3 x (by omega)))
          rw [hmin] at this
          exact this k2
        · apply v11_lists_74
          rw [w32_s (by omega)]
          refine ⟨fun z => absurd z (by omega), fun _ => ?_⟩
          have hjD : (k : Int) < wyD P 0 a b := by omega
          have hl := wyL_lt ok hjD
          refine g4 k hjD M5 (fun x hx => k1 x ?_) (d + 2) n' _ ⟨(isTr_t w' i hi4).1.1, ?_⟩
          · rcases hx with hx | hx | hx
            · omega
            · rw [hx]; unfold aA; split <;> omega
            · rw [hx]; unfold bA; split <;> omega
          · refine c_put i k _ hi4 k2 e3 (by omega) ?_
            rw [cutV_small hl]
            refine ih _ (fun x hx => (sI_row hx).trans (k1 x hx)) (fun t' ht' => ?_)
            have k2t := k2 t' ht'
            rw [sI_row (a := 86 + 2 * i) (b := 85 + 2 * t') (by omega)]
            refine ⟨k2t.1, fun hs' => ?_⟩
            obtain ⟨y1, y2, y3, y4, y5⟩ := k2t.2 hs'
            refine ⟨y1, y2, y3, y4, fun kk hkk => ?_⟩
            rw [wrU_s]
            by_cases ct : t' = i
            · subst ct
              rw [sI_p]
              by_cases ck : kk = k
              · rw [ck, pset_eq, pset_eq]
              · rw [pset_ne ck, pset_ne (by omega)]; exact y5 kk hkk
            · rw [sI_row (by omega), pset_ne (by omega)]; exact y5 kk hkk
      refine loop 0 (Nat.zero_le _) M' (fun _ _ => rfl) ?_
      have : wrU U (40 * i) (wyL P 0 a b) 0 = U := by
        funext j
        unfold wrU
        rw [if_neg (by omega)]
      rw [this]
      exact rt'
    · have e3 := of_decide_eq_true e3
      have en : noT Sr (i : Int) = -6 := by
        unfold noT
        rw [if_pos e, Int.toNat_natCast, if_pos e3]
      have := ((q w n M c (eqW.refl w) S).2 ⟨e, e2⟩).1 (by omega) (fun _ _ => rfl)
      rw [en] at this
      exact this
  · have e2 := of_decide_eq_false e2
    exact (q w n M c (eqW.refl w) S).1 (fun z => e2 z.2) (fun _ _ => rfl)
end
