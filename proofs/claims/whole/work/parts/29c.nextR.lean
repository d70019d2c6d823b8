/-! ===== the next token: the reference ===== -/
def frX (M M' : Nat → Nat → Int) : Prop := (∀ c, c ≠ 1 → M' c = M c) ∧ (∀ k, k ≠ 6 → k ≠ 7 → k ≠ 9 → k ≠ 10 → M' 1 k = M 1 k)
theorem frX.refl (M : Nat → Nat → Int) : frX M M := ⟨fun _ _ => rfl, fun _ _ _ _ _ => rfl⟩
theorem frX.set {M M' : Nat → Nat → Int} {k : Nat} {x : Int} (h : frX M M') (hk : k = 6 ∨ k = 7 ∨ k = 9 ∨ k = 10) : frX M (sI M' 1 k x) := ⟨fun c hc => (sI_row hc).trans (h.1 c hc), fun j h1 h2 h3 h4 => by rw [sI_ne (by omega)]; exact h.2 j h1 h2 h3 h4⟩
theorem tapR.fr {M M' : Nat → Nat → Int} {T : Nat → Int} {N : Nat} (t : tapR M T N) (h : frX M M') : tapR M' T N := ⟨by rw [h.2 8 (by omega) (by omega) (by omega) (by omega)]; exact t.1, t.2.1, fun k hk => by rw [h.1 4 (by omega)]; exact t.2.2 k hk⟩
theorem tx0_len : mLenT (m_tx 0) = 12 := by decide +kernel
theorem tx0_eq : m_tx 0 = sgL := rfl
theorem sg_ne : ∀ j, j < 12 → ∀ k, k < 12 → mAtT sgL j = mAtT sgL k → j = k := by decide +kernel
section
variable {d : Nat} {n : Nat × Nat} {Φ : Int → (Nat → Nat → Int) → Prop} {M : Nat → Nat → Int} {T : Nat → Int} {N : Nat}
theorem sp_next (p : Nat) (t : tapR M T N) (hM : M 1 7 = (p : Int)) (hp : p ≤ N) (q : ∀ M', frX M M' → M' 1 6 = (tkA T N p : Nat) → M' 1 7 = (tkE T N p : Nat) → M' 1 9 = (tkK T N p : Nat) → (tkK T N p = 23 → M' 1 10 = tkV T N p) → Φ 0 M') : CR (d + 2) 190 [(2, 1)] M n Φ := by
  have hN := t.2.1
  have hA := tkA_le (T := T) hp
  generalize hA0 : tkA T N p = A at *
  have proc : ∀ M2, frX M M2 → M2 1 6 = (A : Int) → (((sI M2 1 7 (M2 1 6)) 1 6) < ((sI M2 1 7 (M2 1 6)) 1 8) → CR (d + 1) 186 [(2, 1), (0, (sI M2 1 7 (M2 1 6)) 1 6)] (sI M2 1 7 (M2 1 6)) n (fun r2 M3 => CR (d + 1) 187 [(0, r2)] M3 n (fun r3 M4 => (r3 = 0 → CR (d + 1) 186 [(2, 1), (0, M4 1 6)] M4 n (fun r4 M5 => CR (d + 1) 188 [(0, r4)] M5 n (fun r5 M6 => (r5 = 0 → W12_next_254 (d + 1) n Φ 0 (sI (sI M6 1 7 (w32 ((M6 1 7) + 1))) 1 9 25)) ∧ (¬ (r5 = 0) → W12_next_146 (d + 1) n Φ (sI M6 1 10 0))))) ∧ (¬ (r3 = 0) → W12_next_89 (d + 1) n Φ M4)))) ∧ (¬ (((sI M2 1 7 (M2 1 6)) 1 6) < ((sI M2 1 7 (M2 1 6)) 1 8)) → Φ 0 (sI (sI M2 1 7 (M2 1 6)) 1 9 24)) := by
    intro M2 f2 e6
    have f3 : frX M (sI M2 1 7 (M2 1 6)) := f2.set (by omega)
    have e6' : (sI M2 1 7 (M2 1 6)) 1 6 = (A : Int) := by rw [sI_ne (by omega)]; exact e6
    have e7' : (sI M2 1 7 (M2 1 6)) 1 7 = (A : Int) := by rw [sI_same]; exact e6
    generalize sI M2 1 7 (M2 1 6) = M3 at *
    have t3 := t.fr f3
    rw [e6', t3.1]
    refine ⟨fun c => ?_, fun c => ?_⟩
    · have cA : A < N := by omega
      refine sp_see A t3 ?_
      rw [if_pos cA]
      refine sp_small _ (br (fun hs => ?_) (fun hs => ?_))
      · rw [e6']
        refine sp_see A t3 ?_
        rw [if_pos cA]
        refine sp_digit _ (br (fun hd => ?_) (fun hd => ?_))
        · -- a sign
          have hE : tkE T N p = A + 1 := by
            unfold tkE
            rw [hA0, if_pos cA, if_neg (by rw [hs]; decide), if_neg (by rw [hd]; decide)]
          have hK : tkK T N p = if sgn (T A) < 12 then 30 + sgn (T A) else 25 := by
            unfold tkK
            rw [hA0, if_pos cA, if_neg (by rw [hs]; decide), if_neg (by rw [hd]; decide)]
          obtain ⟨s1, s2, s3⟩ := fstB_all (fun k => decide (T A = mAtT sgL k)) 12
          have key : ∀ k, k ≤ 12 → ∀ M4, frX M M4 → M4 1 6 = (A : Int) → M4 1 7 = ((A + 1 : Nat) : Int) → M4 1 9 = (if sgn (T A) < k then ((30 + sgn (T A) : Nat) : Int) else 25) → W12_next_254 (d + 1) n Φ (k : Nat) M4 := by
            refine up (fun M4 g1 g2 g3 g4 => ?_) (fun k hk ih M4 g1 g2 g3 g4 => ?_)
            · apply v12_next_254
              rw [tx0_len]
              refine ⟨fun _ => q M4 g1 g2 (by rw [hE]; exact g3) ?_ (fun z => ?_), fun c => absurd (Int.le_refl _) c⟩
              · rw [g4, hK]; split <;> rfl
              · rw [hK] at z
                split at z <;> omega
            · apply v12_next_254
              rw [tx0_len, g2, w32_s (k := k) (by omega), Int.toNat_natCast]
              refine ⟨fun c => absurd c (by omega), fun _ => sp_see A (t.fr g1) ?_⟩
              rw [if_pos cA, tx0_eq]
              refine ⟨by omega, fun c => ?_, fun c => ?_⟩
              · refine ih M4 g1 g2 g3 ?_
                rw [g4]
                by_cases z : sgn (T A) < k
                · rw [if_pos z, if_pos (by omega)]
                · rw [if_neg z, if_neg]
                  intro z2
                  have z3 : sgn (T A) = k := by omega
                  have z4 := of_decide_eq_true (s2 (show sgn (T A) < 12 by omega))
                  have z4 : T A = mAtT sgL (sgn (T A)) := z4
                  rw [z3] at z4
                  exact c z4
              · have ce := Decidable.not_not.mp c
                have z3 : sgn (T A) = k := by
                  rcases Nat.lt_trichotomy (sgn (T A)) k with z | z | z
                  · have z4 : T A = mAtT sgL (sgn (T A)) := of_decide_eq_true (s2 (show sgn (T A) < 12 by omega))
                    exact absurd (sg_ne _ (by omega) k hk (z4.symm.trans ce)) (by omega)
                  · exact z
                  · exact absurd ce (of_decide_eq_false (s3 k z))
                refine ih _ (g1.set (by omega)) (by rw [sI_ne (by omega)]; exact g2) (by rw [sI_ne (by omega)]; exact g3) ?_
                rw [sI_same, if_pos (by omega), z3, w32_id (by omega) (by omega)]
                omega
          refine key 0 (Nat.zero_le _) _ ((f3.set (by omega)).set (by omega)) ?_ ?_ ?_
          · rw [sI_ne (by omega), sI_ne (by omega)]; exact e6'
          · rw [sI_ne (by omega), sI_same, e7', w32_s (by omega)]
          · rw [sI_same, if_neg (by omega)]
        · -- digits
          have hE : tkE T N p = rnd isDg T N A := by
            unfold tkE
            rw [hA0, if_pos cA, if_neg (by rw [hs]; decide), if_pos hd]
          have hEl := rnd_lt (p := isDg) (T := T) hA.2
          have hK : tkK T N p = if tkE T N p - A > 3 then 25 else 23 := by
            unfold tkK
            rw [hA0, if_pos cA, if_neg (by rw [hs]; decide), if_pos hd]
          have hdv : ∀ k, k ≤ 3 → (∀ j, j < k → isDg (T (A + j)) = true) → 0 ≤ dgv T A k ∧ dgv T A k < 10 ^ k := by
            intro k
            induction k with
            | zero => intro _ _; exact ⟨Int.le_refl 0, (by show (0 : Int) < 1; omega)⟩
            | succ k ih =>
              intro hk hall
              have h1 := ih (by omega) (fun j hj => hall j (by omega))
              have h2 := of_decide_eq_true (hall k (by omega))
              have h3 : k = 0 ∨ k = 1 ∨ k = 2 := by omega
              show 0 ≤ 10 * dgv T A k + T (A + k) - 48 ∧ 10 * dgv T A k + T (A + k) - 48 < 10 ^ (k + 1)
              rcases h3 with z | z | z <;> subst z <;> omega
          have key : ∀ i, i ≤ N → A ≤ i → (∀ j, A ≤ j → j < i → isDg (T j) = true) → rnd isDg T N A = rnd isDg T N i → ∀ M4, frX M M4 → M4 1 6 = (A : Int) → M4 1 7 = (i : Int) → M4 1 10 = dgv T A (min (i - A) 3) → W12_next_146 (d + 1) n Φ M4 := by
            have stop : ∀ i, i ≤ N → A ≤ i → rnd isDg T N A = i → ∀ M4, frX M M4 → M4 1 6 = (A : Int) → M4 1 7 = (i : Int) → M4 1 10 = dgv T A (min (i - A) 3) → (w32 ((M4 1 7) - (M4 1 6)) ≤ 3 → Φ 0 (sI M4 1 9 23)) ∧ (¬ (w32 ((M4 1 7) - (M4 1 6)) ≤ 3) → Φ 0 (sI M4 1 9 25)) := by
              intro i hi hAi hr M4 g1 g2 g3 g4
              rw [g2, g3, w32_id (by omega) (by omega)]
              have hEi : tkE T N p = i := by rw [hE, hr]
              refine ⟨fun c => q _ (g1.set (by omega)) (by rw [sI_ne (by omega)]; exact g2) (by rw [sI_ne (by omega), hEi]; exact g3) ?_ (fun _ => ?_), fun c => q _ (g1.set (by omega)) (by rw [sI_ne (by omega)]; exact g2) (by rw [sI_ne (by omega), hEi]; exact g3) ?_ (fun z => ?_)⟩
              · rw [sI_same, hK, hEi, if_neg (by omega)]; rfl
              · rw [sI_ne (by omega), g4]
                unfold tkV
                rw [hA0, hEi]
              · rw [sI_same, hK, hEi, if_pos (by omega)]; rfl
              · rw [hK, hEi, if_pos (by omega)] at z
                omega
            refine up (fun hAi hall hr M4 g1 g2 g3 g4 => ?_) (fun i hi ih hAi hall hr M4 g1 g2 g3 g4 => ?_)
            · apply v12_next_146
              rw [g3]
              refine sp_see N (t.fr g1) ?_
              rw [if_neg (by omega)]
              refine sp_digit _ (br (fun _ => ?_) (fun z => by cases z))
              have := stop N (Nat.le_refl _) hAi (by rw [hr]; exact rnd_end (by omega)) M4 g1 g2 g3 g4
              exact this
            · apply v12_next_146
              rw [g3]
              refine sp_see i (t.fr g1) ?_
              rw [if_pos hi]
              refine sp_digit _ (br (fun z => ?_) (fun z => ?_))
              · have := stop i (by omega) hAi (by rw [hr]; exact rnd_end (fun y => by rw [z] at y; cases y.2)) M4 g1 g2 g3 g4
                exact this
              · have hall' : ∀ j, A ≤ j → j < i + 1 → isDg (T j) = true := fun j h1 h2 => by
                  by_cases c : j = i
                  · rw [c]; exact z
                  · exact hall j h1 (by omega)
                have hr' : rnd isDg T N A = rnd isDg T N (i + 1) := hr.trans (rnd_go hi z)
                have hz := of_decide_eq_true z
                rw [g3, g2, w32_id (x := (i : Int) - (A : Int)) (by omega) (by omega), w32_s (k := i) (by omega)]
                refine ⟨fun c => ?_, fun c => sp_see i (t.fr g1) ?_⟩
                · refine ih (by omega) hall' hr' _ (g1.set (by omega)) (by rw [sI_ne (by omega)]; exact g2) (sI_same _ _ _ _) ?_
                  rw [sI_ne (by omega), g4, show min (i - A) 3 = 3 by omega, show min (i + 1 - A) 3 = 3 by omega]
                · rw [if_pos hi]
                  have hv := hdv (i - A) (by omega) (fun j hj => hall (A + j) (by omega) (by omega))
                  have h3 : i - A = 0 ∨ i - A = 1 ∨ i - A = 2 := by omega
                  have hv2 : dgv T A (i - A) < 1000 := by
                    rcases h3 with y | y | y <;> rw [y] at hv ⊢ <;> omega
                  have ev : w32 (w32 (w32 (10 * M4 1 10) + T i) - 48) = dgv T A (min (i + 1 - A) 3) := by
                    rw [g4, show min (i - A) 3 = i - A by omega, show min (i + 1 - A) 3 = (i - A) + 1 by omega]
                    show _ = 10 * dgv T A (i - A) + T (A + (i - A)) - 48
                    rw [show A + (i - A) = i by omega, w32_id (x := 10 * dgv T A (i - A)) (by omega) (by omega), w32_id (x := 10 * dgv T A (i - A) + T i) (by omega) (by omega), w32_id (by omega) (by omega)]
                  rw [ev]
                  have e7 : (sI M4 1 10 (dgv T A (min (i + 1 - A) 3))) 1 7 = (i : Int) := by rw [sI_ne (by omega)]; exact g3
                  rw [e7, w32_s (by omega)]
                  exact ih (by omega) hall' hr' _ ((g1.set (by omega)).set (by omega)) (by rw [sI_ne (by omega), sI_ne (by omega)]; exact g2) (sI_same _ _ _ _) (by rw [sI_ne (by omega), sI_same])
          refine key A hA.2 (Nat.le_refl _) (fun j h1 h2 => by omega) rfl _ (f3.set (by omega)) (by rw [sI_ne (by omega)]; exact e6') (by rw [sI_ne (by omega)]; exact e7') ?_
          rw [sI_same, Nat.sub_self]
          rfl
      · -- a word
        have hE : tkE T N p = rnd isSm T N A := by
          unfold tkE
          rw [hA0, if_pos cA, if_pos hs]
        have hK : tkK T N p = keyN T A (tkE T N p) := by
          unfold tkK
          rw [hA0, if_pos cA, if_pos hs]
        have hk22 : keyN T A (tkE T N p) ≤ 22 := (fstB_all (fun k => eqW' T (tkE T N p) (wdL k) A) 22).1
        have fin : ∀ i, i ≤ N → A ≤ i → rnd isSm T N A = i → ∀ M4, frX M M4 → M4 1 6 = (A : Int) → M4 1 7 = (i : Int) → CR (d + 1) 189 [(2, 1)] M4 n (fun r2 M3 => Φ 0 (sI M3 1 9 r2)) := by
          intro i hi hAi hr M4 g1 g2 g3
          have hEi : tkE T N p = i := by rw [hE, hr]
          refine sp_keyAt A i (t.fr g1) g2 g3 hAi hi ?_
          refine q _ (g1.set (by omega)) (by rw [sI_ne (by omega)]; exact g2) (by rw [sI_ne (by omega), hEi]; exact g3) (by rw [sI_same, hK, hEi]) (fun z => ?_)
          rw [hK] at z
          omega
        have key : ∀ i, i ≤ N → A ≤ i → rnd isSm T N A = rnd isSm T N i → ∀ M4, frX M M4 → M4 1 6 = (A : Int) → M4 1 7 = (i : Int) → W12_next_89 (d + 1) n Φ M4 := by
          refine up (fun hAi hr M4 g1 g2 g3 => ?_) (fun i hi ih hAi hr M4 g1 g2 g3 => ?_)
          · apply v12_next_89
            rw [g3]
            refine sp_see N (t.fr g1) ?_
            rw [if_neg (by omega)]
            exact sp_small _ (br (fun _ => fin N (Nat.le_refl _) hAi (by rw [hr]; exact rnd_end (by omega)) M4 g1 g2 g3) (fun z => by cases z))
          · apply v12_next_89
            rw [g3]
            refine sp_see i (t.fr g1) ?_
            rw [if_pos hi]
            refine sp_small _ (br (fun z => fin i (by omega) hAi (by rw [hr]; exact rnd_end (fun y => by rw [z] at y; cases y.2)) M4 g1 g2 g3) (fun z => ?_))
            rw [g3, w32_s (by omega)]
            exact ih (by omega) (hr.trans (rnd_go hi z)) _ (g1.set (by omega)) (by rw [sI_ne (by omega)]; exact g2) (sI_same _ _ _ _)
        exact key A hA.2 (Nat.le_refl _) rfl M3 f3 e6' e7'
    · have cA : ¬ (A < N) := by omega
      have hE : tkE T N p = A := by unfold tkE; rw [hA0, if_neg cA]
      have hK : tkK T N p = 24 := by unfold tkK; rw [hA0, if_neg cA]
      exact q _ (f3.set (by omega)) (by rw [sI_ne (by omega)]; exact e6') (by rw [sI_ne (by omega), hE]; exact e7') (by rw [sI_same, hK]; rfl) (fun z => by rw [hK] at z; omega)
  have key : ∀ i, i ≤ N → p ≤ i → rnd isSp T N p = rnd isSp T N i → ∀ M2, frX M M2 → M2 1 6 = (i : Int) → W12_next_8 (d + 1) n Φ M2 := by
    refine up (fun hpi hr M2 f2 e6 => ?_) (fun i hi ih hpi hr M2 f2 e6 => ?_)
    · apply v12_next_8
      rw [e6]
      refine sp_see N (t.fr f2) ?_
      rw [if_neg (by omega)]
      refine ⟨fun c => absurd c (by omega), fun _ => ?_⟩
      rw [e6]
      refine sp_see N (t.fr f2) ?_
      rw [if_neg (by omega)]
      have hNA : A = N := by rw [← hA0]; unfold tkA; rw [hr]; exact rnd_end (by omega)
      exact ⟨fun _ => proc M2 f2 (by rw [hNA]; exact e6), fun c => absurd (by omega) c⟩
    · apply v12_next_8
      have nxt : isSp (T i) = true → W12_next_8 (d + 1) n Φ (sI M2 1 6 ((i + 1 : Nat) : Int)) := fun hs => ih (by omega) (hr.trans (rnd_go hi hs)) _ (f2.set (by omega)) (sI_same _ _ _ _)
      rw [e6]
      refine sp_see i (t.fr f2) ?_
      rw [if_pos hi]
      refine ⟨fun c => ?_, fun c => ?_⟩
      · rw [e6, w32_s (by omega)]
        exact nxt (decide_eq_true (Or.inl c))
      rw [e6]
      refine sp_see i (t.fr f2) ?_
      rw [if_pos hi]
      refine ⟨fun c2 => proc M2 f2 ?_, fun c2 => ?_⟩
      · have : A = i := by
          rw [← hA0]
          unfold tkA
          rw [hr]
          refine rnd_end (fun y => ?_)
          rcases of_decide_eq_true y.2 with z | z
          · exact c z
          · exact c2 z
        rw [this]; exact e6
      · rw [e6, w32_s (by omega)]
        exact nxt (decide_eq_true (Or.inr (Decidable.not_not.mp c2)))
  refine e12_next (key p hp (Nat.le_refl _) rfl _ ((frX.refl M).set (by omega)) ?_)
  rw [sI_same]
  exact hM
end
