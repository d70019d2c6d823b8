/-! ===== words are looked up: the reference ===== -/
def psW : Nat → Nat
  | 0 => 1
  | k + 1 => psW k + (wdL k).length + 1
def atL : List Int → Nat → Int
  | [], _ => 32
  | c :: _, 0 => c
  | _ :: l, i + 1 => atL l i
theorem tx2_ok : ∀ k, k < 22 → (∀ i, i < 9 → i ≤ (wdL k).length → mAtT (m_tx 2) (psW k + i) = atL (wdL k) i) ∧ (wdL k).length < 9 ∧ psW (k + 1) ≤ 111 := by decide +kernel
theorem tx2_len : mLenT (m_tx 2) = psW 22 := by decide +kernel
theorem wdL_ne : ∀ k, k < 22 → ∀ i, i < 9 → i < (wdL k).length → atL (wdL k) i ≠ 32 := by decide +kernel
theorem atL_drop : ∀ (l : List Int) (i : Nat), i < l.length → l.drop i = atL l i :: l.drop (i + 1)
  | [], i, h => absurd h (Nat.not_lt_zero _)
  | c :: l, 0, _ => rfl
  | c :: l, i + 1, h => by
    show l.drop i = atL l i :: l.drop (i + 1)
    exact atL_drop l i (by simpa using h)
theorem atL_end : ∀ (l : List Int), atL l l.length = 32
  | [] => rfl
  | _ :: l => atL_end l
section
variable {d : Nat} {n : Nat × Nat} {Φ : Int → (Nat → Nat → Int) → Prop} {M : Nat → Nat → Int} {T : Nat → Int} {N : Nat}
theorem psW_lt {k : Nat} (hk : k < 22) : psW k + (wdL k).length < psW 22 ∧ psW 22 ≤ 111 := by
  have key : ∀ j, psW k + (wdL k).length + 1 ≤ psW (k + 1 + j) := by
    intro j
    induction j with
    | zero => exact Nat.le_refl _
    | succ j ih =>
      show _ ≤ psW (k + 1 + j) + (wdL (k + 1 + j)).length + 1
      omega
  have h1 := key (22 - (k + 1))
  rw [show k + 1 + (22 - (k + 1)) = 22 by omega] at h1
  exact ⟨by omega, (tx2_ok 21 (by omega)).2.2⟩
theorem sp_keyAt (a e : Nat) (t : tapR M T N) (ha : M 1 6 = (a : Int)) (he : M 1 7 = (e : Int)) (hae : a ≤ e) (heN : e ≤ N) (q : Φ (keyN T a e : Nat) M) : CR (d + 1) 189 [(2, 1)] M n Φ := by
  obtain ⟨t1, t2, t3⟩ := t
  obtain ⟨f1, f2, f3⟩ := fstB_all (fun k => eqW' T e (wdL k) a) 22
  have key : ∀ k, k ≤ 22 → (∀ j, j < k → eqW' T e (wdL j) a = false) → W12_keyAt_4 d n Φ (k : Nat) (psW k : Nat) M := by
    refine up (fun hno => ?_) (fun k hk ih hno => ?_)
    · apply v12_keyAt_4
      rw [tx2_len]
      refine ⟨fun _ => ?_, fun c => absurd (Int.le_refl _) c⟩
      have : keyN T a e = 22 := by
        unfold keyN
        by_cases c : fstB (fun k => eqW' T e (wdL k) a) 22 < 22
        · have z := f2 c
          rw [hno _ c] at z
          cases z
        · omega
      rw [this] at q
      exact q
    · obtain ⟨hp1, hp2⟩ := psW_lt hk
      obtain ⟨tx, hl9, _⟩ := tx2_ok k hk
      apply v12_keyAt_4
      rw [tx2_len]
      refine ⟨fun c => absurd c (by omega), fun _ => ?_⟩
      -- on to the next word
      have skip : eqW' T e (wdL k) a = false → W12_keyAt_97 d n Φ (k : Nat) (psW k : Nat) M := by
        intro hf
        have go := ih (fun j hj => by
          by_cases c : j = k
          · rw [c]; exact hf
          · exact hno j (by omega))
        have scan : ∀ i, i ≤ (wdL k).length → W12_keyAt_97 d n Φ (k : Nat) ((psW k + i : Nat) : Int) M := by
          refine up ?_ (fun i hi ih2 => ?_)
          · apply v12_keyAt_97
            rw [tx2_len, Int.toNat_natCast, tx _ hl9 (Nat.le_refl _), atL_end, w32_s (k := k) (by omega), w32_s (k := psW k + (wdL k).length) (by omega)]
            exact ⟨by omega, fun _ => go, fun c => absurd rfl c⟩
          · apply v12_keyAt_97
            rw [tx2_len, Int.toNat_natCast, tx i (by omega) (by omega), w32_s (k := psW k + i) (by omega)]
            exact ⟨by omega, fun c => absurd c (wdL_ne k hk i (by omega) hi), fun _ => ih2⟩
        exact scan 0 (Nat.zero_le _)
      have inn : ∀ i, i ≤ (wdL k).length → a + i ≤ e → (eqW' T e (wdL k) a = eqW' T e ((wdL k).drop i) (a + i)) → W12_keyAt_15 d n Φ (k : Nat) (psW k : Nat) (i : Nat) M := by
        refine up (fun hai heq => ?_) (fun i hi ih2 hai heq => ?_)
        · apply v12_keyAt_15
          have w1 : w32 ((psW k : Int) + ((wdL k).length : Int)) = ((psW k + (wdL k).length : Nat) : Int) := by rw [w32_id (by omega) (by omega)]; omega
          have w2 : w32 ((a : Int) + ((wdL k).length : Int)) = ((a + (wdL k).length : Nat) : Int) := by rw [w32_id (by omega) (by omega)]; omega
          rw [ha, he, w1, w2, tx2_len]
          simp only [Int.toNat_natCast]
          rw [tx _ hl9 (Nat.le_refl _), atL_end]
          rw [List.drop_length] at heq
          refine ⟨by omega, fun _ => ⟨by omega, fun c => absurd rfl c, fun _ => ⟨fun c => skip ?_, fun c => ?_⟩⟩, fun c => absurd rfl c⟩
          · rw [heq]
            exact decide_eq_false (by omega)
          · have ht : eqW' T e (wdL k) a = true := by
              rw [heq]
              exact decide_eq_true (by omega)
            have : keyN T a e = k := by
              unfold keyN
              rcases Nat.lt_trichotomy (fstB (fun k => eqW' T e (wdL k) a) 22) k with z | z | z
              · have z2 := f2 (by omega)
                rw [hno _ z] at z2
                cases z2
              · exact z
              · have z2 := f3 k z
                rw [ht] at z2
                cases z2
            rw [this] at q
            exact q
        · apply v12_keyAt_15
          have w1 : w32 ((psW k : Int) + (i : Int)) = ((psW k + i : Nat) : Int) := by rw [w32_id (by omega) (by omega)]; omega
          have w2 : w32 ((a : Int) + (i : Int)) = ((a + i : Nat) : Int) := by rw [w32_id (by omega) (by omega)]; omega
          have hne := wdL_ne k hk i (by omega) hi
          rw [ha, he, w1, w2, tx2_len, w32_s (k := i) (by omega)]
          simp only [Int.toNat_natCast]
          rw [tx i (by omega) (by omega)]
          rw [atL_drop _ i hi] at heq
          refine ⟨by omega, fun c => absurd c hne, fun _ => ⟨fun c => ⟨by omega, fun _ => skip ?_, fun c2 => absurd hne c2⟩, fun c => ⟨by omega, by omega, fun c2 => ⟨by omega, fun _ => skip ?_, fun c3 => absurd hne c3⟩, fun c2 => ?_⟩⟩⟩
          · rw [heq]
            show (decide (a + i < e ∧ _) && _) = false
            rw [decide_eq_false (by omega)]; rfl
          · rw [t3 (a + i) (by omega)] at c2
            rw [heq]
            show (decide (a + i < e ∧ T (a + i) = atL (wdL k) i) && _) = false
            rw [decide_eq_false (fun z => c2 z.2)]; rfl
          · rw [t3 (a + i) (by omega)] at c2
            refine ih2 (by omega) ?_
            rw [heq]
            show (decide (a + i < e ∧ T (a + i) = atL (wdL k) i) && eqW' T e ((wdL k).drop (i + 1)) (a + i + 1)) = _
            rw [decide_eq_true ⟨by omega, Decidable.not_not.mp c2⟩]
            rfl
      exact inn 0 (Nat.zero_le _) hae rfl
  exact e12_keyAt (key 0 (Nat.zero_le _) (fun j hj => absurd hj (Nat.not_lt_zero _)))
end
