/-! ===== lawValue (class) ===== -/
theorem cv_push {c : Int} (h : c < 1000) : cvC c = c := if_pos h
theorem cv_word {c : Int} (h : 1000 ≤ c) (h2 : c < 3000) : cvC c = -1 - nmW (c - 1000) := by
  unfold cvC; rw [if_neg (by omega), if_pos h2]
theorem nmW_b {l : Nat} {x : Int} (h : wOk l x = true) : 0 ≤ nmW x ∧ nmW x < 5 := by
  have := wOk_b h
  unfold nmW
  repeat' split
  all_goals omega
theorem cv_not : cvC 3006 = -273 := by
  unfold cvC; rw [if_neg (by decide), if_neg (by decide), if_neg (by decide), if_neg (by decide), if_neg (by decide), if_neg (by decide), if_neg (by decide), if_neg (by decide), if_pos rfl]
theorem cv_bin {c : Int} (h : 3000 ≤ c) (h2 : c ≠ 3006) : cvC c < -5 ∧ cvC c ≠ -273 ∧ -300 ≤ cvC c := by
  unfold cvC
  rw [if_neg (by omega), if_neg (by omega)]
  repeat' split
  all_goals omega
section
variable {d : Nat} {n : Nat × Nat} {Φ : Int → (Nat → Nat → Int) → Prop} {M : Nat → Nat → Int} {w : cQ}
theorem sp_lawValue (l fr mn : Nat) (t : Bool) (cd ws : Nat → Int) (hl : l < 3) (h1 : M 36 l = fr) (h2 : M 37 l = mn) (h3 : fr + mn ≤ 900) (hty : tyk l cd mn = some [t]) (hcd : ∀ k, k < mn → M 35 (fr + k) = cvC (cd k)) (hws : ∀ x : Nat, wOk l x = true → M 42 (nmW x).toNat = ws x) (hb : ∀ x : Nat, wOk l x = true → -1000000 ≤ ws x ∧ ws x ≤ 1000000) (q : ∀ M' : Nat → Nat → Int, (∀ a, a ≠ 43 → M' a = M a) → Φ (lawV cd ws mn) M') : CF (d + 2) 103 [(2, 4), (0, (l : Int))] w M n Φ := by
  apply e10_lawValue
  rw [Int.toNat_natCast, h1, h2, w32_id (by omega) (by omega)]
  refine ⟨by omega, by omega, by omega, ?_⟩
  rw [if_neg (by omega)]
  have key : ∀ k, k ≤ mn → ∀ M', (∀ a, a ≠ 43 → M' a = M a) → hold (M' 43) (stk cd ws k) → W10_lawValue_44 (d + 1) Φ ((stk cd ws k).length : Nat) ((fr : Int) + (mn : Int)) ((fr + k : Nat) : Int) w M' n := by
    refine up ?_ ?_
    · intro M' hM' hh
      apply v10_lawValue_44
      have hv := tyk_vs (ws := ws) hb mn hty
      refine ⟨fun _ => ?_, fun c => absurd (by omega) c⟩
      unfold lawV at q
      cases hst : stk cd ws mn with
      | nil => rw [hst] at hv; exact hv.elim
      | cons v r =>
        rw [hst] at hv hh q
        have hl2 := vTs_len hv
        have hr0 : r.length = 0 := by simp only [List.length_cons, List.length_nil] at hl2; omega
        have e1 : w32 (((v :: r).length : Int) - 1) = ((0 : Nat) : Int) := by
          rw [List.length_cons, hr0, w32_id] <;> omega
        refine ⟨fun c => absurd c (by simp only [List.length_cons]; omega), fun _ => ⟨by rw [e1]; omega, ?_⟩⟩
        rw [e1, Int.toNat_natCast]
        have e := hh.1
        rw [hr0] at e
        rw [e]
        exact q M' hM'
    · intro k hk ih M' hM' hh
      have m35 : M' 35 = M 35 := hM' 35 (by omega)
      have m42 : M' 42 = M 42 := hM' 42 (by omega)
      obtain ⟨s1, s2, g1, g2, g3⟩ := tyk_step hty hk
      have hv := tyk_vs (ws := ws) hb k g1
      have hl1 := vTs_len hv
      have hl3 := tyk_len k g1
      have hk1 : w32 (((fr + k : Nat) : Int) + 1) = ((fr + (k + 1) : Nat) : Int) := by rw [w32_id] <;> omega
      apply v10_lawValue_44
      rw [m35, m42, hk1, Int.toNat_natCast, hcd k hk]
      refine ⟨fun c => absurd c (by omega), fun _ => ⟨by omega, ?_⟩⟩
      have est : stk cd ws (k + 1) = lv1 ws (cd k) (stk cd ws k) := rfl
      rw [est] at ih
      clear est g2
      generalize cd k = c at g3 ih ⊢
      generalize stk cd ws k = st at hv hh hl1 ih ⊢
      have hst : st.length ≤ 900 := by omega
      rcases ty_case g3 hv with ⟨c1, c2, c3, rfl⟩ | ⟨c1, c2, c3, c4, rfl⟩ | ⟨rfl, a, r, tr, rfl, c1, rfl, c2⟩ | ⟨c1, c2, b, a, r, t2, tr, rfl, rfl, c3, c4⟩
      · rw [cv_push c2]
        refine ⟨fun c => absurd c (by omega), fun _ => ⟨fun c => absurd c (by omega), fun _ => ⟨fun c => absurd c (by omega), fun _ => ⟨⟨by omega, by omega, trivial⟩, ?_⟩⟩⟩⟩
        rw [w32_s (by omega), Int.toNat_natCast]
        rw [lv_push c2] at ih
        exact ih _ (fun a ha => (sI_row ha).trans (hM' a ha)) (hold_push hh)
      · have hx := nmW_b c3
        rw [cv_word c1 c2]
        have ec : w32 (-1 - (-1 - nmW (c - 1000))) = nmW (c - 1000) := by rw [w32_id] <;> omega
        refine ⟨fun c => absurd c (by omega), fun _ => ⟨fun c => absurd c (by omega), fun _ => ⟨fun _ => ⟨by rw [ec]; omega, ⟨by omega, by omega, trivial⟩, ?_⟩, fun c => absurd (by omega) c⟩⟩⟩
        rw [w32_s (by omega), Int.toNat_natCast, ec]
        rw [lv_word c1 c2] at ih
        have hw := hws (c - 1000).toNat (by rw [Int.toNat_of_nonneg (by omega)]; exact c3)
        rw [Int.toNat_of_nonneg (by omega)] at hw
        rw [hw]
        exact ih _ (fun a ha => (sI_row ha).trans (hM' a ha)) (hold_push hh)
      · simp only [List.length_cons] at hst ih ⊢
        have e1 : w32 (((r.length + 1 : Nat) : Int) - 1) = (r.length : Int) := by rw [w32_eq]; omega
        have hle : r.length + 1 ≤ 64 := by
          have := tyk_h k g1
          simp only [List.length_cons] at hl1
          omega
        rw [cv_not]
        refine ⟨fun _ => ⟨fun c => absurd rfl c, fun _ => ⟨fun c => absurd c (by omega), fun _ => ?_⟩⟩, fun c => absurd (by decide) c⟩
        rw [e1, Int.toNat_natCast]
        refine ⟨by omega, ⟨by omega, by omega, trivial⟩, ?_⟩
        rw [hh.1, w32_id (by omega) (by omega)]
        rw [lv_not] at ih
        exact ih _ (fun a ha => (sI_row ha).trans (hM' a ha)) (hold_push hh.2)
      · simp only [List.length_cons] at hst ih ⊢
        have hle : r.length + 2 ≤ 64 := by
          have := tyk_h k g1
          simp only [List.length_cons] at hl1
          omega
        obtain ⟨b1, b2, b3⟩ := cv_bin c1 c2
        have e1 : w32 (((r.length + 1 + 1 : Nat) : Int) + (-1)) = ((r.length + 1 : Nat) : Int) := by rw [w32_eq]; omega
        have e2 : w32 (((r.length + 1 : Nat) : Int) - 1) = (r.length : Int) := by rw [w32_eq]; omega
        have e3 : w32 (-(cvC c)) = -(cvC c) := by rw [w32_id] <;> omega
        refine ⟨fun _ => ⟨fun _ => ⟨fun c => absurd c (by omega), fun _ => ?_⟩, fun c => absurd b2 c⟩, fun c => absurd b1 c⟩
        rw [e1, e2, e3, Int.toNat_natCast, Int.toNat_natCast]
        refine ⟨by omega, by omega, ?_⟩
        rw [hh.2.1, show M' 43 (r.length + 1) = b from hh.1]
        refine sp_joined (binOk_of c4) ⟨⟨by omega, by omega, trivial⟩, ?_⟩
        rw [lv_bin c1 c2] at ih
        exact ih _ (fun a ha => (sI_row ha).trans (hM' a ha)) (hold_push hh.2.2)
  exact key 0 (Nat.zero_le _) M (fun _ _ => rfl) trivial
end
