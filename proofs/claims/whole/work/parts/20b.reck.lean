/-! ===== reckons (reference), lawValue (class) ===== -/
/-- a piece of the reference's code, as the class has it -/
def nmW (x : Int) : Int := if x < 5 then x else if x = 5 then 2 else if x = 6 then 3 else 2
def cvC (c : Int) : Int := if c < 1000 then c else if c < 3000 then -1 - nmW (c - 1000) else if c = 3000 then -43 else if c = 3001 then -45 else if c = 3002 then -42 else if c = 3003 then -61 else if c = 3004 then -60 else if c = 3005 then -62 else if c = 3006 then -273 else if c = 3007 then -272 else -271
theorem wOk_b {l : Nat} {x : Int} (h : wOk l x = true) : 0 ≤ x ∧ x < 8 := by
  have := of_decide_eq_true h
  omega
theorem mx {x : Int} (h : -1000000 ≤ x ∧ x ≤ 1000000) : w32 (if ((-1000000) : Int) < (if x < (1000000 : Int) then x else 1000000) then (if x < (1000000 : Int) then x else 1000000) else (-1000000)) = x := by
  rw [w32_id] <;> (repeat' split) <;> omega
theorem mxc {x : Int} (h : -1000000000000 ≤ x ∧ x ≤ 1000000000000) : w32 (if ((-1000000) : Int) < (if w64 x < (1000000 : Int) then w64 x else 1000000) then (if w64 x < (1000000 : Int) then w64 x else 1000000) else (-1000000)) = clampV x := by
  rw [w64_b h.1 h.2]
  unfold clampV
  rw [w32_id] <;> (repeat' split) <;> omega
theorem sum_b {x y : Int} (hx : -1000000 ≤ x ∧ x ≤ 1000000) (hy : -1000000 ≤ y ∧ y ≤ 1000000) : (-1000000000000 ≤ x + y ∧ x + y ≤ 1000000000000) ∧ (-1000000000000 ≤ x - y ∧ x - y ≤ 1000000000000) := by omega
section
variable {d : Nat} {n : Nat × Nat} {Φ : Int → (Nat → Nat → Int) → Prop} {M : Nat → Nat → Int} {w : cQ}
theorem sp_joined {c a b : Int} (h : binOk c a b) (q : Φ (opV c a b) M) : CF (d + 1) 104 [(0, -(cvC c)), (1, a), (1, b)] w M n Φ := by
  have z0 : w32 (if ((-1000000) : Int) < (if (0 : Int) < (1000000 : Int) then 0 else 1000000) then (if (0 : Int) < (1000000 : Int) then 0 else 1000000) else (-1000000)) = 0 := mx (by omega)
  have z1 : w32 (if ((-1000000) : Int) < (if (1 : Int) < (1000000 : Int) then 1 else 1000000) then (if (1 : Int) < (1000000 : Int) then 1 else 1000000) else (-1000000)) = 1 := mx (by omega)
  rcases h with ⟨hc, ha, hb⟩ | ⟨hc, ha, hb⟩
  · obtain ⟨_, _, e1, e2⟩ := and01 ha hb
    rcases hc with rfl | rfl
    · apply e10_joined
      rw [e1, mx (x := if a = 1 ∧ b = 1 then 1 else 0) (by split <;> omega), ← opV_a]
      exact ⟨fun h => absurd h (by decide), fun _ => ⟨fun h => absurd h (by decide), fun _ => ⟨fun h => absurd h (by decide), fun _ => ⟨fun h => absurd h (by decide), fun _ => ⟨fun h => absurd h (by decide), fun _ => ⟨fun h => absurd h (by decide), fun _ => ⟨fun _ => q, fun h => absurd (by decide) h⟩⟩⟩⟩⟩⟩⟩
    · apply e10_joined
      rw [e2, mx (x := if a = 1 ∨ b = 1 then 1 else 0) (by split <;> omega), ← opV_o]
      exact ⟨fun h => absurd h (by decide), fun _ => ⟨fun h => absurd h (by decide), fun _ => ⟨fun h => absurd h (by decide), fun _ => ⟨fun h => absurd h (by decide), fun _ => ⟨fun h => absurd h (by decide), fun _ => ⟨fun h => absurd h (by decide), fun _ => ⟨fun h => absurd h (by decide), fun _ => q⟩⟩⟩⟩⟩⟩⟩
  · have hm := mul_b ha hb
    obtain ⟨hp, hq⟩ := sum_b ha hb
    rcases hc with rfl | rfl | rfl | rfl | rfl | rfl
    · apply e10_joined
      rw [z0, z1, cmp_ne0]
      rw [opV_e] at q
      refine ⟨fun h => absurd h (by decide), fun _ => ⟨fun h => absurd h (by decide), fun _ => ⟨fun h => absurd h (by decide), fun _ => ⟨fun h => absurd h (by decide), fun _ => ⟨fun _ => ⟨fun h => ?_, fun h => ?_⟩, fun h => absurd (by decide) h⟩⟩⟩⟩⟩
      · rw [if_neg h] at q; exact q
      · rw [if_pos (by omega)] at q; exact q
    · apply e10_joined
      rw [z0, z1, cmp_ge0]
      rw [opV_l] at q
      refine ⟨fun h => absurd h (by decide), fun _ => ⟨fun h => absurd h (by decide), fun _ => ⟨fun h => absurd h (by decide), fun _ => ⟨fun _ => ⟨fun h => ?_, fun h => ?_⟩, fun h => absurd (by decide) h⟩⟩⟩⟩
      · rw [if_neg (by omega)] at q; exact q
      · rw [if_pos (by omega)] at q; exact q
    · apply e10_joined
      rw [z0, z1, cmp_le0]
      rw [opV_g] at q
      refine ⟨fun h => absurd h (by decide), fun _ => ⟨fun h => absurd h (by decide), fun _ => ⟨fun h => absurd h (by decide), fun _ => ⟨fun h => absurd h (by decide), fun _ => ⟨fun h => absurd h (by decide), fun _ => ⟨fun _ => ⟨fun h => ?_, fun h => ?_⟩, fun h => absurd (by decide) h⟩⟩⟩⟩⟩⟩
      · rw [if_neg (by omega)] at q; exact q
      · rw [if_pos (by omega)] at q; exact q
    · apply e10_joined
      rw [mxc hp, ← opV_p]
      exact ⟨fun h => absurd h (by decide), fun _ => ⟨fun _ => q, fun h => absurd (by decide) h⟩⟩
    · apply e10_joined
      rw [mxc hq, ← opV_m]
      exact ⟨fun h => absurd h (by decide), fun _ => ⟨fun h => absurd h (by decide), fun _ => ⟨fun _ => q, fun h => absurd (by decide) h⟩⟩⟩
    · apply e10_joined
      rw [mxc hm, ← opV_t]
      exact ⟨fun _ => q, fun h => absurd (by decide) h⟩
theorem binOk_of {c a b : Int} {t : Bool} (h : (t = true ∧ (c = 3007 ∨ c = 3008) ∧ (a = 0 ∨ a = 1) ∧ (b = 0 ∨ b = 1)) ∨ (t = true ∧ (c = 3003 ∨ c = 3004 ∨ c = 3005) ∧ (-1000000 ≤ a ∧ a ≤ 1000000) ∧ (-1000000 ≤ b ∧ b ≤ 1000000)) ∨ (t = false ∧ (c = 3000 ∨ c = 3001 ∨ c = 3002) ∧ (-1000000 ≤ a ∧ a ≤ 1000000) ∧ (-1000000 ≤ b ∧ b ≤ 1000000))) : binOk c a b := by
  rcases h with ⟨_, h1, h2, h3⟩ | ⟨_, h1, h2, h3⟩ | ⟨_, h1, h2, h3⟩
  · exact Or.inl ⟨h1, h2, h3⟩
  · exact Or.inr ⟨by omega, h2, h3⟩
  · exact Or.inr ⟨by omega, h2, h3⟩
theorem sp_reckons (l f fr mn : Nat) (t : Bool) (ws : Nat → Int) (hl : l < 3) (hf : f < 8) (h1 : M 2 (7 + l) = fr) (h2 : M 2 (10 + l) = mn) (h3 : fr + mn ≤ 900) (hty : tyk l (fun k => M 2 (364 + fr + k)) mn = some [t]) (hw0 : ws 0 = f) (hw1 : ws 1 = M 2 (84 + f)) (hws : ∀ x : Nat, wOk l x = true → 2 ≤ x → ws x = M 7 x) (hb : ∀ x : Nat, wOk l x = true → -1000000 ≤ ws x ∧ ws x ≤ 1000000) (q : ∀ M' : Nat → Nat → Int, (∀ a, a ≠ 6 → a ≠ 7 → M' a = M a) → Φ (lawV (fun k => M 2 (364 + fr + k)) ws mn) M') : CR (d + 2) 220 [(2, 1), (0, (l : Int)), (0, (f : Int))] M n Φ := by
  have e84 : w32 (84 + (f : Int)) = ((84 + f : Nat) : Int) := by rw [w32_eq]; omega
  have e7 : w32 (7 + (l : Int)) = ((7 + l : Nat) : Int) := by rw [w32_eq]; omega
  have e10 : w32 (10 + (l : Int)) = ((10 + l : Nat) : Int) := by rw [w32_eq]; omega
  apply e12_reckons
  rw [e84, Int.toNat_natCast, sI_row (M := M) (a := 7) (b := 2) (by omega)]
  refine ⟨by omega, ?_⟩
  generalize hM1 : sI (sI M 7 0 (f : Int)) 7 1 (M 2 (84 + f)) = M1
  have hr : ∀ a, a ≠ 7 → M1 a = M a := by
    intro a ha
    rw [← hM1, sI_row ha, sI_row ha]
  have h7 : ∀ x : Nat, wOk l x = true → M1 7 x = ws x := by
    intro x hx
    rw [← hM1]
    by_cases x1 : x = 1
    · subst x1; rw [sI_same, hw1]
    · rw [sI_ne x1]
      by_cases x0 : x = 0
      · subst x0; rw [sI_same, hw0]
      · rw [sI_ne x0]; exact (hws x hx (by omega)).symm
  have key : ∀ k, k ≤ mn → ∀ M', (∀ a, a ≠ 6 → M' a = M1 a) → hold (M' 6) (stk (fun k => M 2 (364 + fr + k)) ws k) → W12_reckons_27 (d + 1) n Φ l ((stk (fun k => M 2 (364 + fr + k)) ws k).length : Nat) (k : Nat) M' := by
    refine up ?_ ?_
    · intro M' hM' hh
      have m2 : M' 2 = M 2 := (hM' 2 (by omega)).trans (hr 2 (by omega))
      apply v12_reckons_27
      rw [m2, e10, Int.toNat_natCast, h2]
      refine ⟨by omega, fun _ => ?_, fun c => absurd (Int.le_refl _) c⟩
      have hv := tyk_vs (ws := ws) hb mn hty
      have e : lawV (fun k => M 2 (364 + fr + k)) ws mn = M' 6 0 := by
        unfold lawV
        cases hst : stk (fun k => M 2 (364 + fr + k)) ws mn with
        | nil => rw [hst] at hv; exact hv.elim
        | cons v r =>
          rw [hst] at hv hh
          have hl2 := vTs_len hv
          have : r.length = 0 := by simp only [List.length_cons, List.length_nil] at hl2; omega
          rw [← hh.1, this]
          rfl
      rw [← e]
      exact q M' (fun a h6 h7 => (hM' a h6).trans (hr a h7))
    · intro k hk ih M' hM' hh
      have m2 : M' 2 = M 2 := (hM' 2 (by omega)).trans (hr 2 (by omega))
      have m7 : M' 7 = M1 7 := hM' 7 (by omega)
      have ek : w32 (w32 (364 + (fr : Int)) + (k : Int)) = ((364 + fr + k : Nat) : Int) := by
        rw [w32_id (x := 364 + (fr : Int)) (by omega) (by omega), w32_id (by omega) (by omega)]
        omega
      obtain ⟨s1, s2, g1, g2, g3⟩ := tyk_step hty hk
      have hv := tyk_vs (ws := ws) hb k g1
      have hl1 := vTs_len hv
      have hl3 := tyk_len k g1
      have hk1 : w32 ((k : Int) + 1) = ((k + 1 : Nat) : Int) := w32_s (by omega)
      apply v12_reckons_27
      rw [m2, m7, e10, e7, Int.toNat_natCast, Int.toNat_natCast, h2, h1, ek, Int.toNat_natCast, hk1]
      refine ⟨by omega, fun c => absurd c (by omega), fun _ => ⟨by omega, ⟨by omega, ?_⟩⟩⟩
      have g3' : ty1 l (M 2 (364 + fr + k)) s1 = some s2 := g3
      have ih' := ih
      have est : stk (fun k => M 2 (364 + fr + k)) ws (k + 1) = lv1 ws (M 2 (364 + fr + k)) (stk (fun k => M 2 (364 + fr + k)) ws k) := rfl
      rw [est] at ih'
      clear ih est g3 g2
      generalize M 2 (364 + fr + k) = c at g3' ih' ⊢
      generalize stk (fun k => M 2 (364 + fr + k)) ws k = st at hv hh hl1 ih' ⊢
      have hst : st.length ≤ 900 := by omega
      rcases ty_case g3' hv with ⟨c1, c2, c3, rfl⟩ | ⟨c1, c2, c3, c4, rfl⟩ | ⟨rfl, a, r, tr, rfl, c1, rfl, c2⟩ | ⟨c1, c2, b, a, r, t2, tr, rfl, rfl, c3, c4⟩
      · refine ⟨fun c => absurd c (by omega), fun _ => ⟨fun c => absurd c (by omega), fun _ => ⟨⟨by omega, by omega, trivial⟩, ?_⟩⟩⟩
        rw [w32_s (by omega), Int.toNat_natCast]
        rw [lv_push c2] at ih'
        exact ih' _ (fun a ha => (sI_row ha).trans (hM' a ha)) (hold_push hh)
      · have hx := wOk_b c3
        have ec : w32 (c - 1000) = c - 1000 := w32_id (by omega) (by omega)
        refine ⟨fun c => absurd c (by omega), fun _ => ⟨fun _ => ⟨by rw [ec]; omega, ⟨by omega, by omega, trivial⟩, ?_⟩, fun c => absurd c1 c⟩⟩
        rw [w32_s (by omega), Int.toNat_natCast, ec]
        rw [lv_word c1 c2] at ih'
        have e7 : M1 7 (c - 1000).toNat = ws (c - 1000).toNat := h7 _ (by rw [Int.toNat_of_nonneg (by omega)]; exact c3)
        rw [e7]
        exact ih' _ (fun a ha => (sI_row ha).trans (hM' a ha)) (hold_push hh)
      · simp only [List.length_cons] at hst ih' ⊢
        have e1 : w32 (((r.length + 1 : Nat) : Int) - 1) = (r.length : Int) := by rw [w32_eq]; omega
        refine ⟨fun _ => ⟨fun c => absurd rfl c, fun _ => ?_⟩, fun c => absurd (by decide) c⟩
        rw [e1, Int.toNat_natCast]
        refine ⟨by omega, ⟨by omega, by omega, trivial⟩, ?_⟩
        rw [hh.1, w32_id (by omega) (by omega)]
        rw [lv_not] at ih'
        exact ih' _ (fun a ha => (sI_row ha).trans (hM' a ha)) (hold_push hh.2)
      · simp only [List.length_cons] at hst ih' ⊢
        have e1 : w32 (((r.length + 1 + 1 : Nat) : Int) + (-1)) = ((r.length + 1 : Nat) : Int) := by rw [w32_eq]; omega
        have e2 : w32 (((r.length + 1 : Nat) : Int) - 1) = (r.length : Int) := by rw [w32_eq]; omega
        refine ⟨fun _ => ⟨fun _ => ?_, fun c => absurd c2 c⟩, fun c => absurd c1 c⟩
        rw [e1, e2, Int.toNat_natCast, Int.toNat_natCast]
        refine ⟨by omega, by omega, ?_⟩
        rw [hh.2.1, show M' 6 (r.length + 1) = b from hh.1]
        refine sp_between (binOk_of c4) ⟨⟨by omega, by omega, trivial⟩, ?_⟩
        rw [lv_bin c1 c2] at ih'
        exact ih' _ (fun a ha => (sI_row ha).trans (hM' a ha)) (hold_push hh.2.2)
  exact key 0 (Nat.zero_le _) M1 (fun _ _ => rfl) trivial
end
