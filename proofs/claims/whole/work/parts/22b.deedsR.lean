/-! ===== deeds: the reference ===== -/
def QD (M M' : Nat → Nat → Int) : Prop := ∀ a, a ≠ 2 → a ≠ 6 → a ≠ 7 → M' a = M a
theorem QD.refl (M : Nat → Nat → Int) : QD M M := fun _ _ _ _ => rfl
theorem QD.trans {M M' N : Nat → Nat → Int} (h : QD M M') (h2 : QD M' N) : QD M N := fun a h1 h6 h7 => (h2 a h1 h6 h7).trans (h a h1 h6 h7)
theorem QD.of67 {M M' : Nat → Nat → Int} (h : Q67 M M') : QD M M' := fun a _ h6 h7 => h a h6 h7
theorem QD.set {M : Nat → Nat → Int} {k : Nat} {x : Int} : QD M (sI M 2 k x) := fun _ h1 _ _ => sI_row h1
theorem inS_msk (p : Nat → Bool) {n k : Nat} (h : k < n) : inS (msk p n) k = p k := by
  unfold inS
  rw [msk_bit p n k h]
  cases p k <;> rfl
theorem hearersS_lt {P : Nat → Int} (ok : okP P) (f : Nat) : hearersS P f < 256 := by
  obtain ⟨_, _, h⟩ := ok.nFe
  exact Nat.lt_of_lt_of_le (msk_lt _ _) (Nat.pow_le_pow_right (n := 2) (by omega) h)
theorem canS_lt {P : Nat → Int} (ok : okP P) (f : Nat) : canS P f < 4096 := by
  obtain ⟨_, h⟩ := ok.nBe
  exact Nat.lt_of_lt_of_le (msk_lt _ _) (Nat.pow_le_pow_right (n := 2) (by omega) h)
section
variable {d : Nat} {n : Nat × Nat} {Φ : Int → (Nat → Nat → Int) → Prop} {M : Nat → Nat → Int} {P : Nat → Int}
theorem sp_tells1 (f b : Nat) (hP : M 2 = P) (ok : okP P) (hf : f < 8) (hb : (b : Int) < P 3) (q : ∀ M', QD M M' → M' 2 = tellP P f b → Φ (popc 12 (hearersS P f) : Nat) M') : CR (d + 5) 237 [(2, 1), (0, (f : Int)), (0, (b : Int))] M n Φ := by
  obtain ⟨eF, hF1, hF2⟩ := ok.nFe
  have hB := ok.B
  have e25 := wA 25 b (25 + b) (by omega) (by omega)
  have e13 := wA 13 b (13 + b) (by omega) (by omega)
  have e68 := wA 68 f (68 + f) (by omega) (by omega)
  have hs := hearersS_lt ok f
  refine e12_tells1 (sp_hearersOf f hP ok hf (fun M1 h1 => ?_))
  have key : ∀ k, k ≤ nF P → ∀ M', QD M M' → M' 2 = tellK P f b k → W12_tells1_9 (d + 4) n Φ f b (hearersS P f : Nat) (k : Nat) M' := by
    refine up (fun M' hM' m2 => ?_) (fun k hk ih M' hM' m2 => ?_)
    · apply v12_tells1_9
      have m1 : M' 2 1 = (nF P : Int) := by rw [m2, tellK_o hF2 (by omega), eF]
      have m25 : M' 2 (25 + b) = P (25 + b) := by rw [m2, tellK_o hF2 (by omega)]
      rw [m1, e25, e68]
      simp only [Int.toNat_natCast, m25]
      refine ⟨fun _ => ⟨by omega, ⟨by omega, by omega, trivial⟩, sp_bitsOf _ (by omega) (q _ (hM'.trans (QD.set.trans QD.set)) ?_)⟩, fun c => absurd (Int.le_refl _) c⟩
      rw [sI_p, sI_p, m2, pset_ne (j := 66) (by omega), tellK_o (j := 66) hF2 (by omega)]
      rfl
    · have e68k := wA 68 k (68 + k) (by omega) (by omega)
      have e76k := wA 76 k (76 + k) (by omega) (by omega)
      have m1 : M' 2 1 = (nF P : Int) := by rw [m2, tellK_o (by omega) (by omega), eF]
      have m25 : M' 2 (25 + b) = P (25 + b) := by rw [m2, tellK_o (by omega) (by omega)]
      have m13 : M' 2 (13 + b) = P (13 + b) := by rw [m2, tellK_o (by omega) (by omega)]
      have m68 : M' 2 (68 + k) = P (68 + k) := by rw [m2, tellK_at (by omega)]
      have m76 : M' 2 (76 + k) = P (76 + k) := by rw [m2, tellK_db (by omega)]
      apply v12_tells1_9
      rw [m1, w32_s (by omega)]
      refine ⟨fun c => absurd c (by omega), fun _ => sp_isIn _ k (by omega) (by omega) ?_⟩
      have ein : inS (hearersS P f) k = hrs P k f := inS_msk _ hk
      rw [ein]
      refine br' (fun e => ?_) (fun e => ?_)
      · simp only [e68k, e76k, e13, e25, Int.toNat_natCast, m25, m13, m68, m76]
        refine ⟨by omega, by omega, fun c => ⟨by omega, ⟨by omega, by omega, trivial⟩, ?_⟩, fun c => ⟨by omega, ⟨by omega, by omega, trivial⟩, by omega, ⟨by omega, by omega, trivial⟩, ?_⟩⟩
        · refine ih _ (hM'.trans QD.set) ?_
          rw [sI_p, m2]
          exact tellK_yes (by omega) e c
        · refine ih _ (hM'.trans (QD.set.trans QD.set)) ?_
          rw [sI_p, sI_p, m2, pset_ne (j := 25 + b) (by omega), tellK_o (j := 25 + b) (by omega) (by omega)]
          exact tellK_dbt (by omega) e c
      · refine ih _ hM' ?_
        rw [tellK_no e]
        exact m2
  refine key 0 (Nat.zero_le _) M1 (QD.of67 h1) ?_
  rw [h1 2 (by omega) (by omega), hP, tellK_0]
theorem sp_goesTurn (hP : M 2 = P) (ok : okP P) (q : ∀ M', QD M M' → M' 2 = turnP P → Φ (if tb P < nB P then 1 else 0) M') : CR (d + 6) 238 [(2, 1)] M n Φ := by
  obtain ⟨eF, hF1, hF2⟩ := ok.nFe
  obtain ⟨eB, hB⟩ := ok.nBe
  have ht := ok.turn
  have et : M 2 65 = (((P 65).toNat : Nat) : Int) := by rw [hP]; omega
  have hcs := canS_lt ok (P 65).toNat
  apply e12_goesTurn
  rw [et]
  refine sp_canTell (P 65).toNat hP ok (by omega) (fun M1 h1 => ?_)
  have m2 : M1 2 = P := (h1 2 (by omega) (by omega)).trans hP
  have e1 : m_rem (w32 ((((P 65).toNat : Nat) : Int) + 1)) (nF P : Int) = nxt P := by
    rw [w32_s (by omega), m_rem_n (by omega) (by omega) (by omega)]
    unfold nxt
    rw [eF]
    by_cases c : (P 65).toNat + 1 < nF P
    · rw [Nat.mod_eq_of_lt c, if_pos (by omega)]; omega
    · rw [if_neg (by omega), show (P 65).toNat + 1 = nF P by omega, Nat.mod_self]; rfl
  rw [m2, eF, e1]
  obtain ⟨f1, f2, f3⟩ := fstB_all (canT P (P 65).toNat) (nB P)
  have hq0 : Q67 M M1 := h1
  refine ⟨by omega, fun c => ?_, fun c => ?_⟩
  · have hlt : tb P < nB P := by
      have : ¬ (tb P = nB P) := fun e => by
        have := (msk_fst (canT P (P 65).toNat) (nB P)).mpr e
        have h3 : canS P (P 65).toNat = 0 := this
        rw [h3] at c
        exact c rfl
      have : tb P ≤ nB P := f1
      omega
    rw [if_pos hlt] at q
    have r2 : (sI M1 2 65 (nxt P)) 2 = pset P 65 (nxt P) := by rw [sI_p, m2]
    have key : ∀ k, k ≤ tb P → W12_goesTurn_39 (d + 5) n Φ ((P 65).toNat : Nat) (canS P (P 65).toNat : Nat) (k : Nat) (sI M1 2 65 (nxt P)) := by
      refine up ?_ (fun k hk ih => ?_)
      · apply v12_goesTurn_39
        refine sp_isIn _ _ (by omega) (by omega) ?_
        rw [show inS (canS P (P 65).toNat) (tb P) = true from (inS_msk _ hlt).trans (f2 hlt)]
        refine br' (fun _ => ?_) (fun e => by cases e)
        refine sp_tells1 (P := pset P 65 (nxt P)) _ _ r2 (set65 ok (nxt_b ok)) (by omega) (by rw [pset_ne (by omega)]; omega) (fun M' hM' hm => ?_)
        refine q M' ((QD.of67 h1).trans (QD.set.trans hM')) ?_
        rw [hm]
        unfold turnP
        rw [if_pos hlt]
      · apply v12_goesTurn_39
        refine sp_isIn _ _ (by omega) (by omega) ?_
        rw [show inS (canS P (P 65).toNat) k = false from (inS_msk _ (by omega)).trans (f3 k hk), w32_s (by omega)]
        exact br' (fun e => by cases e) (fun _ => ih)
    exact key 0 (Nat.zero_le _)
  · have hlt : ¬ (tb P < nB P) := by
      have h0 : canS P (P 65).toNat = 0 := by omega
      have := (msk_fst (canT P (P 65).toNat) (nB P)).mp h0
      have h3 : tb P = nB P := this
      omega
    rw [if_neg hlt] at q
    refine q _ ((QD.of67 h1).trans QD.set) ?_
    rw [sI_p, m2]
    unfold turnP
    rw [if_neg hlt]
theorem sp_whyTell (v u : Int) (hP : M 2 = P) (ok : okP P) (q : ∀ M', Q67 M M' → Φ (whyT P v u) M') : CR (d + 4) 236 [(2, 1), (1, v), (1, u)] M n Φ := by
  have hF := ok.F
  have hB := ok.B
  subst hP
  refine e12_whyTell (sp_isFarm v (by omega) (br (fun e => ?_) (fun e => sp_isBit u (by omega) (br' (fun e2 => ?_) (fun e2 => ?_)))))
  · have e := of_decide_eq_false e
    have q' := q M (Q67.refl M)
    unfold whyT at q'
    rw [if_neg (by omega)] at q'
    exact q'
  · have e := of_decide_eq_true e
    have e2 := of_decide_eq_true e2
    have ev : v = (v.toNat : Int) := by omega
    have eu : u = (u.toNat : Int) := by omega
    have e1 : w32 v = (v.toNat : Int) := by rw [w32_eq]; omega
    have e3 : w32 u = (u.toNat : Int) := by rw [w32_eq]; omega
    have e68 := wA 68 v.toNat (68 + v.toNat) (by omega) (by omega)
    have e13 := wA 13 u.toNat (13 + u.toNat) (by omega) (by omega)
    rw [e1, e3, e68, e13]
    simp only [Int.toNat_natCast]
    unfold whyT at q
    rw [if_pos ⟨e.1, e.2, e2.1, e2.2⟩] at q
    refine ⟨by omega, by omega, fun c => ?_, fun c => ?_⟩
    · rw [if_pos c] at q
      refine sp_mayTell _ _ rfl ok (by omega) (by omega) (fun M' hM' => br (fun e4 => ?_) (fun e4 => ?_))
      · rw [if_neg (by rw [e4]; decide)] at q; exact q M' hM'
      · rw [if_pos e4] at q; exact q M' hM'
    · rw [if_neg c] at q; exact q M (Q67.refl M)
  · have e2 := of_decide_eq_false e2
    have q' := q M (Q67.refl M)
    unfold whyT at q'
    rw [if_neg (by omega)] at q'
    exact q'
theorem ldiv_p {v : Int} {b : Nat} (h : 0 ≤ v) (h2 : v < 9223372036854775808) (hb : 0 < b) (hb2 : b < 1000000) : l_div v (b : Int) = v / (b : Int) ∧ l_rem v (b : Int) = v % (b : Int) := by
  have e : v = (v.toNat : Int) := by omega
  rw [e, l_div_n (by omega) hb (by omega), l_rem_n (by omega) hb (by omega)]
  exact ⟨by rw [Int.natCast_ediv], by rw [Int.natCast_emod]⟩
theorem mdiv_p {v : Int} {b : Nat} (h : 0 ≤ v) (h2 : v < 2147483648) (hb : 0 < b) (hb2 : b < 1000000) : m_div v (b : Int) = v / (b : Int) ∧ m_rem v (b : Int) = v % (b : Int) := by
  have e : v = (v.toNat : Int) := by omega
  rw [e, m_div_n (by omega) hb (by omega), m_rem_n (by omega) hb (by omega)]
  exact ⟨by rw [Int.natCast_ediv], by rw [Int.natCast_emod]⟩
theorem sp_whyNot (v : Int) (hP : M 2 = P) (ok : okP P) (q : ∀ M', Q67 M M' → Φ (whyN P v) M') : CR (d + 5) 244 [(2, 1), (1, v)] M n Φ := by
  have hF := ok.F
  subst hP
  unfold whyN at q
  apply e12_whyNot
  rw [cmp_ne0]
  refine ⟨fun c => sp_within v 0 899 (br (fun e => sp_within v 1000 1009 (br (fun e2 => sp_within v 2000 2099 (br (fun e3 => ?_) (fun e3 => ?_))) (fun e2 => ?_))) (fun e => ?_)), fun c => ?_⟩
  · have e := of_decide_eq_false e
    have e2 := of_decide_eq_false e2
    have e3 := of_decide_eq_false e3
    rw [if_neg c, if_neg (by omega), if_neg (by omega), if_neg (by omega)] at q
    exact q M (Q67.refl M)
  · have e := of_decide_eq_false e
    have e2 := of_decide_eq_false e2
    have e3 := of_decide_eq_true e3
    rw [if_neg c, if_neg (by omega), if_neg (by omega)] at q
    have ed : l_div (w64 (v - 2000)) 10 = (v - 2000) / 10 := by
      rw [w64_id (by omega) (by omega)]
      exact (ldiv_p (b := 10) (by omega) (by omega) (by omega) (by omega)).1
    rw [ed]
    refine sp_isFarm _ (by omega) (br (fun e4 => ?_) (fun e4 => ?_))
    · have e4 := of_decide_eq_false e4
      rw [if_neg (by omega)] at q
      exact q M (Q67.refl M)
    · have e4 := of_decide_eq_true e4
      rw [if_pos (by omega)] at q
      exact q M (Q67.refl M)
  · have e := of_decide_eq_false e
    have e2 := of_decide_eq_true e2
    rw [if_neg c, if_neg (by omega), if_pos (by omega)] at q
    rw [w64_id (by omega) (by omega)]
    refine sp_isWire _ (by omega) (br (fun e4 => ?_) (fun e4 => ?_))
    · have e4 := of_decide_eq_false e4
      rw [if_neg (by omega)] at q
      exact q M (Q67.refl M)
    · have e4 := of_decide_eq_true e4
      rw [if_pos (by omega)] at q
      exact q M (Q67.refl M)
  · have e := of_decide_eq_true e
    rw [if_neg c, if_pos (by omega)] at q
    obtain ⟨e1, e2⟩ := ldiv_p (v := v) (b := 100) (by omega) (by omega) (by omega) (by omega)
    rw [show l_div v 100 = v / 100 from e1, show l_rem v 100 = v % 100 from e2]
    exact sp_whyTell _ _ rfl ok q
  · rw [if_pos (by omega)] at q
    exact q M (Q67.refl M)
theorem sp_does (v : Int) (hP : M 2 = P) (ok : okP P) (h : whyN P v = 0) (q : ∀ M', QD M M' → M' 2 = doesP P v → Φ 0 M') : CR (d + 7) 245 [(2, 1), (0, v)] M n Φ := by
  have hF := ok.F
  have hB := ok.B
  apply e12_does
  unfold doesP at q
  rcases whyN_0 h with h1 | ⟨h1, h2, h3⟩ | ⟨h1, h2, h3⟩ | ⟨h1, h2, h3⟩
  · rw [if_pos h1] at q
    exact ⟨fun c => absurd h1 c, fun _ => sp_goesTurn hP ok q⟩
  · rw [if_neg (by omega), if_pos (by omega)] at q
    obtain ⟨a1, a2, a3, a4, _⟩ := whyT_0 h3
    refine ⟨fun _ => ⟨fun c => absurd c (by omega), fun _ => ?_⟩, fun c => absurd (by omega) c⟩
    obtain ⟨e1, e2⟩ := mdiv_p (v := v) (b := 100) (by omega) (by omega) (by omega) (by omega)
    rw [show m_div v 100 = (((v / 100).toNat : Nat) : Int) by rw [show m_div v 100 = v / 100 from e1]; omega, show m_rem v 100 = (((v % 100).toNat : Nat) : Int) by rw [show m_rem v 100 = v % 100 from e2]; omega]
    exact sp_tells1 _ _ hP ok (by omega) (by omega) q
  · rw [if_neg (by omega), if_neg (by omega), if_pos (by omega)] at q
    refine ⟨fun _ => ⟨fun _ => ⟨fun c => absurd c (by omega), fun _ => ?_⟩, fun c => absurd (by omega) c⟩, fun c => absurd (by omega) c⟩
    rw [w32_id (by omega) (by omega)]
    refine q _ QD.set ?_
    rw [sI_p, hP]
  · rw [if_neg (by omega), if_neg (by omega), if_neg (by omega)] at q
    have e1 := (mdiv_p (v := v - 2000) (b := 10) (by omega) (by omega) (by omega) (by omega)).1
    have e2 := (mdiv_p (v := v) (b := 10) (by omega) (by omega) (by omega) (by omega)).2
    have e3 : w32 (84 + (v - 2000) / 10) = ((84 + ((v - 2000) / 10).toNat : Nat) : Int) := by rw [w32_eq]; omega
    refine ⟨fun _ => ⟨fun _ => ⟨fun _ => ?_, fun c => absurd (by omega) c⟩, fun c => absurd (by omega) c⟩, fun c => absurd (by omega) c⟩
    rw [w32_id (x := v - 2000) (by omega) (by omega), show m_div (v - 2000) 10 = (v - 2000) / 10 from e1, show m_rem v 10 = v % 10 from e2, e3, Int.toNat_natCast]
    refine ⟨⟨by omega, by omega, trivial⟩, q _ QD.set ?_⟩
    rw [sI_p, hP]
theorem sp_keeps (q : ∀ M', (∀ a, a ≠ 8 → M' a = M a) → (∀ j, j < 27 → M' 8 j = M 2 (65 + j)) → Φ 0 M') : CR (d + 1) 233 [(2, 1)] M n Φ := by
  have key : ∀ k, k ≤ 27 → ∀ M', (∀ a, a ≠ 8 → M' a = M a) → (∀ j, j < k → M' 8 j = M 2 (65 + j)) → W12_keeps_2 d n Φ (k : Nat) M' := by
    refine up (fun M' hM' hj => ?_) (fun k hk ih M' hM' hj => ?_)
    · exact v12_keeps_2 ⟨fun _ => q M' hM' hj, fun c => absurd (by decide) c⟩
    · apply v12_keeps_2
      rw [wA 65 k (65 + k) (by omega) (by omega), w32_s (by omega)]
      simp only [Int.toNat_natCast]
      refine ⟨fun c => absurd c (by omega), fun _ => ⟨by omega, ⟨by omega, by omega, trivial⟩, ih _ (fun a ha => (sI_row ha).trans (hM' a ha)) (fun j h => ?_)⟩⟩
      rw [sI_if]
      by_cases e : j = k
      · rw [if_pos e, e, hM' 2 (by omega)]
      · rw [if_neg e]; exact hj j (by omega)
  exact e12_keeps (key 0 (Nat.zero_le _) M (fun _ _ => rfl) (fun j h => absurd h (Nat.not_lt_zero j)))
theorem sp_isAgain (q : ∀ M', (∀ a, a ≠ 2 → M' a = M a) → (∀ j, M' 2 j = if 65 ≤ j ∧ j < 92 then M 8 (j - 65) else M 2 j) → Φ 0 M') : CR (d + 1) 234 [(2, 1)] M n Φ := by
  have key : ∀ k, k ≤ 27 → ∀ M', (∀ a, a ≠ 2 → M' a = M a) → (∀ j, M' 2 j = if 65 ≤ j ∧ j < 65 + k then M 8 (j - 65) else M 2 j) → W12_isAgain_2 d n Φ (k : Nat) M' := by
    refine up (fun M' hM' hj => ?_) (fun k hk ih M' hM' hj => ?_)
    · exact v12_isAgain_2 ⟨fun _ => q M' hM' hj, fun c => absurd (by decide) c⟩
    · apply v12_isAgain_2
      rw [wA 65 k (65 + k) (by omega) (by omega), w32_s (by omega)]
      simp only [Int.toNat_natCast]
      refine ⟨fun c => absurd c (by omega), fun _ => ⟨by omega, ⟨by omega, by omega, trivial⟩, ih _ (fun a ha => (sI_row ha).trans (hM' a ha)) (fun j => ?_)⟩⟩
      rw [sI_if]
      by_cases e : j = 65 + k
      · rw [if_pos e, e, if_pos (by omega), hM' 8 (by omega), show 65 + k - 65 = k by omega]
      · rw [if_neg e, hj j]
        by_cases c : 65 ≤ j ∧ j < 65 + k
        · rw [if_pos c, if_pos (by omega)]
        · rw [if_neg c, if_neg (by omega)]
  exact e12_isAgain (key 0 (Nat.zero_le _) M (fun _ _ => rfl) (fun j => (if_neg (by omega)).symm))
theorem notes58 (N : Nat) (hN : N < 10) (h92 : M 2 92 = (N : Int)) (q : ∀ M', (∀ a, a ≠ 2 → M' a = M a) → (∀ j, M' 2 j = if j = 92 then (N : Int) + 1 else if 93 + 27 * N ≤ j ∧ j < 93 + 27 * N + 27 then M 8 (j - (93 + 27 * N)) else M 2 j) → Φ 0 M') : W12_notes_58 d n Φ 0 M := by
  have key : ∀ k, k ≤ 27 → ∀ M', (∀ a, a ≠ 2 → M' a = M a) → (∀ j, M' 2 j = if 93 + 27 * N ≤ j ∧ j < 93 + 27 * N + k then M 8 (j - (93 + 27 * N)) else M 2 j) → W12_notes_58 d n Φ (k : Nat) M' := by
    refine up (fun M' hM' hj => ?_) (fun k hk ih M' hM' hj => ?_)
    · have m92 : M' 2 92 = (N : Int) := by rw [hj 92, if_neg (by omega), h92]
      apply v12_notes_58
      rw [m92]
      refine ⟨fun _ => q _ (fun a ha => (sI_row ha).trans (hM' a ha)) (fun j => ?_), fun c => absurd (by decide) c⟩
      rw [sI_if, w32_s (by omega)]
      by_cases e : j = 92
      · rw [if_pos e, if_pos e]; omega
      · rw [if_neg e, if_neg e, hj j]
    · have m92 : M' 2 92 = (N : Int) := by rw [hj 92, if_neg (by omega), h92]
      have ei : w32 (w32 (93 + w32 (27 * (N : Int))) + (k : Int)) = ((93 + 27 * N + k : Nat) : Int) := by
        rw [w32_id (x := 27 * (N : Int)) (by omega) (by omega), w32_id (x := 93 + 27 * (N : Int)) (by omega) (by omega), w32_id (by omega) (by omega)]
        omega
      apply v12_notes_58
      rw [m92, ei, w32_s (k := k) (by omega)]
      simp only [Int.toNat_natCast]
      refine ⟨fun c => absurd c (by omega), fun _ => ⟨by omega, ⟨by omega, by omega, trivial⟩, ih _ (fun a ha => (sI_row ha).trans (hM' a ha)) (fun j => ?_)⟩⟩
      rw [sI_if]
      by_cases e : j = 93 + 27 * N + k
      · rw [if_pos e, e, if_pos (by omega), hM' 8 (by omega), show 93 + 27 * N + k - (93 + 27 * N) = k by omega]
      · rw [if_neg e, hj j]
        by_cases c : 93 + 27 * N ≤ j ∧ j < 93 + 27 * N + k
        · rw [if_pos c, if_pos (by omega)]
        · rw [if_neg c, if_neg (by omega)]
  exact key 0 (Nat.zero_le _) M (fun _ _ => rfl) (fun j => (if_neg (by omega)).symm)
theorem sp_notes (h92 : 0 ≤ M 2 92 ∧ M 2 92 ≤ 10) (q : ∀ M', (∀ a, a ≠ 2 → M' a = M a) → M' 2 = noteP (M 8) (M 2) → Φ 0 M') : CR (d + 1) 235 [(2, 1)] M n Φ := by
  refine e12_notes ⟨fun c => ?_, fun c => ?_⟩
  · refine notes58 (M 2 92).toNat (by omega) (by omega) (fun M' hM' hj => q M' hM' ?_)
    funext j
    rw [hj j]
    unfold noteP
    by_cases e : j = 92
    · rw [if_pos e, if_pos e, if_neg c]; omega
    · rw [if_neg e, if_neg e, if_neg c]
  · have c := Decidable.not_not.mp c
    have key : ∀ k, k ≤ 243 → ∀ M', (∀ a, a ≠ 2 → M' a = M a) → (∀ j, M' 2 j = if 93 ≤ j ∧ j < 93 + k then M 2 (j + 27) else M 2 j) → W12_notes_14 d n Φ (k : Nat) M' := by
      refine up (fun M' hM' hj => ?_) (fun k hk ih M' hM' hj => ?_)
      · apply v12_notes_14
        have m92 : M' 2 92 = 10 := by rw [hj 92, if_neg (by omega), c]
        rw [m92, w32_id (by omega) (by omega)]
        refine ⟨fun _ => notes58 9 (by omega) (sI_same _ _ _ _) (fun M2 hM2 hj2 => q M2 (fun a ha => (hM2 a ha).trans ((sI_row ha).trans (hM' a ha))) ?_), fun c => absurd (by decide) c⟩
        funext j
        rw [hj2 j]
        unfold noteP
        by_cases e : j = 92
        · rw [if_pos e, if_pos e, if_pos c]; rfl
        · rw [if_neg e, if_neg e, if_pos c, sI_row (by omega), hM' 8 (by omega), sI_if, if_neg e, hj j]
          by_cases c2 : 336 ≤ j ∧ j < 363
          · rw [if_pos (by omega), if_neg (by omega), if_pos c2]
          · rw [if_neg (by omega)]
            by_cases c3 : 93 ≤ j ∧ j < 336
            · rw [if_pos (by omega), if_pos c3]
            · rw [if_neg (by omega), if_neg c3, if_neg c2]
      · apply v12_notes_14
        rw [wA 120 k (120 + k) (by omega) (by omega), wA 93 k (93 + k) (by omega) (by omega), w32_s (by omega)]
        simp only [Int.toNat_natCast]
        refine ⟨fun c => absurd c (by omega), fun _ => ⟨by omega, ⟨by omega, by omega, trivial⟩, ih _ (fun a ha => (sI_row ha).trans (hM' a ha)) (fun j => ?_)⟩⟩
        rw [sI_if]
        by_cases e : j = 93 + k
        · rw [if_pos e, e, if_pos (by omega), hj, if_neg (by omega), show 93 + k + 27 = 120 + k by omega]
        · rw [if_neg e, hj j]
          by_cases c : 93 ≤ j ∧ j < 93 + k
          · rw [if_pos c, if_pos (by omega)]
          · rw [if_neg c, if_neg (by omega)]
    exact key 0 (Nat.zero_le _) M (fun _ _ => rfl) (fun j => (if_neg (by omega)).symm)
end
