/-! ===== rows of bits and of farms: the reference ===== -/
def QV (M M' : Nat → Nat → Int) : Prop := (∀ a, a ≠ 1 → a ≠ 6 → a ≠ 7 → a ≠ 11 → a ≠ 12 → M' a = M a) ∧ (∀ k, k ≠ 21 → M' 1 k = M 1 k)
theorem QV.refl (M : Nat → Nat → Int) : QV M M := ⟨fun _ _ _ _ _ _ => rfl, fun _ _ => rfl⟩
theorem QV.trans {M M' N : Nat → Nat → Int} (h : QV M M') (h2 : QV M' N) : QV M N := ⟨fun a h1 h3 h4 h5 h6 => (h2.1 a h1 h3 h4 h5 h6).trans (h.1 a h1 h3 h4 h5 h6), fun k hk => (h2.2 k hk).trans (h.2 k hk)⟩
theorem QV.ofU {M M' : Nat → Nat → Int} (h : QU M M') : QV M M' := ⟨fun a h1 h6 h7 _ _ => h.1 a h1 h6 h7, h.2⟩
theorem QV.ofG {M M' : Nat → Nat → Int} (h : ∀ a, a ≠ 11 → a ≠ 12 → M' a = M a) : QV M M' := ⟨fun a _ _ _ h1 h2 => h a h1 h2, fun k _ => by rw [h 1 (by omega) (by omega)]⟩
theorem KR.ofV {M M' : Nat → Nat → Int} (h : QV M M') : KR M M' := ⟨fun a ha => h.1 a (by omega) (by omega) (by omega) (by omega) (by omega), fun k hk => h.2 k (by omega)⟩
def zWays (P : Nat → Int) (f t x : Int) : Int := if (0 ≤ f ∧ f < P 2) ∧ 0 ≤ t ∧ t < P 2 then (if 0 ≤ x ∧ x ≤ 15 then (rwG P (fun _ => useT P) f.toNat x.toNat t.toNat : Nat) else -3) else -2
/-- a number of a tray that can't be: as a bit, as a moment -/
def badT (P num : Nat → Int) (bits : Bool) (k : Nat) : Bool := if bits = true then decide (¬ (0 ≤ num k ∧ num k < P 3)) else decide (num k ≠ -1 ∧ ¬ (0 ≤ num k ∧ num k < P 2))
def noR (P S Z U : Nat → Int) (t : Int) (bits : Bool) : Int := if noT S t = 0 then (if 1 ≤ Z t.toNat ∧ Z t.toNat ≤ 12 then (if anyB (badT P (nmT U t) bits) (Z t.toNat).toNat = true then -3 else 0) else -4) else noT S t
def noS (P S Z U : Nat → Int) (t f : Int) : Int := if (0 ≤ t ∧ t ≤ 3) ∧ 0 ≤ f ∧ f < P 2 then noR P S Z U t false else -2
def zRows (P S Z U : Nat → Int) (t f : Int) : Int := if noS P S Z U t f = 0 then (totS P (nmT U t) f.toNat (Z t.toNat).toNat : Nat) else noS P S Z U t f
def zSure (P S Z U : Nat → Int) (t f p : Int) : Int := if noS P S Z U t f = 0 then (if 0 ≤ p ∧ p < Z t.toNat then sureB P (nmT U t) f.toNat (Z t.toNat).toNat p.toNat else -7) else noS P S Z U t f
def zTellers (P S Z U : Nat → Int) (t : Int) : Int := if noR P S Z U t true = 0 then (telS P (nmT U t) (Z t.toNat).toNat : Nat) else noR P S Z U t true
def telT (P : Nat → Int) (h : Nat → Int) (L pl g : Nat) : Bool := decide (0 < telP P h L pl g)
def zTeller (P S Z U : Nat → Int) (t p : Int) : Int := if noR P S Z U t true = 0 then (if 0 ≤ p ∧ p < Z t.toNat then (msk (telT P (nmT U t) (Z t.toNat).toNat p.toNat) (nF P) : Nat) else -7) else noR P S Z U t true
theorem noR_0 {P S Z U : Nat → Int} {t : Int} {bits : Bool} (h : noR P S Z U t bits = 0) : ((0 ≤ t ∧ t ≤ 3) ∧ S t.toNat ≠ -1) ∧ (1 ≤ Z t.toNat ∧ Z t.toNat ≤ 12) ∧ ∀ k, k < (Z t.toNat).toNat → badT P (nmT U t) bits k = false := by
  unfold noR at h
  by_cases c : noT S t = 0
  · rw [if_pos c] at h
    have ht : (0 ≤ t ∧ t ≤ 3) ∧ S t.toNat ≠ -1 := by
      unfold noT at c
      split at c
      · rename_i c1
        split at c
        · omega
        · rename_i c2; exact ⟨c1, c2⟩
      · omega
    by_cases c2 : 1 ≤ Z t.toNat ∧ Z t.toNat ≤ 12
    · rw [if_pos c2] at h
      refine ⟨ht, c2, fun k hk => ?_⟩
      cases e : badT P (nmT U t) bits k with
      | false => rfl
      | true =>
        rw [if_pos ((anyB_iff _ _).mpr ⟨k, hk, e⟩)] at h
        omega
    · rw [if_neg c2] at h; omega
  · rw [if_neg c] at h; exact absurd h c
section
variable {d : Nat} {n : Nat × Nat} {Φ : Int → (Nat → Nat → Int) → Prop} {M : Nat → Nat → Int} {P : Nat → Int}
def selR (P : Nat → Int) (mo bi : Int) (b : Nat) : Bool := useT P b && (decide (bi = -1 ∨ (b : Int) = bi) && decide (mo = -1 ∨ P (25 + b) = mo))
theorem sp_goesRows (mo bi : Int) (v : Nat → Nat) (B : Nat) (hP : M 2 = P) (ok : okP P) (hu : M 1 21 = (useS P : Nat)) (hv : ∀ j, j < 8 → M 11 j = (v j : Int)) (hB : ∀ j, v j ≤ B) (hB2 : 13 * B < 9223372036854775808) (q : ∀ M', (∀ a, a ≠ 11 → a ≠ 12 → M' a = M a) → (∀ j, j < 8 → M' 11 j = ((stN P (selR P mo bi) v (nB P) j : Nat) : Int)) → Φ 0 M') : CR (d + 2) 272 [(2, 1), (0, mo), (0, bi)] M n Φ := by
  obtain ⟨eB, hB12⟩ := ok.nBe
  have hMo := ok.Mo
  have hus := useS_lt ok
  have k3 : ∀ k, k ≤ 8 → ∀ M', (∀ a, a ≠ 11 → a ≠ 12 → M' a = M a) → (∀ j, j < 8 → M' 12 j = ((stN P (selR P mo bi) v (nB P) j : Nat) : Int)) → (∀ j, j < k → M' 11 j = ((stN P (selR P mo bi) v (nB P) j : Nat) : Int)) → W12_goesRows_115 (d + 1) n Φ (k : Nat) M' := by
    refine up (fun M' h1 h2 h3 => ?_) (fun k hk ih M' h1 h2 h3 => ?_)
    · exact v12_goesRows_115 ⟨fun _ => q M' h1 h3, fun c => absurd (by decide) c⟩
    · apply v12_goesRows_115
      rw [w32_s (by omega), Int.toNat_natCast]
      refine ⟨fun c => absurd c (by omega), fun _ => ⟨by omega, ⟨by omega, by omega, trivial⟩, ih _ (fun a ha hb => by rw [sI_row ha, h1 a ha hb]) (fun j hj => by rw [sI_row (by omega), h2 j hj]) (fun j hj => ?_)⟩⟩
      rw [sI_if]
      by_cases c : j = k
      · rw [if_pos c, c, h2 k hk]
      · rw [if_neg c]; exact h3 j (by omega)
  have k2 : ∀ b, b ≤ nB P → ∀ M', (∀ a, a ≠ 12 → M' a = M a) → (∀ j, j < 8 → M' 12 j = ((stN P (selR P mo bi) v b j : Nat) : Int)) → W12_goesRows_23 (d + 1) n Φ mo bi (b : Nat) M' := by
    refine up (fun M' h1 h2 => ?_) (fun b hb ih M' h1 h2 => ?_)
    · apply v12_goesRows_23
      rw [h1 2 (by omega), hP, eB]
      exact ⟨fun _ => k3 0 (Nat.zero_le _) M' (fun a _ hb => h1 a hb) h2 (fun j hj => absurd hj (Nat.not_lt_zero j)), fun c => absurd (Int.le_refl _) c⟩
    · apply v12_goesRows_23
      have m2 : M' 2 = P := (h1 2 (by omega)).trans hP
      have hbt := ok.bit (b := b) (by omega)
      have ei : inS (useS P) b = useT P b := inS_msk _ hb
      have es : stN P (selR P mo bi) v (b + 1) = if selR P mo bi b = true then (fun j => if j = toN P b then stN P (selR P mo bi) v b j + v (frN P b) else stN P (selR P mo bi) v b j) else stN P (selR P mo bi) v b := rfl
      rw [m2, eB, h1 1 (by omega), hu, w32_s (by omega)]
      refine ⟨fun c => absurd c (by omega), fun _ => sp_isIn _ b (by omega) (by omega) ?_⟩
      rw [ei, wA 25 b (25 + b) (by omega) (by omega), wA 13 b (13 + b) (by omega) (by omega), m2]
      simp only [Int.toNat_natCast]
      have skip : selR P mo bi b = false → W12_goesRows_23 (d + 1) n Φ mo bi ((b + 1 : Nat) : Int) M' := by
        intro e
        rw [e] at es
        refine ih M' h1 (fun j hj => ?_)
        rw [es]
        exact h2 j hj
      have hfr : frN P b < 8 := by unfold frN; omega
      have hto : toN P b < 8 := by unfold toN; omega
      have upd : selR P mo bi b = true → (0 ≤ ((25 + b : Nat) : Int) ∧ ((25 + b : Nat) : Int) < ((3792 : Nat) : Int)) ∧ (0 ≤ P (25 + b) ∧ P (25 + b) < ((8 : Nat) : Int)) ∧ (0 ≤ ((13 + b : Nat) : Int) ∧ ((13 + b : Nat) : Int) < ((3792 : Nat) : Int)) ∧ (0 ≤ P (13 + b) ∧ P (13 + b) < ((8 : Nat) : Int)) ∧ (0 ≤ P (25 + b) ∧ P (25 + b) < ((8 : Nat) : Int) ∧ True) ∧ W12_goesRows_23 (d + 1) n Φ mo bi ((b + 1 : Nat) : Int) (sI M' 12 (P (25 + b)).toNat (w64 (M' 12 (P (25 + b)).toNat + M' 11 (P (13 + b)).toNat))) := by
        intro e
        refine ⟨by omega, by omega, by omega, by omega, ⟨by omega, by omega, trivial⟩, ih _ (fun a ha => by rw [sI_row ha, h1 a ha]) (fun j hj => ?_)⟩
        have l1 := stN_le (P := P) (sel := selR P mo bi) hB b (toN P b)
        have l2 := hB (frN P b)
        have l3 : b * B ≤ 12 * B := Nat.mul_le_mul_right _ (by omega)
        have e1 : M' 12 (P (25 + b)).toNat = ((stN P (selR P mo bi) v b (toN P b) : Nat) : Int) := h2 _ hto
        have e2 : M' 11 (P (13 + b)).toNat = (v (frN P b) : Int) := by rw [h1 11 (by omega)]; exact hv _ hfr
        rw [e1, e2, w64_id (by omega) (by omega), sI_if, es, if_pos e]
        by_cases c : j = toN P b
        · have c' : j = (P (25 + b)).toNat := c
          rw [if_pos c', if_pos c, c]; omega
        · have c' : ¬ (j = (P (25 + b)).toNat) := c
          rw [if_neg c', if_neg c]; exact h2 j hj
      refine br (fun e => skip (by unfold selR; rw [e]; rfl)) (fun e => ⟨fun c1 => ⟨fun c2 => upd ?_, fun c2 => ⟨by omega, fun c3 => upd ?_, fun c3 => skip ?_⟩⟩, fun c1 => ⟨fun c3 => skip ?_, fun c3 => ⟨fun c2 => upd ?_, fun c2 => ⟨by omega, fun c4 => upd ?_, fun c4 => skip ?_⟩⟩⟩⟩)
      · unfold selR; rw [e, decide_eq_true (Or.inl c1), decide_eq_true (Or.inl c2)]; rfl
      · unfold selR; rw [e, decide_eq_true (Or.inl c1), decide_eq_true (Or.inr c3)]; rfl
      · unfold selR; rw [e, decide_eq_true (Or.inl c1), decide_eq_false (show ¬ (mo = -1 ∨ P (25 + b) = mo) by omega)]; rfl
      · unfold selR; rw [e, decide_eq_false (show ¬ (bi = -1 ∨ (b : Int) = bi) by omega)]; rfl
      · unfold selR; rw [e, decide_eq_true (show bi = -1 ∨ (b : Int) = bi by omega), decide_eq_true (Or.inl c2)]; rfl
      · unfold selR; rw [e, decide_eq_true (show bi = -1 ∨ (b : Int) = bi by omega), decide_eq_true (Or.inr c4)]; rfl
      · unfold selR; rw [e, decide_eq_true (show bi = -1 ∨ (b : Int) = bi by omega), decide_eq_false (show ¬ (mo = -1 ∨ P (25 + b) = mo) by omega)]; rfl
  have k1 : ∀ k, k ≤ 8 → ∀ M', (∀ a, a ≠ 12 → M' a = M a) → (∀ j, j < k → M' 12 j = 0) → W12_goesRows_2 (d + 1) n Φ mo bi (k : Nat) M' := by
    refine up (fun M' h1 h2 => ?_) (fun k hk ih M' h1 h2 => ?_)
    · exact v12_goesRows_2 ⟨fun _ => k2 0 (Nat.zero_le _) M' h1 h2, fun c => absurd (by decide) c⟩
    · apply v12_goesRows_2
      rw [w32_s (by omega), Int.toNat_natCast]
      refine ⟨fun c => absurd c (by omega), fun _ => ⟨⟨by omega, by omega, trivial⟩, ih _ (fun a ha => by rw [sI_row ha, h1 a ha]) (fun j hj => ?_)⟩⟩
      rw [sI_if]
      by_cases c : j = k
      · rw [if_pos c]
      · rw [if_neg c]; exact h2 j (by omega)
  exact e12_goesRows (k1 0 (Nat.zero_le _) M (fun _ _ => rfl) (fun j hj => absurd hj (Nat.not_lt_zero j)))
theorem sp_beginsRows (fr : Nat) (hP : M 2 = P) (ok : okP P) (q : ∀ M', QV M M' → M' 1 21 = (useS P : Nat) → (∀ j, j < 8 → M' 11 j = ((if j = fr then 1 else 0 : Nat) : Int)) → Φ 0 M') : CR (d + 6) 273 [(2, 1), (0, (fr : Int))] M n Φ := by
  refine e12_beginsRows (sp_laysUsable hP ok (fun M1 h1 hu => ?_))
  have key : ∀ k, k ≤ 8 → ∀ M', (∀ a, a ≠ 11 → M' a = M1 a) → (∀ j, j < k → M' 11 j = ((if j = fr then 1 else 0 : Nat) : Int)) → W12_beginsRows_6 (d + 5) n Φ (fr : Nat) (k : Nat) M' := by
    refine up (fun M' h2 h3 => ?_) (fun k hk ih M' h2 h3 => ?_)
    · exact v12_beginsRows_6 ⟨fun _ => q M' ((QV.ofU h1).trans (QV.ofG (fun a ha _ => h2 a ha))) (by rw [h2 1 (by omega), hu]) h3, fun c => absurd (by decide) c⟩
    · apply v12_beginsRows_6
      rw [w32_s (by omega), Int.toNat_natCast]
      refine ⟨fun c => absurd c (by omega), fun _ => ⟨fun c => ⟨⟨by omega, by omega, trivial⟩, ih _ (fun a ha => by rw [sI_row ha, h2 a ha]) (fun j hj => ?_)⟩, fun c => ⟨⟨by omega, by omega, trivial⟩, ih _ (fun a ha => by rw [sI_row ha, h2 a ha]) (fun j hj => ?_)⟩⟩⟩
      · rw [sI_if]
        by_cases e : j = k
        · rw [if_pos e, if_neg (by omega)]; rfl
        · rw [if_neg e]; exact h3 j (by omega)
      · rw [sI_if]
        by_cases e : j = k
        · rw [if_pos e, if_pos (by omega)]; rfl
        · rw [if_neg e]; exact h3 j (by omega)
  exact key 0 (Nat.zero_le _) M1 (fun _ _ => rfl) (fun j hj => absurd hj (Nat.not_lt_zero j))
theorem sp_areMoments (f g : Int) (hP : M 2 = P) (ok : okP P) (q : Φ (b2i (decide ((0 ≤ f ∧ f < P 2) ∧ 0 ≤ g ∧ g < P 2))) M) : CR (d + 3) 268 [(2, 1), (0, f), (0, g)] M n Φ := by
  have hF := ok.Mo
  refine e12_areMoments (sp_isMoment f (by rw [hP]; omega) ?_)
  rw [hP]
  refine br (fun e => ?_) (fun e => sp_isMoment g (by rw [hP]; omega) ?_)
  · have e := of_decide_eq_false e
    rw [decide_eq_false (fun z => e z.1)] at q; exact q
  · rw [hP]
    have e := of_decide_eq_true e
    refine br (fun e2 => ?_) (fun e2 => ?_)
    · have e2 := of_decide_eq_false e2
      rw [decide_eq_false (fun z => e2 z.2)] at q; exact q
    · have e2 := of_decide_eq_true e2
      rw [decide_eq_true ⟨e, e2⟩] at q; exact q
theorem r_ways (f t x : Int) (hP : M 2 = P) (ok : okP P) (q : ∀ M', KR M M' → M' 2 = P → Φ (zWays P f t x) M') : CR (d + 7) 274 [(2, 1), (0, f), (0, t), (0, x)] M n Φ := by
  have hMo := ok.nMe
  have h0 : KR M (sI M 1 0 0) := KR.one (by omega)
  have m0 : (sI M 1 0 0) 2 = P := (sI_row (by omega)).trans hP
  unfold zWays at q
  refine e12_ways (sp_areMoments f t m0 ok (br' (fun e => sp_within x 0 15 (br' (fun e2 => ?_) (fun e2 => ?_))) (fun e => ?_)))
  · have e := of_decide_eq_true e
    have e2 := of_decide_eq_true e2
    rw [if_pos e, if_pos e2] at q
    rw [show f = (f.toNat : Int) by omega]
    refine sp_beginsRows _ m0 ok (fun M1 h1 hu h11 => ?_)
    have m1 : M1 2 = P := (h1.1 2 (by omega) (by omega) (by omega) (by omega) (by omega)).trans m0
    have key : ∀ k, k ≤ x.toNat → ∀ M', (∀ a, a ≠ 11 → a ≠ 12 → M' a = M1 a) → (∀ j, j < 8 → M' 11 j = ((rwG P (fun _ => useT P) f.toNat k j : Nat) : Int)) → W12_ways_42 (d + 6) n Φ t x (k : Nat) M' := by
      refine up (fun M' h2 h3 => ?_) (fun k hk ih M' h2 h3 => ?_)
      · apply v12_ways_42
        refine ⟨fun _ => ⟨by omega, ?_⟩, fun c => absurd (by omega) c⟩
        rw [h3 t.toNat (by omega)]
        exact q M' (h0.trans ((KR.ofV h1).trans (KR.ofV (QV.ofG h2)))) ((h2 2 (by omega) (by omega)).trans m1)
      · apply v12_ways_42
        have hp := p12 k (by omega)
        refine ⟨fun c => absurd c (by omega), fun _ => sp_goesRows (-1) (-1) _ (12 ^ k) ((h2 2 (by omega) (by omega)).trans m1) ok (by rw [h2 1 (by omega) (by omega), hu]) h3 (rwG_le ok _ _ k) (by omega) (fun M2 h4 h5 => ?_)⟩
        rw [w32_s (by omega)]
        refine ih M2 (fun a ha hb => by rw [h4 a ha hb, h2 a ha hb]) (fun j hj => ?_)
        rw [h5 j hj]
        show _ = ((stN P (useT P) (rwG P (fun _ => useT P) f.toNat k) (nB P) j : Nat) : Int)
        rw [stN_ext (sel' := useT P) (nB P) (fun i _ => by unfold selR; simp)]
    exact key 0 (Nat.zero_le _) M1 (fun _ _ _ => rfl) h11
  · have e := of_decide_eq_true e
    have e2 := of_decide_eq_false e2
    rw [if_pos e, if_neg e2] at q
    exact q _ h0 m0
  · have e := of_decide_eq_false e
    rw [if_neg e] at q
    exact q _ h0 m0
theorem sp_noRow (t : Int) (bits : Bool) (hP : M 2 = P) (ok : okP P) (hZ : ∀ i, i < 4 → M 20 i ≠ -1 → 0 ≤ M 21 i ∧ M 21 i ≤ 40) (q : Φ (noR P (M 20) (M 21) (M 22) t bits) M) : CR (d + 3) 293 [(2, 1), (0, t), (0, b2i bits)] M n Φ := by
  have hMo := ok.Mo
  have hBb := ok.B
  unfold noR at q
  refine e12_noRow (sp_noTray t ⟨fun c => ?_, fun c => ?_⟩)
  · rw [if_pos c] at q
    have ht : (0 ≤ t ∧ t ≤ 3) ∧ M 20 t.toNat ≠ -1 := by
      unfold noT at c
      split at c
      · rename_i c1
        split at c
        · omega
        · rename_i c2; exact ⟨c1, c2⟩
      · omega
    refine ⟨by omega, sp_within _ 1 12 (br' (fun e => ?_) (fun e => ?_))⟩
    · have e := of_decide_eq_true e
      rw [if_pos e] at q
      have ez : M 21 t.toNat = (((M 21 t.toNat).toNat : Nat) : Int) := by omega
      have key : ∀ k, k ≤ (M 21 t.toNat).toNat → anyB (badT P (nmT (M 22) t) bits) k = false → W12_noRow_35 (d + 2) n Φ t (b2i bits) (k : Nat) M := by
        refine up (fun hn => ?_) (fun k hk ih hn => ?_)
        · apply v12_noRow_35
          rw [hn, if_neg (by decide)] at q
          exact ⟨by omega, fun _ => q, fun c => absurd (by omega) c⟩
        · apply v12_noRow_35
          have ei : w32 (w32 (40 * t) + (k : Int)) = ((40 * t.toNat + k : Nat) : Int) := by
            rw [w32_id (x := 40 * t) (by omega) (by omega), w32_id (by omega) (by omega)]; omega
          rw [ei, w32_s (by omega)]
          simp only [Int.toNat_natCast]
          have good : badT P (nmT (M 22) t) bits k = false → W12_noRow_35 (d + 2) n Φ t (b2i bits) ((k + 1 : Nat) : Int) M := by
            intro e2
            refine ih ?_
            show (anyB (badT P (nmT (M 22) t) bits) k || badT P (nmT (M 22) t) bits k) = false
            rw [hn, e2]; rfl
          have badc : badT P (nmT (M 22) t) bits k = true → Φ (-3) M := by
            intro e2
            rw [if_pos ((anyB_iff _ _).mpr ⟨k, hk, e2⟩)] at q
            exact q
          have en : M 22 (40 * t.toNat + k) = nmT (M 22) t k := rfl
          rw [en]
          refine ⟨by omega, fun c => absurd c (by omega), fun _ => ⟨by omega, br (fun eb => ?_) (fun eb => ?_)⟩⟩
          · have ev : badT P (nmT (M 22) t) bits k = decide (nmT (M 22) t k ≠ -1 ∧ ¬ (0 ≤ nmT (M 22) t k ∧ nmT (M 22) t k < P 2)) := by unfold badT; rw [eb]; rfl
            refine ⟨fun c2 => ?_, fun c2 => ?_⟩
            · rw [cmp_eq0] at c2
              exact good (by rw [ev, decide_eq_false_iff_not]; omega)
            · rw [cmp_eq0] at c2
              refine sp_isMoment _ (by rw [hP]; omega) ?_
              rw [hP]
              refine br' (fun e3 => good ?_) (fun e3 => badc ?_)
              · have e3 := of_decide_eq_true e3
                rw [ev, decide_eq_false_iff_not]; omega
              · have e3 := of_decide_eq_false e3
                rw [ev, decide_eq_true_eq]; exact ⟨c2, e3⟩
          · have ev : badT P (nmT (M 22) t) bits k = decide (¬ (0 ≤ nmT (M 22) t k ∧ nmT (M 22) t k < P 3)) := by unfold badT; rw [eb]; rfl
            refine sp_isBit _ (by rw [hP]; omega) ?_
            rw [hP]
            refine br' (fun e3 => good ?_) (fun e3 => badc ?_)
            · have e3 := of_decide_eq_true e3
              rw [ev, decide_eq_false_iff_not]; omega
            · have e3 := of_decide_eq_false e3
              rw [ev, decide_eq_true_eq]; exact e3
      exact key 0 (Nat.zero_le _) rfl
    · have e := of_decide_eq_false e
      rw [if_neg e] at q
      exact q
  · rw [if_neg c] at q
    exact q
theorem sp_noSeen (t f : Int) (hP : M 2 = P) (ok : okP P) (hZ : ∀ i, i < 4 → M 20 i ≠ -1 → 0 ≤ M 21 i ∧ M 21 i ≤ 40) (q : Φ (noS P (M 20) (M 21) (M 22) t f) M) : CR (d + 4) 294 [(2, 1), (0, t), (0, f)] M n Φ := by
  have hMo := ok.Mo
  unfold noS at q
  refine e12_noSeen (sp_within t 0 3 (br (fun e => ?_) (fun e => sp_isMoment f (by rw [hP]; omega) ?_)))
  · have e := of_decide_eq_false e
    rw [if_neg (fun z => e z.1)] at q; exact q
  · rw [hP]
    have e := of_decide_eq_true e
    refine br' (fun e2 => ?_) (fun e2 => ?_)
    · have e2 := of_decide_eq_true e2
      rw [if_pos ⟨e, e2⟩] at q
      exact sp_noRow t false hP ok hZ q
    · have e2 := of_decide_eq_false e2
      rw [if_neg (fun z => e2 z.2)] at q; exact q
theorem sp_rowsBy (t fr L : Nat) (pl bi : Int) (h : Nat → Int) (sel : Nat → Nat → Bool) (hP : M 2 = P) (ok : okP P) (ht : t < 4) (hL : L ≤ 12) (hz : M 21 t = (L : Int)) (hh : ∀ k, k < L → M 22 (40 * t + k) = h k) (hr : ∀ k, k < L → -1 ≤ h k ∧ h k < 8) (hsel : ∀ k b, k < L → b < nB P → sel k b = selR P (h k) (if (k : Int) = pl then bi else -1) b) (q : ∀ M', QV M M' → Φ (smN (rwG P sel fr L) 8 : Nat) M') : CR (d + 7) 295 [(2, 1), (0, (t : Int)), (0, (fr : Int)), (0, pl), (0, bi)] M n Φ := by
  refine e12_rowsBy (sp_beginsRows fr hP ok (fun M1 h1 hu h11 => ?_))
  have m1 : M1 2 = P := (h1.1 2 (by omega) (by omega) (by omega) (by omega) (by omega)).trans hP
  have key : ∀ k, k ≤ L → ∀ M', (∀ a, a ≠ 11 → a ≠ 12 → M' a = M1 a) → (∀ j, j < 8 → M' 11 j = ((rwG P sel fr k j : Nat) : Int)) → W12_rowsBy_8 (d + 6) n Φ (t : Nat) pl bi (k : Nat) M' := by
    refine up (fun M' h2 h3 => ?_) (fun k hk ih M' h2 h3 => ?_)
    · apply v12_rowsBy_8
      have r21 : M' 21 t = (L : Int) := by rw [h2 21 (by omega) (by omega), h1.1 21 (by omega) (by omega) (by omega) (by omega) (by omega), hz]
      simp only [Int.toNat_natCast, r21]
      refine ⟨by omega, fun _ => ?_, fun c => absurd (Int.le_refl _) c⟩
      have hp := p12 L (by omega)
      have k2 : ∀ j, j ≤ 8 → W12_rowsBy_60 (d + 6) n Φ (smN (rwG P sel fr L) j : Nat) (j : Nat) M' := by
        refine up ?_ (fun j hj ih2 => ?_)
        · exact v12_rowsBy_60 ⟨fun _ => q M' (h1.trans (QV.ofG h2)), fun c => absurd (by decide) c⟩
        · apply v12_rowsBy_60
          have l1 := smN_le (f := rwG P sel fr L) (B := 12 ^ L) j (fun k _ => rwG_le ok sel fr L k)
          have l2 := rwG_le ok sel fr L j
          have l3 : j * 12 ^ L ≤ 8 * 12 ^ L := Nat.mul_le_mul_right _ (by omega)
          rw [w32_s (by omega), Int.toNat_natCast, h3 j hj, w64_id (by omega) (by omega)]
          exact ⟨fun c => absurd c (by omega), fun _ => ⟨by omega, ih2⟩⟩
      exact k2 0 (Nat.zero_le _)
    · apply v12_rowsBy_8
      have r21 : M' 21 t = (L : Int) := by rw [h2 21 (by omega) (by omega), h1.1 21 (by omega) (by omega) (by omega) (by omega) (by omega), hz]
      have r22 : M' 22 (40 * t + k) = h k := by rw [h2 22 (by omega) (by omega), h1.1 22 (by omega) (by omega) (by omega) (by omega) (by omega), hh k hk]
      have ei : w32 (w32 (40 * (t : Int)) + (k : Int)) = ((40 * t + k : Nat) : Int) := by
        rw [w32_id (x := 40 * (t : Int)) (by omega) (by omega), w32_id (by omega) (by omega)]; omega
      have hrk := hr k hk
      rw [ei, w32_s (by omega)]
      simp only [Int.toNat_natCast, r21, r22]
      rw [w32_id (x := h k) (by omega) (by omega)]
      have hp := p12 k (by omega)
      have go : ∀ bj : Int, bj = (if (k : Int) = pl then bi else -1) → CR (d + 6) 272 [(2, 1), (0, h k), (0, bj)] M' n (fun _ M1 => W12_rowsBy_8 (d + 6) n Φ (t : Nat) pl bi ((k + 1 : Nat) : Int) M1) := by
        intro bj hbj
        refine sp_goesRows (h k) bj _ (12 ^ k) ((h2 2 (by omega) (by omega)).trans m1) ok (by rw [h2 1 (by omega) (by omega), hu]) h3 (rwG_le ok _ _ k) (by omega) (fun M2 h4 h5 => ?_)
        refine ih M2 (fun a ha hb => by rw [h4 a ha hb, h2 a ha hb]) (fun j hj => ?_)
        rw [h5 j hj]
        show _ = ((stN P (sel k) (rwG P sel fr k) (nB P) j : Nat) : Int)
        rw [stN_ext (sel' := sel k) (nB P) (fun i hi => by rw [hsel k i hk hi, hbj])]
      refine ⟨by omega, fun c => absurd c (by omega), fun _ => ⟨by omega, fun c => go _ ?_, fun c => go _ ?_⟩⟩
      · rw [if_neg c]
      · rw [if_pos (Decidable.not_not.mp c)]
  exact key 0 (Nat.zero_le _) M1 (fun _ _ _ => rfl) h11
theorem noS_0 {P S Z U : Nat → Int} {t f : Int} (hM : P 2 ≤ 8) (h : noS P S Z U t f = 0) : ((0 ≤ t ∧ t ≤ 3) ∧ S t.toNat ≠ -1) ∧ (0 ≤ f ∧ f < P 2) ∧ (1 ≤ Z t.toNat ∧ Z t.toNat ≤ 12) ∧ ∀ k, k < (Z t.toNat).toNat → -1 ≤ nmT U t k ∧ nmT U t k < 8 := by
  unfold noS at h
  by_cases c : (0 ≤ t ∧ t ≤ 3) ∧ 0 ≤ f ∧ f < P 2
  · rw [if_pos c] at h
    obtain ⟨h1, h2, h3⟩ := noR_0 h
    refine ⟨h1, c.2, h2, fun k hk => ?_⟩
    have := h3 k hk
    unfold badT at this
    rw [if_neg (by decide), decide_eq_false_iff_not] at this
    omega
  · rw [if_neg c] at h; omega
theorem sel_0 (P : Nat → Int) (h : Nat → Int) (k b : Nat) : sel0 P h k b = selR P (h k) (if (k : Int) = -1 then -1 else -1) b := by
  unfold sel0 selR
  rw [if_neg (by omega), decide_eq_true (Or.inl rfl), Bool.true_and, decide_eq_decide.mpr (show (h k = -1 ∨ h k = P (25 + b)) ↔ (h k = -1 ∨ P (25 + b) = h k) by omega)]
theorem r_rows (t f : Int) (hP : M 2 = P) (ok : okP P) (hZ : ∀ i, i < 4 → M 20 i ≠ -1 → 0 ≤ M 21 i ∧ M 21 i ≤ 40) (q : ∀ M', KR M M' → M' 2 = P → Φ (zRows P (M 20) (M 21) (M 22) t f) M') : CR (d + 8) 296 [(2, 1), (0, t), (0, f)] M n Φ := by
  have hMo := ok.Mo
  have h0 : KR M (sI M 1 0 0) := KR.one (by omega)
  have m0 : (sI M 1 0 0) 2 = P := (sI_row (by omega)).trans hP
  have r20 : (sI M 1 0 0) 20 = M 20 := sI_row (by omega)
  have r21 : (sI M 1 0 0) 21 = M 21 := sI_row (by omega)
  have r22 : (sI M 1 0 0) 22 = M 22 := sI_row (by omega)
  unfold zRows at q
  refine e12_rows (sp_noSeen t f m0 ok (by rw [r20, r21]; exact hZ) ?_)
  rw [r20, r21, r22]
  refine ⟨fun c => ?_, fun c => ?_⟩
  · rw [if_pos c] at q
    obtain ⟨c1, c2, c3, c4⟩ := noS_0 hMo.2 c
    rw [show t = (t.toNat : Int) by omega, show f = (f.toNat : Int) by omega]
    refine sp_rowsBy t.toNat f.toNat (M 21 t.toNat).toNat (-1) (-1) (nmT (M 22) t) (sel0 P (nmT (M 22) t)) m0 ok (by omega) (by omega) (by rw [r21]; omega) (fun k hk => by rw [r22]; rfl) c4 (fun k b _ _ => sel_0 P _ k b) (fun M' h1 => ?_)
    exact q M' (h0.trans (KR.ofV h1)) ((h1.1 2 (by omega) (by omega) (by omega) (by omega) (by omega)).trans m0)
  · rw [if_neg c] at q
    exact q _ h0 m0
theorem r_sureBit (t f p : Int) (hP : M 2 = P) (ok : okP P) (hZ : ∀ i, i < 4 → M 20 i ≠ -1 → 0 ≤ M 21 i ∧ M 21 i ≤ 40) (q : ∀ M', KR M M' → M' 2 = P → Φ (zSure P (M 20) (M 21) (M 22) t f p) M') : CR (d + 8) 297 [(2, 1), (0, t), (0, f), (0, p)] M n Φ := by
  have hMo := ok.Mo
  obtain ⟨eB, hB⟩ := ok.nBe
  have h0 : KR M (sI M 1 0 0) := KR.one (by omega)
  have m0 : (sI M 1 0 0) 2 = P := (sI_row (by omega)).trans hP
  have r20 : (sI M 1 0 0) 20 = M 20 := sI_row (by omega)
  have r21 : (sI M 1 0 0) 21 = M 21 := sI_row (by omega)
  have r22 : (sI M 1 0 0) 22 = M 22 := sI_row (by omega)
  unfold zSure at q
  refine e12_sureBit (sp_noSeen t f m0 ok (by rw [r20, r21]; exact hZ) ?_)
  rw [r20, r21, r22]
  refine ⟨fun c => ?_, fun c => ?_⟩
  · rw [if_pos c] at q
    obtain ⟨c1, c2, c3, c4⟩ := noS_0 hMo.2 c
    rw [w32_id (by omega) (by omega)]
    refine ⟨by omega, sp_within p 0 _ (br' (fun e => ?_) (fun e => ?_))⟩
    · have e := of_decide_eq_true e
      rw [if_pos (by omega)] at q
      have ez : (sI M 1 0 0) 21 t.toNat = (((M 21 t.toNat).toNat : Nat) : Int) := by rw [r21]; omega
      have ep : p = (p.toNat : Int) := by omega
      have hpl : p.toNat < (M 21 t.toNat).toNat := by omega
      have hn : ∀ k, (sI M 1 0 0) 22 (40 * t.toNat + k) = nmT (M 22) t k := fun k => by rw [r22]; rfl
      rw [show t = (t.toNat : Int) by omega, show f = (f.toNat : Int) by omega, ep]
      have hL : (M 21 t.toNat).toNat ≤ 12 := by omega
      have ht4 : t.toNat < 4 := by omega
      generalize hNM : nmT (M 22) t = nm at q c4 hn
      generalize (M 21 t.toNat).toNat = L at q c4 ez hpl hL
      generalize t.toNat = a at ez hn ht4 ⊢
      generalize f.toNat = fr at q ⊢
      generalize p.toNat = pl at q hpl ⊢
      refine sp_rowsBy a fr L (-1) (-1) nm (sel0 P nm) m0 ok ht4 hL ez (fun k _ => hn k) c4 (fun k b _ _ => sel_0 P nm k b) (fun M1 h1 => ?_)
      unfold sureB at q
      have hT : smN (rwG P (sel0 P nm) fr L) 8 = totS P nm fr L := rfl
      rw [hT]
      have key : ∀ k, k ≤ fstB (fun c => decide (totP P nm fr L pl c = totS P nm fr L)) (nB P) → ∀ M', QV (sI M 1 0 0) M' → W12_sureBit_55 (d + 7) n Φ (a : Nat) (fr : Nat) (pl : Nat) (totS P nm fr L : Nat) (k : Nat) M' := by
        obtain ⟨f1, f2, f3⟩ := fstB_all (fun c => decide (totP P nm fr L pl c = totS P nm fr L)) (nB P)
        generalize fstB (fun c => decide (totP P nm fr L pl c = totS P nm fr L)) (nB P) = N at q f1 f2 f3
        have qm : ∀ M', QV (sI M 1 0 0) M' → KR M M' ∧ M' 2 = P := fun M' h => ⟨h0.trans (KR.ofV h), (h.1 2 (by omega) (by omega) (by omega) (by omega) (by omega)).trans m0⟩
        have rb : ∀ M' k, QV (sI M 1 0 0) M' → k < nB P → (∀ M2, QV (sI M 1 0 0) M2 → ((m_cmp (totP P nm fr L pl k : Nat) (totS P nm fr L : Nat)) ≠ 0 → W12_sureBit_55 (d + 7) n Φ (a : Nat) (fr : Nat) (pl : Nat) (totS P nm fr L : Nat) ((k + 1 : Nat) : Int) M2) ∧ (¬ ((m_cmp (totP P nm fr L pl k : Nat) (totS P nm fr L : Nat)) ≠ 0) → Φ (k : Nat) M2)) → CR (d + 7) 295 [(2, 1), (0, (a : Int)), (0, (fr : Int)), (0, (pl : Int)), (0, (k : Int))] M' n (fun r0 M1 => ((m_cmp r0 (totS P nm fr L : Nat)) ≠ 0 → W12_sureBit_55 (d + 7) n Φ (a : Nat) (fr : Nat) (pl : Nat) (totS P nm fr L : Nat) ((k + 1 : Nat) : Int) M1) ∧ (¬ ((m_cmp r0 (totS P nm fr L : Nat)) ≠ 0) → Φ (k : Nat) M1)) := by
          intro M' k hq hk hfin
          refine sp_rowsBy a fr L pl k nm (selP P nm pl k) (qm M' hq).2 ok ht4 hL (by rw [hq.1 21 (by omega) (by omega) (by omega) (by omega) (by omega)]; exact ez) (fun i _ => by rw [hq.1 22 (by omega) (by omega) (by omega) (by omega) (by omega)]; exact hn i) c4 (fun i b _ hb => ?_) (fun M2 h2 => hfin M2 (hq.trans h2))
          unfold selP
          rw [sel_0]
          unfold selR
          rw [if_neg (by omega)]
          by_cases ei : (i : Int) = (pl : Int)
          · have ed : decide (i ≠ pl ∨ b = k) = decide ((k : Int) = -1 ∨ (b : Int) = (k : Int)) := decide_eq_decide.mpr (by omega)
            have et : decide ((-1 : Int) = -1 ∨ (b : Int) = -1) = true := decide_eq_true (Or.inl rfl)
            rw [if_pos ei, et, ed]
            cases useT P b <;> simp [Bool.and_comm]
          · rw [if_neg ei, decide_eq_true (Or.inl rfl), decide_eq_true (Or.inl (show i ≠ pl by omega)), Bool.and_true]
        refine up (fun M' hq => ?_) (fun k hk ih M' hq => ?_)
        · apply v12_sureBit_55
          rw [(qm M' hq).2, eB, cmp_le0]
          have q' := q M' (qm M' hq).1 (qm M' hq).2
          refine ⟨fun c5 => ?_, fun c5 => ⟨fun c6 => ?_, fun c6 => ?_⟩⟩
          · by_cases cz : 0 < totS P nm fr L
            · rw [if_pos cz, if_neg (by omega)] at q'; exact q'
            · rw [if_neg cz] at q'; exact q'
          · rw [if_neg (by omega)] at q'; exact q'
          · have hlt : N < nB P := by omega
            have e2 := of_decide_eq_true (f2 hlt)
            rw [w32_s (by omega)]
            refine rb M' N hq hlt (fun M2 hq2 => ⟨fun c7 => ?_, fun _ => ?_⟩)
            · rw [cmp_ne0] at c7
              omega
            · have q2 := q M2 (qm M2 hq2).1 (qm M2 hq2).2
              rw [if_pos (by omega), if_pos hlt] at q2
              exact q2
        · apply v12_sureBit_55
          have e3 := of_decide_eq_false (f3 k hk)
          rw [(qm M' hq).2, eB, cmp_le0, w32_s (by omega)]
          refine ⟨fun c5 => absurd c5 (by omega), fun c5 => ⟨fun c6 => ?_, fun c6 => ?_⟩⟩
          · have q' := q M' (qm M' hq).1 (qm M' hq).2
            rw [if_neg (by omega)] at q'; exact q'
          · refine rb M' k hq (by omega) (fun M2 hq2 => ⟨fun _ => ih M2 hq2, fun c7 => ?_⟩)
            rw [cmp_ne0] at c7
            omega
      exact key 0 (Nat.zero_le _) M1 h1
    · have e := of_decide_eq_false e
      rw [if_neg (by omega)] at q
      exact q _ h0 m0
  · rw [if_neg c] at q
    exact q _ h0 m0
def QT (M M' : Nat → Nat → Int) : Prop := ∀ a, a ≠ 6 → a ≠ 7 → a ≠ 18 → a ≠ 19 → M' a = M a
theorem KR.ofT {M M' : Nat → Nat → Int} (h : QT M M') : KR M M' := ⟨fun a ha => h a (by omega) (by omega) (by omega) (by omega), fun k hk => by rw [h 1 (by omega) (by omega) (by omega) (by omega)]⟩
theorem sp_tellersBy (t L : Nat) (pl fa : Int) (h : Nat → Int) (can : Nat → Nat → Bool) (hP : M 2 = P) (ok : okP P) (ht : t < 4) (hL : L ≤ 12) (hL1 : 1 ≤ L) (hz : M 21 t = (L : Int)) (hh : ∀ k, k < L → M 22 (40 * t + k) = h k) (hr : ∀ k, k < L → 0 ≤ h k ∧ h k < P 3) (hcan : ∀ k f, k < L → f < 8 → can k f = (mayB P f (h k).toNat && decide ((k : Int) ≠ pl ∨ fa = -1 ∨ (f : Int) = fa))) (q : ∀ M', QT M M' → Φ (smN (tlG can (L - 1)) 8 : Nat) M') : CR (d + 4) 298 [(2, 1), (0, (t : Int)), (0, pl), (0, fa)] M n Φ := by
  obtain ⟨eF, hF1, hF2⟩ := ok.nFe
  have hBb := ok.B
  have hi8 : ∀ k, k < L → ∀ j, nF P + j ≤ 8 → smN (tlG can k) (nF P + j) = smN (tlG can k) (nF P) := by
    intro k hk j
    induction j with
    | zero => intro _; rfl
    | succ j ih =>
      intro hj
      show smN (tlG can k) (nF P + j) + tlG can k (nF P + j) = _
      have : tlG can k (nF P + j) = 0 := by
        have hc : can k (nF P + j) = false := by
          rw [hcan k _ hk (by omega)]
          unfold mayB
          rw [decide_eq_false (show ¬ (nF P + j < nF P) by omega)]
          rfl
        have := mt (tl_can (can := can) (k := k) (f := nF P + j)) (by rw [hc]; decide)
        omega
      rw [ih (by omega), this, Nat.add_zero]
  have e8 : ∀ k, k < L → smN (tlG can k) 8 = smN (tlG can k) (nF P) := by
    intro k hk
    have := hi8 k hk (8 - nF P) (by omega)
    rw [show nF P + (8 - nF P) = 8 by omega] at this
    exact this
  have key : ∀ k, k ≤ L → ∀ M' x4, QT M M' → x4 = (if k = 0 then 1 else ((smN (tlG can (k - 1)) 8 : Nat) : Int)) → (1 ≤ k → ∀ f, f < nF P → M' 18 f = ((tlG can (k - 1) f : Nat) : Int)) → W12_tellersBy_6 (d + 3) n Φ (t : Nat) pl fa x4 (k : Nat) M' := by
    refine up (fun M' x4 hq hx h18 => ?_) (fun k hk ih M' x4 hq hx h18 => ?_)
    · apply v12_tellersBy_6
      simp only [Int.toNat_natCast]
      rw [hq 21 (by omega) (by omega) (by omega) (by omega), hz]
      rw [if_neg (by omega)] at hx
      rw [hx]
      exact ⟨by omega, fun _ => q M' hq, fun c => absurd (Int.le_refl _) c⟩
    · apply v12_tellersBy_6
      have ei : w32 (w32 (40 * (t : Int)) + (k : Int)) = ((40 * t + k : Nat) : Int) := by
        rw [w32_id (x := 40 * (t : Int)) (by omega) (by omega), w32_id (by omega) (by omega)]; omega
      have hrk := hr k hk
      rw [ei]
      simp only [Int.toNat_natCast]
      rw [hq 21 (by omega) (by omega) (by omega) (by omega), hz, hq 22 (by omega) (by omega) (by omega) (by omega), hh k hk, w32_id (x := h k) (by omega) (by omega)]
      refine ⟨by omega, fun c => absurd c (by omega), fun _ => ⟨by omega, ?_⟩⟩
      have k3 : ∀ f, f ≤ nF P → ∀ M2, QT M M2 → (∀ g, g < nF P → M2 19 g = ((tlG can k g : Nat) : Int)) → (∀ g, g < f → M2 18 g = ((tlG can k g : Nat) : Int)) → W12_tellersBy_140 (d + 3) n Φ (t : Nat) pl fa (k : Nat) ((smN (tlG can k) 8 : Nat) : Int) (f : Nat) M2 := by
        refine up (fun M2 hq2 h19 h18' => ?_) (fun f hf ih2 M2 hq2 h19 h18' => ?_)
        · apply v12_tellersBy_140
          rw [hq2 2 (by omega) (by omega) (by omega) (by omega), hP, eF, w32_s (by omega)]
          exact ⟨fun _ => ih M2 _ hq2 (by rw [if_neg (by omega), show k + 1 - 1 = k by omega]) (fun _ => by rw [show k + 1 - 1 = k by omega]; exact h18'), fun c => absurd (Int.le_refl _) c⟩
        · apply v12_tellersBy_140
          rw [hq2 2 (by omega) (by omega) (by omega) (by omega), hP, eF, w32_s (k := f) (by omega), Int.toNat_natCast]
          refine ⟨fun c => absurd c (by omega), fun _ => ⟨by omega, ⟨by omega, by omega, trivial⟩, ih2 _ (fun a h6 h7 h18 h19 => by rw [sI_row h18, hq2 a h6 h7 h18 h19]) (fun g hg => by rw [sI_row (by omega), h19 g hg]) (fun g hg => ?_)⟩⟩
          rw [sI_if]
          by_cases c : g = f
          · rw [if_pos c, c, h19 f hf]
          · rw [if_neg c]; exact h18' g (by omega)
      have k2 : ∀ f, f ≤ nF P → ∀ M2, QT M M2 → M2 18 = M' 18 → (∀ g, g < f → M2 19 g = ((tlG can k g : Nat) : Int)) → W12_tellersBy_38 (d + 3) n Φ (t : Nat) pl fa x4 (k : Nat) (h k) ((smN (tlG can k) f : Nat) : Int) (f : Nat) M2 := by
        refine up (fun M2 hq2 e18 h19 => ?_) (fun f hf ih2 M2 hq2 e18 h19 => ?_)
        · apply v12_tellersBy_38
          rw [hq2 2 (by omega) (by omega) (by omega) (by omega), hP, eF, ← e8 k hk]
          exact ⟨fun _ => k3 0 (Nat.zero_le _) M2 hq2 h19 (fun g hg => absurd hg (Nat.not_lt_zero g)), fun c => absurd (Int.le_refl _) c⟩
        · apply v12_tellersBy_38
          have hl1 := tlG_le can k f
          have hl2 := smN_le (f := tlG can k) (B := 8 ^ k) f (fun g _ => tlG_le can k g)
          have hp := p8 k (by omega)
          have hl3 : f * 8 ^ k ≤ 8 * 8 ^ k := Nat.mul_le_mul_right _ (by omega)
          have es : smN (tlG can k) (f + 1) = smN (tlG can k) f + tlG can k f := rfl
          rw [hq2 2 (by omega) (by omega) (by omega) (by omega), hP, eF, w32_s (k := f) (by omega)]
          simp only [Int.toNat_natCast]
          refine ⟨fun c => absurd c (by omega), fun _ => ?_⟩
          rw [show h k = (((h k).toNat : Nat) : Int) by omega]
          refine sp_mayTell f (h k).toNat ((hq2 2 (by omega) (by omega) (by omega) (by omega)).trans hP) ok (by omega) (by omega) (fun M3 h3 => ?_)
          rw [show (((h k).toNat : Nat) : Int) = h k by omega]
          have hq3 : QT M M3 := fun a h6 h7 h18 h19 => by rw [h3 a h6 h7, hq2 a h6 h7 h18 h19]
          have e18' : M3 18 = M' 18 := by rw [h3 18 (by omega) (by omega), e18]
          have h19' : ∀ g, g < f → M3 19 g = ((tlG can k g : Nat) : Int) := fun g hg => by rw [h3 19 (by omega) (by omega)]; exact h19 g hg
          have ec := hcan k f hk (by omega)
          unfold mayB at ec
          rw [decide_eq_true hf, Bool.true_and] at ec
          have put : ∀ v : Int, v = ((tlG can k f : Nat) : Int) → (0 ≤ (f : Int) ∧ (f : Int) < ((8 : Nat) : Int) ∧ True) ∧ ((0 ≤ (f : Int) ∧ (f : Int) < ((8 : Nat) : Int)) ∧ (W12_tellersBy_38 (d + 3) n Φ (t : Nat) pl fa x4 (k : Nat) (h k) (w64 (((smN (tlG can k) f : Nat) : Int) + ((sI M3 19 f v) 19 f))) ((f + 1 : Nat) : Int) (sI M3 19 f v))) := by
            intro v hv
            refine ⟨⟨by omega, by omega, trivial⟩, by omega, ?_⟩
            rw [sI_same, hv, w64_id (by omega) (by omega)]
            have ih3 := ih2 (sI M3 19 f ((tlG can k f : Nat) : Int)) (fun a h6 h7 h18 h19 => by rw [sI_row h19, hq3 a h6 h7 h18 h19]) (by rw [sI_row (by omega), e18']) (fun g hg => by
              rw [sI_if]
              by_cases c : g = f
              · rw [if_pos c, c]
              · rw [if_neg c]; exact h19' g (by omega))
            rw [es] at ih3
            exact ih3
          have z : can k f = false → tlG can k f = 0 := by
            intro e
            have := mt (tl_can (can := can) (k := k) (f := f)) (by rw [e]; decide)
            omega
          have vy : can k f = true → (¬ ((k : Int) ≠ 0) → (1 : Int) = ((tlG can k f : Nat) : Int)) ∧ ((k : Int) ≠ 0 → w64 (x4 - M3 18 f) = ((tlG can k f : Nat) : Int)) := by
            intro e
            refine ⟨fun c => ?_, fun c => ?_⟩
            · have k0 : k = 0 := by omega
              subst k0
              show (1 : Int) = ((if can 0 f = true then 1 else 0 : Nat) : Int)
              rw [if_pos e]; rfl
            · rw [e18', h18 (by omega) f hf, hx, if_neg (by omega)]
              have l1 := smN_one (f := tlG can (k - 1)) (c := f) 8 (by omega)
              have l2 := smN_le (f := tlG can (k - 1)) (B := 8 ^ (k - 1)) 8 (fun g _ => tlG_le can (k - 1) g)
              have l3 := p8 (k - 1) (by omega)
              have e4 : tlG can k f = smN (tlG can (k - 1)) 8 - tlG can (k - 1) f := by
                have e5 : k = (k - 1) + 1 := by omega
                rw [e5]
                show (if can (k - 1 + 1) f = true then smN (tlG can (k - 1)) 8 - tlG can (k - 1) f else 0) = _
                rw [← e5, if_pos e]
              rw [e4, w64_id (by omega) (by omega)]
              omega
          have yes : can k f = true → ((k : Int) ≠ 0 → (0 ≤ (f : Int) ∧ (f : Int) < ((8 : Nat) : Int)) ∧ ((0 ≤ (f : Int) ∧ (f : Int) < ((8 : Nat) : Int) ∧ True) ∧ ((0 ≤ (f : Int) ∧ (f : Int) < ((8 : Nat) : Int)) ∧ (W12_tellersBy_38 (d + 3) n Φ (t : Nat) pl fa x4 (k : Nat) (h k) (w64 (((smN (tlG can k) f : Nat) : Int) + ((sI M3 19 f (w64 (x4 - M3 18 f))) 19 f))) ((f + 1 : Nat) : Int) (sI M3 19 f (w64 (x4 - M3 18 f))))))) ∧ (¬ ((k : Int) ≠ 0) → (0 ≤ (f : Int) ∧ (f : Int) < ((8 : Nat) : Int) ∧ True) ∧ ((0 ≤ (f : Int) ∧ (f : Int) < ((8 : Nat) : Int)) ∧ (W12_tellersBy_38 (d + 3) n Φ (t : Nat) pl fa x4 (k : Nat) (h k) (w64 (((smN (tlG can k) f : Nat) : Int) + ((sI M3 19 f 1) 19 f))) ((f + 1 : Nat) : Int) (sI M3 19 f 1)))) := by
            intro e
            exact ⟨fun c => ⟨by omega, put _ ((vy e).2 c)⟩, fun c => put _ ((vy e).1 c)⟩
          refine br (fun e => put 0 ?_) (fun e => ⟨fun c1 => yes ?_, fun c1 => ⟨fun c2 => yes ?_, fun c2 => ⟨fun c3 => put 0 ?_, fun c3 => yes ?_⟩⟩⟩)
          · rw [e, Bool.false_and] at ec
            rw [z ec]; rfl
          · rw [ec, e, decide_eq_true (Or.inl c1)]; rfl
          · rw [ec, e, decide_eq_true (Or.inr (Or.inl c2))]; rfl
          · rw [e, Bool.true_and, decide_eq_false (show ¬ ((k : Int) ≠ pl ∨ fa = -1 ∨ (f : Int) = fa) by omega)] at ec
            rw [z ec]; rfl
          · rw [ec, e, decide_eq_true (show (k : Int) ≠ pl ∨ fa = -1 ∨ (f : Int) = fa by omega)]; rfl
      exact k2 0 (Nat.zero_le _) M' hq rfl (fun g hg => absurd hg (Nat.not_lt_zero g))
  exact e12_tellersBy (key 0 (Nat.zero_le _) M 1 (fun _ _ _ _ _ => rfl) (if_pos rfl).symm (fun h => absurd h (by omega)))
theorem noR_bits {P S Z U : Nat → Int} {t : Int} (h : noR P S Z U t true = 0) : ((0 ≤ t ∧ t ≤ 3) ∧ S t.toNat ≠ -1) ∧ (1 ≤ Z t.toNat ∧ Z t.toNat ≤ 12) ∧ ∀ k, k < (Z t.toNat).toNat → 0 ≤ nmT U t k ∧ nmT U t k < P 3 := by
  obtain ⟨h1, h2, h3⟩ := noR_0 h
  refine ⟨h1, h2, fun k hk => ?_⟩
  have := h3 k hk
  unfold badT at this
  rw [if_pos rfl, decide_eq_false_iff_not] at this
  omega
theorem r_tellers (t : Int) (hP : M 2 = P) (ok : okP P) (hZ : ∀ i, i < 4 → M 20 i ≠ -1 → 0 ≤ M 21 i ∧ M 21 i ≤ 40) (q : ∀ M', KR M M' → M' 2 = P → Φ (zTellers P (M 20) (M 21) (M 22) t) M') : CR (d + 5) 299 [(2, 1), (0, t)] M n Φ := by
  have h0 : KR M (sI M 1 0 0) := KR.one (by omega)
  have m0 : (sI M 1 0 0) 2 = P := (sI_row (by omega)).trans hP
  have r20 : (sI M 1 0 0) 20 = M 20 := sI_row (by omega)
  have r21 : (sI M 1 0 0) 21 = M 21 := sI_row (by omega)
  have r22 : (sI M 1 0 0) 22 = M 22 := sI_row (by omega)
  unfold zTellers at q
  refine e12_tellers (sp_noRow t true m0 ok (by rw [r20, r21]; exact hZ) ?_)
  rw [r20, r21, r22]
  refine ⟨fun c => ?_, fun c => ?_⟩
  · rw [if_pos c] at q
    obtain ⟨c1, c2, c3⟩ := noR_bits c
    rw [show t = (t.toNat : Int) by omega]
    refine sp_tellersBy t.toNat (M 21 t.toNat).toNat (-1) (-1) (nmT (M 22) t) (can0 P (nmT (M 22) t)) m0 ok (by omega) (by omega) (by omega) (by rw [r21]; omega) (fun k hk => by rw [r22]; rfl) c3 (fun k f _ _ => ?_) (fun M' h1 => ?_)
    · unfold can0
      rw [decide_eq_true (Or.inl (show (k : Int) ≠ -1 by omega)), Bool.and_true]
    · exact q M' (h0.trans (KR.ofT h1)) ((h1 2 (by omega) (by omega) (by omega) (by omega)).trans m0)
  · rw [if_neg c] at q
    exact q _ h0 m0
theorem r_teller (t p : Int) (hP : M 2 = P) (ok : okP P) (hZ : ∀ i, i < 4 → M 20 i ≠ -1 → 0 ≤ M 21 i ∧ M 21 i ≤ 40) (q : ∀ M', KR M M' → M' 2 = P → Φ (zTeller P (M 20) (M 21) (M 22) t p) M') : CR (d + 5) 300 [(2, 1), (0, t), (0, p)] M n Φ := by
  obtain ⟨eF, hF1, hF2⟩ := ok.nFe
  have h0 : KR M (sI M 1 0 0) := KR.one (by omega)
  have m0 : (sI M 1 0 0) 2 = P := (sI_row (by omega)).trans hP
  have r20 : (sI M 1 0 0) 20 = M 20 := sI_row (by omega)
  have r21 : (sI M 1 0 0) 21 = M 21 := sI_row (by omega)
  have r22 : (sI M 1 0 0) 22 = M 22 := sI_row (by omega)
  unfold zTeller at q
  refine e12_teller (sp_noRow t true m0 ok (by rw [r20, r21]; exact hZ) ?_)
  rw [r20, r21, r22]
  refine ⟨fun c => ?_, fun c => ?_⟩
  · rw [if_pos c] at q
    obtain ⟨c1, c2, c3⟩ := noR_bits c
    rw [w32_id (by omega) (by omega)]
    refine ⟨by omega, sp_within p 0 _ (br' (fun e => ?_) (fun e => ?_))⟩
    · have e := of_decide_eq_true e
      rw [if_pos (by omega)] at q
      rw [show t = (t.toNat : Int) by omega, show p = (p.toNat : Int) by omega]
      have key : ∀ f, f ≤ nF P → ∀ M', QT (sI M 1 0 0) M' → W12_teller_45 (d + 4) n Φ (t.toNat : Nat) (p.toNat : Nat) (msk (telT P (nmT (M 22) t) (M 21 t.toNat).toNat p.toNat) f : Nat) (f : Nat) M' := by
        refine up (fun M' h1 => ?_) (fun f hf ih M' h1 => ?_)
        · apply v12_teller_45
          have m2 : M' 2 = P := (h1 2 (by omega) (by omega) (by omega) (by omega)).trans m0
          rw [m2, eF]
          exact ⟨fun _ => q M' (h0.trans (KR.ofT h1)) m2, fun c => absurd (Int.le_refl _) c⟩
        · apply v12_teller_45
          have m2 : M' 2 = P := (h1 2 (by omega) (by omega) (by omega) (by omega)).trans m0
          rw [m2, eF, w32_s (by omega)]
          refine ⟨fun c => absurd c (by omega), fun _ => sp_tellersBy t.toNat (M 21 t.toNat).toNat p.toNat f (nmT (M 22) t) (canP P (nmT (M 22) t) p.toNat f) m2 ok (by omega) (by omega) (by omega) (by rw [h1 21 (by omega) (by omega) (by omega) (by omega), r21]; omega) (fun k hk => by rw [h1 22 (by omega) (by omega) (by omega) (by omega), r22]; rfl) c3 (fun k g _ _ => ?_) (fun M2 h2 => ?_)⟩
          · unfold canP can0
            rw [decide_eq_decide.mpr (show (k ≠ p.toNat ∨ g = f) ↔ ((k : Int) ≠ (p.toNat : Int) ∨ (f : Int) = -1 ∨ (g : Int) = (f : Int)) by omega)]
          · have hq2 : QT (sI M 1 0 0) M2 := fun a h6 h7 h18 h19 => by rw [h2 a h6 h7 h18 h19, h1 a h6 h7 h18 h19]
            rw [cmp_le0]
            have et : smN (tlG (canP P (nmT (M 22) t) p.toNat f) ((M 21 t.toNat).toNat - 1)) 8 = telP P (nmT (M 22) t) (M 21 t.toNat).toNat p.toNat f := rfl
            rw [et]
            refine ⟨fun c5 => ?_, fun c5 => ?_⟩
            · rw [or_z (telT P (nmT (M 22) t) (M 21 t.toNat).toNat p.toNat) (by omega) (by unfold telT; rw [decide_eq_false_iff_not]; omega)]
              exact ih M2 hq2
            · rw [or_s (telT P (nmT (M 22) t) (M 21 t.toNat).toNat p.toNat) (by omega) (by unfold telT; rw [decide_eq_true_eq]; omega)]
              exact ih M2 hq2
      exact key 0 (Nat.zero_le _) _ (fun _ _ _ _ _ => rfl)
    · have e := of_decide_eq_false e
      rw [if_neg (by omega)] at q
      exact q _ h0 m0
  · rw [if_neg c] at q
    exact q _ h0 m0
end
