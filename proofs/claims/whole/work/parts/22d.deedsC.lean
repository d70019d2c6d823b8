/-! ===== deeds: the class ===== -/
theorem relL.congrP {M : Nat → Nat → Int} {a : Nat} {P P' : Nat → Int} (h : ∀ j, j < 65 ∨ 363 ≤ j → P' j = P j) (ok : P 3 ≤ 12) (r : relL M a P) : relL M a P' := by
  have eB : nB P' = nB P := by unfold nB; rw [h 3 (by omega)]
  have em : mustN P' = mustN P := by
    unfold mustN
    rw [eB]
    refine msk_ext _ (fun k hk => ?_)
    have : nB P ≤ 12 := by unfold nB; omega
    rw [h (37 + k) (by omega)]
  obtain ⟨⟨r1, r2, r3, r4, r5, r6⟩, r7, r8, r9, r10⟩ := r
  refine ⟨⟨?_, ?_, ?_, ?_, ?_, ?_⟩, ?_, ?_, ?_, ?_⟩
  · rw [h 1 (by omega)]; exact r1
  · rw [h 2 (by omega)]; exact r2
  · rw [h 3 (by omega)]; exact r3
  · rw [em]; exact r4
  · rw [h 0 (by omega)]; exact r5
  · rw [h 363 (by omega)]; exact r6
  · intro b hb
    rw [h 3 (by omega)] at hb
    rw [h (13 + b) (by omega), h (25 + b) (by omega)]
    exact r7 b hb
  · intro f hf
    rw [h (49 + f) (by omega), h (57 + f) (by omega)]
    exact r8 f hf
  · intro l hl
    rw [h (4 + l) (by omega), h (7 + l) (by omega), h (10 + l) (by omega)]
    exact r9 l hl
  · intro k hk
    rw [h 363 (by omega)] at hk
    rw [h (364 + k) (by omega)]
    exact r10 k hk
theorem relW.mk' {M : Nat → Nat → Int} {P : Nat → Int} (hL : relL M 29 P) (h4 : M 38 4 = P 65) (h5 : M 38 5 = P 66) (h3 : M 38 3 = P 67) (h39 : ∀ f, f < 8 → M 39 f = P (68 + f)) (h40 : ∀ f, f < 8 → M 40 f = P (76 + f)) (h41 : ∀ f, f < 8 → M 41 f = P (84 + f)) : relW M P := by
  refine ⟨hL, ⟨h4, h5, h3⟩, fun f hf => ⟨?_, ?_, ?_⟩⟩
  · have := h39 f hf
    rw [show 68 + f = 65 + (3 + f) by omega] at this
    exact this
  · have := h40 f hf
    rw [show 76 + f = 65 + (11 + f) by omega] at this
    exact this
  · have := h41 f hf
    rw [show 84 + f = 65 + (19 + f) by omega] at this
    exact this
theorem relW.stL {M M' : Nat → Nat → Int} {P P' : Nat → Int} (r : relW M P) (ok : okP P) (h : ∀ b, 29 ≤ b → b ≤ 37 → M' b = M b) (hp : ∀ j, j < 65 ∨ 363 ≤ j → P' j = P j) : relL M' 29 P' := (r.1.congrP hp ok.B.2).congr (fun b h1 h2 => h b h1 (by omega))
theorem relW.at_set {M : Nat → Nat → Int} {P : Nat → Int} {f : Nat} {x : Int} (r : relW M P) (ok : okP P) (hf : f < 8) : relW (sI M 39 f x) (pset P (68 + f) x) := by
  refine relW.mk' (r.stL ok (fun b h1 h2 => sI_row (by omega)) (fun j hj => pset_ne (by omega))) ?_ ?_ ?_ (fun g hg => ?_) (fun g hg => ?_) (fun g hg => ?_)
  · rw [sI_row (by omega), pset_ne (by omega)]; exact r.turn
  · rw [sI_row (by omega), pset_ne (by omega)]; exact r.told
  · rw [sI_row (by omega), pset_ne (by omega)]; exact r.cut
  · rw [sI_if]
    by_cases c : g = f
    · rw [if_pos c, c, pset_eq]
    · rw [if_neg c, pset_ne (by omega)]; exact r.at hg
  · rw [sI_row (by omega), pset_ne (by omega)]; exact r.doubt hg
  · rw [sI_row (by omega), pset_ne (by omega)]; exact r.mood hg
theorem relW.doubt_set {M : Nat → Nat → Int} {P : Nat → Int} {f : Nat} {x : Int} (r : relW M P) (ok : okP P) (hf : f < 8) : relW (sI M 40 f x) (pset P (76 + f) x) := by
  refine relW.mk' (r.stL ok (fun b h1 h2 => sI_row (by omega)) (fun j hj => pset_ne (by omega))) ?_ ?_ ?_ (fun g hg => ?_) (fun g hg => ?_) (fun g hg => ?_)
  · rw [sI_row (by omega), pset_ne (by omega)]; exact r.turn
  · rw [sI_row (by omega), pset_ne (by omega)]; exact r.told
  · rw [sI_row (by omega), pset_ne (by omega)]; exact r.cut
  · rw [sI_row (by omega), pset_ne (by omega)]; exact r.at hg
  · rw [sI_if]
    by_cases c : g = f
    · rw [if_pos c, c, pset_eq]
    · rw [if_neg c, pset_ne (by omega)]; exact r.doubt hg
  · rw [sI_row (by omega), pset_ne (by omega)]; exact r.mood hg
theorem relW.mood_set {M : Nat → Nat → Int} {P : Nat → Int} {f : Nat} {x : Int} (r : relW M P) (ok : okP P) (hf : f < 8) : relW (sI M 41 f x) (pset P (84 + f) x) := by
  refine relW.mk' (r.stL ok (fun b h1 h2 => sI_row (by omega)) (fun j hj => pset_ne (by omega))) ?_ ?_ ?_ (fun g hg => ?_) (fun g hg => ?_) (fun g hg => ?_)
  · rw [sI_row (by omega), pset_ne (by omega)]; exact r.turn
  · rw [sI_row (by omega), pset_ne (by omega)]; exact r.told
  · rw [sI_row (by omega), pset_ne (by omega)]; exact r.cut
  · rw [sI_row (by omega), pset_ne (by omega)]; exact r.at hg
  · rw [sI_row (by omega), pset_ne (by omega)]; exact r.doubt hg
  · rw [sI_if]
    by_cases c : g = f
    · rw [if_pos c, c, pset_eq]
    · rw [if_neg c, pset_ne (by omega)]; exact r.mood hg
theorem relW.f_set {M : Nat → Nat → Int} {P : Nat → Int} {k j : Nat} {x : Int} (r : relW M P) (ok : okP P) (h : (k = 4 ∧ j = 65) ∨ (k = 5 ∧ j = 66) ∨ (k = 3 ∧ j = 67)) : relW (sI M 38 k x) (pset P j x) := by
  refine relW.mk' (r.stL ok (fun b h1 h2 => sI_row (by omega)) (fun i hi => pset_ne (by omega))) ?_ ?_ ?_ (fun g hg => ?_) (fun g hg => ?_) (fun g hg => ?_)
  · rw [sI_if]
    by_cases c : 4 = k
    · rw [if_pos c, show j = 65 by omega, pset_eq]
    · rw [if_neg c, pset_ne (by omega)]; exact r.turn
  · rw [sI_if]
    by_cases c : 5 = k
    · rw [if_pos c, show j = 66 by omega, pset_eq]
    · rw [if_neg c, pset_ne (by omega)]; exact r.told
  · rw [sI_if]
    by_cases c : 3 = k
    · rw [if_pos c, show j = 67 by omega, pset_eq]
    · rw [if_neg c, pset_ne (by omega)]; exact r.cut
  · rw [sI_row (by omega), pset_ne (by omega)]; exact r.at hg
  · rw [sI_row (by omega), pset_ne (by omega)]; exact r.doubt hg
  · rw [sI_row (by omega), pset_ne (by omega)]; exact r.mood hg
theorem relW.ext {M : Nat → Nat → Int} {P P' : Nat → Int} (r : relW M P) (h : P' = P) : relW M P' := by
  rw [h]; exact r
/-- state and reckoning change -/
def QS (M M' : Nat → Nat → Int) : Prop := ∀ a, (a < 38 ∨ 43 < a) → M' a = M a
theorem QS.refl (M : Nat → Nat → Int) : QS M M := fun _ _ => rfl
theorem QS.trans {M M' N : Nat → Nat → Int} (h : QS M M') (h2 : QS M' N) : QS M N := fun a ha => (h2 a ha).trans (h a ha)
theorem QS.of43 {M M' : Nat → Nat → Int} (h : Q43 M M') : QS M M' := fun a ha => h a (by omega) (by omega)
theorem QS.set {M : Nat → Nat → Int} {a k : Nat} {x : Int} (h : 38 ≤ a ∧ a ≤ 43) : QS M (sI M a k x) := fun b hb => sI_row (by omega)
section
variable {d : Nat} {n : Nat × Nat} {Φ : Int → (Nat → Nat → Int) → Prop} {Ψ : Int → cQ → (Nat → Nat → Int) → Nat × Nat → Prop} {M : Nat → Nat → Int} {w : cQ} {P : Nat → Int}
theorem c_isFarm (v : Int) (r : relW M P) (q : Φ (b2i (decide (0 ≤ v ∧ v < P 1))) M) : CF (d + 1) 91 [(2, 4), (0, v)] w M n Φ := by
  apply e10_isFarm
  rw [r.F]
  refine ⟨fun h => ?_, fun h => ⟨fun h2 => ?_, fun h2 => ?_⟩⟩
  · rw [decide_eq_false (by omega)] at q; exact q
  · rw [decide_eq_false (by omega)] at q; exact q
  · rw [decide_eq_true (by omega)] at q; exact q
theorem c_isMoment (v : Int) (r : relW M P) (q : Φ (b2i (decide (0 ≤ v ∧ v < P 2))) M) : CF (d + 1) 92 [(2, 4), (0, v)] w M n Φ := by
  apply e10_isMoment
  rw [r.Mo]
  refine ⟨fun h => ?_, fun h => ⟨fun h2 => ?_, fun h2 => ?_⟩⟩
  · rw [decide_eq_false (by omega)] at q; exact q
  · rw [decide_eq_false (by omega)] at q; exact q
  · rw [decide_eq_true (by omega)] at q; exact q
theorem c_isBit (v : Int) (r : relW M P) (q : Φ (b2i (decide (0 ≤ v ∧ v < P 3))) M) : CF (d + 1) 93 [(2, 4), (0, v)] w M n Φ := by
  apply e10_isBit
  rw [r.B]
  refine ⟨fun h => ?_, fun h => ⟨fun h2 => ?_, fun h2 => ?_⟩⟩
  · rw [decide_eq_false (by omega)] at q; exact q
  · rw [decide_eq_false (by omega)] at q; exact q
  · rw [decide_eq_true (by omega)] at q; exact q
theorem c_isWire (v : Int) (r : relW M P) (ok : okP P) (q : Φ (b2i (decide (0 ≤ v ∧ v < P 1 - 1))) M) : CF (d + 1) 94 [(2, 4), (0, v)] w M n Φ := by
  have hF := ok.F
  apply e10_isWire
  rw [r.F, w32_id (by omega) (by omega)]
  refine ⟨fun h => ?_, fun h => ⟨fun h2 => ?_, fun h2 => ?_⟩⟩
  · rw [decide_eq_false (by omega)] at q; exact q
  · rw [decide_eq_false (by omega)] at q; exact q
  · rw [decide_eq_true (by omega)] at q; exact q
theorem c_isTray (v : Int) (q : Φ (b2i (decide (0 ≤ v ∧ v ≤ 3))) M) : CF (d + 1) 178 [(0, v)] w M n Φ := by
  apply e11_isTray
  refine ⟨fun h => ?_, fun h => ⟨fun h2 => ?_, fun h2 => ?_⟩⟩
  · rw [decide_eq_false (by omega)] at q; exact q
  · rw [decide_eq_false (by omega)] at q; exact q
  · rw [decide_eq_true (by omega)] at q; exact q
theorem sp_say (f b : Nat) (r : relW M P) (ok : okP P) (hf : f < 8) (hb : (b : Int) < P 3) (q : ∀ M', QS M M' → relW M' (tellP P f b) → Φ (popc 12 (hearersS P f) : Nat) M') : CF (d + 4) 110 [(2, 4), (0, (f : Int)), (0, (b : Int))] w M n Φ := by
  obtain ⟨eF, hF1, hF2⟩ := ok.nFe
  have hB := ok.B
  have ec : popc 12 (hearersS P f) = cntB (fun g => hrs P g f) (nF P) := popc_msk _ (by omega)
  rw [ec] at q
  have key : ∀ k, k ≤ nF P → ∀ M', QS M M' → relW M' (tellK P f b k) → W10_say_5 (d + 3) Φ f b (cntB (fun g => hrs P g f) k : Nat) (k : Nat) w M' n := by
    refine up (fun M' hM' r' => ?_) (fun k hk ih M' hM' r' => ?_)
    · apply v10_say_5
      have m31 : M' 31 b = P (25 + b) := by rw [r'.to (by rw [tellK_o (by omega) (by omega)]; exact hb), tellK_o (by omega) (by omega)]
      have m5 : M' 38 5 = P 66 := by rw [r'.told, tellK_o (by omega) (by omega)]
      rw [r'.F, tellK_o hF2 (by omega), eF]
      simp only [Int.toNat_natCast, m31]
      refine ⟨fun _ => ⟨by omega, ⟨by omega, by omega, trivial⟩, q _ (hM'.trans ((QS.set (by omega)).trans (QS.set (by omega)))) ?_⟩, fun c => absurd (Int.le_refl _) c⟩
      rw [sI_row (a := 39) (b := 38) (by omega), m5]
      refine (r'.at_set (tellK_ok ok hb hF2) hf).f_set ?_ (Or.inr (Or.inl ⟨rfl, rfl⟩))
      refine (tellK_ok ok hb hF2).st' (fun j hj => pset_ne (by omega)) ?_ ?_ (fun g hg => ?_) (fun g hg => ?_)
      · rw [pset_ne (by omega)]; exact (tellK_ok ok hb hF2).turn
      · rw [pset_ne (by omega)]; exact (tellK_ok ok hb hF2).cut
      · by_cases c : g = f
        · rw [c, pset_eq, tellK_o hF2 (by omega)]; exact (ok.bit hb).2.1
        · rw [pset_ne (by omega)]; exact (tellK_ok ok hb hF2).at hg
      · rw [pset_ne (by omega)]; exact (tellK_ok ok hb hF2).mood hg
    · apply v10_say_5
      have okk := tellK_ok ok hb (f := f) (k := k) (by omega)
      have hk8 : k < 8 := by omega
      rw [r'.F, tellK_o (by omega) (by omega), eF, w32_s (k := k) (by omega)]
      refine ⟨fun c => absurd c (by omega), fun _ => sp_hearsFrom k f r' okk hk8 hf (fun M2 h2 => ?_)⟩
      have r2 := r'.q h2
      have hM2 := hM'.trans (QS.of43 h2)
      have e3 := cntB_le (fun g => hrs P g f) k
      rw [(tellK_ag (P := P) (f := f) (b := b) (k := k) (by omega)).hr hk8]
      refine br (fun e => ?_) (fun e => ?_)
      · have e4 : cntB (fun g => hrs P g f) (k + 1) = cntB (fun g => hrs P g f) k := by
          show cntB (fun g => hrs P g f) k + (if hrs P k f then 1 else 0) = _
          rw [e]; rfl
        rw [e4] at ih
        exact ih M2 hM2 (r2.ext (tellK_no e))
      · have e4 : cntB (fun g => hrs P g f) (k + 1) = cntB (fun g => hrs P g f) k + 1 := by
          show cntB (fun g => hrs P g f) k + (if hrs P k f then 1 else 0) = _
          rw [e]; rfl
        rw [e4] at ih
        have m39 : M2 39 k = P (68 + k) := by rw [r2.at hk8, tellK_at hk8]
        have m40 : M2 40 k = P (76 + k) := by rw [r2.doubt hk8, tellK_db hk8]
        have m30 : M2 30 b = P (13 + b) := by rw [r2.from (by rw [tellK_o (by omega) (by omega)]; exact hb), tellK_o (by omega) (by omega)]
        have m31 : M2 31 b = P (25 + b) := by rw [r2.to (by rw [tellK_o (by omega) (by omega)]; exact hb), tellK_o (by omega) (by omega)]
        simp only [Int.toNat_natCast, m39, m40, m30, m31]
        rw [w32_s (by omega)]
        refine ⟨by omega, by omega, fun c => ⟨by omega, ⟨by omega, by omega, trivial⟩, ?_⟩, fun c => ⟨by omega, ⟨by omega, by omega, trivial⟩, by omega, ⟨by omega, by omega, trivial⟩, ?_⟩⟩
        · exact ih _ (hM2.trans (QS.set (by omega))) ((r2.at_set okk hk8).ext (tellK_yes hk8 e c).symm)
        · rw [sI_row (a := 40) (b := 31) (by omega), m31]
          refine ih _ (hM2.trans ((QS.set (by omega)).trans (QS.set (by omega)))) (((r2.doubt_set okk hk8).at_set ?_ hk8).ext (tellK_dbt hk8 e c).symm)
          refine okk.st' (fun j hj => pset_ne (by omega)) ?_ ?_ (fun g hg => ?_) (fun g hg => ?_)
          · rw [pset_ne (by omega)]; exact okk.turn
          · rw [pset_ne (by omega)]; exact okk.cut
          · rw [pset_ne (by omega)]; exact okk.at hg
          · rw [pset_ne (by omega)]; exact okk.mood hg
  exact e10_say (key 0 (Nat.zero_le _) M (QS.refl M) (r.ext (tellK_0 P f b)))
theorem sp_nextFarm (r : relW M P) (ok : okP P) (q : Φ (nxt P) M) : CF (d + 1) 108 [(2, 4), (0, P 65)] w M n Φ := by
  have h1 := ok.turn
  have h2 := ok.F
  apply e10_nextFarm
  rw [r.F, w32_id (by omega) (by omega)]
  unfold nxt at q
  refine ⟨fun c => ?_, fun c => ?_⟩
  · rw [if_neg (by omega)] at q; exact q
  · rw [if_pos (by omega)] at q; exact q
theorem sp_firstBit (f : Nat) (r : relW M P) (ok : okP P) (hf : f < 8) (q : ∀ M', Q43 M M' → Φ (if fstB (canT P f) (nB P) < nB P then ((fstB (canT P f) (nB P) : Nat) : Int) else -1) M') : CF (d + 4) 109 [(2, 4), (0, (f : Int))] w M n Φ := by
  obtain ⟨eB, hB⟩ := ok.nBe
  obtain ⟨f1, f2, f3⟩ := fstB_all (canT P f) (nB P)
  generalize hN : fstB (canT P f) (nB P) = N at q f1 f2 f3
  have key : ∀ k, k ≤ N → ∀ M', Q43 M M' → W10_firstBit_2 (d + 3) Φ f (k : Nat) w M' n := by
    refine up (fun M' hM' => ?_) (fun k hk ih M' hM' => ?_)
    · have r' := r.q hM'
      apply v10_firstBit_2
      rw [r'.B, eB]
      refine ⟨fun c => ?_, fun c => ?_⟩
      · rw [if_neg (by omega)] at q; exact q M' hM'
      · have hlt : N < nB P := by omega
        rw [if_pos hlt] at q
        have hc := f2 hlt
        unfold canT at hc
        rw [Bool.and_eq_true, decide_eq_true_eq] at hc
        simp only [Int.toNat_natCast, r'.from (b := N) (by omega), r'.at hf]
        refine ⟨by omega, by omega, fun c => absurd hc.1 c, fun _ => sp_allows f N r' ok hf (by omega) (fun M2 h2 => ?_)⟩
        rw [hc.2]
        exact br (fun e => by cases e) (fun _ => q M2 (hM'.trans h2))
    · have r' := r.q hM'
      apply v10_firstBit_2
      rw [r'.B, eB, w32_s (by omega)]
      have hc := f3 k hk
      unfold canT at hc
      simp only [Int.toNat_natCast, r'.from (b := k) (by omega), r'.at hf]
      refine ⟨fun c => absurd c (by omega), fun _ => ⟨by omega, by omega, fun c => ih M' hM', fun c => sp_allows f k r' ok hf (by omega) (fun M2 h2 => ?_)⟩⟩
      rw [decide_eq_true (Decidable.not_not.mp c), Bool.true_and] at hc
      rw [hc]
      exact br (fun _ => ih M2 (hM'.trans h2)) (fun e => by cases e)
  exact e10_firstBit (key 0 (Nat.zero_le _) M (Q43.refl M))
theorem c_whyNotTell (v u : Int) (r : relW M P) (ok : okP P) (q : ∀ M', Q43 M M' → Φ (whyT P v u) M') : CF (d + 4) 105 [(2, 4), (0, v), (0, u)] w M n Φ := by
  have hF := ok.F
  have hB := ok.B
  refine e10_whyNotTell (c_isFarm v r (br (fun e => ?_) (fun e => c_isBit u r (br' (fun e2 => ?_) (fun e2 => ?_)))))
  · have e := of_decide_eq_false e
    have q' := q M (Q43.refl M)
    unfold whyT at q'
    rw [if_neg (by omega)] at q'
    exact q'
  · have e := of_decide_eq_true e
    have e2 := of_decide_eq_true e2
    rw [r.at (f := v.toNat) (by omega), r.from (b := u.toNat) (by omega)]
    unfold whyT at q
    rw [if_pos ⟨e.1, e.2, e2.1, e2.2⟩] at q
    refine ⟨by omega, by omega, fun c => ?_, fun c => ?_⟩
    · rw [if_pos c] at q
      rw [show v = (v.toNat : Int) by omega, show u = (u.toNat : Int) by omega]
      refine sp_allows _ _ r ok (by omega) (by omega) (fun M' hM' => br (fun e4 => ?_) (fun e4 => ?_))
      · rw [if_neg (by rw [e4]; decide)] at q; exact q M' hM'
      · rw [if_pos e4] at q; exact q M' hM'
    · rw [if_neg c] at q; exact q M (Q43.refl M)
  · have e2 := of_decide_eq_false e2
    have q' := q M (Q43.refl M)
    unfold whyT at q'
    rw [if_neg (by omega)] at q'
    exact q'
theorem c_farmT (v : Int) (r : relW M P) (h : 2000 ≤ v) (h2 : v < 2100) (q : ∀ M', Q43 M M' → Φ (if (v - 2000) / 10 < P 1 then 0 else 1) M') : CF (d + 1) 91 [(2, 4), (0, m_div (w32 (w32 v - 2000)) 10)] w M n (fun r0 M1 => (r0 = 0 → Φ 1 M1) ∧ (¬ (r0 = 0) → Φ 0 M1)) := by
  have e1 := (mdiv_p (v := v - 2000) (b := 10) (by omega) (by omega) (by omega) (by omega)).1
  rw [w32_id (x := v) (by omega) (by omega), w32_id (x := v - 2000) (by omega) (by omega), show m_div (v - 2000) 10 = (v - 2000) / 10 from e1]
  refine c_isFarm _ r (br (fun e => ?_) (fun e => ?_))
  · have e := of_decide_eq_false e
    rw [if_neg (by omega)] at q; exact q M (Q43.refl M)
  · have e := of_decide_eq_true e
    rw [if_pos (by omega)] at q; exact q M (Q43.refl M)
theorem c_whyNot (v : Int) (r : relW M P) (ok : okP P) (q : ∀ M', Q43 M M' → Φ (whyN P v) M') : CF (d + 5) 106 [(2, 4), (1, v)] w M n Φ := by
  have hF := ok.F
  unfold whyN at q
  have q0 := q M (Q43.refl M)
  apply e10_whyNot
  rw [cmp_ne0, cmp_lt0, cmp_lt0, cmp_lt0, cmp_ge0, cmp_ge0, cmp_ge0]
  refine ⟨fun c => ⟨fun c1 => ⟨fun c2 => ⟨fun c3 => ?_, fun c3 => absurd c3 (by omega)⟩, fun c2 => absurd c2 (by omega)⟩, fun c1 => ⟨fun c2 => ⟨fun c3 => ⟨fun c4 => ?_, fun c4 => absurd c4 (by omega)⟩, fun c3 => ⟨fun c4 => ⟨fun c5 => ?_, fun c5 => ⟨fun c6 => ?_, fun c6 => ?_⟩⟩, fun c4 => c_isWire _ r ok ⟨fun _ => br (fun e => ?_) (fun e => ?_), fun c5 => absurd c5 (by omega)⟩⟩⟩, fun c2 => ?_⟩⟩, fun c => ⟨fun c1 => ⟨fun c2 => ⟨fun c3 => ?_, fun c3 => absurd c3 (by omega)⟩, fun c2 => absurd c2 (by omega)⟩, fun c1 => absurd c1 (by omega)⟩⟩
  · rw [if_neg c, if_neg (by omega), if_neg (by omega), if_neg (by omega)] at q0; exact q0
  · rw [if_neg c, if_neg (by omega), if_neg (by omega), if_neg (by omega)] at q0; exact q0
  · rw [if_neg c, if_neg (by omega), if_neg (by omega), if_neg (by omega)] at q0; exact q0
  · rw [if_neg c, if_neg (by omega), if_neg (by omega), if_neg (by omega)] at q0; exact q0
  · refine c_farmT v r (by omega) (by omega) (fun M' hM' => ?_)
    have q1 := q M' hM'
    rw [if_neg c, if_neg (by omega), if_neg (by omega)] at q1
    by_cases c7 : (v - 2000) / 10 < P 1
    · rw [if_pos (by omega)] at q1; rw [if_pos c7]; exact q1
    · rw [if_neg (by omega)] at q1; rw [if_neg c7]; exact q1
  · have e := of_decide_eq_false e
    rw [w32_id (x := v) (by omega) (by omega), w32_id (x := v - 1000) (by omega) (by omega)] at e
    rw [if_neg c, if_neg (by omega), if_pos (by omega), if_neg (by omega)] at q0; exact q0
  · have e := of_decide_eq_true e
    rw [w32_id (x := v) (by omega) (by omega), w32_id (x := v - 1000) (by omega) (by omega)] at e
    rw [if_neg c, if_neg (by omega), if_pos (by omega), if_pos (by omega)] at q0; exact q0
  · rw [if_neg c, if_pos (by omega)] at q
    obtain ⟨e1, e2⟩ := mdiv_p (v := v) (b := 100) (by omega) (by omega) (by omega) (by omega)
    rw [w32_id (x := v) (by omega) (by omega), show m_div v 100 = v / 100 from e1, show m_rem v 100 = v % 100 from e2]
    exact c_whyNotTell _ _ r ok q
  · rw [if_pos (by omega)] at q0; exact q0
theorem c_attempt (v : Int) (r : relW M P) (ok : okP P) (q : ∀ M', QS M M' → relW M' (if whyN P v = 0 then doesP P v else P) → Φ (whyN P v) M') : CF (d + 6) 107 [(2, 4), (1, v)] w M n Φ := by
  have hF := ok.F
  have hB := ok.nBe
  have ht := ok.turn
  refine e10_attempt (c_whyNot v r ok (fun M1 h1 => ⟨fun c => ?_, fun c => ?_⟩))
  · have r1 := r.q h1
    have s1 := QS.of43 h1
    rw [if_pos c, c] at q
    unfold doesP at q
    rcases whyN_0 c with h1 | ⟨h1, h2, h3⟩ | ⟨h1, h2, h3⟩ | ⟨h1, h2, h3⟩
    · rw [if_pos h1] at q
      rw [w32_id (by omega) (by omega)]
      refine ⟨fun c => absurd h1 c, fun _ => ?_⟩
      obtain ⟨t, et⟩ : ∃ t, (P 65).toNat = t := ⟨_, rfl⟩
      have ep : P 65 = (t : Int) := by omega
      have etb : tb P = fstB (canT P t) (nB P) := by unfold tb; rw [et]
      rw [r1.turn, ep]
      refine sp_firstBit _ r1 ok (by omega) (fun M2 h2 => ?_)
      have r2 := r1.q h2
      have s2 := s1.trans (QS.of43 h2)
      unfold turnP at q
      rw [et] at q
      rw [r2.turn]
      refine ⟨fun c1 => ?_, fun c1 => ?_⟩
      · have hlt : ¬ (tb P < nB P) := by
          intro hh
          rw [etb] at hh
          rw [if_pos hh] at c1
          omega
        rw [if_neg hlt] at q
        exact sp_nextFarm r2 ok (q _ (s2.trans (QS.set (by omega))) (r2.f_set ok (Or.inl ⟨rfl, rfl⟩)))
      · have hlt : tb P < nB P := by
          by_cases hh : tb P < nB P
          · exact hh
          · rw [etb] at hh
            rw [if_neg hh] at c1
            exact absurd rfl c1
        rw [if_pos hlt] at q
        have hlt2 : fstB (canT P t) (nB P) < nB P := by rw [← etb]; exact hlt
        rw [if_pos hlt2]
        rw [ep]
        refine sp_say _ _ r2 ok (by omega) (by omega) (fun M3 h3 r3 => ?_)
        have ok3 := tellP_ok ok (f := t) (b := fstB (canT P t) (nB P)) (by omega) (by omega)
        have e65 : tellP P t (fstB (canT P t) (nB P)) 65 = P 65 := by
          unfold tellP
          rw [pset_ne (by omega), pset_ne (by omega), tellK_o (by have := ok.nFe; omega) (by omega)]
        have en : nxt (tellP P t (fstB (canT P t) (nB P))) = nxt P := by
          unfold nxt
          rw [e65, (tellP_stO ok (f := t) (by omega)) 1 (by omega)]
        rw [r3.turn]
        refine sp_nextFarm r3 ok3 (q _ (s2.trans (h3.trans (QS.set (by omega)))) ((r3.f_set ok3 (Or.inl ⟨rfl, rfl⟩)).ext ?_))
        rw [en, ← etb]
        have hk : AgS P (pset P 65 (nxt P)) := fun j hj => pset_ne (by omega)
        funext j
        unfold tellP
        have eF : nF (pset P 65 (nxt P)) = nF P := by unfold nF; rw [pset_ne (by omega)]
        rw [eF]
        have hn8 := ok.nFe
        have eT : ∀ j, j ≠ 65 → tellK (pset P 65 (nxt P)) t (tb P) (nF P) j = tellK P t (tb P) (nF P) j := by
          intro j hj
          unfold tellK
          have hh : ∀ i, i < 8 → hrs (pset P 65 (nxt P)) i t = hrs P i t := fun i hi => hk.hr hi
          have htb : tb P < nB P := hlt
          rw [pset_ne (k := 65) (j := 25 + tb P) (by omega), pset_ne (k := 65) (j := 13 + tb P) (by omega), pset_ne (k := 65) (j := j) hj]
          refine if_cg ⟨fun ⟨a, b, e⟩ => ⟨a, b, by rw [← hh _ (by omega)]; exact e⟩, fun ⟨a, b, e⟩ => ⟨a, b, by rw [hh _ (by omega)]; exact e⟩⟩ rfl (if_cg ⟨fun ⟨a, b, e, e2⟩ => ⟨a, b, by rw [← hh _ (by omega)]; exact e, by rw [← pset_ne (P := P) (k := 65) (x := nxt P) (j := j - 8) (by omega)]; exact e2⟩, fun ⟨a, b, e, e2⟩ => ⟨a, b, by rw [hh _ (by omega)]; exact e, by rw [pset_ne (k := 65) (by omega)]; exact e2⟩⟩ rfl rfl)
        have htb : tb P < nB P := hlt
        rw [pset_ne (P := P) (k := 65) (j := 66) (by omega), pset_ne (P := P) (k := 65) (j := 25 + tb P) (by omega)]
        by_cases c66 : j = 66
        · subst c66
          rw [pset_eq, pset_ne (by omega), pset_eq]
        · rw [pset_ne c66]
          by_cases c65 : j = 65
          · subst c65
            rw [pset_eq, pset_ne (by omega), tellK_o hn8.2.2 (by omega), pset_eq]
          · rw [pset_ne c65, pset_ne c66]
            by_cases cf : j = 68 + t
            · subst cf
              rw [pset_eq]
              exact (pset_eq _ _ _).symm
            · rw [pset_ne cf, eT j c65]
              exact (pset_ne cf).symm
    · rw [if_neg (by omega), if_pos (by omega)] at q
      obtain ⟨a1, a2, a3, a4, _⟩ := whyT_0 h3
      rw [w32_id (x := v) (by omega) (by omega)]
      refine ⟨fun _ => ⟨fun c => absurd c (by omega), fun _ => ?_⟩, fun c => absurd (by omega) c⟩
      obtain ⟨e1, e2⟩ := mdiv_p (v := v) (b := 100) (by omega) (by omega) (by omega) (by omega)
      rw [show m_div v 100 = (((v / 100).toNat : Nat) : Int) by rw [show m_div v 100 = v / 100 from e1]; omega, show m_rem v 100 = (((v % 100).toNat : Nat) : Int) by rw [show m_rem v 100 = v % 100 from e2]; omega]
      exact sp_say _ _ r1 ok (by omega) (by omega) (fun M2 h2 r2 => q M2 (s1.trans h2) r2)
    · rw [if_neg (by omega), if_neg (by omega), if_pos (by omega)] at q
      rw [w32_id (x := v) (by omega) (by omega)]
      refine ⟨fun _ => ⟨fun _ => ⟨fun c => absurd c (by omega), fun _ => ?_⟩, fun c => absurd (by omega) c⟩, fun c => absurd (by omega) c⟩
      rw [w32_id (by omega) (by omega), r1.cut]
      exact q _ (s1.trans (QS.set (by omega))) (r1.f_set ok (Or.inr (Or.inr ⟨rfl, rfl⟩)))
    · rw [if_neg (by omega), if_neg (by omega), if_neg (by omega)] at q
      have e1 := (mdiv_p (v := v - 2000) (b := 10) (by omega) (by omega) (by omega) (by omega)).1
      have e2 := (mdiv_p (v := v) (b := 10) (by omega) (by omega) (by omega) (by omega)).2
      rw [w32_id (x := v) (by omega) (by omega)]
      refine ⟨fun _ => ⟨fun _ => ⟨fun _ => ?_, fun c => absurd (by omega) c⟩, fun c => absurd (by omega) c⟩, fun c => absurd (by omega) c⟩
      rw [w32_id (x := v - 2000) (by omega) (by omega), show m_div (v - 2000) 10 = (v - 2000) / 10 from e1, show m_rem v 10 = v % 10 from e2]
      exact ⟨⟨by omega, by omega, trivial⟩, q _ (s1.trans (QS.set (by omega))) (r1.mood_set ok (by omega))⟩
  · rw [if_neg c] at q
    exact q M1 (QS.of43 h1) (r.q h1)
end
