/-! ===== plain questions: what is answered; the reference ===== -/
def zFarm (P : Nat → Int) (f x : Int) : Int := if 0 ≤ f ∧ f < P 1 then (if x = 0 then P (68 + f.toNat) else if x = 1 then P (76 + f.toNat) else if x = 2 then P (84 + f.toNat) else if x = 3 then P (49 + f.toNat) else if x = 4 then (heardS P f.toNat : Nat) else if x = 5 then (canS P f.toNat : Nat) else -2) else -2
def zBit (P : Nat → Int) (b x : Int) : Int := if 0 ≤ b ∧ b < P 3 then (if x = 0 then P (13 + b.toNat) else if x = 1 then P (25 + b.toNat) else if x = 2 then P (37 + b.toNat) else if x = 3 then (whoS P b.toNat : Nat) else -2) else -2
noncomputable def zWire (P : Nat → Int) (k x : Int) : Int := if (0 ≤ k ∧ k < P 1 - 1) ∧ 0 ≤ x ∧ x ≤ 1 then (if x = 0 then m_and (m_shr (P 67) k) 1 else P (57 + k.toNat)) else -2
def zLikes (P : Nat → Int) (f m : Int) : Int := if (0 ≤ f ∧ f < P 1) ∧ 0 ≤ m ∧ m < P 2 then lks P f.toNat m.toNat else -99000002
def zHeardBy (P : Nat → Int) (f : Int) : Int := if 0 ≤ f ∧ f < P 1 then (hearersS P f.toNat : Nat) else -2
def hN (P : Nat → Int) (f : Nat) : Nat := popc 12 (heardS P f)
def earB (P : Nat → Int) : Nat → Nat
  | 0 => 0
  | k + 1 => if hN P (earB P k) < hN P k then k else earB P k
theorem earB_lt (P : Nat → Int) : ∀ k, earB P (k + 1) ≤ k
  | 0 => by show (if hN P 0 < hN P 0 then 0 else 0) ≤ 0; split <;> omega
  | k + 1 => by
    have := earB_lt P k
    show (if hN P (earB P (k + 1)) < hN P (k + 1) then k + 1 else earB P (k + 1)) ≤ k + 1
    split <;> omega
def are2 (P : Nat → Int) (f g : Int) : Prop := (0 ≤ f ∧ f < P 1) ∧ (0 ≤ g ∧ g < P 1) ∧ f ≠ g
noncomputable def zNeeds (P : Nat → Int) (f g : Int) : Int := if (0 ≤ f ∧ f < P 1) ∧ (0 ≤ g ∧ g < P 1) ∧ f ≠ g then (if hrs P f.toNat g.toNat = true then (wrs f.toNat g.toNat : Nat) else 0) else -2
def zPieces (P : Nat → Int) : Int := (popc 12 (P 67).toNat : Nat) + 1
/-- what a set of farms hears, itself too -/
def covK (P : Nat → Int) (s : Nat) : Nat → Nat
  | 0 => s
  | k + 1 => covK P s k ||| (if inS s k = true then heardS P k else 0)
def allS (P : Nat → Int) : Nat := 2 ^ nF P - 1
def lisB (P : Nat → Int) : Nat → Nat
  | 0 => allS P
  | k + 1 => if covK P k (nF P) = allS P ∧ popc 12 k < popc 12 (lisB P k) then k else lisB P k
theorem heardS_lt {P : Nat → Int} (ok : okP P) (f : Nat) : heardS P f < 256 := by
  obtain ⟨_, _, h⟩ := ok.nFe
  exact Nat.lt_of_lt_of_le (msk_lt _ _) (Nat.pow_le_pow_right (n := 2) (by omega) h)
theorem covK_lt {P : Nat → Int} (ok : okP P) {s : Nat} (hs : s < 256) : ∀ k, covK P s k < 256
  | 0 => hs
  | k + 1 => by
    refine Nat.or_lt_two_pow (n := 8) (covK_lt ok hs k) ?_
    split
    · exact heardS_lt ok k
    · omega
theorem allS_b {P : Nat → Int} (ok : okP P) : 3 ≤ allS P ∧ allS P < 256 ∧ allS P + 1 = 2 ^ nF P := by
  obtain ⟨_, h1, h2⟩ := ok.nFe
  have h3 : ∀ k, k ≤ 8 → 2 ≤ k → 4 ≤ 2 ^ k ∧ 2 ^ k ≤ 256 := by decide
  have := h3 _ h2 h1
  unfold allS
  omega
theorem lisB_lt {P : Nat → Int} (ok : okP P) : ∀ k, k ≤ allS P + 1 → lisB P k ≤ allS P
  | 0, _ => Nat.le_refl _
  | k + 1, h => by
    have := lisB_lt ok k (by omega)
    show (if covK P k (nF P) = allS P ∧ popc 12 k < popc 12 (lisB P k) then k else lisB P k) ≤ allS P
    split <;> omega
noncomputable def zCount (P : Nat → Int) (t x : Int) : Int := if x = 0 then P 1 else if x = 1 then P 2 else if x = 2 then P 3 else if x = 3 then (mustN P : Nat) else if x = 4 then P 67 else if x = 5 then P 65 else if x = 6 then P 66 else if x = 7 then doubtsN P else if x = 8 then P 92 else if x = 9 then t else if x = 10 then P 0 else -1
def zFault (k p x : Int) : Int := if x = 0 then k else if x = 1 then p else -1
noncomputable def cutV (v s : Int) : Int := if s = 0 then m_i2b (w32 v) else if s = 1 then m_i2s (w32 v) else if s = 2 then w32 v else v
noncomputable def fdV (a b c d e : Int) (k : Nat) : Int := if k < 4 then a else if k < 8 then b else if k < 12 then c else if k < 16 then d else e
/-- the k-th byte of five ints -/
noncomputable def fdB (a b c d e : Int) (k : Nat) : Int := m_and (m_shr (fdV a b c d e k) ((24 - 8 * (k % 4) : Nat) : Int)) 255
section
variable {d : Nat} {n : Nat × Nat} {Φ : Int → (Nat → Nat → Int) → Prop} {M : Nat → Nat → Int} {P : Nat → Int}
theorem r_farm (f x : Int) (hP : M 2 = P) (ok : okP P) (q : ∀ M', KR M M' → M' 2 = P → Φ (zFarm P f x) M') : CR (d + 5) 229 [(2, 1), (0, f), (0, x)] M n Φ := by
  have hF := ok.F
  have h0 : KR M (sI M 1 0 0) := KR.one (by omega)
  have m0 : (sI M 1 0 0) 2 = P := (sI_row (by omega)).trans hP
  have q0 := q _ h0 m0
  unfold zFarm at q q0
  refine e12_farm (sp_isFarm f (by rw [m0]; omega) ?_)
  rw [m0]
  refine br' (fun e => ?_) (fun e => ?_)
  · have e := of_decide_eq_true e
    rw [if_pos e] at q q0
    have ev : ∀ c : Nat, c < 100 → w32 ((c : Int) + f) = ((c + f.toNat : Nat) : Int) := fun c hc => by rw [w32_eq]; omega
    have e68 := ev 68 (by omega)
    have e76 := ev 76 (by omega)
    have e84 := ev 84 (by omega)
    have e49 := ev 49 (by omega)
    rw [show w32 (68 + f) = ((68 + f.toNat : Nat) : Int) from e68, show w32 (76 + f) = ((76 + f.toNat : Nat) : Int) from e76, show w32 (84 + f) = ((84 + f.toNat : Nat) : Int) from e84, show w32 (49 + f) = ((49 + f.toNat : Nat) : Int) from e49]
    simp only [Int.toNat_natCast]
    refine ⟨fun c0 => ⟨by omega, ?_⟩, fun c0 => ⟨fun c1 => ⟨by omega, ?_⟩, fun c1 => ⟨fun c2 => ⟨by omega, ?_⟩, fun c2 => ⟨fun c3 => ⟨by omega, ?_⟩, fun c3 => ⟨fun c4 => ?_, fun c4 => ⟨fun c5 => ?_, fun c5 => ?_⟩⟩⟩⟩⟩⟩
    · rw [if_pos c0] at q0; exact q0
    · rw [if_neg c0, if_pos c1] at q0; exact q0
    · rw [if_neg c0, if_neg c1, if_pos c2] at q0; exact q0
    · rw [if_neg c0, if_neg c1, if_neg c2, if_pos c3] at q0; exact q0
    · rw [if_neg c0, if_neg c1, if_neg c2, if_neg c3, if_pos c4] at q
      rw [show f = (f.toNat : Int) by omega]
      exact sp_heardOf _ m0 ok (by omega) (fun M' h => q M' (h0.trans (KR.of67 h)) ((h 2 (by omega) (by omega)).trans m0))
    · rw [if_neg c0, if_neg c1, if_neg c2, if_neg c3, if_neg c4, if_pos c5] at q
      rw [show f = (f.toNat : Int) by omega]
      exact sp_canTell _ m0 ok (by omega) (fun M' h => q M' (h0.trans (KR.of67 h)) ((h 2 (by omega) (by omega)).trans m0))
    · rw [if_neg c0, if_neg c1, if_neg c2, if_neg c3, if_neg c4, if_neg c5] at q0; exact q0
  · have e := of_decide_eq_false e
    rw [if_neg e] at q0
    exact q0
theorem r_bit (f x : Int) (hP : M 2 = P) (ok : okP P) (q : ∀ M', KR M M' → M' 2 = P → Φ (zBit P f x) M') : CR (d + 5) 230 [(2, 1), (0, f), (0, x)] M n Φ := by
  have hF := ok.B
  have h0 : KR M (sI M 1 0 0) := KR.one (by omega)
  have m0 : (sI M 1 0 0) 2 = P := (sI_row (by omega)).trans hP
  have q0 := q _ h0 m0
  unfold zBit at q q0
  refine e12_bit (sp_isBit f (by rw [m0]; omega) ?_)
  rw [m0]
  refine br' (fun e => ?_) (fun e => ?_)
  · have e := of_decide_eq_true e
    rw [if_pos e] at q q0
    have ev : ∀ c : Nat, c < 100 → w32 ((c : Int) + f) = ((c + f.toNat : Nat) : Int) := fun c hc => by rw [w32_eq]; omega
    rw [show w32 (13 + f) = ((13 + f.toNat : Nat) : Int) from ev 13 (by omega), show w32 (25 + f) = ((25 + f.toNat : Nat) : Int) from ev 25 (by omega), show w32 (37 + f) = ((37 + f.toNat : Nat) : Int) from ev 37 (by omega)]
    simp only [Int.toNat_natCast]
    refine ⟨fun c0 => ⟨by omega, ?_⟩, fun c0 => ⟨fun c1 => ⟨by omega, ?_⟩, fun c1 => ⟨fun c2 => ⟨by omega, ?_⟩, fun c2 => ⟨fun c3 => ?_, fun c3 => ?_⟩⟩⟩⟩
    · rw [if_pos c0] at q0; exact q0
    · rw [if_neg c0, if_pos c1] at q0; exact q0
    · rw [if_neg c0, if_neg c1, if_pos c2] at q0; exact q0
    · rw [if_neg c0, if_neg c1, if_neg c2, if_pos c3] at q
      rw [show f = (f.toNat : Int) by omega]
      exact sp_whoMay _ m0 ok (by omega) (fun M' h => q M' (h0.trans (KR.of67 h)) ((h 2 (by omega) (by omega)).trans m0))
    · rw [if_neg c0, if_neg c1, if_neg c2, if_neg c3] at q0; exact q0
  · have e := of_decide_eq_false e
    rw [if_neg e] at q0
    exact q0
theorem r_wire (f x : Int) (hP : M 2 = P) (ok : okP P) (q : ∀ M', KR M M' → M' 2 = P → Φ (zWire P f x) M') : CR (d + 3) 231 [(2, 1), (0, f), (0, x)] M n Φ := by
  have hF := ok.F
  have h0 : KR M (sI M 1 0 0) := KR.one (by omega)
  have m0 : (sI M 1 0 0) 2 = P := (sI_row (by omega)).trans hP
  have q0 := q _ h0 m0
  unfold zWire at q0
  refine e12_wire (sp_isWire f (by rw [m0]; omega) ?_)
  rw [m0]
  refine br (fun e => ?_) (fun e => sp_within x 0 1 (br' (fun e2 => ?_) (fun e2 => ?_)))
  · have e := of_decide_eq_false e
    rw [if_neg (fun z => e z.1)] at q0
    exact q0
  · have e := of_decide_eq_true e
    have e2 := of_decide_eq_true e2
    rw [if_pos ⟨e, e2⟩] at q0
    have ev : w32 (57 + f) = ((57 + f.toNat : Nat) : Int) := by rw [w32_eq]; omega
    rw [ev, m0]
    simp only [Int.toNat_natCast]
    refine ⟨fun c => ⟨by omega, ?_⟩, fun c => ?_⟩
    · rw [if_neg c] at q0; exact q0
    · rw [if_pos (Decidable.not_not.mp c)] at q0; exact q0
  · have e2 := of_decide_eq_false e2
    rw [if_neg (fun z => e2 z.2)] at q0
    exact q0
theorem r_likes (f m : Int) (hP : M 2 = P) (ok : okP P) (q : ∀ M', KR M M' → M' 2 = P → Φ (zLikes P f m) M') : CR (d + 4) 232 [(2, 1), (0, f), (0, m)] M n Φ := by
  have hF := ok.F
  have hM := ok.Mo
  have h0 : KR M (sI M 1 0 0) := KR.one (by omega)
  have m0 : (sI M 1 0 0) 2 = P := (sI_row (by omega)).trans hP
  have q0 := q _ h0 m0
  unfold zLikes at q q0
  refine e12_likes (sp_isFarm f (by rw [m0]; omega) ?_)
  rw [m0]
  refine br (fun e => ?_) (fun e => sp_isMoment m (by rw [m0]; omega) ?_)
  · have e := of_decide_eq_false e
    rw [if_neg (fun z => e z.1)] at q0
    exact q0
  · rw [m0]
    refine br (fun e2 => ?_) (fun e2 => ?_)
    · have e2 := of_decide_eq_false e2
      rw [if_neg (fun z => e2 z.2)] at q0
      exact q0
    · have e := of_decide_eq_true e
      have e2 := of_decide_eq_true e2
      rw [if_pos ⟨e, e2⟩] at q
      rw [show f = (f.toNat : Int) by omega, show m = (m.toNat : Int) by omega]
      exact sp_likesOf _ _ m0 ok (by omega) (by omega) (fun M' h => q M' (h0.trans (KR.of67 h)) ((h 2 (by omega) (by omega)).trans m0))
theorem r_heardBy (f : Int) (hP : M 2 = P) (ok : okP P) (q : ∀ M', KR M M' → M' 2 = P → Φ (zHeardBy P f) M') : CR (d + 5) 255 [(2, 1), (0, f)] M n Φ := by
  have hF := ok.F
  have h0 : KR M (sI M 1 0 0) := KR.one (by omega)
  have m0 : (sI M 1 0 0) 2 = P := (sI_row (by omega)).trans hP
  unfold zHeardBy at q
  refine e12_heardBy (sp_isFarm f (by rw [m0]; omega) ?_)
  rw [m0]
  refine br (fun e => ?_) (fun e => ?_)
  · have e := of_decide_eq_false e
    rw [if_neg e] at q
    exact q _ h0 m0
  · have e := of_decide_eq_true e
    rw [if_pos e] at q
    rw [show f = (f.toNat : Int) by omega]
    exact sp_hearersOf _ m0 ok (by omega) (fun M' h => q M' (h0.trans (KR.of67 h)) ((h 2 (by omega) (by omega)).trans m0))
theorem r_ear (hP : M 2 = P) (ok : okP P) (q : ∀ M', KR M M' → M' 2 = P → Φ (earB P (nF P) : Nat) M') : CR (d + 5) 256 [(2, 1)] M n Φ := by
  obtain ⟨eF, hF1, hF2⟩ := ok.nFe
  have h0 : KR M (sI M 1 0 0) := KR.one (by omega)
  have m0 : (sI M 1 0 0) 2 = P := (sI_row (by omega)).trans hP
  have key : ∀ k, k ≤ nF P → 1 ≤ k → ∀ M', KR M M' → M' 2 = P → W12_ear_9 (d + 4) n Φ (earB P k : Nat) (k : Nat) M' := by
    refine up (fun _ M' hM' m2 => ?_) (fun k hk ih hk1 M' hM' m2 => ?_)
    · apply v12_ear_9
      rw [m2, eF]
      exact ⟨fun _ => q M' hM' m2, fun c => absurd (Int.le_refl _) c⟩
    · apply v12_ear_9
      have hl : earB P k ≤ k - 1 := by
        have := earB_lt P (k - 1)
        rw [show k - 1 + 1 = k by omega] at this
        exact this
      have hs1 := heardS_lt ok k
      have hs2 := heardS_lt ok (earB P k)
      rw [m2, eF, w32_s (by omega)]
      refine ⟨fun c => absurd c (by omega), fun _ => sp_heardOf k m2 ok (by omega) (fun M1 h1 => sp_bitsOf _ (by omega) (sp_heardOf (P := P) _ ((h1 2 (by omega) (by omega)).trans m2) ok (by omega) (fun M2 h2 => sp_bitsOf _ (by omega) ?_)))⟩
      have k2 : KR M M2 := hM'.trans ((KR.of67 h1).trans (KR.of67 h2))
      have e2 : M2 2 = P := (h2 2 (by omega) (by omega)).trans ((h1 2 (by omega) (by omega)).trans m2)
      have es : earB P (k + 1) = if hN P (earB P k) < hN P k then k else earB P k := rfl
      rw [es] at ih
      refine ⟨fun c => ?_, fun c => ?_⟩
      · rw [if_neg (by unfold hN; omega)] at ih
        exact ih (by omega) M2 k2 e2
      · rw [if_pos (by unfold hN; omega)] at ih
        exact ih (by omega) M2 k2 e2
  have e1 : earB P 1 = 0 := Nat.le_zero.mp (earB_lt P 0)
  have := key 1 (by omega) (by omega) _ h0 m0
  rw [e1] at this
  exact e12_ear this
theorem sp_areTwo (f g : Int) (hP : M 2 = P) (ok : okP P) (q : Φ (b2i (decide ((0 ≤ f ∧ f < P 1) ∧ (0 ≤ g ∧ g < P 1) ∧ f ≠ g))) M) : CR (d + 3) 257 [(2, 1), (0, f), (0, g)] M n Φ := by
  have hF := ok.F
  refine e12_areTwo (sp_isFarm f (by rw [hP]; omega) ?_)
  rw [hP]
  refine br (fun e => ?_) (fun e => sp_isFarm g (by rw [hP]; omega) ?_)
  · have e := of_decide_eq_false e
    rw [decide_eq_false (fun z => e z.1)] at q; exact q
  · rw [hP]
    have e := of_decide_eq_true e
    refine br (fun e2 => ?_) (fun e2 => ⟨fun c => ?_, fun c => ?_⟩)
    · have e2 := of_decide_eq_false e2
      rw [decide_eq_false (fun z => e2 z.2.1)] at q; exact q
    · rw [decide_eq_false (fun z => z.2.2 c)] at q; exact q
    · have e2 := of_decide_eq_true e2
      rw [decide_eq_true ⟨e, e2, c⟩] at q; exact q
theorem r_needs (f g : Int) (hP : M 2 = P) (ok : okP P) (q : ∀ M', KR M M' → M' 2 = P → Φ (zNeeds P f g) M') : CR (d + 4) 258 [(2, 1), (0, f), (0, g)] M n Φ := by
  have hF := ok.F
  have h0 : KR M (sI M 1 0 0) := KR.one (by omega)
  have m0 : (sI M 1 0 0) 2 = P := (sI_row (by omega)).trans hP
  unfold zNeeds at q
  refine e12_needs (sp_areTwo f g m0 ok (br' (fun e => ?_) (fun e => ?_)))
  · have e := of_decide_eq_true e
    rw [if_pos e] at q
    rw [show f = (f.toNat : Int) by omega, show g = (g.toNat : Int) by omega]
    refine sp_hears _ _ m0 ok (by omega) (by omega) (fun M' h => ?_)
    have q' := q M' (h0.trans (KR.of67 h)) ((h 2 (by omega) (by omega)).trans m0)
    refine br (fun e2 => ?_) (fun e2 => ?_)
    · rw [if_neg (by rw [e2]; decide)] at q'; exact q'
    · rw [if_pos e2] at q'
      exact sp_wiresOf _ _ (by omega) (by omega) q'
  · have e := of_decide_eq_false e
    rw [if_neg e] at q
    exact q _ h0 m0
theorem r_pieces (hP : M 2 = P) (ok : okP P) (q : ∀ M', KR M M' → M' 2 = P → Φ (zPieces P) M') : CR (d + 2) 259 [(2, 1)] M n Φ := by
  have h0 : KR M (sI M 1 0 0) := KR.one (by omega)
  have m0 : (sI M 1 0 0) 2 = P := (sI_row (by omega)).trans hP
  have hc := ok.cut
  apply e12_pieces
  have hp := popc_le 12 (P 67).toNat
  rw [m0, show P 67 = ((P 67).toNat : Int) by omega]
  refine sp_bitsOf _ (by omega) ?_
  rw [w32_id (by omega) (by omega)]
  exact q _ h0 m0
theorem r_listeners (hP : M 2 = P) (ok : okP P) (q : ∀ M', KR M M' → M' 2 = P → Φ (lisB P (allS P + 1) : Nat) M') : CR (d + 5) 260 [(2, 1)] M n Φ := by
  obtain ⟨eF, hF1, hF2⟩ := ok.nFe
  obtain ⟨a1, a2, a3⟩ := allS_b ok
  have h0 : KR M (sI M 1 0 0) := KR.one (by omega)
  have m0 : (sI M 1 0 0) 2 = P := (sI_row (by omega)).trans hP
  have key : ∀ k, k ≤ allS P + 1 → ∀ M', KR M M' → M' 2 = P → W12_listeners_20 (d + 4) n Φ (allS P : Nat) (lisB P k : Nat) (k : Nat) M' := by
    refine up (fun M' hM' m2 => ?_) (fun k hk ih M' hM' m2 => ?_)
    · exact v12_listeners_20 ⟨fun _ => q M' hM' m2, fun c => absurd (by omega) c⟩
    · refine v12_listeners_20 ⟨fun c => absurd c (by omega), fun _ => ?_⟩
      have inn : ∀ j, j ≤ nF P → ∀ M2, KR M M2 → M2 2 = P → W12_listeners_31 (d + 4) n Φ (allS P : Nat) (lisB P k : Nat) (k : Nat) (covK P k j : Nat) (j : Nat) M2 := by
        refine up (fun M2 hM2 e2 => ?_) (fun j hj ih2 M2 hM2 e2 => ?_)
        · apply v12_listeners_31
          have hl := lisB_lt ok k (by omega)
          have es : lisB P (k + 1) = if covK P k (nF P) = allS P ∧ popc 12 k < popc 12 (lisB P k) then k else lisB P k := rfl
          rw [e2, eF, w32_s (k := k) (by omega)]
          refine ⟨fun _ => ⟨fun c => ?_, fun c => sp_bitsOf _ (by omega) (sp_bitsOf _ (by omega) ⟨fun c2 => ?_, fun c2 => ?_⟩)⟩, fun c => absurd (Int.le_refl _) c⟩
          · rw [if_neg (by omega)] at es
            rw [← es]
            exact ih M2 hM2 e2
          · rw [if_neg (by omega)] at es
            rw [← es]
            exact ih M2 hM2 e2
          · rw [if_pos (by omega)] at es
            rw [es] at ih
            exact ih M2 hM2 e2
        · apply v12_listeners_31
          have hc := covK_lt ok (s := k) (by omega) j
          have hs := heardS_lt ok j
          have es : covK P k (j + 1) = covK P k j ||| (if inS k j = true then heardS P j else 0) := rfl
          rw [e2, eF, w32_s (k := j) (by omega)]
          refine ⟨fun c => absurd c (by omega), fun _ => sp_isIn _ _ (by omega) (by omega) (br (fun e => ?_) (fun e => sp_heardOf j e2 ok (by omega) (fun M3 h3 => ?_)))⟩
          · rw [show (0 : Int) = ((0 : Nat) : Int) from rfl, m_or_n (by omega) (by omega)]
            rw [e, if_neg (by decide)] at es
            rw [← es]
            exact ih2 M2 hM2 e2
          · rw [m_or_n (by omega) (by omega)]
            rw [e, if_pos rfl] at es
            rw [← es]
            exact ih2 M3 (hM2.trans (KR.of67 h3)) ((h3 2 (by omega) (by omega)).trans e2)
      exact inn 0 (Nat.zero_le _) M' hM' m2
  apply e12_listeners
  have e1 : w32 (m_shl 1 (P 1) - 1) = ((allS P : Nat) : Int) := by
    rw [eF, m_one (by omega), ← a3, w32_eq]
    omega
  rw [m0, e1]
  exact key 0 (Nat.zero_le _) _ h0 m0
theorem r_tales (hP : M 2 = P) (ok : okP P) (q : ∀ M', KR M M' → M' 2 = P → Φ (talesN P : Nat) M') : CR (d + 3) 286 [(2, 1)] M n Φ := by
  have m0 : (sI M 1 0 0) 2 = P := (sI_row (by omega)).trans hP
  exact e12_tales (sp_talesNow m0 ok (q _ (KR.one (by omega)) m0))
theorem r_count (x : Int) (hP : M 2 = P) (ok : okP P) (q : ∀ M', KR M M' → M' 2 = P → Φ (zCount P (M 1 5) x) M') : CR (d + 2) 316 [(2, 1), (0, x)] M n Φ := by
  have m0 : (sI M 1 0 0) 2 = P := (sI_row (by omega)).trans hP
  have m5 : (sI M 1 0 0) 1 5 = M 1 5 := sI_ne (by omega)
  have q0 := q _ (KR.one (by omega)) m0
  unfold zCount at q0
  apply e12_count
  rw [m0, m5]
  refine ⟨fun c0 => ?_, fun c0 => ⟨fun c1 => ?_, fun c1 => ⟨fun c2 => ?_, fun c2 => ⟨fun c3 => sp_mustAll m0 ok ?_, fun c3 => ⟨fun c4 => ?_, fun c4 => ⟨fun c5 => ?_, fun c5 => ⟨fun c6 => ?_, fun c6 => ⟨fun c7 => sp_doubtsAll m0 ok ?_, fun c7 => ⟨fun c8 => ?_, fun c8 => ⟨fun c9 => ?_, fun c9 => ⟨fun c10 => ?_, fun c10 => ?_⟩⟩⟩⟩⟩⟩⟩⟩⟩⟩⟩
  · rw [if_pos c0] at q0; exact q0
  · rw [if_neg c0, if_pos c1] at q0; exact q0
  · rw [if_neg c0, if_neg c1, if_pos c2] at q0; exact q0
  · rw [if_neg c0, if_neg c1, if_neg c2, if_pos c3] at q0; exact q0
  · rw [if_neg c0, if_neg c1, if_neg c2, if_neg c3, if_pos c4] at q0; exact q0
  · rw [if_neg c0, if_neg c1, if_neg c2, if_neg c3, if_neg c4, if_pos c5] at q0; exact q0
  · rw [if_neg c0, if_neg c1, if_neg c2, if_neg c3, if_neg c4, if_neg c5, if_pos c6] at q0; exact q0
  · rw [if_neg c0, if_neg c1, if_neg c2, if_neg c3, if_neg c4, if_neg c5, if_neg c6, if_pos c7] at q0; exact q0
  · rw [if_neg c0, if_neg c1, if_neg c2, if_neg c3, if_neg c4, if_neg c5, if_neg c6, if_neg c7, if_pos c8] at q0; exact q0
  · rw [if_neg c0, if_neg c1, if_neg c2, if_neg c3, if_neg c4, if_neg c5, if_neg c6, if_neg c7, if_neg c8, if_pos c9] at q0; exact q0
  · rw [if_neg c0, if_neg c1, if_neg c2, if_neg c3, if_neg c4, if_neg c5, if_neg c6, if_neg c7, if_neg c8, if_neg c9, if_pos c10] at q0; exact q0
  · rw [if_neg c0, if_neg c1, if_neg c2, if_neg c3, if_neg c4, if_neg c5, if_neg c6, if_neg c7, if_neg c8, if_neg c9, if_neg c10] at q0; exact q0
theorem r_fault (x : Int) (q : ∀ M', KR M M' → M' 2 = M 2 → Φ (zFault (M 1 13) (M 1 14) x) M') : CR (d + 1) 213 [(2, 1), (0, x)] M n Φ := by
  have q0 := q (sI M 1 0 0) (KR.one (by omega)) (sI_row (by omega))
  unfold zFault at q0
  apply e12_fault
  rw [sI_ne (by omega), sI_ne (by omega)]
  refine ⟨fun c => ⟨fun c2 => ?_, fun c2 => ?_⟩, fun c => ?_⟩
  · rw [if_neg c, if_neg c2] at q0; exact q0
  · rw [if_neg c, if_pos (Decidable.not_not.mp c2)] at q0; exact q0
  · rw [if_pos (Decidable.not_not.mp c)] at q0; exact q0
theorem r_feed (a b c e f : Int) (t : Nat) (ht : M 1 5 = (t : Int)) (ht2 : t ≤ 900) (q : ∀ M', (t + 20 ≤ 900 → (∀ x, x ≠ 1 → x ≠ 4 → M' x = M x) → (∀ k, k ≠ 0 → k ≠ 5 → M' 1 k = M 1 k) → M' 1 5 = ((t + 20 : Nat) : Int) → (∀ j, M' 4 j = if t ≤ j ∧ j < t + 20 then fdB a b c e f (j - t) else M 4 j) → Φ ((t + 20 : Nat) : Int) M') ∧ (¬ (t + 20 ≤ 900) → KR M M' → M' 2 = M 2 → Φ (-5) M')) : CR (d + 1) 185 [(2, 1), (0, a), (0, b), (0, c), (0, e), (0, f)] M n Φ := by
  apply e12_feed
  rw [sI_ne (by omega), ht, w32_id (by omega) (by omega)]
  refine ⟨fun h => ?_, fun h => (q _).2 (by omega) (KR.one (by omega)) (sI_row (by omega))⟩
  have key : ∀ k, k ≤ 20 → ∀ M', (∀ x, x ≠ 1 → x ≠ 4 → M' x = M x) → (∀ j, j ≠ 0 → j ≠ 5 → M' 1 j = M 1 j) → M' 1 5 = ((t + k : Nat) : Int) → (∀ j, M' 4 j = if t ≤ j ∧ j < t + k then fdB a b c e f (j - t) else M 4 j) → W12_feed_24 d n Φ a b c e f (k : Nat) M' := by
    refine up (fun M' h1 h2 h3 h4 => ?_) (fun k hk ih M' h1 h2 h3 h4 => ?_)
    · apply v12_feed_24
      rw [h3]
      exact ⟨fun _ => (q M').1 (by omega) h1 h2 h3 h4, fun c => absurd (by decide) c⟩
    · have er : w32 (24 - w32 (8 * m_rem (k : Int) 4)) = ((24 - 8 * (k % 4) : Nat) : Int) := by
        have e4 := m_rem_n (a := k) (b := 4) (by omega) (by omega) (by omega)
        rw [show m_rem (k : Int) 4 = ((k % 4 : Nat) : Int) from e4, w32_id (x := 8 * ((k % 4 : Nat) : Int)) (by omega) (by omega), w32_id (by omega) (by omega)]
        omega
      have fin : ∀ v : Int, v = fdV a b c e f k → (0 ≤ M' 1 5 ∧ M' 1 5 < ((900 : Nat) : Int) ∧ True) ∧ (W12_feed_24 d n Φ a b c e f (w32 ((k : Int) + 1)) (sI (sI M' 4 (M' 1 5).toNat (m_and (m_shr v (w32 (24 - w32 (8 * m_rem (k : Int) 4)))) 255)) 1 5 (w32 ((sI M' 4 (M' 1 5).toNat (m_and (m_shr v (w32 (24 - w32 (8 * m_rem (k : Int) 4)))) 255)) 1 5 + 1)))) := by
        intro v hv
        rw [er, sI_row (a := 4) (b := 1) (by omega), h3, w32_s (by omega), w32_s (by omega), Int.toNat_natCast, hv]
        refine ⟨⟨by omega, by omega, trivial⟩, ih _ (fun x hx1 hx4 => by rw [sI_row hx1, sI_row hx4, h1 x hx1 hx4]) (fun j hj0 hj5 => by rw [sI_ne hj5, sI_row (by omega), h2 j hj0 hj5]) (sI_same _ _ _ _) (fun j => ?_)⟩
        rw [sI_row (by omega), sI_if]
        by_cases cj : j = t + k
        · rw [if_pos cj, if_pos (by omega), cj, show t + k - t = k by omega]
          rfl
        · rw [if_neg cj, h4 j]
          by_cases c2 : t ≤ j ∧ j < t + k
          · rw [if_pos c2, if_pos (by omega)]
          · rw [if_neg c2, if_neg (by omega)]
      apply v12_feed_24
      refine ⟨fun c => absurd c (by omega), fun _ => ⟨fun c1 => ⟨fun c2 => ⟨fun c3 => ⟨fun c4 => fin _ ?_, fun c4 => fin _ ?_⟩, fun c3 => fin _ ?_⟩, fun c2 => fin _ ?_⟩, fun c1 => fin _ ?_⟩⟩
      · unfold fdV; rw [if_neg (by omega), if_neg (by omega), if_neg (by omega), if_neg (by omega)]
      · unfold fdV; rw [if_neg (by omega), if_neg (by omega), if_neg (by omega), if_pos (by omega)]
      · unfold fdV; rw [if_neg (by omega), if_neg (by omega), if_pos (by omega)]
      · unfold fdV; rw [if_neg (by omega), if_pos (by omega)]
      · unfold fdV; rw [if_pos (by omega)]
  refine key 0 (Nat.zero_le _) _ (fun x hx _ => sI_row hx) (fun j hj _ => sI_ne hj) (by rw [sI_ne (by omega)]; exact ht) (fun j => ?_)
  rw [sI_row (by omega), if_neg (by omega)]
theorem r_numbers (t s x : Int) (q : ∀ M', (¬ ((0 ≤ t ∧ t ≤ 3) ∧ 0 ≤ s ∧ s ≤ 3) → KR M M' → M' 2 = M 2 → Φ (-2) M') ∧ (((0 ≤ t ∧ t ≤ 3) ∧ 0 ≤ s ∧ s ≤ 3) → ¬ (0 ≤ x ∧ x ≤ 40) → KR M M' → M' 2 = M 2 → Φ (-3) M') ∧ (((0 ≤ t ∧ t ≤ 3) ∧ 0 ≤ s ∧ s ≤ 3) → (0 ≤ x ∧ x ≤ 40) → (∀ a, a ≠ 1 → a ≠ 20 → a ≠ 21 → a ≠ 22 → M' a = M a) → (∀ k, k ≠ 0 → M' 1 k = M 1 k) → M' 20 = pset (M 20) t.toNat s → M' 21 = pset (M 21) t.toNat x → (∀ j, M' 22 j = if 40 * t.toNat ≤ j ∧ j < 40 * t.toNat + x.toNat then 0 else M 22 j) → Φ 0 M')) : CR (d + 2) 310 [(2, 1), (0, t), (0, s), (0, x)] M n Φ := by
  have h0 : KR M (sI M 1 0 0) := KR.one (by omega)
  have m0 : (sI M 1 0 0) 2 = M 2 := sI_row (by omega)
  refine e12_numbers (sp_within t 0 3 (br (fun e => ?_) (fun e => sp_within s 0 3 (br' (fun e2 => sp_within x 0 40 (br' (fun e3 => ?_) (fun e3 => ?_))) (fun e2 => ?_)))))
  · have e := of_decide_eq_false e
    exact (q _).1 (fun z => e z.1) h0 m0
  · have e := of_decide_eq_true e
    have e2 := of_decide_eq_true e2
    have e3 := of_decide_eq_true e3
    refine ⟨⟨by omega, by omega, trivial⟩, ⟨by omega, by omega, trivial⟩, ?_⟩
    have key : ∀ k, k ≤ x.toNat → ∀ M', (∀ a, a ≠ 1 → a ≠ 20 → a ≠ 21 → a ≠ 22 → M' a = M a) → (∀ k, k ≠ 0 → M' 1 k = M 1 k) → M' 20 = pset (M 20) t.toNat s → M' 21 = pset (M 21) t.toNat x → (∀ j, M' 22 j = if 40 * t.toNat ≤ j ∧ j < 40 * t.toNat + k then 0 else M 22 j) → W12_numbers_64 (d + 1) n Φ t x (k : Nat) M' := by
      refine up (fun M' h1 h2 h3 h4 h5 => ?_) (fun k hk ih M' h1 h2 h3 h4 h5 => ?_)
      · exact v12_numbers_64 ⟨fun _ => (q M').2.2 ⟨e, e2⟩ e3 h1 h2 h3 h4 h5, fun c => absurd (by omega) c⟩
      · apply v12_numbers_64
        have ei : w32 (w32 (40 * t) + (k : Int)) = ((40 * t.toNat + k : Nat) : Int) := by
          rw [w32_id (x := 40 * t) (by omega) (by omega), w32_id (by omega) (by omega)]; omega
        rw [ei, w32_s (by omega), Int.toNat_natCast]
        refine ⟨fun c => absurd c (by omega), fun _ => ⟨⟨by omega, by omega, trivial⟩, ih _ (fun a ha1 ha2 ha3 ha4 => by rw [sI_row ha4, h1 a ha1 ha2 ha3 ha4]) (fun j hj => by rw [sI_row (by omega), h2 j hj]) (by rw [sI_row (by omega), h3]) (by rw [sI_row (by omega), h4]) (fun j => ?_)⟩⟩
        rw [sI_if]
        by_cases cj : j = 40 * t.toNat + k
        · rw [if_pos cj, if_pos (by omega)]
        · rw [if_neg cj, h5 j]
          by_cases c2 : 40 * t.toNat ≤ j ∧ j < 40 * t.toNat + k
          · rw [if_pos c2, if_pos (by omega)]
          · rw [if_neg c2, if_neg (by omega)]
    refine key 0 (Nat.zero_le _) _ (fun a h1 h2 h3 h4 => by rw [sI_row h3, sI_row h2, sI_row h1]) (fun k hk => by rw [sI_row (by omega), sI_row (by omega), sI_ne hk]) ?_ ?_ (fun j => ?_)
    · rw [sI_row (by omega), sI_p, sI_row (by omega)]
    · rw [sI_p, sI_row (by omega), sI_row (by omega)]
    · rw [if_neg (by omega), sI_row (by omega), sI_row (by omega), sI_row (by omega)]
  · have e := of_decide_eq_true e
    have e2 := of_decide_eq_true e2
    have e3 := of_decide_eq_false e3
    exact (q _).2.1 ⟨e, e2⟩ e3 h0 m0
  · have e2 := of_decide_eq_false e2
    exact (q _).1 (fun z => e2 z.2) h0 m0
theorem sp_cut1 (v s : Int) (q : Φ (cutV v s) M) : CR (d + 1) 309 [(1, v), (0, s)] M n Φ := by
  unfold cutV at q
  refine e12_cut1 ⟨fun c => ⟨fun c2 => ⟨fun c3 => ?_, fun c3 => ?_⟩, fun c2 => ?_⟩, fun c => ?_⟩
  · rw [if_neg c, if_neg c2, if_neg c3] at q; exact q
  · rw [if_neg c, if_neg c2, if_pos (Decidable.not_not.mp c3)] at q; exact q
  · rw [if_neg c, if_pos (Decidable.not_not.mp c2)] at q; exact q
  · rw [if_pos (Decidable.not_not.mp c)] at q; exact q
theorem r_write (t i v : Int) (hZ : ∀ i, i < 4 → M 20 i ≠ -1 → 0 ≤ M 21 i ∧ M 21 i ≤ 40) (q : ∀ M', (noT (M 20) t ≠ 0 → KR M M' → M' 2 = M 2 → Φ (noT (M 20) t) M') ∧ (noT (M 20) t = 0 → ¬ (0 ≤ i ∧ i < M 21 t.toNat) → KR M M' → M' 2 = M 2 → Φ (-7) M') ∧ (noT (M 20) t = 0 → (0 ≤ i ∧ i < M 21 t.toNat) → (∀ a, a ≠ 1 → a ≠ 22 → M' a = M a) → (∀ k, k ≠ 0 → M' 1 k = M 1 k) → M' 22 = pset (M 22) (40 * t.toNat + i.toNat) (cutV v (M 20 t.toNat)) → Φ (cutV v (M 20 t.toNat)) M')) : CR (d + 3) 311 [(2, 1), (0, t), (0, i), (1, v)] M n Φ := by
  have h0 : KR M (sI M 1 0 0) := KR.one (by omega)
  have m0 : (sI M 1 0 0) 2 = M 2 := sI_row (by omega)
  have r20 : (sI M 1 0 0) 20 = M 20 := sI_row (by omega)
  have r21 : (sI M 1 0 0) 21 = M 21 := sI_row (by omega)
  refine e12_write (sp_noTray t ?_)
  rw [r20]
  refine ⟨fun c => ?_, fun c => (q _).1 c h0 m0⟩
  have ht : (0 ≤ t ∧ t ≤ 3) ∧ M 20 t.toNat ≠ -1 := by
    unfold noT at c
    split at c
    · rename_i c1
      split at c
      · omega
      · rename_i c2; exact ⟨c1, c2⟩
    · omega
  have hz := hZ t.toNat (by omega) ht.2
  rw [r21, w32_id (by omega) (by omega)]
  refine ⟨by omega, sp_within i 0 _ (br' (fun e => ⟨by omega, ?_⟩) (fun e => ?_))⟩
  · have e := of_decide_eq_true e
    have ei : w32 (w32 (40 * t) + i) = ((40 * t.toNat + i.toNat : Nat) : Int) := by
      rw [w32_id (x := 40 * t) (by omega) (by omega), w32_id (by omega) (by omega)]; omega
    rw [r20, ei]
    simp only [Int.toNat_natCast]
    refine sp_cut1 _ _ ⟨⟨by omega, by omega, trivial⟩, by omega, ?_⟩
    rw [sI_same]
    refine (q _).2.2 c (by omega) (fun a h1 h2 => by rw [sI_row h2, sI_row h1]) (fun k hk => by rw [sI_row (by omega), sI_ne hk]) ?_
    rw [sI_p, sI_row (by omega)]
  · have e := of_decide_eq_false e
    exact (q _).2.1 c (by omega) h0 m0
end
