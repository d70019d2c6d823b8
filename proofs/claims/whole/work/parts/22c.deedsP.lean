/-! ===== deeds: the reference's public calls ===== -/
/-- what lasts of the reference beside its row -/
def KR (M M' : Nat → Nat → Int) : Prop := (∀ a, a = 3 ∨ a = 4 ∨ (20 ≤ a ∧ a ≤ 22) → M' a = M a) ∧ (∀ k, k = 5 ∨ k = 13 ∨ k = 14 → M' 1 k = M 1 k)
theorem KR.refl (M : Nat → Nat → Int) : KR M M := ⟨fun _ _ => rfl, fun _ _ => rfl⟩
theorem KR.trans {M M' N : Nat → Nat → Int} (h : KR M M') (h2 : KR M' N) : KR M N := ⟨fun a ha => (h2.1 a ha).trans (h.1 a ha), fun k hk => (h2.2 k hk).trans (h.2 k hk)⟩
theorem KR.one {M : Nat → Nat → Int} {k : Nat} {x : Int} (h : k ≠ 5 ∧ k ≠ 13 ∧ k ≠ 14) : KR M (sI M 1 k x) := ⟨fun a ha => sI_row (by omega), fun j hj => sI_ne (by omega)⟩
theorem KR.row {M : Nat → Nat → Int} {a k : Nat} {x : Int} (h : a ≠ 1 ∧ a ≠ 3 ∧ a ≠ 4 ∧ a ≠ 20 ∧ a ≠ 21 ∧ a ≠ 22) : KR M (sI M a k x) := ⟨fun b hb => sI_row (by omega), fun j hj => by rw [sI_row (by omega)]⟩
theorem KR.of67 {M M' : Nat → Nat → Int} (h : Q67 M M') : KR M M' := ⟨fun a ha => h a (by omega) (by omega), fun k hk => by rw [h 1 (by omega) (by omega)]⟩
theorem KR.ofQD {M M' : Nat → Nat → Int} (h : QD M M') : KR M M' := ⟨fun a ha => h a (by omega) (by omega) (by omega), fun k hk => by rw [h 1 (by omega) (by omega) (by omega)]⟩
theorem KR.of8 {M M' : Nat → Nat → Int} (h : ∀ a, a ≠ 8 → M' a = M a) : KR M M' := ⟨fun a ha => h a (by omega), fun k hk => by rw [h 1 (by omega)]⟩
theorem KR.of2 {M M' : Nat → Nat → Int} (h : ∀ a, a ≠ 2 → M' a = M a) : KR M M' := ⟨fun a ha => h a (by omega), fun k hk => by rw [h 1 (by omega)]⟩
theorem KR.ofU {M M' : Nat → Nat → Int} (h : QU M M') : KR M M' := ⟨fun a ha => h.1 a (by omega) (by omega) (by omega), fun k hk => h.2 k (by omega)⟩
def uP (P : Nat → Int) : Nat → Int := fun j => P (65 + j)
theorem noteP_congr {u v P : Nat → Int} (h : ∀ j, j < 27 → u j = v j) : noteP u P = noteP v P := by
  funext j
  unfold noteP
  by_cases e : j = 92
  · rw [if_pos e, if_pos e]
  · rw [if_neg e, if_neg e]
    split
    · split
      · rfl
      · split
        · exact h _ (by omega)
        · rfl
    · split
      · exact h _ (by omega)
      · rfl
def undoP (P : Nat → Int) (x : Int) : Nat → Int := fun j => if j = 92 then P 92 - x else if 65 ≤ j ∧ j < 92 then P (93 + 27 * (P 92 - x).toNat + (j - 65)) else P j
def orK (P : Nat → Int) : Nat → Nat
  | 0 => 0
  | k + 1 => orK P k ||| 2 ^ (P (68 + k)).toNat
def talesN (P : Nat → Int) : Nat := popc 12 (orK P (nF P))
noncomputable def sumK (P : Nat → Int) : Nat → Int
  | 0 => 0
  | k + 1 => w32 (sumK P k + P (76 + k))
noncomputable def doubtsN (P : Nat → Int) : Int := sumK P (nF P)
theorem orK_lt {P : Nat → Int} (ok : okP P) : ∀ k, k ≤ 8 → orK P k < 256
  | 0, _ => by show 0 < 256; omega
  | k + 1, h => by
    have h1 := ok.at (f := k) (by omega)
    have h2 := ok.Mo
    have h3 := p2_8 (P (68 + k)).toNat (by omega)
    exact Nat.or_lt_two_pow (n := 8) (orK_lt ok k (by omega)) (by omega)
theorem or_orK {P : Nat → Int} (ok : okP P) {k : Nat} (hk : k < 8) : m_or (orK P k : Nat) (m_shl 1 (P (68 + k))) = ((orK P (k + 1) : Nat) : Int) := by
  have h1 := ok.at hk
  have h2 := ok.Mo
  have h3 := p2_8 (P (68 + k)).toNat (by omega)
  have h4 := orK_lt ok k (by omega)
  have e : P (68 + k) = ((P (68 + k)).toNat : Int) := by omega
  rw [e, m_one (by omega), m_or_n (by omega) (by omega)]
  rfl
noncomputable def zTell (P : Nat → Int) (x y : Int) : Int × (Nat → Int) := if whyT P x y = 0 then ((popc 12 (hearersS P x.toNat) : Nat), noteP (uP P) (tellP P x.toNat y.toNat)) else (w32 (-10 - whyT P x y), P)
noncomputable def zCut (P : Nat → Int) (k : Int) : Int × (Nat → Int) := if 0 ≤ k ∧ k < P 1 - 1 then (m_and (m_shr (m_xor (P 67) (m_shl 1 k)) k) 1, noteP (uP P) (pset P 67 (m_xor (P 67) (m_shl 1 k)))) else (-11, P)
noncomputable def zMood (P : Nat → Int) (f x : Int) : Int × (Nat → Int) := if (0 ≤ f ∧ f < P 1) ∧ 0 ≤ x ∧ x ≤ 9 then (P (84 + f.toNat), noteP (uP P) (pset P (84 + f.toNat) x)) else (-11, P)
noncomputable def zGo (P : Nat → Int) (x : Int) : Int × (Nat → Int) := if 1 ≤ x ∧ x ≤ 99 then (((goK P x.toNat).2 : Nat), noteP (uP P) (goK P x.toNat).1) else (-3, P)
def zUndo (P : Nat → Int) (x : Int) : Int × (Nat → Int) := if (1 ≤ x ∧ x ≤ 10) ∧ x ≤ P 92 then (P 92 - x, undoP P x) else (-3, P)
/-- a tray's numbers -/
def nmT (U : Nat → Int) (t : Int) : Nat → Int := fun k => U (40 * t.toNat + k)
def noT (S : Nat → Int) (t : Int) : Int := if 0 ≤ t ∧ t ≤ 3 then (if S t.toNat = -1 then -6 else 0) else -2
noncomputable def zJudge (P S Z U : Nat → Int) (t x : Int) : Int := if 0 ≤ x ∧ x ≤ 3 then (if noT S t = 0 then (if x = 0 then (if dStop P (nmT U t) (Z t.toNat).toNat < (Z t.toNat).toNat then ((dStop P (nmT U t) (Z t.toNat).toNat : Nat) : Int) else -1) else if x = 1 then (if dStop P (nmT U t) (Z t.toNat).toNat < (Z t.toNat).toNat then whyN (dK P (nmT U t) (dStop P (nmT U t) (Z t.toNat).toNat)) (nmT U t (dStop P (nmT U t) (Z t.toNat).toNat)) else 0) else if x = 2 then (talesN (dK P (nmT U t) (dStop P (nmT U t) (Z t.toNat).toNat)) : Nat) else doubtsN (dK P (nmT U t) (dStop P (nmT U t) (Z t.toNat).toNat))) else noT S t) else -2
noncomputable def zPerform (P S Z U : Nat → Int) (t : Int) : Int × (Nat → Int) := if noT S t = 0 then (((dStop P (nmT U t) (Z t.toNat).toNat : Nat) : Int), if 0 < dStop P (nmT U t) (Z t.toNat).toNat then noteP (uP P) (dK P (nmT U t) (dStop P (nmT U t) (Z t.toNat).toNat)) else dK P (nmT U t) (dStop P (nmT U t) (Z t.toNat).toNat)) else (noT S t, P)
noncomputable def zWinter (P : Nat → Int) (x t : Int) : Int × (Nat → Int) := if 1 ≤ t ∧ t ≤ 40 then (((winK P x t.toNat).2.2 : Nat), if 0 < (winK P x t.toNat).2.2 then noteP (uP P) (winK P x t.toNat).1 else (winK P x t.toNat).1) else (-3, P)
section
variable {d : Nat} {n : Nat × Nat} {Φ : Int → (Nat → Nat → Int) → Prop} {M : Nat → Nat → Int} {P : Nat → Int}
/-- a deed between keeps and notes -/
theorem sp_kn {M1 M3 : Nat → Nat → Int} {P' : Nat → Int} (h1 : KR M M1) (hP : M1 2 = P) (ok : okP P) (h92 : 0 ≤ P 92 ∧ P 92 ≤ 10) (h8 : ∀ j, j < 27 → M3 8 j = P (65 + j)) (h3 : KR M M3) (m2 : M3 2 = P') (hst : stO P P') {r : Int} (q : ∀ M', KR M M' → M' 2 = noteP (uP P) P' → (∀ a, a ≠ 2 → M' a = M3 a) → Φ r M') : CR (d + 1) 235 [(2, 1)] M3 n (fun _ M4 => Φ r M4) := by
  have e92 : P' 92 = P 92 := hst 92 (by omega)
  refine sp_notes (by rw [m2, e92]; exact h92) (fun M' hM' hm => q M' (h3.trans (KR.of2 hM')) ?_ hM')
  rw [hm, m2]
  exact noteP_congr h8
theorem r_tell (x y : Int) (hP : M 2 = P) (ok : okP P) (h92 : 0 ≤ P 92 ∧ P 92 ≤ 10) (q : ∀ M', KR M M' → M' 2 = (zTell P x y).2 → Φ (zTell P x y).1 M') : CR (d + 6) 239 [(2, 1), (0, x), (0, y)] M n Φ := by
  have hF := ok.F
  have hB := ok.B
  have h0 : KR M (sI M 1 0 0) := KR.one (by omega)
  unfold zTell at q
  refine e12_tell (sp_whyTell x y ((sI_row (by omega)).trans hP) ok (fun M1 h1 => ⟨fun c => ?_, fun c => ?_⟩))
  · rw [if_pos c] at q
    obtain ⟨a1, a2, a3, a4, _⟩ := whyT_0 c
    have k1 := h0.trans (KR.of67 h1)
    have m1 : M1 2 = P := (h1 2 (by omega) (by omega)).trans ((sI_row (by omega)).trans hP)
    refine sp_keeps (fun M2 h2 h8 => ?_)
    have m2 : M2 2 = P := (h2 2 (by omega)).trans m1
    rw [show x = (x.toNat : Int) by omega, show y = (y.toNat : Int) by omega]
    refine sp_tells1 _ _ m2 ok (by omega) (by omega) (fun M3 h3 hm3 => ?_)
    refine sp_kn (P := P) (M := M) k1 m1 ok h92 (fun j hj => ?_) (k1.trans ((KR.of8 h2).trans (KR.ofQD h3))) hm3 (tellP_stO ok (by omega)) (fun M' hk hm' _ => q M' hk hm')
    rw [h3 8 (by omega) (by omega) (by omega), h8 j hj, m1]
  · rw [if_neg c] at q
    exact q M1 (h0.trans (KR.of67 h1)) ((h1 2 (by omega) (by omega)).trans ((sI_row (by omega)).trans hP))
theorem r_cut (x : Int) (hP : M 2 = P) (ok : okP P) (h92 : 0 ≤ P 92 ∧ P 92 ≤ 10) (q : ∀ M', KR M M' → M' 2 = (zCut P x).2 → Φ (zCut P x).1 M') : CR (d + 3) 240 [(2, 1), (0, x)] M n Φ := by
  have hF := ok.F
  have h0 : KR M (sI M 1 0 0) := KR.one (by omega)
  have m0 : (sI M 1 0 0) 2 = P := (sI_row (by omega)).trans hP
  unfold zCut at q
  refine e12_cut (sp_isWire x (by rw [m0]; omega) ?_)
  rw [m0]
  refine br' (fun e => ?_) (fun e => ?_)
  · have e := of_decide_eq_true e
    rw [if_pos e] at q
    refine sp_keeps (fun M2 h2 h8 => ?_)
    have m2 : M2 2 = P := (h2 2 (by omega)).trans m0
    rw [m2]
    refine sp_kn (P := P) (M := M) (Φ := fun _ M3 => Φ (m_and (m_shr (M3 2 67) x) 1) M3) (r := 0) h0 m0 ok h92 (fun j hj => ?_) (h0.trans ((KR.of8 h2).trans (KR.row (a := 2) (by omega)))) (by rw [sI_p, m2]) (fun j hj => pset_ne (k := 67) (by omega)) (fun M' hk hm' _ => ?_)
    · rw [sI_row (by omega), h8 j hj, m0]
    · have e67 : M' 2 67 = m_xor (P 67) (m_shl 1 x) := by
        rw [hm', noteP_o (by rw [pset_ne (by omega)]; exact h92) (by omega), pset_eq]
      rw [e67]
      exact q M' hk hm'
  · have e := of_decide_eq_false e
    rw [if_neg e] at q
    exact q _ h0 m0
theorem r_mood (x y : Int) (hP : M 2 = P) (ok : okP P) (h92 : 0 ≤ P 92 ∧ P 92 ≤ 10) (q : ∀ M', KR M M' → M' 2 = (zMood P x y).2 → Φ (zMood P x y).1 M') : CR (d + 3) 241 [(2, 1), (0, x), (0, y)] M n Φ := by
  have hF := ok.F
  have h0 : KR M (sI M 1 0 0) := KR.one (by omega)
  have m0 : (sI M 1 0 0) 2 = P := (sI_row (by omega)).trans hP
  unfold zMood at q
  refine e12_mood (sp_isFarm x (by rw [m0]; omega) ?_)
  rw [m0]
  refine br (fun e => ?_) (fun e => sp_within y 0 9 (br' (fun e2 => ?_) (fun e2 => ?_)))
  · have e := of_decide_eq_false e
    rw [if_neg (fun z => e z.1)] at q
    exact q _ h0 m0
  · have e := of_decide_eq_true e
    have e2 := of_decide_eq_true e2
    rw [if_pos ⟨e, e2⟩] at q
    refine sp_keeps (fun M2 h2 h8 => ?_)
    have m2 : M2 2 = P := (h2 2 (by omega)).trans m0
    have ex : w32 (84 + x) = ((84 + x.toNat : Nat) : Int) := by rw [w32_eq]; omega
    have ex2 : w32 (19 + x) = ((19 + x.toNat : Nat) : Int) := by rw [w32_eq]; omega
    rw [ex, ex2]
    simp only [Int.toNat_natCast]
    refine ⟨⟨by omega, by omega, trivial⟩, sp_kn (P := P) (M := M) h0 m0 ok h92 (r := P (84 + x.toNat)) (Φ := fun r M4 => (0 ≤ ((19 + x.toNat : Nat) : Int) ∧ ((19 + x.toNat : Nat) : Int) < ((27 : Nat) : Int)) ∧ Φ (M4 8 (19 + x.toNat)) M4) (fun j hj => ?_) (h0.trans ((KR.of8 h2).trans (KR.row (a := 2) (by omega)))) (by rw [sI_p, m2]) (fun j hj => pset_ne (k := 84 + x.toNat) (by omega)) (fun M' hk hm' h2' => ?_)⟩
    · rw [sI_row (by omega), h8 j hj, m0]
    · refine ⟨by omega, ?_⟩
      have e8 : M' 8 (19 + x.toNat) = P (84 + x.toNat) := by
        rw [h2' 8 (by omega), sI_row (by omega), h8 _ (by omega), m0, show 65 + (19 + x.toNat) = 84 + x.toNat by omega]
      rw [e8]
      exact q M' hk hm'
  · have e2 := of_decide_eq_false e2
    rw [if_neg (fun z => e2 z.2)] at q
    exact q _ h0 m0
theorem r_go (x : Int) (hP : M 2 = P) (ok : okP P) (h92 : 0 ≤ P 92 ∧ P 92 ≤ 10) (q : ∀ M', KR M M' → M' 2 = (zGo P x).2 → Φ (zGo P x).1 M') : CR (d + 7) 242 [(2, 1), (0, x)] M n Φ := by
  have h0 : KR M (sI M 1 0 0) := KR.one (by omega)
  have m0 : (sI M 1 0 0) 2 = P := (sI_row (by omega)).trans hP
  unfold zGo at q
  refine e12_go (sp_within x 1 99 (br' (fun e => ?_) (fun e => ?_)))
  · have e := of_decide_eq_true e
    rw [if_pos e] at q
    refine sp_keeps (fun M2 h2 h8 => ?_)
    have m2 : M2 2 = P := (h2 2 (by omega)).trans m0
    have key : ∀ k, k ≤ x.toNat → ∀ M', QD M2 M' → M' 2 = (goK P k).1 → W12_go_28 (d + 6) n Φ x ((goK P k).2 : Nat) (k : Nat) M' := by
      refine up (fun M' hM' hm => ?_) (fun k hk ih M' hM' hm => ?_)
      · apply v12_go_28
        refine ⟨fun _ => ?_, fun c => absurd (by omega) c⟩
        refine sp_kn (P := P) (M := M) h0 m0 ok h92 (fun j hj => ?_) (h0.trans ((KR.of8 h2).trans (KR.ofQD hM'))) hm (goK_ok ok _).2.1 (fun M' hk hm' _ => q M' hk hm')
        rw [hM' 8 (by omega) (by omega) (by omega), h8 j hj, m0]
      · apply v12_go_28
        refine ⟨fun c => absurd c (by omega), fun _ => sp_goesTurn hm (goK_ok ok k).1 (fun M3 h3 hm3 => ?_)⟩
        have e1 : w32 (((goK P k).2 : Nat) + (if tb (goK P k).1 < nB (goK P k).1 then 1 else 0)) = (((goK P (k + 1)).2 : Nat) : Int) := by
          have := (goK_ok ok k).2.2
          show _ = (((goK P k).2 + (if tb (goK P k).1 < nB (goK P k).1 then 1 else 0) : Nat) : Int)
          split <;> (rw [w32_id] <;> omega)
        rw [e1, w32_s (by omega)]
        exact ih M3 (hM'.trans h3) hm3
    exact key 0 (Nat.zero_le _) M2 (QD.refl M2) m2
  · have e := of_decide_eq_false e
    rw [if_neg e] at q
    exact q _ h0 m0
theorem r_undo (x : Int) (hP : M 2 = P) (ok : okP P) (h92 : 0 ≤ P 92 ∧ P 92 ≤ 10) (q : ∀ M', KR M M' → M' 2 = (zUndo P x).2 → Φ (zUndo P x).1 M') : CR (d + 2) 243 [(2, 1), (0, x)] M n Φ := by
  have h0 : KR M (sI M 1 0 0) := KR.one (by omega)
  have m0 : (sI M 1 0 0) 2 = P := (sI_row (by omega)).trans hP
  unfold zUndo at q
  refine e12_undo (sp_within x 1 10 ?_)
  rw [m0]
  refine br (fun e => ?_) (fun e => ⟨fun c => ?_, fun c => ?_⟩)
  · have e := of_decide_eq_false e
    rw [if_neg (fun z => e z.1)] at q
    exact q _ h0 m0
  · have e := of_decide_eq_true e
    rw [if_pos ⟨e, c⟩] at q
    rw [w32_id (x := P 92 - x) (by omega) (by omega)]
    have key : ∀ k, k ≤ 27 → ∀ M', (∀ a, a ≠ 2 → M' a = sI M 1 0 0 a) → (∀ j, M' 2 j = if j = 92 then P 92 - x else if 65 ≤ j ∧ j < 65 + k then P (93 + 27 * (P 92 - x).toNat + (j - 65)) else P j) → W12_undo_44 (d + 1) n Φ (k : Nat) M' := by
      refine up (fun M' hM' hj => ?_) (fun k hk ih M' hM' hj => ?_)
      · apply v12_undo_44
        refine ⟨fun _ => ?_, fun c => absurd (by decide) c⟩
        have e92 : M' 2 92 = P 92 - x := by rw [hj 92, if_pos rfl]
        rw [e92]
        exact q M' (h0.trans (KR.of2 hM')) (funext hj)
      · apply v12_undo_44
        have e92 : M' 2 92 = P 92 - x := by rw [hj 92, if_pos rfl]
        have ei : w32 (w32 (93 + w32 (27 * (P 92 - x))) + (k : Int)) = ((93 + 27 * (P 92 - x).toNat + k : Nat) : Int) := by
          rw [w32_id (x := 27 * (P 92 - x)) (by omega) (by omega), w32_id (x := 93 + 27 * (P 92 - x)) (by omega) (by omega), w32_id (by omega) (by omega)]
          omega
        rw [e92, ei, wA 65 k (65 + k) (by omega) (by omega), w32_s (by omega)]
        simp only [Int.toNat_natCast]
        refine ⟨fun c => absurd c (by omega), fun _ => ⟨by omega, ⟨by omega, by omega, trivial⟩, ih _ (fun a ha => (sI_row ha).trans (hM' a ha)) (fun j => ?_)⟩⟩
        rw [sI_if]
        by_cases e1 : j = 65 + k
        · rw [if_pos e1, e1, if_neg (by omega), if_pos (by omega), hj, if_neg (by omega), if_neg (by omega), show 65 + k - 65 = k by omega]
        · rw [if_neg e1, hj j]
          by_cases e2 : j = 92
          · rw [if_pos e2, if_pos e2]
          · rw [if_neg e2, if_neg e2]
            by_cases c : 65 ≤ j ∧ j < 65 + k
            · rw [if_pos c, if_pos (by omega)]
            · rw [if_neg c, if_neg (by omega)]
    refine key 0 (Nat.zero_le _) _ (fun a ha => sI_row ha) (fun j => ?_)
    rw [sI_if]
    by_cases e2 : j = 92
    · rw [if_pos e2, if_pos e2]
    · rw [if_neg e2, if_neg e2, if_neg (by omega), m0]
  · rw [if_neg (fun z => c z.2)] at q
    exact q _ h0 m0
theorem sp_talesNow (hP : M 2 = P) (ok : okP P) (q : Φ (talesN P : Nat) M) : CR (d + 2) 248 [(2, 1)] M n Φ := by
  obtain ⟨eF, hF1, hF2⟩ := ok.nFe
  have key : ∀ k, k ≤ nF P → W12_talesNow_4 (d + 1) n Φ (orK P k : Nat) (k : Nat) M := by
    refine up ?_ (fun k hk ih => ?_)
    · apply v12_talesNow_4
      have := orK_lt ok _ hF2
      rw [hP, eF]
      exact ⟨fun _ => sp_bitsOf _ (by omega) q, fun c => absurd (Int.le_refl _) c⟩
    · apply v12_talesNow_4
      rw [hP, eF, wA 68 k (68 + k) (by omega) (by omega), w32_s (by omega), Int.toNat_natCast, or_orK ok (by omega)]
      exact ⟨fun c => absurd c (by omega), fun _ => ⟨by omega, ih⟩⟩
  exact e12_talesNow (key 0 (Nat.zero_le _))
theorem sp_doubtsAll (hP : M 2 = P) (ok : okP P) (q : Φ (doubtsN P) M) : CR (d + 1) 249 [(2, 1)] M n Φ := by
  obtain ⟨eF, hF1, hF2⟩ := ok.nFe
  have key : ∀ k, k ≤ nF P → W12_doubtsAll_4 d n Φ (sumK P k) (k : Nat) M := by
    refine up ?_ (fun k hk ih => ?_)
    · apply v12_doubtsAll_4
      rw [hP, eF]
      exact ⟨fun _ => q, fun c => absurd (Int.le_refl _) c⟩
    · apply v12_doubtsAll_4
      rw [hP, eF, wA 76 k (76 + k) (by omega) (by omega), w32_s (by omega), Int.toNat_natCast]
      exact ⟨fun c => absurd c (by omega), fun _ => ⟨by omega, ih⟩⟩
  exact e12_doubtsAll (key 0 (Nat.zero_le _))
theorem sp_noTray (t : Int) (q : Φ (noT (M 20) t) M) : CR (d + 2) 247 [(2, 1), (0, t)] M n Φ := by
  unfold noT at q
  refine e12_noTray (sp_within t 0 3 (br' (fun e => ?_) (fun e => ?_)))
  · have e := of_decide_eq_true e
    rw [if_pos e] at q
    refine ⟨by omega, fun c => ?_, fun c => ?_⟩
    · rw [if_neg c] at q; exact q
    · rw [if_pos (Decidable.not_not.mp c)] at q; exact q
  · have e := of_decide_eq_false e
    rw [if_neg e] at q
    exact q
/-- what a tray's deeds leave: their row, why the last could not be -/
def QE (M M' : Nat → Nat → Int) : Prop := (∀ a, a ≠ 1 → a ≠ 2 → a ≠ 6 → a ≠ 7 → M' a = M a) ∧ (∀ k, k ≠ 19 → M' 1 k = M 1 k)
theorem QE.refl (M : Nat → Nat → Int) : QE M M := ⟨fun _ _ _ _ _ => rfl, fun _ _ => rfl⟩
theorem QE.trans {M M' N : Nat → Nat → Int} (h : QE M M') (h2 : QE M' N) : QE M N := ⟨fun a h1 h3 h6 h7 => (h2.1 a h1 h3 h6 h7).trans (h.1 a h1 h3 h6 h7), fun k hk => (h2.2 k hk).trans (h.2 k hk)⟩
theorem QE.ofQD {M M' : Nat → Nat → Int} (h : QD M M') : QE M M' := ⟨fun a _ h2 h6 h7 => h a h2 h6 h7, fun k _ => by rw [h 1 (by omega) (by omega) (by omega)]⟩
theorem QE.put {M : Nat → Nat → Int} {x : Int} : QE M (sI M 1 19 x) := ⟨fun a h1 _ _ _ => sI_row h1, fun k hk => sI_ne hk⟩
theorem KR.ofQE {M M' : Nat → Nat → Int} (h : QE M M') : KR M M' := ⟨fun a ha => h.1 a (by omega) (by omega) (by omega) (by omega), fun k hk => h.2 k (by omega)⟩
theorem sp_goesDeeds (t : Nat) (z : Nat) (num : Nat → Int) (ht : t < 4) (hz : z ≤ 40) (hZ : M 21 t = (z : Int)) (hnum : ∀ k, k < z → M 22 (40 * t + k) = num k) (hP : M 2 = P) (ok : okP P) (q : ∀ M', QE M M' → M' 2 = dK P num (dStop P num z) → M' 1 19 = (if dStop P num z < z then whyN (dK P num (dStop P num z)) (num (dStop P num z)) else 0) → Φ (dStop P num z : Nat) M') : CR (d + 8) 246 [(2, 1), (0, (t : Int))] M n Φ := by
  obtain ⟨s1, s2, s3⟩ := dStop_all P num z
  have key : ∀ k, k ≤ dStop P num z → ∀ M', QE M M' → M' 2 = dK P num k → M' 1 19 = 0 → W12_goesDeeds_7 (d + 7) n Φ (t : Nat) (k : Nat) M' := by
    refine up (fun M' hM' m2 m19 => ?_) (fun k hk ih M' hM' m2 m19 => ?_)
    · apply v12_goesDeeds_7
      have m21 : M' 21 t = (z : Int) := by rw [hM'.1 21 (by omega) (by omega) (by omega) (by omega), hZ]
      simp only [Int.toNat_natCast, m21]
      refine ⟨by omega, fun c => ⟨by omega, ?_⟩, fun c => ?_⟩
      · have e : dStop P num z = z := by omega
        have q' := q M' hM' m2 (by rw [if_neg (by omega), m19])
        rw [e] at q'
        exact q'
      · have hlt : dStop P num z < z := by omega
        have ei : w32 (w32 (40 * (t : Int)) + ((dStop P num z : Nat) : Int)) = ((40 * t + dStop P num z : Nat) : Int) := by
          rw [w32_id (x := 40 * (t : Int)) (by omega) (by omega), w32_id (by omega) (by omega)]; omega
        have m22 : M' 22 (40 * t + dStop P num z) = num (dStop P num z) := by rw [hM'.1 22 (by omega) (by omega) (by omega) (by omega), hnum _ hlt]
        rw [ei]
        simp only [Int.toNat_natCast, m22]
        refine ⟨by omega, sp_whyNot _ m2 (dK_ok ok _ s3).1 (fun M2 h2 => ?_)⟩
        have q' := q (sI M2 1 19 (whyN (dK P num (dStop P num z)) (num (dStop P num z)))) (hM'.trans ((QE.ofQD (QD.of67 h2)).trans QE.put)) (by rw [sI_row (by omega), h2 2 (by omega) (by omega), m2]) (by rw [sI_same, if_pos hlt])
        rw [sI_same]
        exact ⟨fun c => absurd c (s2 hlt), fun _ => q'⟩
    · apply v12_goesDeeds_7
      have m21 : M' 21 t = (z : Int) := by rw [hM'.1 21 (by omega) (by omega) (by omega) (by omega), hZ]
      have ei : w32 (w32 (40 * (t : Int)) + (k : Int)) = ((40 * t + k : Nat) : Int) := by
        rw [w32_id (x := 40 * (t : Int)) (by omega) (by omega), w32_id (by omega) (by omega)]; omega
      have m22 : M' 22 (40 * t + k) = num k := by rw [hM'.1 22 (by omega) (by omega) (by omega) (by omega), hnum _ (by omega)]
      have w0 := s3 k hk
      have okk := (dK_ok ok k (fun j hj => s3 j (by omega))).1
      rw [ei, w32_s (by omega)]
      simp only [Int.toNat_natCast, m21, m22]
      refine ⟨by omega, fun c => absurd c (by omega), fun _ => ⟨by omega, sp_whyNot _ m2 okk (fun M2 h2 => ?_)⟩⟩
      rw [sI_same, w0]
      refine ⟨fun _ => ⟨by omega, ?_⟩, fun c => absurd rfl c⟩
      have e22 : sI M2 1 19 0 22 (40 * t + k) = num k := by rw [sI_row (by omega), h2 22 (by omega) (by omega), m22]
      have ev : w32 (num k) = num k := by
        rcases whyN_0 w0 with h1 | ⟨h1, h3, _⟩ | ⟨h1, h3, _⟩ | ⟨h1, h3, _⟩ <;> (rw [w32_id] <;> omega)
      rw [e22, ev]
      refine sp_does _ (P := dK P num k) (by rw [sI_row (by omega), h2 2 (by omega) (by omega), m2]) okk w0 (fun M3 h3 hm3 => ?_)
      refine ih M3 (hM'.trans ((QE.ofQD (QD.of67 h2)).trans (QE.put.trans (QE.ofQD h3)))) hm3 ?_
      rw [h3 1 (by omega) (by omega) (by omega), sI_same]
  exact e12_goesDeeds (key 0 (Nat.zero_le _) _ QE.put (by rw [sI_row (by omega), hP]; rfl) (sI_same _ _ _ _))
theorem r_judge (t x : Int) (hP : M 2 = P) (ok : okP P) (hZ : ∀ i, i < 4 → M 20 i ≠ -1 → 0 ≤ M 21 i ∧ M 21 i ≤ 40) (q : ∀ M', KR M M' → M' 2 = P → Φ (zJudge P (M 20) (M 21) (M 22) t x) M') : CR (d + 9) 250 [(2, 1), (0, t), (0, x)] M n Φ := by
  have h0 : KR M (sI M 1 0 0) := KR.one (by omega)
  have m0 : (sI M 1 0 0) 2 = P := (sI_row (by omega)).trans hP
  have r20 : (sI M 1 0 0) 20 = M 20 := sI_row (by omega)
  unfold zJudge at q
  refine e12_judge (sp_within x 0 3 (br' (fun e => sp_noTray t ⟨fun c => ?_, fun c => ?_⟩) (fun e => ?_)))
  · have e := of_decide_eq_true e
    rw [r20] at c
    rw [if_pos e, if_pos c] at q
    have ht : (0 ≤ t ∧ t ≤ 3) ∧ M 20 t.toNat ≠ -1 := by
      unfold noT at c
      split at c
      · rename_i c1
        split at c
        · omega
        · rename_i c2; exact ⟨c1, c2⟩
      · omega
    have hz := hZ t.toNat (by omega) ht.2
    refine sp_keeps (fun M2 h2 h8 => ?_)
    have m2 : M2 2 = P := (h2 2 (by omega)).trans m0
    rw [show t = (t.toNat : Int) by omega]
    have r21 : M2 21 = M 21 := (h2 21 (by omega)).trans (sI_row (by omega))
    have r22 : M2 22 = M 22 := (h2 22 (by omega)).trans (sI_row (by omega))
    refine sp_goesDeeds t.toNat (M 21 t.toNat).toNat (nmT (M 22) t) (by omega) (by omega) (by rw [r21]; omega) (fun k hk => by rw [r22]; rfl) m2 ok (fun M3 h3 hm3 h19 => ?_)
    obtain ⟨s1, s2, s3⟩ := dStop_all P (nmT (M 22) t) (M 21 t.toNat).toNat
    have okk := (dK_ok ok _ s3).1
    refine sp_talesNow hm3 okk (sp_doubtsAll hm3 okk (sp_isAgain (fun M4 h4 hj4 => ?_)))
    have m4 : M4 2 = P := by
      funext j
      rw [hj4 j]
      by_cases c1 : 65 ≤ j ∧ j < 92
      · rw [if_pos c1, h3.1 8 (by omega) (by omega) (by omega) (by omega), h8 _ (by omega), m0, show 65 + (j - 65) = j by omega]
      · rw [if_neg c1, hm3]
        exact (dK_ok ok _ s3).2 j (by omega)
    have k4 : KR M M4 := h0.trans ((KR.of8 h2).trans ((KR.ofQE h3).trans (KR.of2 h4)))
    have q' := q M4 k4 m4
    have e19 : M4 1 19 = _ := (by rw [h4 1 (by omega)] : M4 1 19 = M3 1 19).trans h19
    rw [e19]
    refine ⟨fun c0 => ⟨fun c1 => ⟨fun c2 => ?_, fun c2 => ?_⟩, fun c1 => ?_⟩, fun c0 => ?_⟩
    · rw [if_neg c0, if_neg c1, if_neg c2] at q'; exact q'
    · rw [if_neg c0, if_neg c1, if_pos (by omega)] at q'; exact q'
    · rw [if_neg c0, if_pos (by omega)] at q'; exact q'
    · rw [if_pos (by omega)] at q'
      by_cases c1 : dStop P (nmT (M 22) t) (M 21 t.toNat).toNat < (M 21 t.toNat).toNat
      · rw [if_pos c1] at q' ⊢
        exact ⟨fun _ => q', fun c2 => absurd (s2 c1) c2⟩
      · rw [if_neg c1] at q' ⊢
        exact ⟨fun c2 => absurd rfl c2, fun _ => q'⟩
  · have e := of_decide_eq_true e
    rw [r20] at c ⊢
    rw [if_pos e, if_neg c] at q
    exact q _ h0 m0
  · have e := of_decide_eq_false e
    rw [if_neg e] at q
    exact q _ h0 m0
theorem r_perform (t : Int) (hP : M 2 = P) (ok : okP P) (h92 : 0 ≤ P 92 ∧ P 92 ≤ 10) (hZ : ∀ i, i < 4 → M 20 i ≠ -1 → 0 ≤ M 21 i ∧ M 21 i ≤ 40) (q : ∀ M', KR M M' → M' 2 = (zPerform P (M 20) (M 21) (M 22) t).2 → Φ (zPerform P (M 20) (M 21) (M 22) t).1 M') : CR (d + 9) 251 [(2, 1), (0, t)] M n Φ := by
  have h0 : KR M (sI M 1 0 0) := KR.one (by omega)
  have m0 : (sI M 1 0 0) 2 = P := (sI_row (by omega)).trans hP
  have r20 : (sI M 1 0 0) 20 = M 20 := sI_row (by omega)
  unfold zPerform at q
  refine e12_perform (sp_noTray t ⟨fun c => ?_, fun c => ?_⟩)
  · rw [r20] at c
    rw [if_pos c] at q
    have ht : (0 ≤ t ∧ t ≤ 3) ∧ M 20 t.toNat ≠ -1 := by
      unfold noT at c
      split at c
      · rename_i c1
        split at c
        · omega
        · rename_i c2; exact ⟨c1, c2⟩
      · omega
    have hz := hZ t.toNat (by omega) ht.2
    refine sp_keeps (fun M2 h2 h8 => ?_)
    have m2 : M2 2 = P := (h2 2 (by omega)).trans m0
    rw [show t = (t.toNat : Int) by omega]
    have r21 : M2 21 = M 21 := (h2 21 (by omega)).trans (sI_row (by omega))
    have r22 : M2 22 = M 22 := (h2 22 (by omega)).trans (sI_row (by omega))
    refine sp_goesDeeds t.toNat (M 21 t.toNat).toNat (nmT (M 22) t) (by omega) (by omega) (by rw [r21]; omega) (fun k hk => by rw [r22]; rfl) m2 ok (fun M3 h3 hm3 _ => ?_)
    obtain ⟨s1, s2, s3⟩ := dStop_all P (nmT (M 22) t) (M 21 t.toNat).toNat
    have k3 : KR M M3 := h0.trans ((KR.of8 h2).trans (KR.ofQE h3))
    refine ⟨fun c1 => ?_, fun c1 => ?_⟩
    · rw [if_neg (by omega)] at q
      exact q M3 k3 hm3
    · rw [if_pos (by omega)] at q
      refine sp_kn (P := P) (M := M) h0 m0 ok h92 (fun j hj => ?_) k3 hm3 (dK_ok ok _ s3).2 (fun M' hk hm' _ => q M' hk hm')
      rw [h3.1 8 (by omega) (by omega) (by omega) (by omega), h8 j hj, m0]
  · rw [r20] at c ⊢
    rw [if_neg c] at q
    exact q _ h0 m0
/-- draws change one number alone -/
def QX (M M' : Nat → Nat → Int) : Prop := ∃ x, M' = sI M 1 20 x
theorem sI_sI (M : Nat → Nat → Int) (a k : Nat) (x y : Int) : sI (sI M a k x) a k y = sI M a k y := by
  funext b j
  unfold sI
  by_cases h : b = a ∧ j = k
  · rw [if_pos h, if_pos h]
  · rw [if_neg h, if_neg h, if_neg h]
theorem sp_draw (b : Int) (hb : b ≠ 0) (q : Φ (drwV (M 1 20) b) (sI M 1 20 (drwX (M 1 20)))) : CR (d + 1) 252 [(2, 1), (0, b)] M n Φ := by
  apply e12_draw
  rw [sI_same]
  exact ⟨hb, q⟩
theorem sp_drawn (q : Φ (dwD (M 1 20)).1 (sI M 1 20 (dwD (M 1 20)).2)) : CR (d + 2) 253 [(2, 1)] M n Φ := by
  unfold dwD at q
  refine e12_drawn (sp_draw 5 (by omega) ⟨fun c => ?_, fun c => ?_⟩)
  · rw [if_pos c] at q
    refine sp_draw 8 (by omega) ?_
    rw [sI_same, sI_sI]
    refine ⟨fun c2 => ?_, fun c2 => ?_⟩
    · rw [if_pos c2] at q
      refine ⟨fun c3 => ?_, fun c3 => ?_⟩
      · rw [if_pos c3] at q
        refine sp_draw 10 (by omega) ?_
        rw [sI_same, sI_sI]
        exact q
      · rw [if_neg c3] at q
        exact q
    · rw [if_neg c2] at q
      refine sp_draw 12 (by omega) ?_
      rw [sI_same, sI_sI]
      exact q
  · rw [if_neg c] at q
    exact q
def QW (M M' : Nat → Nat → Int) : Prop := (∀ a, a ≠ 1 → a ≠ 2 → a ≠ 6 → a ≠ 7 → M' a = M a) ∧ (∀ k, k ≠ 20 → M' 1 k = M 1 k)
theorem QW.trans {M M' N : Nat → Nat → Int} (h : QW M M') (h2 : QW M' N) : QW M N := ⟨fun a h1 h3 h6 h7 => (h2.1 a h1 h3 h6 h7).trans (h.1 a h1 h3 h6 h7), fun k hk => (h2.2 k hk).trans (h.2 k hk)⟩
theorem QW.ofQD {M M' : Nat → Nat → Int} (h : QD M M') : QW M M' := ⟨fun a _ h2 h6 h7 => h a h2 h6 h7, fun k _ => by rw [h 1 (by omega) (by omega) (by omega)]⟩
theorem QW.put {M : Nat → Nat → Int} {x : Int} : QW M (sI M 1 20 x) := ⟨fun a h1 _ _ _ => sI_row h1, fun k hk => sI_ne hk⟩
theorem KR.ofQW {M M' : Nat → Nat → Int} (h : QW M M') : KR M M' := ⟨fun a ha => h.1 a (by omega) (by omega) (by omega) (by omega), fun k hk => h.2 k (by omega)⟩
theorem winK_s (P : Nat → Int) (x : Int) (k : Nat) : winK P x (k + 1) = if whyN (winK P x k).1 (dwD (winK P x k).2.1).1 = 0 then (doesP (winK P x k).1 (dwD (winK P x k).2.1).1, (dwD (winK P x k).2.1).2, (winK P x k).2.2 + 1) else ((winK P x k).1, (dwD (winK P x k).2.1).2, (winK P x k).2.2) := rfl
theorem r_winter (x t : Int) (hP : M 2 = P) (ok : okP P) (h92 : 0 ≤ P 92 ∧ P 92 ≤ 10) (q : ∀ M', KR M M' → M' 2 = (zWinter P x t).2 → Φ (zWinter P x t).1 M') : CR (d + 8) 254 [(2, 1), (0, x), (0, t)] M n Φ := by
  have h0 : KR M (sI M 1 0 0) := KR.one (by omega)
  have m0 : (sI M 1 0 0) 2 = P := (sI_row (by omega)).trans hP
  unfold zWinter at q
  refine e12_winter (sp_within t 1 40 (br' (fun e => ?_) (fun e => ?_)))
  · have e := of_decide_eq_true e
    rw [if_pos e] at q
    refine sp_keeps (fun M2 h2 h8 => ?_)
    have m2 : M2 2 = P := (h2 2 (by omega)).trans m0
    have key : ∀ k, k ≤ t.toNat → ∀ M', QW M2 M' → M' 2 = (winK P x k).1 → M' 1 20 = (winK P x k).2.1 → W12_winter_34 (d + 7) n Φ t ((winK P x k).2.2 : Nat) (k : Nat) M' := by
      refine up (fun M' hM' hm hx => ?_) (fun k hk ih M' hM' hm hx => ?_)
      · apply v12_winter_34
        refine ⟨fun _ => ⟨fun c => ?_, fun c => ?_⟩, fun c => absurd (by omega) c⟩
        · rw [if_neg (by omega)] at q
          exact q M' (h0.trans ((KR.of8 h2).trans (KR.ofQW hM'))) hm
        · rw [if_pos (by omega)] at q
          refine sp_kn (P := P) (M := M) h0 m0 ok h92 (fun j hj => ?_) (h0.trans ((KR.of8 h2).trans (KR.ofQW hM'))) hm (winK_ok ok x _).2.1 (fun M' hk hm' _ => q M' hk hm')
          rw [hM'.1 8 (by omega) (by omega) (by omega) (by omega), h8 j hj, m0]
      · apply v12_winter_34
        refine ⟨fun c => absurd c (by omega), fun _ => sp_drawn ?_⟩
        rw [hx]
        obtain ⟨o1, o2, o3⟩ := winK_ok ok x k
        have es := winK_s P x k
        refine sp_whyNot _ (P := (winK P x k).1) (by rw [sI_row (by omega)]; exact hm) o1 (fun M3 h3 => ⟨fun c => ?_, fun c => ?_⟩)
        · rw [if_pos c] at es
          have m3 : M3 2 = (winK P x k).1 := by rw [h3 2 (by omega) (by omega), sI_row (by omega)]; exact hm
          refine sp_does _ m3 o1 c (fun M4 h4 hm4 => ?_)
          rw [w32_s (by omega), w32_s (by omega)]
          have ih' := ih M4 (hM'.trans (QW.put.trans ((QW.ofQD (QD.of67 h3)).trans (QW.ofQD h4))))
          rw [es] at ih'
          refine ih' hm4 ?_
          rw [h4 1 (by omega) (by omega) (by omega), h3 1 (by omega) (by omega), sI_same]
        · rw [if_neg c] at es
          have ih' := ih M3 (hM'.trans (QW.put.trans (QW.ofQD (QD.of67 h3))))
          rw [es] at ih'
          rw [w32_s (by omega)]
          refine ih' (by rw [h3 2 (by omega) (by omega), sI_row (by omega)]; exact hm) ?_
          rw [h3 1 (by omega) (by omega), sI_same]
    refine key 0 (Nat.zero_le _) _ QW.put (by rw [sI_row (by omega)]; exact m2) (sI_same _ _ _ _)
  · have e := of_decide_eq_false e
    rw [if_neg e] at q
    exact q _ h0 m0
end
