/-! ===== deeds: the class's public calls ===== -/
def KD (M M' : Nat → Nat → Int) : Prop := ∀ a, (a < 4 ∨ (10 ≤ a ∧ a < 38) ∨ a = 44 ∨ 85 ≤ a) → M' a = M a
theorem KD.refl (M : Nat → Nat → Int) : KD M M := fun _ _ => rfl
theorem KD.trans {M M' N : Nat → Nat → Int} (h : KD M M') (h2 : KD M' N) : KD M N := fun a ha => (h2 a ha).trans (h a ha)
theorem KD.ofQS {M M' : Nat → Nat → Int} (h : QS M M') : KD M M' := fun a ha => h a (by omega)
theorem KD.of43 {M M' : Nat → Nat → Int} (h : Q43 M M') : KD M M' := fun a ha => h a (by omega) (by omega)
theorem KD.ofP {M M' : Nat → Nat → Int} (h : ∀ c, c ≠ 9 → c < 45 ∨ 84 < c → M' c = M c) : KD M M' := fun a ha => h a (by omega) (by omega)
theorem KD.ofB {M M' : Nat → Nat → Int} {b : Nat} (hb : b = 5 ∨ b = 38) (h : ∀ c, c < b ∨ b + 3 < c → M' c = M c) : KD M M' := fun a ha => h a (by omega)
theorem noteP_hi {u P P' : Nat → Int} (h : ∀ j, 92 ≤ j → P' j = P j) {j : Nat} (hj : 92 ≤ j) : noteP u P' j = noteP u P j := by
  unfold noteP
  rw [h 92 (by omega)]
  by_cases e : j = 92
  · rw [if_pos e, if_pos e]
  · rw [if_neg e, if_neg e, h j hj, h (j + 27) (by omega)]
theorem relW.lo {M : Nat → Nat → Int} {P P' : Nat → Int} (r : relW M P) (ok : okP P) (h : ∀ j, j < 92 ∨ 363 ≤ j → P' j = P j) : relW M P' := by
  refine relW.mk' (r.stL ok (fun _ _ _ => rfl) (fun j hj => h j (by omega))) ?_ ?_ ?_ (fun f hf => ?_) (fun f hf => ?_) (fun f hf => ?_)
  · rw [h 65 (by omega)]; exact r.turn
  · rw [h 66 (by omega)]; exact r.told
  · rw [h 67 (by omega)]; exact r.cut
  · rw [h _ (by omega)]; exact r.at hf
  · rw [h _ (by omega)]; exact r.doubt hf
  · rw [h _ (by omega)]; exact r.mood hf
/-- behind keeping and a deed both hold of what was noted -/
theorem relWU {w : cQ} {s : Nat → Nat} {M2 M3 : Nat → Nat → Int} {P P' : Nat → Int} (h92 : 0 ≤ P 92 ∧ P 92 ≤ 10) (ok' : okP P') (u : relU (stF w s) M2 (noteP (uP P) P)) (hm : ∀ c, c = 9 ∨ (45 ≤ c ∧ c ≤ 84) → M3 c = M2 c) (r : relW M3 P') (hst : stO P P') : relW M3 (noteP (uP P) P') ∧ relU (stF w s) M3 (noteP (uP P) P') := by
  have h92' : 0 ≤ P' 92 ∧ P' 92 ≤ 10 := by rw [hst 92 (by omega)]; exact h92
  refine ⟨r.lo ok' (fun j hj => noteP_o h92' (by omega)), u.congr ?_ (hm 9 (by omega)) (fun c h1 h2 => hm c (by omega)) (fun j h1 h2 => noteP_hi (fun i hi => hst i (by omega)) h1)⟩
  unfold noteP
  rw [if_pos rfl]
  split <;> omega
section
variable {d : Nat} {n : Nat × Nat} {Φ : Int → (Nat → Nat → Int) → Prop} {Ψ : Int → cQ → (Nat → Nat → Int) → Nat × Nat → Prop} {M : Nat → Nat → Int} {w : cQ} {P S Z U : Nat → Int}
theorem c_tell (x y : Int) (r : relW M P) (u : relU w M P) (ok : okP P) (h92 : 0 ≤ P 92 ∧ P 92 ≤ 10) (q : ∀ s M', KD M M' → relW M' (zTell P x y).2 → relU (stF w s) M' (zTell P x y).2 → Ψ (zTell P x y).1 (stF w s) M' n) : CW (d + 5) 128 [(2, 1), (0, x), (0, y)] w M n Ψ := by
  have hF := ok.F
  have hB := ok.B
  unfold zTell at q
  refine e11_tell (c_whyNotTell x y r ok (fun M1 h1 => ⟨fun c => ?_, fun c => ?_⟩))
  · rw [if_pos c] at q
    obtain ⟨a1, a2, a3, a4, _⟩ := whyT_0 c
    have r1 := r.q h1
    have u1 : relU w M1 P := u.congr h92 (h1 9 (by omega) (by omega)) (fun c h2 h3 => h1 c (by omega) (by omega)) (fun _ _ _ => rfl)
    refine c_keep (P := P) 38 (Or.inr rfl) r1.2 u1 h92 (fun s M2 h2 u2 => ?_)
    have r2 : relW M2 P := r1.congr (fun b h3 h4 => h2 b (by omega) (by omega))
    rw [show x = (x.toNat : Int) by omega, show y = (y.toNat : Int) by omega]
    refine sp_say _ _ r2 ok (by omega) (by omega) (fun M3 h3 r3 => ?_)
    obtain ⟨g1, g2⟩ := relWU h92 (tellP_ok ok (by omega) (by omega)) u2 (fun c hc => h3 c (by omega)) r3 (tellP_stO ok (by omega))
    exact q s M3 ((KD.of43 h1).trans ((KD.ofP h2).trans (KD.ofQS h3))) g1 g2
  · rw [if_neg c] at q
    have q' := q (stw w) M1 (KD.of43 h1) (r.q h1)
    rw [stF_self] at q'
    exact q' (u.congr h92 (h1 9 (by omega) (by omega)) (fun c h2 h3 => h1 c (by omega) (by omega)) (fun _ _ _ => rfl))
theorem c_cut (x : Int) (r : relW M P) (u : relU w M P) (ok : okP P) (h92 : 0 ≤ P 92 ∧ P 92 ≤ 10) (q : ∀ s M', KD M M' → relW M' (zCut P x).2 → relU (stF w s) M' (zCut P x).2 → Ψ (zCut P x).1 (stF w s) M' n) : CW (d + 3) 129 [(2, 1), (0, x)] w M n Ψ := by
  have hF := ok.F
  unfold zCut at q
  refine e11_cut (c_isWire x r ok (br' (fun e => ?_) (fun e => ?_)))
  · have e := of_decide_eq_true e
    rw [if_pos e] at q
    refine c_keep (P := P) 38 (Or.inr rfl) r.2 u h92 (fun s M2 h2 u2 => ?_)
    have r2 : relW M2 P := r.congr (fun b h3 h4 => h2 b (by omega) (by omega))
    rw [sI_same, r2.cut]
    have hc := ok.cut
    obtain ⟨e1, e2⟩ := xor_b (c := (P 67).toNat) (k := x.toNat) (by omega) (by omega)
    rw [Int.toNat_of_nonneg (by omega), Int.toNat_of_nonneg (by omega)] at e1
    obtain ⟨g1, g2⟩ := relWU (P' := pset P 67 (m_xor (P 67) (m_shl 1 x))) (M3 := sI M2 38 3 (m_xor (P 67) (m_shl 1 x))) h92 (set67 ok (by rw [e1]; omega)) u2 (fun c hc => sI_row (by omega)) (r2.f_set ok (Or.inr (Or.inr ⟨rfl, rfl⟩))) (fun j hj => pset_ne (by omega))
    exact q s _ ((KD.ofP h2).trans (fun a ha => sI_row (by omega))) g1 g2
  · have e := of_decide_eq_false e
    rw [if_neg e] at q
    have q' := q (stw w) M (KD.refl M) r
    rw [stF_self] at q'
    exact q' u
theorem c_mood (x y : Int) (r : relW M P) (u : relU w M P) (ok : okP P) (h92 : 0 ≤ P 92 ∧ P 92 ≤ 10) (q : ∀ s M', KD M M' → relW M' (zMood P x y).2 → relU (stF w s) M' (zMood P x y).2 → Ψ (zMood P x y).1 (stF w s) M' n) : CW (d + 3) 130 [(2, 1), (0, x), (0, y)] w M n Ψ := by
  have hF := ok.F
  unfold zMood at q
  have no : ¬ ((0 ≤ x ∧ x < P 1) ∧ 0 ≤ y ∧ y ≤ 9) → Ψ (-11) w M n := by
    intro c
    rw [if_neg c] at q
    have q' := q (stw w) M (KD.refl M) r
    rw [stF_self] at q'
    exact q' u
  refine e11_mood (c_isFarm x r (br (fun e => ?_) (fun e => ⟨fun c => no (by omega), fun c => ⟨fun c2 => ?_, fun c2 => no (by omega)⟩⟩)))
  · have e := of_decide_eq_false e
    exact no (by omega)
  · have e := of_decide_eq_true e
    rw [if_pos ⟨e, by omega⟩] at q
    refine c_keep (P := P) 38 (Or.inr rfl) r.2 u h92 (fun s M2 h2 u2 => ?_)
    have r2 : relW M2 P := r.congr (fun b h3 h4 => h2 b (by omega) (by omega))
    rw [r2.mood (by omega)]
    obtain ⟨g1, g2⟩ := relWU (P' := pset P (84 + x.toNat) y) (M3 := sI M2 41 x.toNat y) h92 (set84 ok (by omega) (by omega)) u2 (fun c hc => sI_row (by omega)) (r2.mood_set ok (by omega)) (fun j hj => pset_ne (by omega))
    exact ⟨by omega, ⟨by omega, by omega, trivial⟩, q s _ ((KD.ofP h2).trans (fun a ha => sI_row (by omega))) g1 g2⟩
theorem turn66 {P : Nat → Int} (ok : okP P) : turnP P 66 = if tb P < nB P then w32 (P 66 + 1) else P 66 := by
  unfold turnP
  split
  · unfold tellP
    rw [pset_eq, pset_ne (by omega)]
  · rw [pset_ne (by omega)]
theorem go66 {P : Nat → Int} (ok : okP P) : ∀ k, ∃ t : Int, (goK P k).1 66 = P 66 + ((goK P k).2 : Nat) + 4294967296 * t
  | 0 => ⟨0, by show P 66 = P 66 + ((0 : Nat) : Int) + 4294967296 * 0; omega⟩
  | k + 1 => by
    obtain ⟨t, ht⟩ := go66 ok k
    have e1 : (goK P (k + 1)).1 66 = if tb (goK P k).1 < nB (goK P k).1 then w32 ((goK P k).1 66 + 1) else (goK P k).1 66 := turn66 (goK_ok ok k).1
    have e2 : (goK P (k + 1)).2 = (goK P k).2 + (if tb (goK P k).1 < nB (goK P k).1 then 1 else 0) := rfl
    rw [e1, e2]
    by_cases c : tb (goK P k).1 < nB (goK P k).1
    · rw [if_pos c, if_pos c, w32_eq, ht]
      refine ⟨t - (P 66 + ((goK P k).2 : Nat) + 4294967296 * t + 1 + 2147483648) / 4294967296, ?_⟩
      have := Int.emod_add_mul_ediv (P 66 + ((goK P k).2 : Nat) + 4294967296 * t + 1 + 2147483648) 4294967296
      omega
    · rw [if_neg c, if_neg c]
      exact ⟨t, by rw [ht]; omega⟩
theorem whyN_m1 (P : Nat → Int) : whyN P (-1) = 0 := if_pos rfl
theorem doesP_m1 (P : Nat → Int) : doesP P (-1) = turnP P := if_pos rfl
theorem c_go (x : Int) (r : relW M P) (u : relU w M P) (ok : okP P) (h92 : 0 ≤ P 92 ∧ P 92 ≤ 10) (q : ∀ s M', KD M M' → relW M' (zGo P x).2 → relU (stF w s) M' (zGo P x).2 → Ψ (zGo P x).1 (stF w s) M' n) : CW (d + 7) 131 [(2, 1), (0, x)] w M n Ψ := by
  unfold zGo at q
  have no : ¬ (1 ≤ x ∧ x ≤ 99) → Ψ (-3) w M n := by
    intro c
    rw [if_neg c] at q
    have q' := q (stw w) M (KD.refl M) r
    rw [stF_self] at q'
    exact q' u
  refine e11_go ⟨fun c => no (by omega), fun c => ⟨fun c2 => ?_, fun c2 => no (by omega)⟩⟩
  rw [if_pos (by omega)] at q
  refine c_keep (P := P) 38 (Or.inr rfl) r.2 u h92 (fun s M2 h2 u2 => ?_)
  have r2 : relW M2 P := r.congr (fun b h3 h4 => h2 b (by omega) (by omega))
  rw [r2.told]
  have key : ∀ k, k ≤ x.toNat → ∀ M', QS M2 M' → relW M' (goK P k).1 → W11_go_41 (d + 6) Ψ x (P 66) (k : Nat) (stF w s) M' n := by
    refine up (fun M' hM' r' => ?_) (fun k hk ih M' hM' r' => ?_)
    · apply v11_go_41
      refine ⟨fun _ => ?_, fun c => absurd (by omega) c⟩
      obtain ⟨t, ht⟩ := go66 ok x.toNat
      obtain ⟨o1, o2, o3⟩ := goK_ok ok x.toNat
      have e : w32 (M' 38 5 - P 66) = (((goK P x.toNat).2 : Nat) : Int) := by
        rw [r'.told, ht, w32_eq]
        omega
      rw [e]
      obtain ⟨g1, g2⟩ := relWU h92 o1 u2 (fun c hc => hM' c (by omega)) r' o2
      exact q s M' ((KD.ofP h2).trans (KD.ofQS hM')) g1 g2
    · apply v11_go_41
      refine ⟨fun c => absurd c (by omega), fun _ => c_attempt (-1) r' (goK_ok ok k).1 (fun M3 h3 r3 => ?_)⟩
      rw [whyN_m1, if_pos rfl, doesP_m1] at r3
      rw [w32_s (by omega)]
      exact ih M3 (hM'.trans h3) r3
  exact key 0 (Nat.zero_le _) M2 (QS.refl M2) r2
theorem c_undo (x : Int) (r : relW M P) (u : relU w M P) (ok : okP P) (h92 : 0 ≤ P 92 ∧ P 92 ≤ 10) (q : ∀ M', KD M M' → relW M' (zUndo P x).2 → relU w M' (zUndo P x).2 → Φ (zUndo P x).1 M') : CF (d + 3) 132 [(2, 1), (0, x)] w M n Φ := by
  unfold zUndo at q
  have no : ¬ ((1 ≤ x ∧ x ≤ 10) ∧ x ≤ P 92) → Φ (-3) M := by
    intro c
    rw [if_neg c] at q
    exact q M (KD.refl M) r u
  obtain ⟨u1, u2, u3⟩ := u
  apply e11_undo
  rw [u1]
  refine ⟨fun c => no (by omega), fun c => ⟨fun c2 => no (by omega), fun c2 => ⟨fun c3 => ?_, fun c3 => no (by omega)⟩⟩⟩
  rw [if_pos (by omega)] at q
  apply e3_bringBack
  rw [u1, sI_same, w32_id (by omega) (by omega), rf44 w (by omega)]
  obtain ⟨j, hj, ej⟩ := u2.1 (P 92 - x).toNat (by omega)
  have r0 := u3 (P 92 - x).toNat (by omega)
  rw [ej] at r0 ⊢
  refine ⟨fun c => absurd c (by omega), fun _ => ⟨fun c => absurd c (by omega), fun _ => ⟨by omega, sp_copyS 38 _ (isSt_38 w) (isSt_p w j hj) (by omega) (r0.congr (fun c h1 h2 => sI_row (by omega))) (fun M1 h1 r1 => ?_)⟩⟩⟩
  have m9 : M1 9 1 = P 92 - x := by rw [h1 9 (by omega), sI_same]
  rw [m9]
  have hu : ∀ j, j < 65 ∨ 93 ≤ j → undoP P x j = P j := by
    intro j hj
    unfold undoP
    rw [if_neg (by omega), if_neg (by omega)]
  have h92' : undoP P x 92 = P 92 - x := if_pos rfl
  refine q M1 (fun a ha => by rw [h1 a (by omega), sI_row (by omega)]) ⟨?_, r1.ext (fun k hk => ?_)⟩ ⟨m9.trans h92'.symm, u2, fun i hi => ?_⟩
  · exact r.stL ok (fun b h3 h4 => by rw [h1 b (by omega), sI_row (by omega)]) (fun j hj => hu j (by omega))
  · show undoP P x (65 + k) = _
    unfold undoP
    rw [if_neg (by omega), if_pos (by omega), show 65 + k - 65 = k by omega]
  · have hi : (i : Int) < undoP P x 92 := hi
    rw [h92'] at hi
    obtain ⟨j2, hj2, ej2⟩ := u2.1 i (by omega)
    refine ((u3 i (by omega)).ext (fun k hk => hu _ (by omega))).congr (fun c h2 h3 => ?_)
    rw [ej2] at h2 h3
    rw [h1 c (by omega), sI_row (by omega)]
theorem c_verdict (t z : Nat) (x : Int) (num : Nat → Int) (ht : t < 4) (rt : relT M S Z U) (hs : S t ≠ -1) (hz : Z t = (z : Int)) (hnum : ∀ k, k < z → U (40 * t + k) = num k) (ok : okP P) (r : relW M (dK P num (dStop P num z))) (hx : 0 ≤ x ∧ x ≤ 3) (q : ∀ M', Q43 M M' → Φ (if x = 0 then (if dStop P num z < z then ((dStop P num z : Nat) : Int) else -1) else if x = 1 then (if dStop P num z < z then whyN (dK P num (dStop P num z)) (num (dStop P num z)) else 0) else if x = 2 then (talesN (dK P num (dStop P num z)) : Nat) else doubtsN (dK P num (dStop P num z))) M') : CF (d + 6) 134 [(2, 1), (2, ((85 + 2 * t : Nat) : Int)), (0, x), (0, (dStop P num z : Nat))] w M n Φ := by
  obtain ⟨s1, s2, s3⟩ := dStop_all P num z
  have okk := (dK_ok ok _ s3).1
  have b := (isTr_t w t ht).1.1
  have q0 := q M (Q43.refl M)
  apply e11_verdict
  rw [((rt t ht).2 hs).2.1, hz]
  refine ⟨b, fun c => ⟨fun c0 => ?_, fun c0 => ⟨fun c1 => ⟨b, c_at t _ ht rt hs (by omega) ?_⟩, fun c1 => ⟨fun c2 => c_unlikeMoments r okk ?_, fun c2 => c_allDoubts r okk ?_⟩⟩⟩, fun c => ⟨fun c0 => ?_, fun c0 => ⟨fun c1 => ?_, fun c1 => ⟨fun c2 => c_unlikeMoments r okk ?_, fun c2 => c_allDoubts r okk ?_⟩⟩⟩⟩
  · rw [if_pos c0, if_pos (by omega)] at q0; exact q0
  · rw [hnum _ (by omega)]
    refine c_whyNot _ r okk (fun M' hM' => ?_)
    have q1 := q M' hM'
    rw [if_neg c0, if_pos c1, if_pos (by omega)] at q1; exact q1
  · rw [if_neg c0, if_neg c1, if_pos c2] at q0; exact q0
  · rw [if_neg c0, if_neg c1, if_neg c2] at q0; exact q0
  · rw [if_pos c0, if_neg (by omega)] at q0; exact q0
  · rw [if_neg c0, if_pos c1, if_neg (by omega)] at q0; exact q0
  · rw [if_neg c0, if_neg c1, if_pos c2] at q0; exact q0
  · rw [if_neg c0, if_neg c1, if_neg c2] at q0; exact q0
theorem c_judge (t x : Int) (r : relW M P) (rt : relT M S Z U) (ok : okP P) (q : ∀ M', KD M M' → (∀ c, c = 9 ∨ (45 ≤ c ∧ c ≤ 84) → M' c = M c) → relW M' P → Φ (zJudge P S Z U t x) M') : CF (d + 8) 133 [(2, 1), (0, t), (0, x)] w M n Φ := by
  unfold zJudge at q
  have q0 := q M (KD.refl M) (fun _ _ => rfl) r
  refine e11_judge (c_isTray t (br (fun e => ?_) (fun e => ⟨fun c => ?_, fun c => ⟨fun c2 => ?_, fun c2 => ?_⟩⟩)))
  · have e := of_decide_eq_false e
    have en : noT S t = -2 := if_neg e
    by_cases cx : 0 ≤ x ∧ x ≤ 3
    · rw [if_pos cx, en, if_neg (by omega)] at q0; exact q0
    · rw [if_neg cx] at q0; exact q0
  · rw [if_neg (by omega)] at q0; exact q0
  · have e := of_decide_eq_true e
    obtain ⟨b, hb⟩ := isTr_t w t.toNat (by omega)
    rw [hb]
    refine ⟨by omega, b.1, c_isMissing _ (by omega) rt ?_⟩
    refine br (fun e2 => ?_) (fun e2 => ?_)
    · have e2 := of_decide_eq_false e2
      have en : noT S t = 0 := by unfold noT; rw [if_pos e, if_neg e2]
      rw [if_pos (by omega), en, if_pos rfl] at q
      obtain ⟨_, z1, z2, z3, z4⟩ := (rt _ (by omega)).2 e2
      refine sp_copyS 5 38 (isSt_5 w) (isSt_38 w) (by omega) r.2 (fun M1 h1 r1 => ?_)
      have rw1 : relW M1 P := r.congr (fun b h3 h4 => h1 b (by omega))
      have rt1 : relT M1 S Z U := rt.congr (fun b h3 h4 => h1 b (by omega))
      refine c_doAll t.toNat (Z t.toNat).toNat (nmT U t) (by omega) rt1 e2 (by omega) (fun k hk => rfl) rw1 ok (fun M2 h2 r2 => ?_)
      have rt2 : relT M2 S Z U := rt1.congr (fun b h3 h4 => h2 b (by omega))
      obtain ⟨s1, s2, s3⟩ := dStop_all P (nmT U t) (Z t.toNat).toNat
      refine c_verdict t.toNat (Z t.toNat).toNat x (nmT U t) (by omega) rt2 e2 (by omega) (fun k hk => rfl) ok r2 (by omega) (fun M3 h3 => ?_)
      have r5 : relS M3 5 (fun j => P (65 + j)) := r1.congr (fun b h4 h5 => by rw [h3 b (by omega) (by omega), h2 b (by omega)])
      refine sp_copyS 38 5 (isSt_38 w) (isSt_5 w) (by omega) r5 (fun M4 h4 r4 => q M4 (fun a ha => ?_) (fun a ha => ?_) ⟨?_, r4⟩)
      · rw [h4 a (by omega), h3 a (by omega) (by omega), h2 a (by omega), h1 a (by omega)]
      · rw [h4 a (by omega), h3 a (by omega) (by omega), h2 a (by omega), h1 a (by omega)]
      · refine r.1.congr (fun a h5 h6 => ?_)
        rw [h4 a (by omega), h3 a (by omega) (by omega), h2 a (by omega), h1 a (by omega)]
    · have e2 := of_decide_eq_true e2
      have en : noT S t = -6 := by unfold noT; rw [if_pos e, if_pos e2]
      rw [if_pos (by omega), en, if_neg (by omega)] at q0
      exact q0
  · rw [if_neg (by omega)] at q0; exact q0
theorem c_keptIfAny (x : Int) {P' : Nat → Int} (r5 : relS M 5 (fun j => P (65 + j))) (r : relW M P') (u : relU w M P) (ok' : okP P') (hst : stO P P') (h92 : 0 ≤ P 92 ∧ P 92 ≤ 10) (q : ∀ s M', KD M M' → relW M' (if 0 < x then noteP (uP P) P' else P') → relU (stF w s) M' (if 0 < x then noteP (uP P) P' else P') → Ψ x (stF w s) M' n) : CW (d + 3) 137 [(2, 1), (0, x)] w M n Ψ := by
  refine e11_keptIfAny ⟨fun c => ?_, fun c => ?_⟩
  · rw [if_neg (by omega)] at q
    have q' := q (stw w) M (KD.refl M) r
    rw [stF_self] at q'
    exact q' (u.congr h92 rfl (fun _ _ _ => rfl) (fun j hj _ => hst j (by omega)))
  · rw [if_pos (by omega)] at q
    refine c_keep (P := P) 5 (Or.inl rfl) r5 u h92 (fun s M2 h2 u2 => ?_)
    obtain ⟨g1, g2⟩ := relWU (M3 := M2) h92 ok' u2 (fun _ _ => rfl) (r.congr (fun b h3 h4 => h2 b (by omega) (by omega))) hst
    exact q s M2 (KD.ofP h2) g1 g2
theorem c_perform (t : Int) (r : relW M P) (u : relU w M P) (rt : relT M S Z U) (ok : okP P) (h92 : 0 ≤ P 92 ∧ P 92 ≤ 10) (q : ∀ s M', KD M M' → relW M' (zPerform P S Z U t).2 → relU (stF w s) M' (zPerform P S Z U t).2 → Ψ (zPerform P S Z U t).1 (stF w s) M' n) : CW (d + 8) 135 [(2, 1), (0, t)] w M n Ψ := by
  unfold zPerform at q
  have no : noT S t ≠ 0 → Ψ (noT S t) w M n := by
    intro c
    rw [if_neg c] at q
    have q' := q (stw w) M (KD.refl M) r
    rw [stF_self] at q'
    exact q' u
  refine e11_perform (c_isTray t (br' (fun e => ?_) (fun e => ?_)))
  · have e := of_decide_eq_true e
    obtain ⟨b, hb⟩ := isTr_t w t.toNat (by omega)
    rw [hb]
    refine ⟨by omega, b.1, c_isMissing _ (by omega) rt ?_⟩
    refine br (fun e2 => ?_) (fun e2 => ?_)
    · have e2 := of_decide_eq_false e2
      have en : noT S t = 0 := by unfold noT; rw [if_pos e, if_neg e2]
      rw [if_pos en] at q
      obtain ⟨_, z1, z2, z3, z4⟩ := (rt _ (by omega)).2 e2
      refine sp_copyS 5 38 (isSt_5 w) (isSt_38 w) (by omega) r.2 (fun M1 h1 r1 => ⟨by omega, ?_⟩)
      have rw1 : relW M1 P := r.congr (fun b h3 h4 => h1 b (by omega))
      have rt1 : relT M1 S Z U := rt.congr (fun b h3 h4 => h1 b (by omega))
      refine c_doAll t.toNat (Z t.toNat).toNat (nmT U t) (by omega) rt1 e2 (by omega) (fun k hk => rfl) rw1 ok (fun M2 h2 r2 => ?_)
      obtain ⟨s1, s2, s3⟩ := dStop_all P (nmT U t) (Z t.toNat).toNat
      obtain ⟨o1, o2⟩ := dK_ok ok _ s3
      have r5 : relS M2 5 (fun j => P (65 + j)) := r1.congr (fun b h4 h5 => h2 b (by omega))
      have u2 : relU w M2 P := u.congr h92 (by rw [h2 9 (by omega), h1 9 (by omega)]) (fun c h3 h4 => by rw [h2 c (by omega), h1 c (by omega)]) (fun _ _ _ => rfl)
      refine c_keptIfAny _ r5 r2 u2 o1 o2 h92 (fun s M3 h3 g1 g2 => ?_)
      have q' := q s M3 (fun a ha => by rw [h3 a ha, h2 a (by omega), h1 a (by omega)])
      by_cases cz : 0 < dStop P (nmT U t) (Z t.toNat).toNat
      · rw [if_pos cz] at q'
        rw [if_pos (by omega)] at g1 g2
        exact q' g1 g2
      · rw [if_neg cz] at q'
        rw [if_neg (by omega)] at g1 g2
        exact q' g1 g2
    · have e2 := of_decide_eq_true e2
      have en : noT S t = -6 := by unfold noT; rw [if_pos e, if_pos e2]
      have := no (by omega)
      rw [en] at this
      exact this
  · have e := of_decide_eq_false e
    have en : noT S t = -2 := if_neg e
    have := no (by omega)
    rw [en] at this
    exact this
theorem c_drawBelow (b : Int) (hb : 0 < b) (q : Φ (drwV (M 4 4) b) (sI M 4 4 (drwX (M 4 4)))) : CF (d + 1) 114 [(2, 4), (0, b)] w M n Φ := by
  apply e10_drawBelow
  rw [sI_same]
  exact ⟨fun c => absurd c (by omega), fun _ => ⟨by omega, q⟩⟩
theorem c_drawnDeed (q : Φ (dwD (M 4 4)).1 (sI M 4 4 (dwD (M 4 4)).2)) : CF (d + 2) 113 [(2, 4)] w M n Φ := by
  unfold dwD at q
  refine e10_drawnDeed (c_drawBelow 5 (by omega) ⟨fun c => ?_, fun c => ?_⟩)
  · rw [if_pos c] at q
    refine c_drawBelow 8 (by omega) ?_
    rw [sI_same, sI_sI]
    refine ⟨fun c2 => ?_, fun c2 => ?_⟩
    · rw [if_pos c2] at q
      refine ⟨fun c3 => ?_, fun c3 => ?_⟩
      · rw [if_pos c3] at q
        refine c_drawBelow 10 (by omega) ?_
        rw [sI_same, sI_sI, Int.mul_comm]
        exact q
      · rw [if_neg c3] at q
        exact q
    · rw [if_neg c2] at q
      refine c_drawBelow 12 (by omega) ?_
      rw [sI_same, sI_sI, Int.mul_comm]
      exact q
  · rw [if_neg c] at q
    exact q
theorem c_haveWinter (x t : Int) (ht : 1 ≤ t ∧ t ≤ 40) (r : relW M P) (ok : okP P) (q : ∀ M', (∀ a, a ≠ 4 → (a < 38 ∨ 43 < a) → M' a = M a) → relW M' (winK P x t.toNat).1 → Φ ((winK P x t.toNat).2.2 : Nat) M') : CF (d + 7) 112 [(2, 4), (0, x), (0, t)] w M n Φ := by
  have key : ∀ k, k ≤ t.toNat → ∀ M', (∀ a, a ≠ 4 → (a < 38 ∨ 43 < a) → M' a = M a) → relW M' (winK P x k).1 → M' 4 4 = (winK P x k).2.1 → W10_haveWinter_10 (d + 6) Φ t ((winK P x k).2.2 : Nat) (k : Nat) w M' n := by
    refine up (fun M' hM' r' hx => ?_) (fun k hk ih M' hM' r' hx => ?_)
    · exact v10_haveWinter_10 ⟨fun _ => q M' hM' r', fun c => absurd (by omega) c⟩
    · apply v10_haveWinter_10
      refine ⟨fun c => absurd c (by omega), fun _ => c_drawnDeed ?_⟩
      rw [hx]
      obtain ⟨o1, o2, o3⟩ := winK_ok ok x k
      have es := winK_s P x k
      refine c_attempt _ (P := (winK P x k).1) (r'.congr (fun b h1 h2 => sI_row (by omega))) o1 (fun M2 h2 r2 => ?_)
      have hM2 : ∀ a, a ≠ 4 → (a < 38 ∨ 43 < a) → M2 a = M a := fun a h4 ha => by rw [h2 a ha, sI_row h4, hM' a h4 ha]
      have hx2 : M2 4 4 = (dwD (winK P x k).2.1).2 := by rw [h2 4 (by omega), sI_same]
      refine ⟨fun c => ?_, fun c => ?_⟩
      · rw [if_neg c] at es r2
        have ih' := ih M2 hM2
        rw [es] at ih'
        rw [w32_s (by omega)]
        exact ih' r2 hx2
      · have c := Decidable.not_not.mp c
        rw [if_pos c] at es r2
        have ih' := ih M2 hM2
        rw [es] at ih'
        rw [w32_s (by omega), w32_s (by omega)]
        exact ih' r2 hx2
  exact e10_haveWinter (key 0 (Nat.zero_le _) _ (fun a h4 _ => sI_row h4) (r.congr (fun b h1 h2 => sI_row (by omega))) (sI_same _ _ _ _))
theorem c_winter (x t : Int) (r : relW M P) (u : relU w M P) (ok : okP P) (h92 : 0 ≤ P 92 ∧ P 92 ≤ 10) (q : ∀ s M', KD M M' → relW M' (zWinter P x t).2 → relU (stF w s) M' (zWinter P x t).2 → Ψ (zWinter P x t).1 (stF w s) M' n) : CW (d + 8) 136 [(2, 1), (0, x), (0, t)] w M n Ψ := by
  unfold zWinter at q
  have no : ¬ (1 ≤ t ∧ t ≤ 40) → Ψ (-3) w M n := by
    intro c
    rw [if_neg c] at q
    have q' := q (stw w) M (KD.refl M) r
    rw [stF_self] at q'
    exact q' u
  refine e11_winter ⟨fun c => no (by omega), fun c => ⟨fun c2 => ?_, fun c2 => no (by omega)⟩⟩
  rw [if_pos (by omega)] at q
  refine sp_copyS 5 38 (isSt_5 w) (isSt_38 w) (by omega) r.2 (fun M1 h1 r1 => ?_)
  have rw1 : relW M1 P := r.congr (fun b h3 h4 => h1 b (by omega))
  refine c_haveWinter x t (by omega) rw1 ok (fun M2 h2 r2 => ?_)
  obtain ⟨o1, o2, o3⟩ := winK_ok ok x t.toNat
  have r5 : relS M2 5 (fun j => P (65 + j)) := r1.congr (fun b h4 h5 => h2 b (by omega) (by omega))
  have u2 : relU w M2 P := u.congr h92 (by rw [h2 9 (by omega) (by omega), h1 9 (by omega)]) (fun c h3 h4 => by rw [h2 c (by omega) (by omega), h1 c (by omega)]) (fun _ _ _ => rfl)
  refine c_keptIfAny _ r5 r2 u2 o1 o2 h92 (fun s M3 h3 g1 g2 => ?_)
  have q' := q s M3 (fun a ha => by rw [h3 a ha, h2 a (by omega) (by omega), h1 a (by omega)])
  by_cases cz : 0 < (winK P x t.toNat).2.2
  · rw [if_pos cz] at q'
    rw [if_pos (by omega)] at g1 g2
    exact q' g1 g2
  · rw [if_neg cz] at q'
    rw [if_neg (by omega)] at g1 g2
    exact q' g1 g2
end
