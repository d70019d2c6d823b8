/-! ===== the game: the reference ===== -/
def QGm (M M' : Nat → Nat → Int) : Prop := ∀ a, a ≠ 6 → a ≠ 7 → a ≠ 13 → a ≠ 14 → a ≠ 15 → M' a = M a
theorem QGm.refl (M : Nat → Nat → Int) : QGm M M := fun _ _ _ _ _ _ => rfl
theorem QGm.trans {M M' N : Nat → Nat → Int} (h : QGm M M') (h2 : QGm M' N) : QGm M N := fun a h1 h3 h4 h5 h6 => (h2 a h1 h3 h4 h5 h6).trans (h a h1 h3 h4 h5 h6)
theorem QGm.of67 {M M' : Nat → Nat → Int} (h : Q67 M M') : QGm M M' := fun a h6 h7 _ _ _ => h a h6 h7
theorem QGm.set {M : Nat → Nat → Int} {a k : Nat} {x : Int} (h : a = 13 ∨ a = 14 ∨ a = 15) : QGm M (sI M a k x) := fun b _ _ h1 h2 h3 => sI_row (by omega)
theorem KR.ofGm {M M' : Nat → Nat → Int} (h : QGm M M') : KR M M' := ⟨fun a ha => h a (by omega) (by omega) (by omega) (by omega) (by omega), fun k hk => by rw [h 1 (by omega) (by omega) (by omega) (by omega) (by omega)]⟩
theorem QGm.p {M M' : Nat → Nat → Int} {P : Nat → Int} (h : QGm M M') (hP : M 2 = P) : M' 2 = P := (h 2 (by omega) (by omega) (by omega) (by omega) (by omega)).trans hP
/-- the numbers of turns stand as r rounds lay them -/
def gmV (M : Nat → Nat → Int) (P : Nat → Int) (fr g r : Nat) : Prop := ∀ m t, vl P m t → isD r (M 13 (8 * m + t)) (fun k => wn P fr g k m t = true)
section
variable {d : Nat} {n : Nat × Nat} {Φ : Int → (Nat → Nat → Int) → Prop} {M : Nat → Nat → Int} {P : Nat → Int}
theorem sp_turnOf (m t : Nat) (hm : m < 8) (ht : t < 8) (q : Φ ((8 * m + t : Nat) : Int) M) : CR (d + 1) 278 [(0, (m : Int)), (0, (t : Int))] M n Φ := by
  apply e12_turnOf
  have e : w32 (w32 (8 * (m : Int)) + (t : Int)) = ((8 * m + t : Nat) : Int) := by
    rw [w32_id (x := 8 * (m : Int)) (by omega) (by omega), w32_id (by omega) (by omega)]; omega
  rw [e]
  exact q
theorem nxt_rem (ok : okP P) {t : Nat} (ht : t < nF P) : m_rem (w32 ((t : Int) + 1)) (nF P : Int) = ((nxN P t : Nat) : Int) := by
  have hF := ok.nFe
  rw [w32_s (by omega), m_rem_n (by omega) (by omega) (by omega)]
  unfold nxN
  by_cases c : t + 1 < nF P
  · rw [if_pos c, Nat.mod_eq_of_lt c]
  · rw [if_neg c, show t + 1 = nF P by omega, Nat.mod_self]
theorem mayS_lt (ok : okP P) (f : Nat) : mayS P f < 4096 := msk_lt12 _ ok.nBe.2
theorem sp_behind1 (m t : Nat) (fr g r : Nat) (hr : r ≤ 1000) (hv : vl P m t) (hP : M 2 = P) (ok : okP P) (h15 : ∀ f, f < nF P → M 15 f = (mayS P f : Nat)) (hV : gmV M P fr g r) (q : ∀ u, isD (r + 1) u (fun k => 1 ≤ k ∧ gst P fr (wn P fr g (k - 1)) m t = true) → Φ u M) : CR (d + 2) 279 [(2, 1), (0, (m : Int)), (0, (t : Int)), (0, b2i (inS fr t))] M n Φ := by
  obtain ⟨eF, hF1, hF2⟩ := ok.nFe
  obtain ⟨eB, hB⟩ := ok.nBe
  obtain ⟨eM, hM1, hM2⟩ := ok.nMe
  have hn := nxN_lt ok hv.2
  have hm := hv.1
  have ht := hv.2
  have hms := mayS_lt ok t
  have fin : ∀ v : Int, isD r v (fun k => gst P fr (wn P fr g k) m t = true) → (v < 268435456 → Φ (w32 (v + 1)) M) ∧ (¬ (v < 268435456) → Φ 268435456 M) := by
    intro v hd
    have h1 := hd.suc hr
    have q' := q _ h1
    have h0 := hd.1
    refine ⟨fun c => ?_, fun c => ?_⟩
    · rw [if_pos c] at q'
      rw [w32_id (by omega) (by omega)]
      exact q'
    · rw [if_neg c] at q'
      exact q'
  have key : ∀ b, b ≤ nB P → ∀ its : Int, ((its = -1 ∧ anyB (gmT P t m) b = false) ∨ (anyB (gmT P t m) b = true ∧ isD r its (fun k => if inS fr t = true then anyB (fun b => gmT P t m b && wn P fr g k (toN P b) (nxN P t)) b = true else anyB (fun b => gmT P t m b && !(wn P fr g k (toN P b) (nxN P t))) b = false))) → W12_behind1_18 (d + 1) n Φ (m : Nat) (t : Nat) (b2i (inS fr t)) (nxN P t : Nat) its (b : Nat) M := by
    refine up (fun its h => ?_) (fun b hb ih its h => ?_)
    · apply v12_behind1_18
      rw [hP, eB]
      refine ⟨fun _ => ⟨fun c => ?_, fun c => ?_⟩, fun c => absurd (Int.le_refl _) c⟩
      · obtain ⟨h1, h2⟩ := h.resolve_left (fun z => c z.1)
        refine fin its (h2.ext (fun k hk => ?_))
        unfold gst
        rw [if_pos h1]
        by_cases ci : inS fr t = true
        · rw [if_pos ci, if_pos ci]
        · rw [if_neg ci, if_neg ci]
          cases anyB (fun b => gmT P t m b && !(wn P fr g k (toN P b) (nxN P t))) (nB P) <;> simp
      · have h1 : anyB (gmT P t m) (nB P) = false := by
          rcases h with h | h
          · exact h.2
          · exact absurd h.2.1 (by omega)
        refine sp_turnOf m (nxN P t) (by omega) (by omega) ⟨by omega, ?_⟩
        rw [Int.toNat_natCast]
        refine fin _ ((hV m (nxN P t) ⟨hm, hn⟩).ext (fun k hk => ?_))
        unfold gst
        rw [if_neg (by rw [h1]; decide)]
    · apply v12_behind1_18
      have hbt := ok.bit (b := b) (by omega)
      have hto : toN P b < nM P := by unfold toN; omega
      have ei : inS (mayS P t) b = mayT P t b := inS_msk _ hb
      rw [hP, eB, wA 13 b (13 + b) (by omega) (by omega), wA 25 b (25 + b) (by omega) (by omega), w32_s (by omega)]
      simp only [Int.toNat_natCast]
      have skip : gmT P t m b = false → W12_behind1_18 (d + 1) n Φ (m : Nat) (t : Nat) (b2i (inS fr t)) (nxN P t : Nat) its ((b + 1 : Nat) : Int) M := by
        intro e
        refine ih its ?_
        have e1 : anyB (gmT P t m) (b + 1) = anyB (gmT P t m) b := by
          show (anyB (gmT P t m) b || gmT P t m b) = _
          rw [e, Bool.or_false]
        rw [e1]
        rcases h with h | ⟨h1, h2⟩
        · exact Or.inl h
        · refine Or.inr ⟨h1, h2.ext (fun k hk => ?_)⟩
          have e2 : anyB (fun b => gmT P t m b && wn P fr g k (toN P b) (nxN P t)) (b + 1) = anyB (fun b => gmT P t m b && wn P fr g k (toN P b) (nxN P t)) b := by
            show (anyB (fun b => gmT P t m b && wn P fr g k (toN P b) (nxN P t)) b || (gmT P t m b && wn P fr g k (toN P b) (nxN P t))) = _
            rw [e, Bool.false_and, Bool.or_false]
          have e3 : anyB (fun b => gmT P t m b && !(wn P fr g k (toN P b) (nxN P t))) (b + 1) = anyB (fun b => gmT P t m b && !(wn P fr g k (toN P b) (nxN P t))) b := by
            show (anyB (fun b => gmT P t m b && !(wn P fr g k (toN P b) (nxN P t))) b || (gmT P t m b && !(wn P fr g k (toN P b) (nxN P t)))) = _
            rw [e, Bool.false_and, Bool.or_false]
          rw [e2, e3]
      refine ⟨fun c => absurd c (by omega), fun _ => ⟨by omega, fun c => skip ?_, fun c => ⟨by omega, ?_⟩⟩⟩
      · unfold gmT frN
        rw [decide_eq_false (show ¬ ((P (13 + b)).toNat = m) by omega), Bool.and_false]
      · rw [h15 t ht]
        refine sp_isIn _ b (by omega) (by omega) ?_
        rw [ei]
        refine br' (fun e => ⟨by omega, ?_⟩) (fun e => skip (by unfold gmT; rw [e]; rfl))
        have eg : gmT P t m b = true := by
          unfold gmT frN
          rw [e, decide_eq_true (show (P (13 + b)).toNat = m by omega)]
          rfl
        have e1 : anyB (gmT P t m) (b + 1) = true := (anyB_iff _ _).mpr ⟨b, by omega, eg⟩
        rw [hP, show P (25 + b) = ((toN P b : Nat) : Int) by unfold toN; omega]
        refine sp_turnOf (toN P b) (nxN P t) (by omega) (by omega) ⟨by omega, ?_⟩
        rw [Int.toNat_natCast]
        have hD := hV (toN P b) (nxN P t) ⟨hto, hn⟩
        have e2 : ∀ k, anyB (fun b => gmT P t m b && wn P fr g k (toN P b) (nxN P t)) (b + 1) = true ↔ anyB (fun b => gmT P t m b && wn P fr g k (toN P b) (nxN P t)) b = true ∨ wn P fr g k (toN P b) (nxN P t) = true := by
          intro k
          show (anyB (fun b => gmT P t m b && wn P fr g k (toN P b) (nxN P t)) b || (gmT P t m b && wn P fr g k (toN P b) (nxN P t))) = true ↔ _
          rw [eg, Bool.true_and, Bool.or_eq_true]
        have e3 : ∀ k, anyB (fun b => gmT P t m b && !(wn P fr g k (toN P b) (nxN P t))) (b + 1) = false ↔ anyB (fun b => gmT P t m b && !(wn P fr g k (toN P b) (nxN P t))) b = false ∧ wn P fr g k (toN P b) (nxN P t) = true := by
          intro k
          show (anyB (fun b => gmT P t m b && !(wn P fr g k (toN P b) (nxN P t))) b || (gmT P t m b && !(wn P fr g k (toN P b) (nxN P t)))) = false ↔ _
          rw [eg, Bool.true_and, Bool.or_eq_false_iff, Bool.not_eq_false']
        refine ⟨fun c2 => ?_, fun c2 => ?_⟩
        · obtain ⟨h1, h2⟩ := h.resolve_left (fun z => c2 z.1)
          refine br (fun ef => ?_) (fun ef => ?_)
          · have hmx := (h2.max hr hD)
            have go : isD r (if its < M 13 (8 * toN P b + nxN P t) then M 13 (8 * toN P b + nxN P t) else its) (fun k => if inS fr t = true then anyB (fun b => gmT P t m b && wn P fr g k (toN P b) (nxN P t)) (b + 1) = true else anyB (fun b => gmT P t m b && !(wn P fr g k (toN P b) (nxN P t))) (b + 1) = false) := by
              refine hmx.ext (fun k hk => ?_)
              rw [if_neg (by rw [ef]; decide), if_neg (by rw [ef]; decide), e3 k]
            refine ⟨fun c3 => ?_, fun c3 => ?_⟩
            · rw [if_neg (by omega)] at go
              exact ih its (Or.inr ⟨e1, go⟩)
            · rw [if_pos (by omega)] at go
              exact ih _ (Or.inr ⟨e1, go⟩)
          · have hmn := (h2.min hr hD)
            have go : isD r (if M 13 (8 * toN P b + nxN P t) < its then M 13 (8 * toN P b + nxN P t) else its) (fun k => if inS fr t = true then anyB (fun b => gmT P t m b && wn P fr g k (toN P b) (nxN P t)) (b + 1) = true else anyB (fun b => gmT P t m b && !(wn P fr g k (toN P b) (nxN P t))) (b + 1) = false) := by
              refine hmn.ext (fun k hk => ?_)
              rw [if_pos ef, if_pos ef, e2 k]
            refine ⟨fun c3 => ?_, fun c3 => ?_⟩
            · rw [if_neg (by omega)] at go
              exact ih its (Or.inr ⟨e1, go⟩)
            · rw [if_pos (by omega)] at go
              exact ih _ (Or.inr ⟨e1, go⟩)
        · have h1 : anyB (gmT P t m) b = false := by
            rcases h with h | h
            · exact h.2
            · exact absurd h.2.1 (by omega)
          have hnone : ∀ (f : Nat → Bool), anyB (fun b => gmT P t m b && f b) b = false := by
            intro f
            cases e5 : anyB (fun b => gmT P t m b && f b) b with
            | false => rfl
            | true =>
              obtain ⟨i, i1, i2⟩ := (anyB_iff _ _).mp e5
              rw [Bool.and_eq_true] at i2
              rw [(anyB_iff _ _).mpr ⟨i, i1, i2.1⟩] at h1
              cases h1
          refine ih _ (Or.inr ⟨e1, hD.ext (fun k hk => ?_)⟩)
          by_cases ci : inS fr t = true
          · rw [if_pos ci, e2 k, hnone (fun b => wn P fr g k (toN P b) (nxN P t))]
            exact ⟨fun z => Or.inr z, fun z => z.resolve_left (by decide)⟩
          · rw [if_neg ci, e3 k, hnone (fun b => !(wn P fr g k (toN P b) (nxN P t)))]
            exact ⟨fun z => ⟨rfl, z⟩, fun z => z.2⟩
  apply e12_behind1
  rw [hP, eF, nxt_rem ok ht]
  exact ⟨by omega, key 0 (Nat.zero_le _) (-1) (Or.inl ⟨rfl, rfl⟩)⟩
/-- pairs done, moment by moment, turn by turn -/
def ahd (m t m' t' : Nat) : Prop := m' < m ∨ (m' = m ∧ t' < t)
theorem sp_laysGame (fr g : Nat) (hfr : fr < 256) (hg : g < 8) (hP : M 2 = P) (ok : okP P) (hgv : g < nM P) (q : ∀ M' r, QGm M M' → (∀ f, f < nF P → M' 15 f = (mayS P f : Nat)) → gmV M' P fr g r → stb P fr g r → r ≤ 64 → Φ 0 M') : CR (d + 4) 280 [(2, 1), (0, (fr : Int)), (0, (g : Int))] M n Φ := by
  obtain ⟨eF, hF1, hF2⟩ := ok.nFe
  obtain ⟨eB, hB⟩ := ok.nBe
  obtain ⟨eM, hM1, hM2⟩ := ok.nMe
  -- one round
  have rnd : ∀ (z r : Nat), cw P fr g r + z = 64 → r ≤ cw P fr g r → ∀ M', QGm M M' → (∀ f, f < nF P → M' 15 f = (mayS P f : Nat)) → gmV M' P fr g r → W12_laysGame_109 (d + 3) n Φ (fr : Nat) (g : Nat) 1 M' := by
    intro z
    induction z using Nat.strongRecOn with
    | ind z ihz =>
    intro r hz hrc M' hq h15 hV
    have hcl := cw_le P fr g r
    have hr : r ≤ 1000 := by omega
    refine v12_laysGame_109 ⟨fun c => absurd c (by decide), fun _ => ?_⟩
    -- second phase
    have ph2 : ∀ M2, QGm M M2 → (∀ f, f < nF P → M2 15 f = (mayS P f : Nat)) → M2 13 = M' 13 → (∀ m t, vl P m t → (m ≠ g → isD (r + 1) (M2 14 (8 * m + t)) (fun k => 1 ≤ k ∧ gst P fr (wn P fr g (k - 1)) m t = true)) ∧ (m = g → M2 14 (8 * m + t) = 0)) → W12_laysGame_195 (d + 3) n Φ (fr : Nat) (g : Nat) 0 0 M2 := by
      intro M2 hq2 h152 e13 h14
      have body : ∀ m, m ≤ nM P → ∀ (M3 : Nat → Nat → Int) (x3 : Int), QGm M M3 → (∀ f, f < nF P → M3 15 f = (mayS P f : Nat)) → M3 14 = M2 14 → (∀ m' t', vl P m' t' → (ahd m 0 m' t' → isD (r + 1) (M3 13 (8 * m' + t')) (fun k => wn P fr g k m' t' = true)) ∧ (¬ ahd m 0 m' t' → M3 13 (8 * m' + t') = M' 13 (8 * m' + t'))) → ((x3 = 0 ∧ ∀ m' t', vl P m' t' → ahd m 0 m' t' → wn P fr g (r + 1) m' t' = wn P fr g r m' t') ∨ (x3 = 1 ∧ cw P fr g r < cw P fr g (r + 1))) → W12_laysGame_195 (d + 3) n Φ (fr : Nat) (g : Nat) x3 (m : Nat) M3 := by
        refine up (fun M3 x3 hq3 h153 e14 h13 hx => ?_) (fun m hm ih M3 x3 hq3 h153 e14 h13 hx => ?_)
        · apply v12_laysGame_195
          rw [hq3.p hP, eM]
          refine ⟨fun _ => ?_, fun c => absurd (Int.le_refl _) c⟩
          have hV3 : gmV M3 P fr g (r + 1) := fun m' t' hv => (h13 m' t' hv).1 (Or.inl hv.1)
          rcases hx with ⟨hx0, hs⟩ | ⟨hx1, hg2⟩
          · subst hx0
            refine v12_laysGame_109 ⟨fun _ => ?_, fun c => absurd rfl c⟩
            have hst : stb P fr g r := fun m' t' hv => hs m' t' hv (Or.inl hv.1)
            refine q M3 r hq3 h153 (fun m' t' hv => ?_) hst (by omega)
            obtain ⟨a1, a2, a3⟩ := hV3 m' t' hv
            refine ⟨a1, ?_, fun k hk => a3 k (by omega)⟩
            rcases a2 with a2 | a2
            · by_cases c : M3 13 (8 * m' + t') ≤ (r : Int)
              · exact Or.inl c
              · exfalso
                have h1 := (a3 (r + 1) (by omega)).mp (by omega)
                have h1 : wn P fr g (r + 1) m' t' = true := h1
                rw [hst m' t' hv] at h1
                exact c ((a3 r (by omega)).mpr h1)
            · exact Or.inr a2
          · subst hx1
            have hcl2 := cw_le P fr g (r + 1)
            exact ihz (64 - cw P fr g (r + 1)) (by omega) (r + 1) (by omega) (by omega) M3 hq3 h153 hV3
        · apply v12_laysGame_195
          rw [hq3.p hP, eM]
          refine ⟨fun c => absurd c (by omega), fun _ => ?_⟩
          have row : ∀ t, t ≤ nF P → ∀ (M4 : Nat → Nat → Int) (y3 : Int), QGm M M4 → (∀ f, f < nF P → M4 15 f = (mayS P f : Nat)) → M4 14 = M2 14 → (∀ m' t', vl P m' t' → (ahd m t m' t' → isD (r + 1) (M4 13 (8 * m' + t')) (fun k => wn P fr g k m' t' = true)) ∧ (¬ ahd m t m' t' → M4 13 (8 * m' + t') = M' 13 (8 * m' + t'))) → ((y3 = 0 ∧ ∀ m' t', vl P m' t' → ahd m t m' t' → wn P fr g (r + 1) m' t' = wn P fr g r m' t') ∨ (y3 = 1 ∧ cw P fr g r < cw P fr g (r + 1))) → W12_laysGame_209 (d + 3) n Φ (fr : Nat) (g : Nat) y3 (m : Nat) (t : Nat) M4 := by
            refine up (fun M4 y3 hq4 h154 e144 h134 hy => ?_) (fun t ht ih2 M4 y3 hq4 h154 e144 h134 hy => ?_)
            · apply v12_laysGame_209
              rw [hq4.p hP, eF, w32_s (by omega)]
              refine ⟨fun _ => ih M4 y3 hq4 h154 e144 (fun m' t' hv => ?_) ?_, fun c => absurd (Int.le_refl _) c⟩
              · have ea : ahd (m + 1) 0 m' t' ↔ ahd m (nF P) m' t' := by have := hv.2; unfold ahd; omega
                rw [ea]
                exact h134 m' t' hv
              · rcases hy with ⟨y1, y2⟩ | hy
                · refine Or.inl ⟨y1, fun m' t' hv hh => y2 m' t' hv ?_⟩
                  have := hv.2
                  unfold ahd at hh ⊢
                  omega
                · exact Or.inr hy
            · apply v12_laysGame_209
              rw [hq4.p hP, eF, w32_s (k := t) (by omega)]
              refine ⟨fun c => absurd c (by omega), fun _ => sp_turnOf m t (by omega) (by omega) ⟨by omega, by omega, ?_⟩⟩
              rw [Int.toNat_natCast]
              have hvm : vl P m t := ⟨hm, ht⟩
              have eo : M4 13 (8 * m + t) = M' 13 (8 * m + t) := (h134 m t hvm).2 (by unfold ahd; omega)
              have hold := hV m t hvm
              have en : M4 14 (8 * m + t) = M2 14 (8 * m + t) := by rw [e144]
              obtain ⟨u1, u2⟩ := h14 m t hvm
              rw [eo, en]
              -- the value that is laid now
              have nxt13 : ∀ (M5 : Nat → Nat → Int) (v : Int), (∀ i, M5 13 i = if i = 8 * m + t then v else M4 13 i) → isD (r + 1) v (fun k => wn P fr g k m t = true) → ∀ m' t', vl P m' t' → (ahd m (t + 1) m' t' → isD (r + 1) (M5 13 (8 * m' + t')) (fun k => wn P fr g k m' t' = true)) ∧ (¬ ahd m (t + 1) m' t' → M5 13 (8 * m' + t') = M' 13 (8 * m' + t')) := by
                intro M5 v h5 hvD m' t' hv'
                have l1 := hv'.2
                rw [h5]
                by_cases e : m' = m ∧ t' = t
                · obtain ⟨e1, e2⟩ := e
                  subst e1 e2
                  rw [if_pos rfl]
                  exact ⟨fun _ => hvD, fun z => absurd (Or.inr ⟨rfl, by omega⟩) z⟩
                · rw [if_neg (by omega)]
                  have ea : ahd m (t + 1) m' t' ↔ ahd m t m' t' := by unfold ahd; omega
                  rw [ea]
                  exact h134 m' t' hv'
              have same13 : ∀ i, M4 13 i = if i = 8 * m + t then M' 13 (8 * m + t) else M4 13 i := by
                intro i
                by_cases e : i = 8 * m + t
                · rw [if_pos e, e, eo]
                · rw [if_neg e]
              by_cases cg : m = g
              · -- the goal itself
                have z14 := u2 cg
                have zold : M' 13 (8 * m + t) = 0 := by
                  have h0 := (hold.2.2 0 (by omega)).mpr (by rw [cg]; exact wn_goal 0)
                  have := hold.1
                  omega
                have wg : ∀ k, wn P fr g k m t = true := fun k => by rw [cg]; exact wn_goal k
                rw [z14, zold]
                refine ⟨fun c => absurd c (by omega), fun _ => ih2 M4 y3 hq4 h154 e144 (nxt13 M4 _ same13 ?_) ?_⟩
                · rw [zold]
                  exact ⟨by omega, by omega, fun k _ => ⟨fun _ => wg k, fun _ => by omega⟩⟩
                · rcases hy with ⟨y1, y2⟩ | hy
                  · refine Or.inl ⟨y1, fun m' t' hv hh => ?_⟩
                    by_cases e : m' = m ∧ t' = t
                    · rw [e.1, e.2, wg, wg]
                    · exact y2 m' t' hv (by unfold ahd at hh ⊢; omega)
                  · exact Or.inr hy
              · obtain ⟨l1, l2, l3⟩ := hold.lift hr (u1 cg)
                refine ⟨fun c => ⟨by omega, ⟨by omega, by omega, trivial⟩, ?_⟩, fun c => ?_⟩
                · rw [if_pos c] at l1
                  refine ih2 _ 1 (hq4.trans (QGm.set (by omega))) (fun f hf => by rw [sI_row (by omega)]; exact h154 f hf) (by rw [sI_row (by omega)]; exact e144) (nxt13 _ (M2 14 (8 * m + t)) (fun i => sI_if _ _ _ _ _) l1) (Or.inr ⟨rfl, cw_grow ok hvm (l2 c).1 (l2 c).2⟩)
                · rw [if_neg c] at l1
                  refine ih2 M4 y3 hq4 h154 e144 (nxt13 M4 _ same13 l1) ?_
                  rcases hy with ⟨y1, y2⟩ | hy
                  · refine Or.inl ⟨y1, fun m' t' hv hh => ?_⟩
                    by_cases e : m' = m ∧ t' = t
                    · rw [e.1, e.2]; exact l3 c
                    · exact y2 m' t' hv (by unfold ahd at hh ⊢; omega)
                  · exact Or.inr hy
          exact row 0 (Nat.zero_le _) M3 x3 hq3 h153 e14 h13 hx
      refine body 0 (Nat.zero_le _) M2 0 hq2 h152 rfl (fun m' t' hv => ⟨fun z => absurd z (by unfold ahd; omega), fun _ => by rw [e13]⟩) (Or.inl ⟨rfl, fun m' t' hv z => absurd z (by unfold ahd; omega)⟩)
    -- first phase
    have ph1 : ∀ m, m ≤ nM P → ∀ M2, QGm M M2 → (∀ f, f < nF P → M2 15 f = (mayS P f : Nat)) → M2 13 = M' 13 → (∀ m' t', vl P m' t' → ahd m 0 m' t' → (m' ≠ g → isD (r + 1) (M2 14 (8 * m' + t')) (fun k => 1 ≤ k ∧ gst P fr (wn P fr g (k - 1)) m' t' = true)) ∧ (m' = g → M2 14 (8 * m' + t') = 0)) → W12_laysGame_118 (d + 3) n Φ (fr : Nat) (g : Nat) 0 (m : Nat) M2 := by
      refine up (fun M2 hq2 h152 e13 h14 => ?_) (fun m hm ih M2 hq2 h152 e13 h14 => ?_)
      · apply v12_laysGame_118
        rw [hq2.p hP, eM]
        exact ⟨fun _ => ph2 M2 hq2 h152 e13 (fun m' t' hv => h14 m' t' hv (Or.inl hv.1)), fun c => absurd (Int.le_refl _) c⟩
      · apply v12_laysGame_118
        rw [hq2.p hP, eM]
        refine ⟨fun c => absurd c (by omega), fun _ => ?_⟩
        have row : ∀ t, t ≤ nF P → ∀ M3, QGm M M3 → (∀ f, f < nF P → M3 15 f = (mayS P f : Nat)) → M3 13 = M' 13 → (∀ m' t', vl P m' t' → ahd m t m' t' → (m' ≠ g → isD (r + 1) (M3 14 (8 * m' + t')) (fun k => 1 ≤ k ∧ gst P fr (wn P fr g (k - 1)) m' t' = true)) ∧ (m' = g → M3 14 (8 * m' + t') = 0)) → W12_laysGame_132 (d + 3) n Φ (fr : Nat) (g : Nat) 0 (m : Nat) (t : Nat) M3 := by
          refine up (fun M3 hq3 h153 e133 h143 => ?_) (fun t ht ih2 M3 hq3 h153 e133 h143 => ?_)
          · apply v12_laysGame_132
            rw [hq3.p hP, eF, w32_s (by omega)]
            refine ⟨fun _ => ih M3 hq3 h153 e133 (fun m' t' hv hh => h143 m' t' hv ?_), fun c => absurd (Int.le_refl _) c⟩
            have := hv.2
            unfold ahd at hh ⊢
            omega
          · apply v12_laysGame_132
            rw [hq3.p hP, eF, w32_s (k := t) (by omega)]
            refine ⟨fun c => absurd c (by omega), fun _ => sp_turnOf m t (by omega) (by omega) ?_⟩
            rw [Int.toNat_natCast]
            have put : ∀ v : Int, (m ≠ g → isD (r + 1) v (fun k => 1 ≤ k ∧ gst P fr (wn P fr g (k - 1)) m t = true)) → (m = g → v = 0) → (0 ≤ ((8 * m + t : Nat) : Int) ∧ ((8 * m + t : Nat) : Int) < ((64 : Nat) : Int) ∧ True) ∧ W12_laysGame_132 (d + 3) n Φ (fr : Nat) (g : Nat) 0 (m : Nat) ((t + 1 : Nat) : Int) (sI M3 14 (8 * m + t) v) := by
              intro v hv1 hv2
              refine ⟨⟨by omega, by omega, trivial⟩, ih2 _ (hq3.trans (QGm.set (by omega))) (fun f hf => by rw [sI_row (by omega)]; exact h153 f hf) (by rw [sI_row (by omega)]; exact e133) (fun m' t' hv' hh => ?_)⟩
              have l1 := hv'.2
              rw [sI_if]
              by_cases e : m' = m ∧ t' = t
              · obtain ⟨e1, e2⟩ := e
                subst e1 e2
                rw [if_pos rfl]
                exact ⟨hv1, hv2⟩
              · rw [if_neg (by omega)]
                exact h143 m' t' hv' (by unfold ahd at hh ⊢; omega)
            refine ⟨fun c => sp_isIn _ t (by omega) (by omega) ?_, fun c => ?_⟩
            · refine sp_behind1 m t fr g r hr ⟨hm, ht⟩ (hq3.p hP) ok h153 (fun m' t' hv' => by rw [e133]; exact hV m' t' hv') (fun u hu => put u (fun _ => hu) (fun z => absurd z (by omega)))
            · exact put 0 (fun z => absurd (by omega) z) (fun _ => rfl)
        exact row 0 (Nat.zero_le _) M2 hq2 h152 e13 h14
    exact ph1 0 (Nat.zero_le _) M' hq h15 rfl (fun m' t' hv z => absurd z (by unfold ahd; omega))
  have ini : ∀ k, k ≤ 64 → ∀ M', QGm M M' → (∀ f, f < nF P → M' 15 f = (mayS P f : Nat)) → (∀ i, i < k → M' 13 i = if i / 8 = g then 0 else 268435456) → W12_laysGame_74 (d + 3) n Φ (fr : Nat) (g : Nat) (k : Nat) M' := by
    refine up (fun M' hq h15 h13 => ?_) (fun k hk ih M' hq h15 h13 => ?_)
    · refine v12_laysGame_74 ⟨fun _ => ?_, fun c => absurd (by decide) c⟩
      have hcl := cw_le P fr g 0
      refine rnd (64 - cw P fr g 0) 0 (by omega) (by omega) M' hq h15 (fun m t hv => ?_)
      have l1 := hv.1
      have l2 := hv.2
      rw [h13 _ (by omega), show (8 * m + t) / 8 = m by omega]
      have w0 : wn P fr g 0 m t = decide (m = g) := rfl
      by_cases c : m = g
      · rw [if_pos c]
        exact ⟨by omega, by omega, fun k hk => ⟨fun _ => by rw [c]; exact wn_goal k, fun _ => by omega⟩⟩
      · rw [if_neg c]
        refine ⟨by omega, by omega, fun k hk => ⟨fun z => by omega, fun z => ?_⟩⟩
        have e : k = 0 := by omega
        subst e
        have z : wn P fr g 0 m t = true := z
        rw [w0, decide_eq_false c] at z
        cases z
    · apply v12_laysGame_74
      have ed : m_div (k : Int) 8 = ((k / 8 : Nat) : Int) := m_div_n (b := 8) (by omega) (by omega) (by omega)
      rw [ed, w32_s (by omega), Int.toNat_natCast]
      have nx : ∀ v : Int, v = (if k / 8 = g then 0 else 268435456) → (0 ≤ (k : Int) ∧ (k : Int) < ((64 : Nat) : Int) ∧ True) ∧ W12_laysGame_74 (d + 3) n Φ (fr : Nat) (g : Nat) ((k + 1 : Nat) : Int) (sI M' 13 k v) := by
        intro v hv
        refine ⟨⟨by omega, by omega, trivial⟩, ih _ (hq.trans (QGm.set (by omega))) (fun f hf => by rw [sI_row (by omega)]; exact h15 f hf) (fun i hi => ?_)⟩
        rw [sI_if]
        by_cases e : i = k
        · rw [if_pos e, e, hv]
        · rw [if_neg e]; exact h13 i (by omega)
      refine ⟨fun c => absurd c (by omega), fun _ => ⟨fun c => nx _ ?_, fun c => nx _ ?_⟩⟩
      · rw [if_neg (by omega)]
      · rw [if_pos (by omega)]
  have tl : ∀ f, f ≤ nF P → ∀ M', QGm M M' → (∀ i, i < f → M' 15 i = (mayS P i : Nat)) → W12_laysGame_2 (d + 3) n Φ (fr : Nat) (g : Nat) (f : Nat) M' := by
    refine up (fun M' hq h15 => ?_) (fun f hf ih M' hq h15 => ?_)
    · apply v12_laysGame_2
      rw [hq.p hP, eF]
      exact ⟨fun _ => ini 0 (Nat.zero_le _) M' hq h15 (fun i hi => absurd hi (Nat.not_lt_zero i)), fun c => absurd (Int.le_refl _) c⟩
    · apply v12_laysGame_2
      rw [hq.p hP, eF, Int.toNat_natCast]
      refine ⟨fun c => absurd c (by omega), fun _ => ⟨⟨by omega, by omega, trivial⟩, ?_⟩⟩
      have inn : ∀ b, b ≤ nB P → ∀ M2, QGm M M2 → (∀ i, i < f → M2 15 i = (mayS P i : Nat)) → M2 15 f = (msk (fun b => mayT P f b) b : Nat) → W12_laysGame_22 (d + 3) n Φ (fr : Nat) (g : Nat) (f : Nat) (b : Nat) M2 := by
        refine up (fun M2 hq2 h1 h2 => ?_) (fun b hb ih2 M2 hq2 h1 h2 => ?_)
        · apply v12_laysGame_22
          rw [hq2.p hP, eB, w32_s (by omega)]
          refine ⟨fun _ => ih M2 hq2 (fun i hi => ?_), fun c => absurd (Int.le_refl _) c⟩
          by_cases e : i = f
          · rw [e]; exact h2
          · exact h1 i (by omega)
        · apply v12_laysGame_22
          rw [hq2.p hP, eB, w32_s (k := b) (by omega), Int.toNat_natCast, h2]
          refine ⟨fun c => absurd c (by omega), fun _ => ⟨by omega, sp_mayTell f b (hq2.p hP) ok (by omega) (by omega) (fun M3 h3 => br (fun e => ⟨⟨by omega, by omega, trivial⟩, ?_⟩) (fun e => ⟨⟨by omega, by omega, trivial⟩, ?_⟩))⟩⟩
          · rw [or_z (fun b => mayT P f b) (by omega) e]
            refine ih2 _ (hq2.trans ((QGm.of67 h3).trans (QGm.set (by omega)))) (fun i hi => ?_) (sI_same _ _ _ _)
            rw [sI_ne (by omega), h3 15 (by omega) (by omega)]
            exact h1 i hi
          · rw [or_s (fun b => mayT P f b) (by omega) e]
            refine ih2 _ (hq2.trans ((QGm.of67 h3).trans (QGm.set (by omega)))) (fun i hi => ?_) (sI_same _ _ _ _)
            rw [sI_ne (by omega), h3 15 (by omega) (by omega)]
            exact h1 i hi
      exact inn 0 (Nat.zero_le _) _ (hq.trans (QGm.set (by omega))) (fun i hi => by rw [sI_ne (by omega)]; exact h15 i hi) (sI_same _ _ _ _)
  exact e12_laysGame (tl 0 (Nat.zero_le _) M (QGm.refl M) (fun i hi => absurd hi (Nat.not_lt_zero i)))
theorem sp_forcesBy (f fr g : Nat) (hf : f < nF P) (hfr : fr < 256) (hP : M 2 = P) (ok : okP P) (hgv : g < nM P) (q : ∀ M' r, QGm M M' → (∀ f, f < nF P → M' 15 f = (mayS P f : Nat)) → gmV M' P fr g r → stb P fr g r → r ≤ 64 → Φ (frc P fr g (P (68 + f)).toNat (P 65).toNat) M') : CR (d + 5) 281 [(2, 1), (0, (f : Int)), (0, (fr : Int)), (0, (g : Int))] M n Φ := by
  obtain ⟨eF, hF1, hF2⟩ := ok.nFe
  obtain ⟨eM, hM1, hM2⟩ := ok.nMe
  have hat := ok.at (f := f) (by omega)
  have htn := ok.turn
  refine e12_forcesBy (sp_laysGame fr g hfr (by omega) hP ok hgv (fun M1 r h1 h15 hV hs hr => ?_))
  rw [wA 68 f (68 + f) (by omega) (by omega), Int.toNat_natCast, h1.p hP]
  refine ⟨by omega, ?_⟩
  rw [show P (68 + f) = (((P (68 + f)).toNat : Nat) : Int) by omega, show P 65 = (((P 65).toNat : Nat) : Int) by omega]
  refine sp_turnOf _ _ (by omega) (by omega) ⟨by omega, ?_⟩
  rw [Int.toNat_natCast]
  have hv : vl P (P (68 + f)).toNat (P 65).toNat := ⟨by omega, by omega⟩
  obtain ⟨a1, a2, a3⟩ := hV _ _ hv
  have q' := q M1 r h1 h15 hV hs hr
  refine ⟨fun c => ?_, fun c => ?_⟩
  · have e : frc P fr g (P (68 + f)).toNat (P 65).toNat = M1 13 (8 * (P (68 + f)).toNat + (P 65).toNat) := by
      have h2 := frc_lt (P := P) (fr := fr) (g := g) (m := (P (68 + f)).toNat) (t := (P 65).toNat) (k := (M1 13 (8 * (P (68 + f)).toNat + (P 65).toNat)).toNat) ((a3 _ (by omega)).mp (by omega)) (fun j hj => ?_) (by omega)
      · rw [h2]; omega
      · cases e3 : wn P fr g j (P (68 + f)).toNat (P 65).toNat with
        | false => rfl
        | true => have := (a3 j (by omega)).mpr e3; omega
    rw [e] at q'
    exact q'
  · have e : frc P fr g (P (68 + f)).toNat (P 65).toNat = -1 := by
      apply frc_no
      have h2 := stb_all ok hs (64 - r) _ _ hv
      rw [show r + (64 - r) = 64 by omega] at h2
      rw [h2]
      cases e3 : wn P fr g r (P (68 + f)).toNat (P 65).toNat with
      | false => rfl
      | true => have := (a3 r (by omega)).mpr e3; omega
    rw [e] at q'
    exact q'
theorem r_forces (f m : Int) (hP : M 2 = P) (ok : okP P) (q : ∀ M', KR M M' → M' 2 = P → Φ (zForces P f m) M') : CR (d + 6) 282 [(2, 1), (0, f), (0, m)] M n Φ := by
  obtain ⟨eF, hF1, hF2⟩ := ok.nFe
  obtain ⟨eM, hM1, hM2⟩ := ok.nMe
  have h0 : KR M (sI M 1 0 0) := KR.one (by omega)
  have m0 : (sI M 1 0 0) 2 = P := (sI_row (by omega)).trans hP
  unfold zForces at q
  have no : ¬ ((0 ≤ f ∧ f < P 1) ∧ 0 ≤ m ∧ m < P 2) → Φ (-2) (sI M 1 0 0) := fun c => by
    rw [if_neg c] at q
    exact q _ h0 m0
  refine e12_forces (sp_isFarm f (by rw [m0]; omega) ?_)
  rw [m0]
  refine br (fun e => no (fun z => of_decide_eq_false e z.1)) (fun e => sp_isMoment m (by rw [m0]; omega) ?_)
  rw [m0]
  refine br (fun e2 => no (fun z => of_decide_eq_false e2 z.2)) (fun e2 => ?_)
  have e := of_decide_eq_true e
  have e2 := of_decide_eq_true e2
  rw [if_pos ⟨e, e2⟩] at q
  have h28 := p2_8 f.toNat (by omega)
  rw [show f = (f.toNat : Int) by omega, show m = (m.toNat : Int) by omega, m_one (by omega)]
  exact sp_forcesBy _ _ _ (by omega) (by omega) m0 ok (by omega) (fun M' r h1 _ _ _ _ => q M' (h0.trans (KR.ofGm h1)) (h1.p m0))
theorem r_power (f : Int) (hP : M 2 = P) (ok : okP P) (q : ∀ M', KR M M' → M' 2 = P → Φ (zPower P f) M') : CR (d + 6) 283 [(2, 1), (0, f)] M n Φ := by
  obtain ⟨eF, hF1, hF2⟩ := ok.nFe
  obtain ⟨eM, hM1, hM2⟩ := ok.nMe
  have h0 : KR M (sI M 1 0 0) := KR.one (by omega)
  have m0 : (sI M 1 0 0) 2 = P := (sI_row (by omega)).trans hP
  unfold zPower at q
  refine e12_power (sp_isFarm f (by rw [m0]; omega) ?_)
  rw [m0]
  refine br' (fun e => ?_) (fun e => ?_)
  · have e := of_decide_eq_true e
    rw [if_pos e] at q
    rw [show f = (f.toNat : Int) by omega]
    have hf : f.toNat < nF P := by omega
    generalize f.toNat = a at q hf ⊢
    have h28 := p2_8 a (by omega)
    have key : ∀ m, m ≤ nM P → ∀ M', QGm (sI M 1 0 0) M' → W12_power_21 (d + 5) n Φ (a : Nat) (msk (pwT P a) m : Nat) (m : Nat) M' := by
      refine up (fun M' hq => ?_) (fun m hm ih M' hq => ?_)
      · apply v12_power_21
        rw [hq.p m0, eM]
        exact ⟨fun _ => q M' (h0.trans (KR.ofGm hq)) (hq.p m0), fun c => absurd (Int.le_refl _) c⟩
      · apply v12_power_21
        rw [hq.p m0, eM, m_one (k := a) (by omega), w32_s (by omega)]
        refine ⟨fun c => absurd c (by omega), fun _ => sp_forcesBy a (2 ^ a) m hf (by omega) (hq.p m0) ok hm (fun M2 r h2 _ _ _ _ => ⟨fun c => ?_, fun c => ?_⟩)⟩
        · rw [or_z (pwT P a) (by omega) (by unfold pwT; rw [decide_eq_false_iff_not]; omega)]; exact ih M2 (hq.trans h2)
        · rw [or_s (pwT P a) (by omega) (by unfold pwT; rw [decide_eq_true_eq]; exact c)]; exact ih M2 (hq.trans h2)
    exact key 0 (Nat.zero_le _) _ (QGm.refl _)
  · have e := of_decide_eq_false e
    rw [if_neg e] at q
    exact q _ h0 m0
theorem r_best (f m : Int) (hP : M 2 = P) (ok : okP P) (q : ∀ M', KR M M' → M' 2 = P → Φ (zBest P f m) M') : CR (d + 6) 284 [(2, 1), (0, f), (0, m)] M n Φ := by
  obtain ⟨eF, hF1, hF2⟩ := ok.nFe
  obtain ⟨eM, hM1, hM2⟩ := ok.nMe
  obtain ⟨eB, hB⟩ := ok.nBe
  have h0 : KR M (sI M 1 0 0) := KR.one (by omega)
  have m0 : (sI M 1 0 0) 2 = P := (sI_row (by omega)).trans hP
  unfold zBest at q
  have no : ¬ ((0 ≤ f ∧ f < P 1) ∧ 0 ≤ m ∧ m < P 2) → Φ (-2) (sI M 1 0 0) := fun c => by
    rw [if_neg c] at q
    exact q _ h0 m0
  refine e12_best (sp_isFarm f (by rw [m0]; omega) ?_)
  rw [m0]
  refine br (fun e => no (fun z => of_decide_eq_false e z.1)) (fun e => sp_isMoment m (by rw [m0]; omega) ?_)
  rw [m0]
  refine br' (fun e2 => ⟨fun c => ?_, fun c => ?_⟩) (fun e2 => no (fun z => of_decide_eq_false e2 z.2))
  · have e := of_decide_eq_true e
    have e2 := of_decide_eq_true e2
    rw [if_pos ⟨e, e2⟩, if_pos c] at q
    have h28 := p2_8 f.toNat (by omega)
    have hat := ok.at (f := f.toNat) (by omega)
    rw [show f = (f.toNat : Int) by omega, show m = (m.toNat : Int) by omega, m_one (by omega)]
    have ht : (P 65).toNat = f.toNat := by omega
    rw [ht] at q
    have hf : f.toNat < nF P := by omega
    have hm : m.toNat < nM P := by omega
    generalize f.toNat = a at q hf h28 hat ht ⊢
    generalize m.toNat = b at q hm ⊢
    refine sp_forcesBy a (2 ^ a) b hf (by omega) m0 ok hm (fun M1 r h1 h15 hV hs hr => ?_)
    have k1 : KR M M1 := h0.trans (KR.ofGm h1)
    have p1 := h1.p m0
    rw [ht]
    have q' := q M1 k1 p1
    refine ⟨fun c1 => ?_, fun c1 => ?_⟩
    · rw [if_pos c1] at q'
      -- the number of turns, and what it tells
      obtain ⟨N, hN⟩ : ∃ N : Nat, frc P (2 ^ a) b (P (68 + a)).toNat a = ((N + 1 : Nat) : Int) := ⟨(frc P (2 ^ a) b (P (68 + a)).toNat a - 1).toNat, by omega⟩
      have hfr : wn P (2 ^ a) b 64 (P (68 + a)).toNat a = true ∧ N + 1 ≤ 64 ∧ ∀ j, j < N + 1 → wn P (2 ^ a) b j (P (68 + a)).toNat a = false := by
        unfold frc at hN
        by_cases cw : wn P (2 ^ a) b 64 (P (68 + a)).toNat a = true
        · rw [if_pos cw] at hN
          obtain ⟨f1, f2, f3⟩ := fstB_all (fun k => wn P (2 ^ a) b k (P (68 + a)).toNat a) 65
          have e5 : fstB (fun k => wn P (2 ^ a) b k (P (68 + a)).toNat a) 65 = N + 1 := by omega
          rw [e5] at f1 f3
          refine ⟨cw, ?_, f3⟩
          by_cases c65 : N + 1 = 65
          · have := f3 64 (by omega)
            rw [cw] at this
            cases this
          · omega
        · rw [if_neg cw] at hN; omega
      have hNr : N ≤ r := by
        apply Decidable.byContradiction
        intro hc
        have h2 := stb_all ok hs (64 - r) (P (68 + a)).toNat a ⟨by omega, hf⟩
        rw [show r + (64 - r) = 64 by omega, hfr.1] at h2
        rw [hfr.2.2 r (by omega)] at h2
        cases h2
      rw [hN] at q'
      rw [hN]
      have eN : (((N + 1 : Nat) : Int) - 1).toNat = N := by omega
      rw [eN] at q'
      have eN2 : w32 (((N + 1 : Nat) : Int) - 1) = (N : Int) := by rw [w32_eq]; omega
      have hn := nxN_lt ok hf
      have hms := mayS_lt ok a
      obtain ⟨f1, f2, f3⟩ := fstB_all (bsT P a b N) (nB P)
      -- one place of the loop
      have one : ∀ k, k < nB P → (bsT P a b N k = false → W12_best_59 (d + 5) n Φ (a : Nat) ((N + 1 : Nat) : Int) ((k + 1 : Nat) : Int) M1) → (bsT P a b N k = true → Φ (k : Nat) M1) → W12_best_59 (d + 5) n Φ (a : Nat) ((N + 1 : Nat) : Int) (k : Nat) M1 := by
        intro k hk hno hyes
        apply v12_best_59
        have hbt := ok.bit (b := k) (by omega)
        have hto : toN P k < nM P := by unfold toN; omega
        rw [p1, eB, wA 13 k (13 + k) (by omega) (by omega), wA 68 a (68 + a) (by omega) (by omega), wA 25 k (25 + k) (by omega) (by omega), w32_s (k := k) (by omega), eN2]
        simp only [Int.toNat_natCast]
        refine ⟨fun c => absurd c (by omega), fun _ => ⟨by omega, by omega, fun c2 => hno ?_, fun c2 => ⟨by omega, ?_⟩⟩⟩
        · unfold bsT canT; rw [decide_eq_false c2]; rfl
        · have h13 := Decidable.not_not.mp c2
          rw [h15 a hf]
          refine sp_isIn _ k (by omega) (by omega) ?_
          have ei : inS (mayS P a) k = mayT P a k := inS_msk _ hk
          rw [ei]
          refine br (fun e3 => hno (by unfold bsT canT; rw [e3, Bool.and_false]; rfl)) (fun e3 => ⟨by omega, ?_⟩)
          have hc : canT P a k = true := by unfold canT; rw [decide_eq_true h13, e3]; rfl
          rw [p1, eF, nxt_rem ok hf, show P (25 + k) = ((toN P k : Nat) : Int) by unfold toN; omega]
          refine ⟨by omega, sp_turnOf _ _ (by omega) (by omega) ⟨by omega, ?_⟩⟩
          rw [Int.toNat_natCast]
          obtain ⟨a1, a2, a3⟩ := hV (toN P k) (nxN P a) ⟨hto, hn⟩
          dsimp only at a3
          refine ⟨fun c3 => hno ?_, fun c3 => hyes ?_⟩
          · unfold bsT
            rw [hc, Bool.true_and]
            cases e4 : wn P (2 ^ a) b N (toN P k) (nxN P a) with
            | false => rfl
            | true =>
              exfalso
              have h5 := (a3 N hNr).mpr e4
              by_cases cN : N = 0
              · subst cN; omega
              · have h6 := bs_no (P := P) (f := a) (m := b) (k := N - 1) hk (by rw [show N - 1 + 1 = N by omega]; exact hfr.2.2 N (by omega)) hc h13
                have h7 := (a3 (N - 1) (by omega)).mp (by omega)
                rw [h6] at h7
                cases h7
          · unfold bsT
            rw [hc, Bool.true_and]
            exact (a3 N hNr).mp (by omega)
      have key : ∀ k, k ≤ fstB (bsT P a b N) (nB P) → W12_best_59 (d + 5) n Φ (a : Nat) ((N + 1 : Nat) : Int) (k : Nat) M1 := by
        generalize fstB (bsT P a b N) (nB P) = x at q' f1 f2 f3
        refine up ?_ (fun k hk ih => ?_)
        · by_cases cx : x < nB P
          · rw [if_pos cx] at q'
            exact one x cx (fun z => by rw [f2 cx] at z; cases z) (fun _ => q')
          · rw [if_neg cx] at q'
            apply v12_best_59
            rw [p1, eB]
            exact ⟨fun _ => q', fun c => absurd (by omega) c⟩
        · exact one k (by omega) (fun _ => ih) (fun z => by rw [f3 k hk] at z; cases z)
      exact key 0 (Nat.zero_le _)
    · rw [if_neg c1] at q'
      exact q'
  · have e := of_decide_eq_true e
    have e2 := of_decide_eq_true e2
    rw [if_pos ⟨e, e2⟩, if_neg c] at q
    exact q _ h0 m0
theorem r_ally (f m : Int) (hP : M 2 = P) (ok : okP P) (q : ∀ M', KR M M' → M' 2 = P → Φ (zAlly P f m) M') : CR (d + 6) 285 [(2, 1), (0, f), (0, m)] M n Φ := by
  obtain ⟨eF, hF1, hF2⟩ := ok.nFe
  obtain ⟨eM, hM1, hM2⟩ := ok.nMe
  have h0 : KR M (sI M 1 0 0) := KR.one (by omega)
  have m0 : (sI M 1 0 0) 2 = P := (sI_row (by omega)).trans hP
  unfold zAlly at q
  have no : ¬ ((0 ≤ f ∧ f < P 1) ∧ 0 ≤ m ∧ m < P 2) → Φ (-2) (sI M 1 0 0) := fun c => by
    rw [if_neg c] at q
    exact q _ h0 m0
  refine e12_ally (sp_isFarm f (by rw [m0]; omega) ?_)
  rw [m0]
  refine br (fun e => no (fun z => of_decide_eq_false e z.1)) (fun e => sp_isMoment m (by rw [m0]; omega) ?_)
  rw [m0]
  refine br' (fun e2 => ?_) (fun e2 => no (fun z => of_decide_eq_false e2 z.2))
  have e := of_decide_eq_true e
  have e2 := of_decide_eq_true e2
  rw [if_pos ⟨e, e2⟩] at q
  have h28 := p2_8 f.toNat (by omega)
  rw [show f = (f.toNat : Int) by omega, show m = (m.toNat : Int) by omega, m_one (by omega)]
  have hf : f.toNat < nF P := by omega
  have hm : m.toNat < nM P := by omega
  generalize f.toNat = a at q hf h28 ⊢
  generalize m.toNat = b at q hm ⊢
  refine sp_forcesBy a (2 ^ a) b hf (by omega) m0 ok hm (fun M1 r h1 _ _ _ _ => ⟨fun c => ?_, fun c => ?_⟩)
  · rw [if_pos c] at q
    obtain ⟨f1, f2, f3⟩ := fstB_all (alT P a b) (nF P)
    have one : ∀ k M', k < nF P → QGm (sI M 1 0 0) M' → (alT P a b k = false → ∀ M2, QGm (sI M 1 0 0) M2 → W12_ally_43 (d + 5) n Φ (a : Nat) (b : Nat) ((k + 1 : Nat) : Int) M2) → (alT P a b k = true → ∀ M2, QGm (sI M 1 0 0) M2 → Φ (k : Nat) M2) → W12_ally_43 (d + 5) n Φ (a : Nat) (b : Nat) (k : Nat) M' := by
      intro k M' hk hq hno hyes
      apply v12_ally_43
      have h28k := p2_8 k (by omega)
      have hor : 2 ^ a ||| 2 ^ k < 256 := Nat.or_lt_two_pow (n := 8) (by omega) (by omega)
      rw [hq.p m0, eF, m_one (k := a) (by omega), m_one (k := k) (by omega), m_or_n (by omega) (by omega), w32_s (by omega)]
      refine ⟨fun c => absurd c (by omega), fun _ => ⟨fun c2 => hno ?_ M' hq, fun c2 => sp_forcesBy a _ b hf hor (hq.p m0) ok hm (fun M2 r h2 _ _ _ _ => ⟨fun c3 => hno ?_ M2 (hq.trans h2), fun c3 => hyes ?_ M2 (hq.trans h2)⟩)⟩⟩
      · unfold alT; rw [decide_eq_false_iff_not]; omega
      · unfold alT; rw [decide_eq_false_iff_not]; omega
      · unfold alT; rw [decide_eq_true_eq]; exact ⟨by omega, c3⟩
    have key : ∀ k, k ≤ fstB (alT P a b) (nF P) → ∀ M', QGm (sI M 1 0 0) M' → W12_ally_43 (d + 5) n Φ (a : Nat) (b : Nat) (k : Nat) M' := by
      generalize fstB (alT P a b) (nF P) = x at q f1 f2 f3
      refine up (fun M' hq => ?_) (fun k hk ih M' hq => ?_)
      · by_cases cx : x < nF P
        · rw [if_pos cx] at q
          exact one x M' cx hq (fun z => by rw [f2 cx] at z; cases z) (fun _ M2 hq2 => q M2 (h0.trans (KR.ofGm hq2)) (hq2.p m0))
        · rw [if_neg cx] at q
          apply v12_ally_43
          rw [hq.p m0, eF]
          exact ⟨fun _ => q M' (h0.trans (KR.ofGm hq)) (hq.p m0), fun c => absurd (by omega) c⟩
      · exact one k M' (by omega) hq (fun _ M2 hq2 => ih M2 hq2) (fun z => by rw [f3 k hk] at z; cases z)
    exact key 0 (Nat.zero_le _) M1 h1
  · rw [if_neg c] at q
    exact q M1 (h0.trans (KR.ofGm h1)) (h1.p m0)
end
