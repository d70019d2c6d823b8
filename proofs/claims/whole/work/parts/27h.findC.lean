/-! ===== the class's fewest bits ===== -/
theorem mkB_lt {U b : Nat} (hb : b < 12) : mkB U b < 2 ^ popc 12 U := by
  unfold mkB
  by_cases c : U.testBit b = true
  · rw [if_pos c]
    have := popc_up U (m := b + 1) 12 (by omega)
    rw [popc_s, if_pos c] at this
    exact Nat.pow_lt_pow_right (by omega) (by omega)
  · rw [if_neg c]; exact Nat.two_pow_pos _
theorem BS_congr {a b L : Nat} {nx : gN} {K : Nat} {lb : Nat → Nat} {st : Nat} {M M' : Nat → Nat → Int} {h p k : Nat} {q pa la : Nat → Nat} {t : Nat} (B : BS a b L nx K lb st M h p k q pa la t) (e : M' 93 = M 93) (ea : M' a = M a) (eb : M' b = M b) : BS a b L nx K lb st M' h p k q pa la t := by
  obtain ⟨b0, b2, b3, b4, b5, b6⟩ := B
  exact ⟨by rw [e]; exact b0, by rw [eb]; exact b2, by rw [ea]; exact b3, by rw [ea]; exact b4, b5, b6⟩
theorem BS_next {a b L : Nat} {nx : gN} {K : Nat} {lb : Nat → Nat} {st : Nat} {M : Nat → Nat → Int} {h p : Nat} {q pa la : Nat → Nat} {t : Nat} (B : BS a b L nx K lb st M h p K q pa la t) : BS a b L nx K lb st M h (p + 1) 0 q pa la t := by
  obtain ⟨b0, b2, b3, b4, b5, b6⟩ := B
  exact ⟨b0, b2, b3, b4, b5, fun i k' v hc hi hk' hv => b6 i k' v (by omega) hi hk' hv⟩
theorem srI_of {w : cQ} {n : Nat × Nat} {c : Nat} {nx : gN} {K : Nat} {lb : Nat → Nat} {st : Nat} {M : Nat → Nat → Int} {h p k : Nat} {q pa la : Nat → Nat} {t : Nat} (h1 : sCur w c) (h2 : rmS w n c) (B : BS (aA c) (bA c) (szJ c) nx K lb st M h p k q pa la t) : srI w n M c := ⟨h1, h2, t, q, B.1.2, (BS_t B).2, B.2.1, B.2.2.2.1⟩
/-- what stays when the class searches -/
def KY (M M' : Nat → Nat → Int) : Prop := ∀ a, (a < 4 ∨ (9 ≤ a ∧ a < 14) ∨ (17 ≤ a ∧ a < 42) ∨ (44 ≤ a ∧ a < 93) ∨ (110 ≤ a ∧ a < 140)) → M' a = M a
theorem KY.trans {M M' N : Nat → Nat → Int} (h : KY M M') (h2 : KY M' N) : KY M N := fun a ha => (h2 a ha).trans (h a ha)
theorem KY.ofC {M M' : Nat → Nat → Int} (h : KC M M') : KY M M' := fun a ha => h a (by omega)
theorem KY.ofW {M M' : Nat → Nat → Int} (h : KW M M') : KY M M' := fun a ha => h a (by omega)
theorem KY.ofS {c : Nat} {M M' : Nat → Nat → Int} (h : KS (aA c) (bA c) M M') : KY M M' := fun x hx => h.1 x (by omega) (by unfold aA; split <;> omega) (by unfold bA; split <;> omega)
theorem relW.ky {M M' : Nat → Nat → Int} {P : Nat → Int} (h : KY M M') (r : relW M P) : relW M' P := r.congr (fun b h1 h2 => h b (by omega))
theorem srI.kc {w : cQ} {n : Nat × Nat} {M M' : Nat → Nat → Int} {c : Nat} (S : srI w n M c) (h : ∀ x, x = 93 ∨ x = 94 ∨ x = 95 ∨ 140 ≤ x → M' x = M x) : srI w n M' c := by
  obtain ⟨s1, s2, t, q, s3, s4, s5, s6⟩ := S
  have ea : M' (aA c) = M (aA c) := h _ (by unfold aA; split <;> omega)
  have eb : M' (bA c) = M (bA c) := h _ (by unfold bA; split <;> omega)
  exact ⟨s1, s2, t, q, by rw [h 93 (by omega)]; exact s3, s4, by rw [eb]; exact s5, by rw [ea]; exact s6⟩
section
variable {d : Nat} {n : Nat × Nat} {Φ : Int → (Nat → Nat → Int) → Prop} {M : Nat → Nat → Int} {w : cQ} {P : Nat → Int}
theorem w8 {x y : Nat} (hx : x < 8192) (hy : y < 8) : w32 (w32 ((x : Int) * 8) + (y : Int)) = ((x * 8 + y : Nat) : Int) := by
  rw [w32_id (x := (x : Int) * 8) (by omega) (by omega), w32_id (by omega) (by omega)]
  omega
theorem c_spread {a b L U st h p t : Nat} {q pa la : Nat → Nat} (A : okA w a b L) (B : BS a b L (nxP P U) (nB P) (fun k => k) st M h p 0 q pa la t) (hp : p < t) (hU : U < 4096) (hq : ∀ i, i < t → q i < 2 ^ popc 12 U * 8) (hL : 2 ^ popc 12 U * 8 ≤ L) (r : relW M P) (ok : okP P) (sr : srtB P M) (mk : ∀ b, b < 12 → M 96 b = (mkB U b : Nat)) (qq : ∀ M' q' pa' la' t', BS a b L (nxP P U) (nB P) (fun k => k) st M' h p (nB P) q' pa' la' t' → (∀ i, i < t' → q' i < 2 ^ popc 12 U * 8) → KS a b M M' → Φ 0 M') : CF (d + 2) 84 [(2, 13), (0, (q p : Int))] w M n Φ := by
  obtain ⟨eB, hB⟩ := ok.nBe
  obtain ⟨eM, hM1, hM2⟩ := ok.nMe
  have hA6 := A.2.2.2.2.2.1
  have hA7 := A.2.2.2.2.2.2.1
  have h12 : 2 ^ popc 12 U ≤ 2 ^ 12 := Nat.pow_le_pow_right (by omega) (popc_le 12 U)
  have hs := hq p hp
  have d3 : m_div (q p : Int) 8 = ((q p / 8 : Nat) : Int) := m_div_n (a := q p) (b := 8) (by omega) (by omega) (by omega)
  have d4 : m_rem (q p : Int) 8 = ((q p % 8 : Nat) : Int) := m_rem_n (a := q p) (b := 8) (by omega) (by omega) (by omega)
  apply e9_spread
  rw [d3, d4, Int.toNat_natCast, sr.1 (q p % 8) (by omega)]
  refine ⟨by omega, ?_⟩
  have key : ∀ bb, bb ≤ nB P → ∀ (M1 : Nat → Nat → Int) (q1 pa1 la1 : Nat → Nat) (t1 : Nat), BS a b L (nxP P U) (nB P) (fun k => k) st M1 h p bb q1 pa1 la1 t1 → t ≤ t1 → (∀ i, i < t → q1 i = q i) → (∀ i, i < t1 → q1 i < 2 ^ popc 12 U * 8) → KS a b M M1 → W9_spread_18 (d + 1) Φ (q p : Nat) ((q p % 8 : Nat) : Int) ((q p / 8 : Nat) : Int) (posB P (q p % 8) bb : Nat) w M1 n := by
    refine up (fun M1 q1 pa1 la1 t1 B1 h1 h2 h3 h4 => ?_) (fun bb hb ih M1 q1 pa1 la1 t1 B1 h1 h2 h3 h4 => ?_)
    · apply v9_spread_18
      have e98 : M1 98 = M 98 := h4.1 98 (by omega) (by omega) (by omega)
      rw [w32_s (by omega), Int.toNat_natCast, e98, sr.1 (q p % 8 + 1) (by omega), posB_m]
      exact ⟨by omega, fun _ => qq M1 q1 pa1 la1 t1 B1 h3 h4, fun c => absurd (Int.le_refl _) c⟩
    · have e2 : q1 p = q p := h2 p hp
      by_cases hf : frT P (q p % 8) bb = true
      · apply v9_spread_18
        have e98 : M1 98 = M 98 := h4.1 98 (by omega) (by omega) (by omega)
        have e97 : M1 97 = M 97 := h4.1 97 (by omega) (by omega) (by omega)
        have e96 : M1 96 = M 96 := h4.1 96 (by omega) (by omega) (by omega)
        have e31 : M1 31 = M 31 := h4.1 31 (by omega) (by omega) (by omega)
        have hpos := posB_lt ok hb hf
        have hlt : posB P (q p % 8) bb < posB P (q p % 8 + 1) 0 := posB_up (Or.inl (by omega)) hf hb
        have hbt := ok.bit (b := bb) (by omega)
        obtain ⟨to, hto, hto8⟩ : ∃ t : Nat, P (25 + bb) = (t : Int) ∧ t < 8 := ⟨(P (25 + bb)).toNat, by omega, by omega⟩
        have hmk := mkB_lt (U := U) (b := bb) (by omega)
        have hor : q p / 8 ||| mkB U bb < 2 ^ popc 12 U := Nat.or_lt_two_pow (by omega) hmk
        rw [w32_s (by omega), w32_s (k := posB P (q p % 8) bb) (by omega)]
        simp only [Int.toNat_natCast]
        rw [e98, sr.1 (q p % 8 + 1) (by omega), e97, sr.2 (q p % 8) bb (by omega) hb hf]
        simp only [Int.toNat_natCast]
        rw [e96, mk bb (by omega), e31, r.to (b := bb) (by omega), hto, m_or_n (by omega) (by omega), w8 (by omega) hto8]
        refine ⟨by omega, fun c => absurd c (by omega), fun _ => ⟨by omega, by omega, by omega, ?_⟩⟩
        have hnx : nxP P U (q1 p) bb = some ((q p / 8 ||| mkB U bb) * 8 + to) := by
          unfold nxP
          rw [e2, if_pos hf, hto, Int.toNat_natCast]
        have hv : (q p / 8 ||| mkB U bb) * 8 + to < 2 ^ popc 12 U * 8 := by omega
        have := c_offer (d := d) (Φ := fun _ M2 => W9_spread_18 (d + 1) Φ (q p : Nat) ((q p % 8 : Nat) : Int) ((q p / 8 : Nat) : Int) ((posB P (q p % 8) bb + 1 : Nat) : Int) w M2 n) (n := n) A B1 (by omega) hb hnx (by omega) (show bb < 1023 by omega) (fun M2 q2 pa2 la2 t2 B2 g1 g2 g3 g4 => ?_)
        · rw [e2] at this
          exact this
        · have := ih M2 q2 pa2 la2 t2 B2 (by omega) (fun i hi => by rw [g2 i (by omega)]; exact h2 i hi) (fun i hi => ?_) (h4.trans g4)
          · rw [posB_s, if_pos hf] at this
            exact this
          · by_cases ci : i < t1
            · rw [g2 i ci]; exact h3 i ci
            · rw [g3 i (by omega) hi]; exact hv
      · have hf' : frT P (q p % 8) bb = false := by
          cases e : frT P (q p % 8) bb with
          | false => rfl
          | true => exact absurd e hf
        have := ih M1 q1 pa1 la1 t1 (BS_skip B1 (fun v hv => ?_)) h1 h2 h3 h4
        · rw [posB_s, hf'] at this
          exact this
        · unfold nxP at hv
          rw [e2, hf'] at hv
          cases hv
  exact key 0 (Nat.zero_le _) M q pa la t B (Nat.le_refl _) (fun _ _ => rfl) hq (KS.refl _ _ _)
/-- labels can be asked for -/
def labs (w : cQ) (n : Nat × Nat) (M : Nat → Nat → Int) (c : Nat) (D : Int) (lab : Nat → Nat) : Prop := ∀ (j : Nat), (j : Int) < D → ∀ (M2 : Nat → Nat → Int), (∀ x, x = 93 ∨ x = aA c ∨ x = bA c → M2 x = M x) → ∀ (d : Nat) (n' : Nat × Nat) (Φ : Int → (Nat → Nat → Int) → Prop), Φ (lab j : Nat) M2 → CF (d + 3) 68 [(2, 93), (0, (j : Int))] w M2 n' Φ
theorem c_find {c : Nat} {Ψ : Int → cQ → (Nat → Nat → Int) → Nat × Nat → Prop} (f t U : Nat) (S : srI w n M c) (r : relW M P) (ok : okP P) (hf : f < nM P) (ht : t < nM P) (hU : U < 4096) (qq : ∀ w' n' M' c', eqW w w' → srI w' n' M' c' → KY M M' → labs w' n' M' c' (wyD P U f t) (wyL P U f t) → wyD P U f t < 32768 → Ψ (wyD P U f t) w' M' n') : CW (d + 5) 81 [(2, 13), (0, (f : Int)), (0, (t : Int)), (0, (U : Int))] w M n Ψ := by
  obtain ⟨eB, hB⟩ := ok.nBe
  obtain ⟨eM, hM1, hM2⟩ := ok.nMe
  have hus := useS_lt ok
  have hpl := popc_le 12 U
  have h12 : 2 ^ popc 12 U ≤ 2 ^ 12 := Nat.pow_le_pow_right (by omega) hpl
  have h1 : 1 ≤ 2 ^ popc 12 U := Nat.one_le_two_pow
  refine e9_find (sp_tellableBits r ok (fun M1 k1 => ⟨fun e => ?_, fun e => ?_⟩))
  · refine c_markBits U hU (fun M2 k2 mk => c_sortBits ((r.q k1).congr (fun x _ _ => k2 x (by omega))) ok (fun M3 k3 sr => ?_))
    have kc3 : KC M M3 := fun x hx => by rw [k3 x (by omega) (by omega), k2 x (by omega), k1 x (by omega) (by omega)]
    have mk3 : ∀ b, b < 12 → M3 96 b = (mkB U b : Nat) := fun b hb => by rw [k3 96 (by omega) (by omega)]; exact mk b hb
    have r3 : relW M3 P := r.kc kc3
    have eg : w32 (w32 (w32 (((2 ^ popc 12 U : Nat) : Int) - 1) * 8) + (t : Int)) = (((2 ^ popc 12 U - 1) * 8 + t : Nat) : Int) := by
      rw [w32_id (x := ((2 ^ popc 12 U : Nat) : Int) - 1) (by omega) (by omega), show ((2 ^ popc 12 U : Nat) : Int) - 1 = ((2 ^ popc 12 U - 1 : Nat) : Int) by omega]
      exact w8 (by omega) (by omega)
    have ez : w32 (((2 ^ popc 12 U : Nat) : Int) * 8) = ((2 ^ popc 12 U * 8 : Nat) : Int) := by
      have e0 : ∀ x : Nat, x ≤ 4096 → w32 ((x : Int) * 8) = ((x * 8 : Nat) : Int) := fun x hx => by
        rw [w32_id (by omega) (by omega)]; omega
      exact e0 _ h12
    rw [eg, ez]
    refine c_begin (2 ^ popc 12 U * 8) f _ (S.kc (fun x hx => kc3 x (by omega))) ?_ (by omega) (fun w' n' M4 c' g1 g2 g3 g4 g5 g6 g7 g8 => ?_)
    · have hc9 := S.1.1
      by_cases cp : popc 12 U ≤ 3 + c
      · refine Or.inl ?_
        have : 2 ^ popc 12 U ≤ 2 ^ (3 + c) := Nat.pow_le_pow_right (by omega) cp
        rw [Nat.pow_add] at this
        unfold szJ
        omega
      · refine Or.inr ⟨popc 12 U - 3, by omega, by omega, ?_⟩
        have : 2 ^ popc 12 U = 2 ^ 3 * 2 ^ (popc 12 U - 3) := by rw [← Nat.pow_add]; congr 1; omega
        unfold szJ
        omega
    · have A := okA_of g2
      obtain ⟨A1, A2, A3, A4, A5, A6, A7, A8, A9⟩ := okA_of g2
      have ky4 : KY M M4 := (KY.ofC kc3).trans (KY.ofW g6)
      refine e6_size ?_
      rw [A1, A3]
      refine ⟨rfl, ?_⟩
      show W9_find_67 (d + 4) Ψ (szJ c' : Nat) 0 w' M4 n'
      have hsim := sim_P ok (U := U) (t := t) hU ht
      have hv0 : vdF P U (4096 * f) := ⟨by omega, fun i hi => by rw [show 4096 * f % 4096 = 0 by omega, Nat.zero_testBit] at hi; cases hi⟩
      have hen : enP U (4096 * f) = f := by
        unfold enP
        rw [show 4096 * f % 4096 = 0 by omega, pkS_zero]
        omega
      have hdd : dG (nxP P U) (nB P) (glP U t) f = wyD P U f t := by
        have := sim_d hsim hv0
        rw [hen] at this
        exact this
      have fin : ∀ (M1 : Nat → Nat → Int) (h p k : Nat) (q pa la : Nat → Nat) (tt : Nat), BS (aA c') (bA c') (szJ c') (nxP P U) (nB P) (fun k => k) f M1 h p k q pa la tt → KS (aA c') (bA c') M4 M1 → ((∀ i, i < tt → (q i : Int) ≠ M1 93 0) → tt ≤ p) → CF (d + 4) 67 [(2, 93)] w' M1 n' (fun r0 M2 => Ψ r0 w' M2 n') := by
        intro M1 h p k q pa la tt B k1 hex
        have e0 : M1 93 0 = (((2 ^ popc 12 U - 1) * 8 + t : Nat) : Int) := k1.2.trans g7
        refine c_steps A B (fun k hk => (show k < 1023 by omega)) (fun hn => ?_) (fun gi dd hg1 hg2 hg3 => ?_)
        · have hp := hex hn
          have hnone := bf_none (G := glP U t) B.2.2.2.2.1 (fun i k v hi hk hv => B.2.2.2.2.2 i k v (Or.inl (by omega)) hi hk hv) (fun i hi hG => by
            have hG : q i = (2 ^ popc 12 U - 1) * 8 + t := hG
            exact hn i hi (by rw [e0, hG]))
          have hD : wyD P U f t = -1 := by rw [← hdd]; exact dG_no hnone
          have := qq w' n' M1 c' g1 (srI_of g2 g3 B) (ky4.trans (KY.ofS k1)) (fun j hj => by rw [hD] at hj; omega) (by rw [hD]; omega)
          rw [hD] at this
          exact this
        · have hG : glP U t (q gi) := by
            show q gi = (2 ^ popc 12 U - 1) * 8 + t
            omega
          have hfirst : ∀ i, i < gi → ¬ glP U t (q i) := fun i hi hGi => by
            have hGi : q i = (2 ^ popc 12 U - 1) * 8 + t := hGi
            have hG' : q gi = (2 ^ popc 12 U - 1) * 8 + t := hG
            have := B.2.2.2.2.1.2.2.1 i gi (by omega) hg1 (by omega)
            omega
          have hL := (bf_goal B.2.2.2.2.1 hg1 hG hfirst hg3).1
          have hD : wyD P U f t = (dd : Int) := by rw [← hdd]; exact dG_eq hL
          obtain ⟨dz, hz1, hz2⟩ := bf_dep B.2.2.2.2.1 gi hg1
          have hzz := up_uniq B.2.2.2.2.1 dz dd gi hg1 hz2 hg3
          have htL := (BS_t B).2
          have := qq w' n' M1 c' g1 (srI_of g2 g3 B) (ky4.trans (KY.ofS k1)) (fun j hj M2 hM2 d' n2 Φ' hΦ => ?_) (by rw [hD]; omega)
          · rw [hD] at this
            exact this
          · have B2 := BS_congr B (hM2 93 (by omega)) (hM2 _ (by omega)) (hM2 _ (by omega))
            refine c_labelAt (G := glP U t) A B2 (fun k hk => (show k < 1023 by omega)) hg1 (by rw [hM2 93 (by omega)]; exact hg2) hg3 hG hfirst (j := j) (by omega) ?_
            have hD' : dG (nxF P U) (nB P) (glF U t) (4096 * f) = (dd : Int) := hD
            have s1 := sim_s hsim hv0 hD' j (by omega)
            rw [hen] at s1
            have s2 := sim_l hsim s1.2
            show Φ' ((lG (nxP P U) (nB P) (glP U t) (sG (nxP P U) (nB P) (glP U t) f j) : Nat) : Int) M2
            rw [s1.1, s2]
            exact hΦ
      have key : ∀ h, h ≤ szJ c' → ∀ (M1 : Nat → Nat → Int) (q pa la : Nat → Nat) (tt : Nat), BS (aA c') (bA c') (szJ c') (nxP P U) (nB P) (fun k => k) f M1 h h 0 q pa la tt → (∀ i, i < tt → q i < 2 ^ popc 12 U * 8) → KS (aA c') (bA c') M4 M1 → W9_find_67 (d + 4) Ψ (szJ c' : Nat) (h : Nat) w' M1 n' := by
        refine up (fun M1 q pa la tt B hq k1 => ?_) (fun h hh ih M1 q pa la tt B hq k1 => ?_)
        · apply v9_find_67
          exact ⟨fun _ => fin M1 _ _ _ q pa la tt B k1 (fun _ => (BS_t B).2), fun z => absurd (Int.le_refl _) z⟩
        · apply v9_find_67
          rw [w32_s (by omega)]
          refine ⟨fun z => absurd z (by omega), fun _ => ?_⟩
          refine c_nextPlace (d := d + 2) A B (fun hr => ⟨fun z => absurd rfl z, fun _ => fin M1 _ _ _ q pa la tt B k1 (fun hn => ?_)⟩) (fun _ hex => ⟨fun z => absurd rfl z, fun _ => fin M1 _ _ _ q pa la tt B k1 (fun _ => hex)⟩) (fun _ hlt M2 B2 k2 => ⟨fun _ => ?_, fun z => absurd (by omega) z⟩)
          · obtain ⟨i, hi, e⟩ := hr
            exact absurd e (hn i hi)
          · have k12 := k1.trans k2
            have h29 : ∀ x, 29 ≤ x → x ≤ 98 → x ≠ 93 → x ≠ 94 → x ≠ 95 → M2 x = M3 x := fun x hx1 hx2 hx3 hx4 hx5 => by
              rw [k12.1 x hx3 (by omega) (by omega)]
              exact g6 x (by omega)
            refine c_spread (d := d + 2) A B2 hlt hU hq g4 (r3.congr (fun x hx1 hx2 => h29 x hx1 (by omega) (by omega) (by omega) (by omega))) ok ⟨by rw [h29 98 (by omega) (by omega) (by omega) (by omega) (by omega)]; exact sr.1, by rw [h29 97 (by omega) (by omega) (by omega) (by omega) (by omega)]; exact sr.2⟩ (by rw [h29 96 (by omega) (by omega) (by omega) (by omega) (by omega)]; exact mk3) (fun M5 q' pa' la' t' B5 hq5 k5 => ?_)
            exact ih M5 q' pa' la' t' (BS_next B5) hq5 (k12.trans k5)
      exact key 0 (Nat.zero_le _) M4 _ _ _ 1 (g8 _ _ _) (fun i hi => by show f < _; omega) (KS.refl _ _ _)
  · have hD : wyD P U f t = -1 := by
      rw [andnot0 (by omega) (by omega)] at e
      have : ∃ i, U.testBit i = true ∧ (useS P).testBit i = false := by
        apply Classical.byContradiction
        intro cc
        apply e
        intro i hi
        cases hc : (useS P).testBit i with
        | true => rfl
        | false => exact absurd ⟨i, hi, hc⟩ cc
      obtain ⟨i, hi1, hi2⟩ := this
      exact wy_none ok hU hi1 hi2
    have := qq w n M1 c (eqW.refl w) (S.kc (fun x hx => k1 x (by omega) (by omega))) (KY.ofC (KC.of43 k1)) (fun j hj => by rw [hD] at hj; omega) (by rw [hD]; omega)
    rw [hD] at this
    exact this
end
