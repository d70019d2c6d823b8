/-! ===== a text, line: the class ===== -/
section
variable {d : Nat} {n : Nat × Nat} {Φ : Int → (Nat → Nat → Int) → Prop} {M : Nat → Nat → Int} {w : cQ} {P : Nat → Int}
theorem c_copyL2 (a b : Nat) (ha : isLn w a) (hb : isLn w b) (hab : a + 9 ≤ b ∨ b + 9 ≤ a) (r : relL M b P) (hn : 0 ≤ P 363 ∧ P 363 ≤ 900) (hB : P 3 ≤ 12) (q : ∀ M', (∀ c, c < a ∨ a + 8 < c → M' c = M c) → relL M' a P → M' a 4 = M b 4 → M' a 5 = M b 5 → (∀ f, f < 8 → M' (a + 4) f = M (b + 4) f) → Φ 0 M') : CF (d + 1) 22 [(2, (a : Int)), (2, (b : Int))] w M n Φ := by
  obtain ⟨a0, ⟨a1, a2, a3, a4, a5, a6, a7, a8⟩, s1, s2, s3, s4, s5, s6, s7, s8⟩ := ha
  obtain ⟨b0, ⟨b1, b2, b3, b4, b5, b6, b7, b8⟩, t1, t2, t3, t4, t5, t6, t7, t8⟩ := hb
  have hr : ∀ (K : Nat → Nat → Int) (k : Nat) (x : Int), sI K a k x b = K b := fun K k x => sI_row (by omega)
  apply e2_copyFrom
  simp only [hr]
  rw [a0, b0, a1, a2, a3, a4, a5, a6, a7, a8, b1, b2, b3, b4, b5, b6, b7, b8, s1, s2, s3, s4, s5, s6, s7, s8, t1, t2, t3, t4, t5, t6, t7, t8]
  generalize hN : sI (sI (sI (sI (sI (sI (sI (sI M a 0 (M b 0)) a 1 (M b 1)) a 2 (M b 2)) a 3 (M b 3)) a 4 (M b 4)) a 5 (M b 5)) a 6 (M b 6)) a 13 (M b 13) = N
  have nr : ∀ c, c ≠ a → N c = M c := by
    intro c hc
    rw [← hN, sI_row hc, sI_row hc, sI_row hc, sI_row hc, sI_row hc, sI_row hc, sI_row hc, sI_row hc]
  have n13 : N a 13 = M b 13 := by rw [← hN, sI_same]
  have n6 : N a 6 = M b 6 := by rw [← hN, sI_ne (by omega), sI_same]
  have n5 : N a 5 = M b 5 := by rw [← hN, sI_ne (by omega), sI_ne (by omega), sI_same]
  have n4 : N a 4 = M b 4 := by rw [← hN, sI_ne (by omega), sI_ne (by omega), sI_ne (by omega), sI_same]
  have n3 : N a 3 = M b 3 := by rw [← hN, sI_ne (by omega), sI_ne (by omega), sI_ne (by omega), sI_ne (by omega), sI_same]
  have n2 : N a 2 = M b 2 := by rw [← hN, sI_ne (by omega), sI_ne (by omega), sI_ne (by omega), sI_ne (by omega), sI_ne (by omega), sI_same]
  have n1 : N a 1 = M b 1 := by rw [← hN, sI_ne (by omega), sI_ne (by omega), sI_ne (by omega), sI_ne (by omega), sI_ne (by omega), sI_ne (by omega), sI_same]
  have n0 : N a 0 = M b 0 := by rw [← hN, sI_ne (by omega), sI_ne (by omega), sI_ne (by omega), sI_ne (by omega), sI_ne (by omega), sI_ne (by omega), sI_ne (by omega), sI_same]
  obtain ⟨⟨r1, r2, r3, r4, r5, r6⟩, rb, rf, rl, rc⟩ := r
  have e13 : (cI (cI (cI (cI (cI N (b + 1) 0 (a + 1) 0 12) (b + 2) 0 (a + 2) 0 12) (b + 3) 0 (a + 3) 0 8) (b + 4) 0 (a + 4) 0 8) (b + 5) 0 (a + 5) 0 8) a 13 = P 363 := by
    rw [cI_row (by omega), cI_row (by omega), cI_row (by omega), cI_row (by omega), cI_row (by omega), n13, r6]
  rw [e13]
  obtain ⟨m, hm⟩ : ∃ m : Nat, P 363 = (m : Int) := ⟨(P 363).toNat, by omega⟩
  rw [hm, Int.toNat_natCast]
  refine ⟨rfl, rfl, rfl, rfl, rfl, rfl, rfl, rfl, rfl, rfl, rfl, rfl, rfl, rfl, rfl, rfl, rfl, rfl, rfl, by decide, rfl, rfl, rfl, by decide, rfl, rfl, rfl, by decide, rfl, rfl, rfl, by decide, rfl, rfl, rfl, by decide, rfl, rfl, rfl, rfl, ⟨by omega, by omega, by omega, (by show (0 : Int) + (m : Int) ≤ ((900 : Nat) : Int); omega), (by show (0 : Int) + (m : Int) ≤ ((900 : Nat) : Int); omega)⟩, rfl, rfl, rfl, by decide, rfl, rfl, rfl, by decide, ?_⟩
  generalize hF : cI (cI (cI (cI (cI (cI (cI (cI N (b + 1) 0 (a + 1) 0 12) (b + 2) 0 (a + 2) 0 12) (b + 3) 0 (a + 3) 0 8) (b + 4) 0 (a + 4) 0 8) (b + 5) 0 (a + 5) 0 8) (b + 6) 0 (a + 6) 0 m) (b + 7) 0 (a + 7) 0 3) (b + 8) 0 (a + 8) 0 3 = F
  have fr : ∀ c, (c ≤ a ∨ a + 8 < c) → F c = N c := by
    intro c hc
    rw [← hF, cI_row (by omega), cI_row (by omega), cI_row (by omega), cI_row (by omega), cI_row (by omega), cI_row (by omega), cI_row (by omega), cI_row (by omega)]
  have f1 : ∀ j, j < 12 → F (a + 1) j = M (b + 1) j := by
    intro j hj
    rw [← hF, cI_row (by omega), cI_row (by omega), cI_row (by omega), cI_row (by omega), cI_row (by omega), cI_row (by omega), cI_row (by omega), cI_in hj, nr _ (by omega)]
  have f2 : ∀ j, j < 12 → F (a + 2) j = M (b + 2) j := by
    intro j hj
    rw [← hF, cI_row (by omega), cI_row (by omega), cI_row (by omega), cI_row (by omega), cI_row (by omega), cI_row (by omega), cI_in hj, cI_row (by omega), nr _ (by omega)]
  have f3 : ∀ j, j < 8 → F (a + 3) j = M (b + 3) j := by
    intro j hj
    rw [← hF, cI_row (by omega), cI_row (by omega), cI_row (by omega), cI_row (by omega), cI_row (by omega), cI_in hj, cI_row (by omega), cI_row (by omega), nr _ (by omega)]
  have f4 : ∀ j, j < 8 → F (a + 4) j = M (b + 4) j := by
    intro j hj
    rw [← hF, cI_row (by omega), cI_row (by omega), cI_row (by omega), cI_row (by omega), cI_in hj, cI_row (by omega), cI_row (by omega), cI_row (by omega), nr _ (by omega)]
  have f5 : ∀ j, j < 8 → F (a + 5) j = M (b + 5) j := by
    intro j hj
    rw [← hF, cI_row (by omega), cI_row (by omega), cI_row (by omega), cI_in hj, cI_row (by omega), cI_row (by omega), cI_row (by omega), cI_row (by omega), nr _ (by omega)]
  have f6 : ∀ j, j < m → F (a + 6) j = M (b + 6) j := by
    intro j hj
    rw [← hF, cI_row (by omega), cI_row (by omega), cI_in hj, cI_row (by omega), cI_row (by omega), cI_row (by omega), cI_row (by omega), cI_row (by omega), nr _ (by omega)]
  have f7 : ∀ j, j < 3 → F (a + 7) j = M (b + 7) j := by
    intro j hj
    rw [← hF, cI_row (by omega), cI_in hj, cI_row (by omega), cI_row (by omega), cI_row (by omega), cI_row (by omega), cI_row (by omega), cI_row (by omega), nr _ (by omega)]
  have f8 : ∀ j, j < 3 → F (a + 8) j = M (b + 8) j := by
    intro j hj
    rw [← hF, cI_in hj, cI_row (by omega), cI_row (by omega), cI_row (by omega), cI_row (by omega), cI_row (by omega), cI_row (by omega), cI_row (by omega), nr _ (by omega)]
  have fa : F a = N a := fr a (by omega)
  refine q F (fun c hc => (fr c (by omega)).trans (nr c (by omega))) ⟨⟨?_, ?_, ?_, ?_, ?_, ?_⟩, fun j hj => ?_, fun f hf => ?_, fun l hl => ?_, fun k hk => ?_⟩ (by rw [fa, n4]) (by rw [fa, n5]) f4
  · rw [fa, n0]; exact r1
  · rw [fa, n1]; exact r2
  · rw [fa, n2]; exact r3
  · rw [fa, n3]; exact r4
  · rw [fa, n6]; exact r5
  · rw [fa, n13]; exact r6
  · rw [f1 j (by omega), f2 j (by omega)]; exact rb j hj
  · rw [f3 f hf, f5 f hf]; exact rf f hf
  · rw [f7 l hl, f8 l hl]; exact rl l hl
  · rw [f6 k (by omega)]; exact rc k hk
theorem isLn_17 (w : cQ) : isLn w 17 := ⟨rfl, ⟨rfl, rfl, rfl, rfl, rfl, rfl, rfl, rfl⟩, rfl, rfl, rfl, rfl, rfl, rfl, rfl, rfl⟩
/-- the draft is emptied -/
theorem c_empty (q : ∀ M', (∀ c, c < 17 ∨ 25 < c → M' c = M c) → (M' 17 2 = 0 ∧ M' 17 3 = 0 ∧ M' 17 4 = 0 ∧ M' 17 5 = 0 ∧ M' 17 6 = 0 ∧ M' 17 13 = 0) → (∀ f, f < 8 → M' 20 f = 0 ∧ M' 21 f = 0 ∧ M' 22 f = 0) → (∀ l, l < 3 → M' 25 l = 0) → Φ 0 M') : CF (d + 1) 21 [(2, 17)] w M n Φ := by
  apply e2_empty
  generalize hK : sI (sI (sI (sI (sI (sI M 17 2 0) 17 3 0) 17 4 0) 17 5 0) 17 6 0) 17 13 0 = K
  have k0 : ∀ c, c ≠ 17 → K c = M c := by
    intro c hc
    rw [← hK, sI_row hc, sI_row hc, sI_row hc, sI_row hc, sI_row hc, sI_row hc]
  have k1 : K 17 2 = 0 ∧ K 17 3 = 0 ∧ K 17 4 = 0 ∧ K 17 5 = 0 ∧ K 17 6 = 0 ∧ K 17 13 = 0 := by
    refine ⟨?_, ?_, ?_, ?_, ?_, ?_⟩
    · rw [← hK, sI_ne (by omega), sI_ne (by omega), sI_ne (by omega), sI_ne (by omega), sI_ne (by omega), sI_same]
    · rw [← hK, sI_ne (by omega), sI_ne (by omega), sI_ne (by omega), sI_ne (by omega), sI_same]
    · rw [← hK, sI_ne (by omega), sI_ne (by omega), sI_ne (by omega), sI_same]
    · rw [← hK, sI_ne (by omega), sI_ne (by omega), sI_same]
    · rw [← hK, sI_ne (by omega), sI_same]
    · rw [← hK, sI_same]
  have key2 : ∀ k, k ≤ 3 → ∀ (M' : Nat → Nat → Int), (∀ c, c ≠ 20 → c ≠ 21 → c ≠ 22 → c ≠ 25 → M' c = K c) → (∀ f, f < 8 → M' 20 f = 0 ∧ M' 21 f = 0 ∧ M' 22 f = 0) → (∀ l, l < k → M' 25 l = 0) → W2_empty_67 d Φ (k : Nat) w M' n := by
    refine up (fun M' h1 h2 h3 => ?_) (fun k hk ih M' h1 h2 h3 => ?_)
    · refine v2_empty_67 ⟨fun _ => q M' (fun c hc => by rw [h1 c (by omega) (by omega) (by omega) (by omega)]; exact k0 c (by omega)) ?_ h2 h3, fun z => absurd (by omega) z⟩
      rw [h1 17 (by omega) (by omega) (by omega) (by omega)]
      exact k1
    · apply v2_empty_67
      rw [w32_s (k := k) (by omega), Int.toNat_natCast]
      refine ⟨fun z => absurd z (by omega), fun _ => ⟨⟨by omega, by omega, trivial⟩, ih _ (fun c c1 c2 c3 c4 => by rw [sI_row c4]; exact h1 c c1 c2 c3 c4) (fun f hf => ?_) (fun l hl => ?_)⟩⟩
      · rw [sI_rw (by omega), sI_rw (by omega), sI_rw (by omega)]; exact h2 f hf
      · by_cases c : l = k
        · rw [c, sI_same]
        · rw [sI_ne c]; exact h3 l (by omega)
  have key1 : ∀ k, k ≤ 8 → ∀ (M' : Nat → Nat → Int), (∀ c, c ≠ 20 → c ≠ 21 → c ≠ 22 → c ≠ 25 → M' c = K c) → (∀ f, f < k → M' 20 f = 0 ∧ M' 21 f = 0 ∧ M' 22 f = 0) → W2_empty_32 d Φ (k : Nat) w M' n := by
    refine up (fun M' h1 h2 => ?_) (fun k hk ih M' h1 h2 => ?_)
    · exact v2_empty_32 ⟨fun _ => key2 0 (Nat.zero_le _) M' h1 h2 (fun l hl => absurd hl (by omega)), fun z => absurd (by omega) z⟩
    · apply v2_empty_32
      rw [w32_s (k := k) (by omega), Int.toNat_natCast]
      refine ⟨fun z => absurd z (by omega), fun _ => ⟨⟨by omega, by omega, trivial⟩, ⟨by omega, by omega, trivial⟩, ⟨by omega, by omega, trivial⟩, ih _ (fun c c1 c2 c3 c4 => by rw [sI_row c3, sI_row c2, sI_row c1]; exact h1 c c1 c2 c3 c4) (fun f hf => ?_)⟩⟩
      by_cases c : f = k
      · subst c
        refine ⟨?_, ?_, ?_⟩
        · rw [sI_rw (by omega), sI_rw (by omega), sI_same]
        · rw [sI_rw (by omega), sI_same]
        · rw [sI_same]
      · refine ⟨?_, ?_, ?_⟩
        · rw [sI_rw (by omega), sI_rw (by omega), sI_ne c]; exact (h2 f (by omega)).1
        · rw [sI_rw (by omega), sI_ne c, sI_rw (by omega)]; exact (h2 f (by omega)).2.1
        · rw [sI_ne c, sI_rw (by omega), sI_rw (by omega)]; exact (h2 f (by omega)).2.2
  exact key1 0 (Nat.zero_le _) K (fun _ _ _ _ _ => rfl) (fun f hf => absurd hf (by omega))
theorem relE.farms {v : Int} (h : relE 3 M P) (h12 : P 3 ≤ 12) : relE 3 (sI M 17 0 v) (pset P 1 v) := by
  obtain ⟨⟨a1, a2, a3, a4, a5, a6⟩, b, c, l, k, ⟨t1, t2⟩, z1, z2, z3, z4⟩ := h
  have e3 : pset P 1 v 3 = P 3 := pset_ne (by omega)
  have e363 : pset P 1 v 363 = P 363 := pset_ne (by omega)
  refine ⟨⟨?_, ?_, ?_, ?_, ?_, ?_⟩, fun i hi => ?_, fun g hg => ?_, fun i hi hx => ?_, fun i hi => ?_, ⟨?_, fun g hg => ?_⟩, ?_, ?_, ?_, fun g hg => ?_⟩
  · rw [sI_same, pset_eq]
  · rw [sI_ne (by omega), pset_ne (by omega)]; exact a2
  · rw [sI_ne (by omega), pset_ne (by omega)]; exact a3
  · rw [sI_ne (by omega), mustN_ext e3 (fun b hb => pset_ne (by omega))]; exact a4
  · rw [sI_ne (by omega), pset_ne (by omega)]; exact a5
  · rw [sI_ne (by omega), e363]; exact a6
  · rw [e3] at hi
    rw [sI_rw (by omega), sI_rw (by omega), pset_ne (by omega), pset_ne (by omega)]; exact b i hi
  · rw [sI_rw (by omega), sI_rw (by omega), pset_ne (by omega), pset_ne (by omega)]; exact c g hg
  · rw [sI_rw (by omega), sI_rw (by omega), pset_ne (by omega), pset_ne (by omega), pset_ne (by omega)]; exact l i hi hx
  · rw [e363] at hi
    rw [sI_rw (by omega), pset_ne (by omega)]; exact k i hi
  · rw [sI_ne (by omega), pset_ne (by omega)]; exact t1
  · rw [sI_ne (by omega), sI_rw (by omega), pset_ne (by omega), pset_ne (by omega)]; exact t2 g hg
  · rw [pset_ne (by omega)]; exact z1
  · rw [pset_ne (by omega)]; exact z2
  · rw [pset_ne (by omega)]; exact z3
  · rw [pset_ne (by omega)]; exact z4 g hg
theorem relE.moms {v : Int} (h : relE 3 M P) (h12 : P 3 ≤ 12) : relE 3 (sI M 17 1 v) (pset P 2 v) := by
  obtain ⟨⟨a1, a2, a3, a4, a5, a6⟩, b, c, l, k, ⟨t1, t2⟩, z1, z2, z3, z4⟩ := h
  have e3 : pset P 2 v 3 = P 3 := pset_ne (by omega)
  have e363 : pset P 2 v 363 = P 363 := pset_ne (by omega)
  refine ⟨⟨?_, ?_, ?_, ?_, ?_, ?_⟩, fun i hi => ?_, fun g hg => ?_, fun i hi hx => ?_, fun i hi => ?_, ⟨?_, fun g hg => ?_⟩, ?_, ?_, ?_, fun g hg => ?_⟩
  · rw [sI_ne (by omega), pset_ne (by omega)]; exact a1
  · rw [sI_same, pset_eq]
  · rw [sI_ne (by omega), pset_ne (by omega)]; exact a3
  · rw [sI_ne (by omega), mustN_ext e3 (fun b hb => pset_ne (by omega))]; exact a4
  · rw [sI_ne (by omega), pset_ne (by omega)]; exact a5
  · rw [sI_ne (by omega), e363]; exact a6
  · rw [e3] at hi
    rw [sI_rw (by omega), sI_rw (by omega), pset_ne (by omega), pset_ne (by omega)]; exact b i hi
  · rw [sI_rw (by omega), sI_rw (by omega), pset_ne (by omega), pset_ne (by omega)]; exact c g hg
  · rw [sI_rw (by omega), sI_rw (by omega), pset_ne (by omega), pset_ne (by omega), pset_ne (by omega)]; exact l i hi hx
  · rw [e363] at hi
    rw [sI_rw (by omega), pset_ne (by omega)]; exact k i hi
  · rw [sI_ne (by omega), pset_ne (by omega)]; exact t1
  · rw [sI_ne (by omega), sI_rw (by omega), pset_ne (by omega), pset_ne (by omega)]; exact t2 g hg
  · rw [pset_ne (by omega)]; exact z1
  · rw [pset_ne (by omega)]; exact z2
  · rw [pset_ne (by omega)]; exact z3
  · rw [pset_ne (by omega)]; exact z4 g hg
theorem pset_2 {P : Nat → Int} {a b f m : Int} : pset (pset (pset (pset P 1 a) 2 b) 1 f) 2 m = pset (pset P 1 f) 2 m := by
  funext j
  by_cases c2 : j = 2
  · rw [c2, pset_eq, pset_eq]
  · rw [pset_ne c2, pset_ne c2]
    by_cases c1 : j = 1
    · rw [c1, pset_eq, pset_eq]
    · rw [pset_ne c1, pset_ne c1, pset_ne c2, pset_ne c1]
/-- the first line's row ahead of its numbers doesn't matter -/
theorem hdT_2 (T : Nat → Int) (N : Nat) (P : Nat → Int) (a b : Int) : hdT T N (pset (pset P 1 a) 2 b) = hdT T N P := by
  unfold hdT
  simp only [pset_2]
theorem Txt_2 {T : Nat → Int} {N : Nat} {P : Nat → Int} {r : pR} (a b : Int) (h : Txt T N P r) : Txt T N (pset (pset P 1 a) 2 b) r := by
  unfold Txt at h ⊢
  rw [hdT_2]
  exact h
theorem relE.start {E : Nat → Int} (hE : empP E) (h : M 17 2 = 0 ∧ M 17 3 = 0 ∧ M 17 4 = 0 ∧ M 17 5 = 0 ∧ M 17 6 = 0 ∧ M 17 13 = 0) (h2 : ∀ f, f < 8 → M 20 f = 0 ∧ M 21 f = 0 ∧ M 22 f = 0) (h3 : ∀ l, l < 3 → M 25 l = 0) : relE 3 M (pset (pset E 1 (M 17 0)) 2 (M 17 1)) := by
  have e : ∀ j, j < 1264 → j ≠ 1 → j ≠ 2 → pset (pset E 1 (M 17 0)) 2 (M 17 1) j = 0 := fun j a1 a2 a3 => by rw [pset_ne a3, pset_ne a2]; exact hE j a1 a2 a3
  have e3 := e 3 (by omega) (by omega) (by omega)
  have e363 := e 363 (by omega) (by omega) (by omega)
  obtain ⟨g1, g2, g3, g4, g5, g6⟩ := h
  refine ⟨⟨?_, ?_, ?_, ?_, ?_, ?_⟩, fun i hi => ?_, fun g hg => ?_, fun i hi hx => ?_, fun i hi => ?_, ⟨?_, fun g hg => ?_⟩, ?_, ?_, ?_, fun g hg => ?_⟩
  · rw [pset_ne (by omega), pset_eq]
  · rw [pset_eq]
  · rw [e3]; exact g1
  · have : mustN (pset (pset E 1 (M 17 0)) 2 (M 17 1)) = 0 := by
      unfold mustN nB
      rw [e3]
      rfl
    rw [this]; exact g2
  · rw [e 0 (by omega) (by omega) (by omega)]; exact g5
  · rw [e363]; exact g6
  · rw [e3] at hi; omega
  · rw [e (49 + g) (by omega) (by omega) (by omega), e (57 + g) (by omega) (by omega) (by omega)]; exact ⟨(h2 g hg).1, (h2 g hg).2.2⟩
  · rw [e (4 + i) (by omega) (by omega) (by omega)]
    exact ⟨fun _ => h3 i hi, fun z => absurd rfl z⟩
  · rw [e363] at hi; omega
  · rw [e 67 (by omega) (by omega) (by omega)]; exact g3
  · rw [e (68 + g) (by omega) (by omega) (by omega), e (84 + g) (by omega) (by omega) (by omega)]; exact ⟨g4, (h2 g hg).2.1⟩
  · exact e 65 (by omega) (by omega) (by omega)
  · exact e 66 (by omega) (by omega) (by omega)
  · exact e 92 (by omega) (by omega) (by omega)
  · exact e (76 + g) (by omega) (by omega) (by omega)
theorem badC.keep {M' : Nat → Nat → Int} {k : Int} {a : Nat} (b : badC M k a) (h : M' 3 = M 3) : badC M' k a := by
  unfold badC
  rw [h]
  exact b
theorem c_head {T : Nat → Int} {N : Nat} {w1 : Nat × cQr} (h : atC 3 M T N 0 P) (h12 : P 3 ≤ 12) (q1 : ∀ M' p' P', frD M M' → atC 3 M' T N p' P' → hdT T N P = .inl (p', P') → Φ 1 M') (q0 : ∀ M' k a, frD M M' → badC M' k a → hdT T N P = .inr (k, a) → Φ 0 M') : CF (d + 6) 32 [(2, 3)] (2, w1) M n Φ := by
  apply e4_readFarms
  refine c_expect 0 (by unfold vK; omega) (by decide) h (fun e0 M1 f1 a1 => io1 ?_) (fun e0 M1 k a f1 b rr => iz1 (q0 M1 k a f1 b ((expC_f e0 : hdT T N P = _).trans rr.symm)))
  refine c_number 2 8 a1 (fun t M2 f2 a2 => ?_) (fun t M2 k a f2 b rr => ?_)
  · have e : (sI M2 17 0 (tkV T N (tkE T N 0))) 17 0 = tkV T N (tkE T N 0) := sI_same _ _ _ _
    rw [e]
    refine ⟨fun z => absurd z (by omega), fun _ => ?_⟩
    have F2 : frD M (sI M2 17 0 (tkV T N (tkE T N 0))) := ((frD.ofY f1).y f2).set (by omega)
    have a2' := a2.wth (Q := pset P 1 (tkV T N (tkE T N 0))) (sI_row (by omega)) (sI_row (by omega)) (a2.rel.farms (v := tkV T N (tkE T N 0)) h12)
    refine c_expect 1 (by unfold vK; omega) (by decide) a2' (fun e1 M3 f3 a3 => io1 ?_) (fun e1 M3 k a f3 b rr => iz1 (q0 M3 k a (F2.trans f3) b (((expC_t e0).trans ((numC_t t).trans (expC_f e1)) : hdT T N P = _).trans rr.symm)))
    refine c_number 2 8 a3 (fun v M4 f4 a4 => ?_) (fun v M4 k a f4 b rr => ?_)
    · have e : (sI M4 17 1 (tkV T N (tkE T N (tkE T N (tkE T N 0))))) 17 1 = tkV T N (tkE T N (tkE T N (tkE T N 0))) := sI_same _ _ _ _
      rw [e]
      refine ⟨fun z => absurd z (by omega), fun _ => ?_⟩
      have F4 : frD M (sI M4 17 1 (tkV T N (tkE T N (tkE T N (tkE T N 0))))) := ((F2.y f3).y f4).set (by omega)
      have a4' := a4.wth (Q := pset (pset P 1 (tkV T N (tkE T N 0))) 2 (tkV T N (tkE T N (tkE T N (tkE T N 0))))) (sI_row (by omega)) (sI_row (by omega)) (a4.rel.moms (v := tkV T N (tkE T N (tkE T N (tkE T N 0)))) (by rw [pset_ne (by omega)]; exact h12))
      have eh := ((expC_t e0).trans ((numC_t t).trans ((expC_t e1).trans (numC_t v))) : hdT T N P = _)
      exact c_end a4' (fun e M5 f5 a5 => io0 (q1 M5 _ _ (F4.trans f5) a5 (eh.trans (if_pos e)))) (fun e M5 k a f5 b rr => iz0 (q0 M5 k a (F4.trans f5) b ((eh.trans (if_neg e)).trans rr.symm)))
    · have e : (sI M4 17 1 (-1)) 17 1 = -1 := sI_same _ _ _ _
      rw [e]
      exact iz0' (q0 _ k a (((F2.y f3).trans f4).set (by omega)) (b.keep (sI_row (by omega))) (((expC_t e0).trans ((numC_t t).trans ((expC_t e1).trans (numC_f v))) : hdT T N P = _).trans rr.symm))
  · have e : (sI M2 17 0 (-1)) 17 0 = -1 := sI_same _ _ _ _
    rw [e]
    exact iz0' (q0 _ k a (((frD.ofY f1).trans f2).set (by omega)) (b.keep (sI_row (by omega))) (((expC_t e0).trans (numC_f t) : hdT T N P = _).trans rr.symm))
end
section
variable {d : Nat} {n : Nat × Nat} {Ψ : Int → cQ → (Nat → Nat → Int) → Nat × Nat → Prop} {M : Nat → Nat → Int} {T : Nat → Int} {N : Nat} {w : cQ} {E : Nat → Int} {r : pR}
theorem c_text (hN : N ≤ 900) (hT : ∀ k, k < 900 → M 2 k = m_i2b (T k) ∧ 0 ≤ T k ∧ T k < 256) (hE : empP E) (g : Txt T N E r) (q1 : ∀ x' M' p' P', (x' = w.2.1 ∨ x' = 17) → frD M M' → relE 3 M' P' → M' 3 1 = 0 → M' 3 2 = -1 → r = .inl (p', P') → Ψ 0 (2, x', w.2.2) M' n) (q0 : ∀ x' M' k a, (x' = w.2.1 ∨ x' = 17) → frD M M' → badC M' k a → r = .inr (k, a) → Ψ k (2, x', w.2.2) M' n) : CW (d + 7) 31 [(2, 3), (2, 2), (0, (N : Int))] w M n Ψ := by
  apply e4_readText
  rw [if_neg (by omega)]
  generalize hK : sI (sI (sI (sI M 3 5 (N : Int)) 3 6 0) 3 1 0) 3 2 (-1) = K
  have k0 : ∀ c, c ≠ 3 → K c = M c := by
    intro c hc
    rw [← hK, sI_row hc, sI_row hc, sI_row hc, sI_row hc]
  have k5 : K 3 5 = (N : Int) := by rw [← hK, sI_ne (by omega), sI_ne (by omega), sI_ne (by omega), sI_same]
  have k6 : K 3 6 = ((0 : Nat) : Int) := by rw [← hK, sI_ne (by omega), sI_ne (by omega), sI_same]; rfl
  have k1 : K 3 1 = 0 := by rw [← hK, sI_ne (by omega), sI_same]
  have k2 : K 3 2 = -1 := by rw [← hK, sI_same]
  refine c_empty (fun M1 h1 g1 g2 g3 => ?_)
  have t1 : tapC M1 T N := ⟨by rw [h1 3 (by omega)]; exact k5, hN, fun k hk => by rw [h1 2 (by omega), k0 2 (by omega)]; exact hT k hk⟩
  refine c_advance 0 t1 (by rw [h1 3 (by omega)]; exact k6) (Nat.zero_le _) (fun M2 f2 b1 b2 b3 b4 => ?_)
  have g := Txt_2 (M1 17 0) (M1 17 1) g
  have rE := (relE.start hE g1 g2 g3).fr (M' := M2) (fun c _ _ => f2.1 c (by omega))
  have F2 : frD M M2 := fun c c1 c2 => by rw [f2.1 c c1, h1 c (by omega), k0 c c1]
  have a2 : atC 3 M2 T N 0 (pset (pset E 1 (M1 17 0)) 2 (M1 17 1)) := ⟨⟨by rw [f2.2 5 (by omega)]; exact t1.1, hN, fun k hk => by rw [f2.1 2 (by omega)]; exact t1.2.2 k hk⟩, Nat.zero_le _, b1, b2, b3, b4, by rw [f2.2 1 (by omega), h1 3 (by omega)]; exact k1, by rw [f2.2 2 (by omega), h1 3 (by omega)]; exact k2, rE⟩
  generalize pset (pset E 1 (M1 17 0)) 2 (M1 17 1) = E' at g a2 rE
  refine c_head a2 ?_ (fun M3 p3 P3 f3 a3 e3 => ?_) (fun M3 k a f3 b3 e3 => ?_)
  · have := rE.1.2.2.1
    rw [f2.1 17 (by omega), g1.1] at this
    omega
  · unfold Txt at g
    rw [e3] at g
    obtain ⟨o3, h3, h4, u, g⟩ := g
    refine v4_readText_49x1 (c_lines u p3 M3 P3 0 w.2.1 g a3 o3 (Nat.zero_le _) (fun x' M' p' P' hx f' a' er => q1 x' M' p' P' hx ((F2.trans f3).trans f') a'.rel a'.w0 a'.fp er) (fun x' M' k a hx f' b' er => q0 x' M' k a hx ((F2.trans f3).trans f') b' er))
  · unfold Txt at g
    rw [e3] at g
    have Q : Ψ (M3 3 1) (2, w.2) M3 n := by rw [b3.1]; exact q0 w.2.1 M3 k a (Or.inl rfl) (F2.trans f3) b3 g
    exact v4_readText_49x1 ⟨fun _ => Q, fun _ => ⟨fun _ => Q, fun z => absurd rfl z⟩⟩
/-- the moments, doubts, moods of a new tale -/
theorem c_begun {Φ : Int → (Nat → Nat → Int) → Prop} {P : Nat → Int} (h4 : M 29 4 = P 67) (h5 : ∀ f, f < 8 → M 29 5 = P (68 + f)) (h33 : ∀ f, f < 8 → M 33 f = P (84 + f)) (z : P 65 = 0 ∧ P 66 = 0 ∧ P 92 = 0 ∧ ∀ f, f < 8 → P (76 + f) = 0) (q : ∀ M', (∀ c, c < 38 ∨ 41 < c → M' c = M c) → relS M' 38 (fun j => P (65 + j)) → Φ 0 M') : CF (d + 1) 70 [(2, 38), (2, 29)] w M n Φ := by
  apply e7_begin
  have key : ∀ k, k ≤ 8 → ∀ (M' : Nat → Nat → Int), (∀ c, c < 39 ∨ 41 < c → M' c = M c) → (∀ f, f < k → M' 39 f = P (68 + f) ∧ M' 40 f = 0 ∧ M' 41 f = P (84 + f)) → W7_begin_2 d Φ (k : Nat) w M' n := by
    refine up (fun M' h1 h2 => ?_) (fun k hk ih M' h1 h2 => ?_)
    · refine v7_begin_2 ⟨fun _ => q _ (fun c hc => ?_) ⟨⟨?_, ?_, ?_⟩, fun f hf => ⟨?_, ?_, ?_⟩⟩, fun z => absurd (by omega) z⟩
      · rw [sI_row (by omega), sI_row (by omega), sI_row (by omega)]; exact h1 c (by omega)
      · rw [sI_ne (by omega), sI_same]; exact z.1.symm
      · rw [sI_same]; exact z.2.1.symm
      · rw [sI_ne (by omega), sI_ne (by omega), sI_same, h1 29 (by omega)]; exact h4
      · rw [sI_rw (by omega), sI_rw (by omega), sI_rw (by omega)]
        exact (h2 f hf).1.trans (congrArg P (by omega))
      · rw [sI_rw (by omega), sI_rw (by omega), sI_rw (by omega)]
        exact (h2 f hf).2.1.trans ((z.2.2.2 f hf).symm.trans (congrArg P (by omega)))
      · rw [sI_rw (by omega), sI_rw (by omega), sI_rw (by omega)]
        exact (h2 f hf).2.2.trans (congrArg P (by omega))
    · apply v7_begin_2
      rw [w32_s (k := k) (by omega), Int.toNat_natCast]
      refine ⟨fun z => absurd z (by omega), fun _ => ⟨⟨by omega, by omega, trivial⟩, ⟨by omega, by omega, trivial⟩, ⟨by omega, by omega⟩, ⟨by omega, by omega, trivial⟩, ih _ (fun c hc => ?_) (fun f hf => ?_)⟩⟩
      · rw [sI_row (by omega), sI_row (by omega), sI_row (by omega)]; exact h1 c hc
      · by_cases c : f = k
        · subst c
          refine ⟨?_, ?_, ?_⟩
          · rw [sI_rw (by omega), sI_rw (by omega), sI_same, h1 29 (by omega)]; exact h5 f (by omega)
          · rw [sI_rw (by omega), sI_same]
          · rw [sI_same, sI_rw (by omega), sI_rw (by omega), h1 33 (by omega)]; exact h33 f (by omega)
        · refine ⟨?_, ?_, ?_⟩
          · rw [sI_rw (by omega), sI_rw (by omega), sI_ne c]; exact (h2 f (by omega)).1
          · rw [sI_rw (by omega), sI_ne c, sI_rw (by omega)]; exact (h2 f (by omega)).2.1
          · rw [sI_ne c, sI_rw (by omega), sI_rw (by omega)]; exact (h2 f (by omega)).2.2
  exact key 0 (Nat.zero_le _) M (fun _ _ => rfl) (fun f hf => absurd hf (by omega))
theorem c_line (x : Int) (L : Nat) (h1 : M 1 1 = (L : Int)) (hL : L ≤ 900) (hT : ∀ k, k < 900 → M 2 k = m_i2b (T k) ∧ 0 ≤ T k ∧ T k < 256) (hE : empP E) (g : (0 ≤ x ∧ x ≤ L) → Txt T x.toNat E r) (hok : ∀ p' P', r = .inl (p', P') → okP P') (q3 : ¬ (0 ≤ x ∧ x ≤ L) → Ψ (-3) w M n) (q1 : (0 ≤ x ∧ x ≤ L) → ∀ x' M' p' P', (x' = w.2.1 ∨ x' = 17) → r = .inl (p', P') → (∀ c, c ≠ 1 → c ≠ 3 → c ≠ 9 → (c < 17 ∨ (27 < c ∧ c < 29) ∨ 41 < c) → M' c = M c) → (∀ k, k ≠ 1 → M' 1 k = M 1 k ∧ M' 9 k = M 9 k) → M' 1 1 = 0 → M' 9 1 = 0 → M' 3 1 = 0 → M' 3 2 = -1 → relW M' P' → P' 92 = 0 → Ψ (P' 0) (2, x', w.2.2) M' n) (q0 : (0 ≤ x ∧ x ≤ L) → ∀ x' M' k a, (x' = w.2.1 ∨ x' = 17) → r = .inr (k, a) → (∀ c, c ≠ 1 → c ≠ 3 → (c < 17 ∨ 27 < c) → M' c = M c) → (∀ k, k ≠ 1 → M' 1 k = M 1 k) → M' 1 1 = 0 → M' 3 1 = k → M' 3 2 = (a : Int) → Ψ (w32 (-30 - k)) (2, x', w.2.2) M' n) : CW (d + 8) 122 [(2, 1), (0, x)] w M n Ψ := by
  apply e11_line
  rw [h1]
  refine ⟨fun c => q3 (by omega), fun c => ⟨fun c1 => ?_, fun c1 => q3 (by omega)⟩⟩
  have hx : 0 ≤ x ∧ x ≤ L := by omega
  obtain ⟨N, hN⟩ : ∃ N : Nat, x = (N : Int) := ⟨x.toNat, by omega⟩
  subst hN
  have g := g hx
  have q1 := q1 hx
  have q0 := q0 hx
  rw [Int.toNat_natCast] at g
  refine c_text (by omega) (fun k hk => by rw [sI_rw (by omega)]; exact hT k hk) hE g (fun x' M1 p' P' hx' f' rE e1 e2 er => ⟨fun _ => ?_, fun z => absurd rfl z⟩) (fun x' M1 k a hx' f' b' er => ⟨fun z => absurd z b'.2.1, fun _ => ?_⟩)
  · have ok := hok p' P' er
    have t := rE.2.2.2.2.2
    refine c_copyL2 29 17 (isLn_29 _) (isLn_17 _) (by omega) rE.toL ok.nc ok.B.2 (fun M2 k2 l2 m4 m5 m33 => ?_)
    refine c_begun (P := P') (m4.trans t.1.1) (fun f hf => m5.trans (t.1.2 f hf).1) (fun f hf => (m33 f hf).trans (t.1.2 f hf).2) t.2 (fun M3 k3 s3 => ?_)
    refine e3_forget ?_
    have l3 : relL (sI M3 9 1 0) 29 P' := l2.congr (fun c c1 c2 => by rw [sI_row (by omega)]; exact k3 c (by omega))
    have s3' : relS (sI M3 9 1 0) 38 (fun j => P' (65 + j)) := s3.congr (fun c c1 c2 => sI_row (by omega))
    rw [l3.1.2.2.2.2.1]
    have fr : ∀ c, c ≠ 9 → (c < 29 ∨ 41 < c) → (sI M3 9 1 0) c = M1 c := fun c c1 c2 => by rw [sI_row c1, k3 c (by omega), k2 c (by omega)]
    refine q1 x' _ p' P' hx' er (fun c c1 c3 c9 c4 => ?_) (fun k hk => ⟨?_, ?_⟩) ?_ (sI_same _ _ _ _) ?_ ?_ ⟨l3, s3'⟩ t.2.2.2.1
    · rw [fr c c9 (by omega), f' c c3 (by omega), sI_row c1]
    · rw [fr 1 (by omega) (by omega), f' 1 (by omega) (by omega), sI_ne hk]
    · rw [sI_ne hk, k3 9 (by omega), k2 9 (by omega), f' 9 (by omega) (by omega), sI_rw (by omega)]
    · rw [fr 1 (by omega) (by omega), f' 1 (by omega) (by omega), sI_same]
    · rw [fr 3 (by omega) (by omega)]; exact e1
    · rw [fr 3 (by omega) (by omega)]; exact e2
  · refine q0 x' M1 k a hx' er (fun c c1 c3 c4 => ?_) (fun k hk => ?_) ?_ b'.1 b'.2.2
    · rw [f' c c3 c4, sI_row c1]
    · rw [f' 1 (by omega) (by omega), sI_ne hk]
    · rw [f' 1 (by omega) (by omega), sI_same]
end
