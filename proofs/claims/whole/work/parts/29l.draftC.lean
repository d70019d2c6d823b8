/-! ===== the draft beside the row; small members of the class's reader ===== -/
def relE (x : Nat) (M : Nat → Nat → Int) (P : Nat → Int) : Prop := (M 17 0 = P 1 ∧ M 17 1 = P 2 ∧ M 17 2 = P 3 ∧ M 17 3 = (mustN P : Nat) ∧ M 17 6 = P 0 ∧ M 17 13 = P 363) ∧ (∀ b : Nat, (b : Int) < P 3 → M 18 b = P (13 + b) ∧ M 19 b = P (25 + b)) ∧ (∀ f, f < 8 → M 20 f = P (49 + f) ∧ M 22 f = P (57 + f)) ∧ (∀ l, l < 3 → l ≠ x → (P (4 + l) = 0 → M 25 l = 0) ∧ (P (4 + l) ≠ 0 → M 24 l = P (7 + l) ∧ M 25 l = P (10 + l))) ∧ (∀ k : Nat, (k : Int) < P 363 → M 23 k = cvC (P (364 + k))) ∧ (M 17 4 = P 67 ∧ (∀ f, f < 8 → M 17 5 = P (68 + f) ∧ M 21 f = P (84 + f))) ∧ (P 65 = 0 ∧ P 66 = 0 ∧ P 92 = 0 ∧ ∀ f, f < 8 → P (76 + f) = 0)
theorem relE.toL {M : Nat → Nat → Int} {P : Nat → Int} (h : relE 3 M P) : relL M 17 P := ⟨h.1, h.2.1, h.2.2.1, fun l hl => h.2.2.2.1 l hl (by omega), h.2.2.2.2.1⟩
theorem relE.fr {x : Nat} {M M' : Nat → Nat → Int} {P : Nat → Int} (h : relE x M P) (e : ∀ c, 17 ≤ c → c ≤ 25 → M' c = M c) : relE x M' P := by
  unfold relE
  rw [e 17 (by omega) (by omega), e 18 (by omega) (by omega), e 19 (by omega) (by omega), e 20 (by omega) (by omega), e 21 (by omega) (by omega), e 22 (by omega) (by omega), e 23 (by omega) (by omega), e 24 (by omega) (by omega), e 25 (by omega) (by omega)]
  exact h
theorem sI_rw {M : Nat → Nat → Int} {a b k j : Nat} {x : Int} (h : b ≠ a) : sI M a k x b j = M b j := if_neg (fun z => h z.1)
theorem mustN_ext {P P' : Nat → Int} (h3 : P' 3 = P 3) (h : ∀ b : Nat, (b : Int) < P 3 → P' (37 + b) = P (37 + b)) : mustN P' = mustN P := by
  unfold mustN nB
  rw [h3]
  exact msk_ext _ (fun k hk => by rw [h k (by omega)])
section
variable {x : Nat} {M : Nat → Nat → Int} {P : Nat → Int}
theorem relE.wish {f : Nat} {v : Int} (h : relE x M P) (h12 : P 3 ≤ 12) (hf : f < 8) : relE x (sI M 20 f v) (pset P (49 + f) v) := by
  obtain ⟨⟨a1, a2, a3, a4, a5, a6⟩, b, c, l, k, ⟨t1, t2⟩, z1, z2, z3, z4⟩ := h
  have e3 : pset P (49 + f) v 3 = P 3 := pset_ne (by omega)
  have e363 : pset P (49 + f) v 363 = P 363 := pset_ne (by omega)
  refine ⟨⟨?_, ?_, ?_, ?_, ?_, ?_⟩, fun i hi => ?_, fun g hg => ?_, fun i hi hx => ?_, fun i hi => ?_, ⟨?_, fun g hg => ?_⟩, ?_, ?_, ?_, fun g hg => ?_⟩
  · rw [sI_rw (by omega), pset_ne (by omega)]; exact a1
  · rw [sI_rw (by omega), pset_ne (by omega)]; exact a2
  · rw [sI_rw (by omega), pset_ne (by omega)]; exact a3
  · rw [sI_rw (by omega), mustN_ext e3 (fun b hb => pset_ne (by omega))]; exact a4
  · rw [sI_rw (by omega), pset_ne (by omega)]; exact a5
  · rw [sI_rw (by omega), e363]; exact a6
  · rw [e3] at hi
    rw [sI_rw (by omega), sI_rw (by omega), pset_ne (by omega), pset_ne (by omega)]; exact b i hi
  · rw [sI_rw (show 22 ≠ 20 by omega), pset_ne (show 57 + g ≠ 49 + f by omega)]
    refine ⟨?_, (c g hg).2⟩
    by_cases e : g = f
    · subst e; rw [sI_same, pset_eq]
    · rw [sI_ne e, pset_ne (by omega)]; exact (c g hg).1
  · rw [sI_rw (by omega), sI_rw (by omega), pset_ne (by omega), pset_ne (by omega), pset_ne (by omega)]; exact l i hi hx
  · rw [e363] at hi
    rw [sI_rw (by omega), pset_ne (by omega)]; exact k i hi
  · rw [sI_rw (by omega), pset_ne (by omega)]; exact t1
  · rw [sI_rw (by omega), sI_rw (by omega), pset_ne (by omega), pset_ne (by omega)]; exact t2 g hg
  · rw [pset_ne (by omega)]; exact z1
  · rw [pset_ne (by omega)]; exact z2
  · rw [pset_ne (by omega)]; exact z3
  · rw [pset_ne (by omega)]; exact z4 g hg
theorem relE.snowd {f : Nat} {v : Int} (h : relE x M P) (h12 : P 3 ≤ 12) (hf : f < 8) : relE x (sI M 22 f v) (pset P (57 + f) v) := by
  obtain ⟨⟨a1, a2, a3, a4, a5, a6⟩, b, c, l, k, ⟨t1, t2⟩, z1, z2, z3, z4⟩ := h
  have e3 : pset P (57 + f) v 3 = P 3 := pset_ne (by omega)
  have e363 : pset P (57 + f) v 363 = P 363 := pset_ne (by omega)
  refine ⟨⟨?_, ?_, ?_, ?_, ?_, ?_⟩, fun i hi => ?_, fun g hg => ?_, fun i hi hx => ?_, fun i hi => ?_, ⟨?_, fun g hg => ?_⟩, ?_, ?_, ?_, fun g hg => ?_⟩
  · rw [sI_rw (by omega), pset_ne (by omega)]; exact a1
  · rw [sI_rw (by omega), pset_ne (by omega)]; exact a2
  · rw [sI_rw (by omega), pset_ne (by omega)]; exact a3
  · rw [sI_rw (by omega), mustN_ext e3 (fun b hb => pset_ne (by omega))]; exact a4
  · rw [sI_rw (by omega), pset_ne (by omega)]; exact a5
  · rw [sI_rw (by omega), e363]; exact a6
  · rw [e3] at hi
    rw [sI_rw (by omega), sI_rw (by omega), pset_ne (by omega), pset_ne (by omega)]; exact b i hi
  · rw [sI_rw (show 20 ≠ 22 by omega), pset_ne (show 49 + g ≠ 57 + f by omega)]
    refine ⟨(c g hg).1, ?_⟩
    by_cases e : g = f
    · subst e; rw [sI_same, pset_eq]
    · rw [sI_ne e, pset_ne (by omega)]; exact (c g hg).2
  · rw [sI_rw (by omega), sI_rw (by omega), pset_ne (by omega), pset_ne (by omega), pset_ne (by omega)]; exact l i hi hx
  · rw [e363] at hi
    rw [sI_rw (by omega), pset_ne (by omega)]; exact k i hi
  · rw [sI_rw (by omega), pset_ne (by omega)]; exact t1
  · rw [sI_rw (by omega), sI_rw (by omega), pset_ne (by omega), pset_ne (by omega)]; exact t2 g hg
  · rw [pset_ne (by omega)]; exact z1
  · rw [pset_ne (by omega)]; exact z2
  · rw [pset_ne (by omega)]; exact z3
  · rw [pset_ne (by omega)]; exact z4 g hg
theorem relE.mood {f : Nat} {v : Int} (h : relE x M P) (h12 : P 3 ≤ 12) (hf : f < 8) : relE x (sI M 21 f v) (pset P (84 + f) v) := by
  obtain ⟨⟨a1, a2, a3, a4, a5, a6⟩, b, c, l, k, ⟨t1, t2⟩, z1, z2, z3, z4⟩ := h
  have e3 : pset P (84 + f) v 3 = P 3 := pset_ne (by omega)
  have e363 : pset P (84 + f) v 363 = P 363 := pset_ne (by omega)
  refine ⟨⟨?_, ?_, ?_, ?_, ?_, ?_⟩, fun i hi => ?_, fun g hg => ?_, fun i hi hx => ?_, fun i hi => ?_, ⟨?_, fun g hg => ?_⟩, ?_, ?_, ?_, fun g hg => ?_⟩
  · rw [sI_rw (by omega), pset_ne (by omega)]; exact a1
  · rw [sI_rw (by omega), pset_ne (by omega)]; exact a2
  · rw [sI_rw (by omega), pset_ne (by omega)]; exact a3
  · rw [sI_rw (by omega), mustN_ext e3 (fun b hb => pset_ne (by omega))]; exact a4
  · rw [sI_rw (by omega), pset_ne (by omega)]; exact a5
  · rw [sI_rw (by omega), e363]; exact a6
  · rw [e3] at hi
    rw [sI_rw (by omega), sI_rw (by omega), pset_ne (by omega), pset_ne (by omega)]; exact b i hi
  · rw [sI_rw (by omega), sI_rw (by omega), pset_ne (by omega), pset_ne (by omega)]; exact c g hg
  · rw [sI_rw (by omega), sI_rw (by omega), pset_ne (by omega), pset_ne (by omega), pset_ne (by omega)]; exact l i hi hx
  · rw [e363] at hi
    rw [sI_rw (by omega), pset_ne (by omega)]; exact k i hi
  · rw [sI_rw (by omega), pset_ne (by omega)]; exact t1
  · rw [sI_rw (show 17 ≠ 21 by omega), pset_ne (show 68 + g ≠ 84 + f by omega)]
    refine ⟨(t2 g hg).1, ?_⟩
    by_cases e : g = f
    · subst e; rw [sI_same, pset_eq]
    · rw [sI_ne e, pset_ne (by omega)]; exact (t2 g hg).2
  · rw [pset_ne (by omega)]; exact z1
  · rw [pset_ne (by omega)]; exact z2
  · rw [pset_ne (by omega)]; exact z3
  · rw [pset_ne (by omega)]; exact z4 g hg
theorem relE.cutd {v : Int} (h : relE x M P) (h12 : P 3 ≤ 12) : relE x (sI M 17 4 v) (pset P 67 v) := by
  obtain ⟨⟨a1, a2, a3, a4, a5, a6⟩, b, c, l, k, ⟨t1, t2⟩, z1, z2, z3, z4⟩ := h
  have e3 : pset P 67 v 3 = P 3 := pset_ne (by omega)
  have e363 : pset P 67 v 363 = P 363 := pset_ne (by omega)
  refine ⟨⟨?_, ?_, ?_, ?_, ?_, ?_⟩, fun i hi => ?_, fun g hg => ?_, fun i hi hx => ?_, fun i hi => ?_, ⟨?_, fun g hg => ?_⟩, ?_, ?_, ?_, fun g hg => ?_⟩
  · rw [sI_ne (by omega), pset_ne (by omega)]; exact a1
  · rw [sI_ne (by omega), pset_ne (by omega)]; exact a2
  · rw [sI_ne (by omega), pset_ne (by omega)]; exact a3
  · rw [sI_ne (by omega), mustN_ext e3 (fun b hb => pset_ne (by omega))]; exact a4
  · rw [sI_ne (by omega), pset_ne (by omega)]; exact a5
  · rw [sI_ne (by omega), e363]; exact a6
  · rw [e3] at hi
    rw [sI_rw (by omega), sI_rw (by omega), pset_ne (by omega), pset_ne (by omega)]; exact b i hi
  · rw [sI_rw (by omega), sI_rw (by omega), pset_ne (by omega), pset_ne (by omega)]; exact c g hg
  · rw [sI_rw (by omega), sI_rw (by omega), pset_ne (by omega), pset_ne (by omega), pset_ne (by omega)]; exact l i hi hx
  · rw [e363] at hi
    rw [sI_rw (by omega), pset_ne (by omega)]; exact k i hi
  · rw [sI_same, pset_eq]
  · rw [sI_ne (by omega), sI_rw (by omega), pset_ne (by omega), pset_ne (by omega)]; exact t2 g hg
  · rw [pset_ne (by omega)]; exact z1
  · rw [pset_ne (by omega)]; exact z2
  · rw [pset_ne (by omega)]; exact z3
  · rw [pset_ne (by omega)]; exact z4 g hg
theorem relE.lined {v : Int} (h : relE x M P) : relE x (sI M 17 6 v) (pset P 0 v) := by
  obtain ⟨⟨a1, a2, a3, a4, a5, a6⟩, b, c, l, k, ⟨t1, t2⟩, z1, z2, z3, z4⟩ := h
  have e3 : pset P 0 v 3 = P 3 := pset_ne (by omega)
  have e363 : pset P 0 v 363 = P 363 := pset_ne (by omega)
  refine ⟨⟨?_, ?_, ?_, ?_, ?_, ?_⟩, fun i hi => ?_, fun g hg => ?_, fun i hi hx => ?_, fun i hi => ?_, ⟨?_, fun g hg => ?_⟩, ?_, ?_, ?_, fun g hg => ?_⟩
  · rw [sI_ne (by omega), pset_ne (by omega)]; exact a1
  · rw [sI_ne (by omega), pset_ne (by omega)]; exact a2
  · rw [sI_ne (by omega), pset_ne (by omega)]; exact a3
  · rw [sI_ne (by omega), mustN_ext e3 (fun b hb => pset_ne (by omega))]; exact a4
  · rw [sI_same, pset_eq]
  · rw [sI_ne (by omega), e363]; exact a6
  · rw [e3] at hi
    rw [sI_rw (by omega), sI_rw (by omega), pset_ne (by omega), pset_ne (by omega)]; exact b i hi
  · rw [sI_rw (by omega), sI_rw (by omega), pset_ne (by omega), pset_ne (by omega)]; exact c g hg
  · rw [sI_rw (by omega), sI_rw (by omega), pset_ne (by omega), pset_ne (by omega), pset_ne (by omega)]; exact l i hi hx
  · rw [e363] at hi
    rw [sI_rw (by omega), pset_ne (by omega)]; exact k i hi
  · rw [sI_ne (by omega), pset_ne (by omega)]; exact t1
  · rw [sI_ne (by omega), sI_rw (by omega), pset_ne (by omega), pset_ne (by omega)]; exact t2 g hg
  · rw [pset_ne (by omega)]; exact z1
  · rw [pset_ne (by omega)]; exact z2
  · rw [pset_ne (by omega)]; exact z3
  · rw [pset_ne (by omega)]; exact z4 g hg
theorem relE.now {v : Int} (h : relE x M P) (h12 : P 3 ≤ 12) : relE x (sI M 17 5 v) (nowR P v) := by
  obtain ⟨⟨a1, a2, a3, a4, a5, a6⟩, b, c, l, k, ⟨t1, t2⟩, z1, z2, z3, z4⟩ := h
  have e : ∀ j, j < 68 ∨ 76 ≤ j → nowR P v j = P j := fun j hj => if_neg (by omega)
  have e3 : nowR P v 3 = P 3 := e 3 (by omega)
  have e363 : nowR P v 363 = P 363 := e 363 (by omega)
  refine ⟨⟨?_, ?_, ?_, ?_, ?_, ?_⟩, fun i hi => ?_, fun g hg => ?_, fun i hi hx => ?_, fun i hi => ?_, ⟨?_, fun g hg => ?_⟩, ?_, ?_, ?_, fun g hg => ?_⟩
  · rw [sI_ne (by omega), e _ (by omega)]; exact a1
  · rw [sI_ne (by omega), e _ (by omega)]; exact a2
  · rw [sI_ne (by omega), e _ (by omega)]; exact a3
  · rw [sI_ne (by omega), mustN_ext e3 (fun b hb => e _ (by omega))]; exact a4
  · rw [sI_ne (by omega), e _ (by omega)]; exact a5
  · rw [sI_ne (by omega), e363]; exact a6
  · rw [e3] at hi
    rw [sI_rw (by omega), sI_rw (by omega), e (13 + i) (by omega), e (25 + i) (by omega)]; exact b i hi
  · rw [sI_rw (by omega), sI_rw (by omega), e (49 + g) (by omega), e (57 + g) (by omega)]; exact c g hg
  · rw [sI_rw (by omega), sI_rw (by omega), e (4 + i) (by omega), e (7 + i) (by omega), e (10 + i) (by omega)]; exact l i hi hx
  · rw [e363] at hi
    rw [sI_rw (by omega), e _ (by omega)]; exact k i hi
  · rw [sI_ne (by omega), e _ (by omega)]; exact t1
  · rw [sI_same, sI_rw (by omega), e (84 + g) (by omega)]
    exact ⟨(if_pos (by omega) : nowR P v (68 + g) = v).symm, (t2 g hg).2⟩
  · rw [e _ (by omega)]; exact z1
  · rw [e _ (by omega)]; exact z2
  · rw [e _ (by omega)]; exact z3
  · rw [e _ (by omega)]; exact z4 g hg
theorem mustN_putB {a b m : Int} (h0 : 0 ≤ P 3) (h12 : P 3 < 12) (hm : m = 0 ∨ m = 1) : ((mustN (putB P a b m) : Nat) : Int) = (if m = 1 then m_or (mustN P : Nat) (m_shl 1 (P 3)) else ((mustN P : Nat) : Int)) := by
  obtain ⟨B, hB⟩ : ∃ B : Nat, P 3 = (B : Int) := ⟨(P 3).toNat, by omega⟩
  have nb : nB P = B := by unfold nB; omega
  have nb' : nB (putB P a b m) = B + 1 := by
    unfold nB putB
    rw [pset_eq]; omega
  have em : putB P a b m (37 + B) = m := by
    unfold putB
    rw [hB, Int.toNat_natCast, pset_ne (by omega), pset_eq]
  have ee : ∀ k, k < B → putB P a b m (37 + k) = P (37 + k) := by
    intro k hk
    unfold putB
    rw [hB, Int.toNat_natCast, pset_ne (by omega), pset_ne (by omega), pset_ne (by omega), pset_ne (by omega)]
  have e1 : msk (fun b_1 => decide (putB P a b m (37 + b_1) = 1)) B = mustN P := by
    unfold mustN
    rw [nb]
    exact msk_ext _ (fun k hk => by rw [ee k hk])
  have e2 := msk_or (fun b_1 => decide (putB P a b m (37 + b_1) = 1)) (n := B) (by omega)
  have e3 : mustN (putB P a b m) = msk (fun b_1 => decide (putB P a b m (37 + b_1) = 1)) (B + 1) := by
    unfold mustN
    rw [nb']
  rw [e3, ← e2, e1, hB]
  rw [em]
  rcases hm with z | z
  · subst z
    rw [if_neg (by decide), if_neg (by decide)]
    have hl : mustN P < 4096 := by
      unfold mustN
      exact msk_lt12 _ (by omega)
    have := m_or_n (a := mustN P) (b := 0) (by omega) (by omega)
    rw [Nat.or_zero] at this
    exact this
  · subst z
    rw [if_pos (by decide), if_pos rfl]
/-- a bit is put into the draft -/
def bitM (M : Nat → Nat → Int) (B : Nat) (a b mu : Int) (P3 : Int) : Nat → Nat → Int := sI (sI (sI (sI M 18 B a) 19 B b) 17 3 mu) 17 2 P3
theorem relE.put1 {a b m : Int} (h : relE x M P) (h0 : 0 ≤ P 3) (h12 : P 3 < 12) (hm : m = 0 ∨ m = 1) {M' : Nat → Nat → Int} (hr : ∀ c, 20 ≤ c → c ≤ 25 → M' c = M c) (h17 : ∀ k, k ≠ 2 → k ≠ 3 → M' 17 k = M 17 k) (h2 : M' 17 2 = P 3 + 1) (h3 : M' 17 3 = (if m = 1 then m_or (M 17 3) (m_shl 1 (P 3)) else M 17 3)) (h18 : M' 18 = pset (M 18) (P 3).toNat a) (h19 : M' 19 = pset (M 19) (P 3).toNat b) : relE x M' (putB P a b m) := by
  obtain ⟨⟨a1, a2, a3, a4, a5, a6⟩, bb, c, l, k, ⟨t1, t2⟩, z1, z2, z3, z4⟩ := h
  have mp := mustN_putB (P := P) (a := a) (b := b) h0 h12 hm
  rw [← a4] at mp
  obtain ⟨B, hB⟩ : ∃ B : Nat, P 3 = (B : Int) := ⟨(P 3).toNat, by omega⟩
  have e : ∀ j, (j < 13 ∧ j ≠ 3) ∨ 49 ≤ j → putB P a b m j = P j := by
    intro j hj
    unfold putB
    rw [hB, Int.toNat_natCast, pset_ne (by omega), pset_ne (by omega), pset_ne (by omega), pset_ne (by omega)]
  have e3 : putB P a b m 3 = P 3 + 1 := by unfold putB; exact pset_eq _ _ _
  have e363 := e 363 (by omega)
  refine ⟨⟨?_, ?_, ?_, ?_, ?_, ?_⟩, fun i hi => ?_, fun g hg => ?_, fun i hi hx => ?_, fun i hi => ?_, ⟨?_, fun g hg => ?_⟩, ?_, ?_, ?_, fun g hg => ?_⟩
  · rw [h17 _ (by omega) (by omega), e _ (by omega)]; exact a1
  · rw [h17 _ (by omega) (by omega), e _ (by omega)]; exact a2
  · rw [h2, e3]
  · rw [mp]; exact h3
  · rw [h17 _ (by omega) (by omega), e _ (by omega)]; exact a5
  · rw [h17 _ (by omega) (by omega), e _ (by omega)]; exact a6
  · rw [e3] at hi
    rw [h18, h19, hB, Int.toNat_natCast]
    unfold putB
    rw [hB, Int.toNat_natCast]
    by_cases c : i = B
    · subst c
      rw [pset_eq, pset_eq, pset_ne (by omega), pset_ne (by omega), pset_ne (by omega), pset_eq, pset_ne (show 25 + i ≠ 3 by omega), pset_ne (show 25 + i ≠ 37 + i by omega), pset_eq]
      exact ⟨rfl, rfl⟩
    · rw [pset_ne c, pset_ne c, pset_ne (show 13 + i ≠ 3 by omega), pset_ne (show 13 + i ≠ 37 + B by omega), pset_ne (show 13 + i ≠ 25 + B by omega), pset_ne (show 13 + i ≠ 13 + B by omega), pset_ne (show 25 + i ≠ 3 by omega), pset_ne (show 25 + i ≠ 37 + B by omega), pset_ne (show 25 + i ≠ 25 + B by omega), pset_ne (show 25 + i ≠ 13 + B by omega)]
      exact bb i (by omega)
  · rw [hr 20 (by omega) (by omega), hr 22 (by omega) (by omega), e (49 + g) (by omega), e (57 + g) (by omega)]; exact c g hg
  · rw [hr 24 (by omega) (by omega), hr 25 (by omega) (by omega), e (4 + i) (by omega), e (7 + i) (by omega), e (10 + i) (by omega)]; exact l i hi hx
  · rw [e363] at hi
    rw [hr 23 (by omega) (by omega), e _ (by omega)]; exact k i hi
  · rw [h17 _ (by omega) (by omega), e _ (by omega)]; exact t1
  · rw [h17 _ (by omega) (by omega), hr 21 (by omega) (by omega), e (68 + g) (by omega), e (84 + g) (by omega)]; exact t2 g hg
  · rw [e _ (by omega)]; exact z1
  · rw [e _ (by omega)]; exact z2
  · rw [e _ (by omega)]; exact z3
  · rw [e _ (by omega)]; exact z4 g hg
/-- a piece of code is put into the draft -/
theorem relE.code {v : Int} (h : relE x M P) (h0 : 0 ≤ P 363) (h12 : P 3 ≤ 12) : relE x (sI (sI M 23 (P 363).toNat (cvC v)) 17 13 (P 363 + 1)) (adC v P) := by
  obtain ⟨⟨a1, a2, a3, a4, a5, a6⟩, b, c, l, k, ⟨t1, t2⟩, z1, z2, z3, z4⟩ := h
  have e : ∀ j, j < 363 → adC v P j = P j := fun j hj => adC_ne (by omega) (by omega)
  have e3 := e 3 (by omega)
  refine ⟨⟨?_, ?_, ?_, ?_, ?_, ?_⟩, fun i hi => ?_, fun g hg => ?_, fun i hi hx => ?_, fun i hi => ?_, ⟨?_, fun g hg => ?_⟩, ?_, ?_, ?_, fun g hg => ?_⟩
  · rw [sI_ne (by omega), sI_rw (by omega), e _ (by omega)]; exact a1
  · rw [sI_ne (by omega), sI_rw (by omega), e _ (by omega)]; exact a2
  · rw [sI_ne (by omega), sI_rw (by omega), e3]; exact a3
  · rw [sI_ne (by omega), sI_rw (by omega), mustN_ext e3 (fun b hb => e _ (by omega))]; exact a4
  · rw [sI_ne (by omega), sI_rw (by omega), e _ (by omega)]; exact a5
  · rw [sI_same, adC_n]
  · rw [e3] at hi
    rw [sI_rw (by omega), sI_rw (by omega), sI_rw (by omega), sI_rw (by omega), e (13 + i) (by omega), e (25 + i) (by omega)]; exact b i hi
  · rw [sI_rw (by omega), sI_rw (by omega), sI_rw (by omega), sI_rw (by omega), e (49 + g) (by omega), e (57 + g) (by omega)]; exact c g hg
  · rw [sI_rw (by omega), sI_rw (by omega), sI_rw (by omega), sI_rw (by omega), e (4 + i) (by omega), e (7 + i) (by omega), e (10 + i) (by omega)]; exact l i hi hx
  · rw [adC_n] at hi
    rw [sI_rw (by omega)]
    by_cases ci : i = (P 363).toNat
    · subst ci
      rw [sI_same, adC_at h0]
    · rw [sI_ne ci, adC_ne (by omega) (by omega)]
      exact k i (by omega)
  · rw [sI_ne (by omega), sI_rw (by omega), e _ (by omega)]; exact t1
  · rw [sI_ne (by omega), sI_rw (by omega), sI_rw (by omega), sI_rw (by omega), e (68 + g) (by omega), e (84 + g) (by omega)]; exact t2 g hg
  · rw [e _ (by omega)]; exact z1
  · rw [e _ (by omega)]; exact z2
  · rw [e _ (by omega)]; exact z3
  · rw [e _ (by omega)]; exact z4 g hg
end
