/-! ===== a Line is copied: the class; restore ===== -/
def isLn (w : cQ) (a : Nat) : Prop := (shC w a).1 = 12 ∧ (rfC w a 7 = a + 1 ∧ rfC w a 8 = a + 2 ∧ rfC w a 9 = a + 3 ∧ rfC w a 10 = a + 4 ∧ rfC w a 11 = a + 5 ∧ rfC w a 12 = a + 6 ∧ rfC w a 14 = a + 7 ∧ rfC w a 15 = a + 8) ∧ shC w (a + 1) = (1, 12) ∧ shC w (a + 2) = (1, 12) ∧ shC w (a + 3) = (1, 8) ∧ shC w (a + 4) = (1, 8) ∧ shC w (a + 5) = (1, 8) ∧ shC w (a + 6) = (1, 900) ∧ shC w (a + 7) = (1, 3) ∧ shC w (a + 8) = (1, 3)
section
variable {d : Nat} {n : Nat × Nat} {Φ : Int → (Nat → Nat → Int) → Prop} {M : Nat → Nat → Int} {w : cQ} {P : Nat → Int}
theorem c_copyL (a b : Nat) (ha : isLn w a) (hb : isLn w b) (hab : a + 9 ≤ b ∨ b + 9 ≤ a) (r : relL M b P) (hn : 0 ≤ P 363 ∧ P 363 ≤ 900) (hB : P 3 ≤ 12) (q : ∀ M', (∀ c, c < a ∨ a + 8 < c → M' c = M c) → relL M' a P → Φ 0 M') : CF (d + 1) 22 [(2, (a : Int)), (2, (b : Int))] w M n Φ := by
  obtain ⟨a0, ⟨a1, a2, a3, a4, a5, a6, a7, a8⟩, s1, s2, s3, s4, s5, s6, s7, s8⟩ := ha
  obtain ⟨b0, ⟨b1, b2, b3, b4, b5, b6, b7, b8⟩, t1, t2, t3, t4, t5, t6, t7, t8⟩ := hb
  have hr : ∀ (K : Nat → Nat → Int) (k : Nat) (x : Int), sI K a k x b = K b := fun K k x => sI_row (by omega)
  apply e2_copyFrom
  simp only [hr]
  rw [a0, b0, a1, a2, a3, a4, a5, a6, a7, a8, b1, b2, b3, b4, b5, b6, b7, b8, s1, s2, s3, s4, s5, s6, s7, s8, t1, t2, t3, t4, t5, t6, t7, t8]
  generalize hN : sI (sI (sI (sI (sI (sI (sI (sI M a 0 (M b 0)) a 1 (M b 1)) a 2 (M b 2)) a 3 (M b 3)) a 4 (M b 4)) a 5 (M b 5)) a 6 (M b 6)) a 13 (M b 13) = N
  have nr : ∀ c, c ≠ a → N c = M c := by
    intro c hc
    rw [← hN, sI_row hc, sI_row hc, sI_row hc, sI_row hc, sI_row hc, sI_row hc, sI_row hc, sI_row hc]
  have n13 : N a 13 = M b 13 := by rw [← hN, sI_same]
  have n6 : N a 6 = M b 6 := by rw [← hN, sI_ne (by omega), sI_same]
  have n3 : N a 3 = M b 3 := by rw [← hN, sI_ne (by omega), sI_ne (by omega), sI_ne (by omega), sI_ne (by omega), sI_same]
  have n2 : N a 2 = M b 2 := by rw [← hN, sI_ne (by omega), sI_ne (by omega), sI_ne (by omega), sI_ne (by omega), sI_ne (by omega), sI_same]
  have n1 : N a 1 = M b 1 := by rw [← hN, sI_ne (by omega), sI_ne (by omega), sI_ne (by omega), sI_ne (by omega), sI_ne (by omega), sI_ne (by omega), sI_same]
  have n0 : N a 0 = M b 0 := by rw [← hN, sI_ne (by omega), sI_ne (by omega), sI_ne (by omega), sI_ne (by omega), sI_ne (by omega), sI_ne (by omega), sI_ne (by omega), sI_same]
  obtain ⟨⟨r1, r2, r3, r4, r5, r6⟩, rb, rf, rl, rc⟩ := r
  have e13 : (cI (cI (cI (cI (cI N (b + 1) 0 (a + 1) 0 12) (b + 2) 0 (a + 2) 0 12) (b + 3) 0 (a + 3) 0 8) (b + 4) 0 (a + 4) 0 8) (b + 5) 0 (a + 5) 0 8) a 13 = P 363 := by
    rw [cI_row (by omega), cI_row (by omega), cI_row (by omega), cI_row (by omega), cI_row (by omega), n13, r6]
  rw [e13]
  obtain ⟨m, hm⟩ : ∃ m : Nat, P 363 = (m : Int) := ⟨(P 363).toNat, by omega⟩
  rw [hm, Int.toNat_natCast]
  refine ⟨rfl, rfl, rfl, rfl, rfl, rfl, rfl, rfl, rfl, rfl, rfl, rfl, rfl, rfl, rfl, rfl, rfl, rfl, rfl, by decide, rfl, rfl, rfl, by decide, rfl, rfl, rfl, by decide, rfl, rfl, rfl, by decide, rfl, rfl, rfl, by decide, rfl, rfl, rfl, rfl, ⟨by omega, by omega, by omega, (by show (0 : Int) + (m : Int) ≤ ((900 : Nat) : Int); omega), (by show (0 : Int) + (m : Int) ≤ ((900 : Nat) : Int); omega)⟩, rfl, rfl, rfl, by decide, rfl, rfl, rfl, by decide, ?_⟩
  generalize hF : cI (cI (cI (cI (cI (cI (cI (cI N (b + 1) 0 (a + 1) 0 12) (b + 2) 0 (a + 2) 0 12) (b + 3) 0 (a + 3) 0 8) (b + 4) 0 (a + 4) 0 8) (b + 5) 0 (a + 5) 0 8) (b + 6) 0 (a + 6) 0 m) (b + 7) 0 (a + 7) 0 3) (b + 8) 0 (a + 8) 0 3 = F
  have fr : ∀ c, (c ≤ a ∨ a + 8 < c) → F c = N c := by
    intro c hc
    rw [← hF, cI_row (by omega), cI_row (by omega), cI_row (by omega), cI_row (by omega), cI_row (by omega), cI_row (by omega), cI_row (by omega), cI_row (by omega)]
  have f1 : ∀ j, j < 12 → F (a + 1) j = M (b + 1) j := by
    intro j hj
    rw [← hF, cI_row (by omega), cI_row (by omega), cI_row (by omega), cI_row (by omega), cI_row (by omega), cI_row (by omega), cI_row (by omega), cI_in hj, nr _ (by omega)]
  have f2 : ∀ j, j < 12 → F (a + 2) j = M (b + 2) j := by
    intro j hj
    rw [← hF, cI_row (by omega), cI_row (by omega), cI_row (by omega), cI_row (by omega), cI_row (by omega), cI_row (by omega), cI_in hj, cI_row (by omega), nr _ (by omega)]
  have f3 : ∀ j, j < 8 → F (a + 3) j = M (b + 3) j := by
    intro j hj
    rw [← hF, cI_row (by omega), cI_row (by omega), cI_row (by omega), cI_row (by omega), cI_row (by omega), cI_in hj, cI_row (by omega), cI_row (by omega), nr _ (by omega)]
  have f5 : ∀ j, j < 8 → F (a + 5) j = M (b + 5) j := by
    intro j hj
    rw [← hF, cI_row (by omega), cI_row (by omega), cI_row (by omega), cI_in hj, cI_row (by omega), cI_row (by omega), cI_row (by omega), cI_row (by omega), nr _ (by omega)]
  have f6 : ∀ j, j < m → F (a + 6) j = M (b + 6) j := by
    intro j hj
    rw [← hF, cI_row (by omega), cI_row (by omega), cI_in hj, cI_row (by omega), cI_row (by omega), cI_row (by omega), cI_row (by omega), cI_row (by omega), nr _ (by omega)]
  have f7 : ∀ j, j < 3 → F (a + 7) j = M (b + 7) j := by
    intro j hj
    rw [← hF, cI_row (by omega), cI_in hj, cI_row (by omega), cI_row (by omega), cI_row (by omega), cI_row (by omega), cI_row (by omega), cI_row (by omega), nr _ (by omega)]
  have f8 : ∀ j, j < 3 → F (a + 8) j = M (b + 8) j := by
    intro j hj
    rw [← hF, cI_in hj, cI_row (by omega), cI_row (by omega), cI_row (by omega), cI_row (by omega), cI_row (by omega), cI_row (by omega), cI_row (by omega), nr _ (by omega)]
  have fa : F a = N a := fr a (by omega)
  refine q F (fun c hc => (fr c (by omega)).trans (nr c (by omega))) ⟨⟨?_, ?_, ?_, ?_, ?_, ?_⟩, fun j hj => ?_, fun f hf => ?_, fun l hl => ?_, fun k hk => ?_⟩
  · rw [fa, n0]; exact r1
  · rw [fa, n1]; exact r2
  · rw [fa, n2]; exact r3
  · rw [fa, n3]; exact r4
  · rw [fa, n6]; exact r5
  · rw [fa, n13]; exact r6
  · rw [f1 j (by omega), f2 j (by omega)]; exact rb j hj
  · rw [f3 f hf, f5 f hf]; exact rf f hf
  · rw [f7 l hl, f8 l hl]; exact rl l hl
  · rw [f6 k (by omega)]; exact rc k hk
/-- the i-th image stands -/
def imW (w : cQ) (i : Nat) : Bool := if i = 0 then w.2.2.2.2.2.1.1 else w.2.2.2.2.2.1.2
def imA (i : Nat) : Nat := 110 + 13 * i
theorem isLn_29 (w : cQ) : isLn w 29 := ⟨rfl, ⟨rfl, rfl, rfl, rfl, rfl, rfl, rfl, rfl⟩, rfl, rfl, rfl, rfl, rfl, rfl, rfl, rfl⟩
theorem isIm (w : cQ) (i : Nat) (hi : i < 2) (h : imW w i = true) : rfC w 11 i = imA i ∧ rfC w 12 i = imA i + 9 ∧ isLn w (imA i) ∧ isSt w (imA i + 9) := by
  obtain ⟨w0, w1, w2, w3, w4, ⟨i0, i1⟩, w6⟩ := w
  have hh : i = 0 ∨ i = 1 := by omega
  rcases hh with e | e
  · subst e
    have h : i0 = true := h
    subst h
    exact ⟨rfl, rfl, ⟨rfl, ⟨rfl, rfl, rfl, rfl, rfl, rfl, rfl, rfl⟩, rfl, rfl, rfl, rfl, rfl, rfl, rfl, rfl⟩, ⟨rfl, ⟨rfl, rfl, rfl⟩, rfl, rfl, rfl⟩⟩
  · subst e
    have h : i1 = true := h
    subst h
    exact ⟨rfl, rfl, ⟨rfl, ⟨rfl, rfl, rfl, rfl, rfl, rfl, rfl, rfl⟩, rfl, rfl, rfl, rfl, rfl, rfl, rfl, rfl⟩, ⟨rfl, ⟨rfl, rfl, rfl⟩, rfl, rfl, rfl⟩⟩
theorem noIm (w : cQ) (i : Nat) (hi : i < 2) (h : imW w i = false) : rfC w 11 i = 0 ∧ rfC w 12 i = 0 := by
  obtain ⟨w0, w1, w2, w3, w4, ⟨i0, i1⟩, w6⟩ := w
  have hh : i = 0 ∨ i = 1 := by omega
  rcases hh with e | e
  · subst e
    have h : i0 = false := h
    subst h
    exact ⟨rfl, rfl⟩
  · subst e
    have h : i1 = false := h
    subst h
    exact ⟨rfl, rfl⟩
/-- the images beside the row -/
def relI (w : cQ) (M : Nat → Nat → Int) (H P : Nat → Int) : Prop := ∀ i, i < 2 → (H i = 0 ∧ imW w i = false) ∨ (H i = 1 ∧ imW w i = true ∧ relL M (imA i) (fun j => P (1264 * (i + 1) + j)) ∧ relS M (imA i + 9) (fun j => P (1264 * (i + 1) + (65 + j))) ∧ okP (fun j => P (1264 * (i + 1) + j)))
theorem c_restore {H : Nat → Int} (x : Int) (ri : relI w M H P) (q : ∀ M', (¬ (0 ≤ x ∧ x ≤ 1) → M' = M → Φ (-2) M') ∧ ((0 ≤ x ∧ x ≤ 1) → (H x.toNat = 0 → M' = M → Φ (-5) M') ∧ (H x.toNat ≠ 0 → (∀ c, c ≠ 9 → (c < 29 ∨ 41 < c) → M' c = M c) → (∀ k, k ≠ 1 → M' 9 k = M 9 k) → M' 9 1 = 0 → relW M' (fun j => P (1264 * (x.toNat + 1) + j)) → Φ 0 M'))) : CF (d + 2) 176 [(2, 1), (0, x)] w M n Φ := by
  apply e11_restore
  refine ⟨fun c => (q M).1 (by omega) rfl, fun c => ⟨fun c1 => ⟨⟨by omega, by omega⟩, ?_⟩, fun c1 => (q M).1 (by omega) rfl⟩⟩
  obtain ⟨i, hi⟩ : ∃ i : Nat, x = (i : Int) := ⟨x.toNat, by omega⟩
  subst hi
  simp only [Int.toNat_natCast] at q ⊢
  rcases ri i (by omega) with ⟨h0, hw⟩ | ⟨h1, hw, h2, h3, h4⟩
  · obtain ⟨z1, z2⟩ := noIm w i (by omega) hw
    rw [z1, z2]
    exact ⟨fun _ => ((q M).2 (by omega)).1 h0 rfl, fun z => absurd rfl z⟩
  · obtain ⟨z1, z2, z3, z4⟩ := isIm w i (by omega) hw
    rw [z1, z2]
    have hA : imA i = 110 ∨ imA i = 123 := by unfold imA; omega
    refine ⟨fun z => absurd z (by omega), fun _ => ⟨by omega, fun _ => ⟨by omega, ?_⟩, fun z => absurd (by omega) z⟩⟩
    refine c_copyL 29 (imA i) (isLn_29 w) z3 (by omega) h2 ⟨h4.nc.1, h4.nc.2⟩ h4.B.2 (fun M1 k1 l1 => ⟨by omega, ?_⟩)
    refine sp_copyS 38 (imA i + 9) (isSt_38 w) z4 (by omega) (h3.congr (fun c hc1 hc2 => k1 c (by omega))) (fun M2 k2 s2 => ?_)
    refine e3_forget (((q _).2 (by omega)).2 (by omega) (fun c hc9 hc => ?_) (fun k hk => ?_) (sI_same _ _ _ _) ⟨(l1.congr (fun c hc1 hc2 => ?_)), s2.congr (fun c hc1 hc2 => sI_row (by omega))⟩)
    · rw [sI_row hc9, k2 c (by omega), k1 c (by omega)]
    · rw [sI_ne hk, k2 9 (by omega), k1 9 (by omega)]
    · rw [sI_row (by omega), k2 c (by omega)]
end
