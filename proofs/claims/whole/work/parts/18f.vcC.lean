/-! ===== conditions of the class's methods (printed by program) ===== -/
set_option maxRecDepth 20000 in
theorem b10_drawBelow_32 {w : cQ} {d : Nat} {F : mPost} {s0 : Int} {M : Nat → Nat → Int} {n : Nat × Nat} (q : F (0, s0) (hC w M n)) : WPc t10_drawBelow (WPm gT d) F (32, [(9, 0), (9, 0)], [(0, s0)], hC w M n) :=
  vcK_ok (K := [31, 32]) 24 _ q
set_option maxRecDepth 20000 in
theorem b10_drawBelow_31 {w : cQ} {d : Nat} {F : mPost} {M : Nat → Nat → Int} {n : Nat × Nat} (q : WPc t10_drawBelow (WPm gT d) F (32, [(9, 0), (9, 0)], [(0, 0)], hC w M n)) : WPc t10_drawBelow (WPm gT d) F (31, [(9, 0), (9, 0)], [], hC w M n) :=
  vcK_ok (K := [31, 32]) 24 _ q
set_option maxRecDepth 20000 in
theorem b10_drawBelow_0 {w : cQ} {d : Nat} {F : mPost} {x1 : Int} {M : Nat → Nat → Int} {n : Nat × Nat} (q : (x1 ≤ 0 → WPc t10_drawBelow (WPm gT d) F (31, [(2, 4), (0, x1)], [], hC w (sI M 4 4 (w32 ((w32 (1103515245 * (M 4 4))) + 12345))) n)) ∧ (¬ (x1 ≤ 0) → (x1 ≠ 0) ∧ (WPc t10_drawBelow (WPm gT d) F (32, [(2, 4), (0, x1)], [(0, m_rem (m_ushr ((sI M 4 4 (w32 ((w32 (1103515245 * (M 4 4))) + 12345))) 4 4) 16) x1)], hC w (sI M 4 4 (w32 ((w32 (1103515245 * (M 4 4))) + 12345))) n)))) : WPc t10_drawBelow (WPm gT d) F (0, [(2, 4), (0, x1)], [], hC w M n) :=
  vcK_ok (K := [31, 32]) 24 _ q
set_option maxRecDepth 20000 in
theorem e10_drawBelow {w : cQ} {d : Nat} {Ψ : Int → cQ → (Nat → Nat → Int) → Nat × Nat → Prop} {x1 : Int} {M : Nat → Nat → Int} {n : Nat × Nat} (q : (x1 ≤ 0 → Ψ 0 w (sI M 4 4 (w32 ((w32 (1103515245 * (M 4 4))) + 12345))) n) ∧ (¬ (x1 ≤ 0) → (x1 ≠ 0) ∧ (Ψ (m_rem (m_ushr ((sI M 4 4 (w32 ((w32 (1103515245 * (M 4 4))) + 12345))) 4 4) 16) x1) w (sI M 4 4 (w32 ((w32 (1103515245 * (M 4 4))) + 12345))) n))) : CW (d + 1) 114 [(2, 4), (0, x1)] w M n Ψ :=
  WPm_in g10_drawBelow (Nat.le_of_ble_eq_true rfl) (b10_drawBelow_0 ⟨fun c1 => (WPc.kill [0, 1] (b10_drawBelow_31 (WPc.kill [0, 1] (b10_drawBelow_32 (FCmk (q.1 c1)))))), fun c1 => ⟨(q.2 c1).1, (WPc.kill [0, 1] (b10_drawBelow_32 (FCmk (q.2 c1).2)))⟩⟩)
set_option maxRecDepth 20000 in
theorem b10_unlikeMoments_39 {w : cQ} {d : Nat} {F : mPost} {s0 : Int} {M : Nat → Nat → Int} {n : Nat × Nat} (q : F (0, s0) (hC w M n)) : WPc t10_unlikeMoments (WPm gT d) F (39, [(9, 0), (9, 0), (9, 0)], [(0, s0)], hC w M n) :=
  vcK_ok (K := [4, 35, 39]) 29 _ q
set_option maxRecDepth 20000 in
theorem b10_unlikeMoments_35 {w : cQ} {d : Nat} {F : mPost} {x1 : Int} {M : Nat → Nat → Int} {n : Nat × Nat} (q : WPm gT d 318 [(0, x1)] (hC w M n) (fun r h' => WPc t10_unlikeMoments (WPm gT d) F (39, [(9, 0), (0, x1), (9, 0)], [(0, r.2)], h'))) : WPc t10_unlikeMoments (WPm gT d) F (35, [(9, 0), (0, x1), (9, 0)], [], hC w M n) :=
  vcK_ok (K := [4, 35, 39]) 29 _ q
set_option maxRecDepth 20000 in
theorem b10_unlikeMoments_4 {w : cQ} {d : Nat} {F : mPost} {x1 x2 : Int} {M : Nat → Nat → Int} {n : Nat × Nat} (q : ((M 29 0) ≤ x2 → WPc t10_unlikeMoments (WPm gT d) F (35, [(2, 4), (0, x1), (0, x2)], [], hC w M n)) ∧ (¬ ((M 29 0) ≤ x2) → (0 ≤ x2 ∧ x2 < ((8 : Nat) : Int)) ∧ (WPc t10_unlikeMoments (WPm gT d) F (4, [(2, 4), (0, m_or x1 (m_shl 1 (M 39 x2.toNat))), (0, w32 (x2 + 1))], [], hC w M n)))) : WPc t10_unlikeMoments (WPm gT d) F (4, [(2, 4), (0, x1), (0, x2)], [], hC w M n) :=
  vcK_ok (K := [4, 35, 39]) 29 _ q
set_option maxRecDepth 20000 in
theorem b10_unlikeMoments_0 {w : cQ} {d : Nat} {F : mPost} {M : Nat → Nat → Int} {n : Nat × Nat} (q : WPc t10_unlikeMoments (WPm gT d) F (4, [(2, 4), (0, 0), (0, 0)], [], hC w M n)) : WPc t10_unlikeMoments (WPm gT d) F (0, [(2, 4), (9, 0), (9, 0)], [], hC w M n) :=
  vcK_ok (K := [4, 35, 39]) 29 _ q
def W10_unlikeMoments_4 (d : Nat) (Ψ : Int → cQ → (Nat → Nat → Int) → Nat × Nat → Prop) (x1 x2 : Int) (w : cQ) (M : Nat → Nat → Int) (n : Nat × Nat) : Prop := WPc t10_unlikeMoments (WPm gT d) (FC Ψ) (4, [(2, 4), (0, x1), (0, x2)], [], hC w M n)
set_option maxRecDepth 20000 in
theorem v10_unlikeMoments_4 {w : cQ} {d : Nat} {Ψ : Int → cQ → (Nat → Nat → Int) → Nat × Nat → Prop} {x1 x2 : Int} {M : Nat → Nat → Int} {n : Nat × Nat} (q : ((M 29 0) ≤ x2 → CW d 318 [(0, x1)] w M n (fun r0 w_1 M1 n_1 => Ψ r0 w_1 M1 n_1)) ∧ (¬ ((M 29 0) ≤ x2) → (0 ≤ x2 ∧ x2 < ((8 : Nat) : Int)) ∧ (W10_unlikeMoments_4 d Ψ (m_or x1 (m_shl 1 (M 39 x2.toNat))) (w32 (x2 + 1)) w M n ))) : W10_unlikeMoments_4 d Ψ x1 x2 w M n :=
  b10_unlikeMoments_4 ⟨fun c1 => (WPc.kill [0, 2] (b10_unlikeMoments_35 (WPm_mono gT d _ _ _ _ _ (fun r0 h' z0 => by obtain ⟨_, M1, _, rfl, z0⟩ := z0; exact WPc.kill [0, 1, 2] (b10_unlikeMoments_39 (FCmk z0))) (q.1 c1)))), fun c1 => ⟨(q.2 c1).1, (q.2 c1).2⟩⟩
set_option maxRecDepth 20000 in
theorem e10_unlikeMoments {w : cQ} {d : Nat} {Ψ : Int → cQ → (Nat → Nat → Int) → Nat × Nat → Prop} {M : Nat → Nat → Int} {n : Nat × Nat} (q : W10_unlikeMoments_4 d Ψ 0 0 w M n ) : CW (d + 1) 115 [(2, 4)] w M n Ψ :=
  WPm_in g10_unlikeMoments (Nat.le_of_ble_eq_true rfl) (b10_unlikeMoments_0 q)
set_option maxRecDepth 20000 in
theorem b10_allDoubts_4 {w : cQ} {d : Nat} {F : mPost} {x1 x2 : Int} {M : Nat → Nat → Int} {n : Nat × Nat} (q : ((M 29 0) ≤ x2 → F (0, x1) (hC w M n)) ∧ (¬ ((M 29 0) ≤ x2) → (0 ≤ x2 ∧ x2 < ((8 : Nat) : Int)) ∧ (WPc t10_allDoubts (WPm gT d) F (4, [(2, 4), (0, w32 (x1 + (M 40 x2.toNat))), (0, w32 (x2 + 1))], [], hC w M n)))) : WPc t10_allDoubts (WPm gT d) F (4, [(2, 4), (0, x1), (0, x2)], [], hC w M n) :=
  vcK_ok (K := [4]) 26 _ q
set_option maxRecDepth 20000 in
theorem b10_allDoubts_0 {w : cQ} {d : Nat} {F : mPost} {M : Nat → Nat → Int} {n : Nat × Nat} (q : WPc t10_allDoubts (WPm gT d) F (4, [(2, 4), (0, 0), (0, 0)], [], hC w M n)) : WPc t10_allDoubts (WPm gT d) F (0, [(2, 4), (9, 0), (9, 0)], [], hC w M n) :=
  vcK_ok (K := [4]) 26 _ q
def W10_allDoubts_4 (d : Nat) (Ψ : Int → cQ → (Nat → Nat → Int) → Nat × Nat → Prop) (x1 x2 : Int) (w : cQ) (M : Nat → Nat → Int) (n : Nat × Nat) : Prop := WPc t10_allDoubts (WPm gT d) (FC Ψ) (4, [(2, 4), (0, x1), (0, x2)], [], hC w M n)
set_option maxRecDepth 20000 in
theorem v10_allDoubts_4 {w : cQ} {d : Nat} {Ψ : Int → cQ → (Nat → Nat → Int) → Nat × Nat → Prop} {x1 x2 : Int} {M : Nat → Nat → Int} {n : Nat × Nat} (q : ((M 29 0) ≤ x2 → Ψ x1 w M n) ∧ (¬ ((M 29 0) ≤ x2) → (0 ≤ x2 ∧ x2 < ((8 : Nat) : Int)) ∧ (W10_allDoubts_4 d Ψ (w32 (x1 + (M 40 x2.toNat))) (w32 (x2 + 1)) w M n ))) : W10_allDoubts_4 d Ψ x1 x2 w M n :=
  b10_allDoubts_4 ⟨fun c1 => (FCmk (q.1 c1)), fun c1 => ⟨(q.2 c1).1, (q.2 c1).2⟩⟩
set_option maxRecDepth 20000 in
theorem e10_allDoubts {w : cQ} {d : Nat} {Ψ : Int → cQ → (Nat → Nat → Int) → Nat × Nat → Prop} {M : Nat → Nat → Int} {n : Nat × Nat} (q : W10_allDoubts_4 d Ψ 0 0 w M n ) : CW (d + 1) 116 [(2, 4)] w M n Ψ :=
  WPm_in g10_allDoubts (Nat.le_of_ble_eq_true rfl) (b10_allDoubts_0 q)
set_option maxRecDepth 20000 in
theorem b10_wholeAbove_61 {w : cQ} {d : Nat} {F : mPost} {x3 x4 x6 : Int} {M : Nat → Nat → Int} {n : Nat × Nat} (q : WPc t10_wholeAbove (WPm gT d) F (26, [(2, 4), (9, 0), (9, 0), (0, x3), (1, x4), (9, 0), (0, w32 (x6 + 1))], [], hC w M n)) : WPc t10_wholeAbove (WPm gT d) F (61, [(2, 4), (9, 0), (9, 0), (0, x3), (1, x4), (9, 0), (0, x6)], [], hC w M n) :=
  vcK_ok (K := [5, 26, 61]) 45 _ q
set_option maxRecDepth 20000 in
theorem b10_wholeAbove_26 {w : cQ} {d : Nat} {F : mPost} {x3 x4 x6 : Int} {M : Nat → Nat → Int} {n : Nat × Nat} (q : (8 ≤ x6 → F (1, x4) (hC w M n)) ∧ (¬ (8 ≤ x6) → ((m_and (m_shr x3 x6) 1) = 0 → WPc t10_wholeAbove (WPm gT d) F (61, [(2, 4), (9, 0), (9, 0), (0, x3), (1, x4), (9, 0), (0, x6)], [], hC w M n)) ∧ (¬ ((m_and (m_shr x3 x6) 1) = 0) → (0 ≤ x6 ∧ x6 < ((8 : Nat) : Int)) ∧ (WPc t10_wholeAbove (WPm gT d) F (61, [(2, 4), (9, 0), (9, 0), (0, x3), (1, w64 (x4 * (w32 (10 - (M 34 x6.toNat))))), (9, 0), (0, x6)], [], hC w M n))))) : WPc t10_wholeAbove (WPm gT d) F (26, [(2, 4), (9, 0), (9, 0), (0, x3), (1, x4), (9, 0), (0, x6)], [], hC w M n) :=
  vcK_ok (K := [5, 26, 61]) 45 _ q
set_option maxRecDepth 20000 in
theorem b10_wholeAbove_5 {w : cQ} {d : Nat} {F : mPost} {s0 : Int} {M : Nat → Nat → Int} {n : Nat × Nat} (q : ((m_and (M 38 3) s0) = 0 → WPc t10_wholeAbove (WPm gT d) F (26, [(2, 4), (9, 0), (9, 0), (0, s0), (1, 1), (9, 0), (0, 0)], [], hC w M n)) ∧ (¬ ((m_and (M 38 3) s0) = 0) → F (1, 0) (hC w M n))) : WPc t10_wholeAbove (WPm gT d) F (5, [(2, 4), (9, 0), (9, 0), (9, 0), (9, 0), (9, 0), (9, 0)], [(0, s0)], hC w M n) :=
  vcK_ok (K := [5, 26, 61]) 45 _ q
set_option maxRecDepth 20000 in
theorem b10_wholeAbove_0 {w : cQ} {d : Nat} {F : mPost} {x1 x2 : Int} {M : Nat → Nat → Int} {n : Nat × Nat} (q : WPm gT d 181 [(0, x1), (0, x2)] (hC w M n) (fun r h' => WPc t10_wholeAbove (WPm gT d) F (5, [(2, 4), (0, x1), (0, x2), (9, 0), (9, 0), (9, 0), (9, 0)], [(0, r.2)], h'))) : WPc t10_wholeAbove (WPm gT d) F (0, [(2, 4), (0, x1), (0, x2), (9, 0), (9, 0), (9, 0), (9, 0)], [], hC w M n) :=
  vcK_ok (K := [5, 26, 61]) 45 _ q
def W10_wholeAbove_26 (d : Nat) (Ψ : Int → cQ → (Nat → Nat → Int) → Nat × Nat → Prop) (x3 x4 x6 : Int) (w : cQ) (M : Nat → Nat → Int) (n : Nat × Nat) : Prop := WPc t10_wholeAbove (WPm gT d) (FC Ψ) (26, [(2, 4), (9, 0), (9, 0), (0, x3), (1, x4), (9, 0), (0, x6)], [], hC w M n)
set_option maxRecDepth 20000 in
theorem v10_wholeAbove_26 {w : cQ} {d : Nat} {Ψ : Int → cQ → (Nat → Nat → Int) → Nat × Nat → Prop} {x3 x4 x6 : Int} {M : Nat → Nat → Int} {n : Nat × Nat} (q : (8 ≤ x6 → Ψ x4 w M n) ∧ (¬ (8 ≤ x6) → ((m_and (m_shr x3 x6) 1) = 0 → W10_wholeAbove_26 d Ψ x3 x4 (w32 (x6 + 1)) w M n ) ∧ (¬ ((m_and (m_shr x3 x6) 1) = 0) → (0 ≤ x6 ∧ x6 < ((8 : Nat) : Int)) ∧ (W10_wholeAbove_26 d Ψ x3 (w64 (x4 * (w32 (10 - (M 34 x6.toNat))))) (w32 (x6 + 1)) w M n )))) : W10_wholeAbove_26 d Ψ x3 x4 x6 w M n :=
  b10_wholeAbove_26 ⟨fun c1 => (FCmk (q.1 c1)), fun c1 => ⟨fun c2 => (b10_wholeAbove_61 ((q.2 c1).1 c2)), fun c2 => ⟨((q.2 c1).2 c2).1, (b10_wholeAbove_61 ((q.2 c1).2 c2).2)⟩⟩⟩
set_option maxRecDepth 20000 in
theorem e10_wholeAbove {w : cQ} {d : Nat} {Ψ : Int → cQ → (Nat → Nat → Int) → Nat × Nat → Prop} {x1 x2 : Int} {M : Nat → Nat → Int} {n : Nat × Nat} (q : CW d 181 [(0, x1), (0, x2)] w M n (fun r0 w_1 M1 n_1 => ((m_and (M1 38 3) r0) = 0 → W10_wholeAbove_26 d Ψ r0 1 0 w_1 M1 n_1 ) ∧ (¬ ((m_and (M1 38 3) r0) = 0) → Ψ 0 w_1 M1 n_1))) : CW (d + 1) 117 [(2, 4), (0, x1), (0, x2)] w M n Ψ :=
  WPm_in g10_wholeAbove (Nat.le_of_ble_eq_true rfl) (b10_wholeAbove_0 (WPm_mono gT d _ _ _ _ _ (fun r0 h' z0 => by obtain ⟨_, M1, _, rfl, z0⟩ := z0; exact WPc.kill [1, 2] (b10_wholeAbove_5 ⟨fun c3 => (WPc.kill [1, 2] (z0.1 c3)), fun c3 => (FCmk (z0.2 c3))⟩)) q))
set_option maxRecDepth 20000 in
theorem b10_wholeBelow_10 {w : cQ} {d : Nat} {F : mPost} {x3 x5 : Int} {M : Nat → Nat → Int} {n : Nat × Nat} (q : (x5 ≤ 0 → F (1, x3) (hC w M n)) ∧ (¬ (x5 ≤ 0) → WPc t10_wholeBelow (WPm gT d) F (10, [(9, 0), (9, 0), (9, 0), (1, w64 (x3 * 10)), (9, 0), (0, w32 (x5 + (-1)))], [], hC w M n))) : WPc t10_wholeBelow (WPm gT d) F (10, [(9, 0), (9, 0), (9, 0), (1, x3), (9, 0), (0, x5)], [], hC w M n) :=
  vcK_ok (K := [10]) 22 _ q
set_option maxRecDepth 20000 in
theorem b10_wholeBelow_0 {w : cQ} {d : Nat} {F : mPost} {x1 x2 : Int} {M : Nat → Nat → Int} {n : Nat × Nat} (q : WPc t10_wholeBelow (WPm gT d) F (10, [(2, 4), (0, x1), (0, x2), (1, 1), (9, 0), (0, if 0 ≤ (w32 (x1 - x2)) then (w32 (x1 - x2)) else w32 (0 - (w32 (x1 - x2))))], [], hC w M n)) : WPc t10_wholeBelow (WPm gT d) F (0, [(2, 4), (0, x1), (0, x2), (9, 0), (9, 0), (9, 0)], [], hC w M n) :=
  vcK_ok (K := [10]) 22 _ q
def W10_wholeBelow_10 (d : Nat) (Ψ : Int → cQ → (Nat → Nat → Int) → Nat × Nat → Prop) (x3 x5 : Int) (w : cQ) (M : Nat → Nat → Int) (n : Nat × Nat) : Prop := WPc t10_wholeBelow (WPm gT d) (FC Ψ) (10, [(9, 0), (9, 0), (9, 0), (1, x3), (9, 0), (0, x5)], [], hC w M n)
set_option maxRecDepth 20000 in
theorem v10_wholeBelow_10 {w : cQ} {d : Nat} {Ψ : Int → cQ → (Nat → Nat → Int) → Nat × Nat → Prop} {x3 x5 : Int} {M : Nat → Nat → Int} {n : Nat × Nat} (q : (x5 ≤ 0 → Ψ x3 w M n) ∧ (¬ (x5 ≤ 0) → W10_wholeBelow_10 d Ψ (w64 (x3 * 10)) (w32 (x5 + (-1))) w M n )) : W10_wholeBelow_10 d Ψ x3 x5 w M n :=
  b10_wholeBelow_10 ⟨fun c1 => (FCmk (q.1 c1)), fun c1 => (q.2 c1)⟩
set_option maxRecDepth 20000 in
theorem e10_wholeBelow {w : cQ} {d : Nat} {Ψ : Int → cQ → (Nat → Nat → Int) → Nat × Nat → Prop} {x1 x2 : Int} {M : Nat → Nat → Int} {n : Nat × Nat} (q : W10_wholeBelow_10 d Ψ 1 (if 0 ≤ (w32 (x1 - x2)) then (w32 (x1 - x2)) else w32 (0 - (w32 (x1 - x2)))) w M n ) : CW (d + 1) 118 [(2, 4), (0, x1), (0, x2)] w M n Ψ :=
  WPm_in g10_wholeBelow (Nat.le_of_ble_eq_true rfl) (b10_wholeBelow_0 (WPc.kill [0, 1, 2] q))
set_option maxRecDepth 20000 in
theorem b11_feed_43 {w : cQ} {d : Nat} {F : mPost} {M : Nat → Nat → Int} {n : Nat × Nat} (q : F (0, M 1 1) (hC w M n)) : WPc t11_feed (WPm gT d) F (43, [(2, 1), (9, 0), (9, 0), (9, 0), (9, 0), (9, 0)], [], hC w M n) :=
  vcK_ok (K := [21, 26, 31, 37, 43]) 31 _ q
set_option maxRecDepth 20000 in
theorem b11_feed_37 {w : cQ} {d : Nat} {F : mPost} {x5 : Int} {M : Nat → Nat → Int} {n : Nat × Nat} (q : WPm gT d 121 [(2, 1), (0, x5)] (hC w M n) (fun r h' => WPc t11_feed (WPm gT d) F (43, [(2, 1), (9, 0), (9, 0), (9, 0), (9, 0), (0, x5)], [], h'))) : WPc t11_feed (WPm gT d) F (37, [(2, 1), (9, 0), (9, 0), (9, 0), (9, 0), (0, x5)], [], hC w M n) :=
  vcK_ok (K := [21, 26, 31, 37, 43]) 31 _ q
set_option maxRecDepth 20000 in
theorem b11_feed_31 {w : cQ} {d : Nat} {F : mPost} {x4 x5 : Int} {M : Nat → Nat → Int} {n : Nat × Nat} (q : WPm gT d 121 [(2, 1), (0, x4)] (hC w M n) (fun r h' => WPc t11_feed (WPm gT d) F (37, [(2, 1), (9, 0), (9, 0), (9, 0), (0, x4), (0, x5)], [], h'))) : WPc t11_feed (WPm gT d) F (31, [(2, 1), (9, 0), (9, 0), (9, 0), (0, x4), (0, x5)], [], hC w M n) :=
  vcK_ok (K := [21, 26, 31, 37, 43]) 31 _ q
set_option maxRecDepth 20000 in
theorem b11_feed_26 {w : cQ} {d : Nat} {F : mPost} {x3 x4 x5 : Int} {M : Nat → Nat → Int} {n : Nat × Nat} (q : WPm gT d 121 [(2, 1), (0, x3)] (hC w M n) (fun r h' => WPc t11_feed (WPm gT d) F (31, [(2, 1), (9, 0), (9, 0), (0, x3), (0, x4), (0, x5)], [], h'))) : WPc t11_feed (WPm gT d) F (26, [(2, 1), (9, 0), (9, 0), (0, x3), (0, x4), (0, x5)], [], hC w M n) :=
  vcK_ok (K := [21, 26, 31, 37, 43]) 31 _ q
set_option maxRecDepth 20000 in
theorem b11_feed_21 {w : cQ} {d : Nat} {F : mPost} {x2 x3 x4 x5 : Int} {M : Nat → Nat → Int} {n : Nat × Nat} (q : WPm gT d 121 [(2, 1), (0, x2)] (hC w M n) (fun r h' => WPc t11_feed (WPm gT d) F (26, [(2, 1), (9, 0), (0, x2), (0, x3), (0, x4), (0, x5)], [], h'))) : WPc t11_feed (WPm gT d) F (21, [(2, 1), (9, 0), (0, x2), (0, x3), (0, x4), (0, x5)], [], hC w M n) :=
  vcK_ok (K := [21, 26, 31, 37, 43]) 31 _ q
set_option maxRecDepth 20000 in
theorem b11_feed_0 {w : cQ} {d : Nat} {F : mPost} {x1 x2 x3 x4 x5 : Int} {M : Nat → Nat → Int} {n : Nat × Nat} (q : ((w32 ((M 1 1) + 20)) ≤ 900 → WPm gT d 121 [(2, 1), (0, x1)] (hC w M n) (fun r h' => WPc t11_feed (WPm gT d) F (21, [(2, 1), (0, x1), (0, x2), (0, x3), (0, x4), (0, x5)], [], h'))) ∧ (¬ ((w32 ((M 1 1) + 20)) ≤ 900) → F (0, (-5)) (hC w M n))) : WPc t11_feed (WPm gT d) F (0, [(2, 1), (0, x1), (0, x2), (0, x3), (0, x4), (0, x5)], [], hC w M n) :=
  vcK_ok (K := [21, 26, 31, 37, 43]) 31 _ q
set_option maxRecDepth 20000 in
theorem e11_feed {w : cQ} {d : Nat} {Ψ : Int → cQ → (Nat → Nat → Int) → Nat × Nat → Prop} {x1 x2 x3 x4 x5 : Int} {M : Nat → Nat → Int} {n : Nat × Nat} (q : ((w32 ((M 1 1) + 20)) ≤ 900 → CW d 121 [(2, 1), (0, x1)] w M n (fun _ w_1 M1 n_1 => CW d 121 [(2, 1), (0, x2)] w_1 M1 n_1 (fun _ w_2 M2 n_2 => CW d 121 [(2, 1), (0, x3)] w_2 M2 n_2 (fun _ w_3 M3 n_3 => CW d 121 [(2, 1), (0, x4)] w_3 M3 n_3 (fun _ w_4 M4 n_4 => CW d 121 [(2, 1), (0, x5)] w_4 M4 n_4 (fun _ w_5 M5 n_5 => Ψ (M5 1 1) w_5 M5 n_5)))))) ∧ (¬ ((w32 ((M 1 1) + 20)) ≤ 900) → Ψ (-5) w M n)) : CW (d + 1) 120 [(2, 1), (0, x1), (0, x2), (0, x3), (0, x4), (0, x5)] w M n Ψ :=
  WPm_in g11_feed (Nat.le_of_ble_eq_true rfl) (b11_feed_0 ⟨fun c1 => (WPm_mono gT d _ _ _ _ _ (fun r0 h' z0 => by obtain ⟨_, M1, _, rfl, z0⟩ := z0; exact WPc.kill [1] (b11_feed_21 (WPm_mono gT d _ _ _ _ _ (fun r1 h' z1 => by obtain ⟨_, M2, _, rfl, z1⟩ := z1; exact WPc.kill [1, 2] (b11_feed_26 (WPm_mono gT d _ _ _ _ _ (fun r2 h' z2 => by obtain ⟨_, M3, _, rfl, z2⟩ := z2; exact WPc.kill [1, 2, 3] (b11_feed_31 (WPm_mono gT d _ _ _ _ _ (fun r3 h' z3 => by obtain ⟨_, M4, _, rfl, z3⟩ := z3; exact WPc.kill [1, 2, 3, 4] (b11_feed_37 (WPm_mono gT d _ _ _ _ _ (fun r4 h' z4 => by obtain ⟨_, M5, _, rfl, z4⟩ := z4; exact WPc.kill [1, 2, 3, 4, 5] (b11_feed_43 (FCmk z4))) z3))) z2))) z1))) z0))) (q.1 c1)), fun c1 => (FCmk (q.2 c1))⟩)
set_option maxRecDepth 20000 in
theorem b11_putBytes_46 {w : cQ} {d : Nat} {F : mPost} {M : Nat → Nat → Int} {n : Nat × Nat} (q : F (9, 0) (hC w M n)) : WPc t11_putBytes (WPm gT d) F (46, [(9, 0), (9, 0), (9, 0)], [], hC w M n) :=
  vcK_ok (K := [3, 40, 46]) 31 _ q
set_option maxRecDepth 20000 in
theorem b11_putBytes_40 {w : cQ} {d : Nat} {F : mPost} {x1 x2 : Int} {M : Nat → Nat → Int} {n : Nat × Nat} (q : WPc t11_putBytes (WPm gT d) F (3, [(2, 1), (0, x1), (0, w32 (x2 + (-8)))], [], hC w M n)) : WPc t11_putBytes (WPm gT d) F (40, [(2, 1), (0, x1), (0, x2)], [], hC w M n) :=
  vcK_ok (K := [3, 40, 46]) 31 _ q
set_option maxRecDepth 20000 in
theorem b11_putBytes_3 {w : cQ} {d : Nat} {F : mPost} {x1 x2 : Int} {M : Nat → Nat → Int} {n : Nat × Nat} (q : (x2 < 0 → WPc t11_putBytes (WPm gT d) F (46, [(2, 1), (0, x1), (0, x2)], [], hC w M n)) ∧ (¬ (x2 < 0) → (900 ≤ (M 1 1) → WPc t11_putBytes (WPm gT d) F (46, [(2, 1), (0, x1), (0, x2)], [], hC w M n)) ∧ (¬ (900 ≤ (M 1 1)) → (0 ≤ (M 1 1) ∧ (M 1 1) < ((900 : Nat) : Int) ∧ True) ∧ (WPc t11_putBytes (WPm gT d) F (40, [(2, 1), (0, x1), (0, x2)], [], hC w (sI (sI M 2 (M 1 1).toNat (m_i2b (m_i2b (m_ushr x1 x2)))) 1 1 (w32 (((sI M 2 (M 1 1).toNat (m_i2b (m_i2b (m_ushr x1 x2)))) 1 1) + 1))) n))))) : WPc t11_putBytes (WPm gT d) F (3, [(2, 1), (0, x1), (0, x2)], [], hC w M n) :=
  vcK_ok (K := [3, 40, 46]) 31 _ q
set_option maxRecDepth 20000 in
theorem b11_putBytes_0 {w : cQ} {d : Nat} {F : mPost} {x1 : Int} {M : Nat → Nat → Int} {n : Nat × Nat} (q : WPc t11_putBytes (WPm gT d) F (3, [(2, 1), (0, x1), (0, 24)], [], hC w M n)) : WPc t11_putBytes (WPm gT d) F (0, [(2, 1), (0, x1), (9, 0)], [], hC w M n) :=
  vcK_ok (K := [3, 40, 46]) 31 _ q
def W11_putBytes_3 (d : Nat) (Ψ : Int → cQ → (Nat → Nat → Int) → Nat × Nat → Prop) (x1 x2 : Int) (w : cQ) (M : Nat → Nat → Int) (n : Nat × Nat) : Prop := WPc t11_putBytes (WPm gT d) (FC Ψ) (3, [(2, 1), (0, x1), (0, x2)], [], hC w M n)
set_option maxRecDepth 20000 in
theorem v11_putBytes_3 {w : cQ} {d : Nat} {Ψ : Int → cQ → (Nat → Nat → Int) → Nat × Nat → Prop} {x1 x2 : Int} {M : Nat → Nat → Int} {n : Nat × Nat} (q : (x2 < 0 → Ψ 0 w M n) ∧ (¬ (x2 < 0) → (900 ≤ (M 1 1) → Ψ 0 w M n) ∧ (¬ (900 ≤ (M 1 1)) → (0 ≤ (M 1 1) ∧ (M 1 1) < ((900 : Nat) : Int) ∧ True) ∧ (W11_putBytes_3 d Ψ x1 (w32 (x2 + (-8))) w (sI (sI M 2 (M 1 1).toNat (m_i2b (m_i2b (m_ushr x1 x2)))) 1 1 (w32 (((sI M 2 (M 1 1).toNat (m_i2b (m_i2b (m_ushr x1 x2)))) 1 1) + 1))) n )))) : W11_putBytes_3 d Ψ x1 x2 w M n :=
  b11_putBytes_3 ⟨fun c1 => (WPc.kill [0, 1, 2] (b11_putBytes_46 (FCmk (q.1 c1)))), fun c1 => ⟨fun c2 => (WPc.kill [0, 1, 2] (b11_putBytes_46 (FCmk ((q.2 c1).1 c2)))), fun c2 => ⟨((q.2 c1).2 c2).1, (b11_putBytes_40 ((q.2 c1).2 c2).2)⟩⟩⟩
set_option maxRecDepth 20000 in
theorem e11_putBytes {w : cQ} {d : Nat} {Ψ : Int → cQ → (Nat → Nat → Int) → Nat × Nat → Prop} {x1 : Int} {M : Nat → Nat → Int} {n : Nat × Nat} (q : W11_putBytes_3 d Ψ x1 24 w M n ) : CW (d + 1) 121 [(2, 1), (0, x1)] w M n Ψ :=
  WPm_in g11_putBytes (Nat.le_of_ble_eq_true rfl) (b11_putBytes_0 q)
set_option maxRecDepth 20000 in
theorem b11_fault_28 {w : cQ} {d : Nat} {F : mPost} {s0 : Int} {M : Nat → Nat → Int} {n : Nat × Nat} (q : F (0, s0) (hC w M n)) : WPc t11_fault (WPm gT d) F (28, [(9, 0), (9, 0)], [(0, s0)], hC w M n) :=
  vcK_ok (K := [28]) 20 _ q
set_option maxRecDepth 20000 in
theorem b11_fault_0 {w : cQ} {d : Nat} {F : mPost} {x1 : Int} {M : Nat → Nat → Int} {n : Nat × Nat} (q : (x1 ≠ 0 → (x1 ≠ 1 → WPc t11_fault (WPm gT d) F (28, [(2, 1), (0, x1)], [(0, (-1))], hC w M n)) ∧ (¬ (x1 ≠ 1) → WPc t11_fault (WPm gT d) F (28, [(2, 1), (0, x1)], [(0, M 3 2)], hC w M n))) ∧ (¬ (x1 ≠ 0) → F (0, M 3 1) (hC w M n))) : WPc t11_fault (WPm gT d) F (0, [(2, 1), (0, x1)], [], hC w M n) :=
  vcK_ok (K := [28]) 20 _ q
set_option maxRecDepth 20000 in
theorem e11_fault {w : cQ} {d : Nat} {Ψ : Int → cQ → (Nat → Nat → Int) → Nat × Nat → Prop} {x1 : Int} {M : Nat → Nat → Int} {n : Nat × Nat} (q : (x1 ≠ 0 → (x1 ≠ 1 → Ψ (-1) w M n) ∧ (¬ (x1 ≠ 1) → Ψ (M 3 2) w M n)) ∧ (¬ (x1 ≠ 0) → Ψ (M 3 1) w M n)) : CW (d + 1) 123 [(2, 1), (0, x1)] w M n Ψ :=
  WPm_in g11_fault (Nat.le_of_ble_eq_true rfl) (b11_fault_0 ⟨fun c1 => ⟨fun c2 => (WPc.kill [0, 1] (b11_fault_28 (FCmk ((q.1 c1).1 c2)))), fun c2 => (WPc.kill [0, 1] (b11_fault_28 (FCmk ((q.1 c1).2 c2))))⟩, fun c1 => (FCmk (q.2 c1))⟩)
set_option maxRecDepth 20000 in
theorem b11_farm_143 {w : cQ} {d : Nat} {F : mPost} {s0 s1 : Int} {M : Nat → Nat → Int} {n : Nat × Nat} (q : F (0, m_and s0 s1) (hC w M n)) : WPc t11_farm (WPm gT d) F (143, [(9, 0), (9, 0), (9, 0)], [(0, s1), (0, s0)], hC w M n) :=
  vcK_ok (K := [8, 78, 112, 121, 143]) 65 _ q
set_option maxRecDepth 20000 in
theorem b11_farm_121 {w : cQ} {d : Nat} {F : mPost} {x1 s0 : Int} {M : Nat → Nat → Int} {n : Nat × Nat} (q : (0 ≤ x1 ∧ x1 < ((8 : Nat) : Int)) ∧ (WPm gT d 24 [(2, 29), (0, M 39 x1.toNat)] (hC w M n) (fun r h' => WPc t11_farm (WPm gT d) F (143, [(2, 1), (0, x1), (9, 0)], [(0, r.2), (0, s0)], h')))) : WPc t11_farm (WPm gT d) F (121, [(2, 1), (0, x1), (9, 0)], [(0, s0)], hC w M n) :=
  vcK_ok (K := [8, 78, 112, 121, 143]) 65 _ q
set_option maxRecDepth 20000 in
theorem b11_farm_112 {w : cQ} {d : Nat} {F : mPost} {s0 : Int} {M : Nat → Nat → Int} {n : Nat × Nat} (q : F (0, s0) (hC w M n)) : WPc t11_farm (WPm gT d) F (112, [(9, 0), (9, 0), (9, 0)], [(0, s0)], hC w M n) :=
  vcK_ok (K := [8, 78, 112, 121, 143]) 65 _ q
set_option maxRecDepth 20000 in
theorem b11_farm_78 {w : cQ} {d : Nat} {F : mPost} {x1 : Int} {M : Nat → Nat → Int} {n : Nat × Nat} (q : (0 ≤ x1 ∧ x1 < ((8 : Nat) : Int)) ∧ (F (0, M 41 x1.toNat) (hC w M n))) : WPc t11_farm (WPm gT d) F (78, [(2, 1), (0, x1), (9, 0)], [], hC w M n) :=
  vcK_ok (K := [8, 78, 112, 121, 143]) 65 _ q
set_option maxRecDepth 20000 in
theorem b11_farm_8 {w : cQ} {d : Nat} {F : mPost} {x1 x2 s0 : Int} {M : Nat → Nat → Int} {n : Nat × Nat} (q : (s0 ≠ 0 → (x2 = 0 → (0 ≤ x1 ∧ x1 < ((8 : Nat) : Int)) ∧ (F (0, M 39 x1.toNat) (hC w M n))) ∧ (x2 ≠ 0 → ((x2 = 1 → (0 ≤ x1 ∧ x1 < ((8 : Nat) : Int)) ∧ (F (0, M 40 x1.toNat) (hC w M n))) ∧ (x2 ≠ 1 → ((x2 = 2 → WPc t11_farm (WPm gT d) F (78, [(2, 1), (0, x1), (0, x2)], [], hC w M n)) ∧ (x2 ≠ 2 → ((x2 = 3 → (0 ≤ x1 ∧ x1 < ((8 : Nat) : Int)) ∧ (F (0, M 32 x1.toNat) (hC w M n))) ∧ (x2 ≠ 3 → ((x2 = 4 → WPm gT d 100 [(2, 4), (0, x1)] (hC w M n) (fun r h' => WPc t11_farm (WPm gT d) F (112, [(2, 1), (0, x1), (0, x2)], [(0, r.2)], h'))) ∧ (x2 ≠ 4 → ((x2 = 5 → WPm gT d 96 [(2, 4), (0, x1)] (hC w M n) (fun r h' => WPc t11_farm (WPm gT d) F (121, [(2, 1), (0, x1), (0, x2)], [(0, r.2)], h'))) ∧ (x2 ≠ 5 → (F (0, (-2)) (hC w M n)))))))))))))) ∧ (¬ (s0 ≠ 0) → F (0, (-2)) (hC w M n))) : WPc t11_farm (WPm gT d) F (8, [(2, 1), (0, x1), (0, x2)], [(0, s0)], hC w M n) :=
  vcK_ok (K := [8, 78, 112, 121, 143]) 65 _ q
set_option maxRecDepth 20000 in
theorem b11_farm_0 {w : cQ} {d : Nat} {F : mPost} {x1 x2 : Int} {M : Nat → Nat → Int} {n : Nat × Nat} (q : WPm gT d 91 [(2, 4), (0, x1)] (hC w M n) (fun r h' => WPc t11_farm (WPm gT d) F (8, [(2, 1), (0, x1), (0, x2)], [(0, r.2)], h'))) : WPc t11_farm (WPm gT d) F (0, [(2, 1), (0, x1), (0, x2)], [], hC w M n) :=
  vcK_ok (K := [8, 78, 112, 121, 143]) 65 _ q
set_option maxRecDepth 20000 in
theorem e11_farm {w : cQ} {d : Nat} {Ψ : Int → cQ → (Nat → Nat → Int) → Nat × Nat → Prop} {x1 x2 : Int} {M : Nat → Nat → Int} {n : Nat × Nat} (q : CW d 91 [(2, 4), (0, x1)] w M n (fun r0 w_1 M1 n_1 => (r0 ≠ 0 → (x2 = 0 → (0 ≤ x1 ∧ x1 < ((8 : Nat) : Int)) ∧ (Ψ (M1 39 x1.toNat) w_1 M1 n_1)) ∧ (x2 ≠ 0 → ((x2 = 1 → (0 ≤ x1 ∧ x1 < ((8 : Nat) : Int)) ∧ (Ψ (M1 40 x1.toNat) w_1 M1 n_1)) ∧ (x2 ≠ 1 → ((x2 = 2 → (0 ≤ x1 ∧ x1 < ((8 : Nat) : Int)) ∧ (Ψ (M1 41 x1.toNat) w_1 M1 n_1)) ∧ (x2 ≠ 2 → ((x2 = 3 → (0 ≤ x1 ∧ x1 < ((8 : Nat) : Int)) ∧ (Ψ (M1 32 x1.toNat) w_1 M1 n_1)) ∧ (x2 ≠ 3 → ((x2 = 4 → CW d 100 [(2, 4), (0, x1)] w_1 M1 n_1 (fun r1 w_2 M2 n_2 => Ψ r1 w_2 M2 n_2)) ∧ (x2 ≠ 4 → ((x2 = 5 → CW d 96 [(2, 4), (0, x1)] w_1 M1 n_1 (fun r1 w_2 M2 n_2 => (0 ≤ x1 ∧ x1 < ((8 : Nat) : Int)) ∧ (CW d 24 [(2, 29), (0, M2 39 x1.toNat)] w_2 M2 n_2 (fun r2 w_3 M3 n_3 => Ψ (m_and r1 r2) w_3 M3 n_3)))) ∧ (x2 ≠ 5 → (Ψ (-2) w_1 M1 n_1))))))))))))) ∧ (¬ (r0 ≠ 0) → Ψ (-2) w_1 M1 n_1))) : CW (d + 1) 124 [(2, 1), (0, x1), (0, x2)] w M n Ψ :=
  WPm_in g11_farm (Nat.le_of_ble_eq_true rfl) (b11_farm_0 (WPm_mono gT d _ _ _ _ _ (fun r0 h' z0 => by obtain ⟨_, M1, _, rfl, z0⟩ := z0; exact b11_farm_8 ⟨fun c1 => ⟨fun c2 => ⟨((z0.1 c1).1 c2).1, (FCmk ((z0.1 c1).1 c2).2)⟩, fun c2 => ⟨fun c3 => ⟨(((z0.1 c1).2 c2).1 c3).1, (FCmk (((z0.1 c1).2 c2).1 c3).2)⟩, fun c3 => ⟨fun c4 => (WPc.kill [2] (b11_farm_78 ⟨((((z0.1 c1).2 c2).2 c3).1 c4).1, (FCmk ((((z0.1 c1).2 c2).2 c3).1 c4).2)⟩)), fun c4 => ⟨fun c5 => ⟨(((((z0.1 c1).2 c2).2 c3).2 c4).1 c5).1, (FCmk (((((z0.1 c1).2 c2).2 c3).2 c4).1 c5).2)⟩, fun c5 => ⟨fun c6 => (WPm_mono gT d _ _ _ _ _ (fun r1 h' z1 => by obtain ⟨_, M2, _, rfl, z1⟩ := z1; exact WPc.kill [0, 1, 2] (b11_farm_112 (FCmk z1))) ((((((z0.1 c1).2 c2).2 c3).2 c4).2 c5).1 c6)), fun c6 => ⟨fun c7 => (WPm_mono gT d _ _ _ _ _ (fun r1 h' z1 => by obtain ⟨_, M2, _, rfl, z1⟩ := z1; exact WPc.kill [2] (b11_farm_121 ⟨z1.1, (WPm_mono gT d _ _ _ _ _ (fun r2 h' z2 => by obtain ⟨_, M3, _, rfl, z2⟩ := z2; exact WPc.kill [0, 1, 2] (b11_farm_143 (FCmk z2))) z1.2)⟩)) (((((((z0.1 c1).2 c2).2 c3).2 c4).2 c5).2 c6).1 c7)), fun c7 => (FCmk (((((((z0.1 c1).2 c2).2 c3).2 c4).2 c5).2 c6).2 c7))⟩⟩⟩⟩⟩⟩, fun c1 => (FCmk (z0.2 c1))⟩) q))
set_option maxRecDepth 20000 in
theorem b11_bit_93 {w : cQ} {d : Nat} {F : mPost} {s0 : Int} {M : Nat → Nat → Int} {n : Nat × Nat} (q : F (0, s0) (hC w M n)) : WPc t11_bit (WPm gT d) F (93, [(9, 0), (9, 0), (9, 0)], [(0, s0)], hC w M n) :=
  vcK_ok (K := [8, 70, 93]) 44 _ q
set_option maxRecDepth 20000 in
theorem b11_bit_70 {w : cQ} {d : Nat} {F : mPost} {x1 : Int} {M : Nat → Nat → Int} {n : Nat × Nat} (q : F (0, m_and (m_shr (M 29 3) x1) 1) (hC w M n)) : WPc t11_bit (WPm gT d) F (70, [(2, 1), (0, x1), (9, 0)], [], hC w M n) :=
  vcK_ok (K := [8, 70, 93]) 44 _ q
set_option maxRecDepth 20000 in
theorem b11_bit_8 {w : cQ} {d : Nat} {F : mPost} {x1 x2 s0 : Int} {M : Nat → Nat → Int} {n : Nat × Nat} (q : (s0 ≠ 0 → (x2 = 0 → (0 ≤ x1 ∧ x1 < ((12 : Nat) : Int)) ∧ (F (0, M 30 x1.toNat) (hC w M n))) ∧ (x2 ≠ 0 → ((x2 = 1 → (0 ≤ x1 ∧ x1 < ((12 : Nat) : Int)) ∧ (F (0, M 31 x1.toNat) (hC w M n))) ∧ (x2 ≠ 1 → ((x2 = 2 → WPc t11_bit (WPm gT d) F (70, [(2, 1), (0, x1), (0, x2)], [], hC w M n)) ∧ (x2 ≠ 2 → ((x2 = 3 → WPm gT d 97 [(2, 4), (0, x1)] (hC w M n) (fun r h' => WPc t11_bit (WPm gT d) F (93, [(2, 1), (0, x1), (0, x2)], [(0, r.2)], h'))) ∧ (x2 ≠ 3 → (F (0, (-2)) (hC w M n)))))))))) ∧ (¬ (s0 ≠ 0) → F (0, (-2)) (hC w M n))) : WPc t11_bit (WPm gT d) F (8, [(2, 1), (0, x1), (0, x2)], [(0, s0)], hC w M n) :=
  vcK_ok (K := [8, 70, 93]) 44 _ q
set_option maxRecDepth 20000 in
theorem b11_bit_0 {w : cQ} {d : Nat} {F : mPost} {x1 x2 : Int} {M : Nat → Nat → Int} {n : Nat × Nat} (q : WPm gT d 93 [(2, 4), (0, x1)] (hC w M n) (fun r h' => WPc t11_bit (WPm gT d) F (8, [(2, 1), (0, x1), (0, x2)], [(0, r.2)], h'))) : WPc t11_bit (WPm gT d) F (0, [(2, 1), (0, x1), (0, x2)], [], hC w M n) :=
  vcK_ok (K := [8, 70, 93]) 44 _ q
set_option maxRecDepth 20000 in
theorem e11_bit {w : cQ} {d : Nat} {Ψ : Int → cQ → (Nat → Nat → Int) → Nat × Nat → Prop} {x1 x2 : Int} {M : Nat → Nat → Int} {n : Nat × Nat} (q : CW d 93 [(2, 4), (0, x1)] w M n (fun r0 w_1 M1 n_1 => (r0 ≠ 0 → (x2 = 0 → (0 ≤ x1 ∧ x1 < ((12 : Nat) : Int)) ∧ (Ψ (M1 30 x1.toNat) w_1 M1 n_1)) ∧ (x2 ≠ 0 → ((x2 = 1 → (0 ≤ x1 ∧ x1 < ((12 : Nat) : Int)) ∧ (Ψ (M1 31 x1.toNat) w_1 M1 n_1)) ∧ (x2 ≠ 1 → ((x2 = 2 → Ψ (m_and (m_shr (M1 29 3) x1) 1) w_1 M1 n_1) ∧ (x2 ≠ 2 → ((x2 = 3 → CW d 97 [(2, 4), (0, x1)] w_1 M1 n_1 (fun r1 w_2 M2 n_2 => Ψ r1 w_2 M2 n_2)) ∧ (x2 ≠ 3 → (Ψ (-2) w_1 M1 n_1))))))))) ∧ (¬ (r0 ≠ 0) → Ψ (-2) w_1 M1 n_1))) : CW (d + 1) 125 [(2, 1), (0, x1), (0, x2)] w M n Ψ :=
  WPm_in g11_bit (Nat.le_of_ble_eq_true rfl) (b11_bit_0 (WPm_mono gT d _ _ _ _ _ (fun r0 h' z0 => by obtain ⟨_, M1, _, rfl, z0⟩ := z0; exact b11_bit_8 ⟨fun c1 => ⟨fun c2 => ⟨((z0.1 c1).1 c2).1, (FCmk ((z0.1 c1).1 c2).2)⟩, fun c2 => ⟨fun c3 => ⟨(((z0.1 c1).2 c2).1 c3).1, (FCmk (((z0.1 c1).2 c2).1 c3).2)⟩, fun c3 => ⟨fun c4 => (WPc.kill [2] (b11_bit_70 (FCmk ((((z0.1 c1).2 c2).2 c3).1 c4)))), fun c4 => ⟨fun c5 => (WPm_mono gT d _ _ _ _ _ (fun r1 h' z1 => by obtain ⟨_, M2, _, rfl, z1⟩ := z1; exact WPc.kill [0, 1, 2] (b11_bit_93 (FCmk z1))) (((((z0.1 c1).2 c2).2 c3).2 c4).1 c5)), fun c5 => (FCmk (((((z0.1 c1).2 c2).2 c3).2 c4).2 c5))⟩⟩⟩⟩, fun c1 => (FCmk (z0.2 c1))⟩) q))
set_option maxRecDepth 20000 in
theorem b11_wire_68 {w : cQ} {d : Nat} {F : mPost} {M : Nat → Nat → Int} {n : Nat × Nat} (q : F (0, (-2)) (hC w M n)) : WPc t11_wire (WPm gT d) F (68, [(9, 0), (9, 0), (9, 0)], [], hC w M n) :=
  vcK_ok (K := [8, 68]) 32 _ q
set_option maxRecDepth 20000 in
theorem b11_wire_8 {w : cQ} {d : Nat} {F : mPost} {x1 x2 s0 : Int} {M : Nat → Nat → Int} {n : Nat × Nat} (q : (s0 ≠ 0 → (x2 = 0 → F (0, m_and (m_shr (M 38 3) x1) 1) (hC w M n)) ∧ (x2 ≠ 0 → ((x2 = 1 → (0 ≤ x1 ∧ x1 < ((8 : Nat) : Int)) ∧ (F (0, M 34 x1.toNat) (hC w M n))) ∧ (x2 ≠ 1 → (WPc t11_wire (WPm gT d) F (68, [(2, 1), (0, x1), (0, x2)], [], hC w M n)))))) ∧ (¬ (s0 ≠ 0) → F (0, (-2)) (hC w M n))) : WPc t11_wire (WPm gT d) F (8, [(2, 1), (0, x1), (0, x2)], [(0, s0)], hC w M n) :=
  vcK_ok (K := [8, 68]) 32 _ q
set_option maxRecDepth 20000 in
theorem b11_wire_0 {w : cQ} {d : Nat} {F : mPost} {x1 x2 : Int} {M : Nat → Nat → Int} {n : Nat × Nat} (q : WPm gT d 94 [(2, 4), (0, x1)] (hC w M n) (fun r h' => WPc t11_wire (WPm gT d) F (8, [(2, 1), (0, x1), (0, x2)], [(0, r.2)], h'))) : WPc t11_wire (WPm gT d) F (0, [(2, 1), (0, x1), (0, x2)], [], hC w M n) :=
  vcK_ok (K := [8, 68]) 32 _ q
set_option maxRecDepth 20000 in
theorem e11_wire {w : cQ} {d : Nat} {Ψ : Int → cQ → (Nat → Nat → Int) → Nat × Nat → Prop} {x1 x2 : Int} {M : Nat → Nat → Int} {n : Nat × Nat} (q : CW d 94 [(2, 4), (0, x1)] w M n (fun r0 w_1 M1 n_1 => (r0 ≠ 0 → (x2 = 0 → Ψ (m_and (m_shr (M1 38 3) x1) 1) w_1 M1 n_1) ∧ (x2 ≠ 0 → ((x2 = 1 → (0 ≤ x1 ∧ x1 < ((8 : Nat) : Int)) ∧ (Ψ (M1 34 x1.toNat) w_1 M1 n_1)) ∧ (x2 ≠ 1 → (Ψ (-2) w_1 M1 n_1))))) ∧ (¬ (r0 ≠ 0) → Ψ (-2) w_1 M1 n_1))) : CW (d + 1) 126 [(2, 1), (0, x1), (0, x2)] w M n Ψ :=
  WPm_in g11_wire (Nat.le_of_ble_eq_true rfl) (b11_wire_0 (WPm_mono gT d _ _ _ _ _ (fun r0 h' z0 => by obtain ⟨_, M1, _, rfl, z0⟩ := z0; exact b11_wire_8 ⟨fun c1 => ⟨fun c2 => (FCmk ((z0.1 c1).1 c2)), fun c2 => ⟨fun c3 => ⟨(((z0.1 c1).2 c2).1 c3).1, (FCmk (((z0.1 c1).2 c2).1 c3).2)⟩, fun c3 => (WPc.kill [0, 1, 2] (b11_wire_68 (FCmk (((z0.1 c1).2 c2).2 c3))))⟩⟩, fun c1 => (FCmk (z0.2 c1))⟩) q))
set_option maxRecDepth 20000 in
theorem b11_likes_34 {w : cQ} {d : Nat} {F : mPost} {s0 : Int} {M : Nat → Nat → Int} {n : Nat × Nat} (q : F (0, s0) (hC w M n)) : WPc t11_likes (WPm gT d) F (34, [(9, 0), (9, 0), (9, 0)], [(0, s0)], hC w M n) :=
  vcK_ok (K := [8, 19, 22, 34]) 23 _ q
set_option maxRecDepth 20000 in
theorem b11_likes_22 {w : cQ} {d : Nat} {F : mPost} {M : Nat → Nat → Int} {n : Nat × Nat} (q : F (0, (-99000002)) (hC w M n)) : WPc t11_likes (WPm gT d) F (22, [(9, 0), (9, 0), (9, 0)], [], hC w M n) :=
  vcK_ok (K := [8, 19, 22, 34]) 23 _ q
set_option maxRecDepth 20000 in
theorem b11_likes_19 {w : cQ} {d : Nat} {F : mPost} {x1 x2 s0 : Int} {M : Nat → Nat → Int} {n : Nat × Nat} (q : (s0 ≠ 0 → WPm gT d 102 [(2, 4), (0, x1), (0, x2)] (hC w M n) (fun r h' => WPc t11_likes (WPm gT d) F (34, [(2, 1), (0, x1), (0, x2)], [(0, r.2)], h'))) ∧ (¬ (s0 ≠ 0) → WPc t11_likes (WPm gT d) F (22, [(2, 1), (0, x1), (0, x2)], [], hC w M n))) : WPc t11_likes (WPm gT d) F (19, [(2, 1), (0, x1), (0, x2)], [(0, s0)], hC w M n) :=
  vcK_ok (K := [8, 19, 22, 34]) 23 _ q
set_option maxRecDepth 20000 in
theorem b11_likes_8 {w : cQ} {d : Nat} {F : mPost} {x1 x2 s0 : Int} {M : Nat → Nat → Int} {n : Nat × Nat} (q : (s0 = 0 → WPc t11_likes (WPm gT d) F (22, [(2, 1), (0, x1), (0, x2)], [], hC w M n)) ∧ (¬ (s0 = 0) → WPm gT d 92 [(2, 4), (0, x2)] (hC w M n) (fun r h' => WPc t11_likes (WPm gT d) F (19, [(2, 1), (0, x1), (0, x2)], [(0, r.2)], h')))) : WPc t11_likes (WPm gT d) F (8, [(2, 1), (0, x1), (0, x2)], [(0, s0)], hC w M n) :=
  vcK_ok (K := [8, 19, 22, 34]) 23 _ q
set_option maxRecDepth 20000 in
theorem b11_likes_0 {w : cQ} {d : Nat} {F : mPost} {x1 x2 : Int} {M : Nat → Nat → Int} {n : Nat × Nat} (q : WPm gT d 91 [(2, 4), (0, x1)] (hC w M n) (fun r h' => WPc t11_likes (WPm gT d) F (8, [(2, 1), (0, x1), (0, x2)], [(0, r.2)], h'))) : WPc t11_likes (WPm gT d) F (0, [(2, 1), (0, x1), (0, x2)], [], hC w M n) :=
  vcK_ok (K := [8, 19, 22, 34]) 23 _ q
set_option maxRecDepth 20000 in
theorem e11_likes {w : cQ} {d : Nat} {Ψ : Int → cQ → (Nat → Nat → Int) → Nat × Nat → Prop} {x1 x2 : Int} {M : Nat → Nat → Int} {n : Nat × Nat} (q : CW d 91 [(2, 4), (0, x1)] w M n (fun r0 w_1 M1 n_1 => (r0 = 0 → Ψ (-99000002) w_1 M1 n_1) ∧ (¬ (r0 = 0) → CW d 92 [(2, 4), (0, x2)] w_1 M1 n_1 (fun r1 w_2 M2 n_2 => (r1 ≠ 0 → CW d 102 [(2, 4), (0, x1), (0, x2)] w_2 M2 n_2 (fun r2 w_3 M3 n_3 => Ψ r2 w_3 M3 n_3)) ∧ (¬ (r1 ≠ 0) → Ψ (-99000002) w_2 M2 n_2))))) : CW (d + 1) 127 [(2, 1), (0, x1), (0, x2)] w M n Ψ :=
  WPm_in g11_likes (Nat.le_of_ble_eq_true rfl) (b11_likes_0 (WPm_mono gT d _ _ _ _ _ (fun r0 h' z0 => by obtain ⟨_, M1, _, rfl, z0⟩ := z0; exact b11_likes_8 ⟨fun c1 => (WPc.kill [0, 1, 2] (b11_likes_22 (FCmk (z0.1 c1)))), fun c1 => (WPm_mono gT d _ _ _ _ _ (fun r1 h' z1 => by obtain ⟨_, M2, _, rfl, z1⟩ := z1; exact b11_likes_19 ⟨fun c2 => (WPm_mono gT d _ _ _ _ _ (fun r2 h' z2 => by obtain ⟨_, M3, _, rfl, z2⟩ := z2; exact WPc.kill [0, 1, 2] (b11_likes_34 (FCmk z2))) (z1.1 c2)), fun c2 => (WPc.kill [0, 1, 2] (b11_likes_22 (FCmk (z1.2 c2))))⟩) (z0.2 c1))⟩) q))
set_option maxRecDepth 20000 in
theorem b11_tell_42 {w : cQ} {d : Nat} {F : mPost} {s0 : Int} {M : Nat → Nat → Int} {n : Nat × Nat} (q : F (0, s0) (hC w M n)) : WPc t11_tell (WPm gT d) F (42, [(9, 0), (9, 0), (9, 0), (9, 0)], [(0, s0)], hC w M n) :=
  vcK_ok (K := [9, 33, 42]) 29 _ q
set_option maxRecDepth 20000 in
theorem b11_tell_33 {w : cQ} {d : Nat} {F : mPost} {x1 x2 : Int} {M : Nat → Nat → Int} {n : Nat × Nat} (q : WPm gT d 110 [(2, 4), (0, x1), (0, x2)] (hC w M n) (fun r h' => WPc t11_tell (WPm gT d) F (42, [(2, 1), (0, x1), (0, x2), (9, 0)], [(0, r.2)], h'))) : WPc t11_tell (WPm gT d) F (33, [(2, 1), (0, x1), (0, x2), (9, 0)], [], hC w M n) :=
  vcK_ok (K := [9, 33, 42]) 29 _ q
set_option maxRecDepth 20000 in
theorem b11_tell_9 {w : cQ} {d : Nat} {F : mPost} {x1 x2 s0 : Int} {M : Nat → Nat → Int} {n : Nat × Nat} (q : (s0 = 0 → WPm gT d 26 [(2, 9), (2, 38)] (hC w M n) (fun r h' => WPc t11_tell (WPm gT d) F (33, [(2, 1), (0, x1), (0, x2), (0, s0)], [], h'))) ∧ (¬ (s0 = 0) → F (0, w32 ((-10) - s0)) (hC w M n))) : WPc t11_tell (WPm gT d) F (9, [(2, 1), (0, x1), (0, x2), (9, 0)], [(0, s0)], hC w M n) :=
  vcK_ok (K := [9, 33, 42]) 29 _ q
set_option maxRecDepth 20000 in
theorem b11_tell_0 {w : cQ} {d : Nat} {F : mPost} {x1 x2 : Int} {M : Nat → Nat → Int} {n : Nat × Nat} (q : WPm gT d 105 [(2, 4), (0, x1), (0, x2)] (hC w M n) (fun r h' => WPc t11_tell (WPm gT d) F (9, [(2, 1), (0, x1), (0, x2), (9, 0)], [(0, r.2)], h'))) : WPc t11_tell (WPm gT d) F (0, [(2, 1), (0, x1), (0, x2), (9, 0)], [], hC w M n) :=
  vcK_ok (K := [9, 33, 42]) 29 _ q
set_option maxRecDepth 20000 in
theorem e11_tell {w : cQ} {d : Nat} {Ψ : Int → cQ → (Nat → Nat → Int) → Nat × Nat → Prop} {x1 x2 : Int} {M : Nat → Nat → Int} {n : Nat × Nat} (q : CW d 105 [(2, 4), (0, x1), (0, x2)] w M n (fun r0 w_1 M1 n_1 => (r0 = 0 → CW d 26 [(2, 9), (2, 38)] w_1 M1 n_1 (fun _ w_2 M2 n_2 => CW d 110 [(2, 4), (0, x1), (0, x2)] w_2 M2 n_2 (fun r2 w_3 M3 n_3 => Ψ r2 w_3 M3 n_3))) ∧ (¬ (r0 = 0) → Ψ (w32 ((-10) - r0)) w_1 M1 n_1))) : CW (d + 1) 128 [(2, 1), (0, x1), (0, x2)] w M n Ψ :=
  WPm_in g11_tell (Nat.le_of_ble_eq_true rfl) (b11_tell_0 (WPm_mono gT d _ _ _ _ _ (fun r0 h' z0 => by obtain ⟨_, M1, _, rfl, z0⟩ := z0; exact b11_tell_9 ⟨fun c1 => (WPm_mono gT d _ _ _ _ _ (fun r1 h' z1 => by obtain ⟨_, M2, _, rfl, z1⟩ := z1; exact WPc.kill [3] (b11_tell_33 (WPm_mono gT d _ _ _ _ _ (fun r2 h' z2 => by obtain ⟨_, M3, _, rfl, z2⟩ := z2; exact WPc.kill [0, 1, 2, 3] (b11_tell_42 (FCmk z2))) z1))) (z0.1 c1)), fun c1 => (FCmk (z0.2 c1))⟩) q))
set_option maxRecDepth 20000 in
theorem b11_cut_28 {w : cQ} {d : Nat} {F : mPost} {x1 : Int} {M : Nat → Nat → Int} {n : Nat × Nat} (q : F (0, m_and (m_shr ((sI M 38 3 (m_xor (M 38 3) (m_shl 1 x1))) 38 3) x1) 1) (hC w (sI M 38 3 (m_xor (M 38 3) (m_shl 1 x1))) n)) : WPc t11_cut (WPm gT d) F (28, [(2, 1), (0, x1)], [], hC w M n) :=
  vcK_ok (K := [8, 28]) 37 _ q
set_option maxRecDepth 20000 in
theorem b11_cut_8 {w : cQ} {d : Nat} {F : mPost} {x1 s0 : Int} {M : Nat → Nat → Int} {n : Nat × Nat} (q : (s0 ≠ 0 → WPm gT d 26 [(2, 9), (2, 38)] (hC w M n) (fun r h' => WPc t11_cut (WPm gT d) F (28, [(2, 1), (0, x1)], [], h'))) ∧ (¬ (s0 ≠ 0) → F (0, (-11)) (hC w M n))) : WPc t11_cut (WPm gT d) F (8, [(2, 1), (0, x1)], [(0, s0)], hC w M n) :=
  vcK_ok (K := [8, 28]) 37 _ q
set_option maxRecDepth 20000 in
theorem b11_cut_0 {w : cQ} {d : Nat} {F : mPost} {x1 : Int} {M : Nat → Nat → Int} {n : Nat × Nat} (q : WPm gT d 94 [(2, 4), (0, x1)] (hC w M n) (fun r h' => WPc t11_cut (WPm gT d) F (8, [(2, 1), (0, x1)], [(0, r.2)], h'))) : WPc t11_cut (WPm gT d) F (0, [(2, 1), (0, x1)], [], hC w M n) :=
  vcK_ok (K := [8, 28]) 37 _ q
set_option maxRecDepth 20000 in
theorem e11_cut {w : cQ} {d : Nat} {Ψ : Int → cQ → (Nat → Nat → Int) → Nat × Nat → Prop} {x1 : Int} {M : Nat → Nat → Int} {n : Nat × Nat} (q : CW d 94 [(2, 4), (0, x1)] w M n (fun r0 w_1 M1 n_1 => (r0 ≠ 0 → CW d 26 [(2, 9), (2, 38)] w_1 M1 n_1 (fun _ w_2 M2 n_2 => Ψ (m_and (m_shr ((sI M2 38 3 (m_xor (M2 38 3) (m_shl 1 x1))) 38 3) x1) 1) w_2 (sI M2 38 3 (m_xor (M2 38 3) (m_shl 1 x1))) n_2)) ∧ (¬ (r0 ≠ 0) → Ψ (-11) w_1 M1 n_1))) : CW (d + 1) 129 [(2, 1), (0, x1)] w M n Ψ :=
  WPm_in g11_cut (Nat.le_of_ble_eq_true rfl) (b11_cut_0 (WPm_mono gT d _ _ _ _ _ (fun r0 h' z0 => by obtain ⟨_, M1, _, rfl, z0⟩ := z0; exact b11_cut_8 ⟨fun c1 => (WPm_mono gT d _ _ _ _ _ (fun r1 h' z1 => by obtain ⟨_, M2, _, rfl, z1⟩ := z1; exact b11_cut_28 (FCmk z1)) (z0.1 c1)), fun c1 => (FCmk (z0.2 c1))⟩) q))
set_option maxRecDepth 20000 in
theorem b11_mood_38 {w : cQ} {d : Nat} {F : mPost} {x1 x2 : Int} {M : Nat → Nat → Int} {n : Nat × Nat} (q : (0 ≤ x1 ∧ x1 < ((8 : Nat) : Int)) ∧ ((0 ≤ x1 ∧ x1 < ((8 : Nat) : Int) ∧ True) ∧ (F (0, M 41 x1.toNat) (hC w (sI M 41 x1.toNat x2) n)))) : WPc t11_mood (WPm gT d) F (38, [(2, 1), (0, x1), (0, x2), (9, 0)], [], hC w M n) :=
  vcK_ok (K := [8, 21, 38]) 39 _ q
set_option maxRecDepth 20000 in
theorem b11_mood_21 {w : cQ} {d : Nat} {F : mPost} {M : Nat → Nat → Int} {n : Nat × Nat} (q : F (0, (-11)) (hC w M n)) : WPc t11_mood (WPm gT d) F (21, [(9, 0), (9, 0), (9, 0), (9, 0)], [], hC w M n) :=
  vcK_ok (K := [8, 21, 38]) 39 _ q
set_option maxRecDepth 20000 in
theorem b11_mood_8 {w : cQ} {d : Nat} {F : mPost} {x1 x2 s0 : Int} {M : Nat → Nat → Int} {n : Nat × Nat} (q : (s0 = 0 → WPc t11_mood (WPm gT d) F (21, [(2, 1), (0, x1), (0, x2), (9, 0)], [], hC w M n)) ∧ (¬ (s0 = 0) → (x2 < 0 → WPc t11_mood (WPm gT d) F (21, [(2, 1), (0, x1), (0, x2), (9, 0)], [], hC w M n)) ∧ (¬ (x2 < 0) → (x2 ≤ 9 → WPm gT d 26 [(2, 9), (2, 38)] (hC w M n) (fun r h' => WPc t11_mood (WPm gT d) F (38, [(2, 1), (0, x1), (0, x2), (9, 0)], [], h'))) ∧ (¬ (x2 ≤ 9) → WPc t11_mood (WPm gT d) F (21, [(2, 1), (0, x1), (0, x2), (9, 0)], [], hC w M n))))) : WPc t11_mood (WPm gT d) F (8, [(2, 1), (0, x1), (0, x2), (9, 0)], [(0, s0)], hC w M n) :=
  vcK_ok (K := [8, 21, 38]) 39 _ q
set_option maxRecDepth 20000 in
theorem b11_mood_0 {w : cQ} {d : Nat} {F : mPost} {x1 x2 : Int} {M : Nat → Nat → Int} {n : Nat × Nat} (q : WPm gT d 91 [(2, 4), (0, x1)] (hC w M n) (fun r h' => WPc t11_mood (WPm gT d) F (8, [(2, 1), (0, x1), (0, x2), (9, 0)], [(0, r.2)], h'))) : WPc t11_mood (WPm gT d) F (0, [(2, 1), (0, x1), (0, x2), (9, 0)], [], hC w M n) :=
  vcK_ok (K := [8, 21, 38]) 39 _ q
set_option maxRecDepth 20000 in
theorem e11_mood {w : cQ} {d : Nat} {Ψ : Int → cQ → (Nat → Nat → Int) → Nat × Nat → Prop} {x1 x2 : Int} {M : Nat → Nat → Int} {n : Nat × Nat} (q : CW d 91 [(2, 4), (0, x1)] w M n (fun r0 w_1 M1 n_1 => (r0 = 0 → Ψ (-11) w_1 M1 n_1) ∧ (¬ (r0 = 0) → (x2 < 0 → Ψ (-11) w_1 M1 n_1) ∧ (¬ (x2 < 0) → (x2 ≤ 9 → CW d 26 [(2, 9), (2, 38)] w_1 M1 n_1 (fun _ w_2 M2 n_2 => (0 ≤ x1 ∧ x1 < ((8 : Nat) : Int)) ∧ ((0 ≤ x1 ∧ x1 < ((8 : Nat) : Int) ∧ True) ∧ (Ψ (M2 41 x1.toNat) w_2 (sI M2 41 x1.toNat x2) n_2)))) ∧ (¬ (x2 ≤ 9) → Ψ (-11) w_1 M1 n_1))))) : CW (d + 1) 130 [(2, 1), (0, x1), (0, x2)] w M n Ψ :=
  WPm_in g11_mood (Nat.le_of_ble_eq_true rfl) (b11_mood_0 (WPm_mono gT d _ _ _ _ _ (fun r0 h' z0 => by obtain ⟨_, M1, _, rfl, z0⟩ := z0; exact b11_mood_8 ⟨fun c1 => (WPc.kill [0, 1, 2] (b11_mood_21 (FCmk (z0.1 c1)))), fun c1 => ⟨fun c2 => (WPc.kill [0, 1, 2] (b11_mood_21 (FCmk ((z0.2 c1).1 c2)))), fun c2 => ⟨fun c3 => (WPm_mono gT d _ _ _ _ _ (fun r1 h' z1 => by obtain ⟨_, M2, _, rfl, z1⟩ := z1; exact b11_mood_38 ⟨z1.1, ⟨z1.2.1, (FCmk z1.2.2)⟩⟩) (((z0.2 c1).2 c2).1 c3)), fun c3 => (WPc.kill [0, 1, 2] (b11_mood_21 (FCmk (((z0.2 c1).2 c2).2 c3))))⟩⟩⟩) q))
set_option maxRecDepth 20000 in
theorem b11_go_56 {w : cQ} {d : Nat} {F : mPost} {x1 x2 x3 s0 : Int} {M : Nat → Nat → Int} {n : Nat × Nat} (q : WPc t11_go (WPm gT d) F (41, [(2, 1), (0, x1), (0, x2), (0, w32 (x3 + 1))], [], hC w M n)) : WPc t11_go (WPm gT d) F (56, [(2, 1), (0, x1), (0, x2), (0, x3)], [(0, s0)], hC w M n) :=
  vcK_ok (K := [11, 28, 41, 56]) 43 _ q
set_option maxRecDepth 20000 in
theorem b11_go_41 {w : cQ} {d : Nat} {F : mPost} {x1 x2 x3 : Int} {M : Nat → Nat → Int} {n : Nat × Nat} (q : (x1 ≤ x3 → F (0, w32 ((M 38 5) - x2)) (hC w M n)) ∧ (¬ (x1 ≤ x3) → WPm gT d 107 [(2, 4), (1, (-1))] (hC w M n) (fun r h' => WPc t11_go (WPm gT d) F (56, [(2, 1), (0, x1), (0, x2), (0, x3)], [(0, r.2)], h')))) : WPc t11_go (WPm gT d) F (41, [(2, 1), (0, x1), (0, x2), (0, x3)], [], hC w M n) :=
  vcK_ok (K := [11, 28, 41, 56]) 43 _ q
set_option maxRecDepth 20000 in
theorem b11_go_28 {w : cQ} {d : Nat} {F : mPost} {x1 : Int} {M : Nat → Nat → Int} {n : Nat × Nat} (q : WPc t11_go (WPm gT d) F (41, [(2, 1), (0, x1), (0, M 38 5), (0, 0)], [], hC w M n)) : WPc t11_go (WPm gT d) F (28, [(2, 1), (0, x1), (9, 0), (9, 0)], [], hC w M n) :=
  vcK_ok (K := [11, 28, 41, 56]) 43 _ q
set_option maxRecDepth 20000 in
theorem b11_go_11 {w : cQ} {d : Nat} {F : mPost} {M : Nat → Nat → Int} {n : Nat × Nat} (q : F (0, (-3)) (hC w M n)) : WPc t11_go (WPm gT d) F (11, [(9, 0), (9, 0), (9, 0), (9, 0)], [], hC w M n) :=
  vcK_ok (K := [11, 28, 41, 56]) 43 _ q
set_option maxRecDepth 20000 in
theorem b11_go_0 {w : cQ} {d : Nat} {F : mPost} {x1 : Int} {M : Nat → Nat → Int} {n : Nat × Nat} (q : (x1 < 1 → WPc t11_go (WPm gT d) F (11, [(2, 1), (0, x1), (9, 0), (9, 0)], [], hC w M n)) ∧ (¬ (x1 < 1) → (x1 ≤ 99 → WPm gT d 26 [(2, 9), (2, 38)] (hC w M n) (fun r h' => WPc t11_go (WPm gT d) F (28, [(2, 1), (0, x1), (9, 0), (9, 0)], [], h'))) ∧ (¬ (x1 ≤ 99) → WPc t11_go (WPm gT d) F (11, [(2, 1), (0, x1), (9, 0), (9, 0)], [], hC w M n)))) : WPc t11_go (WPm gT d) F (0, [(2, 1), (0, x1), (9, 0), (9, 0)], [], hC w M n) :=
  vcK_ok (K := [11, 28, 41, 56]) 43 _ q
def W11_go_41 (d : Nat) (Ψ : Int → cQ → (Nat → Nat → Int) → Nat × Nat → Prop) (x1 x2 x3 : Int) (w : cQ) (M : Nat → Nat → Int) (n : Nat × Nat) : Prop := WPc t11_go (WPm gT d) (FC Ψ) (41, [(2, 1), (0, x1), (0, x2), (0, x3)], [], hC w M n)
set_option maxRecDepth 20000 in
theorem v11_go_41 {w : cQ} {d : Nat} {Ψ : Int → cQ → (Nat → Nat → Int) → Nat × Nat → Prop} {x1 x2 x3 : Int} {M : Nat → Nat → Int} {n : Nat × Nat} (q : (x1 ≤ x3 → Ψ (w32 ((M 38 5) - x2)) w M n) ∧ (¬ (x1 ≤ x3) → CW d 107 [(2, 4), (1, (-1))] w M n (fun r0 w_1 M1 n_1 => W11_go_41 d Ψ x1 x2 (w32 (x3 + 1)) w_1 M1 n_1 ))) : W11_go_41 d Ψ x1 x2 x3 w M n :=
  b11_go_41 ⟨fun c1 => (FCmk (q.1 c1)), fun c1 => (WPm_mono gT d _ _ _ _ _ (fun r0 h' z0 => by obtain ⟨_, M1, _, rfl, z0⟩ := z0; exact b11_go_56 z0) (q.2 c1))⟩
set_option maxRecDepth 20000 in
theorem e11_go {w : cQ} {d : Nat} {Ψ : Int → cQ → (Nat → Nat → Int) → Nat × Nat → Prop} {x1 : Int} {M : Nat → Nat → Int} {n : Nat × Nat} (q : (x1 < 1 → Ψ (-3) w M n) ∧ (¬ (x1 < 1) → (x1 ≤ 99 → CW d 26 [(2, 9), (2, 38)] w M n (fun _ w_1 M1 n_1 => W11_go_41 d Ψ x1 (M1 38 5) 0 w_1 M1 n_1 )) ∧ (¬ (x1 ≤ 99) → Ψ (-3) w M n))) : CW (d + 1) 131 [(2, 1), (0, x1)] w M n Ψ :=
  WPm_in g11_go (Nat.le_of_ble_eq_true rfl) (b11_go_0 ⟨fun c2 => (WPc.kill [0, 1] (b11_go_11 (FCmk (q.1 c2)))), fun c2 => ⟨fun c3 => (WPm_mono gT d _ _ _ _ _ (fun r0 h' z0 => by obtain ⟨_, M1, _, rfl, z0⟩ := z0; exact b11_go_28 z0) ((q.2 c2).1 c3)), fun c3 => (WPc.kill [0, 1] (b11_go_11 (FCmk ((q.2 c2).2 c3))))⟩⟩)
set_option maxRecDepth 20000 in
theorem b11_undo_40 {w : cQ} {d : Nat} {F : mPost} {M : Nat → Nat → Int} {n : Nat × Nat} (q : F (0, M 9 1) (hC w M n)) : WPc t11_undo (WPm gT d) F (40, [(2, 1), (9, 0)], [], hC w M n) :=
  vcK_ok (K := [22, 40]) 29 _ q
set_option maxRecDepth 20000 in
theorem b11_undo_22 {w : cQ} {d : Nat} {F : mPost} {M : Nat → Nat → Int} {n : Nat × Nat} (q : F (0, (-3)) (hC w M n)) : WPc t11_undo (WPm gT d) F (22, [(9, 0), (9, 0)], [], hC w M n) :=
  vcK_ok (K := [22, 40]) 29 _ q
set_option maxRecDepth 20000 in
theorem b11_undo_0 {w : cQ} {d : Nat} {F : mPost} {x1 : Int} {M : Nat → Nat → Int} {n : Nat × Nat} (q : (x1 < 1 → WPc t11_undo (WPm gT d) F (22, [(2, 1), (0, x1)], [], hC w M n)) ∧ (¬ (x1 < 1) → (10 < x1 → WPc t11_undo (WPm gT d) F (22, [(2, 1), (0, x1)], [], hC w M n)) ∧ (¬ (10 < x1) → (x1 ≤ (M 9 1) → WPm gT d 28 [(2, 9), (0, x1), (2, 38)] (hC w M n) (fun r h' => WPc t11_undo (WPm gT d) F (40, [(2, 1), (0, x1)], [], h'))) ∧ (¬ (x1 ≤ (M 9 1)) → WPc t11_undo (WPm gT d) F (22, [(2, 1), (0, x1)], [], hC w M n))))) : WPc t11_undo (WPm gT d) F (0, [(2, 1), (0, x1)], [], hC w M n) :=
  vcK_ok (K := [22, 40]) 29 _ q
set_option maxRecDepth 20000 in
theorem e11_undo {w : cQ} {d : Nat} {Ψ : Int → cQ → (Nat → Nat → Int) → Nat × Nat → Prop} {x1 : Int} {M : Nat → Nat → Int} {n : Nat × Nat} (q : (x1 < 1 → Ψ (-3) w M n) ∧ (¬ (x1 < 1) → (10 < x1 → Ψ (-3) w M n) ∧ (¬ (10 < x1) → (x1 ≤ (M 9 1) → CW d 28 [(2, 9), (0, x1), (2, 38)] w M n (fun _ w_1 M1 n_1 => Ψ (M1 9 1) w_1 M1 n_1)) ∧ (¬ (x1 ≤ (M 9 1)) → Ψ (-3) w M n)))) : CW (d + 1) 132 [(2, 1), (0, x1)] w M n Ψ :=
  WPm_in g11_undo (Nat.le_of_ble_eq_true rfl) (b11_undo_0 ⟨fun c1 => (WPc.kill [0, 1] (b11_undo_22 (FCmk (q.1 c1)))), fun c1 => ⟨fun c2 => (WPc.kill [0, 1] (b11_undo_22 (FCmk ((q.2 c1).1 c2)))), fun c2 => ⟨fun c3 => (WPm_mono gT d _ _ _ _ _ (fun r0 h' z0 => by obtain ⟨_, M1, _, rfl, z0⟩ := z0; exact WPc.kill [1] (b11_undo_40 (FCmk z0))) (((q.2 c1).2 c2).1 c3)), fun c3 => (WPc.kill [0, 1] (b11_undo_22 (FCmk (((q.2 c1).2 c2).2 c3))))⟩⟩⟩)
set_option maxRecDepth 20000 in
theorem b11_verdictT0_92 {w : cQ} {d : Nat} {F : mPost} {s0 : Int} {M : Nat → Nat → Int} {n : Nat × Nat} (q : F (0, s0) (hC w M n)) : WPc t11_verdict (WPm gT d) F (92, [(9, 0), (9, 0), (9, 0), (9, 0), (9, 0)], [(0, s0)], hC w M n) :=
  vcK_ok (K := [13, 54, 73, 76, 84, 92]) 40 _ q
set_option maxRecDepth 20000 in
theorem b11_verdictT0_84 {w : cQ} {d : Nat} {F : mPost} {s0 : Int} {M : Nat → Nat → Int} {n : Nat × Nat} (q : F (0, s0) (hC w M n)) : WPc t11_verdict (WPm gT d) F (84, [(9, 0), (9, 0), (9, 0), (9, 0), (9, 0)], [(0, s0)], hC w M n) :=
  vcK_ok (K := [13, 54, 73, 76, 84, 92]) 40 _ q
set_option maxRecDepth 20000 in
theorem b11_verdictT0_76 {w : cQ} {d : Nat} {F : mPost} {s0 : Int} {M : Nat → Nat → Int} {n : Nat × Nat} (q : F (0, s0) (hC w M n)) : WPc t11_verdict (WPm gT d) F (76, [(9, 0), (9, 0), (9, 0), (9, 0), (9, 0)], [(0, s0)], hC w M n) :=
  vcK_ok (K := [13, 54, 73, 76, 84, 92]) 40 _ q
set_option maxRecDepth 20000 in
theorem b11_verdictT0_73 {w : cQ} {d : Nat} {F : mPost} {s1 : Int} {M : Nat → Nat → Int} {n : Nat × Nat} (q : WPm gT d 106 [(2, 4), (1, s1)] (hC w M n) (fun r h' => WPc t11_verdict (WPm gT d) F (76, [(9, 0), (9, 0), (9, 0), (9, 0), (9, 0)], [(0, r.2)], h'))) : WPc t11_verdict (WPm gT d) F (73, [(9, 0), (9, 0), (9, 0), (9, 0), (9, 0)], [(1, s1), (2, 4)], hC w M n) :=
  vcK_ok (K := [13, 54, 73, 76, 84, 92]) 40 _ q
set_option maxRecDepth 20000 in
theorem b11_verdictT0_54 {w : cQ} {d : Nat} {F : mPost} {s0 : Int} {M : Nat → Nat → Int} {n : Nat × Nat} (q : F (0, s0) (hC w M n)) : WPc t11_verdict (WPm gT d) F (54, [(9, 0), (9, 0), (9, 0), (9, 0), (9, 0)], [(0, s0)], hC w M n) :=
  vcK_ok (K := [13, 54, 73, 76, 84, 92]) 40 _ q
set_option maxRecDepth 20000 in
theorem b11_verdictT0_13 {w : cQ} {d : Nat} {F : mPost} {x2 x3 s0 : Int} {M : Nat → Nat → Int} {n : Nat × Nat} (q : (x2 = 0 → (s0 = 0 → WPc t11_verdict (WPm gT d) F (54, [(2, 1), (2, 85), (0, x2), (0, x3), (0, s0)], [(0, x3)], hC w M n)) ∧ (¬ (s0 = 0) → WPc t11_verdict (WPm gT d) F (54, [(2, 1), (2, 85), (0, x2), (0, x3), (0, s0)], [(0, (-1))], hC w M n))) ∧ (x2 ≠ 0 → ((x2 = 1 → (s0 = 0 → WPm gT d 75 [(2, 85), (0, x3)] (hC w M n) (fun r h' => WPc t11_verdict (WPm gT d) F (73, [(2, 1), (2, 85), (0, x2), (0, x3), (0, s0)], [(1, r.2), (2, 4)], h'))) ∧ (¬ (s0 = 0) → WPc t11_verdict (WPm gT d) F (76, [(2, 1), (2, 85), (0, x2), (0, x3), (0, s0)], [(0, 0)], hC w M n))) ∧ (x2 ≠ 1 → ((x2 = 2 → WPm gT d 115 [(2, 4)] (hC w M n) (fun r h' => WPc t11_verdict (WPm gT d) F (84, [(2, 1), (2, 85), (0, x2), (0, x3), (0, s0)], [(0, r.2)], h'))) ∧ (x2 ≠ 2 → (WPm gT d 116 [(2, 4)] (hC w M n) (fun r h' => WPc t11_verdict (WPm gT d) F (92, [(2, 1), (2, 85), (0, x2), (0, x3), (0, s0)], [(0, r.2)], h'))))))))) : WPc t11_verdict (WPm gT d) F (13, [(2, 1), (2, 85), (0, x2), (0, x3), (9, 0)], [(0, s0)], hC w M n) :=
  vcK_ok (K := [13, 54, 73, 76, 84, 92]) 40 _ q
set_option maxRecDepth 20000 in
theorem b11_verdictT0_0 {w : cQ} {d : Nat} {F : mPost} {x2 x3 : Int} {M : Nat → Nat → Int} {n : Nat × Nat} (q : (x3 < (M 85 2) → WPc t11_verdict (WPm gT d) F (13, [(2, 1), (2, 85), (0, x2), (0, x3), (9, 0)], [(0, 0)], hC w M n)) ∧ (¬ (x3 < (M 85 2)) → WPc t11_verdict (WPm gT d) F (13, [(2, 1), (2, 85), (0, x2), (0, x3), (9, 0)], [(0, 1)], hC w M n))) : WPc t11_verdict (WPm gT d) F (0, [(2, 1), (2, 85), (0, x2), (0, x3), (9, 0)], [], hC w M n) :=
  vcK_ok (K := [13, 54, 73, 76, 84, 92]) 40 _ q
set_option maxRecDepth 20000 in
theorem e11_verdictT0 {w : cQ} {d : Nat} {Ψ : Int → cQ → (Nat → Nat → Int) → Nat × Nat → Prop} {x2 x3 : Int} {M : Nat → Nat → Int} {n : Nat × Nat} (q : (x3 < (M 85 2) → (x2 = 0 → (0 = 0 → Ψ x3 w M n) ∧ (¬ (0 = 0) → Ψ (-1) w M n)) ∧ (x2 ≠ 0 → ((x2 = 1 → (0 = 0 → CW d 75 [(2, 85), (0, x3)] w M n (fun r0 w_1 M1 n_1 => CW d 106 [(2, 4), (1, r0)] w_1 M1 n_1 (fun r1 w_2 M2 n_2 => Ψ r1 w_2 M2 n_2))) ∧ (¬ (0 = 0) → Ψ 0 w M n)) ∧ (x2 ≠ 1 → ((x2 = 2 → CW d 115 [(2, 4)] w M n (fun r0 w_1 M1 n_1 => Ψ r0 w_1 M1 n_1)) ∧ (x2 ≠ 2 → (CW d 116 [(2, 4)] w M n (fun r0 w_1 M1 n_1 => Ψ r0 w_1 M1 n_1)))))))) ∧ (¬ (x3 < (M 85 2)) → (x2 = 0 → (1 = 0 → Ψ x3 w M n) ∧ (¬ (1 = 0) → Ψ (-1) w M n)) ∧ (x2 ≠ 0 → ((x2 = 1 → (1 = 0 → CW d 75 [(2, 85), (0, x3)] w M n (fun r0 w_1 M1 n_1 => CW d 106 [(2, 4), (1, r0)] w_1 M1 n_1 (fun r1 w_2 M2 n_2 => Ψ r1 w_2 M2 n_2))) ∧ (¬ (1 = 0) → Ψ 0 w M n)) ∧ (x2 ≠ 1 → ((x2 = 2 → CW d 115 [(2, 4)] w M n (fun r0 w_1 M1 n_1 => Ψ r0 w_1 M1 n_1)) ∧ (x2 ≠ 2 → (CW d 116 [(2, 4)] w M n (fun r0 w_1 M1 n_1 => Ψ r0 w_1 M1 n_1))))))))) : CW (d + 1) 134 [(2, 1), (2, 85), (0, x2), (0, x3)] w M n Ψ :=
  WPm_in g11_verdict (Nat.le_of_ble_eq_true rfl) (b11_verdictT0_0 ⟨fun c1 => (b11_verdictT0_13 ⟨fun c2 => ⟨fun c3 => (WPc.kill [0, 1, 2, 3, 4] (b11_verdictT0_54 (FCmk (((q.1 c1).1 c2).1 c3)))), fun c3 => (WPc.kill [0, 1, 2, 3, 4] (b11_verdictT0_54 (FCmk (((q.1 c1).1 c2).2 c3))))⟩, fun c2 => ⟨fun c4 => ⟨fun c5 => (WPm_mono gT d _ _ _ _ _ (fun r0 h' z0 => by obtain ⟨_, M1, _, rfl, z0⟩ := z0; exact WPc.kill [0, 1, 2, 3, 4] (b11_verdictT0_73 (WPm_mono gT d _ _ _ _ _ (fun r1 h' z1 => by obtain ⟨_, M2, _, rfl, z1⟩ := z1; exact WPc.kill [0, 1, 2, 3, 4] (b11_verdictT0_76 (FCmk z1))) z0))) ((((q.1 c1).2 c2).1 c4).1 c5)), fun c5 => (WPc.kill [0, 1, 2, 3, 4] (b11_verdictT0_76 (FCmk ((((q.1 c1).2 c2).1 c4).2 c5))))⟩, fun c4 => ⟨fun c6 => (WPm_mono gT d _ _ _ _ _ (fun r0 h' z0 => by obtain ⟨_, M1, _, rfl, z0⟩ := z0; exact WPc.kill [0, 1, 2, 3, 4] (b11_verdictT0_84 (FCmk z0))) ((((q.1 c1).2 c2).2 c4).1 c6)), fun c6 => (WPm_mono gT d _ _ _ _ _ (fun r0 h' z0 => by obtain ⟨_, M1, _, rfl, z0⟩ := z0; exact WPc.kill [0, 1, 2, 3, 4] (b11_verdictT0_92 (FCmk z0))) ((((q.1 c1).2 c2).2 c4).2 c6))⟩⟩⟩), fun c1 => (b11_verdictT0_13 ⟨fun c7 => ⟨fun c8 => (WPc.kill [0, 1, 2, 3, 4] (b11_verdictT0_54 (FCmk (((q.2 c1).1 c7).1 c8)))), fun c8 => (WPc.kill [0, 1, 2, 3, 4] (b11_verdictT0_54 (FCmk (((q.2 c1).1 c7).2 c8))))⟩, fun c7 => ⟨fun c9 => ⟨fun c10 => (WPm_mono gT d _ _ _ _ _ (fun r0 h' z0 => by obtain ⟨_, M1, _, rfl, z0⟩ := z0; exact WPc.kill [0, 1, 2, 3, 4] (b11_verdictT0_73 (WPm_mono gT d _ _ _ _ _ (fun r1 h' z1 => by obtain ⟨_, M2, _, rfl, z1⟩ := z1; exact WPc.kill [0, 1, 2, 3, 4] (b11_verdictT0_76 (FCmk z1))) z0))) ((((q.2 c1).2 c7).1 c9).1 c10)), fun c10 => (WPc.kill [0, 1, 2, 3, 4] (b11_verdictT0_76 (FCmk ((((q.2 c1).2 c7).1 c9).2 c10))))⟩, fun c9 => ⟨fun c11 => (WPm_mono gT d _ _ _ _ _ (fun r0 h' z0 => by obtain ⟨_, M1, _, rfl, z0⟩ := z0; exact WPc.kill [0, 1, 2, 3, 4] (b11_verdictT0_84 (FCmk z0))) ((((q.2 c1).2 c7).2 c9).1 c11)), fun c11 => (WPm_mono gT d _ _ _ _ _ (fun r0 h' z0 => by obtain ⟨_, M1, _, rfl, z0⟩ := z0; exact WPc.kill [0, 1, 2, 3, 4] (b11_verdictT0_92 (FCmk z0))) ((((q.2 c1).2 c7).2 c9).2 c11))⟩⟩⟩)⟩)
set_option maxRecDepth 20000 in
theorem b11_verdictT1_92 {w : cQ} {d : Nat} {F : mPost} {s0 : Int} {M : Nat → Nat → Int} {n : Nat × Nat} (q : F (0, s0) (hC w M n)) : WPc t11_verdict (WPm gT d) F (92, [(9, 0), (9, 0), (9, 0), (9, 0), (9, 0)], [(0, s0)], hC w M n) :=
  vcK_ok (K := [13, 54, 73, 76, 84, 92]) 40 _ q
set_option maxRecDepth 20000 in
theorem b11_verdictT1_84 {w : cQ} {d : Nat} {F : mPost} {s0 : Int} {M : Nat → Nat → Int} {n : Nat × Nat} (q : F (0, s0) (hC w M n)) : WPc t11_verdict (WPm gT d) F (84, [(9, 0), (9, 0), (9, 0), (9, 0), (9, 0)], [(0, s0)], hC w M n) :=
  vcK_ok (K := [13, 54, 73, 76, 84, 92]) 40 _ q
set_option maxRecDepth 20000 in
theorem b11_verdictT1_76 {w : cQ} {d : Nat} {F : mPost} {s0 : Int} {M : Nat → Nat → Int} {n : Nat × Nat} (q : F (0, s0) (hC w M n)) : WPc t11_verdict (WPm gT d) F (76, [(9, 0), (9, 0), (9, 0), (9, 0), (9, 0)], [(0, s0)], hC w M n) :=
  vcK_ok (K := [13, 54, 73, 76, 84, 92]) 40 _ q
set_option maxRecDepth 20000 in
theorem b11_verdictT1_73 {w : cQ} {d : Nat} {F : mPost} {s1 : Int} {M : Nat → Nat → Int} {n : Nat × Nat} (q : WPm gT d 106 [(2, 4), (1, s1)] (hC w M n) (fun r h' => WPc t11_verdict (WPm gT d) F (76, [(9, 0), (9, 0), (9, 0), (9, 0), (9, 0)], [(0, r.2)], h'))) : WPc t11_verdict (WPm gT d) F (73, [(9, 0), (9, 0), (9, 0), (9, 0), (9, 0)], [(1, s1), (2, 4)], hC w M n) :=
  vcK_ok (K := [13, 54, 73, 76, 84, 92]) 40 _ q
set_option maxRecDepth 20000 in
theorem b11_verdictT1_54 {w : cQ} {d : Nat} {F : mPost} {s0 : Int} {M : Nat → Nat → Int} {n : Nat × Nat} (q : F (0, s0) (hC w M n)) : WPc t11_verdict (WPm gT d) F (54, [(9, 0), (9, 0), (9, 0), (9, 0), (9, 0)], [(0, s0)], hC w M n) :=
  vcK_ok (K := [13, 54, 73, 76, 84, 92]) 40 _ q
set_option maxRecDepth 20000 in
theorem b11_verdictT1_13 {w : cQ} {d : Nat} {F : mPost} {x2 x3 s0 : Int} {M : Nat → Nat → Int} {n : Nat × Nat} (q : (x2 = 0 → (s0 = 0 → WPc t11_verdict (WPm gT d) F (54, [(2, 1), (2, 87), (0, x2), (0, x3), (0, s0)], [(0, x3)], hC w M n)) ∧ (¬ (s0 = 0) → WPc t11_verdict (WPm gT d) F (54, [(2, 1), (2, 87), (0, x2), (0, x3), (0, s0)], [(0, (-1))], hC w M n))) ∧ (x2 ≠ 0 → ((x2 = 1 → (s0 = 0 → WPm gT d 75 [(2, 87), (0, x3)] (hC w M n) (fun r h' => WPc t11_verdict (WPm gT d) F (73, [(2, 1), (2, 87), (0, x2), (0, x3), (0, s0)], [(1, r.2), (2, 4)], h'))) ∧ (¬ (s0 = 0) → WPc t11_verdict (WPm gT d) F (76, [(2, 1), (2, 87), (0, x2), (0, x3), (0, s0)], [(0, 0)], hC w M n))) ∧ (x2 ≠ 1 → ((x2 = 2 → WPm gT d 115 [(2, 4)] (hC w M n) (fun r h' => WPc t11_verdict (WPm gT d) F (84, [(2, 1), (2, 87), (0, x2), (0, x3), (0, s0)], [(0, r.2)], h'))) ∧ (x2 ≠ 2 → (WPm gT d 116 [(2, 4)] (hC w M n) (fun r h' => WPc t11_verdict (WPm gT d) F (92, [(2, 1), (2, 87), (0, x2), (0, x3), (0, s0)], [(0, r.2)], h'))))))))) : WPc t11_verdict (WPm gT d) F (13, [(2, 1), (2, 87), (0, x2), (0, x3), (9, 0)], [(0, s0)], hC w M n) :=
  vcK_ok (K := [13, 54, 73, 76, 84, 92]) 40 _ q
set_option maxRecDepth 20000 in
theorem b11_verdictT1_0 {w : cQ} {d : Nat} {F : mPost} {x2 x3 : Int} {M : Nat → Nat → Int} {n : Nat × Nat} (q : (x3 < (M 87 2) → WPc t11_verdict (WPm gT d) F (13, [(2, 1), (2, 87), (0, x2), (0, x3), (9, 0)], [(0, 0)], hC w M n)) ∧ (¬ (x3 < (M 87 2)) → WPc t11_verdict (WPm gT d) F (13, [(2, 1), (2, 87), (0, x2), (0, x3), (9, 0)], [(0, 1)], hC w M n))) : WPc t11_verdict (WPm gT d) F (0, [(2, 1), (2, 87), (0, x2), (0, x3), (9, 0)], [], hC w M n) :=
  vcK_ok (K := [13, 54, 73, 76, 84, 92]) 40 _ q
set_option maxRecDepth 20000 in
theorem e11_verdictT1 {w : cQ} {d : Nat} {Ψ : Int → cQ → (Nat → Nat → Int) → Nat × Nat → Prop} {x2 x3 : Int} {M : Nat → Nat → Int} {n : Nat × Nat} (q : (x3 < (M 87 2) → (x2 = 0 → (0 = 0 → Ψ x3 w M n) ∧ (¬ (0 = 0) → Ψ (-1) w M n)) ∧ (x2 ≠ 0 → ((x2 = 1 → (0 = 0 → CW d 75 [(2, 87), (0, x3)] w M n (fun r0 w_1 M1 n_1 => CW d 106 [(2, 4), (1, r0)] w_1 M1 n_1 (fun r1 w_2 M2 n_2 => Ψ r1 w_2 M2 n_2))) ∧ (¬ (0 = 0) → Ψ 0 w M n)) ∧ (x2 ≠ 1 → ((x2 = 2 → CW d 115 [(2, 4)] w M n (fun r0 w_1 M1 n_1 => Ψ r0 w_1 M1 n_1)) ∧ (x2 ≠ 2 → (CW d 116 [(2, 4)] w M n (fun r0 w_1 M1 n_1 => Ψ r0 w_1 M1 n_1)))))))) ∧ (¬ (x3 < (M 87 2)) → (x2 = 0 → (1 = 0 → Ψ x3 w M n) ∧ (¬ (1 = 0) → Ψ (-1) w M n)) ∧ (x2 ≠ 0 → ((x2 = 1 → (1 = 0 → CW d 75 [(2, 87), (0, x3)] w M n (fun r0 w_1 M1 n_1 => CW d 106 [(2, 4), (1, r0)] w_1 M1 n_1 (fun r1 w_2 M2 n_2 => Ψ r1 w_2 M2 n_2))) ∧ (¬ (1 = 0) → Ψ 0 w M n)) ∧ (x2 ≠ 1 → ((x2 = 2 → CW d 115 [(2, 4)] w M n (fun r0 w_1 M1 n_1 => Ψ r0 w_1 M1 n_1)) ∧ (x2 ≠ 2 → (CW d 116 [(2, 4)] w M n (fun r0 w_1 M1 n_1 => Ψ r0 w_1 M1 n_1))))))))) : CW (d + 1) 134 [(2, 1), (2, 87), (0, x2), (0, x3)] w M n Ψ :=
  WPm_in g11_verdict (Nat.le_of_ble_eq_true rfl) (b11_verdictT1_0 ⟨fun c1 => (b11_verdictT1_13 ⟨fun c2 => ⟨fun c3 => (WPc.kill [0, 1, 2, 3, 4] (b11_verdictT1_54 (FCmk (((q.1 c1).1 c2).1 c3)))), fun c3 => (WPc.kill [0, 1, 2, 3, 4] (b11_verdictT1_54 (FCmk (((q.1 c1).1 c2).2 c3))))⟩, fun c2 => ⟨fun c4 => ⟨fun c5 => (WPm_mono gT d _ _ _ _ _ (fun r0 h' z0 => by obtain ⟨_, M1, _, rfl, z0⟩ := z0; exact WPc.kill [0, 1, 2, 3, 4] (b11_verdictT1_73 (WPm_mono gT d _ _ _ _ _ (fun r1 h' z1 => by obtain ⟨_, M2, _, rfl, z1⟩ := z1; exact WPc.kill [0, 1, 2, 3, 4] (b11_verdictT1_76 (FCmk z1))) z0))) ((((q.1 c1).2 c2).1 c4).1 c5)), fun c5 => (WPc.kill [0, 1, 2, 3, 4] (b11_verdictT1_76 (FCmk ((((q.1 c1).2 c2).1 c4).2 c5))))⟩, fun c4 => ⟨fun c6 => (WPm_mono gT d _ _ _ _ _ (fun r0 h' z0 => by obtain ⟨_, M1, _, rfl, z0⟩ := z0; exact WPc.kill [0, 1, 2, 3, 4] (b11_verdictT1_84 (FCmk z0))) ((((q.1 c1).2 c2).2 c4).1 c6)), fun c6 => (WPm_mono gT d _ _ _ _ _ (fun r0 h' z0 => by obtain ⟨_, M1, _, rfl, z0⟩ := z0; exact WPc.kill [0, 1, 2, 3, 4] (b11_verdictT1_92 (FCmk z0))) ((((q.1 c1).2 c2).2 c4).2 c6))⟩⟩⟩), fun c1 => (b11_verdictT1_13 ⟨fun c7 => ⟨fun c8 => (WPc.kill [0, 1, 2, 3, 4] (b11_verdictT1_54 (FCmk (((q.2 c1).1 c7).1 c8)))), fun c8 => (WPc.kill [0, 1, 2, 3, 4] (b11_verdictT1_54 (FCmk (((q.2 c1).1 c7).2 c8))))⟩, fun c7 => ⟨fun c9 => ⟨fun c10 => (WPm_mono gT d _ _ _ _ _ (fun r0 h' z0 => by obtain ⟨_, M1, _, rfl, z0⟩ := z0; exact WPc.kill [0, 1, 2, 3, 4] (b11_verdictT1_73 (WPm_mono gT d _ _ _ _ _ (fun r1 h' z1 => by obtain ⟨_, M2, _, rfl, z1⟩ := z1; exact WPc.kill [0, 1, 2, 3, 4] (b11_verdictT1_76 (FCmk z1))) z0))) ((((q.2 c1).2 c7).1 c9).1 c10)), fun c10 => (WPc.kill [0, 1, 2, 3, 4] (b11_verdictT1_76 (FCmk ((((q.2 c1).2 c7).1 c9).2 c10))))⟩, fun c9 => ⟨fun c11 => (WPm_mono gT d _ _ _ _ _ (fun r0 h' z0 => by obtain ⟨_, M1, _, rfl, z0⟩ := z0; exact WPc.kill [0, 1, 2, 3, 4] (b11_verdictT1_84 (FCmk z0))) ((((q.2 c1).2 c7).2 c9).1 c11)), fun c11 => (WPm_mono gT d _ _ _ _ _ (fun r0 h' z0 => by obtain ⟨_, M1, _, rfl, z0⟩ := z0; exact WPc.kill [0, 1, 2, 3, 4] (b11_verdictT1_92 (FCmk z0))) ((((q.2 c1).2 c7).2 c9).2 c11))⟩⟩⟩)⟩)
set_option maxRecDepth 20000 in
theorem b11_verdictT2_92 {w : cQ} {d : Nat} {F : mPost} {s0 : Int} {M : Nat → Nat → Int} {n : Nat × Nat} (q : F (0, s0) (hC w M n)) : WPc t11_verdict (WPm gT d) F (92, [(9, 0), (9, 0), (9, 0), (9, 0), (9, 0)], [(0, s0)], hC w M n) :=
  vcK_ok (K := [13, 54, 73, 76, 84, 92]) 40 _ q
set_option maxRecDepth 20000 in
theorem b11_verdictT2_84 {w : cQ} {d : Nat} {F : mPost} {s0 : Int} {M : Nat → Nat → Int} {n : Nat × Nat} (q : F (0, s0) (hC w M n)) : WPc t11_verdict (WPm gT d) F (84, [(9, 0), (9, 0), (9, 0), (9, 0), (9, 0)], [(0, s0)], hC w M n) :=
  vcK_ok (K := [13, 54, 73, 76, 84, 92]) 40 _ q
set_option maxRecDepth 20000 in
theorem b11_verdictT2_76 {w : cQ} {d : Nat} {F : mPost} {s0 : Int} {M : Nat → Nat → Int} {n : Nat × Nat} (q : F (0, s0) (hC w M n)) : WPc t11_verdict (WPm gT d) F (76, [(9, 0), (9, 0), (9, 0), (9, 0), (9, 0)], [(0, s0)], hC w M n) :=
  vcK_ok (K := [13, 54, 73, 76, 84, 92]) 40 _ q
set_option maxRecDepth 20000 in
theorem b11_verdictT2_73 {w : cQ} {d : Nat} {F : mPost} {s1 : Int} {M : Nat → Nat → Int} {n : Nat × Nat} (q : WPm gT d 106 [(2, 4), (1, s1)] (hC w M n) (fun r h' => WPc t11_verdict (WPm gT d) F (76, [(9, 0), (9, 0), (9, 0), (9, 0), (9, 0)], [(0, r.2)], h'))) : WPc t11_verdict (WPm gT d) F (73, [(9, 0), (9, 0), (9, 0), (9, 0), (9, 0)], [(1, s1), (2, 4)], hC w M n) :=
  vcK_ok (K := [13, 54, 73, 76, 84, 92]) 40 _ q
set_option maxRecDepth 20000 in
theorem b11_verdictT2_54 {w : cQ} {d : Nat} {F : mPost} {s0 : Int} {M : Nat → Nat → Int} {n : Nat × Nat} (q : F (0, s0) (hC w M n)) : WPc t11_verdict (WPm gT d) F (54, [(9, 0), (9, 0), (9, 0), (9, 0), (9, 0)], [(0, s0)], hC w M n) :=
  vcK_ok (K := [13, 54, 73, 76, 84, 92]) 40 _ q
set_option maxRecDepth 20000 in
theorem b11_verdictT2_13 {w : cQ} {d : Nat} {F : mPost} {x2 x3 s0 : Int} {M : Nat → Nat → Int} {n : Nat × Nat} (q : (x2 = 0 → (s0 = 0 → WPc t11_verdict (WPm gT d) F (54, [(2, 1), (2, 89), (0, x2), (0, x3), (0, s0)], [(0, x3)], hC w M n)) ∧ (¬ (s0 = 0) → WPc t11_verdict (WPm gT d) F (54, [(2, 1), (2, 89), (0, x2), (0, x3), (0, s0)], [(0, (-1))], hC w M n))) ∧ (x2 ≠ 0 → ((x2 = 1 → (s0 = 0 → WPm gT d 75 [(2, 89), (0, x3)] (hC w M n) (fun r h' => WPc t11_verdict (WPm gT d) F (73, [(2, 1), (2, 89), (0, x2), (0, x3), (0, s0)], [(1, r.2), (2, 4)], h'))) ∧ (¬ (s0 = 0) → WPc t11_verdict (WPm gT d) F (76, [(2, 1), (2, 89), (0, x2), (0, x3), (0, s0)], [(0, 0)], hC w M n))) ∧ (x2 ≠ 1 → ((x2 = 2 → WPm gT d 115 [(2, 4)] (hC w M n) (fun r h' => WPc t11_verdict (WPm gT d) F (84, [(2, 1), (2, 89), (0, x2), (0, x3), (0, s0)], [(0, r.2)], h'))) ∧ (x2 ≠ 2 → (WPm gT d 116 [(2, 4)] (hC w M n) (fun r h' => WPc t11_verdict (WPm gT d) F (92, [(2, 1), (2, 89), (0, x2), (0, x3), (0, s0)], [(0, r.2)], h'))))))))) : WPc t11_verdict (WPm gT d) F (13, [(2, 1), (2, 89), (0, x2), (0, x3), (9, 0)], [(0, s0)], hC w M n) :=
  vcK_ok (K := [13, 54, 73, 76, 84, 92]) 40 _ q
set_option maxRecDepth 20000 in
theorem b11_verdictT2_0 {w : cQ} {d : Nat} {F : mPost} {x2 x3 : Int} {M : Nat → Nat → Int} {n : Nat × Nat} (q : (x3 < (M 89 2) → WPc t11_verdict (WPm gT d) F (13, [(2, 1), (2, 89), (0, x2), (0, x3), (9, 0)], [(0, 0)], hC w M n)) ∧ (¬ (x3 < (M 89 2)) → WPc t11_verdict (WPm gT d) F (13, [(2, 1), (2, 89), (0, x2), (0, x3), (9, 0)], [(0, 1)], hC w M n))) : WPc t11_verdict (WPm gT d) F (0, [(2, 1), (2, 89), (0, x2), (0, x3), (9, 0)], [], hC w M n) :=
  vcK_ok (K := [13, 54, 73, 76, 84, 92]) 40 _ q
set_option maxRecDepth 20000 in
theorem e11_verdictT2 {w : cQ} {d : Nat} {Ψ : Int → cQ → (Nat → Nat → Int) → Nat × Nat → Prop} {x2 x3 : Int} {M : Nat → Nat → Int} {n : Nat × Nat} (q : (x3 < (M 89 2) → (x2 = 0 → (0 = 0 → Ψ x3 w M n) ∧ (¬ (0 = 0) → Ψ (-1) w M n)) ∧ (x2 ≠ 0 → ((x2 = 1 → (0 = 0 → CW d 75 [(2, 89), (0, x3)] w M n (fun r0 w_1 M1 n_1 => CW d 106 [(2, 4), (1, r0)] w_1 M1 n_1 (fun r1 w_2 M2 n_2 => Ψ r1 w_2 M2 n_2))) ∧ (¬ (0 = 0) → Ψ 0 w M n)) ∧ (x2 ≠ 1 → ((x2 = 2 → CW d 115 [(2, 4)] w M n (fun r0 w_1 M1 n_1 => Ψ r0 w_1 M1 n_1)) ∧ (x2 ≠ 2 → (CW d 116 [(2, 4)] w M n (fun r0 w_1 M1 n_1 => Ψ r0 w_1 M1 n_1)))))))) ∧ (¬ (x3 < (M 89 2)) → (x2 = 0 → (1 = 0 → Ψ x3 w M n) ∧ (¬ (1 = 0) → Ψ (-1) w M n)) ∧ (x2 ≠ 0 → ((x2 = 1 → (1 = 0 → CW d 75 [(2, 89), (0, x3)] w M n (fun r0 w_1 M1 n_1 => CW d 106 [(2, 4), (1, r0)] w_1 M1 n_1 (fun r1 w_2 M2 n_2 => Ψ r1 w_2 M2 n_2))) ∧ (¬ (1 = 0) → Ψ 0 w M n)) ∧ (x2 ≠ 1 → ((x2 = 2 → CW d 115 [(2, 4)] w M n (fun r0 w_1 M1 n_1 => Ψ r0 w_1 M1 n_1)) ∧ (x2 ≠ 2 → (CW d 116 [(2, 4)] w M n (fun r0 w_1 M1 n_1 => Ψ r0 w_1 M1 n_1))))))))) : CW (d + 1) 134 [(2, 1), (2, 89), (0, x2), (0, x3)] w M n Ψ :=
  WPm_in g11_verdict (Nat.le_of_ble_eq_true rfl) (b11_verdictT2_0 ⟨fun c1 => (b11_verdictT2_13 ⟨fun c2 => ⟨fun c3 => (WPc.kill [0, 1, 2, 3, 4] (b11_verdictT2_54 (FCmk (((q.1 c1).1 c2).1 c3)))), fun c3 => (WPc.kill [0, 1, 2, 3, 4] (b11_verdictT2_54 (FCmk (((q.1 c1).1 c2).2 c3))))⟩, fun c2 => ⟨fun c4 => ⟨fun c5 => (WPm_mono gT d _ _ _ _ _ (fun r0 h' z0 => by obtain ⟨_, M1, _, rfl, z0⟩ := z0; exact WPc.kill [0, 1, 2, 3, 4] (b11_verdictT2_73 (WPm_mono gT d _ _ _ _ _ (fun r1 h' z1 => by obtain ⟨_, M2, _, rfl, z1⟩ := z1; exact WPc.kill [0, 1, 2, 3, 4] (b11_verdictT2_76 (FCmk z1))) z0))) ((((q.1 c1).2 c2).1 c4).1 c5)), fun c5 => (WPc.kill [0, 1, 2, 3, 4] (b11_verdictT2_76 (FCmk ((((q.1 c1).2 c2).1 c4).2 c5))))⟩, fun c4 => ⟨fun c6 => (WPm_mono gT d _ _ _ _ _ (fun r0 h' z0 => by obtain ⟨_, M1, _, rfl, z0⟩ := z0; exact WPc.kill [0, 1, 2, 3, 4] (b11_verdictT2_84 (FCmk z0))) ((((q.1 c1).2 c2).2 c4).1 c6)), fun c6 => (WPm_mono gT d _ _ _ _ _ (fun r0 h' z0 => by obtain ⟨_, M1, _, rfl, z0⟩ := z0; exact WPc.kill [0, 1, 2, 3, 4] (b11_verdictT2_92 (FCmk z0))) ((((q.1 c1).2 c2).2 c4).2 c6))⟩⟩⟩), fun c1 => (b11_verdictT2_13 ⟨fun c7 => ⟨fun c8 => (WPc.kill [0, 1, 2, 3, 4] (b11_verdictT2_54 (FCmk (((q.2 c1).1 c7).1 c8)))), fun c8 => (WPc.kill [0, 1, 2, 3, 4] (b11_verdictT2_54 (FCmk (((q.2 c1).1 c7).2 c8))))⟩, fun c7 => ⟨fun c9 => ⟨fun c10 => (WPm_mono gT d _ _ _ _ _ (fun r0 h' z0 => by obtain ⟨_, M1, _, rfl, z0⟩ := z0; exact WPc.kill [0, 1, 2, 3, 4] (b11_verdictT2_73 (WPm_mono gT d _ _ _ _ _ (fun r1 h' z1 => by obtain ⟨_, M2, _, rfl, z1⟩ := z1; exact WPc.kill [0, 1, 2, 3, 4] (b11_verdictT2_76 (FCmk z1))) z0))) ((((q.2 c1).2 c7).1 c9).1 c10)), fun c10 => (WPc.kill [0, 1, 2, 3, 4] (b11_verdictT2_76 (FCmk ((((q.2 c1).2 c7).1 c9).2 c10))))⟩, fun c9 => ⟨fun c11 => (WPm_mono gT d _ _ _ _ _ (fun r0 h' z0 => by obtain ⟨_, M1, _, rfl, z0⟩ := z0; exact WPc.kill [0, 1, 2, 3, 4] (b11_verdictT2_84 (FCmk z0))) ((((q.2 c1).2 c7).2 c9).1 c11)), fun c11 => (WPm_mono gT d _ _ _ _ _ (fun r0 h' z0 => by obtain ⟨_, M1, _, rfl, z0⟩ := z0; exact WPc.kill [0, 1, 2, 3, 4] (b11_verdictT2_92 (FCmk z0))) ((((q.2 c1).2 c7).2 c9).2 c11))⟩⟩⟩)⟩)
set_option maxRecDepth 20000 in
theorem b11_verdictT3_92 {w : cQ} {d : Nat} {F : mPost} {s0 : Int} {M : Nat → Nat → Int} {n : Nat × Nat} (q : F (0, s0) (hC w M n)) : WPc t11_verdict (WPm gT d) F (92, [(9, 0), (9, 0), (9, 0), (9, 0), (9, 0)], [(0, s0)], hC w M n) :=
  vcK_ok (K := [13, 54, 73, 76, 84, 92]) 40 _ q
set_option maxRecDepth 20000 in
theorem b11_verdictT3_84 {w : cQ} {d : Nat} {F : mPost} {s0 : Int} {M : Nat → Nat → Int} {n : Nat × Nat} (q : F (0, s0) (hC w M n)) : WPc t11_verdict (WPm gT d) F (84, [(9, 0), (9, 0), (9, 0), (9, 0), (9, 0)], [(0, s0)], hC w M n) :=
  vcK_ok (K := [13, 54, 73, 76, 84, 92]) 40 _ q
set_option maxRecDepth 20000 in
theorem b11_verdictT3_76 {w : cQ} {d : Nat} {F : mPost} {s0 : Int} {M : Nat → Nat → Int} {n : Nat × Nat} (q : F (0, s0) (hC w M n)) : WPc t11_verdict (WPm gT d) F (76, [(9, 0), (9, 0), (9, 0), (9, 0), (9, 0)], [(0, s0)], hC w M n) :=
  vcK_ok (K := [13, 54, 73, 76, 84, 92]) 40 _ q
set_option maxRecDepth 20000 in
theorem b11_verdictT3_73 {w : cQ} {d : Nat} {F : mPost} {s1 : Int} {M : Nat → Nat → Int} {n : Nat × Nat} (q : WPm gT d 106 [(2, 4), (1, s1)] (hC w M n) (fun r h' => WPc t11_verdict (WPm gT d) F (76, [(9, 0), (9, 0), (9, 0), (9, 0), (9, 0)], [(0, r.2)], h'))) : WPc t11_verdict (WPm gT d) F (73, [(9, 0), (9, 0), (9, 0), (9, 0), (9, 0)], [(1, s1), (2, 4)], hC w M n) :=
  vcK_ok (K := [13, 54, 73, 76, 84, 92]) 40 _ q
set_option maxRecDepth 20000 in
theorem b11_verdictT3_54 {w : cQ} {d : Nat} {F : mPost} {s0 : Int} {M : Nat → Nat → Int} {n : Nat × Nat} (q : F (0, s0) (hC w M n)) : WPc t11_verdict (WPm gT d) F (54, [(9, 0), (9, 0), (9, 0), (9, 0), (9, 0)], [(0, s0)], hC w M n) :=
  vcK_ok (K := [13, 54, 73, 76, 84, 92]) 40 _ q
set_option maxRecDepth 20000 in
theorem b11_verdictT3_13 {w : cQ} {d : Nat} {F : mPost} {x2 x3 s0 : Int} {M : Nat → Nat → Int} {n : Nat × Nat} (q : (x2 = 0 → (s0 = 0 → WPc t11_verdict (WPm gT d) F (54, [(2, 1), (2, 91), (0, x2), (0, x3), (0, s0)], [(0, x3)], hC w M n)) ∧ (¬ (s0 = 0) → WPc t11_verdict (WPm gT d) F (54, [(2, 1), (2, 91), (0, x2), (0, x3), (0, s0)], [(0, (-1))], hC w M n))) ∧ (x2 ≠ 0 → ((x2 = 1 → (s0 = 0 → WPm gT d 75 [(2, 91), (0, x3)] (hC w M n) (fun r h' => WPc t11_verdict (WPm gT d) F (73, [(2, 1), (2, 91), (0, x2), (0, x3), (0, s0)], [(1, r.2), (2, 4)], h'))) ∧ (¬ (s0 = 0) → WPc t11_verdict (WPm gT d) F (76, [(2, 1), (2, 91), (0, x2), (0, x3), (0, s0)], [(0, 0)], hC w M n))) ∧ (x2 ≠ 1 → ((x2 = 2 → WPm gT d 115 [(2, 4)] (hC w M n) (fun r h' => WPc t11_verdict (WPm gT d) F (84, [(2, 1), (2, 91), (0, x2), (0, x3), (0, s0)], [(0, r.2)], h'))) ∧ (x2 ≠ 2 → (WPm gT d 116 [(2, 4)] (hC w M n) (fun r h' => WPc t11_verdict (WPm gT d) F (92, [(2, 1), (2, 91), (0, x2), (0, x3), (0, s0)], [(0, r.2)], h'))))))))) : WPc t11_verdict (WPm gT d) F (13, [(2, 1), (2, 91), (0, x2), (0, x3), (9, 0)], [(0, s0)], hC w M n) :=
  vcK_ok (K := [13, 54, 73, 76, 84, 92]) 40 _ q
set_option maxRecDepth 20000 in
theorem b11_verdictT3_0 {w : cQ} {d : Nat} {F : mPost} {x2 x3 : Int} {M : Nat → Nat → Int} {n : Nat × Nat} (q : (x3 < (M 91 2) → WPc t11_verdict (WPm gT d) F (13, [(2, 1), (2, 91), (0, x2), (0, x3), (9, 0)], [(0, 0)], hC w M n)) ∧ (¬ (x3 < (M 91 2)) → WPc t11_verdict (WPm gT d) F (13, [(2, 1), (2, 91), (0, x2), (0, x3), (9, 0)], [(0, 1)], hC w M n))) : WPc t11_verdict (WPm gT d) F (0, [(2, 1), (2, 91), (0, x2), (0, x3), (9, 0)], [], hC w M n) :=
  vcK_ok (K := [13, 54, 73, 76, 84, 92]) 40 _ q
set_option maxRecDepth 20000 in
theorem e11_verdictT3 {w : cQ} {d : Nat} {Ψ : Int → cQ → (Nat → Nat → Int) → Nat × Nat → Prop} {x2 x3 : Int} {M : Nat → Nat → Int} {n : Nat × Nat} (q : (x3 < (M 91 2) → (x2 = 0 → (0 = 0 → Ψ x3 w M n) ∧ (¬ (0 = 0) → Ψ (-1) w M n)) ∧ (x2 ≠ 0 → ((x2 = 1 → (0 = 0 → CW d 75 [(2, 91), (0, x3)] w M n (fun r0 w_1 M1 n_1 => CW d 106 [(2, 4), (1, r0)] w_1 M1 n_1 (fun r1 w_2 M2 n_2 => Ψ r1 w_2 M2 n_2))) ∧ (¬ (0 = 0) → Ψ 0 w M n)) ∧ (x2 ≠ 1 → ((x2 = 2 → CW d 115 [(2, 4)] w M n (fun r0 w_1 M1 n_1 => Ψ r0 w_1 M1 n_1)) ∧ (x2 ≠ 2 → (CW d 116 [(2, 4)] w M n (fun r0 w_1 M1 n_1 => Ψ r0 w_1 M1 n_1)))))))) ∧ (¬ (x3 < (M 91 2)) → (x2 = 0 → (1 = 0 → Ψ x3 w M n) ∧ (¬ (1 = 0) → Ψ (-1) w M n)) ∧ (x2 ≠ 0 → ((x2 = 1 → (1 = 0 → CW d 75 [(2, 91), (0, x3)] w M n (fun r0 w_1 M1 n_1 => CW d 106 [(2, 4), (1, r0)] w_1 M1 n_1 (fun r1 w_2 M2 n_2 => Ψ r1 w_2 M2 n_2))) ∧ (¬ (1 = 0) → Ψ 0 w M n)) ∧ (x2 ≠ 1 → ((x2 = 2 → CW d 115 [(2, 4)] w M n (fun r0 w_1 M1 n_1 => Ψ r0 w_1 M1 n_1)) ∧ (x2 ≠ 2 → (CW d 116 [(2, 4)] w M n (fun r0 w_1 M1 n_1 => Ψ r0 w_1 M1 n_1))))))))) : CW (d + 1) 134 [(2, 1), (2, 91), (0, x2), (0, x3)] w M n Ψ :=
  WPm_in g11_verdict (Nat.le_of_ble_eq_true rfl) (b11_verdictT3_0 ⟨fun c1 => (b11_verdictT3_13 ⟨fun c2 => ⟨fun c3 => (WPc.kill [0, 1, 2, 3, 4] (b11_verdictT3_54 (FCmk (((q.1 c1).1 c2).1 c3)))), fun c3 => (WPc.kill [0, 1, 2, 3, 4] (b11_verdictT3_54 (FCmk (((q.1 c1).1 c2).2 c3))))⟩, fun c2 => ⟨fun c4 => ⟨fun c5 => (WPm_mono gT d _ _ _ _ _ (fun r0 h' z0 => by obtain ⟨_, M1, _, rfl, z0⟩ := z0; exact WPc.kill [0, 1, 2, 3, 4] (b11_verdictT3_73 (WPm_mono gT d _ _ _ _ _ (fun r1 h' z1 => by obtain ⟨_, M2, _, rfl, z1⟩ := z1; exact WPc.kill [0, 1, 2, 3, 4] (b11_verdictT3_76 (FCmk z1))) z0))) ((((q.1 c1).2 c2).1 c4).1 c5)), fun c5 => (WPc.kill [0, 1, 2, 3, 4] (b11_verdictT3_76 (FCmk ((((q.1 c1).2 c2).1 c4).2 c5))))⟩, fun c4 => ⟨fun c6 => (WPm_mono gT d _ _ _ _ _ (fun r0 h' z0 => by obtain ⟨_, M1, _, rfl, z0⟩ := z0; exact WPc.kill [0, 1, 2, 3, 4] (b11_verdictT3_84 (FCmk z0))) ((((q.1 c1).2 c2).2 c4).1 c6)), fun c6 => (WPm_mono gT d _ _ _ _ _ (fun r0 h' z0 => by obtain ⟨_, M1, _, rfl, z0⟩ := z0; exact WPc.kill [0, 1, 2, 3, 4] (b11_verdictT3_92 (FCmk z0))) ((((q.1 c1).2 c2).2 c4).2 c6))⟩⟩⟩), fun c1 => (b11_verdictT3_13 ⟨fun c7 => ⟨fun c8 => (WPc.kill [0, 1, 2, 3, 4] (b11_verdictT3_54 (FCmk (((q.2 c1).1 c7).1 c8)))), fun c8 => (WPc.kill [0, 1, 2, 3, 4] (b11_verdictT3_54 (FCmk (((q.2 c1).1 c7).2 c8))))⟩, fun c7 => ⟨fun c9 => ⟨fun c10 => (WPm_mono gT d _ _ _ _ _ (fun r0 h' z0 => by obtain ⟨_, M1, _, rfl, z0⟩ := z0; exact WPc.kill [0, 1, 2, 3, 4] (b11_verdictT3_73 (WPm_mono gT d _ _ _ _ _ (fun r1 h' z1 => by obtain ⟨_, M2, _, rfl, z1⟩ := z1; exact WPc.kill [0, 1, 2, 3, 4] (b11_verdictT3_76 (FCmk z1))) z0))) ((((q.2 c1).2 c7).1 c9).1 c10)), fun c10 => (WPc.kill [0, 1, 2, 3, 4] (b11_verdictT3_76 (FCmk ((((q.2 c1).2 c7).1 c9).2 c10))))⟩, fun c9 => ⟨fun c11 => (WPm_mono gT d _ _ _ _ _ (fun r0 h' z0 => by obtain ⟨_, M1, _, rfl, z0⟩ := z0; exact WPc.kill [0, 1, 2, 3, 4] (b11_verdictT3_84 (FCmk z0))) ((((q.2 c1).2 c7).2 c9).1 c11)), fun c11 => (WPm_mono gT d _ _ _ _ _ (fun r0 h' z0 => by obtain ⟨_, M1, _, rfl, z0⟩ := z0; exact WPc.kill [0, 1, 2, 3, 4] (b11_verdictT3_92 (FCmk z0))) ((((q.2 c1).2 c7).2 c9).2 c11))⟩⟩⟩)⟩)
set_option maxRecDepth 20000 in
theorem b11_winter_41 {w : cQ} {d : Nat} {F : mPost} {s0 : Int} {M : Nat → Nat → Int} {n : Nat × Nat} (q : F (0, s0) (hC w M n)) : WPc t11_winter (WPm gT d) F (41, [(9, 0), (9, 0), (9, 0)], [(0, s0)], hC w M n) :=
  vcK_ok (K := [11, 28, 38, 41]) 27 _ q
set_option maxRecDepth 20000 in
theorem b11_winter_38 {w : cQ} {d : Nat} {F : mPost} {s1 : Int} {M : Nat → Nat → Int} {n : Nat × Nat} (q : WPm gT d 137 [(2, 1), (0, s1)] (hC w M n) (fun r h' => WPc t11_winter (WPm gT d) F (41, [(9, 0), (9, 0), (9, 0)], [(0, r.2)], h'))) : WPc t11_winter (WPm gT d) F (38, [(9, 0), (9, 0), (9, 0)], [(0, s1), (2, 1)], hC w M n) :=
  vcK_ok (K := [11, 28, 38, 41]) 27 _ q
set_option maxRecDepth 20000 in
theorem b11_winter_28 {w : cQ} {d : Nat} {F : mPost} {x1 x2 : Int} {M : Nat → Nat → Int} {n : Nat × Nat} (q : WPm gT d 112 [(2, 4), (0, x1), (0, x2)] (hC w M n) (fun r h' => WPc t11_winter (WPm gT d) F (38, [(2, 1), (0, x1), (0, x2)], [(0, r.2), (2, 1)], h'))) : WPc t11_winter (WPm gT d) F (28, [(2, 1), (0, x1), (0, x2)], [], hC w M n) :=
  vcK_ok (K := [11, 28, 38, 41]) 27 _ q
set_option maxRecDepth 20000 in
theorem b11_winter_11 {w : cQ} {d : Nat} {F : mPost} {M : Nat → Nat → Int} {n : Nat × Nat} (q : F (0, (-3)) (hC w M n)) : WPc t11_winter (WPm gT d) F (11, [(9, 0), (9, 0), (9, 0)], [], hC w M n) :=
  vcK_ok (K := [11, 28, 38, 41]) 27 _ q
set_option maxRecDepth 20000 in
theorem b11_winter_0 {w : cQ} {d : Nat} {F : mPost} {x1 x2 : Int} {M : Nat → Nat → Int} {n : Nat × Nat} (q : (x2 < 1 → WPc t11_winter (WPm gT d) F (11, [(2, 1), (0, x1), (0, x2)], [], hC w M n)) ∧ (¬ (x2 < 1) → (x2 ≤ 40 → WPm gT d 71 [(2, 5), (2, 38)] (hC w M n) (fun r h' => WPc t11_winter (WPm gT d) F (28, [(2, 1), (0, x1), (0, x2)], [], h'))) ∧ (¬ (x2 ≤ 40) → WPc t11_winter (WPm gT d) F (11, [(2, 1), (0, x1), (0, x2)], [], hC w M n)))) : WPc t11_winter (WPm gT d) F (0, [(2, 1), (0, x1), (0, x2)], [], hC w M n) :=
  vcK_ok (K := [11, 28, 38, 41]) 27 _ q
set_option maxRecDepth 20000 in
theorem e11_winter {w : cQ} {d : Nat} {Ψ : Int → cQ → (Nat → Nat → Int) → Nat × Nat → Prop} {x1 x2 : Int} {M : Nat → Nat → Int} {n : Nat × Nat} (q : (x2 < 1 → Ψ (-3) w M n) ∧ (¬ (x2 < 1) → (x2 ≤ 40 → CW d 71 [(2, 5), (2, 38)] w M n (fun _ w_1 M1 n_1 => CW d 112 [(2, 4), (0, x1), (0, x2)] w_1 M1 n_1 (fun r1 w_2 M2 n_2 => CW d 137 [(2, 1), (0, r1)] w_2 M2 n_2 (fun r2 w_3 M3 n_3 => Ψ r2 w_3 M3 n_3)))) ∧ (¬ (x2 ≤ 40) → Ψ (-3) w M n))) : CW (d + 1) 136 [(2, 1), (0, x1), (0, x2)] w M n Ψ :=
  WPm_in g11_winter (Nat.le_of_ble_eq_true rfl) (b11_winter_0 ⟨fun c1 => (WPc.kill [0, 1, 2] (b11_winter_11 (FCmk (q.1 c1)))), fun c1 => ⟨fun c2 => (WPm_mono gT d _ _ _ _ _ (fun r0 h' z0 => by obtain ⟨_, M1, _, rfl, z0⟩ := z0; exact b11_winter_28 (WPm_mono gT d _ _ _ _ _ (fun r1 h' z1 => by obtain ⟨_, M2, _, rfl, z1⟩ := z1; exact WPc.kill [0, 1, 2] (b11_winter_38 (WPm_mono gT d _ _ _ _ _ (fun r2 h' z2 => by obtain ⟨_, M3, _, rfl, z2⟩ := z2; exact WPc.kill [0, 1, 2] (b11_winter_41 (FCmk z2))) z1))) z0)) ((q.2 c1).1 c2)), fun c2 => (WPc.kill [0, 1, 2] (b11_winter_11 (FCmk ((q.2 c1).2 c2))))⟩⟩)
set_option maxRecDepth 20000 in
theorem b11_keptIfAny_15 {w : cQ} {d : Nat} {F : mPost} {x1 : Int} {M : Nat → Nat → Int} {n : Nat × Nat} (q : F (0, x1) (hC w M n)) : WPc t11_keptIfAny (WPm gT d) F (15, [(9, 0), (0, x1)], [], hC w M n) :=
  vcK_ok (K := [15]) 14 _ q
set_option maxRecDepth 20000 in
theorem b11_keptIfAny_0 {w : cQ} {d : Nat} {F : mPost} {x1 : Int} {M : Nat → Nat → Int} {n : Nat × Nat} (q : (x1 ≤ 0 → WPc t11_keptIfAny (WPm gT d) F (15, [(2, 1), (0, x1)], [], hC w M n)) ∧ (¬ (x1 ≤ 0) → WPm gT d 26 [(2, 9), (2, 5)] (hC w M n) (fun r h' => WPc t11_keptIfAny (WPm gT d) F (15, [(2, 1), (0, x1)], [], h')))) : WPc t11_keptIfAny (WPm gT d) F (0, [(2, 1), (0, x1)], [], hC w M n) :=
  vcK_ok (K := [15]) 14 _ q
set_option maxRecDepth 20000 in
theorem e11_keptIfAny {w : cQ} {d : Nat} {Ψ : Int → cQ → (Nat → Nat → Int) → Nat × Nat → Prop} {x1 : Int} {M : Nat → Nat → Int} {n : Nat × Nat} (q : (x1 ≤ 0 → Ψ x1 w M n) ∧ (¬ (x1 ≤ 0) → CW d 26 [(2, 9), (2, 5)] w M n (fun _ w_1 M1 n_1 => Ψ x1 w_1 M1 n_1))) : CW (d + 1) 137 [(2, 1), (0, x1)] w M n Ψ :=
  WPm_in g11_keptIfAny (Nat.le_of_ble_eq_true rfl) (b11_keptIfAny_0 ⟨fun c1 => (WPc.kill [0] (b11_keptIfAny_15 (FCmk (q.1 c1)))), fun c1 => (WPm_mono gT d _ _ _ _ _ (fun r0 h' z0 => by obtain ⟨_, M1, _, rfl, z0⟩ := z0; exact WPc.kill [0] (b11_keptIfAny_15 (FCmk z0))) (q.2 c1))⟩)
set_option maxRecDepth 20000 in
theorem b11_heardBy_24 {w : cQ} {d : Nat} {F : mPost} {s0 : Int} {M : Nat → Nat → Int} {n : Nat × Nat} (q : F (0, s0) (hC w M n)) : WPc t11_heardBy (WPm gT d) F (24, [(9, 0), (9, 0)], [(0, s0)], hC w M n) :=
  vcK_ok (K := [8, 19, 24]) 17 _ q
set_option maxRecDepth 20000 in
theorem b11_heardBy_19 {w : cQ} {d : Nat} {F : mPost} {s0 : Int} {M : Nat → Nat → Int} {n : Nat × Nat} (q : WPc t11_heardBy (WPm gT d) F (24, [(9, 0), (9, 0)], [(0, s0)], hC w M n)) : WPc t11_heardBy (WPm gT d) F (19, [(9, 0), (9, 0)], [(0, s0)], hC w M n) :=
  vcK_ok (K := [8, 19, 24]) 17 _ q
set_option maxRecDepth 20000 in
theorem b11_heardBy_8 {w : cQ} {d : Nat} {F : mPost} {x1 s0 : Int} {M : Nat → Nat → Int} {n : Nat × Nat} (q : (s0 = 0 → WPc t11_heardBy (WPm gT d) F (24, [(2, 1), (0, x1)], [(0, (-2))], hC w M n)) ∧ (¬ (s0 = 0) → WPm gT d 101 [(2, 4), (0, x1)] (hC w M n) (fun r h' => WPc t11_heardBy (WPm gT d) F (19, [(2, 1), (0, x1)], [(0, r.2)], h')))) : WPc t11_heardBy (WPm gT d) F (8, [(2, 1), (0, x1)], [(0, s0)], hC w M n) :=
  vcK_ok (K := [8, 19, 24]) 17 _ q
set_option maxRecDepth 20000 in
theorem b11_heardBy_0 {w : cQ} {d : Nat} {F : mPost} {x1 : Int} {M : Nat → Nat → Int} {n : Nat × Nat} (q : WPm gT d 91 [(2, 4), (0, x1)] (hC w M n) (fun r h' => WPc t11_heardBy (WPm gT d) F (8, [(2, 1), (0, x1)], [(0, r.2)], h'))) : WPc t11_heardBy (WPm gT d) F (0, [(2, 1), (0, x1)], [], hC w M n) :=
  vcK_ok (K := [8, 19, 24]) 17 _ q
set_option maxRecDepth 20000 in
theorem e11_heardBy {w : cQ} {d : Nat} {Ψ : Int → cQ → (Nat → Nat → Int) → Nat × Nat → Prop} {x1 : Int} {M : Nat → Nat → Int} {n : Nat × Nat} (q : CW d 91 [(2, 4), (0, x1)] w M n (fun r0 w_1 M1 n_1 => (r0 = 0 → Ψ (-2) w_1 M1 n_1) ∧ (¬ (r0 = 0) → CW d 101 [(2, 4), (0, x1)] w_1 M1 n_1 (fun r1 w_2 M2 n_2 => Ψ r1 w_2 M2 n_2)))) : CW (d + 1) 138 [(2, 1), (0, x1)] w M n Ψ :=
  WPm_in g11_heardBy (Nat.le_of_ble_eq_true rfl) (b11_heardBy_0 (WPm_mono gT d _ _ _ _ _ (fun r0 h' z0 => by obtain ⟨_, M1, _, rfl, z0⟩ := z0; exact b11_heardBy_8 ⟨fun c1 => (WPc.kill [0, 1] (b11_heardBy_24 (FCmk (z0.1 c1)))), fun c1 => (WPm_mono gT d _ _ _ _ _ (fun r1 h' z1 => by obtain ⟨_, M2, _, rfl, z1⟩ := z1; exact WPc.kill [0, 1] (b11_heardBy_19 (WPc.kill [0, 1] (b11_heardBy_24 (FCmk z1))))) (z0.2 c1))⟩) q))
set_option maxRecDepth 20000 in
theorem b11_ear_44 {w : cQ} {d : Nat} {F : mPost} {x1 x2 x3 : Int} {M : Nat → Nat → Int} {n : Nat × Nat} (q : WPc t11_ear (WPm gT d) F (6, [(2, 1), (0, x1), (0, x2), (0, w32 (x3 + 1)), (9, 0)], [], hC w M n)) : WPc t11_ear (WPm gT d) F (44, [(2, 1), (0, x1), (0, x2), (0, x3), (9, 0)], [], hC w M n) :=
  vcK_ok (K := [6, 28, 31, 44]) 34 _ q
set_option maxRecDepth 20000 in
theorem b11_ear_31 {w : cQ} {d : Nat} {F : mPost} {x1 x2 x3 s0 : Int} {M : Nat → Nat → Int} {n : Nat × Nat} (q : (s0 ≤ x2 → WPc t11_ear (WPm gT d) F (44, [(2, 1), (0, x1), (0, x2), (0, x3), (0, s0)], [], hC w M n)) ∧ (¬ (s0 ≤ x2) → WPc t11_ear (WPm gT d) F (44, [(2, 1), (0, x3), (0, s0), (0, x3), (0, s0)], [], hC w M n))) : WPc t11_ear (WPm gT d) F (31, [(2, 1), (0, x1), (0, x2), (0, x3), (9, 0)], [(0, s0)], hC w M n) :=
  vcK_ok (K := [6, 28, 31, 44]) 34 _ q
set_option maxRecDepth 20000 in
theorem b11_ear_28 {w : cQ} {d : Nat} {F : mPost} {x1 x2 x3 s0 : Int} {M : Nat → Nat → Int} {n : Nat × Nat} (q : WPm gT d 318 [(0, s0)] (hC w M n) (fun r h' => WPc t11_ear (WPm gT d) F (31, [(2, 1), (0, x1), (0, x2), (0, x3), (9, 0)], [(0, r.2)], h'))) : WPc t11_ear (WPm gT d) F (28, [(2, 1), (0, x1), (0, x2), (0, x3), (9, 0)], [(0, s0)], hC w M n) :=
  vcK_ok (K := [6, 28, 31, 44]) 34 _ q
set_option maxRecDepth 20000 in
theorem b11_ear_6 {w : cQ} {d : Nat} {F : mPost} {x1 x2 x3 : Int} {M : Nat → Nat → Int} {n : Nat × Nat} (q : ((M 29 0) ≤ x3 → F (0, x1) (hC w M n)) ∧ (¬ ((M 29 0) ≤ x3) → WPm gT d 100 [(2, 4), (0, x3)] (hC w M n) (fun r h' => WPc t11_ear (WPm gT d) F (28, [(2, 1), (0, x1), (0, x2), (0, x3), (9, 0)], [(0, r.2)], h')))) : WPc t11_ear (WPm gT d) F (6, [(2, 1), (0, x1), (0, x2), (0, x3), (9, 0)], [], hC w M n) :=
  vcK_ok (K := [6, 28, 31, 44]) 34 _ q
set_option maxRecDepth 20000 in
theorem b11_ear_0 {w : cQ} {d : Nat} {F : mPost} {M : Nat → Nat → Int} {n : Nat × Nat} (q : WPc t11_ear (WPm gT d) F (6, [(2, 1), (0, 0), (0, (-1)), (0, 0), (9, 0)], [], hC w M n)) : WPc t11_ear (WPm gT d) F (0, [(2, 1), (9, 0), (9, 0), (9, 0), (9, 0)], [], hC w M n) :=
  vcK_ok (K := [6, 28, 31, 44]) 34 _ q
def W11_ear_6 (d : Nat) (Ψ : Int → cQ → (Nat → Nat → Int) → Nat × Nat → Prop) (x1 x2 x3 : Int) (w : cQ) (M : Nat → Nat → Int) (n : Nat × Nat) : Prop := WPc t11_ear (WPm gT d) (FC Ψ) (6, [(2, 1), (0, x1), (0, x2), (0, x3), (9, 0)], [], hC w M n)
set_option maxRecDepth 20000 in
theorem v11_ear_6 {w : cQ} {d : Nat} {Ψ : Int → cQ → (Nat → Nat → Int) → Nat × Nat → Prop} {x1 x2 x3 : Int} {M : Nat → Nat → Int} {n : Nat × Nat} (q : ((M 29 0) ≤ x3 → Ψ x1 w M n) ∧ (¬ ((M 29 0) ≤ x3) → CW d 100 [(2, 4), (0, x3)] w M n (fun r0 w_1 M1 n_1 => CW d 318 [(0, r0)] w_1 M1 n_1 (fun r1 w_2 M2 n_2 => (r1 ≤ x2 → W11_ear_6 d Ψ x1 x2 (w32 (x3 + 1)) w_2 M2 n_2 ) ∧ (¬ (r1 ≤ x2) → W11_ear_6 d Ψ x3 r1 (w32 (x3 + 1)) w_2 M2 n_2 ))))) : W11_ear_6 d Ψ x1 x2 x3 w M n :=
  b11_ear_6 ⟨fun c1 => (FCmk (q.1 c1)), fun c1 => (WPm_mono gT d _ _ _ _ _ (fun r0 h' z0 => by obtain ⟨_, M1, _, rfl, z0⟩ := z0; exact b11_ear_28 (WPm_mono gT d _ _ _ _ _ (fun r1 h' z1 => by obtain ⟨_, M2, _, rfl, z1⟩ := z1; exact b11_ear_31 ⟨fun c2 => (WPc.kill [4] (b11_ear_44 (WPc.kill [4] (z1.1 c2)))), fun c2 => (WPc.kill [4] (b11_ear_44 (WPc.kill [4] (z1.2 c2))))⟩) z0)) (q.2 c1))⟩
set_option maxRecDepth 20000 in
theorem e11_ear {w : cQ} {d : Nat} {Ψ : Int → cQ → (Nat → Nat → Int) → Nat × Nat → Prop} {M : Nat → Nat → Int} {n : Nat × Nat} (q : W11_ear_6 d Ψ 0 (-1) 0 w M n ) : CW (d + 1) 139 [(2, 1)] w M n Ψ :=
  WPm_in g11_ear (Nat.le_of_ble_eq_true rfl) (b11_ear_0 q)
set_option maxRecDepth 20000 in
theorem b11_needs_33 {w : cQ} {d : Nat} {F : mPost} {s0 : Int} {M : Nat → Nat → Int} {n : Nat × Nat} (q : F (0, s0) (hC w M n)) : WPc t11_needs (WPm gT d) F (33, [(9, 0), (9, 0), (9, 0)], [(0, s0)], hC w M n) :=
  vcK_ok (K := [6, 21, 29, 33]) 24 _ q
set_option maxRecDepth 20000 in
theorem b11_needs_29 {w : cQ} {d : Nat} {F : mPost} {s0 : Int} {M : Nat → Nat → Int} {n : Nat × Nat} (q : WPc t11_needs (WPm gT d) F (33, [(9, 0), (9, 0), (9, 0)], [(0, s0)], hC w M n)) : WPc t11_needs (WPm gT d) F (29, [(9, 0), (9, 0), (9, 0)], [(0, s0)], hC w M n) :=
  vcK_ok (K := [6, 21, 29, 33]) 24 _ q
set_option maxRecDepth 20000 in
theorem b11_needs_21 {w : cQ} {d : Nat} {F : mPost} {x1 x2 s0 : Int} {M : Nat → Nat → Int} {n : Nat × Nat} (q : (s0 = 0 → WPc t11_needs (WPm gT d) F (33, [(9, 0), (0, x1), (0, x2)], [(0, 0)], hC w M n)) ∧ (¬ (s0 = 0) → WPm gT d 181 [(0, x1), (0, x2)] (hC w M n) (fun r h' => WPc t11_needs (WPm gT d) F (29, [(9, 0), (0, x1), (0, x2)], [(0, r.2)], h')))) : WPc t11_needs (WPm gT d) F (21, [(9, 0), (0, x1), (0, x2)], [(0, s0)], hC w M n) :=
  vcK_ok (K := [6, 21, 29, 33]) 24 _ q
set_option maxRecDepth 20000 in
theorem b11_needs_6 {w : cQ} {d : Nat} {F : mPost} {x1 x2 s0 : Int} {M : Nat → Nat → Int} {n : Nat × Nat} (q : (s0 ≠ 0 → WPm gT d 99 [(2, 4), (0, x1), (0, x2)] (hC w M n) (fun r h' => WPc t11_needs (WPm gT d) F (21, [(2, 1), (0, x1), (0, x2)], [(0, r.2)], h'))) ∧ (¬ (s0 ≠ 0) → F (0, (-2)) (hC w M n))) : WPc t11_needs (WPm gT d) F (6, [(2, 1), (0, x1), (0, x2)], [(0, s0)], hC w M n) :=
  vcK_ok (K := [6, 21, 29, 33]) 24 _ q
set_option maxRecDepth 20000 in
theorem b11_needs_0 {w : cQ} {d : Nat} {F : mPost} {x1 x2 : Int} {M : Nat → Nat → Int} {n : Nat × Nat} (q : WPm gT d 179 [(2, 1), (0, x1), (0, x2)] (hC w M n) (fun r h' => WPc t11_needs (WPm gT d) F (6, [(2, 1), (0, x1), (0, x2)], [(0, r.2)], h'))) : WPc t11_needs (WPm gT d) F (0, [(2, 1), (0, x1), (0, x2)], [], hC w M n) :=
  vcK_ok (K := [6, 21, 29, 33]) 24 _ q
set_option maxRecDepth 20000 in
theorem e11_needs {w : cQ} {d : Nat} {Ψ : Int → cQ → (Nat → Nat → Int) → Nat × Nat → Prop} {x1 x2 : Int} {M : Nat → Nat → Int} {n : Nat × Nat} (q : CW d 179 [(2, 1), (0, x1), (0, x2)] w M n (fun r0 w_1 M1 n_1 => (r0 ≠ 0 → CW d 99 [(2, 4), (0, x1), (0, x2)] w_1 M1 n_1 (fun r1 w_2 M2 n_2 => (r1 = 0 → Ψ 0 w_2 M2 n_2) ∧ (¬ (r1 = 0) → CW d 181 [(0, x1), (0, x2)] w_2 M2 n_2 (fun r2 w_3 M3 n_3 => Ψ r2 w_3 M3 n_3)))) ∧ (¬ (r0 ≠ 0) → Ψ (-2) w_1 M1 n_1))) : CW (d + 1) 140 [(2, 1), (0, x1), (0, x2)] w M n Ψ :=
  WPm_in g11_needs (Nat.le_of_ble_eq_true rfl) (b11_needs_0 (WPm_mono gT d _ _ _ _ _ (fun r0 h' z0 => by obtain ⟨_, M1, _, rfl, z0⟩ := z0; exact b11_needs_6 ⟨fun c1 => (WPm_mono gT d _ _ _ _ _ (fun r1 h' z1 => by obtain ⟨_, M2, _, rfl, z1⟩ := z1; exact WPc.kill [0] (b11_needs_21 ⟨fun c2 => (WPc.kill [0, 1, 2] (b11_needs_33 (FCmk (z1.1 c2)))), fun c2 => (WPm_mono gT d _ _ _ _ _ (fun r2 h' z2 => by obtain ⟨_, M3, _, rfl, z2⟩ := z2; exact WPc.kill [0, 1, 2] (b11_needs_29 (WPc.kill [0, 1, 2] (b11_needs_33 (FCmk z2))))) (z1.2 c2))⟩)) (z0.1 c1)), fun c1 => (FCmk (z0.2 c1))⟩) q))
set_option maxRecDepth 20000 in
theorem b11_pieces_13 {w : cQ} {d : Nat} {F : mPost} {s0 : Int} {M : Nat → Nat → Int} {n : Nat × Nat} (q : F (0, w32 (s0 + 1)) (hC w M n)) : WPc t11_pieces (WPm gT d) F (13, [(9, 0)], [(0, s0)], hC w M n) :=
  vcK_ok (K := [13]) 13 _ q
set_option maxRecDepth 20000 in
theorem b11_pieces_0 {w : cQ} {d : Nat} {F : mPost} {M : Nat → Nat → Int} {n : Nat × Nat} (q : WPm gT d 318 [(0, M 38 3)] (hC w M n) (fun r h' => WPc t11_pieces (WPm gT d) F (13, [(2, 1)], [(0, r.2)], h'))) : WPc t11_pieces (WPm gT d) F (0, [(2, 1)], [], hC w M n) :=
  vcK_ok (K := [13]) 13 _ q
set_option maxRecDepth 20000 in
theorem e11_pieces {w : cQ} {d : Nat} {Ψ : Int → cQ → (Nat → Nat → Int) → Nat × Nat → Prop} {M : Nat → Nat → Int} {n : Nat × Nat} (q : CW d 318 [(0, M 38 3)] w M n (fun r0 w_1 M1 n_1 => Ψ (w32 (r0 + 1)) w_1 M1 n_1)) : CW (d + 1) 141 [(2, 1)] w M n Ψ :=
  WPm_in g11_pieces (Nat.le_of_ble_eq_true rfl) (b11_pieces_0 (WPm_mono gT d _ _ _ _ _ (fun r0 h' z0 => by obtain ⟨_, M1, _, rfl, z0⟩ := z0; exact WPc.kill [0] (b11_pieces_13 (FCmk z0))) q))
set_option maxRecDepth 20000 in
theorem b11_listeners_84 {w : cQ} {d : Nat} {F : mPost} {x2 x3 x4 : Int} {M : Nat → Nat → Int} {n : Nat × Nat} (q : WPc t11_listeners (WPm gT d) F (53, [(2, 1), (9, 0), (0, x2), (0, x3), (0, w32 (x4 + 1))], [], hC w M n)) : WPc t11_listeners (WPm gT d) F (84, [(2, 1), (9, 0), (0, x2), (0, x3), (0, x4)], [], hC w M n) :=
  vcK_ok (K := [13, 31, 53, 64, 68, 77, 84]) 58 _ q
set_option maxRecDepth 20000 in
theorem b11_listeners_77 {w : cQ} {d : Nat} {F : mPost} {x2 x3 x4 s0 : Int} {M : Nat → Nat → Int} {n : Nat × Nat} (q : (s0 ≠ x2 → WPc t11_listeners (WPm gT d) F (84, [(2, 1), (9, 0), (0, x2), (0, x3), (0, x4)], [], hC w M n)) ∧ (¬ (s0 ≠ x2) → WPc t11_listeners (WPm gT d) F (84, [(2, 1), (9, 0), (0, x2), (0, x4), (0, x4)], [], hC w M n))) : WPc t11_listeners (WPm gT d) F (77, [(2, 1), (9, 0), (0, x2), (0, x3), (0, x4)], [(0, s0)], hC w M n) :=
  vcK_ok (K := [13, 31, 53, 64, 68, 77, 84]) 58 _ q
set_option maxRecDepth 20000 in
theorem b11_listeners_68 {w : cQ} {d : Nat} {F : mPost} {x2 x3 x4 s0 s1 : Int} {M : Nat → Nat → Int} {n : Nat × Nat} (q : (s1 ≤ s0 → WPc t11_listeners (WPm gT d) F (84, [(2, 1), (9, 0), (0, x2), (0, x3), (0, x4)], [], hC w M n)) ∧ (¬ (s1 ≤ s0) → WPm gT d 143 [(2, 1), (0, x4)] (hC w M n) (fun r h' => WPc t11_listeners (WPm gT d) F (77, [(2, 1), (9, 0), (0, x2), (0, x3), (0, x4)], [(0, r.2)], h')))) : WPc t11_listeners (WPm gT d) F (68, [(2, 1), (9, 0), (0, x2), (0, x3), (0, x4)], [(0, s1), (0, s0)], hC w M n) :=
  vcK_ok (K := [13, 31, 53, 64, 68, 77, 84]) 58 _ q
set_option maxRecDepth 20000 in
theorem b11_listeners_64 {w : cQ} {d : Nat} {F : mPost} {x2 x3 x4 s0 : Int} {M : Nat → Nat → Int} {n : Nat × Nat} (q : WPm gT d 318 [(0, x3)] (hC w M n) (fun r h' => WPc t11_listeners (WPm gT d) F (68, [(2, 1), (9, 0), (0, x2), (0, x3), (0, x4)], [(0, r.2), (0, s0)], h'))) : WPc t11_listeners (WPm gT d) F (64, [(2, 1), (9, 0), (0, x2), (0, x3), (0, x4)], [(0, s0)], hC w M n) :=
  vcK_ok (K := [13, 31, 53, 64, 68, 77, 84]) 58 _ q
set_option maxRecDepth 20000 in
theorem b11_listeners_53 {w : cQ} {d : Nat} {F : mPost} {x2 x3 x4 : Int} {M : Nat → Nat → Int} {n : Nat × Nat} (q : (x2 ≤ x4 → F (0, x3) (hC w M n)) ∧ (¬ (x2 ≤ x4) → WPm gT d 318 [(0, x4)] (hC w M n) (fun r h' => WPc t11_listeners (WPm gT d) F (64, [(2, 1), (9, 0), (0, x2), (0, x3), (0, x4)], [(0, r.2)], h')))) : WPc t11_listeners (WPm gT d) F (53, [(2, 1), (9, 0), (0, x2), (0, x3), (0, x4)], [], hC w M n) :=
  vcK_ok (K := [13, 31, 53, 64, 68, 77, 84]) 58 _ q
set_option maxRecDepth 20000 in
theorem b11_listeners_31 {w : cQ} {d : Nat} {F : mPost} {x1 x2 s1 s2 : Int} {M : Nat → Nat → Int} {n : Nat × Nat} (q : (0 ≤ s1 ∧ s1 < ((8 : Nat) : Int) ∧ True) ∧ (WPc t11_listeners (WPm gT d) F (13, [(2, 1), (0, x1), (0, w32 (x2 + 1)), (9, 0), (9, 0)], [], hC w (sI M 16 s1.toNat (m_or s2 (m_shl 1 x2))) n))) : WPc t11_listeners (WPm gT d) F (31, [(2, 1), (0, x1), (0, x2), (9, 0), (9, 0)], [(0, s2), (0, s1), (2, 16)], hC w M n) :=
  vcK_ok (K := [13, 31, 53, 64, 68, 77, 84]) 58 _ q
set_option maxRecDepth 20000 in
theorem b11_listeners_13 {w : cQ} {d : Nat} {F : mPost} {x1 x2 : Int} {M : Nat → Nat → Int} {n : Nat × Nat} (q : (x1 ≤ x2 → WPc t11_listeners (WPm gT d) F (53, [(2, 1), (0, x1), (0, w32 ((m_shl 1 x1) - 1)), (0, w32 ((m_shl 1 x1) - 1)), (0, 1)], [], hC w M n)) ∧ (¬ (x1 ≤ x2) → WPm gT d 100 [(2, 4), (0, x2)] (hC w M n) (fun r h' => WPc t11_listeners (WPm gT d) F (31, [(2, 1), (0, x1), (0, x2), (9, 0), (9, 0)], [(0, r.2), (0, x2), (2, 16)], h')))) : WPc t11_listeners (WPm gT d) F (13, [(2, 1), (0, x1), (0, x2), (9, 0), (9, 0)], [], hC w M n) :=
  vcK_ok (K := [13, 31, 53, 64, 68, 77, 84]) 58 _ q
set_option maxRecDepth 20000 in
theorem b11_listeners_0 {w : cQ} {d : Nat} {F : mPost} {M : Nat → Nat → Int} {n : Nat × Nat} (q : WPc t11_listeners (WPm gT d) F (13, [(2, 1), (0, M 29 0), (0, 0), (9, 0), (9, 0)], [], hC w M n)) : WPc t11_listeners (WPm gT d) F (0, [(2, 1), (9, 0), (9, 0), (9, 0), (9, 0)], [], hC w M n) :=
  vcK_ok (K := [13, 31, 53, 64, 68, 77, 84]) 58 _ q
def W11_listeners_13 (d : Nat) (Ψ : Int → cQ → (Nat → Nat → Int) → Nat × Nat → Prop) (x1 x2 : Int) (w : cQ) (M : Nat → Nat → Int) (n : Nat × Nat) : Prop := WPc t11_listeners (WPm gT d) (FC Ψ) (13, [(2, 1), (0, x1), (0, x2), (9, 0), (9, 0)], [], hC w M n)
def W11_listeners_53 (d : Nat) (Ψ : Int → cQ → (Nat → Nat → Int) → Nat × Nat → Prop) (x2 x3 x4 : Int) (w : cQ) (M : Nat → Nat → Int) (n : Nat × Nat) : Prop := WPc t11_listeners (WPm gT d) (FC Ψ) (53, [(2, 1), (9, 0), (0, x2), (0, x3), (0, x4)], [], hC w M n)
set_option maxRecDepth 20000 in
theorem v11_listeners_13 {w : cQ} {d : Nat} {Ψ : Int → cQ → (Nat → Nat → Int) → Nat × Nat → Prop} {x1 x2 : Int} {M : Nat → Nat → Int} {n : Nat × Nat} (q : (x1 ≤ x2 → W11_listeners_53 d Ψ (w32 ((m_shl 1 x1) - 1)) (w32 ((m_shl 1 x1) - 1)) 1 w M n ) ∧ (¬ (x1 ≤ x2) → CW d 100 [(2, 4), (0, x2)] w M n (fun r0 w_1 M1 n_1 => (0 ≤ x2 ∧ x2 < ((8 : Nat) : Int) ∧ True) ∧ (W11_listeners_13 d Ψ x1 (w32 (x2 + 1)) w_1 (sI M1 16 x2.toNat (m_or r0 (m_shl 1 x2))) n_1 )))) : W11_listeners_13 d Ψ x1 x2 w M n :=
  b11_listeners_13 ⟨fun c1 => (WPc.kill [1] (q.1 c1)), fun c1 => (WPm_mono gT d _ _ _ _ _ (fun r0 h' z0 => by obtain ⟨_, M1, _, rfl, z0⟩ := z0; exact b11_listeners_31 ⟨z0.1, z0.2⟩) (q.2 c1))⟩
set_option maxRecDepth 20000 in
theorem v11_listeners_53 {w : cQ} {d : Nat} {Ψ : Int → cQ → (Nat → Nat → Int) → Nat × Nat → Prop} {x2 x3 x4 : Int} {M : Nat → Nat → Int} {n : Nat × Nat} (q : (x2 ≤ x4 → Ψ x3 w M n) ∧ (¬ (x2 ≤ x4) → CW d 318 [(0, x4)] w M n (fun r0 w_1 M1 n_1 => CW d 318 [(0, x3)] w_1 M1 n_1 (fun r1 w_2 M2 n_2 => (r1 ≤ r0 → W11_listeners_53 d Ψ x2 x3 (w32 (x4 + 1)) w_2 M2 n_2 ) ∧ (¬ (r1 ≤ r0) → CW d 143 [(2, 1), (0, x4)] w_2 M2 n_2 (fun r2 w_3 M3 n_3 => (r2 ≠ x2 → W11_listeners_53 d Ψ x2 x3 (w32 (x4 + 1)) w_3 M3 n_3 ) ∧ (¬ (r2 ≠ x2) → W11_listeners_53 d Ψ x2 x4 (w32 (x4 + 1)) w_3 M3 n_3 ))))))) : W11_listeners_53 d Ψ x2 x3 x4 w M n :=
  b11_listeners_53 ⟨fun c2 => (FCmk (q.1 c2)), fun c2 => (WPm_mono gT d _ _ _ _ _ (fun r0 h' z0 => by obtain ⟨_, M1, _, rfl, z0⟩ := z0; exact b11_listeners_64 (WPm_mono gT d _ _ _ _ _ (fun r1 h' z1 => by obtain ⟨_, M2, _, rfl, z1⟩ := z1; exact b11_listeners_68 ⟨fun c3 => (b11_listeners_84 (z1.1 c3)), fun c3 => (WPm_mono gT d _ _ _ _ _ (fun r2 h' z2 => by obtain ⟨_, M3, _, rfl, z2⟩ := z2; exact b11_listeners_77 ⟨fun c4 => (b11_listeners_84 (z2.1 c4)), fun c4 => (b11_listeners_84 (z2.2 c4))⟩) (z1.2 c3))⟩) z0)) (q.2 c2))⟩
set_option maxRecDepth 20000 in
theorem e11_listeners {w : cQ} {d : Nat} {Ψ : Int → cQ → (Nat → Nat → Int) → Nat × Nat → Prop} {M : Nat → Nat → Int} {n : Nat × Nat} (q : W11_listeners_13 d Ψ (M 29 0) 0 w M n ) : CW (d + 1) 142 [(2, 1)] w M n Ψ :=
  WPm_in g11_listeners (Nat.le_of_ble_eq_true rfl) (b11_listeners_0 q)
