/-! ===== conditions of the class's methods (printed by program) ===== -/
set_option maxRecDepth 20000 in
theorem b11_covered_27 {w : cQ} {d : Nat} {F : mPost} {x1 x2 x3 : Int} {M : Nat → Nat → Int} {n : Nat × Nat} (q : WPc t11_covered (WPm gT d) F (4, [(2, 1), (0, x1), (0, x2), (0, w32 (x3 + 1))], [], hC w M n)) : WPc t11_covered (WPm gT d) F (27, [(2, 1), (0, x1), (0, x2), (0, x3)], [], hC w M n) :=
  vcK_ok (K := [4, 27]) 29 _ q
set_option maxRecDepth 20000 in
theorem b11_covered_4 {w : cQ} {d : Nat} {F : mPost} {x1 x2 x3 : Int} {M : Nat → Nat → Int} {n : Nat × Nat} (q : (8 ≤ x3 → F (0, x2) (hC w M n)) ∧ (¬ (8 ≤ x3) → ((m_and (m_shr x1 x3) 1) = 0 → WPc t11_covered (WPm gT d) F (27, [(2, 1), (0, x1), (0, x2), (0, x3)], [], hC w M n)) ∧ (¬ ((m_and (m_shr x1 x3) 1) = 0) → (0 ≤ x3 ∧ x3 < ((8 : Nat) : Int)) ∧ (WPc t11_covered (WPm gT d) F (27, [(2, 1), (0, x1), (0, m_or x2 (M 16 x3.toNat)), (0, x3)], [], hC w M n))))) : WPc t11_covered (WPm gT d) F (4, [(2, 1), (0, x1), (0, x2), (0, x3)], [], hC w M n) :=
  vcK_ok (K := [4, 27]) 29 _ q
set_option maxRecDepth 20000 in
theorem b11_covered_0 {w : cQ} {d : Nat} {F : mPost} {x1 : Int} {M : Nat → Nat → Int} {n : Nat × Nat} (q : WPc t11_covered (WPm gT d) F (4, [(2, 1), (0, x1), (0, 0), (0, 0)], [], hC w M n)) : WPc t11_covered (WPm gT d) F (0, [(2, 1), (0, x1), (9, 0), (9, 0)], [], hC w M n) :=
  vcK_ok (K := [4, 27]) 29 _ q
def W11_covered_4 (d : Nat) (Ψ : Int → cQ → (Nat → Nat → Int) → Nat × Nat → Prop) (x1 x2 x3 : Int) (w : cQ) (M : Nat → Nat → Int) (n : Nat × Nat) : Prop := WPc t11_covered (WPm gT d) (FC Ψ) (4, [(2, 1), (0, x1), (0, x2), (0, x3)], [], hC w M n)
set_option maxRecDepth 20000 in
theorem v11_covered_4 {w : cQ} {d : Nat} {Ψ : Int → cQ → (Nat → Nat → Int) → Nat × Nat → Prop} {x1 x2 x3 : Int} {M : Nat → Nat → Int} {n : Nat × Nat} (q : (8 ≤ x3 → Ψ x2 w M n) ∧ (¬ (8 ≤ x3) → ((m_and (m_shr x1 x3) 1) = 0 → W11_covered_4 d Ψ x1 x2 (w32 (x3 + 1)) w M n ) ∧ (¬ ((m_and (m_shr x1 x3) 1) = 0) → (0 ≤ x3 ∧ x3 < ((8 : Nat) : Int)) ∧ (W11_covered_4 d Ψ x1 (m_or x2 (M 16 x3.toNat)) (w32 (x3 + 1)) w M n )))) : W11_covered_4 d Ψ x1 x2 x3 w M n :=
  b11_covered_4 ⟨fun c1 => (FCmk (q.1 c1)), fun c1 => ⟨fun c2 => (b11_covered_27 ((q.2 c1).1 c2)), fun c2 => ⟨((q.2 c1).2 c2).1, (b11_covered_27 ((q.2 c1).2 c2).2)⟩⟩⟩
set_option maxRecDepth 20000 in
theorem e11_covered {w : cQ} {d : Nat} {Ψ : Int → cQ → (Nat → Nat → Int) → Nat × Nat → Prop} {x1 : Int} {M : Nat → Nat → Int} {n : Nat × Nat} (q : W11_covered_4 d Ψ x1 0 0 w M n ) : CW (d + 1) 143 [(2, 1), (0, x1)] w M n Ψ :=
  WPm_in g11_covered (Nat.le_of_ble_eq_true rfl) (b11_covered_0 q)
set_option maxRecDepth 20000 in
theorem b11_reach_24 {w : cQ} {d : Nat} {F : mPost} {s0 : Int} {M : Nat → Nat → Int} {n : Nat × Nat} (q : F (0, s0) (hC w M n)) : WPc t11_reach (WPm gT d) F (24, [(9, 0), (9, 0)], [(0, s0)], hC w M n) :=
  vcK_ok (K := [8, 19, 24]) 17 _ q
set_option maxRecDepth 20000 in
theorem b11_reach_19 {w : cQ} {d : Nat} {F : mPost} {s0 : Int} {M : Nat → Nat → Int} {n : Nat × Nat} (q : WPc t11_reach (WPm gT d) F (24, [(9, 0), (9, 0)], [(0, s0)], hC w M n)) : WPc t11_reach (WPm gT d) F (19, [(9, 0), (9, 0)], [(0, s0)], hC w M n) :=
  vcK_ok (K := [8, 19, 24]) 17 _ q
set_option maxRecDepth 20000 in
theorem b11_reach_8 {w : cQ} {d : Nat} {F : mPost} {x1 s0 : Int} {M : Nat → Nat → Int} {n : Nat × Nat} (q : (s0 = 0 → WPc t11_reach (WPm gT d) F (24, [(2, 1), (0, x1)], [(0, (-2))], hC w M n)) ∧ (¬ (s0 = 0) → WPm gT d 79 [(2, 13), (0, x1)] (hC w M n) (fun r h' => WPc t11_reach (WPm gT d) F (19, [(2, 1), (0, x1)], [(0, r.2)], h')))) : WPc t11_reach (WPm gT d) F (8, [(2, 1), (0, x1)], [(0, s0)], hC w M n) :=
  vcK_ok (K := [8, 19, 24]) 17 _ q
set_option maxRecDepth 20000 in
theorem b11_reach_0 {w : cQ} {d : Nat} {F : mPost} {x1 : Int} {M : Nat → Nat → Int} {n : Nat × Nat} (q : WPm gT d 92 [(2, 4), (0, x1)] (hC w M n) (fun r h' => WPc t11_reach (WPm gT d) F (8, [(2, 1), (0, x1)], [(0, r.2)], h'))) : WPc t11_reach (WPm gT d) F (0, [(2, 1), (0, x1)], [], hC w M n) :=
  vcK_ok (K := [8, 19, 24]) 17 _ q
set_option maxRecDepth 20000 in
theorem e11_reach {w : cQ} {d : Nat} {Ψ : Int → cQ → (Nat → Nat → Int) → Nat × Nat → Prop} {x1 : Int} {M : Nat → Nat → Int} {n : Nat × Nat} (q : CW d 92 [(2, 4), (0, x1)] w M n (fun r0 w_1 M1 n_1 => (r0 = 0 → Ψ (-2) w_1 M1 n_1) ∧ (¬ (r0 = 0) → CW d 79 [(2, 13), (0, x1)] w_1 M1 n_1 (fun r1 w_2 M2 n_2 => Ψ r1 w_2 M2 n_2)))) : CW (d + 1) 144 [(2, 1), (0, x1)] w M n Ψ :=
  WPm_in g11_reach (Nat.le_of_ble_eq_true rfl) (b11_reach_0 (WPm_mono gT d _ _ _ _ _ (fun r0 h' z0 => by obtain ⟨_, M1, _, rfl, z0⟩ := z0; exact b11_reach_8 ⟨fun c1 => (WPc.kill [0, 1] (b11_reach_24 (FCmk (z0.1 c1)))), fun c1 => (WPm_mono gT d _ _ _ _ _ (fun r1 h' z1 => by obtain ⟨_, M2, _, rfl, z1⟩ := z1; exact WPc.kill [0, 1] (b11_reach_19 (WPc.kill [0, 1] (b11_reach_24 (FCmk z1))))) (z0.2 c1))⟩) q))
set_option maxRecDepth 20000 in
theorem b11_fewest_24 {w : cQ} {d : Nat} {F : mPost} {s0 : Int} {M : Nat → Nat → Int} {n : Nat × Nat} (q : F (0, s0) (hC w M n)) : WPc t11_fewest (WPm gT d) F (24, [(9, 0), (9, 0), (9, 0)], [(0, s0)], hC w M n) :=
  vcK_ok (K := [6, 19, 24]) 19 _ q
set_option maxRecDepth 20000 in
theorem b11_fewest_19 {w : cQ} {d : Nat} {F : mPost} {s0 : Int} {M : Nat → Nat → Int} {n : Nat × Nat} (q : WPc t11_fewest (WPm gT d) F (24, [(9, 0), (9, 0), (9, 0)], [(0, s0)], hC w M n)) : WPc t11_fewest (WPm gT d) F (19, [(9, 0), (9, 0), (9, 0)], [(0, s0)], hC w M n) :=
  vcK_ok (K := [6, 19, 24]) 19 _ q
set_option maxRecDepth 20000 in
theorem b11_fewest_6 {w : cQ} {d : Nat} {F : mPost} {x1 x2 s0 : Int} {M : Nat → Nat → Int} {n : Nat × Nat} (q : (s0 = 0 → WPc t11_fewest (WPm gT d) F (24, [(2, 1), (0, x1), (0, x2)], [(0, (-2))], hC w M n)) ∧ (¬ (s0 = 0) → WPm gT d 81 [(2, 13), (0, x1), (0, x2), (0, 0)] (hC w M n) (fun r h' => WPc t11_fewest (WPm gT d) F (19, [(2, 1), (0, x1), (0, x2)], [(0, r.2)], h')))) : WPc t11_fewest (WPm gT d) F (6, [(2, 1), (0, x1), (0, x2)], [(0, s0)], hC w M n) :=
  vcK_ok (K := [6, 19, 24]) 19 _ q
set_option maxRecDepth 20000 in
theorem b11_fewest_0 {w : cQ} {d : Nat} {F : mPost} {x1 x2 : Int} {M : Nat → Nat → Int} {n : Nat × Nat} (q : WPm gT d 180 [(2, 1), (0, x1), (0, x2)] (hC w M n) (fun r h' => WPc t11_fewest (WPm gT d) F (6, [(2, 1), (0, x1), (0, x2)], [(0, r.2)], h'))) : WPc t11_fewest (WPm gT d) F (0, [(2, 1), (0, x1), (0, x2)], [], hC w M n) :=
  vcK_ok (K := [6, 19, 24]) 19 _ q
set_option maxRecDepth 20000 in
theorem e11_fewest {w : cQ} {d : Nat} {Ψ : Int → cQ → (Nat → Nat → Int) → Nat × Nat → Prop} {x1 x2 : Int} {M : Nat → Nat → Int} {n : Nat × Nat} (q : CW d 180 [(2, 1), (0, x1), (0, x2)] w M n (fun r0 w_1 M1 n_1 => (r0 = 0 → Ψ (-2) w_1 M1 n_1) ∧ (¬ (r0 = 0) → CW d 81 [(2, 13), (0, x1), (0, x2), (0, 0)] w_1 M1 n_1 (fun r1 w_2 M2 n_2 => Ψ r1 w_2 M2 n_2)))) : CW (d + 1) 145 [(2, 1), (0, x1), (0, x2)] w M n Ψ :=
  WPm_in g11_fewest (Nat.le_of_ble_eq_true rfl) (b11_fewest_0 (WPm_mono gT d _ _ _ _ _ (fun r0 h' z0 => by obtain ⟨_, M1, _, rfl, z0⟩ := z0; exact b11_fewest_6 ⟨fun c1 => (WPc.kill [0, 1, 2] (b11_fewest_24 (FCmk (z0.1 c1)))), fun c1 => (WPm_mono gT d _ _ _ _ _ (fun r1 h' z1 => by obtain ⟨_, M2, _, rfl, z1⟩ := z1; exact WPc.kill [0, 1, 2] (b11_fewest_19 (WPc.kill [0, 1, 2] (b11_fewest_24 (FCmk z1))))) (z0.2 c1))⟩) q))
set_option maxRecDepth 20000 in
theorem b11_way_8 {w : cQ} {d : Nat} {F : mPost} {s0 : Int} {M : Nat → Nat → Int} {n : Nat × Nat} (q : F (0, s0) (hC w M n)) : WPc t11_way (WPm gT d) F (8, [(9, 0), (9, 0), (9, 0), (9, 0)], [(0, s0)], hC w M n) :=
  vcK_ok (K := [8]) 12 _ q
set_option maxRecDepth 20000 in
theorem b11_way_0 {w : cQ} {d : Nat} {F : mPost} {x1 x2 x3 : Int} {M : Nat → Nat → Int} {n : Nat × Nat} (q : WPm gT d 150 [(2, 1), (0, x1), (0, x2), (0, x3), (0, 0)] (hC w M n) (fun r h' => WPc t11_way (WPm gT d) F (8, [(2, 1), (0, x1), (0, x2), (0, x3)], [(0, r.2)], h'))) : WPc t11_way (WPm gT d) F (0, [(2, 1), (0, x1), (0, x2), (0, x3)], [], hC w M n) :=
  vcK_ok (K := [8]) 12 _ q
set_option maxRecDepth 20000 in
theorem e11_way {w : cQ} {d : Nat} {Ψ : Int → cQ → (Nat → Nat → Int) → Nat × Nat → Prop} {x1 x2 x3 : Int} {M : Nat → Nat → Int} {n : Nat × Nat} (q : CW d 150 [(2, 1), (0, x1), (0, x2), (0, x3), (0, 0)] w M n (fun r0 w_1 M1 n_1 => Ψ r0 w_1 M1 n_1)) : CW (d + 1) 146 [(2, 1), (0, x1), (0, x2), (0, x3)] w M n Ψ :=
  WPm_in g11_way (Nat.le_of_ble_eq_true rfl) (b11_way_0 (WPm_mono gT d _ _ _ _ _ (fun r0 h' z0 => by obtain ⟨_, M1, _, rfl, z0⟩ := z0; exact WPc.kill [0, 1, 2, 3] (b11_way_8 (FCmk z0))) q))
set_option maxRecDepth 20000 in
theorem b11_ways_39 {w : cQ} {d : Nat} {F : mPost} {s0 : Int} {M : Nat → Nat → Int} {n : Nat × Nat} (q : F (1, s0) (hC w M n)) : WPc t11_ways (WPm gT d) F (39, [(9, 0), (9, 0), (9, 0), (9, 0)], [(1, s0)], hC w M n) :=
  vcK_ok (K := [6, 23, 39]) 26 _ q
set_option maxRecDepth 20000 in
theorem b11_ways_23 {w : cQ} {d : Nat} {F : mPost} {M : Nat → Nat → Int} {n : Nat × Nat} (q : WPc t11_ways (WPm gT d) F (39, [(9, 0), (9, 0), (9, 0), (9, 0)], [(1, (-3))], hC w M n)) : WPc t11_ways (WPm gT d) F (23, [(9, 0), (9, 0), (9, 0), (9, 0)], [], hC w M n) :=
  vcK_ok (K := [6, 23, 39]) 26 _ q
set_option maxRecDepth 20000 in
theorem b11_ways_6 {w : cQ} {d : Nat} {F : mPost} {x1 x2 x3 s0 : Int} {M : Nat → Nat → Int} {n : Nat × Nat} (q : (s0 ≠ 0 → (x3 < 0 → WPc t11_ways (WPm gT d) F (23, [(2, 1), (0, x1), (0, x2), (0, x3)], [], hC w M n)) ∧ (¬ (x3 < 0) → (x3 ≤ 15 → WPm gT d 80 [(2, 13), (0, x1), (0, x2), (0, x3)] (hC w M n) (fun r h' => WPc t11_ways (WPm gT d) F (39, [(2, 1), (0, x1), (0, x2), (0, x3)], [(1, r.2)], h'))) ∧ (¬ (x3 ≤ 15) → WPc t11_ways (WPm gT d) F (23, [(2, 1), (0, x1), (0, x2), (0, x3)], [], hC w M n)))) ∧ (¬ (s0 ≠ 0) → F (1, (-2)) (hC w M n))) : WPc t11_ways (WPm gT d) F (6, [(2, 1), (0, x1), (0, x2), (0, x3)], [(0, s0)], hC w M n) :=
  vcK_ok (K := [6, 23, 39]) 26 _ q
set_option maxRecDepth 20000 in
theorem b11_ways_0 {w : cQ} {d : Nat} {F : mPost} {x1 x2 x3 : Int} {M : Nat → Nat → Int} {n : Nat × Nat} (q : WPm gT d 180 [(2, 1), (0, x1), (0, x2)] (hC w M n) (fun r h' => WPc t11_ways (WPm gT d) F (6, [(2, 1), (0, x1), (0, x2), (0, x3)], [(0, r.2)], h'))) : WPc t11_ways (WPm gT d) F (0, [(2, 1), (0, x1), (0, x2), (0, x3)], [], hC w M n) :=
  vcK_ok (K := [6, 23, 39]) 26 _ q
set_option maxRecDepth 20000 in
theorem e11_ways {w : cQ} {d : Nat} {Ψ : Int → cQ → (Nat → Nat → Int) → Nat × Nat → Prop} {x1 x2 x3 : Int} {M : Nat → Nat → Int} {n : Nat × Nat} (q : CW d 180 [(2, 1), (0, x1), (0, x2)] w M n (fun r0 w_1 M1 n_1 => (r0 ≠ 0 → (x3 < 0 → Ψ (-3) w_1 M1 n_1) ∧ (¬ (x3 < 0) → (x3 ≤ 15 → CW d 80 [(2, 13), (0, x1), (0, x2), (0, x3)] w_1 M1 n_1 (fun r1 w_2 M2 n_2 => Ψ r1 w_2 M2 n_2)) ∧ (¬ (x3 ≤ 15) → Ψ (-3) w_1 M1 n_1))) ∧ (¬ (r0 ≠ 0) → Ψ (-2) w_1 M1 n_1))) : CW (d + 1) 147 [(2, 1), (0, x1), (0, x2), (0, x3)] w M n Ψ :=
  WPm_in g11_ways (Nat.le_of_ble_eq_true rfl) (b11_ways_0 (WPm_mono gT d _ _ _ _ _ (fun r0 h' z0 => by obtain ⟨_, M1, _, rfl, z0⟩ := z0; exact b11_ways_6 ⟨fun c1 => ⟨fun c2 => (WPc.kill [0, 1, 2, 3] (b11_ways_23 (WPc.kill [0, 1, 2, 3] (b11_ways_39 (FCmk ((z0.1 c1).1 c2)))))), fun c2 => ⟨fun c3 => (WPm_mono gT d _ _ _ _ _ (fun r1 h' z1 => by obtain ⟨_, M2, _, rfl, z1⟩ := z1; exact WPc.kill [0, 1, 2, 3] (b11_ways_39 (FCmk z1))) (((z0.1 c1).2 c2).1 c3)), fun c3 => (WPc.kill [0, 1, 2, 3] (b11_ways_23 (WPc.kill [0, 1, 2, 3] (b11_ways_39 (FCmk (((z0.1 c1).2 c2).2 c3))))))⟩⟩, fun c1 => (FCmk (z0.2 c1))⟩) q))
set_option maxRecDepth 20000 in
theorem b11_full_33 {w : cQ} {d : Nat} {F : mPost} {s0 : Int} {M : Nat → Nat → Int} {n : Nat × Nat} (q : F (0, s0) (hC w M n)) : WPc t11_full (WPm gT d) F (33, [(9, 0), (9, 0), (9, 0)], [(0, s0)], hC w M n) :=
  vcK_ok (K := [6, 28, 33]) 22 _ q
set_option maxRecDepth 20000 in
theorem b11_full_28 {w : cQ} {d : Nat} {F : mPost} {s0 : Int} {M : Nat → Nat → Int} {n : Nat × Nat} (q : WPc t11_full (WPm gT d) F (33, [(9, 0), (9, 0), (9, 0)], [(0, s0)], hC w M n)) : WPc t11_full (WPm gT d) F (28, [(9, 0), (9, 0), (9, 0)], [(0, s0)], hC w M n) :=
  vcK_ok (K := [6, 28, 33]) 22 _ q
set_option maxRecDepth 20000 in
theorem b11_full_6 {w : cQ} {d : Nat} {F : mPost} {x1 x2 s0 : Int} {M : Nat → Nat → Int} {n : Nat × Nat} (q : (s0 = 0 → WPc t11_full (WPm gT d) F (33, [(2, 1), (0, x1), (0, x2)], [(0, (-2))], hC w M n)) ∧ (¬ (s0 = 0) → WPm gT d 81 [(2, 13), (0, x1), (0, x2), (0, M 29 3)] (hC w M n) (fun r h' => WPc t11_full (WPm gT d) F (28, [(2, 1), (0, x1), (0, x2)], [(0, r.2)], h')))) : WPc t11_full (WPm gT d) F (6, [(2, 1), (0, x1), (0, x2)], [(0, s0)], hC w M n) :=
  vcK_ok (K := [6, 28, 33]) 22 _ q
set_option maxRecDepth 20000 in
theorem b11_full_0 {w : cQ} {d : Nat} {F : mPost} {x1 x2 : Int} {M : Nat → Nat → Int} {n : Nat × Nat} (q : WPm gT d 180 [(2, 1), (0, x1), (0, x2)] (hC w M n) (fun r h' => WPc t11_full (WPm gT d) F (6, [(2, 1), (0, x1), (0, x2)], [(0, r.2)], h'))) : WPc t11_full (WPm gT d) F (0, [(2, 1), (0, x1), (0, x2)], [], hC w M n) :=
  vcK_ok (K := [6, 28, 33]) 22 _ q
set_option maxRecDepth 20000 in
theorem e11_full {w : cQ} {d : Nat} {Ψ : Int → cQ → (Nat → Nat → Int) → Nat × Nat → Prop} {x1 x2 : Int} {M : Nat → Nat → Int} {n : Nat × Nat} (q : CW d 180 [(2, 1), (0, x1), (0, x2)] w M n (fun r0 w_1 M1 n_1 => (r0 = 0 → Ψ (-2) w_1 M1 n_1) ∧ (¬ (r0 = 0) → CW d 81 [(2, 13), (0, x1), (0, x2), (0, M1 29 3)] w_1 M1 n_1 (fun r1 w_2 M2 n_2 => Ψ r1 w_2 M2 n_2)))) : CW (d + 1) 148 [(2, 1), (0, x1), (0, x2)] w M n Ψ :=
  WPm_in g11_full (Nat.le_of_ble_eq_true rfl) (b11_full_0 (WPm_mono gT d _ _ _ _ _ (fun r0 h' z0 => by obtain ⟨_, M1, _, rfl, z0⟩ := z0; exact b11_full_6 ⟨fun c1 => (WPc.kill [0, 1, 2] (b11_full_33 (FCmk (z0.1 c1)))), fun c1 => (WPm_mono gT d _ _ _ _ _ (fun r1 h' z1 => by obtain ⟨_, M2, _, rfl, z1⟩ := z1; exact WPc.kill [0, 1, 2] (b11_full_28 (WPc.kill [0, 1, 2] (b11_full_33 (FCmk z1))))) (z0.2 c1))⟩) q))
set_option maxRecDepth 20000 in
theorem b11_fullWay_17 {w : cQ} {d : Nat} {F : mPost} {s0 : Int} {M : Nat → Nat → Int} {n : Nat × Nat} (q : F (0, s0) (hC w M n)) : WPc t11_fullWay (WPm gT d) F (17, [(9, 0), (9, 0), (9, 0), (9, 0)], [(0, s0)], hC w M n) :=
  vcK_ok (K := [17]) 15 _ q
set_option maxRecDepth 20000 in
theorem b11_fullWay_0 {w : cQ} {d : Nat} {F : mPost} {x1 x2 x3 : Int} {M : Nat → Nat → Int} {n : Nat × Nat} (q : WPm gT d 150 [(2, 1), (0, x1), (0, x2), (0, x3), (0, M 29 3)] (hC w M n) (fun r h' => WPc t11_fullWay (WPm gT d) F (17, [(2, 1), (0, x1), (0, x2), (0, x3)], [(0, r.2)], h'))) : WPc t11_fullWay (WPm gT d) F (0, [(2, 1), (0, x1), (0, x2), (0, x3)], [], hC w M n) :=
  vcK_ok (K := [17]) 15 _ q
set_option maxRecDepth 20000 in
theorem e11_fullWay {w : cQ} {d : Nat} {Ψ : Int → cQ → (Nat → Nat → Int) → Nat × Nat → Prop} {x1 x2 x3 : Int} {M : Nat → Nat → Int} {n : Nat × Nat} (q : CW d 150 [(2, 1), (0, x1), (0, x2), (0, x3), (0, M 29 3)] w M n (fun r0 w_1 M1 n_1 => Ψ r0 w_1 M1 n_1)) : CW (d + 1) 149 [(2, 1), (0, x1), (0, x2), (0, x3)] w M n Ψ :=
  WPm_in g11_fullWay (Nat.le_of_ble_eq_true rfl) (b11_fullWay_0 (WPm_mono gT d _ _ _ _ _ (fun r0 h' z0 => by obtain ⟨_, M1, _, rfl, z0⟩ := z0; exact WPc.kill [0, 1, 2, 3] (b11_fullWay_17 (FCmk z0))) q))
set_option maxRecDepth 20000 in
theorem b11_placeOfWay_49 {w : cQ} {d : Nat} {F : mPost} {s0 : Int} {M : Nat → Nat → Int} {n : Nat × Nat} (q : F (0, s0) (hC w M n)) : WPc t11_placeOfWay (WPm gT d) F (49, [(9, 0), (9, 0), (9, 0), (9, 0), (9, 0)], [(0, s0)], hC w M n) :=
  vcK_ok (K := [6, 31, 45, 49]) 32 _ q
set_option maxRecDepth 20000 in
theorem b11_placeOfWay_45 {w : cQ} {d : Nat} {F : mPost} {s0 : Int} {M : Nat → Nat → Int} {n : Nat × Nat} (q : WPc t11_placeOfWay (WPm gT d) F (49, [(9, 0), (9, 0), (9, 0), (9, 0), (9, 0)], [(0, s0)], hC w M n)) : WPc t11_placeOfWay (WPm gT d) F (45, [(9, 0), (9, 0), (9, 0), (9, 0), (9, 0)], [(0, s0)], hC w M n) :=
  vcK_ok (K := [6, 31, 45, 49]) 32 _ q
set_option maxRecDepth 20000 in
theorem b11_placeOfWay_31 {w : cQ} {d : Nat} {F : mPost} {x3 s0 s1 : Int} {M : Nat → Nat → Int} {n : Nat × Nat} (q : (s1 ≤ s0 → WPc t11_placeOfWay (WPm gT d) F (49, [(2, 1), (9, 0), (9, 0), (0, x3), (9, 0)], [(0, (-1))], hC w M n)) ∧ (¬ (s1 ≤ s0) → WPm gT d 68 [(2, 93), (0, x3)] (hC w M n) (fun r h' => WPc t11_placeOfWay (WPm gT d) F (45, [(2, 1), (9, 0), (9, 0), (0, x3), (9, 0)], [(0, r.2)], h')))) : WPc t11_placeOfWay (WPm gT d) F (31, [(2, 1), (9, 0), (9, 0), (0, x3), (9, 0)], [(0, s1), (0, s0)], hC w M n) :=
  vcK_ok (K := [6, 31, 45, 49]) 32 _ q
set_option maxRecDepth 20000 in
theorem b11_placeOfWay_6 {w : cQ} {d : Nat} {F : mPost} {x1 x2 x3 x4 s0 : Int} {M : Nat → Nat → Int} {n : Nat × Nat} (q : (s0 ≠ 0 → (0 ≤ x3 → WPm gT d 81 [(2, 13), (0, x1), (0, x2), (0, x4)] (hC w M n) (fun r h' => WPc t11_placeOfWay (WPm gT d) F (31, [(2, 1), (0, x1), (0, x2), (0, x3), (0, x4)], [(0, r.2), (0, x3)], h'))) ∧ (¬ (0 ≤ x3) → F (0, (-3)) (hC w M n))) ∧ (¬ (s0 ≠ 0) → F (0, (-2)) (hC w M n))) : WPc t11_placeOfWay (WPm gT d) F (6, [(2, 1), (0, x1), (0, x2), (0, x3), (0, x4)], [(0, s0)], hC w M n) :=
  vcK_ok (K := [6, 31, 45, 49]) 32 _ q
set_option maxRecDepth 20000 in
theorem b11_placeOfWay_0 {w : cQ} {d : Nat} {F : mPost} {x1 x2 x3 x4 : Int} {M : Nat → Nat → Int} {n : Nat × Nat} (q : WPm gT d 180 [(2, 1), (0, x1), (0, x2)] (hC w M n) (fun r h' => WPc t11_placeOfWay (WPm gT d) F (6, [(2, 1), (0, x1), (0, x2), (0, x3), (0, x4)], [(0, r.2)], h'))) : WPc t11_placeOfWay (WPm gT d) F (0, [(2, 1), (0, x1), (0, x2), (0, x3), (0, x4)], [], hC w M n) :=
  vcK_ok (K := [6, 31, 45, 49]) 32 _ q
set_option maxRecDepth 20000 in
theorem e11_placeOfWay {w : cQ} {d : Nat} {Ψ : Int → cQ → (Nat → Nat → Int) → Nat × Nat → Prop} {x1 x2 x3 x4 : Int} {M : Nat → Nat → Int} {n : Nat × Nat} (q : CW d 180 [(2, 1), (0, x1), (0, x2)] w M n (fun r0 w_1 M1 n_1 => (r0 ≠ 0 → (0 ≤ x3 → CW d 81 [(2, 13), (0, x1), (0, x2), (0, x4)] w_1 M1 n_1 (fun r1 w_2 M2 n_2 => (r1 ≤ x3 → Ψ (-1) w_2 M2 n_2) ∧ (¬ (r1 ≤ x3) → CW d 68 [(2, 93), (0, x3)] w_2 M2 n_2 (fun r2 w_3 M3 n_3 => Ψ r2 w_3 M3 n_3)))) ∧ (¬ (0 ≤ x3) → Ψ (-3) w_1 M1 n_1)) ∧ (¬ (r0 ≠ 0) → Ψ (-2) w_1 M1 n_1))) : CW (d + 1) 150 [(2, 1), (0, x1), (0, x2), (0, x3), (0, x4)] w M n Ψ :=
  WPm_in g11_placeOfWay (Nat.le_of_ble_eq_true rfl) (b11_placeOfWay_0 (WPm_mono gT d _ _ _ _ _ (fun r0 h' z0 => by obtain ⟨_, M1, _, rfl, z0⟩ := z0; exact b11_placeOfWay_6 ⟨fun c1 => ⟨fun c2 => (WPm_mono gT d _ _ _ _ _ (fun r1 h' z1 => by obtain ⟨_, M2, _, rfl, z1⟩ := z1; exact WPc.kill [1, 2, 4] (b11_placeOfWay_31 ⟨fun c3 => (WPc.kill [0, 1, 2, 3, 4] (b11_placeOfWay_49 (FCmk (z1.1 c3)))), fun c3 => (WPm_mono gT d _ _ _ _ _ (fun r2 h' z2 => by obtain ⟨_, M3, _, rfl, z2⟩ := z2; exact WPc.kill [0, 1, 2, 3, 4] (b11_placeOfWay_45 (WPc.kill [0, 1, 2, 3, 4] (b11_placeOfWay_49 (FCmk z2))))) (z1.2 c3))⟩)) ((z0.1 c1).1 c2)), fun c2 => (FCmk ((z0.1 c1).2 c2))⟩, fun c1 => (FCmk (z0.2 c1))⟩) q))
set_option maxRecDepth 20000 in
theorem b11_ends_51 {w : cQ} {d : Nat} {F : mPost} {x1 x2 x3 : Int} {M : Nat → Nat → Int} {n : Nat × Nat} (q : WPc t11_ends (WPm gT d) F (12, [(2, 1), (0, x1), (0, x2), (0, w32 (x3 + 1))], [], hC w M n)) : WPc t11_ends (WPm gT d) F (51, [(2, 1), (0, x1), (0, x2), (0, x3)], [], hC w M n) :=
  vcK_ok (K := [9, 12, 51]) 51 _ q
set_option maxRecDepth 20000 in
theorem b11_ends_12 {w : cQ} {d : Nat} {F : mPost} {x1 x2 x3 : Int} {M : Nat → Nat → Int} {n : Nat × Nat} (q : ((M 29 2) ≤ x3 → F (0, m_and (w32 ((m_shl 1 (M 29 1)) - 1)) (m_xor x1 (-1))) (hC w M n)) ∧ (¬ ((M 29 2) ≤ x3) → ((m_and (m_shr x2 x3) 1) = 0 → WPc t11_ends (WPm gT d) F (51, [(2, 1), (0, x1), (0, x2), (0, x3)], [], hC w M n)) ∧ (¬ ((m_and (m_shr x2 x3) 1) = 0) → (0 ≤ x3 ∧ x3 < ((12 : Nat) : Int)) ∧ (WPc t11_ends (WPm gT d) F (51, [(2, 1), (0, m_or x1 (m_shl 1 (M 30 x3.toNat))), (0, x2), (0, x3)], [], hC w M n))))) : WPc t11_ends (WPm gT d) F (12, [(2, 1), (0, x1), (0, x2), (0, x3)], [], hC w M n) :=
  vcK_ok (K := [9, 12, 51]) 51 _ q
set_option maxRecDepth 20000 in
theorem b11_ends_9 {w : cQ} {d : Nat} {F : mPost} {x1 s0 : Int} {M : Nat → Nat → Int} {n : Nat × Nat} (q : WPc t11_ends (WPm gT d) F (12, [(2, 1), (0, x1), (0, s0), (0, 0)], [], hC w M n)) : WPc t11_ends (WPm gT d) F (9, [(2, 1), (0, x1), (9, 0), (9, 0)], [(0, s0)], hC w M n) :=
  vcK_ok (K := [9, 12, 51]) 51 _ q
set_option maxRecDepth 20000 in
theorem b11_ends_0 {w : cQ} {d : Nat} {F : mPost} {M : Nat → Nat → Int} {n : Nat × Nat} (q : WPm gT d 98 [(2, 4)] (hC w M n) (fun r h' => WPc t11_ends (WPm gT d) F (9, [(2, 1), (0, 0), (9, 0), (9, 0)], [(0, r.2)], h'))) : WPc t11_ends (WPm gT d) F (0, [(2, 1), (9, 0), (9, 0), (9, 0)], [], hC w M n) :=
  vcK_ok (K := [9, 12, 51]) 51 _ q
def W11_ends_12 (d : Nat) (Ψ : Int → cQ → (Nat → Nat → Int) → Nat × Nat → Prop) (x1 x2 x3 : Int) (w : cQ) (M : Nat → Nat → Int) (n : Nat × Nat) : Prop := WPc t11_ends (WPm gT d) (FC Ψ) (12, [(2, 1), (0, x1), (0, x2), (0, x3)], [], hC w M n)
set_option maxRecDepth 20000 in
theorem v11_ends_12 {w : cQ} {d : Nat} {Ψ : Int → cQ → (Nat → Nat → Int) → Nat × Nat → Prop} {x1 x2 x3 : Int} {M : Nat → Nat → Int} {n : Nat × Nat} (q : ((M 29 2) ≤ x3 → Ψ (m_and (w32 ((m_shl 1 (M 29 1)) - 1)) (m_xor x1 (-1))) w M n) ∧ (¬ ((M 29 2) ≤ x3) → ((m_and (m_shr x2 x3) 1) = 0 → W11_ends_12 d Ψ x1 x2 (w32 (x3 + 1)) w M n ) ∧ (¬ ((m_and (m_shr x2 x3) 1) = 0) → (0 ≤ x3 ∧ x3 < ((12 : Nat) : Int)) ∧ (W11_ends_12 d Ψ (m_or x1 (m_shl 1 (M 30 x3.toNat))) x2 (w32 (x3 + 1)) w M n )))) : W11_ends_12 d Ψ x1 x2 x3 w M n :=
  b11_ends_12 ⟨fun c1 => (FCmk (q.1 c1)), fun c1 => ⟨fun c2 => (b11_ends_51 ((q.2 c1).1 c2)), fun c2 => ⟨((q.2 c1).2 c2).1, (b11_ends_51 ((q.2 c1).2 c2).2)⟩⟩⟩
set_option maxRecDepth 20000 in
theorem e11_ends {w : cQ} {d : Nat} {Ψ : Int → cQ → (Nat → Nat → Int) → Nat × Nat → Prop} {M : Nat → Nat → Int} {n : Nat × Nat} (q : CW d 98 [(2, 4)] w M n (fun r0 w_1 M1 n_1 => W11_ends_12 d Ψ 0 r0 0 w_1 M1 n_1 )) : CW (d + 1) 151 [(2, 1)] w M n Ψ :=
  WPm_in g11_ends (Nat.le_of_ble_eq_true rfl) (b11_ends_0 (WPm_mono gT d _ _ _ _ _ (fun r0 h' z0 => by obtain ⟨_, M1, _, rfl, z0⟩ := z0; exact b11_ends_9 z0) q))
set_option maxRecDepth 20000 in
theorem b11_forces_44 {w : cQ} {d : Nat} {F : mPost} {s0 : Int} {M : Nat → Nat → Int} {n : Nat × Nat} (q : F (0, s0) (hC w M n)) : WPc t11_forces (WPm gT d) F (44, [(9, 0), (9, 0), (9, 0)], [(0, s0)], hC w M n) :=
  vcK_ok (K := [8, 19, 22, 32, 44]) 29 _ q
set_option maxRecDepth 20000 in
theorem b11_forces_32 {w : cQ} {d : Nat} {F : mPost} {x1 x2 : Int} {M : Nat → Nat → Int} {n : Nat × Nat} (q : WPm gT d 2 [(2, 14), (0, x1), (0, x2), (0, m_shl 1 x1)] (hC w M n) (fun r h' => WPc t11_forces (WPm gT d) F (44, [(2, 1), (0, x1), (0, x2)], [(0, r.2)], h'))) : WPc t11_forces (WPm gT d) F (32, [(2, 1), (0, x1), (0, x2)], [], hC w M n) :=
  vcK_ok (K := [8, 19, 22, 32, 44]) 29 _ q
set_option maxRecDepth 20000 in
theorem b11_forces_22 {w : cQ} {d : Nat} {F : mPost} {M : Nat → Nat → Int} {n : Nat × Nat} (q : F (0, (-2)) (hC w M n)) : WPc t11_forces (WPm gT d) F (22, [(9, 0), (9, 0), (9, 0)], [], hC w M n) :=
  vcK_ok (K := [8, 19, 22, 32, 44]) 29 _ q
set_option maxRecDepth 20000 in
theorem b11_forces_19 {w : cQ} {d : Nat} {F : mPost} {x1 x2 s0 : Int} {M : Nat → Nat → Int} {n : Nat × Nat} (q : (s0 ≠ 0 → WPm gT d 1 [(2, 14)] (hC w M n) (fun r h' => WPc t11_forces (WPm gT d) F (32, [(2, 1), (0, x1), (0, x2)], [], h'))) ∧ (¬ (s0 ≠ 0) → WPc t11_forces (WPm gT d) F (22, [(2, 1), (0, x1), (0, x2)], [], hC w M n))) : WPc t11_forces (WPm gT d) F (19, [(2, 1), (0, x1), (0, x2)], [(0, s0)], hC w M n) :=
  vcK_ok (K := [8, 19, 22, 32, 44]) 29 _ q
set_option maxRecDepth 20000 in
theorem b11_forces_8 {w : cQ} {d : Nat} {F : mPost} {x1 x2 s0 : Int} {M : Nat → Nat → Int} {n : Nat × Nat} (q : (s0 = 0 → WPc t11_forces (WPm gT d) F (22, [(2, 1), (0, x1), (0, x2)], [], hC w M n)) ∧ (¬ (s0 = 0) → WPm gT d 92 [(2, 4), (0, x2)] (hC w M n) (fun r h' => WPc t11_forces (WPm gT d) F (19, [(2, 1), (0, x1), (0, x2)], [(0, r.2)], h')))) : WPc t11_forces (WPm gT d) F (8, [(2, 1), (0, x1), (0, x2)], [(0, s0)], hC w M n) :=
  vcK_ok (K := [8, 19, 22, 32, 44]) 29 _ q
set_option maxRecDepth 20000 in
theorem b11_forces_0 {w : cQ} {d : Nat} {F : mPost} {x1 x2 : Int} {M : Nat → Nat → Int} {n : Nat × Nat} (q : WPm gT d 91 [(2, 4), (0, x1)] (hC w M n) (fun r h' => WPc t11_forces (WPm gT d) F (8, [(2, 1), (0, x1), (0, x2)], [(0, r.2)], h'))) : WPc t11_forces (WPm gT d) F (0, [(2, 1), (0, x1), (0, x2)], [], hC w M n) :=
  vcK_ok (K := [8, 19, 22, 32, 44]) 29 _ q
set_option maxRecDepth 20000 in
theorem e11_forces {w : cQ} {d : Nat} {Ψ : Int → cQ → (Nat → Nat → Int) → Nat × Nat → Prop} {x1 x2 : Int} {M : Nat → Nat → Int} {n : Nat × Nat} (q : CW d 91 [(2, 4), (0, x1)] w M n (fun r0 w_1 M1 n_1 => (r0 = 0 → Ψ (-2) w_1 M1 n_1) ∧ (¬ (r0 = 0) → CW d 92 [(2, 4), (0, x2)] w_1 M1 n_1 (fun r1 w_2 M2 n_2 => (r1 ≠ 0 → CW d 1 [(2, 14)] w_2 M2 n_2 (fun _ w_3 M3 n_3 => CW d 2 [(2, 14), (0, x1), (0, x2), (0, m_shl 1 x1)] w_3 M3 n_3 (fun r3 w_4 M4 n_4 => Ψ r3 w_4 M4 n_4))) ∧ (¬ (r1 ≠ 0) → Ψ (-2) w_2 M2 n_2))))) : CW (d + 1) 152 [(2, 1), (0, x1), (0, x2)] w M n Ψ :=
  WPm_in g11_forces (Nat.le_of_ble_eq_true rfl) (b11_forces_0 (WPm_mono gT d _ _ _ _ _ (fun r0 h' z0 => by obtain ⟨_, M1, _, rfl, z0⟩ := z0; exact b11_forces_8 ⟨fun c1 => (WPc.kill [0, 1, 2] (b11_forces_22 (FCmk (z0.1 c1)))), fun c1 => (WPm_mono gT d _ _ _ _ _ (fun r1 h' z1 => by obtain ⟨_, M2, _, rfl, z1⟩ := z1; exact b11_forces_19 ⟨fun c2 => (WPm_mono gT d _ _ _ _ _ (fun r2 h' z2 => by obtain ⟨_, M3, _, rfl, z2⟩ := z2; exact b11_forces_32 (WPm_mono gT d _ _ _ _ _ (fun r3 h' z3 => by obtain ⟨_, M4, _, rfl, z3⟩ := z3; exact WPc.kill [0, 1, 2] (b11_forces_44 (FCmk z3))) z2)) (z1.1 c2)), fun c2 => (WPc.kill [0, 1, 2] (b11_forces_22 (FCmk (z1.2 c2))))⟩) (z0.2 c1))⟩) q))
set_option maxRecDepth 20000 in
theorem b11_power_61 {w : cQ} {d : Nat} {F : mPost} {x1 x2 x3 : Int} {M : Nat → Nat → Int} {n : Nat × Nat} (q : WPc t11_power (WPm gT d) F (25, [(2, 1), (0, x1), (0, x2), (0, w32 (x3 + 1))], [], hC w M n)) : WPc t11_power (WPm gT d) F (61, [(2, 1), (0, x1), (0, x2), (0, x3)], [], hC w M n) :=
  vcK_ok (K := [8, 21, 25, 51, 61]) 45 _ q
set_option maxRecDepth 20000 in
theorem b11_power_51 {w : cQ} {d : Nat} {F : mPost} {x1 x2 x3 s0 : Int} {M : Nat → Nat → Int} {n : Nat × Nat} (q : (s0 = (-1) → WPc t11_power (WPm gT d) F (61, [(2, 1), (0, x1), (0, x2), (0, x3)], [], hC w M n)) ∧ (¬ (s0 = (-1)) → WPc t11_power (WPm gT d) F (61, [(2, 1), (0, x1), (0, m_or x2 (m_shl 1 x3)), (0, x3)], [], hC w M n))) : WPc t11_power (WPm gT d) F (51, [(2, 1), (0, x1), (0, x2), (0, x3)], [(0, s0)], hC w M n) :=
  vcK_ok (K := [8, 21, 25, 51, 61]) 45 _ q
set_option maxRecDepth 20000 in
theorem b11_power_25 {w : cQ} {d : Nat} {F : mPost} {x1 x2 x3 : Int} {M : Nat → Nat → Int} {n : Nat × Nat} (q : ((M 29 1) ≤ x3 → F (0, x2) (hC w M n)) ∧ (¬ ((M 29 1) ≤ x3) → WPm gT d 2 [(2, 14), (0, x1), (0, x3), (0, m_shl 1 x1)] (hC w M n) (fun r h' => WPc t11_power (WPm gT d) F (51, [(2, 1), (0, x1), (0, x2), (0, x3)], [(0, r.2)], h')))) : WPc t11_power (WPm gT d) F (25, [(2, 1), (0, x1), (0, x2), (0, x3)], [], hC w M n) :=
  vcK_ok (K := [8, 21, 25, 51, 61]) 45 _ q
set_option maxRecDepth 20000 in
theorem b11_power_21 {w : cQ} {d : Nat} {F : mPost} {x1 : Int} {M : Nat → Nat → Int} {n : Nat × Nat} (q : WPc t11_power (WPm gT d) F (25, [(2, 1), (0, x1), (0, 0), (0, 0)], [], hC w M n)) : WPc t11_power (WPm gT d) F (21, [(2, 1), (0, x1), (9, 0), (9, 0)], [], hC w M n) :=
  vcK_ok (K := [8, 21, 25, 51, 61]) 45 _ q
set_option maxRecDepth 20000 in
theorem b11_power_8 {w : cQ} {d : Nat} {F : mPost} {x1 s0 : Int} {M : Nat → Nat → Int} {n : Nat × Nat} (q : (s0 ≠ 0 → WPm gT d 1 [(2, 14)] (hC w M n) (fun r h' => WPc t11_power (WPm gT d) F (21, [(2, 1), (0, x1), (9, 0), (9, 0)], [], h'))) ∧ (¬ (s0 ≠ 0) → F (0, (-2)) (hC w M n))) : WPc t11_power (WPm gT d) F (8, [(2, 1), (0, x1), (9, 0), (9, 0)], [(0, s0)], hC w M n) :=
  vcK_ok (K := [8, 21, 25, 51, 61]) 45 _ q
set_option maxRecDepth 20000 in
theorem b11_power_0 {w : cQ} {d : Nat} {F : mPost} {x1 : Int} {M : Nat → Nat → Int} {n : Nat × Nat} (q : WPm gT d 91 [(2, 4), (0, x1)] (hC w M n) (fun r h' => WPc t11_power (WPm gT d) F (8, [(2, 1), (0, x1), (9, 0), (9, 0)], [(0, r.2)], h'))) : WPc t11_power (WPm gT d) F (0, [(2, 1), (0, x1), (9, 0), (9, 0)], [], hC w M n) :=
  vcK_ok (K := [8, 21, 25, 51, 61]) 45 _ q
def W11_power_25 (d : Nat) (Ψ : Int → cQ → (Nat → Nat → Int) → Nat × Nat → Prop) (x1 x2 x3 : Int) (w : cQ) (M : Nat → Nat → Int) (n : Nat × Nat) : Prop := WPc t11_power (WPm gT d) (FC Ψ) (25, [(2, 1), (0, x1), (0, x2), (0, x3)], [], hC w M n)
set_option maxRecDepth 20000 in
theorem v11_power_25 {w : cQ} {d : Nat} {Ψ : Int → cQ → (Nat → Nat → Int) → Nat × Nat → Prop} {x1 x2 x3 : Int} {M : Nat → Nat → Int} {n : Nat × Nat} (q : ((M 29 1) ≤ x3 → Ψ x2 w M n) ∧ (¬ ((M 29 1) ≤ x3) → CW d 2 [(2, 14), (0, x1), (0, x3), (0, m_shl 1 x1)] w M n (fun r0 w_1 M1 n_1 => (r0 = (-1) → W11_power_25 d Ψ x1 x2 (w32 (x3 + 1)) w_1 M1 n_1 ) ∧ (¬ (r0 = (-1)) → W11_power_25 d Ψ x1 (m_or x2 (m_shl 1 x3)) (w32 (x3 + 1)) w_1 M1 n_1 )))) : W11_power_25 d Ψ x1 x2 x3 w M n :=
  b11_power_25 ⟨fun c1 => (FCmk (q.1 c1)), fun c1 => (WPm_mono gT d _ _ _ _ _ (fun r0 h' z0 => by obtain ⟨_, M1, _, rfl, z0⟩ := z0; exact b11_power_51 ⟨fun c2 => (b11_power_61 (z0.1 c2)), fun c2 => (b11_power_61 (z0.2 c2))⟩) (q.2 c1))⟩
set_option maxRecDepth 20000 in
theorem e11_power {w : cQ} {d : Nat} {Ψ : Int → cQ → (Nat → Nat → Int) → Nat × Nat → Prop} {x1 : Int} {M : Nat → Nat → Int} {n : Nat × Nat} (q : CW d 91 [(2, 4), (0, x1)] w M n (fun r0 w_1 M1 n_1 => (r0 ≠ 0 → CW d 1 [(2, 14)] w_1 M1 n_1 (fun _ w_2 M2 n_2 => W11_power_25 d Ψ x1 0 0 w_2 M2 n_2 )) ∧ (¬ (r0 ≠ 0) → Ψ (-2) w_1 M1 n_1))) : CW (d + 1) 153 [(2, 1), (0, x1)] w M n Ψ :=
  WPm_in g11_power (Nat.le_of_ble_eq_true rfl) (b11_power_0 (WPm_mono gT d _ _ _ _ _ (fun r0 h' z0 => by obtain ⟨_, M1, _, rfl, z0⟩ := z0; exact b11_power_8 ⟨fun c3 => (WPm_mono gT d _ _ _ _ _ (fun r1 h' z1 => by obtain ⟨_, M2, _, rfl, z1⟩ := z1; exact b11_power_21 z1) (z0.1 c3)), fun c3 => (FCmk (z0.2 c3))⟩) q))
set_option maxRecDepth 20000 in
theorem b11_best_58 {w : cQ} {d : Nat} {F : mPost} {s0 : Int} {M : Nat → Nat → Int} {n : Nat × Nat} (q : F (0, s0) (hC w M n)) : WPc t11_best (WPm gT d) F (58, [(9, 0), (9, 0), (9, 0)], [(0, s0)], hC w M n) :=
  vcK_ok (K := [8, 19, 22, 49, 58]) 34 _ q
set_option maxRecDepth 20000 in
theorem b11_best_49 {w : cQ} {d : Nat} {F : mPost} {x1 x2 : Int} {M : Nat → Nat → Int} {n : Nat × Nat} (q : WPm gT d 5 [(2, 14), (0, x1), (0, x2)] (hC w M n) (fun r h' => WPc t11_best (WPm gT d) F (58, [(2, 1), (0, x1), (0, x2)], [(0, r.2)], h'))) : WPc t11_best (WPm gT d) F (49, [(2, 1), (0, x1), (0, x2)], [], hC w M n) :=
  vcK_ok (K := [8, 19, 22, 49, 58]) 34 _ q
set_option maxRecDepth 20000 in
theorem b11_best_22 {w : cQ} {d : Nat} {F : mPost} {M : Nat → Nat → Int} {n : Nat × Nat} (q : F (0, (-2)) (hC w M n)) : WPc t11_best (WPm gT d) F (22, [(9, 0), (9, 0), (9, 0)], [], hC w M n) :=
  vcK_ok (K := [8, 19, 22, 49, 58]) 34 _ q
set_option maxRecDepth 20000 in
theorem b11_best_19 {w : cQ} {d : Nat} {F : mPost} {x1 x2 s0 : Int} {M : Nat → Nat → Int} {n : Nat × Nat} (q : (s0 ≠ 0 → ((M 38 4) = x1 → WPm gT d 1 [(2, 14)] (hC w M n) (fun r h' => WPc t11_best (WPm gT d) F (49, [(2, 1), (0, x1), (0, x2)], [], h'))) ∧ (¬ ((M 38 4) = x1) → F (0, (-5)) (hC w M n))) ∧ (¬ (s0 ≠ 0) → WPc t11_best (WPm gT d) F (22, [(2, 1), (0, x1), (0, x2)], [], hC w M n))) : WPc t11_best (WPm gT d) F (19, [(2, 1), (0, x1), (0, x2)], [(0, s0)], hC w M n) :=
  vcK_ok (K := [8, 19, 22, 49, 58]) 34 _ q
set_option maxRecDepth 20000 in
theorem b11_best_8 {w : cQ} {d : Nat} {F : mPost} {x1 x2 s0 : Int} {M : Nat → Nat → Int} {n : Nat × Nat} (q : (s0 = 0 → WPc t11_best (WPm gT d) F (22, [(2, 1), (0, x1), (0, x2)], [], hC w M n)) ∧ (¬ (s0 = 0) → WPm gT d 92 [(2, 4), (0, x2)] (hC w M n) (fun r h' => WPc t11_best (WPm gT d) F (19, [(2, 1), (0, x1), (0, x2)], [(0, r.2)], h')))) : WPc t11_best (WPm gT d) F (8, [(2, 1), (0, x1), (0, x2)], [(0, s0)], hC w M n) :=
  vcK_ok (K := [8, 19, 22, 49, 58]) 34 _ q
set_option maxRecDepth 20000 in
theorem b11_best_0 {w : cQ} {d : Nat} {F : mPost} {x1 x2 : Int} {M : Nat → Nat → Int} {n : Nat × Nat} (q : WPm gT d 91 [(2, 4), (0, x1)] (hC w M n) (fun r h' => WPc t11_best (WPm gT d) F (8, [(2, 1), (0, x1), (0, x2)], [(0, r.2)], h'))) : WPc t11_best (WPm gT d) F (0, [(2, 1), (0, x1), (0, x2)], [], hC w M n) :=
  vcK_ok (K := [8, 19, 22, 49, 58]) 34 _ q
set_option maxRecDepth 20000 in
theorem e11_best {w : cQ} {d : Nat} {Ψ : Int → cQ → (Nat → Nat → Int) → Nat × Nat → Prop} {x1 x2 : Int} {M : Nat → Nat → Int} {n : Nat × Nat} (q : CW d 91 [(2, 4), (0, x1)] w M n (fun r0 w_1 M1 n_1 => (r0 = 0 → Ψ (-2) w_1 M1 n_1) ∧ (¬ (r0 = 0) → CW d 92 [(2, 4), (0, x2)] w_1 M1 n_1 (fun r1 w_2 M2 n_2 => (r1 ≠ 0 → ((M2 38 4) = x1 → CW d 1 [(2, 14)] w_2 M2 n_2 (fun _ w_3 M3 n_3 => CW d 5 [(2, 14), (0, x1), (0, x2)] w_3 M3 n_3 (fun r3 w_4 M4 n_4 => Ψ r3 w_4 M4 n_4))) ∧ (¬ ((M2 38 4) = x1) → Ψ (-5) w_2 M2 n_2)) ∧ (¬ (r1 ≠ 0) → Ψ (-2) w_2 M2 n_2))))) : CW (d + 1) 154 [(2, 1), (0, x1), (0, x2)] w M n Ψ :=
  WPm_in g11_best (Nat.le_of_ble_eq_true rfl) (b11_best_0 (WPm_mono gT d _ _ _ _ _ (fun r0 h' z0 => by obtain ⟨_, M1, _, rfl, z0⟩ := z0; exact b11_best_8 ⟨fun c1 => (WPc.kill [0, 1, 2] (b11_best_22 (FCmk (z0.1 c1)))), fun c1 => (WPm_mono gT d _ _ _ _ _ (fun r1 h' z1 => by obtain ⟨_, M2, _, rfl, z1⟩ := z1; exact b11_best_19 ⟨fun c2 => ⟨fun c3 => (WPm_mono gT d _ _ _ _ _ (fun r2 h' z2 => by obtain ⟨_, M3, _, rfl, z2⟩ := z2; exact b11_best_49 (WPm_mono gT d _ _ _ _ _ (fun r3 h' z3 => by obtain ⟨_, M4, _, rfl, z3⟩ := z3; exact WPc.kill [0, 1, 2] (b11_best_58 (FCmk z3))) z2)) ((z1.1 c2).1 c3)), fun c3 => (FCmk ((z1.1 c2).2 c3))⟩, fun c2 => (WPc.kill [0, 1, 2] (b11_best_22 (FCmk (z1.2 c2))))⟩) (z0.2 c1))⟩) q))
set_option maxRecDepth 20000 in
theorem b11_ally_93 {w : cQ} {d : Nat} {F : mPost} {x1 x2 x3 : Int} {M : Nat → Nat → Int} {n : Nat × Nat} (q : WPc t11_ally (WPm gT d) F (52, [(2, 1), (0, x1), (0, x2), (0, w32 (x3 + 1))], [], hC w M n)) : WPc t11_ally (WPm gT d) F (93, [(2, 1), (0, x1), (0, x2), (0, x3)], [], hC w M n) :=
  vcK_ok (K := [8, 19, 22, 32, 44, 52, 87, 93]) 63 _ q
set_option maxRecDepth 20000 in
theorem b11_ally_87 {w : cQ} {d : Nat} {F : mPost} {x1 x2 x3 s0 : Int} {M : Nat → Nat → Int} {n : Nat × Nat} (q : (s0 = (-1) → WPc t11_ally (WPm gT d) F (93, [(2, 1), (0, x1), (0, x2), (0, x3)], [], hC w M n)) ∧ (¬ (s0 = (-1)) → F (0, x3) (hC w M n))) : WPc t11_ally (WPm gT d) F (87, [(2, 1), (0, x1), (0, x2), (0, x3)], [(0, s0)], hC w M n) :=
  vcK_ok (K := [8, 19, 22, 32, 44, 52, 87, 93]) 63 _ q
set_option maxRecDepth 20000 in
theorem b11_ally_52 {w : cQ} {d : Nat} {F : mPost} {x1 x2 x3 : Int} {M : Nat → Nat → Int} {n : Nat × Nat} (q : ((M 29 0) ≤ x3 → F (0, (-1)) (hC w M n)) ∧ (¬ ((M 29 0) ≤ x3) → (x3 = x1 → WPc t11_ally (WPm gT d) F (93, [(2, 1), (0, x1), (0, x2), (0, x3)], [], hC w M n)) ∧ (¬ (x3 = x1) → WPm gT d 2 [(2, 14), (0, x1), (0, x2), (0, m_or (m_shl 1 x1) (m_shl 1 x3))] (hC w M n) (fun r h' => WPc t11_ally (WPm gT d) F (87, [(2, 1), (0, x1), (0, x2), (0, x3)], [(0, r.2)], h'))))) : WPc t11_ally (WPm gT d) F (52, [(2, 1), (0, x1), (0, x2), (0, x3)], [], hC w M n) :=
  vcK_ok (K := [8, 19, 22, 32, 44, 52, 87, 93]) 63 _ q
set_option maxRecDepth 20000 in
theorem b11_ally_44 {w : cQ} {d : Nat} {F : mPost} {x1 x2 s0 : Int} {M : Nat → Nat → Int} {n : Nat × Nat} (q : (s0 = (-1) → WPc t11_ally (WPm gT d) F (52, [(2, 1), (0, x1), (0, x2), (0, 0)], [], hC w M n)) ∧ (¬ (s0 = (-1)) → F (0, (-1)) (hC w M n))) : WPc t11_ally (WPm gT d) F (44, [(2, 1), (0, x1), (0, x2), (9, 0)], [(0, s0)], hC w M n) :=
  vcK_ok (K := [8, 19, 22, 32, 44, 52, 87, 93]) 63 _ q
set_option maxRecDepth 20000 in
theorem b11_ally_32 {w : cQ} {d : Nat} {F : mPost} {x1 x2 : Int} {M : Nat → Nat → Int} {n : Nat × Nat} (q : WPm gT d 2 [(2, 14), (0, x1), (0, x2), (0, m_shl 1 x1)] (hC w M n) (fun r h' => WPc t11_ally (WPm gT d) F (44, [(2, 1), (0, x1), (0, x2), (9, 0)], [(0, r.2)], h'))) : WPc t11_ally (WPm gT d) F (32, [(2, 1), (0, x1), (0, x2), (9, 0)], [], hC w M n) :=
  vcK_ok (K := [8, 19, 22, 32, 44, 52, 87, 93]) 63 _ q
set_option maxRecDepth 20000 in
theorem b11_ally_22 {w : cQ} {d : Nat} {F : mPost} {M : Nat → Nat → Int} {n : Nat × Nat} (q : F (0, (-2)) (hC w M n)) : WPc t11_ally (WPm gT d) F (22, [(9, 0), (9, 0), (9, 0), (9, 0)], [], hC w M n) :=
  vcK_ok (K := [8, 19, 22, 32, 44, 52, 87, 93]) 63 _ q
set_option maxRecDepth 20000 in
theorem b11_ally_19 {w : cQ} {d : Nat} {F : mPost} {x1 x2 s0 : Int} {M : Nat → Nat → Int} {n : Nat × Nat} (q : (s0 ≠ 0 → WPm gT d 1 [(2, 14)] (hC w M n) (fun r h' => WPc t11_ally (WPm gT d) F (32, [(2, 1), (0, x1), (0, x2), (9, 0)], [], h'))) ∧ (¬ (s0 ≠ 0) → WPc t11_ally (WPm gT d) F (22, [(2, 1), (0, x1), (0, x2), (9, 0)], [], hC w M n))) : WPc t11_ally (WPm gT d) F (19, [(2, 1), (0, x1), (0, x2), (9, 0)], [(0, s0)], hC w M n) :=
  vcK_ok (K := [8, 19, 22, 32, 44, 52, 87, 93]) 63 _ q
set_option maxRecDepth 20000 in
theorem b11_ally_8 {w : cQ} {d : Nat} {F : mPost} {x1 x2 s0 : Int} {M : Nat → Nat → Int} {n : Nat × Nat} (q : (s0 = 0 → WPc t11_ally (WPm gT d) F (22, [(2, 1), (0, x1), (0, x2), (9, 0)], [], hC w M n)) ∧ (¬ (s0 = 0) → WPm gT d 92 [(2, 4), (0, x2)] (hC w M n) (fun r h' => WPc t11_ally (WPm gT d) F (19, [(2, 1), (0, x1), (0, x2), (9, 0)], [(0, r.2)], h')))) : WPc t11_ally (WPm gT d) F (8, [(2, 1), (0, x1), (0, x2), (9, 0)], [(0, s0)], hC w M n) :=
  vcK_ok (K := [8, 19, 22, 32, 44, 52, 87, 93]) 63 _ q
set_option maxRecDepth 20000 in
theorem b11_ally_0 {w : cQ} {d : Nat} {F : mPost} {x1 x2 : Int} {M : Nat → Nat → Int} {n : Nat × Nat} (q : WPm gT d 91 [(2, 4), (0, x1)] (hC w M n) (fun r h' => WPc t11_ally (WPm gT d) F (8, [(2, 1), (0, x1), (0, x2), (9, 0)], [(0, r.2)], h'))) : WPc t11_ally (WPm gT d) F (0, [(2, 1), (0, x1), (0, x2), (9, 0)], [], hC w M n) :=
  vcK_ok (K := [8, 19, 22, 32, 44, 52, 87, 93]) 63 _ q
def W11_ally_52 (d : Nat) (Ψ : Int → cQ → (Nat → Nat → Int) → Nat × Nat → Prop) (x1 x2 x3 : Int) (w : cQ) (M : Nat → Nat → Int) (n : Nat × Nat) : Prop := WPc t11_ally (WPm gT d) (FC Ψ) (52, [(2, 1), (0, x1), (0, x2), (0, x3)], [], hC w M n)
set_option maxRecDepth 20000 in
theorem v11_ally_52 {w : cQ} {d : Nat} {Ψ : Int → cQ → (Nat → Nat → Int) → Nat × Nat → Prop} {x1 x2 x3 : Int} {M : Nat → Nat → Int} {n : Nat × Nat} (q : ((M 29 0) ≤ x3 → Ψ (-1) w M n) ∧ (¬ ((M 29 0) ≤ x3) → (x3 = x1 → W11_ally_52 d Ψ x1 x2 (w32 (x3 + 1)) w M n ) ∧ (¬ (x3 = x1) → CW d 2 [(2, 14), (0, x1), (0, x2), (0, m_or (m_shl 1 x1) (m_shl 1 x3))] w M n (fun r0 w_1 M1 n_1 => (r0 = (-1) → W11_ally_52 d Ψ x1 x2 (w32 (x3 + 1)) w_1 M1 n_1 ) ∧ (¬ (r0 = (-1)) → Ψ x3 w_1 M1 n_1))))) : W11_ally_52 d Ψ x1 x2 x3 w M n :=
  b11_ally_52 ⟨fun c1 => (FCmk (q.1 c1)), fun c1 => ⟨fun c2 => (b11_ally_93 ((q.2 c1).1 c2)), fun c2 => (WPm_mono gT d _ _ _ _ _ (fun r0 h' z0 => by obtain ⟨_, M1, _, rfl, z0⟩ := z0; exact b11_ally_87 ⟨fun c3 => (b11_ally_93 (z0.1 c3)), fun c3 => (FCmk (z0.2 c3))⟩) ((q.2 c1).2 c2))⟩⟩
set_option maxRecDepth 20000 in
theorem e11_ally {w : cQ} {d : Nat} {Ψ : Int → cQ → (Nat → Nat → Int) → Nat × Nat → Prop} {x1 x2 : Int} {M : Nat → Nat → Int} {n : Nat × Nat} (q : CW d 91 [(2, 4), (0, x1)] w M n (fun r0 w_1 M1 n_1 => (r0 = 0 → Ψ (-2) w_1 M1 n_1) ∧ (¬ (r0 = 0) → CW d 92 [(2, 4), (0, x2)] w_1 M1 n_1 (fun r1 w_2 M2 n_2 => (r1 ≠ 0 → CW d 1 [(2, 14)] w_2 M2 n_2 (fun _ w_3 M3 n_3 => CW d 2 [(2, 14), (0, x1), (0, x2), (0, m_shl 1 x1)] w_3 M3 n_3 (fun r3 w_4 M4 n_4 => (r3 = (-1) → W11_ally_52 d Ψ x1 x2 0 w_4 M4 n_4 ) ∧ (¬ (r3 = (-1)) → Ψ (-1) w_4 M4 n_4)))) ∧ (¬ (r1 ≠ 0) → Ψ (-2) w_2 M2 n_2))))) : CW (d + 1) 155 [(2, 1), (0, x1), (0, x2)] w M n Ψ :=
  WPm_in g11_ally (Nat.le_of_ble_eq_true rfl) (b11_ally_0 (WPm_mono gT d _ _ _ _ _ (fun r0 h' z0 => by obtain ⟨_, M1, _, rfl, z0⟩ := z0; exact b11_ally_8 ⟨fun c4 => (WPc.kill [0, 1, 2] (b11_ally_22 (FCmk (z0.1 c4)))), fun c4 => (WPm_mono gT d _ _ _ _ _ (fun r1 h' z1 => by obtain ⟨_, M2, _, rfl, z1⟩ := z1; exact b11_ally_19 ⟨fun c5 => (WPm_mono gT d _ _ _ _ _ (fun r2 h' z2 => by obtain ⟨_, M3, _, rfl, z2⟩ := z2; exact b11_ally_32 (WPm_mono gT d _ _ _ _ _ (fun r3 h' z3 => by obtain ⟨_, M4, _, rfl, z3⟩ := z3; exact b11_ally_44 ⟨fun c6 => (z3.1 c6), fun c6 => (FCmk (z3.2 c6))⟩) z2)) (z1.1 c5)), fun c5 => (WPc.kill [0, 1, 2] (b11_ally_22 (FCmk (z1.2 c5))))⟩) (z0.2 c4))⟩) q))
set_option maxRecDepth 20000 in
theorem b11_tales_7 {w : cQ} {d : Nat} {F : mPost} {s0 : Int} {M : Nat → Nat → Int} {n : Nat × Nat} (q : F (0, s0) (hC w M n)) : WPc t11_tales (WPm gT d) F (7, [(9, 0)], [(0, s0)], hC w M n) :=
  vcK_ok (K := [7]) 9 _ q
set_option maxRecDepth 20000 in
theorem b11_tales_0 {w : cQ} {d : Nat} {F : mPost} {M : Nat → Nat → Int} {n : Nat × Nat} (q : WPm gT d 115 [(2, 4)] (hC w M n) (fun r h' => WPc t11_tales (WPm gT d) F (7, [(2, 1)], [(0, r.2)], h'))) : WPc t11_tales (WPm gT d) F (0, [(2, 1)], [], hC w M n) :=
  vcK_ok (K := [7]) 9 _ q
set_option maxRecDepth 20000 in
theorem e11_tales {w : cQ} {d : Nat} {Ψ : Int → cQ → (Nat → Nat → Int) → Nat × Nat → Prop} {M : Nat → Nat → Int} {n : Nat × Nat} (q : CW d 115 [(2, 4)] w M n (fun r0 w_1 M1 n_1 => Ψ r0 w_1 M1 n_1)) : CW (d + 1) 156 [(2, 1)] w M n Ψ :=
  WPm_in g11_tales (Nat.le_of_ble_eq_true rfl) (b11_tales_0 (WPm_mono gT d _ _ _ _ _ (fun r0 h' z0 => by obtain ⟨_, M1, _, rfl, z0⟩ := z0; exact WPc.kill [0] (b11_tales_7 (FCmk z0))) q))
set_option maxRecDepth 20000 in
theorem b11_joins_23 {w : cQ} {d : Nat} {F : mPost} {s0 : Int} {M : Nat → Nat → Int} {n : Nat × Nat} (q : F (0, s0) (hC w M n)) : WPc t11_joins (WPm gT d) F (23, [(9, 0), (9, 0), (9, 0)], [(0, s0)], hC w M n) :=
  vcK_ok (K := [6, 18, 23]) 18 _ q
set_option maxRecDepth 20000 in
theorem b11_joins_18 {w : cQ} {d : Nat} {F : mPost} {s0 : Int} {M : Nat → Nat → Int} {n : Nat × Nat} (q : WPc t11_joins (WPm gT d) F (23, [(9, 0), (9, 0), (9, 0)], [(0, s0)], hC w M n)) : WPc t11_joins (WPm gT d) F (18, [(9, 0), (9, 0), (9, 0)], [(0, s0)], hC w M n) :=
  vcK_ok (K := [6, 18, 23]) 18 _ q
set_option maxRecDepth 20000 in
theorem b11_joins_6 {w : cQ} {d : Nat} {F : mPost} {x1 x2 s0 : Int} {M : Nat → Nat → Int} {n : Nat × Nat} (q : (s0 = 0 → WPc t11_joins (WPm gT d) F (23, [(2, 1), (0, x1), (0, x2)], [(0, (-2))], hC w M n)) ∧ (¬ (s0 = 0) → WPm gT d 85 [(2, 13), (0, x1), (0, x2)] (hC w M n) (fun r h' => WPc t11_joins (WPm gT d) F (18, [(2, 1), (0, x1), (0, x2)], [(0, r.2)], h')))) : WPc t11_joins (WPm gT d) F (6, [(2, 1), (0, x1), (0, x2)], [(0, s0)], hC w M n) :=
  vcK_ok (K := [6, 18, 23]) 18 _ q
set_option maxRecDepth 20000 in
theorem b11_joins_0 {w : cQ} {d : Nat} {F : mPost} {x1 x2 : Int} {M : Nat → Nat → Int} {n : Nat × Nat} (q : WPm gT d 179 [(2, 1), (0, x1), (0, x2)] (hC w M n) (fun r h' => WPc t11_joins (WPm gT d) F (6, [(2, 1), (0, x1), (0, x2)], [(0, r.2)], h'))) : WPc t11_joins (WPm gT d) F (0, [(2, 1), (0, x1), (0, x2)], [], hC w M n) :=
  vcK_ok (K := [6, 18, 23]) 18 _ q
set_option maxRecDepth 20000 in
theorem e11_joins {w : cQ} {d : Nat} {Ψ : Int → cQ → (Nat → Nat → Int) → Nat × Nat → Prop} {x1 x2 : Int} {M : Nat → Nat → Int} {n : Nat × Nat} (q : CW d 179 [(2, 1), (0, x1), (0, x2)] w M n (fun r0 w_1 M1 n_1 => (r0 = 0 → Ψ (-2) w_1 M1 n_1) ∧ (¬ (r0 = 0) → CW d 85 [(2, 13), (0, x1), (0, x2)] w_1 M1 n_1 (fun r1 w_2 M2 n_2 => Ψ r1 w_2 M2 n_2)))) : CW (d + 1) 157 [(2, 1), (0, x1), (0, x2)] w M n Ψ :=
  WPm_in g11_joins (Nat.le_of_ble_eq_true rfl) (b11_joins_0 (WPm_mono gT d _ _ _ _ _ (fun r0 h' z0 => by obtain ⟨_, M1, _, rfl, z0⟩ := z0; exact b11_joins_6 ⟨fun c1 => (WPc.kill [0, 1, 2] (b11_joins_23 (FCmk (z0.1 c1)))), fun c1 => (WPm_mono gT d _ _ _ _ _ (fun r1 h' z1 => by obtain ⟨_, M2, _, rfl, z1⟩ := z1; exact WPc.kill [0, 1, 2] (b11_joins_18 (WPc.kill [0, 1, 2] (b11_joins_23 (FCmk z1))))) (z0.2 c1))⟩) q))
set_option maxRecDepth 20000 in
theorem b11_joinBy_47 {w : cQ} {d : Nat} {F : mPost} {s0 : Int} {M : Nat → Nat → Int} {n : Nat × Nat} (q : F (0, s0) (hC w M n)) : WPc t11_joinBy (WPm gT d) F (47, [(9, 0), (9, 0), (9, 0), (9, 0)], [(0, s0)], hC w M n) :=
  vcK_ok (K := [6, 29, 43, 47]) 31 _ q
set_option maxRecDepth 20000 in
theorem b11_joinBy_43 {w : cQ} {d : Nat} {F : mPost} {s0 : Int} {M : Nat → Nat → Int} {n : Nat × Nat} (q : WPc t11_joinBy (WPm gT d) F (47, [(9, 0), (9, 0), (9, 0), (9, 0)], [(0, s0)], hC w M n)) : WPc t11_joinBy (WPm gT d) F (43, [(9, 0), (9, 0), (9, 0), (9, 0)], [(0, s0)], hC w M n) :=
  vcK_ok (K := [6, 29, 43, 47]) 31 _ q
set_option maxRecDepth 20000 in
theorem b11_joinBy_29 {w : cQ} {d : Nat} {F : mPost} {x3 s0 s1 : Int} {M : Nat → Nat → Int} {n : Nat × Nat} (q : (s1 ≤ s0 → WPc t11_joinBy (WPm gT d) F (47, [(2, 1), (9, 0), (9, 0), (0, x3)], [(0, (-1))], hC w M n)) ∧ (¬ (s1 ≤ s0) → WPm gT d 68 [(2, 93), (0, x3)] (hC w M n) (fun r h' => WPc t11_joinBy (WPm gT d) F (43, [(2, 1), (9, 0), (9, 0), (0, x3)], [(0, r.2)], h')))) : WPc t11_joinBy (WPm gT d) F (29, [(2, 1), (9, 0), (9, 0), (0, x3)], [(0, s1), (0, s0)], hC w M n) :=
  vcK_ok (K := [6, 29, 43, 47]) 31 _ q
set_option maxRecDepth 20000 in
theorem b11_joinBy_6 {w : cQ} {d : Nat} {F : mPost} {x1 x2 x3 s0 : Int} {M : Nat → Nat → Int} {n : Nat × Nat} (q : (s0 ≠ 0 → (0 ≤ x3 → WPm gT d 85 [(2, 13), (0, x1), (0, x2)] (hC w M n) (fun r h' => WPc t11_joinBy (WPm gT d) F (29, [(2, 1), (0, x1), (0, x2), (0, x3)], [(0, r.2), (0, x3)], h'))) ∧ (¬ (0 ≤ x3) → F (0, (-3)) (hC w M n))) ∧ (¬ (s0 ≠ 0) → F (0, (-2)) (hC w M n))) : WPc t11_joinBy (WPm gT d) F (6, [(2, 1), (0, x1), (0, x2), (0, x3)], [(0, s0)], hC w M n) :=
  vcK_ok (K := [6, 29, 43, 47]) 31 _ q
set_option maxRecDepth 20000 in
theorem b11_joinBy_0 {w : cQ} {d : Nat} {F : mPost} {x1 x2 x3 : Int} {M : Nat → Nat → Int} {n : Nat × Nat} (q : WPm gT d 179 [(2, 1), (0, x1), (0, x2)] (hC w M n) (fun r h' => WPc t11_joinBy (WPm gT d) F (6, [(2, 1), (0, x1), (0, x2), (0, x3)], [(0, r.2)], h'))) : WPc t11_joinBy (WPm gT d) F (0, [(2, 1), (0, x1), (0, x2), (0, x3)], [], hC w M n) :=
  vcK_ok (K := [6, 29, 43, 47]) 31 _ q
set_option maxRecDepth 20000 in
theorem e11_joinBy {w : cQ} {d : Nat} {Ψ : Int → cQ → (Nat → Nat → Int) → Nat × Nat → Prop} {x1 x2 x3 : Int} {M : Nat → Nat → Int} {n : Nat × Nat} (q : CW d 179 [(2, 1), (0, x1), (0, x2)] w M n (fun r0 w_1 M1 n_1 => (r0 ≠ 0 → (0 ≤ x3 → CW d 85 [(2, 13), (0, x1), (0, x2)] w_1 M1 n_1 (fun r1 w_2 M2 n_2 => (r1 ≤ x3 → Ψ (-1) w_2 M2 n_2) ∧ (¬ (r1 ≤ x3) → CW d 68 [(2, 93), (0, x3)] w_2 M2 n_2 (fun r2 w_3 M3 n_3 => Ψ r2 w_3 M3 n_3)))) ∧ (¬ (0 ≤ x3) → Ψ (-3) w_1 M1 n_1)) ∧ (¬ (r0 ≠ 0) → Ψ (-2) w_1 M1 n_1))) : CW (d + 1) 158 [(2, 1), (0, x1), (0, x2), (0, x3)] w M n Ψ :=
  WPm_in g11_joinBy (Nat.le_of_ble_eq_true rfl) (b11_joinBy_0 (WPm_mono gT d _ _ _ _ _ (fun r0 h' z0 => by obtain ⟨_, M1, _, rfl, z0⟩ := z0; exact b11_joinBy_6 ⟨fun c1 => ⟨fun c2 => (WPm_mono gT d _ _ _ _ _ (fun r1 h' z1 => by obtain ⟨_, M2, _, rfl, z1⟩ := z1; exact WPc.kill [1, 2] (b11_joinBy_29 ⟨fun c3 => (WPc.kill [0, 1, 2, 3] (b11_joinBy_47 (FCmk (z1.1 c3)))), fun c3 => (WPm_mono gT d _ _ _ _ _ (fun r2 h' z2 => by obtain ⟨_, M3, _, rfl, z2⟩ := z2; exact WPc.kill [0, 1, 2, 3] (b11_joinBy_43 (WPc.kill [0, 1, 2, 3] (b11_joinBy_47 (FCmk z2))))) (z1.2 c3))⟩)) ((z0.1 c1).1 c2)), fun c2 => (FCmk ((z0.1 c1).2 c2))⟩, fun c1 => (FCmk (z0.2 c1))⟩) q))
set_option maxRecDepth 20000 in
theorem b11_rows_24 {w : cQ} {d : Nat} {F : mPost} {s0 : Int} {M : Nat → Nat → Int} {n : Nat × Nat} (q : F (1, s0) (hC w M n)) : WPc t11_rows (WPm gT d) F (24, [(9, 0), (9, 0), (9, 0), (9, 0)], [(1, s0)], hC w M n) :=
  vcK_ok (K := [6, 24]) 20 _ q
set_option maxRecDepth 20000 in
theorem b11_rows_6 {w : cQ} {d : Nat} {F : mPost} {x2 s0 : Int} {M : Nat → Nat → Int} {n : Nat × Nat} (q : (s0 = 0 → WPm gT d 53 [(2, 15), (0, x2)] (hC w M n) (fun r h' => WPc t11_rows (WPm gT d) F (24, [(2, 1), (9, 0), (0, x2), (0, s0)], [(1, r.2)], h'))) ∧ (¬ (s0 = 0) → WPc t11_rows (WPm gT d) F (24, [(2, 1), (9, 0), (0, x2), (0, s0)], [(1, s0)], hC w M n))) : WPc t11_rows (WPm gT d) F (6, [(2, 1), (9, 0), (0, x2), (9, 0)], [(0, s0)], hC w M n) :=
  vcK_ok (K := [6, 24]) 20 _ q
set_option maxRecDepth 20000 in
theorem b11_rows_0 {w : cQ} {d : Nat} {F : mPost} {x1 x2 : Int} {M : Nat → Nat → Int} {n : Nat × Nat} (q : WPm gT d 161 [(2, 1), (0, x1), (0, x2)] (hC w M n) (fun r h' => WPc t11_rows (WPm gT d) F (6, [(2, 1), (0, x1), (0, x2), (9, 0)], [(0, r.2)], h'))) : WPc t11_rows (WPm gT d) F (0, [(2, 1), (0, x1), (0, x2), (9, 0)], [], hC w M n) :=
  vcK_ok (K := [6, 24]) 20 _ q
set_option maxRecDepth 20000 in
theorem e11_rows {w : cQ} {d : Nat} {Ψ : Int → cQ → (Nat → Nat → Int) → Nat × Nat → Prop} {x1 x2 : Int} {M : Nat → Nat → Int} {n : Nat × Nat} (q : CW d 161 [(2, 1), (0, x1), (0, x2)] w M n (fun r0 w_1 M1 n_1 => (r0 = 0 → CW d 53 [(2, 15), (0, x2)] w_1 M1 n_1 (fun r1 w_2 M2 n_2 => Ψ r1 w_2 M2 n_2)) ∧ (¬ (r0 = 0) → Ψ r0 w_1 M1 n_1))) : CW (d + 1) 159 [(2, 1), (0, x1), (0, x2)] w M n Ψ :=
  WPm_in g11_rows (Nat.le_of_ble_eq_true rfl) (b11_rows_0 (WPm_mono gT d _ _ _ _ _ (fun r0 h' z0 => by obtain ⟨_, M1, _, rfl, z0⟩ := z0; exact WPc.kill [1] (b11_rows_6 ⟨fun c1 => (WPm_mono gT d _ _ _ _ _ (fun r1 h' z1 => by obtain ⟨_, M2, _, rfl, z1⟩ := z1; exact WPc.kill [0, 1, 2, 3] (b11_rows_24 (FCmk z1))) (z0.1 c1)), fun c1 => (WPc.kill [0, 1, 2, 3] (b11_rows_24 (FCmk (z0.2 c1))))⟩)) q))
set_option maxRecDepth 20000 in
theorem b11_sureBit_59 {w : cQ} {d : Nat} {F : mPost} {s0 : Int} {M : Nat → Nat → Int} {n : Nat × Nat} (q : F (0, s0) (hC w M n)) : WPc t11_sureBit (WPm gT d) F (59, [(9, 0), (9, 0), (9, 0), (9, 0), (9, 0), (9, 0)], [(0, s0)], hC w M n) :=
  vcK_ok (K := [6, 24, 39, 46, 55, 59]) 36 _ q
set_option maxRecDepth 20000 in
theorem b11_sureBit_55 {w : cQ} {d : Nat} {F : mPost} {s0 : Int} {M : Nat → Nat → Int} {n : Nat × Nat} (q : WPc t11_sureBit (WPm gT d) F (59, [(9, 0), (9, 0), (9, 0), (9, 0), (9, 0), (9, 0)], [(0, s0)], hC w M n)) : WPc t11_sureBit (WPm gT d) F (55, [(9, 0), (9, 0), (9, 0), (9, 0), (9, 0), (9, 0)], [(0, s0)], hC w M n) :=
  vcK_ok (K := [6, 24, 39, 46, 55, 59]) 36 _ q
set_option maxRecDepth 20000 in
theorem b11_sureBit_46 {w : cQ} {d : Nat} {F : mPost} {x5 s0 : Int} {M : Nat → Nat → Int} {n : Nat × Nat} (q : (s0 ≠ 1 → WPc t11_sureBit (WPm gT d) F (59, [(9, 0), (9, 0), (9, 0), (9, 0), (9, 0), (0, x5)], [(0, (-1))], hC w M n)) ∧ (¬ (s0 ≠ 1) → WPm gT d 317 [(0, x5)] (hC w M n) (fun r h' => WPc t11_sureBit (WPm gT d) F (55, [(9, 0), (9, 0), (9, 0), (9, 0), (9, 0), (0, x5)], [(0, r.2)], h')))) : WPc t11_sureBit (WPm gT d) F (46, [(9, 0), (9, 0), (9, 0), (9, 0), (9, 0), (0, x5)], [(0, s0)], hC w M n) :=
  vcK_ok (K := [6, 24, 39, 46, 55, 59]) 36 _ q
set_option maxRecDepth 20000 in
theorem b11_sureBit_39 {w : cQ} {d : Nat} {F : mPost} {s0 : Int} {M : Nat → Nat → Int} {n : Nat × Nat} (q : WPm gT d 318 [(0, s0)] (hC w M n) (fun r h' => WPc t11_sureBit (WPm gT d) F (46, [(9, 0), (9, 0), (9, 0), (9, 0), (9, 0), (0, s0)], [(0, r.2)], h'))) : WPc t11_sureBit (WPm gT d) F (39, [(9, 0), (9, 0), (9, 0), (9, 0), (9, 0), (9, 0)], [(0, s0)], hC w M n) :=
  vcK_ok (K := [6, 24, 39, 46, 55, 59]) 36 _ q
set_option maxRecDepth 20000 in
theorem b11_sureBit_24 {w : cQ} {d : Nat} {F : mPost} {x2 x3 s0 : Int} {M : Nat → Nat → Int} {n : Nat × Nat} (q : (s0 ≠ 0 → WPm gT d 56 [(2, 15), (0, x2), (0, x3)] (hC w M n) (fun r h' => WPc t11_sureBit (WPm gT d) F (39, [(2, 1), (9, 0), (0, x2), (0, x3), (9, 0), (9, 0)], [(0, r.2)], h'))) ∧ (¬ (s0 ≠ 0) → F (0, (-7)) (hC w M n))) : WPc t11_sureBit (WPm gT d) F (24, [(2, 1), (9, 0), (0, x2), (0, x3), (9, 0), (9, 0)], [(0, s0)], hC w M n) :=
  vcK_ok (K := [6, 24, 39, 46, 55, 59]) 36 _ q
set_option maxRecDepth 20000 in
theorem b11_sureBit_6 {w : cQ} {d : Nat} {F : mPost} {x2 x3 s0 : Int} {M : Nat → Nat → Int} {n : Nat × Nat} (q : (s0 = 0 → WPm gT d 51 [(2, 15), (0, x3)] (hC w M n) (fun r h' => WPc t11_sureBit (WPm gT d) F (24, [(2, 1), (9, 0), (0, x2), (0, x3), (0, s0), (9, 0)], [(0, r.2)], h'))) ∧ (¬ (s0 = 0) → F (0, s0) (hC w M n))) : WPc t11_sureBit (WPm gT d) F (6, [(2, 1), (9, 0), (0, x2), (0, x3), (9, 0), (9, 0)], [(0, s0)], hC w M n) :=
  vcK_ok (K := [6, 24, 39, 46, 55, 59]) 36 _ q
set_option maxRecDepth 20000 in
theorem b11_sureBit_0 {w : cQ} {d : Nat} {F : mPost} {x1 x2 x3 : Int} {M : Nat → Nat → Int} {n : Nat × Nat} (q : WPm gT d 161 [(2, 1), (0, x1), (0, x2)] (hC w M n) (fun r h' => WPc t11_sureBit (WPm gT d) F (6, [(2, 1), (0, x1), (0, x2), (0, x3), (9, 0), (9, 0)], [(0, r.2)], h'))) : WPc t11_sureBit (WPm gT d) F (0, [(2, 1), (0, x1), (0, x2), (0, x3), (9, 0), (9, 0)], [], hC w M n) :=
  vcK_ok (K := [6, 24, 39, 46, 55, 59]) 36 _ q
set_option maxRecDepth 20000 in
theorem e11_sureBit {w : cQ} {d : Nat} {Ψ : Int → cQ → (Nat → Nat → Int) → Nat × Nat → Prop} {x1 x2 x3 : Int} {M : Nat → Nat → Int} {n : Nat × Nat} (q : CW d 161 [(2, 1), (0, x1), (0, x2)] w M n (fun r0 w_1 M1 n_1 => (r0 = 0 → CW d 51 [(2, 15), (0, x3)] w_1 M1 n_1 (fun r1 w_2 M2 n_2 => (r1 ≠ 0 → CW d 56 [(2, 15), (0, x2), (0, x3)] w_2 M2 n_2 (fun r2 w_3 M3 n_3 => CW d 318 [(0, r2)] w_3 M3 n_3 (fun r3 w_4 M4 n_4 => (r3 ≠ 1 → Ψ (-1) w_4 M4 n_4) ∧ (¬ (r3 ≠ 1) → CW d 317 [(0, r2)] w_4 M4 n_4 (fun r4 w_5 M5 n_5 => Ψ r4 w_5 M5 n_5))))) ∧ (¬ (r1 ≠ 0) → Ψ (-7) w_2 M2 n_2))) ∧ (¬ (r0 = 0) → Ψ r0 w_1 M1 n_1))) : CW (d + 1) 160 [(2, 1), (0, x1), (0, x2), (0, x3)] w M n Ψ :=
  WPm_in g11_sureBit (Nat.le_of_ble_eq_true rfl) (b11_sureBit_0 (WPm_mono gT d _ _ _ _ _ (fun r0 h' z0 => by obtain ⟨_, M1, _, rfl, z0⟩ := z0; exact WPc.kill [1] (b11_sureBit_6 ⟨fun c1 => (WPm_mono gT d _ _ _ _ _ (fun r1 h' z1 => by obtain ⟨_, M2, _, rfl, z1⟩ := z1; exact WPc.kill [1, 4] (b11_sureBit_24 ⟨fun c2 => (WPm_mono gT d _ _ _ _ _ (fun r2 h' z2 => by obtain ⟨_, M3, _, rfl, z2⟩ := z2; exact WPc.kill [0, 1, 2, 3, 4] (b11_sureBit_39 (WPm_mono gT d _ _ _ _ _ (fun r3 h' z3 => by obtain ⟨_, M4, _, rfl, z3⟩ := z3; exact WPc.kill [0, 1, 2, 3, 4] (b11_sureBit_46 ⟨fun c3 => (WPc.kill [0, 1, 2, 3, 4, 5] (b11_sureBit_59 (FCmk (z3.1 c3)))), fun c3 => (WPm_mono gT d _ _ _ _ _ (fun r4 h' z4 => by obtain ⟨_, M5, _, rfl, z4⟩ := z4; exact WPc.kill [0, 1, 2, 3, 4, 5] (b11_sureBit_55 (WPc.kill [0, 1, 2, 3, 4, 5] (b11_sureBit_59 (FCmk z4))))) (z3.2 c3))⟩)) z2))) (z1.1 c2)), fun c2 => (FCmk (z1.2 c2))⟩)) (z0.1 c1)), fun c1 => (FCmk (z0.2 c1))⟩)) q))
set_option maxRecDepth 20000 in
theorem b11_tellers_22 {w : cQ} {d : Nat} {F : mPost} {s0 : Int} {M : Nat → Nat → Int} {n : Nat × Nat} (q : F (1, s0) (hC w M n)) : WPc t11_tellers (WPm gT d) F (22, [(9, 0), (9, 0), (9, 0)], [(1, s0)], hC w M n) :=
  vcK_ok (K := [5, 22]) 18 _ q
set_option maxRecDepth 20000 in
theorem b11_tellers_5 {w : cQ} {d : Nat} {F : mPost} {s0 : Int} {M : Nat → Nat → Int} {n : Nat × Nat} (q : (s0 = 0 → WPm gT d 58 [(2, 15)] (hC w M n) (fun r h' => WPc t11_tellers (WPm gT d) F (22, [(2, 1), (9, 0), (0, s0)], [(1, r.2)], h'))) ∧ (¬ (s0 = 0) → WPc t11_tellers (WPm gT d) F (22, [(2, 1), (9, 0), (0, s0)], [(1, s0)], hC w M n))) : WPc t11_tellers (WPm gT d) F (5, [(2, 1), (9, 0), (9, 0)], [(0, s0)], hC w M n) :=
  vcK_ok (K := [5, 22]) 18 _ q
set_option maxRecDepth 20000 in
theorem b11_tellers_0 {w : cQ} {d : Nat} {F : mPost} {x1 : Int} {M : Nat → Nat → Int} {n : Nat × Nat} (q : WPm gT d 164 [(2, 1), (0, x1)] (hC w M n) (fun r h' => WPc t11_tellers (WPm gT d) F (5, [(2, 1), (0, x1), (9, 0)], [(0, r.2)], h'))) : WPc t11_tellers (WPm gT d) F (0, [(2, 1), (0, x1), (9, 0)], [], hC w M n) :=
  vcK_ok (K := [5, 22]) 18 _ q
set_option maxRecDepth 20000 in
theorem e11_tellers {w : cQ} {d : Nat} {Ψ : Int → cQ → (Nat → Nat → Int) → Nat × Nat → Prop} {x1 : Int} {M : Nat → Nat → Int} {n : Nat × Nat} (q : CW d 164 [(2, 1), (0, x1)] w M n (fun r0 w_1 M1 n_1 => (r0 = 0 → CW d 58 [(2, 15)] w_1 M1 n_1 (fun r1 w_2 M2 n_2 => Ψ r1 w_2 M2 n_2)) ∧ (¬ (r0 = 0) → Ψ r0 w_1 M1 n_1))) : CW (d + 1) 162 [(2, 1), (0, x1)] w M n Ψ :=
  WPm_in g11_tellers (Nat.le_of_ble_eq_true rfl) (b11_tellers_0 (WPm_mono gT d _ _ _ _ _ (fun r0 h' z0 => by obtain ⟨_, M1, _, rfl, z0⟩ := z0; exact WPc.kill [1] (b11_tellers_5 ⟨fun c1 => (WPm_mono gT d _ _ _ _ _ (fun r1 h' z1 => by obtain ⟨_, M2, _, rfl, z1⟩ := z1; exact WPc.kill [0, 1, 2] (b11_tellers_22 (FCmk z1))) (z0.1 c1)), fun c1 => (WPc.kill [0, 1, 2] (b11_tellers_22 (FCmk (z0.2 c1))))⟩)) q))
set_option maxRecDepth 20000 in
theorem b11_teller_36 {w : cQ} {d : Nat} {F : mPost} {s0 : Int} {M : Nat → Nat → Int} {n : Nat × Nat} (q : F (0, s0) (hC w M n)) : WPc t11_teller (WPm gT d) F (36, [(9, 0), (9, 0), (9, 0), (9, 0)], [(0, s0)], hC w M n) :=
  vcK_ok (K := [5, 20, 31, 36]) 25 _ q
set_option maxRecDepth 20000 in
theorem b11_teller_31 {w : cQ} {d : Nat} {F : mPost} {s0 : Int} {M : Nat → Nat → Int} {n : Nat × Nat} (q : WPc t11_teller (WPm gT d) F (36, [(9, 0), (9, 0), (9, 0), (9, 0)], [(0, s0)], hC w M n)) : WPc t11_teller (WPm gT d) F (31, [(9, 0), (9, 0), (9, 0), (9, 0)], [(0, s0)], hC w M n) :=
  vcK_ok (K := [5, 20, 31, 36]) 25 _ q
set_option maxRecDepth 20000 in
theorem b11_teller_20 {w : cQ} {d : Nat} {F : mPost} {x2 s0 : Int} {M : Nat → Nat → Int} {n : Nat × Nat} (q : (s0 = 0 → WPc t11_teller (WPm gT d) F (36, [(2, 1), (9, 0), (0, x2), (9, 0)], [(0, (-7))], hC w M n)) ∧ (¬ (s0 = 0) → WPm gT d 59 [(2, 15), (0, x2)] (hC w M n) (fun r h' => WPc t11_teller (WPm gT d) F (31, [(2, 1), (9, 0), (0, x2), (9, 0)], [(0, r.2)], h')))) : WPc t11_teller (WPm gT d) F (20, [(2, 1), (9, 0), (0, x2), (9, 0)], [(0, s0)], hC w M n) :=
  vcK_ok (K := [5, 20, 31, 36]) 25 _ q
set_option maxRecDepth 20000 in
theorem b11_teller_5 {w : cQ} {d : Nat} {F : mPost} {x2 s0 : Int} {M : Nat → Nat → Int} {n : Nat × Nat} (q : (s0 = 0 → WPm gT d 51 [(2, 15), (0, x2)] (hC w M n) (fun r h' => WPc t11_teller (WPm gT d) F (20, [(2, 1), (9, 0), (0, x2), (0, s0)], [(0, r.2)], h'))) ∧ (¬ (s0 = 0) → F (0, s0) (hC w M n))) : WPc t11_teller (WPm gT d) F (5, [(2, 1), (9, 0), (0, x2), (9, 0)], [(0, s0)], hC w M n) :=
  vcK_ok (K := [5, 20, 31, 36]) 25 _ q
set_option maxRecDepth 20000 in
theorem b11_teller_0 {w : cQ} {d : Nat} {F : mPost} {x1 x2 : Int} {M : Nat → Nat → Int} {n : Nat × Nat} (q : WPm gT d 164 [(2, 1), (0, x1)] (hC w M n) (fun r h' => WPc t11_teller (WPm gT d) F (5, [(2, 1), (0, x1), (0, x2), (9, 0)], [(0, r.2)], h'))) : WPc t11_teller (WPm gT d) F (0, [(2, 1), (0, x1), (0, x2), (9, 0)], [], hC w M n) :=
  vcK_ok (K := [5, 20, 31, 36]) 25 _ q
set_option maxRecDepth 20000 in
theorem e11_teller {w : cQ} {d : Nat} {Ψ : Int → cQ → (Nat → Nat → Int) → Nat × Nat → Prop} {x1 x2 : Int} {M : Nat → Nat → Int} {n : Nat × Nat} (q : CW d 164 [(2, 1), (0, x1)] w M n (fun r0 w_1 M1 n_1 => (r0 = 0 → CW d 51 [(2, 15), (0, x2)] w_1 M1 n_1 (fun r1 w_2 M2 n_2 => (r1 = 0 → Ψ (-7) w_2 M2 n_2) ∧ (¬ (r1 = 0) → CW d 59 [(2, 15), (0, x2)] w_2 M2 n_2 (fun r2 w_3 M3 n_3 => Ψ r2 w_3 M3 n_3)))) ∧ (¬ (r0 = 0) → Ψ r0 w_1 M1 n_1))) : CW (d + 1) 163 [(2, 1), (0, x1), (0, x2)] w M n Ψ :=
  WPm_in g11_teller (Nat.le_of_ble_eq_true rfl) (b11_teller_0 (WPm_mono gT d _ _ _ _ _ (fun r0 h' z0 => by obtain ⟨_, M1, _, rfl, z0⟩ := z0; exact WPc.kill [1] (b11_teller_5 ⟨fun c1 => (WPm_mono gT d _ _ _ _ _ (fun r1 h' z1 => by obtain ⟨_, M2, _, rfl, z1⟩ := z1; exact WPc.kill [1, 3] (b11_teller_20 ⟨fun c2 => (WPc.kill [0, 1, 2, 3] (b11_teller_36 (FCmk (z1.1 c2)))), fun c2 => (WPm_mono gT d _ _ _ _ _ (fun r2 h' z2 => by obtain ⟨_, M3, _, rfl, z2⟩ := z2; exact WPc.kill [0, 1, 2, 3] (b11_teller_31 (WPc.kill [0, 1, 2, 3] (b11_teller_36 (FCmk z2))))) (z1.2 c2))⟩)) (z0.1 c1)), fun c1 => (FCmk (z0.2 c1))⟩)) q))
set_option maxRecDepth 20000 in
theorem b11_better_32 {w : cQ} {d : Nat} {F : mPost} {x1 x2 : Int} {M : Nat → Nat → Int} {n : Nat × Nat} (q : WPc t11_better (WPm gT d) F (4, [(2, 1), (0, x1), (0, w32 (x2 + 1))], [], hC w M n)) : WPc t11_better (WPm gT d) F (32, [(2, 1), (0, x1), (0, x2)], [], hC w M n) :=
  vcK_ok (K := [4, 23, 32]) 29 _ q
set_option maxRecDepth 20000 in
theorem b11_better_23 {w : cQ} {d : Nat} {F : mPost} {x1 x2 s0 : Int} {M : Nat → Nat → Int} {n : Nat × Nat} (q : (s0 = 0 → WPc t11_better (WPm gT d) F (32, [(2, 1), (0, x1), (0, x2)], [], hC w M n)) ∧ (¬ (s0 = 0) → WPc t11_better (WPm gT d) F (32, [(2, 1), (0, m_or x1 (m_shl 1 x2)), (0, x2)], [], hC w M n))) : WPc t11_better (WPm gT d) F (23, [(2, 1), (0, x1), (0, x2)], [(0, s0)], hC w M n) :=
  vcK_ok (K := [4, 23, 32]) 29 _ q
set_option maxRecDepth 20000 in
theorem b11_better_4 {w : cQ} {d : Nat} {F : mPost} {x1 x2 : Int} {M : Nat → Nat → Int} {n : Nat × Nat} (q : ((M 29 1) ≤ x2 → F (0, x1) (hC w M n)) ∧ (¬ ((M 29 1) ≤ x2) → WPm gT d 166 [(2, 1), (0, x2)] (hC w M n) (fun r h' => WPc t11_better (WPm gT d) F (23, [(2, 1), (0, x1), (0, x2)], [(0, r.2)], h')))) : WPc t11_better (WPm gT d) F (4, [(2, 1), (0, x1), (0, x2)], [], hC w M n) :=
  vcK_ok (K := [4, 23, 32]) 29 _ q
set_option maxRecDepth 20000 in
theorem b11_better_0 {w : cQ} {d : Nat} {F : mPost} {M : Nat → Nat → Int} {n : Nat × Nat} (q : WPc t11_better (WPm gT d) F (4, [(2, 1), (0, 0), (0, 0)], [], hC w M n)) : WPc t11_better (WPm gT d) F (0, [(2, 1), (9, 0), (9, 0)], [], hC w M n) :=
  vcK_ok (K := [4, 23, 32]) 29 _ q
def W11_better_4 (d : Nat) (Ψ : Int → cQ → (Nat → Nat → Int) → Nat × Nat → Prop) (x1 x2 : Int) (w : cQ) (M : Nat → Nat → Int) (n : Nat × Nat) : Prop := WPc t11_better (WPm gT d) (FC Ψ) (4, [(2, 1), (0, x1), (0, x2)], [], hC w M n)
set_option maxRecDepth 20000 in
theorem v11_better_4 {w : cQ} {d : Nat} {Ψ : Int → cQ → (Nat → Nat → Int) → Nat × Nat → Prop} {x1 x2 : Int} {M : Nat → Nat → Int} {n : Nat × Nat} (q : ((M 29 1) ≤ x2 → Ψ x1 w M n) ∧ (¬ ((M 29 1) ≤ x2) → CW d 166 [(2, 1), (0, x2)] w M n (fun r0 w_1 M1 n_1 => (r0 = 0 → W11_better_4 d Ψ x1 (w32 (x2 + 1)) w_1 M1 n_1 ) ∧ (¬ (r0 = 0) → W11_better_4 d Ψ (m_or x1 (m_shl 1 x2)) (w32 (x2 + 1)) w_1 M1 n_1 )))) : W11_better_4 d Ψ x1 x2 w M n :=
  b11_better_4 ⟨fun c1 => (FCmk (q.1 c1)), fun c1 => (WPm_mono gT d _ _ _ _ _ (fun r0 h' z0 => by obtain ⟨_, M1, _, rfl, z0⟩ := z0; exact b11_better_23 ⟨fun c2 => (b11_better_32 (z0.1 c2)), fun c2 => (b11_better_32 (z0.2 c2))⟩) (q.2 c1))⟩
set_option maxRecDepth 20000 in
theorem e11_better {w : cQ} {d : Nat} {Ψ : Int → cQ → (Nat → Nat → Int) → Nat × Nat → Prop} {M : Nat → Nat → Int} {n : Nat × Nat} (q : W11_better_4 d Ψ 0 0 w M n ) : CW (d + 1) 165 [(2, 1)] w M n Ψ :=
  WPm_in g11_better (Nat.le_of_ble_eq_true rfl) (b11_better_0 q)
set_option maxRecDepth 20000 in
theorem b11_isBetter_73 {w : cQ} {d : Nat} {F : mPost} {x1 x3 s0 s1 : Int} {M : Nat → Nat → Int} {n : Nat × Nat} (q : WPc t11_isBetter (WPm gT d) F (4, [(2, 1), (0, x1), (0, m_or s0 s1), (0, w32 (x3 + 1)), (9, 0), (9, 0)], [], hC w M n)) : WPc t11_isBetter (WPm gT d) F (73, [(2, 1), (0, x1), (9, 0), (0, x3), (9, 0), (9, 0)], [(0, s1), (0, s0)], hC w M n) :=
  vcK_ok (K := [4, 27, 49, 73]) 50 _ q
set_option maxRecDepth 20000 in
theorem b11_isBetter_49 {w : cQ} {d : Nat} {F : mPost} {x1 x2 x3 x4 s0 : Int} {M : Nat → Nat → Int} {n : Nat × Nat} (q : (s0 ≤ x4 → (x4 ≤ s0 → WPc t11_isBetter (WPm gT d) F (73, [(2, 1), (0, x1), (0, x2), (0, x3), (0, x4), (0, s0)], [(0, 0), (0, x2)], hC w M n)) ∧ (¬ (x4 ≤ s0) → WPc t11_isBetter (WPm gT d) F (73, [(2, 1), (0, x1), (0, x2), (0, x3), (0, x4), (0, s0)], [(0, 1), (0, x2)], hC w M n))) ∧ (¬ (s0 ≤ x4) → ((0 : Int) = 0 ∨ (0 : Int) = 1) ∧ F (0, 0) (hC w M n))) : WPc t11_isBetter (WPm gT d) F (49, [(2, 1), (0, x1), (0, x2), (0, x3), (0, x4), (9, 0)], [(0, s0)], hC w M n) :=
  vcK_ok (K := [4, 27, 49, 73]) 50 _ q
set_option maxRecDepth 20000 in
theorem b11_isBetter_27 {w : cQ} {d : Nat} {F : mPost} {x1 x2 x3 s0 : Int} {M : Nat → Nat → Int} {n : Nat × Nat} (q : (0 ≤ x3 ∧ x3 < ((8 : Nat) : Int)) ∧ (WPm gT d 102 [(2, 4), (0, x3), (0, M 39 x3.toNat)] (hC w M n) (fun r h' => WPc t11_isBetter (WPm gT d) F (49, [(2, 1), (0, x1), (0, x2), (0, x3), (0, s0), (9, 0)], [(0, r.2)], h')))) : WPc t11_isBetter (WPm gT d) F (27, [(2, 1), (0, x1), (0, x2), (0, x3), (9, 0), (9, 0)], [(0, s0)], hC w M n) :=
  vcK_ok (K := [4, 27, 49, 73]) 50 _ q
set_option maxRecDepth 20000 in
theorem b11_isBetter_4 {w : cQ} {d : Nat} {F : mPost} {x1 x2 x3 : Int} {M : Nat → Nat → Int} {n : Nat × Nat} (q : ((M 29 0) ≤ x3 → (x2 = 0 ∨ x2 = 1) ∧ F (0, x2) (hC w M n)) ∧ (¬ ((M 29 0) ≤ x3) → WPm gT d 102 [(2, 4), (0, x3), (0, x1)] (hC w M n) (fun r h' => WPc t11_isBetter (WPm gT d) F (27, [(2, 1), (0, x1), (0, x2), (0, x3), (9, 0), (9, 0)], [(0, r.2)], h')))) : WPc t11_isBetter (WPm gT d) F (4, [(2, 1), (0, x1), (0, x2), (0, x3), (9, 0), (9, 0)], [], hC w M n) :=
  vcK_ok (K := [4, 27, 49, 73]) 50 _ q
set_option maxRecDepth 20000 in
theorem b11_isBetter_0 {w : cQ} {d : Nat} {F : mPost} {x1 : Int} {M : Nat → Nat → Int} {n : Nat × Nat} (q : WPc t11_isBetter (WPm gT d) F (4, [(2, 1), (0, x1), (0, 0), (0, 0), (9, 0), (9, 0)], [], hC w M n)) : WPc t11_isBetter (WPm gT d) F (0, [(2, 1), (0, x1), (9, 0), (9, 0), (9, 0), (9, 0)], [], hC w M n) :=
  vcK_ok (K := [4, 27, 49, 73]) 50 _ q
def W11_isBetter_4 (d : Nat) (Ψ : Int → cQ → (Nat → Nat → Int) → Nat × Nat → Prop) (x1 x2 x3 : Int) (w : cQ) (M : Nat → Nat → Int) (n : Nat × Nat) : Prop := WPc t11_isBetter (WPm gT d) (FC Ψ) (4, [(2, 1), (0, x1), (0, x2), (0, x3), (9, 0), (9, 0)], [], hC w M n)
set_option maxRecDepth 20000 in
theorem v11_isBetter_4 {w : cQ} {d : Nat} {Ψ : Int → cQ → (Nat → Nat → Int) → Nat × Nat → Prop} {x1 x2 x3 : Int} {M : Nat → Nat → Int} {n : Nat × Nat} (q : ((M 29 0) ≤ x3 → (x2 = 0 ∨ x2 = 1) ∧ Ψ x2 w M n) ∧ (¬ ((M 29 0) ≤ x3) → CW d 102 [(2, 4), (0, x3), (0, x1)] w M n (fun r0 w_1 M1 n_1 => (0 ≤ x3 ∧ x3 < ((8 : Nat) : Int)) ∧ (CW d 102 [(2, 4), (0, x3), (0, M1 39 x3.toNat)] w_1 M1 n_1 (fun r1 w_2 M2 n_2 => (r1 ≤ r0 → (r0 ≤ r1 → W11_isBetter_4 d Ψ x1 (m_or x2 0) (w32 (x3 + 1)) w_2 M2 n_2 ) ∧ (¬ (r0 ≤ r1) → W11_isBetter_4 d Ψ x1 (m_or x2 1) (w32 (x3 + 1)) w_2 M2 n_2 )) ∧ (¬ (r1 ≤ r0) → Ψ 0 w_2 M2 n_2)))))) : W11_isBetter_4 d Ψ x1 x2 x3 w M n :=
  b11_isBetter_4 ⟨fun c1 => ⟨(q.1 c1).1, FCmk (q.1 c1).2⟩, fun c1 => (WPm_mono gT d _ _ _ _ _ (fun r0 h' z0 => by obtain ⟨_, M1, _, rfl, z0⟩ := z0; exact b11_isBetter_27 ⟨z0.1, (WPm_mono gT d _ _ _ _ _ (fun r1 h' z1 => by obtain ⟨_, M2, _, rfl, z1⟩ := z1; exact b11_isBetter_49 ⟨fun c2 => ⟨fun c3 => (WPc.kill [2, 4, 5] (b11_isBetter_73 (WPc.kill [4, 5] ((z1.1 c2).1 c3)))), fun c3 => (WPc.kill [2, 4, 5] (b11_isBetter_73 (WPc.kill [4, 5] ((z1.1 c2).2 c3))))⟩, fun c2 => ⟨by decide, FCmk (z1.2 c2)⟩⟩) z0.2)⟩) (q.2 c1))⟩
set_option maxRecDepth 20000 in
theorem e11_isBetter {w : cQ} {d : Nat} {Ψ : Int → cQ → (Nat → Nat → Int) → Nat × Nat → Prop} {x1 : Int} {M : Nat → Nat → Int} {n : Nat × Nat} (q : W11_isBetter_4 d Ψ x1 0 0 w M n ) : CW (d + 1) 166 [(2, 1), (0, x1)] w M n Ψ :=
  WPm_in g11_isBetter (Nat.le_of_ble_eq_true rfl) (b11_isBetter_0 q)
set_option maxRecDepth 20000 in
theorem b11_fairest_33 {w : cQ} {d : Nat} {F : mPost} {x1 x2 : Int} {M : Nat → Nat → Int} {n : Nat × Nat} (q : WPc t11_fairest (WPm gT d) F (4, [(2, 1), (0, x1), (0, w32 (x2 + 1))], [], hC w M n)) : WPc t11_fairest (WPm gT d) F (33, [(2, 1), (0, x1), (0, x2)], [], hC w M n) :=
  vcK_ok (K := [4, 23, 28, 33]) 28 _ q
set_option maxRecDepth 20000 in
theorem b11_fairest_28 {w : cQ} {d : Nat} {F : mPost} {x1 x2 s0 s1 : Int} {M : Nat → Nat → Int} {n : Nat × Nat} (q : (s0 ≤ s1 → WPc t11_fairest (WPm gT d) F (33, [(2, 1), (0, x1), (0, x2)], [], hC w M n)) ∧ (¬ (s0 ≤ s1) → WPc t11_fairest (WPm gT d) F (33, [(2, 1), (0, x2), (0, x2)], [], hC w M n))) : WPc t11_fairest (WPm gT d) F (28, [(2, 1), (0, x1), (0, x2)], [(0, s1), (0, s0)], hC w M n) :=
  vcK_ok (K := [4, 23, 28, 33]) 28 _ q
set_option maxRecDepth 20000 in
theorem b11_fairest_23 {w : cQ} {d : Nat} {F : mPost} {x1 x2 s0 : Int} {M : Nat → Nat → Int} {n : Nat × Nat} (q : WPm gT d 168 [(2, 1), (0, x1)] (hC w M n) (fun r h' => WPc t11_fairest (WPm gT d) F (28, [(2, 1), (0, x1), (0, x2)], [(0, r.2), (0, s0)], h'))) : WPc t11_fairest (WPm gT d) F (23, [(2, 1), (0, x1), (0, x2)], [(0, s0)], hC w M n) :=
  vcK_ok (K := [4, 23, 28, 33]) 28 _ q
set_option maxRecDepth 20000 in
theorem b11_fairest_4 {w : cQ} {d : Nat} {F : mPost} {x1 x2 : Int} {M : Nat → Nat → Int} {n : Nat × Nat} (q : ((M 29 1) ≤ x2 → F (0, x1) (hC w M n)) ∧ (¬ ((M 29 1) ≤ x2) → WPm gT d 168 [(2, 1), (0, x2)] (hC w M n) (fun r h' => WPc t11_fairest (WPm gT d) F (23, [(2, 1), (0, x1), (0, x2)], [(0, r.2)], h')))) : WPc t11_fairest (WPm gT d) F (4, [(2, 1), (0, x1), (0, x2)], [], hC w M n) :=
  vcK_ok (K := [4, 23, 28, 33]) 28 _ q
set_option maxRecDepth 20000 in
theorem b11_fairest_0 {w : cQ} {d : Nat} {F : mPost} {M : Nat → Nat → Int} {n : Nat × Nat} (q : WPc t11_fairest (WPm gT d) F (4, [(2, 1), (0, 0), (0, 1)], [], hC w M n)) : WPc t11_fairest (WPm gT d) F (0, [(2, 1), (9, 0), (9, 0)], [], hC w M n) :=
  vcK_ok (K := [4, 23, 28, 33]) 28 _ q
def W11_fairest_4 (d : Nat) (Ψ : Int → cQ → (Nat → Nat → Int) → Nat × Nat → Prop) (x1 x2 : Int) (w : cQ) (M : Nat → Nat → Int) (n : Nat × Nat) : Prop := WPc t11_fairest (WPm gT d) (FC Ψ) (4, [(2, 1), (0, x1), (0, x2)], [], hC w M n)
set_option maxRecDepth 20000 in
theorem v11_fairest_4 {w : cQ} {d : Nat} {Ψ : Int → cQ → (Nat → Nat → Int) → Nat × Nat → Prop} {x1 x2 : Int} {M : Nat → Nat → Int} {n : Nat × Nat} (q : ((M 29 1) ≤ x2 → Ψ x1 w M n) ∧ (¬ ((M 29 1) ≤ x2) → CW d 168 [(2, 1), (0, x2)] w M n (fun r0 w_1 M1 n_1 => CW d 168 [(2, 1), (0, x1)] w_1 M1 n_1 (fun r1 w_2 M2 n_2 => (r0 ≤ r1 → W11_fairest_4 d Ψ x1 (w32 (x2 + 1)) w_2 M2 n_2 ) ∧ (¬ (r0 ≤ r1) → W11_fairest_4 d Ψ x2 (w32 (x2 + 1)) w_2 M2 n_2 ))))) : W11_fairest_4 d Ψ x1 x2 w M n :=
  b11_fairest_4 ⟨fun c1 => (FCmk (q.1 c1)), fun c1 => (WPm_mono gT d _ _ _ _ _ (fun r0 h' z0 => by obtain ⟨_, M1, _, rfl, z0⟩ := z0; exact b11_fairest_23 (WPm_mono gT d _ _ _ _ _ (fun r1 h' z1 => by obtain ⟨_, M2, _, rfl, z1⟩ := z1; exact b11_fairest_28 ⟨fun c2 => (b11_fairest_33 (z1.1 c2)), fun c2 => (b11_fairest_33 (z1.2 c2))⟩) z0)) (q.2 c1))⟩
set_option maxRecDepth 20000 in
theorem e11_fairest {w : cQ} {d : Nat} {Ψ : Int → cQ → (Nat → Nat → Int) → Nat × Nat → Prop} {M : Nat → Nat → Int} {n : Nat × Nat} (q : W11_fairest_4 d Ψ 0 1 w M n ) : CW (d + 1) 167 [(2, 1)] w M n Ψ :=
  WPm_in g11_fairest (Nat.le_of_ble_eq_true rfl) (b11_fairest_0 q)
set_option maxRecDepth 20000 in
theorem b11_leastLiking_30 {w : cQ} {d : Nat} {F : mPost} {x1 x3 s0 s1 : Int} {M : Nat → Nat → Int} {n : Nat × Nat} (q : WPc t11_leastLiking (WPm gT d) F (6, [(2, 1), (0, x1), (0, if s1 < s0 then s1 else s0), (0, w32 (x3 + 1))], [], hC w M n)) : WPc t11_leastLiking (WPm gT d) F (30, [(2, 1), (0, x1), (9, 0), (0, x3)], [(0, s1), (0, s0)], hC w M n) :=
  vcK_ok (K := [6, 30]) 27 _ q
set_option maxRecDepth 20000 in
theorem b11_leastLiking_6 {w : cQ} {d : Nat} {F : mPost} {x1 x2 x3 : Int} {M : Nat → Nat → Int} {n : Nat × Nat} (q : ((M 29 0) ≤ x3 → F (0, x2) (hC w M n)) ∧ (¬ ((M 29 0) ≤ x3) → WPm gT d 102 [(2, 4), (0, x3), (0, x1)] (hC w M n) (fun r h' => WPc t11_leastLiking (WPm gT d) F (30, [(2, 1), (0, x1), (0, x2), (0, x3)], [(0, r.2), (0, x2)], h')))) : WPc t11_leastLiking (WPm gT d) F (6, [(2, 1), (0, x1), (0, x2), (0, x3)], [], hC w M n) :=
  vcK_ok (K := [6, 30]) 27 _ q
set_option maxRecDepth 20000 in
theorem b11_leastLiking_0 {w : cQ} {d : Nat} {F : mPost} {x1 : Int} {M : Nat → Nat → Int} {n : Nat × Nat} (q : WPc t11_leastLiking (WPm gT d) F (6, [(2, 1), (0, x1), (0, 1000000), (0, 0)], [], hC w M n)) : WPc t11_leastLiking (WPm gT d) F (0, [(2, 1), (0, x1), (9, 0), (9, 0)], [], hC w M n) :=
  vcK_ok (K := [6, 30]) 27 _ q
def W11_leastLiking_6 (d : Nat) (Ψ : Int → cQ → (Nat → Nat → Int) → Nat × Nat → Prop) (x1 x2 x3 : Int) (w : cQ) (M : Nat → Nat → Int) (n : Nat × Nat) : Prop := WPc t11_leastLiking (WPm gT d) (FC Ψ) (6, [(2, 1), (0, x1), (0, x2), (0, x3)], [], hC w M n)
set_option maxRecDepth 20000 in
theorem v11_leastLiking_6 {w : cQ} {d : Nat} {Ψ : Int → cQ → (Nat → Nat → Int) → Nat × Nat → Prop} {x1 x2 x3 : Int} {M : Nat → Nat → Int} {n : Nat × Nat} (q : ((M 29 0) ≤ x3 → Ψ x2 w M n) ∧ (¬ ((M 29 0) ≤ x3) → CW d 102 [(2, 4), (0, x3), (0, x1)] w M n (fun r0 w_1 M1 n_1 => W11_leastLiking_6 d Ψ x1 (if r0 < x2 then r0 else x2) (w32 (x3 + 1)) w_1 M1 n_1 ))) : W11_leastLiking_6 d Ψ x1 x2 x3 w M n :=
  b11_leastLiking_6 ⟨fun c1 => (FCmk (q.1 c1)), fun c1 => (WPm_mono gT d _ _ _ _ _ (fun r0 h' z0 => by obtain ⟨_, M1, _, rfl, z0⟩ := z0; exact WPc.kill [2] (b11_leastLiking_30 z0)) (q.2 c1))⟩
set_option maxRecDepth 20000 in
theorem e11_leastLiking {w : cQ} {d : Nat} {Ψ : Int → cQ → (Nat → Nat → Int) → Nat × Nat → Prop} {x1 : Int} {M : Nat → Nat → Int} {n : Nat × Nat} (q : W11_leastLiking_6 d Ψ x1 1000000 0 w M n ) : CW (d + 1) 168 [(2, 1), (0, x1)] w M n Ψ :=
  WPm_in g11_leastLiking (Nat.le_of_ble_eq_true rfl) (b11_leastLiking_0 q)
set_option maxRecDepth 20000 in
theorem b11_snow_83 {w : cQ} {d : Nat} {F : mPost} {s0 : Int} {M : Nat → Nat → Int} {n : Nat × Nat} (q : F (1, s0) (hC w M n)) : WPc t11_snow (WPm gT d) F (83, [(9, 0), (9, 0), (9, 0), (9, 0), (9, 0), (9, 0), (9, 0), (9, 0), (9, 0), (9, 0), (9, 0), (9, 0)], [(1, s0)], hC w M n) :=
  vcK_ok (K := [6, 18, 31, 42, 51, 64, 83]) 49 _ q
set_option maxRecDepth 20000 in
theorem b11_snow_64 {w : cQ} {d : Nat} {F : mPost} {x8 s0 : Int} {M : Nat → Nat → Int} {n : Nat × Nat} (q : ((m_cmp x8 1) ≤ 0 → WPc t11_snow (WPm gT d) F (83, [(9, 0), (9, 0), (9, 0), (9, 0), (9, 0), (9, 0), (9, 0), (9, 0), (1, x8), (9, 0), (1, s0), (9, 0)], [(1, s0)], hC w M n)) ∧ (¬ ((m_cmp x8 1) ≤ 0) → (x8 ≠ 0) ∧ (WPc t11_snow (WPm gT d) F (83, [(9, 0), (9, 0), (9, 0), (9, 0), (9, 0), (9, 0), (9, 0), (9, 0), (1, x8), (9, 0), (1, s0), (9, 0)], [(1, l_div s0 x8)], hC w M n)))) : WPc t11_snow (WPm gT d) F (64, [(9, 0), (9, 0), (9, 0), (9, 0), (9, 0), (9, 0), (9, 0), (9, 0), (1, x8), (9, 0), (9, 0), (9, 0)], [(1, s0)], hC w M n) :=
  vcK_ok (K := [6, 18, 31, 42, 51, 64, 83]) 49 _ q
set_option maxRecDepth 20000 in
theorem b11_snow_51 {w : cQ} {d : Nat} {F : mPost} {x3 x4 x6 s0 : Int} {M : Nat → Nat → Int} {n : Nat × Nat} (q : (x3 ≠ 0 → WPc t11_snow (WPm gT d) F (64, [(9, 0), (9, 0), (9, 0), (0, x3), (1, x4), (9, 0), (1, x6), (9, 0), (1, s0), (9, 0), (9, 0), (9, 0)], [(1, x6)], hC w M n)) ∧ (¬ (x3 ≠ 0) → WPc t11_snow (WPm gT d) F (64, [(9, 0), (9, 0), (9, 0), (0, x3), (1, x4), (9, 0), (1, x6), (9, 0), (1, s0), (9, 0), (9, 0), (9, 0)], [(1, x4)], hC w M n))) : WPc t11_snow (WPm gT d) F (51, [(9, 0), (9, 0), (9, 0), (0, x3), (1, x4), (9, 0), (1, x6), (9, 0), (9, 0), (9, 0), (9, 0), (9, 0)], [(1, s0)], hC w M n) :=
  vcK_ok (K := [6, 18, 31, 42, 51, 64, 83]) 49 _ q
set_option maxRecDepth 20000 in
theorem b11_snow_42 {w : cQ} {d : Nat} {F : mPost} {x3 x4 s0 : Int} {M : Nat → Nat → Int} {n : Nat × Nat} (q : WPm gT d 170 [(1, x4), (1, s0)] (hC w M n) (fun r h' => WPc t11_snow (WPm gT d) F (51, [(9, 0), (9, 0), (9, 0), (0, x3), (1, x4), (9, 0), (1, s0), (9, 0), (9, 0), (9, 0), (9, 0), (9, 0)], [(1, r.2)], h'))) : WPc t11_snow (WPm gT d) F (42, [(9, 0), (9, 0), (9, 0), (0, x3), (1, x4), (9, 0), (9, 0), (9, 0), (9, 0), (9, 0), (9, 0), (9, 0)], [(1, s0)], hC w M n) :=
  vcK_ok (K := [6, 18, 31, 42, 51, 64, 83]) 49 _ q
set_option maxRecDepth 20000 in
theorem b11_snow_31 {w : cQ} {d : Nat} {F : mPost} {x1 x2 x3 s0 : Int} {M : Nat → Nat → Int} {n : Nat × Nat} (q : WPm gT d 118 [(2, 4), (0, x1), (0, x2)] (hC w M n) (fun r h' => WPc t11_snow (WPm gT d) F (42, [(2, 1), (0, x1), (0, x2), (0, x3), (1, s0), (9, 0), (9, 0), (9, 0), (9, 0), (9, 0), (9, 0), (9, 0)], [(1, r.2)], h'))) : WPc t11_snow (WPm gT d) F (31, [(2, 1), (0, x1), (0, x2), (0, x3), (9, 0), (9, 0), (9, 0), (9, 0), (9, 0), (9, 0), (9, 0), (9, 0)], [(1, s0)], hC w M n) :=
  vcK_ok (K := [6, 18, 31, 42, 51, 64, 83]) 49 _ q
set_option maxRecDepth 20000 in
theorem b11_snow_18 {w : cQ} {d : Nat} {F : mPost} {M : Nat → Nat → Int} {n : Nat × Nat} (q : F (1, (-2)) (hC w M n)) : WPc t11_snow (WPm gT d) F (18, [(9, 0), (9, 0), (9, 0), (9, 0), (9, 0), (9, 0), (9, 0), (9, 0), (9, 0), (9, 0), (9, 0), (9, 0)], [], hC w M n) :=
  vcK_ok (K := [6, 18, 31, 42, 51, 64, 83]) 49 _ q
set_option maxRecDepth 20000 in
theorem b11_snow_6 {w : cQ} {d : Nat} {F : mPost} {x1 x2 x3 s0 : Int} {M : Nat → Nat → Int} {n : Nat × Nat} (q : (s0 = 0 → WPc t11_snow (WPm gT d) F (18, [(2, 1), (0, x1), (0, x2), (0, x3), (9, 0), (9, 0), (9, 0), (9, 0), (9, 0), (9, 0), (9, 0), (9, 0)], [], hC w M n)) ∧ (¬ (s0 = 0) → (x3 < 0 → WPc t11_snow (WPm gT d) F (18, [(2, 1), (0, x1), (0, x2), (0, x3), (9, 0), (9, 0), (9, 0), (9, 0), (9, 0), (9, 0), (9, 0), (9, 0)], [], hC w M n)) ∧ (¬ (x3 < 0) → (x3 ≤ 1 → WPm gT d 117 [(2, 4), (0, x1), (0, x2)] (hC w M n) (fun r h' => WPc t11_snow (WPm gT d) F (31, [(2, 1), (0, x1), (0, x2), (0, x3), (9, 0), (9, 0), (9, 0), (9, 0), (9, 0), (9, 0), (9, 0), (9, 0)], [(1, r.2)], h'))) ∧ (¬ (x3 ≤ 1) → WPc t11_snow (WPm gT d) F (18, [(2, 1), (0, x1), (0, x2), (0, x3), (9, 0), (9, 0), (9, 0), (9, 0), (9, 0), (9, 0), (9, 0), (9, 0)], [], hC w M n))))) : WPc t11_snow (WPm gT d) F (6, [(2, 1), (0, x1), (0, x2), (0, x3), (9, 0), (9, 0), (9, 0), (9, 0), (9, 0), (9, 0), (9, 0), (9, 0)], [(0, s0)], hC w M n) :=
  vcK_ok (K := [6, 18, 31, 42, 51, 64, 83]) 49 _ q
set_option maxRecDepth 20000 in
theorem b11_snow_0 {w : cQ} {d : Nat} {F : mPost} {x1 x2 x3 : Int} {M : Nat → Nat → Int} {n : Nat × Nat} (q : WPm gT d 179 [(2, 1), (0, x1), (0, x2)] (hC w M n) (fun r h' => WPc t11_snow (WPm gT d) F (6, [(2, 1), (0, x1), (0, x2), (0, x3), (9, 0), (9, 0), (9, 0), (9, 0), (9, 0), (9, 0), (9, 0), (9, 0)], [(0, r.2)], h'))) : WPc t11_snow (WPm gT d) F (0, [(2, 1), (0, x1), (0, x2), (0, x3), (9, 0), (9, 0), (9, 0), (9, 0), (9, 0), (9, 0), (9, 0), (9, 0)], [], hC w M n) :=
  vcK_ok (K := [6, 18, 31, 42, 51, 64, 83]) 49 _ q
set_option maxRecDepth 20000 in
theorem e11_snow {w : cQ} {d : Nat} {Ψ : Int → cQ → (Nat → Nat → Int) → Nat × Nat → Prop} {x1 x2 x3 : Int} {M : Nat → Nat → Int} {n : Nat × Nat} (q : CW d 179 [(2, 1), (0, x1), (0, x2)] w M n (fun r0 w_1 M1 n_1 => (r0 = 0 → Ψ (-2) w_1 M1 n_1) ∧ (¬ (r0 = 0) → (x3 < 0 → Ψ (-2) w_1 M1 n_1) ∧ (¬ (x3 < 0) → (x3 ≤ 1 → CW d 117 [(2, 4), (0, x1), (0, x2)] w_1 M1 n_1 (fun r1 w_2 M2 n_2 => CW d 118 [(2, 4), (0, x1), (0, x2)] w_2 M2 n_2 (fun r2 w_3 M3 n_3 => CW d 170 [(1, r1), (1, r2)] w_3 M3 n_3 (fun r3 w_4 M4 n_4 => (x3 ≠ 0 → ((m_cmp r3 1) ≤ 0 → Ψ r2 w_4 M4 n_4) ∧ (¬ ((m_cmp r3 1) ≤ 0) → (r3 ≠ 0) ∧ (Ψ (l_div r2 r3) w_4 M4 n_4))) ∧ (¬ (x3 ≠ 0) → ((m_cmp r3 1) ≤ 0 → Ψ r1 w_4 M4 n_4) ∧ (¬ ((m_cmp r3 1) ≤ 0) → (r3 ≠ 0) ∧ (Ψ (l_div r1 r3) w_4 M4 n_4))))))) ∧ (¬ (x3 ≤ 1) → Ψ (-2) w_1 M1 n_1))))) : CW (d + 1) 169 [(2, 1), (0, x1), (0, x2), (0, x3)] w M n Ψ :=
  WPm_in g11_snow (Nat.le_of_ble_eq_true rfl) (b11_snow_0 (WPm_mono gT d _ _ _ _ _ (fun r0 h' z0 => by obtain ⟨_, M1, _, rfl, z0⟩ := z0; exact b11_snow_6 ⟨fun c1 => (WPc.kill [0, 1, 2, 3] (b11_snow_18 (FCmk (z0.1 c1)))), fun c1 => ⟨fun c2 => (WPc.kill [0, 1, 2, 3] (b11_snow_18 (FCmk ((z0.2 c1).1 c2)))), fun c2 => ⟨fun c3 => (WPm_mono gT d _ _ _ _ _ (fun r1 h' z1 => by obtain ⟨_, M2, _, rfl, z1⟩ := z1; exact b11_snow_31 (WPm_mono gT d _ _ _ _ _ (fun r2 h' z2 => by obtain ⟨_, M3, _, rfl, z2⟩ := z2; exact WPc.kill [0, 1, 2] (b11_snow_42 (WPm_mono gT d _ _ _ _ _ (fun r3 h' z3 => by obtain ⟨_, M4, _, rfl, z3⟩ := z3; exact WPc.kill [0, 1, 2] (b11_snow_51 ⟨fun c4 => (WPc.kill [0, 1, 2, 3, 4, 6] (b11_snow_64 ⟨fun c5 => (WPc.kill [0, 1, 2, 3, 4, 6, 8, 10] (b11_snow_83 (FCmk ((z3.1 c4).1 c5)))), fun c5 => ⟨((z3.1 c4).2 c5).1, (WPc.kill [0, 1, 2, 3, 4, 6, 8, 10] (b11_snow_83 (FCmk ((z3.1 c4).2 c5).2)))⟩⟩)), fun c4 => (WPc.kill [0, 1, 2, 3, 4, 6] (b11_snow_64 ⟨fun c6 => (WPc.kill [0, 1, 2, 3, 4, 6, 8, 10] (b11_snow_83 (FCmk ((z3.2 c4).1 c6)))), fun c6 => ⟨((z3.2 c4).2 c6).1, (WPc.kill [0, 1, 2, 3, 4, 6, 8, 10] (b11_snow_83 (FCmk ((z3.2 c4).2 c6).2)))⟩⟩))⟩)) z2))) z1)) (((z0.2 c1).2 c2).1 c3)), fun c3 => (WPc.kill [0, 1, 2, 3] (b11_snow_18 (FCmk (((z0.2 c1).2 c2).2 c3))))⟩⟩⟩) q))
set_option maxRecDepth 20000 in
theorem b11_commonDivisor_44 {w : cQ} {d : Nat} {F : mPost} {x4 : Int} {M : Nat → Nat → Int} {n : Nat × Nat} (q : F (1, x4) (hC w M n)) : WPc t11_commonDivisor (WPm gT d) F (44, [(9, 0), (9, 0), (9, 0), (9, 0), (1, x4), (9, 0), (9, 0), (9, 0), (9, 0), (9, 0), (9, 0)], [], hC w M n) :=
  vcK_ok (K := [9, 44]) 30 _ q
set_option maxRecDepth 20000 in
theorem b11_commonDivisor_9 {w : cQ} {d : Nat} {F : mPost} {x4 x6 x8 : Int} {M : Nat → Nat → Int} {n : Nat × Nat} (q : (100 ≤ x8 → WPc t11_commonDivisor (WPm gT d) F (44, [(9, 0), (9, 0), (9, 0), (9, 0), (1, x4), (9, 0), (1, x6), (9, 0), (0, x8), (9, 0), (9, 0)], [], hC w M n)) ∧ (¬ (100 ≤ x8) → ((m_cmp x6 0) = 0 → WPc t11_commonDivisor (WPm gT d) F (44, [(9, 0), (9, 0), (9, 0), (9, 0), (1, x4), (9, 0), (1, x6), (9, 0), (0, x8), (9, 0), (9, 0)], [], hC w M n)) ∧ (¬ ((m_cmp x6 0) = 0) → (x6 ≠ 0) ∧ (WPc t11_commonDivisor (WPm gT d) F (9, [(9, 0), (9, 0), (9, 0), (9, 0), (1, x6), (9, 0), (1, l_rem x4 x6), (9, 0), (0, w32 (x8 + 1)), (1, l_rem x4 x6), (9, 0)], [], hC w M n))))) : WPc t11_commonDivisor (WPm gT d) F (9, [(9, 0), (9, 0), (9, 0), (9, 0), (1, x4), (9, 0), (1, x6), (9, 0), (0, x8), (9, 0), (9, 0)], [], hC w M n) :=
  vcK_ok (K := [9, 44]) 30 _ q
set_option maxRecDepth 20000 in
theorem b11_commonDivisor_0 {w : cQ} {d : Nat} {F : mPost} {x0 x2 : Int} {M : Nat → Nat → Int} {n : Nat × Nat} (q : WPc t11_commonDivisor (WPm gT d) F (9, [(1, x0), (9, 0), (1, x2), (9, 0), (1, x0), (9, 0), (1, x2), (9, 0), (0, 0), (9, 0), (9, 0)], [], hC w M n)) : WPc t11_commonDivisor (WPm gT d) F (0, [(1, x0), (9, 0), (1, x2), (9, 0), (9, 0), (9, 0), (9, 0), (9, 0), (9, 0), (9, 0), (9, 0)], [], hC w M n) :=
  vcK_ok (K := [9, 44]) 30 _ q
def W11_commonDivisor_9 (d : Nat) (Ψ : Int → cQ → (Nat → Nat → Int) → Nat × Nat → Prop) (x4 x6 x8 : Int) (w : cQ) (M : Nat → Nat → Int) (n : Nat × Nat) : Prop := WPc t11_commonDivisor (WPm gT d) (FC Ψ) (9, [(9, 0), (9, 0), (9, 0), (9, 0), (1, x4), (9, 0), (1, x6), (9, 0), (0, x8), (9, 0), (9, 0)], [], hC w M n)
set_option maxRecDepth 20000 in
theorem v11_commonDivisor_9 {w : cQ} {d : Nat} {Ψ : Int → cQ → (Nat → Nat → Int) → Nat × Nat → Prop} {x4 x6 x8 : Int} {M : Nat → Nat → Int} {n : Nat × Nat} (q : (100 ≤ x8 → Ψ x4 w M n) ∧ (¬ (100 ≤ x8) → ((m_cmp x6 0) = 0 → Ψ x4 w M n) ∧ (¬ ((m_cmp x6 0) = 0) → (x6 ≠ 0) ∧ (W11_commonDivisor_9 d Ψ x6 (l_rem x4 x6) (w32 (x8 + 1)) w M n )))) : W11_commonDivisor_9 d Ψ x4 x6 x8 w M n :=
  b11_commonDivisor_9 ⟨fun c1 => (WPc.kill [6, 8] (b11_commonDivisor_44 (FCmk (q.1 c1)))), fun c1 => ⟨fun c2 => (WPc.kill [6, 8] (b11_commonDivisor_44 (FCmk ((q.2 c1).1 c2)))), fun c2 => ⟨((q.2 c1).2 c2).1, (WPc.kill [9] ((q.2 c1).2 c2).2)⟩⟩⟩
set_option maxRecDepth 20000 in
theorem e11_commonDivisor {w : cQ} {d : Nat} {Ψ : Int → cQ → (Nat → Nat → Int) → Nat × Nat → Prop} {x0 x2 : Int} {M : Nat → Nat → Int} {n : Nat × Nat} (q : W11_commonDivisor_9 d Ψ x0 x2 0 w M n ) : CW (d + 1) 170 [(1, x0), (1, x2)] w M n Ψ :=
  WPm_in g11_commonDivisor (Nat.le_of_ble_eq_true rfl) (b11_commonDivisor_0 (WPc.kill [0, 2] q))
set_option maxRecDepth 20000 in
theorem b11_left_87 {w : cQ} {d : Nat} {F : mPost} {x1 x2 x3 x4 : Int} {M : Nat → Nat → Int} {n : Nat × Nat} (q : WPc t11_left (WPm gT d) F (32, [(2, 1), (0, x1), (0, x2), (0, x3), (0, w32 (x4 + 1))], [], hC w M n)) : WPc t11_left (WPm gT d) F (87, [(2, 1), (0, x1), (0, x2), (0, x3), (0, x4)], [], hC w M n) :=
  vcK_ok (K := [8, 24, 32, 66, 79, 87]) 54 _ q
set_option maxRecDepth 20000 in
theorem b11_left_79 {w : cQ} {d : Nat} {F : mPost} {x1 x2 x3 x4 s0 s1 s2 : Int} {M : Nat → Nat → Int} {n : Nat × Nat} (q : ((m_cmp s0 (w64 (s1 * s2))) < 0 → WPc t11_left (WPm gT d) F (87, [(2, 1), (0, x1), (0, x2), (0, x3), (0, x4)], [], hC w M n)) ∧ (¬ ((m_cmp s0 (w64 (s1 * s2))) < 0) → WPc t11_left (WPm gT d) F (87, [(2, 1), (0, x1), (0, x2), (0, w32 (x3 + 1)), (0, x4)], [], hC w M n))) : WPc t11_left (WPm gT d) F (79, [(2, 1), (0, x1), (0, x2), (0, x3), (0, x4)], [(1, s2), (1, s1), (1, s0)], hC w M n) :=
  vcK_ok (K := [8, 24, 32, 66, 79, 87]) 54 _ q
set_option maxRecDepth 20000 in
theorem b11_left_66 {w : cQ} {d : Nat} {F : mPost} {x1 x2 x3 x4 s0 s1 : Int} {M : Nat → Nat → Int} {n : Nat × Nat} (q : WPm gT d 118 [(2, 4), (0, x1), (0, x4)] (hC w M n) (fun r h' => WPc t11_left (WPm gT d) F (79, [(2, 1), (0, x1), (0, x2), (0, x3), (0, x4)], [(1, r.2), (1, x2), (1, w64 (s0 * s1))], h'))) : WPc t11_left (WPm gT d) F (66, [(2, 1), (0, x1), (0, x2), (0, x3), (0, x4)], [(1, s1), (1, s0)], hC w M n) :=
  vcK_ok (K := [8, 24, 32, 66, 79, 87]) 54 _ q
set_option maxRecDepth 20000 in
theorem b11_left_32 {w : cQ} {d : Nat} {F : mPost} {x1 x2 x3 x4 : Int} {M : Nat → Nat → Int} {n : Nat × Nat} (q : ((M 29 0) ≤ x4 → F (0, x3) (hC w M n)) ∧ (¬ ((M 29 0) ≤ x4) → (x4 = x1 → WPc t11_left (WPm gT d) F (87, [(2, 1), (0, x1), (0, x2), (0, x3), (0, x4)], [], hC w M n)) ∧ (¬ (x4 = x1) → WPm gT d 117 [(2, 4), (0, x1), (0, x4)] (hC w M n) (fun r h' => WPc t11_left (WPm gT d) F (66, [(2, 1), (0, x1), (0, x2), (0, x3), (0, x4)], [(1, r.2), (1, 100)], h'))))) : WPc t11_left (WPm gT d) F (32, [(2, 1), (0, x1), (0, x2), (0, x3), (0, x4)], [], hC w M n) :=
  vcK_ok (K := [8, 24, 32, 66, 79, 87]) 54 _ q
set_option maxRecDepth 20000 in
theorem b11_left_24 {w : cQ} {d : Nat} {F : mPost} {M : Nat → Nat → Int} {n : Nat × Nat} (q : F (0, (-3)) (hC w M n)) : WPc t11_left (WPm gT d) F (24, [(9, 0), (9, 0), (9, 0), (9, 0), (9, 0)], [], hC w M n) :=
  vcK_ok (K := [8, 24, 32, 66, 79, 87]) 54 _ q
set_option maxRecDepth 20000 in
theorem b11_left_8 {w : cQ} {d : Nat} {F : mPost} {x1 x2 s0 : Int} {M : Nat → Nat → Int} {n : Nat × Nat} (q : (s0 ≠ 0 → (x2 < 0 → WPc t11_left (WPm gT d) F (24, [(2, 1), (0, x1), (0, x2), (9, 0), (9, 0)], [], hC w M n)) ∧ (¬ (x2 < 0) → (x2 ≤ 100 → WPc t11_left (WPm gT d) F (32, [(2, 1), (0, x1), (0, x2), (0, 0), (0, 0)], [], hC w M n)) ∧ (¬ (x2 ≤ 100) → WPc t11_left (WPm gT d) F (24, [(2, 1), (0, x1), (0, x2), (9, 0), (9, 0)], [], hC w M n)))) ∧ (¬ (s0 ≠ 0) → F (0, (-2)) (hC w M n))) : WPc t11_left (WPm gT d) F (8, [(2, 1), (0, x1), (0, x2), (9, 0), (9, 0)], [(0, s0)], hC w M n) :=
  vcK_ok (K := [8, 24, 32, 66, 79, 87]) 54 _ q
set_option maxRecDepth 20000 in
theorem b11_left_0 {w : cQ} {d : Nat} {F : mPost} {x1 x2 : Int} {M : Nat → Nat → Int} {n : Nat × Nat} (q : WPm gT d 91 [(2, 4), (0, x1)] (hC w M n) (fun r h' => WPc t11_left (WPm gT d) F (8, [(2, 1), (0, x1), (0, x2), (9, 0), (9, 0)], [(0, r.2)], h'))) : WPc t11_left (WPm gT d) F (0, [(2, 1), (0, x1), (0, x2), (9, 0), (9, 0)], [], hC w M n) :=
  vcK_ok (K := [8, 24, 32, 66, 79, 87]) 54 _ q
def W11_left_32 (d : Nat) (Ψ : Int → cQ → (Nat → Nat → Int) → Nat × Nat → Prop) (x1 x2 x3 x4 : Int) (w : cQ) (M : Nat → Nat → Int) (n : Nat × Nat) : Prop := WPc t11_left (WPm gT d) (FC Ψ) (32, [(2, 1), (0, x1), (0, x2), (0, x3), (0, x4)], [], hC w M n)
set_option maxRecDepth 20000 in
theorem v11_left_32 {w : cQ} {d : Nat} {Ψ : Int → cQ → (Nat → Nat → Int) → Nat × Nat → Prop} {x1 x2 x3 x4 : Int} {M : Nat → Nat → Int} {n : Nat × Nat} (q : ((M 29 0) ≤ x4 → Ψ x3 w M n) ∧ (¬ ((M 29 0) ≤ x4) → (x4 = x1 → W11_left_32 d Ψ x1 x2 x3 (w32 (x4 + 1)) w M n ) ∧ (¬ (x4 = x1) → CW d 117 [(2, 4), (0, x1), (0, x4)] w M n (fun r0 w_1 M1 n_1 => CW d 118 [(2, 4), (0, x1), (0, x4)] w_1 M1 n_1 (fun r1 w_2 M2 n_2 => ((m_cmp (w64 (100 * r0)) (w64 (x2 * r1))) < 0 → W11_left_32 d Ψ x1 x2 x3 (w32 (x4 + 1)) w_2 M2 n_2 ) ∧ (¬ ((m_cmp (w64 (100 * r0)) (w64 (x2 * r1))) < 0) → W11_left_32 d Ψ x1 x2 (w32 (x3 + 1)) (w32 (x4 + 1)) w_2 M2 n_2 )))))) : W11_left_32 d Ψ x1 x2 x3 x4 w M n :=
  b11_left_32 ⟨fun c1 => (FCmk (q.1 c1)), fun c1 => ⟨fun c2 => (b11_left_87 ((q.2 c1).1 c2)), fun c2 => (WPm_mono gT d _ _ _ _ _ (fun r0 h' z0 => by obtain ⟨_, M1, _, rfl, z0⟩ := z0; exact b11_left_66 (WPm_mono gT d _ _ _ _ _ (fun r1 h' z1 => by obtain ⟨_, M2, _, rfl, z1⟩ := z1; exact b11_left_79 ⟨fun c3 => (b11_left_87 (z1.1 c3)), fun c3 => (b11_left_87 (z1.2 c3))⟩) z0)) ((q.2 c1).2 c2))⟩⟩
set_option maxRecDepth 20000 in
theorem e11_left {w : cQ} {d : Nat} {Ψ : Int → cQ → (Nat → Nat → Int) → Nat × Nat → Prop} {x1 x2 : Int} {M : Nat → Nat → Int} {n : Nat × Nat} (q : CW d 91 [(2, 4), (0, x1)] w M n (fun r0 w_1 M1 n_1 => (r0 ≠ 0 → (x2 < 0 → Ψ (-3) w_1 M1 n_1) ∧ (¬ (x2 < 0) → (x2 ≤ 100 → W11_left_32 d Ψ x1 x2 0 0 w_1 M1 n_1 ) ∧ (¬ (x2 ≤ 100) → Ψ (-3) w_1 M1 n_1))) ∧ (¬ (r0 ≠ 0) → Ψ (-2) w_1 M1 n_1))) : CW (d + 1) 171 [(2, 1), (0, x1), (0, x2)] w M n Ψ :=
  WPm_in g11_left (Nat.le_of_ble_eq_true rfl) (b11_left_0 (WPm_mono gT d _ _ _ _ _ (fun r0 h' z0 => by obtain ⟨_, M1, _, rfl, z0⟩ := z0; exact b11_left_8 ⟨fun c4 => ⟨fun c5 => (WPc.kill [0, 1, 2] (b11_left_24 (FCmk ((z0.1 c4).1 c5)))), fun c5 => ⟨fun c6 => (((z0.1 c4).2 c5).1 c6), fun c6 => (WPc.kill [0, 1, 2] (b11_left_24 (FCmk (((z0.1 c4).2 c5).2 c6))))⟩⟩, fun c4 => (FCmk (z0.2 c4))⟩) q))
set_option maxRecDepth 20000 in
theorem b11_count_144 {w : cQ} {d : Nat} {F : mPost} {s0 : Int} {M : Nat → Nat → Int} {n : Nat × Nat} (q : F (0, s0) (hC w M n)) : WPc t11_count (WPm gT d) F (144, [(9, 0), (9, 0)], [(0, s0)], hC w M n) :=
  vcK_ok (K := [93, 137, 144]) 60 _ q
set_option maxRecDepth 20000 in
theorem b11_count_137 {w : cQ} {d : Nat} {F : mPost} {M : Nat → Nat → Int} {n : Nat × Nat} (q : WPm gT d 116 [(2, 4)] (hC w M n) (fun r h' => WPc t11_count (WPm gT d) F (144, [(2, 1), (9, 0)], [(0, r.2)], h'))) : WPc t11_count (WPm gT d) F (137, [(2, 1), (9, 0)], [], hC w M n) :=
  vcK_ok (K := [93, 137, 144]) 60 _ q
set_option maxRecDepth 20000 in
theorem b11_count_93 {w : cQ} {d : Nat} {F : mPost} {M : Nat → Nat → Int} {n : Nat × Nat} (q : F (0, M 29 3) (hC w M n)) : WPc t11_count (WPm gT d) F (93, [(2, 1), (9, 0)], [], hC w M n) :=
  vcK_ok (K := [93, 137, 144]) 60 _ q
set_option maxRecDepth 20000 in
theorem b11_count_0 {w : cQ} {d : Nat} {F : mPost} {x1 : Int} {M : Nat → Nat → Int} {n : Nat × Nat} (q : (x1 = 0 → F (0, M 29 0) (hC w M n)) ∧ (x1 ≠ 0 → ((x1 = 1 → F (0, M 29 1) (hC w M n)) ∧ (x1 ≠ 1 → ((x1 = 2 → F (0, M 29 2) (hC w M n)) ∧ (x1 ≠ 2 → ((x1 = 3 → WPc t11_count (WPm gT d) F (93, [(2, 1), (0, x1)], [], hC w M n)) ∧ (x1 ≠ 3 → ((x1 = 4 → F (0, M 38 3) (hC w M n)) ∧ (x1 ≠ 4 → ((x1 = 5 → F (0, M 38 4) (hC w M n)) ∧ (x1 ≠ 5 → ((x1 = 6 → F (0, M 38 5) (hC w M n)) ∧ (x1 ≠ 6 → ((x1 = 7 → WPc t11_count (WPm gT d) F (137, [(2, 1), (0, x1)], [], hC w M n)) ∧ (x1 ≠ 7 → ((x1 = 8 → F (0, M 9 1) (hC w M n)) ∧ (x1 ≠ 8 → ((x1 = 9 → F (0, M 1 1) (hC w M n)) ∧ (x1 ≠ 9 → ((x1 = 10 → F (0, M 29 6) (hC w M n)) ∧ (x1 ≠ 10 → (F (0, (-1)) (hC w M n)))))))))))))))))))))))) : WPc t11_count (WPm gT d) F (0, [(2, 1), (0, x1)], [], hC w M n) :=
  vcK_ok (K := [93, 137, 144]) 60 _ q
set_option maxRecDepth 20000 in
theorem e11_count {w : cQ} {d : Nat} {Ψ : Int → cQ → (Nat → Nat → Int) → Nat × Nat → Prop} {x1 : Int} {M : Nat → Nat → Int} {n : Nat × Nat} (q : (x1 = 0 → Ψ (M 29 0) w M n) ∧ (x1 ≠ 0 → ((x1 = 1 → Ψ (M 29 1) w M n) ∧ (x1 ≠ 1 → ((x1 = 2 → Ψ (M 29 2) w M n) ∧ (x1 ≠ 2 → ((x1 = 3 → Ψ (M 29 3) w M n) ∧ (x1 ≠ 3 → ((x1 = 4 → Ψ (M 38 3) w M n) ∧ (x1 ≠ 4 → ((x1 = 5 → Ψ (M 38 4) w M n) ∧ (x1 ≠ 5 → ((x1 = 6 → Ψ (M 38 5) w M n) ∧ (x1 ≠ 6 → ((x1 = 7 → CW d 116 [(2, 4)] w M n (fun r0 w_1 M1 n_1 => Ψ r0 w_1 M1 n_1)) ∧ (x1 ≠ 7 → ((x1 = 8 → Ψ (M 9 1) w M n) ∧ (x1 ≠ 8 → ((x1 = 9 → Ψ (M 1 1) w M n) ∧ (x1 ≠ 9 → ((x1 = 10 → Ψ (M 29 6) w M n) ∧ (x1 ≠ 10 → (Ψ (-1) w M n))))))))))))))))))))))) : CW (d + 1) 177 [(2, 1), (0, x1)] w M n Ψ :=
  WPm_in g11_count (Nat.le_of_ble_eq_true rfl) (b11_count_0 ⟨fun c1 => (FCmk (q.1 c1)), fun c1 => ⟨fun c2 => (FCmk ((q.2 c1).1 c2)), fun c2 => ⟨fun c3 => (FCmk (((q.2 c1).2 c2).1 c3)), fun c3 => ⟨fun c4 => (WPc.kill [1] (b11_count_93 (FCmk ((((q.2 c1).2 c2).2 c3).1 c4)))), fun c4 => ⟨fun c5 => (FCmk (((((q.2 c1).2 c2).2 c3).2 c4).1 c5)), fun c5 => ⟨fun c6 => (FCmk ((((((q.2 c1).2 c2).2 c3).2 c4).2 c5).1 c6)), fun c6 => ⟨fun c7 => (FCmk (((((((q.2 c1).2 c2).2 c3).2 c4).2 c5).2 c6).1 c7)), fun c7 => ⟨fun c8 => (WPc.kill [1] (b11_count_137 (WPm_mono gT d _ _ _ _ _ (fun r0 h' z0 => by obtain ⟨_, M1, _, rfl, z0⟩ := z0; exact WPc.kill [0, 1] (b11_count_144 (FCmk z0))) ((((((((q.2 c1).2 c2).2 c3).2 c4).2 c5).2 c6).2 c7).1 c8)))), fun c8 => ⟨fun c9 => (FCmk (((((((((q.2 c1).2 c2).2 c3).2 c4).2 c5).2 c6).2 c7).2 c8).1 c9)), fun c9 => ⟨fun c10 => (FCmk ((((((((((q.2 c1).2 c2).2 c3).2 c4).2 c5).2 c6).2 c7).2 c8).2 c9).1 c10)), fun c10 => ⟨fun c11 => (FCmk (((((((((((q.2 c1).2 c2).2 c3).2 c4).2 c5).2 c6).2 c7).2 c8).2 c9).2 c10).1 c11)), fun c11 => (FCmk (((((((((((q.2 c1).2 c2).2 c3).2 c4).2 c5).2 c6).2 c7).2 c8).2 c9).2 c10).2 c11))⟩⟩⟩⟩⟩⟩⟩⟩⟩⟩⟩)
