/-! ===== conditions of the class's methods (printed by program) ===== -/
set_option maxRecDepth 20000 in
theorem b11_isTray_14 {w : cQ} {d : Nat} {F : mPost} {s0 : Int} {M : Nat → Nat → Int} {n : Nat × Nat} (q : (s0 = 0 ∨ s0 = 1) ∧ F (0, s0) (hC w M n)) : WPc t11_isTray (WPm gT d) F (14, [(9, 0)], [(0, s0)], hC w M n) :=
  vcK_ok (K := [13, 14]) 14 _ q
set_option maxRecDepth 20000 in
theorem b11_isTray_13 {w : cQ} {d : Nat} {F : mPost} {M : Nat → Nat → Int} {n : Nat × Nat} (q : WPc t11_isTray (WPm gT d) F (14, [(9, 0)], [(0, 0)], hC w M n)) : WPc t11_isTray (WPm gT d) F (13, [(9, 0)], [], hC w M n) :=
  vcK_ok (K := [13, 14]) 14 _ q
set_option maxRecDepth 20000 in
theorem b11_isTray_0 {w : cQ} {d : Nat} {F : mPost} {x0 : Int} {M : Nat → Nat → Int} {n : Nat × Nat} (q : (x0 < 0 → WPc t11_isTray (WPm gT d) F (13, [(0, x0)], [], hC w M n)) ∧ (¬ (x0 < 0) → (4 ≤ x0 → WPc t11_isTray (WPm gT d) F (13, [(0, x0)], [], hC w M n)) ∧ (¬ (4 ≤ x0) → WPc t11_isTray (WPm gT d) F (14, [(0, x0)], [(0, 1)], hC w M n)))) : WPc t11_isTray (WPm gT d) F (0, [(0, x0)], [], hC w M n) :=
  vcK_ok (K := [13, 14]) 14 _ q
set_option maxRecDepth 20000 in
theorem e11_isTray {w : cQ} {d : Nat} {Ψ : Int → cQ → (Nat → Nat → Int) → Nat × Nat → Prop} {x0 : Int} {M : Nat → Nat → Int} {n : Nat × Nat} (q : (x0 < 0 → Ψ 0 w M n) ∧ (¬ (x0 < 0) → (4 ≤ x0 → Ψ 0 w M n) ∧ (¬ (4 ≤ x0) → Ψ 1 w M n))) : CW (d + 1) 178 [(0, x0)] w M n Ψ :=
  WPm_in g11_isTray (Nat.le_of_ble_eq_true rfl) (b11_isTray_0 ⟨fun c1 => (WPc.kill [0] (b11_isTray_13 (WPc.kill [0] (b11_isTray_14 ⟨by decide, FCmk (q.1 c1)⟩)))), fun c1 => ⟨fun c2 => (WPc.kill [0] (b11_isTray_13 (WPc.kill [0] (b11_isTray_14 ⟨by decide, FCmk ((q.2 c1).1 c2)⟩)))), fun c2 => (WPc.kill [0] (b11_isTray_14 ⟨by decide, FCmk ((q.2 c1).2 c2)⟩))⟩⟩)
set_option maxRecDepth 20000 in
theorem b11_areTwo_32 {w : cQ} {d : Nat} {F : mPost} {s0 : Int} {M : Nat → Nat → Int} {n : Nat × Nat} (q : (s0 = 0 ∨ s0 = 1) ∧ F (0, s0) (hC w M n)) : WPc t11_areTwo (WPm gT d) F (32, [(9, 0), (9, 0), (9, 0)], [(0, s0)], hC w M n) :=
  vcK_ok (K := [8, 19, 31, 32]) 22 _ q
set_option maxRecDepth 20000 in
theorem b11_areTwo_31 {w : cQ} {d : Nat} {F : mPost} {M : Nat → Nat → Int} {n : Nat × Nat} (q : WPc t11_areTwo (WPm gT d) F (32, [(9, 0), (9, 0), (9, 0)], [(0, 0)], hC w M n)) : WPc t11_areTwo (WPm gT d) F (31, [(9, 0), (9, 0), (9, 0)], [], hC w M n) :=
  vcK_ok (K := [8, 19, 31, 32]) 22 _ q
set_option maxRecDepth 20000 in
theorem b11_areTwo_19 {w : cQ} {d : Nat} {F : mPost} {x1 x2 s0 : Int} {M : Nat → Nat → Int} {n : Nat × Nat} (q : (s0 = 0 → WPc t11_areTwo (WPm gT d) F (31, [(9, 0), (0, x1), (0, x2)], [], hC w M n)) ∧ (¬ (s0 = 0) → (x1 = x2 → WPc t11_areTwo (WPm gT d) F (31, [(9, 0), (0, x1), (0, x2)], [], hC w M n)) ∧ (¬ (x1 = x2) → WPc t11_areTwo (WPm gT d) F (32, [(9, 0), (0, x1), (0, x2)], [(0, 1)], hC w M n)))) : WPc t11_areTwo (WPm gT d) F (19, [(9, 0), (0, x1), (0, x2)], [(0, s0)], hC w M n) :=
  vcK_ok (K := [8, 19, 31, 32]) 22 _ q
set_option maxRecDepth 20000 in
theorem b11_areTwo_8 {w : cQ} {d : Nat} {F : mPost} {x1 x2 s0 : Int} {M : Nat → Nat → Int} {n : Nat × Nat} (q : (s0 = 0 → WPc t11_areTwo (WPm gT d) F (31, [(2, 1), (0, x1), (0, x2)], [], hC w M n)) ∧ (¬ (s0 = 0) → WPm gT d 91 [(2, 4), (0, x2)] (hC w M n) (fun r h' => WPc t11_areTwo (WPm gT d) F (19, [(2, 1), (0, x1), (0, x2)], [(0, r.2)], h')))) : WPc t11_areTwo (WPm gT d) F (8, [(2, 1), (0, x1), (0, x2)], [(0, s0)], hC w M n) :=
  vcK_ok (K := [8, 19, 31, 32]) 22 _ q
set_option maxRecDepth 20000 in
theorem b11_areTwo_0 {w : cQ} {d : Nat} {F : mPost} {x1 x2 : Int} {M : Nat → Nat → Int} {n : Nat × Nat} (q : WPm gT d 91 [(2, 4), (0, x1)] (hC w M n) (fun r h' => WPc t11_areTwo (WPm gT d) F (8, [(2, 1), (0, x1), (0, x2)], [(0, r.2)], h'))) : WPc t11_areTwo (WPm gT d) F (0, [(2, 1), (0, x1), (0, x2)], [], hC w M n) :=
  vcK_ok (K := [8, 19, 31, 32]) 22 _ q
set_option maxRecDepth 20000 in
theorem e11_areTwo {w : cQ} {d : Nat} {Ψ : Int → cQ → (Nat → Nat → Int) → Nat × Nat → Prop} {x1 x2 : Int} {M : Nat → Nat → Int} {n : Nat × Nat} (q : CW d 91 [(2, 4), (0, x1)] w M n (fun r0 w_1 M1 n_1 => (r0 = 0 → Ψ 0 w_1 M1 n_1) ∧ (¬ (r0 = 0) → CW d 91 [(2, 4), (0, x2)] w_1 M1 n_1 (fun r1 w_2 M2 n_2 => (r1 = 0 → Ψ 0 w_2 M2 n_2) ∧ (¬ (r1 = 0) → (x1 = x2 → Ψ 0 w_2 M2 n_2) ∧ (¬ (x1 = x2) → Ψ 1 w_2 M2 n_2)))))) : CW (d + 1) 179 [(2, 1), (0, x1), (0, x2)] w M n Ψ :=
  WPm_in g11_areTwo (Nat.le_of_ble_eq_true rfl) (b11_areTwo_0 (WPm_mono gT d _ _ _ _ _ (fun r0 h' z0 => by obtain ⟨_, M1, _, rfl, z0⟩ := z0; exact b11_areTwo_8 ⟨fun c1 => (WPc.kill [0, 1, 2] (b11_areTwo_31 (WPc.kill [0, 1, 2] (b11_areTwo_32 ⟨by decide, FCmk (z0.1 c1)⟩)))), fun c1 => (WPm_mono gT d _ _ _ _ _ (fun r1 h' z1 => by obtain ⟨_, M2, _, rfl, z1⟩ := z1; exact WPc.kill [0] (b11_areTwo_19 ⟨fun c2 => (WPc.kill [0, 1, 2] (b11_areTwo_31 (WPc.kill [0, 1, 2] (b11_areTwo_32 ⟨by decide, FCmk (z1.1 c2)⟩)))), fun c2 => ⟨fun c3 => (WPc.kill [0, 1, 2] (b11_areTwo_31 (WPc.kill [0, 1, 2] (b11_areTwo_32 ⟨by decide, FCmk ((z1.2 c2).1 c3)⟩)))), fun c3 => (WPc.kill [0, 1, 2] (b11_areTwo_32 ⟨by decide, FCmk ((z1.2 c2).2 c3)⟩))⟩⟩)) (z0.2 c1))⟩) q))
set_option maxRecDepth 20000 in
theorem b11_areMoments_27 {w : cQ} {d : Nat} {F : mPost} {s0 : Int} {M : Nat → Nat → Int} {n : Nat × Nat} (q : (s0 = 0 ∨ s0 = 1) ∧ F (0, s0) (hC w M n)) : WPc t11_areMoments (WPm gT d) F (27, [(9, 0), (9, 0), (9, 0)], [(0, s0)], hC w M n) :=
  vcK_ok (K := [8, 19, 26, 27]) 19 _ q
set_option maxRecDepth 20000 in
theorem b11_areMoments_26 {w : cQ} {d : Nat} {F : mPost} {M : Nat → Nat → Int} {n : Nat × Nat} (q : WPc t11_areMoments (WPm gT d) F (27, [(9, 0), (9, 0), (9, 0)], [(0, 0)], hC w M n)) : WPc t11_areMoments (WPm gT d) F (26, [(9, 0), (9, 0), (9, 0)], [], hC w M n) :=
  vcK_ok (K := [8, 19, 26, 27]) 19 _ q
set_option maxRecDepth 20000 in
theorem b11_areMoments_19 {w : cQ} {d : Nat} {F : mPost} {s0 : Int} {M : Nat → Nat → Int} {n : Nat × Nat} (q : (s0 = 0 → WPc t11_areMoments (WPm gT d) F (26, [(9, 0), (9, 0), (9, 0)], [], hC w M n)) ∧ (¬ (s0 = 0) → WPc t11_areMoments (WPm gT d) F (27, [(9, 0), (9, 0), (9, 0)], [(0, 1)], hC w M n))) : WPc t11_areMoments (WPm gT d) F (19, [(9, 0), (9, 0), (9, 0)], [(0, s0)], hC w M n) :=
  vcK_ok (K := [8, 19, 26, 27]) 19 _ q
set_option maxRecDepth 20000 in
theorem b11_areMoments_8 {w : cQ} {d : Nat} {F : mPost} {x2 s0 : Int} {M : Nat → Nat → Int} {n : Nat × Nat} (q : (s0 = 0 → WPc t11_areMoments (WPm gT d) F (26, [(2, 1), (9, 0), (0, x2)], [], hC w M n)) ∧ (¬ (s0 = 0) → WPm gT d 92 [(2, 4), (0, x2)] (hC w M n) (fun r h' => WPc t11_areMoments (WPm gT d) F (19, [(2, 1), (9, 0), (0, x2)], [(0, r.2)], h')))) : WPc t11_areMoments (WPm gT d) F (8, [(2, 1), (9, 0), (0, x2)], [(0, s0)], hC w M n) :=
  vcK_ok (K := [8, 19, 26, 27]) 19 _ q
set_option maxRecDepth 20000 in
theorem b11_areMoments_0 {w : cQ} {d : Nat} {F : mPost} {x1 x2 : Int} {M : Nat → Nat → Int} {n : Nat × Nat} (q : WPm gT d 92 [(2, 4), (0, x1)] (hC w M n) (fun r h' => WPc t11_areMoments (WPm gT d) F (8, [(2, 1), (0, x1), (0, x2)], [(0, r.2)], h'))) : WPc t11_areMoments (WPm gT d) F (0, [(2, 1), (0, x1), (0, x2)], [], hC w M n) :=
  vcK_ok (K := [8, 19, 26, 27]) 19 _ q
set_option maxRecDepth 20000 in
theorem e11_areMoments {w : cQ} {d : Nat} {Ψ : Int → cQ → (Nat → Nat → Int) → Nat × Nat → Prop} {x1 x2 : Int} {M : Nat → Nat → Int} {n : Nat × Nat} (q : CW d 92 [(2, 4), (0, x1)] w M n (fun r0 w_1 M1 n_1 => (r0 = 0 → Ψ 0 w_1 M1 n_1) ∧ (¬ (r0 = 0) → CW d 92 [(2, 4), (0, x2)] w_1 M1 n_1 (fun r1 w_2 M2 n_2 => (r1 = 0 → Ψ 0 w_2 M2 n_2) ∧ (¬ (r1 = 0) → Ψ 1 w_2 M2 n_2))))) : CW (d + 1) 180 [(2, 1), (0, x1), (0, x2)] w M n Ψ :=
  WPm_in g11_areMoments (Nat.le_of_ble_eq_true rfl) (b11_areMoments_0 (WPm_mono gT d _ _ _ _ _ (fun r0 h' z0 => by obtain ⟨_, M1, _, rfl, z0⟩ := z0; exact WPc.kill [1] (b11_areMoments_8 ⟨fun c1 => (WPc.kill [0, 1, 2] (b11_areMoments_26 (WPc.kill [0, 1, 2] (b11_areMoments_27 ⟨by decide, FCmk (z0.1 c1)⟩)))), fun c1 => (WPm_mono gT d _ _ _ _ _ (fun r1 h' z1 => by obtain ⟨_, M2, _, rfl, z1⟩ := z1; exact WPc.kill [0, 1, 2] (b11_areMoments_19 ⟨fun c2 => (WPc.kill [0, 1, 2] (b11_areMoments_26 (WPc.kill [0, 1, 2] (b11_areMoments_27 ⟨by decide, FCmk (z1.1 c2)⟩)))), fun c2 => (WPc.kill [0, 1, 2] (b11_areMoments_27 ⟨by decide, FCmk (z1.2 c2)⟩))⟩)) (z0.2 c1))⟩)) q))
set_option maxRecDepth 20000 in
theorem b11_wiresBetween_0 {w : cQ} {d : Nat} {F : mPost} {x0 x1 : Int} {M : Nat → Nat → Int} {n : Nat × Nat} (q : F (0, w32 ((m_shl 1 (if x0 < x1 then x1 else x0)) - (m_shl 1 (if x1 < x0 then x1 else x0)))) (hC w M n)) : WPc t11_wiresBetween (WPm gT d) F (0, [(0, x0), (0, x1)], [], hC w M n) :=
  vcK_ok (K := []) 17 _ q
set_option maxRecDepth 20000 in
theorem e11_wiresBetween {w : cQ} {d : Nat} {Ψ : Int → cQ → (Nat → Nat → Int) → Nat × Nat → Prop} {x0 x1 : Int} {M : Nat → Nat → Int} {n : Nat × Nat} (q : Ψ (w32 ((m_shl 1 (if x0 < x1 then x1 else x0)) - (m_shl 1 (if x1 < x0 then x1 else x0)))) w M n) : CW (d + 1) 181 [(0, x0), (0, x1)] w M n Ψ :=
  WPm_in g11_wiresBetween (Nat.le_of_ble_eq_true rfl) (b11_wiresBetween_0 (FCmk q))
