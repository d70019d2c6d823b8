/-! ===== conditions of the class's methods (printed by program) ===== -/
set_option maxRecDepth 20000 in
theorem b4_takeNumber_88 {w1 : Nat} {w2 : cQr} {d : Nat} {F : mPost} {s1 : Int} {M : Nat → Nat → Int} {n : Nat × Nat} (q : F (9, 0) (hC (2, w1, w2) (sI M 3 7 s1) n)) : WPc t4_takeNumber (WPm gT d) F (88, [(9, 0), (9, 0)], [(0, s1), (2, 3)], hC (2, w1, w2) M n) :=
  vcK_ok (K := [10, 27, 61, 67, 88]) 57 _ q
set_option maxRecDepth 20000 in
theorem b4_takeNumber_67 {w1 : Nat} {w2 : cQr} {d : Nat} {F : mPost} {x1 : Int} {M : Nat → Nat → Int} {n : Nat × Nat} (q : ((w32 (x1 - ((sI M 3 6 x1) 3 8))) ≤ 3 → WPc t4_takeNumber (WPm gT d) F (88, [(2, 3), (0, x1)], [(0, 2), (2, 3)], hC (2, w1, w2) (sI M 3 6 x1) n)) ∧ (¬ ((w32 (x1 - ((sI M 3 6 x1) 3 8))) ≤ 3) → WPc t4_takeNumber (WPm gT d) F (88, [(2, 3), (0, x1)], [(0, 1), (2, 3)], hC (2, w1, w2) (sI M 3 6 x1) n))) : WPc t4_takeNumber (WPm gT d) F (67, [(2, 3), (0, x1)], [], hC (2, w1, w2) M n) :=
  vcK_ok (K := [10, 27, 61, 67, 88]) 57 _ q
set_option maxRecDepth 20000 in
theorem b4_takeNumber_61 {w1 : Nat} {w2 : cQr} {d : Nat} {F : mPost} {x1 : Int} {M : Nat → Nat → Int} {n : Nat × Nat} (q : WPc t4_takeNumber (WPm gT d) F (10, [(2, 3), (0, w32 (x1 + 1))], [], hC (2, w1, w2) M n)) : WPc t4_takeNumber (WPm gT d) F (61, [(2, 3), (0, x1)], [], hC (2, w1, w2) M n) :=
  vcK_ok (K := [10, 27, 61, 67, 88]) 57 _ q
set_option maxRecDepth 20000 in
theorem b4_takeNumber_27 {w1 : Nat} {w2 : cQr} {d : Nat} {F : mPost} {x1 s0 : Int} {M : Nat → Nat → Int} {n : Nat × Nat} (q : (s0 = 0 → WPc t4_takeNumber (WPm gT d) F (67, [(2, 3), (0, x1)], [], hC (2, w1, w2) M n)) ∧ (¬ (s0 = 0) → ((w32 ((M 3 8) + 3)) ≤ x1 → WPc t4_takeNumber (WPm gT d) F (61, [(2, 3), (0, x1)], [], hC (2, w1, w2) M n)) ∧ (¬ ((w32 ((M 3 8) + 3)) ≤ x1) → (0 ≤ x1 ∧ x1 < ((900 : Nat) : Int)) ∧ (WPc t4_takeNumber (WPm gT d) F (61, [(2, 3), (0, x1)], [], hC (2, w1, w2) (sI M 3 9 (w32 ((w32 ((w32 ((M 3 9) * 10)) + (M 2 x1.toNat))) - 48))) n))))) : WPc t4_takeNumber (WPm gT d) F (27, [(2, 3), (0, x1)], [(0, s0)], hC (2, w1, w2) M n) :=
  vcK_ok (K := [10, 27, 61, 67, 88]) 57 _ q
set_option maxRecDepth 20000 in
theorem b4_takeNumber_10 {w1 : Nat} {w2 : cQr} {d : Nat} {F : mPost} {x1 : Int} {M : Nat → Nat → Int} {n : Nat × Nat} (q : ((M 3 5) ≤ x1 → WPc t4_takeNumber (WPm gT d) F (67, [(2, 3), (0, x1)], [], hC (2, w1, w2) M n)) ∧ (¬ ((M 3 5) ≤ x1) → (0 ≤ x1 ∧ x1 < ((900 : Nat) : Int)) ∧ (WPm gT d 48 [(0, M 2 x1.toNat)] (hC (2, w1, w2) M n) (fun r h' => WPc t4_takeNumber (WPm gT d) F (27, [(2, 3), (0, x1)], [(0, r.2)], h'))))) : WPc t4_takeNumber (WPm gT d) F (10, [(2, 3), (0, x1)], [], hC (2, w1, w2) M n) :=
  vcK_ok (K := [10, 27, 61, 67, 88]) 57 _ q
set_option maxRecDepth 20000 in
theorem b4_takeNumber_0 {w1 : Nat} {w2 : cQr} {d : Nat} {F : mPost} {M : Nat → Nat → Int} {n : Nat × Nat} (q : WPc t4_takeNumber (WPm gT d) F (10, [(2, 3), (0, M 3 8)], [], hC (2, w1, w2) (sI M 3 9 0) n)) : WPc t4_takeNumber (WPm gT d) F (0, [(2, 3), (9, 0)], [], hC (2, w1, w2) M n) :=
  vcK_ok (K := [10, 27, 61, 67, 88]) 57 _ q
def W4_takeNumber_10 (d : Nat) (Ψ : Int → cQ → (Nat → Nat → Int) → Nat × Nat → Prop) (x1 : Int) (w : cQ) (M : Nat → Nat → Int) (n : Nat × Nat) : Prop := WPc t4_takeNumber (WPm gT d) (FC Ψ) (10, [(2, 3), (0, x1)], [], hC w M n)
set_option maxRecDepth 20000 in
theorem v4_takeNumber_10 {w1 : Nat} {w2 : cQr} {d : Nat} {Ψ : Int → cQ → (Nat → Nat → Int) → Nat × Nat → Prop} {x1 : Int} {M : Nat → Nat → Int} {n : Nat × Nat} (q : ((M 3 5) ≤ x1 → ((w32 (x1 - ((sI M 3 6 x1) 3 8))) ≤ 3 → Ψ 0 (2, w1, w2) (sI (sI M 3 6 x1) 3 7 2) n) ∧ (¬ ((w32 (x1 - ((sI M 3 6 x1) 3 8))) ≤ 3) → Ψ 0 (2, w1, w2) (sI (sI M 3 6 x1) 3 7 1) n)) ∧ (¬ ((M 3 5) ≤ x1) → (0 ≤ x1 ∧ x1 < ((900 : Nat) : Int)) ∧ (CW d 48 [(0, M 2 x1.toNat)] (2, w1, w2) M n (fun r0 w_1 M1 n_1 => (r0 = 0 → ((w32 (x1 - ((sI M1 3 6 x1) 3 8))) ≤ 3 → Ψ 0 w_1 (sI (sI M1 3 6 x1) 3 7 2) n_1) ∧ (¬ ((w32 (x1 - ((sI M1 3 6 x1) 3 8))) ≤ 3) → Ψ 0 w_1 (sI (sI M1 3 6 x1) 3 7 1) n_1)) ∧ (¬ (r0 = 0) → ((w32 ((M1 3 8) + 3)) ≤ x1 → W4_takeNumber_10 d Ψ (w32 (x1 + 1)) w_1 M1 n_1 ) ∧ (¬ ((w32 ((M1 3 8) + 3)) ≤ x1) → (0 ≤ x1 ∧ x1 < ((900 : Nat) : Int)) ∧ (W4_takeNumber_10 d Ψ (w32 (x1 + 1)) w_1 (sI M1 3 9 (w32 ((w32 ((w32 ((M1 3 9) * 10)) + (M1 2 x1.toNat))) - 48))) n_1 ))))))) : W4_takeNumber_10 d Ψ x1 (2, w1, w2) M n :=
  b4_takeNumber_10 ⟨fun c1 => (b4_takeNumber_67 ⟨fun c2 => (WPc.kill [0, 1] (b4_takeNumber_88 (FCmk ((q.1 c1).1 c2)))), fun c2 => (WPc.kill [0, 1] (b4_takeNumber_88 (FCmk ((q.1 c1).2 c2))))⟩), fun c1 => ⟨(q.2 c1).1, (WPm_mono gT d _ _ _ _ _ (fun r0 h' z0 => by obtain ⟨_, M1, _, rfl, z0⟩ := z0; exact b4_takeNumber_27 ⟨fun c3 => (b4_takeNumber_67 ⟨fun c4 => (WPc.kill [0, 1] (b4_takeNumber_88 (FCmk ((z0.1 c3).1 c4)))), fun c4 => (WPc.kill [0, 1] (b4_takeNumber_88 (FCmk ((z0.1 c3).2 c4))))⟩), fun c3 => ⟨fun c5 => (b4_takeNumber_61 ((z0.2 c3).1 c5)), fun c5 => ⟨((z0.2 c3).2 c5).1, (b4_takeNumber_61 ((z0.2 c3).2 c5).2)⟩⟩⟩) (q.2 c1).2)⟩⟩
set_option maxRecDepth 20000 in
theorem e4_takeNumber {w1 : Nat} {w2 : cQr} {d : Nat} {Ψ : Int → cQ → (Nat → Nat → Int) → Nat × Nat → Prop} {M : Nat → Nat → Int} {n : Nat × Nat} (q : W4_takeNumber_10 d Ψ (M 3 8) (2, w1, w2) (sI M 3 9 0) n ) : CW (d + 1) 46 [(2, 3)] (2, w1, w2) M n Ψ :=
  WPm_in g4_takeNumber (Nat.le_of_ble_eq_true rfl) (b4_takeNumber_0 q)
set_option maxRecDepth 20000 in
theorem b4_isSmall_17 {w : cQ} {d : Nat} {F : mPost} {s0 : Int} {M : Nat → Nat → Int} {n : Nat × Nat} (q : (s0 = 0 ∨ s0 = 1) ∧ F (0, s0) (hC w M n)) : WPc t4_isSmall (WPm gT d) F (17, [(9, 0)], [(0, s0)], hC w M n) :=
  vcK_ok (K := [16, 17]) 15 _ q
set_option maxRecDepth 20000 in
theorem b4_isSmall_16 {w : cQ} {d : Nat} {F : mPost} {M : Nat → Nat → Int} {n : Nat × Nat} (q : WPc t4_isSmall (WPm gT d) F (17, [(9, 0)], [(0, 0)], hC w M n)) : WPc t4_isSmall (WPm gT d) F (16, [(9, 0)], [], hC w M n) :=
  vcK_ok (K := [16, 17]) 15 _ q
set_option maxRecDepth 20000 in
theorem b4_isSmall_0 {w : cQ} {d : Nat} {F : mPost} {x0 : Int} {M : Nat → Nat → Int} {n : Nat × Nat} (q : (x0 < 97 → WPc t4_isSmall (WPm gT d) F (16, [(0, x0)], [], hC w M n)) ∧ (¬ (x0 < 97) → (122 < x0 → WPc t4_isSmall (WPm gT d) F (16, [(0, x0)], [], hC w M n)) ∧ (¬ (122 < x0) → WPc t4_isSmall (WPm gT d) F (17, [(0, x0)], [(0, 1)], hC w M n)))) : WPc t4_isSmall (WPm gT d) F (0, [(0, x0)], [], hC w M n) :=
  vcK_ok (K := [16, 17]) 15 _ q
set_option maxRecDepth 20000 in
theorem e4_isSmall {w : cQ} {d : Nat} {Ψ : Int → cQ → (Nat → Nat → Int) → Nat × Nat → Prop} {x0 : Int} {M : Nat → Nat → Int} {n : Nat × Nat} (q : (x0 < 97 → Ψ 0 w M n) ∧ (¬ (x0 < 97) → (122 < x0 → Ψ 0 w M n) ∧ (¬ (122 < x0) → Ψ 1 w M n))) : CW (d + 1) 47 [(0, x0)] w M n Ψ :=
  WPm_in g4_isSmall (Nat.le_of_ble_eq_true rfl) (b4_isSmall_0 ⟨fun c1 => (WPc.kill [0] (b4_isSmall_16 (WPc.kill [0] (b4_isSmall_17 ⟨by decide, FCmk (q.1 c1)⟩)))), fun c1 => ⟨fun c2 => (WPc.kill [0] (b4_isSmall_16 (WPc.kill [0] (b4_isSmall_17 ⟨by decide, FCmk ((q.2 c1).1 c2)⟩)))), fun c2 => (WPc.kill [0] (b4_isSmall_17 ⟨by decide, FCmk ((q.2 c1).2 c2)⟩))⟩⟩)
set_option maxRecDepth 20000 in
theorem b4_isDigit_17 {w : cQ} {d : Nat} {F : mPost} {s0 : Int} {M : Nat → Nat → Int} {n : Nat × Nat} (q : (s0 = 0 ∨ s0 = 1) ∧ F (0, s0) (hC w M n)) : WPc t4_isDigit (WPm gT d) F (17, [(9, 0)], [(0, s0)], hC w M n) :=
  vcK_ok (K := [16, 17]) 15 _ q
set_option maxRecDepth 20000 in
theorem b4_isDigit_16 {w : cQ} {d : Nat} {F : mPost} {M : Nat → Nat → Int} {n : Nat × Nat} (q : WPc t4_isDigit (WPm gT d) F (17, [(9, 0)], [(0, 0)], hC w M n)) : WPc t4_isDigit (WPm gT d) F (16, [(9, 0)], [], hC w M n) :=
  vcK_ok (K := [16, 17]) 15 _ q
set_option maxRecDepth 20000 in
theorem b4_isDigit_0 {w : cQ} {d : Nat} {F : mPost} {x0 : Int} {M : Nat → Nat → Int} {n : Nat × Nat} (q : (x0 < 48 → WPc t4_isDigit (WPm gT d) F (16, [(0, x0)], [], hC w M n)) ∧ (¬ (x0 < 48) → (57 < x0 → WPc t4_isDigit (WPm gT d) F (16, [(0, x0)], [], hC w M n)) ∧ (¬ (57 < x0) → WPc t4_isDigit (WPm gT d) F (17, [(0, x0)], [(0, 1)], hC w M n)))) : WPc t4_isDigit (WPm gT d) F (0, [(0, x0)], [], hC w M n) :=
  vcK_ok (K := [16, 17]) 15 _ q
set_option maxRecDepth 20000 in
theorem e4_isDigit {w : cQ} {d : Nat} {Ψ : Int → cQ → (Nat → Nat → Int) → Nat × Nat → Prop} {x0 : Int} {M : Nat → Nat → Int} {n : Nat × Nat} (q : (x0 < 48 → Ψ 0 w M n) ∧ (¬ (x0 < 48) → (57 < x0 → Ψ 0 w M n) ∧ (¬ (57 < x0) → Ψ 1 w M n))) : CW (d + 1) 48 [(0, x0)] w M n Ψ :=
  WPm_in g4_isDigit (Nat.le_of_ble_eq_true rfl) (b4_isDigit_0 ⟨fun c1 => (WPc.kill [0] (b4_isDigit_16 (WPc.kill [0] (b4_isDigit_17 ⟨by decide, FCmk (q.1 c1)⟩)))), fun c1 => ⟨fun c2 => (WPc.kill [0] (b4_isDigit_16 (WPc.kill [0] (b4_isDigit_17 ⟨by decide, FCmk ((q.2 c1).1 c2)⟩)))), fun c2 => (WPc.kill [0] (b4_isDigit_17 ⟨by decide, FCmk ((q.2 c1).2 c2)⟩))⟩⟩)
set_option maxRecDepth 20000 in
theorem b5_takeT0_101 {w : cQ} {d : Nat} {F : mPost} {s1 : Int} {M : Nat → Nat → Int} {n : Nat × Nat} (q : F (0, 0) (hC w (sI M 15 3 s1) n)) : WPc t5_take (WPm gT d) F (101, [(9, 0), (9, 0), (9, 0), (9, 0), (9, 0), (9, 0), (9, 0)], [(0, s1), (2, 15)], hC w M n) :=
  vcK_ok (K := [4, 27, 41, 56, 74, 101]) 61 _ q
set_option maxRecDepth 20000 in
theorem b5_takeT0_74 {w : cQ} {d : Nat} {F : mPost} {M : Nat → Nat → Int} {n : Nat × Nat} (q : F (0, (-3)) (hC w M n)) : WPc t5_take (WPm gT d) F (74, [(9, 0), (9, 0), (9, 0), (9, 0), (9, 0), (9, 0), (9, 0)], [], hC w M n) :=
  vcK_ok (K := [4, 27, 41, 56, 74, 101]) 61 _ q
set_option maxRecDepth 20000 in
theorem b5_takeT0_56 {w : cQ} {d : Nat} {F : mPost} {x2 x3 x4 s0 : Int} {M : Nat → Nat → Int} {n : Nat × Nat} (q : ((m_cmp s0 x2) < 0 → WPc t5_take (WPm gT d) F (74, [(2, 15), (2, 85), (0, x2), (0, x3), (0, x4), (1, s0), (9, 0)], [], hC w M n)) ∧ (¬ ((m_cmp s0 x2) < 0) → ((m_cmp s0 x3) < 0 → (0 ≤ x4 ∧ x4 < ((12 : Nat) : Int) ∧ True) ∧ (WPc t5_take (WPm gT d) F (41, [(2, 15), (2, 85), (0, x2), (0, x3), (0, w32 (x4 + 1)), (1, s0), (9, 0)], [], hC w (sI M 104 x4.toNat (w32 s0)) n))) ∧ (¬ ((m_cmp s0 x3) < 0) → WPc t5_take (WPm gT d) F (74, [(2, 15), (2, 85), (0, x2), (0, x3), (0, x4), (1, s0), (9, 0)], [], hC w M n)))) : WPc t5_take (WPm gT d) F (56, [(2, 15), (2, 85), (0, x2), (0, x3), (0, x4), (9, 0), (9, 0)], [(1, s0)], hC w M n) :=
  vcK_ok (K := [4, 27, 41, 56, 74, 101]) 61 _ q
set_option maxRecDepth 20000 in
theorem b5_takeT0_41 {w : cQ} {d : Nat} {F : mPost} {x2 x3 x4 : Int} {M : Nat → Nat → Int} {n : Nat × Nat} (q : ((M 15 2) ≤ x4 → WPm gT d 98 [(2, 4)] (hC w M n) (fun r h' => WPc t5_take (WPm gT d) F (101, [(2, 15), (2, 85), (0, x2), (0, x3), (0, x4), (9, 0), (9, 0)], [(0, r.2), (2, 15)], h'))) ∧ (¬ ((M 15 2) ≤ x4) → WPm gT d 75 [(2, 85), (0, x4)] (hC w M n) (fun r h' => WPc t5_take (WPm gT d) F (56, [(2, 15), (2, 85), (0, x2), (0, x3), (0, x4), (9, 0), (9, 0)], [(1, r.2)], h')))) : WPc t5_take (WPm gT d) F (41, [(2, 15), (2, 85), (0, x2), (0, x3), (0, x4), (9, 0), (9, 0)], [], hC w M n) :=
  vcK_ok (K := [4, 27, 41, 56, 74, 101]) 61 _ q
set_option maxRecDepth 20000 in
theorem b5_takeT0_27 {w : cQ} {d : Nat} {F : mPost} {M : Nat → Nat → Int} {n : Nat × Nat} (q : F (0, (-4)) (hC w M n)) : WPc t5_take (WPm gT d) F (27, [(9, 0), (9, 0), (9, 0), (9, 0), (9, 0), (9, 0), (9, 0)], [], hC w M n) :=
  vcK_ok (K := [4, 27, 41, 56, 74, 101]) 61 _ q
set_option maxRecDepth 20000 in
theorem b5_takeT0_4 {w : cQ} {d : Nat} {F : mPost} {x2 x3 s0 : Int} {M : Nat → Nat → Int} {n : Nat × Nat} (q : (s0 = 0 → ((M 85 2) < 1 → WPc t5_take (WPm gT d) F (27, [(2, 15), (2, 85), (0, x2), (0, x3), (9, 0), (9, 0), (9, 0)], [], hC w M n)) ∧ (¬ ((M 85 2) < 1) → ((M 85 2) ≤ 12 → WPc t5_take (WPm gT d) F (41, [(2, 15), (2, 85), (0, x2), (0, x3), (0, 0), (9, 0), (9, 0)], [], hC w (sI M 15 2 (M 85 2)) n)) ∧ (¬ ((M 85 2) ≤ 12) → WPc t5_take (WPm gT d) F (27, [(2, 15), (2, 85), (0, x2), (0, x3), (9, 0), (9, 0), (9, 0)], [], hC w M n)))) ∧ (¬ (s0 = 0) → F (0, (-6)) (hC w M n))) : WPc t5_take (WPm gT d) F (4, [(2, 15), (2, 85), (0, x2), (0, x3), (9, 0), (9, 0), (9, 0)], [(0, s0)], hC w M n) :=
  vcK_ok (K := [4, 27, 41, 56, 74, 101]) 61 _ q
set_option maxRecDepth 20000 in
theorem b5_takeT0_0 {w : cQ} {d : Nat} {F : mPost} {x2 x3 : Int} {M : Nat → Nat → Int} {n : Nat × Nat} (q : WPm gT d 73 [(2, 85)] (hC w M n) (fun r h' => WPc t5_take (WPm gT d) F (4, [(2, 15), (2, 85), (0, x2), (0, x3), (9, 0), (9, 0), (9, 0)], [(0, r.2)], h'))) : WPc t5_take (WPm gT d) F (0, [(2, 15), (2, 85), (0, x2), (0, x3), (9, 0), (9, 0), (9, 0)], [], hC w M n) :=
  vcK_ok (K := [4, 27, 41, 56, 74, 101]) 61 _ q
def W5_takeT0_41 (d : Nat) (Ψ : Int → cQ → (Nat → Nat → Int) → Nat × Nat → Prop) (x2 x3 x4 : Int) (w : cQ) (M : Nat → Nat → Int) (n : Nat × Nat) : Prop := WPc t5_take (WPm gT d) (FC Ψ) (41, [(2, 15), (2, 85), (0, x2), (0, x3), (0, x4), (9, 0), (9, 0)], [], hC w M n)
set_option maxRecDepth 20000 in
theorem v5_takeT0_41 {w : cQ} {d : Nat} {Ψ : Int → cQ → (Nat → Nat → Int) → Nat × Nat → Prop} {x2 x3 x4 : Int} {M : Nat → Nat → Int} {n : Nat × Nat} (q : ((M 15 2) ≤ x4 → CW d 98 [(2, 4)] w M n (fun r0 w_1 M1 n_1 => Ψ 0 w_1 (sI M1 15 3 r0) n_1)) ∧ (¬ ((M 15 2) ≤ x4) → CW d 75 [(2, 85), (0, x4)] w M n (fun r0 w_1 M1 n_1 => ((m_cmp r0 x2) < 0 → Ψ (-3) w_1 M1 n_1) ∧ (¬ ((m_cmp r0 x2) < 0) → ((m_cmp r0 x3) < 0 → (0 ≤ x4 ∧ x4 < ((12 : Nat) : Int) ∧ True) ∧ (W5_takeT0_41 d Ψ x2 x3 (w32 (x4 + 1)) w_1 (sI M1 104 x4.toNat (w32 r0)) n_1 )) ∧ (¬ ((m_cmp r0 x3) < 0) → Ψ (-3) w_1 M1 n_1))))) : W5_takeT0_41 d Ψ x2 x3 x4 w M n :=
  b5_takeT0_41 ⟨fun c1 => (WPm_mono gT d _ _ _ _ _ (fun r0 h' z0 => by obtain ⟨_, M1, _, rfl, z0⟩ := z0; exact WPc.kill [0, 1, 2, 3, 4] (b5_takeT0_101 (FCmk z0))) (q.1 c1)), fun c1 => (WPm_mono gT d _ _ _ _ _ (fun r0 h' z0 => by obtain ⟨_, M1, _, rfl, z0⟩ := z0; exact b5_takeT0_56 ⟨fun c2 => (WPc.kill [0, 1, 2, 3, 4, 5] (b5_takeT0_74 (FCmk (z0.1 c2)))), fun c2 => ⟨fun c3 => ⟨((z0.2 c2).1 c3).1, (WPc.kill [5] ((z0.2 c2).1 c3).2)⟩, fun c3 => (WPc.kill [0, 1, 2, 3, 4, 5] (b5_takeT0_74 (FCmk ((z0.2 c2).2 c3))))⟩⟩) (q.2 c1))⟩
set_option maxRecDepth 20000 in
theorem e5_takeT0 {w : cQ} {d : Nat} {Ψ : Int → cQ → (Nat → Nat → Int) → Nat × Nat → Prop} {x2 x3 : Int} {M : Nat → Nat → Int} {n : Nat × Nat} (q : CW d 73 [(2, 85)] w M n (fun r0 w_1 M1 n_1 => (r0 = 0 → ((M1 85 2) < 1 → Ψ (-4) w_1 M1 n_1) ∧ (¬ ((M1 85 2) < 1) → ((M1 85 2) ≤ 12 → W5_takeT0_41 d Ψ x2 x3 0 w_1 (sI M1 15 2 (M1 85 2)) n_1 ) ∧ (¬ ((M1 85 2) ≤ 12) → Ψ (-4) w_1 M1 n_1))) ∧ (¬ (r0 = 0) → Ψ (-6) w_1 M1 n_1))) : CW (d + 1) 50 [(2, 15), (2, 85), (0, x2), (0, x3)] w M n Ψ :=
  WPm_in g5_take (Nat.le_of_ble_eq_true rfl) (b5_takeT0_0 (WPm_mono gT d _ _ _ _ _ (fun r0 h' z0 => by obtain ⟨_, M1, _, rfl, z0⟩ := z0; exact b5_takeT0_4 ⟨fun c4 => ⟨fun c5 => (WPc.kill [0, 1, 2, 3] (b5_takeT0_27 (FCmk ((z0.1 c4).1 c5)))), fun c5 => ⟨fun c6 => (((z0.1 c4).2 c5).1 c6), fun c6 => (WPc.kill [0, 1, 2, 3] (b5_takeT0_27 (FCmk (((z0.1 c4).2 c5).2 c6))))⟩⟩, fun c4 => (FCmk (z0.2 c4))⟩) q))
set_option maxRecDepth 20000 in
theorem b5_takeT1_101 {w : cQ} {d : Nat} {F : mPost} {s1 : Int} {M : Nat → Nat → Int} {n : Nat × Nat} (q : F (0, 0) (hC w (sI M 15 3 s1) n)) : WPc t5_take (WPm gT d) F (101, [(9, 0), (9, 0), (9, 0), (9, 0), (9, 0), (9, 0), (9, 0)], [(0, s1), (2, 15)], hC w M n) :=
  vcK_ok (K := [4, 27, 41, 56, 74, 101]) 61 _ q
set_option maxRecDepth 20000 in
theorem b5_takeT1_74 {w : cQ} {d : Nat} {F : mPost} {M : Nat → Nat → Int} {n : Nat × Nat} (q : F (0, (-3)) (hC w M n)) : WPc t5_take (WPm gT d) F (74, [(9, 0), (9, 0), (9, 0), (9, 0), (9, 0), (9, 0), (9, 0)], [], hC w M n) :=
  vcK_ok (K := [4, 27, 41, 56, 74, 101]) 61 _ q
set_option maxRecDepth 20000 in
theorem b5_takeT1_56 {w : cQ} {d : Nat} {F : mPost} {x2 x3 x4 s0 : Int} {M : Nat → Nat → Int} {n : Nat × Nat} (q : ((m_cmp s0 x2) < 0 → WPc t5_take (WPm gT d) F (74, [(2, 15), (2, 87), (0, x2), (0, x3), (0, x4), (1, s0), (9, 0)], [], hC w M n)) ∧ (¬ ((m_cmp s0 x2) < 0) → ((m_cmp s0 x3) < 0 → (0 ≤ x4 ∧ x4 < ((12 : Nat) : Int) ∧ True) ∧ (WPc t5_take (WPm gT d) F (41, [(2, 15), (2, 87), (0, x2), (0, x3), (0, w32 (x4 + 1)), (1, s0), (9, 0)], [], hC w (sI M 104 x4.toNat (w32 s0)) n))) ∧ (¬ ((m_cmp s0 x3) < 0) → WPc t5_take (WPm gT d) F (74, [(2, 15), (2, 87), (0, x2), (0, x3), (0, x4), (1, s0), (9, 0)], [], hC w M n)))) : WPc t5_take (WPm gT d) F (56, [(2, 15), (2, 87), (0, x2), (0, x3), (0, x4), (9, 0), (9, 0)], [(1, s0)], hC w M n) :=
  vcK_ok (K := [4, 27, 41, 56, 74, 101]) 61 _ q
set_option maxRecDepth 20000 in
theorem b5_takeT1_41 {w : cQ} {d : Nat} {F : mPost} {x2 x3 x4 : Int} {M : Nat → Nat → Int} {n : Nat × Nat} (q : ((M 15 2) ≤ x4 → WPm gT d 98 [(2, 4)] (hC w M n) (fun r h' => WPc t5_take (WPm gT d) F (101, [(2, 15), (2, 87), (0, x2), (0, x3), (0, x4), (9, 0), (9, 0)], [(0, r.2), (2, 15)], h'))) ∧ (¬ ((M 15 2) ≤ x4) → WPm gT d 75 [(2, 87), (0, x4)] (hC w M n) (fun r h' => WPc t5_take (WPm gT d) F (56, [(2, 15), (2, 87), (0, x2), (0, x3), (0, x4), (9, 0), (9, 0)], [(1, r.2)], h')))) : WPc t5_take (WPm gT d) F (41, [(2, 15), (2, 87), (0, x2), (0, x3), (0, x4), (9, 0), (9, 0)], [], hC w M n) :=
  vcK_ok (K := [4, 27, 41, 56, 74, 101]) 61 _ q
set_option maxRecDepth 20000 in
theorem b5_takeT1_27 {w : cQ} {d : Nat} {F : mPost} {M : Nat → Nat → Int} {n : Nat × Nat} (q : F (0, (-4)) (hC w M n)) : WPc t5_take (WPm gT d) F (27, [(9, 0), (9, 0), (9, 0), (9, 0), (9, 0), (9, 0), (9, 0)], [], hC w M n) :=
  vcK_ok (K := [4, 27, 41, 56, 74, 101]) 61 _ q
set_option maxRecDepth 20000 in
theorem b5_takeT1_4 {w : cQ} {d : Nat} {F : mPost} {x2 x3 s0 : Int} {M : Nat → Nat → Int} {n : Nat × Nat} (q : (s0 = 0 → ((M 87 2) < 1 → WPc t5_take (WPm gT d) F (27, [(2, 15), (2, 87), (0, x2), (0, x3), (9, 0), (9, 0), (9, 0)], [], hC w M n)) ∧ (¬ ((M 87 2) < 1) → ((M 87 2) ≤ 12 → WPc t5_take (WPm gT d) F (41, [(2, 15), (2, 87), (0, x2), (0, x3), (0, 0), (9, 0), (9, 0)], [], hC w (sI M 15 2 (M 87 2)) n)) ∧ (¬ ((M 87 2) ≤ 12) → WPc t5_take (WPm gT d) F (27, [(2, 15), (2, 87), (0, x2), (0, x3), (9, 0), (9, 0), (9, 0)], [], hC w M n)))) ∧ (¬ (s0 = 0) → F (0, (-6)) (hC w M n))) : WPc t5_take (WPm gT d) F (4, [(2, 15), (2, 87), (0, x2), (0, x3), (9, 0), (9, 0), (9, 0)], [(0, s0)], hC w M n) :=
  vcK_ok (K := [4, 27, 41, 56, 74, 101]) 61 _ q
set_option maxRecDepth 20000 in
theorem b5_takeT1_0 {w : cQ} {d : Nat} {F : mPost} {x2 x3 : Int} {M : Nat → Nat → Int} {n : Nat × Nat} (q : WPm gT d 73 [(2, 87)] (hC w M n) (fun r h' => WPc t5_take (WPm gT d) F (4, [(2, 15), (2, 87), (0, x2), (0, x3), (9, 0), (9, 0), (9, 0)], [(0, r.2)], h'))) : WPc t5_take (WPm gT d) F (0, [(2, 15), (2, 87), (0, x2), (0, x3), (9, 0), (9, 0), (9, 0)], [], hC w M n) :=
  vcK_ok (K := [4, 27, 41, 56, 74, 101]) 61 _ q
def W5_takeT1_41 (d : Nat) (Ψ : Int → cQ → (Nat → Nat → Int) → Nat × Nat → Prop) (x2 x3 x4 : Int) (w : cQ) (M : Nat → Nat → Int) (n : Nat × Nat) : Prop := WPc t5_take (WPm gT d) (FC Ψ) (41, [(2, 15), (2, 87), (0, x2), (0, x3), (0, x4), (9, 0), (9, 0)], [], hC w M n)
set_option maxRecDepth 20000 in
theorem v5_takeT1_41 {w : cQ} {d : Nat} {Ψ : Int → cQ → (Nat → Nat → Int) → Nat × Nat → Prop} {x2 x3 x4 : Int} {M : Nat → Nat → Int} {n : Nat × Nat} (q : ((M 15 2) ≤ x4 → CW d 98 [(2, 4)] w M n (fun r0 w_1 M1 n_1 => Ψ 0 w_1 (sI M1 15 3 r0) n_1)) ∧ (¬ ((M 15 2) ≤ x4) → CW d 75 [(2, 87), (0, x4)] w M n (fun r0 w_1 M1 n_1 => ((m_cmp r0 x2) < 0 → Ψ (-3) w_1 M1 n_1) ∧ (¬ ((m_cmp r0 x2) < 0) → ((m_cmp r0 x3) < 0 → (0 ≤ x4 ∧ x4 < ((12 : Nat) : Int) ∧ True) ∧ (W5_takeT1_41 d Ψ x2 x3 (w32 (x4 + 1)) w_1 (sI M1 104 x4.toNat (w32 r0)) n_1 )) ∧ (¬ ((m_cmp r0 x3) < 0) → Ψ (-3) w_1 M1 n_1))))) : W5_takeT1_41 d Ψ x2 x3 x4 w M n :=
  b5_takeT1_41 ⟨fun c1 => (WPm_mono gT d _ _ _ _ _ (fun r0 h' z0 => by obtain ⟨_, M1, _, rfl, z0⟩ := z0; exact WPc.kill [0, 1, 2, 3, 4] (b5_takeT1_101 (FCmk z0))) (q.1 c1)), fun c1 => (WPm_mono gT d _ _ _ _ _ (fun r0 h' z0 => by obtain ⟨_, M1, _, rfl, z0⟩ := z0; exact b5_takeT1_56 ⟨fun c2 => (WPc.kill [0, 1, 2, 3, 4, 5] (b5_takeT1_74 (FCmk (z0.1 c2)))), fun c2 => ⟨fun c3 => ⟨((z0.2 c2).1 c3).1, (WPc.kill [5] ((z0.2 c2).1 c3).2)⟩, fun c3 => (WPc.kill [0, 1, 2, 3, 4, 5] (b5_takeT1_74 (FCmk ((z0.2 c2).2 c3))))⟩⟩) (q.2 c1))⟩
set_option maxRecDepth 20000 in
theorem e5_takeT1 {w : cQ} {d : Nat} {Ψ : Int → cQ → (Nat → Nat → Int) → Nat × Nat → Prop} {x2 x3 : Int} {M : Nat → Nat → Int} {n : Nat × Nat} (q : CW d 73 [(2, 87)] w M n (fun r0 w_1 M1 n_1 => (r0 = 0 → ((M1 87 2) < 1 → Ψ (-4) w_1 M1 n_1) ∧ (¬ ((M1 87 2) < 1) → ((M1 87 2) ≤ 12 → W5_takeT1_41 d Ψ x2 x3 0 w_1 (sI M1 15 2 (M1 87 2)) n_1 ) ∧ (¬ ((M1 87 2) ≤ 12) → Ψ (-4) w_1 M1 n_1))) ∧ (¬ (r0 = 0) → Ψ (-6) w_1 M1 n_1))) : CW (d + 1) 50 [(2, 15), (2, 87), (0, x2), (0, x3)] w M n Ψ :=
  WPm_in g5_take (Nat.le_of_ble_eq_true rfl) (b5_takeT1_0 (WPm_mono gT d _ _ _ _ _ (fun r0 h' z0 => by obtain ⟨_, M1, _, rfl, z0⟩ := z0; exact b5_takeT1_4 ⟨fun c4 => ⟨fun c5 => (WPc.kill [0, 1, 2, 3] (b5_takeT1_27 (FCmk ((z0.1 c4).1 c5)))), fun c5 => ⟨fun c6 => (((z0.1 c4).2 c5).1 c6), fun c6 => (WPc.kill [0, 1, 2, 3] (b5_takeT1_27 (FCmk (((z0.1 c4).2 c5).2 c6))))⟩⟩, fun c4 => (FCmk (z0.2 c4))⟩) q))
set_option maxRecDepth 20000 in
theorem b5_takeT2_101 {w : cQ} {d : Nat} {F : mPost} {s1 : Int} {M : Nat → Nat → Int} {n : Nat × Nat} (q : F (0, 0) (hC w (sI M 15 3 s1) n)) : WPc t5_take (WPm gT d) F (101, [(9, 0), (9, 0), (9, 0), (9, 0), (9, 0), (9, 0), (9, 0)], [(0, s1), (2, 15)], hC w M n) :=
  vcK_ok (K := [4, 27, 41, 56, 74, 101]) 61 _ q
set_option maxRecDepth 20000 in
theorem b5_takeT2_74 {w : cQ} {d : Nat} {F : mPost} {M : Nat → Nat → Int} {n : Nat × Nat} (q : F (0, (-3)) (hC w M n)) : WPc t5_take (WPm gT d) F (74, [(9, 0), (9, 0), (9, 0), (9, 0), (9, 0), (9, 0), (9, 0)], [], hC w M n) :=
  vcK_ok (K := [4, 27, 41, 56, 74, 101]) 61 _ q
set_option maxRecDepth 20000 in
theorem b5_takeT2_56 {w : cQ} {d : Nat} {F : mPost} {x2 x3 x4 s0 : Int} {M : Nat → Nat → Int} {n : Nat × Nat} (q : ((m_cmp s0 x2) < 0 → WPc t5_take (WPm gT d) F (74, [(2, 15), (2, 89), (0, x2), (0, x3), (0, x4), (1, s0), (9, 0)], [], hC w M n)) ∧ (¬ ((m_cmp s0 x2) < 0) → ((m_cmp s0 x3) < 0 → (0 ≤ x4 ∧ x4 < ((12 : Nat) : Int) ∧ True) ∧ (WPc t5_take (WPm gT d) F (41, [(2, 15), (2, 89), (0, x2), (0, x3), (0, w32 (x4 + 1)), (1, s0), (9, 0)], [], hC w (sI M 104 x4.toNat (w32 s0)) n))) ∧ (¬ ((m_cmp s0 x3) < 0) → WPc t5_take (WPm gT d) F (74, [(2, 15), (2, 89), (0, x2), (0, x3), (0, x4), (1, s0), (9, 0)], [], hC w M n)))) : WPc t5_take (WPm gT d) F (56, [(2, 15), (2, 89), (0, x2), (0, x3), (0, x4), (9, 0), (9, 0)], [(1, s0)], hC w M n) :=
  vcK_ok (K := [4, 27, 41, 56, 74, 101]) 61 _ q
set_option maxRecDepth 20000 in
theorem b5_takeT2_41 {w : cQ} {d : Nat} {F : mPost} {x2 x3 x4 : Int} {M : Nat → Nat → Int} {n : Nat × Nat} (q : ((M 15 2) ≤ x4 → WPm gT d 98 [(2, 4)] (hC w M n) (fun r h' => WPc t5_take (WPm gT d) F (101, [(2, 15), (2, 89), (0, x2), (0, x3), (0, x4), (9, 0), (9, 0)], [(0, r.2), (2, 15)], h'))) ∧ (¬ ((M 15 2) ≤ x4) → WPm gT d 75 [(2, 89), (0, x4)] (hC w M n) (fun r h' => WPc t5_take (WPm gT d) F (56, [(2, 15), (2, 89), (0, x2), (0, x3), (0, x4), (9, 0), (9, 0)], [(1, r.2)], h')))) : WPc t5_take (WPm gT d) F (41, [(2, 15), (2, 89), (0, x2), (0, x3), (0, x4), (9, 0), (9, 0)], [], hC w M n) :=
  vcK_ok (K := [4, 27, 41, 56, 74, 101]) 61 _ q
set_option maxRecDepth 20000 in
theorem b5_takeT2_27 {w : cQ} {d : Nat} {F : mPost} {M : Nat → Nat → Int} {n : Nat × Nat} (q : F (0, (-4)) (hC w M n)) : WPc t5_take (WPm gT d) F (27, [(9, 0), (9, 0), (9, 0), (9, 0), (9, 0), (9, 0), (9, 0)], [], hC w M n) :=
  vcK_ok (K := [4, 27, 41, 56, 74, 101]) 61 _ q
set_option maxRecDepth 20000 in
theorem b5_takeT2_4 {w : cQ} {d : Nat} {F : mPost} {x2 x3 s0 : Int} {M : Nat → Nat → Int} {n : Nat × Nat} (q : (s0 = 0 → ((M 89 2) < 1 → WPc t5_take (WPm gT d) F (27, [(2, 15), (2, 89), (0, x2), (0, x3), (9, 0), (9, 0), (9, 0)], [], hC w M n)) ∧ (¬ ((M 89 2) < 1) → ((M 89 2) ≤ 12 → WPc t5_take (WPm gT d) F (41, [(2, 15), (2, 89), (0, x2), (0, x3), (0, 0), (9, 0), (9, 0)], [], hC w (sI M 15 2 (M 89 2)) n)) ∧ (¬ ((M 89 2) ≤ 12) → WPc t5_take (WPm gT d) F (27, [(2, 15), (2, 89), (0, x2), (0, x3), (9, 0), (9, 0), (9, 0)], [], hC w M n)))) ∧ (¬ (s0 = 0) → F (0, (-6)) (hC w M n))) : WPc t5_take (WPm gT d) F (4, [(2, 15), (2, 89), (0, x2), (0, x3), (9, 0), (9, 0), (9, 0)], [(0, s0)], hC w M n) :=
  vcK_ok (K := [4, 27, 41, 56, 74, 101]) 61 _ q
set_option maxRecDepth 20000 in
theorem b5_takeT2_0 {w : cQ} {d : Nat} {F : mPost} {x2 x3 : Int} {M : Nat → Nat → Int} {n : Nat × Nat} (q : WPm gT d 73 [(2, 89)] (hC w M n) (fun r h' => WPc t5_take (WPm gT d) F (4, [(2, 15), (2, 89), (0, x2), (0, x3), (9, 0), (9, 0), (9, 0)], [(0, r.2)], h'))) : WPc t5_take (WPm gT d) F (0, [(2, 15), (2, 89), (0, x2), (0, x3), (9, 0), (9, 0), (9, 0)], [], hC w M n) :=
  vcK_ok (K := [4, 27, 41, 56, 74, 101]) 61 _ q
def W5_takeT2_41 (d : Nat) (Ψ : Int → cQ → (Nat → Nat → Int) → Nat × Nat → Prop) (x2 x3 x4 : Int) (w : cQ) (M : Nat → Nat → Int) (n : Nat × Nat) : Prop := WPc t5_take (WPm gT d) (FC Ψ) (41, [(2, 15), (2, 89), (0, x2), (0, x3), (0, x4), (9, 0), (9, 0)], [], hC w M n)
set_option maxRecDepth 20000 in
theorem v5_takeT2_41 {w : cQ} {d : Nat} {Ψ : Int → cQ → (Nat → Nat → Int) → Nat × Nat → Prop} {x2 x3 x4 : Int} {M : Nat → Nat → Int} {n : Nat × Nat} (q : ((M 15 2) ≤ x4 → CW d 98 [(2, 4)] w M n (fun r0 w_1 M1 n_1 => Ψ 0 w_1 (sI M1 15 3 r0) n_1)) ∧ (¬ ((M 15 2) ≤ x4) → CW d 75 [(2, 89), (0, x4)] w M n (fun r0 w_1 M1 n_1 => ((m_cmp r0 x2) < 0 → Ψ (-3) w_1 M1 n_1) ∧ (¬ ((m_cmp r0 x2) < 0) → ((m_cmp r0 x3) < 0 → (0 ≤ x4 ∧ x4 < ((12 : Nat) : Int) ∧ True) ∧ (W5_takeT2_41 d Ψ x2 x3 (w32 (x4 + 1)) w_1 (sI M1 104 x4.toNat (w32 r0)) n_1 )) ∧ (¬ ((m_cmp r0 x3) < 0) → Ψ (-3) w_1 M1 n_1))))) : W5_takeT2_41 d Ψ x2 x3 x4 w M n :=
  b5_takeT2_41 ⟨fun c1 => (WPm_mono gT d _ _ _ _ _ (fun r0 h' z0 => by obtain ⟨_, M1, _, rfl, z0⟩ := z0; exact WPc.kill [0, 1, 2, 3, 4] (b5_takeT2_101 (FCmk z0))) (q.1 c1)), fun c1 => (WPm_mono gT d _ _ _ _ _ (fun r0 h' z0 => by obtain ⟨_, M1, _, rfl, z0⟩ := z0; exact b5_takeT2_56 ⟨fun c2 => (WPc.kill [0, 1, 2, 3, 4, 5] (b5_takeT2_74 (FCmk (z0.1 c2)))), fun c2 => ⟨fun c3 => ⟨((z0.2 c2).1 c3).1, (WPc.kill [5] ((z0.2 c2).1 c3).2)⟩, fun c3 => (WPc.kill [0, 1, 2, 3, 4, 5] (b5_takeT2_74 (FCmk ((z0.2 c2).2 c3))))⟩⟩) (q.2 c1))⟩
set_option maxRecDepth 20000 in
theorem e5_takeT2 {w : cQ} {d : Nat} {Ψ : Int → cQ → (Nat → Nat → Int) → Nat × Nat → Prop} {x2 x3 : Int} {M : Nat → Nat → Int} {n : Nat × Nat} (q : CW d 73 [(2, 89)] w M n (fun r0 w_1 M1 n_1 => (r0 = 0 → ((M1 89 2) < 1 → Ψ (-4) w_1 M1 n_1) ∧ (¬ ((M1 89 2) < 1) → ((M1 89 2) ≤ 12 → W5_takeT2_41 d Ψ x2 x3 0 w_1 (sI M1 15 2 (M1 89 2)) n_1 ) ∧ (¬ ((M1 89 2) ≤ 12) → Ψ (-4) w_1 M1 n_1))) ∧ (¬ (r0 = 0) → Ψ (-6) w_1 M1 n_1))) : CW (d + 1) 50 [(2, 15), (2, 89), (0, x2), (0, x3)] w M n Ψ :=
  WPm_in g5_take (Nat.le_of_ble_eq_true rfl) (b5_takeT2_0 (WPm_mono gT d _ _ _ _ _ (fun r0 h' z0 => by obtain ⟨_, M1, _, rfl, z0⟩ := z0; exact b5_takeT2_4 ⟨fun c4 => ⟨fun c5 => (WPc.kill [0, 1, 2, 3] (b5_takeT2_27 (FCmk ((z0.1 c4).1 c5)))), fun c5 => ⟨fun c6 => (((z0.1 c4).2 c5).1 c6), fun c6 => (WPc.kill [0, 1, 2, 3] (b5_takeT2_27 (FCmk (((z0.1 c4).2 c5).2 c6))))⟩⟩, fun c4 => (FCmk (z0.2 c4))⟩) q))
set_option maxRecDepth 20000 in
theorem b5_takeT3_101 {w : cQ} {d : Nat} {F : mPost} {s1 : Int} {M : Nat → Nat → Int} {n : Nat × Nat} (q : F (0, 0) (hC w (sI M 15 3 s1) n)) : WPc t5_take (WPm gT d) F (101, [(9, 0), (9, 0), (9, 0), (9, 0), (9, 0), (9, 0), (9, 0)], [(0, s1), (2, 15)], hC w M n) :=
  vcK_ok (K := [4, 27, 41, 56, 74, 101]) 61 _ q
set_option maxRecDepth 20000 in
theorem b5_takeT3_74 {w : cQ} {d : Nat} {F : mPost} {M : Nat → Nat → Int} {n : Nat × Nat} (q : F (0, (-3)) (hC w M n)) : WPc t5_take (WPm gT d) F (74, [(9, 0), (9, 0), (9, 0), (9, 0), (9, 0), (9, 0), (9, 0)], [], hC w M n) :=
  vcK_ok (K := [4, 27, 41, 56, 74, 101]) 61 _ q
set_option maxRecDepth 20000 in
theorem b5_takeT3_56 {w : cQ} {d : Nat} {F : mPost} {x2 x3 x4 s0 : Int} {M : Nat → Nat → Int} {n : Nat × Nat} (q : ((m_cmp s0 x2) < 0 → WPc t5_take (WPm gT d) F (74, [(2, 15), (2, 91), (0, x2), (0, x3), (0, x4), (1, s0), (9, 0)], [], hC w M n)) ∧ (¬ ((m_cmp s0 x2) < 0) → ((m_cmp s0 x3) < 0 → (0 ≤ x4 ∧ x4 < ((12 : Nat) : Int) ∧ True) ∧ (WPc t5_take (WPm gT d) F (41, [(2, 15), (2, 91), (0, x2), (0, x3), (0, w32 (x4 + 1)), (1, s0), (9, 0)], [], hC w (sI M 104 x4.toNat (w32 s0)) n))) ∧ (¬ ((m_cmp s0 x3) < 0) → WPc t5_take (WPm gT d) F (74, [(2, 15), (2, 91), (0, x2), (0, x3), (0, x4), (1, s0), (9, 0)], [], hC w M n)))) : WPc t5_take (WPm gT d) F (56, [(2, 15), (2, 91), (0, x2), (0, x3), (0, x4), (9, 0), (9, 0)], [(1, s0)], hC w M n) :=
  vcK_ok (K := [4, 27, 41, 56, 74, 101]) 61 _ q
set_option maxRecDepth 20000 in
theorem b5_takeT3_41 {w : cQ} {d : Nat} {F : mPost} {x2 x3 x4 : Int} {M : Nat → Nat → Int} {n : Nat × Nat} (q : ((M 15 2) ≤ x4 → WPm gT d 98 [(2, 4)] (hC w M n) (fun r h' => WPc t5_take (WPm gT d) F (101, [(2, 15), (2, 91), (0, x2), (0, x3), (0, x4), (9, 0), (9, 0)], [(0, r.2), (2, 15)], h'))) ∧ (¬ ((M 15 2) ≤ x4) → WPm gT d 75 [(2, 91), (0, x4)] (hC w M n) (fun r h' => WPc t5_take (WPm gT d) F (56, [(2, 15), (2, 91), (0, x2), (0, x3), (0, x4), (9, 0), (9, 0)], [(1, r.2)], h')))) : WPc t5_take (WPm gT d) F (41, [(2, 15), (2, 91), (0, x2), (0, x3), (0, x4), (9, 0), (9, 0)], [], hC w M n) :=
  vcK_ok (K := [4, 27, 41, 56, 74, 101]) 61 _ q
set_option maxRecDepth 20000 in
theorem b5_takeT3_27 {w : cQ} {d : Nat} {F : mPost} {M : Nat → Nat → Int} {n : Nat × Nat} (q : F (0, (-4)) (hC w M n)) : WPc t5_take (WPm gT d) F (27, [(9, 0), (9, 0), (9, 0), (9, 0), (9, 0), (9, 0), (9, 0)], [], hC w M n) :=
  vcK_ok (K := [4, 27, 41, 56, 74, 101]) 61 _ q
set_option maxRecDepth 20000 in
theorem b5_takeT3_4 {w : cQ} {d : Nat} {F : mPost} {x2 x3 s0 : Int} {M : Nat → Nat → Int} {n : Nat × Nat} (q : (s0 = 0 → ((M 91 2) < 1 → WPc t5_take (WPm gT d) F (27, [(2, 15), (2, 91), (0, x2), (0, x3), (9, 0), (9, 0), (9, 0)], [], hC w M n)) ∧ (¬ ((M 91 2) < 1) → ((M 91 2) ≤ 12 → WPc t5_take (WPm gT d) F (41, [(2, 15), (2, 91), (0, x2), (0, x3), (0, 0), (9, 0), (9, 0)], [], hC w (sI M 15 2 (M 91 2)) n)) ∧ (¬ ((M 91 2) ≤ 12) → WPc t5_take (WPm gT d) F (27, [(2, 15), (2, 91), (0, x2), (0, x3), (9, 0), (9, 0), (9, 0)], [], hC w M n)))) ∧ (¬ (s0 = 0) → F (0, (-6)) (hC w M n))) : WPc t5_take (WPm gT d) F (4, [(2, 15), (2, 91), (0, x2), (0, x3), (9, 0), (9, 0), (9, 0)], [(0, s0)], hC w M n) :=
  vcK_ok (K := [4, 27, 41, 56, 74, 101]) 61 _ q
set_option maxRecDepth 20000 in
theorem b5_takeT3_0 {w : cQ} {d : Nat} {F : mPost} {x2 x3 : Int} {M : Nat → Nat → Int} {n : Nat × Nat} (q : WPm gT d 73 [(2, 91)] (hC w M n) (fun r h' => WPc t5_take (WPm gT d) F (4, [(2, 15), (2, 91), (0, x2), (0, x3), (9, 0), (9, 0), (9, 0)], [(0, r.2)], h'))) : WPc t5_take (WPm gT d) F (0, [(2, 15), (2, 91), (0, x2), (0, x3), (9, 0), (9, 0), (9, 0)], [], hC w M n) :=
  vcK_ok (K := [4, 27, 41, 56, 74, 101]) 61 _ q
def W5_takeT3_41 (d : Nat) (Ψ : Int → cQ → (Nat → Nat → Int) → Nat × Nat → Prop) (x2 x3 x4 : Int) (w : cQ) (M : Nat → Nat → Int) (n : Nat × Nat) : Prop := WPc t5_take (WPm gT d) (FC Ψ) (41, [(2, 15), (2, 91), (0, x2), (0, x3), (0, x4), (9, 0), (9, 0)], [], hC w M n)
set_option maxRecDepth 20000 in
theorem v5_takeT3_41 {w : cQ} {d : Nat} {Ψ : Int → cQ → (Nat → Nat → Int) → Nat × Nat → Prop} {x2 x3 x4 : Int} {M : Nat → Nat → Int} {n : Nat × Nat} (q : ((M 15 2) ≤ x4 → CW d 98 [(2, 4)] w M n (fun r0 w_1 M1 n_1 => Ψ 0 w_1 (sI M1 15 3 r0) n_1)) ∧ (¬ ((M 15 2) ≤ x4) → CW d 75 [(2, 91), (0, x4)] w M n (fun r0 w_1 M1 n_1 => ((m_cmp r0 x2) < 0 → Ψ (-3) w_1 M1 n_1) ∧ (¬ ((m_cmp r0 x2) < 0) → ((m_cmp r0 x3) < 0 → (0 ≤ x4 ∧ x4 < ((12 : Nat) : Int) ∧ True) ∧ (W5_takeT3_41 d Ψ x2 x3 (w32 (x4 + 1)) w_1 (sI M1 104 x4.toNat (w32 r0)) n_1 )) ∧ (¬ ((m_cmp r0 x3) < 0) → Ψ (-3) w_1 M1 n_1))))) : W5_takeT3_41 d Ψ x2 x3 x4 w M n :=
  b5_takeT3_41 ⟨fun c1 => (WPm_mono gT d _ _ _ _ _ (fun r0 h' z0 => by obtain ⟨_, M1, _, rfl, z0⟩ := z0; exact WPc.kill [0, 1, 2, 3, 4] (b5_takeT3_101 (FCmk z0))) (q.1 c1)), fun c1 => (WPm_mono gT d _ _ _ _ _ (fun r0 h' z0 => by obtain ⟨_, M1, _, rfl, z0⟩ := z0; exact b5_takeT3_56 ⟨fun c2 => (WPc.kill [0, 1, 2, 3, 4, 5] (b5_takeT3_74 (FCmk (z0.1 c2)))), fun c2 => ⟨fun c3 => ⟨((z0.2 c2).1 c3).1, (WPc.kill [5] ((z0.2 c2).1 c3).2)⟩, fun c3 => (WPc.kill [0, 1, 2, 3, 4, 5] (b5_takeT3_74 (FCmk ((z0.2 c2).2 c3))))⟩⟩) (q.2 c1))⟩
set_option maxRecDepth 20000 in
theorem e5_takeT3 {w : cQ} {d : Nat} {Ψ : Int → cQ → (Nat → Nat → Int) → Nat × Nat → Prop} {x2 x3 : Int} {M : Nat → Nat → Int} {n : Nat × Nat} (q : CW d 73 [(2, 91)] w M n (fun r0 w_1 M1 n_1 => (r0 = 0 → ((M1 91 2) < 1 → Ψ (-4) w_1 M1 n_1) ∧ (¬ ((M1 91 2) < 1) → ((M1 91 2) ≤ 12 → W5_takeT3_41 d Ψ x2 x3 0 w_1 (sI M1 15 2 (M1 91 2)) n_1 ) ∧ (¬ ((M1 91 2) ≤ 12) → Ψ (-4) w_1 M1 n_1))) ∧ (¬ (r0 = 0) → Ψ (-6) w_1 M1 n_1))) : CW (d + 1) 50 [(2, 15), (2, 91), (0, x2), (0, x3)] w M n Ψ :=
  WPm_in g5_take (Nat.le_of_ble_eq_true rfl) (b5_takeT3_0 (WPm_mono gT d _ _ _ _ _ (fun r0 h' z0 => by obtain ⟨_, M1, _, rfl, z0⟩ := z0; exact b5_takeT3_4 ⟨fun c4 => ⟨fun c5 => (WPc.kill [0, 1, 2, 3] (b5_takeT3_27 (FCmk ((z0.1 c4).1 c5)))), fun c5 => ⟨fun c6 => (((z0.1 c4).2 c5).1 c6), fun c6 => (WPc.kill [0, 1, 2, 3] (b5_takeT3_27 (FCmk (((z0.1 c4).2 c5).2 c6))))⟩⟩, fun c4 => (FCmk (z0.2 c4))⟩) q))
set_option maxRecDepth 20000 in
theorem b5_hasPlace_17 {w : cQ} {d : Nat} {F : mPost} {s0 : Int} {M : Nat → Nat → Int} {n : Nat × Nat} (q : (s0 = 0 ∨ s0 = 1) ∧ F (0, s0) (hC w M n)) : WPc t5_hasPlace (WPm gT d) F (17, [(9, 0), (9, 0)], [(0, s0)], hC w M n) :=
  vcK_ok (K := [16, 17]) 15 _ q
set_option maxRecDepth 20000 in
theorem b5_hasPlace_16 {w : cQ} {d : Nat} {F : mPost} {M : Nat → Nat → Int} {n : Nat × Nat} (q : WPc t5_hasPlace (WPm gT d) F (17, [(9, 0), (9, 0)], [(0, 0)], hC w M n)) : WPc t5_hasPlace (WPm gT d) F (16, [(9, 0), (9, 0)], [], hC w M n) :=
  vcK_ok (K := [16, 17]) 15 _ q
set_option maxRecDepth 20000 in
theorem b5_hasPlace_0 {w : cQ} {d : Nat} {F : mPost} {x1 : Int} {M : Nat → Nat → Int} {n : Nat × Nat} (q : (x1 < 0 → WPc t5_hasPlace (WPm gT d) F (16, [(2, 15), (0, x1)], [], hC w M n)) ∧ (¬ (x1 < 0) → ((M 15 2) ≤ x1 → WPc t5_hasPlace (WPm gT d) F (16, [(2, 15), (0, x1)], [], hC w M n)) ∧ (¬ ((M 15 2) ≤ x1) → WPc t5_hasPlace (WPm gT d) F (17, [(2, 15), (0, x1)], [(0, 1)], hC w M n)))) : WPc t5_hasPlace (WPm gT d) F (0, [(2, 15), (0, x1)], [], hC w M n) :=
  vcK_ok (K := [16, 17]) 15 _ q
set_option maxRecDepth 20000 in
theorem e5_hasPlace {w : cQ} {d : Nat} {Ψ : Int → cQ → (Nat → Nat → Int) → Nat × Nat → Prop} {x1 : Int} {M : Nat → Nat → Int} {n : Nat × Nat} (q : (x1 < 0 → Ψ 0 w M n) ∧ (¬ (x1 < 0) → ((M 15 2) ≤ x1 → Ψ 0 w M n) ∧ (¬ ((M 15 2) ≤ x1) → Ψ 1 w M n))) : CW (d + 1) 51 [(2, 15), (0, x1)] w M n Ψ :=
  WPm_in g5_hasPlace (Nat.le_of_ble_eq_true rfl) (b5_hasPlace_0 ⟨fun c1 => (WPc.kill [0, 1] (b5_hasPlace_16 (WPc.kill [0, 1] (b5_hasPlace_17 ⟨by decide, FCmk (q.1 c1)⟩)))), fun c1 => ⟨fun c2 => (WPc.kill [0, 1] (b5_hasPlace_16 (WPc.kill [0, 1] (b5_hasPlace_17 ⟨by decide, FCmk ((q.2 c1).1 c2)⟩)))), fun c2 => (WPc.kill [0, 1] (b5_hasPlace_17 ⟨by decide, FCmk ((q.2 c1).2 c2)⟩))⟩⟩)
set_option maxRecDepth 20000 in
theorem b5_fits_47 {w : cQ} {d : Nat} {F : mPost} {s0 : Int} {M : Nat → Nat → Int} {n : Nat × Nat} (q : (s0 = 0 ∨ s0 = 1) ∧ F (0, s0) (hC w M n)) : WPc t5_fits (WPm gT d) F (47, [(9, 0), (9, 0), (9, 0)], [(0, s0)], hC w M n) :=
  vcK_ok (K := [42, 46, 47]) 33 _ q
set_option maxRecDepth 20000 in
theorem b5_fits_46 {w : cQ} {d : Nat} {F : mPost} {M : Nat → Nat → Int} {n : Nat × Nat} (q : WPc t5_fits (WPm gT d) F (47, [(9, 0), (9, 0), (9, 0)], [(0, 0)], hC w M n)) : WPc t5_fits (WPm gT d) F (46, [(9, 0), (9, 0), (9, 0)], [], hC w M n) :=
  vcK_ok (K := [42, 46, 47]) 33 _ q
set_option maxRecDepth 20000 in
theorem b5_fits_42 {w : cQ} {d : Nat} {F : mPost} {M : Nat → Nat → Int} {n : Nat × Nat} (q : WPc t5_fits (WPm gT d) F (47, [(9, 0), (9, 0), (9, 0)], [(0, 1)], hC w M n)) : WPc t5_fits (WPm gT d) F (42, [(9, 0), (9, 0), (9, 0)], [], hC w M n) :=
  vcK_ok (K := [42, 46, 47]) 33 _ q
set_option maxRecDepth 20000 in
theorem b5_fits_0 {w : cQ} {d : Nat} {F : mPost} {x1 x2 : Int} {M : Nat → Nat → Int} {n : Nat × Nat} (q : ((m_and (m_shr (M 15 3) x2) 1) = 0 → WPc t5_fits (WPm gT d) F (46, [(2, 15), (0, x1), (0, x2)], [], hC w M n)) ∧ (¬ ((m_and (m_shr (M 15 3) x2) 1) = 0) → (0 ≤ x1 ∧ x1 < ((12 : Nat) : Int)) ∧ (((M 104 x1.toNat) = (-1) → WPc t5_fits (WPm gT d) F (42, [(2, 15), (0, x1), (0, x2)], [], hC w M n)) ∧ (¬ ((M 104 x1.toNat) = (-1)) → (0 ≤ x1 ∧ x1 < ((12 : Nat) : Int)) ∧ ((0 ≤ x2 ∧ x2 < ((12 : Nat) : Int)) ∧ (((M 104 x1.toNat) ≠ (M 31 x2.toNat) → WPc t5_fits (WPm gT d) F (46, [(2, 15), (0, x1), (0, x2)], [], hC w M n)) ∧ (¬ ((M 104 x1.toNat) ≠ (M 31 x2.toNat)) → WPc t5_fits (WPm gT d) F (42, [(2, 15), (0, x1), (0, x2)], [], hC w M n)))))))) : WPc t5_fits (WPm gT d) F (0, [(2, 15), (0, x1), (0, x2)], [], hC w M n) :=
  vcK_ok (K := [42, 46, 47]) 33 _ q
set_option maxRecDepth 20000 in
theorem e5_fits {w : cQ} {d : Nat} {Ψ : Int → cQ → (Nat → Nat → Int) → Nat × Nat → Prop} {x1 x2 : Int} {M : Nat → Nat → Int} {n : Nat × Nat} (q : ((m_and (m_shr (M 15 3) x2) 1) = 0 → Ψ 0 w M n) ∧ (¬ ((m_and (m_shr (M 15 3) x2) 1) = 0) → (0 ≤ x1 ∧ x1 < ((12 : Nat) : Int)) ∧ (((M 104 x1.toNat) = (-1) → Ψ 1 w M n) ∧ (¬ ((M 104 x1.toNat) = (-1)) → (0 ≤ x1 ∧ x1 < ((12 : Nat) : Int)) ∧ ((0 ≤ x2 ∧ x2 < ((12 : Nat) : Int)) ∧ (((M 104 x1.toNat) ≠ (M 31 x2.toNat) → Ψ 0 w M n) ∧ (¬ ((M 104 x1.toNat) ≠ (M 31 x2.toNat)) → Ψ 1 w M n))))))) : CW (d + 1) 52 [(2, 15), (0, x1), (0, x2)] w M n Ψ :=
  WPm_in g5_fits (Nat.le_of_ble_eq_true rfl) (b5_fits_0 ⟨fun c1 => (WPc.kill [0, 1, 2] (b5_fits_46 (WPc.kill [0, 1, 2] (b5_fits_47 ⟨by decide, FCmk (q.1 c1)⟩)))), fun c1 => ⟨(q.2 c1).1, ⟨fun c2 => (WPc.kill [0, 1, 2] (b5_fits_42 (WPc.kill [0, 1, 2] (b5_fits_47 ⟨by decide, FCmk ((q.2 c1).2.1 c2)⟩)))), fun c2 => ⟨((q.2 c1).2.2 c2).1, ⟨((q.2 c1).2.2 c2).2.1, ⟨fun c3 => (WPc.kill [0, 1, 2] (b5_fits_46 (WPc.kill [0, 1, 2] (b5_fits_47 ⟨by decide, FCmk (((q.2 c1).2.2 c2).2.2.1 c3)⟩)))), fun c3 => (WPc.kill [0, 1, 2] (b5_fits_42 (WPc.kill [0, 1, 2] (b5_fits_47 ⟨by decide, FCmk (((q.2 c1).2.2 c2).2.2.2 c3)⟩))))⟩⟩⟩⟩⟩⟩)
set_option maxRecDepth 20000 in
theorem b5_bitsAt_166 {w : cQ} {d : Nat} {F : mPost} {x2 x4 x5 x6 x7 : Int} {M : Nat → Nat → Int} {n : Nat × Nat} (q : WPc t5_bitsAt (WPm gT d) F (108, [(2, 15), (9, 0), (0, x2), (2, 29), (0, x4), (0, x5), (0, x6), (0, w32 (x7 + 1))], [], hC w M n)) : WPc t5_bitsAt (WPm gT d) F (166, [(2, 15), (9, 0), (0, x2), (2, 29), (0, x4), (0, x5), (0, x6), (0, x7)], [], hC w M n) :=
  vcK_ok (K := [16, 28, 45, 77, 100, 108, 124, 157, 166]) 102 _ q
set_option maxRecDepth 20000 in
theorem b5_bitsAt_157 {w : cQ} {d : Nat} {F : mPost} {x2 x4 x5 x6 x7 : Int} {M : Nat → Nat → Int} {n : Nat × Nat} (q : WPc t5_bitsAt (WPm gT d) F (166, [(2, 15), (9, 0), (0, x2), (2, 29), (0, x4), (0, x5), (0, m_or x6 (m_shl 1 x7)), (0, x7)], [], hC w M n)) : WPc t5_bitsAt (WPm gT d) F (157, [(2, 15), (9, 0), (0, x2), (2, 29), (0, x4), (0, x5), (0, x6), (0, x7)], [], hC w M n) :=
  vcK_ok (K := [16, 28, 45, 77, 100, 108, 124, 157, 166]) 102 _ q
set_option maxRecDepth 20000 in
theorem b5_bitsAt_124 {w : cQ} {d : Nat} {F : mPost} {x2 x4 x5 x6 x7 s0 : Int} {M : Nat → Nat → Int} {n : Nat × Nat} (q : (s0 = 0 → WPc t5_bitsAt (WPm gT d) F (166, [(2, 15), (9, 0), (0, x2), (2, 29), (0, x4), (0, x5), (0, x6), (0, x7)], [], hC w M n)) ∧ (¬ (s0 = 0) → (0 ≤ x7 ∧ x7 < ((12 : Nat) : Int)) ∧ (((m_and (m_shr x4 (M 30 x7.toNat)) 1) = 0 → WPc t5_bitsAt (WPm gT d) F (166, [(2, 15), (9, 0), (0, x2), (2, 29), (0, x4), (0, x5), (0, x6), (0, x7)], [], hC w M n)) ∧ (¬ ((m_and (m_shr x4 (M 30 x7.toNat)) 1) = 0) → (0 ≤ x7 ∧ x7 < ((12 : Nat) : Int)) ∧ (((m_and (m_shr x5 (M 31 x7.toNat)) 1) = 0 → WPc t5_bitsAt (WPm gT d) F (166, [(2, 15), (9, 0), (0, x2), (2, 29), (0, x4), (0, x5), (0, x6), (0, x7)], [], hC w M n)) ∧ (¬ ((m_and (m_shr x5 (M 31 x7.toNat)) 1) = 0) → WPc t5_bitsAt (WPm gT d) F (157, [(2, 15), (9, 0), (0, x2), (2, 29), (0, x4), (0, x5), (0, x6), (0, x7)], [], hC w M n))))))) : WPc t5_bitsAt (WPm gT d) F (124, [(2, 15), (9, 0), (0, x2), (2, 29), (0, x4), (0, x5), (0, x6), (0, x7)], [(0, s0)], hC w M n) :=
  vcK_ok (K := [16, 28, 45, 77, 100, 108, 124, 157, 166]) 102 _ q
set_option maxRecDepth 20000 in
theorem b5_bitsAt_108 {w : cQ} {d : Nat} {F : mPost} {x2 x4 x5 x6 x7 : Int} {M : Nat → Nat → Int} {n : Nat × Nat} (q : ((M 29 2) ≤ x7 → F (0, x6) (hC w M n)) ∧ (¬ ((M 29 2) ≤ x7) → WPm gT d 52 [(2, 15), (0, x2), (0, x7)] (hC w M n) (fun r h' => WPc t5_bitsAt (WPm gT d) F (124, [(2, 15), (9, 0), (0, x2), (2, 29), (0, x4), (0, x5), (0, x6), (0, x7)], [(0, r.2)], h')))) : WPc t5_bitsAt (WPm gT d) F (108, [(2, 15), (9, 0), (0, x2), (2, 29), (0, x4), (0, x5), (0, x6), (0, x7)], [], hC w M n) :=
  vcK_ok (K := [16, 28, 45, 77, 100, 108, 124, 157, 166]) 102 _ q
set_option maxRecDepth 20000 in
theorem b5_bitsAt_100 {w : cQ} {d : Nat} {F : mPost} {x2 x4 s0 : Int} {M : Nat → Nat → Int} {n : Nat × Nat} (q : WPc t5_bitsAt (WPm gT d) F (108, [(2, 15), (9, 0), (0, x2), (2, 29), (0, x4), (0, s0), (0, 0), (0, 0)], [], hC w M n)) : WPc t5_bitsAt (WPm gT d) F (100, [(2, 15), (9, 0), (0, x2), (2, 29), (0, x4), (9, 0), (9, 0), (9, 0)], [(0, s0)], hC w M n) :=
  vcK_ok (K := [16, 28, 45, 77, 100, 108, 124, 157, 166]) 102 _ q
set_option maxRecDepth 20000 in
theorem b5_bitsAt_77 {w : cQ} {d : Nat} {F : mPost} {x2 x4 x5 x6 x7 : Int} {M : Nat → Nat → Int} {n : Nat × Nat} (q : WPc t5_bitsAt (WPm gT d) F (28, [(2, 15), (9, 0), (0, x2), (2, 29), (0, x4), (0, x5), (0, x6), (0, w32 (x7 + 1))], [], hC w M n)) : WPc t5_bitsAt (WPm gT d) F (77, [(2, 15), (9, 0), (0, x2), (2, 29), (0, x4), (0, x5), (0, x6), (0, x7)], [], hC w M n) :=
  vcK_ok (K := [16, 28, 45, 77, 100, 108, 124, 157, 166]) 102 _ q
set_option maxRecDepth 20000 in
theorem b5_bitsAt_45 {w : cQ} {d : Nat} {F : mPost} {x2 x4 x5 x6 x7 s0 : Int} {M : Nat → Nat → Int} {n : Nat × Nat} (q : (s0 = 0 → WPc t5_bitsAt (WPm gT d) F (77, [(2, 15), (9, 0), (0, x2), (2, 29), (0, x4), (0, x5), (0, x6), (0, x7)], [], hC w M n)) ∧ (¬ (s0 = 0) → (0 ≤ x7 ∧ x7 < ((12 : Nat) : Int)) ∧ (((m_and (m_shr x4 (M 30 x7.toNat)) 1) = 0 → WPc t5_bitsAt (WPm gT d) F (77, [(2, 15), (9, 0), (0, x2), (2, 29), (0, x4), (0, x5), (0, x6), (0, x7)], [], hC w M n)) ∧ (¬ ((m_and (m_shr x4 (M 30 x7.toNat)) 1) = 0) → (0 ≤ x7 ∧ x7 < ((12 : Nat) : Int)) ∧ (WPc t5_bitsAt (WPm gT d) F (77, [(2, 15), (9, 0), (0, x2), (2, 29), (0, x4), (0, x5), (0, m_or x6 (m_shl 1 (M 31 x7.toNat))), (0, x7)], [], hC w M n)))))) : WPc t5_bitsAt (WPm gT d) F (45, [(2, 15), (9, 0), (0, x2), (2, 29), (0, x4), (0, x5), (0, x6), (0, x7)], [(0, s0)], hC w M n) :=
  vcK_ok (K := [16, 28, 45, 77, 100, 108, 124, 157, 166]) 102 _ q
set_option maxRecDepth 20000 in
theorem b5_bitsAt_28 {w : cQ} {d : Nat} {F : mPost} {x2 x4 x5 x6 x7 : Int} {M : Nat → Nat → Int} {n : Nat × Nat} (q : ((M 29 2) ≤ x7 → WPc t5_bitsAt (WPm gT d) F (16, [(2, 15), (9, 0), (0, x2), (2, 29), (0, x6), (0, w32 (x5 + 1)), (0, x6), (0, x7)], [], hC w M n)) ∧ (¬ ((M 29 2) ≤ x7) → WPm gT d 52 [(2, 15), (0, x5), (0, x7)] (hC w M n) (fun r h' => WPc t5_bitsAt (WPm gT d) F (45, [(2, 15), (9, 0), (0, x2), (2, 29), (0, x4), (0, x5), (0, x6), (0, x7)], [(0, r.2)], h')))) : WPc t5_bitsAt (WPm gT d) F (28, [(2, 15), (9, 0), (0, x2), (2, 29), (0, x4), (0, x5), (0, x6), (0, x7)], [], hC w M n) :=
  vcK_ok (K := [16, 28, 45, 77, 100, 108, 124, 157, 166]) 102 _ q
set_option maxRecDepth 20000 in
theorem b5_bitsAt_16 {w : cQ} {d : Nat} {F : mPost} {x2 x4 x5 : Int} {M : Nat → Nat → Int} {n : Nat × Nat} (q : (x2 ≤ x5 → WPm gT d 57 [(2, 15), (0, w32 (x2 + 1))] (hC w M n) (fun r h' => WPc t5_bitsAt (WPm gT d) F (100, [(2, 15), (9, 0), (0, x2), (2, 29), (0, x4), (0, x5), (9, 0), (9, 0)], [(0, r.2)], h'))) ∧ (¬ (x2 ≤ x5) → WPc t5_bitsAt (WPm gT d) F (28, [(2, 15), (9, 0), (0, x2), (2, 29), (0, x4), (0, x5), (0, 0), (0, 0)], [], hC w M n))) : WPc t5_bitsAt (WPm gT d) F (16, [(2, 15), (9, 0), (0, x2), (2, 29), (0, x4), (0, x5), (9, 0), (9, 0)], [], hC w M n) :=
  vcK_ok (K := [16, 28, 45, 77, 100, 108, 124, 157, 166]) 102 _ q
set_option maxRecDepth 20000 in
theorem b5_bitsAt_0 {w : cQ} {d : Nat} {F : mPost} {x1 x2 : Int} {M : Nat → Nat → Int} {n : Nat × Nat} (q : WPc t5_bitsAt (WPm gT d) F (16, [(2, 15), (0, x1), (0, x2), (2, 29), (0, m_shl 1 x1), (0, 0), (9, 0), (9, 0)], [], hC w M n)) : WPc t5_bitsAt (WPm gT d) F (0, [(2, 15), (0, x1), (0, x2), (9, 0), (9, 0), (9, 0), (9, 0), (9, 0)], [], hC w M n) :=
  vcK_ok (K := [16, 28, 45, 77, 100, 108, 124, 157, 166]) 102 _ q
def W5_bitsAt_16 (d : Nat) (Ψ : Int → cQ → (Nat → Nat → Int) → Nat × Nat → Prop) (x2 x4 x5 : Int) (w : cQ) (M : Nat → Nat → Int) (n : Nat × Nat) : Prop := WPc t5_bitsAt (WPm gT d) (FC Ψ) (16, [(2, 15), (9, 0), (0, x2), (2, 29), (0, x4), (0, x5), (9, 0), (9, 0)], [], hC w M n)
def W5_bitsAt_28 (d : Nat) (Ψ : Int → cQ → (Nat → Nat → Int) → Nat × Nat → Prop) (x2 x4 x5 x6 x7 : Int) (w : cQ) (M : Nat → Nat → Int) (n : Nat × Nat) : Prop := WPc t5_bitsAt (WPm gT d) (FC Ψ) (28, [(2, 15), (9, 0), (0, x2), (2, 29), (0, x4), (0, x5), (0, x6), (0, x7)], [], hC w M n)
def W5_bitsAt_108 (d : Nat) (Ψ : Int → cQ → (Nat → Nat → Int) → Nat × Nat → Prop) (x2 x4 x5 x6 x7 : Int) (w : cQ) (M : Nat → Nat → Int) (n : Nat × Nat) : Prop := WPc t5_bitsAt (WPm gT d) (FC Ψ) (108, [(2, 15), (9, 0), (0, x2), (2, 29), (0, x4), (0, x5), (0, x6), (0, x7)], [], hC w M n)
set_option maxRecDepth 20000 in
theorem v5_bitsAt_16 {w : cQ} {d : Nat} {Ψ : Int → cQ → (Nat → Nat → Int) → Nat × Nat → Prop} {x2 x4 x5 : Int} {M : Nat → Nat → Int} {n : Nat × Nat} (q : (x2 ≤ x5 → CW d 57 [(2, 15), (0, w32 (x2 + 1))] w M n (fun r0 w_1 M1 n_1 => W5_bitsAt_108 d Ψ x2 x4 r0 0 0 w_1 M1 n_1 )) ∧ (¬ (x2 ≤ x5) → W5_bitsAt_28 d Ψ x2 x4 x5 0 0 w M n )) : W5_bitsAt_16 d Ψ x2 x4 x5 w M n :=
  b5_bitsAt_16 ⟨fun c1 => (WPm_mono gT d _ _ _ _ _ (fun r0 h' z0 => by obtain ⟨_, M1, _, rfl, z0⟩ := z0; exact WPc.kill [5] (b5_bitsAt_100 z0)) (q.1 c1)), fun c1 => (q.2 c1)⟩
set_option maxRecDepth 20000 in
theorem v5_bitsAt_28 {w : cQ} {d : Nat} {Ψ : Int → cQ → (Nat → Nat → Int) → Nat × Nat → Prop} {x2 x4 x5 x6 x7 : Int} {M : Nat → Nat → Int} {n : Nat × Nat} (q : ((M 29 2) ≤ x7 → W5_bitsAt_16 d Ψ x2 x6 (w32 (x5 + 1)) w M n ) ∧ (¬ ((M 29 2) ≤ x7) → CW d 52 [(2, 15), (0, x5), (0, x7)] w M n (fun r0 w_1 M1 n_1 => (r0 = 0 → W5_bitsAt_28 d Ψ x2 x4 x5 x6 (w32 (x7 + 1)) w_1 M1 n_1 ) ∧ (¬ (r0 = 0) → (0 ≤ x7 ∧ x7 < ((12 : Nat) : Int)) ∧ (((m_and (m_shr x4 (M1 30 x7.toNat)) 1) = 0 → W5_bitsAt_28 d Ψ x2 x4 x5 x6 (w32 (x7 + 1)) w_1 M1 n_1 ) ∧ (¬ ((m_and (m_shr x4 (M1 30 x7.toNat)) 1) = 0) → (0 ≤ x7 ∧ x7 < ((12 : Nat) : Int)) ∧ (W5_bitsAt_28 d Ψ x2 x4 x5 (m_or x6 (m_shl 1 (M1 31 x7.toNat))) (w32 (x7 + 1)) w_1 M1 n_1 ))))))) : W5_bitsAt_28 d Ψ x2 x4 x5 x6 x7 w M n :=
  b5_bitsAt_28 ⟨fun c2 => (WPc.kill [6, 7] (q.1 c2)), fun c2 => (WPm_mono gT d _ _ _ _ _ (fun r0 h' z0 => by obtain ⟨_, M1, _, rfl, z0⟩ := z0; exact b5_bitsAt_45 ⟨fun c3 => (b5_bitsAt_77 (z0.1 c3)), fun c3 => ⟨(z0.2 c3).1, ⟨fun c4 => (b5_bitsAt_77 ((z0.2 c3).2.1 c4)), fun c4 => ⟨((z0.2 c3).2.2 c4).1, (b5_bitsAt_77 ((z0.2 c3).2.2 c4).2)⟩⟩⟩⟩) (q.2 c2))⟩
set_option maxRecDepth 20000 in
theorem v5_bitsAt_108 {w : cQ} {d : Nat} {Ψ : Int → cQ → (Nat → Nat → Int) → Nat × Nat → Prop} {x2 x4 x5 x6 x7 : Int} {M : Nat → Nat → Int} {n : Nat × Nat} (q : ((M 29 2) ≤ x7 → Ψ x6 w M n) ∧ (¬ ((M 29 2) ≤ x7) → CW d 52 [(2, 15), (0, x2), (0, x7)] w M n (fun r0 w_1 M1 n_1 => (r0 = 0 → W5_bitsAt_108 d Ψ x2 x4 x5 x6 (w32 (x7 + 1)) w_1 M1 n_1 ) ∧ (¬ (r0 = 0) → (0 ≤ x7 ∧ x7 < ((12 : Nat) : Int)) ∧ (((m_and (m_shr x4 (M1 30 x7.toNat)) 1) = 0 → W5_bitsAt_108 d Ψ x2 x4 x5 x6 (w32 (x7 + 1)) w_1 M1 n_1 ) ∧ (¬ ((m_and (m_shr x4 (M1 30 x7.toNat)) 1) = 0) → (0 ≤ x7 ∧ x7 < ((12 : Nat) : Int)) ∧ (((m_and (m_shr x5 (M1 31 x7.toNat)) 1) = 0 → W5_bitsAt_108 d Ψ x2 x4 x5 x6 (w32 (x7 + 1)) w_1 M1 n_1 ) ∧ (¬ ((m_and (m_shr x5 (M1 31 x7.toNat)) 1) = 0) → W5_bitsAt_108 d Ψ x2 x4 x5 (m_or x6 (m_shl 1 x7)) (w32 (x7 + 1)) w_1 M1 n_1 )))))))) : W5_bitsAt_108 d Ψ x2 x4 x5 x6 x7 w M n :=
  b5_bitsAt_108 ⟨fun c5 => (FCmk (q.1 c5)), fun c5 => (WPm_mono gT d _ _ _ _ _ (fun r0 h' z0 => by obtain ⟨_, M1, _, rfl, z0⟩ := z0; exact b5_bitsAt_124 ⟨fun c6 => (b5_bitsAt_166 (z0.1 c6)), fun c6 => ⟨(z0.2 c6).1, ⟨fun c7 => (b5_bitsAt_166 ((z0.2 c6).2.1 c7)), fun c7 => ⟨((z0.2 c6).2.2 c7).1, ⟨fun c8 => (b5_bitsAt_166 (((z0.2 c6).2.2 c7).2.1 c8)), fun c8 => (b5_bitsAt_157 (b5_bitsAt_166 (((z0.2 c6).2.2 c7).2.2 c8)))⟩⟩⟩⟩⟩) (q.2 c5))⟩
set_option maxRecDepth 20000 in
theorem e5_bitsAt {w : cQ} {d : Nat} {Ψ : Int → cQ → (Nat → Nat → Int) → Nat × Nat → Prop} {x1 x2 : Int} {M : Nat → Nat → Int} {n : Nat × Nat} (q : W5_bitsAt_16 d Ψ x2 (m_shl 1 x1) 0 w M n ) : CW (d + 1) 56 [(2, 15), (0, x1), (0, x2)] w M n Ψ :=
  WPm_in g5_bitsAt (Nat.le_of_ble_eq_true rfl) (b5_bitsAt_0 (WPc.kill [1] q))
set_option maxRecDepth 20000 in
theorem b5_momentsThatGoOn_85 {w : cQ} {d : Nat} {F : mPost} {x1 x3 x4 x5 x6 : Int} {M : Nat → Nat → Int} {n : Nat × Nat} (q : WPc t5_momentsThatGoOn (WPm gT d) F (37, [(2, 15), (0, x1), (2, 29), (0, x3), (0, x4), (0, x5), (0, w32 (x6 + 1))], [], hC w M n)) : WPc t5_momentsThatGoOn (WPm gT d) F (85, [(2, 15), (0, x1), (2, 29), (0, x3), (0, x4), (0, x5), (0, x6)], [], hC w M n) :=
  vcK_ok (K := [25, 37, 54, 85]) 63 _ q
set_option maxRecDepth 20000 in
theorem b5_momentsThatGoOn_54 {w : cQ} {d : Nat} {F : mPost} {x1 x3 x4 x5 x6 s0 : Int} {M : Nat → Nat → Int} {n : Nat × Nat} (q : (s0 = 0 → WPc t5_momentsThatGoOn (WPm gT d) F (85, [(2, 15), (0, x1), (2, 29), (0, x3), (0, x4), (0, x5), (0, x6)], [], hC w M n)) ∧ (¬ (s0 = 0) → (0 ≤ x6 ∧ x6 < ((12 : Nat) : Int)) ∧ (((m_and (m_shr x3 (M 31 x6.toNat)) 1) = 0 → WPc t5_momentsThatGoOn (WPm gT d) F (85, [(2, 15), (0, x1), (2, 29), (0, x3), (0, x4), (0, x5), (0, x6)], [], hC w M n)) ∧ (¬ ((m_and (m_shr x3 (M 31 x6.toNat)) 1) = 0) → (0 ≤ x6 ∧ x6 < ((12 : Nat) : Int)) ∧ (WPc t5_momentsThatGoOn (WPm gT d) F (85, [(2, 15), (0, x1), (2, 29), (0, x3), (0, x4), (0, m_or x5 (m_shl 1 (M 30 x6.toNat))), (0, x6)], [], hC w M n)))))) : WPc t5_momentsThatGoOn (WPm gT d) F (54, [(2, 15), (0, x1), (2, 29), (0, x3), (0, x4), (0, x5), (0, x6)], [(0, s0)], hC w M n) :=
  vcK_ok (K := [25, 37, 54, 85]) 63 _ q
set_option maxRecDepth 20000 in
theorem b5_momentsThatGoOn_37 {w : cQ} {d : Nat} {F : mPost} {x1 x3 x4 x5 x6 : Int} {M : Nat → Nat → Int} {n : Nat × Nat} (q : ((M 29 2) ≤ x6 → WPc t5_momentsThatGoOn (WPm gT d) F (25, [(2, 15), (0, x1), (2, 29), (0, x5), (0, w32 (x4 + (-1))), (0, x5), (0, x6)], [], hC w M n)) ∧ (¬ ((M 29 2) ≤ x6) → WPm gT d 52 [(2, 15), (0, x4), (0, x6)] (hC w M n) (fun r h' => WPc t5_momentsThatGoOn (WPm gT d) F (54, [(2, 15), (0, x1), (2, 29), (0, x3), (0, x4), (0, x5), (0, x6)], [(0, r.2)], h')))) : WPc t5_momentsThatGoOn (WPm gT d) F (37, [(2, 15), (0, x1), (2, 29), (0, x3), (0, x4), (0, x5), (0, x6)], [], hC w M n) :=
  vcK_ok (K := [25, 37, 54, 85]) 63 _ q
set_option maxRecDepth 20000 in
theorem b5_momentsThatGoOn_25 {w : cQ} {d : Nat} {F : mPost} {x1 x3 x4 : Int} {M : Nat → Nat → Int} {n : Nat × Nat} (q : (x4 < x1 → F (0, x3) (hC w M n)) ∧ (¬ (x4 < x1) → WPc t5_momentsThatGoOn (WPm gT d) F (37, [(2, 15), (0, x1), (2, 29), (0, x3), (0, x4), (0, 0), (0, 0)], [], hC w M n))) : WPc t5_momentsThatGoOn (WPm gT d) F (25, [(2, 15), (0, x1), (2, 29), (0, x3), (0, x4), (9, 0), (9, 0)], [], hC w M n) :=
  vcK_ok (K := [25, 37, 54, 85]) 63 _ q
set_option maxRecDepth 20000 in
theorem b5_momentsThatGoOn_0 {w : cQ} {d : Nat} {F : mPost} {x1 : Int} {M : Nat → Nat → Int} {n : Nat × Nat} (q : WPc t5_momentsThatGoOn (WPm gT d) F (25, [(2, 15), (0, x1), (2, 29), (0, w32 ((m_shl 1 (M 29 1)) - 1)), (0, w32 ((M 15 2) - 1)), (9, 0), (9, 0)], [], hC w M n)) : WPc t5_momentsThatGoOn (WPm gT d) F (0, [(2, 15), (0, x1), (9, 0), (9, 0), (9, 0), (9, 0), (9, 0)], [], hC w M n) :=
  vcK_ok (K := [25, 37, 54, 85]) 63 _ q
def W5_momentsThatGoOn_25 (d : Nat) (Ψ : Int → cQ → (Nat → Nat → Int) → Nat × Nat → Prop) (x1 x3 x4 : Int) (w : cQ) (M : Nat → Nat → Int) (n : Nat × Nat) : Prop := WPc t5_momentsThatGoOn (WPm gT d) (FC Ψ) (25, [(2, 15), (0, x1), (2, 29), (0, x3), (0, x4), (9, 0), (9, 0)], [], hC w M n)
def W5_momentsThatGoOn_37 (d : Nat) (Ψ : Int → cQ → (Nat → Nat → Int) → Nat × Nat → Prop) (x1 x3 x4 x5 x6 : Int) (w : cQ) (M : Nat → Nat → Int) (n : Nat × Nat) : Prop := WPc t5_momentsThatGoOn (WPm gT d) (FC Ψ) (37, [(2, 15), (0, x1), (2, 29), (0, x3), (0, x4), (0, x5), (0, x6)], [], hC w M n)
set_option maxRecDepth 20000 in
theorem v5_momentsThatGoOn_25 {w : cQ} {d : Nat} {Ψ : Int → cQ → (Nat → Nat → Int) → Nat × Nat → Prop} {x1 x3 x4 : Int} {M : Nat → Nat → Int} {n : Nat × Nat} (q : (x4 < x1 → Ψ x3 w M n) ∧ (¬ (x4 < x1) → W5_momentsThatGoOn_37 d Ψ x1 x3 x4 0 0 w M n )) : W5_momentsThatGoOn_25 d Ψ x1 x3 x4 w M n :=
  b5_momentsThatGoOn_25 ⟨fun c1 => (FCmk (q.1 c1)), fun c1 => (q.2 c1)⟩
set_option maxRecDepth 20000 in
theorem v5_momentsThatGoOn_37 {w : cQ} {d : Nat} {Ψ : Int → cQ → (Nat → Nat → Int) → Nat × Nat → Prop} {x1 x3 x4 x5 x6 : Int} {M : Nat → Nat → Int} {n : Nat × Nat} (q : ((M 29 2) ≤ x6 → W5_momentsThatGoOn_25 d Ψ x1 x5 (w32 (x4 + (-1))) w M n ) ∧ (¬ ((M 29 2) ≤ x6) → CW d 52 [(2, 15), (0, x4), (0, x6)] w M n (fun r0 w_1 M1 n_1 => (r0 = 0 → W5_momentsThatGoOn_37 d Ψ x1 x3 x4 x5 (w32 (x6 + 1)) w_1 M1 n_1 ) ∧ (¬ (r0 = 0) → (0 ≤ x6 ∧ x6 < ((12 : Nat) : Int)) ∧ (((m_and (m_shr x3 (M1 31 x6.toNat)) 1) = 0 → W5_momentsThatGoOn_37 d Ψ x1 x3 x4 x5 (w32 (x6 + 1)) w_1 M1 n_1 ) ∧ (¬ ((m_and (m_shr x3 (M1 31 x6.toNat)) 1) = 0) → (0 ≤ x6 ∧ x6 < ((12 : Nat) : Int)) ∧ (W5_momentsThatGoOn_37 d Ψ x1 x3 x4 (m_or x5 (m_shl 1 (M1 30 x6.toNat))) (w32 (x6 + 1)) w_1 M1 n_1 ))))))) : W5_momentsThatGoOn_37 d Ψ x1 x3 x4 x5 x6 w M n :=
  b5_momentsThatGoOn_37 ⟨fun c2 => (WPc.kill [5, 6] (q.1 c2)), fun c2 => (WPm_mono gT d _ _ _ _ _ (fun r0 h' z0 => by obtain ⟨_, M1, _, rfl, z0⟩ := z0; exact b5_momentsThatGoOn_54 ⟨fun c3 => (b5_momentsThatGoOn_85 (z0.1 c3)), fun c3 => ⟨(z0.2 c3).1, ⟨fun c4 => (b5_momentsThatGoOn_85 ((z0.2 c3).2.1 c4)), fun c4 => ⟨((z0.2 c3).2.2 c4).1, (b5_momentsThatGoOn_85 ((z0.2 c3).2.2 c4).2)⟩⟩⟩⟩) (q.2 c2))⟩
set_option maxRecDepth 20000 in
theorem e5_momentsThatGoOn {w : cQ} {d : Nat} {Ψ : Int → cQ → (Nat → Nat → Int) → Nat × Nat → Prop} {x1 : Int} {M : Nat → Nat → Int} {n : Nat × Nat} (q : W5_momentsThatGoOn_25 d Ψ x1 (w32 ((m_shl 1 (M 29 1)) - 1)) (w32 ((M 15 2) - 1)) w M n ) : CW (d + 1) 57 [(2, 15), (0, x1)] w M n Ψ :=
  WPm_in g5_momentsThatGoOn (Nat.le_of_ble_eq_true rfl) (b5_momentsThatGoOn_0 q)
set_option maxRecDepth 20000 in
theorem b5_farmsAt_96 {w : cQ} {d : Nat} {F : mPost} {x1 x2 x4 s0 : Int} {M : Nat → Nat → Int} {n : Nat × Nat} (q : WPc t5_farmsAt (WPm gT d) F (72, [(2, 15), (0, x1), (0, x2), (0, s0), (0, w32 (x4 + (-1)))], [], hC w M n)) : WPc t5_farmsAt (WPm gT d) F (96, [(2, 15), (0, x1), (0, x2), (9, 0), (0, x4)], [(0, s0)], hC w M n) :=
  vcK_ok (K := [13, 16, 35, 38, 63, 72, 93, 96]) 65 _ q
set_option maxRecDepth 20000 in
theorem b5_farmsAt_93 {w : cQ} {d : Nat} {F : mPost} {x1 x2 x4 s0 s1 : Int} {M : Nat → Nat → Int} {n : Nat × Nat} (q : WPm gT d 60 [(0, s0), (0, s1)] (hC w M n) (fun r h' => WPc t5_farmsAt (WPm gT d) F (96, [(2, 15), (0, x1), (0, x2), (9, 0), (0, x4)], [(0, r.2)], h'))) : WPc t5_farmsAt (WPm gT d) F (93, [(2, 15), (0, x1), (0, x2), (9, 0), (0, x4)], [(0, s1), (0, s0)], hC w M n) :=
  vcK_ok (K := [13, 16, 35, 38, 63, 72, 93, 96]) 65 _ q
set_option maxRecDepth 20000 in
theorem b5_farmsAt_72 {w : cQ} {d : Nat} {F : mPost} {x1 x2 x3 x4 : Int} {M : Nat → Nat → Int} {n : Nat × Nat} (q : (x4 < x1 → F (0, m_and x2 x3) (hC w M n)) ∧ (¬ (x4 < x1) → (0 ≤ x4 ∧ x4 < ((12 : Nat) : Int)) ∧ (WPm gT d 97 [(2, 4), (0, M 104 x4.toNat)] (hC w M n) (fun r h' => WPc t5_farmsAt (WPm gT d) F (93, [(2, 15), (0, x1), (0, x2), (0, x3), (0, x4)], [(0, r.2), (0, x3)], h'))))) : WPc t5_farmsAt (WPm gT d) F (72, [(2, 15), (0, x1), (0, x2), (0, x3), (0, x4)], [], hC w M n) :=
  vcK_ok (K := [13, 16, 35, 38, 63, 72, 93, 96]) 65 _ q
set_option maxRecDepth 20000 in
theorem b5_farmsAt_63 {w : cQ} {d : Nat} {F : mPost} {x1 x2 s0 : Int} {M : Nat → Nat → Int} {n : Nat × Nat} (q : WPc t5_farmsAt (WPm gT d) F (72, [(2, 15), (0, x1), (0, x2), (0, s0), (0, w32 ((M 15 2) - 2))], [], hC w M n)) : WPc t5_farmsAt (WPm gT d) F (63, [(2, 15), (0, x1), (0, x2), (9, 0), (9, 0)], [(0, s0)], hC w M n) :=
  vcK_ok (K := [13, 16, 35, 38, 63, 72, 93, 96]) 65 _ q
set_option maxRecDepth 20000 in
theorem b5_farmsAt_38 {w : cQ} {d : Nat} {F : mPost} {x1 x3 s0 : Int} {M : Nat → Nat → Int} {n : Nat × Nat} (q : WPc t5_farmsAt (WPm gT d) F (16, [(2, 15), (0, x1), (0, s0), (0, w32 (x3 + 1)), (9, 0)], [], hC w M n)) : WPc t5_farmsAt (WPm gT d) F (38, [(2, 15), (0, x1), (9, 0), (0, x3), (9, 0)], [(0, s0)], hC w M n) :=
  vcK_ok (K := [13, 16, 35, 38, 63, 72, 93, 96]) 65 _ q
set_option maxRecDepth 20000 in
theorem b5_farmsAt_35 {w : cQ} {d : Nat} {F : mPost} {x1 x3 s0 s1 : Int} {M : Nat → Nat → Int} {n : Nat × Nat} (q : WPm gT d 60 [(0, s0), (0, s1)] (hC w M n) (fun r h' => WPc t5_farmsAt (WPm gT d) F (38, [(2, 15), (0, x1), (9, 0), (0, x3), (9, 0)], [(0, r.2)], h'))) : WPc t5_farmsAt (WPm gT d) F (35, [(2, 15), (0, x1), (9, 0), (0, x3), (9, 0)], [(0, s1), (0, s0)], hC w M n) :=
  vcK_ok (K := [13, 16, 35, 38, 63, 72, 93, 96]) 65 _ q
set_option maxRecDepth 20000 in
theorem b5_farmsAt_16 {w : cQ} {d : Nat} {F : mPost} {x1 x2 x3 : Int} {M : Nat → Nat → Int} {n : Nat × Nat} (q : (x1 < x3 → (0 ≤ (w32 ((M 15 2) - 1)) ∧ (w32 ((M 15 2) - 1)) < ((12 : Nat) : Int)) ∧ (WPm gT d 97 [(2, 4), (0, M 104 (w32 ((M 15 2) - 1)).toNat)] (hC w M n) (fun r h' => WPc t5_farmsAt (WPm gT d) F (63, [(2, 15), (0, x1), (0, x2), (0, x3), (9, 0)], [(0, r.2)], h')))) ∧ (¬ (x1 < x3) → (0 ≤ x3 ∧ x3 < ((12 : Nat) : Int)) ∧ (WPm gT d 97 [(2, 4), (0, M 104 x3.toNat)] (hC w M n) (fun r h' => WPc t5_farmsAt (WPm gT d) F (35, [(2, 15), (0, x1), (0, x2), (0, x3), (9, 0)], [(0, r.2), (0, x2)], h'))))) : WPc t5_farmsAt (WPm gT d) F (16, [(2, 15), (0, x1), (0, x2), (0, x3), (9, 0)], [], hC w M n) :=
  vcK_ok (K := [13, 16, 35, 38, 63, 72, 93, 96]) 65 _ q
set_option maxRecDepth 20000 in
theorem b5_farmsAt_13 {w : cQ} {d : Nat} {F : mPost} {x1 s0 : Int} {M : Nat → Nat → Int} {n : Nat × Nat} (q : WPc t5_farmsAt (WPm gT d) F (16, [(2, 15), (0, x1), (0, s0), (0, 1), (9, 0)], [], hC w M n)) : WPc t5_farmsAt (WPm gT d) F (13, [(2, 15), (0, x1), (9, 0), (9, 0), (9, 0)], [(0, s0)], hC w M n) :=
  vcK_ok (K := [13, 16, 35, 38, 63, 72, 93, 96]) 65 _ q
set_option maxRecDepth 20000 in
theorem b5_farmsAt_0 {w : cQ} {d : Nat} {F : mPost} {x1 : Int} {M : Nat → Nat → Int} {n : Nat × Nat} (q : ((0 : Int) ≤ 0 ∧ (0 : Int) < ((12 : Nat) : Int)) ∧ (WPm gT d 97 [(2, 4), (0, M 104 0)] (hC w M n) (fun r h' => WPc t5_farmsAt (WPm gT d) F (13, [(2, 15), (0, x1), (9, 0), (9, 0), (9, 0)], [(0, r.2)], h')))) : WPc t5_farmsAt (WPm gT d) F (0, [(2, 15), (0, x1), (9, 0), (9, 0), (9, 0)], [], hC w M n) :=
  vcK_ok (K := [13, 16, 35, 38, 63, 72, 93, 96]) 65 _ q
def W5_farmsAt_16 (d : Nat) (Ψ : Int → cQ → (Nat → Nat → Int) → Nat × Nat → Prop) (x1 x2 x3 : Int) (w : cQ) (M : Nat → Nat → Int) (n : Nat × Nat) : Prop := WPc t5_farmsAt (WPm gT d) (FC Ψ) (16, [(2, 15), (0, x1), (0, x2), (0, x3), (9, 0)], [], hC w M n)
def W5_farmsAt_72 (d : Nat) (Ψ : Int → cQ → (Nat → Nat → Int) → Nat × Nat → Prop) (x1 x2 x3 x4 : Int) (w : cQ) (M : Nat → Nat → Int) (n : Nat × Nat) : Prop := WPc t5_farmsAt (WPm gT d) (FC Ψ) (72, [(2, 15), (0, x1), (0, x2), (0, x3), (0, x4)], [], hC w M n)
set_option maxRecDepth 20000 in
theorem v5_farmsAt_16 {w : cQ} {d : Nat} {Ψ : Int → cQ → (Nat → Nat → Int) → Nat × Nat → Prop} {x1 x2 x3 : Int} {M : Nat → Nat → Int} {n : Nat × Nat} (q : (x1 < x3 → (0 ≤ (w32 ((M 15 2) - 1)) ∧ (w32 ((M 15 2) - 1)) < ((12 : Nat) : Int)) ∧ (CW d 97 [(2, 4), (0, M 104 (w32 ((M 15 2) - 1)).toNat)] w M n (fun r0 w_1 M1 n_1 => W5_farmsAt_72 d Ψ x1 x2 r0 (w32 ((M1 15 2) - 2)) w_1 M1 n_1 ))) ∧ (¬ (x1 < x3) → (0 ≤ x3 ∧ x3 < ((12 : Nat) : Int)) ∧ (CW d 97 [(2, 4), (0, M 104 x3.toNat)] w M n (fun r0 w_1 M1 n_1 => CW d 60 [(0, x2), (0, r0)] w_1 M1 n_1 (fun r1 w_2 M2 n_2 => W5_farmsAt_16 d Ψ x1 r1 (w32 (x3 + 1)) w_2 M2 n_2 ))))) : W5_farmsAt_16 d Ψ x1 x2 x3 w M n :=
  b5_farmsAt_16 ⟨fun c1 => ⟨(q.1 c1).1, (WPm_mono gT d _ _ _ _ _ (fun r0 h' z0 => by obtain ⟨_, M1, _, rfl, z0⟩ := z0; exact WPc.kill [3] (b5_farmsAt_63 z0)) (q.1 c1).2)⟩, fun c1 => ⟨(q.2 c1).1, (WPm_mono gT d _ _ _ _ _ (fun r0 h' z0 => by obtain ⟨_, M1, _, rfl, z0⟩ := z0; exact WPc.kill [2] (b5_farmsAt_35 (WPm_mono gT d _ _ _ _ _ (fun r1 h' z1 => by obtain ⟨_, M2, _, rfl, z1⟩ := z1; exact WPc.kill [2] (b5_farmsAt_38 z1)) z0))) (q.2 c1).2)⟩⟩
set_option maxRecDepth 20000 in
theorem v5_farmsAt_72 {w : cQ} {d : Nat} {Ψ : Int → cQ → (Nat → Nat → Int) → Nat × Nat → Prop} {x1 x2 x3 x4 : Int} {M : Nat → Nat → Int} {n : Nat × Nat} (q : (x4 < x1 → Ψ (m_and x2 x3) w M n) ∧ (¬ (x4 < x1) → (0 ≤ x4 ∧ x4 < ((12 : Nat) : Int)) ∧ (CW d 97 [(2, 4), (0, M 104 x4.toNat)] w M n (fun r0 w_1 M1 n_1 => CW d 60 [(0, x3), (0, r0)] w_1 M1 n_1 (fun r1 w_2 M2 n_2 => W5_farmsAt_72 d Ψ x1 x2 r1 (w32 (x4 + (-1))) w_2 M2 n_2 ))))) : W5_farmsAt_72 d Ψ x1 x2 x3 x4 w M n :=
  b5_farmsAt_72 ⟨fun c2 => (FCmk (q.1 c2)), fun c2 => ⟨(q.2 c2).1, (WPm_mono gT d _ _ _ _ _ (fun r0 h' z0 => by obtain ⟨_, M1, _, rfl, z0⟩ := z0; exact WPc.kill [3] (b5_farmsAt_93 (WPm_mono gT d _ _ _ _ _ (fun r1 h' z1 => by obtain ⟨_, M2, _, rfl, z1⟩ := z1; exact WPc.kill [3] (b5_farmsAt_96 z1)) z0))) (q.2 c2).2)⟩⟩
set_option maxRecDepth 20000 in
theorem e5_farmsAt {w : cQ} {d : Nat} {Ψ : Int → cQ → (Nat → Nat → Int) → Nat × Nat → Prop} {x1 : Int} {M : Nat → Nat → Int} {n : Nat × Nat} (q : CW d 97 [(2, 4), (0, M 104 0)] w M n (fun r0 w_1 M1 n_1 => W5_farmsAt_16 d Ψ x1 r0 1 w_1 M1 n_1 )) : CW (d + 1) 59 [(2, 15), (0, x1)] w M n Ψ :=
  WPm_in g5_farmsAt (Nat.le_of_ble_eq_true rfl) (b5_farmsAt_0 ⟨by decide, (WPm_mono gT d _ _ _ _ _ (fun r0 h' z0 => by obtain ⟨_, M1, _, rfl, z0⟩ := z0; exact b5_farmsAt_13 z0) q)⟩)
set_option maxRecDepth 20000 in
theorem b5_notTwice_34 {w : cQ} {d : Nat} {F : mPost} {x0 x1 x2 x3 : Int} {M : Nat → Nat → Int} {n : Nat × Nat} (q : WPc t5_notTwice (WPm gT d) F (4, [(0, x0), (0, x1), (0, x2), (0, w32 (x3 + 1))], [], hC w M n)) : WPc t5_notTwice (WPm gT d) F (34, [(0, x0), (0, x1), (0, x2), (0, x3)], [], hC w M n) :=
  vcK_ok (K := [4, 28, 34]) 36 _ q
set_option maxRecDepth 20000 in
theorem b5_notTwice_28 {w : cQ} {d : Nat} {F : mPost} {x0 x1 x2 x3 : Int} {M : Nat → Nat → Int} {n : Nat × Nat} (q : WPc t5_notTwice (WPm gT d) F (34, [(0, x0), (0, x1), (0, m_or x2 (m_shl 1 x3)), (0, x3)], [], hC w M n)) : WPc t5_notTwice (WPm gT d) F (28, [(0, x0), (0, x1), (0, x2), (0, x3)], [], hC w M n) :=
  vcK_ok (K := [4, 28, 34]) 36 _ q
set_option maxRecDepth 20000 in
theorem b5_notTwice_4 {w : cQ} {d : Nat} {F : mPost} {x0 x1 x2 x3 : Int} {M : Nat → Nat → Int} {n : Nat × Nat} (q : (8 ≤ x3 → F (0, x2) (hC w M n)) ∧ (¬ (8 ≤ x3) → ((m_and (m_shr x1 x3) 1) = 0 → WPc t5_notTwice (WPm gT d) F (34, [(0, x0), (0, x1), (0, x2), (0, x3)], [], hC w M n)) ∧ (¬ ((m_and (m_shr x1 x3) 1) = 0) → ((m_and x0 (m_xor (m_shl 1 x3) (-1))) = 0 → WPc t5_notTwice (WPm gT d) F (34, [(0, x0), (0, x1), (0, x2), (0, x3)], [], hC w M n)) ∧ (¬ ((m_and x0 (m_xor (m_shl 1 x3) (-1))) = 0) → WPc t5_notTwice (WPm gT d) F (28, [(0, x0), (0, x1), (0, x2), (0, x3)], [], hC w M n))))) : WPc t5_notTwice (WPm gT d) F (4, [(0, x0), (0, x1), (0, x2), (0, x3)], [], hC w M n) :=
  vcK_ok (K := [4, 28, 34]) 36 _ q
set_option maxRecDepth 20000 in
theorem b5_notTwice_0 {w : cQ} {d : Nat} {F : mPost} {x0 x1 : Int} {M : Nat → Nat → Int} {n : Nat × Nat} (q : WPc t5_notTwice (WPm gT d) F (4, [(0, x0), (0, x1), (0, 0), (0, 0)], [], hC w M n)) : WPc t5_notTwice (WPm gT d) F (0, [(0, x0), (0, x1), (9, 0), (9, 0)], [], hC w M n) :=
  vcK_ok (K := [4, 28, 34]) 36 _ q
def W5_notTwice_4 (d : Nat) (Ψ : Int → cQ → (Nat → Nat → Int) → Nat × Nat → Prop) (x0 x1 x2 x3 : Int) (w : cQ) (M : Nat → Nat → Int) (n : Nat × Nat) : Prop := WPc t5_notTwice (WPm gT d) (FC Ψ) (4, [(0, x0), (0, x1), (0, x2), (0, x3)], [], hC w M n)
set_option maxRecDepth 20000 in
theorem v5_notTwice_4 {w : cQ} {d : Nat} {Ψ : Int → cQ → (Nat → Nat → Int) → Nat × Nat → Prop} {x0 x1 x2 x3 : Int} {M : Nat → Nat → Int} {n : Nat × Nat} (q : (8 ≤ x3 → Ψ x2 w M n) ∧ (¬ (8 ≤ x3) → ((m_and (m_shr x1 x3) 1) = 0 → W5_notTwice_4 d Ψ x0 x1 x2 (w32 (x3 + 1)) w M n ) ∧ (¬ ((m_and (m_shr x1 x3) 1) = 0) → ((m_and x0 (m_xor (m_shl 1 x3) (-1))) = 0 → W5_notTwice_4 d Ψ x0 x1 x2 (w32 (x3 + 1)) w M n ) ∧ (¬ ((m_and x0 (m_xor (m_shl 1 x3) (-1))) = 0) → W5_notTwice_4 d Ψ x0 x1 (m_or x2 (m_shl 1 x3)) (w32 (x3 + 1)) w M n )))) : W5_notTwice_4 d Ψ x0 x1 x2 x3 w M n :=
  b5_notTwice_4 ⟨fun c1 => (FCmk (q.1 c1)), fun c1 => ⟨fun c2 => (b5_notTwice_34 ((q.2 c1).1 c2)), fun c2 => ⟨fun c3 => (b5_notTwice_34 (((q.2 c1).2 c2).1 c3)), fun c3 => (b5_notTwice_28 (b5_notTwice_34 (((q.2 c1).2 c2).2 c3)))⟩⟩⟩
set_option maxRecDepth 20000 in
theorem e5_notTwice {w : cQ} {d : Nat} {Ψ : Int → cQ → (Nat → Nat → Int) → Nat × Nat → Prop} {x0 x1 : Int} {M : Nat → Nat → Int} {n : Nat × Nat} (q : W5_notTwice_4 d Ψ x0 x1 0 0 w M n ) : CW (d + 1) 60 [(0, x0), (0, x1)] w M n Ψ :=
  WPm_in g5_notTwice (Nat.le_of_ble_eq_true rfl) (b5_notTwice_0 q)
set_option maxRecDepth 20000 in
theorem b7_begin_37 {w : cQ} {d : Nat} {F : mPost} {x2 : Int} {M : Nat → Nat → Int} {n : Nat × Nat} (q : WPc t7_begin (WPm gT d) F (2, [(2, 38), (2, 29), (0, w32 (x2 + 1))], [], hC w M n)) : WPc t7_begin (WPm gT d) F (37, [(2, 38), (2, 29), (0, x2)], [], hC w M n) :=
  vcK_ok (K := [2, 37]) 42 _ q
set_option maxRecDepth 20000 in
theorem b7_begin_2 {w : cQ} {d : Nat} {F : mPost} {x2 : Int} {M : Nat → Nat → Int} {n : Nat × Nat} (q : (8 ≤ x2 → F (9, 0) (hC w (sI (sI (sI M 38 3 (M 29 4)) 38 4 0) 38 5 0) n)) ∧ (¬ (8 ≤ x2) → (0 ≤ x2 ∧ x2 < ((8 : Nat) : Int) ∧ True) ∧ ((0 ≤ x2 ∧ x2 < ((8 : Nat) : Int) ∧ True) ∧ ((0 ≤ x2 ∧ x2 < ((8 : Nat) : Int)) ∧ ((0 ≤ x2 ∧ x2 < ((8 : Nat) : Int) ∧ True) ∧ (WPc t7_begin (WPm gT d) F (37, [(2, 38), (2, 29), (0, x2)], [], hC w (sI (sI (sI M 39 x2.toNat (M 29 5)) 40 x2.toNat 0) 41 x2.toNat ((sI (sI M 39 x2.toNat (M 29 5)) 40 x2.toNat 0) 33 x2.toNat)) n))))))) : WPc t7_begin (WPm gT d) F (2, [(2, 38), (2, 29), (0, x2)], [], hC w M n) :=
  vcK_ok (K := [2, 37]) 42 _ q
set_option maxRecDepth 20000 in
theorem b7_begin_0 {w : cQ} {d : Nat} {F : mPost} {M : Nat → Nat → Int} {n : Nat × Nat} (q : WPc t7_begin (WPm gT d) F (2, [(2, 38), (2, 29), (0, 0)], [], hC w M n)) : WPc t7_begin (WPm gT d) F (0, [(2, 38), (2, 29), (9, 0)], [], hC w M n) :=
  vcK_ok (K := [2, 37]) 42 _ q
def W7_begin_2 (d : Nat) (Ψ : Int → cQ → (Nat → Nat → Int) → Nat × Nat → Prop) (x2 : Int) (w : cQ) (M : Nat → Nat → Int) (n : Nat × Nat) : Prop := WPc t7_begin (WPm gT d) (FC Ψ) (2, [(2, 38), (2, 29), (0, x2)], [], hC w M n)
set_option maxRecDepth 20000 in
theorem v7_begin_2 {w : cQ} {d : Nat} {Ψ : Int → cQ → (Nat → Nat → Int) → Nat × Nat → Prop} {x2 : Int} {M : Nat → Nat → Int} {n : Nat × Nat} (q : (8 ≤ x2 → Ψ 0 w (sI (sI (sI M 38 3 (M 29 4)) 38 4 0) 38 5 0) n) ∧ (¬ (8 ≤ x2) → (0 ≤ x2 ∧ x2 < ((8 : Nat) : Int) ∧ True) ∧ ((0 ≤ x2 ∧ x2 < ((8 : Nat) : Int) ∧ True) ∧ ((0 ≤ x2 ∧ x2 < ((8 : Nat) : Int)) ∧ ((0 ≤ x2 ∧ x2 < ((8 : Nat) : Int) ∧ True) ∧ (W7_begin_2 d Ψ (w32 (x2 + 1)) w (sI (sI (sI M 39 x2.toNat (M 29 5)) 40 x2.toNat 0) 41 x2.toNat ((sI (sI M 39 x2.toNat (M 29 5)) 40 x2.toNat 0) 33 x2.toNat)) n )))))) : W7_begin_2 d Ψ x2 w M n :=
  b7_begin_2 ⟨fun c1 => (FCmk (q.1 c1)), fun c1 => ⟨(q.2 c1).1, ⟨(q.2 c1).2.1, ⟨(q.2 c1).2.2.1, ⟨(q.2 c1).2.2.2.1, (b7_begin_37 (q.2 c1).2.2.2.2)⟩⟩⟩⟩⟩
set_option maxRecDepth 20000 in
theorem e7_begin {w : cQ} {d : Nat} {Ψ : Int → cQ → (Nat → Nat → Int) → Nat × Nat → Prop} {M : Nat → Nat → Int} {n : Nat × Nat} (q : W7_begin_2 d Ψ 0 w M n ) : CW (d + 1) 70 [(2, 38), (2, 29)] w M n Ψ :=
  WPm_in g7_begin (Nat.le_of_ble_eq_true rfl) (b7_begin_0 q)
set_option maxRecDepth 20000 in
theorem b8_isMissingT0_12 {w : cQ} {d : Nat} {F : mPost} {s0 : Int} {M : Nat → Nat → Int} {n : Nat × Nat} (q : (s0 = 0 ∨ s0 = 1) ∧ F (0, s0) (hC w M n)) : WPc t8_isMissing (WPm gT d) F (12, [(9, 0)], [(0, s0)], hC w M n) :=
  vcK_ok (K := [12]) 12 _ q
set_option maxRecDepth 20000 in
theorem b8_isMissingT0_0 {w : cQ} {d : Nat} {F : mPost} {M : Nat → Nat → Int} {n : Nat × Nat} (q : (0 ≤ (M 85 2) → WPc t8_isMissing (WPm gT d) F (12, [(2, 85)], [(0, 0)], hC w M n)) ∧ (¬ (0 ≤ (M 85 2)) → WPc t8_isMissing (WPm gT d) F (12, [(2, 85)], [(0, 1)], hC w M n))) : WPc t8_isMissing (WPm gT d) F (0, [(2, 85)], [], hC w M n) :=
  vcK_ok (K := [12]) 12 _ q
set_option maxRecDepth 20000 in
theorem e8_isMissingT0 {w : cQ} {d : Nat} {Ψ : Int → cQ → (Nat → Nat → Int) → Nat × Nat → Prop} {M : Nat → Nat → Int} {n : Nat × Nat} (q : (0 ≤ (M 85 2) → Ψ 0 w M n) ∧ (¬ (0 ≤ (M 85 2)) → Ψ 1 w M n)) : CW (d + 1) 73 [(2, 85)] w M n Ψ :=
  WPm_in g8_isMissing (Nat.le_of_ble_eq_true rfl) (b8_isMissingT0_0 ⟨fun c1 => (WPc.kill [0] (b8_isMissingT0_12 ⟨by decide, FCmk (q.1 c1)⟩)), fun c1 => (WPc.kill [0] (b8_isMissingT0_12 ⟨by decide, FCmk (q.2 c1)⟩))⟩)
set_option maxRecDepth 20000 in
theorem b8_isMissingT1_12 {w : cQ} {d : Nat} {F : mPost} {s0 : Int} {M : Nat → Nat → Int} {n : Nat × Nat} (q : (s0 = 0 ∨ s0 = 1) ∧ F (0, s0) (hC w M n)) : WPc t8_isMissing (WPm gT d) F (12, [(9, 0)], [(0, s0)], hC w M n) :=
  vcK_ok (K := [12]) 12 _ q
set_option maxRecDepth 20000 in
theorem b8_isMissingT1_0 {w : cQ} {d : Nat} {F : mPost} {M : Nat → Nat → Int} {n : Nat × Nat} (q : (0 ≤ (M 87 2) → WPc t8_isMissing (WPm gT d) F (12, [(2, 87)], [(0, 0)], hC w M n)) ∧ (¬ (0 ≤ (M 87 2)) → WPc t8_isMissing (WPm gT d) F (12, [(2, 87)], [(0, 1)], hC w M n))) : WPc t8_isMissing (WPm gT d) F (0, [(2, 87)], [], hC w M n) :=
  vcK_ok (K := [12]) 12 _ q
set_option maxRecDepth 20000 in
theorem e8_isMissingT1 {w : cQ} {d : Nat} {Ψ : Int → cQ → (Nat → Nat → Int) → Nat × Nat → Prop} {M : Nat → Nat → Int} {n : Nat × Nat} (q : (0 ≤ (M 87 2) → Ψ 0 w M n) ∧ (¬ (0 ≤ (M 87 2)) → Ψ 1 w M n)) : CW (d + 1) 73 [(2, 87)] w M n Ψ :=
  WPm_in g8_isMissing (Nat.le_of_ble_eq_true rfl) (b8_isMissingT1_0 ⟨fun c1 => (WPc.kill [0] (b8_isMissingT1_12 ⟨by decide, FCmk (q.1 c1)⟩)), fun c1 => (WPc.kill [0] (b8_isMissingT1_12 ⟨by decide, FCmk (q.2 c1)⟩))⟩)
set_option maxRecDepth 20000 in
theorem b8_isMissingT2_12 {w : cQ} {d : Nat} {F : mPost} {s0 : Int} {M : Nat → Nat → Int} {n : Nat × Nat} (q : (s0 = 0 ∨ s0 = 1) ∧ F (0, s0) (hC w M n)) : WPc t8_isMissing (WPm gT d) F (12, [(9, 0)], [(0, s0)], hC w M n) :=
  vcK_ok (K := [12]) 12 _ q
set_option maxRecDepth 20000 in
theorem b8_isMissingT2_0 {w : cQ} {d : Nat} {F : mPost} {M : Nat → Nat → Int} {n : Nat × Nat} (q : (0 ≤ (M 89 2) → WPc t8_isMissing (WPm gT d) F (12, [(2, 89)], [(0, 0)], hC w M n)) ∧ (¬ (0 ≤ (M 89 2)) → WPc t8_isMissing (WPm gT d) F (12, [(2, 89)], [(0, 1)], hC w M n))) : WPc t8_isMissing (WPm gT d) F (0, [(2, 89)], [], hC w M n) :=
  vcK_ok (K := [12]) 12 _ q
set_option maxRecDepth 20000 in
theorem e8_isMissingT2 {w : cQ} {d : Nat} {Ψ : Int → cQ → (Nat → Nat → Int) → Nat × Nat → Prop} {M : Nat → Nat → Int} {n : Nat × Nat} (q : (0 ≤ (M 89 2) → Ψ 0 w M n) ∧ (¬ (0 ≤ (M 89 2)) → Ψ 1 w M n)) : CW (d + 1) 73 [(2, 89)] w M n Ψ :=
  WPm_in g8_isMissing (Nat.le_of_ble_eq_true rfl) (b8_isMissingT2_0 ⟨fun c1 => (WPc.kill [0] (b8_isMissingT2_12 ⟨by decide, FCmk (q.1 c1)⟩)), fun c1 => (WPc.kill [0] (b8_isMissingT2_12 ⟨by decide, FCmk (q.2 c1)⟩))⟩)
set_option maxRecDepth 20000 in
theorem b8_isMissingT3_12 {w : cQ} {d : Nat} {F : mPost} {s0 : Int} {M : Nat → Nat → Int} {n : Nat × Nat} (q : (s0 = 0 ∨ s0 = 1) ∧ F (0, s0) (hC w M n)) : WPc t8_isMissing (WPm gT d) F (12, [(9, 0)], [(0, s0)], hC w M n) :=
  vcK_ok (K := [12]) 12 _ q
set_option maxRecDepth 20000 in
theorem b8_isMissingT3_0 {w : cQ} {d : Nat} {F : mPost} {M : Nat → Nat → Int} {n : Nat × Nat} (q : (0 ≤ (M 91 2) → WPc t8_isMissing (WPm gT d) F (12, [(2, 91)], [(0, 0)], hC w M n)) ∧ (¬ (0 ≤ (M 91 2)) → WPc t8_isMissing (WPm gT d) F (12, [(2, 91)], [(0, 1)], hC w M n))) : WPc t8_isMissing (WPm gT d) F (0, [(2, 91)], [], hC w M n) :=
  vcK_ok (K := [12]) 12 _ q
set_option maxRecDepth 20000 in
theorem e8_isMissingT3 {w : cQ} {d : Nat} {Ψ : Int → cQ → (Nat → Nat → Int) → Nat × Nat → Prop} {M : Nat → Nat → Int} {n : Nat × Nat} (q : (0 ≤ (M 91 2) → Ψ 0 w M n) ∧ (¬ (0 ≤ (M 91 2)) → Ψ 1 w M n)) : CW (d + 1) 73 [(2, 91)] w M n Ψ :=
  WPm_in g8_isMissing (Nat.le_of_ble_eq_true rfl) (b8_isMissingT3_0 ⟨fun c1 => (WPc.kill [0] (b8_isMissingT3_12 ⟨by decide, FCmk (q.1 c1)⟩)), fun c1 => (WPc.kill [0] (b8_isMissingT3_12 ⟨by decide, FCmk (q.2 c1)⟩))⟩)
set_option maxRecDepth 20000 in
theorem b8_layT0_12 {w : cQ} {d : Nat} {F : mPost} {x3 : Int} {M : Nat → Nat → Int} {n : Nat × Nat} (q : (40 ≤ x3 → F (9, 0) (hC w M n)) ∧ (¬ (40 ≤ x3) → (0 ≤ x3 ∧ x3 < ((40 : Nat) : Int) ∧ True) ∧ (WPc t8_lay (WPm gT d) F (12, [(2, 85), (9, 0), (9, 0), (0, w32 (x3 + 1))], [], hC w (sI M 86 x3.toNat 0) n)))) : WPc t8_lay (WPm gT d) F (12, [(2, 85), (9, 0), (9, 0), (0, x3)], [], hC w M n) :=
  vcK_ok (K := [12]) 24 _ q
set_option maxRecDepth 20000 in
theorem b8_layT0_0 {w : cQ} {d : Nat} {F : mPost} {x1 x2 : Int} {M : Nat → Nat → Int} {n : Nat × Nat} (q : WPc t8_lay (WPm gT d) F (12, [(2, 85), (0, x1), (0, x2), (0, 0)], [], hC w (sI (sI M 85 1 x1) 85 2 x2) n)) : WPc t8_lay (WPm gT d) F (0, [(2, 85), (0, x1), (0, x2), (9, 0)], [], hC w M n) :=
  vcK_ok (K := [12]) 24 _ q
def W8_layT0_12 (d : Nat) (Ψ : Int → cQ → (Nat → Nat → Int) → Nat × Nat → Prop) (x3 : Int) (w : cQ) (M : Nat → Nat → Int) (n : Nat × Nat) : Prop := WPc t8_lay (WPm gT d) (FC Ψ) (12, [(2, 85), (9, 0), (9, 0), (0, x3)], [], hC w M n)
set_option maxRecDepth 20000 in
theorem v8_layT0_12 {w : cQ} {d : Nat} {Ψ : Int → cQ → (Nat → Nat → Int) → Nat × Nat → Prop} {x3 : Int} {M : Nat → Nat → Int} {n : Nat × Nat} (q : (40 ≤ x3 → Ψ 0 w M n) ∧ (¬ (40 ≤ x3) → (0 ≤ x3 ∧ x3 < ((40 : Nat) : Int) ∧ True) ∧ (W8_layT0_12 d Ψ (w32 (x3 + 1)) w (sI M 86 x3.toNat 0) n ))) : W8_layT0_12 d Ψ x3 w M n :=
  b8_layT0_12 ⟨fun c1 => (FCmk (q.1 c1)), fun c1 => ⟨(q.2 c1).1, (q.2 c1).2⟩⟩
set_option maxRecDepth 20000 in
theorem e8_layT0 {w : cQ} {d : Nat} {Ψ : Int → cQ → (Nat → Nat → Int) → Nat × Nat → Prop} {x1 x2 : Int} {M : Nat → Nat → Int} {n : Nat × Nat} (q : W8_layT0_12 d Ψ 0 w (sI (sI M 85 1 x1) 85 2 x2) n ) : CW (d + 1) 74 [(2, 85), (0, x1), (0, x2)] w M n Ψ :=
  WPm_in g8_lay (Nat.le_of_ble_eq_true rfl) (b8_layT0_0 (WPc.kill [1, 2] q))
set_option maxRecDepth 20000 in
theorem b8_layT1_12 {w : cQ} {d : Nat} {F : mPost} {x3 : Int} {M : Nat → Nat → Int} {n : Nat × Nat} (q : (40 ≤ x3 → F (9, 0) (hC w M n)) ∧ (¬ (40 ≤ x3) → (0 ≤ x3 ∧ x3 < ((40 : Nat) : Int) ∧ True) ∧ (WPc t8_lay (WPm gT d) F (12, [(2, 87), (9, 0), (9, 0), (0, w32 (x3 + 1))], [], hC w (sI M 88 x3.toNat 0) n)))) : WPc t8_lay (WPm gT d) F (12, [(2, 87), (9, 0), (9, 0), (0, x3)], [], hC w M n) :=
  vcK_ok (K := [12]) 24 _ q
set_option maxRecDepth 20000 in
theorem b8_layT1_0 {w : cQ} {d : Nat} {F : mPost} {x1 x2 : Int} {M : Nat → Nat → Int} {n : Nat × Nat} (q : WPc t8_lay (WPm gT d) F (12, [(2, 87), (0, x1), (0, x2), (0, 0)], [], hC w (sI (sI M 87 1 x1) 87 2 x2) n)) : WPc t8_lay (WPm gT d) F (0, [(2, 87), (0, x1), (0, x2), (9, 0)], [], hC w M n) :=
  vcK_ok (K := [12]) 24 _ q
def W8_layT1_12 (d : Nat) (Ψ : Int → cQ → (Nat → Nat → Int) → Nat × Nat → Prop) (x3 : Int) (w : cQ) (M : Nat → Nat → Int) (n : Nat × Nat) : Prop := WPc t8_lay (WPm gT d) (FC Ψ) (12, [(2, 87), (9, 0), (9, 0), (0, x3)], [], hC w M n)
set_option maxRecDepth 20000 in
theorem v8_layT1_12 {w : cQ} {d : Nat} {Ψ : Int → cQ → (Nat → Nat → Int) → Nat × Nat → Prop} {x3 : Int} {M : Nat → Nat → Int} {n : Nat × Nat} (q : (40 ≤ x3 → Ψ 0 w M n) ∧ (¬ (40 ≤ x3) → (0 ≤ x3 ∧ x3 < ((40 : Nat) : Int) ∧ True) ∧ (W8_layT1_12 d Ψ (w32 (x3 + 1)) w (sI M 88 x3.toNat 0) n ))) : W8_layT1_12 d Ψ x3 w M n :=
  b8_layT1_12 ⟨fun c1 => (FCmk (q.1 c1)), fun c1 => ⟨(q.2 c1).1, (q.2 c1).2⟩⟩
set_option maxRecDepth 20000 in
theorem e8_layT1 {w : cQ} {d : Nat} {Ψ : Int → cQ → (Nat → Nat → Int) → Nat × Nat → Prop} {x1 x2 : Int} {M : Nat → Nat → Int} {n : Nat × Nat} (q : W8_layT1_12 d Ψ 0 w (sI (sI M 87 1 x1) 87 2 x2) n ) : CW (d + 1) 74 [(2, 87), (0, x1), (0, x2)] w M n Ψ :=
  WPm_in g8_lay (Nat.le_of_ble_eq_true rfl) (b8_layT1_0 (WPc.kill [1, 2] q))
set_option maxRecDepth 20000 in
theorem b8_layT2_12 {w : cQ} {d : Nat} {F : mPost} {x3 : Int} {M : Nat → Nat → Int} {n : Nat × Nat} (q : (40 ≤ x3 → F (9, 0) (hC w M n)) ∧ (¬ (40 ≤ x3) → (0 ≤ x3 ∧ x3 < ((40 : Nat) : Int) ∧ True) ∧ (WPc t8_lay (WPm gT d) F (12, [(2, 89), (9, 0), (9, 0), (0, w32 (x3 + 1))], [], hC w (sI M 90 x3.toNat 0) n)))) : WPc t8_lay (WPm gT d) F (12, [(2, 89), (9, 0), (9, 0), (0, x3)], [], hC w M n) :=
  vcK_ok (K := [12]) 24 _ q
set_option maxRecDepth 20000 in
theorem b8_layT2_0 {w : cQ} {d : Nat} {F : mPost} {x1 x2 : Int} {M : Nat → Nat → Int} {n : Nat × Nat} (q : WPc t8_lay (WPm gT d) F (12, [(2, 89), (0, x1), (0, x2), (0, 0)], [], hC w (sI (sI M 89 1 x1) 89 2 x2) n)) : WPc t8_lay (WPm gT d) F (0, [(2, 89), (0, x1), (0, x2), (9, 0)], [], hC w M n) :=
  vcK_ok (K := [12]) 24 _ q
def W8_layT2_12 (d : Nat) (Ψ : Int → cQ → (Nat → Nat → Int) → Nat × Nat → Prop) (x3 : Int) (w : cQ) (M : Nat → Nat → Int) (n : Nat × Nat) : Prop := WPc t8_lay (WPm gT d) (FC Ψ) (12, [(2, 89), (9, 0), (9, 0), (0, x3)], [], hC w M n)
set_option maxRecDepth 20000 in
theorem v8_layT2_12 {w : cQ} {d : Nat} {Ψ : Int → cQ → (Nat → Nat → Int) → Nat × Nat → Prop} {x3 : Int} {M : Nat → Nat → Int} {n : Nat × Nat} (q : (40 ≤ x3 → Ψ 0 w M n) ∧ (¬ (40 ≤ x3) → (0 ≤ x3 ∧ x3 < ((40 : Nat) : Int) ∧ True) ∧ (W8_layT2_12 d Ψ (w32 (x3 + 1)) w (sI M 90 x3.toNat 0) n ))) : W8_layT2_12 d Ψ x3 w M n :=
  b8_layT2_12 ⟨fun c1 => (FCmk (q.1 c1)), fun c1 => ⟨(q.2 c1).1, (q.2 c1).2⟩⟩
set_option maxRecDepth 20000 in
theorem e8_layT2 {w : cQ} {d : Nat} {Ψ : Int → cQ → (Nat → Nat → Int) → Nat × Nat → Prop} {x1 x2 : Int} {M : Nat → Nat → Int} {n : Nat × Nat} (q : W8_layT2_12 d Ψ 0 w (sI (sI M 89 1 x1) 89 2 x2) n ) : CW (d + 1) 74 [(2, 89), (0, x1), (0, x2)] w M n Ψ :=
  WPm_in g8_lay (Nat.le_of_ble_eq_true rfl) (b8_layT2_0 (WPc.kill [1, 2] q))
set_option maxRecDepth 20000 in
theorem b8_layT3_12 {w : cQ} {d : Nat} {F : mPost} {x3 : Int} {M : Nat → Nat → Int} {n : Nat × Nat} (q : (40 ≤ x3 → F (9, 0) (hC w M n)) ∧ (¬ (40 ≤ x3) → (0 ≤ x3 ∧ x3 < ((40 : Nat) : Int) ∧ True) ∧ (WPc t8_lay (WPm gT d) F (12, [(2, 91), (9, 0), (9, 0), (0, w32 (x3 + 1))], [], hC w (sI M 92 x3.toNat 0) n)))) : WPc t8_lay (WPm gT d) F (12, [(2, 91), (9, 0), (9, 0), (0, x3)], [], hC w M n) :=
  vcK_ok (K := [12]) 24 _ q
set_option maxRecDepth 20000 in
theorem b8_layT3_0 {w : cQ} {d : Nat} {F : mPost} {x1 x2 : Int} {M : Nat → Nat → Int} {n : Nat × Nat} (q : WPc t8_lay (WPm gT d) F (12, [(2, 91), (0, x1), (0, x2), (0, 0)], [], hC w (sI (sI M 91 1 x1) 91 2 x2) n)) : WPc t8_lay (WPm gT d) F (0, [(2, 91), (0, x1), (0, x2), (9, 0)], [], hC w M n) :=
  vcK_ok (K := [12]) 24 _ q
def W8_layT3_12 (d : Nat) (Ψ : Int → cQ → (Nat → Nat → Int) → Nat × Nat → Prop) (x3 : Int) (w : cQ) (M : Nat → Nat → Int) (n : Nat × Nat) : Prop := WPc t8_lay (WPm gT d) (FC Ψ) (12, [(2, 91), (9, 0), (9, 0), (0, x3)], [], hC w M n)
set_option maxRecDepth 20000 in
theorem v8_layT3_12 {w : cQ} {d : Nat} {Ψ : Int → cQ → (Nat → Nat → Int) → Nat × Nat → Prop} {x3 : Int} {M : Nat → Nat → Int} {n : Nat × Nat} (q : (40 ≤ x3 → Ψ 0 w M n) ∧ (¬ (40 ≤ x3) → (0 ≤ x3 ∧ x3 < ((40 : Nat) : Int) ∧ True) ∧ (W8_layT3_12 d Ψ (w32 (x3 + 1)) w (sI M 92 x3.toNat 0) n ))) : W8_layT3_12 d Ψ x3 w M n :=
  b8_layT3_12 ⟨fun c1 => (FCmk (q.1 c1)), fun c1 => ⟨(q.2 c1).1, (q.2 c1).2⟩⟩
set_option maxRecDepth 20000 in
theorem e8_layT3 {w : cQ} {d : Nat} {Ψ : Int → cQ → (Nat → Nat → Int) → Nat × Nat → Prop} {x1 x2 : Int} {M : Nat → Nat → Int} {n : Nat × Nat} (q : W8_layT3_12 d Ψ 0 w (sI (sI M 91 1 x1) 91 2 x2) n ) : CW (d + 1) 74 [(2, 91), (0, x1), (0, x2)] w M n Ψ :=
  WPm_in g8_lay (Nat.le_of_ble_eq_true rfl) (b8_layT3_0 (WPc.kill [1, 2] q))
set_option maxRecDepth 20000 in
theorem b8_atT0_22 {w : cQ} {d : Nat} {F : mPost} {s0 : Int} {M : Nat → Nat → Int} {n : Nat × Nat} (q : F (1, s0) (hC w M n)) : WPc t8_at (WPm gT d) F (22, [(9, 0), (9, 0)], [(1, s0)], hC w M n) :=
  vcK_ok (K := [21, 22]) 18 _ q
set_option maxRecDepth 20000 in
theorem b8_atT0_21 {w : cQ} {d : Nat} {F : mPost} {M : Nat → Nat → Int} {n : Nat × Nat} (q : WPc t8_at (WPm gT d) F (22, [(9, 0), (9, 0)], [(1, 0)], hC w M n)) : WPc t8_at (WPm gT d) F (21, [(9, 0), (9, 0)], [], hC w M n) :=
  vcK_ok (K := [21, 22]) 18 _ q
set_option maxRecDepth 20000 in
theorem b8_atT0_0 {w : cQ} {d : Nat} {F : mPost} {x1 : Int} {M : Nat → Nat → Int} {n : Nat × Nat} (q : (x1 < 0 → WPc t8_at (WPm gT d) F (21, [(2, 85), (0, x1)], [], hC w M n)) ∧ (¬ (x1 < 0) → ((M 85 2) ≤ x1 → WPc t8_at (WPm gT d) F (21, [(2, 85), (0, x1)], [], hC w M n)) ∧ (¬ ((M 85 2) ≤ x1) → (0 ≤ x1 ∧ x1 < ((40 : Nat) : Int)) ∧ (WPc t8_at (WPm gT d) F (22, [(2, 85), (0, x1)], [(1, M 86 x1.toNat)], hC w M n))))) : WPc t8_at (WPm gT d) F (0, [(2, 85), (0, x1)], [], hC w M n) :=
  vcK_ok (K := [21, 22]) 18 _ q
set_option maxRecDepth 20000 in
theorem e8_atT0 {w : cQ} {d : Nat} {Ψ : Int → cQ → (Nat → Nat → Int) → Nat × Nat → Prop} {x1 : Int} {M : Nat → Nat → Int} {n : Nat × Nat} (q : (x1 < 0 → Ψ 0 w M n) ∧ (¬ (x1 < 0) → ((M 85 2) ≤ x1 → Ψ 0 w M n) ∧ (¬ ((M 85 2) ≤ x1) → (0 ≤ x1 ∧ x1 < ((40 : Nat) : Int)) ∧ (Ψ (M 86 x1.toNat) w M n)))) : CW (d + 1) 75 [(2, 85), (0, x1)] w M n Ψ :=
  WPm_in g8_at (Nat.le_of_ble_eq_true rfl) (b8_atT0_0 ⟨fun c1 => (WPc.kill [0, 1] (b8_atT0_21 (WPc.kill [0, 1] (b8_atT0_22 (FCmk (q.1 c1)))))), fun c1 => ⟨fun c2 => (WPc.kill [0, 1] (b8_atT0_21 (WPc.kill [0, 1] (b8_atT0_22 (FCmk ((q.2 c1).1 c2)))))), fun c2 => ⟨((q.2 c1).2 c2).1, (WPc.kill [0, 1] (b8_atT0_22 (FCmk ((q.2 c1).2 c2).2)))⟩⟩⟩)
set_option maxRecDepth 20000 in
theorem b8_atT1_22 {w : cQ} {d : Nat} {F : mPost} {s0 : Int} {M : Nat → Nat → Int} {n : Nat × Nat} (q : F (1, s0) (hC w M n)) : WPc t8_at (WPm gT d) F (22, [(9, 0), (9, 0)], [(1, s0)], hC w M n) :=
  vcK_ok (K := [21, 22]) 18 _ q
set_option maxRecDepth 20000 in
theorem b8_atT1_21 {w : cQ} {d : Nat} {F : mPost} {M : Nat → Nat → Int} {n : Nat × Nat} (q : WPc t8_at (WPm gT d) F (22, [(9, 0), (9, 0)], [(1, 0)], hC w M n)) : WPc t8_at (WPm gT d) F (21, [(9, 0), (9, 0)], [], hC w M n) :=
  vcK_ok (K := [21, 22]) 18 _ q
set_option maxRecDepth 20000 in
theorem b8_atT1_0 {w : cQ} {d : Nat} {F : mPost} {x1 : Int} {M : Nat → Nat → Int} {n : Nat × Nat} (q : (x1 < 0 → WPc t8_at (WPm gT d) F (21, [(2, 87), (0, x1)], [], hC w M n)) ∧ (¬ (x1 < 0) → ((M 87 2) ≤ x1 → WPc t8_at (WPm gT d) F (21, [(2, 87), (0, x1)], [], hC w M n)) ∧ (¬ ((M 87 2) ≤ x1) → (0 ≤ x1 ∧ x1 < ((40 : Nat) : Int)) ∧ (WPc t8_at (WPm gT d) F (22, [(2, 87), (0, x1)], [(1, M 88 x1.toNat)], hC w M n))))) : WPc t8_at (WPm gT d) F (0, [(2, 87), (0, x1)], [], hC w M n) :=
  vcK_ok (K := [21, 22]) 18 _ q
set_option maxRecDepth 20000 in
theorem e8_atT1 {w : cQ} {d : Nat} {Ψ : Int → cQ → (Nat → Nat → Int) → Nat × Nat → Prop} {x1 : Int} {M : Nat → Nat → Int} {n : Nat × Nat} (q : (x1 < 0 → Ψ 0 w M n) ∧ (¬ (x1 < 0) → ((M 87 2) ≤ x1 → Ψ 0 w M n) ∧ (¬ ((M 87 2) ≤ x1) → (0 ≤ x1 ∧ x1 < ((40 : Nat) : Int)) ∧ (Ψ (M 88 x1.toNat) w M n)))) : CW (d + 1) 75 [(2, 87), (0, x1)] w M n Ψ :=
  WPm_in g8_at (Nat.le_of_ble_eq_true rfl) (b8_atT1_0 ⟨fun c1 => (WPc.kill [0, 1] (b8_atT1_21 (WPc.kill [0, 1] (b8_atT1_22 (FCmk (q.1 c1)))))), fun c1 => ⟨fun c2 => (WPc.kill [0, 1] (b8_atT1_21 (WPc.kill [0, 1] (b8_atT1_22 (FCmk ((q.2 c1).1 c2)))))), fun c2 => ⟨((q.2 c1).2 c2).1, (WPc.kill [0, 1] (b8_atT1_22 (FCmk ((q.2 c1).2 c2).2)))⟩⟩⟩)
set_option maxRecDepth 20000 in
theorem b8_atT2_22 {w : cQ} {d : Nat} {F : mPost} {s0 : Int} {M : Nat → Nat → Int} {n : Nat × Nat} (q : F (1, s0) (hC w M n)) : WPc t8_at (WPm gT d) F (22, [(9, 0), (9, 0)], [(1, s0)], hC w M n) :=
  vcK_ok (K := [21, 22]) 18 _ q
set_option maxRecDepth 20000 in
theorem b8_atT2_21 {w : cQ} {d : Nat} {F : mPost} {M : Nat → Nat → Int} {n : Nat × Nat} (q : WPc t8_at (WPm gT d) F (22, [(9, 0), (9, 0)], [(1, 0)], hC w M n)) : WPc t8_at (WPm gT d) F (21, [(9, 0), (9, 0)], [], hC w M n) :=
  vcK_ok (K := [21, 22]) 18 _ q
set_option maxRecDepth 20000 in
theorem b8_atT2_0 {w : cQ} {d : Nat} {F : mPost} {x1 : Int} {M : Nat → Nat → Int} {n : Nat × Nat} (q : (x1 < 0 → WPc t8_at (WPm gT d) F (21, [(2, 89), (0, x1)], [], hC w M n)) ∧ (¬ (x1 < 0) → ((M 89 2) ≤ x1 → WPc t8_at (WPm gT d) F (21, [(2, 89), (0, x1)], [], hC w M n)) ∧ (¬ ((M 89 2) ≤ x1) → (0 ≤ x1 ∧ x1 < ((40 : Nat) : Int)) ∧ (WPc t8_at (WPm gT d) F (22, [(2, 89), (0, x1)], [(1, M 90 x1.toNat)], hC w M n))))) : WPc t8_at (WPm gT d) F (0, [(2, 89), (0, x1)], [], hC w M n) :=
  vcK_ok (K := [21, 22]) 18 _ q
set_option maxRecDepth 20000 in
theorem e8_atT2 {w : cQ} {d : Nat} {Ψ : Int → cQ → (Nat → Nat → Int) → Nat × Nat → Prop} {x1 : Int} {M : Nat → Nat → Int} {n : Nat × Nat} (q : (x1 < 0 → Ψ 0 w M n) ∧ (¬ (x1 < 0) → ((M 89 2) ≤ x1 → Ψ 0 w M n) ∧ (¬ ((M 89 2) ≤ x1) → (0 ≤ x1 ∧ x1 < ((40 : Nat) : Int)) ∧ (Ψ (M 90 x1.toNat) w M n)))) : CW (d + 1) 75 [(2, 89), (0, x1)] w M n Ψ :=
  WPm_in g8_at (Nat.le_of_ble_eq_true rfl) (b8_atT2_0 ⟨fun c1 => (WPc.kill [0, 1] (b8_atT2_21 (WPc.kill [0, 1] (b8_atT2_22 (FCmk (q.1 c1)))))), fun c1 => ⟨fun c2 => (WPc.kill [0, 1] (b8_atT2_21 (WPc.kill [0, 1] (b8_atT2_22 (FCmk ((q.2 c1).1 c2)))))), fun c2 => ⟨((q.2 c1).2 c2).1, (WPc.kill [0, 1] (b8_atT2_22 (FCmk ((q.2 c1).2 c2).2)))⟩⟩⟩)
set_option maxRecDepth 20000 in
theorem b8_atT3_22 {w : cQ} {d : Nat} {F : mPost} {s0 : Int} {M : Nat → Nat → Int} {n : Nat × Nat} (q : F (1, s0) (hC w M n)) : WPc t8_at (WPm gT d) F (22, [(9, 0), (9, 0)], [(1, s0)], hC w M n) :=
  vcK_ok (K := [21, 22]) 18 _ q
set_option maxRecDepth 20000 in
theorem b8_atT3_21 {w : cQ} {d : Nat} {F : mPost} {M : Nat → Nat → Int} {n : Nat × Nat} (q : WPc t8_at (WPm gT d) F (22, [(9, 0), (9, 0)], [(1, 0)], hC w M n)) : WPc t8_at (WPm gT d) F (21, [(9, 0), (9, 0)], [], hC w M n) :=
  vcK_ok (K := [21, 22]) 18 _ q
set_option maxRecDepth 20000 in
theorem b8_atT3_0 {w : cQ} {d : Nat} {F : mPost} {x1 : Int} {M : Nat → Nat → Int} {n : Nat × Nat} (q : (x1 < 0 → WPc t8_at (WPm gT d) F (21, [(2, 91), (0, x1)], [], hC w M n)) ∧ (¬ (x1 < 0) → ((M 91 2) ≤ x1 → WPc t8_at (WPm gT d) F (21, [(2, 91), (0, x1)], [], hC w M n)) ∧ (¬ ((M 91 2) ≤ x1) → (0 ≤ x1 ∧ x1 < ((40 : Nat) : Int)) ∧ (WPc t8_at (WPm gT d) F (22, [(2, 91), (0, x1)], [(1, M 92 x1.toNat)], hC w M n))))) : WPc t8_at (WPm gT d) F (0, [(2, 91), (0, x1)], [], hC w M n) :=
  vcK_ok (K := [21, 22]) 18 _ q
set_option maxRecDepth 20000 in
theorem e8_atT3 {w : cQ} {d : Nat} {Ψ : Int → cQ → (Nat → Nat → Int) → Nat × Nat → Prop} {x1 : Int} {M : Nat → Nat → Int} {n : Nat × Nat} (q : (x1 < 0 → Ψ 0 w M n) ∧ (¬ (x1 < 0) → ((M 91 2) ≤ x1 → Ψ 0 w M n) ∧ (¬ ((M 91 2) ≤ x1) → (0 ≤ x1 ∧ x1 < ((40 : Nat) : Int)) ∧ (Ψ (M 92 x1.toNat) w M n)))) : CW (d + 1) 75 [(2, 91), (0, x1)] w M n Ψ :=
  WPm_in g8_at (Nat.le_of_ble_eq_true rfl) (b8_atT3_0 ⟨fun c1 => (WPc.kill [0, 1] (b8_atT3_21 (WPc.kill [0, 1] (b8_atT3_22 (FCmk (q.1 c1)))))), fun c1 => ⟨fun c2 => (WPc.kill [0, 1] (b8_atT3_21 (WPc.kill [0, 1] (b8_atT3_22 (FCmk ((q.2 c1).1 c2)))))), fun c2 => ⟨((q.2 c1).2 c2).1, (WPc.kill [0, 1] (b8_atT3_22 (FCmk ((q.2 c1).2 c2).2)))⟩⟩⟩)
set_option maxRecDepth 20000 in
theorem b8_putT0_27 {w : cQ} {d : Nat} {F : mPost} {x4 : Int} {M : Nat → Nat → Int} {n : Nat × Nat} (q : F (1, x4) (hC w M n)) : WPc t8_put (WPm gT d) F (27, [(9, 0), (9, 0), (9, 0), (9, 0), (1, x4), (9, 0)], [], hC w M n) :=
  vcK_ok (K := [5, 27]) 22 _ q
set_option maxRecDepth 20000 in
theorem b8_putT0_5 {w : cQ} {d : Nat} {F : mPost} {x1 s0 : Int} {M : Nat → Nat → Int} {n : Nat × Nat} (q : (x1 < 0 → WPc t8_put (WPm gT d) F (27, [(2, 85), (0, x1), (9, 0), (9, 0), (1, s0), (9, 0)], [], hC w M n)) ∧ (¬ (x1 < 0) → ((M 85 2) ≤ x1 → WPc t8_put (WPm gT d) F (27, [(2, 85), (0, x1), (9, 0), (9, 0), (1, s0), (9, 0)], [], hC w M n)) ∧ (¬ ((M 85 2) ≤ x1) → (0 ≤ x1 ∧ x1 < ((40 : Nat) : Int) ∧ True) ∧ (WPc t8_put (WPm gT d) F (27, [(2, 85), (0, x1), (9, 0), (9, 0), (1, s0), (9, 0)], [], hC w (sI M 86 x1.toNat s0) n))))) : WPc t8_put (WPm gT d) F (5, [(2, 85), (0, x1), (9, 0), (9, 0), (9, 0), (9, 0)], [(1, s0)], hC w M n) :=
  vcK_ok (K := [5, 27]) 22 _ q
set_option maxRecDepth 20000 in
theorem b8_putT0_0 {w : cQ} {d : Nat} {F : mPost} {x1 x2 : Int} {M : Nat → Nat → Int} {n : Nat × Nat} (q : WPm gT d 77 [(2, 85), (1, x2)] (hC w M n) (fun r h' => WPc t8_put (WPm gT d) F (5, [(2, 85), (0, x1), (1, x2), (9, 0), (9, 0), (9, 0)], [(1, r.2)], h'))) : WPc t8_put (WPm gT d) F (0, [(2, 85), (0, x1), (1, x2), (9, 0), (9, 0), (9, 0)], [], hC w M n) :=
  vcK_ok (K := [5, 27]) 22 _ q
set_option maxRecDepth 20000 in
theorem e8_putT0 {w : cQ} {d : Nat} {Ψ : Int → cQ → (Nat → Nat → Int) → Nat × Nat → Prop} {x1 x2 : Int} {M : Nat → Nat → Int} {n : Nat × Nat} (q : CW d 77 [(2, 85), (1, x2)] w M n (fun r0 w_1 M1 n_1 => (x1 < 0 → Ψ r0 w_1 M1 n_1) ∧ (¬ (x1 < 0) → ((M1 85 2) ≤ x1 → Ψ r0 w_1 M1 n_1) ∧ (¬ ((M1 85 2) ≤ x1) → (0 ≤ x1 ∧ x1 < ((40 : Nat) : Int) ∧ True) ∧ (Ψ r0 w_1 (sI M1 86 x1.toNat r0) n_1))))) : CW (d + 1) 76 [(2, 85), (0, x1), (1, x2)] w M n Ψ :=
  WPm_in g8_put (Nat.le_of_ble_eq_true rfl) (b8_putT0_0 (WPm_mono gT d _ _ _ _ _ (fun r0 h' z0 => by obtain ⟨_, M1, _, rfl, z0⟩ := z0; exact WPc.kill [2] (b8_putT0_5 ⟨fun c1 => (WPc.kill [0, 1, 2] (b8_putT0_27 (FCmk (z0.1 c1)))), fun c1 => ⟨fun c2 => (WPc.kill [0, 1, 2] (b8_putT0_27 (FCmk ((z0.2 c1).1 c2)))), fun c2 => ⟨((z0.2 c1).2 c2).1, (WPc.kill [0, 1, 2] (b8_putT0_27 (FCmk ((z0.2 c1).2 c2).2)))⟩⟩⟩)) q))
set_option maxRecDepth 20000 in
theorem b8_putT1_27 {w : cQ} {d : Nat} {F : mPost} {x4 : Int} {M : Nat → Nat → Int} {n : Nat × Nat} (q : F (1, x4) (hC w M n)) : WPc t8_put (WPm gT d) F (27, [(9, 0), (9, 0), (9, 0), (9, 0), (1, x4), (9, 0)], [], hC w M n) :=
  vcK_ok (K := [5, 27]) 22 _ q
set_option maxRecDepth 20000 in
theorem b8_putT1_5 {w : cQ} {d : Nat} {F : mPost} {x1 s0 : Int} {M : Nat → Nat → Int} {n : Nat × Nat} (q : (x1 < 0 → WPc t8_put (WPm gT d) F (27, [(2, 87), (0, x1), (9, 0), (9, 0), (1, s0), (9, 0)], [], hC w M n)) ∧ (¬ (x1 < 0) → ((M 87 2) ≤ x1 → WPc t8_put (WPm gT d) F (27, [(2, 87), (0, x1), (9, 0), (9, 0), (1, s0), (9, 0)], [], hC w M n)) ∧ (¬ ((M 87 2) ≤ x1) → (0 ≤ x1 ∧ x1 < ((40 : Nat) : Int) ∧ True) ∧ (WPc t8_put (WPm gT d) F (27, [(2, 87), (0, x1), (9, 0), (9, 0), (1, s0), (9, 0)], [], hC w (sI M 88 x1.toNat s0) n))))) : WPc t8_put (WPm gT d) F (5, [(2, 87), (0, x1), (9, 0), (9, 0), (9, 0), (9, 0)], [(1, s0)], hC w M n) :=
  vcK_ok (K := [5, 27]) 22 _ q
set_option maxRecDepth 20000 in
theorem b8_putT1_0 {w : cQ} {d : Nat} {F : mPost} {x1 x2 : Int} {M : Nat → Nat → Int} {n : Nat × Nat} (q : WPm gT d 77 [(2, 87), (1, x2)] (hC w M n) (fun r h' => WPc t8_put (WPm gT d) F (5, [(2, 87), (0, x1), (1, x2), (9, 0), (9, 0), (9, 0)], [(1, r.2)], h'))) : WPc t8_put (WPm gT d) F (0, [(2, 87), (0, x1), (1, x2), (9, 0), (9, 0), (9, 0)], [], hC w M n) :=
  vcK_ok (K := [5, 27]) 22 _ q
set_option maxRecDepth 20000 in
theorem e8_putT1 {w : cQ} {d : Nat} {Ψ : Int → cQ → (Nat → Nat → Int) → Nat × Nat → Prop} {x1 x2 : Int} {M : Nat → Nat → Int} {n : Nat × Nat} (q : CW d 77 [(2, 87), (1, x2)] w M n (fun r0 w_1 M1 n_1 => (x1 < 0 → Ψ r0 w_1 M1 n_1) ∧ (¬ (x1 < 0) → ((M1 87 2) ≤ x1 → Ψ r0 w_1 M1 n_1) ∧ (¬ ((M1 87 2) ≤ x1) → (0 ≤ x1 ∧ x1 < ((40 : Nat) : Int) ∧ True) ∧ (Ψ r0 w_1 (sI M1 88 x1.toNat r0) n_1))))) : CW (d + 1) 76 [(2, 87), (0, x1), (1, x2)] w M n Ψ :=
  WPm_in g8_put (Nat.le_of_ble_eq_true rfl) (b8_putT1_0 (WPm_mono gT d _ _ _ _ _ (fun r0 h' z0 => by obtain ⟨_, M1, _, rfl, z0⟩ := z0; exact WPc.kill [2] (b8_putT1_5 ⟨fun c1 => (WPc.kill [0, 1, 2] (b8_putT1_27 (FCmk (z0.1 c1)))), fun c1 => ⟨fun c2 => (WPc.kill [0, 1, 2] (b8_putT1_27 (FCmk ((z0.2 c1).1 c2)))), fun c2 => ⟨((z0.2 c1).2 c2).1, (WPc.kill [0, 1, 2] (b8_putT1_27 (FCmk ((z0.2 c1).2 c2).2)))⟩⟩⟩)) q))
