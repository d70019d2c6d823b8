/-! ===== conditions of the class's methods (printed by program) ===== -/
set_option maxRecDepth 20000 in
theorem b11_bit_93 {w : cQ} {d : Nat} {F : mPost} {s0 : Int} {M : Nat → Nat → Int} {n : Nat × Nat} (q : F (0, s0) (hC w M n)) : WPc t11_bit (WPm gT d) F (93, [(9, 0), (9, 0), (9, 0)], [(0, s0)], hC w M n) :=
  vcK_ok (K := [8, 70, 93]) 44 _ q
set_option maxRecDepth 20000 in
theorem b11_bit_70 {w : cQ} {d : Nat} {F : mPost} {x1 : Int} {M : Nat → Nat → Int} {n : Nat × Nat} (q : F (0, m_and (m_shr (M 29 3) x1) 1) (hC w M n)) : WPc t11_bit (WPm gT d) F (70, [(2, 1), (0, x1), (9, 0)], [], hC w M n) :=
  vcK_ok (K := [8, 70, 93]) 44 _ q
set_option maxRecDepth 20000 in
theorem b11_bit_8 {w : cQ} {d : Nat} {F : mPost} {x1 x2 s0 : Int} {M : Nat → Nat → Int} {n : Nat × Nat} (q : (s0 ≠ 0 → (x2 = 0 → ((0 : Int) ≤ x1 ∧ (x1 : Int) < ((12 : Nat) : Int)) ∧ (F (0, M 30 x1.toNat) (hC w M n))) ∧ (x2 ≠ 0 → ((x2 = 1 → ((0 : Int) ≤ x1 ∧ (x1 : Int) < ((12 : Nat) : Int)) ∧ (F (0, M 31 x1.toNat) (hC w M n))) ∧ (x2 ≠ 1 → ((x2 = 2 → WPc t11_bit (WPm gT d) F (70, [(2, 1), (0, x1), (0, x2)], [], hC w M n)) ∧ (x2 ≠ 2 → ((x2 = 3 → WPm gT d 97 [(2, 4), (0, x1)] (hC w M n) (fun r h' => WPc t11_bit (WPm gT d) F (93, [(2, 1), (0, x1), (0, x2)], [(0, r.2)], h'))) ∧ (x2 ≠ 3 → (F (0, (-2)) (hC w M n)))))))))) ∧ (¬ (s0 ≠ 0) → F (0, (-2)) (hC w M n))) : WPc t11_bit (WPm gT d) F (8, [(2, 1), (0, x1), (0, x2)], [(0, s0)], hC w M n) :=
  vcK_ok (K := [8, 70, 93]) 44 _ q
set_option maxRecDepth 20000 in
theorem b11_bit_0 {w : cQ} {d : Nat} {F : mPost} {x1 x2 : Int} {M : Nat → Nat → Int} {n : Nat × Nat} (q : WPm gT d 93 [(2, 4), (0, x1)] (hC w M n) (fun r h' => WPc t11_bit (WPm gT d) F (8, [(2, 1), (0, x1), (0, x2)], [(0, r.2)], h'))) : WPc t11_bit (WPm gT d) F (0, [(2, 1), (0, x1), (0, x2)], [], hC w M n) :=
  vcK_ok (K := [8, 70, 93]) 44 _ q
set_option maxRecDepth 20000 in
theorem e11_bit {w : cQ} {d : Nat} {Φ : Int → (Nat → Nat → Int) → Prop} {x1 x2 : Int} {M : Nat → Nat → Int} {n : Nat × Nat} (q : CF d 93 [(2, 4), (0, x1)] w M n (fun r0 M1 => (r0 ≠ 0 → (x2 = 0 → ((0 : Int) ≤ x1 ∧ (x1 : Int) < ((12 : Nat) : Int)) ∧ (Φ (M1 30 x1.toNat) M1)) ∧ (x2 ≠ 0 → ((x2 = 1 → ((0 : Int) ≤ x1 ∧ (x1 : Int) < ((12 : Nat) : Int)) ∧ (Φ (M1 31 x1.toNat) M1)) ∧ (x2 ≠ 1 → ((x2 = 2 → Φ (m_and (m_shr (M1 29 3) x1) 1) M1) ∧ (x2 ≠ 2 → ((x2 = 3 → CF d 97 [(2, 4), (0, x1)] w M1 n (fun r1 M2 => Φ r1 M2)) ∧ (x2 ≠ 3 → (Φ (-2) M1))))))))) ∧ (¬ (r0 ≠ 0) → Φ (-2) M1))) : CF (d + 1) 125 [(2, 1), (0, x1), (0, x2)] w M n Φ :=
  WPm_in g11_bit (Nat.le_of_ble_eq_true rfl) (b11_bit_0 (WPm_mono gT d _ _ _ _ _ (fun r0 h' z0 => by obtain ⟨M1, rfl, z0⟩ := z0; exact (b11_bit_8 ⟨fun c1 => ⟨fun c2 => ⟨((z0.1 c1).1 c2).1, (FFmk ((z0.1 c1).1 c2).2)⟩, fun c2 => ⟨fun c3 => ⟨(((z0.1 c1).2 c2).1 c3).1, (FFmk (((z0.1 c1).2 c2).1 c3).2)⟩, fun c3 => ⟨fun c4 => (WPc.kill [2] (b11_bit_70 (FFmk ((((z0.1 c1).2 c2).2 c3).1 c4)))), fun c4 => ⟨fun c5 => (WPm_mono gT d _ _ _ _ _ (fun r1 h' z1 => by obtain ⟨M2, rfl, z1⟩ := z1; exact WPc.kill [0, 1, 2] (b11_bit_93 (FFmk z1))) (((((z0.1 c1).2 c2).2 c3).2 c4).1 c5)), fun c5 => (FFmk (((((z0.1 c1).2 c2).2 c3).2 c4).2 c5))⟩⟩⟩⟩, fun c1 => (FFmk (z0.2 c1))⟩)) q))
set_option maxRecDepth 20000 in
theorem b11_wire_68 {w : cQ} {d : Nat} {F : mPost} {M : Nat → Nat → Int} {n : Nat × Nat} (q : F (0, (-2)) (hC w M n)) : WPc t11_wire (WPm gT d) F (68, [(9, 0), (9, 0), (9, 0)], [], hC w M n) :=
  vcK_ok (K := [8, 68]) 32 _ q
set_option maxRecDepth 20000 in
theorem b11_wire_8 {w : cQ} {d : Nat} {F : mPost} {x1 x2 s0 : Int} {M : Nat → Nat → Int} {n : Nat × Nat} (q : (s0 ≠ 0 → (x2 = 0 → F (0, m_and (m_shr (M 38 3) x1) 1) (hC w M n)) ∧ (x2 ≠ 0 → ((x2 = 1 → ((0 : Int) ≤ x1 ∧ (x1 : Int) < ((8 : Nat) : Int)) ∧ (F (0, M 34 x1.toNat) (hC w M n))) ∧ (x2 ≠ 1 → (WPc t11_wire (WPm gT d) F (68, [(2, 1), (0, x1), (0, x2)], [], hC w M n)))))) ∧ (¬ (s0 ≠ 0) → F (0, (-2)) (hC w M n))) : WPc t11_wire (WPm gT d) F (8, [(2, 1), (0, x1), (0, x2)], [(0, s0)], hC w M n) :=
  vcK_ok (K := [8, 68]) 32 _ q
set_option maxRecDepth 20000 in
theorem b11_wire_0 {w : cQ} {d : Nat} {F : mPost} {x1 x2 : Int} {M : Nat → Nat → Int} {n : Nat × Nat} (q : WPm gT d 94 [(2, 4), (0, x1)] (hC w M n) (fun r h' => WPc t11_wire (WPm gT d) F (8, [(2, 1), (0, x1), (0, x2)], [(0, r.2)], h'))) : WPc t11_wire (WPm gT d) F (0, [(2, 1), (0, x1), (0, x2)], [], hC w M n) :=
  vcK_ok (K := [8, 68]) 32 _ q
set_option maxRecDepth 20000 in
theorem e11_wire {w : cQ} {d : Nat} {Φ : Int → (Nat → Nat → Int) → Prop} {x1 x2 : Int} {M : Nat → Nat → Int} {n : Nat × Nat} (q : CF d 94 [(2, 4), (0, x1)] w M n (fun r0 M1 => (r0 ≠ 0 → (x2 = 0 → Φ (m_and (m_shr (M1 38 3) x1) 1) M1) ∧ (x2 ≠ 0 → ((x2 = 1 → ((0 : Int) ≤ x1 ∧ (x1 : Int) < ((8 : Nat) : Int)) ∧ (Φ (M1 34 x1.toNat) M1)) ∧ (x2 ≠ 1 → (Φ (-2) M1))))) ∧ (¬ (r0 ≠ 0) → Φ (-2) M1))) : CF (d + 1) 126 [(2, 1), (0, x1), (0, x2)] w M n Φ :=
  WPm_in g11_wire (Nat.le_of_ble_eq_true rfl) (b11_wire_0 (WPm_mono gT d _ _ _ _ _ (fun r0 h' z0 => by obtain ⟨M1, rfl, z0⟩ := z0; exact (b11_wire_8 ⟨fun c1 => ⟨fun c2 => (FFmk ((z0.1 c1).1 c2)), fun c2 => ⟨fun c3 => ⟨(((z0.1 c1).2 c2).1 c3).1, (FFmk (((z0.1 c1).2 c2).1 c3).2)⟩, fun c3 => (WPc.kill [0, 1, 2] (b11_wire_68 (FFmk (((z0.1 c1).2 c2).2 c3))))⟩⟩, fun c1 => (FFmk (z0.2 c1))⟩)) q))
set_option maxRecDepth 20000 in
theorem b11_likes_34 {w : cQ} {d : Nat} {F : mPost} {s0 : Int} {M : Nat → Nat → Int} {n : Nat × Nat} (q : F (0, s0) (hC w M n)) : WPc t11_likes (WPm gT d) F (34, [(9, 0), (9, 0), (9, 0)], [(0, s0)], hC w M n) :=
  vcK_ok (K := [8, 19, 22, 34]) 23 _ q
set_option maxRecDepth 20000 in
theorem b11_likes_22 {w : cQ} {d : Nat} {F : mPost} {M : Nat → Nat → Int} {n : Nat × Nat} (q : F (0, (-99000002)) (hC w M n)) : WPc t11_likes (WPm gT d) F (22, [(9, 0), (9, 0), (9, 0)], [], hC w M n) :=
  vcK_ok (K := [8, 19, 22, 34]) 23 _ q
set_option maxRecDepth 20000 in
theorem b11_likes_19 {w : cQ} {d : Nat} {F : mPost} {x1 x2 s0 : Int} {M : Nat → Nat → Int} {n : Nat × Nat} (q : (s0 ≠ 0 → WPm gT d 102 [(2, 4), (0, x1), (0, x2)] (hC w M n) (fun r h' => WPc t11_likes (WPm gT d) F (34, [(2, 1), (0, x1), (0, x2)], [(0, r.2)], h'))) ∧ (¬ (s0 ≠ 0) → WPc t11_likes (WPm gT d) F (22, [(2, 1), (0, x1), (0, x2)], [], hC w M n))) : WPc t11_likes (WPm gT d) F (19, [(2, 1), (0, x1), (0, x2)], [(0, s0)], hC w M n) :=
  vcK_ok (K := [8, 19, 22, 34]) 23 _ q
set_option maxRecDepth 20000 in
theorem b11_likes_8 {w : cQ} {d : Nat} {F : mPost} {x1 x2 s0 : Int} {M : Nat → Nat → Int} {n : Nat × Nat} (q : (s0 = 0 → WPc t11_likes (WPm gT d) F (22, [(2, 1), (0, x1), (0, x2)], [], hC w M n)) ∧ (¬ (s0 = 0) → WPm gT d 92 [(2, 4), (0, x2)] (hC w M n) (fun r h' => WPc t11_likes (WPm gT d) F (19, [(2, 1), (0, x1), (0, x2)], [(0, r.2)], h')))) : WPc t11_likes (WPm gT d) F (8, [(2, 1), (0, x1), (0, x2)], [(0, s0)], hC w M n) :=
  vcK_ok (K := [8, 19, 22, 34]) 23 _ q
set_option maxRecDepth 20000 in
theorem b11_likes_0 {w : cQ} {d : Nat} {F : mPost} {x1 x2 : Int} {M : Nat → Nat → Int} {n : Nat × Nat} (q : WPm gT d 91 [(2, 4), (0, x1)] (hC w M n) (fun r h' => WPc t11_likes (WPm gT d) F (8, [(2, 1), (0, x1), (0, x2)], [(0, r.2)], h'))) : WPc t11_likes (WPm gT d) F (0, [(2, 1), (0, x1), (0, x2)], [], hC w M n) :=
  vcK_ok (K := [8, 19, 22, 34]) 23 _ q
set_option maxRecDepth 20000 in
theorem e11_likes {w : cQ} {d : Nat} {Φ : Int → (Nat → Nat → Int) → Prop} {x1 x2 : Int} {M : Nat → Nat → Int} {n : Nat × Nat} (q : CF d 91 [(2, 4), (0, x1)] w M n (fun r0 M1 => (r0 = 0 → Φ (-99000002) M1) ∧ (¬ (r0 = 0) → CF d 92 [(2, 4), (0, x2)] w M1 n (fun r1 M2 => (r1 ≠ 0 → CF d 102 [(2, 4), (0, x1), (0, x2)] w M2 n (fun r2 M3 => Φ r2 M3)) ∧ (¬ (r1 ≠ 0) → Φ (-99000002) M2))))) : CF (d + 1) 127 [(2, 1), (0, x1), (0, x2)] w M n Φ :=
  WPm_in g11_likes (Nat.le_of_ble_eq_true rfl) (b11_likes_0 (WPm_mono gT d _ _ _ _ _ (fun r0 h' z0 => by obtain ⟨M1, rfl, z0⟩ := z0; exact (b11_likes_8 ⟨fun c1 => (WPc.kill [0, 1, 2] (b11_likes_22 (FFmk (z0.1 c1)))), fun c1 => (WPm_mono gT d _ _ _ _ _ (fun r1 h' z1 => by obtain ⟨M2, rfl, z1⟩ := z1; exact (b11_likes_19 ⟨fun c2 => (WPm_mono gT d _ _ _ _ _ (fun r2 h' z2 => by obtain ⟨M3, rfl, z2⟩ := z2; exact WPc.kill [0, 1, 2] (b11_likes_34 (FFmk z2))) (z1.1 c2)), fun c2 => (WPc.kill [0, 1, 2] (b11_likes_22 (FFmk (z1.2 c2))))⟩)) (z0.2 c1))⟩)) q))
set_option maxRecDepth 20000 in
theorem b11_tell_42 {w : cQ} {d : Nat} {F : mPost} {s0 : Int} {M : Nat → Nat → Int} {n : Nat × Nat} (q : F (0, s0) (hC w M n)) : WPc t11_tell (WPm gT d) F (42, [(9, 0), (9, 0), (9, 0), (9, 0)], [(0, s0)], hC w M n) :=
  vcK_ok (K := [9, 33, 42]) 29 _ q
set_option maxRecDepth 20000 in
theorem b11_tell_33 {w : cQ} {d : Nat} {F : mPost} {x1 x2 : Int} {M : Nat → Nat → Int} {n : Nat × Nat} (q : WPm gT d 110 [(2, 4), (0, x1), (0, x2)] (hC w M n) (fun r h' => WPc t11_tell (WPm gT d) F (42, [(2, 1), (0, x1), (0, x2), (9, 0)], [(0, r.2)], h'))) : WPc t11_tell (WPm gT d) F (33, [(2, 1), (0, x1), (0, x2), (9, 0)], [], hC w M n) :=
  vcK_ok (K := [9, 33, 42]) 29 _ q
set_option maxRecDepth 20000 in
theorem b11_tell_9 {w : cQ} {d : Nat} {F : mPost} {x1 x2 s0 : Int} {M : Nat → Nat → Int} {n : Nat × Nat} (q : (s0 = 0 → WPm gT d 26 [(2, 9), (2, 38)] (hC w M n) (fun r h' => WPc t11_tell (WPm gT d) F (33, [(2, 1), (0, x1), (0, x2), (0, s0)], [], h'))) ∧ (¬ (s0 = 0) → F (0, w32 ((-10) - s0)) (hC w M n))) : WPc t11_tell (WPm gT d) F (9, [(2, 1), (0, x1), (0, x2), (9, 0)], [(0, s0)], hC w M n) :=
  vcK_ok (K := [9, 33, 42]) 29 _ q
set_option maxRecDepth 20000 in
theorem b11_tell_0 {w : cQ} {d : Nat} {F : mPost} {x1 x2 : Int} {M : Nat → Nat → Int} {n : Nat × Nat} (q : WPm gT d 105 [(2, 4), (0, x1), (0, x2)] (hC w M n) (fun r h' => WPc t11_tell (WPm gT d) F (9, [(2, 1), (0, x1), (0, x2), (9, 0)], [(0, r.2)], h'))) : WPc t11_tell (WPm gT d) F (0, [(2, 1), (0, x1), (0, x2), (9, 0)], [], hC w M n) :=
  vcK_ok (K := [9, 33, 42]) 29 _ q
set_option maxRecDepth 20000 in
theorem e11_tell {w : cQ} {d : Nat} {Ψ : Int → cQ → (Nat → Nat → Int) → Nat × Nat → Prop} {x1 x2 : Int} {M : Nat → Nat → Int} {n : Nat × Nat} (q : CF d 105 [(2, 4), (0, x1), (0, x2)] w M n (fun r0 M1 => (r0 = 0 → CW d 26 [(2, 9), (2, 38)] w M1 n (fun _ w_2 M2 n_2 => CF d 110 [(2, 4), (0, x1), (0, x2)] w_2 M2 n_2 (fun r2 M3 => Ψ r2 w_2 M3 n_2))) ∧ (¬ (r0 = 0) → Ψ (w32 ((-10) - r0)) w M1 n))) : CW (d + 1) 128 [(2, 1), (0, x1), (0, x2)] w M n Ψ :=
  WPm_in g11_tell (Nat.le_of_ble_eq_true rfl) (b11_tell_0 (WPm_mono gT d _ _ _ _ _ (fun r0 h' z0 => by obtain ⟨M1, rfl, z0⟩ := z0; exact (b11_tell_9 ⟨fun c1 => (WPm_mono gT d _ _ _ _ _ (fun r1 h' z1 => by obtain ⟨_, M2, _, rfl, z1⟩ := z1; exact WPc.kill [3] (b11_tell_33 (WPm_mono gT d _ _ _ _ _ (fun r2 h' z2 => by obtain ⟨M3, rfl, z2⟩ := z2; exact WPc.kill [0, 1, 2, 3] (b11_tell_42 (FCmk z2))) z1))) (z0.1 c1)), fun c1 => (FCmk (z0.2 c1))⟩)) q))
set_option maxRecDepth 20000 in
theorem b11_cut_28 {w : cQ} {d : Nat} {F : mPost} {x1 : Int} {M : Nat → Nat → Int} {n : Nat × Nat} (q : F (0, m_and (m_shr ((sI M 38 3 (m_xor (M 38 3) (m_shl 1 x1))) 38 3) x1) 1) (hC w (sI M 38 3 (m_xor (M 38 3) (m_shl 1 x1))) n)) : WPc t11_cut (WPm gT d) F (28, [(2, 1), (0, x1)], [], hC w M n) :=
  vcK_ok (K := [8, 28]) 37 _ q
set_option maxRecDepth 20000 in
theorem b11_cut_8 {w : cQ} {d : Nat} {F : mPost} {x1 s0 : Int} {M : Nat → Nat → Int} {n : Nat × Nat} (q : (s0 ≠ 0 → WPm gT d 26 [(2, 9), (2, 38)] (hC w M n) (fun r h' => WPc t11_cut (WPm gT d) F (28, [(2, 1), (0, x1)], [], h'))) ∧ (¬ (s0 ≠ 0) → F (0, (-11)) (hC w M n))) : WPc t11_cut (WPm gT d) F (8, [(2, 1), (0, x1)], [(0, s0)], hC w M n) :=
  vcK_ok (K := [8, 28]) 37 _ q
set_option maxRecDepth 20000 in
theorem b11_cut_0 {w : cQ} {d : Nat} {F : mPost} {x1 : Int} {M : Nat → Nat → Int} {n : Nat × Nat} (q : WPm gT d 94 [(2, 4), (0, x1)] (hC w M n) (fun r h' => WPc t11_cut (WPm gT d) F (8, [(2, 1), (0, x1)], [(0, r.2)], h'))) : WPc t11_cut (WPm gT d) F (0, [(2, 1), (0, x1)], [], hC w M n) :=
  vcK_ok (K := [8, 28]) 37 _ q
set_option maxRecDepth 20000 in
theorem e11_cut {w : cQ} {d : Nat} {Ψ : Int → cQ → (Nat → Nat → Int) → Nat × Nat → Prop} {x1 : Int} {M : Nat → Nat → Int} {n : Nat × Nat} (q : CF d 94 [(2, 4), (0, x1)] w M n (fun r0 M1 => (r0 ≠ 0 → CW d 26 [(2, 9), (2, 38)] w M1 n (fun _ w_2 M2 n_2 => Ψ (m_and (m_shr ((sI M2 38 3 (m_xor (M2 38 3) (m_shl 1 x1))) 38 3) x1) 1) w_2 (sI M2 38 3 (m_xor (M2 38 3) (m_shl 1 x1))) n_2)) ∧ (¬ (r0 ≠ 0) → Ψ (-11) w M1 n))) : CW (d + 1) 129 [(2, 1), (0, x1)] w M n Ψ :=
  WPm_in g11_cut (Nat.le_of_ble_eq_true rfl) (b11_cut_0 (WPm_mono gT d _ _ _ _ _ (fun r0 h' z0 => by obtain ⟨M1, rfl, z0⟩ := z0; exact (b11_cut_8 ⟨fun c1 => (WPm_mono gT d _ _ _ _ _ (fun r1 h' z1 => by obtain ⟨_, M2, _, rfl, z1⟩ := z1; exact (b11_cut_28 (FCmk z1))) (z0.1 c1)), fun c1 => (FCmk (z0.2 c1))⟩)) q))
set_option maxRecDepth 20000 in
theorem b11_mood_38 {w : cQ} {d : Nat} {F : mPost} {x1 x2 : Int} {M : Nat → Nat → Int} {n : Nat × Nat} (q : ((0 : Int) ≤ x1 ∧ (x1 : Int) < ((8 : Nat) : Int)) ∧ (((0 : Int) ≤ x1 ∧ (x1 : Int) < ((8 : Nat) : Int) ∧ True) ∧ (F (0, M 41 x1.toNat) (hC w (sI M 41 x1.toNat x2) n)))) : WPc t11_mood (WPm gT d) F (38, [(2, 1), (0, x1), (0, x2), (9, 0)], [], hC w M n) :=
  vcK_ok (K := [8, 21, 38]) 39 _ q
set_option maxRecDepth 20000 in
theorem b11_mood_21 {w : cQ} {d : Nat} {F : mPost} {M : Nat → Nat → Int} {n : Nat × Nat} (q : F (0, (-11)) (hC w M n)) : WPc t11_mood (WPm gT d) F (21, [(9, 0), (9, 0), (9, 0), (9, 0)], [], hC w M n) :=
  vcK_ok (K := [8, 21, 38]) 39 _ q
set_option maxRecDepth 20000 in
theorem b11_mood_8 {w : cQ} {d : Nat} {F : mPost} {x1 x2 s0 : Int} {M : Nat → Nat → Int} {n : Nat × Nat} (q : (s0 = 0 → WPc t11_mood (WPm gT d) F (21, [(2, 1), (0, x1), (0, x2), (9, 0)], [], hC w M n)) ∧ (¬ (s0 = 0) → (x2 < 0 → WPc t11_mood (WPm gT d) F (21, [(2, 1), (0, x1), (0, x2), (9, 0)], [], hC w M n)) ∧ (¬ (x2 < 0) → (x2 ≤ 9 → WPm gT d 26 [(2, 9), (2, 38)] (hC w M n) (fun r h' => WPc t11_mood (WPm gT d) F (38, [(2, 1), (0, x1), (0, x2), (9, 0)], [], h'))) ∧ (¬ (x2 ≤ 9) → WPc t11_mood (WPm gT d) F (21, [(2, 1), (0, x1), (0, x2), (9, 0)], [], hC w M n))))) : WPc t11_mood (WPm gT d) F (8, [(2, 1), (0, x1), (0, x2), (9, 0)], [(0, s0)], hC w M n) :=
  vcK_ok (K := [8, 21, 38]) 39 _ q
set_option maxRecDepth 20000 in
theorem b11_mood_0 {w : cQ} {d : Nat} {F : mPost} {x1 x2 : Int} {M : Nat → Nat → Int} {n : Nat × Nat} (q : WPm gT d 91 [(2, 4), (0, x1)] (hC w M n) (fun r h' => WPc t11_mood (WPm gT d) F (8, [(2, 1), (0, x1), (0, x2), (9, 0)], [(0, r.2)], h'))) : WPc t11_mood (WPm gT d) F (0, [(2, 1), (0, x1), (0, x2), (9, 0)], [], hC w M n) :=
  vcK_ok (K := [8, 21, 38]) 39 _ q
set_option maxRecDepth 20000 in
theorem e11_mood {w : cQ} {d : Nat} {Ψ : Int → cQ → (Nat → Nat → Int) → Nat × Nat → Prop} {x1 x2 : Int} {M : Nat → Nat → Int} {n : Nat × Nat} (q : CF d 91 [(2, 4), (0, x1)] w M n (fun r0 M1 => (r0 = 0 → Ψ (-11) w M1 n) ∧ (¬ (r0 = 0) → (x2 < 0 → Ψ (-11) w M1 n) ∧ (¬ (x2 < 0) → (x2 ≤ 9 → CW d 26 [(2, 9), (2, 38)] w M1 n (fun _ w_2 M2 n_2 => ((0 : Int) ≤ x1 ∧ (x1 : Int) < ((8 : Nat) : Int)) ∧ (((0 : Int) ≤ x1 ∧ (x1 : Int) < ((8 : Nat) : Int) ∧ True) ∧ (Ψ (M2 41 x1.toNat) w_2 (sI M2 41 x1.toNat x2) n_2)))) ∧ (¬ (x2 ≤ 9) → Ψ (-11) w M1 n))))) : CW (d + 1) 130 [(2, 1), (0, x1), (0, x2)] w M n Ψ :=
  WPm_in g11_mood (Nat.le_of_ble_eq_true rfl) (b11_mood_0 (WPm_mono gT d _ _ _ _ _ (fun r0 h' z0 => by obtain ⟨M1, rfl, z0⟩ := z0; exact (b11_mood_8 ⟨fun c1 => (WPc.kill [0, 1, 2] (b11_mood_21 (FCmk (z0.1 c1)))), fun c1 => ⟨fun c2 => (WPc.kill [0, 1, 2] (b11_mood_21 (FCmk ((z0.2 c1).1 c2)))), fun c2 => ⟨fun c3 => (WPm_mono gT d _ _ _ _ _ (fun r1 h' z1 => by obtain ⟨_, M2, _, rfl, z1⟩ := z1; exact (b11_mood_38 ⟨z1.1, ⟨z1.2.1, (FCmk z1.2.2)⟩⟩)) (((z0.2 c1).2 c2).1 c3)), fun c3 => (WPc.kill [0, 1, 2] (b11_mood_21 (FCmk (((z0.2 c1).2 c2).2 c3))))⟩⟩⟩)) q))
set_option maxRecDepth 20000 in
theorem b11_go_56 {w : cQ} {d : Nat} {F : mPost} {x1 x2 x3 s0 : Int} {M : Nat → Nat → Int} {n : Nat × Nat} (q : WPc t11_go (WPm gT d) F (41, [(2, 1), (0, x1), (0, x2), (0, w32 (x3 + 1))], [], hC w M n)) : WPc t11_go (WPm gT d) F (56, [(2, 1), (0, x1), (0, x2), (0, x3)], [(0, s0)], hC w M n) :=
  vcK_ok (K := [11, 28, 41, 56]) 43 _ q
set_option maxRecDepth 20000 in
theorem b11_go_41 {w : cQ} {d : Nat} {F : mPost} {x1 x2 x3 : Int} {M : Nat → Nat → Int} {n : Nat × Nat} (q : (x1 ≤ x3 → F (0, w32 ((M 38 5) - x2)) (hC w M n)) ∧ (¬ (x1 ≤ x3) → WPm gT d 107 [(2, 4), (1, (-1))] (hC w M n) (fun r h' => WPc t11_go (WPm gT d) F (56, [(2, 1), (0, x1), (0, x2), (0, x3)], [(0, r.2)], h')))) : WPc t11_go (WPm gT d) F (41, [(2, 1), (0, x1), (0, x2), (0, x3)], [], hC w M n) :=
  vcK_ok (K := [11, 28, 41, 56]) 43 _ q
set_option maxRecDepth 20000 in
theorem b11_go_28 {w : cQ} {d : Nat} {F : mPost} {x1 : Int} {M : Nat → Nat → Int} {n : Nat × Nat} (q : WPc t11_go (WPm gT d) F (41, [(2, 1), (0, x1), (0, M 38 5), (0, 0)], [], hC w M n)) : WPc t11_go (WPm gT d) F (28, [(2, 1), (0, x1), (9, 0), (9, 0)], [], hC w M n) :=
  vcK_ok (K := [11, 28, 41, 56]) 43 _ q
set_option maxRecDepth 20000 in
theorem b11_go_11 {w : cQ} {d : Nat} {F : mPost} {M : Nat → Nat → Int} {n : Nat × Nat} (q : F (0, (-3)) (hC w M n)) : WPc t11_go (WPm gT d) F (11, [(9, 0), (9, 0), (9, 0), (9, 0)], [], hC w M n) :=
  vcK_ok (K := [11, 28, 41, 56]) 43 _ q
set_option maxRecDepth 20000 in
theorem b11_go_0 {w : cQ} {d : Nat} {F : mPost} {x1 : Int} {M : Nat → Nat → Int} {n : Nat × Nat} (q : (x1 < 1 → WPc t11_go (WPm gT d) F (11, [(2, 1), (0, x1), (9, 0), (9, 0)], [], hC w M n)) ∧ (¬ (x1 < 1) → (x1 ≤ 99 → WPm gT d 26 [(2, 9), (2, 38)] (hC w M n) (fun r h' => WPc t11_go (WPm gT d) F (28, [(2, 1), (0, x1), (9, 0), (9, 0)], [], h'))) ∧ (¬ (x1 ≤ 99) → WPc t11_go (WPm gT d) F (11, [(2, 1), (0, x1), (9, 0), (9, 0)], [], hC w M n)))) : WPc t11_go (WPm gT d) F (0, [(2, 1), (0, x1), (9, 0), (9, 0)], [], hC w M n) :=
  vcK_ok (K := [11, 28, 41, 56]) 43 _ q
def W11_go_41 (d : Nat) (Ψ : Int → cQ → (Nat → Nat → Int) → Nat × Nat → Prop) (x1 x2 x3 : Int) (w : cQ) (M : Nat → Nat → Int) (n : Nat × Nat) : Prop := WPc t11_go (WPm gT d) (FC Ψ) (41, [(2, 1), (0, x1), (0, x2), (0, x3)], [], hC w M n)
set_option maxRecDepth 20000 in
theorem v11_go_41 {w : cQ} {d : Nat} {Ψ : Int → cQ → (Nat → Nat → Int) → Nat × Nat → Prop} {x1 x2 x3 : Int} {M : Nat → Nat → Int} {n : Nat × Nat} (q : (x1 ≤ x3 → Ψ (w32 ((M 38 5) - x2)) w M n) ∧ (¬ (x1 ≤ x3) → CF d 107 [(2, 4), (1, (-1))] w M n (fun r0 M1 => W11_go_41 d Ψ x1 x2 (w32 (x3 + 1)) w M1 n))) : W11_go_41 d Ψ x1 x2 x3 w M n :=
  b11_go_41 ⟨fun c1 => (FCmk (q.1 c1)), fun c1 => (WPm_mono gT d _ _ _ _ _ (fun r0 h' z0 => by obtain ⟨M1, rfl, z0⟩ := z0; exact (b11_go_56 z0)) (q.2 c1))⟩
set_option maxRecDepth 20000 in
theorem e11_go {w : cQ} {d : Nat} {Ψ : Int → cQ → (Nat → Nat → Int) → Nat × Nat → Prop} {x1 : Int} {M : Nat → Nat → Int} {n : Nat × Nat} (q : (x1 < 1 → Ψ (-3) w M n) ∧ (¬ (x1 < 1) → (x1 ≤ 99 → CW d 26 [(2, 9), (2, 38)] w M n (fun _ w_1 M1 n_1 => W11_go_41 d Ψ x1 (M1 38 5) 0 w_1 M1 n_1)) ∧ (¬ (x1 ≤ 99) → Ψ (-3) w M n))) : CW (d + 1) 131 [(2, 1), (0, x1)] w M n Ψ :=
  WPm_in g11_go (Nat.le_of_ble_eq_true rfl) (b11_go_0 ⟨fun c2 => (WPc.kill [0, 1] (b11_go_11 (FCmk (q.1 c2)))), fun c2 => ⟨fun c3 => (WPm_mono gT d _ _ _ _ _ (fun r0 h' z0 => by obtain ⟨_, M1, _, rfl, z0⟩ := z0; exact (b11_go_28 z0)) ((q.2 c2).1 c3)), fun c3 => (WPc.kill [0, 1] (b11_go_11 (FCmk ((q.2 c2).2 c3))))⟩⟩)
set_option maxRecDepth 20000 in
theorem b11_undo_40 {w : cQ} {d : Nat} {F : mPost} {M : Nat → Nat → Int} {n : Nat × Nat} (q : F (0, M 9 1) (hC w M n)) : WPc t11_undo (WPm gT d) F (40, [(2, 1), (9, 0)], [], hC w M n) :=
  vcK_ok (K := [22, 40]) 29 _ q
set_option maxRecDepth 20000 in
theorem b11_undo_22 {w : cQ} {d : Nat} {F : mPost} {M : Nat → Nat → Int} {n : Nat × Nat} (q : F (0, (-3)) (hC w M n)) : WPc t11_undo (WPm gT d) F (22, [(9, 0), (9, 0)], [], hC w M n) :=
  vcK_ok (K := [22, 40]) 29 _ q
set_option maxRecDepth 20000 in
theorem b11_undo_0 {w : cQ} {d : Nat} {F : mPost} {x1 : Int} {M : Nat → Nat → Int} {n : Nat × Nat} (q : (x1 < 1 → WPc t11_undo (WPm gT d) F (22, [(2, 1), (0, x1)], [], hC w M n)) ∧ (¬ (x1 < 1) → (10 < x1 → WPc t11_undo (WPm gT d) F (22, [(2, 1), (0, x1)], [], hC w M n)) ∧ (¬ (10 < x1) → (x1 ≤ (M 9 1) → WPm gT d 28 [(2, 9), (0, x1), (2, 38)] (hC w M n) (fun r h' => WPc t11_undo (WPm gT d) F (40, [(2, 1), (0, x1)], [], h'))) ∧ (¬ (x1 ≤ (M 9 1)) → WPc t11_undo (WPm gT d) F (22, [(2, 1), (0, x1)], [], hC w M n))))) : WPc t11_undo (WPm gT d) F (0, [(2, 1), (0, x1)], [], hC w M n) :=
  vcK_ok (K := [22, 40]) 29 _ q
set_option maxRecDepth 20000 in
theorem e11_undo {w : cQ} {d : Nat} {Φ : Int → (Nat → Nat → Int) → Prop} {x1 : Int} {M : Nat → Nat → Int} {n : Nat × Nat} (q : (x1 < 1 → Φ (-3) M) ∧ (¬ (x1 < 1) → (10 < x1 → Φ (-3) M) ∧ (¬ (10 < x1) → (x1 ≤ (M 9 1) → CF d 28 [(2, 9), (0, x1), (2, 38)] w M n (fun _ M1 => Φ (M1 9 1) M1)) ∧ (¬ (x1 ≤ (M 9 1)) → Φ (-3) M)))) : CF (d + 1) 132 [(2, 1), (0, x1)] w M n Φ :=
  WPm_in g11_undo (Nat.le_of_ble_eq_true rfl) (b11_undo_0 ⟨fun c1 => (WPc.kill [0, 1] (b11_undo_22 (FFmk (q.1 c1)))), fun c1 => ⟨fun c2 => (WPc.kill [0, 1] (b11_undo_22 (FFmk ((q.2 c1).1 c2)))), fun c2 => ⟨fun c3 => (WPm_mono gT d _ _ _ _ _ (fun r0 h' z0 => by obtain ⟨M1, rfl, z0⟩ := z0; exact WPc.kill [1] (b11_undo_40 (FFmk z0))) (((q.2 c1).2 c2).1 c3)), fun c3 => (WPc.kill [0, 1] (b11_undo_22 (FFmk (((q.2 c1).2 c2).2 c3))))⟩⟩⟩)
set_option maxRecDepth 20000 in
theorem b11_judge_80 {w : cQ} {d : Nat} {F : mPost} {x4 : Int} {M : Nat → Nat → Int} {n : Nat × Nat} (q : (true = true) ∧ ((true = true) ∧ (F (0, x4) (hC w M n)))) : WPc t11_judge (WPm gT d) F (80, [(9, 0), (9, 0), (9, 0), (9, 0), (0, x4)], [], hC w M n) :=
  vcJ_ok (K := [4, 16, 30, 50, 61, 64, 80]) 48 _ q
set_option maxRecDepth 20000 in
theorem b11_judge_64 {w : cQ} {d : Nat} {F : mPost} {s0 : Int} {M : Nat → Nat → Int} {n : Nat × Nat} (q : (true = true) ∧ ((true = true) ∧ ((true = true) ∧ ((true = true) ∧ ((true = true) ∧ ((true = true) ∧ ((true = true) ∧ (WPm gT d 71 [(2, 38), (2, 5)] (hC w M n) (fun r h' => WPc t11_judge (WPm gT d) F (80, [(2, 1), (9, 0), (9, 0), (9, 0), (0, s0)], [], h')))))))))) : WPc t11_judge (WPm gT d) F (64, [(2, 1), (9, 0), (9, 0), (9, 0), (9, 0)], [(0, s0)], hC w M n) :=
  vcJ_ok (K := [4, 16, 30, 50, 61, 64, 80]) 48 _ q
set_option maxRecDepth 20000 in
theorem b11_judge_61 {w : cQ} {d : Nat} {F : mPost} {s2 s3 : Int} {b1 : Nat} {M : Nat → Nat → Int} {n : Nat × Nat} (q : (true = true) ∧ (WPm gT d 134 [(2, 1), (2, ((b1 : Nat) : Int)), (0, s2), (0, s3)] (hC w M n) (fun r h' => WPc t11_judge (WPm gT d) F (64, [(2, 1), (9, 0), (9, 0), (9, 0), (9, 0)], [(0, r.2)], h')))) : WPc t11_judge (WPm gT d) F (61, [(2, 1), (9, 0), (9, 0), (9, 0), (9, 0)], [(0, s3), (0, s2), (2, ((b1 : Nat) : Int)), (2, 1)], hC w M n) :=
  vcJ_ok (K := [4, 16, 30, 50, 61, 64, 80]) 48 _ q
set_option maxRecDepth 20000 in
theorem b11_judge_50 {w : cQ} {d : Nat} {F : mPost} {x2 : Int} {a3 : Nat} {M : Nat → Nat → Int} {n : Nat × Nat} (q : (true = true) ∧ ((true = true) ∧ ((true = true) ∧ ((true = true) ∧ ((true = true) ∧ ((true = true) ∧ ((true = true) ∧ (WPm gT d 111 [(2, 4), (2, ((a3 : Nat) : Int))] (hC w M n) (fun r h' => WPc t11_judge (WPm gT d) F (61, [(2, 1), (9, 0), (0, x2), (2, ((a3 : Nat) : Int)), (9, 0)], [(0, r.2), (0, x2), (2, ((a3 : Nat) : Int)), (2, 1)], h')))))))))) : WPc t11_judge (WPm gT d) F (50, [(2, 1), (9, 0), (0, x2), (2, ((a3 : Nat) : Int)), (9, 0)], [], hC w M n) :=
  vcJ_ok (K := [4, 16, 30, 50, 61, 64, 80]) 48 _ q
set_option maxRecDepth 20000 in
theorem b11_judge_30 {w : cQ} {d : Nat} {F : mPost} {x2 s0 : Int} {a3 : Nat} {M : Nat → Nat → Int} {n : Nat × Nat} (q : (true = true) ∧ ((s0 = 0 → (true = true) ∧ ((true = true) ∧ ((true = true) ∧ ((true = true) ∧ ((true = true) ∧ ((true = true) ∧ (WPm gT d 71 [(2, 5), (2, 38)] (hC w M n) (fun r h' => WPc t11_judge (WPm gT d) F (50, [(2, 1), (9, 0), (0, x2), (2, ((a3 : Nat) : Int)), (9, 0)], [], h'))))))))) ∧ (¬ (s0 = 0) → (true = true) ∧ ((true = true) ∧ (F (0, (-6)) (hC w M n)))))) : WPc t11_judge (WPm gT d) F (30, [(2, 1), (9, 0), (0, x2), (2, ((a3 : Nat) : Int)), (9, 0)], [(0, s0)], hC w M n) :=
  vcJ_ok (K := [4, 16, 30, 50, 61, 64, 80]) 48 _ q
set_option maxRecDepth 20000 in
theorem b11_judge_16 {w : cQ} {d : Nat} {F : mPost} {M : Nat → Nat → Int} {n : Nat × Nat} (q : (true = true) ∧ ((true = true) ∧ (F (0, (-2)) (hC w M n)))) : WPc t11_judge (WPm gT d) F (16, [(9, 0), (9, 0), (9, 0), (9, 0), (9, 0)], [], hC w M n) :=
  vcJ_ok (K := [4, 16, 30, 50, 61, 64, 80]) 48 _ q
set_option maxRecDepth 20000 in
theorem b11_judge_4 {w : cQ} {d : Nat} {F : mPost} {x1 x2 s0 : Int} {M : Nat → Nat → Int} {n : Nat × Nat} (q : (true = true) ∧ ((s0 = 0 → WPc t11_judge (WPm gT d) F (16, [(2, 1), (0, x1), (0, x2), (9, 0), (9, 0)], [], hC w M n)) ∧ (¬ (s0 = 0) → (true = true) ∧ ((true = true) ∧ ((x2 < 0 → WPc t11_judge (WPm gT d) F (16, [(2, 1), (0, x1), (0, x2), (9, 0), (9, 0)], [], hC w M n)) ∧ (¬ (x2 < 0) → (true = true) ∧ ((true = true) ∧ ((true = true) ∧ ((x2 ≤ 3 → (true = true) ∧ ((true = true) ∧ ((true = true) ∧ ((true = true) ∧ (((0 : Int) ≤ x1 ∧ (x1 : Int) < ((4 : Nat) : Int)) ∧ ((true = true) ∧ ((true = true) ∧ ((Nat.beq (shC w (rfC w 10 x1.toNat)).1 18 = true) ∧ (WPm gT d 73 [(2, ((rfC w 10 x1.toNat : Nat) : Int))] (hC w M n) (fun r h' => WPc t11_judge (WPm gT d) F (30, [(2, 1), (0, x1), (0, x2), (2, ((rfC w 10 x1.toNat : Nat) : Int)), (9, 0)], [(0, r.2)], h'))))))))))) ∧ (¬ (x2 ≤ 3) → WPc t11_judge (WPm gT d) F (16, [(2, 1), (0, x1), (0, x2), (9, 0), (9, 0)], [], hC w M n))))))))))) : WPc t11_judge (WPm gT d) F (4, [(2, 1), (0, x1), (0, x2), (9, 0), (9, 0)], [(0, s0)], hC w M n) :=
  vcJ_ok (K := [4, 16, 30, 50, 61, 64, 80]) 48 _ q
set_option maxRecDepth 20000 in
theorem b11_judge_0 {w : cQ} {d : Nat} {F : mPost} {x1 x2 : Int} {M : Nat → Nat → Int} {n : Nat × Nat} (q : (true = true) ∧ ((true = true) ∧ (WPm gT d 178 [(0, x1)] (hC w M n) (fun r h' => WPc t11_judge (WPm gT d) F (4, [(2, 1), (0, x1), (0, x2), (9, 0), (9, 0)], [(0, r.2)], h'))))) : WPc t11_judge (WPm gT d) F (0, [(2, 1), (0, x1), (0, x2), (9, 0), (9, 0)], [], hC w M n) :=
  vcJ_ok (K := [4, 16, 30, 50, 61, 64, 80]) 48 _ q
set_option maxRecDepth 20000 in
theorem e11_judge {w : cQ} {d : Nat} {Φ : Int → (Nat → Nat → Int) → Prop} {x1 x2 : Int} {M : Nat → Nat → Int} {n : Nat × Nat} (q : CF d 178 [(0, x1)] w M n (fun r0 M1 => (r0 = 0 → Φ (-2) M1) ∧ (¬ (r0 = 0) → (x2 < 0 → Φ (-2) M1) ∧ (¬ (x2 < 0) → (x2 ≤ 3 → ((0 : Int) ≤ x1 ∧ (x1 : Int) < ((4 : Nat) : Int)) ∧ ((Nat.beq (shC w (rfC w 10 x1.toNat)).1 18 = true) ∧ (CF d 73 [(2, ((rfC w 10 x1.toNat : Nat) : Int))] w M1 n (fun r1 M2 => (r1 = 0 → CF d 71 [(2, 5), (2, 38)] w M2 n (fun _ M3 => CF d 111 [(2, 4), (2, ((rfC w 10 x1.toNat : Nat) : Int))] w M3 n (fun r3 M4 => CF d 134 [(2, 1), (2, ((rfC w 10 x1.toNat : Nat) : Int)), (0, x2), (0, r3)] w M4 n (fun r4 M5 => CF d 71 [(2, 38), (2, 5)] w M5 n (fun _ M6 => Φ r4 M6))))) ∧ (¬ (r1 = 0) → Φ (-6) M2))))) ∧ (¬ (x2 ≤ 3) → Φ (-2) M1))))) : CF (d + 1) 133 [(2, 1), (0, x1), (0, x2)] w M n Φ :=
  WPm_in g11_judge (Nat.le_of_ble_eq_true rfl) (b11_judge_0 ⟨rfl, ⟨rfl, (WPm_mono gT d _ _ _ _ _ (fun r0 h' z0 => by obtain ⟨M1, rfl, z0⟩ := z0; exact (b11_judge_4 ⟨rfl, ⟨fun c1 => (WPc.kill [0, 1, 2] (b11_judge_16 ⟨rfl, ⟨rfl, (FFmk (z0.1 c1))⟩⟩)), fun c1 => ⟨rfl, ⟨rfl, ⟨fun c2 => (WPc.kill [0, 1, 2] (b11_judge_16 ⟨rfl, ⟨rfl, (FFmk ((z0.2 c1).1 c2))⟩⟩)), fun c2 => ⟨rfl, ⟨rfl, ⟨rfl, ⟨fun c3 => ⟨rfl, ⟨rfl, ⟨rfl, ⟨rfl, ⟨(((z0.2 c1).2 c2).1 c3).1, ⟨rfl, ⟨rfl, ⟨(((z0.2 c1).2 c2).1 c3).2.1, (WPm_mono gT d _ _ _ _ _ (fun r1 h' z1 => by obtain ⟨M2, rfl, z1⟩ := z1; exact WPc.kill [1] (b11_judge_30 ⟨rfl, ⟨fun c4 => ⟨rfl, ⟨rfl, ⟨rfl, ⟨rfl, ⟨rfl, ⟨rfl, (WPm_mono gT d _ _ _ _ _ (fun r2 h' z2 => by obtain ⟨M3, rfl, z2⟩ := z2; exact WPc.kill [1] (b11_judge_50 ⟨rfl, ⟨rfl, ⟨rfl, ⟨rfl, ⟨rfl, ⟨rfl, ⟨rfl, (WPm_mono gT d _ _ _ _ _ (fun r3 h' z3 => by obtain ⟨M4, rfl, z3⟩ := z3; exact WPc.kill [1, 2, 3] (b11_judge_61 ⟨rfl, (WPm_mono gT d _ _ _ _ _ (fun r4 h' z4 => by obtain ⟨M5, rfl, z4⟩ := z4; exact WPc.kill [1, 2, 3] (b11_judge_64 ⟨rfl, ⟨rfl, ⟨rfl, ⟨rfl, ⟨rfl, ⟨rfl, ⟨rfl, (WPm_mono gT d _ _ _ _ _ (fun r5 h' z5 => by obtain ⟨M6, rfl, z5⟩ := z5; exact WPc.kill [0, 1, 2, 3] (b11_judge_80 ⟨rfl, ⟨rfl, (FFmk z5)⟩⟩)) z4)⟩⟩⟩⟩⟩⟩⟩)) z3)⟩)) z2)⟩⟩⟩⟩⟩⟩⟩)) (z1.1 c4))⟩⟩⟩⟩⟩⟩, fun c4 => ⟨rfl, ⟨rfl, (FFmk (z1.2 c4))⟩⟩⟩⟩)) (((z0.2 c1).2 c2).1 c3).2.2)⟩⟩⟩⟩⟩⟩⟩⟩, fun c3 => (WPc.kill [0, 1, 2] (b11_judge_16 ⟨rfl, ⟨rfl, (FFmk (((z0.2 c1).2 c2).2 c3))⟩⟩))⟩⟩⟩⟩⟩⟩⟩⟩⟩)) q)⟩⟩)
set_option maxRecDepth 20000 in
theorem b11_verdict_92 {w : cQ} {d : Nat} {F : mPost} {s0 : Int} {M : Nat → Nat → Int} {n : Nat × Nat} (q : (true = true) ∧ (F (0, s0) (hC w M n))) : WPc t11_verdict (WPm gT d) F (92, [(9, 0), (9, 0), (9, 0), (9, 0), (9, 0)], [(0, s0)], hC w M n) :=
  vcJ_ok (K := [13, 54, 73, 76, 84, 92]) 40 _ q
set_option maxRecDepth 20000 in
theorem b11_verdict_84 {w : cQ} {d : Nat} {F : mPost} {s0 : Int} {M : Nat → Nat → Int} {n : Nat × Nat} (q : (true = true) ∧ (F (0, s0) (hC w M n))) : WPc t11_verdict (WPm gT d) F (84, [(9, 0), (9, 0), (9, 0), (9, 0), (9, 0)], [(0, s0)], hC w M n) :=
  vcJ_ok (K := [13, 54, 73, 76, 84, 92]) 40 _ q
set_option maxRecDepth 20000 in
theorem b11_verdict_76 {w : cQ} {d : Nat} {F : mPost} {s0 : Int} {M : Nat → Nat → Int} {n : Nat × Nat} (q : (true = true) ∧ (F (0, s0) (hC w M n))) : WPc t11_verdict (WPm gT d) F (76, [(9, 0), (9, 0), (9, 0), (9, 0), (9, 0)], [(0, s0)], hC w M n) :=
  vcJ_ok (K := [13, 54, 73, 76, 84, 92]) 40 _ q
set_option maxRecDepth 20000 in
theorem b11_verdict_73 {w : cQ} {d : Nat} {F : mPost} {s1 : Int} {M : Nat → Nat → Int} {n : Nat × Nat} (q : (true = true) ∧ (WPm gT d 106 [(2, 4), (1, s1)] (hC w M n) (fun r h' => WPc t11_verdict (WPm gT d) F (76, [(9, 0), (9, 0), (9, 0), (9, 0), (9, 0)], [(0, r.2)], h')))) : WPc t11_verdict (WPm gT d) F (73, [(9, 0), (9, 0), (9, 0), (9, 0), (9, 0)], [(1, s1), (2, 4)], hC w M n) :=
  vcJ_ok (K := [13, 54, 73, 76, 84, 92]) 40 _ q
set_option maxRecDepth 20000 in
theorem b11_verdict_54 {w : cQ} {d : Nat} {F : mPost} {s0 : Int} {M : Nat → Nat → Int} {n : Nat × Nat} (q : (true = true) ∧ (F (0, s0) (hC w M n))) : WPc t11_verdict (WPm gT d) F (54, [(9, 0), (9, 0), (9, 0), (9, 0), (9, 0)], [(0, s0)], hC w M n) :=
  vcJ_ok (K := [13, 54, 73, 76, 84, 92]) 40 _ q
set_option maxRecDepth 20000 in
theorem b11_verdict_13 {b : Nat} {w : cQ} {d : Nat} {F : mPost} {x2 x3 s0 : Int} {M : Nat → Nat → Int} {n : Nat × Nat} (q : (true = true) ∧ ((true = true) ∧ ((true = true) ∧ ((x2 = 0 → (true = true) ∧ ((true = true) ∧ ((s0 = 0 → (true = true) ∧ (WPc t11_verdict (WPm gT d) F (54, [(2, 1), (2, ((b : Nat) : Int)), (0, x2), (0, x3), (0, s0)], [(0, x3)], hC w M n))) ∧ (¬ (s0 = 0) → (true = true) ∧ ((true = true) ∧ (WPc t11_verdict (WPm gT d) F (54, [(2, 1), (2, ((b : Nat) : Int)), (0, x2), (0, x3), (0, s0)], [(0, (-1))], hC w M n))))))) ∧ (x2 ≠ 0 → ((x2 = 1 → (true = true) ∧ ((true = true) ∧ ((s0 = 0 → (true = true) ∧ ((true = true) ∧ ((true = true) ∧ ((true = true) ∧ ((Nat.beq (shC w b).1 18 = true) ∧ (WPm gT d 75 [(2, ((b : Nat) : Int)), (0, x3)] (hC w M n) (fun r h' => WPc t11_verdict (WPm gT d) F (73, [(2, 1), (2, ((b : Nat) : Int)), (0, x2), (0, x3), (0, s0)], [(1, r.2), (2, 4)], h')))))))) ∧ (¬ (s0 = 0) → (true = true) ∧ ((true = true) ∧ (WPc t11_verdict (WPm gT d) F (76, [(2, 1), (2, ((b : Nat) : Int)), (0, x2), (0, x3), (0, s0)], [(0, 0)], hC w M n))))))) ∧ (x2 ≠ 1 → ((x2 = 2 → (true = true) ∧ ((true = true) ∧ ((true = true) ∧ (WPm gT d 115 [(2, 4)] (hC w M n) (fun r h' => WPc t11_verdict (WPm gT d) F (84, [(2, 1), (2, ((b : Nat) : Int)), (0, x2), (0, x3), (0, s0)], [(0, r.2)], h')))))) ∧ (x2 ≠ 2 → ((true = true) ∧ ((true = true) ∧ ((true = true) ∧ (WPm gT d 116 [(2, 4)] (hC w M n) (fun r h' => WPc t11_verdict (WPm gT d) F (92, [(2, 1), (2, ((b : Nat) : Int)), (0, x2), (0, x3), (0, s0)], [(0, r.2)], h'))))))))))))))) : WPc t11_verdict (WPm gT d) F (13, [(2, 1), (2, ((b : Nat) : Int)), (0, x2), (0, x3), (9, 0)], [(0, s0)], hC w M n) :=
  vcJ_ok (K := [13, 54, 73, 76, 84, 92]) 40 _ q
set_option maxRecDepth 20000 in
theorem b11_verdict_0 {b : Nat} {w : cQ} {d : Nat} {F : mPost} {x2 x3 : Int} {M : Nat → Nat → Int} {n : Nat × Nat} (q : (true = true) ∧ ((true = true) ∧ ((Nat.beq (shC w b).1 18 = true) ∧ ((true = true) ∧ ((x3 < (M b 2) → (true = true) ∧ (WPc t11_verdict (WPm gT d) F (13, [(2, 1), (2, ((b : Nat) : Int)), (0, x2), (0, x3), (9, 0)], [(0, 0)], hC w M n))) ∧ (¬ (x3 < (M b 2)) → (true = true) ∧ ((true = true) ∧ (WPc t11_verdict (WPm gT d) F (13, [(2, 1), (2, ((b : Nat) : Int)), (0, x2), (0, x3), (9, 0)], [(0, 1)], hC w M n))))))))) : WPc t11_verdict (WPm gT d) F (0, [(2, 1), (2, ((b : Nat) : Int)), (0, x2), (0, x3), (9, 0)], [], hC w M n) :=
  vcJ_ok (K := [13, 54, 73, 76, 84, 92]) 40 _ q
set_option maxRecDepth 20000 in
theorem e11_verdict {b : Nat} {w : cQ} {d : Nat} {Φ : Int → (Nat → Nat → Int) → Prop} {x2 x3 : Int} {M : Nat → Nat → Int} {n : Nat × Nat} (q : (Nat.beq (shC w b).1 18 = true) ∧ ((x3 < (M b 2) → (x2 = 0 → Φ x3 M) ∧ (x2 ≠ 0 → ((x2 = 1 → (Nat.beq (shC w b).1 18 = true) ∧ (CF d 75 [(2, ((b : Nat) : Int)), (0, x3)] w M n (fun r0 M1 => CF d 106 [(2, 4), (1, r0)] w M1 n (fun r1 M2 => Φ r1 M2)))) ∧ (x2 ≠ 1 → ((x2 = 2 → CF d 115 [(2, 4)] w M n (fun r0 M1 => Φ r0 M1)) ∧ (x2 ≠ 2 → (CF d 116 [(2, 4)] w M n (fun r0 M1 => Φ r0 M1)))))))) ∧ (¬ (x3 < (M b 2)) → (x2 = 0 → Φ (-1) M) ∧ (x2 ≠ 0 → ((x2 = 1 → Φ 0 M) ∧ (x2 ≠ 1 → ((x2 = 2 → CF d 115 [(2, 4)] w M n (fun r0 M1 => Φ r0 M1)) ∧ (x2 ≠ 2 → (CF d 116 [(2, 4)] w M n (fun r0 M1 => Φ r0 M1)))))))))) : CF (d + 1) 134 [(2, 1), (2, ((b : Nat) : Int)), (0, x2), (0, x3)] w M n Φ :=
  WPm_in g11_verdict (Nat.le_of_ble_eq_true rfl) (b11_verdict_0 ⟨rfl, ⟨rfl, ⟨q.1, ⟨rfl, ⟨fun c1 => ⟨rfl, (b11_verdict_13 ⟨rfl, ⟨rfl, ⟨rfl, ⟨fun c2 => ⟨rfl, ⟨rfl, ⟨fun _ => ⟨rfl, (WPc.kill [0, 1, 2, 3, 4] (b11_verdict_54 ⟨rfl, (FFmk ((q.2.1 c1).1 c2))⟩))⟩, fun c => absurd (by decide) c⟩⟩⟩, fun c2 => ⟨fun c3 => ⟨rfl, ⟨rfl, ⟨fun _ => ⟨rfl, ⟨rfl, ⟨rfl, ⟨rfl, ⟨(((q.2.1 c1).2 c2).1 c3).1, (WPm_mono gT d _ _ _ _ _ (fun r0 h' z0 => by obtain ⟨M1, rfl, z0⟩ := z0; exact WPc.kill [0, 1, 2, 3, 4] (b11_verdict_73 ⟨rfl, (WPm_mono gT d _ _ _ _ _ (fun r1 h' z1 => by obtain ⟨M2, rfl, z1⟩ := z1; exact WPc.kill [0, 1, 2, 3, 4] (b11_verdict_76 ⟨rfl, (FFmk z1)⟩)) z0)⟩)) (((q.2.1 c1).2 c2).1 c3).2)⟩⟩⟩⟩⟩, fun c => absurd (by decide) c⟩⟩⟩, fun c3 => ⟨fun c4 => ⟨rfl, ⟨rfl, ⟨rfl, (WPm_mono gT d _ _ _ _ _ (fun r0 h' z0 => by obtain ⟨M1, rfl, z0⟩ := z0; exact WPc.kill [0, 1, 2, 3, 4] (b11_verdict_84 ⟨rfl, (FFmk z0)⟩)) ((((q.2.1 c1).2 c2).2 c3).1 c4))⟩⟩⟩, fun c4 => ⟨rfl, ⟨rfl, ⟨rfl, (WPm_mono gT d _ _ _ _ _ (fun r0 h' z0 => by obtain ⟨M1, rfl, z0⟩ := z0; exact WPc.kill [0, 1, 2, 3, 4] (b11_verdict_92 ⟨rfl, (FFmk z0)⟩)) ((((q.2.1 c1).2 c2).2 c3).2 c4))⟩⟩⟩⟩⟩⟩⟩⟩⟩)⟩, fun c1 => ⟨rfl, ⟨rfl, (b11_verdict_13 ⟨rfl, ⟨rfl, ⟨rfl, ⟨fun c5 => ⟨rfl, ⟨rfl, ⟨fun c => absurd c (by decide), fun _ => ⟨rfl, ⟨rfl, (WPc.kill [0, 1, 2, 3, 4] (b11_verdict_54 ⟨rfl, (FFmk ((q.2.2 c1).1 c5))⟩))⟩⟩⟩⟩⟩, fun c5 => ⟨fun c6 => ⟨rfl, ⟨rfl, ⟨fun c => absurd c (by decide), fun _ => ⟨rfl, ⟨rfl, (WPc.kill [0, 1, 2, 3, 4] (b11_verdict_76 ⟨rfl, (FFmk (((q.2.2 c1).2 c5).1 c6))⟩))⟩⟩⟩⟩⟩, fun c6 => ⟨fun c7 => ⟨rfl, ⟨rfl, ⟨rfl, (WPm_mono gT d _ _ _ _ _ (fun r0 h' z0 => by obtain ⟨M1, rfl, z0⟩ := z0; exact WPc.kill [0, 1, 2, 3, 4] (b11_verdict_84 ⟨rfl, (FFmk z0)⟩)) ((((q.2.2 c1).2 c5).2 c6).1 c7))⟩⟩⟩, fun c7 => ⟨rfl, ⟨rfl, ⟨rfl, (WPm_mono gT d _ _ _ _ _ (fun r0 h' z0 => by obtain ⟨M1, rfl, z0⟩ := z0; exact WPc.kill [0, 1, 2, 3, 4] (b11_verdict_92 ⟨rfl, (FFmk z0)⟩)) ((((q.2.2 c1).2 c5).2 c6).2 c7))⟩⟩⟩⟩⟩⟩⟩⟩⟩)⟩⟩⟩⟩⟩⟩⟩)
set_option maxRecDepth 20000 in
theorem b11_perform_56 {w : cQ} {d : Nat} {F : mPost} {s0 : Int} {M : Nat → Nat → Int} {n : Nat × Nat} (q : (true = true) ∧ (F (0, s0) (hC w M n))) : WPc t11_perform (WPm gT d) F (56, [(9, 0), (9, 0)], [(0, s0)], hC w M n) :=
  vcJ_ok (K := [4, 19, 39, 53, 56]) 34 _ q
set_option maxRecDepth 20000 in
theorem b11_perform_53 {w : cQ} {d : Nat} {F : mPost} {s1 : Int} {M : Nat → Nat → Int} {n : Nat × Nat} (q : (true = true) ∧ (WPm gT d 137 [(2, 1), (0, s1)] (hC w M n) (fun r h' => WPc t11_perform (WPm gT d) F (56, [(9, 0), (9, 0)], [(0, r.2)], h')))) : WPc t11_perform (WPm gT d) F (53, [(9, 0), (9, 0)], [(0, s1), (2, 1)], hC w M n) :=
  vcJ_ok (K := [4, 19, 39, 53, 56]) 34 _ q
set_option maxRecDepth 20000 in
theorem b11_perform_39 {w : cQ} {d : Nat} {F : mPost} {x1 : Int} {M : Nat → Nat → Int} {n : Nat × Nat} (q : (true = true) ∧ ((true = true) ∧ ((true = true) ∧ ((true = true) ∧ ((true = true) ∧ ((true = true) ∧ ((true = true) ∧ (((0 : Int) ≤ x1 ∧ (x1 : Int) < ((4 : Nat) : Int)) ∧ ((true = true) ∧ (WPm gT d 111 [(2, 4), (2, ((rfC w 10 x1.toNat : Nat) : Int))] (hC w M n) (fun r h' => WPc t11_perform (WPm gT d) F (53, [(2, 1), (0, x1)], [(0, r.2), (2, 1)], h')))))))))))) : WPc t11_perform (WPm gT d) F (39, [(2, 1), (0, x1)], [], hC w M n) :=
  vcJ_ok (K := [4, 19, 39, 53, 56]) 34 _ q
set_option maxRecDepth 20000 in
theorem b11_perform_19 {w : cQ} {d : Nat} {F : mPost} {x1 s0 : Int} {M : Nat → Nat → Int} {n : Nat × Nat} (q : (true = true) ∧ ((s0 = 0 → (true = true) ∧ ((true = true) ∧ ((true = true) ∧ ((true = true) ∧ ((true = true) ∧ ((true = true) ∧ (WPm gT d 71 [(2, 5), (2, 38)] (hC w M n) (fun r h' => WPc t11_perform (WPm gT d) F (39, [(2, 1), (0, x1)], [], h'))))))))) ∧ (¬ (s0 = 0) → (true = true) ∧ ((true = true) ∧ (F (0, (-6)) (hC w M n)))))) : WPc t11_perform (WPm gT d) F (19, [(2, 1), (0, x1)], [(0, s0)], hC w M n) :=
  vcJ_ok (K := [4, 19, 39, 53, 56]) 34 _ q
set_option maxRecDepth 20000 in
theorem b11_perform_4 {w : cQ} {d : Nat} {F : mPost} {x1 s0 : Int} {M : Nat → Nat → Int} {n : Nat × Nat} (q : (true = true) ∧ ((s0 ≠ 0 → (true = true) ∧ ((true = true) ∧ ((true = true) ∧ ((true = true) ∧ (((0 : Int) ≤ x1 ∧ (x1 : Int) < ((4 : Nat) : Int)) ∧ ((Nat.beq (shC w (rfC w 10 x1.toNat)).1 18 = true) ∧ (WPm gT d 73 [(2, ((rfC w 10 x1.toNat : Nat) : Int))] (hC w M n) (fun r h' => WPc t11_perform (WPm gT d) F (19, [(2, 1), (0, x1)], [(0, r.2)], h'))))))))) ∧ (¬ (s0 ≠ 0) → (true = true) ∧ ((true = true) ∧ (F (0, (-2)) (hC w M n)))))) : WPc t11_perform (WPm gT d) F (4, [(2, 1), (0, x1)], [(0, s0)], hC w M n) :=
  vcJ_ok (K := [4, 19, 39, 53, 56]) 34 _ q
set_option maxRecDepth 20000 in
theorem b11_perform_0 {w : cQ} {d : Nat} {F : mPost} {x1 : Int} {M : Nat → Nat → Int} {n : Nat × Nat} (q : (true = true) ∧ ((true = true) ∧ (WPm gT d 178 [(0, x1)] (hC w M n) (fun r h' => WPc t11_perform (WPm gT d) F (4, [(2, 1), (0, x1)], [(0, r.2)], h'))))) : WPc t11_perform (WPm gT d) F (0, [(2, 1), (0, x1)], [], hC w M n) :=
  vcJ_ok (K := [4, 19, 39, 53, 56]) 34 _ q
set_option maxRecDepth 20000 in
theorem e11_perform {w : cQ} {d : Nat} {Ψ : Int → cQ → (Nat → Nat → Int) → Nat × Nat → Prop} {x1 : Int} {M : Nat → Nat → Int} {n : Nat × Nat} (q : CF d 178 [(0, x1)] w M n (fun r0 M1 => (r0 ≠ 0 → ((0 : Int) ≤ x1 ∧ (x1 : Int) < ((4 : Nat) : Int)) ∧ ((Nat.beq (shC w (rfC w 10 x1.toNat)).1 18 = true) ∧ (CF d 73 [(2, ((rfC w 10 x1.toNat : Nat) : Int))] w M1 n (fun r1 M2 => (r1 = 0 → CF d 71 [(2, 5), (2, 38)] w M2 n (fun _ M3 => ((0 : Int) ≤ x1 ∧ (x1 : Int) < ((4 : Nat) : Int)) ∧ (CF d 111 [(2, 4), (2, ((rfC w 10 x1.toNat : Nat) : Int))] w M3 n (fun r3 M4 => CW d 137 [(2, 1), (0, r3)] w M4 n (fun r4 w_5 M5 n_5 => Ψ r4 w_5 M5 n_5))))) ∧ (¬ (r1 = 0) → Ψ (-6) w M2 n))))) ∧ (¬ (r0 ≠ 0) → Ψ (-2) w M1 n))) : CW (d + 1) 135 [(2, 1), (0, x1)] w M n Ψ :=
  WPm_in g11_perform (Nat.le_of_ble_eq_true rfl) (b11_perform_0 ⟨rfl, ⟨rfl, (WPm_mono gT d _ _ _ _ _ (fun r0 h' z0 => by obtain ⟨M1, rfl, z0⟩ := z0; exact (b11_perform_4 ⟨rfl, ⟨fun c1 => ⟨rfl, ⟨rfl, ⟨rfl, ⟨rfl, ⟨(z0.1 c1).1, ⟨(z0.1 c1).2.1, (WPm_mono gT d _ _ _ _ _ (fun r1 h' z1 => by obtain ⟨M2, rfl, z1⟩ := z1; exact (b11_perform_19 ⟨rfl, ⟨fun c2 => ⟨rfl, ⟨rfl, ⟨rfl, ⟨rfl, ⟨rfl, ⟨rfl, (WPm_mono gT d _ _ _ _ _ (fun r2 h' z2 => by obtain ⟨M3, rfl, z2⟩ := z2; exact (b11_perform_39 ⟨rfl, ⟨rfl, ⟨rfl, ⟨rfl, ⟨rfl, ⟨rfl, ⟨rfl, ⟨z2.1, ⟨rfl, (WPm_mono gT d _ _ _ _ _ (fun r3 h' z3 => by obtain ⟨M4, rfl, z3⟩ := z3; exact WPc.kill [0, 1] (b11_perform_53 ⟨rfl, (WPm_mono gT d _ _ _ _ _ (fun r4 h' z4 => by obtain ⟨_, M5, _, rfl, z4⟩ := z4; exact WPc.kill [0, 1] (b11_perform_56 ⟨rfl, (FCmk z4)⟩)) z3)⟩)) z2.2)⟩⟩⟩⟩⟩⟩⟩⟩⟩)) (z1.1 c2))⟩⟩⟩⟩⟩⟩, fun c2 => ⟨rfl, ⟨rfl, (FCmk (z1.2 c2))⟩⟩⟩⟩)) (z0.1 c1).2.2)⟩⟩⟩⟩⟩⟩, fun c1 => ⟨rfl, ⟨rfl, (FCmk (z0.2 c1))⟩⟩⟩⟩)) q)⟩⟩)
set_option maxRecDepth 20000 in
theorem b11_winter_41 {w : cQ} {d : Nat} {F : mPost} {s0 : Int} {M : Nat → Nat → Int} {n : Nat × Nat} (q : F (0, s0) (hC w M n)) : WPc t11_winter (WPm gT d) F (41, [(9, 0), (9, 0), (9, 0)], [(0, s0)], hC w M n) :=
  vcK_ok (K := [11, 28, 38, 41]) 27 _ q
set_option maxRecDepth 20000 in
theorem b11_winter_38 {w : cQ} {d : Nat} {F : mPost} {s1 : Int} {M : Nat → Nat → Int} {n : Nat × Nat} (q : WPm gT d 137 [(2, 1), (0, s1)] (hC w M n) (fun r h' => WPc t11_winter (WPm gT d) F (41, [(9, 0), (9, 0), (9, 0)], [(0, r.2)], h'))) : WPc t11_winter (WPm gT d) F (38, [(9, 0), (9, 0), (9, 0)], [(0, s1), (2, 1)], hC w M n) :=
  vcK_ok (K := [11, 28, 38, 41]) 27 _ q
set_option maxRecDepth 20000 in
theorem b11_winter_28 {w : cQ} {d : Nat} {F : mPost} {x1 x2 : Int} {M : Nat → Nat → Int} {n : Nat × Nat} (q : WPm gT d 112 [(2, 4), (0, x1), (0, x2)] (hC w M n) (fun r h' => WPc t11_winter (WPm gT d) F (38, [(2, 1), (0, x1), (0, x2)], [(0, r.2), (2, 1)], h'))) : WPc t11_winter (WPm gT d) F (28, [(2, 1), (0, x1), (0, x2)], [], hC w M n) :=
  vcK_ok (K := [11, 28, 38, 41]) 27 _ q
set_option maxRecDepth 20000 in
theorem b11_winter_11 {w : cQ} {d : Nat} {F : mPost} {M : Nat → Nat → Int} {n : Nat × Nat} (q : F (0, (-3)) (hC w M n)) : WPc t11_winter (WPm gT d) F (11, [(9, 0), (9, 0), (9, 0)], [], hC w M n) :=
  vcK_ok (K := [11, 28, 38, 41]) 27 _ q
set_option maxRecDepth 20000 in
theorem b11_winter_0 {w : cQ} {d : Nat} {F : mPost} {x1 x2 : Int} {M : Nat → Nat → Int} {n : Nat × Nat} (q : (x2 < 1 → WPc t11_winter (WPm gT d) F (11, [(2, 1), (0, x1), (0, x2)], [], hC w M n)) ∧ (¬ (x2 < 1) → (x2 ≤ 40 → WPm gT d 71 [(2, 5), (2, 38)] (hC w M n) (fun r h' => WPc t11_winter (WPm gT d) F (28, [(2, 1), (0, x1), (0, x2)], [], h'))) ∧ (¬ (x2 ≤ 40) → WPc t11_winter (WPm gT d) F (11, [(2, 1), (0, x1), (0, x2)], [], hC w M n)))) : WPc t11_winter (WPm gT d) F (0, [(2, 1), (0, x1), (0, x2)], [], hC w M n) :=
  vcK_ok (K := [11, 28, 38, 41]) 27 _ q
set_option maxRecDepth 20000 in
theorem e11_winter {w : cQ} {d : Nat} {Ψ : Int → cQ → (Nat → Nat → Int) → Nat × Nat → Prop} {x1 x2 : Int} {M : Nat → Nat → Int} {n : Nat × Nat} (q : (x2 < 1 → Ψ (-3) w M n) ∧ (¬ (x2 < 1) → (x2 ≤ 40 → CF d 71 [(2, 5), (2, 38)] w M n (fun _ M1 => CF d 112 [(2, 4), (0, x1), (0, x2)] w M1 n (fun r1 M2 => CW d 137 [(2, 1), (0, r1)] w M2 n (fun r2 w_3 M3 n_3 => Ψ r2 w_3 M3 n_3)))) ∧ (¬ (x2 ≤ 40) → Ψ (-3) w M n))) : CW (d + 1) 136 [(2, 1), (0, x1), (0, x2)] w M n Ψ :=
  WPm_in g11_winter (Nat.le_of_ble_eq_true rfl) (b11_winter_0 ⟨fun c1 => (WPc.kill [0, 1, 2] (b11_winter_11 (FCmk (q.1 c1)))), fun c1 => ⟨fun c2 => (WPm_mono gT d _ _ _ _ _ (fun r0 h' z0 => by obtain ⟨M1, rfl, z0⟩ := z0; exact (b11_winter_28 (WPm_mono gT d _ _ _ _ _ (fun r1 h' z1 => by obtain ⟨M2, rfl, z1⟩ := z1; exact WPc.kill [0, 1, 2] (b11_winter_38 (WPm_mono gT d _ _ _ _ _ (fun r2 h' z2 => by obtain ⟨_, M3, _, rfl, z2⟩ := z2; exact WPc.kill [0, 1, 2] (b11_winter_41 (FCmk z2))) z1))) z0))) ((q.2 c1).1 c2)), fun c2 => (WPc.kill [0, 1, 2] (b11_winter_11 (FCmk ((q.2 c1).2 c2))))⟩⟩)
set_option maxRecDepth 20000 in
theorem b11_keptIfAny_15 {w : cQ} {d : Nat} {F : mPost} {x1 : Int} {M : Nat → Nat → Int} {n : Nat × Nat} (q : F (0, x1) (hC w M n)) : WPc t11_keptIfAny (WPm gT d) F (15, [(9, 0), (0, x1)], [], hC w M n) :=
  vcK_ok (K := [15]) 14 _ q
set_option maxRecDepth 20000 in
theorem b11_keptIfAny_0 {w : cQ} {d : Nat} {F : mPost} {x1 : Int} {M : Nat → Nat → Int} {n : Nat × Nat} (q : (x1 ≤ 0 → WPc t11_keptIfAny (WPm gT d) F (15, [(2, 1), (0, x1)], [], hC w M n)) ∧ (¬ (x1 ≤ 0) → WPm gT d 26 [(2, 9), (2, 5)] (hC w M n) (fun r h' => WPc t11_keptIfAny (WPm gT d) F (15, [(2, 1), (0, x1)], [], h')))) : WPc t11_keptIfAny (WPm gT d) F (0, [(2, 1), (0, x1)], [], hC w M n) :=
  vcK_ok (K := [15]) 14 _ q
set_option maxRecDepth 20000 in
theorem e11_keptIfAny {w : cQ} {d : Nat} {Ψ : Int → cQ → (Nat → Nat → Int) → Nat × Nat → Prop} {x1 : Int} {M : Nat → Nat → Int} {n : Nat × Nat} (q : (x1 ≤ 0 → Ψ x1 w M n) ∧ (¬ (x1 ≤ 0) → CW d 26 [(2, 9), (2, 5)] w M n (fun _ w_1 M1 n_1 => Ψ x1 w_1 M1 n_1))) : CW (d + 1) 137 [(2, 1), (0, x1)] w M n Ψ :=
  WPm_in g11_keptIfAny (Nat.le_of_ble_eq_true rfl) (b11_keptIfAny_0 ⟨fun c1 => (WPc.kill [0] (b11_keptIfAny_15 (FCmk (q.1 c1)))), fun c1 => (WPm_mono gT d _ _ _ _ _ (fun r0 h' z0 => by obtain ⟨_, M1, _, rfl, z0⟩ := z0; exact WPc.kill [0] (b11_keptIfAny_15 (FCmk z0))) (q.2 c1))⟩)
set_option maxRecDepth 20000 in
theorem b11_heardBy_24 {w : cQ} {d : Nat} {F : mPost} {s0 : Int} {M : Nat → Nat → Int} {n : Nat × Nat} (q : F (0, s0) (hC w M n)) : WPc t11_heardBy (WPm gT d) F (24, [(9, 0), (9, 0)], [(0, s0)], hC w M n) :=
  vcK_ok (K := [8, 19, 24]) 17 _ q
set_option maxRecDepth 20000 in
theorem b11_heardBy_19 {w : cQ} {d : Nat} {F : mPost} {s0 : Int} {M : Nat → Nat → Int} {n : Nat × Nat} (q : WPc t11_heardBy (WPm gT d) F (24, [(9, 0), (9, 0)], [(0, s0)], hC w M n)) : WPc t11_heardBy (WPm gT d) F (19, [(9, 0), (9, 0)], [(0, s0)], hC w M n) :=
  vcK_ok (K := [8, 19, 24]) 17 _ q
set_option maxRecDepth 20000 in
theorem b11_heardBy_8 {w : cQ} {d : Nat} {F : mPost} {x1 s0 : Int} {M : Nat → Nat → Int} {n : Nat × Nat} (q : (s0 = 0 → WPc t11_heardBy (WPm gT d) F (24, [(2, 1), (0, x1)], [(0, (-2))], hC w M n)) ∧ (¬ (s0 = 0) → WPm gT d 101 [(2, 4), (0, x1)] (hC w M n) (fun r h' => WPc t11_heardBy (WPm gT d) F (19, [(2, 1), (0, x1)], [(0, r.2)], h')))) : WPc t11_heardBy (WPm gT d) F (8, [(2, 1), (0, x1)], [(0, s0)], hC w M n) :=
  vcK_ok (K := [8, 19, 24]) 17 _ q
set_option maxRecDepth 20000 in
theorem b11_heardBy_0 {w : cQ} {d : Nat} {F : mPost} {x1 : Int} {M : Nat → Nat → Int} {n : Nat × Nat} (q : WPm gT d 91 [(2, 4), (0, x1)] (hC w M n) (fun r h' => WPc t11_heardBy (WPm gT d) F (8, [(2, 1), (0, x1)], [(0, r.2)], h'))) : WPc t11_heardBy (WPm gT d) F (0, [(2, 1), (0, x1)], [], hC w M n) :=
  vcK_ok (K := [8, 19, 24]) 17 _ q
set_option maxRecDepth 20000 in
theorem e11_heardBy {w : cQ} {d : Nat} {Φ : Int → (Nat → Nat → Int) → Prop} {x1 : Int} {M : Nat → Nat → Int} {n : Nat × Nat} (q : CF d 91 [(2, 4), (0, x1)] w M n (fun r0 M1 => (r0 = 0 → Φ (-2) M1) ∧ (¬ (r0 = 0) → CF d 101 [(2, 4), (0, x1)] w M1 n (fun r1 M2 => Φ r1 M2)))) : CF (d + 1) 138 [(2, 1), (0, x1)] w M n Φ :=
  WPm_in g11_heardBy (Nat.le_of_ble_eq_true rfl) (b11_heardBy_0 (WPm_mono gT d _ _ _ _ _ (fun r0 h' z0 => by obtain ⟨M1, rfl, z0⟩ := z0; exact (b11_heardBy_8 ⟨fun c1 => (WPc.kill [0, 1] (b11_heardBy_24 (FFmk (z0.1 c1)))), fun c1 => (WPm_mono gT d _ _ _ _ _ (fun r1 h' z1 => by obtain ⟨M2, rfl, z1⟩ := z1; exact WPc.kill [0, 1] (b11_heardBy_19 (WPc.kill [0, 1] (b11_heardBy_24 (FFmk z1))))) (z0.2 c1))⟩)) q))
set_option maxRecDepth 20000 in
theorem b11_ear_44 {w : cQ} {d : Nat} {F : mPost} {x1 x2 x3 : Int} {M : Nat → Nat → Int} {n : Nat × Nat} (q : WPc t11_ear (WPm gT d) F (6, [(2, 1), (0, x1), (0, x2), (0, w32 (x3 + 1)), (9, 0)], [], hC w M n)) : WPc t11_ear (WPm gT d) F (44, [(2, 1), (0, x1), (0, x2), (0, x3), (9, 0)], [], hC w M n) :=
  vcK_ok (K := [6, 28, 31, 44]) 34 _ q
set_option maxRecDepth 20000 in
theorem b11_ear_31 {w : cQ} {d : Nat} {F : mPost} {x1 x2 x3 s0 : Int} {M : Nat → Nat → Int} {n : Nat × Nat} (q : (s0 ≤ x2 → WPc t11_ear (WPm gT d) F (44, [(2, 1), (0, x1), (0, x2), (0, x3), (0, s0)], [], hC w M n)) ∧ (¬ (s0 ≤ x2) → WPc t11_ear (WPm gT d) F (44, [(2, 1), (0, x3), (0, s0), (0, x3), (0, s0)], [], hC w M n))) : WPc t11_ear (WPm gT d) F (31, [(2, 1), (0, x1), (0, x2), (0, x3), (9, 0)], [(0, s0)], hC w M n) :=
  vcK_ok (K := [6, 28, 31, 44]) 34 _ q
set_option maxRecDepth 20000 in
theorem b11_ear_28 {w : cQ} {d : Nat} {F : mPost} {x1 x2 x3 s0 : Int} {M : Nat → Nat → Int} {n : Nat × Nat} (q : WPm gT d 318 [(0, s0)] (hC w M n) (fun r h' => WPc t11_ear (WPm gT d) F (31, [(2, 1), (0, x1), (0, x2), (0, x3), (9, 0)], [(0, r.2)], h'))) : WPc t11_ear (WPm gT d) F (28, [(2, 1), (0, x1), (0, x2), (0, x3), (9, 0)], [(0, s0)], hC w M n) :=
  vcK_ok (K := [6, 28, 31, 44]) 34 _ q
set_option maxRecDepth 20000 in
theorem b11_ear_6 {w : cQ} {d : Nat} {F : mPost} {x1 x2 x3 : Int} {M : Nat → Nat → Int} {n : Nat × Nat} (q : ((M 29 0) ≤ x3 → F (0, x1) (hC w M n)) ∧ (¬ ((M 29 0) ≤ x3) → WPm gT d 100 [(2, 4), (0, x3)] (hC w M n) (fun r h' => WPc t11_ear (WPm gT d) F (28, [(2, 1), (0, x1), (0, x2), (0, x3), (9, 0)], [(0, r.2)], h')))) : WPc t11_ear (WPm gT d) F (6, [(2, 1), (0, x1), (0, x2), (0, x3), (9, 0)], [], hC w M n) :=
  vcK_ok (K := [6, 28, 31, 44]) 34 _ q
set_option maxRecDepth 20000 in
theorem b11_ear_0 {w : cQ} {d : Nat} {F : mPost} {M : Nat → Nat → Int} {n : Nat × Nat} (q : WPc t11_ear (WPm gT d) F (6, [(2, 1), (0, 0), (0, (-1)), (0, 0), (9, 0)], [], hC w M n)) : WPc t11_ear (WPm gT d) F (0, [(2, 1), (9, 0), (9, 0), (9, 0), (9, 0)], [], hC w M n) :=
  vcK_ok (K := [6, 28, 31, 44]) 34 _ q
def W11_ear_6 (d : Nat) (Φ : Int → (Nat → Nat → Int) → Prop) (x1 x2 x3 : Int) (w : cQ) (M : Nat → Nat → Int) (n : Nat × Nat) : Prop := WPc t11_ear (WPm gT d) (FF Φ w n) (6, [(2, 1), (0, x1), (0, x2), (0, x3), (9, 0)], [], hC w M n)
set_option maxRecDepth 20000 in
theorem v11_ear_6 {w : cQ} {d : Nat} {Φ : Int → (Nat → Nat → Int) → Prop} {x1 x2 x3 : Int} {M : Nat → Nat → Int} {n : Nat × Nat} (q : ((M 29 0) ≤ x3 → Φ x1 M) ∧ (¬ ((M 29 0) ≤ x3) → CF d 100 [(2, 4), (0, x3)] w M n (fun r0 M1 => CF d 318 [(0, r0)] w M1 n (fun r1 M2 => (r1 ≤ x2 → W11_ear_6 d Φ x1 x2 (w32 (x3 + 1)) w M2 n) ∧ (¬ (r1 ≤ x2) → W11_ear_6 d Φ x3 r1 (w32 (x3 + 1)) w M2 n))))) : W11_ear_6 d Φ x1 x2 x3 w M n :=
  b11_ear_6 ⟨fun c1 => (FFmk (q.1 c1)), fun c1 => (WPm_mono gT d _ _ _ _ _ (fun r0 h' z0 => by obtain ⟨M1, rfl, z0⟩ := z0; exact (b11_ear_28 (WPm_mono gT d _ _ _ _ _ (fun r1 h' z1 => by obtain ⟨M2, rfl, z1⟩ := z1; exact (b11_ear_31 ⟨fun c2 => (WPc.kill [4] (b11_ear_44 (WPc.kill [4] (z1.1 c2)))), fun c2 => (WPc.kill [4] (b11_ear_44 (WPc.kill [4] (z1.2 c2))))⟩)) z0))) (q.2 c1))⟩
set_option maxRecDepth 20000 in
theorem e11_ear {w : cQ} {d : Nat} {Φ : Int → (Nat → Nat → Int) → Prop} {M : Nat → Nat → Int} {n : Nat × Nat} (q : W11_ear_6 d Φ 0 (-1) 0 w M n) : CF (d + 1) 139 [(2, 1)] w M n Φ :=
  WPm_in g11_ear (Nat.le_of_ble_eq_true rfl) (b11_ear_0 q)
set_option maxRecDepth 20000 in
theorem b11_needs_33 {w : cQ} {d : Nat} {F : mPost} {s0 : Int} {M : Nat → Nat → Int} {n : Nat × Nat} (q : F (0, s0) (hC w M n)) : WPc t11_needs (WPm gT d) F (33, [(9, 0), (9, 0), (9, 0)], [(0, s0)], hC w M n) :=
  vcK_ok (K := [6, 21, 29, 33]) 24 _ q
set_option maxRecDepth 20000 in
theorem b11_needs_29 {w : cQ} {d : Nat} {F : mPost} {s0 : Int} {M : Nat → Nat → Int} {n : Nat × Nat} (q : WPc t11_needs (WPm gT d) F (33, [(9, 0), (9, 0), (9, 0)], [(0, s0)], hC w M n)) : WPc t11_needs (WPm gT d) F (29, [(9, 0), (9, 0), (9, 0)], [(0, s0)], hC w M n) :=
  vcK_ok (K := [6, 21, 29, 33]) 24 _ q
set_option maxRecDepth 20000 in
theorem b11_needs_21 {w : cQ} {d : Nat} {F : mPost} {x1 x2 s0 : Int} {M : Nat → Nat → Int} {n : Nat × Nat} (q : (s0 = 0 → WPc t11_needs (WPm gT d) F (33, [(9, 0), (0, x1), (0, x2)], [(0, 0)], hC w M n)) ∧ (¬ (s0 = 0) → WPm gT d 181 [(0, x1), (0, x2)] (hC w M n) (fun r h' => WPc t11_needs (WPm gT d) F (29, [(9, 0), (0, x1), (0, x2)], [(0, r.2)], h')))) : WPc t11_needs (WPm gT d) F (21, [(9, 0), (0, x1), (0, x2)], [(0, s0)], hC w M n) :=
  vcK_ok (K := [6, 21, 29, 33]) 24 _ q
set_option maxRecDepth 20000 in
theorem b11_needs_6 {w : cQ} {d : Nat} {F : mPost} {x1 x2 s0 : Int} {M : Nat → Nat → Int} {n : Nat × Nat} (q : (s0 ≠ 0 → WPm gT d 99 [(2, 4), (0, x1), (0, x2)] (hC w M n) (fun r h' => WPc t11_needs (WPm gT d) F (21, [(2, 1), (0, x1), (0, x2)], [(0, r.2)], h'))) ∧ (¬ (s0 ≠ 0) → F (0, (-2)) (hC w M n))) : WPc t11_needs (WPm gT d) F (6, [(2, 1), (0, x1), (0, x2)], [(0, s0)], hC w M n) :=
  vcK_ok (K := [6, 21, 29, 33]) 24 _ q
set_option maxRecDepth 20000 in
theorem b11_needs_0 {w : cQ} {d : Nat} {F : mPost} {x1 x2 : Int} {M : Nat → Nat → Int} {n : Nat × Nat} (q : WPm gT d 179 [(2, 1), (0, x1), (0, x2)] (hC w M n) (fun r h' => WPc t11_needs (WPm gT d) F (6, [(2, 1), (0, x1), (0, x2)], [(0, r.2)], h'))) : WPc t11_needs (WPm gT d) F (0, [(2, 1), (0, x1), (0, x2)], [], hC w M n) :=
  vcK_ok (K := [6, 21, 29, 33]) 24 _ q
set_option maxRecDepth 20000 in
theorem e11_needs {w : cQ} {d : Nat} {Φ : Int → (Nat → Nat → Int) → Prop} {x1 x2 : Int} {M : Nat → Nat → Int} {n : Nat × Nat} (q : CF d 179 [(2, 1), (0, x1), (0, x2)] w M n (fun r0 M1 => (r0 ≠ 0 → CF d 99 [(2, 4), (0, x1), (0, x2)] w M1 n (fun r1 M2 => (r1 = 0 → Φ 0 M2) ∧ (¬ (r1 = 0) → CF d 181 [(0, x1), (0, x2)] w M2 n (fun r2 M3 => Φ r2 M3)))) ∧ (¬ (r0 ≠ 0) → Φ (-2) M1))) : CF (d + 1) 140 [(2, 1), (0, x1), (0, x2)] w M n Φ :=
  WPm_in g11_needs (Nat.le_of_ble_eq_true rfl) (b11_needs_0 (WPm_mono gT d _ _ _ _ _ (fun r0 h' z0 => by obtain ⟨M1, rfl, z0⟩ := z0; exact (b11_needs_6 ⟨fun c1 => (WPm_mono gT d _ _ _ _ _ (fun r1 h' z1 => by obtain ⟨M2, rfl, z1⟩ := z1; exact WPc.kill [0] (b11_needs_21 ⟨fun c2 => (WPc.kill [0, 1, 2] (b11_needs_33 (FFmk (z1.1 c2)))), fun c2 => (WPm_mono gT d _ _ _ _ _ (fun r2 h' z2 => by obtain ⟨M3, rfl, z2⟩ := z2; exact WPc.kill [0, 1, 2] (b11_needs_29 (WPc.kill [0, 1, 2] (b11_needs_33 (FFmk z2))))) (z1.2 c2))⟩)) (z0.1 c1)), fun c1 => (FFmk (z0.2 c1))⟩)) q))
set_option maxRecDepth 20000 in
theorem b11_pieces_13 {w : cQ} {d : Nat} {F : mPost} {s0 : Int} {M : Nat → Nat → Int} {n : Nat × Nat} (q : F (0, w32 (s0 + 1)) (hC w M n)) : WPc t11_pieces (WPm gT d) F (13, [(9, 0)], [(0, s0)], hC w M n) :=
  vcK_ok (K := [13]) 13 _ q
set_option maxRecDepth 20000 in
theorem b11_pieces_0 {w : cQ} {d : Nat} {F : mPost} {M : Nat → Nat → Int} {n : Nat × Nat} (q : WPm gT d 318 [(0, M 38 3)] (hC w M n) (fun r h' => WPc t11_pieces (WPm gT d) F (13, [(2, 1)], [(0, r.2)], h'))) : WPc t11_pieces (WPm gT d) F (0, [(2, 1)], [], hC w M n) :=
  vcK_ok (K := [13]) 13 _ q
set_option maxRecDepth 20000 in
theorem e11_pieces {w : cQ} {d : Nat} {Φ : Int → (Nat → Nat → Int) → Prop} {M : Nat → Nat → Int} {n : Nat × Nat} (q : CF d 318 [(0, M 38 3)] w M n (fun r0 M1 => Φ (w32 (r0 + 1)) M1)) : CF (d + 1) 141 [(2, 1)] w M n Φ :=
  WPm_in g11_pieces (Nat.le_of_ble_eq_true rfl) (b11_pieces_0 (WPm_mono gT d _ _ _ _ _ (fun r0 h' z0 => by obtain ⟨M1, rfl, z0⟩ := z0; exact WPc.kill [0] (b11_pieces_13 (FFmk z0))) q))
set_option maxRecDepth 20000 in
theorem b11_listeners_84 {w : cQ} {d : Nat} {F : mPost} {x2 x3 x4 : Int} {M : Nat → Nat → Int} {n : Nat × Nat} (q : WPc t11_listeners (WPm gT d) F (53, [(2, 1), (9, 0), (0, x2), (0, x3), (0, w32 (x4 + 1))], [], hC w M n)) : WPc t11_listeners (WPm gT d) F (84, [(2, 1), (9, 0), (0, x2), (0, x3), (0, x4)], [], hC w M n) :=
  vcK_ok (K := [13, 31, 53, 64, 68, 77, 84]) 58 _ q
set_option maxRecDepth 20000 in
theorem b11_listeners_77 {w : cQ} {d : Nat} {F : mPost} {x2 x3 x4 s0 : Int} {M : Nat → Nat → Int} {n : Nat × Nat} (q : (s0 ≠ x2 → WPc t11_listeners (WPm gT d) F (84, [(2, 1), (9, 0), (0, x2), (0, x3), (0, x4)], [], hC w M n)) ∧ (¬ (s0 ≠ x2) → WPc t11_listeners (WPm gT d) F (84, [(2, 1), (9, 0), (0, x2), (0, x4), (0, x4)], [], hC w M n))) : WPc t11_listeners (WPm gT d) F (77, [(2, 1), (9, 0), (0, x2), (0, x3), (0, x4)], [(0, s0)], hC w M n) :=
  vcK_ok (K := [13, 31, 53, 64, 68, 77, 84]) 58 _ q
set_option maxRecDepth 20000 in
theorem b11_listeners_68 {w : cQ} {d : Nat} {F : mPost} {x2 x3 x4 s0 s1 : Int} {M : Nat → Nat → Int} {n : Nat × Nat} (q : (s1 ≤ s0 → WPc t11_listeners (WPm gT d) F (84, [(2, 1), (9, 0), (0, x2), (0, x3), (0, x4)], [], hC w M n)) ∧ (¬ (s1 ≤ s0) → WPm gT d 143 [(2, 1), (0, x4)] (hC w M n) (fun r h' => WPc t11_listeners (WPm gT d) F (77, [(2, 1), (9, 0), (0, x2), (0, x3), (0, x4)], [(0, r.2)], h')))) : WPc t11_listeners (WPm gT d) F (68, [(2, 1), (9, 0), (0, x2), (0, x3), (0, x4)], [(0, s1), (0, s0)], hC w M n) :=
  vcK_ok (K := [13, 31, 53, 64, 68, 77, 84]) 58 _ q
set_option maxRecDepth 20000 in
theorem b11_listeners_64 {w : cQ} {d : Nat} {F : mPost} {x2 x3 x4 s0 : Int} {M : Nat → Nat → Int} {n : Nat × Nat} (q : WPm gT d 318 [(0, x3)] (hC w M n) (fun r h' => WPc t11_listeners (WPm gT d) F (68, [(2, 1), (9, 0), (0, x2), (0, x3), (0, x4)], [(0, r.2), (0, s0)], h'))) : WPc t11_listeners (WPm gT d) F (64, [(2, 1), (9, 0), (0, x2), (0, x3), (0, x4)], [(0, s0)], hC w M n) :=
  vcK_ok (K := [13, 31, 53, 64, 68, 77, 84]) 58 _ q
set_option maxRecDepth 20000 in
theorem b11_listeners_53 {w : cQ} {d : Nat} {F : mPost} {x2 x3 x4 : Int} {M : Nat → Nat → Int} {n : Nat × Nat} (q : (x2 ≤ x4 → F (0, x3) (hC w M n)) ∧ (¬ (x2 ≤ x4) → WPm gT d 318 [(0, x4)] (hC w M n) (fun r h' => WPc t11_listeners (WPm gT d) F (64, [(2, 1), (9, 0), (0, x2), (0, x3), (0, x4)], [(0, r.2)], h')))) : WPc t11_listeners (WPm gT d) F (53, [(2, 1), (9, 0), (0, x2), (0, x3), (0, x4)], [], hC w M n) :=
  vcK_ok (K := [13, 31, 53, 64, 68, 77, 84]) 58 _ q
set_option maxRecDepth 20000 in
theorem b11_listeners_31 {w : cQ} {d : Nat} {F : mPost} {x1 x2 s1 s2 : Int} {M : Nat → Nat → Int} {n : Nat × Nat} (q : ((0 : Int) ≤ s1 ∧ (s1 : Int) < ((8 : Nat) : Int) ∧ True) ∧ (WPc t11_listeners (WPm gT d) F (13, [(2, 1), (0, x1), (0, w32 (x2 + 1)), (9, 0), (9, 0)], [], hC w (sI M 16 s1.toNat (m_or s2 (m_shl 1 x2))) n))) : WPc t11_listeners (WPm gT d) F (31, [(2, 1), (0, x1), (0, x2), (9, 0), (9, 0)], [(0, s2), (0, s1), (2, 16)], hC w M n) :=
  vcK_ok (K := [13, 31, 53, 64, 68, 77, 84]) 58 _ q
set_option maxRecDepth 20000 in
theorem b11_listeners_13 {w : cQ} {d : Nat} {F : mPost} {x1 x2 : Int} {M : Nat → Nat → Int} {n : Nat × Nat} (q : (x1 ≤ x2 → WPc t11_listeners (WPm gT d) F (53, [(2, 1), (0, x1), (0, w32 ((m_shl 1 x1) - 1)), (0, w32 ((m_shl 1 x1) - 1)), (0, 1)], [], hC w M n)) ∧ (¬ (x1 ≤ x2) → WPm gT d 100 [(2, 4), (0, x2)] (hC w M n) (fun r h' => WPc t11_listeners (WPm gT d) F (31, [(2, 1), (0, x1), (0, x2), (9, 0), (9, 0)], [(0, r.2), (0, x2), (2, 16)], h')))) : WPc t11_listeners (WPm gT d) F (13, [(2, 1), (0, x1), (0, x2), (9, 0), (9, 0)], [], hC w M n) :=
  vcK_ok (K := [13, 31, 53, 64, 68, 77, 84]) 58 _ q
set_option maxRecDepth 20000 in
theorem b11_listeners_0 {w : cQ} {d : Nat} {F : mPost} {M : Nat → Nat → Int} {n : Nat × Nat} (q : WPc t11_listeners (WPm gT d) F (13, [(2, 1), (0, M 29 0), (0, 0), (9, 0), (9, 0)], [], hC w M n)) : WPc t11_listeners (WPm gT d) F (0, [(2, 1), (9, 0), (9, 0), (9, 0), (9, 0)], [], hC w M n) :=
  vcK_ok (K := [13, 31, 53, 64, 68, 77, 84]) 58 _ q
def W11_listeners_13 (d : Nat) (Φ : Int → (Nat → Nat → Int) → Prop) (x1 x2 : Int) (w : cQ) (M : Nat → Nat → Int) (n : Nat × Nat) : Prop := WPc t11_listeners (WPm gT d) (FF Φ w n) (13, [(2, 1), (0, x1), (0, x2), (9, 0), (9, 0)], [], hC w M n)
def W11_listeners_53 (d : Nat) (Φ : Int → (Nat → Nat → Int) → Prop) (x2 x3 x4 : Int) (w : cQ) (M : Nat → Nat → Int) (n : Nat × Nat) : Prop := WPc t11_listeners (WPm gT d) (FF Φ w n) (53, [(2, 1), (9, 0), (0, x2), (0, x3), (0, x4)], [], hC w M n)
set_option maxRecDepth 20000 in
theorem v11_listeners_13 {w : cQ} {d : Nat} {Φ : Int → (Nat → Nat → Int) → Prop} {x1 x2 : Int} {M : Nat → Nat → Int} {n : Nat × Nat} (q : (x1 ≤ x2 → W11_listeners_53 d Φ (w32 ((m_shl 1 x1) - 1)) (w32 ((m_shl 1 x1) - 1)) 1 w M n) ∧ (¬ (x1 ≤ x2) → CF d 100 [(2, 4), (0, x2)] w M n (fun r0 M1 => ((0 : Int) ≤ x2 ∧ (x2 : Int) < ((8 : Nat) : Int) ∧ True) ∧ (W11_listeners_13 d Φ x1 (w32 (x2 + 1)) w (sI M1 16 x2.toNat (m_or r0 (m_shl 1 x2))) n)))) : W11_listeners_13 d Φ x1 x2 w M n :=
  b11_listeners_13 ⟨fun c1 => (WPc.kill [1] (q.1 c1)), fun c1 => (WPm_mono gT d _ _ _ _ _ (fun r0 h' z0 => by obtain ⟨M1, rfl, z0⟩ := z0; exact (b11_listeners_31 ⟨z0.1, z0.2⟩)) (q.2 c1))⟩
set_option maxRecDepth 20000 in
theorem v11_listeners_53 {w : cQ} {d : Nat} {Φ : Int → (Nat → Nat → Int) → Prop} {x2 x3 x4 : Int} {M : Nat → Nat → Int} {n : Nat × Nat} (q : (x2 ≤ x4 → Φ x3 M) ∧ (¬ (x2 ≤ x4) → CF d 318 [(0, x4)] w M n (fun r0 M1 => CF d 318 [(0, x3)] w M1 n (fun r1 M2 => (r1 ≤ r0 → W11_listeners_53 d Φ x2 x3 (w32 (x4 + 1)) w M2 n) ∧ (¬ (r1 ≤ r0) → CF d 143 [(2, 1), (0, x4)] w M2 n (fun r2 M3 => (r2 ≠ x2 → W11_listeners_53 d Φ x2 x3 (w32 (x4 + 1)) w M3 n) ∧ (¬ (r2 ≠ x2) → W11_listeners_53 d Φ x2 x4 (w32 (x4 + 1)) w M3 n))))))) : W11_listeners_53 d Φ x2 x3 x4 w M n :=
  b11_listeners_53 ⟨fun c2 => (FFmk (q.1 c2)), fun c2 => (WPm_mono gT d _ _ _ _ _ (fun r0 h' z0 => by obtain ⟨M1, rfl, z0⟩ := z0; exact (b11_listeners_64 (WPm_mono gT d _ _ _ _ _ (fun r1 h' z1 => by obtain ⟨M2, rfl, z1⟩ := z1; exact (b11_listeners_68 ⟨fun c3 => (b11_listeners_84 (z1.1 c3)), fun c3 => (WPm_mono gT d _ _ _ _ _ (fun r2 h' z2 => by obtain ⟨M3, rfl, z2⟩ := z2; exact (b11_listeners_77 ⟨fun c4 => (b11_listeners_84 (z2.1 c4)), fun c4 => (b11_listeners_84 (z2.2 c4))⟩)) (z1.2 c3))⟩)) z0))) (q.2 c2))⟩
set_option maxRecDepth 20000 in
theorem e11_listeners {w : cQ} {d : Nat} {Φ : Int → (Nat → Nat → Int) → Prop} {M : Nat → Nat → Int} {n : Nat × Nat} (q : W11_listeners_13 d Φ (M 29 0) 0 w M n) : CF (d + 1) 142 [(2, 1)] w M n Φ :=
  WPm_in g11_listeners (Nat.le_of_ble_eq_true rfl) (b11_listeners_0 q)
set_option maxRecDepth 20000 in
theorem b11_covered_27 {w : cQ} {d : Nat} {F : mPost} {x1 x2 x3 : Int} {M : Nat → Nat → Int} {n : Nat × Nat} (q : WPc t11_covered (WPm gT d) F (4, [(2, 1), (0, x1), (0, x2), (0, w32 (x3 + 1))], [], hC w M n)) : WPc t11_covered (WPm gT d) F (27, [(2, 1), (0, x1), (0, x2), (0, x3)], [], hC w M n) :=
  vcK_ok (K := [4, 27]) 29 _ q
set_option maxRecDepth 20000 in
theorem b11_covered_4 {w : cQ} {d : Nat} {F : mPost} {x1 x2 x3 : Int} {M : Nat → Nat → Int} {n : Nat × Nat} (q : (8 ≤ x3 → F (0, x2) (hC w M n)) ∧ (¬ (8 ≤ x3) → ((m_and (m_shr x1 x3) 1) = 0 → WPc t11_covered (WPm gT d) F (27, [(2, 1), (0, x1), (0, x2), (0, x3)], [], hC w M n)) ∧ (¬ ((m_and (m_shr x1 x3) 1) = 0) → ((0 : Int) ≤ x3 ∧ (x3 : Int) < ((8 : Nat) : Int)) ∧ (WPc t11_covered (WPm gT d) F (27, [(2, 1), (0, x1), (0, m_or x2 (M 16 x3.toNat)), (0, x3)], [], hC w M n))))) : WPc t11_covered (WPm gT d) F (4, [(2, 1), (0, x1), (0, x2), (0, x3)], [], hC w M n) :=
  vcK_ok (K := [4, 27]) 29 _ q
set_option maxRecDepth 20000 in
theorem b11_covered_0 {w : cQ} {d : Nat} {F : mPost} {x1 : Int} {M : Nat → Nat → Int} {n : Nat × Nat} (q : WPc t11_covered (WPm gT d) F (4, [(2, 1), (0, x1), (0, 0), (0, 0)], [], hC w M n)) : WPc t11_covered (WPm gT d) F (0, [(2, 1), (0, x1), (9, 0), (9, 0)], [], hC w M n) :=
  vcK_ok (K := [4, 27]) 29 _ q
def W11_covered_4 (d : Nat) (Φ : Int → (Nat → Nat → Int) → Prop) (x1 x2 x3 : Int) (w : cQ) (M : Nat → Nat → Int) (n : Nat × Nat) : Prop := WPc t11_covered (WPm gT d) (FF Φ w n) (4, [(2, 1), (0, x1), (0, x2), (0, x3)], [], hC w M n)
set_option maxRecDepth 20000 in
theorem v11_covered_4 {w : cQ} {d : Nat} {Φ : Int → (Nat → Nat → Int) → Prop} {x1 x2 x3 : Int} {M : Nat → Nat → Int} {n : Nat × Nat} (q : (8 ≤ x3 → Φ x2 M) ∧ (¬ (8 ≤ x3) → ((m_and (m_shr x1 x3) 1) = 0 → W11_covered_4 d Φ x1 x2 (w32 (x3 + 1)) w M n) ∧ (¬ ((m_and (m_shr x1 x3) 1) = 0) → ((0 : Int) ≤ x3 ∧ (x3 : Int) < ((8 : Nat) : Int)) ∧ (W11_covered_4 d Φ x1 (m_or x2 (M 16 x3.toNat)) (w32 (x3 + 1)) w M n)))) : W11_covered_4 d Φ x1 x2 x3 w M n :=
  b11_covered_4 ⟨fun c1 => (FFmk (q.1 c1)), fun c1 => ⟨fun c2 => (b11_covered_27 ((q.2 c1).1 c2)), fun c2 => ⟨((q.2 c1).2 c2).1, (b11_covered_27 ((q.2 c1).2 c2).2)⟩⟩⟩
set_option maxRecDepth 20000 in
theorem e11_covered {w : cQ} {d : Nat} {Φ : Int → (Nat → Nat → Int) → Prop} {x1 : Int} {M : Nat → Nat → Int} {n : Nat × Nat} (q : W11_covered_4 d Φ x1 0 0 w M n) : CF (d + 1) 143 [(2, 1), (0, x1)] w M n Φ :=
  WPm_in g11_covered (Nat.le_of_ble_eq_true rfl) (b11_covered_0 q)
set_option maxRecDepth 20000 in
theorem b11_reach_24 {w : cQ} {d : Nat} {F : mPost} {s0 : Int} {M : Nat → Nat → Int} {n : Nat × Nat} (q : F (0, s0) (hC w M n)) : WPc t11_reach (WPm gT d) F (24, [(9, 0), (9, 0)], [(0, s0)], hC w M n) :=
  vcK_ok (K := [8, 19, 24]) 17 _ q
set_option maxRecDepth 20000 in
theorem b11_reach_19 {w : cQ} {d : Nat} {F : mPost} {s0 : Int} {M : Nat → Nat → Int} {n : Nat × Nat} (q : WPc t11_reach (WPm gT d) F (24, [(9, 0), (9, 0)], [(0, s0)], hC w M n)) : WPc t11_reach (WPm gT d) F (19, [(9, 0), (9, 0)], [(0, s0)], hC w M n) :=
  vcK_ok (K := [8, 19, 24]) 17 _ q
set_option maxRecDepth 20000 in
theorem b11_reach_8 {w : cQ} {d : Nat} {F : mPost} {x1 s0 : Int} {M : Nat → Nat → Int} {n : Nat × Nat} (q : (s0 = 0 → WPc t11_reach (WPm gT d) F (24, [(2, 1), (0, x1)], [(0, (-2))], hC w M n)) ∧ (¬ (s0 = 0) → WPm gT d 79 [(2, 13), (0, x1)] (hC w M n) (fun r h' => WPc t11_reach (WPm gT d) F (19, [(2, 1), (0, x1)], [(0, r.2)], h')))) : WPc t11_reach (WPm gT d) F (8, [(2, 1), (0, x1)], [(0, s0)], hC w M n) :=
  vcK_ok (K := [8, 19, 24]) 17 _ q
set_option maxRecDepth 20000 in
theorem b11_reach_0 {w : cQ} {d : Nat} {F : mPost} {x1 : Int} {M : Nat → Nat → Int} {n : Nat × Nat} (q : WPm gT d 92 [(2, 4), (0, x1)] (hC w M n) (fun r h' => WPc t11_reach (WPm gT d) F (8, [(2, 1), (0, x1)], [(0, r.2)], h'))) : WPc t11_reach (WPm gT d) F (0, [(2, 1), (0, x1)], [], hC w M n) :=
  vcK_ok (K := [8, 19, 24]) 17 _ q
set_option maxRecDepth 20000 in
theorem e11_reach {w : cQ} {d : Nat} {Φ : Int → (Nat → Nat → Int) → Prop} {x1 : Int} {M : Nat → Nat → Int} {n : Nat × Nat} (q : CF d 92 [(2, 4), (0, x1)] w M n (fun r0 M1 => (r0 = 0 → Φ (-2) M1) ∧ (¬ (r0 = 0) → CF d 79 [(2, 13), (0, x1)] w M1 n (fun r1 M2 => Φ r1 M2)))) : CF (d + 1) 144 [(2, 1), (0, x1)] w M n Φ :=
  WPm_in g11_reach (Nat.le_of_ble_eq_true rfl) (b11_reach_0 (WPm_mono gT d _ _ _ _ _ (fun r0 h' z0 => by obtain ⟨M1, rfl, z0⟩ := z0; exact (b11_reach_8 ⟨fun c1 => (WPc.kill [0, 1] (b11_reach_24 (FFmk (z0.1 c1)))), fun c1 => (WPm_mono gT d _ _ _ _ _ (fun r1 h' z1 => by obtain ⟨M2, rfl, z1⟩ := z1; exact WPc.kill [0, 1] (b11_reach_19 (WPc.kill [0, 1] (b11_reach_24 (FFmk z1))))) (z0.2 c1))⟩)) q))
set_option maxRecDepth 20000 in
theorem b11_fewest_24 {w : cQ} {d : Nat} {F : mPost} {s0 : Int} {M : Nat → Nat → Int} {n : Nat × Nat} (q : F (0, s0) (hC w M n)) : WPc t11_fewest (WPm gT d) F (24, [(9, 0), (9, 0), (9, 0)], [(0, s0)], hC w M n) :=
  vcK_ok (K := [6, 19, 24]) 19 _ q
set_option maxRecDepth 20000 in
theorem b11_fewest_19 {w : cQ} {d : Nat} {F : mPost} {s0 : Int} {M : Nat → Nat → Int} {n : Nat × Nat} (q : WPc t11_fewest (WPm gT d) F (24, [(9, 0), (9, 0), (9, 0)], [(0, s0)], hC w M n)) : WPc t11_fewest (WPm gT d) F (19, [(9, 0), (9, 0), (9, 0)], [(0, s0)], hC w M n) :=
  vcK_ok (K := [6, 19, 24]) 19 _ q
set_option maxRecDepth 20000 in
theorem b11_fewest_6 {w : cQ} {d : Nat} {F : mPost} {x1 x2 s0 : Int} {M : Nat → Nat → Int} {n : Nat × Nat} (q : (s0 = 0 → WPc t11_fewest (WPm gT d) F (24, [(2, 1), (0, x1), (0, x2)], [(0, (-2))], hC w M n)) ∧ (¬ (s0 = 0) → WPm gT d 81 [(2, 13), (0, x1), (0, x2), (0, 0)] (hC w M n) (fun r h' => WPc t11_fewest (WPm gT d) F (19, [(2, 1), (0, x1), (0, x2)], [(0, r.2)], h')))) : WPc t11_fewest (WPm gT d) F (6, [(2, 1), (0, x1), (0, x2)], [(0, s0)], hC w M n) :=
  vcK_ok (K := [6, 19, 24]) 19 _ q
set_option maxRecDepth 20000 in
theorem b11_fewest_0 {w : cQ} {d : Nat} {F : mPost} {x1 x2 : Int} {M : Nat → Nat → Int} {n : Nat × Nat} (q : WPm gT d 180 [(2, 1), (0, x1), (0, x2)] (hC w M n) (fun r h' => WPc t11_fewest (WPm gT d) F (6, [(2, 1), (0, x1), (0, x2)], [(0, r.2)], h'))) : WPc t11_fewest (WPm gT d) F (0, [(2, 1), (0, x1), (0, x2)], [], hC w M n) :=
  vcK_ok (K := [6, 19, 24]) 19 _ q
set_option maxRecDepth 20000 in
theorem e11_fewest {w : cQ} {d : Nat} {Ψ : Int → cQ → (Nat → Nat → Int) → Nat × Nat → Prop} {x1 x2 : Int} {M : Nat → Nat → Int} {n : Nat × Nat} (q : CF d 180 [(2, 1), (0, x1), (0, x2)] w M n (fun r0 M1 => (r0 = 0 → Ψ (-2) w M1 n) ∧ (¬ (r0 = 0) → CW d 81 [(2, 13), (0, x1), (0, x2), (0, 0)] w M1 n (fun r1 w_2 M2 n_2 => Ψ r1 w_2 M2 n_2)))) : CW (d + 1) 145 [(2, 1), (0, x1), (0, x2)] w M n Ψ :=
  WPm_in g11_fewest (Nat.le_of_ble_eq_true rfl) (b11_fewest_0 (WPm_mono gT d _ _ _ _ _ (fun r0 h' z0 => by obtain ⟨M1, rfl, z0⟩ := z0; exact (b11_fewest_6 ⟨fun c1 => (WPc.kill [0, 1, 2] (b11_fewest_24 (FCmk (z0.1 c1)))), fun c1 => (WPm_mono gT d _ _ _ _ _ (fun r1 h' z1 => by obtain ⟨_, M2, _, rfl, z1⟩ := z1; exact WPc.kill [0, 1, 2] (b11_fewest_19 (WPc.kill [0, 1, 2] (b11_fewest_24 (FCmk z1))))) (z0.2 c1))⟩)) q))
set_option maxRecDepth 20000 in
theorem b11_way_8 {w : cQ} {d : Nat} {F : mPost} {s0 : Int} {M : Nat → Nat → Int} {n : Nat × Nat} (q : F (0, s0) (hC w M n)) : WPc t11_way (WPm gT d) F (8, [(9, 0), (9, 0), (9, 0), (9, 0)], [(0, s0)], hC w M n) :=
  vcK_ok (K := [8]) 12 _ q
set_option maxRecDepth 20000 in
theorem b11_way_0 {w : cQ} {d : Nat} {F : mPost} {x1 x2 x3 : Int} {M : Nat → Nat → Int} {n : Nat × Nat} (q : WPm gT d 150 [(2, 1), (0, x1), (0, x2), (0, x3), (0, 0)] (hC w M n) (fun r h' => WPc t11_way (WPm gT d) F (8, [(2, 1), (0, x1), (0, x2), (0, x3)], [(0, r.2)], h'))) : WPc t11_way (WPm gT d) F (0, [(2, 1), (0, x1), (0, x2), (0, x3)], [], hC w M n) :=
  vcK_ok (K := [8]) 12 _ q
set_option maxRecDepth 20000 in
theorem e11_way {w : cQ} {d : Nat} {Ψ : Int → cQ → (Nat → Nat → Int) → Nat × Nat → Prop} {x1 x2 x3 : Int} {M : Nat → Nat → Int} {n : Nat × Nat} (q : CW d 150 [(2, 1), (0, x1), (0, x2), (0, x3), (0, 0)] w M n (fun r0 w_1 M1 n_1 => Ψ r0 w_1 M1 n_1)) : CW (d + 1) 146 [(2, 1), (0, x1), (0, x2), (0, x3)] w M n Ψ :=
  WPm_in g11_way (Nat.le_of_ble_eq_true rfl) (b11_way_0 (WPm_mono gT d _ _ _ _ _ (fun r0 h' z0 => by obtain ⟨_, M1, _, rfl, z0⟩ := z0; exact WPc.kill [0, 1, 2, 3] (b11_way_8 (FCmk z0))) q))
set_option maxRecDepth 20000 in
theorem b11_ways_39 {w : cQ} {d : Nat} {F : mPost} {s0 : Int} {M : Nat → Nat → Int} {n : Nat × Nat} (q : F (1, s0) (hC w M n)) : WPc t11_ways (WPm gT d) F (39, [(9, 0), (9, 0), (9, 0), (9, 0)], [(1, s0)], hC w M n) :=
  vcK_ok (K := [6, 23, 39]) 26 _ q
set_option maxRecDepth 20000 in
theorem b11_ways_23 {w : cQ} {d : Nat} {F : mPost} {M : Nat → Nat → Int} {n : Nat × Nat} (q : WPc t11_ways (WPm gT d) F (39, [(9, 0), (9, 0), (9, 0), (9, 0)], [(1, (-3))], hC w M n)) : WPc t11_ways (WPm gT d) F (23, [(9, 0), (9, 0), (9, 0), (9, 0)], [], hC w M n) :=
  vcK_ok (K := [6, 23, 39]) 26 _ q
set_option maxRecDepth 20000 in
theorem b11_ways_6 {w : cQ} {d : Nat} {F : mPost} {x1 x2 x3 s0 : Int} {M : Nat → Nat → Int} {n : Nat × Nat} (q : (s0 ≠ 0 → (x3 < 0 → WPc t11_ways (WPm gT d) F (23, [(2, 1), (0, x1), (0, x2), (0, x3)], [], hC w M n)) ∧ (¬ (x3 < 0) → (x3 ≤ 15 → WPm gT d 80 [(2, 13), (0, x1), (0, x2), (0, x3)] (hC w M n) (fun r h' => WPc t11_ways (WPm gT d) F (39, [(2, 1), (0, x1), (0, x2), (0, x3)], [(1, r.2)], h'))) ∧ (¬ (x3 ≤ 15) → WPc t11_ways (WPm gT d) F (23, [(2, 1), (0, x1), (0, x2), (0, x3)], [], hC w M n)))) ∧ (¬ (s0 ≠ 0) → F (1, (-2)) (hC w M n))) : WPc t11_ways (WPm gT d) F (6, [(2, 1), (0, x1), (0, x2), (0, x3)], [(0, s0)], hC w M n) :=
  vcK_ok (K := [6, 23, 39]) 26 _ q
set_option maxRecDepth 20000 in
theorem b11_ways_0 {w : cQ} {d : Nat} {F : mPost} {x1 x2 x3 : Int} {M : Nat → Nat → Int} {n : Nat × Nat} (q : WPm gT d 180 [(2, 1), (0, x1), (0, x2)] (hC w M n) (fun r h' => WPc t11_ways (WPm gT d) F (6, [(2, 1), (0, x1), (0, x2), (0, x3)], [(0, r.2)], h'))) : WPc t11_ways (WPm gT d) F (0, [(2, 1), (0, x1), (0, x2), (0, x3)], [], hC w M n) :=
  vcK_ok (K := [6, 23, 39]) 26 _ q
set_option maxRecDepth 20000 in
theorem e11_ways {w : cQ} {d : Nat} {Ψ : Int → cQ → (Nat → Nat → Int) → Nat × Nat → Prop} {x1 x2 x3 : Int} {M : Nat → Nat → Int} {n : Nat × Nat} (q : CF d 180 [(2, 1), (0, x1), (0, x2)] w M n (fun r0 M1 => (r0 ≠ 0 → (x3 < 0 → Ψ (-3) w M1 n) ∧ (¬ (x3 < 0) → (x3 ≤ 15 → CW d 80 [(2, 13), (0, x1), (0, x2), (0, x3)] w M1 n (fun r1 w_2 M2 n_2 => Ψ r1 w_2 M2 n_2)) ∧ (¬ (x3 ≤ 15) → Ψ (-3) w M1 n))) ∧ (¬ (r0 ≠ 0) → Ψ (-2) w M1 n))) : CW (d + 1) 147 [(2, 1), (0, x1), (0, x2), (0, x3)] w M n Ψ :=
  WPm_in g11_ways (Nat.le_of_ble_eq_true rfl) (b11_ways_0 (WPm_mono gT d _ _ _ _ _ (fun r0 h' z0 => by obtain ⟨M1, rfl, z0⟩ := z0; exact (b11_ways_6 ⟨fun c1 => ⟨fun c2 => (WPc.kill [0, 1, 2, 3] (b11_ways_23 (WPc.kill [0, 1, 2, 3] (b11_ways_39 (FCmk ((z0.1 c1).1 c2)))))), fun c2 => ⟨fun c3 => (WPm_mono gT d _ _ _ _ _ (fun r1 h' z1 => by obtain ⟨_, M2, _, rfl, z1⟩ := z1; exact WPc.kill [0, 1, 2, 3] (b11_ways_39 (FCmk z1))) (((z0.1 c1).2 c2).1 c3)), fun c3 => (WPc.kill [0, 1, 2, 3] (b11_ways_23 (WPc.kill [0, 1, 2, 3] (b11_ways_39 (FCmk (((z0.1 c1).2 c2).2 c3))))))⟩⟩, fun c1 => (FCmk (z0.2 c1))⟩)) q))
set_option maxRecDepth 20000 in
theorem b11_full_33 {w : cQ} {d : Nat} {F : mPost} {s0 : Int} {M : Nat → Nat → Int} {n : Nat × Nat} (q : F (0, s0) (hC w M n)) : WPc t11_full (WPm gT d) F (33, [(9, 0), (9, 0), (9, 0)], [(0, s0)], hC w M n) :=
  vcK_ok (K := [6, 28, 33]) 22 _ q
set_option maxRecDepth 20000 in
theorem b11_full_28 {w : cQ} {d : Nat} {F : mPost} {s0 : Int} {M : Nat → Nat → Int} {n : Nat × Nat} (q : WPc t11_full (WPm gT d) F (33, [(9, 0), (9, 0), (9, 0)], [(0, s0)], hC w M n)) : WPc t11_full (WPm gT d) F (28, [(9, 0), (9, 0), (9, 0)], [(0, s0)], hC w M n) :=
  vcK_ok (K := [6, 28, 33]) 22 _ q
set_option maxRecDepth 20000 in
theorem b11_full_6 {w : cQ} {d : Nat} {F : mPost} {x1 x2 s0 : Int} {M : Nat → Nat → Int} {n : Nat × Nat} (q : (s0 = 0 → WPc t11_full (WPm gT d) F (33, [(2, 1), (0, x1), (0, x2)], [(0, (-2))], hC w M n)) ∧ (¬ (s0 = 0) → WPm gT d 81 [(2, 13), (0, x1), (0, x2), (0, M 29 3)] (hC w M n) (fun r h' => WPc t11_full (WPm gT d) F (28, [(2, 1), (0, x1), (0, x2)], [(0, r.2)], h')))) : WPc t11_full (WPm gT d) F (6, [(2, 1), (0, x1), (0, x2)], [(0, s0)], hC w M n) :=
  vcK_ok (K := [6, 28, 33]) 22 _ q
set_option maxRecDepth 20000 in
theorem b11_full_0 {w : cQ} {d : Nat} {F : mPost} {x1 x2 : Int} {M : Nat → Nat → Int} {n : Nat × Nat} (q : WPm gT d 180 [(2, 1), (0, x1), (0, x2)] (hC w M n) (fun r h' => WPc t11_full (WPm gT d) F (6, [(2, 1), (0, x1), (0, x2)], [(0, r.2)], h'))) : WPc t11_full (WPm gT d) F (0, [(2, 1), (0, x1), (0, x2)], [], hC w M n) :=
  vcK_ok (K := [6, 28, 33]) 22 _ q
set_option maxRecDepth 20000 in
theorem e11_full {w : cQ} {d : Nat} {Ψ : Int → cQ → (Nat → Nat → Int) → Nat × Nat → Prop} {x1 x2 : Int} {M : Nat → Nat → Int} {n : Nat × Nat} (q : CF d 180 [(2, 1), (0, x1), (0, x2)] w M n (fun r0 M1 => (r0 = 0 → Ψ (-2) w M1 n) ∧ (¬ (r0 = 0) → CW d 81 [(2, 13), (0, x1), (0, x2), (0, M1 29 3)] w M1 n (fun r1 w_2 M2 n_2 => Ψ r1 w_2 M2 n_2)))) : CW (d + 1) 148 [(2, 1), (0, x1), (0, x2)] w M n Ψ :=
  WPm_in g11_full (Nat.le_of_ble_eq_true rfl) (b11_full_0 (WPm_mono gT d _ _ _ _ _ (fun r0 h' z0 => by obtain ⟨M1, rfl, z0⟩ := z0; exact (b11_full_6 ⟨fun c1 => (WPc.kill [0, 1, 2] (b11_full_33 (FCmk (z0.1 c1)))), fun c1 => (WPm_mono gT d _ _ _ _ _ (fun r1 h' z1 => by obtain ⟨_, M2, _, rfl, z1⟩ := z1; exact WPc.kill [0, 1, 2] (b11_full_28 (WPc.kill [0, 1, 2] (b11_full_33 (FCmk z1))))) (z0.2 c1))⟩)) q))
set_option maxRecDepth 20000 in
theorem b11_fullWay_17 {w : cQ} {d : Nat} {F : mPost} {s0 : Int} {M : Nat → Nat → Int} {n : Nat × Nat} (q : F (0, s0) (hC w M n)) : WPc t11_fullWay (WPm gT d) F (17, [(9, 0), (9, 0), (9, 0), (9, 0)], [(0, s0)], hC w M n) :=
  vcK_ok (K := [17]) 15 _ q
set_option maxRecDepth 20000 in
theorem b11_fullWay_0 {w : cQ} {d : Nat} {F : mPost} {x1 x2 x3 : Int} {M : Nat → Nat → Int} {n : Nat × Nat} (q : WPm gT d 150 [(2, 1), (0, x1), (0, x2), (0, x3), (0, M 29 3)] (hC w M n) (fun r h' => WPc t11_fullWay (WPm gT d) F (17, [(2, 1), (0, x1), (0, x2), (0, x3)], [(0, r.2)], h'))) : WPc t11_fullWay (WPm gT d) F (0, [(2, 1), (0, x1), (0, x2), (0, x3)], [], hC w M n) :=
  vcK_ok (K := [17]) 15 _ q
set_option maxRecDepth 20000 in
theorem e11_fullWay {w : cQ} {d : Nat} {Ψ : Int → cQ → (Nat → Nat → Int) → Nat × Nat → Prop} {x1 x2 x3 : Int} {M : Nat → Nat → Int} {n : Nat × Nat} (q : CW d 150 [(2, 1), (0, x1), (0, x2), (0, x3), (0, M 29 3)] w M n (fun r0 w_1 M1 n_1 => Ψ r0 w_1 M1 n_1)) : CW (d + 1) 149 [(2, 1), (0, x1), (0, x2), (0, x3)] w M n Ψ :=
  WPm_in g11_fullWay (Nat.le_of_ble_eq_true rfl) (b11_fullWay_0 (WPm_mono gT d _ _ _ _ _ (fun r0 h' z0 => by obtain ⟨_, M1, _, rfl, z0⟩ := z0; exact WPc.kill [0, 1, 2, 3] (b11_fullWay_17 (FCmk z0))) q))
set_option maxRecDepth 20000 in
theorem b11_placeOfWay_49 {w : cQ} {d : Nat} {F : mPost} {s0 : Int} {M : Nat → Nat → Int} {n : Nat × Nat} (q : F (0, s0) (hC w M n)) : WPc t11_placeOfWay (WPm gT d) F (49, [(9, 0), (9, 0), (9, 0), (9, 0), (9, 0)], [(0, s0)], hC w M n) :=
  vcK_ok (K := [6, 31, 45, 49]) 32 _ q
set_option maxRecDepth 20000 in
theorem b11_placeOfWay_45 {w : cQ} {d : Nat} {F : mPost} {s0 : Int} {M : Nat → Nat → Int} {n : Nat × Nat} (q : WPc t11_placeOfWay (WPm gT d) F (49, [(9, 0), (9, 0), (9, 0), (9, 0), (9, 0)], [(0, s0)], hC w M n)) : WPc t11_placeOfWay (WPm gT d) F (45, [(9, 0), (9, 0), (9, 0), (9, 0), (9, 0)], [(0, s0)], hC w M n) :=
  vcK_ok (K := [6, 31, 45, 49]) 32 _ q
set_option maxRecDepth 20000 in
theorem b11_placeOfWay_31 {w : cQ} {d : Nat} {F : mPost} {x3 s0 s1 : Int} {M : Nat → Nat → Int} {n : Nat × Nat} (q : (s1 ≤ s0 → WPc t11_placeOfWay (WPm gT d) F (49, [(2, 1), (9, 0), (9, 0), (0, x3), (9, 0)], [(0, (-1))], hC w M n)) ∧ (¬ (s1 ≤ s0) → WPm gT d 68 [(2, 93), (0, x3)] (hC w M n) (fun r h' => WPc t11_placeOfWay (WPm gT d) F (45, [(2, 1), (9, 0), (9, 0), (0, x3), (9, 0)], [(0, r.2)], h')))) : WPc t11_placeOfWay (WPm gT d) F (31, [(2, 1), (9, 0), (9, 0), (0, x3), (9, 0)], [(0, s1), (0, s0)], hC w M n) :=
  vcK_ok (K := [6, 31, 45, 49]) 32 _ q
set_option maxRecDepth 20000 in
theorem b11_placeOfWay_6 {w : cQ} {d : Nat} {F : mPost} {x1 x2 x3 x4 s0 : Int} {M : Nat → Nat → Int} {n : Nat × Nat} (q : (s0 ≠ 0 → (0 ≤ x3 → WPm gT d 81 [(2, 13), (0, x1), (0, x2), (0, x4)] (hC w M n) (fun r h' => WPc t11_placeOfWay (WPm gT d) F (31, [(2, 1), (0, x1), (0, x2), (0, x3), (0, x4)], [(0, r.2), (0, x3)], h'))) ∧ (¬ (0 ≤ x3) → F (0, (-3)) (hC w M n))) ∧ (¬ (s0 ≠ 0) → F (0, (-2)) (hC w M n))) : WPc t11_placeOfWay (WPm gT d) F (6, [(2, 1), (0, x1), (0, x2), (0, x3), (0, x4)], [(0, s0)], hC w M n) :=
  vcK_ok (K := [6, 31, 45, 49]) 32 _ q
set_option maxRecDepth 20000 in
theorem b11_placeOfWay_0 {w : cQ} {d : Nat} {F : mPost} {x1 x2 x3 x4 : Int} {M : Nat → Nat → Int} {n : Nat × Nat} (q : WPm gT d 180 [(2, 1), (0, x1), (0, x2)] (hC w M n) (fun r h' => WPc t11_placeOfWay (WPm gT d) F (6, [(2, 1), (0, x1), (0, x2), (0, x3), (0, x4)], [(0, r.2)], h'))) : WPc t11_placeOfWay (WPm gT d) F (0, [(2, 1), (0, x1), (0, x2), (0, x3), (0, x4)], [], hC w M n) :=
  vcK_ok (K := [6, 31, 45, 49]) 32 _ q
set_option maxRecDepth 20000 in
theorem e11_placeOfWay {w : cQ} {d : Nat} {Ψ : Int → cQ → (Nat → Nat → Int) → Nat × Nat → Prop} {x1 x2 x3 x4 : Int} {M : Nat → Nat → Int} {n : Nat × Nat} (q : CF d 180 [(2, 1), (0, x1), (0, x2)] w M n (fun r0 M1 => (r0 ≠ 0 → (0 ≤ x3 → CW d 81 [(2, 13), (0, x1), (0, x2), (0, x4)] w M1 n (fun r1 w_2 M2 n_2 => (r1 ≤ x3 → Ψ (-1) w_2 M2 n_2) ∧ (¬ (r1 ≤ x3) → CF d 68 [(2, 93), (0, x3)] w_2 M2 n_2 (fun r2 M3 => Ψ r2 w_2 M3 n_2)))) ∧ (¬ (0 ≤ x3) → Ψ (-3) w M1 n)) ∧ (¬ (r0 ≠ 0) → Ψ (-2) w M1 n))) : CW (d + 1) 150 [(2, 1), (0, x1), (0, x2), (0, x3), (0, x4)] w M n Ψ :=
  WPm_in g11_placeOfWay (Nat.le_of_ble_eq_true rfl) (b11_placeOfWay_0 (WPm_mono gT d _ _ _ _ _ (fun r0 h' z0 => by obtain ⟨M1, rfl, z0⟩ := z0; exact (b11_placeOfWay_6 ⟨fun c1 => ⟨fun c2 => (WPm_mono gT d _ _ _ _ _ (fun r1 h' z1 => by obtain ⟨_, M2, _, rfl, z1⟩ := z1; exact WPc.kill [1, 2, 4] (b11_placeOfWay_31 ⟨fun c3 => (WPc.kill [0, 1, 2, 3, 4] (b11_placeOfWay_49 (FCmk (z1.1 c3)))), fun c3 => (WPm_mono gT d _ _ _ _ _ (fun r2 h' z2 => by obtain ⟨M3, rfl, z2⟩ := z2; exact WPc.kill [0, 1, 2, 3, 4] (b11_placeOfWay_45 (WPc.kill [0, 1, 2, 3, 4] (b11_placeOfWay_49 (FCmk z2))))) (z1.2 c3))⟩)) ((z0.1 c1).1 c2)), fun c2 => (FCmk ((z0.1 c1).2 c2))⟩, fun c1 => (FCmk (z0.2 c1))⟩)) q))
set_option maxRecDepth 20000 in
theorem b11_ends_51 {w : cQ} {d : Nat} {F : mPost} {x1 x2 x3 : Int} {M : Nat → Nat → Int} {n : Nat × Nat} (q : WPc t11_ends (WPm gT d) F (12, [(2, 1), (0, x1), (0, x2), (0, w32 (x3 + 1))], [], hC w M n)) : WPc t11_ends (WPm gT d) F (51, [(2, 1), (0, x1), (0, x2), (0, x3)], [], hC w M n) :=
  vcK_ok (K := [9, 12, 51]) 51 _ q
set_option maxRecDepth 20000 in
theorem b11_ends_12 {w : cQ} {d : Nat} {F : mPost} {x1 x2 x3 : Int} {M : Nat → Nat → Int} {n : Nat × Nat} (q : ((M 29 2) ≤ x3 → F (0, m_and (w32 ((m_shl 1 (M 29 1)) - 1)) (m_xor x1 (-1))) (hC w M n)) ∧ (¬ ((M 29 2) ≤ x3) → ((m_and (m_shr x2 x3) 1) = 0 → WPc t11_ends (WPm gT d) F (51, [(2, 1), (0, x1), (0, x2), (0, x3)], [], hC w M n)) ∧ (¬ ((m_and (m_shr x2 x3) 1) = 0) → ((0 : Int) ≤ x3 ∧ (x3 : Int) < ((12 : Nat) : Int)) ∧ (WPc t11_ends (WPm gT d) F (51, [(2, 1), (0, m_or x1 (m_shl 1 (M 30 x3.toNat))), (0, x2), (0, x3)], [], hC w M n))))) : WPc t11_ends (WPm gT d) F (12, [(2, 1), (0, x1), (0, x2), (0, x3)], [], hC w M n) :=
  vcK_ok (K := [9, 12, 51]) 51 _ q
set_option maxRecDepth 20000 in
theorem b11_ends_9 {w : cQ} {d : Nat} {F : mPost} {x1 s0 : Int} {M : Nat → Nat → Int} {n : Nat × Nat} (q : WPc t11_ends (WPm gT d) F (12, [(2, 1), (0, x1), (0, s0), (0, 0)], [], hC w M n)) : WPc t11_ends (WPm gT d) F (9, [(2, 1), (0, x1), (9, 0), (9, 0)], [(0, s0)], hC w M n) :=
  vcK_ok (K := [9, 12, 51]) 51 _ q
set_option maxRecDepth 20000 in
theorem b11_ends_0 {w : cQ} {d : Nat} {F : mPost} {M : Nat → Nat → Int} {n : Nat × Nat} (q : WPm gT d 98 [(2, 4)] (hC w M n) (fun r h' => WPc t11_ends (WPm gT d) F (9, [(2, 1), (0, 0), (9, 0), (9, 0)], [(0, r.2)], h'))) : WPc t11_ends (WPm gT d) F (0, [(2, 1), (9, 0), (9, 0), (9, 0)], [], hC w M n) :=
  vcK_ok (K := [9, 12, 51]) 51 _ q
def W11_ends_12 (d : Nat) (Φ : Int → (Nat → Nat → Int) → Prop) (x1 x2 x3 : Int) (w : cQ) (M : Nat → Nat → Int) (n : Nat × Nat) : Prop := WPc t11_ends (WPm gT d) (FF Φ w n) (12, [(2, 1), (0, x1), (0, x2), (0, x3)], [], hC w M n)
set_option maxRecDepth 20000 in
theorem v11_ends_12 {w : cQ} {d : Nat} {Φ : Int → (Nat → Nat → Int) → Prop} {x1 x2 x3 : Int} {M : Nat → Nat → Int} {n : Nat × Nat} (q : ((M 29 2) ≤ x3 → Φ (m_and (w32 ((m_shl 1 (M 29 1)) - 1)) (m_xor x1 (-1))) M) ∧ (¬ ((M 29 2) ≤ x3) → ((m_and (m_shr x2 x3) 1) = 0 → W11_ends_12 d Φ x1 x2 (w32 (x3 + 1)) w M n) ∧ (¬ ((m_and (m_shr x2 x3) 1) = 0) → ((0 : Int) ≤ x3 ∧ (x3 : Int) < ((12 : Nat) : Int)) ∧ (W11_ends_12 d Φ (m_or x1 (m_shl 1 (M 30 x3.toNat))) x2 (w32 (x3 + 1)) w M n)))) : W11_ends_12 d Φ x1 x2 x3 w M n :=
  b11_ends_12 ⟨fun c1 => (FFmk (q.1 c1)), fun c1 => ⟨fun c2 => (b11_ends_51 ((q.2 c1).1 c2)), fun c2 => ⟨((q.2 c1).2 c2).1, (b11_ends_51 ((q.2 c1).2 c2).2)⟩⟩⟩
set_option maxRecDepth 20000 in
theorem e11_ends {w : cQ} {d : Nat} {Φ : Int → (Nat → Nat → Int) → Prop} {M : Nat → Nat → Int} {n : Nat × Nat} (q : CF d 98 [(2, 4)] w M n (fun r0 M1 => W11_ends_12 d Φ 0 r0 0 w M1 n)) : CF (d + 1) 151 [(2, 1)] w M n Φ :=
  WPm_in g11_ends (Nat.le_of_ble_eq_true rfl) (b11_ends_0 (WPm_mono gT d _ _ _ _ _ (fun r0 h' z0 => by obtain ⟨M1, rfl, z0⟩ := z0; exact (b11_ends_9 z0)) q))
set_option maxRecDepth 20000 in
theorem b11_forces_44 {w : cQ} {d : Nat} {F : mPost} {s0 : Int} {M : Nat → Nat → Int} {n : Nat × Nat} (q : F (0, s0) (hC w M n)) : WPc t11_forces (WPm gT d) F (44, [(9, 0), (9, 0), (9, 0)], [(0, s0)], hC w M n) :=
  vcK_ok (K := [8, 19, 22, 32, 44]) 29 _ q
set_option maxRecDepth 20000 in
theorem b11_forces_32 {w : cQ} {d : Nat} {F : mPost} {x1 x2 : Int} {M : Nat → Nat → Int} {n : Nat × Nat} (q : WPm gT d 2 [(2, 14), (0, x1), (0, x2), (0, m_shl 1 x1)] (hC w M n) (fun r h' => WPc t11_forces (WPm gT d) F (44, [(2, 1), (0, x1), (0, x2)], [(0, r.2)], h'))) : WPc t11_forces (WPm gT d) F (32, [(2, 1), (0, x1), (0, x2)], [], hC w M n) :=
  vcK_ok (K := [8, 19, 22, 32, 44]) 29 _ q
set_option maxRecDepth 20000 in
theorem b11_forces_22 {w : cQ} {d : Nat} {F : mPost} {M : Nat → Nat → Int} {n : Nat × Nat} (q : F (0, (-2)) (hC w M n)) : WPc t11_forces (WPm gT d) F (22, [(9, 0), (9, 0), (9, 0)], [], hC w M n) :=
  vcK_ok (K := [8, 19, 22, 32, 44]) 29 _ q
set_option maxRecDepth 20000 in
theorem b11_forces_19 {w : cQ} {d : Nat} {F : mPost} {x1 x2 s0 : Int} {M : Nat → Nat → Int} {n : Nat × Nat} (q : (s0 ≠ 0 → WPm gT d 1 [(2, 14)] (hC w M n) (fun r h' => WPc t11_forces (WPm gT d) F (32, [(2, 1), (0, x1), (0, x2)], [], h'))) ∧ (¬ (s0 ≠ 0) → WPc t11_forces (WPm gT d) F (22, [(2, 1), (0, x1), (0, x2)], [], hC w M n))) : WPc t11_forces (WPm gT d) F (19, [(2, 1), (0, x1), (0, x2)], [(0, s0)], hC w M n) :=
  vcK_ok (K := [8, 19, 22, 32, 44]) 29 _ q
set_option maxRecDepth 20000 in
theorem b11_forces_8 {w : cQ} {d : Nat} {F : mPost} {x1 x2 s0 : Int} {M : Nat → Nat → Int} {n : Nat × Nat} (q : (s0 = 0 → WPc t11_forces (WPm gT d) F (22, [(2, 1), (0, x1), (0, x2)], [], hC w M n)) ∧ (¬ (s0 = 0) → WPm gT d 92 [(2, 4), (0, x2)] (hC w M n) (fun r h' => WPc t11_forces (WPm gT d) F (19, [(2, 1), (0, x1), (0, x2)], [(0, r.2)], h')))) : WPc t11_forces (WPm gT d) F (8, [(2, 1), (0, x1), (0, x2)], [(0, s0)], hC w M n) :=
  vcK_ok (K := [8, 19, 22, 32, 44]) 29 _ q
set_option maxRecDepth 20000 in
theorem b11_forces_0 {w : cQ} {d : Nat} {F : mPost} {x1 x2 : Int} {M : Nat → Nat → Int} {n : Nat × Nat} (q : WPm gT d 91 [(2, 4), (0, x1)] (hC w M n) (fun r h' => WPc t11_forces (WPm gT d) F (8, [(2, 1), (0, x1), (0, x2)], [(0, r.2)], h'))) : WPc t11_forces (WPm gT d) F (0, [(2, 1), (0, x1), (0, x2)], [], hC w M n) :=
  vcK_ok (K := [8, 19, 22, 32, 44]) 29 _ q
set_option maxRecDepth 20000 in
theorem e11_forces {w : cQ} {d : Nat} {Φ : Int → (Nat → Nat → Int) → Prop} {x1 x2 : Int} {M : Nat → Nat → Int} {n : Nat × Nat} (q : CF d 91 [(2, 4), (0, x1)] w M n (fun r0 M1 => (r0 = 0 → Φ (-2) M1) ∧ (¬ (r0 = 0) → CF d 92 [(2, 4), (0, x2)] w M1 n (fun r1 M2 => (r1 ≠ 0 → CF d 1 [(2, 14)] w M2 n (fun _ M3 => CF d 2 [(2, 14), (0, x1), (0, x2), (0, m_shl 1 x1)] w M3 n (fun r3 M4 => Φ r3 M4))) ∧ (¬ (r1 ≠ 0) → Φ (-2) M2))))) : CF (d + 1) 152 [(2, 1), (0, x1), (0, x2)] w M n Φ :=
  WPm_in g11_forces (Nat.le_of_ble_eq_true rfl) (b11_forces_0 (WPm_mono gT d _ _ _ _ _ (fun r0 h' z0 => by obtain ⟨M1, rfl, z0⟩ := z0; exact (b11_forces_8 ⟨fun c1 => (WPc.kill [0, 1, 2] (b11_forces_22 (FFmk (z0.1 c1)))), fun c1 => (WPm_mono gT d _ _ _ _ _ (fun r1 h' z1 => by obtain ⟨M2, rfl, z1⟩ := z1; exact (b11_forces_19 ⟨fun c2 => (WPm_mono gT d _ _ _ _ _ (fun r2 h' z2 => by obtain ⟨M3, rfl, z2⟩ := z2; exact (b11_forces_32 (WPm_mono gT d _ _ _ _ _ (fun r3 h' z3 => by obtain ⟨M4, rfl, z3⟩ := z3; exact WPc.kill [0, 1, 2] (b11_forces_44 (FFmk z3))) z2))) (z1.1 c2)), fun c2 => (WPc.kill [0, 1, 2] (b11_forces_22 (FFmk (z1.2 c2))))⟩)) (z0.2 c1))⟩)) q))
set_option maxRecDepth 20000 in
theorem b11_power_61 {w : cQ} {d : Nat} {F : mPost} {x1 x2 x3 : Int} {M : Nat → Nat → Int} {n : Nat × Nat} (q : WPc t11_power (WPm gT d) F (25, [(2, 1), (0, x1), (0, x2), (0, w32 (x3 + 1))], [], hC w M n)) : WPc t11_power (WPm gT d) F (61, [(2, 1), (0, x1), (0, x2), (0, x3)], [], hC w M n) :=
  vcK_ok (K := [8, 21, 25, 51, 61]) 45 _ q
set_option maxRecDepth 20000 in
theorem b11_power_51 {w : cQ} {d : Nat} {F : mPost} {x1 x2 x3 s0 : Int} {M : Nat → Nat → Int} {n : Nat × Nat} (q : (s0 = (-1) → WPc t11_power (WPm gT d) F (61, [(2, 1), (0, x1), (0, x2), (0, x3)], [], hC w M n)) ∧ (¬ (s0 = (-1)) → WPc t11_power (WPm gT d) F (61, [(2, 1), (0, x1), (0, m_or x2 (m_shl 1 x3)), (0, x3)], [], hC w M n))) : WPc t11_power (WPm gT d) F (51, [(2, 1), (0, x1), (0, x2), (0, x3)], [(0, s0)], hC w M n) :=
  vcK_ok (K := [8, 21, 25, 51, 61]) 45 _ q
set_option maxRecDepth 20000 in
theorem b11_power_25 {w : cQ} {d : Nat} {F : mPost} {x1 x2 x3 : Int} {M : Nat → Nat → Int} {n : Nat × Nat} (q : ((M 29 1) ≤ x3 → F (0, x2) (hC w M n)) ∧ (¬ ((M 29 1) ≤ x3) → WPm gT d 2 [(2, 14), (0, x1), (0, x3), (0, m_shl 1 x1)] (hC w M n) (fun r h' => WPc t11_power (WPm gT d) F (51, [(2, 1), (0, x1), (0, x2), (0, x3)], [(0, r.2)], h')))) : WPc t11_power (WPm gT d) F (25, [(2, 1), (0, x1), (0, x2), (0, x3)], [], hC w M n) :=
  vcK_ok (K := [8, 21, 25, 51, 61]) 45 _ q
set_option maxRecDepth 20000 in
theorem b11_power_21 {w : cQ} {d : Nat} {F : mPost} {x1 : Int} {M : Nat → Nat → Int} {n : Nat × Nat} (q : WPc t11_power (WPm gT d) F (25, [(2, 1), (0, x1), (0, 0), (0, 0)], [], hC w M n)) : WPc t11_power (WPm gT d) F (21, [(2, 1), (0, x1), (9, 0), (9, 0)], [], hC w M n) :=
  vcK_ok (K := [8, 21, 25, 51, 61]) 45 _ q
set_option maxRecDepth 20000 in
theorem b11_power_8 {w : cQ} {d : Nat} {F : mPost} {x1 s0 : Int} {M : Nat → Nat → Int} {n : Nat × Nat} (q : (s0 ≠ 0 → WPm gT d 1 [(2, 14)] (hC w M n) (fun r h' => WPc t11_power (WPm gT d) F (21, [(2, 1), (0, x1), (9, 0), (9, 0)], [], h'))) ∧ (¬ (s0 ≠ 0) → F (0, (-2)) (hC w M n))) : WPc t11_power (WPm gT d) F (8, [(2, 1), (0, x1), (9, 0), (9, 0)], [(0, s0)], hC w M n) :=
  vcK_ok (K := [8, 21, 25, 51, 61]) 45 _ q
set_option maxRecDepth 20000 in
theorem b11_power_0 {w : cQ} {d : Nat} {F : mPost} {x1 : Int} {M : Nat → Nat → Int} {n : Nat × Nat} (q : WPm gT d 91 [(2, 4), (0, x1)] (hC w M n) (fun r h' => WPc t11_power (WPm gT d) F (8, [(2, 1), (0, x1), (9, 0), (9, 0)], [(0, r.2)], h'))) : WPc t11_power (WPm gT d) F (0, [(2, 1), (0, x1), (9, 0), (9, 0)], [], hC w M n) :=
  vcK_ok (K := [8, 21, 25, 51, 61]) 45 _ q
def W11_power_25 (d : Nat) (Φ : Int → (Nat → Nat → Int) → Prop) (x1 x2 x3 : Int) (w : cQ) (M : Nat → Nat → Int) (n : Nat × Nat) : Prop := WPc t11_power (WPm gT d) (FF Φ w n) (25, [(2, 1), (0, x1), (0, x2), (0, x3)], [], hC w M n)
set_option maxRecDepth 20000 in
theorem v11_power_25 {w : cQ} {d : Nat} {Φ : Int → (Nat → Nat → Int) → Prop} {x1 x2 x3 : Int} {M : Nat → Nat → Int} {n : Nat × Nat} (q : ((M 29 1) ≤ x3 → Φ x2 M) ∧ (¬ ((M 29 1) ≤ x3) → CF d 2 [(2, 14), (0, x1), (0, x3), (0, m_shl 1 x1)] w M n (fun r0 M1 => (r0 = (-1) → W11_power_25 d Φ x1 x2 (w32 (x3 + 1)) w M1 n) ∧ (¬ (r0 = (-1)) → W11_power_25 d Φ x1 (m_or x2 (m_shl 1 x3)) (w32 (x3 + 1)) w M1 n)))) : W11_power_25 d Φ x1 x2 x3 w M n :=
  b11_power_25 ⟨fun c1 => (FFmk (q.1 c1)), fun c1 => (WPm_mono gT d _ _ _ _ _ (fun r0 h' z0 => by obtain ⟨M1, rfl, z0⟩ := z0; exact (b11_power_51 ⟨fun c2 => (b11_power_61 (z0.1 c2)), fun c2 => (b11_power_61 (z0.2 c2))⟩)) (q.2 c1))⟩
set_option maxRecDepth 20000 in
theorem e11_power {w : cQ} {d : Nat} {Φ : Int → (Nat → Nat → Int) → Prop} {x1 : Int} {M : Nat → Nat → Int} {n : Nat × Nat} (q : CF d 91 [(2, 4), (0, x1)] w M n (fun r0 M1 => (r0 ≠ 0 → CF d 1 [(2, 14)] w M1 n (fun _ M2 => W11_power_25 d Φ x1 0 0 w M2 n)) ∧ (¬ (r0 ≠ 0) → Φ (-2) M1))) : CF (d + 1) 153 [(2, 1), (0, x1)] w M n Φ :=
  WPm_in g11_power (Nat.le_of_ble_eq_true rfl) (b11_power_0 (WPm_mono gT d _ _ _ _ _ (fun r0 h' z0 => by obtain ⟨M1, rfl, z0⟩ := z0; exact (b11_power_8 ⟨fun c3 => (WPm_mono gT d _ _ _ _ _ (fun r1 h' z1 => by obtain ⟨M2, rfl, z1⟩ := z1; exact (b11_power_21 z1)) (z0.1 c3)), fun c3 => (FFmk (z0.2 c3))⟩)) q))
