/-! ===== conditions of the reference's methods (printed by program) ===== -/
set_option maxRecDepth 20000 in
theorem b12_tell_39 {d : Nat} {F : mPost} {x4 : Int} {M : Nat → Nat → Int} {n : Nat × Nat} (q : F (0, x4) (hR M n)) : WPc t12_tell (WPm gT d) F (39, [(9, 0), (9, 0), (9, 0), (9, 0), (0, x4)], [], hR M n) :=
  vcK_ok (K := [13, 27, 33, 39]) 32 _ q
set_option maxRecDepth 20000 in
theorem b12_tell_33 {d : Nat} {F : mPost} {s0 : Int} {M : Nat → Nat → Int} {n : Nat × Nat} (q : WPm gT d 235 [(2, 1)] (hR M n) (fun r h' => WPc t12_tell (WPm gT d) F (39, [(2, 1), (9, 0), (9, 0), (9, 0), (0, s0)], [], h'))) : WPc t12_tell (WPm gT d) F (33, [(2, 1), (9, 0), (9, 0), (9, 0), (9, 0)], [(0, s0)], hR M n) :=
  vcK_ok (K := [13, 27, 33, 39]) 32 _ q
set_option maxRecDepth 20000 in
theorem b12_tell_27 {d : Nat} {F : mPost} {x1 x2 : Int} {M : Nat → Nat → Int} {n : Nat × Nat} (q : WPm gT d 237 [(2, 1), (0, x1), (0, x2)] (hR M n) (fun r h' => WPc t12_tell (WPm gT d) F (33, [(2, 1), (0, x1), (0, x2), (9, 0), (9, 0)], [(0, r.2)], h'))) : WPc t12_tell (WPm gT d) F (27, [(2, 1), (0, x1), (0, x2), (9, 0), (9, 0)], [], hR M n) :=
  vcK_ok (K := [13, 27, 33, 39]) 32 _ q
set_option maxRecDepth 20000 in
theorem b12_tell_13 {d : Nat} {F : mPost} {x1 x2 s0 : Int} {M : Nat → Nat → Int} {n : Nat × Nat} (q : (s0 = 0 → WPm gT d 233 [(2, 1)] (hR M n) (fun r h' => WPc t12_tell (WPm gT d) F (27, [(2, 1), (0, x1), (0, x2), (0, s0), (9, 0)], [], h'))) ∧ (¬ (s0 = 0) → F (0, w32 ((-10) - s0)) (hR M n))) : WPc t12_tell (WPm gT d) F (13, [(2, 1), (0, x1), (0, x2), (9, 0), (9, 0)], [(0, s0)], hR M n) :=
  vcK_ok (K := [13, 27, 33, 39]) 32 _ q
set_option maxRecDepth 20000 in
theorem b12_tell_0 {d : Nat} {F : mPost} {x1 x2 : Int} {M : Nat → Nat → Int} {n : Nat × Nat} (q : WPm gT d 236 [(2, 1), (1, x1), (1, x2)] (hR (sI M 1 0 0) n) (fun r h' => WPc t12_tell (WPm gT d) F (13, [(2, 1), (0, x1), (0, x2), (9, 0), (9, 0)], [(0, r.2)], h'))) : WPc t12_tell (WPm gT d) F (0, [(2, 1), (0, x1), (0, x2), (9, 0), (9, 0)], [], hR M n) :=
  vcK_ok (K := [13, 27, 33, 39]) 32 _ q
set_option maxRecDepth 20000 in
theorem e12_tell {d : Nat} {Φ : Int → (Nat → Nat → Int) → Prop} {x1 x2 : Int} {M : Nat → Nat → Int} {n : Nat × Nat} (q : CR d 236 [(2, 1), (1, x1), (1, x2)] (sI M 1 0 0) n (fun r0 M1 => (r0 = 0 → CR d 233 [(2, 1)] M1 n (fun _ M2 => CR d 237 [(2, 1), (0, x1), (0, x2)] M2 n (fun r2 M3 => CR d 235 [(2, 1)] M3 n (fun _ M4 => Φ r2 M4)))) ∧ (¬ (r0 = 0) → Φ (w32 ((-10) - r0)) M1))) : CR (d + 1) 239 [(2, 1), (0, x1), (0, x2)] M n Φ :=
  WPm_in g12_tell (Nat.le_of_ble_eq_true rfl) (b12_tell_0 (WPm_mono gT d _ _ _ _ _ (fun r0 h' z0 => by obtain ⟨M1, rfl, z0⟩ := z0; exact b12_tell_13 ⟨fun c1 => (WPm_mono gT d _ _ _ _ _ (fun r1 h' z1 => by obtain ⟨M2, rfl, z1⟩ := z1; exact WPc.kill [3] (b12_tell_27 (WPm_mono gT d _ _ _ _ _ (fun r2 h' z2 => by obtain ⟨M3, rfl, z2⟩ := z2; exact WPc.kill [1, 2, 3] (b12_tell_33 (WPm_mono gT d _ _ _ _ _ (fun r3 h' z3 => by obtain ⟨M4, rfl, z3⟩ := z3; exact WPc.kill [0, 1, 2, 3] (b12_tell_39 (FRmk z3))) z2))) z1))) (z0.1 c1)), fun c1 => (FRmk (z0.2 c1))⟩) q))
set_option maxRecDepth 20000 in
theorem b12_cut_38 {d : Nat} {F : mPost} {x1 : Int} {M : Nat → Nat → Int} {n : Nat × Nat} (q : ((0 : Int) ≤ 67 ∧ (67 : Int) < ((3792 : Nat) : Int)) ∧ (F (0, m_and (m_shr (M 2 67) x1) 1) (hR M n))) : WPc t12_cut (WPm gT d) F (38, [(2, 1), (0, x1)], [], hR M n) :=
  vcK_ok (K := [11, 21, 38]) 38 _ q
set_option maxRecDepth 20000 in
theorem b12_cut_21 {d : Nat} {F : mPost} {x1 : Int} {M : Nat → Nat → Int} {n : Nat × Nat} (q : ((0 : Int) ≤ 67 ∧ (67 : Int) < ((3792 : Nat) : Int)) ∧ (((0 : Int) ≤ 67 ∧ (67 : Int) < ((3792 : Nat) : Int) ∧ True) ∧ (WPm gT d 235 [(2, 1)] (hR (sI M 2 67 (m_xor (M 2 67) (m_shl 1 x1))) n) (fun r h' => WPc t12_cut (WPm gT d) F (38, [(2, 1), (0, x1)], [], h'))))) : WPc t12_cut (WPm gT d) F (21, [(2, 1), (0, x1)], [], hR M n) :=
  vcK_ok (K := [11, 21, 38]) 38 _ q
set_option maxRecDepth 20000 in
theorem b12_cut_11 {d : Nat} {F : mPost} {x1 s0 : Int} {M : Nat → Nat → Int} {n : Nat × Nat} (q : (s0 ≠ 0 → WPm gT d 233 [(2, 1)] (hR M n) (fun r h' => WPc t12_cut (WPm gT d) F (21, [(2, 1), (0, x1)], [], h'))) ∧ (¬ (s0 ≠ 0) → F (0, (-11)) (hR M n))) : WPc t12_cut (WPm gT d) F (11, [(2, 1), (0, x1)], [(0, s0)], hR M n) :=
  vcK_ok (K := [11, 21, 38]) 38 _ q
set_option maxRecDepth 20000 in
theorem b12_cut_0 {d : Nat} {F : mPost} {x1 : Int} {M : Nat → Nat → Int} {n : Nat × Nat} (q : WPm gT d 217 [(2, 1), (1, x1)] (hR (sI M 1 0 0) n) (fun r h' => WPc t12_cut (WPm gT d) F (11, [(2, 1), (0, x1)], [(0, r.2)], h'))) : WPc t12_cut (WPm gT d) F (0, [(2, 1), (0, x1)], [], hR M n) :=
  vcK_ok (K := [11, 21, 38]) 38 _ q
set_option maxRecDepth 20000 in
theorem e12_cut {d : Nat} {Φ : Int → (Nat → Nat → Int) → Prop} {x1 : Int} {M : Nat → Nat → Int} {n : Nat × Nat} (q : CR d 217 [(2, 1), (1, x1)] (sI M 1 0 0) n (fun r0 M1 => (r0 ≠ 0 → CR d 233 [(2, 1)] M1 n (fun _ M2 => CR d 235 [(2, 1)] (sI M2 2 67 (m_xor (M2 2 67) (m_shl 1 x1))) n (fun _ M3 => Φ (m_and (m_shr (M3 2 67) x1) 1) M3))) ∧ (¬ (r0 ≠ 0) → Φ (-11) M1))) : CR (d + 1) 240 [(2, 1), (0, x1)] M n Φ :=
  WPm_in g12_cut (Nat.le_of_ble_eq_true rfl) (b12_cut_0 (WPm_mono gT d _ _ _ _ _ (fun r0 h' z0 => by obtain ⟨M1, rfl, z0⟩ := z0; exact b12_cut_11 ⟨fun c1 => (WPm_mono gT d _ _ _ _ _ (fun r1 h' z1 => by obtain ⟨M2, rfl, z1⟩ := z1; exact b12_cut_21 ⟨by decide, ⟨by decide, (WPm_mono gT d _ _ _ _ _ (fun r2 h' z2 => by obtain ⟨M3, rfl, z2⟩ := z2; exact b12_cut_38 ⟨by decide, (FRmk z2)⟩) z1)⟩⟩) (z0.1 c1)), fun c1 => (FRmk (z0.2 c1))⟩) q))
set_option maxRecDepth 20000 in
theorem b12_mood_47 {d : Nat} {F : mPost} {x1 : Int} {M : Nat → Nat → Int} {n : Nat × Nat} (q : (0 ≤ (w32 (19 + x1)) ∧ (w32 (19 + x1)) < ((27 : Nat) : Int)) ∧ (F (0, M 8 (w32 (19 + x1)).toNat) (hR M n))) : WPc t12_mood (WPm gT d) F (47, [(2, 1), (0, x1), (9, 0)], [], hR M n) :=
  vcK_ok (K := [11, 23, 26, 33, 47]) 39 _ q
set_option maxRecDepth 20000 in
theorem b12_mood_33 {d : Nat} {F : mPost} {x1 x2 : Int} {M : Nat → Nat → Int} {n : Nat × Nat} (q : (0 ≤ (w32 (84 + x1)) ∧ (w32 (84 + x1)) < ((3792 : Nat) : Int) ∧ True) ∧ (WPm gT d 235 [(2, 1)] (hR (sI M 2 (w32 (84 + x1)).toNat x2) n) (fun r h' => WPc t12_mood (WPm gT d) F (47, [(2, 1), (0, x1), (0, x2)], [], h')))) : WPc t12_mood (WPm gT d) F (33, [(2, 1), (0, x1), (0, x2)], [], hR M n) :=
  vcK_ok (K := [11, 23, 26, 33, 47]) 39 _ q
set_option maxRecDepth 20000 in
theorem b12_mood_26 {d : Nat} {F : mPost} {M : Nat → Nat → Int} {n : Nat × Nat} (q : F (0, (-11)) (hR M n)) : WPc t12_mood (WPm gT d) F (26, [(9, 0), (9, 0), (9, 0)], [], hR M n) :=
  vcK_ok (K := [11, 23, 26, 33, 47]) 39 _ q
set_option maxRecDepth 20000 in
theorem b12_mood_23 {d : Nat} {F : mPost} {x1 x2 s0 : Int} {M : Nat → Nat → Int} {n : Nat × Nat} (q : (s0 ≠ 0 → WPm gT d 233 [(2, 1)] (hR M n) (fun r h' => WPc t12_mood (WPm gT d) F (33, [(2, 1), (0, x1), (0, x2)], [], h'))) ∧ (¬ (s0 ≠ 0) → WPc t12_mood (WPm gT d) F (26, [(2, 1), (0, x1), (0, x2)], [], hR M n))) : WPc t12_mood (WPm gT d) F (23, [(2, 1), (0, x1), (0, x2)], [(0, s0)], hR M n) :=
  vcK_ok (K := [11, 23, 26, 33, 47]) 39 _ q
set_option maxRecDepth 20000 in
theorem b12_mood_11 {d : Nat} {F : mPost} {x1 x2 s0 : Int} {M : Nat → Nat → Int} {n : Nat × Nat} (q : (s0 = 0 → WPc t12_mood (WPm gT d) F (26, [(2, 1), (0, x1), (0, x2)], [], hR M n)) ∧ (¬ (s0 = 0) → WPm gT d 182 [(1, x2), (1, 0), (1, 9)] (hR M n) (fun r h' => WPc t12_mood (WPm gT d) F (23, [(2, 1), (0, x1), (0, x2)], [(0, r.2)], h')))) : WPc t12_mood (WPm gT d) F (11, [(2, 1), (0, x1), (0, x2)], [(0, s0)], hR M n) :=
  vcK_ok (K := [11, 23, 26, 33, 47]) 39 _ q
set_option maxRecDepth 20000 in
theorem b12_mood_0 {d : Nat} {F : mPost} {x1 x2 : Int} {M : Nat → Nat → Int} {n : Nat × Nat} (q : WPm gT d 214 [(2, 1), (1, x1)] (hR (sI M 1 0 0) n) (fun r h' => WPc t12_mood (WPm gT d) F (11, [(2, 1), (0, x1), (0, x2)], [(0, r.2)], h'))) : WPc t12_mood (WPm gT d) F (0, [(2, 1), (0, x1), (0, x2)], [], hR M n) :=
  vcK_ok (K := [11, 23, 26, 33, 47]) 39 _ q
set_option maxRecDepth 20000 in
theorem e12_mood {d : Nat} {Φ : Int → (Nat → Nat → Int) → Prop} {x1 x2 : Int} {M : Nat → Nat → Int} {n : Nat × Nat} (q : CR d 214 [(2, 1), (1, x1)] (sI M 1 0 0) n (fun r0 M1 => (r0 = 0 → Φ (-11) M1) ∧ (¬ (r0 = 0) → CR d 182 [(1, x2), (1, 0), (1, 9)] M1 n (fun r1 M2 => (r1 ≠ 0 → CR d 233 [(2, 1)] M2 n (fun _ M3 => (0 ≤ (w32 (84 + x1)) ∧ (w32 (84 + x1)) < ((3792 : Nat) : Int) ∧ True) ∧ (CR d 235 [(2, 1)] (sI M3 2 (w32 (84 + x1)).toNat x2) n (fun _ M4 => (0 ≤ (w32 (19 + x1)) ∧ (w32 (19 + x1)) < ((27 : Nat) : Int)) ∧ (Φ (M4 8 (w32 (19 + x1)).toNat) M4))))) ∧ (¬ (r1 ≠ 0) → Φ (-11) M2))))) : CR (d + 1) 241 [(2, 1), (0, x1), (0, x2)] M n Φ :=
  WPm_in g12_mood (Nat.le_of_ble_eq_true rfl) (b12_mood_0 (WPm_mono gT d _ _ _ _ _ (fun r0 h' z0 => by obtain ⟨M1, rfl, z0⟩ := z0; exact b12_mood_11 ⟨fun c1 => (WPc.kill [0, 1, 2] (b12_mood_26 (FRmk (z0.1 c1)))), fun c1 => (WPm_mono gT d _ _ _ _ _ (fun r1 h' z1 => by obtain ⟨M2, rfl, z1⟩ := z1; exact b12_mood_23 ⟨fun c2 => (WPm_mono gT d _ _ _ _ _ (fun r2 h' z2 => by obtain ⟨M3, rfl, z2⟩ := z2; exact b12_mood_33 ⟨z2.1, (WPm_mono gT d _ _ _ _ _ (fun r3 h' z3 => by obtain ⟨M4, rfl, z3⟩ := z3; exact WPc.kill [2] (b12_mood_47 ⟨z3.1, (FRmk z3.2)⟩)) z2.2)⟩) (z1.1 c2)), fun c2 => (WPc.kill [0, 1, 2] (b12_mood_26 (FRmk (z1.2 c2))))⟩) (z0.2 c1))⟩) q))
set_option maxRecDepth 20000 in
theorem b12_go_50 {d : Nat} {F : mPost} {x2 : Int} {M : Nat → Nat → Int} {n : Nat × Nat} (q : F (0, x2) (hR M n)) : WPc t12_go (WPm gT d) F (50, [(9, 0), (9, 0), (0, x2), (9, 0)], [], hR M n) :=
  vcK_ok (K := [14, 24, 28, 38, 50]) 36 _ q
set_option maxRecDepth 20000 in
theorem b12_go_38 {d : Nat} {F : mPost} {x1 x3 s0 s1 : Int} {M : Nat → Nat → Int} {n : Nat × Nat} (q : WPc t12_go (WPm gT d) F (28, [(2, 1), (0, x1), (0, w32 (s0 + s1)), (0, w32 (x3 + 1))], [], hR M n)) : WPc t12_go (WPm gT d) F (38, [(2, 1), (0, x1), (9, 0), (0, x3)], [(0, s1), (0, s0)], hR M n) :=
  vcK_ok (K := [14, 24, 28, 38, 50]) 36 _ q
set_option maxRecDepth 20000 in
theorem b12_go_28 {d : Nat} {F : mPost} {x1 x2 x3 : Int} {M : Nat → Nat → Int} {n : Nat × Nat} (q : (x1 ≤ x3 → WPm gT d 235 [(2, 1)] (hR M n) (fun r h' => WPc t12_go (WPm gT d) F (50, [(2, 1), (0, x1), (0, x2), (0, x3)], [], h'))) ∧ (¬ (x1 ≤ x3) → WPm gT d 238 [(2, 1)] (hR M n) (fun r h' => WPc t12_go (WPm gT d) F (38, [(2, 1), (0, x1), (0, x2), (0, x3)], [(0, r.2), (0, x2)], h')))) : WPc t12_go (WPm gT d) F (28, [(2, 1), (0, x1), (0, x2), (0, x3)], [], hR M n) :=
  vcK_ok (K := [14, 24, 28, 38, 50]) 36 _ q
set_option maxRecDepth 20000 in
theorem b12_go_24 {d : Nat} {F : mPost} {x1 : Int} {M : Nat → Nat → Int} {n : Nat × Nat} (q : WPc t12_go (WPm gT d) F (28, [(2, 1), (0, x1), (0, 0), (0, 0)], [], hR M n)) : WPc t12_go (WPm gT d) F (24, [(2, 1), (0, x1), (9, 0), (9, 0)], [], hR M n) :=
  vcK_ok (K := [14, 24, 28, 38, 50]) 36 _ q
set_option maxRecDepth 20000 in
theorem b12_go_14 {d : Nat} {F : mPost} {x1 s0 : Int} {M : Nat → Nat → Int} {n : Nat × Nat} (q : (s0 ≠ 0 → WPm gT d 233 [(2, 1)] (hR M n) (fun r h' => WPc t12_go (WPm gT d) F (24, [(2, 1), (0, x1), (9, 0), (9, 0)], [], h'))) ∧ (¬ (s0 ≠ 0) → F (0, (-3)) (hR M n))) : WPc t12_go (WPm gT d) F (14, [(2, 1), (0, x1), (9, 0), (9, 0)], [(0, s0)], hR M n) :=
  vcK_ok (K := [14, 24, 28, 38, 50]) 36 _ q
set_option maxRecDepth 20000 in
theorem b12_go_0 {d : Nat} {F : mPost} {x1 : Int} {M : Nat → Nat → Int} {n : Nat × Nat} (q : WPm gT d 182 [(1, x1), (1, 1), (1, 99)] (hR (sI M 1 0 0) n) (fun r h' => WPc t12_go (WPm gT d) F (14, [(2, 1), (0, x1), (9, 0), (9, 0)], [(0, r.2)], h'))) : WPc t12_go (WPm gT d) F (0, [(2, 1), (0, x1), (9, 0), (9, 0)], [], hR M n) :=
  vcK_ok (K := [14, 24, 28, 38, 50]) 36 _ q
def W12_go_28 (d : Nat) (n : Nat × Nat) (Φ : Int → (Nat → Nat → Int) → Prop) (x1 x2 x3 : Int) (M : Nat → Nat → Int) : Prop := WPc t12_go (WPm gT d) (FR Φ n) (28, [(2, 1), (0, x1), (0, x2), (0, x3)], [], hR M n)
set_option maxRecDepth 20000 in
theorem v12_go_28 {d : Nat} {Φ : Int → (Nat → Nat → Int) → Prop} {x1 x2 x3 : Int} {M : Nat → Nat → Int} {n : Nat × Nat} (q : (x1 ≤ x3 → CR d 235 [(2, 1)] M n (fun _ M1 => Φ x2 M1)) ∧ (¬ (x1 ≤ x3) → CR d 238 [(2, 1)] M n (fun r0 M1 => W12_go_28 d n Φ x1 (w32 (x2 + r0)) (w32 (x3 + 1)) M1))) : W12_go_28 d n Φ x1 x2 x3 M :=
  b12_go_28 ⟨fun c1 => (WPm_mono gT d _ _ _ _ _ (fun r0 h' z0 => by obtain ⟨M1, rfl, z0⟩ := z0; exact WPc.kill [0, 1, 3] (b12_go_50 (FRmk z0))) (q.1 c1)), fun c1 => (WPm_mono gT d _ _ _ _ _ (fun r0 h' z0 => by obtain ⟨M1, rfl, z0⟩ := z0; exact WPc.kill [2] (b12_go_38 z0)) (q.2 c1))⟩
set_option maxRecDepth 20000 in
theorem e12_go {d : Nat} {Φ : Int → (Nat → Nat → Int) → Prop} {x1 : Int} {M : Nat → Nat → Int} {n : Nat × Nat} (q : CR d 182 [(1, x1), (1, 1), (1, 99)] (sI M 1 0 0) n (fun r0 M1 => (r0 ≠ 0 → CR d 233 [(2, 1)] M1 n (fun _ M2 => W12_go_28 d n Φ x1 0 0 M2)) ∧ (¬ (r0 ≠ 0) → Φ (-3) M1))) : CR (d + 1) 242 [(2, 1), (0, x1)] M n Φ :=
  WPm_in g12_go (Nat.le_of_ble_eq_true rfl) (b12_go_0 (WPm_mono gT d _ _ _ _ _ (fun r0 h' z0 => by obtain ⟨M1, rfl, z0⟩ := z0; exact b12_go_14 ⟨fun c2 => (WPm_mono gT d _ _ _ _ _ (fun r1 h' z1 => by obtain ⟨M2, rfl, z1⟩ := z1; exact b12_go_24 z1) (z0.1 c2)), fun c2 => (FRmk (z0.2 c2))⟩) q))
set_option maxRecDepth 20000 in
theorem b12_undo_79 {d : Nat} {F : mPost} {x2 : Int} {M : Nat → Nat → Int} {n : Nat × Nat} (q : WPc t12_undo (WPm gT d) F (44, [(2, 1), (9, 0), (0, w32 (x2 + 1))], [], hR M n)) : WPc t12_undo (WPm gT d) F (79, [(2, 1), (9, 0), (0, x2)], [], hR M n) :=
  vcK_ok (K := [14, 28, 44, 79]) 61 _ q
set_option maxRecDepth 20000 in
theorem b12_undo_44 {d : Nat} {F : mPost} {x2 : Int} {M : Nat → Nat → Int} {n : Nat × Nat} (q : (27 ≤ x2 → ((0 : Int) ≤ 92 ∧ (92 : Int) < ((3792 : Nat) : Int)) ∧ (F (0, M 2 92) (hR M n))) ∧ (¬ (27 ≤ x2) → ((0 : Int) ≤ 92 ∧ (92 : Int) < ((3792 : Nat) : Int)) ∧ ((0 ≤ (w32 ((w32 (93 + (w32 (27 * (M 2 92))))) + x2)) ∧ (w32 ((w32 (93 + (w32 (27 * (M 2 92))))) + x2)) < ((3792 : Nat) : Int)) ∧ ((0 ≤ (w32 (65 + x2)) ∧ (w32 (65 + x2)) < ((3792 : Nat) : Int) ∧ True) ∧ (WPc t12_undo (WPm gT d) F (79, [(2, 1), (9, 0), (0, x2)], [], hR (sI M 2 (w32 (65 + x2)).toNat (M 2 (w32 ((w32 (93 + (w32 (27 * (M 2 92))))) + x2)).toNat)) n)))))) : WPc t12_undo (WPm gT d) F (44, [(2, 1), (9, 0), (0, x2)], [], hR M n) :=
  vcK_ok (K := [14, 28, 44, 79]) 61 _ q
set_option maxRecDepth 20000 in
theorem b12_undo_28 {d : Nat} {F : mPost} {M : Nat → Nat → Int} {n : Nat × Nat} (q : F (0, (-3)) (hR M n)) : WPc t12_undo (WPm gT d) F (28, [(9, 0), (9, 0), (9, 0)], [], hR M n) :=
  vcK_ok (K := [14, 28, 44, 79]) 61 _ q
set_option maxRecDepth 20000 in
theorem b12_undo_14 {d : Nat} {F : mPost} {x1 s0 : Int} {M : Nat → Nat → Int} {n : Nat × Nat} (q : (s0 = 0 → WPc t12_undo (WPm gT d) F (28, [(2, 1), (0, x1), (9, 0)], [], hR M n)) ∧ (¬ (s0 = 0) → ((0 : Int) ≤ 92 ∧ (92 : Int) < ((3792 : Nat) : Int)) ∧ ((x1 ≤ (M 2 92) → ((0 : Int) ≤ 92 ∧ (92 : Int) < ((3792 : Nat) : Int)) ∧ (((0 : Int) ≤ 92 ∧ (92 : Int) < ((3792 : Nat) : Int) ∧ True) ∧ (WPc t12_undo (WPm gT d) F (44, [(2, 1), (0, x1), (0, 0)], [], hR (sI M 2 92 (w32 ((M 2 92) - x1))) n)))) ∧ (¬ (x1 ≤ (M 2 92)) → WPc t12_undo (WPm gT d) F (28, [(2, 1), (0, x1), (9, 0)], [], hR M n))))) : WPc t12_undo (WPm gT d) F (14, [(2, 1), (0, x1), (9, 0)], [(0, s0)], hR M n) :=
  vcK_ok (K := [14, 28, 44, 79]) 61 _ q
set_option maxRecDepth 20000 in
theorem b12_undo_0 {d : Nat} {F : mPost} {x1 : Int} {M : Nat → Nat → Int} {n : Nat × Nat} (q : WPm gT d 182 [(1, x1), (1, 1), (1, 10)] (hR (sI M 1 0 0) n) (fun r h' => WPc t12_undo (WPm gT d) F (14, [(2, 1), (0, x1), (9, 0)], [(0, r.2)], h'))) : WPc t12_undo (WPm gT d) F (0, [(2, 1), (0, x1), (9, 0)], [], hR M n) :=
  vcK_ok (K := [14, 28, 44, 79]) 61 _ q
def W12_undo_44 (d : Nat) (n : Nat × Nat) (Φ : Int → (Nat → Nat → Int) → Prop) (x2 : Int) (M : Nat → Nat → Int) : Prop := WPc t12_undo (WPm gT d) (FR Φ n) (44, [(2, 1), (9, 0), (0, x2)], [], hR M n)
set_option maxRecDepth 20000 in
theorem v12_undo_44 {d : Nat} {Φ : Int → (Nat → Nat → Int) → Prop} {x2 : Int} {M : Nat → Nat → Int} {n : Nat × Nat} (q : (27 ≤ x2 → Φ (M 2 92) M) ∧ (¬ (27 ≤ x2) → (0 ≤ (w32 ((w32 (93 + (w32 (27 * (M 2 92))))) + x2)) ∧ (w32 ((w32 (93 + (w32 (27 * (M 2 92))))) + x2)) < ((3792 : Nat) : Int)) ∧ ((0 ≤ (w32 (65 + x2)) ∧ (w32 (65 + x2)) < ((3792 : Nat) : Int) ∧ True) ∧ (W12_undo_44 d n Φ (w32 (x2 + 1)) (sI M 2 (w32 (65 + x2)).toNat (M 2 (w32 ((w32 (93 + (w32 (27 * (M 2 92))))) + x2)).toNat)))))) : W12_undo_44 d n Φ x2 M :=
  b12_undo_44 ⟨fun c1 => ⟨by decide, (FRmk (q.1 c1))⟩, fun c1 => ⟨by decide, ⟨(q.2 c1).1, ⟨(q.2 c1).2.1, (b12_undo_79 (q.2 c1).2.2)⟩⟩⟩⟩
set_option maxRecDepth 20000 in
theorem e12_undo {d : Nat} {Φ : Int → (Nat → Nat → Int) → Prop} {x1 : Int} {M : Nat → Nat → Int} {n : Nat × Nat} (q : CR d 182 [(1, x1), (1, 1), (1, 10)] (sI M 1 0 0) n (fun r0 M1 => (r0 = 0 → Φ (-3) M1) ∧ (¬ (r0 = 0) → (x1 ≤ (M1 2 92) → W12_undo_44 d n Φ 0 (sI M1 2 92 (w32 ((M1 2 92) - x1)))) ∧ (¬ (x1 ≤ (M1 2 92)) → Φ (-3) M1)))) : CR (d + 1) 243 [(2, 1), (0, x1)] M n Φ :=
  WPm_in g12_undo (Nat.le_of_ble_eq_true rfl) (b12_undo_0 (WPm_mono gT d _ _ _ _ _ (fun r0 h' z0 => by obtain ⟨M1, rfl, z0⟩ := z0; exact b12_undo_14 ⟨fun c2 => (WPc.kill [0, 1] (b12_undo_28 (FRmk (z0.1 c2)))), fun c2 => ⟨by decide, ⟨fun c3 => ⟨by decide, ⟨by decide, (WPc.kill [1] ((z0.2 c2).1 c3))⟩⟩, fun c3 => (WPc.kill [0, 1] (b12_undo_28 (FRmk ((z0.2 c2).2 c3))))⟩⟩⟩) q))
set_option maxRecDepth 20000 in
theorem b12_whyNot_101 {d : Nat} {F : mPost} {s0 : Int} {M : Nat → Nat → Int} {n : Nat × Nat} (q : F (0, s0) (hR M n)) : WPc t12_whyNot (WPm gT d) F (101, [(9, 0), (9, 0), (9, 0)], [(0, s0)], hR M n) :=
  vcK_ok (K := [18, 35, 46, 58, 66, 77, 93, 100, 101]) 57 _ q
set_option maxRecDepth 20000 in
theorem b12_whyNot_100 {d : Nat} {F : mPost} {M : Nat → Nat → Int} {n : Nat × Nat} (q : WPc t12_whyNot (WPm gT d) F (101, [(9, 0), (9, 0), (9, 0)], [(0, 1)], hR M n)) : WPc t12_whyNot (WPm gT d) F (100, [(9, 0), (9, 0), (9, 0)], [], hR M n) :=
  vcK_ok (K := [18, 35, 46, 58, 66, 77, 93, 100, 101]) 57 _ q
set_option maxRecDepth 20000 in
theorem b12_whyNot_93 {d : Nat} {F : mPost} {s0 : Int} {M : Nat → Nat → Int} {n : Nat × Nat} (q : (s0 = 0 → WPc t12_whyNot (WPm gT d) F (100, [(9, 0), (9, 0), (9, 0)], [], hR M n)) ∧ (¬ (s0 = 0) → WPc t12_whyNot (WPm gT d) F (101, [(9, 0), (9, 0), (9, 0)], [(0, 0)], hR M n))) : WPc t12_whyNot (WPm gT d) F (93, [(9, 0), (9, 0), (9, 0)], [(0, s0)], hR M n) :=
  vcK_ok (K := [18, 35, 46, 58, 66, 77, 93, 100, 101]) 57 _ q
set_option maxRecDepth 20000 in
theorem b12_whyNot_77 {d : Nat} {F : mPost} {x1 s0 : Int} {M : Nat → Nat → Int} {n : Nat × Nat} (q : (s0 = 0 → WPc t12_whyNot (WPm gT d) F (100, [(2, 1), (1, x1), (9, 0)], [], hR M n)) ∧ (¬ (s0 = 0) → ((10 : Int) ≠ 0) ∧ (WPm gT d 214 [(2, 1), (1, l_div (w64 (x1 - 2000)) 10)] (hR M n) (fun r h' => WPc t12_whyNot (WPm gT d) F (93, [(2, 1), (1, x1), (9, 0)], [(0, r.2)], h'))))) : WPc t12_whyNot (WPm gT d) F (77, [(2, 1), (1, x1), (9, 0)], [(0, s0)], hR M n) :=
  vcK_ok (K := [18, 35, 46, 58, 66, 77, 93, 100, 101]) 57 _ q
set_option maxRecDepth 20000 in
theorem b12_whyNot_66 {d : Nat} {F : mPost} {s0 : Int} {M : Nat → Nat → Int} {n : Nat × Nat} (q : F (0, s0) (hR M n)) : WPc t12_whyNot (WPm gT d) F (66, [(9, 0), (9, 0), (9, 0)], [(0, s0)], hR M n) :=
  vcK_ok (K := [18, 35, 46, 58, 66, 77, 93, 100, 101]) 57 _ q
set_option maxRecDepth 20000 in
theorem b12_whyNot_58 {d : Nat} {F : mPost} {s0 : Int} {M : Nat → Nat → Int} {n : Nat × Nat} (q : (s0 = 0 → WPc t12_whyNot (WPm gT d) F (66, [(9, 0), (9, 0), (9, 0)], [(0, 1)], hR M n)) ∧ (¬ (s0 = 0) → WPc t12_whyNot (WPm gT d) F (66, [(9, 0), (9, 0), (9, 0)], [(0, 0)], hR M n))) : WPc t12_whyNot (WPm gT d) F (58, [(9, 0), (9, 0), (9, 0)], [(0, s0)], hR M n) :=
  vcK_ok (K := [18, 35, 46, 58, 66, 77, 93, 100, 101]) 57 _ q
set_option maxRecDepth 20000 in
theorem b12_whyNot_46 {d : Nat} {F : mPost} {x1 s0 : Int} {M : Nat → Nat → Int} {n : Nat × Nat} (q : (s0 = 0 → WPm gT d 182 [(1, x1), (1, 2000), (1, 2099)] (hR M n) (fun r h' => WPc t12_whyNot (WPm gT d) F (77, [(2, 1), (1, x1), (9, 0)], [(0, r.2)], h'))) ∧ (¬ (s0 = 0) → WPm gT d 217 [(2, 1), (1, w64 (x1 - 1000))] (hR M n) (fun r h' => WPc t12_whyNot (WPm gT d) F (58, [(2, 1), (1, x1), (9, 0)], [(0, r.2)], h')))) : WPc t12_whyNot (WPm gT d) F (46, [(2, 1), (1, x1), (9, 0)], [(0, s0)], hR M n) :=
  vcK_ok (K := [18, 35, 46, 58, 66, 77, 93, 100, 101]) 57 _ q
set_option maxRecDepth 20000 in
theorem b12_whyNot_35 {d : Nat} {F : mPost} {s0 : Int} {M : Nat → Nat → Int} {n : Nat × Nat} (q : F (0, s0) (hR M n)) : WPc t12_whyNot (WPm gT d) F (35, [(9, 0), (9, 0), (9, 0)], [(0, s0)], hR M n) :=
  vcK_ok (K := [18, 35, 46, 58, 66, 77, 93, 100, 101]) 57 _ q
set_option maxRecDepth 20000 in
theorem b12_whyNot_18 {d : Nat} {F : mPost} {x1 s0 : Int} {M : Nat → Nat → Int} {n : Nat × Nat} (q : (s0 = 0 → WPm gT d 182 [(1, x1), (1, 1000), (1, 1009)] (hR M n) (fun r h' => WPc t12_whyNot (WPm gT d) F (46, [(2, 1), (1, x1), (9, 0)], [(0, r.2)], h'))) ∧ (¬ (s0 = 0) → ((100 : Int) ≠ 0) ∧ (((100 : Int) ≠ 0) ∧ (WPm gT d 236 [(2, 1), (1, l_div x1 100), (1, l_rem x1 100)] (hR M n) (fun r h' => WPc t12_whyNot (WPm gT d) F (35, [(2, 1), (1, x1), (9, 0)], [(0, r.2)], h')))))) : WPc t12_whyNot (WPm gT d) F (18, [(2, 1), (1, x1), (9, 0)], [(0, s0)], hR M n) :=
  vcK_ok (K := [18, 35, 46, 58, 66, 77, 93, 100, 101]) 57 _ q
set_option maxRecDepth 20000 in
theorem b12_whyNot_0 {d : Nat} {F : mPost} {x1 : Int} {M : Nat → Nat → Int} {n : Nat × Nat} (q : ((m_cmp x1 (-1)) ≠ 0 → WPm gT d 182 [(1, x1), (1, 0), (1, 899)] (hR M n) (fun r h' => WPc t12_whyNot (WPm gT d) F (18, [(2, 1), (1, x1), (9, 0)], [(0, r.2)], h'))) ∧ (¬ ((m_cmp x1 (-1)) ≠ 0) → F (0, 0) (hR M n))) : WPc t12_whyNot (WPm gT d) F (0, [(2, 1), (1, x1), (9, 0)], [], hR M n) :=
  vcK_ok (K := [18, 35, 46, 58, 66, 77, 93, 100, 101]) 57 _ q
set_option maxRecDepth 20000 in
theorem e12_whyNot {d : Nat} {Φ : Int → (Nat → Nat → Int) → Prop} {x1 : Int} {M : Nat → Nat → Int} {n : Nat × Nat} (q : ((m_cmp x1 (-1)) ≠ 0 → CR d 182 [(1, x1), (1, 0), (1, 899)] M n (fun r0 M1 => (r0 = 0 → CR d 182 [(1, x1), (1, 1000), (1, 1009)] M1 n (fun r1 M2 => (r1 = 0 → CR d 182 [(1, x1), (1, 2000), (1, 2099)] M2 n (fun r2 M3 => (r2 = 0 → Φ 1 M3) ∧ (¬ (r2 = 0) → CR d 214 [(2, 1), (1, l_div (w64 (x1 - 2000)) 10)] M3 n (fun r3 M4 => (r3 = 0 → Φ 1 M4) ∧ (¬ (r3 = 0) → Φ 0 M4))))) ∧ (¬ (r1 = 0) → CR d 217 [(2, 1), (1, w64 (x1 - 1000))] M2 n (fun r2 M3 => (r2 = 0 → Φ 1 M3) ∧ (¬ (r2 = 0) → Φ 0 M3))))) ∧ (¬ (r0 = 0) → CR d 236 [(2, 1), (1, l_div x1 100), (1, l_rem x1 100)] M1 n (fun r1 M2 => Φ r1 M2)))) ∧ (¬ ((m_cmp x1 (-1)) ≠ 0) → Φ 0 M)) : CR (d + 1) 244 [(2, 1), (1, x1)] M n Φ :=
  WPm_in g12_whyNot (Nat.le_of_ble_eq_true rfl) (b12_whyNot_0 ⟨fun c1 => (WPm_mono gT d _ _ _ _ _ (fun r0 h' z0 => by obtain ⟨M1, rfl, z0⟩ := z0; exact b12_whyNot_18 ⟨fun c2 => (WPm_mono gT d _ _ _ _ _ (fun r1 h' z1 => by obtain ⟨M2, rfl, z1⟩ := z1; exact b12_whyNot_46 ⟨fun c3 => (WPm_mono gT d _ _ _ _ _ (fun r2 h' z2 => by obtain ⟨M3, rfl, z2⟩ := z2; exact b12_whyNot_77 ⟨fun c4 => (WPc.kill [0, 1] (b12_whyNot_100 (WPc.kill [0, 1] (b12_whyNot_101 (FRmk (z2.1 c4)))))), fun c4 => ⟨by decide, (WPm_mono gT d _ _ _ _ _ (fun r3 h' z3 => by obtain ⟨M4, rfl, z3⟩ := z3; exact WPc.kill [0, 1] (b12_whyNot_93 ⟨fun c5 => (WPc.kill [0, 1] (b12_whyNot_100 (WPc.kill [0, 1] (b12_whyNot_101 (FRmk (z3.1 c5)))))), fun c5 => (WPc.kill [0, 1] (b12_whyNot_101 (FRmk (z3.2 c5))))⟩)) (z2.2 c4))⟩⟩) (z1.1 c3)), fun c3 => (WPm_mono gT d _ _ _ _ _ (fun r2 h' z2 => by obtain ⟨M3, rfl, z2⟩ := z2; exact WPc.kill [0, 1] (b12_whyNot_58 ⟨fun c6 => (WPc.kill [0, 1] (b12_whyNot_66 (FRmk (z2.1 c6)))), fun c6 => (WPc.kill [0, 1] (b12_whyNot_66 (FRmk (z2.2 c6))))⟩)) (z1.2 c3))⟩) (z0.1 c2)), fun c2 => ⟨by decide, ⟨by decide, (WPm_mono gT d _ _ _ _ _ (fun r1 h' z1 => by obtain ⟨M2, rfl, z1⟩ := z1; exact WPc.kill [0, 1] (b12_whyNot_35 (FRmk z1))) (z0.2 c2))⟩⟩⟩) (q.1 c1)), fun c1 => (FRmk (q.2 c1))⟩)
set_option maxRecDepth 20000 in
theorem b12_does_83 {d : Nat} {F : mPost} {M : Nat → Nat → Int} {n : Nat × Nat} (q : F (9, 0) (hR M n)) : WPc t12_does (WPm gT d) F (83, [(9, 0), (9, 0)], [], hR M n) :=
  vcK_ok (K := [9, 32, 60, 83]) 55 _ q
set_option maxRecDepth 20000 in
theorem b12_does_60 {d : Nat} {F : mPost} {M : Nat → Nat → Int} {n : Nat × Nat} (q : WPc t12_does (WPm gT d) F (83, [(9, 0), (9, 0)], [], hR M n)) : WPc t12_does (WPm gT d) F (60, [(9, 0), (9, 0)], [], hR M n) :=
  vcK_ok (K := [9, 32, 60, 83]) 55 _ q
set_option maxRecDepth 20000 in
theorem b12_does_32 {d : Nat} {F : mPost} {s0 : Int} {M : Nat → Nat → Int} {n : Nat × Nat} (q : WPc t12_does (WPm gT d) F (83, [(9, 0), (9, 0)], [], hR M n)) : WPc t12_does (WPm gT d) F (32, [(9, 0), (9, 0)], [(0, s0)], hR M n) :=
  vcK_ok (K := [9, 32, 60, 83]) 55 _ q
set_option maxRecDepth 20000 in
theorem b12_does_9 {d : Nat} {F : mPost} {s0 : Int} {M : Nat → Nat → Int} {n : Nat × Nat} (q : WPc t12_does (WPm gT d) F (83, [(9, 0), (9, 0)], [], hR M n)) : WPc t12_does (WPm gT d) F (9, [(9, 0), (9, 0)], [(0, s0)], hR M n) :=
  vcK_ok (K := [9, 32, 60, 83]) 55 _ q
set_option maxRecDepth 20000 in
theorem b12_does_0 {d : Nat} {F : mPost} {x1 : Int} {M : Nat → Nat → Int} {n : Nat × Nat} (q : (x1 ≠ (-1) → (1000 ≤ x1 → (2000 ≤ x1 → ((10 : Int) ≠ 0) ∧ (((10 : Int) ≠ 0) ∧ ((0 ≤ (w32 (84 + (m_div (w32 (x1 - 2000)) 10))) ∧ (w32 (84 + (m_div (w32 (x1 - 2000)) 10))) < ((3792 : Nat) : Int) ∧ True) ∧ (WPc t12_does (WPm gT d) F (83, [(2, 1), (0, x1)], [], hR (sI M 2 (w32 (84 + (m_div (w32 (x1 - 2000)) 10))).toNat (m_rem x1 10)) n))))) ∧ (¬ (2000 ≤ x1) → ((0 : Int) ≤ 67 ∧ (67 : Int) < ((3792 : Nat) : Int)) ∧ (((0 : Int) ≤ 67 ∧ (67 : Int) < ((3792 : Nat) : Int) ∧ True) ∧ (WPc t12_does (WPm gT d) F (60, [(2, 1), (0, x1)], [], hR (sI M 2 67 (m_xor (M 2 67) (m_shl 1 (w32 (x1 - 1000))))) n))))) ∧ (¬ (1000 ≤ x1) → ((100 : Int) ≠ 0) ∧ (((100 : Int) ≠ 0) ∧ (WPm gT d 237 [(2, 1), (0, m_div x1 100), (0, m_rem x1 100)] (hR M n) (fun r h' => WPc t12_does (WPm gT d) F (32, [(2, 1), (0, x1)], [(0, r.2)], h')))))) ∧ (¬ (x1 ≠ (-1)) → WPm gT d 238 [(2, 1)] (hR M n) (fun r h' => WPc t12_does (WPm gT d) F (9, [(2, 1), (0, x1)], [(0, r.2)], h')))) : WPc t12_does (WPm gT d) F (0, [(2, 1), (0, x1)], [], hR M n) :=
  vcK_ok (K := [9, 32, 60, 83]) 55 _ q
set_option maxRecDepth 20000 in
theorem e12_does {d : Nat} {Φ : Int → (Nat → Nat → Int) → Prop} {x1 : Int} {M : Nat → Nat → Int} {n : Nat × Nat} (q : (x1 ≠ (-1) → (1000 ≤ x1 → (2000 ≤ x1 → (0 ≤ (w32 (84 + (m_div (w32 (x1 - 2000)) 10))) ∧ (w32 (84 + (m_div (w32 (x1 - 2000)) 10))) < ((3792 : Nat) : Int) ∧ True) ∧ (Φ 0 (sI M 2 (w32 (84 + (m_div (w32 (x1 - 2000)) 10))).toNat (m_rem x1 10)))) ∧ (¬ (2000 ≤ x1) → Φ 0 (sI M 2 67 (m_xor (M 2 67) (m_shl 1 (w32 (x1 - 1000))))))) ∧ (¬ (1000 ≤ x1) → CR d 237 [(2, 1), (0, m_div x1 100), (0, m_rem x1 100)] M n (fun r0 M1 => Φ 0 M1))) ∧ (¬ (x1 ≠ (-1)) → CR d 238 [(2, 1)] M n (fun r0 M1 => Φ 0 M1))) : CR (d + 1) 245 [(2, 1), (0, x1)] M n Φ :=
  WPm_in g12_does (Nat.le_of_ble_eq_true rfl) (b12_does_0 ⟨fun c1 => ⟨fun c2 => ⟨fun c3 => ⟨by decide, ⟨by decide, ⟨(((q.1 c1).1 c2).1 c3).1, (WPc.kill [0, 1] (b12_does_83 (FRmk (((q.1 c1).1 c2).1 c3).2)))⟩⟩⟩, fun c3 => ⟨by decide, ⟨by decide, (WPc.kill [0, 1] (b12_does_60 (WPc.kill [0, 1] (b12_does_83 (FRmk (((q.1 c1).1 c2).2 c3))))))⟩⟩⟩, fun c2 => ⟨by decide, ⟨by decide, (WPm_mono gT d _ _ _ _ _ (fun r0 h' z0 => by obtain ⟨M1, rfl, z0⟩ := z0; exact WPc.kill [0, 1] (b12_does_32 (WPc.kill [0, 1] (b12_does_83 (FRmk z0))))) ((q.1 c1).2 c2))⟩⟩⟩, fun c1 => (WPm_mono gT d _ _ _ _ _ (fun r0 h' z0 => by obtain ⟨M1, rfl, z0⟩ := z0; exact WPc.kill [0, 1] (b12_does_9 (WPc.kill [0, 1] (b12_does_83 (FRmk z0))))) (q.2 c1))⟩)
set_option maxRecDepth 20000 in
theorem b12_goesDeeds_61 {d : Nat} {F : mPost} {x1 x2 : Int} {M : Nat → Nat → Int} {n : Nat × Nat} (q : WPc t12_goesDeeds (WPm gT d) F (7, [(2, 1), (0, x1), (0, w32 (x2 + 1))], [], hR M n)) : WPc t12_goesDeeds (WPm gT d) F (61, [(2, 1), (0, x1), (0, x2)], [], hR M n) :=
  vcK_ok (K := [7, 33, 61]) 51 _ q
set_option maxRecDepth 20000 in
theorem b12_goesDeeds_33 {d : Nat} {F : mPost} {x1 x2 s1 : Int} {M : Nat → Nat → Int} {n : Nat × Nat} (q : (((sI M 1 19 s1) 1 19) = 0 → (0 ≤ (w32 ((w32 (40 * x1)) + x2)) ∧ (w32 ((w32 (40 * x1)) + x2)) < ((160 : Nat) : Int)) ∧ (WPm gT d 245 [(2, 1), (0, w32 ((sI M 1 19 s1) 22 (w32 ((w32 (40 * x1)) + x2)).toNat))] (hR (sI M 1 19 s1) n) (fun r h' => WPc t12_goesDeeds (WPm gT d) F (61, [(2, 1), (0, x1), (0, x2)], [], h')))) ∧ (¬ (((sI M 1 19 s1) 1 19) = 0) → F (0, x2) (hR (sI M 1 19 s1) n))) : WPc t12_goesDeeds (WPm gT d) F (33, [(2, 1), (0, x1), (0, x2)], [(0, s1), (2, 1)], hR M n) :=
  vcK_ok (K := [7, 33, 61]) 51 _ q
set_option maxRecDepth 20000 in
theorem b12_goesDeeds_7 {d : Nat} {F : mPost} {x1 x2 : Int} {M : Nat → Nat → Int} {n : Nat × Nat} (q : (0 ≤ x1 ∧ x1 < ((4 : Nat) : Int)) ∧ (((M 21 x1.toNat) ≤ x2 → (0 ≤ x1 ∧ x1 < ((4 : Nat) : Int)) ∧ (F (0, M 21 x1.toNat) (hR M n))) ∧ (¬ ((M 21 x1.toNat) ≤ x2) → (0 ≤ (w32 ((w32 (40 * x1)) + x2)) ∧ (w32 ((w32 (40 * x1)) + x2)) < ((160 : Nat) : Int)) ∧ (WPm gT d 244 [(2, 1), (1, M 22 (w32 ((w32 (40 * x1)) + x2)).toNat)] (hR M n) (fun r h' => WPc t12_goesDeeds (WPm gT d) F (33, [(2, 1), (0, x1), (0, x2)], [(0, r.2), (2, 1)], h')))))) : WPc t12_goesDeeds (WPm gT d) F (7, [(2, 1), (0, x1), (0, x2)], [], hR M n) :=
  vcK_ok (K := [7, 33, 61]) 51 _ q
set_option maxRecDepth 20000 in
theorem b12_goesDeeds_0 {d : Nat} {F : mPost} {x1 : Int} {M : Nat → Nat → Int} {n : Nat × Nat} (q : WPc t12_goesDeeds (WPm gT d) F (7, [(2, 1), (0, x1), (0, 0)], [], hR (sI M 1 19 0) n)) : WPc t12_goesDeeds (WPm gT d) F (0, [(2, 1), (0, x1), (9, 0)], [], hR M n) :=
  vcK_ok (K := [7, 33, 61]) 51 _ q
def W12_goesDeeds_7 (d : Nat) (n : Nat × Nat) (Φ : Int → (Nat → Nat → Int) → Prop) (x1 x2 : Int) (M : Nat → Nat → Int) : Prop := WPc t12_goesDeeds (WPm gT d) (FR Φ n) (7, [(2, 1), (0, x1), (0, x2)], [], hR M n)
set_option maxRecDepth 20000 in
theorem v12_goesDeeds_7 {d : Nat} {Φ : Int → (Nat → Nat → Int) → Prop} {x1 x2 : Int} {M : Nat → Nat → Int} {n : Nat × Nat} (q : (0 ≤ x1 ∧ x1 < ((4 : Nat) : Int)) ∧ (((M 21 x1.toNat) ≤ x2 → (0 ≤ x1 ∧ x1 < ((4 : Nat) : Int)) ∧ (Φ (M 21 x1.toNat) M)) ∧ (¬ ((M 21 x1.toNat) ≤ x2) → (0 ≤ (w32 ((w32 (40 * x1)) + x2)) ∧ (w32 ((w32 (40 * x1)) + x2)) < ((160 : Nat) : Int)) ∧ (CR d 244 [(2, 1), (1, M 22 (w32 ((w32 (40 * x1)) + x2)).toNat)] M n (fun r0 M1 => (((sI M1 1 19 r0) 1 19) = 0 → (0 ≤ (w32 ((w32 (40 * x1)) + x2)) ∧ (w32 ((w32 (40 * x1)) + x2)) < ((160 : Nat) : Int)) ∧ (CR d 245 [(2, 1), (0, w32 ((sI M1 1 19 r0) 22 (w32 ((w32 (40 * x1)) + x2)).toNat))] (sI M1 1 19 r0) n (fun _ M2 => W12_goesDeeds_7 d n Φ x1 (w32 (x2 + 1)) M2))) ∧ (¬ (((sI M1 1 19 r0) 1 19) = 0) → Φ x2 (sI M1 1 19 r0))))))) : W12_goesDeeds_7 d n Φ x1 x2 M :=
  b12_goesDeeds_7 ⟨q.1, ⟨fun c1 => ⟨(q.2.1 c1).1, (FRmk (q.2.1 c1).2)⟩, fun c1 => ⟨(q.2.2 c1).1, (WPm_mono gT d _ _ _ _ _ (fun r0 h' z0 => by obtain ⟨M1, rfl, z0⟩ := z0; exact b12_goesDeeds_33 ⟨fun c2 => ⟨(z0.1 c2).1, (WPm_mono gT d _ _ _ _ _ (fun r1 h' z1 => by obtain ⟨M2, rfl, z1⟩ := z1; exact b12_goesDeeds_61 z1) (z0.1 c2).2)⟩, fun c2 => (FRmk (z0.2 c2))⟩) (q.2.2 c1).2)⟩⟩⟩
set_option maxRecDepth 20000 in
theorem e12_goesDeeds {d : Nat} {Φ : Int → (Nat → Nat → Int) → Prop} {x1 : Int} {M : Nat → Nat → Int} {n : Nat × Nat} (q : W12_goesDeeds_7 d n Φ x1 0 (sI M 1 19 0)) : CR (d + 1) 246 [(2, 1), (0, x1)] M n Φ :=
  WPm_in g12_goesDeeds (Nat.le_of_ble_eq_true rfl) (b12_goesDeeds_0 q)
set_option maxRecDepth 20000 in
theorem b12_noTray_33 {d : Nat} {F : mPost} {s0 : Int} {M : Nat → Nat → Int} {n : Nat × Nat} (q : F (0, s0) (hR M n)) : WPc t12_noTray (WPm gT d) F (33, [(9, 0), (9, 0)], [(0, s0)], hR M n) :=
  vcK_ok (K := [9, 33]) 23 _ q
set_option maxRecDepth 20000 in
theorem b12_noTray_9 {d : Nat} {F : mPost} {x1 s0 : Int} {M : Nat → Nat → Int} {n : Nat × Nat} (q : (s0 ≠ 0 → (0 ≤ x1 ∧ x1 < ((4 : Nat) : Int)) ∧ (((M 20 x1.toNat) ≠ (-1) → WPc t12_noTray (WPm gT d) F (33, [(2, 1), (0, x1)], [(0, 0)], hR M n)) ∧ (¬ ((M 20 x1.toNat) ≠ (-1)) → WPc t12_noTray (WPm gT d) F (33, [(2, 1), (0, x1)], [(0, (-6))], hR M n)))) ∧ (¬ (s0 ≠ 0) → WPc t12_noTray (WPm gT d) F (33, [(2, 1), (0, x1)], [(0, (-2))], hR M n))) : WPc t12_noTray (WPm gT d) F (9, [(2, 1), (0, x1)], [(0, s0)], hR M n) :=
  vcK_ok (K := [9, 33]) 23 _ q
set_option maxRecDepth 20000 in
theorem b12_noTray_0 {d : Nat} {F : mPost} {x1 : Int} {M : Nat → Nat → Int} {n : Nat × Nat} (q : WPm gT d 182 [(1, x1), (1, 0), (1, 3)] (hR M n) (fun r h' => WPc t12_noTray (WPm gT d) F (9, [(2, 1), (0, x1)], [(0, r.2)], h'))) : WPc t12_noTray (WPm gT d) F (0, [(2, 1), (0, x1)], [], hR M n) :=
  vcK_ok (K := [9, 33]) 23 _ q
set_option maxRecDepth 20000 in
theorem e12_noTray {d : Nat} {Φ : Int → (Nat → Nat → Int) → Prop} {x1 : Int} {M : Nat → Nat → Int} {n : Nat × Nat} (q : CR d 182 [(1, x1), (1, 0), (1, 3)] M n (fun r0 M1 => (r0 ≠ 0 → (0 ≤ x1 ∧ x1 < ((4 : Nat) : Int)) ∧ (((M1 20 x1.toNat) ≠ (-1) → Φ 0 M1) ∧ (¬ ((M1 20 x1.toNat) ≠ (-1)) → Φ (-6) M1))) ∧ (¬ (r0 ≠ 0) → Φ (-2) M1))) : CR (d + 1) 247 [(2, 1), (0, x1)] M n Φ :=
  WPm_in g12_noTray (Nat.le_of_ble_eq_true rfl) (b12_noTray_0 (WPm_mono gT d _ _ _ _ _ (fun r0 h' z0 => by obtain ⟨M1, rfl, z0⟩ := z0; exact b12_noTray_9 ⟨fun c1 => ⟨(z0.1 c1).1, ⟨fun c2 => (WPc.kill [0, 1] (b12_noTray_33 (FRmk ((z0.1 c1).2.1 c2)))), fun c2 => (WPc.kill [0, 1] (b12_noTray_33 (FRmk ((z0.1 c1).2.2 c2))))⟩⟩, fun c1 => (WPc.kill [0, 1] (b12_noTray_33 (FRmk (z0.2 c1))))⟩) q))
set_option maxRecDepth 20000 in
theorem b12_talesNow_38 {d : Nat} {F : mPost} {s0 : Int} {M : Nat → Nat → Int} {n : Nat × Nat} (q : F (0, s0) (hR M n)) : WPc t12_talesNow (WPm gT d) F (38, [(9, 0), (9, 0), (9, 0)], [(0, s0)], hR M n) :=
  vcK_ok (K := [4, 28, 38]) 31 _ q
set_option maxRecDepth 20000 in
theorem b12_talesNow_28 {d : Nat} {F : mPost} {x1 x2 : Int} {M : Nat → Nat → Int} {n : Nat × Nat} (q : WPc t12_talesNow (WPm gT d) F (4, [(2, 1), (0, x1), (0, w32 (x2 + 1))], [], hR M n)) : WPc t12_talesNow (WPm gT d) F (28, [(2, 1), (0, x1), (0, x2)], [], hR M n) :=
  vcK_ok (K := [4, 28, 38]) 31 _ q
set_option maxRecDepth 20000 in
theorem b12_talesNow_4 {d : Nat} {F : mPost} {x1 x2 : Int} {M : Nat → Nat → Int} {n : Nat × Nat} (q : ((0 : Int) ≤ 1 ∧ (1 : Int) < ((3792 : Nat) : Int)) ∧ (((M 2 1) ≤ x2 → WPm gT d 218 [(0, x1)] (hR M n) (fun r h' => WPc t12_talesNow (WPm gT d) F (38, [(2, 1), (0, x1), (0, x2)], [(0, r.2)], h'))) ∧ (¬ ((M 2 1) ≤ x2) → (0 ≤ (w32 (68 + x2)) ∧ (w32 (68 + x2)) < ((3792 : Nat) : Int)) ∧ (WPc t12_talesNow (WPm gT d) F (28, [(2, 1), (0, m_or x1 (m_shl 1 (M 2 (w32 (68 + x2)).toNat))), (0, x2)], [], hR M n))))) : WPc t12_talesNow (WPm gT d) F (4, [(2, 1), (0, x1), (0, x2)], [], hR M n) :=
  vcK_ok (K := [4, 28, 38]) 31 _ q
set_option maxRecDepth 20000 in
theorem b12_talesNow_0 {d : Nat} {F : mPost} {M : Nat → Nat → Int} {n : Nat × Nat} (q : WPc t12_talesNow (WPm gT d) F (4, [(2, 1), (0, 0), (0, 0)], [], hR M n)) : WPc t12_talesNow (WPm gT d) F (0, [(2, 1), (9, 0), (9, 0)], [], hR M n) :=
  vcK_ok (K := [4, 28, 38]) 31 _ q
def W12_talesNow_4 (d : Nat) (n : Nat × Nat) (Φ : Int → (Nat → Nat → Int) → Prop) (x1 x2 : Int) (M : Nat → Nat → Int) : Prop := WPc t12_talesNow (WPm gT d) (FR Φ n) (4, [(2, 1), (0, x1), (0, x2)], [], hR M n)
set_option maxRecDepth 20000 in
theorem v12_talesNow_4 {d : Nat} {Φ : Int → (Nat → Nat → Int) → Prop} {x1 x2 : Int} {M : Nat → Nat → Int} {n : Nat × Nat} (q : ((M 2 1) ≤ x2 → CR d 218 [(0, x1)] M n (fun r0 M1 => Φ r0 M1)) ∧ (¬ ((M 2 1) ≤ x2) → (0 ≤ (w32 (68 + x2)) ∧ (w32 (68 + x2)) < ((3792 : Nat) : Int)) ∧ (W12_talesNow_4 d n Φ (m_or x1 (m_shl 1 (M 2 (w32 (68 + x2)).toNat))) (w32 (x2 + 1)) M))) : W12_talesNow_4 d n Φ x1 x2 M :=
  b12_talesNow_4 ⟨by decide, ⟨fun c1 => (WPm_mono gT d _ _ _ _ _ (fun r0 h' z0 => by obtain ⟨M1, rfl, z0⟩ := z0; exact WPc.kill [0, 1, 2] (b12_talesNow_38 (FRmk z0))) (q.1 c1)), fun c1 => ⟨(q.2 c1).1, (b12_talesNow_28 (q.2 c1).2)⟩⟩⟩
set_option maxRecDepth 20000 in
theorem e12_talesNow {d : Nat} {Φ : Int → (Nat → Nat → Int) → Prop} {M : Nat → Nat → Int} {n : Nat × Nat} (q : W12_talesNow_4 d n Φ 0 0 M) : CR (d + 1) 248 [(2, 1)] M n Φ :=
  WPm_in g12_talesNow (Nat.le_of_ble_eq_true rfl) (b12_talesNow_0 q)
set_option maxRecDepth 20000 in
theorem b12_doubtsAll_32 {d : Nat} {F : mPost} {x1 : Int} {M : Nat → Nat → Int} {n : Nat × Nat} (q : F (0, x1) (hR M n)) : WPc t12_doubtsAll (WPm gT d) F (32, [(9, 0), (0, x1), (9, 0)], [], hR M n) :=
  vcK_ok (K := [4, 32]) 28 _ q
set_option maxRecDepth 20000 in
theorem b12_doubtsAll_4 {d : Nat} {F : mPost} {x1 x2 : Int} {M : Nat → Nat → Int} {n : Nat × Nat} (q : ((0 : Int) ≤ 1 ∧ (1 : Int) < ((3792 : Nat) : Int)) ∧ (((M 2 1) ≤ x2 → WPc t12_doubtsAll (WPm gT d) F (32, [(2, 1), (0, x1), (0, x2)], [], hR M n)) ∧ (¬ ((M 2 1) ≤ x2) → (0 ≤ (w32 (76 + x2)) ∧ (w32 (76 + x2)) < ((3792 : Nat) : Int)) ∧ (WPc t12_doubtsAll (WPm gT d) F (4, [(2, 1), (0, w32 (x1 + (M 2 (w32 (76 + x2)).toNat))), (0, w32 (x2 + 1))], [], hR M n))))) : WPc t12_doubtsAll (WPm gT d) F (4, [(2, 1), (0, x1), (0, x2)], [], hR M n) :=
  vcK_ok (K := [4, 32]) 28 _ q
set_option maxRecDepth 20000 in
theorem b12_doubtsAll_0 {d : Nat} {F : mPost} {M : Nat → Nat → Int} {n : Nat × Nat} (q : WPc t12_doubtsAll (WPm gT d) F (4, [(2, 1), (0, 0), (0, 0)], [], hR M n)) : WPc t12_doubtsAll (WPm gT d) F (0, [(2, 1), (9, 0), (9, 0)], [], hR M n) :=
  vcK_ok (K := [4, 32]) 28 _ q
def W12_doubtsAll_4 (d : Nat) (n : Nat × Nat) (Φ : Int → (Nat → Nat → Int) → Prop) (x1 x2 : Int) (M : Nat → Nat → Int) : Prop := WPc t12_doubtsAll (WPm gT d) (FR Φ n) (4, [(2, 1), (0, x1), (0, x2)], [], hR M n)
set_option maxRecDepth 20000 in
theorem v12_doubtsAll_4 {d : Nat} {Φ : Int → (Nat → Nat → Int) → Prop} {x1 x2 : Int} {M : Nat → Nat → Int} {n : Nat × Nat} (q : ((M 2 1) ≤ x2 → Φ x1 M) ∧ (¬ ((M 2 1) ≤ x2) → (0 ≤ (w32 (76 + x2)) ∧ (w32 (76 + x2)) < ((3792 : Nat) : Int)) ∧ (W12_doubtsAll_4 d n Φ (w32 (x1 + (M 2 (w32 (76 + x2)).toNat))) (w32 (x2 + 1)) M))) : W12_doubtsAll_4 d n Φ x1 x2 M :=
  b12_doubtsAll_4 ⟨by decide, ⟨fun c1 => (WPc.kill [0, 2] (b12_doubtsAll_32 (FRmk (q.1 c1)))), fun c1 => ⟨(q.2 c1).1, (q.2 c1).2⟩⟩⟩
set_option maxRecDepth 20000 in
theorem e12_doubtsAll {d : Nat} {Φ : Int → (Nat → Nat → Int) → Prop} {M : Nat → Nat → Int} {n : Nat × Nat} (q : W12_doubtsAll_4 d n Φ 0 0 M) : CR (d + 1) 249 [(2, 1)] M n Φ :=
  WPm_in g12_doubtsAll (Nat.le_of_ble_eq_true rfl) (b12_doubtsAll_0 q)
set_option maxRecDepth 20000 in
theorem b12_judge_103 {d : Nat} {F : mPost} {s0 : Int} {M : Nat → Nat → Int} {n : Nat × Nat} (q : F (0, s0) (hR M n)) : WPc t12_judge (WPm gT d) F (103, [(9, 0), (9, 0), (9, 0), (9, 0), (9, 0), (9, 0), (9, 0)], [(0, s0)], hR M n) :=
  vcK_ok (K := [14, 25, 36, 41, 47, 53, 59, 96, 103]) 60 _ q
set_option maxRecDepth 20000 in
theorem b12_judge_96 {d : Nat} {F : mPost} {x5 : Int} {M : Nat → Nat → Int} {n : Nat × Nat} (q : WPc t12_judge (WPm gT d) F (103, [(9, 0), (9, 0), (9, 0), (9, 0), (9, 0), (0, x5), (9, 0)], [(0, x5)], hR M n)) : WPc t12_judge (WPm gT d) F (96, [(9, 0), (9, 0), (9, 0), (9, 0), (9, 0), (0, x5), (9, 0)], [], hR M n) :=
  vcK_ok (K := [14, 25, 36, 41, 47, 53, 59, 96, 103]) 60 _ q
set_option maxRecDepth 20000 in
theorem b12_judge_59 {d : Nat} {F : mPost} {x2 x4 x5 x6 : Int} {M : Nat → Nat → Int} {n : Nat × Nat} (q : (x2 ≠ 0 → (x2 ≠ 1 → (x2 ≠ 2 → WPc t12_judge (WPm gT d) F (103, [(2, 1), (9, 0), (0, x2), (9, 0), (0, x4), (0, x5), (0, x6)], [(0, x6)], hR M n)) ∧ (¬ (x2 ≠ 2) → WPc t12_judge (WPm gT d) F (96, [(2, 1), (9, 0), (0, x2), (9, 0), (0, x4), (0, x5), (0, x6)], [], hR M n))) ∧ (¬ (x2 ≠ 1) → WPc t12_judge (WPm gT d) F (103, [(2, 1), (9, 0), (0, x2), (9, 0), (0, x4), (0, x5), (0, x6)], [(0, M 1 19)], hR M n))) ∧ (¬ (x2 ≠ 0) → ((M 1 19) ≠ 0 → WPc t12_judge (WPm gT d) F (103, [(2, 1), (9, 0), (0, x2), (9, 0), (0, x4), (0, x5), (0, x6)], [(0, x4)], hR M n)) ∧ (¬ ((M 1 19) ≠ 0) → WPc t12_judge (WPm gT d) F (103, [(2, 1), (9, 0), (0, x2), (9, 0), (0, x4), (0, x5), (0, x6)], [(0, (-1))], hR M n)))) : WPc t12_judge (WPm gT d) F (59, [(2, 1), (9, 0), (0, x2), (9, 0), (0, x4), (0, x5), (0, x6)], [], hR M n) :=
  vcK_ok (K := [14, 25, 36, 41, 47, 53, 59, 96, 103]) 60 _ q
set_option maxRecDepth 20000 in
theorem b12_judge_53 {d : Nat} {F : mPost} {x2 x4 x5 s0 : Int} {M : Nat → Nat → Int} {n : Nat × Nat} (q : WPm gT d 234 [(2, 1)] (hR M n) (fun r h' => WPc t12_judge (WPm gT d) F (59, [(2, 1), (9, 0), (0, x2), (9, 0), (0, x4), (0, x5), (0, s0)], [], h'))) : WPc t12_judge (WPm gT d) F (53, [(2, 1), (9, 0), (0, x2), (9, 0), (0, x4), (0, x5), (9, 0)], [(0, s0)], hR M n) :=
  vcK_ok (K := [14, 25, 36, 41, 47, 53, 59, 96, 103]) 60 _ q
set_option maxRecDepth 20000 in
theorem b12_judge_47 {d : Nat} {F : mPost} {x2 x4 s0 : Int} {M : Nat → Nat → Int} {n : Nat × Nat} (q : WPm gT d 249 [(2, 1)] (hR M n) (fun r h' => WPc t12_judge (WPm gT d) F (53, [(2, 1), (9, 0), (0, x2), (9, 0), (0, x4), (0, s0), (9, 0)], [(0, r.2)], h'))) : WPc t12_judge (WPm gT d) F (47, [(2, 1), (9, 0), (0, x2), (9, 0), (0, x4), (9, 0), (9, 0)], [(0, s0)], hR M n) :=
  vcK_ok (K := [14, 25, 36, 41, 47, 53, 59, 96, 103]) 60 _ q
set_option maxRecDepth 20000 in
theorem b12_judge_41 {d : Nat} {F : mPost} {x2 s0 : Int} {M : Nat → Nat → Int} {n : Nat × Nat} (q : WPm gT d 248 [(2, 1)] (hR M n) (fun r h' => WPc t12_judge (WPm gT d) F (47, [(2, 1), (9, 0), (0, x2), (9, 0), (0, s0), (9, 0), (9, 0)], [(0, r.2)], h'))) : WPc t12_judge (WPm gT d) F (41, [(2, 1), (9, 0), (0, x2), (9, 0), (9, 0), (9, 0), (9, 0)], [(0, s0)], hR M n) :=
  vcK_ok (K := [14, 25, 36, 41, 47, 53, 59, 96, 103]) 60 _ q
set_option maxRecDepth 20000 in
theorem b12_judge_36 {d : Nat} {F : mPost} {x1 x2 : Int} {M : Nat → Nat → Int} {n : Nat × Nat} (q : WPm gT d 246 [(2, 1), (0, x1)] (hR M n) (fun r h' => WPc t12_judge (WPm gT d) F (41, [(2, 1), (0, x1), (0, x2), (9, 0), (9, 0), (9, 0), (9, 0)], [(0, r.2)], h'))) : WPc t12_judge (WPm gT d) F (36, [(2, 1), (0, x1), (0, x2), (9, 0), (9, 0), (9, 0), (9, 0)], [], hR M n) :=
  vcK_ok (K := [14, 25, 36, 41, 47, 53, 59, 96, 103]) 60 _ q
set_option maxRecDepth 20000 in
theorem b12_judge_25 {d : Nat} {F : mPost} {x1 x2 s0 : Int} {M : Nat → Nat → Int} {n : Nat × Nat} (q : (s0 = 0 → WPm gT d 233 [(2, 1)] (hR M n) (fun r h' => WPc t12_judge (WPm gT d) F (36, [(2, 1), (0, x1), (0, x2), (0, s0), (9, 0), (9, 0), (9, 0)], [], h'))) ∧ (¬ (s0 = 0) → F (0, s0) (hR M n))) : WPc t12_judge (WPm gT d) F (25, [(2, 1), (0, x1), (0, x2), (9, 0), (9, 0), (9, 0), (9, 0)], [(0, s0)], hR M n) :=
  vcK_ok (K := [14, 25, 36, 41, 47, 53, 59, 96, 103]) 60 _ q
set_option maxRecDepth 20000 in
theorem b12_judge_14 {d : Nat} {F : mPost} {x1 x2 s0 : Int} {M : Nat → Nat → Int} {n : Nat × Nat} (q : (s0 ≠ 0 → WPm gT d 247 [(2, 1), (0, x1)] (hR M n) (fun r h' => WPc t12_judge (WPm gT d) F (25, [(2, 1), (0, x1), (0, x2), (9, 0), (9, 0), (9, 0), (9, 0)], [(0, r.2)], h'))) ∧ (¬ (s0 ≠ 0) → F (0, (-2)) (hR M n))) : WPc t12_judge (WPm gT d) F (14, [(2, 1), (0, x1), (0, x2), (9, 0), (9, 0), (9, 0), (9, 0)], [(0, s0)], hR M n) :=
  vcK_ok (K := [14, 25, 36, 41, 47, 53, 59, 96, 103]) 60 _ q
set_option maxRecDepth 20000 in
theorem b12_judge_0 {d : Nat} {F : mPost} {x1 x2 : Int} {M : Nat → Nat → Int} {n : Nat × Nat} (q : WPm gT d 182 [(1, x2), (1, 0), (1, 3)] (hR (sI M 1 0 0) n) (fun r h' => WPc t12_judge (WPm gT d) F (14, [(2, 1), (0, x1), (0, x2), (9, 0), (9, 0), (9, 0), (9, 0)], [(0, r.2)], h'))) : WPc t12_judge (WPm gT d) F (0, [(2, 1), (0, x1), (0, x2), (9, 0), (9, 0), (9, 0), (9, 0)], [], hR M n) :=
  vcK_ok (K := [14, 25, 36, 41, 47, 53, 59, 96, 103]) 60 _ q
set_option maxRecDepth 20000 in
theorem e12_judge {d : Nat} {Φ : Int → (Nat → Nat → Int) → Prop} {x1 x2 : Int} {M : Nat → Nat → Int} {n : Nat × Nat} (q : CR d 182 [(1, x2), (1, 0), (1, 3)] (sI M 1 0 0) n (fun r0 M1 => (r0 ≠ 0 → CR d 247 [(2, 1), (0, x1)] M1 n (fun r1 M2 => (r1 = 0 → CR d 233 [(2, 1)] M2 n (fun _ M3 => CR d 246 [(2, 1), (0, x1)] M3 n (fun r3 M4 => CR d 248 [(2, 1)] M4 n (fun r4 M5 => CR d 249 [(2, 1)] M5 n (fun r5 M6 => CR d 234 [(2, 1)] M6 n (fun _ M7 => (x2 ≠ 0 → (x2 ≠ 1 → (x2 ≠ 2 → Φ r5 M7) ∧ (¬ (x2 ≠ 2) → Φ r4 M7)) ∧ (¬ (x2 ≠ 1) → Φ (M7 1 19) M7)) ∧ (¬ (x2 ≠ 0) → ((M7 1 19) ≠ 0 → Φ r3 M7) ∧ (¬ ((M7 1 19) ≠ 0) → Φ (-1) M7)))))))) ∧ (¬ (r1 = 0) → Φ r1 M2))) ∧ (¬ (r0 ≠ 0) → Φ (-2) M1))) : CR (d + 1) 250 [(2, 1), (0, x1), (0, x2)] M n Φ :=
  WPm_in g12_judge (Nat.le_of_ble_eq_true rfl) (b12_judge_0 (WPm_mono gT d _ _ _ _ _ (fun r0 h' z0 => by obtain ⟨M1, rfl, z0⟩ := z0; exact b12_judge_14 ⟨fun c1 => (WPm_mono gT d _ _ _ _ _ (fun r1 h' z1 => by obtain ⟨M2, rfl, z1⟩ := z1; exact b12_judge_25 ⟨fun c2 => (WPm_mono gT d _ _ _ _ _ (fun r2 h' z2 => by obtain ⟨M3, rfl, z2⟩ := z2; exact WPc.kill [3] (b12_judge_36 (WPm_mono gT d _ _ _ _ _ (fun r3 h' z3 => by obtain ⟨M4, rfl, z3⟩ := z3; exact WPc.kill [1, 3] (b12_judge_41 (WPm_mono gT d _ _ _ _ _ (fun r4 h' z4 => by obtain ⟨M5, rfl, z4⟩ := z4; exact WPc.kill [1, 3] (b12_judge_47 (WPm_mono gT d _ _ _ _ _ (fun r5 h' z5 => by obtain ⟨M6, rfl, z5⟩ := z5; exact WPc.kill [1, 3] (b12_judge_53 (WPm_mono gT d _ _ _ _ _ (fun r6 h' z6 => by obtain ⟨M7, rfl, z6⟩ := z6; exact WPc.kill [1, 3] (b12_judge_59 ⟨fun c3 => ⟨fun c4 => ⟨fun c5 => (WPc.kill [0, 1, 2, 3, 4, 5, 6] (b12_judge_103 (FRmk (((z6.1 c3).1 c4).1 c5)))), fun c5 => (WPc.kill [0, 1, 2, 3, 4, 6] (b12_judge_96 (WPc.kill [0, 1, 2, 3, 4, 5, 6] (b12_judge_103 (FRmk (((z6.1 c3).1 c4).2 c5))))))⟩, fun c4 => (WPc.kill [0, 1, 2, 3, 4, 5, 6] (b12_judge_103 (FRmk ((z6.1 c3).2 c4))))⟩, fun c3 => ⟨fun c6 => (WPc.kill [0, 1, 2, 3, 4, 5, 6] (b12_judge_103 (FRmk ((z6.2 c3).1 c6)))), fun c6 => (WPc.kill [0, 1, 2, 3, 4, 5, 6] (b12_judge_103 (FRmk ((z6.2 c3).2 c6))))⟩⟩)) z5))) z4))) z3))) z2))) (z1.1 c2)), fun c2 => (FRmk (z1.2 c2))⟩) (z0.1 c1)), fun c1 => (FRmk (z0.2 c1))⟩) q))
set_option maxRecDepth 20000 in
theorem b12_perform_35 {d : Nat} {F : mPost} {x3 : Int} {M : Nat → Nat → Int} {n : Nat × Nat} (q : F (0, x3) (hR M n)) : WPc t12_perform (WPm gT d) F (35, [(9, 0), (9, 0), (9, 0), (0, x3)], [], hR M n) :=
  vcK_ok (K := [10, 21, 26, 35]) 28 _ q
set_option maxRecDepth 20000 in
theorem b12_perform_26 {d : Nat} {F : mPost} {s0 : Int} {M : Nat → Nat → Int} {n : Nat × Nat} (q : (s0 ≤ 0 → WPc t12_perform (WPm gT d) F (35, [(2, 1), (9, 0), (9, 0), (0, s0)], [], hR M n)) ∧ (¬ (s0 ≤ 0) → WPm gT d 235 [(2, 1)] (hR M n) (fun r h' => WPc t12_perform (WPm gT d) F (35, [(2, 1), (9, 0), (9, 0), (0, s0)], [], h')))) : WPc t12_perform (WPm gT d) F (26, [(2, 1), (9, 0), (9, 0), (9, 0)], [(0, s0)], hR M n) :=
  vcK_ok (K := [10, 21, 26, 35]) 28 _ q
set_option maxRecDepth 20000 in
theorem b12_perform_21 {d : Nat} {F : mPost} {x1 : Int} {M : Nat → Nat → Int} {n : Nat × Nat} (q : WPm gT d 246 [(2, 1), (0, x1)] (hR M n) (fun r h' => WPc t12_perform (WPm gT d) F (26, [(2, 1), (0, x1), (9, 0), (9, 0)], [(0, r.2)], h'))) : WPc t12_perform (WPm gT d) F (21, [(2, 1), (0, x1), (9, 0), (9, 0)], [], hR M n) :=
  vcK_ok (K := [10, 21, 26, 35]) 28 _ q
set_option maxRecDepth 20000 in
theorem b12_perform_10 {d : Nat} {F : mPost} {x1 s0 : Int} {M : Nat → Nat → Int} {n : Nat × Nat} (q : (s0 = 0 → WPm gT d 233 [(2, 1)] (hR M n) (fun r h' => WPc t12_perform (WPm gT d) F (21, [(2, 1), (0, x1), (0, s0), (9, 0)], [], h'))) ∧ (¬ (s0 = 0) → F (0, s0) (hR M n))) : WPc t12_perform (WPm gT d) F (10, [(2, 1), (0, x1), (9, 0), (9, 0)], [(0, s0)], hR M n) :=
  vcK_ok (K := [10, 21, 26, 35]) 28 _ q
set_option maxRecDepth 20000 in
theorem b12_perform_0 {d : Nat} {F : mPost} {x1 : Int} {M : Nat → Nat → Int} {n : Nat × Nat} (q : WPm gT d 247 [(2, 1), (0, x1)] (hR (sI M 1 0 0) n) (fun r h' => WPc t12_perform (WPm gT d) F (10, [(2, 1), (0, x1), (9, 0), (9, 0)], [(0, r.2)], h'))) : WPc t12_perform (WPm gT d) F (0, [(2, 1), (0, x1), (9, 0), (9, 0)], [], hR M n) :=
  vcK_ok (K := [10, 21, 26, 35]) 28 _ q
set_option maxRecDepth 20000 in
theorem e12_perform {d : Nat} {Φ : Int → (Nat → Nat → Int) → Prop} {x1 : Int} {M : Nat → Nat → Int} {n : Nat × Nat} (q : CR d 247 [(2, 1), (0, x1)] (sI M 1 0 0) n (fun r0 M1 => (r0 = 0 → CR d 233 [(2, 1)] M1 n (fun _ M2 => CR d 246 [(2, 1), (0, x1)] M2 n (fun r2 M3 => (r2 ≤ 0 → Φ r2 M3) ∧ (¬ (r2 ≤ 0) → CR d 235 [(2, 1)] M3 n (fun _ M4 => Φ r2 M4))))) ∧ (¬ (r0 = 0) → Φ r0 M1))) : CR (d + 1) 251 [(2, 1), (0, x1)] M n Φ :=
  WPm_in g12_perform (Nat.le_of_ble_eq_true rfl) (b12_perform_0 (WPm_mono gT d _ _ _ _ _ (fun r0 h' z0 => by obtain ⟨M1, rfl, z0⟩ := z0; exact b12_perform_10 ⟨fun c1 => (WPm_mono gT d _ _ _ _ _ (fun r1 h' z1 => by obtain ⟨M2, rfl, z1⟩ := z1; exact WPc.kill [2] (b12_perform_21 (WPm_mono gT d _ _ _ _ _ (fun r2 h' z2 => by obtain ⟨M3, rfl, z2⟩ := z2; exact WPc.kill [1, 2] (b12_perform_26 ⟨fun c2 => (WPc.kill [0, 1, 2] (b12_perform_35 (FRmk (z2.1 c2)))), fun c2 => (WPm_mono gT d _ _ _ _ _ (fun r3 h' z3 => by obtain ⟨M4, rfl, z3⟩ := z3; exact WPc.kill [0, 1, 2] (b12_perform_35 (FRmk z3))) (z2.2 c2))⟩)) z1))) (z0.1 c1)), fun c1 => (FRmk (z0.2 c1))⟩) q))
set_option maxRecDepth 20000 in
theorem b12_draw_0 {d : Nat} {F : mPost} {x1 : Int} {M : Nat → Nat → Int} {n : Nat × Nat} (q : (x1 ≠ 0) ∧ (F (0, m_rem (m_ushr ((sI M 1 20 (w32 ((w32 (1103515245 * (M 1 20))) + 12345))) 1 20) 16) x1) (hR (sI M 1 20 (w32 ((w32 (1103515245 * (M 1 20))) + 12345))) n))) : WPc t12_draw (WPm gT d) F (0, [(2, 1), (0, x1)], [], hR M n) :=
  vcK_ok (K := []) 20 _ q
set_option maxRecDepth 20000 in
theorem e12_draw {d : Nat} {Φ : Int → (Nat → Nat → Int) → Prop} {x1 : Int} {M : Nat → Nat → Int} {n : Nat × Nat} (q : (x1 ≠ 0) ∧ (Φ (m_rem (m_ushr ((sI M 1 20 (w32 ((w32 (1103515245 * (M 1 20))) + 12345))) 1 20) 16) x1) (sI M 1 20 (w32 ((w32 (1103515245 * (M 1 20))) + 12345))))) : CR (d + 1) 252 [(2, 1), (0, x1)] M n Φ :=
  WPm_in g12_draw (Nat.le_of_ble_eq_true rfl) (b12_draw_0 ⟨q.1, (FRmk q.2)⟩)
set_option maxRecDepth 20000 in
theorem b12_drawn_67 {d : Nat} {F : mPost} {s0 : Int} {M : Nat → Nat → Int} {n : Nat × Nat} (q : F (0, s0) (hR M n)) : WPc t12_drawn (WPm gT d) F (67, [(9, 0), (9, 0), (9, 0)], [(0, s0)], hR M n) :=
  vcK_ok (K := [5, 19, 35, 66, 67]) 46 _ q
set_option maxRecDepth 20000 in
theorem b12_drawn_66 {d : Nat} {F : mPost} {s0 s1 : Int} {M : Nat → Nat → Int} {n : Nat × Nat} (q : WPc t12_drawn (WPm gT d) F (67, [(9, 0), (9, 0), (9, 0)], [(0, w32 (s0 + s1))], hR M n)) : WPc t12_drawn (WPm gT d) F (66, [(9, 0), (9, 0), (9, 0)], [(0, s1), (0, s0)], hR M n) :=
  vcK_ok (K := [5, 19, 35, 66, 67]) 46 _ q
set_option maxRecDepth 20000 in
theorem b12_drawn_35 {d : Nat} {F : mPost} {s0 s1 : Int} {M : Nat → Nat → Int} {n : Nat × Nat} (q : WPc t12_drawn (WPm gT d) F (67, [(9, 0), (9, 0), (9, 0)], [(0, w32 (s0 + s1))], hR M n)) : WPc t12_drawn (WPm gT d) F (35, [(9, 0), (9, 0), (9, 0)], [(0, s1), (0, s0)], hR M n) :=
  vcK_ok (K := [5, 19, 35, 66, 67]) 46 _ q
set_option maxRecDepth 20000 in
theorem b12_drawn_19 {d : Nat} {F : mPost} {x1 s0 : Int} {M : Nat → Nat → Int} {n : Nat × Nat} (q : (x1 ≠ 2 → (x1 ≠ 3 → WPm gT d 252 [(2, 1), (0, 10)] (hR M n) (fun r h' => WPc t12_drawn (WPm gT d) F (66, [(2, 1), (0, x1), (0, s0)], [(0, r.2), (0, w32 (2000 + (w32 (10 * s0))))], h'))) ∧ (¬ (x1 ≠ 3) → WPc t12_drawn (WPm gT d) F (67, [(2, 1), (0, x1), (0, s0)], [(0, w32 (1000 + s0))], hR M n))) ∧ (¬ (x1 ≠ 2) → WPm gT d 252 [(2, 1), (0, 12)] (hR M n) (fun r h' => WPc t12_drawn (WPm gT d) F (35, [(2, 1), (0, x1), (0, s0)], [(0, r.2), (0, w32 (100 * s0))], h')))) : WPc t12_drawn (WPm gT d) F (19, [(2, 1), (0, x1), (9, 0)], [(0, s0)], hR M n) :=
  vcK_ok (K := [5, 19, 35, 66, 67]) 46 _ q
set_option maxRecDepth 20000 in
theorem b12_drawn_5 {d : Nat} {F : mPost} {s0 : Int} {M : Nat → Nat → Int} {n : Nat × Nat} (q : (2 ≤ s0 → WPm gT d 252 [(2, 1), (0, 8)] (hR M n) (fun r h' => WPc t12_drawn (WPm gT d) F (19, [(2, 1), (0, s0), (9, 0)], [(0, r.2)], h'))) ∧ (¬ (2 ≤ s0) → F (0, (-1)) (hR M n))) : WPc t12_drawn (WPm gT d) F (5, [(2, 1), (9, 0), (9, 0)], [(0, s0)], hR M n) :=
  vcK_ok (K := [5, 19, 35, 66, 67]) 46 _ q
set_option maxRecDepth 20000 in
theorem b12_drawn_0 {d : Nat} {F : mPost} {M : Nat → Nat → Int} {n : Nat × Nat} (q : WPm gT d 252 [(2, 1), (0, 5)] (hR M n) (fun r h' => WPc t12_drawn (WPm gT d) F (5, [(2, 1), (9, 0), (9, 0)], [(0, r.2)], h'))) : WPc t12_drawn (WPm gT d) F (0, [(2, 1), (9, 0), (9, 0)], [], hR M n) :=
  vcK_ok (K := [5, 19, 35, 66, 67]) 46 _ q
set_option maxRecDepth 20000 in
theorem e12_drawn {d : Nat} {Φ : Int → (Nat → Nat → Int) → Prop} {M : Nat → Nat → Int} {n : Nat × Nat} (q : CR d 252 [(2, 1), (0, 5)] M n (fun r0 M1 => (2 ≤ r0 → CR d 252 [(2, 1), (0, 8)] M1 n (fun r1 M2 => (r0 ≠ 2 → (r0 ≠ 3 → CR d 252 [(2, 1), (0, 10)] M2 n (fun r2 M3 => Φ (w32 ((w32 (2000 + (w32 (10 * r1)))) + r2)) M3)) ∧ (¬ (r0 ≠ 3) → Φ (w32 (1000 + r1)) M2)) ∧ (¬ (r0 ≠ 2) → CR d 252 [(2, 1), (0, 12)] M2 n (fun r2 M3 => Φ (w32 ((w32 (100 * r1)) + r2)) M3)))) ∧ (¬ (2 ≤ r0) → Φ (-1) M1))) : CR (d + 1) 253 [(2, 1)] M n Φ :=
  WPm_in g12_drawn (Nat.le_of_ble_eq_true rfl) (b12_drawn_0 (WPm_mono gT d _ _ _ _ _ (fun r0 h' z0 => by obtain ⟨M1, rfl, z0⟩ := z0; exact b12_drawn_5 ⟨fun c1 => (WPm_mono gT d _ _ _ _ _ (fun r1 h' z1 => by obtain ⟨M2, rfl, z1⟩ := z1; exact b12_drawn_19 ⟨fun c2 => ⟨fun c3 => (WPm_mono gT d _ _ _ _ _ (fun r2 h' z2 => by obtain ⟨M3, rfl, z2⟩ := z2; exact WPc.kill [0, 1, 2] (b12_drawn_66 (WPc.kill [0, 1, 2] (b12_drawn_67 (FRmk z2))))) ((z1.1 c2).1 c3)), fun c3 => (WPc.kill [0, 1, 2] (b12_drawn_67 (FRmk ((z1.1 c2).2 c3))))⟩, fun c2 => (WPm_mono gT d _ _ _ _ _ (fun r2 h' z2 => by obtain ⟨M3, rfl, z2⟩ := z2; exact WPc.kill [0, 1, 2] (b12_drawn_35 (WPc.kill [0, 1, 2] (b12_drawn_67 (FRmk z2))))) (z1.2 c2))⟩) (z0.1 c1)), fun c1 => (FRmk (z0.2 c1))⟩) q))
set_option maxRecDepth 20000 in
theorem b12_winter_82 {d : Nat} {F : mPost} {x3 : Int} {M : Nat → Nat → Int} {n : Nat × Nat} (q : F (0, x3) (hR M n)) : WPc t12_winter (WPm gT d) F (82, [(9, 0), (9, 0), (9, 0), (0, x3), (9, 0), (9, 0)], [], hR M n) :=
  vcK_ok (K := [14, 24, 34, 44, 53, 65, 68, 82]) 49 _ q
set_option maxRecDepth 20000 in
theorem b12_winter_68 {d : Nat} {F : mPost} {x2 x3 x4 : Int} {M : Nat → Nat → Int} {n : Nat × Nat} (q : WPc t12_winter (WPm gT d) F (34, [(2, 1), (9, 0), (0, x2), (0, x3), (0, w32 (x4 + 1)), (9, 0)], [], hR M n)) : WPc t12_winter (WPm gT d) F (68, [(2, 1), (9, 0), (0, x2), (0, x3), (0, x4), (9, 0)], [], hR M n) :=
  vcK_ok (K := [14, 24, 34, 44, 53, 65, 68, 82]) 49 _ q
set_option maxRecDepth 20000 in
theorem b12_winter_65 {d : Nat} {F : mPost} {x2 x3 x4 : Int} {M : Nat → Nat → Int} {n : Nat × Nat} (q : WPc t12_winter (WPm gT d) F (68, [(2, 1), (9, 0), (0, x2), (0, w32 (x3 + 1)), (0, x4), (9, 0)], [], hR M n)) : WPc t12_winter (WPm gT d) F (65, [(2, 1), (9, 0), (0, x2), (0, x3), (0, x4), (9, 0)], [], hR M n) :=
  vcK_ok (K := [14, 24, 34, 44, 53, 65, 68, 82]) 49 _ q
set_option maxRecDepth 20000 in
theorem b12_winter_53 {d : Nat} {F : mPost} {x2 x3 x4 x5 s0 : Int} {M : Nat → Nat → Int} {n : Nat × Nat} (q : (s0 = 0 → WPm gT d 245 [(2, 1), (0, x5)] (hR M n) (fun r h' => WPc t12_winter (WPm gT d) F (65, [(2, 1), (9, 0), (0, x2), (0, x3), (0, x4), (0, x5)], [], h'))) ∧ (¬ (s0 = 0) → WPc t12_winter (WPm gT d) F (68, [(2, 1), (9, 0), (0, x2), (0, x3), (0, x4), (0, x5)], [], hR M n))) : WPc t12_winter (WPm gT d) F (53, [(2, 1), (9, 0), (0, x2), (0, x3), (0, x4), (0, x5)], [(0, s0)], hR M n) :=
  vcK_ok (K := [14, 24, 34, 44, 53, 65, 68, 82]) 49 _ q
set_option maxRecDepth 20000 in
theorem b12_winter_44 {d : Nat} {F : mPost} {x2 x3 x4 s0 : Int} {M : Nat → Nat → Int} {n : Nat × Nat} (q : WPm gT d 244 [(2, 1), (1, s0)] (hR M n) (fun r h' => WPc t12_winter (WPm gT d) F (53, [(2, 1), (9, 0), (0, x2), (0, x3), (0, x4), (0, s0)], [(0, r.2)], h'))) : WPc t12_winter (WPm gT d) F (44, [(2, 1), (9, 0), (0, x2), (0, x3), (0, x4), (9, 0)], [(0, s0)], hR M n) :=
  vcK_ok (K := [14, 24, 34, 44, 53, 65, 68, 82]) 49 _ q
set_option maxRecDepth 20000 in
theorem b12_winter_34 {d : Nat} {F : mPost} {x2 x3 x4 : Int} {M : Nat → Nat → Int} {n : Nat × Nat} (q : (x2 ≤ x4 → (x3 ≤ 0 → WPc t12_winter (WPm gT d) F (82, [(2, 1), (9, 0), (0, x2), (0, x3), (0, x4), (9, 0)], [], hR M n)) ∧ (¬ (x3 ≤ 0) → WPm gT d 235 [(2, 1)] (hR M n) (fun r h' => WPc t12_winter (WPm gT d) F (82, [(2, 1), (9, 0), (0, x2), (0, x3), (0, x4), (9, 0)], [], h')))) ∧ (¬ (x2 ≤ x4) → WPm gT d 253 [(2, 1)] (hR M n) (fun r h' => WPc t12_winter (WPm gT d) F (44, [(2, 1), (9, 0), (0, x2), (0, x3), (0, x4), (9, 0)], [(0, r.2)], h')))) : WPc t12_winter (WPm gT d) F (34, [(2, 1), (9, 0), (0, x2), (0, x3), (0, x4), (9, 0)], [], hR M n) :=
  vcK_ok (K := [14, 24, 34, 44, 53, 65, 68, 82]) 49 _ q
set_option maxRecDepth 20000 in
theorem b12_winter_24 {d : Nat} {F : mPost} {x1 x2 : Int} {M : Nat → Nat → Int} {n : Nat × Nat} (q : WPc t12_winter (WPm gT d) F (34, [(2, 1), (0, x1), (0, x2), (0, 0), (0, 0), (9, 0)], [], hR (sI M 1 20 x1) n)) : WPc t12_winter (WPm gT d) F (24, [(2, 1), (0, x1), (0, x2), (9, 0), (9, 0), (9, 0)], [], hR M n) :=
  vcK_ok (K := [14, 24, 34, 44, 53, 65, 68, 82]) 49 _ q
set_option maxRecDepth 20000 in
theorem b12_winter_14 {d : Nat} {F : mPost} {x1 x2 s0 : Int} {M : Nat → Nat → Int} {n : Nat × Nat} (q : (s0 ≠ 0 → WPm gT d 233 [(2, 1)] (hR M n) (fun r h' => WPc t12_winter (WPm gT d) F (24, [(2, 1), (0, x1), (0, x2), (9, 0), (9, 0), (9, 0)], [], h'))) ∧ (¬ (s0 ≠ 0) → F (0, (-3)) (hR M n))) : WPc t12_winter (WPm gT d) F (14, [(2, 1), (0, x1), (0, x2), (9, 0), (9, 0), (9, 0)], [(0, s0)], hR M n) :=
  vcK_ok (K := [14, 24, 34, 44, 53, 65, 68, 82]) 49 _ q
set_option maxRecDepth 20000 in
theorem b12_winter_0 {d : Nat} {F : mPost} {x1 x2 : Int} {M : Nat → Nat → Int} {n : Nat × Nat} (q : WPm gT d 182 [(1, x2), (1, 1), (1, 40)] (hR (sI M 1 0 0) n) (fun r h' => WPc t12_winter (WPm gT d) F (14, [(2, 1), (0, x1), (0, x2), (9, 0), (9, 0), (9, 0)], [(0, r.2)], h'))) : WPc t12_winter (WPm gT d) F (0, [(2, 1), (0, x1), (0, x2), (9, 0), (9, 0), (9, 0)], [], hR M n) :=
  vcK_ok (K := [14, 24, 34, 44, 53, 65, 68, 82]) 49 _ q
def W12_winter_34 (d : Nat) (n : Nat × Nat) (Φ : Int → (Nat → Nat → Int) → Prop) (x2 x3 x4 : Int) (M : Nat → Nat → Int) : Prop := WPc t12_winter (WPm gT d) (FR Φ n) (34, [(2, 1), (9, 0), (0, x2), (0, x3), (0, x4), (9, 0)], [], hR M n)
set_option maxRecDepth 20000 in
theorem v12_winter_34 {d : Nat} {Φ : Int → (Nat → Nat → Int) → Prop} {x2 x3 x4 : Int} {M : Nat → Nat → Int} {n : Nat × Nat} (q : (x2 ≤ x4 → (x3 ≤ 0 → Φ x3 M) ∧ (¬ (x3 ≤ 0) → CR d 235 [(2, 1)] M n (fun _ M1 => Φ x3 M1))) ∧ (¬ (x2 ≤ x4) → CR d 253 [(2, 1)] M n (fun r0 M1 => CR d 244 [(2, 1), (1, r0)] M1 n (fun r1 M2 => (r1 = 0 → CR d 245 [(2, 1), (0, r0)] M2 n (fun _ M3 => W12_winter_34 d n Φ x2 (w32 (x3 + 1)) (w32 (x4 + 1)) M3)) ∧ (¬ (r1 = 0) → W12_winter_34 d n Φ x2 x3 (w32 (x4 + 1)) M2))))) : W12_winter_34 d n Φ x2 x3 x4 M :=
  b12_winter_34 ⟨fun c1 => ⟨fun c2 => (WPc.kill [0, 2, 4] (b12_winter_82 (FRmk ((q.1 c1).1 c2)))), fun c2 => (WPm_mono gT d _ _ _ _ _ (fun r0 h' z0 => by obtain ⟨M1, rfl, z0⟩ := z0; exact WPc.kill [0, 2, 4] (b12_winter_82 (FRmk z0))) ((q.1 c1).2 c2))⟩, fun c1 => (WPm_mono gT d _ _ _ _ _ (fun r0 h' z0 => by obtain ⟨M1, rfl, z0⟩ := z0; exact b12_winter_44 (WPm_mono gT d _ _ _ _ _ (fun r1 h' z1 => by obtain ⟨M2, rfl, z1⟩ := z1; exact b12_winter_53 ⟨fun c3 => (WPm_mono gT d _ _ _ _ _ (fun r2 h' z2 => by obtain ⟨M3, rfl, z2⟩ := z2; exact WPc.kill [5] (b12_winter_65 (WPc.kill [5] (b12_winter_68 (WPc.kill [5] z2))))) (z1.1 c3)), fun c3 => (WPc.kill [5] (b12_winter_68 (WPc.kill [5] (z1.2 c3))))⟩) z0)) (q.2 c1))⟩
set_option maxRecDepth 20000 in
theorem e12_winter {d : Nat} {Φ : Int → (Nat → Nat → Int) → Prop} {x1 x2 : Int} {M : Nat → Nat → Int} {n : Nat × Nat} (q : CR d 182 [(1, x2), (1, 1), (1, 40)] (sI M 1 0 0) n (fun r0 M1 => (r0 ≠ 0 → CR d 233 [(2, 1)] M1 n (fun _ M2 => W12_winter_34 d n Φ x2 0 0 (sI M2 1 20 x1))) ∧ (¬ (r0 ≠ 0) → Φ (-3) M1))) : CR (d + 1) 254 [(2, 1), (0, x1), (0, x2)] M n Φ :=
  WPm_in g12_winter (Nat.le_of_ble_eq_true rfl) (b12_winter_0 (WPm_mono gT d _ _ _ _ _ (fun r0 h' z0 => by obtain ⟨M1, rfl, z0⟩ := z0; exact b12_winter_14 ⟨fun c4 => (WPm_mono gT d _ _ _ _ _ (fun r1 h' z1 => by obtain ⟨M2, rfl, z1⟩ := z1; exact b12_winter_24 (WPc.kill [1] z1)) (z0.1 c4)), fun c4 => (FRmk (z0.2 c4))⟩) q))
set_option maxRecDepth 20000 in
theorem b12_heardBy_24 {d : Nat} {F : mPost} {s0 : Int} {M : Nat → Nat → Int} {n : Nat × Nat} (q : F (0, s0) (hR M n)) : WPc t12_heardBy (WPm gT d) F (24, [(9, 0), (9, 0)], [(0, s0)], hR M n) :=
  vcK_ok (K := [11, 19, 24]) 19 _ q
set_option maxRecDepth 20000 in
theorem b12_heardBy_19 {d : Nat} {F : mPost} {s0 : Int} {M : Nat → Nat → Int} {n : Nat × Nat} (q : WPc t12_heardBy (WPm gT d) F (24, [(9, 0), (9, 0)], [(0, s0)], hR M n)) : WPc t12_heardBy (WPm gT d) F (19, [(9, 0), (9, 0)], [(0, s0)], hR M n) :=
  vcK_ok (K := [11, 19, 24]) 19 _ q
set_option maxRecDepth 20000 in
theorem b12_heardBy_11 {d : Nat} {F : mPost} {x1 s0 : Int} {M : Nat → Nat → Int} {n : Nat × Nat} (q : (s0 = 0 → WPc t12_heardBy (WPm gT d) F (24, [(2, 1), (0, x1)], [(0, (-2))], hR M n)) ∧ (¬ (s0 = 0) → WPm gT d 226 [(2, 1), (0, x1)] (hR M n) (fun r h' => WPc t12_heardBy (WPm gT d) F (19, [(2, 1), (0, x1)], [(0, r.2)], h')))) : WPc t12_heardBy (WPm gT d) F (11, [(2, 1), (0, x1)], [(0, s0)], hR M n) :=
  vcK_ok (K := [11, 19, 24]) 19 _ q
set_option maxRecDepth 20000 in
theorem b12_heardBy_0 {d : Nat} {F : mPost} {x1 : Int} {M : Nat → Nat → Int} {n : Nat × Nat} (q : WPm gT d 214 [(2, 1), (1, x1)] (hR (sI M 1 0 0) n) (fun r h' => WPc t12_heardBy (WPm gT d) F (11, [(2, 1), (0, x1)], [(0, r.2)], h'))) : WPc t12_heardBy (WPm gT d) F (0, [(2, 1), (0, x1)], [], hR M n) :=
  vcK_ok (K := [11, 19, 24]) 19 _ q
set_option maxRecDepth 20000 in
theorem e12_heardBy {d : Nat} {Φ : Int → (Nat → Nat → Int) → Prop} {x1 : Int} {M : Nat → Nat → Int} {n : Nat × Nat} (q : CR d 214 [(2, 1), (1, x1)] (sI M 1 0 0) n (fun r0 M1 => (r0 = 0 → Φ (-2) M1) ∧ (¬ (r0 = 0) → CR d 226 [(2, 1), (0, x1)] M1 n (fun r1 M2 => Φ r1 M2)))) : CR (d + 1) 255 [(2, 1), (0, x1)] M n Φ :=
  WPm_in g12_heardBy (Nat.le_of_ble_eq_true rfl) (b12_heardBy_0 (WPm_mono gT d _ _ _ _ _ (fun r0 h' z0 => by obtain ⟨M1, rfl, z0⟩ := z0; exact b12_heardBy_11 ⟨fun c1 => (WPc.kill [0, 1] (b12_heardBy_24 (FRmk (z0.1 c1)))), fun c1 => (WPm_mono gT d _ _ _ _ _ (fun r1 h' z1 => by obtain ⟨M2, rfl, z1⟩ := z1; exact WPc.kill [0, 1] (b12_heardBy_19 (WPc.kill [0, 1] (b12_heardBy_24 (FRmk z1))))) (z0.2 c1))⟩) q))
set_option maxRecDepth 20000 in
theorem b12_ear_40 {d : Nat} {F : mPost} {x1 x2 : Int} {M : Nat → Nat → Int} {n : Nat × Nat} (q : WPc t12_ear (WPm gT d) F (9, [(2, 1), (0, x1), (0, w32 (x2 + 1))], [], hR M n)) : WPc t12_ear (WPm gT d) F (40, [(2, 1), (0, x1), (0, x2)], [], hR M n) :=
  vcK_ok (K := [9, 24, 27, 32, 35, 40]) 33 _ q
set_option maxRecDepth 20000 in
theorem b12_ear_35 {d : Nat} {F : mPost} {x1 x2 s0 s1 : Int} {M : Nat → Nat → Int} {n : Nat × Nat} (q : (s0 ≤ s1 → WPc t12_ear (WPm gT d) F (40, [(2, 1), (0, x1), (0, x2)], [], hR M n)) ∧ (¬ (s0 ≤ s1) → WPc t12_ear (WPm gT d) F (40, [(2, 1), (0, x2), (0, x2)], [], hR M n))) : WPc t12_ear (WPm gT d) F (35, [(2, 1), (0, x1), (0, x2)], [(0, s1), (0, s0)], hR M n) :=
  vcK_ok (K := [9, 24, 27, 32, 35, 40]) 33 _ q
set_option maxRecDepth 20000 in
theorem b12_ear_32 {d : Nat} {F : mPost} {x1 x2 s0 s1 : Int} {M : Nat → Nat → Int} {n : Nat × Nat} (q : WPm gT d 218 [(0, s1)] (hR M n) (fun r h' => WPc t12_ear (WPm gT d) F (35, [(2, 1), (0, x1), (0, x2)], [(0, r.2), (0, s0)], h'))) : WPc t12_ear (WPm gT d) F (32, [(2, 1), (0, x1), (0, x2)], [(0, s1), (0, s0)], hR M n) :=
  vcK_ok (K := [9, 24, 27, 32, 35, 40]) 33 _ q
set_option maxRecDepth 20000 in
theorem b12_ear_27 {d : Nat} {F : mPost} {x1 x2 s0 : Int} {M : Nat → Nat → Int} {n : Nat × Nat} (q : WPm gT d 225 [(2, 1), (0, x1)] (hR M n) (fun r h' => WPc t12_ear (WPm gT d) F (32, [(2, 1), (0, x1), (0, x2)], [(0, r.2), (0, s0)], h'))) : WPc t12_ear (WPm gT d) F (27, [(2, 1), (0, x1), (0, x2)], [(0, s0)], hR M n) :=
  vcK_ok (K := [9, 24, 27, 32, 35, 40]) 33 _ q
set_option maxRecDepth 20000 in
theorem b12_ear_24 {d : Nat} {F : mPost} {x1 x2 s0 : Int} {M : Nat → Nat → Int} {n : Nat × Nat} (q : WPm gT d 218 [(0, s0)] (hR M n) (fun r h' => WPc t12_ear (WPm gT d) F (27, [(2, 1), (0, x1), (0, x2)], [(0, r.2)], h'))) : WPc t12_ear (WPm gT d) F (24, [(2, 1), (0, x1), (0, x2)], [(0, s0)], hR M n) :=
  vcK_ok (K := [9, 24, 27, 32, 35, 40]) 33 _ q
set_option maxRecDepth 20000 in
theorem b12_ear_9 {d : Nat} {F : mPost} {x1 x2 : Int} {M : Nat → Nat → Int} {n : Nat × Nat} (q : ((0 : Int) ≤ 1 ∧ (1 : Int) < ((3792 : Nat) : Int)) ∧ (((M 2 1) ≤ x2 → F (0, x1) (hR M n)) ∧ (¬ ((M 2 1) ≤ x2) → WPm gT d 225 [(2, 1), (0, x2)] (hR M n) (fun r h' => WPc t12_ear (WPm gT d) F (24, [(2, 1), (0, x1), (0, x2)], [(0, r.2)], h'))))) : WPc t12_ear (WPm gT d) F (9, [(2, 1), (0, x1), (0, x2)], [], hR M n) :=
  vcK_ok (K := [9, 24, 27, 32, 35, 40]) 33 _ q
set_option maxRecDepth 20000 in
theorem b12_ear_0 {d : Nat} {F : mPost} {M : Nat → Nat → Int} {n : Nat × Nat} (q : WPc t12_ear (WPm gT d) F (9, [(2, 1), (0, 0), (0, 1)], [], hR (sI M 1 0 0) n)) : WPc t12_ear (WPm gT d) F (0, [(2, 1), (9, 0), (9, 0)], [], hR M n) :=
  vcK_ok (K := [9, 24, 27, 32, 35, 40]) 33 _ q
def W12_ear_9 (d : Nat) (n : Nat × Nat) (Φ : Int → (Nat → Nat → Int) → Prop) (x1 x2 : Int) (M : Nat → Nat → Int) : Prop := WPc t12_ear (WPm gT d) (FR Φ n) (9, [(2, 1), (0, x1), (0, x2)], [], hR M n)
set_option maxRecDepth 20000 in
theorem v12_ear_9 {d : Nat} {Φ : Int → (Nat → Nat → Int) → Prop} {x1 x2 : Int} {M : Nat → Nat → Int} {n : Nat × Nat} (q : ((M 2 1) ≤ x2 → Φ x1 M) ∧ (¬ ((M 2 1) ≤ x2) → CR d 225 [(2, 1), (0, x2)] M n (fun r0 M1 => CR d 218 [(0, r0)] M1 n (fun r1 M2 => CR d 225 [(2, 1), (0, x1)] M2 n (fun r2 M3 => CR d 218 [(0, r2)] M3 n (fun r3 M4 => (r1 ≤ r3 → W12_ear_9 d n Φ x1 (w32 (x2 + 1)) M4) ∧ (¬ (r1 ≤ r3) → W12_ear_9 d n Φ x2 (w32 (x2 + 1)) M4))))))) : W12_ear_9 d n Φ x1 x2 M :=
  b12_ear_9 ⟨by decide, ⟨fun c1 => (FRmk (q.1 c1)), fun c1 => (WPm_mono gT d _ _ _ _ _ (fun r0 h' z0 => by obtain ⟨M1, rfl, z0⟩ := z0; exact b12_ear_24 (WPm_mono gT d _ _ _ _ _ (fun r1 h' z1 => by obtain ⟨M2, rfl, z1⟩ := z1; exact b12_ear_27 (WPm_mono gT d _ _ _ _ _ (fun r2 h' z2 => by obtain ⟨M3, rfl, z2⟩ := z2; exact b12_ear_32 (WPm_mono gT d _ _ _ _ _ (fun r3 h' z3 => by obtain ⟨M4, rfl, z3⟩ := z3; exact b12_ear_35 ⟨fun c2 => (b12_ear_40 (z3.1 c2)), fun c2 => (b12_ear_40 (z3.2 c2))⟩) z2)) z1)) z0)) (q.2 c1))⟩⟩
set_option maxRecDepth 20000 in
theorem e12_ear {d : Nat} {Φ : Int → (Nat → Nat → Int) → Prop} {M : Nat → Nat → Int} {n : Nat × Nat} (q : W12_ear_9 d n Φ 0 1 (sI M 1 0 0)) : CR (d + 1) 256 [(2, 1)] M n Φ :=
  WPm_in g12_ear (Nat.le_of_ble_eq_true rfl) (b12_ear_0 q)
set_option maxRecDepth 20000 in
theorem b12_areTwo_28 {d : Nat} {F : mPost} {s0 : Int} {M : Nat → Nat → Int} {n : Nat × Nat} (q : (s0 = 0 ∨ s0 = 1) ∧ F (0, s0) (hR M n)) : WPc t12_areTwo (WPm gT d) F (28, [(9, 0), (9, 0), (9, 0)], [(0, s0)], hR M n) :=
  vcK_ok (K := [6, 15, 27, 28]) 22 _ q
set_option maxRecDepth 20000 in
theorem b12_areTwo_27 {d : Nat} {F : mPost} {M : Nat → Nat → Int} {n : Nat × Nat} (q : WPc t12_areTwo (WPm gT d) F (28, [(9, 0), (9, 0), (9, 0)], [(0, 0)], hR M n)) : WPc t12_areTwo (WPm gT d) F (27, [(9, 0), (9, 0), (9, 0)], [], hR M n) :=
  vcK_ok (K := [6, 15, 27, 28]) 22 _ q
set_option maxRecDepth 20000 in
theorem b12_areTwo_15 {d : Nat} {F : mPost} {x1 x2 s0 : Int} {M : Nat → Nat → Int} {n : Nat × Nat} (q : (s0 = 0 → WPc t12_areTwo (WPm gT d) F (27, [(9, 0), (0, x1), (0, x2)], [], hR M n)) ∧ (¬ (s0 = 0) → (x1 = x2 → WPc t12_areTwo (WPm gT d) F (27, [(9, 0), (0, x1), (0, x2)], [], hR M n)) ∧ (¬ (x1 = x2) → WPc t12_areTwo (WPm gT d) F (28, [(9, 0), (0, x1), (0, x2)], [(0, 1)], hR M n)))) : WPc t12_areTwo (WPm gT d) F (15, [(9, 0), (0, x1), (0, x2)], [(0, s0)], hR M n) :=
  vcK_ok (K := [6, 15, 27, 28]) 22 _ q
set_option maxRecDepth 20000 in
theorem b12_areTwo_6 {d : Nat} {F : mPost} {x1 x2 s0 : Int} {M : Nat → Nat → Int} {n : Nat × Nat} (q : (s0 = 0 → WPc t12_areTwo (WPm gT d) F (27, [(2, 1), (0, x1), (0, x2)], [], hR M n)) ∧ (¬ (s0 = 0) → WPm gT d 214 [(2, 1), (1, x2)] (hR M n) (fun r h' => WPc t12_areTwo (WPm gT d) F (15, [(2, 1), (0, x1), (0, x2)], [(0, r.2)], h')))) : WPc t12_areTwo (WPm gT d) F (6, [(2, 1), (0, x1), (0, x2)], [(0, s0)], hR M n) :=
  vcK_ok (K := [6, 15, 27, 28]) 22 _ q
set_option maxRecDepth 20000 in
theorem b12_areTwo_0 {d : Nat} {F : mPost} {x1 x2 : Int} {M : Nat → Nat → Int} {n : Nat × Nat} (q : WPm gT d 214 [(2, 1), (1, x1)] (hR M n) (fun r h' => WPc t12_areTwo (WPm gT d) F (6, [(2, 1), (0, x1), (0, x2)], [(0, r.2)], h'))) : WPc t12_areTwo (WPm gT d) F (0, [(2, 1), (0, x1), (0, x2)], [], hR M n) :=
  vcK_ok (K := [6, 15, 27, 28]) 22 _ q
set_option maxRecDepth 20000 in
theorem e12_areTwo {d : Nat} {Φ : Int → (Nat → Nat → Int) → Prop} {x1 x2 : Int} {M : Nat → Nat → Int} {n : Nat × Nat} (q : CR d 214 [(2, 1), (1, x1)] M n (fun r0 M1 => (r0 = 0 → Φ 0 M1) ∧ (¬ (r0 = 0) → CR d 214 [(2, 1), (1, x2)] M1 n (fun r1 M2 => (r1 = 0 → Φ 0 M2) ∧ (¬ (r1 = 0) → (x1 = x2 → Φ 0 M2) ∧ (¬ (x1 = x2) → Φ 1 M2)))))) : CR (d + 1) 257 [(2, 1), (0, x1), (0, x2)] M n Φ :=
  WPm_in g12_areTwo (Nat.le_of_ble_eq_true rfl) (b12_areTwo_0 (WPm_mono gT d _ _ _ _ _ (fun r0 h' z0 => by obtain ⟨M1, rfl, z0⟩ := z0; exact b12_areTwo_6 ⟨fun c1 => (WPc.kill [0, 1, 2] (b12_areTwo_27 (WPc.kill [0, 1, 2] (b12_areTwo_28 ⟨by decide, FRmk (z0.1 c1)⟩)))), fun c1 => (WPm_mono gT d _ _ _ _ _ (fun r1 h' z1 => by obtain ⟨M2, rfl, z1⟩ := z1; exact WPc.kill [0] (b12_areTwo_15 ⟨fun c2 => (WPc.kill [0, 1, 2] (b12_areTwo_27 (WPc.kill [0, 1, 2] (b12_areTwo_28 ⟨by decide, FRmk (z1.1 c2)⟩)))), fun c2 => ⟨fun c3 => (WPc.kill [0, 1, 2] (b12_areTwo_27 (WPc.kill [0, 1, 2] (b12_areTwo_28 ⟨by decide, FRmk ((z1.2 c2).1 c3)⟩)))), fun c3 => (WPc.kill [0, 1, 2] (b12_areTwo_28 ⟨by decide, FRmk ((z1.2 c2).2 c3)⟩))⟩⟩)) (z0.2 c1))⟩) q))
set_option maxRecDepth 20000 in
theorem b12_needs_37 {d : Nat} {F : mPost} {s0 : Int} {M : Nat → Nat → Int} {n : Nat × Nat} (q : F (0, s0) (hR M n)) : WPc t12_needs (WPm gT d) F (37, [(9, 0), (9, 0), (9, 0)], [(0, s0)], hR M n) :=
  vcK_ok (K := [11, 25, 33, 37]) 26 _ q
set_option maxRecDepth 20000 in
theorem b12_needs_33 {d : Nat} {F : mPost} {s0 : Int} {M : Nat → Nat → Int} {n : Nat × Nat} (q : WPc t12_needs (WPm gT d) F (37, [(9, 0), (9, 0), (9, 0)], [(0, s0)], hR M n)) : WPc t12_needs (WPm gT d) F (33, [(9, 0), (9, 0), (9, 0)], [(0, s0)], hR M n) :=
  vcK_ok (K := [11, 25, 33, 37]) 26 _ q
set_option maxRecDepth 20000 in
theorem b12_needs_25 {d : Nat} {F : mPost} {x1 x2 s0 : Int} {M : Nat → Nat → Int} {n : Nat × Nat} (q : (s0 = 0 → WPc t12_needs (WPm gT d) F (37, [(9, 0), (0, x1), (0, x2)], [(0, 0)], hR M n)) ∧ (¬ (s0 = 0) → WPm gT d 222 [(0, x1), (0, x2)] (hR M n) (fun r h' => WPc t12_needs (WPm gT d) F (33, [(9, 0), (0, x1), (0, x2)], [(0, r.2)], h')))) : WPc t12_needs (WPm gT d) F (25, [(9, 0), (0, x1), (0, x2)], [(0, s0)], hR M n) :=
  vcK_ok (K := [11, 25, 33, 37]) 26 _ q
set_option maxRecDepth 20000 in
theorem b12_needs_11 {d : Nat} {F : mPost} {x1 x2 s0 : Int} {M : Nat → Nat → Int} {n : Nat × Nat} (q : (s0 ≠ 0 → WPm gT d 223 [(2, 1), (0, x1), (0, x2)] (hR M n) (fun r h' => WPc t12_needs (WPm gT d) F (25, [(2, 1), (0, x1), (0, x2)], [(0, r.2)], h'))) ∧ (¬ (s0 ≠ 0) → WPc t12_needs (WPm gT d) F (37, [(2, 1), (0, x1), (0, x2)], [(0, (-2))], hR M n))) : WPc t12_needs (WPm gT d) F (11, [(2, 1), (0, x1), (0, x2)], [(0, s0)], hR M n) :=
  vcK_ok (K := [11, 25, 33, 37]) 26 _ q
set_option maxRecDepth 20000 in
theorem b12_needs_0 {d : Nat} {F : mPost} {x1 x2 : Int} {M : Nat → Nat → Int} {n : Nat × Nat} (q : WPm gT d 257 [(2, 1), (0, x1), (0, x2)] (hR (sI M 1 0 0) n) (fun r h' => WPc t12_needs (WPm gT d) F (11, [(2, 1), (0, x1), (0, x2)], [(0, r.2)], h'))) : WPc t12_needs (WPm gT d) F (0, [(2, 1), (0, x1), (0, x2)], [], hR M n) :=
  vcK_ok (K := [11, 25, 33, 37]) 26 _ q
set_option maxRecDepth 20000 in
theorem e12_needs {d : Nat} {Φ : Int → (Nat → Nat → Int) → Prop} {x1 x2 : Int} {M : Nat → Nat → Int} {n : Nat × Nat} (q : CR d 257 [(2, 1), (0, x1), (0, x2)] (sI M 1 0 0) n (fun r0 M1 => (r0 ≠ 0 → CR d 223 [(2, 1), (0, x1), (0, x2)] M1 n (fun r1 M2 => (r1 = 0 → Φ 0 M2) ∧ (¬ (r1 = 0) → CR d 222 [(0, x1), (0, x2)] M2 n (fun r2 M3 => Φ r2 M3)))) ∧ (¬ (r0 ≠ 0) → Φ (-2) M1))) : CR (d + 1) 258 [(2, 1), (0, x1), (0, x2)] M n Φ :=
  WPm_in g12_needs (Nat.le_of_ble_eq_true rfl) (b12_needs_0 (WPm_mono gT d _ _ _ _ _ (fun r0 h' z0 => by obtain ⟨M1, rfl, z0⟩ := z0; exact b12_needs_11 ⟨fun c1 => (WPm_mono gT d _ _ _ _ _ (fun r1 h' z1 => by obtain ⟨M2, rfl, z1⟩ := z1; exact WPc.kill [0] (b12_needs_25 ⟨fun c2 => (WPc.kill [0, 1, 2] (b12_needs_37 (FRmk (z1.1 c2)))), fun c2 => (WPm_mono gT d _ _ _ _ _ (fun r2 h' z2 => by obtain ⟨M3, rfl, z2⟩ := z2; exact WPc.kill [0, 1, 2] (b12_needs_33 (WPc.kill [0, 1, 2] (b12_needs_37 (FRmk z2))))) (z1.2 c2))⟩)) (z0.1 c1)), fun c1 => (WPc.kill [0, 1, 2] (b12_needs_37 (FRmk (z0.2 c1))))⟩) q))
set_option maxRecDepth 20000 in
theorem b12_pieces_15 {d : Nat} {F : mPost} {s0 : Int} {M : Nat → Nat → Int} {n : Nat × Nat} (q : F (0, w32 (s0 + 1)) (hR M n)) : WPc t12_pieces (WPm gT d) F (15, [(9, 0)], [(0, s0)], hR M n) :=
  vcK_ok (K := [15]) 16 _ q
set_option maxRecDepth 20000 in
theorem b12_pieces_0 {d : Nat} {F : mPost} {M : Nat → Nat → Int} {n : Nat × Nat} (q : ((0 : Int) ≤ 67 ∧ (67 : Int) < ((3792 : Nat) : Int)) ∧ (WPm gT d 218 [(0, (sI M 1 0 0) 2 67)] (hR (sI M 1 0 0) n) (fun r h' => WPc t12_pieces (WPm gT d) F (15, [(2, 1)], [(0, r.2)], h')))) : WPc t12_pieces (WPm gT d) F (0, [(2, 1)], [], hR M n) :=
  vcK_ok (K := [15]) 16 _ q
set_option maxRecDepth 20000 in
theorem e12_pieces {d : Nat} {Φ : Int → (Nat → Nat → Int) → Prop} {M : Nat → Nat → Int} {n : Nat × Nat} (q : CR d 218 [(0, (sI M 1 0 0) 2 67)] (sI M 1 0 0) n (fun r0 M1 => Φ (w32 (r0 + 1)) M1)) : CR (d + 1) 259 [(2, 1)] M n Φ :=
  WPm_in g12_pieces (Nat.le_of_ble_eq_true rfl) (b12_pieces_0 ⟨by decide, (WPm_mono gT d _ _ _ _ _ (fun r0 h' z0 => by obtain ⟨M1, rfl, z0⟩ := z0; exact WPc.kill [0] (b12_pieces_15 (FRmk z0))) q)⟩)
set_option maxRecDepth 20000 in
theorem b12_listeners_92 {d : Nat} {F : mPost} {x1 x2 x3 : Int} {M : Nat → Nat → Int} {n : Nat × Nat} (q : WPc t12_listeners (WPm gT d) F (20, [(2, 1), (0, x1), (0, x2), (0, w32 (x3 + 1)), (9, 0), (9, 0)], [], hR M n)) : WPc t12_listeners (WPm gT d) F (92, [(2, 1), (0, x1), (0, x2), (0, x3), (9, 0), (9, 0)], [], hR M n) :=
  vcK_ok (K := [20, 31, 51, 60, 64, 83, 87, 92]) 63 _ q
set_option maxRecDepth 20000 in
theorem b12_listeners_87 {d : Nat} {F : mPost} {x1 x2 x3 s0 s1 : Int} {M : Nat → Nat → Int} {n : Nat × Nat} (q : (s1 ≤ s0 → WPc t12_listeners (WPm gT d) F (92, [(2, 1), (0, x1), (0, x2), (0, x3), (9, 0), (9, 0)], [], hR M n)) ∧ (¬ (s1 ≤ s0) → WPc t12_listeners (WPm gT d) F (92, [(2, 1), (0, x1), (0, x3), (0, x3), (9, 0), (9, 0)], [], hR M n))) : WPc t12_listeners (WPm gT d) F (87, [(2, 1), (0, x1), (0, x2), (0, x3), (9, 0), (9, 0)], [(0, s1), (0, s0)], hR M n) :=
  vcK_ok (K := [20, 31, 51, 60, 64, 83, 87, 92]) 63 _ q
set_option maxRecDepth 20000 in
theorem b12_listeners_83 {d : Nat} {F : mPost} {x1 x2 x3 s0 : Int} {M : Nat → Nat → Int} {n : Nat × Nat} (q : WPm gT d 218 [(0, x2)] (hR M n) (fun r h' => WPc t12_listeners (WPm gT d) F (87, [(2, 1), (0, x1), (0, x2), (0, x3), (9, 0), (9, 0)], [(0, r.2), (0, s0)], h'))) : WPc t12_listeners (WPm gT d) F (83, [(2, 1), (0, x1), (0, x2), (0, x3), (9, 0), (9, 0)], [(0, s0)], hR M n) :=
  vcK_ok (K := [20, 31, 51, 60, 64, 83, 87, 92]) 63 _ q
set_option maxRecDepth 20000 in
theorem b12_listeners_64 {d : Nat} {F : mPost} {x1 x2 x3 x5 s0 s1 : Int} {M : Nat → Nat → Int} {n : Nat × Nat} (q : WPc t12_listeners (WPm gT d) F (31, [(2, 1), (0, x1), (0, x2), (0, x3), (0, m_or s0 s1), (0, w32 (x5 + 1))], [], hR M n)) : WPc t12_listeners (WPm gT d) F (64, [(2, 1), (0, x1), (0, x2), (0, x3), (9, 0), (0, x5)], [(0, s1), (0, s0)], hR M n) :=
  vcK_ok (K := [20, 31, 51, 60, 64, 83, 87, 92]) 63 _ q
set_option maxRecDepth 20000 in
theorem b12_listeners_60 {d : Nat} {F : mPost} {x1 x2 x3 x5 s0 s1 : Int} {M : Nat → Nat → Int} {n : Nat × Nat} (q : WPc t12_listeners (WPm gT d) F (64, [(2, 1), (0, x1), (0, x2), (0, x3), (9, 0), (0, x5)], [(0, s1), (0, s0)], hR M n)) : WPc t12_listeners (WPm gT d) F (60, [(2, 1), (0, x1), (0, x2), (0, x3), (9, 0), (0, x5)], [(0, s1), (0, s0)], hR M n) :=
  vcK_ok (K := [20, 31, 51, 60, 64, 83, 87, 92]) 63 _ q
set_option maxRecDepth 20000 in
theorem b12_listeners_51 {d : Nat} {F : mPost} {x1 x2 x3 x5 s0 s1 : Int} {M : Nat → Nat → Int} {n : Nat × Nat} (q : (s1 = 0 → WPc t12_listeners (WPm gT d) F (64, [(2, 1), (0, x1), (0, x2), (0, x3), (9, 0), (0, x5)], [(0, 0), (0, s0)], hR M n)) ∧ (¬ (s1 = 0) → WPm gT d 225 [(2, 1), (0, x5)] (hR M n) (fun r h' => WPc t12_listeners (WPm gT d) F (60, [(2, 1), (0, x1), (0, x2), (0, x3), (9, 0), (0, x5)], [(0, r.2), (0, s0)], h')))) : WPc t12_listeners (WPm gT d) F (51, [(2, 1), (0, x1), (0, x2), (0, x3), (9, 0), (0, x5)], [(0, s1), (0, s0)], hR M n) :=
  vcK_ok (K := [20, 31, 51, 60, 64, 83, 87, 92]) 63 _ q
set_option maxRecDepth 20000 in
theorem b12_listeners_31 {d : Nat} {F : mPost} {x1 x2 x3 x4 x5 : Int} {M : Nat → Nat → Int} {n : Nat × Nat} (q : ((0 : Int) ≤ 1 ∧ (1 : Int) < ((3792 : Nat) : Int)) ∧ (((M 2 1) ≤ x5 → (x4 ≠ x1 → WPc t12_listeners (WPm gT d) F (92, [(2, 1), (0, x1), (0, x2), (0, x3), (0, x4), (0, x5)], [], hR M n)) ∧ (¬ (x4 ≠ x1) → WPm gT d 218 [(0, x3)] (hR M n) (fun r h' => WPc t12_listeners (WPm gT d) F (83, [(2, 1), (0, x1), (0, x2), (0, x3), (0, x4), (0, x5)], [(0, r.2)], h')))) ∧ (¬ ((M 2 1) ≤ x5) → WPm gT d 195 [(1, x3), (0, x5)] (hR M n) (fun r h' => WPc t12_listeners (WPm gT d) F (51, [(2, 1), (0, x1), (0, x2), (0, x3), (0, x4), (0, x5)], [(0, r.2), (0, x4)], h'))))) : WPc t12_listeners (WPm gT d) F (31, [(2, 1), (0, x1), (0, x2), (0, x3), (0, x4), (0, x5)], [], hR M n) :=
  vcK_ok (K := [20, 31, 51, 60, 64, 83, 87, 92]) 63 _ q
set_option maxRecDepth 20000 in
theorem b12_listeners_20 {d : Nat} {F : mPost} {x1 x2 x3 : Int} {M : Nat → Nat → Int} {n : Nat × Nat} (q : (x1 < x3 → F (0, x2) (hR M n)) ∧ (¬ (x1 < x3) → WPc t12_listeners (WPm gT d) F (31, [(2, 1), (0, x1), (0, x2), (0, x3), (0, x3), (0, 0)], [], hR M n))) : WPc t12_listeners (WPm gT d) F (20, [(2, 1), (0, x1), (0, x2), (0, x3), (9, 0), (9, 0)], [], hR M n) :=
  vcK_ok (K := [20, 31, 51, 60, 64, 83, 87, 92]) 63 _ q
set_option maxRecDepth 20000 in
theorem b12_listeners_0 {d : Nat} {F : mPost} {M : Nat → Nat → Int} {n : Nat × Nat} (q : ((0 : Int) ≤ 1 ∧ (1 : Int) < ((3792 : Nat) : Int)) ∧ (WPc t12_listeners (WPm gT d) F (20, [(2, 1), (0, w32 ((m_shl 1 ((sI M 1 0 0) 2 1)) - 1)), (0, w32 ((m_shl 1 ((sI M 1 0 0) 2 1)) - 1)), (0, 0), (9, 0), (9, 0)], [], hR (sI M 1 0 0) n))) : WPc t12_listeners (WPm gT d) F (0, [(2, 1), (9, 0), (9, 0), (9, 0), (9, 0), (9, 0)], [], hR M n) :=
  vcK_ok (K := [20, 31, 51, 60, 64, 83, 87, 92]) 63 _ q
def W12_listeners_20 (d : Nat) (n : Nat × Nat) (Φ : Int → (Nat → Nat → Int) → Prop) (x1 x2 x3 : Int) (M : Nat → Nat → Int) : Prop := WPc t12_listeners (WPm gT d) (FR Φ n) (20, [(2, 1), (0, x1), (0, x2), (0, x3), (9, 0), (9, 0)], [], hR M n)
def W12_listeners_31 (d : Nat) (n : Nat × Nat) (Φ : Int → (Nat → Nat → Int) → Prop) (x1 x2 x3 x4 x5 : Int) (M : Nat → Nat → Int) : Prop := WPc t12_listeners (WPm gT d) (FR Φ n) (31, [(2, 1), (0, x1), (0, x2), (0, x3), (0, x4), (0, x5)], [], hR M n)
set_option maxRecDepth 20000 in
theorem v12_listeners_20 {d : Nat} {Φ : Int → (Nat → Nat → Int) → Prop} {x1 x2 x3 : Int} {M : Nat → Nat → Int} {n : Nat × Nat} (q : (x1 < x3 → Φ x2 M) ∧ (¬ (x1 < x3) → W12_listeners_31 d n Φ x1 x2 x3 x3 0 M)) : W12_listeners_20 d n Φ x1 x2 x3 M :=
  b12_listeners_20 ⟨fun c1 => (FRmk (q.1 c1)), fun c1 => (q.2 c1)⟩
set_option maxRecDepth 20000 in
theorem v12_listeners_31 {d : Nat} {Φ : Int → (Nat → Nat → Int) → Prop} {x1 x2 x3 x4 x5 : Int} {M : Nat → Nat → Int} {n : Nat × Nat} (q : ((M 2 1) ≤ x5 → (x4 ≠ x1 → W12_listeners_20 d n Φ x1 x2 (w32 (x3 + 1)) M) ∧ (¬ (x4 ≠ x1) → CR d 218 [(0, x3)] M n (fun r0 M1 => CR d 218 [(0, x2)] M1 n (fun r1 M2 => (r1 ≤ r0 → W12_listeners_20 d n Φ x1 x2 (w32 (x3 + 1)) M2) ∧ (¬ (r1 ≤ r0) → W12_listeners_20 d n Φ x1 x3 (w32 (x3 + 1)) M2))))) ∧ (¬ ((M 2 1) ≤ x5) → CR d 195 [(1, x3), (0, x5)] M n (fun r0 M1 => (r0 = 0 → W12_listeners_31 d n Φ x1 x2 x3 (m_or x4 0) (w32 (x5 + 1)) M1) ∧ (¬ (r0 = 0) → CR d 225 [(2, 1), (0, x5)] M1 n (fun r1 M2 => W12_listeners_31 d n Φ x1 x2 x3 (m_or x4 r1) (w32 (x5 + 1)) M2))))) : W12_listeners_31 d n Φ x1 x2 x3 x4 x5 M :=
  b12_listeners_31 ⟨by decide, ⟨fun c2 => ⟨fun c3 => (WPc.kill [4, 5] (b12_listeners_92 (WPc.kill [4, 5] ((q.1 c2).1 c3)))), fun c3 => (WPm_mono gT d _ _ _ _ _ (fun r0 h' z0 => by obtain ⟨M1, rfl, z0⟩ := z0; exact WPc.kill [4, 5] (b12_listeners_83 (WPm_mono gT d _ _ _ _ _ (fun r1 h' z1 => by obtain ⟨M2, rfl, z1⟩ := z1; exact WPc.kill [4, 5] (b12_listeners_87 ⟨fun c4 => (WPc.kill [4, 5] (b12_listeners_92 (WPc.kill [4, 5] (z1.1 c4)))), fun c4 => (WPc.kill [4, 5] (b12_listeners_92 (WPc.kill [4, 5] (z1.2 c4))))⟩)) z0))) ((q.1 c2).2 c3))⟩, fun c2 => (WPm_mono gT d _ _ _ _ _ (fun r0 h' z0 => by obtain ⟨M1, rfl, z0⟩ := z0; exact WPc.kill [4] (b12_listeners_51 ⟨fun c5 => (WPc.kill [4] (b12_listeners_64 (z0.1 c5))), fun c5 => (WPm_mono gT d _ _ _ _ _ (fun r1 h' z1 => by obtain ⟨M2, rfl, z1⟩ := z1; exact WPc.kill [4] (b12_listeners_60 (WPc.kill [4] (b12_listeners_64 z1)))) (z0.2 c5))⟩)) (q.2 c2))⟩⟩
set_option maxRecDepth 20000 in
theorem e12_listeners {d : Nat} {Φ : Int → (Nat → Nat → Int) → Prop} {M : Nat → Nat → Int} {n : Nat × Nat} (q : W12_listeners_20 d n Φ (w32 ((m_shl 1 ((sI M 1 0 0) 2 1)) - 1)) (w32 ((m_shl 1 ((sI M 1 0 0) 2 1)) - 1)) 0 (sI M 1 0 0)) : CR (d + 1) 260 [(2, 1)] M n Φ :=
  WPm_in g12_listeners (Nat.le_of_ble_eq_true rfl) (b12_listeners_0 ⟨by decide, q⟩)
set_option maxRecDepth 20000 in
theorem b12_laysUsable_37 {d : Nat} {F : mPost} {x1 s1 s2 : Int} {M : Nat → Nat → Int} {n : Nat × Nat} (q : WPc t12_laysUsable (WPm gT d) F (7, [(2, 1), (0, w32 (x1 + 1))], [], hR (sI M 1 21 (m_or s1 s2)) n)) : WPc t12_laysUsable (WPm gT d) F (37, [(2, 1), (0, x1)], [(0, s2), (0, s1), (2, 1)], hR M n) :=
  vcK_ok (K := [7, 27, 37]) 33 _ q
set_option maxRecDepth 20000 in
theorem b12_laysUsable_27 {d : Nat} {F : mPost} {x1 s1 s2 : Int} {M : Nat → Nat → Int} {n : Nat × Nat} (q : (s2 = 0 → WPc t12_laysUsable (WPm gT d) F (37, [(2, 1), (0, x1)], [(0, 0), (0, s1), (2, 1)], hR M n)) ∧ (¬ (s2 = 0) → WPc t12_laysUsable (WPm gT d) F (37, [(2, 1), (0, x1)], [(0, m_shl 1 x1), (0, s1), (2, 1)], hR M n))) : WPc t12_laysUsable (WPm gT d) F (27, [(2, 1), (0, x1)], [(0, s2), (0, s1), (2, 1)], hR M n) :=
  vcK_ok (K := [7, 27, 37]) 33 _ q
set_option maxRecDepth 20000 in
theorem b12_laysUsable_7 {d : Nat} {F : mPost} {x1 : Int} {M : Nat → Nat → Int} {n : Nat × Nat} (q : ((0 : Int) ≤ 3 ∧ (3 : Int) < ((3792 : Nat) : Int)) ∧ (((M 2 3) ≤ x1 → F (9, 0) (hR M n)) ∧ (¬ ((M 2 3) ≤ x1) → WPm gT d 227 [(2, 1), (0, x1)] (hR M n) (fun r h' => WPc t12_laysUsable (WPm gT d) F (27, [(2, 1), (0, x1)], [(0, r.2), (0, M 1 21), (2, 1)], h'))))) : WPc t12_laysUsable (WPm gT d) F (7, [(2, 1), (0, x1)], [], hR M n) :=
  vcK_ok (K := [7, 27, 37]) 33 _ q
set_option maxRecDepth 20000 in
theorem b12_laysUsable_0 {d : Nat} {F : mPost} {M : Nat → Nat → Int} {n : Nat × Nat} (q : WPc t12_laysUsable (WPm gT d) F (7, [(2, 1), (0, 0)], [], hR (sI M 1 21 0) n)) : WPc t12_laysUsable (WPm gT d) F (0, [(2, 1), (9, 0)], [], hR M n) :=
  vcK_ok (K := [7, 27, 37]) 33 _ q
def W12_laysUsable_7 (d : Nat) (n : Nat × Nat) (Φ : Int → (Nat → Nat → Int) → Prop) (x1 : Int) (M : Nat → Nat → Int) : Prop := WPc t12_laysUsable (WPm gT d) (FR Φ n) (7, [(2, 1), (0, x1)], [], hR M n)
set_option maxRecDepth 20000 in
theorem v12_laysUsable_7 {d : Nat} {Φ : Int → (Nat → Nat → Int) → Prop} {x1 : Int} {M : Nat → Nat → Int} {n : Nat × Nat} (q : ((M 2 3) ≤ x1 → Φ 0 M) ∧ (¬ ((M 2 3) ≤ x1) → CR d 227 [(2, 1), (0, x1)] M n (fun r0 M1 => (r0 = 0 → W12_laysUsable_7 d n Φ (w32 (x1 + 1)) (sI M1 1 21 (m_or (M 1 21) 0))) ∧ (¬ (r0 = 0) → W12_laysUsable_7 d n Φ (w32 (x1 + 1)) (sI M1 1 21 (m_or (M 1 21) (m_shl 1 x1))))))) : W12_laysUsable_7 d n Φ x1 M :=
  b12_laysUsable_7 ⟨by decide, ⟨fun c1 => (FRmk (q.1 c1)), fun c1 => (WPm_mono gT d _ _ _ _ _ (fun r0 h' z0 => by obtain ⟨M1, rfl, z0⟩ := z0; exact b12_laysUsable_27 ⟨fun c2 => (b12_laysUsable_37 (z0.1 c2)), fun c2 => (b12_laysUsable_37 (z0.2 c2))⟩) (q.2 c1))⟩⟩
set_option maxRecDepth 20000 in
theorem e12_laysUsable {d : Nat} {Φ : Int → (Nat → Nat → Int) → Prop} {M : Nat → Nat → Int} {n : Nat × Nat} (q : W12_laysUsable_7 d n Φ 0 (sI M 1 21 0)) : CR (d + 1) 261 [(2, 1)] M n Φ :=
  WPm_in g12_laysUsable (Nat.le_of_ble_eq_true rfl) (b12_laysUsable_0 q)
set_option maxRecDepth 20000 in
theorem b12_isFrom_30 {d : Nat} {F : mPost} {s0 : Int} {M : Nat → Nat → Int} {n : Nat × Nat} (q : (s0 = 0 ∨ s0 = 1) ∧ F (0, s0) (hR M n)) : WPc t12_isFrom (WPm gT d) F (30, [(9, 0), (9, 0), (9, 0)], [(0, s0)], hR M n) :=
  vcK_ok (K := [9, 29, 30]) 23 _ q
set_option maxRecDepth 20000 in
theorem b12_isFrom_29 {d : Nat} {F : mPost} {M : Nat → Nat → Int} {n : Nat × Nat} (q : WPc t12_isFrom (WPm gT d) F (30, [(9, 0), (9, 0), (9, 0)], [(0, 0)], hR M n)) : WPc t12_isFrom (WPm gT d) F (29, [(9, 0), (9, 0), (9, 0)], [], hR M n) :=
  vcK_ok (K := [9, 29, 30]) 23 _ q
set_option maxRecDepth 20000 in
theorem b12_isFrom_9 {d : Nat} {F : mPost} {x1 x2 s0 : Int} {M : Nat → Nat → Int} {n : Nat × Nat} (q : (s0 = 0 → WPc t12_isFrom (WPm gT d) F (29, [(2, 1), (0, x1), (0, x2)], [], hR M n)) ∧ (¬ (s0 = 0) → (0 ≤ (w32 (13 + x1)) ∧ (w32 (13 + x1)) < ((3792 : Nat) : Int)) ∧ (((M 2 (w32 (13 + x1)).toNat) ≠ x2 → WPc t12_isFrom (WPm gT d) F (29, [(2, 1), (0, x1), (0, x2)], [], hR M n)) ∧ (¬ ((M 2 (w32 (13 + x1)).toNat) ≠ x2) → WPc t12_isFrom (WPm gT d) F (30, [(2, 1), (0, x1), (0, x2)], [(0, 1)], hR M n))))) : WPc t12_isFrom (WPm gT d) F (9, [(2, 1), (0, x1), (0, x2)], [(0, s0)], hR M n) :=
  vcK_ok (K := [9, 29, 30]) 23 _ q
set_option maxRecDepth 20000 in
theorem b12_isFrom_0 {d : Nat} {F : mPost} {x1 x2 : Int} {M : Nat → Nat → Int} {n : Nat × Nat} (q : WPm gT d 195 [(1, M 1 21), (0, x1)] (hR M n) (fun r h' => WPc t12_isFrom (WPm gT d) F (9, [(2, 1), (0, x1), (0, x2)], [(0, r.2)], h'))) : WPc t12_isFrom (WPm gT d) F (0, [(2, 1), (0, x1), (0, x2)], [], hR M n) :=
  vcK_ok (K := [9, 29, 30]) 23 _ q
set_option maxRecDepth 20000 in
theorem e12_isFrom {d : Nat} {Φ : Int → (Nat → Nat → Int) → Prop} {x1 x2 : Int} {M : Nat → Nat → Int} {n : Nat × Nat} (q : CR d 195 [(1, M 1 21), (0, x1)] M n (fun r0 M1 => (r0 = 0 → Φ 0 M1) ∧ (¬ (r0 = 0) → (0 ≤ (w32 (13 + x1)) ∧ (w32 (13 + x1)) < ((3792 : Nat) : Int)) ∧ (((M1 2 (w32 (13 + x1)).toNat) ≠ x2 → Φ 0 M1) ∧ (¬ ((M1 2 (w32 (13 + x1)).toNat) ≠ x2) → Φ 1 M1))))) : CR (d + 1) 262 [(2, 1), (0, x1), (0, x2)] M n Φ :=
  WPm_in g12_isFrom (Nat.le_of_ble_eq_true rfl) (b12_isFrom_0 (WPm_mono gT d _ _ _ _ _ (fun r0 h' z0 => by obtain ⟨M1, rfl, z0⟩ := z0; exact b12_isFrom_9 ⟨fun c1 => (WPc.kill [0, 1, 2] (b12_isFrom_29 (WPc.kill [0, 1, 2] (b12_isFrom_30 ⟨by decide, FRmk (z0.1 c1)⟩)))), fun c1 => ⟨(z0.2 c1).1, ⟨fun c2 => (WPc.kill [0, 1, 2] (b12_isFrom_29 (WPc.kill [0, 1, 2] (b12_isFrom_30 ⟨by decide, FRmk ((z0.2 c1).2.1 c2)⟩)))), fun c2 => (WPc.kill [0, 1, 2] (b12_isFrom_30 ⟨by decide, FRmk ((z0.2 c1).2.2 c2)⟩))⟩⟩⟩) q))
set_option maxRecDepth 20000 in
theorem b12_reach_94 {d : Nat} {F : mPost} {x2 x3 x4 : Int} {M : Nat → Nat → Int} {n : Nat × Nat} (q : WPc t12_reach (WPm gT d) F (37, [(2, 1), (9, 0), (0, x2), (0, x3), (0, w32 (x4 + 1))], [], hR M n)) : WPc t12_reach (WPm gT d) F (94, [(2, 1), (9, 0), (0, x2), (0, x3), (0, x4)], [], hR M n) :=
  vcK_ok (K := [11, 21, 27, 37, 58, 76, 94]) 68 _ q
set_option maxRecDepth 20000 in
theorem b12_reach_76 {d : Nat} {F : mPost} {x2 x3 x4 s0 : Int} {M : Nat → Nat → Int} {n : Nat × Nat} (q : (s0 = 0 → WPc t12_reach (WPm gT d) F (94, [(2, 1), (9, 0), (0, x2), (0, x3), (0, x4)], [], hR M n)) ∧ (¬ (s0 = 0) → (0 ≤ (w32 (25 + x4)) ∧ (w32 (25 + x4)) < ((3792 : Nat) : Int)) ∧ (WPc t12_reach (WPm gT d) F (94, [(2, 1), (9, 0), (0, x2), (0, m_or x3 (m_shl 1 (M 2 (w32 (25 + x4)).toNat))), (0, x4)], [], hR M n)))) : WPc t12_reach (WPm gT d) F (76, [(2, 1), (9, 0), (0, x2), (0, x3), (0, x4)], [(0, s0)], hR M n) :=
  vcK_ok (K := [11, 21, 27, 37, 58, 76, 94]) 68 _ q
set_option maxRecDepth 20000 in
theorem b12_reach_58 {d : Nat} {F : mPost} {x2 x3 x4 s0 : Int} {M : Nat → Nat → Int} {n : Nat × Nat} (q : (s0 = 0 → WPc t12_reach (WPm gT d) F (94, [(2, 1), (9, 0), (0, x2), (0, x3), (0, x4)], [], hR M n)) ∧ (¬ (s0 = 0) → (0 ≤ (w32 (13 + x4)) ∧ (w32 (13 + x4)) < ((3792 : Nat) : Int)) ∧ (WPm gT d 195 [(1, x2), (0, M 2 (w32 (13 + x4)).toNat)] (hR M n) (fun r h' => WPc t12_reach (WPm gT d) F (76, [(2, 1), (9, 0), (0, x2), (0, x3), (0, x4)], [(0, r.2)], h'))))) : WPc t12_reach (WPm gT d) F (58, [(2, 1), (9, 0), (0, x2), (0, x3), (0, x4)], [(0, s0)], hR M n) :=
  vcK_ok (K := [11, 21, 27, 37, 58, 76, 94]) 68 _ q
set_option maxRecDepth 20000 in
theorem b12_reach_37 {d : Nat} {F : mPost} {x2 x3 x4 : Int} {M : Nat → Nat → Int} {n : Nat × Nat} (q : ((0 : Int) ≤ 3 ∧ (3 : Int) < ((3792 : Nat) : Int)) ∧ (((M 2 3) ≤ x4 → WPc t12_reach (WPm gT d) F (27, [(2, 1), (9, 0), (0, x2), (0, x3), (0, x4)], [], hR M n)) ∧ (¬ ((M 2 3) ≤ x4) → WPm gT d 195 [(1, M 1 21), (0, x4)] (hR M n) (fun r h' => WPc t12_reach (WPm gT d) F (58, [(2, 1), (9, 0), (0, x2), (0, x3), (0, x4)], [(0, r.2)], h'))))) : WPc t12_reach (WPm gT d) F (37, [(2, 1), (9, 0), (0, x2), (0, x3), (0, x4)], [], hR M n) :=
  vcK_ok (K := [11, 21, 27, 37, 58, 76, 94]) 68 _ q
set_option maxRecDepth 20000 in
theorem b12_reach_27 {d : Nat} {F : mPost} {x2 x3 : Int} {M : Nat → Nat → Int} {n : Nat × Nat} (q : (x3 = x2 → F (0, x2) (hR M n)) ∧ (¬ (x3 = x2) → WPc t12_reach (WPm gT d) F (37, [(2, 1), (9, 0), (0, x3), (0, x3), (0, 0)], [], hR M n))) : WPc t12_reach (WPm gT d) F (27, [(2, 1), (9, 0), (0, x2), (0, x3), (9, 0)], [], hR M n) :=
  vcK_ok (K := [11, 21, 27, 37, 58, 76, 94]) 68 _ q
set_option maxRecDepth 20000 in
theorem b12_reach_21 {d : Nat} {F : mPost} {x1 : Int} {M : Nat → Nat → Int} {n : Nat × Nat} (q : WPc t12_reach (WPm gT d) F (27, [(2, 1), (0, x1), (0, 0), (0, m_shl 1 x1), (9, 0)], [], hR M n)) : WPc t12_reach (WPm gT d) F (21, [(2, 1), (0, x1), (9, 0), (9, 0), (9, 0)], [], hR M n) :=
  vcK_ok (K := [11, 21, 27, 37, 58, 76, 94]) 68 _ q
set_option maxRecDepth 20000 in
theorem b12_reach_11 {d : Nat} {F : mPost} {x1 s0 : Int} {M : Nat → Nat → Int} {n : Nat × Nat} (q : (s0 ≠ 0 → WPm gT d 261 [(2, 1)] (hR M n) (fun r h' => WPc t12_reach (WPm gT d) F (21, [(2, 1), (0, x1), (9, 0), (9, 0), (9, 0)], [], h'))) ∧ (¬ (s0 ≠ 0) → F (0, (-2)) (hR M n))) : WPc t12_reach (WPm gT d) F (11, [(2, 1), (0, x1), (9, 0), (9, 0), (9, 0)], [(0, s0)], hR M n) :=
  vcK_ok (K := [11, 21, 27, 37, 58, 76, 94]) 68 _ q
set_option maxRecDepth 20000 in
theorem b12_reach_0 {d : Nat} {F : mPost} {x1 : Int} {M : Nat → Nat → Int} {n : Nat × Nat} (q : WPm gT d 215 [(2, 1), (1, x1)] (hR (sI M 1 0 0) n) (fun r h' => WPc t12_reach (WPm gT d) F (11, [(2, 1), (0, x1), (9, 0), (9, 0), (9, 0)], [(0, r.2)], h'))) : WPc t12_reach (WPm gT d) F (0, [(2, 1), (0, x1), (9, 0), (9, 0), (9, 0)], [], hR M n) :=
  vcK_ok (K := [11, 21, 27, 37, 58, 76, 94]) 68 _ q
def W12_reach_27 (d : Nat) (n : Nat × Nat) (Φ : Int → (Nat → Nat → Int) → Prop) (x2 x3 : Int) (M : Nat → Nat → Int) : Prop := WPc t12_reach (WPm gT d) (FR Φ n) (27, [(2, 1), (9, 0), (0, x2), (0, x3), (9, 0)], [], hR M n)
def W12_reach_37 (d : Nat) (n : Nat × Nat) (Φ : Int → (Nat → Nat → Int) → Prop) (x2 x3 x4 : Int) (M : Nat → Nat → Int) : Prop := WPc t12_reach (WPm gT d) (FR Φ n) (37, [(2, 1), (9, 0), (0, x2), (0, x3), (0, x4)], [], hR M n)
set_option maxRecDepth 20000 in
theorem v12_reach_27 {d : Nat} {Φ : Int → (Nat → Nat → Int) → Prop} {x2 x3 : Int} {M : Nat → Nat → Int} {n : Nat × Nat} (q : (x3 = x2 → Φ x2 M) ∧ (¬ (x3 = x2) → W12_reach_37 d n Φ x3 x3 0 M)) : W12_reach_27 d n Φ x2 x3 M :=
  b12_reach_27 ⟨fun c1 => (FRmk (q.1 c1)), fun c1 => (q.2 c1)⟩
set_option maxRecDepth 20000 in
theorem v12_reach_37 {d : Nat} {Φ : Int → (Nat → Nat → Int) → Prop} {x2 x3 x4 : Int} {M : Nat → Nat → Int} {n : Nat × Nat} (q : ((M 2 3) ≤ x4 → W12_reach_27 d n Φ x2 x3 M) ∧ (¬ ((M 2 3) ≤ x4) → CR d 195 [(1, M 1 21), (0, x4)] M n (fun r0 M1 => (r0 = 0 → W12_reach_37 d n Φ x2 x3 (w32 (x4 + 1)) M1) ∧ (¬ (r0 = 0) → (0 ≤ (w32 (13 + x4)) ∧ (w32 (13 + x4)) < ((3792 : Nat) : Int)) ∧ (CR d 195 [(1, x2), (0, M1 2 (w32 (13 + x4)).toNat)] M1 n (fun r1 M2 => (r1 = 0 → W12_reach_37 d n Φ x2 x3 (w32 (x4 + 1)) M2) ∧ (¬ (r1 = 0) → (0 ≤ (w32 (25 + x4)) ∧ (w32 (25 + x4)) < ((3792 : Nat) : Int)) ∧ (W12_reach_37 d n Φ x2 (m_or x3 (m_shl 1 (M2 2 (w32 (25 + x4)).toNat))) (w32 (x4 + 1)) M2)))))))) : W12_reach_37 d n Φ x2 x3 x4 M :=
  b12_reach_37 ⟨by decide, ⟨fun c2 => (WPc.kill [4] (q.1 c2)), fun c2 => (WPm_mono gT d _ _ _ _ _ (fun r0 h' z0 => by obtain ⟨M1, rfl, z0⟩ := z0; exact b12_reach_58 ⟨fun c3 => (b12_reach_94 (z0.1 c3)), fun c3 => ⟨(z0.2 c3).1, (WPm_mono gT d _ _ _ _ _ (fun r1 h' z1 => by obtain ⟨M2, rfl, z1⟩ := z1; exact b12_reach_76 ⟨fun c4 => (b12_reach_94 (z1.1 c4)), fun c4 => ⟨(z1.2 c4).1, (b12_reach_94 (z1.2 c4).2)⟩⟩) (z0.2 c3).2)⟩⟩) (q.2 c2))⟩⟩
set_option maxRecDepth 20000 in
theorem e12_reach {d : Nat} {Φ : Int → (Nat → Nat → Int) → Prop} {x1 : Int} {M : Nat → Nat → Int} {n : Nat × Nat} (q : CR d 215 [(2, 1), (1, x1)] (sI M 1 0 0) n (fun r0 M1 => (r0 ≠ 0 → CR d 261 [(2, 1)] M1 n (fun _ M2 => W12_reach_27 d n Φ 0 (m_shl 1 x1) M2)) ∧ (¬ (r0 ≠ 0) → Φ (-2) M1))) : CR (d + 1) 263 [(2, 1), (0, x1)] M n Φ :=
  WPm_in g12_reach (Nat.le_of_ble_eq_true rfl) (b12_reach_0 (WPm_mono gT d _ _ _ _ _ (fun r0 h' z0 => by obtain ⟨M1, rfl, z0⟩ := z0; exact b12_reach_11 ⟨fun c5 => (WPm_mono gT d _ _ _ _ _ (fun r1 h' z1 => by obtain ⟨M2, rfl, z1⟩ := z1; exact b12_reach_21 (WPc.kill [1] z1)) (z0.1 c5)), fun c5 => (FRmk (z0.2 c5))⟩) q))
