/-! ===== image: the class; its rows of code (as printed for the others) ===== -/
set_option maxRecDepth 20000 in
theorem b11_image_0 {d : Nat} {F : mPost} {x1 : Int} {w : cQ} {M : Nat → Nat → Int} {n : Nat × Nat} (q : (true = true) ∧ ((true = true) ∧ ((x1 < 0 → WPc t11_image (WPm gT d) F (9, [(2, 1), (0, x1)], [], hC w M n)) ∧ (¬ (x1 < 0) → (true = true) ∧ ((true = true) ∧ ((true = true) ∧ ((x1 < 2 → WPc t11_image (WPm gT d) F (12, [(2, 1), (0, x1)], [], hC w M n)) ∧ (¬ (x1 < 2) → WPc t11_image (WPm gT d) F (9, [(2, 1), (0, x1)], [], hC w M n))))))))) : WPc t11_image (WPm gT d) F (0, [(2, 1), (0, x1)], [], hC w M n) :=
  vcJ_ok (K := [9, 12, 30, 42, 43, 55, 56, 72, 88]) 40 _ q
set_option maxRecDepth 20000 in
theorem b11_image_9 {d : Nat} {F : mPost} {x1 : Int} {w : cQ} {M : Nat → Nat → Int} {n : Nat × Nat} (q : (true = true) ∧ ((true = true) ∧ (F (0, (-2)) (hC w M n)))) : WPc t11_image (WPm gT d) F (9, [(2, 1), (0, x1)], [], hC w M n) :=
  vcJ_ok (K := [9, 12, 30, 42, 43, 55, 56, 72, 88]) 40 _ q
set_option maxRecDepth 20000 in
theorem b11_image_12 {d : Nat} {F : mPost} {x1 : Int} {w : cQ} {M : Nat → Nat → Int} {n : Nat × Nat} (q : (true = true) ∧ ((true = true) ∧ ((true = true) ∧ ((true = true) ∧ ((0 ≤ x1 ∧ x1 < ((2 : Nat) : Int)) ∧ ((true = true) ∧ ((((rfC w 11 x1.toNat : Nat) : Int) = 0 → WPc t11_image (WPm gT d) F (30, [(2, 1), (0, x1)], [], hC w M n)) ∧ (¬ (((rfC w 11 x1.toNat : Nat) : Int) = 0) → (true = true) ∧ ((true = true) ∧ ((true = true) ∧ ((true = true) ∧ ((0 ≤ x1 ∧ x1 < ((2 : Nat) : Int)) ∧ ((true = true) ∧ ((((rfC w 12 x1.toNat : Nat) : Int) ≠ 0 → WPc t11_image (WPm gT d) F (56, [(2, 1), (0, x1)], [], hC w M n)) ∧ (¬ (((rfC w 12 x1.toNat : Nat) : Int) ≠ 0) → WPc t11_image (WPm gT d) F (30, [(2, 1), (0, x1)], [], hC w M n)))))))))))))))) : WPc t11_image (WPm gT d) F (12, [(2, 1), (0, x1)], [], hC w M n) :=
  vcJ_ok (K := [9, 12, 30, 42, 43, 55, 56, 72, 88]) 40 _ q
set_option maxRecDepth 20000 in
theorem b11_image_30 {d : Nat} {F : mPost} {x1 : Int} {w : cQ} {M : Nat → Nat → Int} {n : Nat × Nat} (q : (true = true) ∧ ((true = true) ∧ ((true = true) ∧ ((true = true) ∧ ((n.1 + 1 ≤ 600000 ∧ n.2 + 16 ≤ 7302249) ∧ (∃ p : Nat, ((Nat.beq (mKd (hC w M n) p) 0 && Nat.ble 1 p) = true) ∧ ((true = true) ∧ (((true && true && (false || (true && Nat.beq (mKd (mNew (hC w M n) p 12 16) p) 12))) = true) ∧ (WPm gT d 20 [(2, ((p : Nat) : Int))] (mNew (hC w M n) p 12 16) (fun _ h' => WPc t11_image (WPm gT d) F (42, [(2, 1), (0, x1)], [(2, ((p : Nat) : Int)), (0, x1), (2, 11)], h'))))))))))) : WPc t11_image (WPm gT d) F (30, [(2, 1), (0, x1)], [], hC w M n) :=
  vcJ_ok (K := [9, 12, 30, 42, 43, 55, 56, 72, 88]) 40 _ q
set_option maxRecDepth 20000 in
theorem b11_image_42 {d : Nat} {F : mPost} {x1 : Int} {h : mH} {p : Nat} (q : ((true && Nat.beq (mKd h p) 12 && true && true && Nat.beq (mKd h 11) 42) = true) ∧ ((0 ≤ x1 ∧ x1 < ((mLn h 11 : Nat) : Int)) ∧ (WPc t11_image (WPm gT d) F (43, [(2, 1), (0, x1)], [], mPut h 11 x1.toNat p)))) : WPc t11_image (WPm gT d) F (42, [(2, 1), (0, x1)], [(2, ((p : Nat) : Int)), (0, x1), (2, 11)], h) :=
  vcJ_ok (K := [9, 12, 30, 42, 43, 55, 56, 72, 88]) 40 _ q
set_option maxRecDepth 20000 in
theorem b11_image_43 {d : Nat} {F : mPost} {x1 : Int} {h : mH} (q : (true = true) ∧ (((true && Nat.beq (mKd h 1) 21) = true) ∧ ((true = true) ∧ ((true = true) ∧ ((h.2.2.2.1 + 1 ≤ 600000 ∧ h.2.2.2.2 + 6 ≤ 7302249) ∧ (∃ p : Nat, ((Nat.beq (mKd (h) p) 0 && Nat.ble 1 p) = true) ∧ ((true = true) ∧ (((true && true && (false || (true && Nat.beq (mKd (mNew (h) p 17 6) p) 17))) = true) ∧ (WPm gT d 69 [(2, ((p : Nat) : Int))] (mNew (h) p 17 6) (fun _ h' => WPc t11_image (WPm gT d) F (55, [(2, 1), (0, x1)], [(2, ((p : Nat) : Int)), (0, x1), (2, ((h.2.1 1 8 : Nat) : Int))], h'))))))))))) : WPc t11_image (WPm gT d) F (43, [(2, 1), (0, x1)], [], h) :=
  vcJ_ok (K := [9, 12, 30, 42, 43, 55, 56, 72, 88]) 40 _ q
set_option maxRecDepth 20000 in
theorem b11_image_55 {d : Nat} {F : mPost} {x1 : Int} {h : mH} {p v : Nat} (q : ((true && Nat.beq (mKd h p) 17 && true && true && Nat.beq (mKd h v) 47) = true) ∧ ((0 ≤ x1 ∧ x1 < ((mLn h v : Nat) : Int)) ∧ (WPc t11_image (WPm gT d) F (56, [(2, 1), (0, x1)], [], mPut h v x1.toNat p)))) : WPc t11_image (WPm gT d) F (55, [(2, 1), (0, x1)], [(2, ((p : Nat) : Int)), (0, x1), (2, ((v : Nat) : Int))], h) :=
  vcJ_ok (K := [9, 12, 30, 42, 43, 55, 56, 72, 88]) 40 _ q
set_option maxRecDepth 20000 in
theorem b11_image_56 {d : Nat} {F : mPost} {x1 : Int} {w : cQ} {M : Nat → Nat → Int} {n : Nat × Nat} (q : (true = true) ∧ ((true = true) ∧ ((true = true) ∧ ((true = true) ∧ ((0 ≤ x1 ∧ x1 < ((2 : Nat) : Int)) ∧ ((true = true) ∧ ((true = true) ∧ ((true = true) ∧ (((true && true && (false || (true && Nat.beq (shC w (rfC w 11 x1.toNat)).1 12))) = true) ∧ (WPm gT d 22 [(2, ((rfC w 11 x1.toNat : Nat) : Int)), (2, 29)] (hC w M n) (fun _ h' => WPc t11_image (WPm gT d) F (72, [(2, 1), (0, x1)], [], h')))))))))))) : WPc t11_image (WPm gT d) F (56, [(2, 1), (0, x1)], [], hC w M n) :=
  vcJ_ok (K := [9, 12, 30, 42, 43, 55, 56, 72, 88]) 40 _ q
set_option maxRecDepth 20000 in
theorem b11_image_72 {d : Nat} {F : mPost} {x1 : Int} {w : cQ} {M : Nat → Nat → Int} {n : Nat × Nat} (q : (true = true) ∧ ((true = true) ∧ ((true = true) ∧ ((true = true) ∧ ((0 ≤ x1 ∧ x1 < ((2 : Nat) : Int)) ∧ ((true = true) ∧ ((true = true) ∧ ((true = true) ∧ (((true && true && (false || (true && Nat.beq (shC w (rfC w 12 x1.toNat)).1 17))) = true) ∧ (WPm gT d 71 [(2, ((rfC w 12 x1.toNat : Nat) : Int)), (2, 38)] (hC w M n) (fun _ h' => WPc t11_image (WPm gT d) F (88, [(2, 1), (0, x1)], [], h')))))))))))) : WPc t11_image (WPm gT d) F (72, [(2, 1), (0, x1)], [], hC w M n) :=
  vcJ_ok (K := [9, 12, 30, 42, 43, 55, 56, 72, 88]) 40 _ q
set_option maxRecDepth 20000 in
theorem b11_image_88 {d : Nat} {F : mPost} {x1 : Int} {w : cQ} {M : Nat → Nat → Int} {n : Nat × Nat} (q : (true = true) ∧ ((true = true) ∧ (F (0, 0) (hC w M n)))) : WPc t11_image (WPm gT d) F (88, [(2, 1), (0, x1)], [], hC w M n) :=
  vcJ_ok (K := [9, 12, 30, 42, 43, 55, 56, 72, 88]) 40 _ q
