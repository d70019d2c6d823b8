/-! ===== constructors of the class: its rows of code (printed by program) ===== -/
set_option maxRecDepth 20000 in
theorem bi11_init_0 {d : Nat} {F : mPost} {h : mH} {a : Nat} (q : (true = true) ∧ (((true && Nat.ble 1 a && true) = true) ∧ (WPc t11_init (WPm gT d) F (4, [(2, ((a : Nat) : Int)), (9, 0)], [], h)))) : WPc t11_init (WPm gT d) F (0, [(2, ((a : Nat) : Int)), (9, 0)], [], h) :=
  vcJ_ok (K := [4, 13, 21, 24, 32, 35, 43, 46, 54, 57, 65, 73, 81, 93, 96, 108, 111, 123, 126, 134, 136, 141, 153, 154, 160]) 40 _ q
set_option maxRecDepth 20000 in
theorem bi11_init_4 {d : Nat} {F : mPost} {h : mH} {a : Nat} (q : (true = true) ∧ ((true = true) ∧ ((true = true) ∧ ((0 ≤ (900 : Int) ∧ (900 : Int) ≤ 100000 ∧ h.2.2.2.1 + 1 ≤ 600000 ∧ h.2.2.2.2 + 900 ≤ 7302249) ∧ (∃ p : Nat, ((Nat.beq (mKd h p) 0 && Nat.ble 1 p) = true) ∧ (((true && Nat.beq (mKd (mNew h p 2 900) a) 21 && true) = true) ∧ (WPc t11_init (WPm gT d) F (13, [(2, ((a : Nat) : Int)), (9, 0)], [], mPut (mNew h p 2 900) a 0 p)))))))) : WPc t11_init (WPm gT d) F (4, [(2, ((a : Nat) : Int)), (9, 0)], [], h) :=
  vcJ_ok (K := [4, 13, 21, 24, 32, 35, 43, 46, 54, 57, 65, 73, 81, 93, 96, 108, 111, 123, 126, 134, 136, 141, 153, 154, 160]) 40 _ q
set_option maxRecDepth 20000 in
theorem bi11_init_13 {d : Nat} {F : mPost} {h : mH} {a : Nat} (q : (true = true) ∧ ((true = true) ∧ ((h.2.2.2.1 + 1 ≤ 600000 ∧ h.2.2.2.2 + 10 ≤ 7302249) ∧ (∃ p : Nat, ((Nat.beq (mKd h p) 0 && Nat.ble 1 p) = true) ∧ ((true = true) ∧ (((true && true && (false || (true && Nat.beq (mKd (mNew h p 14 10) p) 14))) = true) ∧ (WPm gT d 30 [(2, ((p : Nat) : Int))] (mNew h p 14 10) (fun _ h' => WPc t11_init (WPm gT d) F (21, [(2, ((a : Nat) : Int)), (9, 0)], [(2, ((p : Nat) : Int)), (2, ((a : Nat) : Int))], h'))))))))) : WPc t11_init (WPm gT d) F (13, [(2, ((a : Nat) : Int)), (9, 0)], [], h) :=
  vcJ_ok (K := [4, 13, 21, 24, 32, 35, 43, 46, 54, 57, 65, 73, 81, 93, 96, 108, 111, 123, 126, 134, 136, 141, 153, 154, 160]) 40 _ q
set_option maxRecDepth 20000 in
theorem bi4_init_0 {d : Nat} {F : mPost} {h : mH} {a : Nat} (q : (true = true) ∧ (((true && Nat.ble 1 a && true) = true) ∧ (WPc t4_init (WPm gT d) F (4, [(2, ((a : Nat) : Int))], [], h)))) : WPc t4_init (WPm gT d) F (0, [(2, ((a : Nat) : Int))], [], h) :=
  vcJ_ok (K := [4, 12, 15, 20, 28, 31, 38]) 40 _ q
set_option maxRecDepth 20000 in
theorem bi4_init_4 {d : Nat} {F : mPost} {h : mH} {a : Nat} (q : (true = true) ∧ ((true = true) ∧ ((h.2.2.2.1 + 1 ≤ 600000 ∧ h.2.2.2.2 + 16 ≤ 7302249) ∧ (∃ p : Nat, ((Nat.beq (mKd h p) 0 && Nat.ble 1 p) = true) ∧ ((true = true) ∧ (((true && true && (false || (true && Nat.beq (mKd (mNew h p 12 16) p) 12))) = true) ∧ (WPm gT d 20 [(2, ((p : Nat) : Int))] (mNew h p 12 16) (fun _ h' => WPc t4_init (WPm gT d) F (12, [(2, ((a : Nat) : Int))], [(2, ((p : Nat) : Int)), (2, ((a : Nat) : Int))], h'))))))))) : WPc t4_init (WPm gT d) F (4, [(2, ((a : Nat) : Int))], [], h) :=
  vcJ_ok (K := [4, 12, 15, 20, 28, 31, 38]) 40 _ q
set_option maxRecDepth 20000 in
theorem bi4_init_12 {d : Nat} {F : mPost} {h : mH} {a : Nat} {p : Nat} (q : ((true && Nat.beq (mKd h a) 14 && true) = true) ∧ (WPc t4_init (WPm gT d) F (15, [(2, ((a : Nat) : Int))], [], mPut h a 0 p))) : WPc t4_init (WPm gT d) F (12, [(2, ((a : Nat) : Int))], [(2, ((p : Nat) : Int)), (2, ((a : Nat) : Int))], h) :=
  vcJ_ok (K := [4, 12, 15, 20, 28, 31, 38]) 40 _ q
set_option maxRecDepth 20000 in
theorem bi4_init_15 {d : Nat} {F : mPost} {h : mH} {a : Nat} (q : (true = true) ∧ ((true = true) ∧ (((true && Nat.beq (mKd h a) 14 && true) = true) ∧ (WPc t4_init (WPm gT d) F (20, [(2, ((a : Nat) : Int))], [], mSet h a 2 (-1)))))) : WPc t4_init (WPm gT d) F (15, [(2, ((a : Nat) : Int))], [], h) :=
  vcJ_ok (K := [4, 12, 15, 20, 28, 31, 38]) 40 _ q
set_option maxRecDepth 20000 in
theorem bi4_init_20 {d : Nat} {F : mPost} {h : mH} {a : Nat} (q : (true = true) ∧ ((true = true) ∧ ((h.2.2.2.1 + 1 ≤ 600000 ∧ h.2.2.2.2 + 10 ≤ 7302249) ∧ (∃ p : Nat, ((Nat.beq (mKd h p) 0 && Nat.ble 1 p) = true) ∧ ((true = true) ∧ (((true && true && (false || (true && Nat.beq (mKd (mNew h p 11 10) p) 11))) = true) ∧ (WPm gT d 6 [(2, ((p : Nat) : Int))] (mNew h p 11 10) (fun _ h' => WPc t4_init (WPm gT d) F (28, [(2, ((a : Nat) : Int))], [(2, ((p : Nat) : Int)), (2, ((a : Nat) : Int))], h'))))))))) : WPc t4_init (WPm gT d) F (20, [(2, ((a : Nat) : Int))], [], h) :=
  vcJ_ok (K := [4, 12, 15, 20, 28, 31, 38]) 40 _ q
set_option maxRecDepth 20000 in
theorem bi1_init_0 {d : Nat} {F : mPost} {h : mH} {a : Nat} (q : (true = true) ∧ (((true && Nat.ble 1 a && true) = true) ∧ (WPc t1_init (WPm gT d) F (4, [(2, ((a : Nat) : Int))], [], h)))) : WPc t1_init (WPm gT d) F (0, [(2, ((a : Nat) : Int))], [], h) :=
  vcJ_ok (K := [4, 12]) 40 _ q
set_option maxRecDepth 20000 in
theorem bi1_init_4 {d : Nat} {F : mPost} {h : mH} {a : Nat} (q : (true = true) ∧ ((true = true) ∧ ((true = true) ∧ ((0 ≤ (64 : Int) ∧ (64 : Int) ≤ 100000 ∧ h.2.2.2.1 + 1 ≤ 600000 ∧ h.2.2.2.2 + 64 ≤ 7302249) ∧ (∃ p : Nat, ((Nat.beq (mKd h p) 0 && Nat.ble 1 p) = true) ∧ (((true && Nat.beq (mKd (mNew h p 1 64) a) 11 && true) = true) ∧ (WPc t1_init (WPm gT d) F (12, [(2, ((a : Nat) : Int))], [], mPut (mNew h p 1 64) a 3 p)))))))) : WPc t1_init (WPm gT d) F (4, [(2, ((a : Nat) : Int))], [], h) :=
  vcJ_ok (K := [4, 12]) 40 _ q
set_option maxRecDepth 20000 in
theorem bi1_init_12 {d : Nat} {F : mPost} {h : mH} {a : Nat} (q : (true = true) ∧ (F (9, 0) h)) : WPc t1_init (WPm gT d) F (12, [(2, ((a : Nat) : Int))], [], h) :=
  vcJ_ok (K := [4, 12]) 40 _ q
set_option maxRecDepth 20000 in
theorem bi4_init_28 {d : Nat} {F : mPost} {h : mH} {a : Nat} {p : Nat} (q : ((true && Nat.beq (mKd h a) 14 && true) = true) ∧ (WPc t4_init (WPm gT d) F (31, [(2, ((a : Nat) : Int))], [], mPut h a 3 p))) : WPc t4_init (WPm gT d) F (28, [(2, ((a : Nat) : Int))], [(2, ((p : Nat) : Int)), (2, ((a : Nat) : Int))], h) :=
  vcJ_ok (K := [4, 12, 15, 20, 28, 31, 38]) 40 _ q
set_option maxRecDepth 20000 in
theorem bi4_init_31 {d : Nat} {F : mPost} {h : mH} {a : Nat} (q : (true = true) ∧ ((true = true) ∧ ((true = true) ∧ ((0 ≤ (0 : Int) ∧ (0 : Int) ≤ 100000 ∧ h.2.2.2.1 + 1 ≤ 600000 ∧ h.2.2.2.2 + 0 ≤ 7302249) ∧ (∃ p : Nat, ((Nat.beq (mKd h p) 0 && Nat.ble 1 p) = true) ∧ (((true && Nat.beq (mKd (mNew h p 2 0) a) 14 && true) = true) ∧ (WPc t4_init (WPm gT d) F (38, [(2, ((a : Nat) : Int))], [], mPut (mNew h p 2 0) a 4 p)))))))) : WPc t4_init (WPm gT d) F (31, [(2, ((a : Nat) : Int))], [], h) :=
  vcJ_ok (K := [4, 12, 15, 20, 28, 31, 38]) 40 _ q
set_option maxRecDepth 20000 in
theorem bi4_init_38 {d : Nat} {F : mPost} {h : mH} {a : Nat} (q : (true = true) ∧ (F (9, 0) h)) : WPc t4_init (WPm gT d) F (38, [(2, ((a : Nat) : Int))], [], h) :=
  vcJ_ok (K := [4, 12, 15, 20, 28, 31, 38]) 40 _ q
set_option maxRecDepth 20000 in
theorem bi11_init_21 {d : Nat} {F : mPost} {h : mH} {a : Nat} {p : Nat} (q : ((true && Nat.beq (mKd h a) 21 && true) = true) ∧ (WPc t11_init (WPm gT d) F (24, [(2, ((a : Nat) : Int)), (9, 0)], [], mPut h a 2 p))) : WPc t11_init (WPm gT d) F (21, [(2, ((a : Nat) : Int)), (9, 0)], [(2, ((p : Nat) : Int)), (2, ((a : Nat) : Int))], h) :=
  vcJ_ok (K := [4, 13, 21, 24, 32, 35, 43, 46, 54, 57, 65, 73, 81, 93, 96, 108, 111, 123, 126, 134, 136, 141, 153, 154, 160]) 40 _ q
set_option maxRecDepth 20000 in
theorem bi11_init_24 {d : Nat} {F : mPost} {h : mH} {a : Nat} (q : (true = true) ∧ ((true = true) ∧ ((h.2.2.2.1 + 1 ≤ 600000 ∧ h.2.2.2.2 + 5 ≤ 7302249) ∧ (∃ p : Nat, ((Nat.beq (mKd h p) 0 && Nat.ble 1 p) = true) ∧ ((true = true) ∧ (((true && true && (false || (true && Nat.beq (mKd (mNew h p 20 5) p) 20))) = true) ∧ (WPm gT d 90 [(2, ((p : Nat) : Int))] (mNew h p 20 5) (fun _ h' => WPc t11_init (WPm gT d) F (32, [(2, ((a : Nat) : Int)), (9, 0)], [(2, ((p : Nat) : Int)), (2, ((a : Nat) : Int))], h'))))))))) : WPc t11_init (WPm gT d) F (24, [(2, ((a : Nat) : Int)), (9, 0)], [], h) :=
  vcJ_ok (K := [4, 13, 21, 24, 32, 35, 43, 46, 54, 57, 65, 73, 81, 93, 96, 108, 111, 123, 126, 134, 136, 141, 153, 154, 160]) 40 _ q
set_option maxRecDepth 20000 in
theorem bi10_init_0 {d : Nat} {F : mPost} {h : mH} {a : Nat} (q : (true = true) ∧ (((true && Nat.ble 1 a && true) = true) ∧ (WPc t10_init (WPm gT d) F (4, [(2, ((a : Nat) : Int))], [], h)))) : WPc t10_init (WPm gT d) F (0, [(2, ((a : Nat) : Int))], [], h) :=
  vcJ_ok (K := [4, 12, 15, 23, 26, 33, 41, 52]) 40 _ q
set_option maxRecDepth 20000 in
theorem bi10_init_4 {d : Nat} {F : mPost} {h : mH} {a : Nat} (q : (true = true) ∧ ((true = true) ∧ ((h.2.2.2.1 + 1 ≤ 600000 ∧ h.2.2.2.2 + 16 ≤ 7302249) ∧ (∃ p : Nat, ((Nat.beq (mKd h p) 0 && Nat.ble 1 p) = true) ∧ ((true = true) ∧ (((true && true && (false || (true && Nat.beq (mKd (mNew h p 12 16) p) 12))) = true) ∧ (WPm gT d 20 [(2, ((p : Nat) : Int))] (mNew h p 12 16) (fun _ h' => WPc t10_init (WPm gT d) F (12, [(2, ((a : Nat) : Int))], [(2, ((p : Nat) : Int)), (2, ((a : Nat) : Int))], h'))))))))) : WPc t10_init (WPm gT d) F (4, [(2, ((a : Nat) : Int))], [], h) :=
  vcJ_ok (K := [4, 12, 15, 23, 26, 33, 41, 52]) 40 _ q
set_option maxRecDepth 20000 in
theorem bi10_init_12 {d : Nat} {F : mPost} {h : mH} {a : Nat} {p : Nat} (q : ((true && Nat.beq (mKd h a) 20 && true) = true) ∧ (WPc t10_init (WPm gT d) F (15, [(2, ((a : Nat) : Int))], [], mPut h a 0 p))) : WPc t10_init (WPm gT d) F (12, [(2, ((a : Nat) : Int))], [(2, ((p : Nat) : Int)), (2, ((a : Nat) : Int))], h) :=
  vcJ_ok (K := [4, 12, 15, 23, 26, 33, 41, 52]) 40 _ q
set_option maxRecDepth 20000 in
theorem bi10_init_15 {d : Nat} {F : mPost} {h : mH} {a : Nat} (q : (true = true) ∧ ((true = true) ∧ ((h.2.2.2.1 + 1 ≤ 600000 ∧ h.2.2.2.2 + 6 ≤ 7302249) ∧ (∃ p : Nat, ((Nat.beq (mKd h p) 0 && Nat.ble 1 p) = true) ∧ ((true = true) ∧ (((true && true && (false || (true && Nat.beq (mKd (mNew h p 17 6) p) 17))) = true) ∧ (WPm gT d 69 [(2, ((p : Nat) : Int))] (mNew h p 17 6) (fun _ h' => WPc t10_init (WPm gT d) F (23, [(2, ((a : Nat) : Int))], [(2, ((p : Nat) : Int)), (2, ((a : Nat) : Int))], h'))))))))) : WPc t10_init (WPm gT d) F (15, [(2, ((a : Nat) : Int))], [], h) :=
  vcJ_ok (K := [4, 12, 15, 23, 26, 33, 41, 52]) 40 _ q
set_option maxRecDepth 20000 in
theorem bi10_init_23 {d : Nat} {F : mPost} {h : mH} {a : Nat} {p : Nat} (q : ((true && Nat.beq (mKd h a) 20 && true) = true) ∧ (WPc t10_init (WPm gT d) F (26, [(2, ((a : Nat) : Int))], [], mPut h a 1 p))) : WPc t10_init (WPm gT d) F (23, [(2, ((a : Nat) : Int))], [(2, ((p : Nat) : Int)), (2, ((a : Nat) : Int))], h) :=
  vcJ_ok (K := [4, 12, 15, 23, 26, 33, 41, 52]) 40 _ q
set_option maxRecDepth 20000 in
theorem bi10_init_26 {d : Nat} {F : mPost} {h : mH} {a : Nat} (q : (true = true) ∧ ((true = true) ∧ ((true = true) ∧ ((0 ≤ (5 : Int) ∧ (5 : Int) ≤ 100000 ∧ h.2.2.2.1 + 1 ≤ 600000 ∧ h.2.2.2.2 + 5 ≤ 7302249) ∧ (∃ p : Nat, ((Nat.beq (mKd h p) 0 && Nat.ble 1 p) = true) ∧ (((true && Nat.beq (mKd (mNew h p 1 5) a) 20 && true) = true) ∧ (WPc t10_init (WPm gT d) F (33, [(2, ((a : Nat) : Int))], [], mPut (mNew h p 1 5) a 2 p)))))))) : WPc t10_init (WPm gT d) F (26, [(2, ((a : Nat) : Int))], [], h) :=
  vcJ_ok (K := [4, 12, 15, 23, 26, 33, 41, 52]) 40 _ q
set_option maxRecDepth 20000 in
theorem bi10_init_33 {d : Nat} {F : mPost} {h : mH} {a : Nat} (q : (true = true) ∧ ((true = true) ∧ ((true = true) ∧ ((0 ≤ (64 : Int) ∧ (64 : Int) ≤ 100000 ∧ h.2.2.2.1 + 1 ≤ 600000 ∧ h.2.2.2.2 + 64 ≤ 7302249) ∧ (∃ p : Nat, ((Nat.beq (mKd h p) 0 && Nat.ble 1 p) = true) ∧ (((true && Nat.beq (mKd (mNew h p 1 64) a) 20 && true) = true) ∧ (WPc t10_init (WPm gT d) F (41, [(2, ((a : Nat) : Int))], [], mPut (mNew h p 1 64) a 3 p)))))))) : WPc t10_init (WPm gT d) F (33, [(2, ((a : Nat) : Int))], [], h) :=
  vcJ_ok (K := [4, 12, 15, 23, 26, 33, 41, 52]) 40 _ q
set_option maxRecDepth 20000 in
theorem bi10_init_41 {d : Nat} {F : mPost} {h : mH} {a : Nat} (q : (true = true) ∧ (((true && Nat.beq (mKd h a) 20) = true) ∧ ((true = true) ∧ (((true && Nat.beq (mKd h a) 20) = true) ∧ (((true && true && (false || (true && Nat.beq (mKd h (h.2.1 a 1)) 17))) = true) ∧ (WPm gT d 70 [(2, ((h.2.1 a 1 : Nat) : Int)), (2, ((h.2.1 a 0 : Nat) : Int))] h (fun _ h' => WPc t10_init (WPm gT d) F (52, [(2, ((a : Nat) : Int))], [], h')))))))) : WPc t10_init (WPm gT d) F (41, [(2, ((a : Nat) : Int))], [], h) :=
  vcJ_ok (K := [4, 12, 15, 23, 26, 33, 41, 52]) 40 _ q
set_option maxRecDepth 20000 in
theorem bi7_begin_0 {d : Nat} {F : mPost} {h : mH} {a : Nat} {b : Nat} (q : (true = true) ∧ ((true = true) ∧ (WPc t7_begin (WPm gT d) F (2, [(2, ((a : Nat) : Int)), (2, ((b : Nat) : Int)), (0, 0)], [], h)))) : WPc t7_begin (WPm gT d) F (0, [(2, ((a : Nat) : Int)), (2, ((b : Nat) : Int)), (9, 0)], [], h) :=
  vcJ_ok (K := [2, 8, 18, 25, 37, 43, 51, 56, 61]) 40 _ q
set_option maxRecDepth 20000 in
theorem bi7_begin_2 {d : Nat} {F : mPost} {h : mH} {a : Nat} {b : Nat} {x : Int} (q : (true = true) ∧ ((true = true) ∧ ((true = true) ∧ ((8 ≤ x → WPc t7_begin (WPm gT d) F (43, [(2, ((a : Nat) : Int)), (2, ((b : Nat) : Int)), (0, x)], [], h)) ∧ (¬ (8 ≤ x) → WPc t7_begin (WPm gT d) F (8, [(2, ((a : Nat) : Int)), (2, ((b : Nat) : Int)), (0, x)], [], h)))))) : WPc t7_begin (WPm gT d) F (2, [(2, ((a : Nat) : Int)), (2, ((b : Nat) : Int)), (0, x)], [], h) :=
  vcJ_ok (K := [2, 8, 18, 25, 37, 43, 51, 56, 61]) 40 _ q
set_option maxRecDepth 20000 in
theorem bi7_begin_8 {d : Nat} {F : mPost} {h : mH} {a : Nat} {b : Nat} {x : Int} (q : (true = true) ∧ (((true && Nat.beq (mKd h a) 17) = true) ∧ ((true = true) ∧ ((true = true) ∧ (((true && Nat.beq (mKd h b) 12) = true) ∧ (((true && true && true && Nat.beq (mKd h (h.2.1 a 0)) 1) = true) ∧ ((0 ≤ x ∧ x < ((mLn h (h.2.1 a 0) : Nat) : Int) ∧ True) ∧ (WPc t7_begin (WPm gT d) F (18, [(2, ((a : Nat) : Int)), (2, ((b : Nat) : Int)), (0, x)], [], mSet h (h.2.1 a 0) (x : Int).toNat (h.1 b 5)))))))))) : WPc t7_begin (WPm gT d) F (8, [(2, ((a : Nat) : Int)), (2, ((b : Nat) : Int)), (0, x)], [], h) :=
  vcJ_ok (K := [2, 8, 18, 25, 37, 43, 51, 56, 61]) 40 _ q
set_option maxRecDepth 20000 in
theorem bi7_begin_18 {d : Nat} {F : mPost} {h : mH} {a : Nat} {b : Nat} {x : Int} (q : (true = true) ∧ (((true && Nat.beq (mKd h a) 17) = true) ∧ ((true = true) ∧ ((true = true) ∧ (((true && true && true && Nat.beq (mKd h (h.2.1 a 1)) 1) = true) ∧ ((0 ≤ x ∧ x < ((mLn h (h.2.1 a 1) : Nat) : Int) ∧ True) ∧ (WPc t7_begin (WPm gT d) F (25, [(2, ((a : Nat) : Int)), (2, ((b : Nat) : Int)), (0, x)], [], mSet h (h.2.1 a 1) (x : Int).toNat 0)))))))) : WPc t7_begin (WPm gT d) F (18, [(2, ((a : Nat) : Int)), (2, ((b : Nat) : Int)), (0, x)], [], h) :=
  vcJ_ok (K := [2, 8, 18, 25, 37, 43, 51, 56, 61]) 40 _ q
set_option maxRecDepth 20000 in
theorem bi7_begin_25 {d : Nat} {F : mPost} {h : mH} {a : Nat} {b : Nat} {x : Int} (q : (true = true) ∧ (((true && Nat.beq (mKd h a) 17) = true) ∧ ((true = true) ∧ ((true = true) ∧ (((true && Nat.beq (mKd h b) 12) = true) ∧ ((true = true) ∧ (((true && true && Nat.beq (mKd h (h.2.1 b 10)) 1) = true) ∧ ((0 ≤ x ∧ x < ((mLn h (h.2.1 b 10) : Nat) : Int)) ∧ (((true && true && true && Nat.beq (mKd h (h.2.1 a 2)) 1) = true) ∧ ((0 ≤ x ∧ x < ((mLn h (h.2.1 a 2) : Nat) : Int) ∧ True) ∧ (WPc t7_begin (WPm gT d) F (37, [(2, ((a : Nat) : Int)), (2, ((b : Nat) : Int)), (0, x)], [], mSet h (h.2.1 a 2) (x : Int).toNat (h.1 (h.2.1 b 10) (x : Int).toNat))))))))))))) : WPc t7_begin (WPm gT d) F (25, [(2, ((a : Nat) : Int)), (2, ((b : Nat) : Int)), (0, x)], [], h) :=
  vcJ_ok (K := [2, 8, 18, 25, 37, 43, 51, 56, 61]) 40 _ q
set_option maxRecDepth 20000 in
theorem bi7_begin_37 {d : Nat} {F : mPost} {h : mH} {a : Nat} {b : Nat} {x : Int} (q : (true = true) ∧ ((true = true) ∧ (WPc t7_begin (WPm gT d) F (2, [(2, ((a : Nat) : Int)), (2, ((b : Nat) : Int)), (0, (w32 (x + 1)))], [], h)))) : WPc t7_begin (WPm gT d) F (37, [(2, ((a : Nat) : Int)), (2, ((b : Nat) : Int)), (0, x)], [], h) :=
  vcJ_ok (K := [2, 8, 18, 25, 37, 43, 51, 56, 61]) 40 _ q
set_option maxRecDepth 20000 in
theorem bi7_begin_43 {d : Nat} {F : mPost} {h : mH} {a : Nat} {b : Nat} {x : Int} (q : (true = true) ∧ ((true = true) ∧ (((true && Nat.beq (mKd h b) 12) = true) ∧ (((true && Nat.beq (mKd h a) 17 && true) = true) ∧ (WPc t7_begin (WPm gT d) F (51, [(2, ((a : Nat) : Int)), (2, ((b : Nat) : Int)), (0, x)], [], mSet h a 3 (h.1 b 4))))))) : WPc t7_begin (WPm gT d) F (43, [(2, ((a : Nat) : Int)), (2, ((b : Nat) : Int)), (0, x)], [], h) :=
  vcJ_ok (K := [2, 8, 18, 25, 37, 43, 51, 56, 61]) 40 _ q
set_option maxRecDepth 20000 in
theorem bi7_begin_51 {d : Nat} {F : mPost} {h : mH} {a : Nat} {b : Nat} {x : Int} (q : (true = true) ∧ ((true = true) ∧ (((true && Nat.beq (mKd h a) 17 && true) = true) ∧ (WPc t7_begin (WPm gT d) F (56, [(2, ((a : Nat) : Int)), (2, ((b : Nat) : Int)), (0, x)], [], mSet h a 4 0))))) : WPc t7_begin (WPm gT d) F (51, [(2, ((a : Nat) : Int)), (2, ((b : Nat) : Int)), (0, x)], [], h) :=
  vcJ_ok (K := [2, 8, 18, 25, 37, 43, 51, 56, 61]) 40 _ q
set_option maxRecDepth 20000 in
theorem bi7_begin_56 {d : Nat} {F : mPost} {h : mH} {a : Nat} {b : Nat} {x : Int} (q : (true = true) ∧ ((true = true) ∧ (((true && Nat.beq (mKd h a) 17 && true) = true) ∧ (WPc t7_begin (WPm gT d) F (61, [(2, ((a : Nat) : Int)), (2, ((b : Nat) : Int)), (0, x)], [], mSet h a 5 0))))) : WPc t7_begin (WPm gT d) F (56, [(2, ((a : Nat) : Int)), (2, ((b : Nat) : Int)), (0, x)], [], h) :=
  vcJ_ok (K := [2, 8, 18, 25, 37, 43, 51, 56, 61]) 40 _ q
set_option maxRecDepth 20000 in
theorem bi7_begin_61 {d : Nat} {F : mPost} {h : mH} {a : Nat} {b : Nat} {x : Int} (q : (true = true) ∧ (F (9, 0) h)) : WPc t7_begin (WPm gT d) F (61, [(2, ((a : Nat) : Int)), (2, ((b : Nat) : Int)), (0, x)], [], h) :=
  vcJ_ok (K := [2, 8, 18, 25, 37, 43, 51, 56, 61]) 40 _ q
set_option maxRecDepth 20000 in
theorem bi10_init_52 {d : Nat} {F : mPost} {h : mH} {a : Nat} (q : (true = true) ∧ (F (9, 0) h)) : WPc t10_init (WPm gT d) F (52, [(2, ((a : Nat) : Int))], [], h) :=
  vcJ_ok (K := [4, 12, 15, 23, 26, 33, 41, 52]) 40 _ q
set_option maxRecDepth 20000 in
theorem bi11_init_32 {d : Nat} {F : mPost} {h : mH} {a : Nat} {p : Nat} (q : ((true && Nat.beq (mKd h a) 21 && true) = true) ∧ (WPc t11_init (WPm gT d) F (35, [(2, ((a : Nat) : Int)), (9, 0)], [], mPut h a 3 p))) : WPc t11_init (WPm gT d) F (32, [(2, ((a : Nat) : Int)), (9, 0)], [(2, ((p : Nat) : Int)), (2, ((a : Nat) : Int))], h) :=
  vcJ_ok (K := [4, 13, 21, 24, 32, 35, 43, 46, 54, 57, 65, 73, 81, 93, 96, 108, 111, 123, 126, 134, 136, 141, 153, 154, 160]) 40 _ q
set_option maxRecDepth 20000 in
theorem bi11_init_35 {d : Nat} {F : mPost} {h : mH} {a : Nat} (q : (true = true) ∧ ((true = true) ∧ ((h.2.2.2.1 + 1 ≤ 600000 ∧ h.2.2.2.2 + 6 ≤ 7302249) ∧ (∃ p : Nat, ((Nat.beq (mKd h p) 0 && Nat.ble 1 p) = true) ∧ ((true = true) ∧ (((true && true && (false || (true && Nat.beq (mKd (mNew h p 17 6) p) 17))) = true) ∧ (WPm gT d 69 [(2, ((p : Nat) : Int))] (mNew h p 17 6) (fun _ h' => WPc t11_init (WPm gT d) F (43, [(2, ((a : Nat) : Int)), (9, 0)], [(2, ((p : Nat) : Int)), (2, ((a : Nat) : Int))], h'))))))))) : WPc t11_init (WPm gT d) F (35, [(2, ((a : Nat) : Int)), (9, 0)], [], h) :=
  vcJ_ok (K := [4, 13, 21, 24, 32, 35, 43, 46, 54, 57, 65, 73, 81, 93, 96, 108, 111, 123, 126, 134, 136, 141, 153, 154, 160]) 40 _ q
set_option maxRecDepth 20000 in
theorem bi11_init_43 {d : Nat} {F : mPost} {h : mH} {a : Nat} {p : Nat} (q : ((true && Nat.beq (mKd h a) 21 && true) = true) ∧ (WPc t11_init (WPm gT d) F (46, [(2, ((a : Nat) : Int)), (9, 0)], [], mPut h a 4 p))) : WPc t11_init (WPm gT d) F (43, [(2, ((a : Nat) : Int)), (9, 0)], [(2, ((p : Nat) : Int)), (2, ((a : Nat) : Int))], h) :=
  vcJ_ok (K := [4, 13, 21, 24, 32, 35, 43, 46, 54, 57, 65, 73, 81, 93, 96, 108, 111, 123, 126, 134, 136, 141, 153, 154, 160]) 40 _ q
set_option maxRecDepth 20000 in
theorem bi11_init_46 {d : Nat} {F : mPost} {h : mH} {a : Nat} (q : (true = true) ∧ ((true = true) ∧ ((h.2.2.2.1 + 1 ≤ 600000 ∧ h.2.2.2.2 + 2 ≤ 7302249) ∧ (∃ p : Nat, ((Nat.beq (mKd h p) 0 && Nat.ble 1 p) = true) ∧ ((true = true) ∧ (((true && true && (false || (true && Nat.beq (mKd (mNew h p 13 2) p) 13))) = true) ∧ (WPm gT d 25 [(2, ((p : Nat) : Int))] (mNew h p 13 2) (fun _ h' => WPc t11_init (WPm gT d) F (54, [(2, ((a : Nat) : Int)), (9, 0)], [(2, ((p : Nat) : Int)), (2, ((a : Nat) : Int))], h'))))))))) : WPc t11_init (WPm gT d) F (46, [(2, ((a : Nat) : Int)), (9, 0)], [], h) :=
  vcJ_ok (K := [4, 13, 21, 24, 32, 35, 43, 46, 54, 57, 65, 73, 81, 93, 96, 108, 111, 123, 126, 134, 136, 141, 153, 154, 160]) 40 _ q
set_option maxRecDepth 20000 in
theorem bi3_init_0 {d : Nat} {F : mPost} {h : mH} {a : Nat} (q : (true = true) ∧ (((true && Nat.ble 1 a && true) = true) ∧ (WPc t3_init (WPm gT d) F (4, [(2, ((a : Nat) : Int)), (9, 0)], [], h)))) : WPc t3_init (WPm gT d) F (0, [(2, ((a : Nat) : Int)), (9, 0)], [], h) :=
  vcJ_ok (K := [4, 13, 15, 21, 33, 34, 40]) 40 _ q
set_option maxRecDepth 20000 in
theorem bi3_init_4 {d : Nat} {F : mPost} {h : mH} {a : Nat} (q : (true = true) ∧ ((true = true) ∧ ((true = true) ∧ ((0 ≤ (10 : Int) ∧ (10 : Int) ≤ 100000 ∧ h.2.2.2.1 + 1 ≤ 600000 ∧ h.2.2.2.2 + 10 ≤ 7302249) ∧ (∃ p : Nat, ((Nat.beq (mKd h p) 0 && Nat.ble 1 p) = true) ∧ (((true && Nat.beq (mKd (mNew h p 47 10) a) 13 && true) = true) ∧ (WPc t3_init (WPm gT d) F (13, [(2, ((a : Nat) : Int)), (9, 0)], [], mPut (mNew h p 47 10) a 0 p)))))))) : WPc t3_init (WPm gT d) F (4, [(2, ((a : Nat) : Int)), (9, 0)], [], h) :=
  vcJ_ok (K := [4, 13, 15, 21, 33, 34, 40]) 40 _ q
set_option maxRecDepth 20000 in
theorem bi3_init_13 {d : Nat} {F : mPost} {h : mH} {a : Nat} (q : (true = true) ∧ ((true = true) ∧ (WPc t3_init (WPm gT d) F (15, [(2, ((a : Nat) : Int)), (0, 0)], [], h)))) : WPc t3_init (WPm gT d) F (13, [(2, ((a : Nat) : Int)), (9, 0)], [], h) :=
  vcJ_ok (K := [4, 13, 15, 21, 33, 34, 40]) 40 _ q
set_option maxRecDepth 20000 in
theorem bi3_init_15 {d : Nat} {F : mPost} {h : mH} {a : Nat} {x : Int} (q : (true = true) ∧ ((true = true) ∧ ((true = true) ∧ ((10 ≤ x → WPc t3_init (WPm gT d) F (40, [(2, ((a : Nat) : Int)), (0, x)], [], h)) ∧ (¬ (10 ≤ x) → WPc t3_init (WPm gT d) F (21, [(2, ((a : Nat) : Int)), (0, x)], [], h)))))) : WPc t3_init (WPm gT d) F (15, [(2, ((a : Nat) : Int)), (0, x)], [], h) :=
  vcJ_ok (K := [4, 13, 15, 21, 33, 34, 40]) 40 _ q
set_option maxRecDepth 20000 in
theorem bi3_init_21 {d : Nat} {F : mPost} {h : mH} {a : Nat} {x : Int} (q : (true = true) ∧ (((true && Nat.beq (mKd h a) 13) = true) ∧ ((true = true) ∧ ((true = true) ∧ ((h.2.2.2.1 + 1 ≤ 600000 ∧ h.2.2.2.2 + 6 ≤ 7302249) ∧ (∃ p : Nat, ((Nat.beq (mKd h p) 0 && Nat.ble 1 p) = true) ∧ ((true = true) ∧ (((true && true && (false || (true && Nat.beq (mKd (mNew h p 17 6) p) 17))) = true) ∧ (WPm gT d 69 [(2, ((p : Nat) : Int))] (mNew h p 17 6) (fun _ h' => WPc t3_init (WPm gT d) F (33, [(2, ((a : Nat) : Int)), (0, x)], [(2, ((p : Nat) : Int)), (0, x), (2, ((h.2.1 a 0 : Nat) : Int))], h'))))))))))) : WPc t3_init (WPm gT d) F (21, [(2, ((a : Nat) : Int)), (0, x)], [], h) :=
  vcJ_ok (K := [4, 13, 15, 21, 33, 34, 40]) 40 _ q
set_option maxRecDepth 20000 in
theorem bi3_init_33 {d : Nat} {F : mPost} {h : mH} {a : Nat} {p : Nat} {v : Nat} {x : Int} (q : ((true && Nat.beq (mKd h p) 17 && true && true && Nat.beq (mKd h v) 47) = true) ∧ ((0 ≤ x ∧ x < ((mLn h v : Nat) : Int)) ∧ (WPc t3_init (WPm gT d) F (34, [(2, ((a : Nat) : Int)), (0, x)], [], mPut h v (x : Int).toNat p)))) : WPc t3_init (WPm gT d) F (33, [(2, ((a : Nat) : Int)), (0, x)], [(2, ((p : Nat) : Int)), (0, x), (2, ((v : Nat) : Int))], h) :=
  vcJ_ok (K := [4, 13, 15, 21, 33, 34, 40]) 40 _ q
set_option maxRecDepth 20000 in
theorem bi3_init_34 {d : Nat} {F : mPost} {h : mH} {a : Nat} {x : Int} (q : (true = true) ∧ ((true = true) ∧ (WPc t3_init (WPm gT d) F (15, [(2, ((a : Nat) : Int)), (0, (w32 (x + 1)))], [], h)))) : WPc t3_init (WPm gT d) F (34, [(2, ((a : Nat) : Int)), (0, x)], [], h) :=
  vcJ_ok (K := [4, 13, 15, 21, 33, 34, 40]) 40 _ q
set_option maxRecDepth 20000 in
theorem bi3_init_40 {d : Nat} {F : mPost} {h : mH} {a : Nat} {x : Int} (q : (true = true) ∧ (F (9, 0) h)) : WPc t3_init (WPm gT d) F (40, [(2, ((a : Nat) : Int)), (0, x)], [], h) :=
  vcJ_ok (K := [4, 13, 15, 21, 33, 34, 40]) 40 _ q
set_option maxRecDepth 20000 in
theorem bi11_init_54 {d : Nat} {F : mPost} {h : mH} {a : Nat} {p : Nat} (q : ((true && Nat.beq (mKd h a) 21 && true) = true) ∧ (WPc t11_init (WPm gT d) F (57, [(2, ((a : Nat) : Int)), (9, 0)], [], mPut h a 5 p))) : WPc t11_init (WPm gT d) F (54, [(2, ((a : Nat) : Int)), (9, 0)], [(2, ((p : Nat) : Int)), (2, ((a : Nat) : Int))], h) :=
  vcJ_ok (K := [4, 13, 21, 24, 32, 35, 43, 46, 54, 57, 65, 73, 81, 93, 96, 108, 111, 123, 126, 134, 136, 141, 153, 154, 160]) 40 _ q
set_option maxRecDepth 20000 in
theorem bi11_init_57 {d : Nat} {F : mPost} {h : mH} {a : Nat} (q : (true = true) ∧ ((true = true) ∧ ((true = true) ∧ ((0 ≤ (4 : Int) ∧ (4 : Int) ≤ 100000 ∧ h.2.2.2.1 + 1 ≤ 600000 ∧ h.2.2.2.2 + 4 ≤ 7302249) ∧ (∃ p : Nat, ((Nat.beq (mKd h p) 0 && Nat.ble 1 p) = true) ∧ (((true && Nat.beq (mKd (mNew h p 48 4) a) 21 && true) = true) ∧ (WPc t11_init (WPm gT d) F (65, [(2, ((a : Nat) : Int)), (9, 0)], [], mPut (mNew h p 48 4) a 6 p)))))))) : WPc t11_init (WPm gT d) F (57, [(2, ((a : Nat) : Int)), (9, 0)], [], h) :=
  vcJ_ok (K := [4, 13, 21, 24, 32, 35, 43, 46, 54, 57, 65, 73, 81, 93, 96, 108, 111, 123, 126, 134, 136, 141, 153, 154, 160]) 40 _ q
set_option maxRecDepth 20000 in
theorem bi11_init_65 {d : Nat} {F : mPost} {h : mH} {a : Nat} (q : (true = true) ∧ ((true = true) ∧ ((true = true) ∧ ((0 ≤ (2 : Int) ∧ (2 : Int) ≤ 100000 ∧ h.2.2.2.1 + 1 ≤ 600000 ∧ h.2.2.2.2 + 2 ≤ 7302249) ∧ (∃ p : Nat, ((Nat.beq (mKd h p) 0 && Nat.ble 1 p) = true) ∧ (((true && Nat.beq (mKd (mNew h p 42 2) a) 21 && true) = true) ∧ (WPc t11_init (WPm gT d) F (73, [(2, ((a : Nat) : Int)), (9, 0)], [], mPut (mNew h p 42 2) a 7 p)))))))) : WPc t11_init (WPm gT d) F (65, [(2, ((a : Nat) : Int)), (9, 0)], [], h) :=
  vcJ_ok (K := [4, 13, 21, 24, 32, 35, 43, 46, 54, 57, 65, 73, 81, 93, 96, 108, 111, 123, 126, 134, 136, 141, 153, 154, 160]) 40 _ q
set_option maxRecDepth 20000 in
theorem bi11_init_73 {d : Nat} {F : mPost} {h : mH} {a : Nat} (q : (true = true) ∧ ((true = true) ∧ ((true = true) ∧ ((0 ≤ (2 : Int) ∧ (2 : Int) ≤ 100000 ∧ h.2.2.2.1 + 1 ≤ 600000 ∧ h.2.2.2.2 + 2 ≤ 7302249) ∧ (∃ p : Nat, ((Nat.beq (mKd h p) 0 && Nat.ble 1 p) = true) ∧ (((true && Nat.beq (mKd (mNew h p 47 2) a) 21 && true) = true) ∧ (WPc t11_init (WPm gT d) F (81, [(2, ((a : Nat) : Int)), (9, 0)], [], mPut (mNew h p 47 2) a 8 p)))))))) : WPc t11_init (WPm gT d) F (73, [(2, ((a : Nat) : Int)), (9, 0)], [], h) :=
  vcJ_ok (K := [4, 13, 21, 24, 32, 35, 43, 46, 54, 57, 65, 73, 81, 93, 96, 108, 111, 123, 126, 134, 136, 141, 153, 154, 160]) 40 _ q
set_option maxRecDepth 20000 in
theorem bi11_init_81 {d : Nat} {F : mPost} {h : mH} {a : Nat} (q : (true = true) ∧ ((true = true) ∧ ((h.2.2.2.1 + 1 ≤ 600000 ∧ h.2.2.2.2 + 7 ≤ 7302249) ∧ (∃ p : Nat, ((Nat.beq (mKd h p) 0 && Nat.ble 1 p) = true) ∧ ((true = true) ∧ ((true = true) ∧ (((true && Nat.beq (mKd (mNew h p 19 7) a) 21) = true) ∧ (((true && true && (false || (true && Nat.beq (mKd (mNew h p 19 7) p) 19))) = true) ∧ (WPm gT d 78 [(2, ((p : Nat) : Int)), (2, (((mNew h p 19 7).2.1 a 3 : Nat) : Int))] (mNew h p 19 7) (fun _ h' => WPc t11_init (WPm gT d) F (93, [(2, ((a : Nat) : Int)), (9, 0)], [(2, ((p : Nat) : Int)), (2, ((a : Nat) : Int))], h'))))))))))) : WPc t11_init (WPm gT d) F (81, [(2, ((a : Nat) : Int)), (9, 0)], [], h) :=
  vcJ_ok (K := [4, 13, 21, 24, 32, 35, 43, 46, 54, 57, 65, 73, 81, 93, 96, 108, 111, 123, 126, 134, 136, 141, 153, 154, 160]) 40 _ q
set_option maxRecDepth 20000 in
theorem bi9_init_0 {d : Nat} {F : mPost} {h : mH} {a : Nat} {b : Nat} (q : (true = true) ∧ (((true && Nat.ble 1 a && true) = true) ∧ (WPc t9_init (WPm gT d) F (4, [(2, ((a : Nat) : Int)), (2, ((b : Nat) : Int))], [], h)))) : WPc t9_init (WPm gT d) F (0, [(2, ((a : Nat) : Int)), (2, ((b : Nat) : Int))], [], h) :=
  vcJ_ok (K := [4, 12, 15, 23, 31, 39, 47, 55, 60]) 40 _ q
set_option maxRecDepth 20000 in
theorem bi9_init_4 {d : Nat} {F : mPost} {h : mH} {a : Nat} {b : Nat} (q : (true = true) ∧ ((true = true) ∧ ((h.2.2.2.1 + 1 ≤ 600000 ∧ h.2.2.2.2 + 5 ≤ 7302249) ∧ (∃ p : Nat, ((Nat.beq (mKd h p) 0 && Nat.ble 1 p) = true) ∧ ((true = true) ∧ (((true && true && (false || (true && Nat.beq (mKd (mNew h p 16 5) p) 16))) = true) ∧ (WPm gT d 61 [(2, ((p : Nat) : Int))] (mNew h p 16 5) (fun _ h' => WPc t9_init (WPm gT d) F (12, [(2, ((a : Nat) : Int)), (2, ((b : Nat) : Int))], [(2, ((p : Nat) : Int)), (2, ((a : Nat) : Int))], h'))))))))) : WPc t9_init (WPm gT d) F (4, [(2, ((a : Nat) : Int)), (2, ((b : Nat) : Int))], [], h) :=
  vcJ_ok (K := [4, 12, 15, 23, 31, 39, 47, 55, 60]) 40 _ q
set_option maxRecDepth 20000 in
theorem bi6_init_0 {d : Nat} {F : mPost} {h : mH} {a : Nat} (q : (true = true) ∧ (((true && Nat.ble 1 a && true) = true) ∧ (WPc t6_init (WPm gT d) F (4, [(2, ((a : Nat) : Int))], [], h)))) : WPc t6_init (WPm gT d) F (0, [(2, ((a : Nat) : Int))], [], h) :=
  vcJ_ok (K := [4, 9, 17, 25]) 40 _ q
set_option maxRecDepth 20000 in
theorem bi6_init_4 {d : Nat} {F : mPost} {h : mH} {a : Nat} (q : (true = true) ∧ ((true = true) ∧ (((true && Nat.beq (mKd h a) 16 && true) = true) ∧ (WPc t6_init (WPm gT d) F (9, [(2, ((a : Nat) : Int))], [], mSet h a 0 (-1)))))) : WPc t6_init (WPm gT d) F (4, [(2, ((a : Nat) : Int))], [], h) :=
  vcJ_ok (K := [4, 9, 17, 25]) 40 _ q
set_option maxRecDepth 20000 in
theorem bi6_init_9 {d : Nat} {F : mPost} {h : mH} {a : Nat} (q : (true = true) ∧ ((true = true) ∧ ((true = true) ∧ ((0 ≤ (64 : Int) ∧ (64 : Int) ≤ 100000 ∧ h.2.2.2.1 + 1 ≤ 600000 ∧ h.2.2.2.2 + 64 ≤ 7302249) ∧ (∃ p : Nat, ((Nat.beq (mKd h p) 0 && Nat.ble 1 p) = true) ∧ (((true && Nat.beq (mKd (mNew h p 1 64) a) 16 && true) = true) ∧ (WPc t6_init (WPm gT d) F (17, [(2, ((a : Nat) : Int))], [], mPut (mNew h p 1 64) a 1 p)))))))) : WPc t6_init (WPm gT d) F (9, [(2, ((a : Nat) : Int))], [], h) :=
  vcJ_ok (K := [4, 9, 17, 25]) 40 _ q
set_option maxRecDepth 20000 in
theorem bi6_init_17 {d : Nat} {F : mPost} {h : mH} {a : Nat} (q : (true = true) ∧ ((true = true) ∧ ((true = true) ∧ ((0 ≤ (64 : Int) ∧ (64 : Int) ≤ 100000 ∧ h.2.2.2.1 + 1 ≤ 600000 ∧ h.2.2.2.2 + 64 ≤ 7302249) ∧ (∃ p : Nat, ((Nat.beq (mKd h p) 0 && Nat.ble 1 p) = true) ∧ (((true && Nat.beq (mKd (mNew h p 1 64) a) 16 && true) = true) ∧ (WPc t6_init (WPm gT d) F (25, [(2, ((a : Nat) : Int))], [], mPut (mNew h p 1 64) a 2 p)))))))) : WPc t6_init (WPm gT d) F (17, [(2, ((a : Nat) : Int))], [], h) :=
  vcJ_ok (K := [4, 9, 17, 25]) 40 _ q
set_option maxRecDepth 20000 in
theorem bi6_init_25 {d : Nat} {F : mPost} {h : mH} {a : Nat} (q : (true = true) ∧ (F (9, 0) h)) : WPc t6_init (WPm gT d) F (25, [(2, ((a : Nat) : Int))], [], h) :=
  vcJ_ok (K := [4, 9, 17, 25]) 40 _ q
set_option maxRecDepth 20000 in
theorem bi9_init_12 {d : Nat} {F : mPost} {h : mH} {a : Nat} {b : Nat} {p : Nat} (q : ((true && Nat.beq (mKd h a) 19 && true) = true) ∧ (WPc t9_init (WPm gT d) F (15, [(2, ((a : Nat) : Int)), (2, ((b : Nat) : Int))], [], mPut h a 0 p))) : WPc t9_init (WPm gT d) F (12, [(2, ((a : Nat) : Int)), (2, ((b : Nat) : Int))], [(2, ((p : Nat) : Int)), (2, ((a : Nat) : Int))], h) :=
  vcJ_ok (K := [4, 12, 15, 23, 31, 39, 47, 55, 60]) 40 _ q
set_option maxRecDepth 20000 in
theorem bi9_init_15 {d : Nat} {F : mPost} {h : mH} {a : Nat} {b : Nat} (q : (true = true) ∧ ((true = true) ∧ ((true = true) ∧ ((0 ≤ (12 : Int) ∧ (12 : Int) ≤ 100000 ∧ h.2.2.2.1 + 1 ≤ 600000 ∧ h.2.2.2.2 + 12 ≤ 7302249) ∧ (∃ p : Nat, ((Nat.beq (mKd h p) 0 && Nat.ble 1 p) = true) ∧ (((true && Nat.beq (mKd (mNew h p 1 12) a) 19 && true) = true) ∧ (WPc t9_init (WPm gT d) F (23, [(2, ((a : Nat) : Int)), (2, ((b : Nat) : Int))], [], mPut (mNew h p 1 12) a 2 p)))))))) : WPc t9_init (WPm gT d) F (15, [(2, ((a : Nat) : Int)), (2, ((b : Nat) : Int))], [], h) :=
  vcJ_ok (K := [4, 12, 15, 23, 31, 39, 47, 55, 60]) 40 _ q
set_option maxRecDepth 20000 in
theorem bi9_init_23 {d : Nat} {F : mPost} {h : mH} {a : Nat} {b : Nat} (q : (true = true) ∧ ((true = true) ∧ ((true = true) ∧ ((0 ≤ (12 : Int) ∧ (12 : Int) ≤ 100000 ∧ h.2.2.2.1 + 1 ≤ 600000 ∧ h.2.2.2.2 + 12 ≤ 7302249) ∧ (∃ p : Nat, ((Nat.beq (mKd h p) 0 && Nat.ble 1 p) = true) ∧ (((true && Nat.beq (mKd (mNew h p 1 12) a) 19 && true) = true) ∧ (WPc t9_init (WPm gT d) F (31, [(2, ((a : Nat) : Int)), (2, ((b : Nat) : Int))], [], mPut (mNew h p 1 12) a 3 p)))))))) : WPc t9_init (WPm gT d) F (23, [(2, ((a : Nat) : Int)), (2, ((b : Nat) : Int))], [], h) :=
  vcJ_ok (K := [4, 12, 15, 23, 31, 39, 47, 55, 60]) 40 _ q
set_option maxRecDepth 20000 in
theorem bi9_init_31 {d : Nat} {F : mPost} {h : mH} {a : Nat} {b : Nat} (q : (true = true) ∧ ((true = true) ∧ ((true = true) ∧ ((0 ≤ (9 : Int) ∧ (9 : Int) ≤ 100000 ∧ h.2.2.2.1 + 1 ≤ 600000 ∧ h.2.2.2.2 + 9 ≤ 7302249) ∧ (∃ p : Nat, ((Nat.beq (mKd h p) 0 && Nat.ble 1 p) = true) ∧ (((true && Nat.beq (mKd (mNew h p 1 9) a) 19 && true) = true) ∧ (WPc t9_init (WPm gT d) F (39, [(2, ((a : Nat) : Int)), (2, ((b : Nat) : Int))], [], mPut (mNew h p 1 9) a 4 p)))))))) : WPc t9_init (WPm gT d) F (31, [(2, ((a : Nat) : Int)), (2, ((b : Nat) : Int))], [], h) :=
  vcJ_ok (K := [4, 12, 15, 23, 31, 39, 47, 55, 60]) 40 _ q
set_option maxRecDepth 20000 in
theorem bi9_init_39 {d : Nat} {F : mPost} {h : mH} {a : Nat} {b : Nat} (q : (true = true) ∧ ((true = true) ∧ ((true = true) ∧ ((0 ≤ (8 : Int) ∧ (8 : Int) ≤ 100000 ∧ h.2.2.2.1 + 1 ≤ 600000 ∧ h.2.2.2.2 + 8 ≤ 7302249) ∧ (∃ p : Nat, ((Nat.beq (mKd h p) 0 && Nat.ble 1 p) = true) ∧ (((true && Nat.beq (mKd (mNew h p 4 8) a) 19 && true) = true) ∧ (WPc t9_init (WPm gT d) F (47, [(2, ((a : Nat) : Int)), (2, ((b : Nat) : Int))], [], mPut (mNew h p 4 8) a 5 p)))))))) : WPc t9_init (WPm gT d) F (39, [(2, ((a : Nat) : Int)), (2, ((b : Nat) : Int))], [], h) :=
  vcJ_ok (K := [4, 12, 15, 23, 31, 39, 47, 55, 60]) 40 _ q
set_option maxRecDepth 20000 in
theorem bi9_init_47 {d : Nat} {F : mPost} {h : mH} {a : Nat} {b : Nat} (q : (true = true) ∧ ((true = true) ∧ ((true = true) ∧ ((0 ≤ (8 : Int) ∧ (8 : Int) ≤ 100000 ∧ h.2.2.2.1 + 1 ≤ 600000 ∧ h.2.2.2.2 + 8 ≤ 7302249) ∧ (∃ p : Nat, ((Nat.beq (mKd h p) 0 && Nat.ble 1 p) = true) ∧ (((true && Nat.beq (mKd (mNew h p 4 8) a) 19 && true) = true) ∧ (WPc t9_init (WPm gT d) F (55, [(2, ((a : Nat) : Int)), (2, ((b : Nat) : Int))], [], mPut (mNew h p 4 8) a 6 p)))))))) : WPc t9_init (WPm gT d) F (47, [(2, ((a : Nat) : Int)), (2, ((b : Nat) : Int))], [], h) :=
  vcJ_ok (K := [4, 12, 15, 23, 31, 39, 47, 55, 60]) 40 _ q
set_option maxRecDepth 20000 in
theorem bi9_init_55 {d : Nat} {F : mPost} {h : mH} {a : Nat} {b : Nat} (q : (true = true) ∧ ((true = true) ∧ (((true && Nat.beq (mKd h a) 19 && true) = true) ∧ (WPc t9_init (WPm gT d) F (60, [(2, ((a : Nat) : Int)), (2, ((b : Nat) : Int))], [], mPut h a 1 b))))) : WPc t9_init (WPm gT d) F (55, [(2, ((a : Nat) : Int)), (2, ((b : Nat) : Int))], [], h) :=
  vcJ_ok (K := [4, 12, 15, 23, 31, 39, 47, 55, 60]) 40 _ q
set_option maxRecDepth 20000 in
theorem bi9_init_60 {d : Nat} {F : mPost} {h : mH} {a : Nat} {b : Nat} (q : (true = true) ∧ (F (9, 0) h)) : WPc t9_init (WPm gT d) F (60, [(2, ((a : Nat) : Int)), (2, ((b : Nat) : Int))], [], h) :=
  vcJ_ok (K := [4, 12, 15, 23, 31, 39, 47, 55, 60]) 40 _ q
set_option maxRecDepth 20000 in
theorem bi11_init_93 {d : Nat} {F : mPost} {h : mH} {a : Nat} {p : Nat} (q : ((true && Nat.beq (mKd h a) 21 && true) = true) ∧ (WPc t11_init (WPm gT d) F (96, [(2, ((a : Nat) : Int)), (9, 0)], [], mPut h a 9 p))) : WPc t11_init (WPm gT d) F (93, [(2, ((a : Nat) : Int)), (9, 0)], [(2, ((p : Nat) : Int)), (2, ((a : Nat) : Int))], h) :=
  vcJ_ok (K := [4, 13, 21, 24, 32, 35, 43, 46, 54, 57, 65, 73, 81, 93, 96, 108, 111, 123, 126, 134, 136, 141, 153, 154, 160]) 40 _ q
set_option maxRecDepth 20000 in
theorem bi11_init_96 {d : Nat} {F : mPost} {h : mH} {a : Nat} (q : (true = true) ∧ ((true = true) ∧ ((h.2.2.2.1 + 1 ≤ 600000 ∧ h.2.2.2.2 + 4 ≤ 7302249) ∧ (∃ p : Nat, ((Nat.beq (mKd h p) 0 && Nat.ble 1 p) = true) ∧ ((true = true) ∧ ((true = true) ∧ (((true && Nat.beq (mKd (mNew h p 10 4) a) 21) = true) ∧ (((true && true && (false || (true && Nat.beq (mKd (mNew h p 10 4) p) 10))) = true) ∧ (WPm gT d 0 [(2, ((p : Nat) : Int)), (2, (((mNew h p 10 4).2.1 a 3 : Nat) : Int))] (mNew h p 10 4) (fun _ h' => WPc t11_init (WPm gT d) F (108, [(2, ((a : Nat) : Int)), (9, 0)], [(2, ((p : Nat) : Int)), (2, ((a : Nat) : Int))], h'))))))))))) : WPc t11_init (WPm gT d) F (96, [(2, ((a : Nat) : Int)), (9, 0)], [], h) :=
  vcJ_ok (K := [4, 13, 21, 24, 32, 35, 43, 46, 54, 57, 65, 73, 81, 93, 96, 108, 111, 123, 126, 134, 136, 141, 153, 154, 160]) 40 _ q
set_option maxRecDepth 20000 in
theorem bi0_init_0 {d : Nat} {F : mPost} {h : mH} {a : Nat} {b : Nat} (q : (true = true) ∧ (((true && Nat.ble 1 a && true) = true) ∧ (WPc t0_init (WPm gT d) F (4, [(2, ((a : Nat) : Int)), (2, ((b : Nat) : Int))], [], h)))) : WPc t0_init (WPm gT d) F (0, [(2, ((a : Nat) : Int)), (2, ((b : Nat) : Int))], [], h) :=
  vcJ_ok (K := [4, 12, 20, 28, 33]) 40 _ q
set_option maxRecDepth 20000 in
theorem bi0_init_4 {d : Nat} {F : mPost} {h : mH} {a : Nat} {b : Nat} (q : (true = true) ∧ ((true = true) ∧ ((true = true) ∧ ((0 ≤ (64 : Int) ∧ (64 : Int) ≤ 100000 ∧ h.2.2.2.1 + 1 ≤ 600000 ∧ h.2.2.2.2 + 64 ≤ 7302249) ∧ (∃ p : Nat, ((Nat.beq (mKd h p) 0 && Nat.ble 1 p) = true) ∧ (((true && Nat.beq (mKd (mNew h p 1 64) a) 10 && true) = true) ∧ (WPc t0_init (WPm gT d) F (12, [(2, ((a : Nat) : Int)), (2, ((b : Nat) : Int))], [], mPut (mNew h p 1 64) a 1 p)))))))) : WPc t0_init (WPm gT d) F (4, [(2, ((a : Nat) : Int)), (2, ((b : Nat) : Int))], [], h) :=
  vcJ_ok (K := [4, 12, 20, 28, 33]) 40 _ q
set_option maxRecDepth 20000 in
theorem bi0_init_12 {d : Nat} {F : mPost} {h : mH} {a : Nat} {b : Nat} (q : (true = true) ∧ ((true = true) ∧ ((true = true) ∧ ((0 ≤ (8 : Int) ∧ (8 : Int) ≤ 100000 ∧ h.2.2.2.1 + 1 ≤ 600000 ∧ h.2.2.2.2 + 8 ≤ 7302249) ∧ (∃ p : Nat, ((Nat.beq (mKd h p) 0 && Nat.ble 1 p) = true) ∧ (((true && Nat.beq (mKd (mNew h p 1 8) a) 10 && true) = true) ∧ (WPc t0_init (WPm gT d) F (20, [(2, ((a : Nat) : Int)), (2, ((b : Nat) : Int))], [], mPut (mNew h p 1 8) a 2 p)))))))) : WPc t0_init (WPm gT d) F (12, [(2, ((a : Nat) : Int)), (2, ((b : Nat) : Int))], [], h) :=
  vcJ_ok (K := [4, 12, 20, 28, 33]) 40 _ q
set_option maxRecDepth 20000 in
theorem bi0_init_20 {d : Nat} {F : mPost} {h : mH} {a : Nat} {b : Nat} (q : (true = true) ∧ ((true = true) ∧ ((true = true) ∧ ((0 ≤ (8 : Int) ∧ (8 : Int) ≤ 100000 ∧ h.2.2.2.1 + 1 ≤ 600000 ∧ h.2.2.2.2 + 8 ≤ 7302249) ∧ (∃ p : Nat, ((Nat.beq (mKd h p) 0 && Nat.ble 1 p) = true) ∧ (((true && Nat.beq (mKd (mNew h p 1 8) a) 10 && true) = true) ∧ (WPc t0_init (WPm gT d) F (28, [(2, ((a : Nat) : Int)), (2, ((b : Nat) : Int))], [], mPut (mNew h p 1 8) a 3 p)))))))) : WPc t0_init (WPm gT d) F (20, [(2, ((a : Nat) : Int)), (2, ((b : Nat) : Int))], [], h) :=
  vcJ_ok (K := [4, 12, 20, 28, 33]) 40 _ q
set_option maxRecDepth 20000 in
theorem bi0_init_28 {d : Nat} {F : mPost} {h : mH} {a : Nat} {b : Nat} (q : (true = true) ∧ ((true = true) ∧ (((true && Nat.beq (mKd h a) 10 && true) = true) ∧ (WPc t0_init (WPm gT d) F (33, [(2, ((a : Nat) : Int)), (2, ((b : Nat) : Int))], [], mPut h a 0 b))))) : WPc t0_init (WPm gT d) F (28, [(2, ((a : Nat) : Int)), (2, ((b : Nat) : Int))], [], h) :=
  vcJ_ok (K := [4, 12, 20, 28, 33]) 40 _ q
set_option maxRecDepth 20000 in
theorem bi0_init_33 {d : Nat} {F : mPost} {h : mH} {a : Nat} {b : Nat} (q : (true = true) ∧ (F (9, 0) h)) : WPc t0_init (WPm gT d) F (33, [(2, ((a : Nat) : Int)), (2, ((b : Nat) : Int))], [], h) :=
  vcJ_ok (K := [4, 12, 20, 28, 33]) 40 _ q
set_option maxRecDepth 20000 in
theorem bi11_init_108 {d : Nat} {F : mPost} {h : mH} {a : Nat} {p : Nat} (q : ((true && Nat.beq (mKd h a) 21 && true) = true) ∧ (WPc t11_init (WPm gT d) F (111, [(2, ((a : Nat) : Int)), (9, 0)], [], mPut h a 10 p))) : WPc t11_init (WPm gT d) F (108, [(2, ((a : Nat) : Int)), (9, 0)], [(2, ((p : Nat) : Int)), (2, ((a : Nat) : Int))], h) :=
  vcJ_ok (K := [4, 13, 21, 24, 32, 35, 43, 46, 54, 57, 65, 73, 81, 93, 96, 108, 111, 123, 126, 134, 136, 141, 153, 154, 160]) 40 _ q
set_option maxRecDepth 20000 in
theorem bi11_init_111 {d : Nat} {F : mPost} {h : mH} {a : Nat} (q : (true = true) ∧ ((true = true) ∧ ((h.2.2.2.1 + 1 ≤ 600000 ∧ h.2.2.2.2 + 6 ≤ 7302249) ∧ (∃ p : Nat, ((Nat.beq (mKd h p) 0 && Nat.ble 1 p) = true) ∧ ((true = true) ∧ ((true = true) ∧ (((true && Nat.beq (mKd (mNew h p 15 6) a) 21) = true) ∧ (((true && true && (false || (true && Nat.beq (mKd (mNew h p 15 6) p) 15))) = true) ∧ (WPm gT d 49 [(2, ((p : Nat) : Int)), (2, (((mNew h p 15 6).2.1 a 3 : Nat) : Int))] (mNew h p 15 6) (fun _ h' => WPc t11_init (WPm gT d) F (123, [(2, ((a : Nat) : Int)), (9, 0)], [(2, ((p : Nat) : Int)), (2, ((a : Nat) : Int))], h'))))))))))) : WPc t11_init (WPm gT d) F (111, [(2, ((a : Nat) : Int)), (9, 0)], [], h) :=
  vcJ_ok (K := [4, 13, 21, 24, 32, 35, 43, 46, 54, 57, 65, 73, 81, 93, 96, 108, 111, 123, 126, 134, 136, 141, 153, 154, 160]) 40 _ q
set_option maxRecDepth 20000 in
theorem bi5_init_0 {d : Nat} {F : mPost} {h : mH} {a : Nat} {b : Nat} (q : (true = true) ∧ (((true && Nat.ble 1 a && true) = true) ∧ (WPc t5_init (WPm gT d) F (4, [(2, ((a : Nat) : Int)), (2, ((b : Nat) : Int))], [], h)))) : WPc t5_init (WPm gT d) F (0, [(2, ((a : Nat) : Int)), (2, ((b : Nat) : Int))], [], h) :=
  vcJ_ok (K := [4, 12, 20, 28, 33]) 40 _ q
set_option maxRecDepth 20000 in
theorem bi5_init_4 {d : Nat} {F : mPost} {h : mH} {a : Nat} {b : Nat} (q : (true = true) ∧ ((true = true) ∧ ((true = true) ∧ ((0 ≤ (12 : Int) ∧ (12 : Int) ≤ 100000 ∧ h.2.2.2.1 + 1 ≤ 600000 ∧ h.2.2.2.2 + 12 ≤ 7302249) ∧ (∃ p : Nat, ((Nat.beq (mKd h p) 0 && Nat.ble 1 p) = true) ∧ (((true && Nat.beq (mKd (mNew h p 1 12) a) 15 && true) = true) ∧ (WPc t5_init (WPm gT d) F (12, [(2, ((a : Nat) : Int)), (2, ((b : Nat) : Int))], [], mPut (mNew h p 1 12) a 1 p)))))))) : WPc t5_init (WPm gT d) F (4, [(2, ((a : Nat) : Int)), (2, ((b : Nat) : Int))], [], h) :=
  vcJ_ok (K := [4, 12, 20, 28, 33]) 40 _ q
set_option maxRecDepth 20000 in
theorem bi5_init_12 {d : Nat} {F : mPost} {h : mH} {a : Nat} {b : Nat} (q : (true = true) ∧ ((true = true) ∧ ((true = true) ∧ ((0 ≤ (8 : Int) ∧ (8 : Int) ≤ 100000 ∧ h.2.2.2.1 + 1 ≤ 600000 ∧ h.2.2.2.2 + 8 ≤ 7302249) ∧ (∃ p : Nat, ((Nat.beq (mKd h p) 0 && Nat.ble 1 p) = true) ∧ (((true && Nat.beq (mKd (mNew h p 4 8) a) 15 && true) = true) ∧ (WPc t5_init (WPm gT d) F (20, [(2, ((a : Nat) : Int)), (2, ((b : Nat) : Int))], [], mPut (mNew h p 4 8) a 4 p)))))))) : WPc t5_init (WPm gT d) F (12, [(2, ((a : Nat) : Int)), (2, ((b : Nat) : Int))], [], h) :=
  vcJ_ok (K := [4, 12, 20, 28, 33]) 40 _ q
set_option maxRecDepth 20000 in
theorem bi5_init_20 {d : Nat} {F : mPost} {h : mH} {a : Nat} {b : Nat} (q : (true = true) ∧ ((true = true) ∧ ((true = true) ∧ ((0 ≤ (8 : Int) ∧ (8 : Int) ≤ 100000 ∧ h.2.2.2.1 + 1 ≤ 600000 ∧ h.2.2.2.2 + 8 ≤ 7302249) ∧ (∃ p : Nat, ((Nat.beq (mKd h p) 0 && Nat.ble 1 p) = true) ∧ (((true && Nat.beq (mKd (mNew h p 4 8) a) 15 && true) = true) ∧ (WPc t5_init (WPm gT d) F (28, [(2, ((a : Nat) : Int)), (2, ((b : Nat) : Int))], [], mPut (mNew h p 4 8) a 5 p)))))))) : WPc t5_init (WPm gT d) F (20, [(2, ((a : Nat) : Int)), (2, ((b : Nat) : Int))], [], h) :=
  vcJ_ok (K := [4, 12, 20, 28, 33]) 40 _ q
set_option maxRecDepth 20000 in
theorem bi5_init_28 {d : Nat} {F : mPost} {h : mH} {a : Nat} {b : Nat} (q : (true = true) ∧ ((true = true) ∧ (((true && Nat.beq (mKd h a) 15 && true) = true) ∧ (WPc t5_init (WPm gT d) F (33, [(2, ((a : Nat) : Int)), (2, ((b : Nat) : Int))], [], mPut h a 0 b))))) : WPc t5_init (WPm gT d) F (28, [(2, ((a : Nat) : Int)), (2, ((b : Nat) : Int))], [], h) :=
  vcJ_ok (K := [4, 12, 20, 28, 33]) 40 _ q
set_option maxRecDepth 20000 in
theorem bi5_init_33 {d : Nat} {F : mPost} {h : mH} {a : Nat} {b : Nat} (q : (true = true) ∧ (F (9, 0) h)) : WPc t5_init (WPm gT d) F (33, [(2, ((a : Nat) : Int)), (2, ((b : Nat) : Int))], [], h) :=
  vcJ_ok (K := [4, 12, 20, 28, 33]) 40 _ q
set_option maxRecDepth 20000 in
theorem bi11_init_123 {d : Nat} {F : mPost} {h : mH} {a : Nat} {p : Nat} (q : ((true && Nat.beq (mKd h a) 21 && true) = true) ∧ (WPc t11_init (WPm gT d) F (126, [(2, ((a : Nat) : Int)), (9, 0)], [], mPut h a 11 p))) : WPc t11_init (WPm gT d) F (123, [(2, ((a : Nat) : Int)), (9, 0)], [(2, ((p : Nat) : Int)), (2, ((a : Nat) : Int))], h) :=
  vcJ_ok (K := [4, 13, 21, 24, 32, 35, 43, 46, 54, 57, 65, 73, 81, 93, 96, 108, 111, 123, 126, 134, 136, 141, 153, 154, 160]) 40 _ q
set_option maxRecDepth 20000 in
theorem bi11_init_126 {d : Nat} {F : mPost} {h : mH} {a : Nat} (q : (true = true) ∧ ((true = true) ∧ ((true = true) ∧ ((0 ≤ (8 : Int) ∧ (8 : Int) ≤ 100000 ∧ h.2.2.2.1 + 1 ≤ 600000 ∧ h.2.2.2.2 + 8 ≤ 7302249) ∧ (∃ p : Nat, ((Nat.beq (mKd h p) 0 && Nat.ble 1 p) = true) ∧ (((true && Nat.beq (mKd (mNew h p 1 8) a) 21 && true) = true) ∧ (WPc t11_init (WPm gT d) F (134, [(2, ((a : Nat) : Int)), (9, 0)], [], mPut (mNew h p 1 8) a 12 p)))))))) : WPc t11_init (WPm gT d) F (126, [(2, ((a : Nat) : Int)), (9, 0)], [], h) :=
  vcJ_ok (K := [4, 13, 21, 24, 32, 35, 43, 46, 54, 57, 65, 73, 81, 93, 96, 108, 111, 123, 126, 134, 136, 141, 153, 154, 160]) 40 _ q
set_option maxRecDepth 20000 in
theorem bi11_init_134 {d : Nat} {F : mPost} {h : mH} {a : Nat} (q : (true = true) ∧ ((true = true) ∧ (WPc t11_init (WPm gT d) F (136, [(2, ((a : Nat) : Int)), (0, 0)], [], h)))) : WPc t11_init (WPm gT d) F (134, [(2, ((a : Nat) : Int)), (9, 0)], [], h) :=
  vcJ_ok (K := [4, 13, 21, 24, 32, 35, 43, 46, 54, 57, 65, 73, 81, 93, 96, 108, 111, 123, 126, 134, 136, 141, 153, 154, 160]) 40 _ q
set_option maxRecDepth 20000 in
theorem bi11_init_136 {d : Nat} {F : mPost} {h : mH} {a : Nat} {x : Int} (q : (true = true) ∧ ((true = true) ∧ ((true = true) ∧ ((4 ≤ x → WPc t11_init (WPm gT d) F (160, [(2, ((a : Nat) : Int)), (0, x)], [], h)) ∧ (¬ (4 ≤ x) → WPc t11_init (WPm gT d) F (141, [(2, ((a : Nat) : Int)), (0, x)], [], h)))))) : WPc t11_init (WPm gT d) F (136, [(2, ((a : Nat) : Int)), (0, x)], [], h) :=
  vcJ_ok (K := [4, 13, 21, 24, 32, 35, 43, 46, 54, 57, 65, 73, 81, 93, 96, 108, 111, 123, 126, 134, 136, 141, 153, 154, 160]) 40 _ q
set_option maxRecDepth 20000 in
theorem bi11_init_141 {d : Nat} {F : mPost} {h : mH} {a : Nat} {x : Int} (q : (true = true) ∧ (((true && Nat.beq (mKd h a) 21) = true) ∧ ((true = true) ∧ ((true = true) ∧ ((h.2.2.2.1 + 1 ≤ 600000 ∧ h.2.2.2.2 + 3 ≤ 7302249) ∧ (∃ p : Nat, ((Nat.beq (mKd h p) 0 && Nat.ble 1 p) = true) ∧ ((true = true) ∧ (((true && true && (false || (true && Nat.beq (mKd (mNew h p 18 3) p) 18))) = true) ∧ (WPm gT d 72 [(2, ((p : Nat) : Int))] (mNew h p 18 3) (fun _ h' => WPc t11_init (WPm gT d) F (153, [(2, ((a : Nat) : Int)), (0, x)], [(2, ((p : Nat) : Int)), (0, x), (2, ((h.2.1 a 6 : Nat) : Int))], h'))))))))))) : WPc t11_init (WPm gT d) F (141, [(2, ((a : Nat) : Int)), (0, x)], [], h) :=
  vcJ_ok (K := [4, 13, 21, 24, 32, 35, 43, 46, 54, 57, 65, 73, 81, 93, 96, 108, 111, 123, 126, 134, 136, 141, 153, 154, 160]) 40 _ q
set_option maxRecDepth 20000 in
theorem bi8_init_0 {d : Nat} {F : mPost} {h : mH} {a : Nat} (q : (true = true) ∧ (((true && Nat.ble 1 a && true) = true) ∧ (WPc t8_init (WPm gT d) F (4, [(2, ((a : Nat) : Int))], [], h)))) : WPc t8_init (WPm gT d) F (0, [(2, ((a : Nat) : Int))], [], h) :=
  vcJ_ok (K := [4, 12, 17]) 40 _ q
set_option maxRecDepth 20000 in
theorem bi8_init_4 {d : Nat} {F : mPost} {h : mH} {a : Nat} (q : (true = true) ∧ ((true = true) ∧ ((true = true) ∧ ((0 ≤ (40 : Int) ∧ (40 : Int) ≤ 100000 ∧ h.2.2.2.1 + 1 ≤ 600000 ∧ h.2.2.2.2 + 40 ≤ 7302249) ∧ (∃ p : Nat, ((Nat.beq (mKd h p) 0 && Nat.ble 1 p) = true) ∧ (((true && Nat.beq (mKd (mNew h p 4 40) a) 18 && true) = true) ∧ (WPc t8_init (WPm gT d) F (12, [(2, ((a : Nat) : Int))], [], mPut (mNew h p 4 40) a 0 p)))))))) : WPc t8_init (WPm gT d) F (4, [(2, ((a : Nat) : Int))], [], h) :=
  vcJ_ok (K := [4, 12, 17]) 40 _ q
set_option maxRecDepth 20000 in
theorem bi8_init_12 {d : Nat} {F : mPost} {h : mH} {a : Nat} (q : (true = true) ∧ ((true = true) ∧ (((true && Nat.beq (mKd h a) 18 && true) = true) ∧ (WPc t8_init (WPm gT d) F (17, [(2, ((a : Nat) : Int))], [], mSet h a 2 (-1)))))) : WPc t8_init (WPm gT d) F (12, [(2, ((a : Nat) : Int))], [], h) :=
  vcJ_ok (K := [4, 12, 17]) 40 _ q
set_option maxRecDepth 20000 in
theorem bi8_init_17 {d : Nat} {F : mPost} {h : mH} {a : Nat} (q : (true = true) ∧ (F (9, 0) h)) : WPc t8_init (WPm gT d) F (17, [(2, ((a : Nat) : Int))], [], h) :=
  vcJ_ok (K := [4, 12, 17]) 40 _ q
set_option maxRecDepth 20000 in
theorem bi11_init_153 {d : Nat} {F : mPost} {h : mH} {a : Nat} {p : Nat} {v : Nat} {x : Int} (q : ((true && Nat.beq (mKd h p) 18 && true && true && Nat.beq (mKd h v) 48) = true) ∧ ((0 ≤ x ∧ x < ((mLn h v : Nat) : Int)) ∧ (WPc t11_init (WPm gT d) F (154, [(2, ((a : Nat) : Int)), (0, x)], [], mPut h v (x : Int).toNat p)))) : WPc t11_init (WPm gT d) F (153, [(2, ((a : Nat) : Int)), (0, x)], [(2, ((p : Nat) : Int)), (0, x), (2, ((v : Nat) : Int))], h) :=
  vcJ_ok (K := [4, 13, 21, 24, 32, 35, 43, 46, 54, 57, 65, 73, 81, 93, 96, 108, 111, 123, 126, 134, 136, 141, 153, 154, 160]) 40 _ q
set_option maxRecDepth 20000 in
theorem bi11_init_154 {d : Nat} {F : mPost} {h : mH} {a : Nat} {x : Int} (q : (true = true) ∧ ((true = true) ∧ (WPc t11_init (WPm gT d) F (136, [(2, ((a : Nat) : Int)), (0, (w32 (x + 1)))], [], h)))) : WPc t11_init (WPm gT d) F (154, [(2, ((a : Nat) : Int)), (0, x)], [], h) :=
  vcJ_ok (K := [4, 13, 21, 24, 32, 35, 43, 46, 54, 57, 65, 73, 81, 93, 96, 108, 111, 123, 126, 134, 136, 141, 153, 154, 160]) 40 _ q
set_option maxRecDepth 20000 in
theorem bi11_init_160 {d : Nat} {F : mPost} {h : mH} {a : Nat} {x : Int} (q : (true = true) ∧ (F (9, 0) h)) : WPc t11_init (WPm gT d) F (160, [(2, ((a : Nat) : Int)), (0, x)], [], h) :=
  vcJ_ok (K := [4, 13, 21, 24, 32, 35, 43, 46, 54, 57, 65, 73, 81, 93, 96, 108, 111, 123, 126, 134, 136, 141, 153, 154, 160]) 40 _ q
