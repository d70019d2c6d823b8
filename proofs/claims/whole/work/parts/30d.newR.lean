/-! ===== a PartyLineModel is made (printed by program) ===== -/
set_option maxRecDepth 20000 in
theorem bi12_init_0 {d : Nat} {F : mPost} {h : mH} {a : Nat} (q : (true = true) ∧ (((true && Nat.ble 1 a && true) = true) ∧ (WPc t12_init (WPm gT d) F (4, [(2, ((a : Nat) : Int))], [], h)))) : WPc t12_init (WPm gT d) F (0, [(2, ((a : Nat) : Int))], [], h) :=
  vcJ_ok (K := [4, 13, 20, 29, 38, 43, 52, 60, 68, 76, 84, 92, 100, 108, 116, 124, 132, 140, 148, 156, 164, 168, 172, 176, 179, 186, 195, 202]) 40 _ q
set_option maxRecDepth 20000 in
theorem bi12_init_4 {d : Nat} {F : mPost} {h : mH} {a : Nat} (q : (true = true) ∧ ((true = true) ∧ ((true = true) ∧ ((0 ≤ (3792 : Int) ∧ (3792 : Int) ≤ 100000 ∧ h.2.2.2.1 + 1 ≤ 600000 ∧ h.2.2.2.2 + 3792 ≤ 7302249) ∧ (∃ p : Nat, ((Nat.beq (mKd h p) 0 && Nat.ble 1 p) = true) ∧ (((true && Nat.beq (mKd (mNew h p 1 3792) a) 22 && true) = true) ∧ (WPc t12_init (WPm gT d) F (13, [(2, ((a : Nat) : Int))], [], mPut (mNew h p 1 3792) a 1 p)))))))) : WPc t12_init (WPm gT d) F (4, [(2, ((a : Nat) : Int))], [], h) :=
  vcJ_ok (K := [4, 13, 20, 29, 38, 43, 52, 60, 68, 76, 84, 92, 100, 108, 116, 124, 132, 140, 148, 156, 164, 168, 172, 176, 179, 186, 195, 202]) 40 _ q
set_option maxRecDepth 20000 in
theorem bi12_init_13 {d : Nat} {F : mPost} {h : mH} {a : Nat} (q : (true = true) ∧ ((true = true) ∧ ((true = true) ∧ ((0 ≤ (2 : Int) ∧ (2 : Int) ≤ 100000 ∧ h.2.2.2.1 + 1 ≤ 600000 ∧ h.2.2.2.2 + 2 ≤ 7302249) ∧ (∃ p : Nat, ((Nat.beq (mKd h p) 0 && Nat.ble 1 p) = true) ∧ (((true && Nat.beq (mKd (mNew h p 3 2) a) 22 && true) = true) ∧ (WPc t12_init (WPm gT d) F (20, [(2, ((a : Nat) : Int))], [], mPut (mNew h p 3 2) a 2 p)))))))) : WPc t12_init (WPm gT d) F (13, [(2, ((a : Nat) : Int))], [], h) :=
  vcJ_ok (K := [4, 13, 20, 29, 38, 43, 52, 60, 68, 76, 84, 92, 100, 108, 116, 124, 132, 140, 148, 156, 164, 168, 172, 176, 179, 186, 195, 202]) 40 _ q
set_option maxRecDepth 20000 in
theorem bi12_init_20 {d : Nat} {F : mPost} {h : mH} {a : Nat} (q : (true = true) ∧ ((true = true) ∧ ((true = true) ∧ ((0 ≤ (900 : Int) ∧ (900 : Int) ≤ 100000 ∧ h.2.2.2.1 + 1 ≤ 600000 ∧ h.2.2.2.2 + 900 ≤ 7302249) ∧ (∃ p : Nat, ((Nat.beq (mKd h p) 0 && Nat.ble 1 p) = true) ∧ (((true && Nat.beq (mKd (mNew h p 1 900) a) 22 && true) = true) ∧ (WPc t12_init (WPm gT d) F (29, [(2, ((a : Nat) : Int))], [], mPut (mNew h p 1 900) a 3 p)))))))) : WPc t12_init (WPm gT d) F (20, [(2, ((a : Nat) : Int))], [], h) :=
  vcJ_ok (K := [4, 13, 20, 29, 38, 43, 52, 60, 68, 76, 84, 92, 100, 108, 116, 124, 132, 140, 148, 156, 164, 168, 172, 176, 179, 186, 195, 202]) 40 _ q
set_option maxRecDepth 20000 in
theorem bi12_init_29 {d : Nat} {F : mPost} {h : mH} {a : Nat} (q : (true = true) ∧ ((true = true) ∧ ((true = true) ∧ ((0 ≤ (1264 : Int) ∧ (1264 : Int) ≤ 100000 ∧ h.2.2.2.1 + 1 ≤ 600000 ∧ h.2.2.2.2 + 1264 ≤ 7302249) ∧ (∃ p : Nat, ((Nat.beq (mKd h p) 0 && Nat.ble 1 p) = true) ∧ (((true && Nat.beq (mKd (mNew h p 1 1264) a) 22 && true) = true) ∧ (WPc t12_init (WPm gT d) F (38, [(2, ((a : Nat) : Int))], [], mPut (mNew h p 1 1264) a 4 p)))))))) : WPc t12_init (WPm gT d) F (29, [(2, ((a : Nat) : Int))], [], h) :=
  vcJ_ok (K := [4, 13, 20, 29, 38, 43, 52, 60, 68, 76, 84, 92, 100, 108, 116, 124, 132, 140, 148, 156, 164, 168, 172, 176, 179, 186, 195, 202]) 40 _ q
set_option maxRecDepth 20000 in
theorem bi12_init_38 {d : Nat} {F : mPost} {h : mH} {a : Nat} (q : (true = true) ∧ ((true = true) ∧ (((true && Nat.beq (mKd h a) 22 && true) = true) ∧ (WPc t12_init (WPm gT d) F (43, [(2, ((a : Nat) : Int))], [], mSet h a 14 (-1)))))) : WPc t12_init (WPm gT d) F (38, [(2, ((a : Nat) : Int))], [], h) :=
  vcJ_ok (K := [4, 13, 20, 29, 38, 43, 52, 60, 68, 76, 84, 92, 100, 108, 116, 124, 132, 140, 148, 156, 164, 168, 172, 176, 179, 186, 195, 202]) 40 _ q
set_option maxRecDepth 20000 in
theorem bi12_init_43 {d : Nat} {F : mPost} {h : mH} {a : Nat} (q : (true = true) ∧ ((true = true) ∧ ((true = true) ∧ ((0 ≤ (900 : Int) ∧ (900 : Int) ≤ 100000 ∧ h.2.2.2.1 + 1 ≤ 600000 ∧ h.2.2.2.2 + 900 ≤ 7302249) ∧ (∃ p : Nat, ((Nat.beq (mKd h p) 0 && Nat.ble 1 p) = true) ∧ (((true && Nat.beq (mKd (mNew h p 1 900) a) 22 && true) = true) ∧ (WPc t12_init (WPm gT d) F (52, [(2, ((a : Nat) : Int))], [], mPut (mNew h p 1 900) a 16 p)))))))) : WPc t12_init (WPm gT d) F (43, [(2, ((a : Nat) : Int))], [], h) :=
  vcJ_ok (K := [4, 13, 20, 29, 38, 43, 52, 60, 68, 76, 84, 92, 100, 108, 116, 124, 132, 140, 148, 156, 164, 168, 172, 176, 179, 186, 195, 202]) 40 _ q
set_option maxRecDepth 20000 in
theorem bi12_init_52 {d : Nat} {F : mPost} {h : mH} {a : Nat} (q : (true = true) ∧ ((true = true) ∧ ((true = true) ∧ ((0 ≤ (8 : Int) ∧ (8 : Int) ≤ 100000 ∧ h.2.2.2.1 + 1 ≤ 600000 ∧ h.2.2.2.2 + 8 ≤ 7302249) ∧ (∃ p : Nat, ((Nat.beq (mKd h p) 0 && Nat.ble 1 p) = true) ∧ (((true && Nat.beq (mKd (mNew h p 1 8) a) 22 && true) = true) ∧ (WPc t12_init (WPm gT d) F (60, [(2, ((a : Nat) : Int))], [], mPut (mNew h p 1 8) a 17 p)))))))) : WPc t12_init (WPm gT d) F (52, [(2, ((a : Nat) : Int))], [], h) :=
  vcJ_ok (K := [4, 13, 20, 29, 38, 43, 52, 60, 68, 76, 84, 92, 100, 108, 116, 124, 132, 140, 148, 156, 164, 168, 172, 176, 179, 186, 195, 202]) 40 _ q
set_option maxRecDepth 20000 in
theorem bi12_init_60 {d : Nat} {F : mPost} {h : mH} {a : Nat} (q : (true = true) ∧ ((true = true) ∧ ((true = true) ∧ ((0 ≤ (27 : Int) ∧ (27 : Int) ≤ 100000 ∧ h.2.2.2.1 + 1 ≤ 600000 ∧ h.2.2.2.2 + 27 ≤ 7302249) ∧ (∃ p : Nat, ((Nat.beq (mKd h p) 0 && Nat.ble 1 p) = true) ∧ (((true && Nat.beq (mKd (mNew h p 1 27) a) 22 && true) = true) ∧ (WPc t12_init (WPm gT d) F (68, [(2, ((a : Nat) : Int))], [], mPut (mNew h p 1 27) a 18 p)))))))) : WPc t12_init (WPm gT d) F (60, [(2, ((a : Nat) : Int))], [], h) :=
  vcJ_ok (K := [4, 13, 20, 29, 38, 43, 52, 60, 68, 76, 84, 92, 100, 108, 116, 124, 132, 140, 148, 156, 164, 168, 172, 176, 179, 186, 195, 202]) 40 _ q
set_option maxRecDepth 20000 in
theorem bi12_init_68 {d : Nat} {F : mPost} {h : mH} {a : Nat} (q : (true = true) ∧ ((true = true) ∧ ((true = true) ∧ ((0 ≤ (32768 : Int) ∧ (32768 : Int) ≤ 100000 ∧ h.2.2.2.1 + 1 ≤ 600000 ∧ h.2.2.2.2 + 32768 ≤ 7302249) ∧ (∃ p : Nat, ((Nat.beq (mKd h p) 0 && Nat.ble 1 p) = true) ∧ (((true && Nat.beq (mKd (mNew h p 1 32768) a) 22 && true) = true) ∧ (WPc t12_init (WPm gT d) F (76, [(2, ((a : Nat) : Int))], [], mPut (mNew h p 1 32768) a 22 p)))))))) : WPc t12_init (WPm gT d) F (68, [(2, ((a : Nat) : Int))], [], h) :=
  vcJ_ok (K := [4, 13, 20, 29, 38, 43, 52, 60, 68, 76, 84, 92, 100, 108, 116, 124, 132, 140, 148, 156, 164, 168, 172, 176, 179, 186, 195, 202]) 40 _ q
set_option maxRecDepth 20000 in
theorem bi12_init_76 {d : Nat} {F : mPost} {h : mH} {a : Nat} (q : (true = true) ∧ ((true = true) ∧ ((true = true) ∧ ((0 ≤ (120 : Int) ∧ (120 : Int) ≤ 100000 ∧ h.2.2.2.1 + 1 ≤ 600000 ∧ h.2.2.2.2 + 120 ≤ 7302249) ∧ (∃ p : Nat, ((Nat.beq (mKd h p) 0 && Nat.ble 1 p) = true) ∧ (((true && Nat.beq (mKd (mNew h p 1 120) a) 22 && true) = true) ∧ (WPc t12_init (WPm gT d) F (84, [(2, ((a : Nat) : Int))], [], mPut (mNew h p 1 120) a 23 p)))))))) : WPc t12_init (WPm gT d) F (76, [(2, ((a : Nat) : Int))], [], h) :=
  vcJ_ok (K := [4, 13, 20, 29, 38, 43, 52, 60, 68, 76, 84, 92, 100, 108, 116, 124, 132, 140, 148, 156, 164, 168, 172, 176, 179, 186, 195, 202]) 40 _ q
set_option maxRecDepth 20000 in
theorem bi12_init_84 {d : Nat} {F : mPost} {h : mH} {a : Nat} (q : (true = true) ∧ ((true = true) ∧ ((true = true) ∧ ((0 ≤ (8 : Int) ∧ (8 : Int) ≤ 100000 ∧ h.2.2.2.1 + 1 ≤ 600000 ∧ h.2.2.2.2 + 8 ≤ 7302249) ∧ (∃ p : Nat, ((Nat.beq (mKd h p) 0 && Nat.ble 1 p) = true) ∧ (((true && Nat.beq (mKd (mNew h p 4 8) a) 22 && true) = true) ∧ (WPc t12_init (WPm gT d) F (92, [(2, ((a : Nat) : Int))], [], mPut (mNew h p 4 8) a 25 p)))))))) : WPc t12_init (WPm gT d) F (84, [(2, ((a : Nat) : Int))], [], h) :=
  vcJ_ok (K := [4, 13, 20, 29, 38, 43, 52, 60, 68, 76, 84, 92, 100, 108, 116, 124, 132, 140, 148, 156, 164, 168, 172, 176, 179, 186, 195, 202]) 40 _ q
set_option maxRecDepth 20000 in
theorem bi12_init_92 {d : Nat} {F : mPost} {h : mH} {a : Nat} (q : (true = true) ∧ ((true = true) ∧ ((true = true) ∧ ((0 ≤ (8 : Int) ∧ (8 : Int) ≤ 100000 ∧ h.2.2.2.1 + 1 ≤ 600000 ∧ h.2.2.2.2 + 8 ≤ 7302249) ∧ (∃ p : Nat, ((Nat.beq (mKd h p) 0 && Nat.ble 1 p) = true) ∧ (((true && Nat.beq (mKd (mNew h p 4 8) a) 22 && true) = true) ∧ (WPc t12_init (WPm gT d) F (100, [(2, ((a : Nat) : Int))], [], mPut (mNew h p 4 8) a 26 p)))))))) : WPc t12_init (WPm gT d) F (92, [(2, ((a : Nat) : Int))], [], h) :=
  vcJ_ok (K := [4, 13, 20, 29, 38, 43, 52, 60, 68, 76, 84, 92, 100, 108, 116, 124, 132, 140, 148, 156, 164, 168, 172, 176, 179, 186, 195, 202]) 40 _ q
set_option maxRecDepth 20000 in
theorem bi12_init_100 {d : Nat} {F : mPost} {h : mH} {a : Nat} (q : (true = true) ∧ ((true = true) ∧ ((true = true) ∧ ((0 ≤ (64 : Int) ∧ (64 : Int) ≤ 100000 ∧ h.2.2.2.1 + 1 ≤ 600000 ∧ h.2.2.2.2 + 64 ≤ 7302249) ∧ (∃ p : Nat, ((Nat.beq (mKd h p) 0 && Nat.ble 1 p) = true) ∧ (((true && Nat.beq (mKd (mNew h p 1 64) a) 22 && true) = true) ∧ (WPc t12_init (WPm gT d) F (108, [(2, ((a : Nat) : Int))], [], mPut (mNew h p 1 64) a 27 p)))))))) : WPc t12_init (WPm gT d) F (100, [(2, ((a : Nat) : Int))], [], h) :=
  vcJ_ok (K := [4, 13, 20, 29, 38, 43, 52, 60, 68, 76, 84, 92, 100, 108, 116, 124, 132, 140, 148, 156, 164, 168, 172, 176, 179, 186, 195, 202]) 40 _ q
set_option maxRecDepth 20000 in
theorem bi12_init_108 {d : Nat} {F : mPost} {h : mH} {a : Nat} (q : (true = true) ∧ ((true = true) ∧ ((true = true) ∧ ((0 ≤ (64 : Int) ∧ (64 : Int) ≤ 100000 ∧ h.2.2.2.1 + 1 ≤ 600000 ∧ h.2.2.2.2 + 64 ≤ 7302249) ∧ (∃ p : Nat, ((Nat.beq (mKd h p) 0 && Nat.ble 1 p) = true) ∧ (((true && Nat.beq (mKd (mNew h p 1 64) a) 22 && true) = true) ∧ (WPc t12_init (WPm gT d) F (116, [(2, ((a : Nat) : Int))], [], mPut (mNew h p 1 64) a 28 p)))))))) : WPc t12_init (WPm gT d) F (108, [(2, ((a : Nat) : Int))], [], h) :=
  vcJ_ok (K := [4, 13, 20, 29, 38, 43, 52, 60, 68, 76, 84, 92, 100, 108, 116, 124, 132, 140, 148, 156, 164, 168, 172, 176, 179, 186, 195, 202]) 40 _ q
set_option maxRecDepth 20000 in
theorem bi12_init_116 {d : Nat} {F : mPost} {h : mH} {a : Nat} (q : (true = true) ∧ ((true = true) ∧ ((true = true) ∧ ((0 ≤ (8 : Int) ∧ (8 : Int) ≤ 100000 ∧ h.2.2.2.1 + 1 ≤ 600000 ∧ h.2.2.2.2 + 8 ≤ 7302249) ∧ (∃ p : Nat, ((Nat.beq (mKd h p) 0 && Nat.ble 1 p) = true) ∧ (((true && Nat.beq (mKd (mNew h p 1 8) a) 22 && true) = true) ∧ (WPc t12_init (WPm gT d) F (124, [(2, ((a : Nat) : Int))], [], mPut (mNew h p 1 8) a 29 p)))))))) : WPc t12_init (WPm gT d) F (116, [(2, ((a : Nat) : Int))], [], h) :=
  vcJ_ok (K := [4, 13, 20, 29, 38, 43, 52, 60, 68, 76, 84, 92, 100, 108, 116, 124, 132, 140, 148, 156, 164, 168, 172, 176, 179, 186, 195, 202]) 40 _ q
set_option maxRecDepth 20000 in
theorem bi12_init_124 {d : Nat} {F : mPost} {h : mH} {a : Nat} (q : (true = true) ∧ ((true = true) ∧ ((true = true) ∧ ((0 ≤ (64 : Int) ∧ (64 : Int) ≤ 100000 ∧ h.2.2.2.1 + 1 ≤ 600000 ∧ h.2.2.2.2 + 64 ≤ 7302249) ∧ (∃ p : Nat, ((Nat.beq (mKd h p) 0 && Nat.ble 1 p) = true) ∧ (((true && Nat.beq (mKd (mNew h p 1 64) a) 22 && true) = true) ∧ (WPc t12_init (WPm gT d) F (132, [(2, ((a : Nat) : Int))], [], mPut (mNew h p 1 64) a 30 p)))))))) : WPc t12_init (WPm gT d) F (124, [(2, ((a : Nat) : Int))], [], h) :=
  vcJ_ok (K := [4, 13, 20, 29, 38, 43, 52, 60, 68, 76, 84, 92, 100, 108, 116, 124, 132, 140, 148, 156, 164, 168, 172, 176, 179, 186, 195, 202]) 40 _ q
set_option maxRecDepth 20000 in
theorem bi12_init_132 {d : Nat} {F : mPost} {h : mH} {a : Nat} (q : (true = true) ∧ ((true = true) ∧ ((true = true) ∧ ((0 ≤ (64 : Int) ∧ (64 : Int) ≤ 100000 ∧ h.2.2.2.1 + 1 ≤ 600000 ∧ h.2.2.2.2 + 64 ≤ 7302249) ∧ (∃ p : Nat, ((Nat.beq (mKd h p) 0 && Nat.ble 1 p) = true) ∧ (((true && Nat.beq (mKd (mNew h p 1 64) a) 22 && true) = true) ∧ (WPc t12_init (WPm gT d) F (140, [(2, ((a : Nat) : Int))], [], mPut (mNew h p 1 64) a 31 p)))))))) : WPc t12_init (WPm gT d) F (132, [(2, ((a : Nat) : Int))], [], h) :=
  vcJ_ok (K := [4, 13, 20, 29, 38, 43, 52, 60, 68, 76, 84, 92, 100, 108, 116, 124, 132, 140, 148, 156, 164, 168, 172, 176, 179, 186, 195, 202]) 40 _ q
set_option maxRecDepth 20000 in
theorem bi12_init_140 {d : Nat} {F : mPost} {h : mH} {a : Nat} (q : (true = true) ∧ ((true = true) ∧ ((true = true) ∧ ((0 ≤ (8 : Int) ∧ (8 : Int) ≤ 100000 ∧ h.2.2.2.1 + 1 ≤ 600000 ∧ h.2.2.2.2 + 8 ≤ 7302249) ∧ (∃ p : Nat, ((Nat.beq (mKd h p) 0 && Nat.ble 1 p) = true) ∧ (((true && Nat.beq (mKd (mNew h p 4 8) a) 22 && true) = true) ∧ (WPc t12_init (WPm gT d) F (148, [(2, ((a : Nat) : Int))], [], mPut (mNew h p 4 8) a 32 p)))))))) : WPc t12_init (WPm gT d) F (140, [(2, ((a : Nat) : Int))], [], h) :=
  vcJ_ok (K := [4, 13, 20, 29, 38, 43, 52, 60, 68, 76, 84, 92, 100, 108, 116, 124, 132, 140, 148, 156, 164, 168, 172, 176, 179, 186, 195, 202]) 40 _ q
set_option maxRecDepth 20000 in
theorem bi12_init_148 {d : Nat} {F : mPost} {h : mH} {a : Nat} (q : (true = true) ∧ ((true = true) ∧ ((true = true) ∧ ((0 ≤ (8 : Int) ∧ (8 : Int) ≤ 100000 ∧ h.2.2.2.1 + 1 ≤ 600000 ∧ h.2.2.2.2 + 8 ≤ 7302249) ∧ (∃ p : Nat, ((Nat.beq (mKd h p) 0 && Nat.ble 1 p) = true) ∧ (((true && Nat.beq (mKd (mNew h p 4 8) a) 22 && true) = true) ∧ (WPc t12_init (WPm gT d) F (156, [(2, ((a : Nat) : Int))], [], mPut (mNew h p 4 8) a 33 p)))))))) : WPc t12_init (WPm gT d) F (148, [(2, ((a : Nat) : Int))], [], h) :=
  vcJ_ok (K := [4, 13, 20, 29, 38, 43, 52, 60, 68, 76, 84, 92, 100, 108, 116, 124, 132, 140, 148, 156, 164, 168, 172, 176, 179, 186, 195, 202]) 40 _ q
set_option maxRecDepth 20000 in
theorem bi12_init_156 {d : Nat} {F : mPost} {h : mH} {a : Nat} (q : (true = true) ∧ ((true = true) ∧ ((true = true) ∧ ((0 ≤ (4 : Int) ∧ (4 : Int) ≤ 100000 ∧ h.2.2.2.1 + 1 ≤ 600000 ∧ h.2.2.2.2 + 4 ≤ 7302249) ∧ (∃ p : Nat, ((Nat.beq (mKd h p) 0 && Nat.ble 1 p) = true) ∧ ((true = true) ∧ ((true = true) ∧ ((true = true) ∧ (((true && true && true && Nat.beq (mKd (mNew h p 1 4) p) 1) = true) ∧ (((0 : Int) ≤ (0 : Int) ∧ (0 : Int) < ((mLn (mNew h p 1 4) p : Nat) : Int) ∧ True) ∧ (WPc t12_init (WPm gT d) F (164, [(2, ((a : Nat) : Int))], [(2, ((p : Nat) : Int)), (2, ((a : Nat) : Int))], mSet (mNew h p 1 4) p (0 : Int).toNat (-1))))))))))))) : WPc t12_init (WPm gT d) F (156, [(2, ((a : Nat) : Int))], [], h) :=
  vcJ_ok (K := [4, 13, 20, 29, 38, 43, 52, 60, 68, 76, 84, 92, 100, 108, 116, 124, 132, 140, 148, 156, 164, 168, 172, 176, 179, 186, 195, 202]) 40 _ q
set_option maxRecDepth 20000 in
theorem bi12_init_164 {d : Nat} {F : mPost} {h : mH} {a : Nat} {p : Nat} (q : (true = true) ∧ ((true = true) ∧ ((true = true) ∧ (((true && true && true && Nat.beq (mKd h p) 1) = true) ∧ (((0 : Int) ≤ (1 : Int) ∧ (1 : Int) < ((mLn h p : Nat) : Int) ∧ True) ∧ (WPc t12_init (WPm gT d) F (168, [(2, ((a : Nat) : Int))], [(2, ((p : Nat) : Int)), (2, ((a : Nat) : Int))], mSet h p (1 : Int).toNat (-1)))))))) : WPc t12_init (WPm gT d) F (164, [(2, ((a : Nat) : Int))], [(2, ((p : Nat) : Int)), (2, ((a : Nat) : Int))], h) :=
  vcJ_ok (K := [4, 13, 20, 29, 38, 43, 52, 60, 68, 76, 84, 92, 100, 108, 116, 124, 132, 140, 148, 156, 164, 168, 172, 176, 179, 186, 195, 202]) 40 _ q
set_option maxRecDepth 20000 in
theorem bi12_init_168 {d : Nat} {F : mPost} {h : mH} {a : Nat} {p : Nat} (q : (true = true) ∧ ((true = true) ∧ ((true = true) ∧ (((true && true && true && Nat.beq (mKd h p) 1) = true) ∧ (((0 : Int) ≤ (2 : Int) ∧ (2 : Int) < ((mLn h p : Nat) : Int) ∧ True) ∧ (WPc t12_init (WPm gT d) F (172, [(2, ((a : Nat) : Int))], [(2, ((p : Nat) : Int)), (2, ((a : Nat) : Int))], mSet h p (2 : Int).toNat (-1)))))))) : WPc t12_init (WPm gT d) F (168, [(2, ((a : Nat) : Int))], [(2, ((p : Nat) : Int)), (2, ((a : Nat) : Int))], h) :=
  vcJ_ok (K := [4, 13, 20, 29, 38, 43, 52, 60, 68, 76, 84, 92, 100, 108, 116, 124, 132, 140, 148, 156, 164, 168, 172, 176, 179, 186, 195, 202]) 40 _ q
set_option maxRecDepth 20000 in
theorem bi12_init_172 {d : Nat} {F : mPost} {h : mH} {a : Nat} {p : Nat} (q : (true = true) ∧ ((true = true) ∧ ((true = true) ∧ (((true && true && true && Nat.beq (mKd h p) 1) = true) ∧ (((0 : Int) ≤ (3 : Int) ∧ (3 : Int) < ((mLn h p : Nat) : Int) ∧ True) ∧ (WPc t12_init (WPm gT d) F (176, [(2, ((a : Nat) : Int))], [(2, ((p : Nat) : Int)), (2, ((a : Nat) : Int))], mSet h p (3 : Int).toNat (-1)))))))) : WPc t12_init (WPm gT d) F (172, [(2, ((a : Nat) : Int))], [(2, ((p : Nat) : Int)), (2, ((a : Nat) : Int))], h) :=
  vcJ_ok (K := [4, 13, 20, 29, 38, 43, 52, 60, 68, 76, 84, 92, 100, 108, 116, 124, 132, 140, 148, 156, 164, 168, 172, 176, 179, 186, 195, 202]) 40 _ q
set_option maxRecDepth 20000 in
theorem bi12_init_176 {d : Nat} {F : mPost} {h : mH} {a : Nat} {p : Nat} (q : ((true && Nat.beq (mKd h a) 22 && true) = true) ∧ (WPc t12_init (WPm gT d) F (179, [(2, ((a : Nat) : Int))], [], mPut h a 34 p))) : WPc t12_init (WPm gT d) F (176, [(2, ((a : Nat) : Int))], [(2, ((p : Nat) : Int)), (2, ((a : Nat) : Int))], h) :=
  vcJ_ok (K := [4, 13, 20, 29, 38, 43, 52, 60, 68, 76, 84, 92, 100, 108, 116, 124, 132, 140, 148, 156, 164, 168, 172, 176, 179, 186, 195, 202]) 40 _ q
set_option maxRecDepth 20000 in
theorem bi12_init_179 {d : Nat} {F : mPost} {h : mH} {a : Nat} (q : (true = true) ∧ ((true = true) ∧ ((true = true) ∧ ((0 ≤ (4 : Int) ∧ (4 : Int) ≤ 100000 ∧ h.2.2.2.1 + 1 ≤ 600000 ∧ h.2.2.2.2 + 4 ≤ 7302249) ∧ (∃ p : Nat, ((Nat.beq (mKd h p) 0 && Nat.ble 1 p) = true) ∧ (((true && Nat.beq (mKd (mNew h p 1 4) a) 22 && true) = true) ∧ (WPc t12_init (WPm gT d) F (186, [(2, ((a : Nat) : Int))], [], mPut (mNew h p 1 4) a 35 p)))))))) : WPc t12_init (WPm gT d) F (179, [(2, ((a : Nat) : Int))], [], h) :=
  vcJ_ok (K := [4, 13, 20, 29, 38, 43, 52, 60, 68, 76, 84, 92, 100, 108, 116, 124, 132, 140, 148, 156, 164, 168, 172, 176, 179, 186, 195, 202]) 40 _ q
set_option maxRecDepth 20000 in
theorem bi12_init_186 {d : Nat} {F : mPost} {h : mH} {a : Nat} (q : (true = true) ∧ ((true = true) ∧ ((true = true) ∧ ((0 ≤ (160 : Int) ∧ (160 : Int) ≤ 100000 ∧ h.2.2.2.1 + 1 ≤ 600000 ∧ h.2.2.2.2 + 160 ≤ 7302249) ∧ (∃ p : Nat, ((Nat.beq (mKd h p) 0 && Nat.ble 1 p) = true) ∧ (((true && Nat.beq (mKd (mNew h p 4 160) a) 22 && true) = true) ∧ (WPc t12_init (WPm gT d) F (195, [(2, ((a : Nat) : Int))], [], mPut (mNew h p 4 160) a 36 p)))))))) : WPc t12_init (WPm gT d) F (186, [(2, ((a : Nat) : Int))], [], h) :=
  vcJ_ok (K := [4, 13, 20, 29, 38, 43, 52, 60, 68, 76, 84, 92, 100, 108, 116, 124, 132, 140, 148, 156, 164, 168, 172, 176, 179, 186, 195, 202]) 40 _ q
set_option maxRecDepth 20000 in
theorem bi12_init_195 {d : Nat} {F : mPost} {h : mH} {a : Nat} (q : (true = true) ∧ (((true && Nat.beq (mKd h a) 22) = true) ∧ ((true = true) ∧ (WPm gT d 184 [(2, ((h.2.1 a 1 : Nat) : Int))] h (fun _ h' => WPc t12_init (WPm gT d) F (202, [(2, ((a : Nat) : Int))], [], h')))))) : WPc t12_init (WPm gT d) F (195, [(2, ((a : Nat) : Int))], [], h) :=
  vcJ_ok (K := [4, 13, 20, 29, 38, 43, 52, 60, 68, 76, 84, 92, 100, 108, 116, 124, 132, 140, 148, 156, 164, 168, 172, 176, 179, 186, 195, 202]) 40 _ q
set_option maxRecDepth 20000 in
theorem bi12_init_202 {d : Nat} {F : mPost} {h : mH} {a : Nat} (q : (true = true) ∧ (F (9, 0) h)) : WPc t12_init (WPm gT d) F (202, [(2, ((a : Nat) : Int))], [], h) :=
  vcJ_ok (K := [4, 13, 20, 29, 38, 43, 52, 60, 68, 76, 84, 92, 100, 108, 116, 124, 132, 140, 148, 156, 164, 168, 172, 176, 179, 186, 195, 202]) 40 _ q
def hQ0 : mH := (fun _ _ => 0, fun _ _ => 0, fun b => if b = 1 then (22, 37) else (0, 0), (1, 37))
def hQ1 : mH := mPut (mNew hQ0 2 1 3792) 1 1 2
def hQ2 : mH := mPut (mNew hQ1 3 3 2) 1 2 3
def hQ3 : mH := mPut (mNew hQ2 4 1 900) 1 3 4
def hQ4 : mH := mPut (mNew hQ3 5 1 1264) 1 4 5
def hQ5 : mH := mSet hQ4 1 14 (-1)
def hQ6 : mH := mPut (mNew hQ5 6 1 900) 1 16 6
def hQ7 : mH := mPut (mNew hQ6 7 1 8) 1 17 7
def hQ8 : mH := mPut (mNew hQ7 8 1 27) 1 18 8
def hQ9 : mH := mPut (mNew hQ8 9 1 32768) 1 22 9
def hQ10 : mH := mPut (mNew hQ9 10 1 120) 1 23 10
def hQ11 : mH := mPut (mNew hQ10 11 4 8) 1 25 11
def hQ12 : mH := mPut (mNew hQ11 12 4 8) 1 26 12
def hQ13 : mH := mPut (mNew hQ12 13 1 64) 1 27 13
def hQ14 : mH := mPut (mNew hQ13 14 1 64) 1 28 14
def hQ15 : mH := mPut (mNew hQ14 15 1 8) 1 29 15
def hQ16 : mH := mPut (mNew hQ15 16 1 64) 1 30 16
def hQ17 : mH := mPut (mNew hQ16 17 1 64) 1 31 17
def hQ18 : mH := mPut (mNew hQ17 18 4 8) 1 32 18
def hQ19 : mH := mPut (mNew hQ18 19 4 8) 1 33 19
def hQ20 : mH := mSet (mNew hQ19 20 1 4) 20 0 (-1)
def hQ21 : mH := mSet hQ20 20 1 (-1)
def hQ22 : mH := mSet hQ21 20 2 (-1)
def hQ23 : mH := mSet hQ22 20 3 (-1)
def hQ24 : mH := mPut hQ23 1 34 20
def hQ25 : mH := mPut (mNew hQ24 21 1 4) 1 35 21
def hQ26 : mH := mPut (mNew hQ25 22 4 160) 1 36 22
def Zq (h : mH) : Prop := (∀ b k, 23 ≤ b ∨ 37 ≤ k → h.2.1 b k = 0) ∧ (∀ b, 23 ≤ b → h.2.2.1 b = (0, 0))
theorem Zq.new {h : mH} {a kd n : Nat} (z : Zq h) (ha : a < 23) : Zq (mNew h a kd n) := by
  refine ⟨fun b k hb => ?_, fun b hb => ?_⟩
  · show (if b = a then 0 else h.2.1 b k) = 0
    split
    · rfl
    · exact z.1 b k hb
  · show (if b = a then (kd, n) else h.2.2.1 b) = (0, 0)
    rw [if_neg (by omega)]
    exact z.2 b hb
theorem Zq.put {h : mH} {a j x : Nat} (z : Zq h) (ha : a < 23) (hj : j < 37) : Zq (mPut h a j x) := by
  refine ⟨fun b k hb => ?_, z.2⟩
  show (if b = a ∧ k = j then x else h.2.1 b k) = 0
  rw [if_neg (by omega)]
  exact z.1 b k hb
theorem Zq.set {h : mH} {a j : Nat} {x : Int} (z : Zq h) : Zq (mSet h a j x) := z
theorem zq0 : Zq hQ0 := by
  refine ⟨fun b k hb => rfl, fun b hb => ?_⟩
  show (if b = 1 then (22, 37) else (0, 0)) = (0, 0)
  rw [if_neg (by omega)]
theorem zq1 : Zq hQ1 := Zq.put (Zq.new zq0 (by decide)) (by decide) (by decide)
theorem zq2 : Zq hQ2 := Zq.put (Zq.new zq1 (by decide)) (by decide) (by decide)
theorem zq3 : Zq hQ3 := Zq.put (Zq.new zq2 (by decide)) (by decide) (by decide)
theorem zq4 : Zq hQ4 := Zq.put (Zq.new zq3 (by decide)) (by decide) (by decide)
theorem zq5 : Zq hQ5 := Zq.set zq4
theorem zq6 : Zq hQ6 := Zq.put (Zq.new zq5 (by decide)) (by decide) (by decide)
theorem zq7 : Zq hQ7 := Zq.put (Zq.new zq6 (by decide)) (by decide) (by decide)
theorem zq8 : Zq hQ8 := Zq.put (Zq.new zq7 (by decide)) (by decide) (by decide)
theorem zq9 : Zq hQ9 := Zq.put (Zq.new zq8 (by decide)) (by decide) (by decide)
theorem zq10 : Zq hQ10 := Zq.put (Zq.new zq9 (by decide)) (by decide) (by decide)
theorem zq11 : Zq hQ11 := Zq.put (Zq.new zq10 (by decide)) (by decide) (by decide)
theorem zq12 : Zq hQ12 := Zq.put (Zq.new zq11 (by decide)) (by decide) (by decide)
theorem zq13 : Zq hQ13 := Zq.put (Zq.new zq12 (by decide)) (by decide) (by decide)
theorem zq14 : Zq hQ14 := Zq.put (Zq.new zq13 (by decide)) (by decide) (by decide)
theorem zq15 : Zq hQ15 := Zq.put (Zq.new zq14 (by decide)) (by decide) (by decide)
theorem zq16 : Zq hQ16 := Zq.put (Zq.new zq15 (by decide)) (by decide) (by decide)
theorem zq17 : Zq hQ17 := Zq.put (Zq.new zq16 (by decide)) (by decide) (by decide)
theorem zq18 : Zq hQ18 := Zq.put (Zq.new zq17 (by decide)) (by decide) (by decide)
theorem zq19 : Zq hQ19 := Zq.put (Zq.new zq18 (by decide)) (by decide) (by decide)
theorem zq20 : Zq hQ20 := Zq.set (Zq.new zq19 (by decide))
theorem zq21 : Zq hQ21 := Zq.set zq20
theorem zq22 : Zq hQ22 := Zq.set zq21
theorem zq23 : Zq hQ23 := Zq.set zq22
theorem zq24 : Zq hQ24 := Zq.put zq23 (by decide) (by decide)
theorem zq25 : Zq hQ25 := Zq.put (Zq.new zq24 (by decide)) (by decide) (by decide)
theorem zq26 : Zq hQ26 := Zq.put (Zq.new zq25 (by decide)) (by decide) (by decide)
theorem rfR_hi (b k : Nat) (h : 23 ≤ b ∨ 37 ≤ k) : rfR b k = 0 := by
  unfold rfR
  cases e : Nat.beq b 1 with
  | false => rfl
  | true =>
    have e := Nat.eq_of_beq_eq_true e
    show (match k with | 1 => 2 | 2 => 3 | 3 => 4 | 4 => 5 | 16 => 6 | 17 => 7 | 18 => 8 | 22 => 9 | 23 => 10 | 25 => 11 | 26 => 12 | 27 => 13 | 28 => 14 | 29 => 15 | 30 => 16 | 31 => 17 | 32 => 18 | 33 => 19 | 34 => 20 | 35 => 21 | 36 => 22 | _ => 0) = 0
    split <;> first | rfl | omega
theorem shR_hi (b : Nat) (h : 23 ≤ b) : shR b = (0, 0) := by
  unfold shR
  split <;> first | rfl | omega
set_option maxRecDepth 100000 in
theorem shQ_lo : ∀ b, b < 23 → hQ26.2.2.1 b = shR b := by decide +kernel
set_option maxRecDepth 100000 in
theorem rfQ_lo : ∀ b, b < 23 → ∀ k, k < 37 → hQ26.2.1 b k = rfR b k := by decide +kernel
theorem hQ_rf : hQ26.2.1 = rfR := by
  funext b k
  by_cases h : b < 23 ∧ k < 37
  · exact rfQ_lo b h.1 k h.2
  · rw [rfR_hi b k (by omega), zq26.1 b k (by omega)]
theorem hQ_sh : hQ26.2.2.1 = shR := by
  funext b
  by_cases h : b < 23
  · exact shQ_lo b h
  · rw [shR_hi b (by omega), zq26.2 b (by omega)]
theorem hQ_n : hQ26.2.2.2 = (22, 40282) := by decide +kernel
theorem hQ_eq : hQ26 = hR hQ26.1 (22, 40282) := by
  show (hQ26.1, hQ26.2.1, hQ26.2.2.1, hQ26.2.2.2) = (hQ26.1, rfR, shR, (22, 40282))
  rw [hQ_rf, hQ_sh, hQ_n]
theorem s_plainA {d : Nat} {n : Nat × Nat} {Φ : Int → (Nat → Nat → Int) → Prop} {M : Nat → Nat → Int} (q : ∀ M', (∀ c, c ≠ 2 → M' c = M c) → (∀ j, j < 1264 → j ≠ 1 → j ≠ 2 → M' 2 j = 0) → M' 2 1 = 2 → M' 2 2 = 2 → Φ 0 M') : CR (d + 1) 184 [(2, 2)] M n Φ := by
  have key : ∀ k, k ≤ 1264 → ∀ (M' : Nat → Nat → Int), (∀ a, a ≠ 2 → M' a = M a) → (∀ j, j < k → M' 2 j = 0) → W12_plainA_2 d n Φ (k : Nat) M' := by
    refine up (fun M' k1 k2 => ?_) (fun k hk ih M' k1 k2 => ?_)
    · refine v12_plainA_2 ⟨fun _ => ?_, fun c => absurd (by omega) c⟩
      refine q _ (fun c hc => by rw [sI_row hc, sI_row hc]; exact k1 c hc) (fun j h1 h2 h3 => ?_) ?_ (sI_same _ _ _ _)
      · rw [sI_ne h3, sI_ne h2]
        exact k2 j h1
      · rw [sI_ne (by omega), sI_same]
    · apply v12_plainA_2
      rw [w32_s (k := k) (by omega), Int.toNat_natCast]
      refine ⟨fun c => absurd c (by omega), fun _ => ⟨⟨by omega, by omega, trivial⟩, ih _ (fun a ha => (sI_row ha).trans (k1 a ha)) (fun j hj => ?_)⟩⟩
      by_cases c : j = k
      · rw [c, sI_same]
      · rw [sI_ne c]; exact k2 j (by omega)
  exact e12_plainA (key 0 (Nat.zero_le _) M (fun _ _ => rfl) (fun j hj => absurd hj (by omega)))
theorem r_plainI {d : Nat} {F : mPost} (q : ∀ M', (∀ c, c ≠ 2 → M' c = hQ26.1 c) → (∀ j, j < 1264 → j ≠ 1 → j ≠ 2 → M' 2 j = 0) → M' 2 1 = 2 → M' 2 2 = 2 → F (9, 0) (hR M' (22, 40282))) : WPm gT (d + 1) 184 [(2, ((2 : Nat) : Int))] hQ26 (fun _ h' => WPc t12_init (WPm gT (d + 1)) F (202, [(2, ((1 : Nat) : Int))], [], h')) := by
  have e : CR (d + 1) 184 [(2, 2)] hQ26.1 (22, 40282) (fun _ M' => WPc t12_init (WPm gT (d + 1)) F (202, [(2, ((1 : Nat) : Int))], [], hR M' (22, 40282))) := s_plainA (fun M' h1 h2 h3 h4 => bi12_init_202 (h := hR M' (22, 40282)) (a := 1) ⟨rfl, q M' h1 h2 h3 h4⟩)
  unfold CR at e
  rw [← hQ_eq] at e
  exact WPm_mono gT (d + 1) _ _ _ _ _ (fun r h' z => by obtain ⟨M', z1, z2⟩ := z; rw [z1]; exact z2) e
theorem r12_init {d : Nat} {F : mPost} (q : ∀ M', (∀ c, c ≠ 2 → M' c = hQ26.1 c) → (∀ j, j < 1264 → j ≠ 1 → j ≠ 2 → M' 2 j = 0) → M' 2 1 = 2 → M' 2 2 = 2 → F (9, 0) (hR M' (22, 40282))) : WPm gT (d + 2) 183 [(2, ((1 : Nat) : Int))] hQ0 F := by
  refine WPm_in g12_init (Nat.le_of_ble_eq_true rfl) ?_
  refine bi12_init_0 (h := hQ0) (a := 1) ⟨rfl, by decide, ?_⟩
  show WPc t12_init (WPm gT (d + 1)) F (4, [(2, ((1 : Nat) : Int))], [], hQ0)
  refine bi12_init_4 (h := hQ0) (a := 1) ⟨rfl, rfl, rfl, ⟨by decide, by decide, by decide +kernel, by decide +kernel⟩, 2, by decide +kernel, by decide +kernel, ?_⟩
  show WPc t12_init (WPm gT (d + 1)) F (13, [(2, ((1 : Nat) : Int))], [], hQ1)
  refine bi12_init_13 (h := hQ1) (a := 1) ⟨rfl, rfl, rfl, ⟨by decide, by decide, by decide +kernel, by decide +kernel⟩, 3, by decide +kernel, by decide +kernel, ?_⟩
  show WPc t12_init (WPm gT (d + 1)) F (20, [(2, ((1 : Nat) : Int))], [], hQ2)
  refine bi12_init_20 (h := hQ2) (a := 1) ⟨rfl, rfl, rfl, ⟨by decide, by decide, by decide +kernel, by decide +kernel⟩, 4, by decide +kernel, by decide +kernel, ?_⟩
  show WPc t12_init (WPm gT (d + 1)) F (29, [(2, ((1 : Nat) : Int))], [], hQ3)
  refine bi12_init_29 (h := hQ3) (a := 1) ⟨rfl, rfl, rfl, ⟨by decide, by decide, by decide +kernel, by decide +kernel⟩, 5, by decide +kernel, by decide +kernel, ?_⟩
  show WPc t12_init (WPm gT (d + 1)) F (38, [(2, ((1 : Nat) : Int))], [], hQ4)
  refine bi12_init_38 (h := hQ4) (a := 1) ⟨rfl, rfl, by decide +kernel, ?_⟩
  show WPc t12_init (WPm gT (d + 1)) F (43, [(2, ((1 : Nat) : Int))], [], hQ5)
  refine bi12_init_43 (h := hQ5) (a := 1) ⟨rfl, rfl, rfl, ⟨by decide, by decide, by decide +kernel, by decide +kernel⟩, 6, by decide +kernel, by decide +kernel, ?_⟩
  show WPc t12_init (WPm gT (d + 1)) F (52, [(2, ((1 : Nat) : Int))], [], hQ6)
  refine bi12_init_52 (h := hQ6) (a := 1) ⟨rfl, rfl, rfl, ⟨by decide, by decide, by decide +kernel, by decide +kernel⟩, 7, by decide +kernel, by decide +kernel, ?_⟩
  show WPc t12_init (WPm gT (d + 1)) F (60, [(2, ((1 : Nat) : Int))], [], hQ7)
  refine bi12_init_60 (h := hQ7) (a := 1) ⟨rfl, rfl, rfl, ⟨by decide, by decide, by decide +kernel, by decide +kernel⟩, 8, by decide +kernel, by decide +kernel, ?_⟩
  show WPc t12_init (WPm gT (d + 1)) F (68, [(2, ((1 : Nat) : Int))], [], hQ8)
  refine bi12_init_68 (h := hQ8) (a := 1) ⟨rfl, rfl, rfl, ⟨by decide, by decide, by decide +kernel, by decide +kernel⟩, 9, by decide +kernel, by decide +kernel, ?_⟩
  show WPc t12_init (WPm gT (d + 1)) F (76, [(2, ((1 : Nat) : Int))], [], hQ9)
  refine bi12_init_76 (h := hQ9) (a := 1) ⟨rfl, rfl, rfl, ⟨by decide, by decide, by decide +kernel, by decide +kernel⟩, 10, by decide +kernel, by decide +kernel, ?_⟩
  show WPc t12_init (WPm gT (d + 1)) F (84, [(2, ((1 : Nat) : Int))], [], hQ10)
  refine bi12_init_84 (h := hQ10) (a := 1) ⟨rfl, rfl, rfl, ⟨by decide, by decide, by decide +kernel, by decide +kernel⟩, 11, by decide +kernel, by decide +kernel, ?_⟩
  show WPc t12_init (WPm gT (d + 1)) F (92, [(2, ((1 : Nat) : Int))], [], hQ11)
  refine bi12_init_92 (h := hQ11) (a := 1) ⟨rfl, rfl, rfl, ⟨by decide, by decide, by decide +kernel, by decide +kernel⟩, 12, by decide +kernel, by decide +kernel, ?_⟩
  show WPc t12_init (WPm gT (d + 1)) F (100, [(2, ((1 : Nat) : Int))], [], hQ12)
  refine bi12_init_100 (h := hQ12) (a := 1) ⟨rfl, rfl, rfl, ⟨by decide, by decide, by decide +kernel, by decide +kernel⟩, 13, by decide +kernel, by decide +kernel, ?_⟩
  show WPc t12_init (WPm gT (d + 1)) F (108, [(2, ((1 : Nat) : Int))], [], hQ13)
  refine bi12_init_108 (h := hQ13) (a := 1) ⟨rfl, rfl, rfl, ⟨by decide, by decide, by decide +kernel, by decide +kernel⟩, 14, by decide +kernel, by decide +kernel, ?_⟩
  show WPc t12_init (WPm gT (d + 1)) F (116, [(2, ((1 : Nat) : Int))], [], hQ14)
  refine bi12_init_116 (h := hQ14) (a := 1) ⟨rfl, rfl, rfl, ⟨by decide, by decide, by decide +kernel, by decide +kernel⟩, 15, by decide +kernel, by decide +kernel, ?_⟩
  show WPc t12_init (WPm gT (d + 1)) F (124, [(2, ((1 : Nat) : Int))], [], hQ15)
  refine bi12_init_124 (h := hQ15) (a := 1) ⟨rfl, rfl, rfl, ⟨by decide, by decide, by decide +kernel, by decide +kernel⟩, 16, by decide +kernel, by decide +kernel, ?_⟩
  show WPc t12_init (WPm gT (d + 1)) F (132, [(2, ((1 : Nat) : Int))], [], hQ16)
  refine bi12_init_132 (h := hQ16) (a := 1) ⟨rfl, rfl, rfl, ⟨by decide, by decide, by decide +kernel, by decide +kernel⟩, 17, by decide +kernel, by decide +kernel, ?_⟩
  show WPc t12_init (WPm gT (d + 1)) F (140, [(2, ((1 : Nat) : Int))], [], hQ17)
  refine bi12_init_140 (h := hQ17) (a := 1) ⟨rfl, rfl, rfl, ⟨by decide, by decide, by decide +kernel, by decide +kernel⟩, 18, by decide +kernel, by decide +kernel, ?_⟩
  show WPc t12_init (WPm gT (d + 1)) F (148, [(2, ((1 : Nat) : Int))], [], hQ18)
  refine bi12_init_148 (h := hQ18) (a := 1) ⟨rfl, rfl, rfl, ⟨by decide, by decide, by decide +kernel, by decide +kernel⟩, 19, by decide +kernel, by decide +kernel, ?_⟩
  show WPc t12_init (WPm gT (d + 1)) F (156, [(2, ((1 : Nat) : Int))], [], hQ19)
  refine bi12_init_156 (h := hQ19) (a := 1) ⟨rfl, rfl, rfl, ⟨by decide, by decide, by decide +kernel, by decide +kernel⟩, 20, by decide +kernel, rfl, rfl, rfl, by decide +kernel, ⟨by decide, by decide +kernel, trivial⟩, ?_⟩
  show WPc t12_init (WPm gT (d + 1)) F (164, [(2, ((1 : Nat) : Int))], [(2, ((20 : Nat) : Int)), (2, ((1 : Nat) : Int))], hQ20)
  refine bi12_init_164 (h := hQ20) (a := 1) (p := 20) ⟨rfl, rfl, rfl, by decide +kernel, ⟨by decide, by decide +kernel, trivial⟩, ?_⟩
  show WPc t12_init (WPm gT (d + 1)) F (168, [(2, ((1 : Nat) : Int))], [(2, ((20 : Nat) : Int)), (2, ((1 : Nat) : Int))], hQ21)
  refine bi12_init_168 (h := hQ21) (a := 1) (p := 20) ⟨rfl, rfl, rfl, by decide +kernel, ⟨by decide, by decide +kernel, trivial⟩, ?_⟩
  show WPc t12_init (WPm gT (d + 1)) F (172, [(2, ((1 : Nat) : Int))], [(2, ((20 : Nat) : Int)), (2, ((1 : Nat) : Int))], hQ22)
  refine bi12_init_172 (h := hQ22) (a := 1) (p := 20) ⟨rfl, rfl, rfl, by decide +kernel, ⟨by decide, by decide +kernel, trivial⟩, ?_⟩
  show WPc t12_init (WPm gT (d + 1)) F (176, [(2, ((1 : Nat) : Int))], [(2, ((20 : Nat) : Int)), (2, ((1 : Nat) : Int))], hQ23)
  refine bi12_init_176 (h := hQ23) (a := 1) (p := 20) ⟨by decide +kernel, ?_⟩
  show WPc t12_init (WPm gT (d + 1)) F (179, [(2, ((1 : Nat) : Int))], [], hQ24)
  refine bi12_init_179 (h := hQ24) (a := 1) ⟨rfl, rfl, rfl, ⟨by decide, by decide, by decide +kernel, by decide +kernel⟩, 21, by decide +kernel, by decide +kernel, ?_⟩
  show WPc t12_init (WPm gT (d + 1)) F (186, [(2, ((1 : Nat) : Int))], [], hQ25)
  refine bi12_init_186 (h := hQ25) (a := 1) ⟨rfl, rfl, rfl, ⟨by decide, by decide, by decide +kernel, by decide +kernel⟩, 22, by decide +kernel, by decide +kernel, ?_⟩
  show WPc t12_init (WPm gT (d + 1)) F (195, [(2, ((1 : Nat) : Int))], [], hQ26)
  refine bi12_init_195 (h := hQ26) (a := 1) ⟨rfl, by decide +kernel, rfl, ?_⟩
  try rw [show hQ26.2.1 1 1 = 2 from by decide +kernel]
  exact r_plainI q

