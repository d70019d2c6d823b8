/-! ===== a Line, a State is made (any cells): printed in part by program ===== -/
/-- a row of ints is made at p and put into the field k of a -/
def nwA (h : mH) (a k p ln : Nat) : mH := mPut (mNew h p 1 ln) a k p
theorem nwA_sh (h : mH) (a k p ln b : Nat) : (nwA h a k p ln).2.2.1 b = if b = p then (1, ln) else h.2.2.1 b := rfl
theorem nwA_n (h : mH) (a k p ln : Nat) : (nwA h a k p ln).2.2.2 = (h.2.2.2.1 + 1, h.2.2.2.2 + ln) := rfl
theorem fre_ok {h : mH} {p : Nat} (h1 : (h.2.2.1 p).1 = 0) (hp : 1 ≤ p) : (Nat.beq (mKd h p) 0 && Nat.ble 1 p) = true := by
  unfold mKd
  rw [h1, Bool.and_eq_true]
  exact ⟨rfl, Nat.ble_eq.mpr hp⟩
theorem knd_ok {h : mH} {a p ln kd : Nat} (h1 : (h.2.2.1 a).1 = kd) (hne : a ≠ p) : (true && Nat.beq (mKd (mNew h p 1 ln) a) kd && true) = true := by
  have e : mKd (mNew h p 1 ln) a = kd := by
    show (if a = p then (1, ln) else h.2.2.1 a).1 = kd
    rw [if_neg hne]; exact h1
  rw [e, Bool.true_and, Bool.and_true, Nat.beq_eq]
set_option maxRecDepth 20000 in
theorem b7_init_0 {d : Nat} {F : mPost} {a : Nat} {h : mH} (q : (true = true) ∧ (((true && Nat.ble 1 a && true) = true) ∧ WPc t7_init (WPm gT d) F (4, [(2, ((a : Nat) : Int))], [], h))) : WPc t7_init (WPm gT d) F (0, [(2, ((a : Nat) : Int))], [], h) :=
  vcJ_ok (K := [4, 12, 20, 28]) 40 _ q
set_option maxRecDepth 20000 in
theorem b7_init_4 {d : Nat} {F : mPost} {a : Nat} {h : mH} (q : (true = true) ∧ ((true = true) ∧ ((true = true) ∧ ((0 ≤ (8 : Int) ∧ (8 : Int) ≤ 100000 ∧ h.2.2.2.1 + 1 ≤ 600000 ∧ h.2.2.2.2 + 8 ≤ 7302249) ∧ ∃ p : Nat, ((Nat.beq (mKd h p) 0 && Nat.ble 1 p) = true) ∧ (((true && Nat.beq (mKd (mNew h p 1 8) a) 17 && true) = true) ∧ WPc t7_init (WPm gT d) F (12, [(2, ((a : Nat) : Int))], [], nwA h a 0 p 8)))))) : WPc t7_init (WPm gT d) F (4, [(2, ((a : Nat) : Int))], [], h) :=
  vcJ_ok (K := [4, 12, 20, 28]) 40 _ q
set_option maxRecDepth 20000 in
theorem b7_init_12 {d : Nat} {F : mPost} {a : Nat} {h : mH} (q : (true = true) ∧ ((true = true) ∧ ((true = true) ∧ ((0 ≤ (8 : Int) ∧ (8 : Int) ≤ 100000 ∧ h.2.2.2.1 + 1 ≤ 600000 ∧ h.2.2.2.2 + 8 ≤ 7302249) ∧ ∃ p : Nat, ((Nat.beq (mKd h p) 0 && Nat.ble 1 p) = true) ∧ (((true && Nat.beq (mKd (mNew h p 1 8) a) 17 && true) = true) ∧ WPc t7_init (WPm gT d) F (20, [(2, ((a : Nat) : Int))], [], nwA h a 1 p 8)))))) : WPc t7_init (WPm gT d) F (12, [(2, ((a : Nat) : Int))], [], h) :=
  vcJ_ok (K := [4, 12, 20, 28]) 40 _ q
set_option maxRecDepth 20000 in
theorem b7_init_20 {d : Nat} {F : mPost} {a : Nat} {h : mH} (q : (true = true) ∧ ((true = true) ∧ ((true = true) ∧ ((0 ≤ (8 : Int) ∧ (8 : Int) ≤ 100000 ∧ h.2.2.2.1 + 1 ≤ 600000 ∧ h.2.2.2.2 + 8 ≤ 7302249) ∧ ∃ p : Nat, ((Nat.beq (mKd h p) 0 && Nat.ble 1 p) = true) ∧ (((true && Nat.beq (mKd (mNew h p 1 8) a) 17 && true) = true) ∧ WPc t7_init (WPm gT d) F (28, [(2, ((a : Nat) : Int))], [], nwA h a 2 p 8)))))) : WPc t7_init (WPm gT d) F (20, [(2, ((a : Nat) : Int))], [], h) :=
  vcJ_ok (K := [4, 12, 20, 28]) 40 _ q
set_option maxRecDepth 20000 in
theorem b7_init_28 {d : Nat} {F : mPost} {a : Nat} {h : mH} (q : (true = true) ∧ F (9, 0) h) : WPc t7_init (WPm gT d) F (28, [(2, ((a : Nat) : Int))], [], h) :=
  vcJ_ok (K := [4, 12, 20, 28]) 40 _ q
set_option maxRecDepth 20000 in
theorem b2_init_0 {d : Nat} {F : mPost} {a : Nat} {h : mH} (q : (true = true) ∧ (((true && Nat.ble 1 a && true) = true) ∧ WPc t2_init (WPm gT d) F (4, [(2, ((a : Nat) : Int))], [], h))) : WPc t2_init (WPm gT d) F (0, [(2, ((a : Nat) : Int))], [], h) :=
  vcJ_ok (K := [4, 14, 22, 30, 38, 46, 54, 63, 70, 77]) 40 _ q
set_option maxRecDepth 20000 in
theorem b2_init_4 {d : Nat} {F : mPost} {a : Nat} {h : mH} (q : (true = true) ∧ ((true = true) ∧ (((true && Nat.beq (mKd h a) 12 && true) = true) ∧ ((true = true) ∧ ((true = true) ∧ (((true && Nat.beq (mKd (mSet h a 0 2) a) 12 && true) = true) ∧ WPc t2_init (WPm gT d) F (14, [(2, ((a : Nat) : Int))], [], mSet (mSet h a 0 2) a 1 2))))))) : WPc t2_init (WPm gT d) F (4, [(2, ((a : Nat) : Int))], [], h) :=
  vcJ_ok (K := [4, 14, 22, 30, 38, 46, 54, 63, 70, 77]) 40 _ q
set_option maxRecDepth 20000 in
theorem b2_init_14 {d : Nat} {F : mPost} {a : Nat} {h : mH} (q : (true = true) ∧ ((true = true) ∧ ((true = true) ∧ ((0 ≤ (12 : Int) ∧ (12 : Int) ≤ 100000 ∧ h.2.2.2.1 + 1 ≤ 600000 ∧ h.2.2.2.2 + 12 ≤ 7302249) ∧ ∃ p : Nat, ((Nat.beq (mKd h p) 0 && Nat.ble 1 p) = true) ∧ (((true && Nat.beq (mKd (mNew h p 1 12) a) 12 && true) = true) ∧ WPc t2_init (WPm gT d) F (22, [(2, ((a : Nat) : Int))], [], nwA h a 7 p 12)))))) : WPc t2_init (WPm gT d) F (14, [(2, ((a : Nat) : Int))], [], h) :=
  vcJ_ok (K := [4, 14, 22, 30, 38, 46, 54, 63, 70, 77]) 40 _ q
set_option maxRecDepth 20000 in
theorem b2_init_22 {d : Nat} {F : mPost} {a : Nat} {h : mH} (q : (true = true) ∧ ((true = true) ∧ ((true = true) ∧ ((0 ≤ (12 : Int) ∧ (12 : Int) ≤ 100000 ∧ h.2.2.2.1 + 1 ≤ 600000 ∧ h.2.2.2.2 + 12 ≤ 7302249) ∧ ∃ p : Nat, ((Nat.beq (mKd h p) 0 && Nat.ble 1 p) = true) ∧ (((true && Nat.beq (mKd (mNew h p 1 12) a) 12 && true) = true) ∧ WPc t2_init (WPm gT d) F (30, [(2, ((a : Nat) : Int))], [], nwA h a 8 p 12)))))) : WPc t2_init (WPm gT d) F (22, [(2, ((a : Nat) : Int))], [], h) :=
  vcJ_ok (K := [4, 14, 22, 30, 38, 46, 54, 63, 70, 77]) 40 _ q
set_option maxRecDepth 20000 in
theorem b2_init_30 {d : Nat} {F : mPost} {a : Nat} {h : mH} (q : (true = true) ∧ ((true = true) ∧ ((true = true) ∧ ((0 ≤ (8 : Int) ∧ (8 : Int) ≤ 100000 ∧ h.2.2.2.1 + 1 ≤ 600000 ∧ h.2.2.2.2 + 8 ≤ 7302249) ∧ ∃ p : Nat, ((Nat.beq (mKd h p) 0 && Nat.ble 1 p) = true) ∧ (((true && Nat.beq (mKd (mNew h p 1 8) a) 12 && true) = true) ∧ WPc t2_init (WPm gT d) F (38, [(2, ((a : Nat) : Int))], [], nwA h a 9 p 8)))))) : WPc t2_init (WPm gT d) F (30, [(2, ((a : Nat) : Int))], [], h) :=
  vcJ_ok (K := [4, 14, 22, 30, 38, 46, 54, 63, 70, 77]) 40 _ q
set_option maxRecDepth 20000 in
theorem b2_init_38 {d : Nat} {F : mPost} {a : Nat} {h : mH} (q : (true = true) ∧ ((true = true) ∧ ((true = true) ∧ ((0 ≤ (8 : Int) ∧ (8 : Int) ≤ 100000 ∧ h.2.2.2.1 + 1 ≤ 600000 ∧ h.2.2.2.2 + 8 ≤ 7302249) ∧ ∃ p : Nat, ((Nat.beq (mKd h p) 0 && Nat.ble 1 p) = true) ∧ (((true && Nat.beq (mKd (mNew h p 1 8) a) 12 && true) = true) ∧ WPc t2_init (WPm gT d) F (46, [(2, ((a : Nat) : Int))], [], nwA h a 10 p 8)))))) : WPc t2_init (WPm gT d) F (38, [(2, ((a : Nat) : Int))], [], h) :=
  vcJ_ok (K := [4, 14, 22, 30, 38, 46, 54, 63, 70, 77]) 40 _ q
set_option maxRecDepth 20000 in
theorem b2_init_46 {d : Nat} {F : mPost} {a : Nat} {h : mH} (q : (true = true) ∧ ((true = true) ∧ ((true = true) ∧ ((0 ≤ (8 : Int) ∧ (8 : Int) ≤ 100000 ∧ h.2.2.2.1 + 1 ≤ 600000 ∧ h.2.2.2.2 + 8 ≤ 7302249) ∧ ∃ p : Nat, ((Nat.beq (mKd h p) 0 && Nat.ble 1 p) = true) ∧ (((true && Nat.beq (mKd (mNew h p 1 8) a) 12 && true) = true) ∧ WPc t2_init (WPm gT d) F (54, [(2, ((a : Nat) : Int))], [], nwA h a 11 p 8)))))) : WPc t2_init (WPm gT d) F (46, [(2, ((a : Nat) : Int))], [], h) :=
  vcJ_ok (K := [4, 14, 22, 30, 38, 46, 54, 63, 70, 77]) 40 _ q
set_option maxRecDepth 20000 in
theorem b2_init_54 {d : Nat} {F : mPost} {a : Nat} {h : mH} (q : (true = true) ∧ ((true = true) ∧ ((true = true) ∧ ((0 ≤ (900 : Int) ∧ (900 : Int) ≤ 100000 ∧ h.2.2.2.1 + 1 ≤ 600000 ∧ h.2.2.2.2 + 900 ≤ 7302249) ∧ ∃ p : Nat, ((Nat.beq (mKd h p) 0 && Nat.ble 1 p) = true) ∧ (((true && Nat.beq (mKd (mNew h p 1 900) a) 12 && true) = true) ∧ WPc t2_init (WPm gT d) F (63, [(2, ((a : Nat) : Int))], [], nwA h a 12 p 900)))))) : WPc t2_init (WPm gT d) F (54, [(2, ((a : Nat) : Int))], [], h) :=
  vcJ_ok (K := [4, 14, 22, 30, 38, 46, 54, 63, 70, 77]) 40 _ q
set_option maxRecDepth 20000 in
theorem b2_init_63 {d : Nat} {F : mPost} {a : Nat} {h : mH} (q : (true = true) ∧ ((true = true) ∧ ((true = true) ∧ ((0 ≤ (3 : Int) ∧ (3 : Int) ≤ 100000 ∧ h.2.2.2.1 + 1 ≤ 600000 ∧ h.2.2.2.2 + 3 ≤ 7302249) ∧ ∃ p : Nat, ((Nat.beq (mKd h p) 0 && Nat.ble 1 p) = true) ∧ (((true && Nat.beq (mKd (mNew h p 1 3) a) 12 && true) = true) ∧ WPc t2_init (WPm gT d) F (70, [(2, ((a : Nat) : Int))], [], nwA h a 14 p 3)))))) : WPc t2_init (WPm gT d) F (63, [(2, ((a : Nat) : Int))], [], h) :=
  vcJ_ok (K := [4, 14, 22, 30, 38, 46, 54, 63, 70, 77]) 40 _ q
set_option maxRecDepth 20000 in
theorem b2_init_70 {d : Nat} {F : mPost} {a : Nat} {h : mH} (q : (true = true) ∧ ((true = true) ∧ ((true = true) ∧ ((0 ≤ (3 : Int) ∧ (3 : Int) ≤ 100000 ∧ h.2.2.2.1 + 1 ≤ 600000 ∧ h.2.2.2.2 + 3 ≤ 7302249) ∧ ∃ p : Nat, ((Nat.beq (mKd h p) 0 && Nat.ble 1 p) = true) ∧ (((true && Nat.beq (mKd (mNew h p 1 3) a) 12 && true) = true) ∧ WPc t2_init (WPm gT d) F (77, [(2, ((a : Nat) : Int))], [], nwA h a 15 p 3)))))) : WPc t2_init (WPm gT d) F (70, [(2, ((a : Nat) : Int))], [], h) :=
  vcJ_ok (K := [4, 14, 22, 30, 38, 46, 54, 63, 70, 77]) 40 _ q
set_option maxRecDepth 20000 in
theorem b2_init_77 {d : Nat} {F : mPost} {a : Nat} {h : mH} (q : (true = true) ∧ F (9, 0) h) : WPc t2_init (WPm gT d) F (77, [(2, ((a : Nat) : Int))], [], h) :=
  vcJ_ok (K := [4, 14, 22, 30, 38, 46, 54, 63, 70, 77]) 40 _ q
def nwS (h : mH) (a : Nat) : mH := (nwA (nwA (nwA h a 0 (a + 1) 8) a 1 (a + 2) 8) a 2 (a + 3) 8)
def nwL (h : mH) (a : Nat) : mH := (nwA (nwA (nwA (nwA (nwA (nwA (nwA (nwA (mSet (mSet h a 0 2) a 1 2) a 7 (a + 1) 12) a 8 (a + 2) 12) a 9 (a + 3) 8) a 10 (a + 4) 8) a 11 (a + 5) 8) a 12 (a + 6) 900) a 14 (a + 7) 3) a 15 (a + 8) 3)
theorem c7_init {d : Nat} {F : mPost} {a : Nat} {h : mH} (ha : (h.2.2.1 a).1 = 17) (h1 : 1 ≤ a) (hf : ∀ i, 1 ≤ i → i ≤ 3 → (h.2.2.1 (a + i)).1 = 0) (hn : h.2.2.2.1 + 3 ≤ 600000 ∧ h.2.2.2.2 + 24 ≤ 7302249) (q : F (9, 0) (nwS h a)) : WPm gT (d + 1) 69 [(2, ((a : Nat) : Int))] h F := by
  refine WPm_in g7_init (Nat.le_of_ble_eq_true rfl) (b7_init_0 ⟨rfl, ?_, ?_⟩)
  · rw [Bool.true_and, Bool.and_true]; exact Nat.ble_eq.mpr h1
  have k0 : (h.2.2.1 a).1 = 17 := by
    exact ha
  have f0 : (h.2.2.1 (a + 1)).1 = 0 := by
    exact hf 1 (by omega) (by omega)
  have c0 : h.2.2.2 = (h.2.2.2.1 + 0, h.2.2.2.2 + 0) := rfl
  refine b7_init_4 ⟨rfl, rfl, rfl, ⟨by omega, by omega, by rw [c0]; show _ + 0 + 1 ≤ _; omega, by rw [c0]; show _ + 0 + 8 ≤ _; omega⟩, a + 1, fre_ok f0 (by omega), knd_ok k0 (by omega), ?_⟩
  have k1 : ((nwA h a 0 (a + 1) 8).2.2.1 a).1 = 17 := by
    rw [nwA_sh, if_neg (by omega)]; exact k0
  have f1 : ((nwA h a 0 (a + 1) 8).2.2.1 (a + 2)).1 = 0 := by
    rw [nwA_sh, if_neg (by omega)]; exact hf 2 (by omega) (by omega)
  have c1 : (nwA h a 0 (a + 1) 8).2.2.2 = (h.2.2.2.1 + 1, h.2.2.2.2 + 8) := rfl
  refine b7_init_12 ⟨rfl, rfl, rfl, ⟨by omega, by omega, by rw [c1]; show _ + 1 + 1 ≤ _; omega, by rw [c1]; show _ + 8 + 8 ≤ _; omega⟩, a + 2, fre_ok f1 (by omega), knd_ok k1 (by omega), ?_⟩
  have k2 : ((nwA (nwA h a 0 (a + 1) 8) a 1 (a + 2) 8).2.2.1 a).1 = 17 := by
    rw [nwA_sh, if_neg (by omega)]; exact k1
  have f2 : ((nwA (nwA h a 0 (a + 1) 8) a 1 (a + 2) 8).2.2.1 (a + 3)).1 = 0 := by
    rw [nwA_sh, if_neg (by omega), nwA_sh, if_neg (by omega)]; exact hf 3 (by omega) (by omega)
  have c2 : (nwA (nwA h a 0 (a + 1) 8) a 1 (a + 2) 8).2.2.2 = (h.2.2.2.1 + 2, h.2.2.2.2 + 16) := rfl
  refine b7_init_20 ⟨rfl, rfl, rfl, ⟨by omega, by omega, by rw [c2]; show _ + 2 + 1 ≤ _; omega, by rw [c2]; show _ + 16 + 8 ≤ _; omega⟩, a + 3, fre_ok f2 (by omega), knd_ok k2 (by omega), ?_⟩
  exact b7_init_28 ⟨rfl, q⟩
theorem c2_init {d : Nat} {F : mPost} {a : Nat} {h : mH} (ha : (h.2.2.1 a).1 = 12) (h1 : 1 ≤ a) (hf : ∀ i, 1 ≤ i → i ≤ 8 → (h.2.2.1 (a + i)).1 = 0) (hn : h.2.2.2.1 + 8 ≤ 600000 ∧ h.2.2.2.2 + 954 ≤ 7302249) (q : F (9, 0) (nwL h a)) : WPm gT (d + 1) 20 [(2, ((a : Nat) : Int))] h F := by
  refine WPm_in g2_init (Nat.le_of_ble_eq_true rfl) (b2_init_0 ⟨rfl, ?_, ?_⟩)
  · rw [Bool.true_and, Bool.and_true]; exact Nat.ble_eq.mpr h1
  refine b2_init_4 ⟨rfl, rfl, ?_, rfl, rfl, ?_, ?_⟩
  · rw [Bool.true_and, Bool.and_true, Nat.beq_eq]; exact ha
  · rw [Bool.true_and, Bool.and_true, Nat.beq_eq]; exact ha
  have k0 : ((mSet (mSet h a 0 2) a 1 2).2.2.1 a).1 = 12 := by
    exact ha
  have f0 : ((mSet (mSet h a 0 2) a 1 2).2.2.1 (a + 1)).1 = 0 := by
    exact hf 1 (by omega) (by omega)
  have c0 : (mSet (mSet h a 0 2) a 1 2).2.2.2 = (h.2.2.2.1 + 0, h.2.2.2.2 + 0) := rfl
  refine b2_init_14 ⟨rfl, rfl, rfl, ⟨by omega, by omega, by rw [c0]; show _ + 0 + 1 ≤ _; omega, by rw [c0]; show _ + 0 + 12 ≤ _; omega⟩, a + 1, fre_ok f0 (by omega), knd_ok k0 (by omega), ?_⟩
  have k1 : ((nwA (mSet (mSet h a 0 2) a 1 2) a 7 (a + 1) 12).2.2.1 a).1 = 12 := by
    rw [nwA_sh, if_neg (by omega)]; exact k0
  have f1 : ((nwA (mSet (mSet h a 0 2) a 1 2) a 7 (a + 1) 12).2.2.1 (a + 2)).1 = 0 := by
    rw [nwA_sh, if_neg (by omega)]; exact hf 2 (by omega) (by omega)
  have c1 : (nwA (mSet (mSet h a 0 2) a 1 2) a 7 (a + 1) 12).2.2.2 = (h.2.2.2.1 + 1, h.2.2.2.2 + 12) := rfl
  refine b2_init_22 ⟨rfl, rfl, rfl, ⟨by omega, by omega, by rw [c1]; show _ + 1 + 1 ≤ _; omega, by rw [c1]; show _ + 12 + 12 ≤ _; omega⟩, a + 2, fre_ok f1 (by omega), knd_ok k1 (by omega), ?_⟩
  have k2 : ((nwA (nwA (mSet (mSet h a 0 2) a 1 2) a 7 (a + 1) 12) a 8 (a + 2) 12).2.2.1 a).1 = 12 := by
    rw [nwA_sh, if_neg (by omega)]; exact k1
  have f2 : ((nwA (nwA (mSet (mSet h a 0 2) a 1 2) a 7 (a + 1) 12) a 8 (a + 2) 12).2.2.1 (a + 3)).1 = 0 := by
    rw [nwA_sh, if_neg (by omega), nwA_sh, if_neg (by omega)]; exact hf 3 (by omega) (by omega)
  have c2 : (nwA (nwA (mSet (mSet h a 0 2) a 1 2) a 7 (a + 1) 12) a 8 (a + 2) 12).2.2.2 = (h.2.2.2.1 + 2, h.2.2.2.2 + 24) := rfl
  refine b2_init_30 ⟨rfl, rfl, rfl, ⟨by omega, by omega, by rw [c2]; show _ + 2 + 1 ≤ _; omega, by rw [c2]; show _ + 24 + 8 ≤ _; omega⟩, a + 3, fre_ok f2 (by omega), knd_ok k2 (by omega), ?_⟩
  have k3 : ((nwA (nwA (nwA (mSet (mSet h a 0 2) a 1 2) a 7 (a + 1) 12) a 8 (a + 2) 12) a 9 (a + 3) 8).2.2.1 a).1 = 12 := by
    rw [nwA_sh, if_neg (by omega)]; exact k2
  have f3 : ((nwA (nwA (nwA (mSet (mSet h a 0 2) a 1 2) a 7 (a + 1) 12) a 8 (a + 2) 12) a 9 (a + 3) 8).2.2.1 (a + 4)).1 = 0 := by
    rw [nwA_sh, if_neg (by omega), nwA_sh, if_neg (by omega), nwA_sh, if_neg (by omega)]; exact hf 4 (by omega) (by omega)
  have c3 : (nwA (nwA (nwA (mSet (mSet h a 0 2) a 1 2) a 7 (a + 1) 12) a 8 (a + 2) 12) a 9 (a + 3) 8).2.2.2 = (h.2.2.2.1 + 3, h.2.2.2.2 + 32) := rfl
  refine b2_init_38 ⟨rfl, rfl, rfl, ⟨by omega, by omega, by rw [c3]; show _ + 3 + 1 ≤ _; omega, by rw [c3]; show _ + 32 + 8 ≤ _; omega⟩, a + 4, fre_ok f3 (by omega), knd_ok k3 (by omega), ?_⟩
  have k4 : ((nwA (nwA (nwA (nwA (mSet (mSet h a 0 2) a 1 2) a 7 (a + 1) 12) a 8 (a + 2) 12) a 9 (a + 3) 8) a 10 (a + 4) 8).2.2.1 a).1 = 12 := by
    rw [nwA_sh, if_neg (by omega)]; exact k3
  have f4 : ((nwA (nwA (nwA (nwA (mSet (mSet h a 0 2) a 1 2) a 7 (a + 1) 12) a 8 (a + 2) 12) a 9 (a + 3) 8) a 10 (a + 4) 8).2.2.1 (a + 5)).1 = 0 := by
    rw [nwA_sh, if_neg (by omega), nwA_sh, if_neg (by omega), nwA_sh, if_neg (by omega), nwA_sh, if_neg (by omega)]; exact hf 5 (by omega) (by omega)
  have c4 : (nwA (nwA (nwA (nwA (mSet (mSet h a 0 2) a 1 2) a 7 (a + 1) 12) a 8 (a + 2) 12) a 9 (a + 3) 8) a 10 (a + 4) 8).2.2.2 = (h.2.2.2.1 + 4, h.2.2.2.2 + 40) := rfl
  refine b2_init_46 ⟨rfl, rfl, rfl, ⟨by omega, by omega, by rw [c4]; show _ + 4 + 1 ≤ _; omega, by rw [c4]; show _ + 40 + 8 ≤ _; omega⟩, a + 5, fre_ok f4 (by omega), knd_ok k4 (by omega), ?_⟩
  have k5 : ((nwA (nwA (nwA (nwA (nwA (mSet (mSet h a 0 2) a 1 2) a 7 (a + 1) 12) a 8 (a + 2) 12) a 9 (a + 3) 8) a 10 (a + 4) 8) a 11 (a + 5) 8).2.2.1 a).1 = 12 := by
    rw [nwA_sh, if_neg (by omega)]; exact k4
  have f5 : ((nwA (nwA (nwA (nwA (nwA (mSet (mSet h a 0 2) a 1 2) a 7 (a + 1) 12) a 8 (a + 2) 12) a 9 (a + 3) 8) a 10 (a + 4) 8) a 11 (a + 5) 8).2.2.1 (a + 6)).1 = 0 := by
    rw [nwA_sh, if_neg (by omega), nwA_sh, if_neg (by omega), nwA_sh, if_neg (by omega), nwA_sh, if_neg (by omega), nwA_sh, if_neg (by omega)]; exact hf 6 (by omega) (by omega)
  have c5 : (nwA (nwA (nwA (nwA (nwA (mSet (mSet h a 0 2) a 1 2) a 7 (a + 1) 12) a 8 (a + 2) 12) a 9 (a + 3) 8) a 10 (a + 4) 8) a 11 (a + 5) 8).2.2.2 = (h.2.2.2.1 + 5, h.2.2.2.2 + 48) := rfl
  refine b2_init_54 ⟨rfl, rfl, rfl, ⟨by omega, by omega, by rw [c5]; show _ + 5 + 1 ≤ _; omega, by rw [c5]; show _ + 48 + 900 ≤ _; omega⟩, a + 6, fre_ok f5 (by omega), knd_ok k5 (by omega), ?_⟩
  have k6 : ((nwA (nwA (nwA (nwA (nwA (nwA (mSet (mSet h a 0 2) a 1 2) a 7 (a + 1) 12) a 8 (a + 2) 12) a 9 (a + 3) 8) a 10 (a + 4) 8) a 11 (a + 5) 8) a 12 (a + 6) 900).2.2.1 a).1 = 12 := by
    rw [nwA_sh, if_neg (by omega)]; exact k5
  have f6 : ((nwA (nwA (nwA (nwA (nwA (nwA (mSet (mSet h a 0 2) a 1 2) a 7 (a + 1) 12) a 8 (a + 2) 12) a 9 (a + 3) 8) a 10 (a + 4) 8) a 11 (a + 5) 8) a 12 (a + 6) 900).2.2.1 (a + 7)).1 = 0 := by
    rw [nwA_sh, if_neg (by omega), nwA_sh, if_neg (by omega), nwA_sh, if_neg (by omega), nwA_sh, if_neg (by omega), nwA_sh, if_neg (by omega), nwA_sh, if_neg (by omega)]; exact hf 7 (by omega) (by omega)
  have c6 : (nwA (nwA (nwA (nwA (nwA (nwA (mSet (mSet h a 0 2) a 1 2) a 7 (a + 1) 12) a 8 (a + 2) 12) a 9 (a + 3) 8) a 10 (a + 4) 8) a 11 (a + 5) 8) a 12 (a + 6) 900).2.2.2 = (h.2.2.2.1 + 6, h.2.2.2.2 + 948) := rfl
  refine b2_init_63 ⟨rfl, rfl, rfl, ⟨by omega, by omega, by rw [c6]; show _ + 6 + 1 ≤ _; omega, by rw [c6]; show _ + 948 + 3 ≤ _; omega⟩, a + 7, fre_ok f6 (by omega), knd_ok k6 (by omega), ?_⟩
  have k7 : ((nwA (nwA (nwA (nwA (nwA (nwA (nwA (mSet (mSet h a 0 2) a 1 2) a 7 (a + 1) 12) a 8 (a + 2) 12) a 9 (a + 3) 8) a 10 (a + 4) 8) a 11 (a + 5) 8) a 12 (a + 6) 900) a 14 (a + 7) 3).2.2.1 a).1 = 12 := by
    rw [nwA_sh, if_neg (by omega)]; exact k6
  have f7 : ((nwA (nwA (nwA (nwA (nwA (nwA (nwA (mSet (mSet h a 0 2) a 1 2) a 7 (a + 1) 12) a 8 (a + 2) 12) a 9 (a + 3) 8) a 10 (a + 4) 8) a 11 (a + 5) 8) a 12 (a + 6) 900) a 14 (a + 7) 3).2.2.1 (a + 8)).1 = 0 := by
    rw [nwA_sh, if_neg (by omega), nwA_sh, if_neg (by omega), nwA_sh, if_neg (by omega), nwA_sh, if_neg (by omega), nwA_sh, if_neg (by omega), nwA_sh, if_neg (by omega), nwA_sh, if_neg (by omega)]; exact hf 8 (by omega) (by omega)
  have c7 : (nwA (nwA (nwA (nwA (nwA (nwA (nwA (mSet (mSet h a 0 2) a 1 2) a 7 (a + 1) 12) a 8 (a + 2) 12) a 9 (a + 3) 8) a 10 (a + 4) 8) a 11 (a + 5) 8) a 12 (a + 6) 900) a 14 (a + 7) 3).2.2.2 = (h.2.2.2.1 + 7, h.2.2.2.2 + 951) := rfl
  refine b2_init_70 ⟨rfl, rfl, rfl, ⟨by omega, by omega, by rw [c7]; show _ + 7 + 1 ≤ _; omega, by rw [c7]; show _ + 951 + 3 ≤ _; omega⟩, a + 8, fre_ok f7 (by omega), knd_ok k7 (by omega), ?_⟩
  exact b2_init_77 ⟨rfl, q⟩
