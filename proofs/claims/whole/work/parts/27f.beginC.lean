/-! ===== the class's search begins: longer rows are made where they must ===== -/
section
variable {w : cQ} {d : Nat} {F : mPost} {x1 x2 x3 x4 : Int} {M : Nat → Nat → Int} {n : Nat × Nat}
set_option maxRecDepth 20000 in
theorem b6_begin_0 (q : (true = true) ∧ ((true = true) ∧ WPc t6_begin (WPm gT d) F (3, [(2, 93), (0, x1), (0, x2), (0, x3), (0, 0)], [], hC w M n))) : WPc t6_begin (WPm gT d) F (0, [(2, 93), (0, x1), (0, x2), (0, x3), (9, 0)], [], hC w M n) :=
  vcJ_ok (K := [3, 31, 50, 64, 101]) 66 _ q
set_option maxRecDepth 20000 in
theorem b6_begin_3 (q : (true = true) ∧ ((true = true) ∧ ((true = true) ∧ ((true = true) ∧ (((M 93 4) ≤ x4 → WPc t6_begin (WPm gT d) F (31, [(2, 93), (0, x1), (0, x2), (0, x3), (0, x4)], [], hC w M n)) ∧ (¬ ((M 93 4) ≤ x4) → (true = true) ∧ ((true = true) ∧ ((true = true) ∧ ((true = true) ∧ ((true = true) ∧ ((Nat.beq (shC w (rfC w 93 2)).1 1 = true) ∧ (((0 : Int) ≤ x4 ∧ (x4 : Int) < (((shC w (rfC w 93 2)).2 : Nat) : Int)) ∧ ((true = true) ∧ ((Nat.beq (shC w (rfC w 93 1)).1 1 = true) ∧ (((0 : Int) ≤ M (rfC w 93 2) x4.toNat ∧ (M (rfC w 93 2) x4.toNat : Int) < (((shC w (rfC w 93 1)).2 : Nat) : Int) ∧ True) ∧ ((true = true) ∧ ((true = true) ∧ WPc t6_begin (WPm gT d) F (3, [(2, 93), (0, x1), (0, x2), (0, x3), (0, w32 (x4 + 1))], [], hC w (sI M (rfC w 93 1) (M (rfC w 93 2) x4.toNat).toNat 0) n)))))))))))))))))) : WPc t6_begin (WPm gT d) F (3, [(2, 93), (0, x1), (0, x2), (0, x3), (0, x4)], [], hC w M n) :=
  vcJ_ok (K := [3, 31, 50, 64, 101]) 66 _ q
set_option maxRecDepth 20000 in
theorem b6_begin_31 (q : (true = true) ∧ ((true = true) ∧ ((true = true) ∧ ((true = true) ∧ ((true = true) ∧ ((true = true) ∧ ((true = true) ∧ ((true = true) ∧ ((true = true) ∧ (((Nat.ble 1 (shC w (rfC w 93 1)).1 && Nat.ble (shC w (rfC w 93 1)).1 4 || Nat.ble 40 (shC w (rfC w 93 1)).1) = true) ∧ ((true = true) ∧ ((x1 ≤ (((shC w (rfC w 93 1)).2 : Nat) : Int) → WPc t6_begin (WPm gT d) F (64, [(2, 93), (0, x1), (0, x2), (0, x3), (0, x4)], [], hC w (sI (sI M 93 3 0) 93 4 0) n)) ∧ (¬ (x1 ≤ (((shC w (rfC w 93 1)).2 : Nat) : Int)) → WPc t6_begin (WPm gT d) F (50, [(2, 93), (0, x1), (0, x2), (0, x3), (0, x4)], [], hC w (sI (sI M 93 3 0) 93 4 0) n)))))))))))))) : WPc t6_begin (WPm gT d) F (31, [(2, 93), (0, x1), (0, x2), (0, x3), (0, x4)], [], hC w M n) :=
  vcJ_ok (K := [3, 31, 50, 64, 101]) 66 _ q
set_option maxRecDepth 20000 in
theorem b6_begin_50 (q : (true = true) ∧ ((true = true) ∧ ((true = true) ∧ ((0 ≤ x1 ∧ x1 ≤ 100000 ∧ n.1 + 1 ≤ 600000 ∧ n.2 + x1.toNat ≤ 7302249) ∧ ∃ p : Nat, ((Nat.beq (mKd (hC w M n) p) 0 && Nat.ble 1 p) = true) ∧ (((true && Nat.beq (mKd (mNew (hC w M n) p 1 x1.toNat) 93) 16 && true) = true) ∧ ((true = true) ∧ ((true = true) ∧ ((true = true) ∧ ((0 ≤ x1 ∧ x1 ≤ 100000 ∧ n.1 + 1 + 1 ≤ 600000 ∧ n.2 + x1.toNat + x1.toNat ≤ 7302249) ∧ ∃ p2 : Nat, ((Nat.beq (mKd (mPut (mNew (hC w M n) p 1 x1.toNat) 93 1 p) p2) 0 && Nat.ble 1 p2) = true) ∧ (((true && Nat.beq (mKd (mNew (mPut (mNew (hC w M n) p 1 x1.toNat) 93 1 p) p2 1 x1.toNat) 93) 16 && true) = true) ∧ WPc t6_begin (WPm gT d) F (64, [(2, 93), (0, x1), (0, x2), (0, x3), (0, x4)], [], mPut (mNew (mPut (mNew (hC w M n) p 1 x1.toNat) 93 1 p) p2 1 x1.toNat) 93 2 p2))))))))))) : WPc t6_begin (WPm gT d) F (50, [(2, 93), (0, x1), (0, x2), (0, x3), (0, x4)], [], hC w M n) :=
  vcJ_ok (K := [3, 31, 50, 64, 101]) 66 _ q
set_option maxRecDepth 20000 in
theorem b6_begin_101 (q : (true = true) ∧ F (9, 0) (hC w M n)) : WPc t6_begin (WPm gT d) F (101, [(2, 93), (0, x1), (0, x2), (0, x3), (0, x4)], [], hC w M n) :=
  vcJ_ok (K := [3, 31, 50, 64, 101]) 66 _ q
set_option maxRecDepth 20000 in
theorem b6_begin_64 (q : (true = true) ∧ ((true = true) ∧ ((true = true) ∧ ((true = true) ∧ ((true = true) ∧ ((x2 < 0 → WPc t6_begin (WPm gT d) F (101, [(2, 93), (0, x1), (0, x2), (0, x3), (0, x4)], [], hC w (sI M 93 0 x3) n)) ∧ (¬ (x2 < 0) → (true = true) ∧ ((true = true) ∧ ((true = true) ∧ (((Nat.ble 1 (shC w (rfC w 93 1)).1 && Nat.ble (shC w (rfC w 93 1)).1 4 || Nat.ble 40 (shC w (rfC w 93 1)).1) = true) ∧ ((true = true) ∧ (((((shC w (rfC w 93 1)).2 : Nat) : Int) ≤ x2 → WPc t6_begin (WPm gT d) F (101, [(2, 93), (0, x1), (0, x2), (0, x3), (0, x4)], [], hC w (sI M 93 0 x3) n)) ∧ (¬ ((((shC w (rfC w 93 1)).2 : Nat) : Int) ≤ x2) → (true = true) ∧ ((true = true) ∧ ((true = true) ∧ ((true = true) ∧ ((Nat.beq (shC w (rfC w 93 1)).1 1 = true) ∧ (((0 : Int) ≤ x2 ∧ (x2 : Int) < (((shC w (rfC w 93 1)).2 : Nat) : Int) ∧ True) ∧ ((true = true) ∧ ((true = true) ∧ ((true = true) ∧ ((true = true) ∧ ((Nat.beq (shC w (rfC w 93 2)).1 1 = true) ∧ (((0 : Int) ≤ 0 ∧ (0 : Int) < (((shC w (rfC w 93 2)).2 : Nat) : Int) ∧ True) ∧ ((true = true) ∧ ((true = true) ∧ ((true = true) ∧ WPc t6_begin (WPm gT d) F (101, [(2, 93), (0, x1), (0, x2), (0, x3), (0, x4)], [], hC w (sI (sI (sI (sI M 93 0 x3) (rfC w 93 1) x2.toNat (-1)) (rfC w 93 2) 0 x2) 93 4 1) n)))))))))))))))))))))))))))) : WPc t6_begin (WPm gT d) F (64, [(2, 93), (0, x1), (0, x2), (0, x3), (0, x4)], [], hC w M n) :=
  vcJ_ok (K := [3, 31, 50, 64, 101]) 66 _ q
end
/-- which longer rows were made -/
def wFl (w : cQ) (g : Nat → Bool) : cQ := (w.1, w.2.1, w.2.2.1, w.2.2.2.1, w.2.2.2.2.1, w.2.2.2.2.2.1, g, w.2.2.2.2.2.2.2)
def szJ (j : Nat) : Nat := 64 * 2 ^ j
theorem rfC_fl (w : cQ) (g : Nat → Bool) : rfC (wFl w g) = rfC w := rfl
theorem rfC_hi (w : cQ) (b k : Nat) (h : 140 ≤ b) : rfC w b k = 0 := by
  cases b with
  | zero => omega
  | succ a =>
    show rfCb w a k = 0
    unfold rfCb
    split
    all_goals first | omega | rfl | skip
    unfold rfC8
    split
    · omega
    · rfl
theorem shC_lo (w : cQ) (g : Nat → Bool) (b : Nat) (h : b < 142) : shC (wFl w g) b = shC w b := by
  cases b with
  | zero => rfl
  | succ a =>
    show shCb (wFl w g) a = shCb w a
    unfold shCb
    split
    all_goals first | rfl | skip
    · unfold shC8
      split
      all_goals first | rfl | omega
    · omega
theorem shC_hi (w : cQ) (b : Nat) (h : 160 ≤ b) : shC w b = (0, 0) := by
  cases b with
  | zero => omega
  | succ a =>
    show shCb w a = (0, 0)
    unfold shCb
    split
    all_goals first | omega | rfl | skip
    unfold shC9
    split
    all_goals first | omega | rfl
theorem shC_mid (w : cQ) (j : Nat) (h : 1 ≤ j ∧ j ≤ 9) : shC w (140 + 2 * j) = (bif w.2.2.2.2.2.2.1 j then (1, szJ j) else (0, 0)) ∧ shC w (141 + 2 * j) = (bif w.2.2.2.2.2.2.1 j then (1, szJ j) else (0, 0)) := by
  have hj : j = 1 ∨ j = 2 ∨ j = 3 ∨ j = 4 ∨ j = 5 ∨ j = 6 ∨ j = 7 ∨ j = 8 ∨ j = 9 := by omega
  rcases hj with e | e | e | e | e | e | e | e | e <;> subst e <;> exact ⟨rfl, rfl⟩
/-- two longer rows are made and taken -/
def wNw (w : cQ) (j : Nat) : cQ := (w.1, w.2.1, w.2.2.1, w.2.2.2.1, (140 + 2 * j, 141 + 2 * j), w.2.2.2.2.2.1, (fun i => if i = j then true else w.2.2.2.2.2.2.1 i), w.2.2.2.2.2.2.2)
def zrM (M : Nat → Nat → Int) (j : Nat) : Nat → Nat → Int := fun b k => if b = 140 + 2 * j ∨ b = 141 + 2 * j then 0 else M b k
theorem rfC_nw (w : cQ) (j b k : Nat) : rfC (wNw w j) b k = if b = 93 ∧ k = 2 then 141 + 2 * j else if b = 93 ∧ k = 1 then 140 + 2 * j else rfC w b k := by
  have e0 : rfC (wNw w j) = rfC (w.1, w.2.1, w.2.2.1, w.2.2.2.1, (140 + 2 * j, 141 + 2 * j), w.2.2.2.2.2) := rfl
  have e1 := congrArg (fun h : mH => h.2.1 b k) (hput_93_1 (w := w) (M := fun _ _ => 0) (n := (0, 0)) (v := 140 + 2 * j))
  have e2 := congrArg (fun h : mH => h.2.1 b k) (hput_93_2 (w := (w.1, w.2.1, w.2.2.1, w.2.2.2.1, (140 + 2 * j, w.2.2.2.2.1.2), w.2.2.2.2.2)) (M := fun _ _ => 0) (n := (0, 0)) (v := 141 + 2 * j))
  have e1 : (if b = 93 ∧ k = 1 then 140 + 2 * j else rfC w b k) = rfC (w.1, w.2.1, w.2.2.1, w.2.2.2.1, (140 + 2 * j, w.2.2.2.2.1.2), w.2.2.2.2.2) b k := e1
  have e2 : (if b = 93 ∧ k = 2 then 141 + 2 * j else rfC (w.1, w.2.1, w.2.2.1, w.2.2.2.1, (140 + 2 * j, w.2.2.2.2.1.2), w.2.2.2.2.2) b k) = rfC (w.1, w.2.1, w.2.2.1, w.2.2.2.1, (140 + 2 * j, 141 + 2 * j), w.2.2.2.2.2) b k := e2
  rw [e0, ← e2, ← e1]
theorem shC_nw (w : cQ) (j b : Nat) (hj : 1 ≤ j ∧ j ≤ 9) : shC (wNw w j) b = if b = 141 + 2 * j then (1, szJ j) else if b = 140 + 2 * j then (1, szJ j) else shC w b := by
  have e0 : shC (wNw w j) = shC (wFl w (fun i => if i = j then true else w.2.2.2.2.2.2.1 i)) := rfl
  rw [e0]
  by_cases c1 : b < 142
  · rw [shC_lo _ _ _ c1, if_neg (by omega), if_neg (by omega)]
  · by_cases c2 : 160 ≤ b
    · rw [shC_hi _ _ c2, shC_hi _ _ c2, if_neg (by omega), if_neg (by omega)]
    · obtain ⟨i, hi, hb⟩ : ∃ i, (1 ≤ i ∧ i ≤ 9) ∧ (b = 140 + 2 * i ∨ b = 141 + 2 * i) := ⟨(b - 140) / 2, by omega, by omega⟩
      have s1 := shC_mid (wFl w (fun i => if i = j then true else w.2.2.2.2.2.2.1 i)) i hi
      have s2 := shC_mid w i hi
      have ef : (wFl w (fun i => if i = j then true else w.2.2.2.2.2.2.1 i)).2.2.2.2.2.2.1 i = if i = j then true else w.2.2.2.2.2.2.1 i := rfl
      rw [ef] at s1
      by_cases c : i = j
      · subst c
        rw [if_pos rfl] at s1
        rcases hb with hb | hb
        · rw [hb, s1.1, if_neg (by omega), if_pos rfl]; rfl
        · rw [hb, s1.2, if_pos rfl]; rfl
      · rw [if_neg c] at s1
        rcases hb with hb | hb
        · rw [if_neg (by omega), if_neg (by omega), hb, s1.1, s2.1]
        · rw [if_neg (by omega), if_neg (by omega), hb, s1.2, s2.2]
theorem h_new (w : cQ) (M : Nat → Nat → Int) (n : Nat × Nat) (j : Nat) (hj : 1 ≤ j ∧ j ≤ 9) : mPut (mNew (mPut (mNew (hC w M n) (140 + 2 * j) 1 (szJ j)) 93 1 (140 + 2 * j)) (141 + 2 * j) 1 (szJ j)) 93 2 (141 + 2 * j) = hC (wNw w j) (zrM M j) (n.1 + 1 + 1, n.2 + szJ j + szJ j) := by
  have a1 : (fun b k => if b = 141 + 2 * j then (0 : Int) else if b = 140 + 2 * j then 0 else M b k) = zrM M j := by
    funext b k
    unfold zrM
    by_cases c : b = 141 + 2 * j
    · rw [if_pos c, if_pos (Or.inr c)]
    · rw [if_neg c]
      by_cases c2 : b = 140 + 2 * j
      · rw [if_pos c2, if_pos (Or.inl c2)]
      · rw [if_neg c2, if_neg (by omega)]
  have a2 : (fun b k => if b = 93 ∧ k = 2 then 141 + 2 * j else if b = 141 + 2 * j then 0 else if b = 93 ∧ k = 1 then 140 + 2 * j else if b = 140 + 2 * j then 0 else rfC w b k) = rfC (wNw w j) := by
    funext b k
    rw [rfC_nw]
    by_cases c : b = 93 ∧ k = 2
    · rw [if_pos c, if_pos c]
    · rw [if_neg c, if_neg c]
      by_cases c1 : b = 141 + 2 * j
      · rw [if_pos c1, if_neg (by omega), rfC_hi w b k (by omega)]
      · rw [if_neg c1]
        by_cases c2 : b = 93 ∧ k = 1
        · rw [if_pos c2, if_pos c2]
        · rw [if_neg c2, if_neg c2]
          by_cases c3 : b = 140 + 2 * j
          · rw [if_pos c3, rfC_hi w b k (by omega)]
          · rw [if_neg c3]
  have a3 : (fun b => if b = 141 + 2 * j then (1, szJ j) else if b = 140 + 2 * j then (1, szJ j) else shC w b) = shC (wNw w j) := by
    funext b
    rw [shC_nw w j b hj]
  show ((fun b k => if b = 141 + 2 * j then (0 : Int) else if b = 140 + 2 * j then 0 else M b k), (fun b k => if b = 93 ∧ k = 2 then 141 + 2 * j else if b = 141 + 2 * j then 0 else if b = 93 ∧ k = 1 then 140 + 2 * j else if b = 140 + 2 * j then 0 else rfC w b k), (fun b => if b = 141 + 2 * j then (1, szJ j) else if b = 140 + 2 * j then (1, szJ j) else shC w b), n.1 + 1 + 1, n.2 + szJ j + szJ j) = (zrM M j, rfC (wNw w j), shC (wNw w j), n.1 + 1 + 1, n.2 + szJ j + szJ j)
  rw [a1, a2, a3]
/-- the rows of the search: c says which -/
def aA (c : Nat) : Nat := if c = 0 then 94 else 140 + 2 * c
def bA (c : Nat) : Nat := if c = 0 then 95 else 141 + 2 * c
def sCur (w : cQ) (c : Nat) : Prop := c ≤ 9 ∧ w.2.2.2.2.1 = (aA c, bA c) ∧ (c ≠ 0 → w.2.2.2.2.2.2.1 c = true) ∧ ∀ i, c < i → i ≤ 9 → w.2.2.2.2.2.2.1 i = false
theorem szJ_le {c : Nat} (h : c ≤ 9) : 64 ≤ szJ c ∧ szJ c ≤ 32768 := by
  have h1 : 1 ≤ 2 ^ c := Nat.one_le_two_pow
  have h2 : 2 ^ c ≤ 2 ^ 9 := Nat.pow_le_pow_right (by omega) h
  unfold szJ
  omega
theorem szJ_lt {c j : Nat} (h : c < j) : 2 * szJ c ≤ szJ j := by
  have h2 : 2 ^ (c + 1) ≤ 2 ^ j := Nat.pow_le_pow_right (by omega) h
  rw [Nat.pow_succ] at h2
  unfold szJ
  omega
theorem okA_of {w : cQ} {c : Nat} (h : sCur w c) : okA w (aA c) (bA c) (szJ c) := by
  obtain ⟨h1, h2, h3, h4⟩ := h
  have hL := szJ_le h1
  have e1 : rfC w 93 1 = w.2.2.2.2.1.1 := rfl
  have e2 : rfC w 93 2 = w.2.2.2.2.1.2 := rfl
  rw [h2] at e1 e2
  refine ⟨e1, e2, ?_, ?_, ?_, ?_, ?_, hL.1, hL.2⟩
  · unfold aA
    by_cases c0 : c = 0
    · rw [if_pos c0, c0]; rfl
    · rw [if_neg c0, (shC_mid w c (by omega)).1, h3 c0]; rfl
  · unfold bA
    by_cases c0 : c = 0
    · rw [if_pos c0, c0]; rfl
    · rw [if_neg c0, (shC_mid w c (by omega)).2, h3 c0]; rfl
  · unfold aA bA; split <;> omega
  · unfold aA; split <;> omega
  · unfold bA; split <;> omega
/-- images that aren't there yet -/
def nim (w : cQ) : Nat := (bif w.2.2.2.2.2.1.1 then 0 else 1) + (bif w.2.2.2.2.2.1.2 then 0 else 1)
/-- there is room for the rows that aren't made yet -/
def rmS (w : cQ) (n : Nat × Nat) (c : Nat) : Prop := n.1 + 2 * (9 - c) + 13 * nim w ≤ 599000 ∧ n.2 + 131072 + 1000 * nim w ≤ 7000000 + 4 * szJ c
/-- between calls: only places of the queue are marked -/
def srI (w : cQ) (n : Nat × Nat) (M : Nat → Nat → Int) (c : Nat) : Prop := sCur w c ∧ rmS w n c ∧ ∃ (t : Nat) (q : Nat → Nat), M 93 4 = (t : Int) ∧ t ≤ szJ c ∧ (∀ i, i < t → M (bA c) i = (q i : Int) ∧ q i < szJ c) ∧ (∀ s, s < szJ c → (∀ i, i < t → q i ≠ s) → M (aA c) s = 0)
/-- all else of the references stays -/
def eqW (w w' : cQ) : Prop := w'.1 = w.1 ∧ w'.2.1 = w.2.1 ∧ w'.2.2.1 = w.2.2.1 ∧ w'.2.2.2.1 = w.2.2.2.1 ∧ w'.2.2.2.2.2.1 = w.2.2.2.2.2.1 ∧ w'.2.2.2.2.2.2.2 = w.2.2.2.2.2.2.2
theorem eqW.refl (w : cQ) : eqW w w := ⟨rfl, rfl, rfl, rfl, rfl, rfl⟩
def KW (M M' : Nat → Nat → Int) : Prop := ∀ x, x < 93 ∨ (96 ≤ x ∧ x < 140) → M' x = M x
theorem c_begin {d : Nat} {w : cQ} {n : Nat × Nat} {M : Nat → Nat → Int} {Ψ : Int → cQ → (Nat → Nat → Int) → Nat × Nat → Prop} {c : Nat} (Z s0 : Nat) (x3 : Int) (S : srI w n M c) (hZ : Z ≤ szJ c ∨ ∃ j, c < j ∧ j ≤ 9 ∧ Z = szJ j) (hs : s0 < 64) (qq : ∀ w' n' M' c', eqW w w' → sCur w' c' → rmS w' n' c' → Z ≤ szJ c' → c ≤ c' → KW M M' → M' 93 0 = x3 → (∀ (nx : gN) (K : Nat) (lb : Nat → Nat), BS (aA c') (bA c') (szJ c') nx K lb s0 M' 0 0 0 (fun _ => s0) (fun _ => 0) (fun _ => 0) 1) → Ψ 0 w' M' n') : CW (d + 1) 62 [(2, 93), (0, (Z : Int)), (0, (s0 : Int)), (0, x3)] w M n Ψ := by
  obtain ⟨S1, S2, t, q, S3, S4, S5, S6⟩ := S
  -- from place 64 on
  have fin : ∀ (w' : cQ) (n' : Nat × Nat) (M1 : Nat → Nat → Int) (c' : Nat) (x4 : Int), eqW w w' → sCur w' c' → rmS w' n' c' → Z ≤ szJ c' → c ≤ c' → KW M M1 → M1 93 3 = 0 → (∀ s, s < szJ c' → M1 (aA c') s = 0) → WPc t6_begin (WPm gT d) (FC Ψ) (64, [(2, 93), (0, (Z : Int)), (0, (s0 : Int)), (0, x3), (0, x4)], [], hC w' M1 n') := by
    intro w' n' M1 c' x4 h1 h2 h3 h4 h5 h6 h7 h8
    obtain ⟨A1, A2, A3, A4, A5, A6, A7, A8, A9⟩ := okA_of h2
    apply b6_begin_64
    rw [A1, A2, A3, A4, Int.toNat_natCast]
    refine ⟨rfl, rfl, rfl, rfl, rfl, fun z => absurd z (by omega), fun _ => ⟨rfl, rfl, rfl, rfl, rfl, fun z => absurd z (by show ¬ ((szJ c' : Int) ≤ (s0 : Int)); omega), fun _ => ⟨rfl, rfl, rfl, rfl, rfl, ⟨by omega, by show (s0 : Int) < (szJ c' : Int); omega, trivial⟩, rfl, rfl, rfl, rfl, rfl, ⟨by omega, by show (0 : Int) < (szJ c' : Int); omega, trivial⟩, rfl, rfl, rfl, ?_⟩⟩⟩
    apply b6_begin_101
    refine ⟨rfl, FCmk (qq w' n' _ c' h1 h2 h3 h4 h5 (fun x hx => ?_) ?_ (fun nx K lb => ?_))⟩
    · rw [sI_row (by omega), sI_row (by omega), sI_row (by omega), sI_row (by omega)]
      exact h6 x hx
    · rw [sI_ne (by omega), sI_row (by omega), sI_row (by omega), sI_same]
    · have ea : (sI (sI (sI (sI M1 93 0 x3) (aA c') s0 (-1)) (bA c') 0 (s0 : Int)) 93 4 1) (aA c') = pset (M1 (aA c')) s0 (-1) := by
        rw [sI_row (by omega), sI_row (by omega), sI_p, sI_row (by omega)]
      have eb : (sI (sI (sI (sI M1 93 0 x3) (aA c') s0 (-1)) (bA c') 0 (s0 : Int)) 93 4 1) (bA c') 0 = (s0 : Int) := by
        rw [sI_row (by omega), sI_same]
      refine ⟨⟨?_, sI_same _ _ _ _⟩, fun i hi => ?_, fun i hi => ?_, fun s hs' hn => ?_, ⟨by omega, rfl, fun i j hi hj _ => by omega, fun i h0 hi => by omega⟩, fun i k' v hc => by omega⟩
      · rw [sI_ne (by omega), sI_row (by omega), sI_row (by omega), sI_ne (by omega)]
        exact h7
      · rw [show i = 0 by omega, eb]
        exact ⟨rfl, show s0 < szJ c' by omega⟩
      · rw [ea, show i = 0 by omega, pset_eq]; rfl
      · have := hn 0 (by omega)
        rw [ea, pset_ne (fun z => this z.symm)]
        exact h8 s hs'
  -- the marks are taken away
  have A := okA_of S1
  obtain ⟨A1, A2, A3, A4, A5, A6, A7, A8, A9⟩ := A
  have cle := S1.1
  have key : ∀ i, i ≤ t → ∀ M1 : Nat → Nat → Int, KW M M1 → M1 93 4 = (t : Int) → M1 (bA c) = M (bA c) → (∀ s, s < szJ c → (∀ k, i ≤ k → k < t → q k ≠ s) → M1 (aA c) s = 0) → WPc t6_begin (WPm gT d) (FC Ψ) (3, [(2, 93), (0, (Z : Int)), (0, (s0 : Int)), (0, x3), (0, (i : Int))], [], hC w M1 n) := by
    refine up (fun M1 k1 k2 k3 k4 => ?_) (fun i hi ih M1 k1 k2 k3 k4 => ?_)
    · apply b6_begin_3
      rw [k2]
      refine ⟨rfl, rfl, rfl, rfl, fun _ => ?_, fun z => absurd (Int.le_refl _) z⟩
      apply b6_begin_31
      rw [A1, A3]
      have z0 : ∀ s, s < szJ c → (sI (sI M1 93 3 0) 93 4 0) (aA c) s = 0 := fun s hs' => by
        rw [sI_row (by omega), sI_row (by omega)]
        exact k4 s hs' (fun k h1 h2 => by omega)
      have zk : KW M (sI (sI M1 93 3 0) 93 4 0) := fun x hx => by
        rw [sI_row (by omega), sI_row (by omega)]; exact k1 x hx
      have z3 : (sI (sI M1 93 3 0) 93 4 0) 93 3 = 0 := by rw [sI_ne (by omega), sI_same]
      refine ⟨rfl, rfl, rfl, rfl, rfl, rfl, rfl, rfl, rfl, rfl, rfl, fun cz => ?_, fun cz => ?_⟩
      · have cz : (Z : Int) ≤ (szJ c : Int) := cz
        exact fin w n _ c _ (eqW.refl w) S1 S2 (by omega) (Nat.le_refl _) zk z3 z0
      · have cz : ¬ ((Z : Int) ≤ (szJ c : Int)) := cz
        rcases hZ with hZ | ⟨j, hj1, hj2, hj3⟩
        · omega
        · have hl := szJ_lt hj1
          have hle := szJ_le hj2
          obtain ⟨r1, r2⟩ := S2
          have fj := S1.2.2.2 j hj1 hj2
          have m1 := (shC_mid w j (by omega)).1
          have m2 := (shC_mid w j (by omega)).2
          rw [fj] at m1 m2
          have k93 : shC w 93 = (16, 5) := rfl
          apply b6_begin_50
          rw [Int.toNat_natCast]
          refine ⟨rfl, rfl, rfl, ⟨by omega, by omega, by omega, by omega⟩, 140 + 2 * j, ?_, ?_, rfl, rfl, rfl, ⟨by omega, by omega, by omega, by omega⟩, 141 + 2 * j, ?_, ?_, ?_⟩
          · show (Nat.beq (shC w (140 + 2 * j)).1 0 && Nat.ble 1 (140 + 2 * j)) = true
            rw [m1, Bool.and_eq_true]
            exact ⟨rfl, Nat.ble_eq.mpr (by omega)⟩
          · show (true && Nat.beq (if 93 = 140 + 2 * j then (1, Z) else shC w 93).1 16 && true) = true
            rw [if_neg (by omega)]; rfl
          · show (Nat.beq (if 141 + 2 * j = 140 + 2 * j then (1, Z) else shC w (141 + 2 * j)).1 0 && Nat.ble 1 (141 + 2 * j)) = true
            rw [if_neg (by omega), m2, Bool.and_eq_true]
            exact ⟨rfl, Nat.ble_eq.mpr (by omega)⟩
          · show (true && Nat.beq (if 93 = 141 + 2 * j then (1, Z) else if 93 = 140 + 2 * j then (1, Z) else shC w 93).1 16 && true) = true
            rw [if_neg (by omega), if_neg (by omega)]; rfl
          · rw [hj3]
            refine WPc_hq (h_new w _ n j (by omega)) ?_
            have ea : aA j = 140 + 2 * j := if_neg (by omega)
            have eb : bA j = 141 + 2 * j := if_neg (by omega)
            have := fin (wNw w j) (n.1 + 1 + 1, n.2 + szJ j + szJ j) (zrM (sI (sI M1 93 3 0) 93 4 0) j) j (t : Int) ⟨rfl, rfl, rfl, rfl, rfl, rfl⟩ ⟨hj2, ?_, fun _ => if_pos rfl, fun i h1 h2 => ?_⟩ ⟨?_, ?_⟩ (by omega) (by omega) (fun x hx => ?_) ?_ (fun s _ => ?_)
            · rw [hj3] at this; exact this
            · show (140 + 2 * j, 141 + 2 * j) = (aA j, bA j)
              rw [ea, eb]
            · show (if i = j then true else w.2.2.2.2.2.2.1 i) = false
              rw [if_neg (by omega)]
              exact S1.2.2.2 i (by omega) h2
            · show n.1 + 1 + 1 + 2 * (9 - j) + 13 * nim w ≤ 599000
              omega
            · show n.2 + szJ j + szJ j + 131072 + 1000 * nim w ≤ 7000000 + 4 * szJ j
              omega
            · have e : (zrM (sI (sI M1 93 3 0) 93 4 0) j) x = (sI (sI M1 93 3 0) 93 4 0) x := by
                funext k
                unfold zrM
                rw [if_neg (by omega)]
              rw [e]; exact zk x hx
            · show (if 93 = 140 + 2 * j ∨ 93 = 141 + 2 * j then 0 else (sI (sI M1 93 3 0) 93 4 0) 93 3) = 0
              rw [if_neg (by omega)]; exact z3
            · show (if aA j = 140 + 2 * j ∨ aA j = 141 + 2 * j then 0 else (sI (sI M1 93 3 0) 93 4 0) (aA j) s) = 0
              rw [if_pos (Or.inl ea)]
    · apply b6_begin_3
      obtain ⟨q1, q2⟩ := S5 i hi
      rw [A1, A2, A3, A4, k2, k3, Int.toNat_natCast, q1, w32_s (by omega), Int.toNat_natCast]
      refine ⟨rfl, rfl, rfl, rfl, fun z => absurd z (by omega), fun _ => ⟨rfl, rfl, rfl, rfl, rfl, rfl, ⟨by omega, by show (i : Int) < (szJ c : Int); omega⟩, rfl, rfl, ⟨by omega, by show (q i : Int) < (szJ c : Int); omega, trivial⟩, rfl, rfl, ?_⟩⟩
      refine ih _ (fun x hx => ?_) ?_ ?_ (fun s hs' hn => ?_)
      · rw [sI_row (by omega)]; exact k1 x hx
      · rw [sI_row (by omega)]; exact k2
      · rw [sI_row (by omega)]; exact k3
      · rw [sI_p]
        by_cases cs : s = q i
        · rw [cs, pset_eq]
        · rw [pset_ne cs]
          refine k4 s hs' (fun k h1 h2 => ?_)
          by_cases ck : k = i
          · rw [ck]; exact fun z => cs z.symm
          · exact hn k (by omega) h2
  refine WPm_in g6_begin (Nat.le_of_ble_eq_true rfl) (b6_begin_0 ⟨rfl, rfl, key 0 (Nat.zero_le _) M (fun _ _ => rfl) S3 rfl (fun s hs' hn => S6 s hs' (fun i hi => hn i (Nat.zero_le _) hi))⟩)
