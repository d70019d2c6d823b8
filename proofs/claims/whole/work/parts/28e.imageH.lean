/-! ===== an image is made: its cells ===== -/
def hIm (w : cQ) (M : Nat → Nat → Int) (n : Nat × Nat) (A i : Nat) : mH := mPut (nwS (mNew (mPut (nwL (mNew (hC w M n) A 12 16) A) 11 i A) (A + 9) 17 6) (A + 9)) 12 i (A + 9)
def imT0 (w : cQ) : cQ := (w.1, w.2.1, w.2.2.1, w.2.2.2.1, w.2.2.2.2.1, (true, w.2.2.2.2.2.1.2), w.2.2.2.2.2.2)
def imT1 (w : cQ) : cQ := (w.1, w.2.1, w.2.2.1, w.2.2.2.1, w.2.2.2.2.1, (w.2.2.2.2.2.1.1, true), w.2.2.2.2.2.2)
theorem rf_im0 (w : cQ) (b k : Nat) (h : b ≠ 11 ∧ b ≠ 12 ∧ (b < 110 ∨ 122 < b)) : rfC (imT0 w) b k = rfC w b k := by
  cases b with
  | zero => rfl
  | succ a =>
    show rfCb (imT0 w) a k = rfCb w a k
    unfold rfCb
    split
    all_goals first | rfl | skip
    · unfold rfC0
      split
      all_goals first | rfl | omega
    · unfold rfC6
      split
      all_goals first | rfl | omega
    · unfold rfC7
      split
      all_goals first | rfl | omega
theorem sh_im0 (w : cQ) (b : Nat) (h : b < 110 ∨ 122 < b) : shC (imT0 w) b = shC w b := by
  cases b with
  | zero => rfl
  | succ a =>
    show shCb (imT0 w) a = shCb w a
    unfold shCb
    split
    all_goals first | rfl | skip
    · unfold shC6
      split
      all_goals first | rfl | omega
    · unfold shC7
      split
      all_goals first | rfl | omega
set_option maxRecDepth 20000 in
theorem rf_lit0 (w : cQ) (M : Nat → Nat → Int) (n : Nat × Nat) (b k : Nat) (h : ¬ (b ≠ 11 ∧ b ≠ 12 ∧ (b < 110 ∨ 122 < b))) (hw : rfC w 11 = fun k => rfC w 11 k) : (hIm w M n 110 0).2.1 b k = rfC (imT0 w) b k := by
  have hb : b = 11 ∨ b = 12 ∨ b = 110 ∨ b = 111 ∨ b = 112 ∨ b = 113 ∨ b = 114 ∨ b = 115 ∨ b = 116 ∨ b = 117 ∨ b = 118 ∨ b = 119 ∨ b = 120 ∨ b = 121 ∨ b = 122 := by omega
  rcases hb with e | e | e | e | e | e | e | e | e | e | e | e | e | e | e <;> subst e <;> (rcases k with _ | _ | _ | _ | _ | _ | _ | _ | _ | _ | _ | _ | _ | _ | _ | _ | k) <;> rfl
set_option maxRecDepth 20000 in
theorem sh_lit0 (w : cQ) (M : Nat → Nat → Int) (n : Nat × Nat) (b : Nat) (h : ¬ (b < 110 ∨ 122 < b)) : (hIm w M n 110 0).2.2.1 b = shC (imT0 w) b := by
  have hb : b = 110 ∨ b = 111 ∨ b = 112 ∨ b = 113 ∨ b = 114 ∨ b = 115 ∨ b = 116 ∨ b = 117 ∨ b = 118 ∨ b = 119 ∨ b = 120 ∨ b = 121 ∨ b = 122 := by omega
  rcases hb with e | e | e | e | e | e | e | e | e | e | e | e | e <;> subst e <;> rfl
theorem h_im0 (w : cQ) (M : Nat → Nat → Int) (n : Nat × Nat) : hIm w M n 110 0 = hC (imT0 w) (hIm w M n 110 0).1 (n.1 + 13, n.2 + 1000) := by
  have a2 : (hIm w M n 110 0).2.1 = rfC (imT0 w) := by
    funext b k
    by_cases h : b ≠ 11 ∧ b ≠ 12 ∧ (b < 110 ∨ 122 < b)
    · rw [rf_im0 w b k h]
      have h11 : ¬ (b = 11) := by omega
      have h12 : ¬ (b = 12) := by omega
      have h110 : ¬ (b = 110) := by omega
      have h111 : ¬ (b = 111) := by omega
      have h112 : ¬ (b = 112) := by omega
      have h113 : ¬ (b = 113) := by omega
      have h114 : ¬ (b = 114) := by omega
      have h115 : ¬ (b = 115) := by omega
      have h116 : ¬ (b = 116) := by omega
      have h117 : ¬ (b = 117) := by omega
      have h118 : ¬ (b = 118) := by omega
      have h119 : ¬ (b = 119) := by omega
      have h120 : ¬ (b = 120) := by omega
      have h121 : ¬ (b = 121) := by omega
      have h122 : ¬ (b = 122) := by omega
      simp only [hIm, nwS, nwL, nwA, mPut, mNew, mSet, hC, Nat.reduceAdd, h11, h12, h110, h111, h112, h113, h114, h115, h116, h117, h118, h119, h120, h121, h122, false_and, if_false]
    · exact rf_lit0 w M n b k h rfl
  have a3 : (hIm w M n 110 0).2.2.1 = shC (imT0 w) := by
    funext b
    by_cases h : b < 110 ∨ 122 < b
    · rw [sh_im0 w b h]
      have h110 : ¬ (b = 110) := by omega
      have h111 : ¬ (b = 111) := by omega
      have h112 : ¬ (b = 112) := by omega
      have h113 : ¬ (b = 113) := by omega
      have h114 : ¬ (b = 114) := by omega
      have h115 : ¬ (b = 115) := by omega
      have h116 : ¬ (b = 116) := by omega
      have h117 : ¬ (b = 117) := by omega
      have h118 : ¬ (b = 118) := by omega
      have h119 : ¬ (b = 119) := by omega
      have h120 : ¬ (b = 120) := by omega
      have h121 : ¬ (b = 121) := by omega
      have h122 : ¬ (b = 122) := by omega
      simp only [hIm, nwS, nwL, nwA, mPut, mNew, mSet, hC, Nat.reduceAdd, h110, h111, h112, h113, h114, h115, h116, h117, h118, h119, h120, h121, h122, if_false]
    · exact sh_lit0 w M n b h
  show ((hIm w M n 110 0).1, (hIm w M n 110 0).2.1, (hIm w M n 110 0).2.2.1, (hIm w M n 110 0).2.2.2) = _
  rw [a2, a3]
  rfl
theorem rf_im1 (w : cQ) (b k : Nat) (h : b ≠ 11 ∧ b ≠ 12 ∧ (b < 123 ∨ 135 < b)) : rfC (imT1 w) b k = rfC w b k := by
  cases b with
  | zero => rfl
  | succ a =>
    show rfCb (imT1 w) a k = rfCb w a k
    unfold rfCb
    split
    all_goals first | rfl | skip
    · unfold rfC0
      split
      all_goals first | rfl | omega
    · unfold rfC7
      split
      all_goals first | rfl | omega
    · unfold rfC8
      split
      all_goals first | rfl | omega
theorem sh_im1 (w : cQ) (b : Nat) (h : b < 123 ∨ 135 < b) : shC (imT1 w) b = shC w b := by
  cases b with
  | zero => rfl
  | succ a =>
    show shCb (imT1 w) a = shCb w a
    unfold shCb
    split
    all_goals first | rfl | skip
    · unfold shC7
      split
      all_goals first | rfl | omega
    · unfold shC8
      split
      all_goals first | rfl | omega
set_option maxRecDepth 20000 in
theorem rf_lit1 (w : cQ) (M : Nat → Nat → Int) (n : Nat × Nat) (b k : Nat) (h : ¬ (b ≠ 11 ∧ b ≠ 12 ∧ (b < 123 ∨ 135 < b))) (hw : rfC w 11 = fun k => rfC w 11 k) : (hIm w M n 123 1).2.1 b k = rfC (imT1 w) b k := by
  have hb : b = 11 ∨ b = 12 ∨ b = 123 ∨ b = 124 ∨ b = 125 ∨ b = 126 ∨ b = 127 ∨ b = 128 ∨ b = 129 ∨ b = 130 ∨ b = 131 ∨ b = 132 ∨ b = 133 ∨ b = 134 ∨ b = 135 := by omega
  rcases hb with e | e | e | e | e | e | e | e | e | e | e | e | e | e | e <;> subst e <;> (rcases k with _ | _ | _ | _ | _ | _ | _ | _ | _ | _ | _ | _ | _ | _ | _ | _ | k) <;> rfl
set_option maxRecDepth 20000 in
theorem sh_lit1 (w : cQ) (M : Nat → Nat → Int) (n : Nat × Nat) (b : Nat) (h : ¬ (b < 123 ∨ 135 < b)) : (hIm w M n 123 1).2.2.1 b = shC (imT1 w) b := by
  have hb : b = 123 ∨ b = 124 ∨ b = 125 ∨ b = 126 ∨ b = 127 ∨ b = 128 ∨ b = 129 ∨ b = 130 ∨ b = 131 ∨ b = 132 ∨ b = 133 ∨ b = 134 ∨ b = 135 := by omega
  rcases hb with e | e | e | e | e | e | e | e | e | e | e | e | e <;> subst e <;> rfl
theorem h_im1 (w : cQ) (M : Nat → Nat → Int) (n : Nat × Nat) : hIm w M n 123 1 = hC (imT1 w) (hIm w M n 123 1).1 (n.1 + 13, n.2 + 1000) := by
  have a2 : (hIm w M n 123 1).2.1 = rfC (imT1 w) := by
    funext b k
    by_cases h : b ≠ 11 ∧ b ≠ 12 ∧ (b < 123 ∨ 135 < b)
    · rw [rf_im1 w b k h]
      have h11 : ¬ (b = 11) := by omega
      have h12 : ¬ (b = 12) := by omega
      have h123 : ¬ (b = 123) := by omega
      have h124 : ¬ (b = 124) := by omega
      have h125 : ¬ (b = 125) := by omega
      have h126 : ¬ (b = 126) := by omega
      have h127 : ¬ (b = 127) := by omega
      have h128 : ¬ (b = 128) := by omega
      have h129 : ¬ (b = 129) := by omega
      have h130 : ¬ (b = 130) := by omega
      have h131 : ¬ (b = 131) := by omega
      have h132 : ¬ (b = 132) := by omega
      have h133 : ¬ (b = 133) := by omega
      have h134 : ¬ (b = 134) := by omega
      have h135 : ¬ (b = 135) := by omega
      simp only [hIm, nwS, nwL, nwA, mPut, mNew, mSet, hC, Nat.reduceAdd, h11, h12, h123, h124, h125, h126, h127, h128, h129, h130, h131, h132, h133, h134, h135, false_and, if_false]
    · exact rf_lit1 w M n b k h rfl
  have a3 : (hIm w M n 123 1).2.2.1 = shC (imT1 w) := by
    funext b
    by_cases h : b < 123 ∨ 135 < b
    · rw [sh_im1 w b h]
      have h123 : ¬ (b = 123) := by omega
      have h124 : ¬ (b = 124) := by omega
      have h125 : ¬ (b = 125) := by omega
      have h126 : ¬ (b = 126) := by omega
      have h127 : ¬ (b = 127) := by omega
      have h128 : ¬ (b = 128) := by omega
      have h129 : ¬ (b = 129) := by omega
      have h130 : ¬ (b = 130) := by omega
      have h131 : ¬ (b = 131) := by omega
      have h132 : ¬ (b = 132) := by omega
      have h133 : ¬ (b = 133) := by omega
      have h134 : ¬ (b = 134) := by omega
      have h135 : ¬ (b = 135) := by omega
      simp only [hIm, nwS, nwL, nwA, mPut, mNew, mSet, hC, Nat.reduceAdd, h123, h124, h125, h126, h127, h128, h129, h130, h131, h132, h133, h134, h135, if_false]
    · exact sh_lit1 w M n b h
  show ((hIm w M n 123 1).1, (hIm w M n 123 1).2.1, (hIm w M n 123 1).2.2.1, (hIm w M n 123 1).2.2.2) = _
  rw [a2, a3]
  rfl
