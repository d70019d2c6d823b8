/-! ===== the images after image, restore, and all else ===== -/
theorem imgP_own (P : Nat → Int) (i j : Nat) (hj : j < 1264) : imgP P i (1264 * (i + 1) + j) = P j := by
  unfold imgP cpP
  rw [if_pos (by omega), show 1264 * (i + 1) + j - 1264 * (i + 1) = j by omega]
theorem imgP_low (P : Nat → Int) (i j : Nat) (hj : j < 1264) : imgP P i j = P j := by
  unfold imgP cpP
  rw [if_neg (by omega)]
theorem imgP_other (P : Nat → Int) (i i' j : Nat) (hi : i < 2) (hi' : i' < 2) (hne : i' ≠ i) (hj : j < 1264) : imgP P i (1264 * (i' + 1) + j) = P (1264 * (i' + 1) + j) := by
  unfold imgP cpP
  rw [if_neg (by omega)]
theorem imW_U (w : cQ) (i i' : Nat) (hi : i < 2) (hi' : i' < 2) : imW (imU w i) i' = if i' = i then true else imW w i' := by
  have h1 : i = 0 ∨ i = 1 := by omega
  have h2 : i' = 0 ∨ i' = 1 := by omega
  rcases h1 with e | e <;> rcases h2 with e2 | e2 <;> subst e <;> subst e2 <;> rfl
theorem relI.keep {w w' : cQ} {M M' : Nat → Nat → Int} {H P P' : Nat → Int} (ri : relI w M H P) (hw : w'.2.2.2.2.2.1 = w.2.2.2.2.2.1) (hM : ∀ c, 110 ≤ c → c ≤ 135 → M' c = M c) (hP : ∀ j, 1264 ≤ j → P' j = P j) : relI w' M' H P' := by
  intro i hi
  have eW : imW w' i = imW w i := by unfold imW; rw [hw]
  have hA : imA i = 110 ∨ imA i = 123 := by unfold imA; omega
  have e1 : (fun j => P' (1264 * (i + 1) + j)) = fun j => P (1264 * (i + 1) + j) := by funext j; exact hP _ (by omega)
  have e2 : (fun j => P' (1264 * (i + 1) + (65 + j))) = fun j => P (1264 * (i + 1) + (65 + j)) := by funext j; exact hP _ (by omega)
  rw [eW, e1, e2]
  rcases ri i hi with h | ⟨h1, h2, h3, h4, h5⟩
  · exact Or.inl h
  · exact Or.inr ⟨h1, h2, h3.congr (fun c c1 c2 => hM c (by omega) (by omega)), h4.congr (fun c c1 c2 => hM c (by omega) (by omega)), h5⟩
theorem relI.img {w : cQ} {M M' : Nat → Nat → Int} {H P : Nat → Int} {i : Nat} (hi : i < 2) (ri : relI w M H P) (ok : okP P) (hM : ∀ c, c < imA i ∨ imA i + 12 < c → M' c = M c) (hl : relL M' (imA i) P) (hs : relS M' (imA i + 9) (fun j => P (65 + j))) : relI (imU w i) M' (pset H i 1) (imgP P i) := by
  intro i' hi'
  rw [imW_U w i i' hi hi']
  have hA : imA i = 110 + 13 * i := rfl
  have hA' : imA i' = 110 + 13 * i' := rfl
  by_cases c : i' = i
  · subst c
    rw [pset_eq, if_pos rfl]
    refine Or.inr ⟨rfl, rfl, hl.lows (fun j hj => imgP_own P i' j hj) ok.B.2 ok.nc.2, hs.lows (fun j hj => imgP_own P i' (65 + j) (by omega)), okP.lows (fun j hj => imgP_own P i' j hj) ok⟩
  · rw [pset_ne c, if_neg c]
    rcases ri i' hi' with h | ⟨h1, h2, h3, h4, h5⟩
    · exact Or.inl h
    · refine Or.inr ⟨h1, h2, ?_, ?_, okP.lows (fun j hj => imgP_other P i i' j hi hi' c hj) h5⟩
      · exact (h3.lows (fun j hj => imgP_other P i i' j hi hi' c hj) h5.B.2 h5.nc.2).congr (fun x c1 c2 => hM x (by omega))
      · exact (h4.lows (fun j hj => imgP_other P i i' (65 + j) hi hi' c (by omega))).congr (fun x c1 c2 => hM x (by omega))
theorem rstP_low (P : Nat → Int) (i j : Nat) (hj : j < 1264) (h92 : j ≠ 92) : rstP P i j = P (1264 * (i + 1) + j) := by
  unfold rstP bkP
  rw [pset_ne h92, if_pos hj]
theorem rstP_hi (P : Nat → Int) (i j : Nat) (hj : 1264 ≤ j) : rstP P i j = P j := by
  unfold rstP bkP
  rw [pset_ne (by omega), if_neg (by omega)]
