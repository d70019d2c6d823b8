/-! ===== what stays good of the row over deeds ===== -/
/-- the kept states are good -/
def okU (P : Nat → Int) : Prop := ∀ i : Nat, (i : Int) < P 92 → okS P (fun j => P (93 + 27 * i + j))
def gdP (P : Nat → Int) : Prop := okP P ∧ (0 ≤ P 92 ∧ P 92 ≤ 10) ∧ okU P
theorem okS_ext {P P' Q Q' : Nat → Int} (h1 : P' 1 = P 1) (h2 : P' 2 = P 2) (h : ∀ j, j < 27 → Q' j = Q j) (o : okS P Q) : okS P' Q' := by
  unfold okS at o ⊢
  rw [h1, h2, h 0 (by omega), h 2 (by omega)]
  exact ⟨o.1, o.2.1, fun f hf => by rw [h (3 + f) (by omega), h (19 + f) (by omega)]; exact o.2.2 f hf⟩
theorem gdP.note {P P' : Nat → Int} (g : gdP P) (ok' : okP P') (st : stO P P') : gdP (noteP (uP P) P') := by
  obtain ⟨ok, h92, u⟩ := g
  have e92 : P' 92 = P 92 := st 92 (by omega)
  have e1 : P' 1 = P 1 := st 1 (by omega)
  have e2 : P' 2 = P 2 := st 2 (by omega)
  have h92' : 0 ≤ P' 92 ∧ P' 92 ≤ 10 := by omega
  have n92 : noteP (uP P) P' 92 = if P 92 = 10 then 10 else P 92 + 1 := by
    unfold noteP
    rw [if_pos rfl, e92]
  have n1 : noteP (uP P) P' 1 = P 1 := by rw [noteP_o h92' (by omega), e1]
  have n2 : noteP (uP P) P' 2 = P 2 := by rw [noteP_o h92' (by omega), e2]
  have us : okS P (uP P) := ok.st
  refine ⟨noteP_ok ok' h92', ?_, fun i hi => ?_⟩
  · rw [n92]; split <;> omega
  · rw [n92] at hi
    by_cases c : P 92 = 10
    · rw [if_pos c] at hi
      have hi : i < 10 := by omega
      by_cases c9 : i = 9
      · refine okS_ext n1 n2 (fun j hj => ?_) us
        show noteP (uP P) P' (93 + 27 * i + j) = _
        unfold noteP
        rw [if_neg (by omega), e92, if_pos c, if_neg (by omega), if_pos (by omega)]
        exact congrArg (uP P) (by omega)
      · refine okS_ext n1 n2 (fun j hj => ?_) (u (i + 1) (by omega))
        show noteP (uP P) P' (93 + 27 * i + j) = P (93 + 27 * (i + 1) + j)
        unfold noteP
        rw [if_neg (by omega), e92, if_pos c, if_pos (by omega), st _ (by omega)]
        exact congrArg P (by omega)
    · rw [if_neg c] at hi
      obtain ⟨k, hk⟩ : ∃ k : Nat, P 92 = (k : Int) := ⟨(P 92).toNat, by omega⟩
      by_cases ci : i = k
      · refine okS_ext n1 n2 (fun j hj => ?_) us
        show noteP (uP P) P' (93 + 27 * i + j) = _
        unfold noteP
        rw [if_neg (by omega), e92, if_neg c, hk, Int.toNat_natCast, if_pos (by omega)]
        exact congrArg (uP P) (by omega)
      · refine okS_ext n1 n2 (fun j hj => ?_) (u i (by omega))
        show noteP (uP P) P' (93 + 27 * i + j) = P (93 + 27 * i + j)
        unfold noteP
        rw [if_neg (by omega), e92, if_neg c, hk, Int.toNat_natCast, if_neg (by omega), st _ (by omega)]
theorem note_hi {P P' : Nat → Int} (g : gdP P) (st : stO P P') {j : Nat} (hj : 1264 ≤ j) : noteP (uP P) P' j = P j := by
  have e92 : P' 92 = P 92 := st 92 (by omega)
  rw [noteP_o (by have := g.2.1; omega) (by omega), st j (by omega)]
theorem gdP.lows {P P' : Nat → Int} (h : ∀ j, j < 1264 → P' j = P j) (g : gdP P) : gdP P' := by
  obtain ⟨ok, h92, u⟩ := g
  refine ⟨ok.lows h, by rw [h 92 (by omega)]; exact h92, fun i hi => ?_⟩
  rw [h 92 (by omega)] at hi
  exact okS_ext (h 1 (by omega)) (h 2 (by omega)) (fun j hj => h _ (by omega)) (u i hi)
theorem gdP.of0 {P : Nat → Int} (ok : okP P) (h : P 92 = 0) : gdP P := ⟨ok, by omega, fun i hi => by omega⟩
/-- a deed's row is good, and leaves the images -/
def gdQ (P P' : Nat → Int) : Prop := gdP P' ∧ ∀ j, 1264 ≤ j → P' j = P j
theorem gdQ.refl {P : Nat → Int} (g : gdP P) : gdQ P P := ⟨g, fun _ _ => rfl⟩
theorem gd_tell {P : Nat → Int} (g : gdP P) (x y : Int) : gdQ P (zTell P x y).2 := by
  unfold zTell
  split
  · rename_i h
    obtain ⟨h1, h2, h3, h4, _⟩ := whyT_0 h
    have hF := g.1.F
    have st := tellP_stO g.1 (f := x.toNat) (b := y.toNat) (by omega)
    exact ⟨g.note (tellP_ok g.1 (by omega) (by omega)) st, fun j hj => note_hi g st hj⟩
  · exact gdQ.refl g
theorem gd_cut {P : Nat → Int} (g : gdP P) (x : Int) : gdQ P (zCut P x).2 := by
  unfold zCut
  split
  · rename_i e
    have hF := g.1.F
    have hc := g.1.cut
    obtain ⟨e1, e2⟩ := xor_b (c := (P 67).toNat) (k := x.toNat) (by omega) (by omega)
    rw [Int.toNat_of_nonneg (by omega), Int.toNat_of_nonneg (by omega)] at e1
    have st : stO P (pset P 67 (m_xor (P 67) (m_shl 1 x))) := fun j hj => pset_ne (by omega)
    exact ⟨g.note (set67 g.1 (by rw [e1]; omega)) st, fun j hj => note_hi g st hj⟩
  · exact gdQ.refl g
theorem gd_mood {P : Nat → Int} (g : gdP P) (x y : Int) : gdQ P (zMood P x y).2 := by
  unfold zMood
  split
  · rename_i e
    have hF := g.1.F
    have st : stO P (pset P (84 + x.toNat) y) := fun j hj => pset_ne (by omega)
    exact ⟨g.note (g.1.mooded (by omega) e.2) st, fun j hj => note_hi g st hj⟩
  · exact gdQ.refl g
theorem gd_go {P : Nat → Int} (g : gdP P) (x : Int) : gdQ P (zGo P x).2 := by
  unfold zGo
  split
  · obtain ⟨o, st, _⟩ := goK_ok g.1 x.toNat
    exact ⟨g.note o st, fun j hj => note_hi g st hj⟩
  · exact gdQ.refl g
theorem gd_undo {P : Nat → Int} (g : gdP P) (x : Int) : gdQ P (zUndo P x).2 := by
  unfold zUndo
  split
  · rename_i e
    obtain ⟨ok, h92, u⟩ := g
    have eo : ∀ j, j < 65 ∨ 93 ≤ j → undoP P x j = P j := fun j hj => by
      unfold undoP
      rw [if_neg (by omega), if_neg (by omega)]
    have e92 : undoP P x 92 = P 92 - x := by unfold undoP; rw [if_pos rfl]
    have us := u (P 92 - x).toNat (by omega)
    refine ⟨⟨ok.of (fun j hj => eo j (by omega)) (okS_ext rfl rfl (fun j hj => ?_) us), by show 0 ≤ undoP P x 92 ∧ undoP P x 92 ≤ 10; rw [e92]; omega, fun i hi => ?_⟩, fun j hj => eo j (by omega)⟩
    · show undoP P x (65 + j) = P (93 + 27 * (P 92 - x).toNat + j)
      unfold undoP
      rw [if_neg (by omega), if_pos (by omega)]
      exact congrArg P (by omega)
    · have hi : (i : Int) < undoP P x 92 := hi
      rw [e92] at hi
      exact okS_ext (eo 1 (by omega)) (eo 2 (by omega)) (fun j hj => eo _ (by omega)) (u i (by omega))
  · exact gdQ.refl g
theorem gd_perform {P : Nat → Int} (g : gdP P) (S Z U : Nat → Int) (t : Int) : gdQ P (zPerform P S Z U t).2 := by
  unfold zPerform
  split
  · obtain ⟨o, st⟩ := dK_ok (num := nmT U t) g.1 _ (dStop_all P (nmT U t) (Z t.toNat).toNat).2.2
    split
    · exact ⟨g.note o st, fun j hj => note_hi g st hj⟩
    · rename_i h
      have h0 : dStop P (nmT U t) (Z t.toNat).toNat = 0 := by omega
      show gdQ P (dK P (nmT U t) (dStop P (nmT U t) (Z t.toNat).toNat))
      rw [h0]
      exact gdQ.refl g
  · exact gdQ.refl g
theorem gd_winter {P : Nat → Int} (g : gdP P) (x t : Int) : gdQ P (zWinter P x t).2 := by
  unfold zWinter
  split
  · obtain ⟨o, st, _⟩ := winK_ok g.1 x t.toNat
    split
    · exact ⟨g.note o st, fun j hj => note_hi g st hj⟩
    · refine ⟨⟨o, ?_, fun i hi => ?_⟩, fun j hj => st j (by omega)⟩
      · show 0 ≤ (winK P x t.toNat).1 92 ∧ (winK P x t.toNat).1 92 ≤ 10
        rw [st 92 (by omega)]; exact g.2.1
      · have hi : (i : Int) < (winK P x t.toNat).1 92 := hi
        rw [st 92 (by omega)] at hi
        exact okS_ext (st 1 (by omega)) (st 2 (by omega)) (fun j hj => st _ (by omega)) (g.2.2 i hi)
  · exact gdQ.refl g
