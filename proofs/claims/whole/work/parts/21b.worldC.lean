/-! ===== the class beside the row P; who may tell, hears, likes: class ===== -/
/-- the bits that must be told -/
def mustN (P : Nat → Int) : Nat := msk (fun b => decide (P (37 + b) = 1)) (nB P)
/-- a Line at the cell a -/
def relL (M : Nat → Nat → Int) (a : Nat) (P : Nat → Int) : Prop := (M a 0 = P 1 ∧ M a 1 = P 2 ∧ M a 2 = P 3 ∧ M a 3 = (mustN P : Nat) ∧ M a 6 = P 0 ∧ M a 13 = P 363) ∧ (∀ b : Nat, (b : Int) < P 3 → M (a + 1) b = P (13 + b) ∧ M (a + 2) b = P (25 + b)) ∧ (∀ f, f < 8 → M (a + 3) f = P (49 + f) ∧ M (a + 5) f = P (57 + f)) ∧ (∀ l, l < 3 → (P (4 + l) = 0 → M (a + 8) l = 0) ∧ (P (4 + l) ≠ 0 → M (a + 7) l = P (7 + l) ∧ M (a + 8) l = P (10 + l))) ∧ (∀ k : Nat, (k : Int) < P 363 → M (a + 6) k = cvC (P (364 + k)))
/-- a State at the cell a: Q turn, told, cut, moments, doubts, moods -/
def relS (M : Nat → Nat → Int) (a : Nat) (Q : Nat → Int) : Prop := (M a 4 = Q 0 ∧ M a 5 = Q 1 ∧ M a 3 = Q 2) ∧ (∀ f, f < 8 → M (a + 1) f = Q (3 + f) ∧ M (a + 2) f = Q (11 + f) ∧ M (a + 3) f = Q (19 + f))
/-- the world's plan and state -/
def relW (M : Nat → Nat → Int) (P : Nat → Int) : Prop := relL M 29 P ∧ relS M 38 (fun j => P (65 + j))
theorem relL.congr {M M' : Nat → Nat → Int} {a : Nat} {P : Nat → Int} (h : ∀ b, a ≤ b → b ≤ a + 8 → M' b = M b) (r : relL M a P) : relL M' a P := by
  unfold relL
  rw [h a (by omega) (by omega), h (a + 1) (by omega) (by omega), h (a + 2) (by omega) (by omega), h (a + 3) (by omega) (by omega), h (a + 5) (by omega) (by omega), h (a + 6) (by omega) (by omega), h (a + 7) (by omega) (by omega), h (a + 8) (by omega) (by omega)]
  exact r
theorem relS.congr {M M' : Nat → Nat → Int} {a : Nat} {Q : Nat → Int} (h : ∀ b, a ≤ b → b ≤ a + 3 → M' b = M b) (r : relS M a Q) : relS M' a Q := by
  unfold relS
  rw [h a (by omega) (by omega), h (a + 1) (by omega) (by omega), h (a + 2) (by omega) (by omega), h (a + 3) (by omega) (by omega)]
  exact r
theorem relW.congr {M M' : Nat → Nat → Int} {P : Nat → Int} (h : ∀ b, 29 ≤ b → b ≤ 41 → M' b = M b) (r : relW M P) : relW M' P :=
  ⟨r.1.congr (fun b h1 h2 => h b (by omega) (by omega)), r.2.congr (fun b h1 h2 => h b (by omega) (by omega))⟩
theorem relW.q {M M' : Nat → Nat → Int} {P : Nat → Int} (h : Q43 M M') (r : relW M P) : relW M' P := r.congr (fun b _ h2 => h b (by omega) (by omega))
theorem relW.F {M : Nat → Nat → Int} {P : Nat → Int} (r : relW M P) : M 29 0 = P 1 := r.1.1.1
theorem relW.Mo {M : Nat → Nat → Int} {P : Nat → Int} (r : relW M P) : M 29 1 = P 2 := r.1.1.2.1
theorem relW.B {M : Nat → Nat → Int} {P : Nat → Int} (r : relW M P) : M 29 2 = P 3 := r.1.1.2.2.1
theorem relW.must {M : Nat → Nat → Int} {P : Nat → Int} (r : relW M P) : M 29 3 = (mustN P : Nat) := r.1.1.2.2.2.1
theorem relW.lines {M : Nat → Nat → Int} {P : Nat → Int} (r : relW M P) : M 29 6 = P 0 := r.1.1.2.2.2.2.1
theorem relW.from {M : Nat → Nat → Int} {P : Nat → Int} (r : relW M P) {b : Nat} (hb : (b : Int) < P 3) : M 30 b = P (13 + b) := (r.1.2.1 b hb).1
theorem relW.to {M : Nat → Nat → Int} {P : Nat → Int} (r : relW M P) {b : Nat} (hb : (b : Int) < P 3) : M 31 b = P (25 + b) := (r.1.2.1 b hb).2
theorem relW.wish {M : Nat → Nat → Int} {P : Nat → Int} (r : relW M P) {f : Nat} (hf : f < 8) : M 32 f = P (49 + f) := (r.1.2.2.1 f hf).1
theorem relW.snow {M : Nat → Nat → Int} {P : Nat → Int} (r : relW M P) {f : Nat} (hf : f < 8) : M 34 f = P (57 + f) := (r.1.2.2.1 f hf).2
theorem relW.turn {M : Nat → Nat → Int} {P : Nat → Int} (r : relW M P) : M 38 4 = P 65 := r.2.1.1
theorem relW.told {M : Nat → Nat → Int} {P : Nat → Int} (r : relW M P) : M 38 5 = P 66 := r.2.1.2.1
theorem relW.cut {M : Nat → Nat → Int} {P : Nat → Int} (r : relW M P) : M 38 3 = P 67 := r.2.1.2.2
theorem relW.at {M : Nat → Nat → Int} {P : Nat → Int} (r : relW M P) {f : Nat} (hf : f < 8) : M 39 f = P (68 + f) := by
  have := (r.2.2 f hf).1
  dsimp only at this
  rw [show 65 + (3 + f) = 68 + f by omega] at this
  exact this
theorem relW.doubt {M : Nat → Nat → Int} {P : Nat → Int} (r : relW M P) {f : Nat} (hf : f < 8) : M 40 f = P (76 + f) := by
  have := (r.2.2 f hf).2.1
  dsimp only at this
  rw [show 65 + (11 + f) = 76 + f by omega] at this
  exact this
theorem relW.mood {M : Nat → Nat → Int} {P : Nat → Int} (r : relW M P) {f : Nat} (hf : f < 8) : M 41 f = P (84 + f) := by
  have := (r.2.2 f hf).2.2
  dsimp only at this
  rw [show 65 + (19 + f) = 84 + f by omega] at this
  exact this
theorem wrs_val : ∀ f, f < 8 → ∀ g, g < 8 → (f ≤ g → wrs f g = 2 ^ g - 2 ^ f ∧ 2 ^ f ≤ 2 ^ g) ∧ (g ≤ f → wrs f g = 2 ^ f - 2 ^ g ∧ 2 ^ g ≤ 2 ^ f) := by decide +kernel
theorem p2_8 : ∀ k, k < 8 → 2 ^ k ≤ 128 := by decide
section
variable {d : Nat} {n : Nat × Nat} {Φ : Int → (Nat → Nat → Int) → Prop} {M : Nat → Nat → Int} {w : cQ} {P : Nat → Int}
theorem sp_wiresBetween (f g : Nat) (hf : f < 8) (hg : g < 8) (q : Φ (wrs f g : Nat) M) : CF (d + 1) 181 [(0, (f : Int)), (0, (g : Int))] w M n Φ := by
  apply e11_wiresBetween
  obtain ⟨h1, h2⟩ := wrs_val f hf g hg
  have b1 := p2_8 f hf
  have b2 := p2_8 g hg
  have e : w32 ((m_shl 1 (if (f : Int) < (g : Int) then (g : Int) else (f : Int))) - (m_shl 1 (if (g : Int) < (f : Int) then (g : Int) else (f : Int)))) = ((wrs f g : Nat) : Int) := by
    have k : ∀ x y : Nat, x ≤ 128 → y ≤ 128 → x ≤ y → w32 ((y : Int) - (x : Int)) = ((y - x : Nat) : Int) := fun x y _ _ _ => by rw [w32_id] <;> omega
    by_cases c : f < g
    · obtain ⟨h3, h4⟩ := h1 (by omega)
      rw [if_pos (by omega), if_neg (by omega), m_one (by omega), m_one (by omega), h3]
      exact k _ _ b1 b2 h4
    · obtain ⟨h3, h4⟩ := h2 (by omega)
      rw [if_neg (by omega)]
      by_cases c2 : g < f
      · rw [if_pos (by omega), m_one (by omega), m_one (by omega), h3]
        exact k _ _ b2 b1 h4
      · have : f = g := by omega
        subst this
        rw [if_neg (by omega), m_one (by omega), h3]
        exact k _ _ b2 b1 h4
  rw [e]
  exact q
theorem relW.law {M : Nat → Nat → Int} {P : Nat → Int} (r : relW M P) {l : Nat} (hl : l < 3) : M 37 l ≠ 0 → okP P → P (4 + l) ≠ 0 := by
  intro h ok h0
  exact h ((r.1.2.2.2.1 l hl).1 h0)
theorem relW.nolaw {M : Nat → Nat → Int} {P : Nat → Int} (r : relW M P) {l : Nat} (hl : l < 3) (ok : okP P) (h : ¬ (M 37 l ≠ 0)) : P (4 + l) = 0 := by
  have h := Decidable.not_not.mp h
  by_cases c : P (4 + l) = 0
  · exact c
  · have h2 := ((r.1.2.2.2.1 l hl).2 c).2
    obtain ⟨_, h3, _, _, h5⟩ := okL.all ok hl c
    have h4 : M 37 l = P (10 + l) := h2
    rw [h4, h3] at h
    rw [show mnP P l = 0 by omega] at h5
    cases h5
/-- lawValue over the plan -/
theorem sp_law (l : Nat) (ws : Nat → Int) (r : relW M P) (ok : okP P) (hl : l < 3) (h : P (4 + l) ≠ 0) (hws : ∀ x : Nat, wOk l x = true → M 42 (nmW x).toNat = ws x) (hb : ∀ x : Nat, wOk l x = true → -1000000 ≤ ws x ∧ ws x ≤ 1000000) (q : ∀ M' : Nat → Nat → Int, (∀ a, a ≠ 43 → M' a = M a) → Φ (lawV (cdP P l) ws (mnP P l)) M') : CF (d + 2) 103 [(2, 4), (0, (l : Int))] w M n Φ := by
  obtain ⟨h1, h2, h3, h4, h5⟩ := okL.all ok hl h
  obtain ⟨r1, r2⟩ := (r.1.2.2.2.1 l hl).2 h
  refine sp_lawValue l (P (7 + l)).toNat (mnP P l) _ (cdP P l) ws hl (r1.trans h1) (r2.trans h2) h3 h5 ?_ hws hb q
  intro k hk
  have := r.1.2.2.2.2 ((P (7 + l)).toNat + k) (by omega)
  rw [show 364 + ((P (7 + l)).toNat + k) = 364 + (P (7 + l)).toNat + k by omega] at this
  exact this
theorem sp_allows (f b : Nat) (r : relW M P) (ok : okP P) (hf : f < 8) (hb : (b : Int) < P 3) (q : ∀ M', Q43 M M' → Φ (b2i (mayT P f b)) M') : CF (d + 3) 95 [(2, 4), (0, (f : Int)), (0, (b : Int))] w M n Φ := by
  have hB := ok.B
  refine e10_allows ⟨fun h => ⟨by omega, by omega, by omega, ?_⟩, fun h => ?_⟩
  · have h0 := r.law (l := 0) (by omega) h ok
    rw [Int.toNat_natCast, Int.toNat_natCast, sI_row (a := 42) (b := 41) (by omega), sI_row (a := 42) (b := 30) (by omega), sI_row (a := 42) (b := 30) (by omega), sI_row (a := 42) (b := 30) (by omega), sI_row (a := 42) (b := 31) (by omega), sI_row (a := 42) (b := 31) (by omega), sI_row (a := 42) (b := 31) (by omega), sI_row (a := 42) (b := 31) (by omega), r.mood hf, r.from hb, r.to hb]
    refine sp_law (P := P) 0 (wsT P f b) ?_ ok (by omega) h0 ?_ (fun x _ => wsT_b ok hf hb x) ?_
    · refine r.congr (fun b _ h2 => ?_)
      rw [sI_row (by omega), sI_row (by omega), sI_row (by omega), sI_row (by omega), sI_row (by omega)]
    · intro x hx
      have := of_decide_eq_true hx
      have hx3 : x = 0 ∨ x = 1 ∨ x = 2 ∨ x = 3 ∨ x = 4 := by omega
      rcases hx3 with rfl | rfl | rfl | rfl | rfl
      · show sI _ 42 4 _ 42 0 = _
        rw [sI_ne (by omega), sI_ne (by omega), sI_ne (by omega), sI_ne (by omega), sI_same]; rfl
      · show sI _ 42 4 _ 42 1 = _
        rw [sI_ne (by omega), sI_ne (by omega), sI_ne (by omega), sI_same]; rfl
      · show sI _ 42 4 _ 42 2 = _
        rw [sI_ne (by omega), sI_ne (by omega), sI_same]; rfl
      · show sI _ 42 4 _ 42 3 = _
        rw [sI_ne (by omega), sI_same]; rfl
      · show sI _ 42 4 _ 42 4 = _
        rw [sI_same]; rfl
    · intro M' hM'
      have hq : Q43 M M' := fun a h2 h3 => by rw [hM' a h3, sI_row h2, sI_row h2, sI_row h2, sI_row h2, sI_row h2]
      have q' := q M' hq
      have h01 := law01 ok (l := 0) (by omega) h0 (ws := wsT P f b) (fun x _ => wsT_b ok hf hb x)
      refine ⟨fun c => ?_, fun c => ?_⟩
      · have e : mayT P f b = false := by
          unfold mayT
          rw [decide_eq_false_iff_not]
          rintro (c1 | c1)
          · exact h0 c1
          · omega
        rw [e] at q'
        exact q'
      · have e : mayT P f b = true := by
          unfold mayT
          rw [decide_eq_true_eq]
          exact Or.inr (h01.resolve_left c)
        rw [e] at q'
        exact q'
  · have e : mayT P f b = true := by
      unfold mayT
      rw [decide_eq_true_eq]
      exact Or.inl (r.nolaw (l := 0) (by omega) ok h)
    have q' := q M (Q43.refl M)
    rw [e] at q'
    exact q'
theorem sp_hearsFrom (f g : Nat) (r : relW M P) (ok : okP P) (hf : f < 8) (hg : g < 8) (q : ∀ M', Q43 M M' → Φ (b2i (hrs P f g)) M') : CF (d + 3) 99 [(2, 4), (0, (f : Int)), (0, (g : Int))] w M n Φ := by
  have fls : hrs P f g = false → Φ 0 M := fun e => by
    have q' := q M (Q43.refl M)
    rw [e] at q'
    exact q'
  have hc := ok.cut
  refine e10_hearsFrom ⟨fun h => fls ?_, fun h => sp_wiresBetween f g hf hg ⟨fun h2 => ⟨fun h3 => ⟨by omega, ?_⟩, fun h3 => ?_⟩, fun h2 => fls ?_⟩⟩
  · unfold hrs
    rw [decide_eq_false_iff_not]
    rintro ⟨c, _⟩
    exact c (by omega)
  · rw [r.cut, show P 67 = ((P 67).toNat : Int) by omega, and0_lt (by omega) (wrs_lt f g)] at h2
    have h0 := r.law (l := 1) (by omega) h3 ok
    have ed : (if 0 ≤ w32 ((f : Int) - (g : Int)) then w32 ((f : Int) - (g : Int)) else w32 (0 - w32 ((f : Int) - (g : Int)))) = (absN f g : Int) := by
      rw [w32_id (x := (f : Int) - (g : Int)) (by omega) (by omega)]
      unfold absN
      split <;> split <;> first | omega | (rw [w32_id] <;> omega)
    rw [Int.toNat_natCast, sI_row (a := 42) (b := 41) (by omega), r.mood hf, ed]
    refine sp_law (P := P) 1 (wsH P f g) ?_ ok (by omega) h0 ?_ (fun x _ => wsH_b ok hf hg x) ?_
    · refine r.congr (fun b _ h2 => ?_)
      rw [sI_row (by omega), sI_row (by omega), sI_row (by omega), sI_row (by omega)]
    · intro x hx
      have := of_decide_eq_true hx
      have hx3 : x = 0 ∨ x = 1 ∨ x = 5 ∨ x = 6 := by omega
      rcases hx3 with rfl | rfl | rfl | rfl
      · show sI _ 42 3 _ 42 0 = _
        rw [sI_ne (by omega), sI_ne (by omega), sI_ne (by omega), sI_same]; rfl
      · show sI _ 42 3 _ 42 1 = _
        rw [sI_ne (by omega), sI_ne (by omega), sI_same]; rfl
      · show sI _ 42 3 _ 42 2 = _
        rw [sI_ne (by omega), sI_same]; rfl
      · show sI _ 42 3 _ 42 3 = _
        rw [sI_same]; rfl
    · intro M' hM'
      have hq : Q43 M M' := fun a h2 h3 => by rw [hM' a h3, sI_row h2, sI_row h2, sI_row h2, sI_row h2]
      have q' := q M' hq
      have h01 := law01 ok (l := 1) (by omega) h0 (ws := wsH P f g) (fun x _ => wsH_b ok hf hg x)
      refine ⟨fun c => ?_, fun c => ?_⟩
      · have e : hrs P f g = false := by
          unfold hrs
          rw [decide_eq_false_iff_not]
          rintro ⟨_, _, c1 | c1⟩
          · exact h0 c1
          · omega
        rw [e] at q'
        exact q'
      · have e : hrs P f g = true := by
          unfold hrs
          rw [decide_eq_true_eq]
          exact ⟨by omega, by omega, Or.inr (h01.resolve_left c)⟩
        rw [e] at q'
        exact q'
  · rw [r.cut, show P 67 = ((P 67).toNat : Int) by omega, and0_lt (by omega) (wrs_lt f g)] at h2
    have e : hrs P f g = true := by
      unfold hrs
      rw [decide_eq_true_eq]
      exact ⟨by omega, by omega, Or.inl (r.nolaw (l := 1) (by omega) ok h3)⟩
    have q' := q M (Q43.refl M)
    rw [e] at q'
    exact q'
  · rw [r.cut, show P 67 = ((P 67).toNat : Int) by omega, and0_lt (by omega) (wrs_lt f g)] at h2
    unfold hrs
    rw [decide_eq_false_iff_not]
    rintro ⟨_, c, _⟩
    exact h2 (by omega)
theorem sp_liking (f m : Nat) (r : relW M P) (ok : okP P) (hf : f < 8) (hm : m < 8) (q : ∀ M', Q43 M M' → Φ (lks P f m) M') : CF (d + 3) 102 [(2, 4), (0, (f : Int)), (0, (m : Int))] w M n Φ := by
  refine e10_liking ⟨fun h => ⟨by omega, ?_⟩, fun h => ⟨by omega, ?_⟩⟩
  · have h0 := r.law (l := 2) (by omega) h ok
    rw [Int.toNat_natCast, sI_row (a := 42) (b := 41) (by omega), r.mood hf]
    refine sp_law (P := P) 2 (wsL P f m) ?_ ok (by omega) h0 ?_ (fun x _ => wsL_b ok hf hm x) ?_
    · refine r.congr (fun b _ h2 => ?_)
      rw [sI_row (by omega), sI_row (by omega), sI_row (by omega)]
    · intro x hx
      have := of_decide_eq_true hx
      have hx3 : x = 0 ∨ x = 1 ∨ x = 7 := by omega
      rcases hx3 with rfl | rfl | rfl
      · show sI _ 42 2 _ 42 0 = _
        rw [sI_ne (by omega), sI_ne (by omega), sI_same]; rfl
      · show sI _ 42 2 _ 42 1 = _
        rw [sI_ne (by omega), sI_same]; rfl
      · show sI _ 42 2 _ 42 2 = _
        rw [sI_same]; rfl
    · intro M' hM'
      have hq : Q43 M M' := fun a h2 h3 => by rw [hM' a h3, sI_row h2, sI_row h2, sI_row h2]
      have q' := q M' hq
      unfold lks at q'
      rw [if_neg h0] at q'
      exact q'
  · rw [Int.toNat_natCast, r.wish hf]
    have q' := q M (Q43.refl M)
    unfold lks at q'
    rw [if_pos (r.nolaw (l := 2) (by omega) ok h)] at q'
    refine ⟨fun c => ?_, fun c => ?_⟩
    · rw [if_neg c] at q'; exact q'
    · rw [if_pos (Decidable.not_not.mp c)] at q'; exact q'
end
