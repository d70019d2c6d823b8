/-! ===== what both sides stand on: the row of numbers P; who may tell, who hears whom, who likes what ===== -/
def nF (P : Nat → Int) : Nat := (P 1).toNat
def nM (P : Nat → Int) : Nat := (P 2).toNat
def nB (P : Nat → Int) : Nat := (P 3).toNat
def cdP (P : Nat → Int) (l : Nat) : Nat → Int := fun k => P (364 + (P (7 + l)).toNat + k)
def mnP (P : Nat → Int) (l : Nat) : Nat := (P (10 + l)).toNat
def okL (P : Nat → Int) (l : Nat) : Prop := P (4 + l) = 0 ∨ (P (4 + l) = 1 ∧ 0 ≤ P (7 + l) ∧ 0 ≤ P (10 + l) ∧ P (7 + l) + P (10 + l) ≤ P 363 ∧ tyk l (cdP P l) (mnP P l) = some [decide (l ≠ 2)])
def okS (P Q : Nat → Int) : Prop := (0 ≤ Q 0 ∧ Q 0 < P 1) ∧ (0 ≤ Q 2 ∧ Q 2 < 256) ∧ (∀ f, f < 8 → (0 ≤ Q (3 + f) ∧ Q (3 + f) < P 2) ∧ (0 ≤ Q (19 + f) ∧ Q (19 + f) ≤ 9))
def okP (P : Nat → Int) : Prop := (2 ≤ P 1 ∧ P 1 ≤ 8) ∧ (2 ≤ P 2 ∧ P 2 ≤ 8) ∧ (0 ≤ P 3 ∧ P 3 ≤ 12) ∧ (∀ b : Nat, (b : Int) < P 3 → (0 ≤ P (13 + b) ∧ P (13 + b) < P 2) ∧ (0 ≤ P (25 + b) ∧ P (25 + b) < P 2) ∧ (P (37 + b) = 0 ∨ P (37 + b) = 1)) ∧ (∀ f : Nat, f < 8 → (0 ≤ P (49 + f) ∧ P (49 + f) < P 2) ∧ (0 ≤ P (57 + f) ∧ P (57 + f) ≤ 10)) ∧ (0 ≤ P 363 ∧ P 363 ≤ 900 ∧ ∀ l, l < 3 → okL P l) ∧ okS P (fun j => P (65 + j))
theorem okP.F {P : Nat → Int} (h : okP P) : 2 ≤ P 1 ∧ P 1 ≤ 8 := h.1
theorem okP.Mo {P : Nat → Int} (h : okP P) : 2 ≤ P 2 ∧ P 2 ≤ 8 := h.2.1
theorem okP.B {P : Nat → Int} (h : okP P) : 0 ≤ P 3 ∧ P 3 ≤ 12 := h.2.2.1
theorem okP.bit {P : Nat → Int} (h : okP P) {b : Nat} (hb : (b : Int) < P 3) : (0 ≤ P (13 + b) ∧ P (13 + b) < P 2) ∧ (0 ≤ P (25 + b) ∧ P (25 + b) < P 2) ∧ (P (37 + b) = 0 ∨ P (37 + b) = 1) := h.2.2.2.1 b hb
theorem okP.farm {P : Nat → Int} (h : okP P) {f : Nat} (hf : f < 8) : (0 ≤ P (49 + f) ∧ P (49 + f) < P 2) ∧ (0 ≤ P (57 + f) ∧ P (57 + f) ≤ 10) := h.2.2.2.2.1 f hf
theorem okP.nc {P : Nat → Int} (h : okP P) : 0 ≤ P 363 ∧ P 363 ≤ 900 := ⟨h.2.2.2.2.2.1.1, h.2.2.2.2.2.1.2.1⟩
theorem okP.law {P : Nat → Int} (h : okP P) {l : Nat} (hl : l < 3) : okL P l := h.2.2.2.2.2.1.2.2 l hl
theorem okP.st {P : Nat → Int} (h : okP P) : okS P (fun j => P (65 + j)) := h.2.2.2.2.2.2
theorem okP.turn {P : Nat → Int} (h : okP P) : 0 ≤ P 65 ∧ P 65 < P 1 := h.st.1
theorem okP.cut {P : Nat → Int} (h : okP P) : 0 ≤ P 67 ∧ P 67 < 256 := h.st.2.1
theorem okP.at {P : Nat → Int} (h : okP P) {f : Nat} (hf : f < 8) : 0 ≤ P (68 + f) ∧ P (68 + f) < P 2 := by
  have := (h.st.2.2 f hf).1
  dsimp only at this
  rw [show 65 + (3 + f) = 68 + f by omega] at this
  exact this
theorem okP.mood {P : Nat → Int} (h : okP P) {f : Nat} (hf : f < 8) : 0 ≤ P (84 + f) ∧ P (84 + f) ≤ 9 := by
  have := (h.st.2.2 f hf).2
  dsimp only at this
  rw [show 65 + (19 + f) = 84 + f by omega] at this
  exact this
theorem okP.nFe {P : Nat → Int} (h : okP P) : P 1 = (nF P : Int) ∧ 2 ≤ nF P ∧ nF P ≤ 8 := by have := h.F; unfold nF; omega
theorem okP.nMe {P : Nat → Int} (h : okP P) : P 2 = (nM P : Int) ∧ 2 ≤ nM P ∧ nM P ≤ 8 := by have := h.Mo; unfold nM; omega
theorem okP.nBe {P : Nat → Int} (h : okP P) : P 3 = (nB P : Int) ∧ nB P ≤ 12 := by have := h.B; unfold nB; omega
def absN (f g : Nat) : Nat := if f < g then g - f else f - g
def wsT (P : Nat → Int) (f b : Nat) (x : Nat) : Int := if x = 0 then f else if x = 1 then P (84 + f) else if x = 2 then b else if x = 3 then P (13 + b) else P (25 + b)
def wsH (P : Nat → Int) (f g : Nat) (x : Nat) : Int := if x = 0 then f else if x = 1 then P (84 + f) else if x = 5 then g else (absN f g : Int)
def wsL (P : Nat → Int) (f m : Nat) (x : Nat) : Int := if x = 0 then f else if x = 1 then P (84 + f) else m
/-- whether a farm may tell a bit -/
def mayT (P : Nat → Int) (f b : Nat) : Bool := decide (P 4 = 0 ∨ lawV (cdP P 0) (wsT P f b) (mnP P 0) = 1)
/-- wires between two -/
def wrs (f g : Nat) : Nat := msk (fun k => decide ((f ≤ k ∧ k < g) ∨ (g ≤ k ∧ k < f))) 8
/-- whether one hears another one -/
def hrs (P : Nat → Int) (f g : Nat) : Bool := decide (f ≠ g ∧ (P 67).toNat &&& wrs f g = 0 ∧ (P 5 = 0 ∨ lawV (cdP P 1) (wsH P f g) (mnP P 1) = 1))
def lks (P : Nat → Int) (f m : Nat) : Int := if P 6 = 0 then (if P (49 + f) = m then 1 else 0) else lawV (cdP P 2) (wsL P f m) (mnP P 2)
/-- nothing but the reckoning's rows changed -/
def Q67 (M M' : Nat → Nat → Int) : Prop := ∀ a, a ≠ 6 → a ≠ 7 → M' a = M a
def Q43 (M M' : Nat → Nat → Int) : Prop := ∀ a, a ≠ 42 → a ≠ 43 → M' a = M a
theorem Q67.refl (M : Nat → Nat → Int) : Q67 M M := fun _ _ _ => rfl
theorem Q43.refl (M : Nat → Nat → Int) : Q43 M M := fun _ _ _ => rfl
theorem Q67.trans {M M' N : Nat → Nat → Int} (h : Q67 M M') (h2 : Q67 M' N) : Q67 M N := fun a h6 h7 => (h2 a h6 h7).trans (h a h6 h7)
theorem Q43.trans {M M' N : Nat → Nat → Int} (h : Q43 M M') (h2 : Q43 M' N) : Q43 M N := fun a h6 h7 => (h2 a h6 h7).trans (h a h6 h7)
theorem br {p : Bool} {A B : Prop} (h1 : p = false → A) (h2 : p = true → B) : (b2i p = 0 → A) ∧ (¬ (b2i p = 0) → B) := by
  cases p
  · exact ⟨fun _ => h1 rfl, fun h => absurd rfl h⟩
  · exact ⟨fun h => absurd h (by decide), fun _ => h2 rfl⟩
theorem br' {p : Bool} {A B : Prop} (h1 : p = true → A) (h2 : p = false → B) : (b2i p ≠ 0 → A) ∧ (¬ (b2i p ≠ 0) → B) := by
  cases p
  · exact ⟨fun h => absurd rfl h, fun _ => h2 rfl⟩
  · exact ⟨fun _ => h1 rfl, fun h => absurd (by decide) h⟩
theorem or_z (p : Nat → Bool) {n : Nat} (hn : n < 31) (h : p n = false) : m_or (msk p n) 0 = ((msk p (n + 1) : Nat) : Int) := by
  have := msk_or p hn
  rw [h] at this
  exact this
theorem or_s (p : Nat → Bool) {n : Nat} (hn : n < 31) (h : p n = true) : m_or (msk p n) (m_shl 1 n) = ((msk p (n + 1) : Nat) : Int) := by
  have := msk_or p hn
  rw [h] at this
  exact this
theorem msk_no (p : Nat → Bool) {n : Nat} (h : p n = false) : msk p (n + 1) = msk p n := by
  show msk p n + (if p n then 2 ^ n else 0) = msk p n
  rw [h]
  rfl
theorem msk_ext {p q : Nat → Bool} : ∀ n, (∀ k, k < n → p k = q k) → msk p n = msk q n
  | 0, _ => rfl
  | n + 1, h => by
    show msk p n + _ = msk q n + _
    rw [msk_ext n (fun k hk => h k (by omega)), h n (by omega)]
theorem msk_more {p : Nat → Bool} {n : Nat} : ∀ m, n ≤ m → (∀ k, n ≤ k → k < m → p k = false) → msk p m = msk p n
  | 0, h, _ => by cases (show n = 0 by omega); rfl
  | m + 1, h, hp => by
    by_cases e : n = m + 1
    · rw [e]
    · rw [msk_no p (hp m (by omega) (by omega))]
      exact msk_more m (by omega) (fun k h1 h2 => hp k h1 (by omega))
theorem wsT_b {P : Nat → Int} (ok : okP P) {f b : Nat} (hf : f < 8) (hb : (b : Int) < P 3) (x : Nat) : -1000000 ≤ wsT P f b x ∧ wsT P f b x ≤ 1000000 := by
  have h1 := ok.mood hf
  have h2 := ok.bit hb
  have h3 := ok.B
  have h4 := ok.Mo
  unfold wsT
  repeat' split
  all_goals omega
theorem absN_b {f g : Nat} (hf : f < 8) (hg : g < 8) : absN f g < 8 := by unfold absN; split <;> omega
theorem wsH_b {P : Nat → Int} (ok : okP P) {f g : Nat} (hf : f < 8) (hg : g < 8) (x : Nat) : -1000000 ≤ wsH P f g x ∧ wsH P f g x ≤ 1000000 := by
  have h1 := ok.mood hf
  have h2 := absN_b hf hg
  unfold wsH
  repeat' split
  all_goals omega
theorem wsL_b {P : Nat → Int} (ok : okP P) {f m : Nat} (hf : f < 8) (hm : m < 8) (x : Nat) : -1000000 ≤ wsL P f m x ∧ wsL P f m x ≤ 1000000 := by
  have h1 := ok.mood hf
  unfold wsL
  repeat' split
  all_goals omega
theorem okL.all {P : Nat → Int} (ok : okP P) {l : Nat} (hl : l < 3) (h : P (4 + l) ≠ 0) : P (7 + l) = ((P (7 + l)).toNat : Int) ∧ P (10 + l) = (mnP P l : Int) ∧ (P (7 + l)).toNat + mnP P l ≤ 900 ∧ (((P (7 + l)).toNat + mnP P l : Nat) : Int) ≤ P 363 ∧ tyk l (cdP P l) (mnP P l) = some [decide (l ≠ 2)] := by
  rcases ok.law hl with h0 | ⟨h1, h2, h3, h4, h5⟩
  · exact absurd h0 h
  · have := ok.nc
    refine ⟨by omega, ?_, ?_, ?_, h5⟩ <;> unfold mnP <;> omega
theorem law01 {P : Nat → Int} (ok : okP P) {l : Nat} (hl : l < 2) (h : P (4 + l) ≠ 0) {ws : Nat → Int} (hb : ∀ x : Nat, wOk l x = true → -1000000 ≤ ws x ∧ ws x ≤ 1000000) : lawV (cdP P l) ws (mnP P l) = 0 ∨ lawV (cdP P l) ws (mnP P l) = 1 := by
  obtain ⟨_, _, _, _, h5⟩ := okL.all ok (by omega) h
  have hv := tyk_vs hb _ h5
  unfold lawV
  cases hs : stk (cdP P l) ws (mnP P l) with
  | nil => exact Or.inl rfl
  | cons v r =>
    rw [hs] at hv
    have := hv.1
    rw [show decide (l ≠ 2) = true by rw [decide_eq_true_eq]; omega] at this
    exact this
theorem wires_or {a b k : Nat} (h : a ≤ k) (hk : k < b) (hb : b ≤ 8) : m_or (msk (fun j => decide (a ≤ j ∧ j < b)) k : Nat) (m_shl 1 (k : Nat)) = ((msk (fun j => decide (a ≤ j ∧ j < b)) (k + 1) : Nat) : Int) := or_s _ (by omega) (by rw [decide_eq_true_eq]; omega)
theorem wrs_lt (f g : Nat) : wrs f g < 256 := msk_lt _ 8
/-- wires below the greater of two, from the less one on -/
theorem wrs_eq {f g lo hi : Nat} (h : lo ≤ hi) (h2 : hi ≤ 8) (e : (f = lo ∧ g = hi) ∨ (f = hi ∧ g = lo)) : wrs f g = msk (fun j => decide (lo ≤ j ∧ j < hi)) hi := by
  have h1 : wrs f g = msk (fun j => decide (lo ≤ j ∧ j < hi)) 8 := by
    refine msk_ext 8 (fun k _ => ?_)
    rw [decide_eq_decide]
    omega
  rw [h1]
  exact msk_more 8 h2 (fun k hk _ => by rw [decide_eq_false_iff_not]; omega)
theorem and0_lt {c s : Nat} (hc : c < 256) (hs : s < 256) : m_and (c : Int) (s : Int) = ((c &&& s : Nat) : Int) := m_and_n (by omega) (by omega)
section
variable {d : Nat} {n : Nat × Nat} {Φ : Int → (Nat → Nat → Int) → Prop} {M : Nat → Nat → Int} {w : cQ} {P : Nat → Int}
theorem sp_wiresOf (f g : Nat) (hf : f < 8) (hg : g < 8) (q : Φ (wrs f g : Nat) M) : CR (d + 1) 222 [(0, (f : Int)), (0, (g : Int))] M n Φ := by
  have key : ∀ lo hi : Nat, lo ≤ hi → hi ≤ 8 → ((f = lo ∧ g = hi) ∨ (f = hi ∧ g = lo)) → W12_wiresOf_13 d n Φ f g (0 : Nat) lo M := by
    intro lo hi h1 h2 e
    have k2 : ∀ k, k ≤ hi → lo ≤ k → W12_wiresOf_13 d n Φ f g (msk (fun j => decide (lo ≤ j ∧ j < hi)) k : Nat) (k : Nat) M := by
      refine up (fun _ => ?_) (fun k hk ih hlk => ?_)
      · apply v12_wiresOf_13
        rw [← wrs_eq h1 h2 e]
        exact ⟨fun _ => ⟨fun _ => q, fun c => absurd (by omega) c⟩, fun _ => ⟨fun _ => q, fun c => absurd (by omega) c⟩⟩
      · apply v12_wiresOf_13
        rw [wires_or hlk hk h2, w32_s (by omega)]
        exact ⟨fun _ => ⟨fun c => absurd c (by omega), fun _ => ih (by omega)⟩, fun _ => ⟨fun c => absurd c (by omega), fun _ => ih (by omega)⟩⟩
    have e0 : msk (fun j => decide (lo ≤ j ∧ j < hi)) lo = 0 := msk_more (n := 0) lo (Nat.zero_le _) (fun k _ hk => by rw [decide_eq_false_iff_not]; omega)
    have := k2 lo h1 (Nat.le_refl _)
    rw [e0] at this
    exact this
  refine e12_wiresOf ⟨fun h => ?_, fun h => ?_⟩
  · exact key g f (by omega) (by omega) (Or.inr ⟨rfl, rfl⟩)
  · exact key f g (by omega) (by omega) (Or.inl ⟨rfl, rfl⟩)
theorem sp_mayTell (f b : Nat) (hP : M 2 = P) (ok : okP P) (hf : f < 8) (hb : (b : Int) < P 3) (q : ∀ M', Q67 M M' → Φ (b2i (mayT P f b)) M') : CR (d + 3) 221 [(2, 1), (0, (f : Int)), (0, (b : Int))] M n Φ := by
  subst hP
  have hB := ok.B
  have e13 : w32 (13 + (b : Int)) = ((13 + b : Nat) : Int) := by rw [w32_eq]; omega
  have e25 : w32 (25 + (b : Int)) = ((25 + b : Nat) : Int) := by rw [w32_eq]; omega
  apply e12_mayTell
  rw [e13, e25, Int.toNat_natCast, Int.toNat_natCast]
  refine ⟨fun h => ⟨by omega, by omega, ?_⟩, fun h => ?_⟩
  · rw [sI_row (a := 7) (b := 2) (by omega), sI_row (a := 7) (b := 2) (by omega), sI_row (a := 7) (b := 2) (by omega)]
    obtain ⟨h1, h2, h3, h4, h5⟩ := okL.all ok (l := 0) (by omega) h
    refine sp_reckons 0 f (M 2 7).toNat (mnP (M 2) 0) true (wsT (M 2) f b) (by omega) hf ?_ ?_ h3 ?_ rfl ?_ ?_ ?_ ?_
    · rw [sI_row (by omega), sI_row (by omega), sI_row (by omega)]; exact h1
    · rw [sI_row (by omega), sI_row (by omega), sI_row (by omega)]; exact h2
    · rw [sI_row (by omega), sI_row (by omega), sI_row (by omega)]; exact h5
    · rw [sI_row (by omega), sI_row (by omega), sI_row (by omega)]; rfl
    · intro x hx h2x
      have := of_decide_eq_true hx
      have hx3 : x = 2 ∨ x = 3 ∨ x = 4 := by omega
      rcases hx3 with rfl | rfl | rfl
      · rw [sI_ne (by omega), sI_ne (by omega), sI_same]; rfl
      · rw [sI_ne (by omega), sI_same]; rfl
      · rw [sI_same]; rfl
    · exact fun x _ => wsT_b ok hf hb x
    · intro M' hM'
      rw [sI_row (by omega), sI_row (by omega), sI_row (by omega)]
      have hq : Q67 M M' := fun a h6 h7 => by rw [hM' a h6 h7, sI_row h7, sI_row h7, sI_row h7]
      have q' := q M' hq
      refine ⟨fun c => ?_, fun c => ?_⟩
      · have e : mayT (M 2) f b = false := by
          unfold mayT
          rw [decide_eq_false_iff_not]
          rintro (c1 | c1)
          · exact h c1
          · exact c c1
        rw [e] at q'
        exact q'
      · have e : mayT (M 2) f b = true := by
          unfold mayT
          rw [decide_eq_true_eq]
          exact Or.inr (Decidable.not_not.mp c)
        rw [e] at q'
        exact q'
  · have e : mayT (M 2) f b = true := by
      unfold mayT
      rw [decide_eq_true_eq]
      exact Or.inl (Decidable.not_not.mp h)
    have q' := q M (Q67.refl M)
    rw [e] at q'
    exact q'
theorem sp_hears (f g : Nat) (hP : M 2 = P) (ok : okP P) (hf : f < 8) (hg : g < 8) (q : ∀ M', Q67 M M' → Φ (b2i (hrs P f g)) M') : CR (d + 3) 223 [(2, 1), (0, (f : Int)), (0, (g : Int))] M n Φ := by
  subst hP
  have fls : hrs (M 2) f g = false → Φ 0 M := fun e => by
    have q' := q M (Q67.refl M)
    rw [e] at q'
    exact q'
  refine e12_hears ⟨fun h => fls ?_, fun h => sp_wiresOf f g hf hg ⟨fun h2 => ⟨fun h3 => ?_, fun h3 => ?_⟩, fun h2 => fls ?_⟩⟩
  · unfold hrs
    rw [decide_eq_false_iff_not]
    rintro ⟨c, _⟩
    exact c (by omega)
  · have hc := ok.cut
    rw [show M 2 67 = ((M 2 67).toNat : Int) by omega, and0_lt (by omega) (wrs_lt f g)] at h2
    have fin : ∀ D : Int, D = (absN f g : Int) → CR (d + 2) 220 [(2, 1), (0, 1), (0, (f : Int))] (sI (sI M 7 5 (g : Int)) 7 6 D) n (fun r1 M2 => (r1 ≠ 1 → Φ 0 M2) ∧ (¬ (r1 ≠ 1) → Φ 1 M2)) := by
      intro D hD
      obtain ⟨h1, h2b, h3b, h4, h5⟩ := okL.all ok (l := 1) (by omega) h3
      refine sp_reckons 1 f (M 2 8).toNat (mnP (M 2) 1) true (wsH (M 2) f g) (by omega) hf ?_ ?_ h3b ?_ rfl ?_ ?_ ?_ ?_
      · rw [sI_row (by omega), sI_row (by omega)]; exact h1
      · rw [sI_row (by omega), sI_row (by omega)]; exact h2b
      · rw [sI_row (by omega), sI_row (by omega)]; exact h5
      · rw [sI_row (by omega), sI_row (by omega)]; rfl
      · intro x hx h2x
        have := of_decide_eq_true hx
        have hx3 : x = 5 ∨ x = 6 := by omega
        rcases hx3 with rfl | rfl
        · rw [sI_ne (by omega), sI_same]; rfl
        · rw [sI_same, hD]; rfl
      · exact fun x _ => wsH_b ok hf hg x
      · intro M' hM'
        rw [sI_row (by omega), sI_row (by omega)]
        have hq : Q67 M M' := fun a h6 h7 => by rw [hM' a h6 h7, sI_row h7, sI_row h7]
        have q' := q M' hq
        refine ⟨fun c => ?_, fun c => ?_⟩
        · have e : hrs (M 2) f g = false := by
            unfold hrs
            rw [decide_eq_false_iff_not]
            rintro ⟨_, _, c1 | c1⟩
            · exact h3 c1
            · exact c c1
          rw [e] at q'
          exact q'
        · have e : hrs (M 2) f g = true := by
            unfold hrs
            rw [decide_eq_true_eq]
            exact ⟨by omega, by omega, Or.inr (Decidable.not_not.mp c)⟩
          rw [e] at q'
          exact q'
    refine ⟨fun h4 => fin _ ?_, fun h4 => fin _ ?_⟩
    · rw [w32_id (by omega) (by omega)]; unfold absN; rw [if_neg (by omega)]; omega
    · rw [w32_id (by omega) (by omega)]; unfold absN; rw [if_pos (by omega)]; omega
  · have hc := ok.cut
    rw [show M 2 67 = ((M 2 67).toNat : Int) by omega, and0_lt (by omega) (wrs_lt f g)] at h2
    have e : hrs (M 2) f g = true := by
      unfold hrs
      rw [decide_eq_true_eq]
      exact ⟨by omega, by omega, Or.inl (Decidable.not_not.mp h3)⟩
    have q' := q M (Q67.refl M)
    rw [e] at q'
    exact q'
  · have hc := ok.cut
    rw [show M 2 67 = ((M 2 67).toNat : Int) by omega, and0_lt (by omega) (wrs_lt f g)] at h2
    unfold hrs
    rw [decide_eq_false_iff_not]
    rintro ⟨_, c, _⟩
    exact h2 (by omega)
theorem sp_likesOf (f m : Nat) (hP : M 2 = P) (ok : okP P) (hf : f < 8) (hm : m < 8) (q : ∀ M', Q67 M M' → Φ (lks P f m) M') : CR (d + 3) 224 [(2, 1), (0, (f : Int)), (0, (m : Int))] M n Φ := by
  subst hP
  have e49 : w32 (49 + (f : Int)) = ((49 + f : Nat) : Int) := by rw [w32_eq]; omega
  refine e12_likesOf ⟨fun h => ?_, fun h => ?_⟩
  · obtain ⟨h1, h2, h3, h4, h5⟩ := okL.all ok (l := 2) (by omega) h
    refine sp_reckons 2 f (M 2 9).toNat (mnP (M 2) 2) false (wsL (M 2) f m) (by omega) hf ?_ ?_ h3 ?_ rfl ?_ ?_ ?_ ?_
    · rw [sI_row (by omega)]; exact h1
    · rw [sI_row (by omega)]; exact h2
    · rw [sI_row (by omega)]; exact h5
    · rw [sI_row (by omega)]; rfl
    · intro x hx h2x
      have := of_decide_eq_true hx
      have hx3 : x = 7 := by omega
      subst hx3
      rw [sI_same]; rfl
    · exact fun x _ => wsL_b ok hf hm x
    · intro M' hM'
      rw [sI_row (by omega)]
      have hq : Q67 M M' := fun a h6 h7 => by rw [hM' a h6 h7, sI_row h7]
      have q' := q M' hq
      unfold lks at q'
      rw [if_neg h] at q'
      exact q'
  · rw [e49, Int.toNat_natCast]
    have q' := q M (Q67.refl M)
    unfold lks at q'
    rw [if_pos (Decidable.not_not.mp h)] at q'
    refine ⟨by omega, fun c => ?_, fun c => ?_⟩
    · rw [if_neg c] at q'; exact q'
    · rw [if_pos (Decidable.not_not.mp c)] at q'; exact q'
end
