/-! ===== two come at one: the graph, and the reference ===== -/
def oI : Option Nat → Int
  | none => -1
  | some s => (s : Int)
def jnO (P : Nat → Int) (f g s who b : Nat) : Option Nat := if P (13 + b) = ((if who = f then s / 8 else s % 8 : Nat) : Int) ∧ mayT P who b = true then some (8 * (if who = f ∨ hrs P f g = true then (P (25 + b)).toNat else s / 8) + (if who = g ∨ hrs P g f = true then (P (25 + b)).toNat else s % 8)) else none
def whJ (P : Nat → Int) (f g k : Nat) : Nat := if k < nB P then min f g else max f g
def btJ (P : Nat → Int) (k : Nat) : Nat := if k < nB P then k else k - nB P
def ddJ (P : Nat → Int) (f g k : Nat) : Nat := 100 * whJ P f g k + btJ P k
def nxJ (P : Nat → Int) (f g : Nat) : gN := fun s k => jnO P f g s (whJ P f g k) (btJ P k)
def glJ : Nat → Prop := fun s => s / 8 = s % 8
def vdJ : Nat → Prop := fun s => s < 64
noncomputable def jnD (P : Nat → Int) (f g : Nat) : Int := dG (nxJ P f g) (2 * nB P) glJ (8 * (P (68 + f)).toNat + (P (68 + g)).toNat)
noncomputable def jnL (P : Nat → Int) (f g i : Nat) : Nat := ddJ P f g (lG (nxJ P f g) (2 * nB P) glJ (sG (nxJ P f g) (2 * nB P) glJ (8 * (P (68 + f)).toNat + (P (68 + g)).toNat) i))
theorem btJ_lt {P : Nat → Int} {k : Nat} (hk : k < 2 * nB P) : btJ P k < nB P := by unfold btJ; split <;> omega
theorem whJ_or {P : Nat → Int} {f g k : Nat} (h : f ≠ g) : (whJ P f g k = f ∧ whJ P f g k ≠ g) ∨ (whJ P f g k = g ∧ whJ P f g k ≠ f) := by
  unfold whJ
  split <;> omega
theorem jnO_lt {P : Nat → Int} (ok : okP P) {f g s who b u : Nat} (hb : b < nB P) (hs : s < 64) (h : jnO P f g s who b = some u) : u < 64 := by
  have hB := ok.nBe
  have hM := ok.nMe
  have hbt := ok.bit (b := b) (by omega)
  unfold jnO at h
  by_cases c : P (13 + b) = ((if who = f then s / 8 else s % 8 : Nat) : Int) ∧ mayT P who b = true
  · rw [if_pos c] at h
    have h := Option.some.inj h
    have e1 : (if who = f ∨ hrs P f g = true then (P (25 + b)).toNat else s / 8) < 8 := by split <;> omega
    have e2 : (if who = g ∨ hrs P g f = true then (P (25 + b)).toNat else s % 8) < 8 := by split <;> omega
    omega
  · rw [if_neg c] at h; cases h
theorem nxJ_lt {P : Nat → Int} (ok : okP P) {f g : Nat} (s k u : Nat) (hs : vdJ s) (hk : k < 2 * nB P) (h : nxJ P f g s k = some u) : vdJ u := jnO_lt ok (btJ_lt hk) hs h
theorem rkJ_i {nx : gN} {K : Nat} (n s t : Nat) (_ : vdJ s) (_ : rG nx K s n t) (e : s = t) : s = t := e
def stlJ (P : Nat → Int) (f g : Nat) (V : Nat → Int) : Prop := ∀ s, s < 64 → (∃ k : Nat, k < 64 ∧ V s = (k : Int) ∧ dG (nxJ P f g) (2 * nB P) glJ s = (k : Int)) ∨ (V s = 268435456 ∧ dG (nxJ P f g) (2 * nB P) glJ s = -1)
theorem stlJ_of {P : Nat → Int} (ok : okP P) {f g : Nat} {V : Nat → Int} (hr : rlx (nxJ P f g) (2 * nB P) glJ vdJ V) (he : ∀ s k u, s < 64 → k < 2 * nB P → nxJ P f g s k = some u → V s ≤ V u + 1) : stlJ P f g V := by
  intro s hs
  have hv := val_ok (nx := nxJ P f g) (K := 2 * nB P) (G := glJ) (Vd := vdJ) (V := V) (rk := fun s => s) (B := 64) (by omega) (fun s k s' h1 h2 h3 => nxJ_lt ok s k s' h1 h2 h3) hr.1 hr.2.1 hr.2.2 he (fun s h1 => h1) (fun n s t h1 h2 h3 => h3) s hs
  have h0 := hr.1 s hs
  by_cases c : V s < 268435456
  · obtain ⟨a, b⟩ := hv.1 c
    exact Or.inl ⟨(V s).toNat, by omega, by omega, dG_eq a⟩
  · exact Or.inr ⟨by omega, dG_no (hv.2 c)⟩
def QJ (M M' : Nat → Nat → Int) : Prop := ∀ a, a ≠ 6 → a ≠ 7 → a ≠ 16 → a ≠ 17 → M' a = M a
theorem QJ.trans {M M' N : Nat → Nat → Int} (h : QJ M M') (h2 : QJ M' N) : QJ M N := fun a a1 a2 a3 a4 => (h2 a a1 a2 a3 a4).trans (h a a1 a2 a3 a4)
theorem QJ.of67 {M M' : Nat → Nat → Int} (h : Q67 M M') : QJ M M' := fun a a1 a2 _ _ => h a a1 a2
theorem QJ.p16 {M : Nat → Nat → Int} {k : Nat} {x : Int} : QJ M (sI M 16 k x) := fun a _ _ a3 _ => sI_row a3
theorem QJ.p17 {M : Nat → Nat → Int} {k : Nat} {x : Int} : QJ M (sI M 17 k x) := fun a _ _ _ a4 => sI_row a4
theorem KR.ofJ {M M' : Nat → Nat → Int} (h : QJ M M') : KR M M' := ⟨fun a ha => h a (by omega) (by omega) (by omega) (by omega), fun k hk => by rw [h 1 (by omega) (by omega) (by omega) (by omega)]⟩
section
variable {d : Nat} {n : Nat × Nat} {Φ : Int → (Nat → Nat → Int) → Prop} {M : Nat → Nat → Int} {P : Nat → Int}
theorem w100 {c t x : Nat} (h : c * t + x < 2147483648) : w32 (w32 ((c : Int) * (t : Int)) + (x : Int)) = ((c * t + x : Nat) : Int) := by
  have e : (c : Int) * (t : Int) = ((c * t : Nat) : Int) := rfl
  rw [e, w32_id (x := ((c * t : Nat) : Int)) (by omega) (by omega), w32_id (by omega) (by omega)]
  rfl
theorem sp_deedOf (f g k : Nat) (hP : M 2 = P) (ok : okP P) (hf : f < 8) (hg : g < 8) (hk : k < 24) (q : Φ (ddJ P f g k : Nat) M) : CR (d + 1) 288 [(2, 1), (0, (f : Int)), (0, (g : Int)), (0, (k : Int))] M n Φ := by
  obtain ⟨eB, hB⟩ := ok.nBe
  apply e12_deedOf
  rw [hP, eB]
  have e1 : w32 (w32 (100 * (f : Int)) + (k : Int)) = ((100 * f + k : Nat) : Int) := w100 (c := 100) (by omega)
  have e2 : w32 (w32 (100 * (g : Int)) + (k : Int)) = ((100 * g + k : Nat) : Int) := w100 (c := 100) (by omega)
  rw [e1, e2]
  unfold ddJ whJ btJ at q
  have sb : ∀ x : Nat, x < 8 → nB P ≤ k → w32 (((100 * x + k : Nat) : Int) - (nB P : Int)) = ((100 * x + (k - nB P) : Nat) : Int) := by
    intro x hx h
    rw [w32_id (by omega) (by omega)]
    omega
  refine ⟨fun c => ⟨fun _ => ⟨fun c3 => ?_, fun c3 => ?_⟩, fun c2 => absurd c c2⟩, fun c => ⟨fun c2 => absurd c2 c, fun _ => ⟨fun c3 => ?_, fun c3 => ?_⟩⟩⟩
  · rw [if_neg (by omega), if_neg (by omega), show max f g = f by omega] at q
    rw [sb f hf (by omega)]; exact q
  · rw [if_pos (by omega), if_pos (by omega), show min f g = g by omega] at q
    exact q
  · rw [if_neg (by omega), if_neg (by omega), show max f g = g by omega] at q
    rw [sb g hg (by omega)]; exact q
  · rw [if_pos (by omega), if_pos (by omega), show min f g = f by omega] at q
    exact q
theorem sp_joinT (f g s who b : Nat) (hP : M 2 = P) (ok : okP P) (hf : f < 8) (hg : g < 8) (hs : s < 64) (hb : b < nB P) (hw : (who = f ∧ who ≠ g) ∨ (who = g ∧ who ≠ f)) (q : ∀ M', Q67 M M' → Φ (oI (jnO P f g s who b)) M') : CR (d + 4) 287 [(2, 1), (0, (f : Int)), (0, (g : Int)), (0, (s : Int)), (0, ((100 * who + b : Nat) : Int))] M n Φ := by
  obtain ⟨eB, hB⟩ := ok.nBe
  obtain ⟨eM, hM1, hM2⟩ := ok.nMe
  have hbt := ok.bit (b := b) (by omega)
  have d1 : m_div ((100 * who + b : Nat) : Int) 100 = (who : Int) := by
    have := m_div_n (a := 100 * who + b) (b := 100) (by omega) (by omega) (by omega)
    rw [show (100 * who + b) / 100 = who by omega] at this
    exact this
  have d2 : m_rem ((100 * who + b : Nat) : Int) 100 = (b : Int) := by
    have := m_rem_n (a := 100 * who + b) (b := 100) (by omega) (by omega) (by omega)
    rw [show (100 * who + b) % 100 = b by omega] at this
    exact this
  have d3 : m_div (s : Int) 8 = ((s / 8 : Nat) : Int) := m_div_n (a := s) (b := 8) (by omega) (by omega) (by omega)
  have d4 : m_rem (s : Int) 8 = ((s % 8 : Nat) : Int) := m_rem_n (a := s) (b := 8) (by omega) (by omega) (by omega)
  obtain ⟨t, ht, ht8⟩ : ∃ t : Nat, P (25 + b) = (t : Int) ∧ t < 8 := ⟨(P (25 + b)).toNat, by omega, by omega⟩
  have wtt : w32 (w32 (8 * (t : Int)) + (t : Int)) = ((8 * t + t : Nat) : Int) := w100 (c := 8) (by omega)
  have wts : w32 (w32 (8 * (t : Int)) + ((s % 8 : Nat) : Int)) = ((8 * t + s % 8 : Nat) : Int) := w100 (c := 8) (by omega)
  have wst : w32 (w32 (8 * ((s / 8 : Nat) : Int)) + (t : Int)) = ((8 * (s / 8) + t : Nat) : Int) := w100 (c := 8) (by omega)
  unfold jnO at q
  rw [ht, Int.toNat_natCast] at q
  apply e12_joined
  rw [d1, d2, d3, d4, wA 13 b (13 + b) (by omega) (by omega), wA 25 b (25 + b) (by omega) (by omega), hP]
  simp only [Int.toNat_natCast]
  rcases hw with ⟨h1, h2⟩ | ⟨h1, h2⟩
  · refine ⟨fun c => absurd (by omega) c, fun _ => ⟨by omega, fun c2 => ?_, fun c2 => ?_⟩⟩
    · rw [if_pos h1, if_neg (fun z => c2 z.1)] at q
      exact q M (Q67.refl M)
    · refine sp_mayTell who b hP ok (by omega) (by omega) (fun M1 k1 => br' (fun e => ⟨by omega, fun _ => ⟨fun c3 => absurd c3 (by omega), fun _ => ?_⟩, fun c3 => absurd (by omega) c3⟩) (fun e => ?_))
      · have r1 : M1 2 = P := (k1 2 (by omega) (by omega)).trans hP
        rw [if_pos h1, if_pos ⟨Decidable.not_not.mp c2, e⟩, if_pos (Or.inl h1)] at q
        rw [r1, ht, wts, wtt]
        refine sp_hears g f r1 ok hg hf (fun M2 k2 => br (fun e2 => ?_) (fun e2 => ?_))
        · rw [if_neg (fun z => z.elim h2 (fun y => by rw [e2] at y; cases y))] at q
          exact q M2 (k1.trans k2)
        · rw [if_pos (Or.inr e2)] at q
          exact q M2 (k1.trans k2)
      · rw [if_neg (fun z => by rw [e] at z; cases z.2)] at q
        exact q M1 k1
  · refine ⟨fun c => ⟨by omega, fun c2 => ?_, fun c2 => ?_⟩, fun c => absurd (by omega) c⟩
    · rw [if_neg h2, if_neg (fun z => c2 z.1)] at q
      exact q M (Q67.refl M)
    · refine sp_mayTell who b hP ok (by omega) (by omega) (fun M1 k1 => br' (fun e => ⟨by omega, fun c3 => absurd c3 (by omega), fun _ => ?_⟩) (fun e => ?_))
      · have r1 : M1 2 = P := (k1 2 (by omega) (by omega)).trans hP
        rw [if_neg h2, if_pos ⟨Decidable.not_not.mp c2, e⟩, if_pos (c := who = g ∨ hrs P g f = true) (Or.inl h1)] at q
        rw [r1, ht, wst, wtt]
        refine sp_hears f g r1 ok hf hg (fun M2 k2 => br (fun e2 => ?_) (fun e2 => ?_))
        · rw [if_neg (fun z => z.elim h2 (fun y => by rw [e2] at y; cases y))] at q
          exact ⟨fun _ => q M2 (k1.trans k2), fun c3 => absurd (by omega) c3⟩
        · rw [if_pos (Or.inr e2)] at q
          exact ⟨fun _ => q M2 (k1.trans k2), fun c3 => absurd (by omega) c3⟩
      · rw [if_neg (fun z => by rw [e] at z; cases z.2)] at q
        exact q M1 k1
theorem oI_none {o : Option Nat} : oI o = -1 ↔ o = none := by
  cases o with
  | none => exact ⟨fun _ => rfl, fun _ => rfl⟩
  | some s => exact ⟨fun h => by have h : (s : Int) = -1 := h; omega, fun h => by cases h⟩
/-- values of pairs are laid once more -/
def PJ (P : Nat → Int) (f g : Nat) (M M' : Nat → Nat → Int) (x : Int) (s k : Nat) : Prop := QJ M M' ∧ rlx (nxJ P f g) (2 * nB P) glJ vdJ (M' 16) ∧ (∀ j, M' 16 j ≤ M 16 j) ∧ (x = 0 → M' 16 = M 16 ∧ ∀ s' k' u, (s' < s ∨ (s' = s ∧ k' < k)) → s' < 64 → k' < 2 * nB P → nxJ P f g s' k' = some u → M 16 s' ≤ M 16 u + 1) ∧ (x ≠ 0 → ∃ j, j < 64 ∧ 0 ≤ M' 16 j ∧ M' 16 j < M 16 j)
theorem sp_joinLoop (f g L : Nat) (hL : ∀ j, j < 64 → j < L) (ok : okP P) (hf : f < 8) (hg : g < 8) (hne : f ≠ g) : ∀ (N : Nat) (M : Nat → Nat → Int), smV (M 16) L < N → M 2 = P → rlx (nxJ P f g) (2 * nB P) glJ vdJ (M 16) → (∀ M', QJ M M' → stlJ P f g (M' 16) → W12_laysJoin_40 (d + 4) n Φ (f : Nat) (g : Nat) 0 M') → W12_laysJoin_49 (d + 4) n Φ (f : Nat) (g : Nat) 0 0 M := by
  obtain ⟨eB, hB⟩ := ok.nBe
  have w2 : w32 (2 * (nB P : Int)) = ((2 * nB P : Nat) : Int) := by rw [w32_id (by omega) (by omega)]; omega
  intro N
  induction N with
  | zero => intro M h; exact absurd h (Nat.not_lt_zero _)
  | succ N ihN =>
    intro M hN hP hr q
    have key : ∀ s, s ≤ 64 → ∀ x M', PJ P f g M M' x s 0 → W12_laysJoin_49 (d + 4) n Φ (f : Nat) (g : Nat) x (s : Nat) M' := by
      refine up (fun x M' h => ?_) (fun s hs ih x M' h => ?_)
      · apply v12_laysJoin_49
        refine ⟨fun _ => ?_, fun c => absurd (by omega) c⟩
        obtain ⟨h1, h2, h3, h4, h5⟩ := h
        by_cases cx : x = 0
        · rw [cx]
          refine q M' h1 (stlJ_of ok h2 (fun s' k' u z1 z2 z3 => ?_))
          obtain ⟨e9, h6⟩ := h4 cx
          rw [e9]
          exact h6 s' k' u (Or.inl z1) z1 z2 z3
        · apply v12_laysJoin_40
          refine ⟨fun z => absurd z cx, fun _ => ?_⟩
          obtain ⟨j, j1, j2, j3⟩ := h5 cx
          have hlt := smV_lt h3 j2 j3 L (hL j j1)
          exact ihN M' (by omega) ((h1 2 (by omega) (by omega) (by omega) (by omega)).trans hP) h2 (fun M2 k1 k2 => q M2 (h1.trans k1) k2)
      · apply v12_laysJoin_49
        refine ⟨fun c => absurd c (by omega), fun _ => ?_⟩
        have inn : ∀ k, k ≤ 2 * nB P → ∀ x M', PJ P f g M M' x s k → W12_laysJoin_59 (d + 4) n Φ (f : Nat) (g : Nat) x (s : Nat) (k : Nat) M' := by
          refine up (fun x M' h => ?_) (fun k hk ih2 x M' h => ?_)
          · apply v12_laysJoin_59
            rw [(h.1 2 (by omega) (by omega) (by omega) (by omega)).trans hP, eB, w2, w32_s (by omega)]
            refine ⟨fun _ => ih x M' ⟨h.1, h.2.1, h.2.2.1, fun e => ⟨(h.2.2.2.1 e).1, fun s' k' u hc z1 z2 z3 => (h.2.2.2.1 e).2 s' k' u (by omega) z1 z2 z3⟩, h.2.2.2.2⟩, fun c => absurd (Int.le_refl _) c⟩
          · apply v12_laysJoin_59
            obtain ⟨h1, h2, h3, h4, h5⟩ := h
            have m2 : M' 2 = P := (h1 2 (by omega) (by omega) (by omega) (by omega)).trans hP
            rw [m2, eB, w2, w32_s (k := k) (by omega)]
            refine ⟨fun c => absurd c (by omega), fun _ => sp_deedOf f g k m2 ok hf hg (by omega) ?_⟩
            refine sp_joinT f g s (whJ P f g k) (btJ P k) m2 ok hf hg hs (btJ_lt hk) (whJ_or hne) (fun M2 k2 => ?_)
            have j2 : QJ M M2 := h1.trans (QJ.of67 k2)
            have e16 : M2 16 = M' 16 := k2 16 (by omega) (by omega)
            have enx : jnO P f g s (whJ P f g k) (btJ P k) = nxJ P f g s k := rfl
            rw [enx]
            cases hn : nxJ P f g s k with
            | none =>
              refine ⟨fun _ => ih2 x M2 ⟨j2, by rw [e16]; exact h2, by rw [e16]; exact h3, fun z => ⟨by rw [e16]; exact (h4 z).1, fun s' k' u hc z1 z2 z3 => ?_⟩, by rw [e16]; exact h5⟩, fun c => absurd rfl c⟩
              by_cases cc : s' < s ∨ (s' = s ∧ k' < k)
              · exact (h4 z).2 s' k' u cc z1 z2 z3
              · have y1 : s' = s := by omega
                have y2 : k' = k := by omega
                rw [y1, y2, hn] at z3
                cases z3
            | some u =>
              have hu : u < 64 := nxJ_lt ok s k u hs hk hn
              have r1 := h2.1 s hs
              have r2 := h2.1 u hu
              show ((u : Int) = -1 → _) ∧ (¬ ((u : Int) = -1) → _)
              simp only [oI, Int.toNat_natCast]
              rw [e16, w32_id (x := M' 16 u + 1) (by omega) (by omega)]
              refine ⟨fun c => absurd c (by omega), fun _ => ⟨by omega, by omega, fun c => ⟨by omega, ⟨by omega, by omega, trivial⟩, ?_⟩, fun c => ?_⟩⟩
              · have es : (sI M2 16 s (M' 16 u + 1)) 16 = pset (M' 16) s (M' 16 u + 1) := by rw [sI_p, e16]
                refine ih2 1 _ ⟨j2.trans QJ.p16, ?_, fun j => ?_, fun z => absurd z (by omega), fun _ => ⟨s, hs, ?_⟩⟩
                · rw [es]
                  exact rlx_put h2 hs hu hk hn c
                · rw [es]
                  by_cases cj : j = s
                  · rw [cj, pset_eq]; have := h3 s; omega
                  · rw [pset_ne cj]; exact h3 j
                · rw [es, pset_eq]
                  have := h3 s; omega
              · refine ih2 x M2 ⟨j2, by rw [e16]; exact h2, by rw [e16]; exact h3, fun z => ⟨by rw [e16]; exact (h4 z).1, fun s' k' u' hc z1 z2 z3 => ?_⟩, by rw [e16]; exact h5⟩
                by_cases cc : s' < s ∨ (s' = s ∧ k' < k)
                · exact (h4 z).2 s' k' u' cc z1 z2 z3
                · have y1 : s' = s := by omega
                  have y2 : k' = k := by omega
                  rw [y1, y2, hn] at z3
                  have z3 := Option.some.inj z3
                  rw [y1, ← z3]
                  have := (h4 z).1
                  rw [this] at c
                  omega
        exact inn 0 (Nat.zero_le _) x M' h
    refine key 0 (Nat.zero_le _) 0 M ⟨fun _ _ _ _ _ => rfl, hr, fun j => Int.le_refl _, fun _ => ⟨rfl, fun s' k' u hc => ?_⟩, fun z => absurd rfl z⟩
    omega
theorem sp_isNearer (f g s k : Nat) (hP : M 2 = P) (ok : okP P) (hf : f < 8) (hg : g < 8) (hne : f ≠ g) (hs : s < 64) (hk : k < 2 * nB P) (hv : 0 ≤ M 16 s ∧ M 16 s ≤ 268435456) (q : ∀ M', Q67 M M' → (nxJ P f g s k = none → Φ 0 M') ∧ (∀ u, nxJ P f g s k = some u → (M 16 u = M 16 s - 1 → Φ 1 M') ∧ (M 16 u ≠ M 16 s - 1 → Φ 0 M'))) : CR (d + 5) 290 [(2, 1), (0, (f : Int)), (0, (g : Int)), (0, (s : Int)), (0, (k : Int))] M n Φ := by
  obtain ⟨eB, hB⟩ := ok.nBe
  refine e12_isNearer (sp_deedOf f g k hP ok hf hg (by omega) (sp_joinT f g s (whJ P f g k) (btJ P k) hP ok hf hg hs (btJ_lt hk) (whJ_or hne) (fun M2 k2 => ?_)))
  have e16 : M2 16 = M 16 := k2 16 (by omega) (by omega)
  have enx : jnO P f g s (whJ P f g k) (btJ P k) = nxJ P f g s k := rfl
  obtain ⟨q1, q2⟩ := q M2 k2
  rw [enx]
  cases hn : nxJ P f g s k with
  | none => exact ⟨fun _ => q1 hn, fun c => absurd rfl c⟩
  | some u =>
    have hu : u < 64 := nxJ_lt ok s k u hs hk hn
    obtain ⟨q3, q4⟩ := q2 u hn
    simp only [oI, Int.toNat_natCast]
    rw [e16, w32_id (x := M 16 s - 1) (by omega) (by omega)]
    exact ⟨fun c => absurd c (by omega), fun _ => ⟨by omega, by omega, fun c => q4 c, fun c => q3 (Decidable.not_not.mp c)⟩⟩
theorem sp_laysJoin (f g : Nat) (hP : M 2 = P) (ok : okP P) (hf : f < nF P) (hg : g < nF P) (hne : f ≠ g) (q : ∀ M', QJ M M' → (∀ j : Nat, (j : Int) < jnD P f g → M' 17 j = (jnL P f g j : Nat)) → jnD P f g < 64 → Φ (jnD P f g) M') : CR (d + 7) 289 [(2, 1), (0, (f : Int)), (0, (g : Int))] M n Φ := by
  obtain ⟨eB, hB⟩ := ok.nBe
  obtain ⟨eM, hM1, hM2⟩ := ok.nMe
  obtain ⟨eF, hF1, hF2⟩ := ok.nFe
  have af := ok.at (f := f) (by omega)
  have ag := ok.at (f := g) (by omega)
  obtain ⟨mf, hmf, hmf8⟩ : ∃ t : Nat, P (68 + f) = (t : Int) ∧ t < 8 := ⟨(P (68 + f)).toNat, by omega, by omega⟩
  obtain ⟨mg, hmg, hmg8⟩ : ∃ t : Nat, P (68 + g) = (t : Int) ∧ t < 8 := ⟨(P (68 + g)).toNat, by omega, by omega⟩
  have est : 8 * (P (68 + f)).toNat + (P (68 + g)).toNat = 8 * mf + mg := by rw [hmf, hmg, Int.toNat_natCast, Int.toNat_natCast]
  have wst : w32 (w32 (8 * (mf : Int)) + (mg : Int)) = ((8 * mf + mg : Nat) : Int) := w100 (c := 8) (by omega)
  unfold jnD jnL at q
  rw [est] at q
  -- the end: the way is laid
  have fin : ∀ M1, QJ M M1 → stlJ P f g (M1 16) → W12_laysJoin_40 (d + 6) n Φ (f : Nat) (g : Nat) 0 M1 := by
    intro M1 g1 g4
    have m1 : M1 2 = P := (g1 2 (by omega) (by omega) (by omega) (by omega)).trans hP
    apply v12_laysJoin_40
    refine ⟨fun _ => ?_, fun c => absurd rfl c⟩
    rw [m1, wA 68 f (68 + f) (by omega) (by omega), wA 68 g (68 + g) (by omega) (by omega)]
    simp only [Int.toNat_natCast]
    rw [hmf, hmg, wst]
    simp only [Int.toNat_natCast]
    generalize hs0 : 8 * mf + mg = s0 at *
    have hs0l : s0 < 64 := by omega
    refine ⟨by omega, by omega, by omega, fun c => ?_, fun c => ?_⟩
    · rcases g4 s0 hs0l with ⟨N, hN1, hN2, hN3⟩ | ⟨hN, _⟩
      · rw [hN2]
        rw [hN3] at q
        have key : ∀ k, k ≤ N → ∀ (M' : Nat → Nat → Int) (s : Nat), QJ M1 M' → M' 16 = M1 16 → (∀ j, j < k → M' 17 j = (ddJ P f g (lG (nxJ P f g) (2 * nB P) glJ (sG (nxJ P f g) (2 * nB P) glJ s0 j)) : Nat)) → s = sG (nxJ P f g) (2 * nB P) glJ s0 k → s < 64 → W12_laysJoin_197 (d + 6) n Φ (f : Nat) (g : Nat) (s : Nat) (N : Nat) (k : Nat) M' := by
          refine up (fun M' s k1 k0 k2 k3 k4 => ?_) (fun k hk ih M' s k1 k0 k2 k3 k4 => ?_)
          · apply v12_laysJoin_197
            exact ⟨fun _ => q M' (g1.trans k1) (fun j hj => k2 j (by omega)) (by omega), fun c => absurd (Int.le_refl _) c⟩
          · apply v12_laysJoin_197
            refine ⟨fun c => absurd c (by omega), fun _ => ?_⟩
            have hds : dG (nxJ P f g) (2 * nB P) glJ s = (N : Int) - (k : Int) := by rw [k3]; exact way_all hN3 k (by omega)
            obtain ⟨w1, s', w2, w3⟩ := way_step (n := N - k - 1) (s := s) (by rw [hds]; omega)
            have hvs : M1 16 s = (N : Int) - (k : Int) := by
              rcases g4 s k4 with ⟨k', z0, z1, z2⟩ | ⟨z1, z2⟩ <;> omega
            have inn : ∀ b, b ≤ lG (nxJ P f g) (2 * nB P) glJ s → ∀ M3, Q67 M' M3 → W12_laysJoin_207 (d + 6) n Φ (f : Nat) (g : Nat) (s : Nat) (N : Nat) (k : Nat) (b : Nat) M3 := by
              refine up (fun M3 y3 => ?_) (fun b hb ih2 M3 y3 => ?_)
              · apply v12_laysJoin_207
                have m3 : M3 2 = P := (y3 2 (by omega) (by omega)).trans ((k1 2 (by omega) (by omega) (by omega) (by omega)).trans m1)
                have e16 : M3 16 = M1 16 := (y3 16 (by omega) (by omega)).trans k0
                have hl : ddJ P f g (lG (nxJ P f g) (2 * nB P) glJ (sG (nxJ P f g) (2 * nB P) glJ s0 k)) = ddJ P f g (lG (nxJ P f g) (2 * nB P) glJ s) := by rw [k3]
                have hsk : s' = sG (nxJ P f g) (2 * nB P) glJ s0 (k + 1) := by
                  show s' = (nxJ P f g (sG (nxJ P f g) (2 * nB P) glJ s0 k) (lG (nxJ P f g) (2 * nB P) glJ (sG (nxJ P f g) (2 * nB P) glJ s0 k))).getD 0
                  rw [← k3, w2]; rfl
                generalize lG (nxJ P f g) (2 * nB P) glJ s = b at *
                refine sp_isNearer f g s b m3 ok (by omega) (by omega) hne k4 w1 (by rw [e16]; omega) (fun M4 y4 => ⟨fun z => ?_, fun u hu => ?_⟩)
                · rw [w2] at z; cases z
                · have hus : u = s' := by rw [w2] at hu; exact (Option.some.inj hu).symm
                  have hu64 : s' < 64 := nxJ_lt ok s b s' k4 w1 w2
                  have hvu : M1 16 s' = (N : Int) - (k : Int) - 1 := by
                    rcases g4 s' hu64 with ⟨k', z0, z1, z2⟩ | ⟨z1, z2⟩ <;> omega
                  refine ⟨fun _ => ⟨fun _ => ?_, fun z => absurd (by omega) z⟩, fun z => absurd (by rw [e16, hus]; omega) z⟩
                  have m4 : M4 2 = P := (y4 2 (by omega) (by omega)).trans m3
                  refine sp_deedOf f g b m4 ok (by omega) (by omega) (by omega) ⟨⟨by omega, by omega, trivial⟩, by omega, ?_⟩
                  rw [Int.toNat_natCast, sI_same]
                  refine sp_joinT f g s (whJ P f g b) (btJ P b) ((sI_row (by omega)).trans m4) ok (by omega) (by omega) k4 (btJ_lt w1) (whJ_or hne) (fun M5 y5 => ?_)
                  have enx : jnO P f g s (whJ P f g b) (btJ P b) = nxJ P f g s b := rfl
                  rw [enx, w2, w32_s (by omega)]
                  have e17 : M5 17 = pset (M' 17) k (ddJ P f g b : Nat) := by
                    rw [y5 17 (by omega) (by omega), sI_p, y4 17 (by omega) (by omega), y3 17 (by omega) (by omega)]
                  have e16' : M5 16 = M1 16 := by
                    rw [y5 16 (by omega) (by omega), sI_row (by omega), y4 16 (by omega) (by omega), e16]
                  refine ih M5 s' (k1.trans ((QJ.of67 y3).trans ((QJ.of67 y4).trans (QJ.p17.trans (QJ.of67 y5))))) e16' (fun j hj => ?_) hsk hu64
                  rw [e17]
                  by_cases cj : j = k
                  · rw [cj, pset_eq, hl]
                  · rw [pset_ne cj]; exact k2 j (by omega)
              · apply v12_laysJoin_207
                have m3 : M3 2 = P := (y3 2 (by omega) (by omega)).trans ((k1 2 (by omega) (by omega) (by omega) (by omega)).trans m1)
                have e16 : M3 16 = M1 16 := (y3 16 (by omega) (by omega)).trans k0
                rw [w32_s (k := b) (by omega)]
                refine sp_isNearer f g s b m3 ok (by omega) (by omega) hne k4 (by omega) (by rw [e16]; omega) (fun M4 y4 => ⟨fun z => ⟨fun z2 => absurd rfl z2, fun _ => ih2 M4 (y3.trans y4)⟩, fun u hu => ⟨fun z => ?_, fun z => ⟨fun z2 => absurd rfl z2, fun _ => ih2 M4 (y3.trans y4)⟩⟩⟩)
                exfalso
                have hu64 : u < 64 := nxJ_lt ok s b u k4 (by omega) hu
                rw [e16] at z
                rcases g4 u hu64 with ⟨k', z0, z1, z2⟩ | ⟨z1, z2⟩
                · exact lG_min hb hu (by omega) (by omega)
                · omega
            exact inn 0 (Nat.zero_le _) M' (Q67.refl M')
        exact key 0 (Nat.zero_le _) M1 s0 (fun _ _ _ _ _ => rfl) rfl (fun j hj => absurd hj (Nat.not_lt_zero _)) rfl hs0l
      · omega
    · rcases g4 s0 hs0l with ⟨N, hN1, hN2, hN3⟩ | ⟨hN, hD⟩
      · omega
      · rw [hD] at q
        exact q M1 g1 (fun j hj => by omega) (by omega)
  -- the values
  have fill : ∀ k, k ≤ 64 → ∀ M', QJ M M' → (∀ j, j < k → M' 16 j = if j / 8 = j % 8 then 0 else 268435456) → W12_laysJoin_2 (d + 6) n Φ (f : Nat) (g : Nat) (k : Nat) M' := by
    refine up (fun M' g1 g4 => ?_) (fun k hk ih M' g1 g4 => ?_)
    · apply v12_laysJoin_2
      refine ⟨fun _ => ?_, fun c => absurd (by omega) c⟩
      apply v12_laysJoin_40
      refine ⟨fun z => absurd z (by omega), fun _ => ?_⟩
      obtain ⟨L, hL⟩ : ∃ L, ∀ j, j < 64 → j < L := ⟨64, fun _ h => h⟩
      refine sp_joinLoop f g L hL ok (by omega) (by omega) hne _ M' (Nat.lt_succ_self _) ((g1 2 (by omega) (by omega) (by omega) (by omega)).trans hP) ?_ (fun M2 k1 k2 => fin M2 (g1.trans k1) k2)
      refine ⟨fun s hs => ?_, fun s hs hg => ?_, fun s hs hl => ?_⟩
      · rw [g4 s hs]; split <;> omega
      · rw [g4 s hs, if_pos (show s / 8 = s % 8 from hg)]
      · rw [g4 s hs] at hl ⊢
        by_cases c : s / 8 = s % 8
        · rw [if_pos c]; exact c
        · rw [if_neg c] at hl; omega
    · apply v12_laysJoin_2
      have d3 : m_div (k : Int) 8 = ((k / 8 : Nat) : Int) := m_div_n (a := k) (b := 8) (by omega) (by omega) (by omega)
      have d4 : m_rem (k : Int) 8 = ((k % 8 : Nat) : Int) := m_rem_n (a := k) (b := 8) (by omega) (by omega) (by omega)
      rw [w32_s (by omega), Int.toNat_natCast, d3, d4]
      have nxt : ∀ v : Int, v = (if k / 8 = k % 8 then 0 else 268435456) → W12_laysJoin_2 (d + 6) n Φ (f : Nat) (g : Nat) ((k + 1 : Nat) : Int) (sI M' 16 k v) := by
        intro v hv
        refine ih _ (g1.trans QJ.p16) (fun j hj => ?_)
        rw [sI_p]
        by_cases c : j = k
        · rw [c, pset_eq]; exact hv
        · rw [pset_ne c]; exact g4 j (by omega)
      refine ⟨fun c => absurd c (by omega), fun _ => ⟨fun c => ⟨⟨by omega, by omega, trivial⟩, nxt _ (by rw [if_neg (by omega)])⟩, fun c => ⟨⟨by omega, by omega, trivial⟩, nxt _ (by rw [if_pos (by omega)])⟩⟩⟩
  exact e12_laysJoin (fill 0 (Nat.zero_le _) M (fun _ _ _ _ _ => rfl) (fun j hj => absurd hj (Nat.not_lt_zero _)))
noncomputable def zJoins (P : Nat → Int) (x y : Int) : Int := if (0 ≤ x ∧ x < P 1) ∧ (0 ≤ y ∧ y < P 1) ∧ x ≠ y then jnD P x.toNat y.toNat else -2
noncomputable def zJoinBy (P : Nat → Int) (x y i : Int) : Int := if (0 ≤ x ∧ x < P 1) ∧ (0 ≤ y ∧ y < P 1) ∧ x ≠ y then (if 0 ≤ i then (if i < jnD P x.toNat y.toNat then (jnL P x.toNat y.toNat i.toNat : Nat) else -1) else -3) else -2
theorem r_joins (x y : Int) (hP : M 2 = P) (ok : okP P) (q : ∀ M', KR M M' → M' 2 = P → Φ (zJoins P x y) M') : CR (d + 8) 291 [(2, 1), (0, x), (0, y)] M n Φ := by
  obtain ⟨eF, hF1, hF2⟩ := ok.nFe
  have h0 : KR M (sI M 1 0 0) := KR.one (by omega)
  have m0 : (sI M 1 0 0) 2 = P := (sI_row (by omega)).trans hP
  unfold zJoins at q
  refine e12_joins (sp_areTwo x y m0 ok (br (fun e => ?_) (fun e => ?_)))
  · rw [if_neg (of_decide_eq_false e)] at q
    exact q _ h0 m0
  · have e := of_decide_eq_true e
    rw [if_pos e] at q
    obtain ⟨a, ha⟩ : ∃ a : Nat, x = (a : Int) := ⟨x.toNat, by omega⟩
    obtain ⟨b, hb⟩ : ∃ b : Nat, y = (b : Int) := ⟨y.toNat, by omega⟩
    subst ha hb
    simp only [Int.toNat_natCast] at q
    exact sp_laysJoin a b m0 ok (by omega) (by omega) (by omega) (fun M1 g1 _ _ => q M1 (h0.trans (KR.ofJ g1)) ((g1 2 (by omega) (by omega) (by omega) (by omega)).trans m0))
theorem r_joinBy (x y i : Int) (hP : M 2 = P) (ok : okP P) (q : ∀ M', KR M M' → M' 2 = P → Φ (zJoinBy P x y i) M') : CR (d + 8) 292 [(2, 1), (0, x), (0, y), (0, i)] M n Φ := by
  obtain ⟨eF, hF1, hF2⟩ := ok.nFe
  have h0 : KR M (sI M 1 0 0) := KR.one (by omega)
  have m0 : (sI M 1 0 0) 2 = P := (sI_row (by omega)).trans hP
  unfold zJoinBy at q
  refine e12_joinBy (sp_areTwo x y m0 ok (br' (fun e => ?_) (fun e => ?_)))
  · have e := of_decide_eq_true e
    rw [if_pos e] at q
    obtain ⟨a, ha⟩ : ∃ a : Nat, x = (a : Int) := ⟨x.toNat, by omega⟩
    obtain ⟨b, hb⟩ : ∃ b : Nat, y = (b : Int) := ⟨y.toNat, by omega⟩
    subst ha hb
    simp only [Int.toNat_natCast] at q
    refine ⟨fun c => ?_, fun c => ?_⟩
    · rw [if_pos c] at q
      refine sp_laysJoin a b m0 ok (by omega) (by omega) (by omega) (fun M1 g1 g2 g3 => ?_)
      have q1 := q M1 (h0.trans (KR.ofJ g1)) ((g1 2 (by omega) (by omega) (by omega) (by omega)).trans m0)
      refine ⟨fun c2 => ?_, fun c2 => ?_⟩
      · rw [if_neg (by omega)] at q1; exact q1
      · rw [if_pos (by omega), ← g2 i.toNat (by omega)] at q1
        exact ⟨by omega, q1⟩
    · rw [if_neg c] at q
      exact q _ h0 m0
  · rw [if_neg (of_decide_eq_false e)] at q
    exact q _ h0 m0
end
