/-! ===== the fewest bits to a moment: the graph, and the reference ===== -/
def fuM (P : Nat → Int) (x : Int) : Nat := if x = 0 then 0 else mustN P
def tdN (U S b : Nat) : Nat := if inS U b = true then S ||| 2 ^ b else S
def nxF (P : Nat → Int) (U : Nat) : gN := fun s b => if frT P (s / 4096) b = true then some (4096 * (P (25 + b)).toNat + tdN U (s % 4096) b) else none
def vdF (P : Nat → Int) (U s : Nat) : Prop := s / 4096 < nM P ∧ ∀ i, (s % 4096).testBit i = true → U.testBit i = true
def glF (U t : Nat) : Nat → Prop := fun s => s = 4096 * t + U
noncomputable def wyD (P : Nat → Int) (U f t : Nat) : Int := dG (nxF P U) (nB P) (glF U t) (4096 * f)
noncomputable def wyL (P : Nat → Int) (U f t i : Nat) : Nat := lG (nxF P U) (nB P) (glF U t) (sG (nxF P U) (nB P) (glF U t) (4096 * f) i)
theorem fuM_lt {P : Nat → Int} (ok : okP P) (x : Int) : fuM P x < 4096 := by
  unfold fuM mustN
  split
  · omega
  · exact msk_lt12 _ ok.nBe.2
theorem p2_12 : ∀ k, k < 12 → 2 ^ k < 4096 := by decide
theorem tdN_lt {U S b : Nat} (hS : S < 4096) (hb : b < 12) : tdN U S b < 4096 := by
  unfold tdN
  split
  · exact Nat.or_lt_two_pow (n := 12) hS (p2_12 b hb)
  · exact hS
theorem tdN_tb {U S b j : Nat} : (tdN U S b).testBit j = true ↔ S.testBit j = true ∨ (j = b ∧ U.testBit b = true) := by
  unfold tdN
  rw [inS_tb]
  by_cases c : U.testBit b = true
  · rw [if_pos c, Nat.testBit_or, Nat.testBit_two_pow, Bool.or_eq_true, decide_eq_true_eq]
    constructor
    · rintro (h | h)
      · exact Or.inl h
      · exact Or.inr ⟨h.symm, c⟩
    · rintro (h | h)
      · exact Or.inl h
      · exact Or.inr h.1.symm
  · rw [if_neg c]
    constructor
    · exact Or.inl
    · rintro (h | h)
      · exact h
      · exact absurd h.2 c
theorem nxF_some {P : Nat → Int} {U s b s' : Nat} (h : nxF P U s b = some s') : frT P (s / 4096) b = true ∧ s' = 4096 * (P (25 + b)).toNat + tdN U (s % 4096) b := by
  unfold nxF at h
  split at h
  · rename_i c
    exact ⟨c, (Option.some.inj h).symm⟩
  · cases h
theorem vdF_c {P : Nat → Int} (ok : okP P) {U : Nat} (s b s' : Nat) (hs : vdF P U s) (hb : b < nB P) (h : nxF P U s b = some s') : vdF P U s' := by
  obtain ⟨_, e⟩ := nxF_some h
  have hB := ok.nBe
  have hM := ok.nMe
  have hbt := ok.bit (b := b) (by omega)
  have hlt := tdN_lt (U := U) (S := s % 4096) (b := b) (by omega) (by omega)
  have e1 : s' / 4096 = (P (25 + b)).toNat := by omega
  have e2 : s' % 4096 = tdN U (s % 4096) b := by omega
  refine ⟨by omega, fun i hi => ?_⟩
  rw [e2] at hi
  rcases tdN_tb.mp hi with h1 | h1
  · exact hs.2 i h1
  · rw [h1.1]; exact h1.2
def rkF (s : Nat) : Nat := popc 12 (s % 4096) * 8 + s / 4096
theorem rkF_r {P : Nat → Int} (ok : okP P) {U : Nat} : ∀ n s t, vdF P U s → rG (nxF P U) (nB P) s n t → vdF P U t ∧ ∀ i, (s % 4096).testBit i = true → (t % 4096).testBit i = true
  | 0, s, t, hs, e => by
    have e : s = t := e
    subst e
    exact ⟨hs, fun _ h => h⟩
  | n + 1, s, t, hs, ⟨u, k, h1, h2, h3⟩ => by
    obtain ⟨v, h4⟩ := rkF_r ok n s u hs h1
    refine ⟨vdF_c ok u k t v h2 h3, fun i hi => ?_⟩
    obtain ⟨_, e⟩ := nxF_some h3
    have hB := ok.nBe
    have hlt := tdN_lt (U := U) (S := u % 4096) (b := k) (by omega) (by omega)
    rw [show t % 4096 = tdN U (u % 4096) k by omega]
    exact tdN_tb.mpr (Or.inl (h4 i hi))
theorem rkF_i {P : Nat → Int} (ok : okP P) {U : Nat} (n s t : Nat) (hs : vdF P U s) (h : rG (nxF P U) (nB P) s n t) (e : rkF s = rkF t) : s = t := by
  obtain ⟨v, hsub⟩ := rkF_r ok n s t hs h
  have hM := ok.nMe
  have h1 := hs.1
  have h2 := v.1
  unfold rkF at e
  have e1 : s / 4096 = t / 4096 := by omega
  have e2 : popc 12 (s % 4096) = popc 12 (t % 4096) := by omega
  by_cases c : s % 4096 = t % 4096
  · omega
  · have := popc_ssub hsub (n := 12) (Nat.mod_lt _ (by omega)) (Nat.mod_lt _ (by omega)) c
    omega
/-- values that are on their way down -/
def rlx (nx : gN) (K : Nat) (G Vd : Nat → Prop) (V : Nat → Int) : Prop := (∀ s, Vd s → 0 ≤ V s ∧ V s ≤ 268435456) ∧ (∀ s, Vd s → G s → V s = 0) ∧ (∀ s, Vd s → V s < 268435456 → pG nx K G (V s).toNat s)
theorem rlx_put {nx : gN} {K : Nat} {G Vd : Nat → Prop} {V : Nat → Int} (h : rlx nx K G Vd V) {s k s' : Nat} (hs : Vd s) (hs' : Vd s') (hk : k < K) (hn : nx s k = some s') (hl : V s' + 1 < V s) : rlx nx K G Vd (pset V s (V s' + 1)) := by
  obtain ⟨h1, h2, h3⟩ := h
  have a := h1 s hs
  have a' := h1 s' hs'
  refine ⟨fun t ht => ?_, fun t ht hg => ?_, fun t ht hlt => ?_⟩
  · by_cases c : t = s
    · subst c; rw [pset_eq]; omega
    · rw [pset_ne c]; exact h1 t ht
  · by_cases c : t = s
    · subst c; have := h2 t ht hg; omega
    · rw [pset_ne c]; exact h2 t ht hg
  · by_cases c : t = s
    · subst c
      rw [pset_eq] at hlt ⊢
      rw [show (V s' + 1).toNat = (V s').toNat + 1 by omega]
      exact ⟨k, s', hk, hn, h3 s' hs' (by omega)⟩
    · rw [pset_ne c] at hlt ⊢
      exact h3 t ht hlt
def smV (V : Nat → Int) : Nat → Nat
  | 0 => 0
  | n + 1 => smV V n + (V n).toNat
theorem smV_le {V V' : Nat → Int} (h : ∀ j, V' j ≤ V j) : ∀ n, smV V' n ≤ smV V n
  | 0 => Nat.le_refl _
  | n + 1 => by
    have := smV_le h n
    have := h n
    show smV V' n + (V' n).toNat ≤ smV V n + (V n).toNat
    omega
theorem smV_lt {V V' : Nat → Int} (h : ∀ j, V' j ≤ V j) {s : Nat} (h0 : 0 ≤ V' s) (hl : V' s < V s) : ∀ n, s < n → smV V' n < smV V n
  | 0, hn => absurd hn (Nat.not_lt_zero _)
  | n + 1, hn => by
    have a := smV_le h n
    have b := h n
    show smV V' n + (V' n).toNat < smV V n + (V n).toNat
    by_cases c : s = n
    · subst c; omega
    · have := smV_lt h h0 hl n (by omega)
      omega
theorem lG_min {nx : gN} {K : Nat} {G : Nat → Prop} {s k t : Nat} (hk : k < lG nx K G s) (h : nx s k = some t) (h0 : 0 ≤ dG nx K G t) : dG nx K G t ≠ dG nx K G s - 1 := by
  intro e
  obtain ⟨f1, f2, f3⟩ := fstB_all (fun k => @decide (∃ s', nx s k = some s' ∧ 0 ≤ dG nx K G s' ∧ dG nx K G s' = dG nx K G s - 1) (Classical.propDecidable _)) K
  exact absurd ⟨t, h, h0, e⟩ (@of_decide_eq_false _ (Classical.propDecidable _) (f3 k hk))
/-- the frame -/
def QN (M M' : Nat → Nat → Int) : Prop := (∀ a, a ≠ 1 → a ≠ 6 → a ≠ 7 → a ≠ 9 → a ≠ 10 → M' a = M a) ∧ (∀ k, k ≠ 21 → k ≠ 24 → M' 1 k = M 1 k)
theorem QN.trans {M M' N : Nat → Nat → Int} (h : QN M M') (h2 : QN M' N) : QN M N := ⟨fun a a1 a2 a3 a4 a5 => (h2.1 a a1 a2 a3 a4 a5).trans (h.1 a a1 a2 a3 a4 a5), fun k k1 k2 => (h2.2 k k1 k2).trans (h.2 k k1 k2)⟩
theorem QN.ofU {M M' : Nat → Nat → Int} (h : QU M M') : QN M M' := ⟨fun a a1 a2 a3 _ _ => h.1 a a1 a2 a3, fun k k1 _ => h.2 k k1⟩
theorem QN.of9 {M M' : Nat → Nat → Int} (h : ∀ a, a ≠ 9 → M' a = M a) : QN M M' := ⟨fun a _ _ _ a4 _ => h a a4, fun k _ _ => by rw [h 1 (by omega)]⟩
theorem QN.of10 {M M' : Nat → Nat → Int} (h : ∀ a, a ≠ 10 → M' a = M a) : QN M M' := ⟨fun a _ _ _ _ a5 => h a a5, fun k _ _ => by rw [h 1 (by omega)]⟩
theorem QN.put (M : Nat → Nat → Int) (x : Int) : QN M (sI M 1 24 x) := ⟨fun a h1 _ _ _ _ => sI_row h1, fun k _ hk => sI_ne hk⟩
theorem KR.ofN {M M' : Nat → Nat → Int} (h : QN M M') : KR M M' := ⟨fun a ha => h.1 a (by omega) (by omega) (by omega) (by omega) (by omega), fun k hk => h.2 k (by omega) (by omega)⟩
section
variable {d : Nat} {n : Nat × Nat} {Φ : Int → (Nat → Nat → Int) → Prop} {M : Nat → Nat → Int} {P : Nat → Int}
theorem sp_told (U S b : Nat) (hu : M 1 24 = (U : Nat)) (hU : U < 4096) (hS : S < 4096) (hb : b < 12) (q : Φ (tdN U S b : Nat) M) : CR (d + 2) 264 [(2, 1), (0, (S : Int)), (0, (b : Int))] M n Φ := by
  apply e12_told
  rw [hu]
  refine sp_isIn _ b (by omega) (by omega) (br (fun e => ?_) (fun e => ?_))
  · have : tdN U S b = S := by unfold tdN; rw [e]; rfl
    rw [this] at q; exact q
  · have : tdN U S b = S ||| 2 ^ b := by unfold tdN; rw [e]; rfl
    have hp := p2_12 b hb
    rw [this] at q
    rw [m_one (by omega), m_or_n (by omega) (by omega)]
    exact q
theorem w4096 {t x : Nat} (ht : t < 8) (hx : x < 4096) : w32 (w32 (4096 * (t : Int)) + (x : Int)) = ((4096 * t + x : Nat) : Int) := by
  rw [w32_id (x := 4096 * (t : Int)) (by omega) (by omega), w32_id (by omega) (by omega)]
  omega
/-- one set is laid once more -/
def LF (P : Nat → Int) (U t S : Nat) (M M' : Nat → Nat → Int) (x : Int) (m b : Nat) : Prop := (∀ a, a ≠ 9 → M' a = M a) ∧ rlx (nxF P U) (nB P) (glF U t) (vdF P U) (M' 9) ∧ (∀ j, M' 9 j ≤ M 9 j) ∧ (x = 0 → M' 9 = M 9 ∧ ∀ m' b', (m' < m ∨ (m' = m ∧ b' < b)) → m' < nM P → b' < nB P → frT P m' b' = true → M 9 (4096 * m' + S) ≤ M 9 (4096 * (P (25 + b')).toNat + tdN U S b') + 1) ∧ (x ≠ 0 → ∃ j, j < 32768 ∧ 0 ≤ M' 9 j ∧ M' 9 j < M 9 j) ∧ (x = 0 ∨ x = 1)
theorem sp_laysFarm (U t S : Nat) (hP : M 2 = P) (ok : okP P) (hu : M 1 21 = (useS P : Nat)) (h24 : M 1 24 = (U : Nat)) (hU : U < 4096) (hS : S < 4096) (hsub : ∀ i, S.testBit i = true → U.testBit i = true) (hr : rlx (nxF P U) (nB P) (glF U t) (vdF P U) (M 9)) (q : ∀ r M', LF P U t S M M' r (nM P) 0 → Φ r M') : CR (d + 3) 266 [(2, 1), (0, (S : Int))] M n Φ := by
  obtain ⟨eB, hB⟩ := ok.nBe
  obtain ⟨eM, hM1, hM2⟩ := ok.nMe
  have key : ∀ m, m ≤ nM P → ∀ x M', LF P U t S M M' x m 0 → W12_laysFarm_4 (d + 2) n Φ (S : Nat) x (m : Nat) M' := by
    refine up (fun x M' h => ?_) (fun m hm ih x M' h => ?_)
    · apply v12_laysFarm_4
      rw [(h.1 2 (by omega)).trans hP, eM]
      exact ⟨fun _ => ⟨h.2.2.2.2.2, q x M' h⟩, fun c => absurd (Int.le_refl _) c⟩
    · apply v12_laysFarm_4
      rw [(h.1 2 (by omega)).trans hP, eM, w4096 (by omega) hS]
      refine ⟨fun c => absurd c (by omega), fun _ => ?_⟩
      have inn : ∀ b, b ≤ nB P → ∀ x M', LF P U t S M M' x m b → W12_laysFarm_26 (d + 2) n Φ (S : Nat) x (m : Nat) ((4096 * m + S : Nat) : Int) (b : Nat) M' := by
        refine up (fun x M' h => ?_) (fun b hb ih2 x M' h => ?_)
        · apply v12_laysFarm_26
          rw [(h.1 2 (by omega)).trans hP, eB, w32_s (by omega)]
          refine ⟨fun _ => ih x M' ⟨h.1, h.2.1, h.2.2.1, fun e => ⟨(h.2.2.2.1 e).1, fun m' b' hc hm' hb' hf => (h.2.2.2.1 e).2 m' b' (by omega) hm' hb' hf⟩, h.2.2.2.2⟩, fun c => absurd (Int.le_refl _) c⟩
        · apply v12_laysFarm_26
          obtain ⟨h1, h2, h3, h4, h5, h6⟩ := h
          have m2 : M' 2 = P := (h1 2 (by omega)).trans hP
          have hbt := ok.bit (b := b) (by omega)
          have et : P (25 + b) = (((P (25 + b)).toNat : Nat) : Int) := by omega
          have hlt := tdN_lt (U := U) (S := S) (b := b) hS (by omega)
          rw [m2, eB, w32_s (k := b) (by omega)]
          refine ⟨fun c => absurd c (by omega), fun _ => sp_isFrom b m m2 ok (by rw [h1 1 (by omega)]; exact hu) hb (br' (fun e => ?_) (fun e => ?_))⟩
          · rw [wA 25 b (25 + b) (by omega) (by omega)]
            refine ⟨by omega, sp_told U S b (by rw [h1 1 (by omega)]; exact h24) hU hS (by omega) ?_⟩
            rw [Int.toNat_natCast, m2, et, w4096 (by omega) hlt]
            simp only [Int.toNat_natCast]
            have hvs : vdF P U (4096 * m + S) := ⟨by omega, by rw [show (4096 * m + S) % 4096 = S by omega]; exact hsub⟩
            have hnx : nxF P U (4096 * m + S) b = some (4096 * (P (25 + b)).toNat + tdN U S b) := by
              unfold nxF
              rw [show (4096 * m + S) / 4096 = m by omega, show (4096 * m + S) % 4096 = S by omega, if_pos e]
            have hvs' := vdF_c ok _ b _ hvs hb hnx
            have r1 := h2.1 _ hvs
            have r2 := h2.1 _ hvs'
            rw [w32_id (x := M' 9 (4096 * (P (25 + b)).toNat + tdN U S b) + 1) (by omega) (by omega)]
            refine ⟨by omega, by omega, fun c => ⟨⟨by omega, by omega, trivial⟩, ?_⟩, fun c => ?_⟩
            · refine ih2 1 _ ⟨fun a ha => (sI_row ha).trans (h1 a ha), ?_, fun j => ?_, fun z => absurd z (by omega), fun _ => ⟨4096 * m + S, by omega, ?_⟩, Or.inr rfl⟩
              · rw [sI_p]
                exact rlx_put h2 hvs hvs' hb hnx c
              · rw [sI_p]
                by_cases cj : j = 4096 * m + S
                · rw [cj, pset_eq]; have := h3 (4096 * m + S); omega
                · rw [pset_ne cj]; exact h3 j
              · rw [sI_p, pset_eq]
                have := h3 (4096 * m + S); omega
            · refine ih2 x M' ⟨h1, h2, h3, fun z => ⟨(h4 z).1, fun m' b' hc hm' hb' hf => ?_⟩, h5, h6⟩
              by_cases cc : m' < m ∨ (m' = m ∧ b' < b)
              · exact (h4 z).2 m' b' cc hm' hb' hf
              · have e1 : m' = m := by omega
                have e2 : b' = b := by omega
                rw [e1, e2]
                have := (h4 z).1
                rw [this] at c
                omega
          · refine ih2 x M' ⟨h1, h2, h3, fun z => ⟨(h4 z).1, fun m' b' hc hm' hb' hf => ?_⟩, h5, h6⟩
            by_cases cc : m' < m ∨ (m' = m ∧ b' < b)
            · exact (h4 z).2 m' b' cc hm' hb' hf
            · have e1 : m' = m := by omega
              have e2 : b' = b := by omega
              rw [e1, e2, e] at hf
              cases hf
      exact inn 0 (Nat.zero_le _) x M' h
  refine e12_laysFarm (key 0 (Nat.zero_le _) 0 M ⟨fun _ _ => rfl, hr, fun j => Int.le_refl _, fun _ => ⟨rfl, fun m' b' hc _ _ _ => ?_⟩, fun z => absurd rfl z, Or.inl rfl⟩)
  omega
/-- the values have settled -/
def stlF (P : Nat → Int) (U t : Nat) (V : Nat → Int) : Prop := ∀ s, vdF P U s → (∃ k : Nat, k < 104 ∧ V s = (k : Int) ∧ dG (nxF P U) (nB P) (glF U t) s = (k : Int)) ∨ (V s = 268435456 ∧ dG (nxF P U) (nB P) (glF U t) s = -1)
theorem stlF_of {P : Nat → Int} (ok : okP P) {U t : Nat} {V : Nat → Int} (hr : rlx (nxF P U) (nB P) (glF U t) (vdF P U) V) (he : ∀ S, S < 4096 → (∀ i, S.testBit i = true → U.testBit i = true) → ∀ m' b', m' < nM P → b' < nB P → frT P m' b' = true → V (4096 * m' + S) ≤ V (4096 * (P (25 + b')).toNat + tdN U S b') + 1) : stlF P U t V := by
  intro s hs
  have hM := ok.nMe
  have hv := val_ok (nx := nxF P U) (K := nB P) (G := glF U t) (Vd := vdF P U) (V := V) (rk := rkF) (B := 104) (by omega) (fun s k s' h1 h2 h3 => vdF_c ok s k s' h1 h2 h3) hr.1 hr.2.1 hr.2.2 (fun s k s' h1 h2 h3 => ?_) (fun s h1 => ?_) (fun n s t h1 h2 h3 => rkF_i ok n s t h1 h2 h3) s hs
  · have h0 := hr.1 s hs
    by_cases c : V s < 268435456
    · obtain ⟨a, b⟩ := hv.1 c
      exact Or.inl ⟨(V s).toNat, by omega, by omega, dG_eq a⟩
    · exact Or.inr ⟨by omega, dG_no (hv.2 c)⟩
  · obtain ⟨e1, e2⟩ := nxF_some h3
    have := he (s % 4096) (Nat.mod_lt _ (by omega)) h1.2 (s / 4096) k h1.1 h2 e1
    rw [show 4096 * (s / 4096) + s % 4096 = s by omega, ← e2] at this
    exact this
  · have h2 := h1.1
    have := popc_le 12 (s % 4096)
    unfold rkF
    omega
def PSF (P : Nat → Int) (U t : Nat) (M M' : Nat → Nat → Int) (x : Int) (c : Nat) : Prop := (∀ a, a ≠ 9 → M' a = M a) ∧ rlx (nxF P U) (nB P) (glF U t) (vdF P U) (M' 9) ∧ (∀ j, M' 9 j ≤ M 9 j) ∧ (x = 0 → M' 9 = M 9 ∧ ∀ S, c ≤ S → S < 4096 → (∀ i, S.testBit i = true → U.testBit i = true) → ∀ m' b', m' < nM P → b' < nB P → frT P m' b' = true → M 9 (4096 * m' + S) ≤ M 9 (4096 * (P (25 + b')).toNat + tdN U S b') + 1) ∧ (x ≠ 0 → ∃ j, j < 32768 ∧ 0 ≤ M' 9 j ∧ M' 9 j < M 9 j)
theorem andnot0 {a x : Nat} (ha : a < 2147483648) (hx : x < 2147483648) : m_and (a : Int) (m_xor (x : Int) (-1)) = 0 ↔ ∀ i, a.testBit i = true → x.testBit i = true := by
  rw [m_andnot ha hx]
  constructor
  · intro h i hi
    have h0 : a ^^^ (a &&& x) = 0 := by omega
    have h1 : (a ^^^ (a &&& x)).testBit i = false := by rw [h0, Nat.zero_testBit]
    rw [Nat.testBit_xor, Nat.testBit_and, hi] at h1
    cases e : x.testBit i with
    | true => rfl
    | false => rw [e] at h1; cases h1
  · intro h
    have h0 : a ^^^ (a &&& x) = 0 := by
      apply Nat.eq_of_testBit_eq
      intro i
      rw [Nat.testBit_xor, Nat.testBit_and, Nat.zero_testBit]
      cases e : a.testBit i with
      | true => rw [h i e]; rfl
      | false => rfl
    rw [h0]; rfl
theorem sp_stillLoop (U t L : Nat) (hL : ∀ j, j < 32768 → j < L) (ok : okP P) (hU : U < 4096) : ∀ (N : Nat) (M : Nat → Nat → Int), smV (M 9) L < N → M 2 = P → M 1 21 = (useS P : Nat) → M 1 24 = (U : Nat) → rlx (nxF P U) (nB P) (glF U t) (vdF P U) (M 9) → (∀ M', (∀ a, a ≠ 9 → M' a = M a) → stlF P U t (M' 9) → Φ 0 M') → W12_laysStill_112 (d + 3) n Φ 0 4095 M := by
  intro N
  induction N with
  | zero => intro M h; exact absurd h (Nat.not_lt_zero _)
  | succ N ihN =>
    intro M hN hP hu h24 hr q
    have key : ∀ c, c ≤ 4096 → ∀ x M', PSF P U t M M' x c → W12_laysStill_112 (d + 3) n Φ x ((c : Int) - 1) M' := by
      intro c
      induction c with
      | zero =>
        intro _ x M' h
        apply v12_laysStill_112
        refine ⟨fun _ => ?_, fun cc => absurd (by omega) cc⟩
        apply v12_laysStill_101
        obtain ⟨h1, h2, h3, h4, h5⟩ := h
        refine ⟨fun e => q M' h1 ?_, fun e => ?_⟩
        · refine stlF_of ok h2 (fun S hS hsub => ?_)
          obtain ⟨e9, h6⟩ := h4 e
          rw [e9]
          exact h6 S (Nat.zero_le _) hS hsub
        · obtain ⟨j, j1, j2, j3⟩ := h5 e
          have hlt := smV_lt h3 j2 j3 L (hL j j1)
          exact ihN M' (by omega) ((h1 2 (by omega)).trans hP) (by rw [h1 1 (by omega)]; exact hu) (by rw [h1 1 (by omega)]; exact h24) h2 (fun M2 k1 k2 => q M2 (fun a ha => (k1 a ha).trans (h1 a ha)) k2)
      | succ c ih =>
        intro hc x M' h
        apply v12_laysStill_112
        obtain ⟨h1, h2, h3, h4, h5⟩ := h
        have a24 : M' 1 24 = (U : Nat) := by rw [h1 1 (by omega)]; exact h24
        rw [a24, show ((c + 1 : Nat) : Int) - 1 = (c : Int) by omega, show w32 ((c : Int) + -1) = (c : Int) - 1 by rw [w32_id (by omega) (by omega)]; omega]
        refine ⟨fun cc => absurd cc (by omega), fun _ => ⟨fun e => ?_, fun e => ?_⟩⟩
        · refine ih (by omega) x M' ⟨h1, h2, h3, fun z => ⟨(h4 z).1, fun S hS1 hS2 hsub => ?_⟩, h5⟩
          by_cases cS : S = c
          · subst cS
            exact absurd ((andnot0 (by omega) (by omega)).mpr hsub) e
          · exact (h4 z).2 S (by omega) hS2 hsub
        · have hsub := (andnot0 (a := c) (x := U) (by omega) (by omega)).mp (Decidable.not_not.mp e)
          refine sp_laysFarm U t c ((h1 2 (by omega)).trans hP) ok (by rw [h1 1 (by omega)]; exact hu) a24 hU (by omega) hsub h2 (fun r M2 hL => ?_)
          obtain ⟨l1, l2, l3, l4, l5, l6⟩ := hL
          refine ⟨fun er => ?_, fun er => ?_⟩
          · obtain ⟨e9, l7⟩ := l4 er
            refine ih (by omega) x M2 ⟨fun a ha => (l1 a ha).trans (h1 a ha), l2, fun j => by rw [e9]; exact h3 j, fun z => ⟨e9.trans (h4 z).1, fun S hS1 hS2 hsub' => ?_⟩, fun z => ?_⟩
            · by_cases cS : S = c
              · subst cS
                intro m' b' hm' hb' hf
                have := l7 m' b' (Or.inl hm') hm' hb' hf
                rw [(h4 z).1] at this
                exact this
              · exact (h4 z).2 S (by omega) hS2 hsub'
            · rw [e9]; exact h5 z
          · refine ih (by omega) 1 M2 ⟨fun a ha => (l1 a ha).trans (h1 a ha), l2, fun j => Int.le_trans (l3 j) (h3 j), fun z => absurd z (by omega), fun _ => ?_⟩
            obtain ⟨j, j1, j2, j3⟩ := l5 er
            exact ⟨j, j1, j2, Int.lt_of_lt_of_le j3 (h3 j)⟩
    refine key 4096 (Nat.le_refl _) 0 M ⟨fun _ _ => rfl, hr, fun j => Int.le_refl _, fun _ => ⟨rfl, fun S h1 h2 => ?_⟩, fun z => absurd rfl z⟩
    omega
theorem sp_laysStill (t : Nat) (x : Int) (hP : M 2 = P) (ok : okP P) (ht : t < nM P) (q : ∀ M', QN M M' → M' 1 21 = (useS P : Nat) → M' 1 24 = (fuM P x : Nat) → stlF P (fuM P x) t (M' 9) → Φ 0 M') : CR (d + 6) 265 [(2, 1), (0, (t : Int)), (0, x)] M n Φ := by
  obtain ⟨eB, hB⟩ := ok.nBe
  obtain ⟨eM, hM1, hM2⟩ := ok.nMe
  have hU := fuM_lt ok x
  refine e12_laysStill (sp_laysUsable hP ok (fun M1 h1 hu => ?_))
  have m1 : M1 2 = P := (h1.1 2 (by omega) (by omega) (by omega)).trans hP
  -- the values
  have fill : ∀ k, k ≤ 32768 → ∀ M', QN M M' → M' 1 21 = (useS P : Nat) → M' 1 24 = (fuM P x : Nat) → (∀ j, j < k → M' 9 j = 268435456) → W12_laysStill_62 (d + 5) n Φ (t : Nat) (k : Nat) M' := by
    refine up (fun M' g1 g2 g3 g4 => ?_) (fun k hk ih M' g1 g2 g3 g4 => ?_)
    · apply v12_laysStill_62
      rw [g3, w4096 (by omega) hU]
      refine ⟨fun _ => ⟨⟨by omega, by omega, trivial⟩, ?_⟩, fun c => absurd (by omega) c⟩
      rw [Int.toNat_natCast]
      apply v12_laysStill_101
      refine ⟨fun z => absurd z (by omega), fun _ => ?_⟩
      have hsg : ∀ s, vdF P (fuM P x) s → s < 32768 := fun s hs => by have := hs.1; omega
      obtain ⟨L, hL⟩ : ∃ L, ∀ j, j < 32768 → j < L := ⟨32768, fun _ h => h⟩
      refine sp_stillLoop (fuM P x) t L hL ok hU _ _ (Nat.lt_succ_self _) ((sI_row (by omega)).trans ((g1.1 2 (by omega) (by omega) (by omega) (by omega) (by omega)).trans hP)) ?_ ?_ ?_ (fun M2 k1 k2 => ?_)
      · rw [sI_row (by omega)]; exact g2
      · rw [sI_row (by omega)]; exact g3
      · rw [sI_p]
        refine ⟨fun s hs => ?_, fun s hs hg => ?_, fun s hs hl => ?_⟩
        · by_cases c : s = 4096 * t + fuM P x
          · rw [c, pset_eq]; omega
          · rw [pset_ne c, g4 s (hsg s hs)]; omega
        · have hg : s = 4096 * t + fuM P x := hg
          rw [hg, pset_eq]
        · by_cases c : s = 4096 * t + fuM P x
          · rw [c, pset_eq]; rfl
          · rw [pset_ne c, g4 s (hsg s hs)] at hl; omega
      · have e1 := k1 1 (by omega)
        rw [sI_row (by omega)] at e1
        exact q M2 (g1.trans ((QN.of9 (fun a ha => sI_row ha)).trans (QN.of9 k1))) (by rw [e1]; exact g2) (by rw [e1]; exact g3) k2
    · apply v12_laysStill_62
      rw [w32_s (by omega), Int.toNat_natCast]
      refine ⟨fun c => absurd c (by omega), fun _ => ⟨⟨by omega, by omega, trivial⟩, ?_⟩⟩
      refine ih _ (g1.trans (QN.of9 (fun a ha => sI_row ha))) (by rw [sI_row (by omega)]; exact g2) (by rw [sI_row (by omega)]; exact g3) (fun j hj => ?_)
      rw [sI_p]
      by_cases c : j = k
      · rw [c, pset_eq]
      · rw [pset_ne c]; exact g4 j (by omega)
  by_cases cx : x = 0
  · apply v12_laysStill_11
    have e0 : fuM P x = 0 := by unfold fuM; rw [if_pos cx]
    have := fill 0 (Nat.zero_le _) (sI M1 1 24 0) ((QN.ofU h1).trans (QN.put _ _)) (by rw [sI_ne (by omega)]; exact hu) (by rw [sI_same, e0]; rfl) (fun j hj => absurd hj (Nat.not_lt_zero _))
    exact ⟨fun _ => this, fun _ => ⟨fun _ => this, fun c => absurd cx c⟩⟩
  · have e0 : fuM P x = mustN P := by unfold fuM; rw [if_neg cx]
    have key : ∀ k, k ≤ nB P → ∀ M', QN M M' → M' 1 21 = (useS P : Nat) → M' 1 24 = (msk (fun b => decide (P (37 + b) = 1)) k : Nat) → W12_laysStill_11 (d + 5) n Φ (t : Nat) x (k : Nat) M' := by
      refine up (fun M' g1 g2 g3 => ?_) (fun k hk ih M' g1 g2 g3 => ?_)
      · apply v12_laysStill_11
        rw [(g1.1 2 (by omega) (by omega) (by omega) (by omega) (by omega)).trans hP, eB]
        exact ⟨fun _ => fill 0 (Nat.zero_le _) M' g1 g2 (by rw [e0]; exact g3) (fun j hj => absurd hj (Nat.not_lt_zero _)), fun c => absurd (Int.le_refl _) c⟩
      · apply v12_laysStill_11
        rw [(g1.1 2 (by omega) (by omega) (by omega) (by omega) (by omega)).trans hP, eB, w32_s (by omega), wA 37 k (37 + k) (by omega) (by omega), g3]
        simp only [Int.toNat_natCast]
        refine ⟨fun c => absurd c (by omega), fun _ => ⟨fun c => absurd c cx, fun _ => ⟨by omega, fun c => ?_, fun c => ?_⟩⟩⟩
        · rw [or_z (fun b => decide (P (37 + b) = 1)) (by omega) (decide_eq_false c)]
          exact ih _ (g1.trans (QN.put _ _)) (by rw [sI_ne (by omega)]; exact g2) (sI_same _ _ _ _)
        · rw [or_s (fun b => decide (P (37 + b) = 1)) (by omega) (decide_eq_true (Decidable.not_not.mp c))]
          exact ih _ (g1.trans (QN.put _ _)) (by rw [sI_ne (by omega)]; exact g2) (sI_same _ _ _ _)
    exact key 0 (Nat.zero_le _) (sI M1 1 24 0) ((QN.ofU h1).trans (QN.put _ _)) (by rw [sI_ne (by omega)]; exact hu) (sI_same _ _ _ _)
theorem sp_laysWay (f t : Nat) (x : Int) (hP : M 2 = P) (ok : okP P) (hf : f < nM P) (ht : t < nM P) (q : ∀ M', QN M M' → (∀ j : Nat, (j : Int) < wyD P (fuM P x) f t → M' 10 j = (wyL P (fuM P x) f t j : Nat)) → wyD P (fuM P x) f t < 104 → Φ (wyD P (fuM P x) f t) M') : CR (d + 7) 267 [(2, 1), (0, (f : Int)), (0, (t : Int)), (0, x)] M n Φ := by
  obtain ⟨eB, hB⟩ := ok.nBe
  obtain ⟨eM, hM1, hM2⟩ := ok.nMe
  have hU := fuM_lt ok x
  refine e12_laysWay (sp_laysStill t x hP ok ht (fun M1 g1 g2 g3 g4 => ?_))
  generalize fuM P x = U at *
  have m1 : M1 2 = P := (g1.1 2 (by omega) (by omega) (by omega) (by omega) (by omega)).trans hP
  have e4 : w32 (4096 * (f : Int)) = ((4096 * f : Nat) : Int) := by rw [w32_id (by omega) (by omega)]; omega
  have v0 : vdF P U (4096 * f) := ⟨by omega, fun i hi => by rw [show 4096 * f % 4096 = 0 by omega, Nat.zero_testBit] at hi; cases hi⟩
  rw [e4, Int.toNat_natCast]
  refine ⟨by omega, fun c => ?_, fun c => ?_⟩
  · rcases g4 _ v0 with ⟨N, hN1, hN2, hN3⟩ | ⟨hN, _⟩
    · have hD : wyD P U f t = (N : Int) := hN3
      rw [hN2]
      rw [hD] at q
      have key : ∀ k, k ≤ N → ∀ (M' : Nat → Nat → Int) (s : Nat), (∀ a, a ≠ 10 → M' a = M1 a) → (∀ j, j < k → M' 10 j = (wyL P U f t j : Nat)) → s = sG (nxF P U) (nB P) (glF U t) (4096 * f) k → vdF P U s → W12_laysWay_37 (d + 6) n Φ (N : Nat) ((s / 4096 : Nat) : Int) ((s % 4096 : Nat) : Int) (k : Nat) M' := by
        refine up (fun M' s k1 k2 k3 k4 => ?_) (fun k hk ih M' s k1 k2 k3 k4 => ?_)
        · apply v12_laysWay_37
          exact ⟨fun _ => q M' (g1.trans (QN.of10 k1)) (fun j hj => k2 j (by omega)) (by omega), fun c => absurd (Int.le_refl _) c⟩
        · apply v12_laysWay_37
          refine ⟨fun c => absurd c (by omega), fun _ => ?_⟩
          have hds : dG (nxF P U) (nB P) (glF U t) s = (N : Int) - (k : Int) := by rw [k3]; exact way_all hN3 k (by omega)
          obtain ⟨w1, s', w2, w3⟩ := way_step (n := N - k - 1) (s := s) (by rw [hds]; omega)
          have hl : lG (nxF P U) (nB P) (glF U t) s = wyL P U f t k := by unfold wyL; rw [k3]
          have hs4 : s % 4096 < 4096 := Nat.mod_lt _ (by omega)
          have hs8 := k4.1
          have m2 : M' 2 = P := (k1 2 (by omega)).trans m1
          have a21 : M' 1 21 = (useS P : Nat) := by rw [k1 1 (by omega)]; exact g2
          have a24 : M' 1 24 = (U : Nat) := by rw [k1 1 (by omega)]; exact g3
          have inn : ∀ b, b ≤ lG (nxF P U) (nB P) (glF U t) s → W12_laysWay_47 (d + 6) n Φ (N : Nat) ((s / 4096 : Nat) : Int) ((s % 4096 : Nat) : Int) (k : Nat) (b : Nat) M' := by
            have ew : w32 (w32 ((N : Int) - (k : Int)) - 1) = (N : Int) - (k : Int) - 1 := by
              rw [w32_id (x := (N : Int) - (k : Int)) (by omega) (by omega), w32_id (by omega) (by omega)]
            refine up ?_ (fun b hb ih2 => ?_)
            · apply v12_laysWay_47
              generalize lG (nxF P U) (nB P) (glF U t) s = b at *
              obtain ⟨x1, x2⟩ := nxF_some w2
              have hbt := ok.bit (b := b) (by omega)
              have et : P (25 + b) = (((P (25 + b)).toNat : Nat) : Int) := by omega
              have hlt := tdN_lt (U := U) (S := s % 4096) (b := b) hs4 (by omega)
              refine sp_isFrom b (s / 4096) m2 ok a21 w1 (br (fun e => ?_) (fun e => ?_))
              · rw [x1] at e; cases e
              · rw [wA 25 b (25 + b) (by omega) (by omega)]
                refine ⟨by omega, sp_told U (s % 4096) b a24 hU hs4 (by omega) ?_⟩
                rw [Int.toNat_natCast, m2, et, w4096 (by omega) hlt, ew]
                simp only [Int.toNat_natCast]
                have e9 : M' 9 = M1 9 := k1 9 (by omega)
                rw [← x2, e9]
                refine ⟨by omega, fun _ => ⟨⟨by omega, by omega, trivial⟩, by omega, ?_⟩, fun c => ?_⟩
                · refine sp_told U (s % 4096) b (by rw [sI_row (by omega)]; exact a24) hU hs4 (by omega) ?_
                  have v' := vdF_c ok s b s' k4 w1 w2
                  have := ih (sI M' 10 k (b : Int)) s' (fun a ha => (sI_row ha).trans (k1 a ha)) (fun j hj => ?_) ?_ v'
                  · rw [sI_row (by omega), m2, et, w32_s (by omega)]
                    rw [show s' / 4096 = (P (25 + b)).toNat by omega, show s' % 4096 = tdN U (s % 4096) b by omega] at this
                    exact this
                  · rw [sI_p]
                    by_cases cj : j = k
                    · rw [cj, pset_eq, hl]
                    · rw [pset_ne cj]; exact k2 j (by omega)
                  · show s' = (nxF P U (sG (nxF P U) (nB P) (glF U t) (4096 * f) k) (lG (nxF P U) (nB P) (glF U t) (sG (nxF P U) (nB P) (glF U t) (4096 * f) k))).getD 0
                    have hl2 : lG (nxF P U) (nB P) (glF U t) (sG (nxF P U) (nB P) (glF U t) (4096 * f) k) = b := hl.symm
                    rw [hl2, ← k3, w2]; rfl
                · have v' := vdF_c ok s b s' k4 w1 w2
                  rcases g4 s' v' with ⟨k', _, z1, z2⟩ | ⟨_, z2⟩
                  · omega
                  · omega
            · apply v12_laysWay_47
              have hbB : b < nB P := by omega
              have hbt := ok.bit (b := b) (by omega)
              have et : P (25 + b) = (((P (25 + b)).toNat : Nat) : Int) := by omega
              have hlt := tdN_lt (U := U) (S := s % 4096) (b := b) hs4 (by omega)
              rw [w32_s (k := b) (by omega)]
              refine sp_isFrom b (s / 4096) m2 ok a21 hbB (br (fun e => ih2) (fun e => ?_))
              rw [wA 25 b (25 + b) (by omega) (by omega)]
              refine ⟨by omega, sp_told U (s % 4096) b a24 hU hs4 (by omega) ?_⟩
              rw [Int.toNat_natCast, m2, et, w4096 (by omega) hlt, ew]
              simp only [Int.toNat_natCast]
              refine ⟨by omega, fun c => ?_, fun _ => ih2⟩
              exfalso
              have e9 : M' 9 = M1 9 := k1 9 (by omega)
              rw [e9] at c
              have hnx : nxF P U s b = some (4096 * (P (25 + b)).toNat + tdN U (s % 4096) b) := by unfold nxF; rw [if_pos e]
              have v' := vdF_c ok s b _ k4 hbB hnx
              rcases g4 _ v' with ⟨k', z0, z1, z2⟩ | ⟨z1, z2⟩
              · exact lG_min hb hnx (by omega) (by omega)
              · omega
          exact inn 0 (Nat.zero_le _)
      have := key 0 (Nat.zero_le _) M1 (4096 * f) (fun _ _ => rfl) (fun j hj => absurd hj (Nat.not_lt_zero _)) rfl v0
      rw [show 4096 * f / 4096 = f by omega, show 4096 * f % 4096 = 0 by omega] at this
      exact this
    · rw [hN] at c; omega
  · rcases g4 _ v0 with ⟨N, hN1, hN2, hN3⟩ | ⟨hN, hD⟩
    · omega
    · have hD : wyD P U f t = -1 := hD
      rw [hD] at q
      exact q M1 g1 (fun j hj => by omega) (by omega)
noncomputable def zFew (P : Nat → Int) (U : Nat) (x y : Int) : Int := if (0 ≤ x ∧ x < P 2) ∧ 0 ≤ y ∧ y < P 2 then wyD P U x.toNat y.toNat else -2
noncomputable def zWay (P : Nat → Int) (U : Nat) (x y i : Int) : Int := if (0 ≤ x ∧ x < P 2) ∧ 0 ≤ y ∧ y < P 2 then (if 0 ≤ i then (if i < wyD P U x.toNat y.toNat then (wyL P U x.toNat y.toNat i.toNat : Nat) else -1) else -3) else -2
theorem r_fewest (x y : Int) (hP : M 2 = P) (ok : okP P) (q : ∀ M', KR M M' → M' 2 = P → Φ (zFew P 0 x y) M') : CR (d + 8) 269 [(2, 1), (0, x), (0, y)] M n Φ := by
  obtain ⟨eM, hM1, hM2⟩ := ok.nMe
  have h0 : KR M (sI M 1 0 0) := KR.one (by omega)
  have m0 : (sI M 1 0 0) 2 = P := (sI_row (by omega)).trans hP
  unfold zFew at q
  refine e12_fewest (sp_areMoments x y m0 ok (br (fun e => ?_) (fun e => ?_)))
  · rw [if_neg (of_decide_eq_false e)] at q
    exact q _ h0 m0
  · have e := of_decide_eq_true e
    rw [if_pos e] at q
    have ex : x = (x.toNat : Int) := by omega
    have ey : y = (y.toNat : Int) := by omega
    have hx : x.toNat < nM P := by omega
    have hy : y.toNat < nM P := by omega
    generalize x.toNat = a at *
    generalize y.toNat = b at *
    subst ex ey
    exact sp_laysWay a b 0 m0 ok hx hy (fun M1 g1 _ _ => q M1 (h0.trans (KR.ofN g1)) ((g1.1 2 (by omega) (by omega) (by omega) (by omega) (by omega)).trans m0))
theorem r_full (x y : Int) (hP : M 2 = P) (ok : okP P) (q : ∀ M', KR M M' → M' 2 = P → Φ (zFew P (mustN P) x y) M') : CR (d + 8) 275 [(2, 1), (0, x), (0, y)] M n Φ := by
  obtain ⟨eM, hM1, hM2⟩ := ok.nMe
  have h0 : KR M (sI M 1 0 0) := KR.one (by omega)
  have m0 : (sI M 1 0 0) 2 = P := (sI_row (by omega)).trans hP
  unfold zFew at q
  refine e12_full (sp_areMoments x y m0 ok (br (fun e => ?_) (fun e => ?_)))
  · rw [if_neg (of_decide_eq_false e)] at q
    exact q _ h0 m0
  · have e := of_decide_eq_true e
    rw [if_pos e] at q
    have ex : x = (x.toNat : Int) := by omega
    have ey : y = (y.toNat : Int) := by omega
    have hx : x.toNat < nM P := by omega
    have hy : y.toNat < nM P := by omega
    generalize x.toNat = a at *
    generalize y.toNat = b at *
    subst ex ey
    exact sp_laysWay a b 1 m0 ok hx hy (fun M1 g1 _ _ => q M1 (h0.trans (KR.ofN g1)) ((g1.1 2 (by omega) (by omega) (by omega) (by omega) (by omega)).trans m0))
theorem sp_wayAt (x y i v : Int) (hP : M 2 = P) (ok : okP P) (q : ∀ M', KR M M' → M' 2 = P → Φ (zWay P (fuM P v) x y i) M') : CR (d + 8) 270 [(2, 1), (0, x), (0, y), (0, i), (0, v)] M n Φ := by
  obtain ⟨eM, hM1, hM2⟩ := ok.nMe
  unfold zWay at q
  refine e12_wayAt (sp_areMoments x y hP ok (br' (fun e => ?_) (fun e => ?_)))
  · have e := of_decide_eq_true e
    rw [if_pos e] at q
    have ex : x = (x.toNat : Int) := by omega
    have ey : y = (y.toNat : Int) := by omega
    have hx : x.toNat < nM P := by omega
    have hy : y.toNat < nM P := by omega
    generalize x.toNat = a at *
    generalize y.toNat = b at *
    subst ex ey
    refine ⟨fun c => ?_, fun c => ?_⟩
    · rw [if_pos c] at q
      refine sp_laysWay a b v hP ok hx hy (fun M1 g1 g2 g3 => ?_)
      have q1 := q M1 (KR.ofN g1) ((g1.1 2 (by omega) (by omega) (by omega) (by omega) (by omega)).trans hP)
      refine ⟨fun c2 => ?_, fun c2 => ?_⟩
      · rw [if_neg (by omega)] at q1; exact q1
      · rw [if_pos (by omega), ← g2 i.toNat (by omega)] at q1
        exact ⟨by omega, q1⟩
    · rw [if_neg c] at q
      exact q M (KR.refl M) hP
  · rw [if_neg (of_decide_eq_false e)] at q
    exact q M (KR.refl M) hP
theorem r_way (x y i : Int) (hP : M 2 = P) (ok : okP P) (q : ∀ M', KR M M' → M' 2 = P → Φ (zWay P 0 x y i) M') : CR (d + 9) 271 [(2, 1), (0, x), (0, y), (0, i)] M n Φ := by
  have h0 : KR M (sI M 1 0 0) := KR.one (by omega)
  have m0 : (sI M 1 0 0) 2 = P := (sI_row (by omega)).trans hP
  exact e12_way (sp_wayAt x y i 0 m0 ok (fun M1 g1 g2 => q M1 (h0.trans g1) g2))
theorem r_fullWay (x y i : Int) (hP : M 2 = P) (ok : okP P) (q : ∀ M', KR M M' → M' 2 = P → Φ (zWay P (mustN P) x y i) M') : CR (d + 9) 276 [(2, 1), (0, x), (0, y), (0, i)] M n Φ := by
  have h0 : KR M (sI M 1 0 0) := KR.one (by omega)
  have m0 : (sI M 1 0 0) 2 = P := (sI_row (by omega)).trans hP
  exact e12_fullWay (sp_wayAt x y i 1 m0 ok (fun M1 g1 g2 => q M1 (h0.trans g1) g2))
end
