/-! ===== the game: what is answered ===== -/
def nxN (P : Nat → Int) (t : Nat) : Nat := if t + 1 < nF P then t + 1 else 0
def gmT (P : Nat → Int) (t m b : Nat) : Bool := mayT P t b && decide (frN P b = m)
/-- what a turn leads to -/
def gst (P : Nat → Int) (fr : Nat) (W : Nat → Nat → Bool) (m t : Nat) : Bool := if anyB (gmT P t m) (nB P) = true then (if inS fr t = true then anyB (fun b => gmT P t m b && W (toN P b) (nxN P t)) (nB P) else !(anyB (fun b => gmT P t m b && !(W (toN P b) (nxN P t))) (nB P))) else W m (nxN P t)
/-- it is forced within so many turns -/
def wn (P : Nat → Int) (fr g : Nat) : Nat → Nat → Nat → Bool
  | 0 => fun m _ => decide (m = g)
  | k + 1 => fun m t => wn P fr g k m t || gst P fr (wn P fr g k) m t
theorem nxN_lt {P : Nat → Int} (ok : okP P) {t : Nat} (ht : t < nF P) : nxN P t < nF P := by
  have := ok.nFe
  unfold nxN
  split <;> omega
theorem wn_mono {P : Nat → Int} {fr g k m t : Nat} (h : wn P fr g k m t = true) : wn P fr g (k + 1) m t = true := by
  show (wn P fr g k m t || gst P fr (wn P fr g k) m t) = true
  rw [h]; rfl
theorem wn_le {P : Nat → Int} {fr g k m t : Nat} (h : wn P fr g k m t = true) : ∀ j, wn P fr g (k + j) m t = true
  | 0 => h
  | j + 1 => wn_mono (wn_le h j)
theorem wn_le' {P : Nat → Int} {fr g k l m t : Nat} (h : wn P fr g k m t = true) (hl : k ≤ l) : wn P fr g l m t = true := by
  have := wn_le h (l - k)
  rw [show k + (l - k) = l by omega] at this
  exact this
theorem wn_goal {P : Nat → Int} {fr g t : Nat} (k : Nat) : wn P fr g k g t = true := wn_le' (k := 0) (decide_eq_true rfl) (Nat.zero_le _)
/-- places of the game -/
def vl (P : Nat → Int) (m t : Nat) : Prop := m < nM P ∧ t < nF P
theorem stp_ext {P : Nat → Int} (ok : okP P) {fr m t : Nat} {W W' : Nat → Nat → Bool} (hv : vl P m t) (h : ∀ m t, vl P m t → W m t = W' m t) : gst P fr W m t = gst P fr W' m t := by
  have hn := nxN_lt ok hv.2
  have hB := ok.nBe
  have hM := ok.nMe
  have e : ∀ b, b < nB P → W (toN P b) (nxN P t) = W' (toN P b) (nxN P t) := by
    intro b hb
    have := ok.bit (b := b) (by omega)
    exact h _ _ ⟨by unfold toN; omega, hn⟩
  have ea : ∀ (f g : Nat → Bool) n, (∀ b, b < n → f b = g b) → anyB f n = anyB g n := by
    intro f g n
    induction n with
    | zero => intro _; rfl
    | succ n ih => intro h; show (anyB f n || f n) = (anyB g n || g n); rw [ih (fun b hb => h b (by omega)), h n (by omega)]
  unfold gst
  rw [ea (fun b => gmT P t m b && W (toN P b) (nxN P t)) (fun b => gmT P t m b && W' (toN P b) (nxN P t)) (nB P) (fun b hb => by rw [e b hb]), ea (fun b => gmT P t m b && !(W (toN P b) (nxN P t))) (fun b => gmT P t m b && !(W' (toN P b) (nxN P t))) (nB P) (fun b hb => by rw [e b hb]), h _ _ ⟨hv.1, hn⟩]
/-- nothing more is forced by one turn more -/
def stb (P : Nat → Int) (fr g r : Nat) : Prop := ∀ m t, vl P m t → wn P fr g (r + 1) m t = wn P fr g r m t
theorem stb_all {P : Nat → Int} (ok : okP P) {fr g r : Nat} (h : stb P fr g r) : ∀ j m t, vl P m t → wn P fr g (r + j) m t = wn P fr g r m t
  | 0, _, _, _ => rfl
  | j + 1, m, t, hv => by
    have ih := stb_all ok h j
    show (wn P fr g (r + j) m t || gst P fr (wn P fr g (r + j)) m t) = _
    rw [ih m t hv, stp_ext ok hv ih]
    exact h m t hv
/-- within how many turns, -1 -/
def frc (P : Nat → Int) (fr g m t : Nat) : Int := if wn P fr g 64 m t = true then ((fstB (fun k => wn P fr g k m t) 65 : Nat) : Int) else -1
theorem frc_lt {P : Nat → Int} {fr g m t k : Nat} (h : wn P fr g k m t = true) (h0 : ∀ j, j < k → wn P fr g j m t = false) (hk : k ≤ 64) : frc P fr g m t = (k : Int) := by
  unfold frc
  rw [if_pos (wn_le' h hk)]
  obtain ⟨f1, f2, f3⟩ := fstB_all (fun k => wn P fr g k m t) 65
  generalize fstB (fun k => wn P fr g k m t) 65 = x at f1 f2 f3
  rcases Nat.lt_trichotomy x k with c | c | c
  · have := f2 (by omega)
    rw [h0 x c] at this
    cases this
  · rw [c]
  · have := f3 k c
    rw [h] at this
    cases this
theorem frc_no {P : Nat → Int} {fr g m t : Nat} (h : wn P fr g 64 m t = false) : frc P fr g m t = -1 := by
  unfold frc
  rw [if_neg (by rw [h]; decide)]
/-- what a number of turns tells -/
def isD (r : Nat) (v : Int) (Q : Nat → Prop) : Prop := 0 ≤ v ∧ (v ≤ (r : Int) ∨ v = 268435456) ∧ ∀ k, k ≤ r → (v ≤ (k : Int) ↔ Q k)
theorem isD.min {r : Nat} {v u : Int} {Q R : Nat → Prop} (hr : r ≤ 1000) (h : isD r v Q) (h2 : isD r u R) : isD r (if u < v then u else v) (fun k => Q k ∨ R k) := by
  obtain ⟨a1, a2, a3⟩ := h
  obtain ⟨b1, b2, b3⟩ := h2
  refine ⟨by split <;> omega, by split <;> omega, fun k hk => ?_⟩
  have := a3 k hk
  have := b3 k hk
  split
  · rename_i c
    constructor
    · intro z; exact Or.inr ((b3 k hk).mp z)
    · rintro (z | z)
      · have := (a3 k hk).mpr z; omega
      · exact (b3 k hk).mpr z
  · rename_i c
    constructor
    · intro z; exact Or.inl ((a3 k hk).mp z)
    · rintro (z | z)
      · exact (a3 k hk).mpr z
      · have := (b3 k hk).mpr z; omega
theorem isD.max {r : Nat} {v u : Int} {Q R : Nat → Prop} (hr : r ≤ 1000) (h : isD r v Q) (h2 : isD r u R) : isD r (if v < u then u else v) (fun k => Q k ∧ R k) := by
  obtain ⟨a1, a2, a3⟩ := h
  obtain ⟨b1, b2, b3⟩ := h2
  refine ⟨by split <;> omega, by split <;> omega, fun k hk => ?_⟩
  split
  · rename_i c
    constructor
    · intro z; exact ⟨(a3 k hk).mp (by omega), (b3 k hk).mp z⟩
    · rintro ⟨z, y⟩; exact (b3 k hk).mpr y
  · rename_i c
    constructor
    · intro z; exact ⟨(a3 k hk).mp z, (b3 k hk).mp (by omega)⟩
    · rintro ⟨z, y⟩; exact (a3 k hk).mpr z
theorem isD.ext {r : Nat} {v : Int} {Q R : Nat → Prop} (h : isD r v Q) (e : ∀ k, k ≤ r → (Q k ↔ R k)) : isD r v R := ⟨h.1, h.2.1, fun k hk => (h.2.2 k hk).trans (e k hk)⟩
/-- one turn more -/
theorem isD.suc {r : Nat} {v : Int} {Q : Nat → Prop} (hr : r ≤ 1000) (h : isD r v Q) : isD (r + 1) (if v < 268435456 then v + 1 else 268435456) (fun k => 1 ≤ k ∧ Q (k - 1)) := by
  obtain ⟨a1, a2, a3⟩ := h
  refine ⟨by split <;> omega, by split <;> omega, fun k hk => ?_⟩
  by_cases c : v < 268435456
  · rw [if_pos c]
    constructor
    · intro z
      refine ⟨by omega, (a3 (k - 1) (by omega)).mp (by omega)⟩
    · rintro ⟨z, y⟩
      have := (a3 (k - 1) (by omega)).mpr y
      omega
  · rw [if_neg c]
    constructor
    · intro z; omega
    · rintro ⟨z, y⟩
      have := (a3 (k - 1) (by omega)).mpr y
      omega
theorem isD.lift {r : Nat} {v u : Int} {P : Nat → Int} {fr g m t : Nat} (hr : r ≤ 1000) (h : isD r v (fun k => wn P fr g k m t = true)) (h2 : isD (r + 1) u (fun k => 1 ≤ k ∧ gst P fr (wn P fr g (k - 1)) m t = true)) : isD (r + 1) (if u < v then u else v) (fun k => wn P fr g k m t = true) ∧ (u < v → wn P fr g (r + 1) m t = true ∧ wn P fr g r m t = false) ∧ (¬ (u < v) → wn P fr g (r + 1) m t = wn P fr g r m t) := by
  obtain ⟨a1, a2, a3⟩ := h
  obtain ⟨b1, b2, b3⟩ := h2
  dsimp only at a3 b3
  have ws : ∀ k, wn P fr g (k + 1) m t = true ↔ wn P fr g k m t = true ∨ gst P fr (wn P fr g k) m t = true := by
    intro k
    show (wn P fr g k m t || gst P fr (wn P fr g k) m t) = true ↔ _
    rw [Bool.or_eq_true]
  have iff : ∀ k, k ≤ r + 1 → ((v ≤ (k : Int) ∨ u ≤ (k : Int)) ↔ wn P fr g k m t = true) := by
    intro k hk
    cases k with
    | zero =>
      have h0 := a3 0 (by omega)
      have h1 := b3 0 (by omega)
      constructor
      · rintro (z | z)
        · exact h0.mp z
        · exact absurd (h1.mp z).1 (by omega)
      · intro z; exact Or.inl (h0.mpr z)
    | succ k =>
      have h1 := b3 (k + 1) (by omega)
      rw [show k + 1 - 1 = k by omega] at h1
      rw [ws k]
      constructor
      · rintro (z | z)
        · by_cases c : v ≤ (k : Int)
          · exact Or.inl ((a3 k (by omega)).mp c)
          · by_cases c2 : k + 1 ≤ r
            · have := (a3 (k + 1) c2).mp z
              exact (ws k).mp this
            · omega
        · exact Or.inr (h1.mp z).2
      · rintro (z | z)
        · have := (a3 k (by omega)).mpr z
          exact Or.inl (by omega)
        · exact Or.inr (h1.mpr ⟨by omega, z⟩)
  refine ⟨⟨by split <;> omega, by split <;> omega, fun k hk => ?_⟩, fun c => ?_, fun c => ?_⟩
  · show (if u < v then u else v) ≤ (k : Int) ↔ wn P fr g k m t = true
    rw [← iff k hk]
    split <;> omega
  · have hv : v = 268435456 := by
      rcases a2 with z | z
      · exfalso
        have h1 := (a3 u.toNat (by omega)).mpr ((iff u.toNat (by omega)).mp (Or.inr (by omega)))
        omega
      · exact z
    refine ⟨(iff (r + 1) (by omega)).mp (Or.inr (by omega)), ?_⟩
    cases e : wn P fr g r m t with
    | false => rfl
    | true => have := (a3 r (by omega)).mpr e; omega
  · cases e : wn P fr g r m t with
    | true => exact wn_mono e
    | false =>
      cases e2 : wn P fr g (r + 1) m t with
      | false => rfl
      | true =>
        exfalso
        have h1 := (iff (r + 1) (by omega)).mpr e2
        have h2 : v ≤ ((r + 1 : Nat) : Int) := by omega
        have h3 : v ≤ (r : Int) := by omega
        have := (a3 r (by omega)).mp h3
        rw [e] at this
        cases this
/-- how many places are won -/
def wnI (P : Nat → Int) (fr g r i : Nat) : Bool := decide (i / 8 < nM P ∧ i % 8 < nF P) && wn P fr g r (i / 8) (i % 8)
def cw (P : Nat → Int) (fr g r : Nat) : Nat := cntB (wnI P fr g r) 64
theorem cnt_grow {p q : Nat → Bool} (h : ∀ i, p i = true → q i = true) {a : Nat} (ha : p a = false) (hb : q a = true) : ∀ n, (cntB p n ≤ cntB q n) ∧ (a < n → cntB p n < cntB q n)
  | 0 => ⟨Nat.le_refl _, fun h => absurd h (Nat.not_lt_zero a)⟩
  | n + 1 => by
    obtain ⟨h1, h2⟩ := cnt_grow h ha hb n
    have h3 : (if p n then 1 else 0) ≤ (if q n then 1 else 0) := by
      cases e : p n with
      | true => rw [h n e]; exact Nat.le_refl _
      | false => exact Nat.zero_le _
    show cntB p n + (if p n then 1 else 0) ≤ cntB q n + (if q n then 1 else 0) ∧ (a < n + 1 → cntB p n + (if p n then 1 else 0) < cntB q n + (if q n then 1 else 0))
    refine ⟨by omega, fun hn => ?_⟩
    by_cases c : a = n
    · subst c
      rw [ha, hb]
      show cntB p a + 0 < cntB q a + 1
      omega
    · have := h2 (by omega); omega
theorem cw_grow {P : Nat → Int} (ok : okP P) {fr g r m t : Nat} (hv : vl P m t) (h1 : wn P fr g (r + 1) m t = true) (h2 : wn P fr g r m t = false) : cw P fr g r < cw P fr g (r + 1) := by
  have hM := ok.nMe
  have hF := ok.nFe
  have e1 : (8 * m + t) / 8 = m := by have := hv.2; omega
  have e2 : (8 * m + t) % 8 = t := by have := hv.2; omega
  refine (cnt_grow (p := wnI P fr g r) (q := wnI P fr g (r + 1)) (a := 8 * m + t) (fun i hi => ?_) ?_ ?_ 64).2 (by have := hv.1; have := hv.2; omega)
  · unfold wnI at hi ⊢
    rw [Bool.and_eq_true] at hi ⊢
    exact ⟨hi.1, wn_mono hi.2⟩
  · unfold wnI
    rw [e1, e2, h2, Bool.and_false]
  · unfold wnI
    rw [e1, e2, h1, decide_eq_true (show m < nM P ∧ t < nF P from hv)]
    rfl
theorem cw_le (P : Nat → Int) (fr g r : Nat) : cw P fr g r ≤ 64 := cntB_le _ _
/-- the answers -/
noncomputable def zForces (P : Nat → Int) (f m : Int) : Int := if (0 ≤ f ∧ f < P 1) ∧ 0 ≤ m ∧ m < P 2 then frc P (2 ^ f.toNat) m.toNat (P (68 + f.toNat)).toNat (P 65).toNat else -2
def pwT (P : Nat → Int) (f m : Nat) : Bool := decide (frc P (2 ^ f) m (P (68 + f)).toNat (P 65).toNat ≠ -1)
def zPower (P : Nat → Int) (f : Int) : Int := if 0 ≤ f ∧ f < P 1 then (msk (pwT P f.toNat) (nM P) : Nat) else -2
def bsT (P : Nat → Int) (f m k b : Nat) : Bool := canT P f b && wn P (2 ^ f) m k (toN P b) (nxN P f)
def zBest (P : Nat → Int) (f m : Int) : Int := if (0 ≤ f ∧ f < P 1) ∧ 0 ≤ m ∧ m < P 2 then (if P 65 = f then (if 0 < frc P (2 ^ f.toNat) m.toNat (P (68 + f.toNat)).toNat (P 65).toNat then (if fstB (bsT P f.toNat m.toNat (frc P (2 ^ f.toNat) m.toNat (P (68 + f.toNat)).toNat (P 65).toNat - 1).toNat) (nB P) < nB P then ((fstB (bsT P f.toNat m.toNat (frc P (2 ^ f.toNat) m.toNat (P (68 + f.toNat)).toNat (P 65).toNat - 1).toNat) (nB P) : Nat) : Int) else -1) else -1) else -5) else -2
def alT (P : Nat → Int) (f m g : Nat) : Bool := decide (g ≠ f ∧ frc P (2 ^ f ||| 2 ^ g) m (P (68 + f)).toNat (P 65).toNat ≠ -1)
def zAlly (P : Nat → Int) (f m : Int) : Int := if (0 ≤ f ∧ f < P 1) ∧ 0 ≤ m ∧ m < P 2 then (if frc P (2 ^ f.toNat) m.toNat (P (68 + f.toNat)).toNat (P 65).toNat = -1 then (if fstB (alT P f.toNat m.toNat) (nF P) < nF P then ((fstB (alT P f.toNat m.toNat) (nF P) : Nat) : Int) else -1) else -1) else -2
/-- one's own turn: no bit leads there sooner than the fewest turns tell -/
theorem bs_no {P : Nat → Int} {f m k b : Nat} (hb : b < nB P) (hk : wn P (2 ^ f) m (k + 1) (P (68 + f)).toNat f = false) (hc : canT P f b = true) (h13 : P (13 + b) = P (68 + f)) : wn P (2 ^ f) m k (toN P b) (nxN P f) = false := by
  cases e : wn P (2 ^ f) m k (toN P b) (nxN P f) with
  | false => rfl
  | true =>
    exfalso
    have hk : (wn P (2 ^ f) m k (P (68 + f)).toNat f || gst P (2 ^ f) (wn P (2 ^ f) m k) (P (68 + f)).toNat f) = false := hk
    rw [Bool.or_eq_false_iff] at hk
    have hg : gmT P f (P (68 + f)).toNat b = true := by
      unfold canT at hc
      rw [Bool.and_eq_true] at hc
      unfold gmT frN
      rw [hc.2, h13, decide_eq_true rfl]
      rfl
    have h1 : anyB (gmT P f (P (68 + f)).toNat) (nB P) = true := (anyB_iff _ _).mpr ⟨b, hb, hg⟩
    have h2 : inS (2 ^ f) f = true := by rw [inS_tb, Nat.testBit_two_pow]; exact decide_eq_true rfl
    have h3 := hk.2
    unfold gst at h3
    rw [if_pos h1, if_pos h2] at h3
    have h4 : anyB (fun b => gmT P f (P (68 + f)).toNat b && wn P (2 ^ f) m k (toN P b) (nxN P f)) (nB P) = true := (anyB_iff _ _).mpr ⟨b, hb, by rw [hg, e]; rfl⟩
    rw [h4] at h3
    cases h3
