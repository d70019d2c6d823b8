/-! ===== two come at one: the class ===== -/
def swp (s : Nat) : Nat := 8 * (s % 8) + s / 8
theorem sim_J {P : Nat → Int} (ok : okP P) {f g : Nat} (hne : f ≠ g) : simG (nxJ P f g) (nxJ P g f) (2 * nB P) glJ glJ vdJ swp := by
  have hM := ok.nMe
  have hB := ok.nBe
  refine ⟨fun s k hs hk => ?_, fun s k s' h1 h2 h3 => nxJ_lt ok s k s' h1 h2 h3, fun s hs => ?_⟩
  · have hs : s < 64 := hs
    have hb := btJ_lt hk
    have hbt := ok.bit (b := btJ P k) (by omega)
    have ew : whJ P g f k = whJ P f g k := by unfold whJ; split <;> omega
    have e1 : swp s / 8 = s % 8 := by unfold swp; omega
    have e2 : swp s % 8 = s / 8 := by unfold swp; omega
    unfold nxJ
    rw [ew]
    have hw := whJ_or (P := P) (k := k) hne
    generalize whJ P f g k = who at *
    generalize btJ P k = b at *
    unfold jnO
    rw [e1, e2]
    have e3 : (if who = g then s % 8 else s / 8) = (if who = f then s / 8 else s % 8) := by
      rcases hw with ⟨h1, h2⟩ | ⟨h1, h2⟩
      · rw [if_neg h2, if_pos h1]
      · rw [if_pos h1, if_neg h2]
    rw [e3]
    by_cases c : P (13 + b) = ((if who = f then s / 8 else s % 8 : Nat) : Int) ∧ mayT P who b = true
    · rw [if_pos c, if_pos c]
      have l1 : (if who = f ∨ hrs P f g = true then (P (25 + b)).toNat else s / 8) < 8 := by split <;> omega
      have l2 : (if who = g ∨ hrs P g f = true then (P (25 + b)).toNat else s % 8) < 8 := by split <;> omega
      show some _ = some (swp _)
      generalize (if who = f ∨ hrs P f g = true then (P (25 + b)).toNat else s / 8) = y1 at *
      generalize (if who = g ∨ hrs P g f = true then (P (25 + b)).toNat else s % 8) = y2 at *
      unfold swp
      congr 1
      omega
    · rw [if_neg c, if_neg c]; rfl
  · have hs : s < 64 := hs
    show swp s / 8 = swp s % 8 ↔ s / 8 = s % 8
    unfold swp
    omega
theorem jn_sym {P : Nat → Int} (ok : okP P) {f g : Nat} (hf : f < 8) (hg : g < 8) (hne : f ≠ g) : jnD P g f = jnD P f g ∧ ∀ j : Nat, (j : Int) < jnD P f g → jnL P g f j = jnL P f g j := by
  have hsim := sim_J ok hne
  have af := ok.at hf
  have ag := ok.at hg
  have hM := ok.nMe
  have hen : swp (8 * (P (68 + f)).toNat + (P (68 + g)).toNat) = 8 * (P (68 + g)).toNat + (P (68 + f)).toNat := by unfold swp; omega
  have hv : vdJ (8 * (P (68 + f)).toNat + (P (68 + g)).toNat) := by
    show _ < 64
    omega
  have hd := sim_d hsim hv
  rw [hen] at hd
  refine ⟨hd, fun j hj => ?_⟩
  have hD : dG (nxJ P f g) (2 * nB P) glJ (8 * (P (68 + f)).toNat + (P (68 + g)).toNat) = ((jnD P f g).toNat : Int) := by
    show jnD P f g = _
    omega
  have s1 := sim_s hsim hv hD j (by omega)
  rw [hen] at s1
  have s2 := sim_l hsim s1.2
  unfold jnL
  rw [s1.1, s2]
  unfold ddJ whJ
  rw [Nat.min_comm, Nat.max_comm]
/-- the goal is the first pair at one -/
def GC (M : Nat → Nat → Int) (q : Nat → Nat) (t : Nat) : Prop := (M 93 0 = -1 ∧ ∀ i, i < t → ¬ glJ (q i)) ∨ (∃ gi, gi < t ∧ M 93 0 = (q gi : Int) ∧ glJ (q gi) ∧ ∀ i, i < gi → ¬ glJ (q i))
def KT (a b : Nat) (M M' : Nat → Nat → Int) : Prop := ∀ x, x ≠ 93 → x ≠ a → x ≠ b → M' x = M x
theorem KT.trans {a b : Nat} {M M' N : Nat → Nat → Int} (h : KT a b M M') (h2 : KT a b M' N) : KT a b M N := fun x h1 h3 h4 => (h2 x h1 h3 h4).trans (h x h1 h3 h4)
theorem BS_goal {a b L : Nat} {nx : gN} {K : Nat} {lb : Nat → Nat} {st : Nat} {M : Nat → Nat → Int} {h p k : Nat} {q pa la : Nat → Nat} {t : Nat} {x : Int} (ha : a ≠ 93) (hb : b ≠ 93) (B : BS a b L nx K lb st M h p k q pa la t) : BS a b L nx K lb st (sI M 93 0 x) h p k q pa la t := by
  obtain ⟨b0, b2, b3, b4, b5, b6⟩ := B
  exact ⟨⟨by rw [sI_ne (by omega)]; exact b0.1, by rw [sI_ne (by omega)]; exact b0.2⟩, by rw [sI_row hb]; exact b2, by rw [sI_row ha]; exact b3, by rw [sI_row ha]; exact b4, b5, b6⟩
section
variable {d : Nat} {n : Nat × Nat} {Φ : Int → (Nat → Nat → Int) → Prop} {M : Nat → Nat → Int} {w : cQ} {P : Nat → Int}
theorem c_markAtOne (v : Nat) (hv : v < 64) (q1 : M 93 0 = -1 → glJ v → Φ 0 (sI M 93 0 (v : Int))) (q2 : (M 93 0 ≠ -1 ∨ ¬ glJ v) → Φ 0 M) : CF (d + 1) 89 [(2, 13), (0, (v : Int))] w M n Φ := by
  have d3 : m_div (v : Int) 8 = ((v / 8 : Nat) : Int) := m_div_n (a := v) (b := 8) (by omega) (by omega) (by omega)
  have d4 : m_rem (v : Int) 8 = ((v % 8 : Nat) : Int) := m_rem_n (a := v) (b := 8) (by omega) (by omega) (by omega)
  apply e9_markAtOne
  rw [d3, d4]
  refine ⟨fun c => q2 (Or.inl c), fun c => ⟨fun c2 => q2 (Or.inr (fun z => ?_)), fun c2 => q1 (Decidable.not_not.mp c) ?_⟩⟩
  · have z : v / 8 = v % 8 := z
    omega
  · show v / 8 = v % 8
    omega
theorem c_offerPair {a b L st h p k t : Nat} {nx : gN} {K : Nat} {lb : Nat → Nat} {q pa la : Nat → Nat} (A : okA w a b L) (B : BS a b L nx K lb st M h p k q pa la t) (hp : p < t) (hk : k < K) {v : Nat} (hv : nx (q p) k = some v) (hv64 : v < 64) (hlb : lb k < 1023) (hq : ∀ i, i < t → q i < 64) (hG : GC M q t) (qq : ∀ M' q' pa' la' t', BS a b L nx K lb st M' h p (k + 1) q' pa' la' t' → t ≤ t' → (∀ i, i < t → q' i = q i) → (∀ i, i < t' → q' i < 64) → GC M' q' t' → KT a b M M' → Φ 0 M') : CF (d + 2) 88 [(2, 13), (0, (v : Int)), (0, (q p : Int)), (0, (lb k : Int))] w M n Φ := by
  have hL := A.2.2.2.2.2.2.2.1
  have ha : a ≠ 93 := by have := A.2.2.2.2.2.1; omega
  have hb : b ≠ 93 := by have := A.2.2.2.2.2.2.1; omega
  refine e9_offerPair (c_offer A B hp hk hv (by omega) hlb (fun M' q' pa' la' t' B' g1 g2 g3 g4 => ?_))
  have hin : ∃ j, j < t' ∧ q' j = v := B'.2.2.2.2.2 p k v (Or.inr ⟨rfl, by omega⟩) (by omega) hk (by rw [g2 p hp]; exact hv)
  have hq' : ∀ i, i < t' → q' i < 64 := fun i hi => by
    by_cases c : i < t
    · rw [g2 i c]; exact hq i c
    · rw [g3 i (by omega) hi]; exact hv64
  have kt : KT a b M M' := g4.1
  have e0 := g4.2
  refine c_markAtOne v hv64 (fun hm hg => ?_) (fun hm => ?_)
  · rcases hG with ⟨h1, h2⟩ | ⟨gi, h1, h2, h3, h4⟩
    · obtain ⟨j, hj1, hj2⟩ := hin
      have hjt : t ≤ j := by
        apply Decidable.byContradiction
        intro c
        have := h2 j (by omega)
        rw [← g2 j (by omega), hj2] at this
        exact this hg
      refine qq _ q' pa' la' t' (BS_goal ha hb B') g1 g2 hq' (Or.inr ⟨j, hj1, by rw [sI_same, hj2], by rw [hj2]; exact hg, fun i hi => ?_⟩) (kt.trans (fun x h1 _ _ => sI_row h1))
      by_cases c : i < t
      · rw [g2 i c]; exact h2 i c
      · have e1 := g3 i (by omega) (by omega)
        have e2 := B'.2.2.2.2.1.2.2.1 i j (by omega) hj1 (by rw [e1, hj2])
        omega
    · omega
  · refine qq M' q' pa' la' t' B' g1 g2 hq' ?_ kt
    rcases hG with ⟨h1, h2⟩ | ⟨gi, h1, h2, h3, h4⟩
    · refine Or.inl ⟨e0.trans h1, fun i hi => ?_⟩
      by_cases c : i < t
      · rw [g2 i c]; exact h2 i c
      · rw [g3 i (by omega) hi]
        rcases hm with hm | hm
        · exact absurd (e0.trans h1) hm
        · exact hm
    · exact Or.inr ⟨gi, by omega, by rw [e0, g2 gi h1]; exact h2, by rw [g2 gi h1]; exact h3, fun i hi => by rw [g2 i (by omega)]; exact h4 i hi⟩
theorem c_spreadLow {a b L st h p t lo hi : Nat} {q pa la : Nat → Nat} (A : okA w a b L) (B : BS a b L (nxJ P lo hi) (2 * nB P) (ddJ P lo hi) st M h p 0 q pa la t) (hp : p < t) (hlh : lo < hi) (hhi : hi < 8) (hq : ∀ i, i < t → q i < 64) (hG : GC M q t) (r : relW M P) (ok : okP P) (qq : ∀ M' q' pa' la' t', BS a b L (nxJ P lo hi) (2 * nB P) (ddJ P lo hi) st M' h p (nB P) q' pa' la' t' → t ≤ t' → (∀ i, i < t → q' i = q i) → (∀ i, i < t' → q' i < 64) → GC M' q' t' → KT a b M M' → Φ 0 M') : CF (d + 3) 86 [(2, 13), (0, (q p : Int)), (0, (lo : Int)), (0, (mayS P lo : Int)), (0, b2i (hrs P hi lo))] w M n Φ := by
  obtain ⟨eB, hB⟩ := ok.nBe
  obtain ⟨eM, hM1, hM2⟩ := ok.nMe
  have hA6 := A.2.2.2.2.2.1
  have hA7 := A.2.2.2.2.2.2.1
  have hs := hq p hp
  have hms : mayS P lo < 4096 := msk_lt12 _ hB
  have d3 : m_div (q p : Int) 8 = ((q p / 8 : Nat) : Int) := m_div_n (a := q p) (b := 8) (by omega) (by omega) (by omega)
  have d4 : m_rem (q p : Int) 8 = ((q p % 8 : Nat) : Int) := m_rem_n (a := q p) (b := 8) (by omega) (by omega) (by omega)
  have key : ∀ bb, bb ≤ nB P → ∀ (M1 : Nat → Nat → Int) (q1 pa1 la1 : Nat → Nat) (t1 : Nat), BS a b L (nxJ P lo hi) (2 * nB P) (ddJ P lo hi) st M1 h p bb q1 pa1 la1 t1 → t ≤ t1 → (∀ i, i < t → q1 i = q i) → (∀ i, i < t1 → q1 i < 64) → GC M1 q1 t1 → KT a b M M1 → W9_spreadLow_12 (d + 2) Φ (q p : Nat) (lo : Nat) (mayS P lo : Nat) (b2i (hrs P hi lo)) (bb : Nat) w M1 n := by
    refine up (fun M1 q1 pa1 la1 t1 B1 h1 h2 h3 h4 h5 => ?_) (fun bb hb ih M1 q1 pa1 la1 t1 B1 h1 h2 h3 h4 h5 => ?_)
    · apply v9_spreadLow_12
      have r1 : relW M1 P := r.congr (fun x hx1 hx2 => h5 x (by omega) (by omega) (by omega))
      rw [r1.B, eB]
      exact ⟨fun _ => qq M1 q1 pa1 la1 t1 B1 h1 h2 h3 h4 h5, fun c => absurd (Int.le_refl _) c⟩
    · apply v9_spreadLow_12
      have r1 : relW M1 P := r.congr (fun x hx1 hx2 => h5 x (by omega) (by omega) (by omega))
      have e2 : q1 p = q p := h2 p hp
      have hm' := m_bit (a := mayS P lo) (k := bb) (by omega) (by omega)
      have h2' : mayS P lo / 2 ^ bb % 2 < 2 := Nat.mod_lt _ (by omega)
      have eu : inS (mayS P lo) bb = mayT P lo bb := inS_msk _ hb
      have hbt := ok.bit (b := bb) (by omega)
      have ewh : whJ P lo hi bb = lo := by unfold whJ; rw [if_pos hb]; omega
      have ebj : btJ P bb = bb := by unfold btJ; rw [if_pos hb]
      obtain ⟨to, hto, hto8⟩ : ∃ t : Nat, P (25 + bb) = (t : Int) ∧ t < 8 := ⟨(P (25 + bb)).toNat, by omega, by omega⟩
      have edd : w32 (w32 ((lo : Int) * 100) + (bb : Int)) = ((ddJ P lo hi bb : Nat) : Int) := by
        rw [w32_id (x := (lo : Int) * 100) (by omega) (by omega), w32_id (by omega) (by omega)]
        unfold ddJ
        rw [ewh, ebj]
        omega
      have hlb : ddJ P lo hi bb < 1023 := by unfold ddJ; rw [ewh, ebj]; omega
      rw [r1.B, eB, hm', w32_s (k := bb) (by omega), Int.toNat_natCast, r1.from (b := bb) (by omega), r1.to (b := bb) (by omega), hto, d3, d4, w8 (by omega) (by omega), w8 (by omega) (by omega), edd]
      have no : jnO P lo hi (q p) lo bb = none → W9_spreadLow_12 (d + 2) Φ (q p : Nat) (lo : Nat) (mayS P lo : Nat) (b2i (hrs P hi lo)) ((bb + 1 : Nat) : Int) w M1 n := by
        intro e
        refine ih M1 q1 pa1 la1 t1 (BS_skip B1 (fun v hv => ?_)) h1 h2 h3 h4 h5
        unfold nxJ at hv
        rw [e2, ewh, ebj, e] at hv
        cases hv
      have yes : ∀ v, jnO P lo hi (q p) lo bb = some v → CF (d + 2) 88 [(2, 13), (0, (v : Int)), (0, (q p : Int)), (0, ((ddJ P lo hi bb : Nat) : Int))] w M1 n (fun _ M2 => W9_spreadLow_12 (d + 2) Φ (q p : Nat) (lo : Nat) (mayS P lo : Nat) (b2i (hrs P hi lo)) ((bb + 1 : Nat) : Int) w M2 n) := by
        intro v e
        have hv64 := jnO_lt ok hb hs e
        have hnx : nxJ P lo hi (q1 p) bb = some v := by
          unfold nxJ
          rw [e2, ewh, ebj, e]
        have := c_offerPair (d := d) (Φ := fun _ M2 => W9_spreadLow_12 (d + 2) Φ (q p : Nat) (lo : Nat) (mayS P lo : Nat) (b2i (hrs P hi lo)) ((bb + 1 : Nat) : Int) w M2 n) (n := n) A B1 (by omega) (by omega) hnx hv64 hlb h3 h4 (fun M2 q2 pa2 la2 t2 B2 g1 g2 g3 g4 g5 => ih M2 q2 pa2 la2 t2 B2 (by omega) (fun i hi => by rw [g2 i (by omega)]; exact h2 i hi) g3 g4 (h5.trans g5))
        rw [e2] at this
        exact this
      refine ⟨fun c => absurd c (by omega), fun _ => ⟨fun c => no ?_, fun c => ⟨by omega, fun c2 => no ?_, fun c2 => ?_⟩⟩⟩
      · unfold jnO
        refine if_neg (fun z => ?_)
        have z2 := z.2
        rw [← eu] at z2
        unfold inS at z2
        rw [beq_iff_eq] at z2
        omega
      · unfold jnO
        rw [if_pos rfl]
        exact if_neg (fun z => c2 z.1)
      · have hmay : mayT P lo bb = true := by
          rw [← eu]
          unfold inS
          rw [beq_iff_eq]
          omega
        have hc : P (13 + bb) = ((if lo = lo then q p / 8 else q p % 8 : Nat) : Int) ∧ mayT P lo bb = true := by
          rw [if_pos rfl]
          exact ⟨Decidable.not_not.mp c2, hmay⟩
        refine br (fun e => ⟨by omega, yes _ ?_⟩) (fun e => ⟨by omega, by omega, yes _ ?_⟩)
        · unfold jnO
          rw [if_pos hc, if_pos (Or.inl rfl), if_neg (fun z => z.elim (by omega) (fun y => by rw [e] at y; cases y)), hto, Int.toNat_natCast, Nat.mul_comm]
        · unfold jnO
          rw [if_pos hc, if_pos (Or.inl rfl), if_pos (Or.inr e), hto, Int.toNat_natCast, Nat.mul_comm]
  exact e9_spreadLow (key 0 (Nat.zero_le _) M q pa la t B (Nat.le_refl _) (fun _ _ => rfl) hq hG (fun _ _ _ _ => rfl))
theorem c_spreadHigh {a b L st h p t lo hi : Nat} {q pa la : Nat → Nat} (A : okA w a b L) (B : BS a b L (nxJ P lo hi) (2 * nB P) (ddJ P lo hi) st M h p (nB P) q pa la t) (hp : p < t) (hlh : lo < hi) (hhi : hi < 8) (hq : ∀ i, i < t → q i < 64) (hG : GC M q t) (r : relW M P) (ok : okP P) (qq : ∀ M' q' pa' la' t', BS a b L (nxJ P lo hi) (2 * nB P) (ddJ P lo hi) st M' h p (2 * nB P) q' pa' la' t' → (∀ i, i < t' → q' i < 64) → GC M' q' t' → KT a b M M' → Φ 0 M') : CF (d + 3) 87 [(2, 13), (0, (q p : Int)), (0, (hi : Int)), (0, (mayS P hi : Int)), (0, b2i (hrs P lo hi))] w M n Φ := by
  obtain ⟨eB, hB⟩ := ok.nBe
  obtain ⟨eM, hM1, hM2⟩ := ok.nMe
  have hA6 := A.2.2.2.2.2.1
  have hA7 := A.2.2.2.2.2.2.1
  have hs := hq p hp
  have hms : mayS P hi < 4096 := msk_lt12 _ hB
  have d3 : m_div (q p : Int) 8 = ((q p / 8 : Nat) : Int) := m_div_n (a := q p) (b := 8) (by omega) (by omega) (by omega)
  have d4 : m_rem (q p : Int) 8 = ((q p % 8 : Nat) : Int) := m_rem_n (a := q p) (b := 8) (by omega) (by omega) (by omega)
  have key : ∀ bb, bb ≤ nB P → ∀ (M1 : Nat → Nat → Int) (q1 pa1 la1 : Nat → Nat) (t1 : Nat), BS a b L (nxJ P lo hi) (2 * nB P) (ddJ P lo hi) st M1 h p (nB P + bb) q1 pa1 la1 t1 → t ≤ t1 → (∀ i, i < t → q1 i = q i) → (∀ i, i < t1 → q1 i < 64) → GC M1 q1 t1 → KT a b M M1 → W9_spreadHigh_12 (d + 2) Φ (q p : Nat) (hi : Nat) (mayS P hi : Nat) (b2i (hrs P lo hi)) (bb : Nat) w M1 n := by
    refine up (fun M1 q1 pa1 la1 t1 B1 h1 h2 h3 h4 h5 => ?_) (fun bb hb ih M1 q1 pa1 la1 t1 B1 h1 h2 h3 h4 h5 => ?_)
    · apply v9_spreadHigh_12
      have r1 : relW M1 P := r.congr (fun x hx1 hx2 => h5 x (by omega) (by omega) (by omega))
      rw [r1.B, eB]
      rw [show nB P + nB P = 2 * nB P by omega] at B1
      exact ⟨fun _ => qq M1 q1 pa1 la1 t1 B1 h3 h4 h5, fun c => absurd (Int.le_refl _) c⟩
    · apply v9_spreadHigh_12
      have r1 : relW M1 P := r.congr (fun x hx1 hx2 => h5 x (by omega) (by omega) (by omega))
      have e2 : q1 p = q p := h2 p hp
      have hm' := m_bit (a := mayS P hi) (k := bb) (by omega) (by omega)
      have h2' : mayS P hi / 2 ^ bb % 2 < 2 := Nat.mod_lt _ (by omega)
      have eu : inS (mayS P hi) bb = mayT P hi bb := inS_msk _ hb
      have hbt := ok.bit (b := bb) (by omega)
      have ewh : whJ P lo hi (nB P + bb) = hi := by unfold whJ; rw [if_neg (by omega)]; omega
      have ebj : btJ P (nB P + bb) = bb := by unfold btJ; rw [if_neg (by omega)]; omega
      obtain ⟨to, hto, hto8⟩ : ∃ t : Nat, P (25 + bb) = (t : Int) ∧ t < 8 := ⟨(P (25 + bb)).toNat, by omega, by omega⟩
      have edd : w32 (w32 ((hi : Int) * 100) + (bb : Int)) = ((ddJ P lo hi (nB P + bb) : Nat) : Int) := by
        rw [w32_id (x := (hi : Int) * 100) (by omega) (by omega), w32_id (by omega) (by omega)]
        unfold ddJ
        rw [ewh, ebj]
        omega
      have hlb : ddJ P lo hi (nB P + bb) < 1023 := by unfold ddJ; rw [ewh, ebj]; omega
      rw [r1.B, eB, hm', w32_s (k := bb) (by omega), Int.toNat_natCast, r1.from (b := bb) (by omega), r1.to (b := bb) (by omega), hto, d3, d4, w8 (by omega) (by omega), w8 (by omega) (by omega), edd]
      have no : jnO P lo hi (q p) hi bb = none → W9_spreadHigh_12 (d + 2) Φ (q p : Nat) (hi : Nat) (mayS P hi : Nat) (b2i (hrs P lo hi)) ((bb + 1 : Nat) : Int) w M1 n := by
        intro e
        refine ih M1 q1 pa1 la1 t1 (BS_skip (k := nB P + bb) B1 (fun v hv => ?_)) h1 h2 h3 h4 h5
        unfold nxJ at hv
        rw [e2, ewh, ebj, e] at hv
        cases hv
      have yes : ∀ v, jnO P lo hi (q p) hi bb = some v → CF (d + 2) 88 [(2, 13), (0, (v : Int)), (0, (q p : Int)), (0, ((ddJ P lo hi (nB P + bb) : Nat) : Int))] w M1 n (fun _ M2 => W9_spreadHigh_12 (d + 2) Φ (q p : Nat) (hi : Nat) (mayS P hi : Nat) (b2i (hrs P lo hi)) ((bb + 1 : Nat) : Int) w M2 n) := by
        intro v e
        have hv64 := jnO_lt ok hb hs e
        have hnx : nxJ P lo hi (q1 p) (nB P + bb) = some v := by
          unfold nxJ
          rw [e2, ewh, ebj, e]
        have := c_offerPair (d := d) (Φ := fun _ M2 => W9_spreadHigh_12 (d + 2) Φ (q p : Nat) (hi : Nat) (mayS P hi : Nat) (b2i (hrs P lo hi)) ((bb + 1 : Nat) : Int) w M2 n) (n := n) A B1 (by omega) (by omega) hnx hv64 hlb h3 h4 (fun M2 q2 pa2 la2 t2 B2 g1 g2 g3 g4 g5 => ih M2 q2 pa2 la2 t2 B2 (by omega) (fun i hi => by rw [g2 i (by omega)]; exact h2 i hi) g3 g4 (h5.trans g5))
        rw [e2] at this
        exact this
      refine ⟨fun c => absurd c (by omega), fun _ => ⟨fun c => no ?_, fun c => ⟨by omega, fun c2 => no ?_, fun c2 => ?_⟩⟩⟩
      · unfold jnO
        refine if_neg (fun z => ?_)
        have z2 := z.2
        rw [← eu] at z2
        unfold inS at z2
        rw [beq_iff_eq] at z2
        omega
      · unfold jnO
        rw [if_neg (c := hi = lo) (by omega)]
        exact if_neg (fun z => c2 z.1)
      · have hmay : mayT P hi bb = true := by
          rw [← eu]
          unfold inS
          rw [beq_iff_eq]
          omega
        have hc : P (13 + bb) = ((if hi = lo then q p / 8 else q p % 8 : Nat) : Int) ∧ mayT P hi bb = true := by
          rw [if_neg (by omega)]
          exact ⟨Decidable.not_not.mp c2, hmay⟩
        refine br (fun e => ⟨by omega, yes _ ?_⟩) (fun e => ⟨by omega, by omega, yes _ ?_⟩)
        · unfold jnO
          rw [if_pos hc, if_neg (fun z => z.elim (by omega) (fun y => by rw [e] at y; cases y)), if_pos (Or.inl rfl), hto, Int.toNat_natCast, Nat.mul_comm]
        · unfold jnO
          rw [if_pos hc, if_pos (Or.inr e), if_pos (Or.inl rfl), hto, Int.toNat_natCast, Nat.mul_comm]
  exact e9_spreadHigh (key 0 (Nat.zero_le _) M q pa la t B (Nat.le_refl _) (fun _ _ => rfl) hq hG (fun _ _ _ _ => rfl))
end
