/-! ===== the class's search by layers ===== -/
def okA (w : cQ) (a b L : Nat) : Prop := rfC w 93 1 = a ∧ rfC w 93 2 = b ∧ shC w a = (1, L) ∧ shC w b = (1, L) ∧ a ≠ b ∧ (a = 94 ∨ 140 ≤ a) ∧ (b = 95 ∨ 140 ≤ b) ∧ 64 ≤ L ∧ L ≤ 32768
/-- only the search's own cells change -/
def KS (a b : Nat) (M M' : Nat → Nat → Int) : Prop := (∀ x, x ≠ 93 → x ≠ a → x ≠ b → M' x = M x) ∧ M' 93 0 = M 93 0
theorem KS.refl (a b : Nat) (M : Nat → Nat → Int) : KS a b M M := ⟨fun _ _ _ _ => rfl, rfl⟩
theorem KS.trans {a b : Nat} {M M' N : Nat → Nat → Int} (h : KS a b M M') (h2 : KS a b M' N) : KS a b M N := ⟨fun x h1 h3 h4 => (h2.1 x h1 h3 h4).trans (h.1 x h1 h3 h4), h2.2.trans h.2⟩
def cam (q pa la lb : Nat → Nat) (i : Nat) : Int := if i = 0 then -1 else ((q (pa i) * 1024 + lb (la i) + 1 : Nat) : Int)
theorem cam_ne (q pa la lb : Nat → Nat) (i : Nat) : cam q pa la lb i ≠ 0 := by unfold cam; split <;> omega
/-- the search stands: head h; of place p the labels below k are done; the queue is q, of t places -/
def BS (a b L : Nat) (nx : gN) (K : Nat) (lb : Nat → Nat) (st : Nat) (M : Nat → Nat → Int) (h p k : Nat) (q pa la : Nat → Nat) (t : Nat) : Prop := (M 93 3 = (h : Int) ∧ M 93 4 = (t : Int)) ∧ (∀ i, i < t → M b i = (q i : Int) ∧ q i < L) ∧ (∀ i, i < t → M a (q i) = cam q pa la lb i) ∧ (∀ s, s < L → (∀ i, i < t → q i ≠ s) → M a s = 0) ∧ bfI nx K st q pa la t ∧ (∀ i k' v, (i < p ∨ (i = p ∧ k' < k)) → i < t → k' < K → nx (q i) k' = some v → ∃ j, j < t ∧ q j = v)
theorem BS_in {a b L : Nat} {nx : gN} {K : Nat} {lb : Nat → Nat} {st : Nat} {M : Nat → Nat → Int} {h p k : Nat} {q pa la : Nat → Nat} {t : Nat} (B : BS a b L nx K lb st M h p k q pa la t) {s : Nat} (hs : s < L) : M a s ≠ 0 ↔ ∃ i, i < t ∧ q i = s := by
  obtain ⟨_, _, b3, b4, _, _⟩ := B
  constructor
  · intro hn
    apply Decidable.byContradiction
    intro c
    exact hn (b4 s hs (fun i hi e => c ⟨i, hi, e⟩))
  · rintro ⟨i, hi, e⟩
    rw [← e, b3 i hi]
    exact cam_ne _ _ _ _ _
theorem BS_t {a b L : Nat} {nx : gN} {K : Nat} {lb : Nat → Nat} {st : Nat} {M : Nat → Nat → Int} {h p k : Nat} {q pa la : Nat → Nat} {t : Nat} (B : BS a b L nx K lb st M h p k q pa la t) : 0 < t ∧ t ≤ L := by
  obtain ⟨_, b2, _, _, b5, _⟩ := B
  have h0 := b5.1
  have := pgn L (t - 1) q (fun i hi => (b2 i (by omega)).2) (fun i j hi hj e => b5.2.2.1 i j (by omega) (by omega) e)
  omega
theorem BS_free {a b L : Nat} {nx : gN} {K : Nat} {lb : Nat → Nat} {st : Nat} {M : Nat → Nat → Int} {h p k : Nat} {q pa la : Nat → Nat} {t : Nat} (B : BS a b L nx K lb st M h p k q pa la t) {s : Nat} (hs : s < L) (hn : ∀ i, i < t → q i ≠ s) : t < L := by
  have ht := BS_t B
  obtain ⟨_, b2, _, _, b5, _⟩ := B
  have := pgn L t (fun i => if i < t then q i else s) (fun i hi => ?_) (fun i j hi hj e => ?_)
  · exact this
  · show (if i < t then q i else s) < L
    split
    · rename_i c; exact (b2 i c).2
    · exact hs
  · have e : (if i < t then q i else s) = (if j < t then q j else s) := e
    by_cases c1 : i < t
    · by_cases c2 : j < t
      · rw [if_pos c1, if_pos c2] at e
        exact b5.2.2.1 i j c1 c2 e
      · rw [if_pos c1, if_neg c2] at e
        exact absurd e (hn i c1)
    · by_cases c2 : j < t
      · rw [if_neg c1, if_pos c2] at e
        exact absurd e.symm (hn j c2)
      · omega
/-- a place is put to the queue's end -/
def qpu (q : Nat → Nat) (t v : Nat) : Nat → Nat := fun i => if i = t then v else q i
theorem qpu_e (q : Nat → Nat) (t v : Nat) : qpu q t v t = v := if_pos rfl
theorem qpu_n {q : Nat → Nat} {t v i : Nat} (h : i < t) : qpu q t v i = q i := if_neg (by omega)
theorem BS_put {a b L : Nat} {nx : gN} {K : Nat} {lb : Nat → Nat} {st : Nat} {M M' : Nat → Nat → Int} {h p k : Nat} {q pa la : Nat → Nat} {t : Nat} (B : BS a b L nx K lb st M h p k q pa la t) (hp : p < t) (hk : k < K) {v : Nat} (hv : nx (q p) k = some v) (hL : v < L) (hn : ∀ i, i < t → q i ≠ v) (e1 : M' 93 3 = M 93 3) (e2 : M' 93 4 = ((t + 1 : Nat) : Int)) (e3 : M' b = pset (M b) t (v : Int)) (e4 : M' a = pset (M a) v ((q p * 1024 + lb k + 1 : Nat) : Int)) : BS a b L nx K lb st M' h p (k + 1) (qpu q t v) (qpu pa t p) (qpu la t k) (t + 1) := by
  obtain ⟨⟨b0, b1⟩, b2, b3, b4, b5, b6⟩ := B
  obtain ⟨c0, c1, c2, c3⟩ := b5
  refine ⟨⟨e1.trans b0, e2⟩, fun i hi => ?_, fun i hi => ?_, fun s hs hns => ?_, ⟨by omega, by rw [qpu_n c0]; exact c1, fun i j hi hj e => ?_, fun i h0 hi => ?_⟩, fun i k' u hc hi hk' hu => ?_⟩
  · rw [e3]
    by_cases c : i = t
    · rw [c, pset_eq, qpu_e]; exact ⟨rfl, hL⟩
    · rw [pset_ne c, qpu_n (by omega)]; exact b2 i (by omega)
  · rw [e4]
    by_cases c : i = t
    · rw [c, qpu_e, pset_eq]
      unfold cam
      rw [if_neg (by omega), qpu_e, qpu_e, qpu_n hp]
    · have hit : i < t := by omega
      rw [qpu_n hit, pset_ne (hn i hit), b3 i hit]
      unfold cam
      by_cases ci : i = 0
      · rw [if_pos ci, if_pos ci]
      · have hpa := (c3 i (by omega) hit).1
        rw [if_neg ci, if_neg ci, qpu_n hit, qpu_n hit, qpu_n (show pa i < t by omega)]
  · have h1 := hns t (by omega)
    rw [qpu_e] at h1
    rw [e4, pset_ne (fun z => h1 z.symm)]
    refine b4 s hs (fun i hi => ?_)
    have := hns i (by omega)
    rw [qpu_n hi] at this
    exact this
  · by_cases ci : i = t
    · by_cases cj : j = t
      · omega
      · rw [ci, qpu_e, qpu_n (show j < t by omega)] at e
        exact absurd e.symm (hn j (by omega))
    · by_cases cj : j = t
      · rw [cj, qpu_e, qpu_n (show i < t by omega)] at e
        exact absurd e (hn i (by omega))
      · rw [qpu_n (show i < t by omega), qpu_n (show j < t by omega)] at e
        exact c2 i j (by omega) (by omega) e
  · by_cases ci : i = t
    · subst ci
      rw [qpu_e, qpu_e, qpu_e, qpu_n hp]
      refine ⟨hp, hk, hv, fun j k' u hc hk' hu => ?_⟩
      have hj : j < i := by omega
      rw [qpu_n hj] at hu
      obtain ⟨i', z1, z2⟩ := b6 j k' u (by omega) hj hk' hu
      exact ⟨i', z1, by rw [qpu_n z1]; exact z2⟩
    · have hit : i < t := by omega
      obtain ⟨d1, d2, d3, d4⟩ := c3 i h0 hit
      rw [qpu_n hit, qpu_n hit, qpu_n hit, qpu_n (show pa i < t by omega)]
      refine ⟨d1, d2, d3, fun j k' u hc hk' hu => ?_⟩
      have hj : j < t := by omega
      rw [qpu_n hj] at hu
      obtain ⟨i', z1, z2⟩ := d4 j k' u hc hk' hu
      exact ⟨i', z1, by rw [qpu_n (show i' < t by omega)]; exact z2⟩
  · by_cases ci : i = t
    · omega
    · have hit : i < t := by omega
      rw [qpu_n hit] at hu
      by_cases cc : i < p ∨ (i = p ∧ k' < k)
      · obtain ⟨j, z1, z2⟩ := b6 i k' u cc hit hk' hu
        exact ⟨j, by omega, by rw [qpu_n z1]; exact z2⟩
      · have y1 : i = p := by omega
        have y2 : k' = k := by omega
        rw [y1, y2, hv] at hu
        exact ⟨t, by omega, by rw [qpu_e]; exact Option.some.inj hu⟩
/-- the next label: none leads on, or the place is known -/
theorem BS_skip {a b L : Nat} {nx : gN} {K : Nat} {lb : Nat → Nat} {st : Nat} {M : Nat → Nat → Int} {h p k : Nat} {q pa la : Nat → Nat} {t : Nat} (B : BS a b L nx K lb st M h p k q pa la t) (hn : ∀ v, nx (q p) k = some v → ∃ i, i < t ∧ q i = v) : BS a b L nx K lb st M h p (k + 1) q pa la t := by
  obtain ⟨b0, b2, b3, b4, b5, b6⟩ := B
  refine ⟨b0, b2, b3, b4, b5, fun i k' u hc hi hk' hu => ?_⟩
  by_cases cc : i < p ∨ (i = p ∧ k' < k)
  · exact b6 i k' u cc hi hk' hu
  · have y1 : i = p := by omega
    have y2 : k' = k := by omega
    rw [y1, y2] at hu
    exact hn u hu
section
variable {d : Nat} {n : Nat × Nat} {Φ : Int → (Nat → Nat → Int) → Prop} {M : Nat → Nat → Int} {w : cQ} {a b L : Nat} {nx : gN} {K : Nat} {lb : Nat → Nat} {st : Nat} {h p k : Nat} {q pa la : Nat → Nat} {t : Nat}
theorem c_isReached (A : okA w a b L) (B : BS a b L nx K lb st M h p k q pa la t) (q1 : (∃ i, i < t ∧ (q i : Int) = M 93 0) → Φ 1 M) (q0 : (∀ i, i < t → (q i : Int) ≠ M 93 0) → Φ 0 M) : CF (d + 1) 65 [(2, 93)] w M n Φ := by
  obtain ⟨A1, A2, A3, A4, A5, A6, A7, A8, A9⟩ := A
  apply e6_isReached
  rw [A1, A3]
  have b2 := B.2.1
  refine ⟨fun c => q0 (fun i hi => by omega), fun c => ⟨rfl, fun c1 => q0 (fun i hi => ?_), fun c1 => ⟨rfl, ⟨by omega, by omega⟩, fun c2 => q0 (fun i hi => ?_), fun c2 => q1 ?_⟩⟩⟩
  · have c1 : (L : Int) ≤ M 93 0 := c1
    have := (b2 i hi).2
    omega
  · intro e
    have c1 : ¬ ((L : Int) ≤ M 93 0) := c1
    exact absurd c2 ((BS_in B (s := (M 93 0).toNat) (by omega)).mpr ⟨i, hi, by omega⟩)
  · have c1 : ¬ ((L : Int) ≤ M 93 0) := c1
    obtain ⟨i, hi, e⟩ := (BS_in B (s := (M 93 0).toNat) (by omega)).mp c2
    exact ⟨i, hi, by omega⟩
theorem c_offer (A : okA w a b L) (B : BS a b L nx K lb st M h p k q pa la t) (hp : p < t) (hk : k < K) {v : Nat} (hv : nx (q p) k = some v) (hL : v < L) (hlb : lb k < 1023) (qq : ∀ M' q' pa' la' t', BS a b L nx K lb st M' h p (k + 1) q' pa' la' t' → t ≤ t' → (∀ i, i < t → q' i = q i) → (∀ i, t ≤ i → i < t' → q' i = v) → KS a b M M' → Φ 0 M') : CF (d + 1) 66 [(2, 93), (0, (v : Int)), (0, (q p : Int)), (0, (lb k : Int))] w M n Φ := by
  have A' := A
  obtain ⟨A1, A2, A3, A4, A5, A6, A7, A8, A9⟩ := A
  have ha93 : 93 ≠ a := by omega
  have hb93 : 93 ≠ b := by omega
  have hq := (B.2.1 p hp).2
  have ht := BS_t B
  apply e6_offer
  have ew : w32 (w32 (w32 ((q p : Int) * 1024) + (lb k : Int)) + 1) = ((q p * 1024 + lb k + 1 : Nat) : Int) := by
    rw [w32_id (x := (q p : Int) * 1024) (by omega) (by omega), w32_id (x := (q p : Int) * 1024 + (lb k : Int)) (by omega) (by omega), w32_id (by omega) (by omega)]
    omega
  have hin := BS_in B hL
  have s1 : ∀ x y, (sI M a x y) 93 = M 93 := fun x y => sI_row ha93
  have s2 : ∀ x y x' y', (sI (sI M a x y) b x' y') 93 = M 93 := fun x y x' y' => (sI_row hb93).trans (s1 x y)
  rw [A1, A2, A3, A4, ew, s1, s2, B.1.2]
  simp only [Int.toNat_natCast]
  refine ⟨fun c => absurd c (by omega), fun _ => ⟨rfl, fun c => absurd c (by show ¬ ((L : Int) ≤ (v : Int)); omega), fun _ => ⟨rfl, ⟨by omega, by show (v : Int) < (L : Int); omega⟩, fun c => ?_, fun c => ?_⟩⟩⟩
  · obtain ⟨i, hi, e⟩ := hin.mp c
    exact qq M q pa la t (BS_skip B (fun u hu => ⟨i, hi, by rw [hv] at hu; rw [e]; exact Option.some.inj hu⟩)) (Nat.le_refl _) (fun _ _ => rfl) (fun i h1 h2 => by omega) (KS.refl _ _ _)
  · have hn : ∀ i, i < t → q i ≠ v := fun i hi e => c (hin.mpr ⟨i, hi, e⟩)
    have hf := BS_free B hL hn
    refine ⟨rfl, fun c2 => absurd c2 (by show ¬ ((L : Int) ≤ (t : Int)); omega), fun _ => ⟨rfl, ⟨by omega, by show (v : Int) < (L : Int); omega, trivial⟩, rfl, ⟨by omega, by show (t : Int) < (L : Int); omega, trivial⟩, ?_⟩⟩
    rw [w32_s (k := t) (by omega)]
    refine qq _ _ _ _ _ (BS_put B hp hk hv hL hn ?_ (sI_same _ _ _ _) ?_ ?_) (by omega) (fun i hi => qpu_n hi) (fun i h1 h2 => by rw [show i = t by omega, qpu_e]) ⟨fun x h1 h2 h3 => ?_, ?_⟩
    · rw [sI_ne (by omega), s2]
    · rw [sI_row (by omega), sI_p, sI_row (by omega)]
    · rw [sI_row (by omega), sI_row (by omega), sI_p]
    · rw [sI_row h1, sI_row h3, sI_row h2]
    · rw [sI_ne (by omega), s2]
theorem c_nextPlace (A : okA w a b L) (B : BS a b L nx K lb st M h h 0 q pa la t) (qn : (∃ i, i < t ∧ (q i : Int) = M 93 0) → Φ (-1) M) (qe : (∀ i, i < t → (q i : Int) ≠ M 93 0) → t ≤ h → Φ (-1) M) (qg : (∀ i, i < t → (q i : Int) ≠ M 93 0) → h < t → ∀ M', BS a b L nx K lb st M' (h + 1) h 0 q pa la t → KS a b M M' → Φ (q h : Nat) M') : CF (d + 2) 64 [(2, 93)] w M n Φ := by
  have A' := A
  obtain ⟨A1, A2, A3, A4, A5, A6, A7, A8, A9⟩ := A
  have ht := BS_t B
  apply e6_nextPlace
  rw [B.1.1, B.1.2]
  refine ⟨fun c => ?_, fun c => c_isReached A' B (fun hr => ⟨fun z => absurd z (by omega), fun _ => qn hr⟩) (fun hr => ⟨fun _ => ?_, fun z => absurd rfl z⟩)⟩
  · by_cases hr : ∃ i, i < t ∧ (q i : Int) = M 93 0
    · exact qn hr
    · exact qe (fun i hi e => hr ⟨i, hi, e⟩) (by omega)
  · have c : h < t := by omega
    rw [A2, A4, sI_same, B.1.1, w32_s (by omega), show w32 (((h + 1 : Nat) : Int) - 1) = (h : Int) by rw [w32_id (by omega) (by omega)]; omega, Int.toNat_natCast]
    refine ⟨rfl, ⟨by omega, by show (h : Int) < (L : Int); omega⟩, ?_⟩
    have eb : (sI M 93 3 ((h + 1 : Nat) : Int)) b = M b := sI_row (by omega)
    have ea : (sI M 93 3 ((h + 1 : Nat) : Int)) a = M a := sI_row (by omega)
    rw [eb, (B.2.1 h c).1]
    obtain ⟨b0, b2, b3, b4, b5, b6⟩ := B
    exact qg hr c _ ⟨⟨sI_same _ _ _ _, by rw [sI_ne (by omega)]; exact b0.2⟩, by rw [eb]; exact b2, by rw [ea]; exact b3, by rw [ea]; exact b4, b5, b6⟩ ⟨fun x h1 _ _ => sI_row h1, sI_ne (by omega)⟩
/-- a place's came, taken apart -/
theorem cam_up {i : Nat} (h0 : 0 < i) (hq : q (pa i) < 32768) (hl : lb (la i) < 1023) : 0 < cam q pa la lb i ∧ m_div (w32 (cam q pa la lb i - 1)) 1024 = (q (pa i) : Int) ∧ m_rem (w32 (cam q pa la lb i - 1)) 1024 = (lb (la i) : Int) := by
  unfold cam
  rw [if_neg (by omega)]
  have e : w32 (((q (pa i) * 1024 + lb (la i) + 1 : Nat) : Int) - 1) = ((q (pa i) * 1024 + lb (la i) : Nat) : Int) := by
    rw [w32_id (by omega) (by omega)]; omega
  rw [e]
  have e1 := m_div_n (a := q (pa i) * 1024 + lb (la i)) (b := 1024) (by omega) (by omega) (by omega)
  have e2 := m_rem_n (a := q (pa i) * 1024 + lb (la i)) (b := 1024) (by omega) (by omega) (by omega)
  rw [show (q (pa i) * 1024 + lb (la i)) / 1024 = q (pa i) by omega] at e1
  rw [show (q (pa i) * 1024 + lb (la i)) % 1024 = lb (la i) by omega] at e2
  exact ⟨by omega, e1, e2⟩
theorem c_steps (A : okA w a b L) (B : BS a b L nx K lb st M h p k q pa la t) (hlb : ∀ k, k < K → lb k < 1023) (qn : (∀ i, i < t → (q i : Int) ≠ M 93 0) → Φ (-1) M) (qs : ∀ gi dd, gi < t → (q gi : Int) = M 93 0 → upI pa dd gi 0 → Φ (dd : Nat) M) : CF (d + 2) 67 [(2, 93)] w M n Φ := by
  have A' := A
  obtain ⟨A1, A2, A3, A4, A5, A6, A7, A8, A9⟩ := A
  have ht := BS_t B
  refine e6_steps (c_isReached A' B (fun hr => ⟨fun _ => ?_, fun z => absurd (by omega) z⟩) (fun hr => ⟨fun z => absurd rfl z, fun _ => qn hr⟩))
  obtain ⟨gi, hg, eg⟩ := hr
  obtain ⟨dd, hd1, hd2⟩ := bf_dep B.2.2.2.2.1 gi hg
  have qf := qs gi dd hg eg hd2
  rw [← eg]
  have key : ∀ r i j : Nat, i < t → upI pa r i 0 → j + r = dd → j + i < t → W6_steps_18 (d + 1) Φ (q i : Nat) (j : Nat) (j : Nat) w M n := by
    intro r
    induction r with
    | zero =>
      intro i j hi hu hj hji
      have hu : i = 0 := hu
      apply v6_steps_18
      rw [A1, A3, B.1.2, Int.toNat_natCast]
      have hq := (B.2.1 i hi).2
      have hc : M a (q i) = -1 := by rw [B.2.2.1 i hi]; unfold cam; rw [if_pos hu]
      have ej : j = dd := by omega
      rw [ej] at *
      refine ⟨fun _ => qf, fun _ => ⟨rfl, ⟨by omega, by show (q i : Int) < (L : Int); omega⟩, fun _ => qf, fun c => absurd (by omega) c⟩⟩
    | succ r ih =>
      intro i j hi hu hj hji
      obtain ⟨h0, hu2⟩ := hu
      obtain ⟨p1, p2, p3, _⟩ := B.2.2.2.2.1.2.2.2 i h0 hi
      have hq := (B.2.1 i hi).2
      have hq2 := (B.2.1 (pa i) (by omega)).2
      obtain ⟨u1, u2, u3⟩ := cam_up (q := q) (pa := pa) (la := la) (lb := lb) h0 (by omega) (hlb _ p2)
      apply v6_steps_18
      rw [A1, A3, B.1.2, Int.toNat_natCast, B.2.2.1 i hi, u2, w32_s (by omega)]
      refine ⟨fun c => absurd c (by omega), fun _ => ⟨rfl, ⟨by omega, by show (q i : Int) < (L : Int); omega⟩, fun c => absurd c (by omega), fun _ => ⟨rfl, ⟨by omega, by show (q i : Int) < (L : Int); omega⟩, ih (pa i) (j + 1) (by omega) hu2 (by omega) (by omega)⟩⟩⟩
  exact key dd gi 0 hg hd2 (by omega) (by omega)
theorem c_labelAt (A : okA w a b L) (B : BS a b L nx K lb st M h p k q pa la t) (hlb : ∀ k, k < K → lb k < 1023) {G : Nat → Prop} {gi dd j : Nat} (hg : gi < t) (eg : (q gi : Int) = M 93 0) (hd : upI pa dd gi 0) (hG : G (q gi)) (hf : ∀ i, i < gi → ¬ G (q i)) (hj : j < dd) (qq : Φ (lb (lG nx K G (sG nx K G st j)) : Nat) M) : CF (d + 3) 68 [(2, 93), (0, (j : Int))] w M n Φ := by
  have A' := A
  obtain ⟨A1, A2, A3, A4, A5, A6, A7, A8, A9⟩ := A
  have ht := BS_t B
  have hbf := B.2.2.2.2.1
  have gl := (bf_goal hbf hg hG hf hd).2
  refine e6_labelAt (c_steps A' B hlb (fun hr => absurd eg (hr gi hg)) (fun gi' dd' hg' eg' hd' => ?_))
  have e1 : gi' = gi := hbf.2.2.1 gi' gi hg' hg (by omega)
  subst e1
  have e2 := up_uniq hbf dd' dd gi' hg' hd' hd
  subst e2
  obtain ⟨z, hz1, hz2⟩ := bf_dep hbf gi' hg
  have e3 := up_uniq hbf z dd' gi' hg hz2 hd
  rw [← eg', show w32 ((dd' : Int) - 1) = (dd' : Int) - 1 by rw [w32_id (by omega) (by omega)]]
  have key : ∀ r i e : Nat, i < t → upI pa e gi' i → upI pa (j + 1 + r) i 0 → e + (j + 1 + r) = dd' → W6_labelAt_12 (d + 2) Φ (j : Nat) (q i : Nat) ((j + r : Nat) : Int) w M n := by
    intro r
    induction r with
    | zero =>
      intro i e hi he hu hs
      have hu' := hu
      obtain ⟨h0, hu2⟩ := hu
      obtain ⟨p1, p2, p3, _⟩ := hbf.2.2.2 i h0 hi
      have hq := (B.2.1 i hi).2
      have hq2 := (B.2.1 (pa i) (by omega)).2
      obtain ⟨u1, u2, u3⟩ := cam_up (q := q) (pa := pa) (la := la) (lb := lb) h0 (by omega) (hlb _ p2)
      apply v6_labelAt_12
      refine ⟨fun _ => c_isReached A' B (fun _ => ⟨fun z => absurd z (by omega), fun _ => ?_⟩) (fun hr => absurd eg (hr gi' hg)), fun c => absurd (by omega) c⟩
      rw [A1, A3, Int.toNat_natCast, B.2.2.1 i hi, u3]
      refine ⟨rfl, ⟨by omega, by show (q i : Int) < (L : Int); omega⟩, fun c => absurd c (by omega), fun _ => ⟨rfl, ⟨by omega, by show (q i : Int) < (L : Int); omega⟩, ?_⟩⟩
      have g1 := (gl e i (j + 1) he hu').2 h0
      have g2 := (gl (e + 1) (pa i) j (up_app h0 e gi' he) hu2).1
      rw [g2, g1] at qq
      exact qq
    | succ r ih =>
      intro i e hi he hu hs
      have hu : upI pa ((j + 1 + r) + 1) i 0 := hu
      obtain ⟨h0, hu2⟩ := hu
      obtain ⟨p1, p2, p3, _⟩ := hbf.2.2.2 i h0 hi
      have hq := (B.2.1 i hi).2
      have hq2 := (B.2.1 (pa i) (by omega)).2
      obtain ⟨u1, u2, u3⟩ := cam_up (q := q) (pa := pa) (la := la) (lb := lb) h0 (by omega) (hlb _ p2)
      apply v6_labelAt_12
      rw [A1, A3, Int.toNat_natCast, B.2.2.1 i hi, u2, show w32 (((j + (r + 1) : Nat) : Int) + -1) = ((j + r : Nat) : Int) by rw [w32_id (by omega) (by omega)]; omega]
      refine ⟨fun c => absurd c (by omega), fun _ => ⟨rfl, ⟨by omega, by show (q i : Int) < (L : Int); omega⟩, ih (pa i) (e + 1) (by omega) (up_app h0 e gi' he) hu2 (by omega)⟩⟩
  have := key (dd' - j - 1) gi' 0 hg rfl (by rw [show j + 1 + (dd' - j - 1) = dd' by omega]; exact hd) (by omega)
  rw [show ((j + (dd' - j - 1) : Nat) : Int) = (dd' : Int) - 1 by omega] at this
  exact this
end
