/-! ===== both worlds: what changes tape, trays, images, the text ===== -/
section
variable {w : cQ} {n : Nat × Nat} {M R : Nat → Nat → Int} {L c : Nat}
theorem fdB_b (a b c d e : Int) (k : Nat) : 0 ≤ fdB a b c d e k ∧ fdB a b c d e k < 256 := by
  unfold fdB
  exact (byte_eq _ (24 - 8 * (k % 4)) (by omega)).2
theorem j_feed (x y z u v : Int) (h : Jn w n M R L c) : JO 120 185 [(0, x), (0, y), (0, z), (0, u), (0, v)] w n M R := by
  obtain ⟨t1, t2, t3, t4⟩ := h.tap
  refine CW.ofF (c_feed x y z u v L t2 t3 (fun M' => ⟨fun h9 k1 k2 k3 k4 => ?_, fun h9 k1 => ?_⟩))
  · refine r_feed x y z u v L t1 t3 (fun R' => ⟨fun _ g1 g2 g3 g4 => ⟨rfl, L + 20, c, ⟨g3, k3, h9, fun k hk => ?_⟩, ?_, ?_, ?_, ?_, ?_, ?_, h.Y, ?_⟩, fun z => absurd h9 z⟩)
    · rw [k4 k, g4 k]
      by_cases ck : L ≤ k ∧ k < L + 20
      · rw [if_pos ck, if_pos ck]
        exact ⟨rfl, fdB_b x y z u v _⟩
      · rw [if_neg ck, if_neg ck]
        exact t4 k hk
    · rw [k1 3 (by omega) (by omega), g2 13 (by omega) (by omega), g2 14 (by omega) (by omega)]; exact h.flt
    · rw [g1 2 (by omega) (by omega)]; exact h.gd
    · rw [g1 2 (by omega) (by omega)]; exact h.W.congr (fun b h1 h2 => k1 b (by omega) (by omega))
    · rw [g1 2 (by omega) (by omega)]; exact h.U.congr h.h92 (k1 9 (by omega) (by omega)) (fun x h1 h2 => k1 x (by omega) (by omega)) (fun _ _ _ => rfl)
    · rw [g1 20 (by omega) (by omega), g1 21 (by omega) (by omega), g1 22 (by omega) (by omega)]; exact h.T.congr (fun x h1 h2 => k1 x (by omega) (by omega))
    · rw [g1 3 (by omega) (by omega), g1 2 (by omega) (by omega)]; exact h.I.keep rfl (fun x h1 h2 => k1 x (by omega) (by omega)) (fun _ _ => rfl)
    · exact h.S.kc (fun x hx => k1 x (by omega) (by omega))
  · subst k1
    exact r_feed x y z u v L t1 t3 (fun R' => ⟨fun z => absurd z h9, fun _ kr e => ⟨rfl, h.kc (KC.refl _) kr e⟩⟩)
theorem j_numbers (t s x : Int) (h : Jn w n M R L c) : JO 172 310 [(0, t), (0, s), (0, x)] w n M R := by
  refine CW.ofF (c_numbers t s x (fun M' => ⟨fun c1 e1 => ?_, fun c1 c2 e1 => ?_, fun c1 c2 k1 k2 k3 k4 => ?_⟩))
  · subst e1
    exact r_numbers t s x (fun R' => ⟨fun _ kr e => ⟨rfl, h.kc (KC.refl _) kr e⟩, fun z => absurd z c1, fun z => absurd z c1⟩)
  · subst e1
    exact r_numbers t s x (fun R' => ⟨fun z => absurd c1 z, fun _ _ kr e => ⟨rfl, h.kc (KC.refl _) kr e⟩, fun _ z => absurd z c2⟩)
  · refine r_numbers t s x (fun R' => ⟨fun z => absurd c1 z, fun _ z => absurd c2 z, fun _ _ g1 g2 g3 g4 g5 => ⟨rfl, ?_⟩⟩)
    obtain ⟨i, hi⟩ : ∃ i : Nat, t = (i : Int) := ⟨t.toNat, by omega⟩
    subst hi
    rw [Int.toNat_natCast] at k1 k2 k3 k4 g3 g4 g5
    obtain ⟨t1, t2, t3, t4⟩ := h.tap
    have kk : ∀ a, a < 85 ∨ 92 < a → M' a = M a := fun a ha => k1 a (by omega) (by omega)
    refine ⟨L, c, ⟨(g2 5 (by omega)).trans t1, by rw [kk 1 (by omega)]; exact t2, t3, fun k hk => by rw [kk 2 (by omega), g1 4 (by omega) (by omega) (by omega) (by omega)]; exact t4 k hk⟩, ?_, ?_, ?_, ?_, ?_, ?_, h.Y, h.S.kc (fun x hx => kk x (by omega))⟩
    · rw [kk 3 (by omega), g2 13 (by omega), g2 14 (by omega)]; exact h.flt
    · rw [g1 2 (by omega) (by omega) (by omega) (by omega)]; exact h.gd
    · rw [g1 2 (by omega) (by omega) (by omega) (by omega)]; exact h.W.congr (fun b h1 h2 => kk b (by omega))
    · rw [g1 2 (by omega) (by omega) (by omega) (by omega)]; exact h.U.congr h.h92 (kk 9 (by omega)) (fun x h1 h2 => kk x (by omega)) (fun _ _ _ => rfl)
    · intro j hj
      rw [g3, g4]
      by_cases cj : j = i
      · subst cj
        rw [pset_eq, pset_eq]
        refine ⟨fun z => absurd z (by omega), fun _ => ⟨k2, k3, c2, c1.2, fun k hk => ?_⟩⟩
        rw [k4 k (by omega), g5, if_pos (by omega)]
      · rw [pset_ne cj, pset_ne cj, k1 (85 + 2 * j) (by omega) (by omega), k1 (86 + 2 * j) (by omega) (by omega)]
        refine ⟨(h.T j hj).1, fun z => ?_⟩
        obtain ⟨a1, a2, a3, a4, a5⟩ := (h.T j hj).2 z
        refine ⟨a1, a2, a3, a4, fun k hk => ?_⟩
        rw [g5, if_neg (by omega)]
        exact a5 k hk
    · rw [g1 3 (by omega) (by omega) (by omega) (by omega), g1 2 (by omega) (by omega) (by omega) (by omega)]; exact h.I.keep rfl (fun x h1 h2 => kk x (by omega)) (fun _ _ => rfl)
theorem noT_0 {S : Nat → Int} {t : Int} (h : noT S t = 0) : (0 ≤ t ∧ t ≤ 3) ∧ S t.toNat ≠ -1 := by
  unfold noT at h
  split at h
  · rename_i c
    split at h
    · omega
    · exact ⟨c, by assumption⟩
  · omega
theorem j_write (t i v : Int) (h : Jn w n M R L c) : JO 173 311 [(0, t), (0, i), (1, v)] w n M R := by
  refine CW.ofF (c_write t i v h.T (fun M' => ⟨fun c1 e1 => ?_, fun c1 c2 e1 => ?_, fun c1 c2 e1 => ?_⟩))
  · subst e1
    exact r_write t i v h.hZ (fun R' => ⟨fun _ kr e => ⟨rfl, h.kc (KC.refl _) kr e⟩, fun z => absurd z c1, fun z => absurd z c1⟩)
  · subst e1
    exact r_write t i v h.hZ (fun R' => ⟨fun z => absurd c1 z, fun _ _ kr e => ⟨rfl, h.kc (KC.refl _) kr e⟩, fun _ z => absurd z c2⟩)
  · refine r_write t i v h.hZ (fun R' => ⟨fun z => absurd c1 z, fun _ z => absurd c2 z, fun _ _ g1 g2 g3 => ⟨rfl, ?_⟩⟩)
    obtain ⟨ht, hs⟩ := noT_0 c1
    obtain ⟨a, ha⟩ : ∃ a : Nat, t = (a : Int) := ⟨t.toNat, by omega⟩
    subst ha
    obtain ⟨b, hb⟩ : ∃ b : Nat, i = (b : Int) := ⟨i.toNat, by omega⟩
    subst hb
    rw [Int.toNat_natCast] at c2 hs e1 g3
    rw [Int.toNat_natCast] at e1 g3
    have kk : ∀ x, x < 85 ∨ 92 < x → M' x = M x := fun x hx => by rw [e1]; exact sI_row (by omega)
    obtain ⟨t1, t2, t3, t4⟩ := h.tap
    refine ⟨L, c, ⟨(g2 5 (by omega)).trans t1, by rw [kk 1 (by omega)]; exact t2, t3, fun k hk => by rw [kk 2 (by omega), g1 4 (by omega) (by omega)]; exact t4 k hk⟩, ?_, ?_, ?_, ?_, ?_, ?_, h.Y, h.S.kc (fun x hx => kk x (by omega))⟩
    · rw [kk 3 (by omega), g2 13 (by omega), g2 14 (by omega)]; exact h.flt
    · rw [g1 2 (by omega) (by omega)]; exact h.gd
    · rw [g1 2 (by omega) (by omega)]; exact h.W.congr (fun b h1 h2 => kk b (by omega))
    · rw [g1 2 (by omega) (by omega)]; exact h.U.congr h.h92 (kk 9 (by omega)) (fun x h1 h2 => kk x (by omega)) (fun _ _ _ => rfl)
    · intro j hj
      rw [g1 20 (by omega) (by omega), g1 21 (by omega) (by omega), g3, e1, sI_row (show 85 + 2 * j ≠ 86 + 2 * a by omega)]
      refine ⟨(h.T j hj).1, fun z => ?_⟩
      obtain ⟨a1, a2, a3, a4, a5⟩ := (h.T j hj).2 z
      refine ⟨a1, a2, a3, a4, fun k hk => ?_⟩
      have hz := h.hZ a (by omega) hs
      by_cases cj : j = a
      · subst cj
        by_cases ck : k = b
        · subst ck
          rw [sI_same, pset_eq]
        · rw [sI_ne ck, pset_ne (by omega)]
          exact a5 k hk
      · rw [sI_row (by omega), pset_ne (by omega)]
        exact a5 k hk
    · rw [g1 3 (by omega) (by omega), g1 2 (by omega) (by omega)]; exact h.I.keep rfl (fun x h1 h2 => kk x (by omega)) (fun _ _ => rfl)
theorem j_lists (t x y : Int) (h : Jn w n M R L c) : JO 174 312 [(0, t), (0, x), (0, y)] w n M R := by
  refine c_lists t x y h.S h.W h.ok h.T (fun w' n' M' c' ew s => ⟨fun c1 ky => ?_, fun c1 => ⟨fun c2 ky => ?_, fun c2 c3 ky => ?_, fun c2 c3 k1 rt => ?_⟩⟩)
  · exact r_lists t x y rfl h.ok h.hZ (fun R' => ⟨fun _ kr e => ⟨rfl, h.ky ew s ky kr e⟩, fun z => absurd z c1⟩)
  · exact r_lists t x y rfl h.ok h.hZ (fun R' => ⟨fun z => absurd c1 z, fun _ => ⟨fun _ kr e => ⟨rfl, h.ky ew s ky kr e⟩, fun z => absurd z c2, fun z => absurd z c2⟩⟩)
  · exact r_lists t x y rfl h.ok h.hZ (fun R' => ⟨fun z => absurd c1 z, fun _ => ⟨fun z => absurd c2 z, fun _ _ kr e => ⟨rfl, h.ky ew s ky kr e⟩, fun _ z => absurd c3 z⟩⟩)
  · refine r_lists t x y rfl h.ok h.hZ (fun R' => ⟨fun z => absurd c1 z, fun _ => ⟨fun z => absurd c2 z, fun _ z => absurd z c3, fun _ _ g1 g2 g3 g4 => ⟨rfl, ?_⟩⟩⟩)
    obtain ⟨t1, t2, t3, t4⟩ := h.tap
    obtain ⟨w1, w2, w3, w4, w5, w6⟩ := ew
    refine ⟨L, c', ⟨(g2 5 (by omega)).trans t1, by rw [k1 1 (by omega)]; exact t2, t3, fun k hk => by rw [k1 2 (by omega), g1 4 (by omega)]; exact t4 k hk⟩, ?_, ?_, ?_, ?_, ?_, ?_, ?_, s⟩
    · rw [k1 3 (by omega), g2 13 (by omega), g2 14 (by omega)]; exact h.flt
    · rw [g3]; exact h.gd
    · rw [g3]; exact h.W.congr (fun b h1 h2 => k1 b (by omega))
    · rw [g3]
      have u := h.U.congr h.h92 (k1 9 (by omega)) (fun x h1 h2 => k1 x (by omega)) (fun _ _ _ => rfl)
      unfold relU stw at u ⊢
      rw [w6]; exact u
    · rw [g1 20 (by omega), g1 21 (by omega), g4]; exact rt
    · rw [g1 3 (by omega), g3]; exact h.I.keep w5 (fun x h1 h2 => k1 x (by omega)) (fun _ _ => rfl)
    · rw [w3, w4]; exact h.Y
theorem szJ_9 {c : Nat} (h : c ≤ 9) : szJ c ≤ 32768 := by
  have hh : c = 0 ∨ c = 1 ∨ c = 2 ∨ c = 3 ∨ c = 4 ∨ c = 5 ∨ c = 6 ∨ c = 7 ∨ c = 8 ∨ c = 9 := by omega
  rcases hh with z | z | z | z | z | z | z | z | z | z <;> subst z <;> decide
theorem nim_imU (w : cQ) (i : Nat) (hi : i < 2) : nim (imU w i) ≤ nim w ∧ (imW w i = false → nim (imU w i) + 1 = nim w) := by
  obtain ⟨w1, w2, w3, w4, w5, ⟨b1, b2⟩, w7⟩ := w
  have hh : i = 0 ∨ i = 1 := by omega
  rcases hh with z | z <;> subst z <;> cases b1 <;> cases b2 <;> exact ⟨Nat.le_of_ble_eq_true rfl, fun z => by first | exact rfl | exact absurd (show true = false from z) (by decide)⟩
theorem j_image (x : Int) (h : Jn w n M R L c) : JO 175 313 [(0, x)] w n M R := by
  have S := h.S
  obtain ⟨s1, ⟨s2, s3⟩, s4⟩ := S
  have s9 := szJ_9 s1.1
  refine c_image x h.W h.ok ⟨by omega, by omega⟩ (fun w' n' M' => ⟨fun c1 e1 e2 e3 => ?_, fun c1 e1 e2 k1 rl rs => ?_⟩)
  · subst e1
    subst e2
    subst e3
    exact r_image x rfl (fun R' => ⟨fun _ kr e => ⟨rfl, h.kc (KC.refl _) kr e⟩, fun z => absurd z c1⟩)
  · refine r_image x rfl (fun R' => ⟨fun z => absurd c1 z, fun _ g1 g2 g3 g4 => ⟨rfl, ?_⟩⟩)
    obtain ⟨i, hi⟩ : ∃ i : Nat, x = (i : Int) := ⟨x.toNat, by omega⟩
    subst hi
    rw [Int.toNat_natCast] at e1 e2 k1 rl rs g3 g4
    have hi : i < 2 := by omega
    have hA : imA i = 110 ∨ imA i = 123 := by unfold imA; omega
    have kk : ∀ a, a < 110 ∨ 135 < a → M' a = M a := fun a ha => k1 a (by omega)
    obtain ⟨t1, t2, t3, t4⟩ := h.tap
    have lo := fun j hj => imgP_low (R 2) i j hj
    have st : stw w' = stw w := by
      rw [e1]; unfold imU; split <;> rfl
    subst e1
    refine ⟨L, c, ⟨(g2 5 (by omega)).trans t1, by rw [kk 1 (by omega)]; exact t2, t3, fun k hk => by rw [kk 2 (by omega), g1 4 (by omega) (by omega) (by omega)]; exact t4 k hk⟩, ?_, ?_, ?_, ?_, ?_, ?_, ?_, ?_⟩
    · rw [kk 3 (by omega), g2 13 (by omega), g2 14 (by omega)]; exact h.flt
    · rw [g4]; exact h.gd.lows lo
    · rw [g4]
      have r := h.W.congr (M' := M') (fun b h1 h2 => kk b (by omega))
      exact ⟨r.1.lows lo h.ok.B.2 h.ok.nc.2, r.2.lows (fun j hj => lo (65 + j) (by omega))⟩
    · rw [g4]
      have u := h.U.congr (P' := imgP (R 2) i) h.h92 (kk 9 (by omega)) (fun x h1 h2 => kk x (by omega)) (fun j h1 h2 => lo j (by omega))
      unfold relU at u ⊢
      rw [st]; exact u
    · rw [g1 20 (by omega) (by omega) (by omega), g1 21 (by omega) (by omega) (by omega), g1 22 (by omega) (by omega) (by omega)]; exact h.T.congr (fun x h1 h2 => kk x (by omega))
    · rw [g3, g4]; exact relI.img hi h.I h.ok k1 rl rs
    · unfold imU; split <;> exact h.Y
    · have sc : sCur (imU w i) c := by unfold imU; split <;> exact s1
      have rm : rmS (imU w i) n' c := by
        obtain ⟨m1, m2⟩ := nim_imU w i hi
        unfold rmS
        rcases e2 with z | ⟨z1, z⟩
        · subst z; omega
        · subst z
          have := m2 z1
          dsimp only
          omega
      have s' : srI w n M' c := h.S.kc (fun x hx => kk x (by omega))
      exact ⟨sc, rm, s'.2.2⟩
theorem j_restore (x : Int) (h : Jn w n M R L c) : JO 176 314 [(0, x)] w n M R := by
  refine CW.ofF (c_restore x h.I (fun M' => ⟨fun c1 e1 => ?_, fun c1 => ⟨fun c2 e1 => ?_, fun c2 k1 k2 k3 r => ?_⟩⟩))
  · subst e1
    exact r_restore x rfl (fun R' => ⟨fun _ kr e => ⟨rfl, h.kc (KC.refl _) kr e⟩, fun z => absurd z c1⟩)
  · subst e1
    exact r_restore x rfl (fun R' => ⟨fun z => absurd c1 z, fun _ => ⟨fun _ kr e => ⟨rfl, h.kc (KC.refl _) kr e⟩, fun z => absurd c2 z⟩⟩)
  · refine r_restore x rfl (fun R' => ⟨fun z => absurd c1 z, fun _ => ⟨fun z => absurd z c2, fun _ kr e => ⟨rfl, ?_⟩⟩⟩)
    obtain ⟨i, hi⟩ : ∃ i : Nat, x = (i : Int) := ⟨x.toNat, by omega⟩
    subst hi
    rw [Int.toNat_natCast] at c2 r e
    have hi : i < 2 := by omega
    have oki : okP (fun j => R 2 (1264 * (i + 1) + j)) := by
      rcases h.I i hi with z | z
      · exact absurd z.1 c2
      · exact z.2.2.2.2
    have kk : ∀ a, a ≠ 9 → (a < 29 ∨ 41 < a) → M' a = M a := k1
    refine ⟨L, c, tapK h kr (kk 1 (by omega) (by omega)) (kk 2 (by omega) (by omega)), fltK h kr (kk 3 (by omega) (by omega)), ?_, ?_, ?_, ?_, ?_, h.Y, h.S.kc (fun x hx => kk x (by omega) (by omega))⟩
    · rw [e]; exact gdP.of0 oki.rst (rstP_92 _ _)
    · rw [e]; exact r.rst oki
    · rw [e]
      refine ⟨by rw [k3, rstP_92], h.U.2.1, fun j hj => ?_⟩
      rw [rstP_92] at hj; omega
    · rw [kr.1 20 (by omega), kr.1 21 (by omega), kr.1 22 (by omega)]; exact h.T.congr (fun x h1 h2 => kk x (by omega) (by omega))
    · rw [e, kr.1 3 (by omega)]; exact h.I.keep rfl (fun x h1 h2 => kk x (by omega) (by omega)) (fun j hj => rstP_hi _ _ j hj)
theorem j_line (x : Int) (h : Jn w n M R L c) : JO 122 212 [(0, x)] w n M R := by
  obtain ⟨t1, t2, t3, t4⟩ := h.tap
  by_cases hx : 0 ≤ x ∧ x ≤ (L : Int)
  · have e : CR 60 212 [(2, 1), (0, x)] R (22, 40282) (fun b R' => ∃ (E : Nat → Int) (r : pR), empP E ∧ Txt (R 4) x.toNat E r ∧ KL R R' ∧ (match r with | .inl (_, P') => okP P' ∧ R' 1 13 = 0 ∧ R' 1 14 = -1 ∧ R' 2 = txP (R 2) P' ∧ b = P' 0 | .inr (k, a) => R' 1 13 = k ∧ R' 1 14 = ((a : Nat) : Int) ∧ R' 2 = R 2 ∧ b = w32 (-30 - k))) := by
      refine r_line (d := 30) x L t1 t3 (fun k hk => rfl) rfl (fun z => absurd hx z) (fun _ R' E p' P' kl hE hT ok e1 e2 e3 => ⟨E, .inl (p', P'), hE, hT, kl, ok, e1, e2, e3, rfl⟩) (fun _ R' E k a kl hE hT e1 e2 e3 => ⟨E, .inr (k, a), hE, hT, kl, e1, e2, e3, rfl⟩)
    obtain ⟨rv, u, ⟨R', hu, E, r, hE, hT, kl, hr⟩, run⟩ := WPm_exact gT 60 212 _ _ _ e
    have fin : ∀ {a : Int} {w' : cQ} {n' : Nat × Nat} {M' : Nat → Nat → Int}, rv.2 = a → J w' n' M' R' → CR 60 212 [(2, 1), (0, x)] R (22, 40282) (fun b R' => b = a ∧ J w' n' M' R') := fun {a w' n' M'} h1 h2 => WPm_mono gT 60 _ _ _ _ _ (fun r1 h1' z => ⟨R', by rw [z.2]; exact hu, by rw [z.1]; exact h1, h2⟩) run
    have hok : ∀ p' P', r = .inl (p', P') → okP P' := by
      intro p' P' z
      subst z
      exact hr.1
    refine c_line (d := 52) (T := R 4) (E := E) (r := r) x L t2 t3 t4 hE (fun _ => hT) hok (fun z => absurd hx z) (fun _ x' M' p' P' hx' er k1 k2 k3 k4 k5 k6 rw' k7 => ?_) (fun _ x' M' k a hx' er k1 k2 k3 k4 k5 => ?_)
    · subst er
      obtain ⟨ok, e1, e2, e3, e4⟩ := hr
      have lo : ∀ j, j < 1264 → txP (R 2) P' j = P' j := fun j hj => if_pos hj
      have hi : ∀ j, 1264 ≤ j → txP (R 2) P' j = R 2 j := fun j hj => if_neg (by omega)
      have kk : ∀ a, a ≠ 1 → a ≠ 3 → a ≠ 9 → (a < 17 ∨ 41 < a) → M' a = M a := fun a h1 h3 h9 ha => k1 a h1 h3 h9 (by omega)
      refine fin e4 ⟨0, c, ⟨kl.2, k3, by omega, fun k hk => by rw [kk 2 (by omega) (by omega) (by omega) (by omega), kl.1 4 (by omega)]; exact t4 k hk⟩, ⟨by rw [k5, e1], by rw [k6, e2]⟩, ?_, ?_, ?_, ?_, ?_, h.Y, ?_⟩
      · rw [e3]; exact gdP.of0 (ok.lows lo) (by rw [lo 92 (by omega)]; exact k7)
      · rw [e3]; exact ⟨rw'.1.lows lo ok.B.2 ok.nc.2, rw'.2.lows (fun j hj => lo (65 + j) (by omega))⟩
      · rw [e3]
        refine ⟨by rw [k4, lo 92 (by omega), k7], h.U.2.1, fun j hj => ?_⟩
        rw [lo 92 (by omega), k7] at hj
        omega
      · rw [kl.1 20 (by omega), kl.1 21 (by omega), kl.1 22 (by omega)]; exact h.T.congr (fun x h1 h2 => kk x (by omega) (by omega) (by omega) (by omega))
      · rw [e3, kl.1 3 (by omega)]; exact h.I.keep rfl (fun x h1 h2 => kk x (by omega) (by omega) (by omega) (by omega)) hi
      · exact (h.S.kc (fun x hx => kk x (by omega) (by omega) (by omega) (by omega)) : srI w n M' c)
    · subst er
      obtain ⟨e1, e2, e3, e4⟩ := hr
      have kk : ∀ a, a ≠ 1 → a ≠ 3 → (a < 17 ∨ 27 < a) → M' a = M a := k1
      refine fin e4 ⟨0, c, ⟨kl.2, k3, by omega, fun k hk => by rw [kk 2 (by omega) (by omega) (by omega), kl.1 4 (by omega)]; exact t4 k hk⟩, ⟨by rw [k4, e1], by rw [k5, e2]⟩, ?_, ?_, ?_, ?_, ?_, h.Y, ?_⟩
      · rw [e3]; exact h.gd
      · rw [e3]; exact h.W.congr (fun b h1 h2 => kk b (by omega) (by omega) (by omega))
      · rw [e3]; exact h.U.congr h.h92 (kk 9 (by omega) (by omega) (by omega)) (fun x h1 h2 => kk x (by omega) (by omega) (by omega)) (fun _ _ _ => rfl)
      · rw [kl.1 20 (by omega), kl.1 21 (by omega), kl.1 22 (by omega)]; exact h.T.congr (fun x h1 h2 => kk x (by omega) (by omega) (by omega))
      · rw [e3, kl.1 3 (by omega)]; exact h.I.keep rfl (fun x h1 h2 => kk x (by omega) (by omega) (by omega)) (fun _ _ => rfl)
      · exact (h.S.kc (fun x hx => kk x (by omega) (by omega) (by omega)) : srI w n M' c)
  · refine c_line (d := 52) (T := R 4) (E := fun _ => 0) (r := .inr (0, 0)) x L t2 t3 t4 (fun _ _ _ _ => rfl) (fun z => absurd z hx) (fun p' P' z => by cases z) (fun _ => ?_) (fun z => absurd z hx) (fun z => absurd z hx)
    exact r_line (d := 30) x L t1 t3 (fun k hk => rfl) rfl (fun _ R' kr e => ⟨rfl, h.kc (KC.refl _) kr e⟩) (fun z => absurd z hx) (fun z => absurd z hx)
end
