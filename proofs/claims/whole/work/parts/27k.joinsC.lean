/-! ===== joins, joinBy: the class ===== -/
section
variable {d : Nat} {n : Nat × Nat} {Ψ : Int → cQ → (Nat → Nat → Int) → Nat × Nat → Prop} {M : Nat → Nat → Int} {w : cQ} {P : Nat → Int} {c : Nat}
theorem ddJ_lt {P : Nat → Int} (ok : okP P) {f g k : Nat} (hf : f < 8) (hg : g < 8) (hk : k < 2 * nB P) : ddJ P f g k < 1023 := by
  have hB := ok.nBe
  have h1 := btJ_lt hk
  have h2 : whJ P f g k < 8 := by unfold whJ; split <;> omega
  unfold ddJ
  omega
theorem c_findLH (lo hi : Nat) (S : srI w n M c) (r : relW M P) (ok : okP P) (hlh : lo < hi) (hhi : hi < nF P) (M6 : Nat → Nat → Int) (w' : cQ) (n' : Nat × Nat) (c' : Nat) (g2 : sCur w' c') (g3 : rmS w' n' c') (q0 pa0 la0 : Nat → Nat) (t0 : Nat) (hq0 : ∀ i, i < t0 → q0 i < 64) (B0 : BS (aA c') (bA c') (szJ c') (nxJ P lo hi) (2 * nB P) (ddJ P lo hi) (8 * (P (68 + lo)).toNat + (P (68 + hi)).toNat) M6 0 0 0 q0 pa0 la0 t0) (G0 : GC M6 q0 t0) (r6 : relW M6 P) (qq : ∀ M', srI w' n' M' c' → KT (aA c') (bA c') M6 M' → labs w' n' M' c' (jnD P lo hi) (jnL P lo hi) → Ψ (jnD P lo hi) w' M' n') : W9_findJoining_106 (d + 4) Ψ (lo : Nat) (hi : Nat) (mayS P lo : Nat) (mayS P hi : Nat) (b2i (hrs P lo hi)) (b2i (hrs P hi lo)) 0 w' M6 n' := by
  obtain ⟨eB, hB⟩ := ok.nBe
  obtain ⟨eF, hF1, hF2⟩ := ok.nFe
  have A := okA_of g2
  have hlb : ∀ k, k < 2 * nB P → ddJ P lo hi k < 1023 := fun k hk => ddJ_lt ok (by omega) (by omega) hk
  have fin : ∀ (M1 : Nat → Nat → Int) (h p k : Nat) (q pa la : Nat → Nat) (tt : Nat), BS (aA c') (bA c') (szJ c') (nxJ P lo hi) (2 * nB P) (ddJ P lo hi) (8 * (P (68 + lo)).toNat + (P (68 + hi)).toNat) M1 h p k q pa la tt → GC M1 q tt → KT (aA c') (bA c') M6 M1 → ((∀ i, i < tt → (q i : Int) ≠ M1 93 0) → tt ≤ p) → CF (d + 4) 67 [(2, 93)] w' M1 n' (fun r0 M2 => Ψ r0 w' M2 n') := by
    intro M1 h p k q pa la tt B G k1 hex
    refine c_steps A B hlb (fun hn => ?_) (fun gi dd hg1 hg2 hg3 => ?_)
    · have hp := hex hn
      have hno : ∀ i, i < tt → ¬ glJ (q i) := by
        rcases G with ⟨_, h2⟩ | ⟨gi, h1, h2, _, _⟩
        · exact h2
        · exact absurd h2.symm (hn gi h1)
      have hnone := bf_none (G := glJ) B.2.2.2.2.1 (fun i k v hi hk hv => B.2.2.2.2.2 i k v (Or.inl (by omega)) hi hk hv) hno
      have hD : jnD P lo hi = -1 := dG_no hnone
      have := qq M1 (srI_of g2 g3 B) k1 (fun j hj => by rw [hD] at hj; omega)
      rw [hD] at this
      exact this
    · rcases G with ⟨h1, _⟩ | ⟨gj, h1, h2, h3, h4⟩
      · omega
      · have egj : gj = gi := B.2.2.2.2.1.2.2.1 gj gi h1 hg1 (by omega)
        subst egj
        have hL := (bf_goal B.2.2.2.2.1 hg1 h3 h4 hg3).1
        have hD : jnD P lo hi = (dd : Int) := dG_eq hL
        have := qq M1 (srI_of g2 g3 B) k1 (fun j hj M2 hM2 d' n2 Φ' hΦ => ?_)
        · rw [hD] at this
          exact this
        · have B2 := BS_congr B (hM2 93 (by omega)) (hM2 _ (by omega)) (hM2 _ (by omega))
          exact c_labelAt (G := glJ) A B2 hlb hg1 (by rw [hM2 93 (by omega)]; exact hg2) hg3 h3 h4 (j := j) (by omega) hΦ
  have key : ∀ h, h ≤ 64 → ∀ (M1 : Nat → Nat → Int) (q pa la : Nat → Nat) (tt : Nat), BS (aA c') (bA c') (szJ c') (nxJ P lo hi) (2 * nB P) (ddJ P lo hi) (8 * (P (68 + lo)).toNat + (P (68 + hi)).toNat) M1 h h 0 q pa la tt → (∀ i, i < tt → q i < 64) → GC M1 q tt → KT (aA c') (bA c') M6 M1 → W9_findJoining_106 (d + 4) Ψ (lo : Nat) (hi : Nat) (mayS P lo : Nat) (mayS P hi : Nat) (b2i (hrs P lo hi)) (b2i (hrs P hi lo)) (h : Nat) w' M1 n' := by
    refine up (fun M1 q pa la tt B hq G k1 => ?_) (fun h hh ih M1 q pa la tt B hq G k1 => ?_)
    · apply v9_findJoining_106
      refine ⟨fun _ => fin M1 _ _ _ q pa la tt B G k1 (fun _ => ?_), fun z => absurd (by omega) z⟩
      have h0 := (BS_t B).1
      have := pgn 64 (tt - 1) q (fun i hi => hq i (by omega)) (fun i j hi hj e => B.2.2.2.2.1.2.2.1 i j (by omega) (by omega) e)
      omega
    · apply v9_findJoining_106
      rw [w32_s (by omega)]
      refine ⟨fun z => absurd z (by omega), fun _ => ?_⟩
      refine c_nextPlace (d := d + 2) A B (fun hr => ⟨fun z => absurd rfl z, fun _ => fin M1 _ _ _ q pa la tt B G k1 (fun hn => ?_)⟩) (fun _ hex => ⟨fun z => absurd rfl z, fun _ => fin M1 _ _ _ q pa la tt B G k1 (fun _ => hex)⟩) (fun _ hlt M2 B2 k2 => ⟨fun _ => ?_, fun z => absurd (by omega) z⟩)
      · obtain ⟨i, hi, e⟩ := hr
        exact absurd e (hn i hi)
      · have kt2 : KT (aA c') (bA c') M6 M2 := k1.trans k2.1
        have G2 : GC M2 q tt := by
          rcases G with ⟨h1, h2⟩ | ⟨gi, h1, h2, h3⟩
          · exact Or.inl ⟨k2.2.trans h1, h2⟩
          · exact Or.inr ⟨gi, h1, k2.2.trans h2, h3⟩
        have hA6 := A.2.2.2.2.2.1
        have hA7 := A.2.2.2.2.2.2.1
        have r2 : relW M2 P := r6.congr (fun x hx1 hx2 => kt2 x (by omega) (by omega) (by omega))
        refine c_spreadLow (d := d + 1) A B2 hlt hlh (by omega) hq G2 r2 ok (fun M3 q3 pa3 la3 t3 B3 e1 e2 e3 G3 k3 => ?_)
        have r3 : relW M3 P := r2.congr (fun x hx1 hx2 => k3 x (by omega) (by omega) (by omega))
        rw [← e2 h hlt]
        refine c_spreadHigh (d := d + 1) A B3 (by omega) hlh (by omega) e3 G3 r3 ok (fun M4 q4 pa4 la4 t4 B4 e4 G4 k4 => ?_)
        exact ih M4 q4 pa4 la4 t4 (BS_next B4) e4 G4 (kt2.trans (k3.trans k4))
  exact key 0 (Nat.zero_le _) M6 q0 pa0 la0 t0 B0 hq0 G0 (fun _ _ _ _ => rfl)
theorem c_findJoining (f g : Nat) (S : srI w n M c) (r : relW M P) (ok : okP P) (hf : f < nF P) (hg : g < nF P) (hne : f ≠ g) (qq : ∀ w' n' M' c', eqW w w' → srI w' n' M' c' → KY M M' → labs w' n' M' c' (jnD P f g) (jnL P f g) → Ψ (jnD P f g) w' M' n') : CW (d + 5) 85 [(2, 13), (0, (f : Int)), (0, (g : Int))] w M n Ψ := by
  obtain ⟨eF, hF1, hF2⟩ := ok.nFe
  obtain ⟨eM, hM1, hM2⟩ := ok.nMe
  obtain ⟨lo, hlo⟩ : ∃ lo, lo = min f g := ⟨_, rfl⟩
  obtain ⟨hi, hhi⟩ : ∃ hi, hi = max f g := ⟨_, rfl⟩
  have e1 : (if (g : Int) < (f : Int) then (g : Int) else (f : Int)) = (lo : Int) := by split <;> omega
  have e2 : (if (f : Int) < (g : Int) then (g : Int) else (f : Int)) = (hi : Int) := by split <;> omega
  have hlh : lo < hi := by omega
  have al := ok.at (f := lo) (by omega)
  have ah := ok.at (f := hi) (by omega)
  -- both orders are one
  have qq2 : ∀ w' n' M' c', eqW w w' → srI w' n' M' c' → KY M M' → labs w' n' M' c' (jnD P lo hi) (jnL P lo hi) → Ψ (jnD P lo hi) w' M' n' := by
    intro w' n' M' c' g1 g2 g3 g4
    by_cases cc : f < g
    · have x1 : lo = f := by omega
      have x2 : hi = g := by omega
      rw [x1, x2] at g4 ⊢
      exact qq w' n' M' c' g1 g2 g3 g4
    · have x1 : lo = g := by omega
      have x2 : hi = f := by omega
      rw [x1, x2] at g4 ⊢
      obtain ⟨y1, y2⟩ := jn_sym ok (f := f) (g := g) (by omega) (by omega) hne
      rw [y1] at g4 ⊢
      refine qq w' n' M' c' g1 g2 g3 (fun j hj M2 hM2 d' n2 Φ' hΦ => ?_)
      have := g4 j hj M2 hM2 d' n2 Φ'
      rw [y2 j hj] at this
      exact this hΦ
  apply e9_findJoining
  rw [e1, e2]
  simp only [Int.toNat_natCast]
  rw [r.at (f := lo) (by omega), r.at (f := hi) (by omega)]
  have ms : w32 (w32 (P (68 + lo) * 8) + P (68 + hi)) = ((8 * (P (68 + lo)).toNat + (P (68 + hi)).toNat : Nat) : Int) := by
    rw [w32_id (x := P (68 + lo) * 8) (by omega) (by omega), w32_id (by omega) (by omega)]
    omega
  rw [ms]
  have hs64 : 8 * (P (68 + lo)).toNat + (P (68 + hi)).toNat < 64 := by omega
  refine ⟨by omega, by omega, ?_⟩
  have hszc := szJ_le S.1.1
  refine c_begin 64 _ (-1) S (Or.inl hszc.1) hs64 (fun w' n' M1 c' g1 g2 g3 g4 g5 g6 g7 g8 => ?_)
  have A := okA_of g2
  have hA6 := A.2.2.2.2.2.1
  have hA7 := A.2.2.2.2.2.2.1
  have B1 := g8 (nxJ P lo hi) (2 * nB P) (ddJ P lo hi)
  have r1 : relW M1 P := r.congr (fun x hx1 hx2 => g6 x (by omega))
  generalize hst : 8 * (P (68 + lo)).toNat + (P (68 + hi)).toNat = st at *
  -- from the marked start on
  have go : ∀ M2, BS (aA c') (bA c') (szJ c') (nxJ P lo hi) (2 * nB P) (ddJ P lo hi) st M2 0 0 0 (fun _ => st) (fun _ => 0) (fun _ => 0) 1 → GC M2 (fun _ => st) 1 → (∀ x, x ≠ 93 → M2 x = M1 x) → CF (d + 4) 96 [(2, 4), (0, (lo : Int))] w' M2 n' (fun r2 M3 => CF (d + 4) 96 [(2, 4), (0, (hi : Int))] w' M3 n' (fun r3 M4 => CF (d + 4) 99 [(2, 4), (0, (lo : Int)), (0, (hi : Int))] w' M4 n' (fun r4 M5 => CF (d + 4) 99 [(2, 4), (0, (hi : Int)), (0, (lo : Int))] w' M5 n' (fun r5 M6 => W9_findJoining_106 (d + 4) Ψ (lo : Nat) (hi : Nat) r2 r3 r4 r5 0 w' M6 n')))) := by
    intro M2 B2 G2 k2
    have r2 : relW M2 P := r1.congr (fun x hx1 hx2 => k2 x (by omega))
    refine sp_allowedBits lo r2 ok (by omega) (fun M3 k3 => sp_allowedBits hi (r2.q k3) ok (by omega) (fun M4 k4 => sp_hearsFrom (d := d + 1) lo hi ((r2.q k3).q k4) ok (by omega) (by omega) (fun M5 k5 => sp_hearsFrom (d := d + 1) hi lo (((r2.q k3).q k4).q k5) ok (by omega) (by omega) (fun M6 k6 => ?_))))
    have kk : ∀ x, x ≠ 42 → x ≠ 43 → M6 x = M2 x := fun x h1 h2 => by rw [k6 x h1 h2, k5 x h1 h2, k4 x h1 h2, k3 x h1 h2]
    have B6 := BS_congr B2 (kk 93 (by omega) (by omega)) (kk _ (by omega) (by omega)) (kk _ (by omega) (by omega))
    have G6 : GC M6 (fun _ => st) 1 := by
      unfold GC
      rw [kk 93 (by omega) (by omega)]
      exact G2
    rw [← hst] at B6
    refine c_findLH lo hi S r ok hlh (by omega) M6 w' n' c' g2 g3 _ _ _ 1 (fun i _ => by show st < 64; omega) (by rw [hst] at B6 ⊢; exact B6) G6 ((((r2.q k3).q k4).q k5).q k6) (fun M' s1 s2 s3 => qq2 w' n' M' c' g1 s1 ?_ s3)
    intro x hx
    have hx1 : x ≠ 93 := by omega
    have hxa : x ≠ aA c' := by omega
    have hxb : x ≠ bA c' := by omega
    rw [s2 x hx1 hxa hxb, kk x (by omega) (by omega), k2 x hx1]
    exact g6 x (by omega)
  refine c_markAtOne st hs64 (fun hm hg' => go _ (BS_goal (by omega) (by omega) B1) (Or.inr ⟨0, by omega, sI_same _ _ _ _, hg', fun i hi => absurd hi (Nat.not_lt_zero _)⟩) (fun x hx => sI_row hx)) (fun hm => go M1 B1 (Or.inl ⟨g7, fun i _ => ?_⟩) (fun _ _ => rfl))
  rcases hm with hm | hm
  · exact absurd g7 hm
  · exact hm
theorem c_joins (x y : Int) (S : srI w n M c) (r : relW M P) (ok : okP P) (q : ∀ w' n' M' c', eqW w w' → srI w' n' M' c' → KY M M' → Ψ (zJoins P x y) w' M' n') : CW (d + 6) 157 [(2, 1), (0, x), (0, y)] w M n Ψ := by
  obtain ⟨eF, hF1, hF2⟩ := ok.nFe
  unfold zJoins at q
  refine e11_joins (c_areTwo x y r (br (fun e => ?_) (fun e => ?_)))
  · rw [if_neg (of_decide_eq_false e)] at q
    exact q w n M c (eqW.refl w) S (fun _ _ => rfl)
  · have e := of_decide_eq_true e
    rw [if_pos e] at q
    obtain ⟨a, ha⟩ : ∃ a : Nat, x = (a : Int) := ⟨x.toNat, by omega⟩
    obtain ⟨b, hb⟩ : ∃ b : Nat, y = (b : Int) := ⟨y.toNat, by omega⟩
    subst ha hb
    simp only [Int.toNat_natCast] at q
    exact c_findJoining a b S r ok (by omega) (by omega) (by omega) (fun w' n' M' c' g1 g2 g3 _ => q w' n' M' c' g1 g2 g3)
theorem c_joinBy (x y i : Int) (S : srI w n M c) (r : relW M P) (ok : okP P) (q : ∀ w' n' M' c', eqW w w' → srI w' n' M' c' → KY M M' → Ψ (zJoinBy P x y i) w' M' n') : CW (d + 6) 158 [(2, 1), (0, x), (0, y), (0, i)] w M n Ψ := by
  obtain ⟨eF, hF1, hF2⟩ := ok.nFe
  unfold zJoinBy at q
  refine e11_joinBy (c_areTwo x y r (br' (fun e => ?_) (fun e => ?_)))
  · have e := of_decide_eq_true e
    rw [if_pos e] at q
    obtain ⟨a, ha⟩ : ∃ a : Nat, x = (a : Int) := ⟨x.toNat, by omega⟩
    obtain ⟨b, hb⟩ : ∃ b : Nat, y = (b : Int) := ⟨y.toNat, by omega⟩
    subst ha hb
    simp only [Int.toNat_natCast] at q
    refine ⟨fun c1 => ?_, fun c1 => ?_⟩
    · rw [if_pos c1] at q
      refine c_findJoining a b S r ok (by omega) (by omega) (by omega) (fun w' n' M' c' g1 g2 g3 g4 => ?_)
      have q1 := q w' n' M' c' g1 g2 g3
      refine ⟨fun c2 => ?_, fun c2 => ?_⟩
      · rw [if_neg (by omega)] at q1; exact q1
      · rw [if_pos (by omega)] at q1
        obtain ⟨j, hj⟩ : ∃ j : Nat, i = (j : Int) := ⟨i.toNat, by omega⟩
        subst hj
        rw [Int.toNat_natCast] at q1
        exact g4 j (by omega) M' (fun _ _ => rfl) (d + 2) n' (fun r2 M3 => Ψ r2 w' M3 n') q1
    · rw [if_neg c1] at q
      exact q w n M c (eqW.refl w) S (fun _ _ => rfl)
  · rw [if_neg (of_decide_eq_false e)] at q
    exact q w n M c (eqW.refl w) S (fun _ _ => rfl)
end
