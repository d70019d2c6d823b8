/-! ===== laws, lines, a text: the class (printed by program) ===== -/
theorem lwC.fr {M M' : Nat → Nat → Int} {l st cm : Nat} {S : List Nat} (h : lwC M l S st cm) (h6 : M' 26 = M 26) (h7 : M' 27 = M 27) : lwC M' l S st cm := by
  obtain ⟨l0, l2, l4, l5, l6, l7, l8, l9, ls⟩ := h
  exact ⟨by rw [h6]; exact l0, by rw [h6]; exact l2, by rw [h6]; exact l4, by rw [h6]; exact l5, by rw [h6]; exact l6, by rw [h6]; exact l7, by rw [h6]; exact l8, by rw [h6]; exact l9, stkC_ext S (fun i hi => by rw [h7]) ls⟩
theorem frD.ofQ {M M' : Nat → Nat → Int} (h : frQ M M') : frD M M' := fun c h1 h3 => h c (by omega) (by omega) (by omega) (by omega)
theorem putL_ne {P P' : Nat → Int} {l j : Nat} (h1 : j ≠ 4 + l) (h2 : j ≠ 7 + l) (h3 : j ≠ 10 + l) : putL l P P' j = P' j := by
  unfold putL
  rw [pset_ne h3, pset_ne h2, pset_ne h1]
theorem relE.lawd {M : Nat → Nat → Int} {P P' : Nat → Int} {l : Nat} (hl : l < 3) (h : relE l M P') (h12 : P' 3 ≤ 12) (h24 : M 24 l = P 363) (h25 : M 25 l = P' 363 - P 363) : relE 3 M (putL l P P') := by
  obtain ⟨⟨a1, a2, a3, a4, a5, a6⟩, b, c, lw, k, ⟨t1, t2⟩, z1, z2, z3, z4⟩ := h
  have e3 : putL l P P' 3 = P' 3 := putL_ne (by omega) (by omega) (by omega)
  have e363 : putL l P P' 363 = P' 363 := putL_ne (by omega) (by omega) (by omega)
  refine ⟨⟨?_, ?_, ?_, ?_, ?_, ?_⟩, fun i hi => ?_, fun g hg => ?_, fun i hi hx => ?_, fun i hi => ?_, ⟨?_, fun g hg => ?_⟩, ?_, ?_, ?_, fun g hg => ?_⟩
  · rw [putL_ne (by omega) (by omega) (by omega)]; exact a1
  · rw [putL_ne (by omega) (by omega) (by omega)]; exact a2
  · rw [e3]; exact a3
  · rw [mustN_ext e3 (fun b hb => putL_ne (by omega) (by omega) (by omega))]; exact a4
  · rw [putL_ne (by omega) (by omega) (by omega)]; exact a5
  · rw [e363]; exact a6
  · rw [e3] at hi
    rw [putL_ne (by omega) (by omega) (by omega), putL_ne (by omega) (by omega) (by omega)]; exact b i hi
  · rw [putL_ne (by omega) (by omega) (by omega), putL_ne (by omega) (by omega) (by omega)]; exact c g hg
  · by_cases ci : i = l
    · subst ci
      have e4 : putL i P P' (4 + i) = 1 := by
        unfold putL
        rw [pset_ne (by omega), pset_ne (by omega), pset_eq]
      have e7 : putL i P P' (7 + i) = P 363 := by
        unfold putL
        rw [pset_ne (by omega), pset_eq]
      have e10 : putL i P P' (10 + i) = P' 363 - P 363 := by
        unfold putL
        exact pset_eq _ _ _
      rw [e4, e7, e10]
      exact ⟨fun z => absurd z (by omega), fun _ => ⟨h24, h25⟩⟩
    · rw [putL_ne (by omega) (by omega) (by omega), putL_ne (j := 7 + i) (by omega) (by omega) (by omega), putL_ne (j := 10 + i) (by omega) (by omega) (by omega)]
      exact lw i hi ci
  · rw [e363] at hi
    rw [putL_ne (by omega) (by omega) (by omega)]; exact k i hi
  · rw [putL_ne (by omega) (by omega) (by omega)]; exact t1
  · rw [putL_ne (by omega) (by omega) (by omega), putL_ne (by omega) (by omega) (by omega)]; exact t2 g hg
  · rw [putL_ne (by omega) (by omega) (by omega)]; exact z1
  · rw [putL_ne (by omega) (by omega) (by omega)]; exact z2
  · rw [putL_ne (by omega) (by omega) (by omega)]; exact z3
  · rw [putL_ne (by omega) (by omega) (by omega)]; exact z4 g hg
section
variable {d : Nat} {n : Nat × Nat} {Ψ : Int → cQ → (Nat → Nat → Int) → Nat × Nat → Prop} {M : Nat → Nat → Int} {T : Nat → Int} {N p l : Nat} {w : cQ} {w1 : Nat × cQr} {w2 : cQr} {P : Nat → Int} {r : pR}
theorem c_lawrun (hl : l < 3) {fr : Int} : ∀ (f p : Nat) (M : Nat → Nat → Int) (P : Nat → Int) (S : List Nat) (st cm i : Nat), Rn l T N f p S st cm P r → atC l M T N p P → lwC M l S st cm → ivT S st cm → 0 ≤ P 363 → P 363 + (S.length : Int) ≤ (p : Int) → P 3 ≤ 12 → i ≤ p → M 24 l = fr → (∀ M' p' P', frD M M' → atC l M' T N p' P' → P' 3 = P 3 → M' 24 l = fr → M' 25 l = w32 (P' 363 - fr) → 0 ≤ P' 363 → P' 363 ≤ 900 → r = .inl (p', P') → Ψ 1 (2, 17, w2) M' n) → (∀ M' k a, frD M M' → badC M' k a → r = .inr (k, a) → Ψ 0 (2, 17, w2) M' n) → W4_readLaw_29 (d + 4) Ψ (i : Nat) (2, 17, w2) M n := by
  intro f
  induction f with
  | zero => intro p M P S st cm i g; exact g.elim
  | succ f ih =>
    intro p M P S st cm i g h lw iv h0 h9 h12 hi h24 q1 q0
    have g := Rn_stp g
    have hp := h.le
    have hN := h.tap.2.1
    have hE := h.nx
    apply v4_readLaw_29
    rw [h.len, h.kd]
    refine ⟨fun z => absurd z (by omega), fun _ => ?_⟩
    refine c_takeL (v := tkV T N p) hl (tkK_v T N p) h.rel lw iv h0 (fun z => by have := hE.2 z; omega) h12 (fun z => ⟨h.val z, tkV_b z⟩) (fun e es he => ?_) (fun P' es M' g1 r' g2 g3 => ?_) (fun S' st' cm' P' es iv' h0' h3' hs k24 M' f' r' lw' => ?_)
    · rw [es] at g
      refine ⟨fun z => absurd z he, fun _ => ?_⟩
      exact c_fail e he h (fun M' k a f' b rr => ⟨Or.inl rfl, q0 M' k a f' b (g.trans rr.symm)⟩)
    · rw [es] at g
      refine ⟨fun _ => ⟨fun z => absurd (g2.symm.trans z) (by decide), fun _ => ?_⟩, fun z => absurd rfl z⟩
      have b9 : P' 3 = P 3 ∧ 0 ≤ P' 363 ∧ P' 363 ≤ 900 := by
        unfold stpT at es
        split at es
        · split at es
          · split at es <;> cases es
          · split at es
            · cases es
            · split at es <;> cases es
        · split at es
          · cases es
          · split at es
            · injection es with es
              injection es with es
              obtain ⟨i1, i2, i3, i4, i5⟩ := poT_len 1 S P h0 iv.1
              rw [← es]
              refine ⟨i4, by omega, ?_⟩
              omega
            · split at es <;> cases es
      refine q1 M' p P' (fun c h1 h3 => g1 c (by omega) (by omega) (by omega) (by omega) (by omega)) (h.wth (g1 3 (by omega) (by omega) (by omega) (by omega) (by omega)) (g1 2 (by omega) (by omega) (by omega) (by omega) (by omega)) r') b9.1 ?_ ?_ b9.2.1 b9.2.2 g
      · rw [g1 24 (by omega) (by omega) (by omega) (by omega) (by omega)]; exact h24
      · rw [g3, h24]
    · rw [es] at g
      have k24' := hE.2 k24
      refine ⟨fun _ => ⟨fun _ => ?_, fun z => absurd lw'.1 z⟩, fun z => absurd rfl z⟩
      have a' : atC l M' T N p P' := h.wth (f' 3 (by omega) (by omega) (by omega) (by omega)) (f' 2 (by omega) (by omega) (by omega) (by omega)) r'
      refine c_adv a' (fun M2 f2 a2 => ?_)
      rw [w32_s (k := i) (by omega)]
      have F2 : frD M M2 := (frD.ofQ f').y f2
      refine ih (tkE T N p) M2 P' S' st' cm' (i + 1) g a2 (lw'.fr (f2.1 26 (by omega)) (f2.1 27 (by omega))) iv' h0' (by omega) (by omega) (by omega) ?_ (fun M3 p' P3 f3 a3 e3 e24 e25 e0 e9 er => q1 M3 p' P3 (F2.trans f3) a3 (e3.trans h3') e24 e25 e0 e9 er) (fun M3 k a f3 b3 er => q0 M3 k a (F2.trans f3) b3 er)
      rw [f2.1 24 (by omega), f' 24 (by omega) (by omega) (by omega) (by omega)]; exact h24
theorem c_beginL (hl : l < 3) (h : relE 3 M P) (q : ∀ M', (∀ c, c ≠ 24 → c ≠ 25 → c ≠ 26 → M' c = M c) → relE l M' P → lwC M' l [] (if l = 2 then 1 else 0) 0 → M' 24 l = P 363 → Ψ 0 (w.1, 17, w.2.2) M' n) : CW (d + 2) 7 [(2, 26), (0, (l : Int)), (2, 17)] w M n Ψ := by
  apply e1_begin
  have e1 : (sI M 26 2 (l : Int)) 26 2 = (l : Int) := sI_same _ _ _ _
  have e2 : (sI M 26 2 (l : Int)) 17 13 = P 363 := by rw [sI_rw (by omega)]; exact h.1.2.2.2.2.2
  rw [e1, e2, Int.toNat_natCast]
  have e3 : (sI (sI M 26 2 (l : Int)) 24 l (P 363)) 26 2 = (l : Int) := by rw [sI_rw (by omega)]; exact e1
  rw [e3, Int.toNat_natCast]
  refine ⟨⟨by omega, by omega, trivial⟩, ⟨by omega, by omega, trivial⟩, c_unit ?_⟩
  generalize hM : sI (sI (sI (sI (sI (sI (sI (sI M 26 2 (l : Int)) 24 l (P 363)) 25 l 0) 26 4 0) 26 5 0) 26 6 0) 26 7 0) 26 0 0 = K
  have rw0 : ∀ c, c ≠ 24 → c ≠ 25 → c ≠ 26 → K c = M c := by
    intro c h1 h2 h3
    rw [← hM, sI_row h3, sI_row h3, sI_row h3, sI_row h3, sI_row h3, sI_row h2, sI_row h1, sI_row h3]
  have r24 : ∀ j, j ≠ l → K 24 j = M 24 j := by
    intro j hj
    rw [← hM, sI_rw (by omega), sI_rw (by omega), sI_rw (by omega), sI_rw (by omega), sI_rw (by omega), sI_rw (by omega), sI_ne hj, sI_rw (by omega)]
  have r25 : ∀ j, j ≠ l → K 25 j = M 25 j := by
    intro j hj
    rw [← hM, sI_rw (by omega), sI_rw (by omega), sI_rw (by omega), sI_rw (by omega), sI_rw (by omega), sI_ne hj, sI_rw (by omega), sI_rw (by omega)]
  have k24 : K 24 l = P 363 := by
    rw [← hM, sI_rw (by omega), sI_rw (by omega), sI_rw (by omega), sI_rw (by omega), sI_rw (by omega), sI_rw (by omega), sI_same]
  have k0 : K 26 0 = 0 := by rw [← hM, sI_same]
  have k7 : K 26 7 = 0 := by rw [← hM, sI_ne (by omega), sI_same]
  have k6 : K 26 6 = 0 := by rw [← hM, sI_ne (by omega), sI_ne (by omega), sI_same]
  have k5 : K 26 5 = 0 := by rw [← hM, sI_ne (by omega), sI_ne (by omega), sI_ne (by omega), sI_same]
  have k4 : K 26 4 = 0 := by rw [← hM, sI_ne (by omega), sI_ne (by omega), sI_ne (by omega), sI_ne (by omega), sI_same]
  have k2 : K 26 2 = (l : Int) := by rw [← hM, sI_ne (by omega), sI_ne (by omega), sI_ne (by omega), sI_ne (by omega), sI_ne (by omega), sI_rw (by omega)]; exact e3
  have re : relE l K P := by
    obtain ⟨a1, a2, a3, a4, a5, a6, a7⟩ := h
    unfold relE
    rw [rw0 17 (by omega) (by omega) (by omega), rw0 18 (by omega) (by omega) (by omega), rw0 19 (by omega) (by omega) (by omega), rw0 20 (by omega) (by omega) (by omega), rw0 21 (by omega) (by omega) (by omega), rw0 22 (by omega) (by omega) (by omega), rw0 23 (by omega) (by omega) (by omega)]
    exact ⟨a1, a2, a3, fun j hj hx => by rw [r24 j hx, r25 j hx]; exact a4 j hj (by omega), a5, a6, a7⟩
  have m2 : (sI (sI K 26 8 0) 26 9 0) 26 2 = (l : Int) := by rw [sI_ne (by omega), sI_ne (by omega)]; exact k2
  rw [m2]
  refine ⟨fun c => ?_, fun c => ?_⟩
  · have c : l ≠ 2 := by omega
    rw [if_neg c] at q
    refine q _ (fun c h1 h2 h3 => by rw [sI_row h3, sI_row h3]; exact rw0 c h1 h2 h3) (re.law (fun c h1 h2 => by rw [sI_row (by omega), sI_row (by omega)])) ⟨?_, m2, ?_, ?_, ?_, ?_, ?_, ?_, trivial⟩ (by rw [sI_rw (by omega), sI_rw (by omega)]; exact k24)
    · rw [sI_ne (by omega), sI_ne (by omega)]; exact k0
    · rw [sI_ne (by omega), sI_ne (by omega)]; exact k4
    · rw [sI_ne (by omega), sI_ne (by omega)]; exact k5
    · rw [sI_ne (by omega), sI_ne (by omega)]; exact k6
    · rw [sI_ne (by omega), sI_ne (by omega)]; exact k7
    · rw [sI_ne (by omega), sI_same]; rfl
    · rw [sI_same]; rfl
  · have c : l = 2 := by omega
    rw [if_pos c] at q
    refine q _ (fun c h1 h2 h3 => by rw [sI_row h3, sI_row h3, sI_row h3]; exact rw0 c h1 h2 h3) (re.law (fun c h1 h2 => by rw [sI_row (by omega), sI_row (by omega), sI_row (by omega)])) ⟨?_, ?_, ?_, ?_, ?_, ?_, ?_, ?_, trivial⟩ (by rw [sI_rw (by omega), sI_rw (by omega), sI_rw (by omega)]; exact k24)
    · rw [sI_ne (by omega), sI_ne (by omega), sI_ne (by omega)]; exact k0
    · rw [sI_ne (by omega)]; exact m2
    · rw [sI_ne (by omega), sI_ne (by omega), sI_ne (by omega)]; exact k4
    · rw [sI_ne (by omega), sI_ne (by omega), sI_ne (by omega)]; exact k5
    · rw [sI_ne (by omega), sI_ne (by omega), sI_ne (by omega)]; exact k6
    · rw [sI_ne (by omega), sI_ne (by omega), sI_ne (by omega)]; exact k7
    · rw [sI_same]; rfl
    · rw [sI_ne (by omega), sI_same]; rfl
theorem c_lawC (hl : l < 3) (h : atC 3 M T N p P) (ok : okD p P) (hk : tkK T N p ≠ 24) (g : lawT T N l p P r) (q1 : ∀ x' M' p' P', (x' = w1.1 ∨ x' = 17) → frD M M' → atC 3 M' T N p' P' → r = .inl (p', P') → Ψ 1 (2, x', w1.2) M' n) (q0 : ∀ x' M' k a, (x' = w1.1 ∨ x' = 17) → frD M M' → badC M' k a → r = .inr (k, a) → Ψ 0 (2, x', w1.2) M' n) : CW (d + 5) 40 [(2, 3), (0, (l : Int))] (2, w1) M n Ψ := by
  have g0 := h.nx.2 hk
  have hC := ok.1.nc
  have hO := ok.2
  refine e4_readLaw (c_adv h (fun M1 f1 a1 => ?_))
  unfold lawT at g
  refine c_expect 31 (by unfold vK; omega) (by decide) a1 (fun e M2 f2 a2 => io1 ?_) (fun e M2 k a f2 b rr => iz1 (q0 w1.1 M2 k a (Or.inl rfl) ((frD.ofY f1).trans f2) b ?_))
  · rw [if_pos e] at g
    obtain ⟨r0, ⟨u, g1⟩, g2⟩ := g
    have k1 := a1.nx.2 (by omega)
    refine c_beginL hl a2.rel (fun M3 k3 r3 lw3 e24 => ?_)
    have F3 : frD M M3 := fun c h1 h3 => by rw [k3 c (by omega) (by omega) (by omega)]; exact ((frD.ofY f1).y f2) c h1 h3
    have a3 : atC l M3 T N (tkE T N (tkE T N p)) P := a2.wth (k3 3 (by omega) (by omega) (by omega)) (k3 2 (by omega) (by omega) (by omega)) r3
    refine c_lawrun hl u _ M3 P [] _ 0 0 g1 a3 lw3 ⟨trivial, ?_, by omega, fun _ => rfl⟩ hC.1 ?_ ok.1.B.2 (Nat.zero_le _) e24 (fun M' p' P' f' a' e3 e24' e25 e0 e9 er => ?_) (fun M' k a f' b' er => ?_)
    · split <;> omega
    · show P 363 + ((0 : Nat) : Int) ≤ _
      omega
    · subst er
      refine q1 17 M' p' (putL l P P') (Or.inr rfl) (F3.trans f') (a'.wth rfl rfl (a'.rel.lawd hl (by have := ok.1.B.2; omega) e24' ?_)) g2
      rw [e25, w32_id (by omega) (by omega)]
    · subst er
      exact q0 17 M' k a (Or.inr rfl) (F3.trans f') b' g2
  · rw [if_neg e] at g
    exact g.trans rr.symm
theorem c_readLine (h : atC 3 M T N p P) (ok : okD p P) (hk : tkK T N p ≠ 24) (g : LnE T N p P r) (q1 : ∀ x' M' p' P', (x' = w1.1 ∨ x' = 17) → frD M M' → atC 3 M' T N p' P' → r = .inl (p', P') → Ψ 1 (2, x', w1.2) M' n) (q0 : ∀ x' M' k a, (x' = w1.1 ∨ x' = 17) → frD M M' → badC M' k a → r = .inr (k, a) → Ψ 0 (2, x', w1.2) M' n) : CW (d + 6) 33 [(2, 3)] (2, w1) M n Ψ := by
  obtain ⟨r0, g1, g2⟩ := g
  have hv := tkK_v T N p
  -- behind a line: its end
  have tl : ∀ x' M' p' P', (x' = w1.1 ∨ x' = 17) → frD M M' → atC 3 M' T N p' P' → r0 = .inl (p', P') → CF (d + 5) 34 [(2, 3)] (2, x', w1.2) M' n (fun r1 M2 => (r1 = 0 → Ψ 0 (2, x', w1.2) M2 n) ∧ (¬ (r1 = 0) → Ψ 1 (2, x', w1.2) M2 n)) := by
    intro x' M' p' P' hx f' a' e
    subst e
    have g2 : r = smc T N p' P' := g2
    refine c_end a' (fun e M2 f2 a2 => io0 (q1 x' M2 _ _ hx (f'.trans f2) a2 (g2.trans (if_pos e)))) (fun e M2 k a f2 b2 rr => iz0 (q0 x' M2 k a hx (f'.trans f2) b2 ((g2.trans (if_neg e)).trans rr.symm)))
  have bd : ∀ x' M' k a, (x' = w1.1 ∨ x' = 17) → frD M M' → badC M' k a → r0 = .inr (k, a) → Ψ 0 (2, x', w1.2) M' n := by
    intro x' M' k a hx f' b' e
    subst e
    exact q0 x' M' k a hx f' b' g2
  unfold Ln at g1
  have bit : tkK T N p = 2 → CF (d + 5) 35 [(2, 3)] (2, w1) M n (fun r0 M1 => (r0 = 0 → Ψ 0 (2, w1) M1 n) ∧ (¬ (r0 = 0) → CF (d + 5) 34 [(2, 3)] (2, w1) M1 n (fun r1 M2 => (r1 = 0 → Ψ 0 (2, w1) M2 n) ∧ (¬ (r1 = 0) → Ψ 1 (2, w1) M2 n)))) := by
    intro e
    rw [if_pos e] at g1
    exact c_bitC h ok.1 (fun M' p' P' f' a' e' => io0 (tl w1.1 M' p' P' (Or.inl rfl) f' a' (g1.trans e'))) (fun M' k a f' b' e' => iz0 (bd w1.1 M' k a (Or.inl rfl) f' b' (g1.trans e')))
  have frm : tkK T N p = 5 → CF (d + 5) 36 [(2, 3)] (2, w1) M n (fun r0 M1 => (r0 = 0 → Ψ 0 (2, w1) M1 n) ∧ (¬ (r0 = 0) → CF (d + 5) 34 [(2, 3)] (2, w1) M1 n (fun r1 M2 => (r1 = 0 → Ψ 0 (2, w1) M2 n) ∧ (¬ (r1 = 0) → Ψ 1 (2, w1) M2 n)))) := by
    intro e
    rw [if_neg (by omega), if_pos e] at g1
    exact c_farmC h ok.1 g1 (fun M' p' P' f' a' e' => io0 (tl w1.1 M' p' P' (Or.inl rfl) f' a' e')) (fun M' k a f' b' e' => iz0 (bd w1.1 M' k a (Or.inl rfl) f' b' e'))
  have cut : tkK T N p = 8 → CF (d + 5) 37 [(2, 3)] (2, w1) M n (fun r0 M1 => (r0 = 0 → Ψ 0 (2, w1) M1 n) ∧ (¬ (r0 = 0) → CF (d + 5) 34 [(2, 3)] (2, w1) M1 n (fun r1 M2 => (r1 = 0 → Ψ 0 (2, w1) M2 n) ∧ (¬ (r1 = 0) → Ψ 1 (2, w1) M2 n)))) := by
    intro e
    rw [if_neg (by omega), if_neg (by omega), if_pos e] at g1
    exact c_cutC h ok.1 (fun M' p' P' f' a' e' => io0 (tl w1.1 M' p' P' (Or.inl rfl) f' a' (g1.trans e'))) (fun M' k a f' b' e' => iz0 (bd w1.1 M' k a (Or.inl rfl) f' b' (g1.trans e')))
  have sno : tkK T N p = 9 → CF (d + 5) 38 [(2, 3)] (2, w1) M n (fun r0 M1 => (r0 = 0 → Ψ 0 (2, w1) M1 n) ∧ (¬ (r0 = 0) → CF (d + 5) 34 [(2, 3)] (2, w1) M1 n (fun r1 M2 => (r1 = 0 → Ψ 0 (2, w1) M2 n) ∧ (¬ (r1 = 0) → Ψ 1 (2, w1) M2 n)))) := by
    intro e
    rw [if_neg (by omega), if_neg (by omega), if_neg (by omega), if_pos e] at g1
    exact c_snowC h ok.1 (fun M' p' P' f' a' e' => io0 (tl w1.1 M' p' P' (Or.inl rfl) f' a' (g1.trans e'))) (fun M' k a f' b' e' => iz0 (bd w1.1 M' k a (Or.inl rfl) f' b' (g1.trans e')))
  have now : tkK T N p = 14 → CF (d + 5) 39 [(2, 3)] (2, w1) M n (fun r0 M1 => (r0 = 0 → Ψ 0 (2, w1) M1 n) ∧ (¬ (r0 = 0) → CF (d + 5) 34 [(2, 3)] (2, w1) M1 n (fun r1 M2 => (r1 = 0 → Ψ 0 (2, w1) M2 n) ∧ (¬ (r1 = 0) → Ψ 1 (2, w1) M2 n)))) := by
    intro e
    rw [if_neg (by omega), if_neg (by omega), if_neg (by omega), if_neg (by omega), if_neg (by omega), if_pos e] at g1
    exact c_nowC h ok.1 (fun M' p' P' f' a' e' => io0 (tl w1.1 M' p' P' (Or.inl rfl) f' a' (g1.trans e'))) (fun M' k a f' b' e' => iz0 (bd w1.1 M' k a (Or.inl rfl) f' b' (g1.trans e')))
  have law : ∀ l, l < 3 → tkK T N p = 11 + l → CW (d + 5) 40 [(2, 3), (0, w32 (cvK (tkK T N p) - 267))] (2, w1) M n (fun r0 w_1 M1 n_1 => (r0 = 0 → Ψ 0 w_1 M1 n_1) ∧ (¬ (r0 = 0) → CF (d + 5) 34 [(2, 3)] w_1 M1 n_1 (fun r1 M2 => (r1 = 0 → Ψ 0 w_1 M2 n_1) ∧ (¬ (r1 = 0) → Ψ 1 w_1 M2 n_1)))) := by
    intro l hl e
    rw [if_neg (by omega), if_neg (by omega), if_neg (by omega), if_neg (by omega), if_pos (by omega), e, show 11 + l - 11 = l by omega] at g1
    have ec : w32 (cvK (tkK T N p) - 267) = (l : Int) := by
      rw [e]
      have hh : l = 0 ∨ l = 1 ∨ l = 2 := by omega
      rcases hh with z | z | z <;> subst z
      · rw [show cvK (11 + 0) = 267 by decide, w32_id (by omega) (by omega)]; rfl
      · rw [show cvK (11 + 1) = 268 by decide, w32_id (by omega) (by omega)]; rfl
      · rw [show cvK (11 + 2) = 269 by decide, w32_id (by omega) (by omega)]; rfl
    rw [ec]
    exact c_lawC hl h ok hk g1 (fun x' M' p' P' hx f' a' e' => io0 (tl x' M' p' P' hx f' a' e')) (fun x' M' k a hx f' b' e' => iz0 (bd x' M' k a hx f' b' e'))
  have no : (tkK T N p ≠ 2 ∧ tkK T N p ≠ 5 ∧ tkK T N p ≠ 8 ∧ tkK T N p ≠ 9 ∧ ¬ (11 ≤ tkK T N p ∧ tkK T N p ≤ 13) ∧ tkK T N p ≠ 14) → CF (d + 5) 43 [(2, 3), (0, 2)] (2, w1) M n (fun r0 M1 => (r0 = 0 → Ψ 0 (2, w1) M1 n) ∧ (¬ (r0 = 0) → CF (d + 5) 34 [(2, 3)] (2, w1) M1 n (fun r1 M2 => (r1 = 0 → Ψ 0 (2, w1) M2 n) ∧ (¬ (r1 = 0) → Ψ 1 (2, w1) M2 n)))) := by
    intro e
    rw [if_neg e.1, if_neg e.2.1, if_neg e.2.2.1, if_neg e.2.2.2.1, if_neg e.2.2.2.2.1, if_neg e.2.2.2.2.2] at g1
    exact c_fail 2 (by decide) h (fun M' k a f' b' rr => iz0 (bd w1.1 M' k a (Or.inl rfl) f' b' (g1.trans rr.symm)))
  apply e4_readLine
  rw [h.kd]
  exact ck hv (κ := 2) (c := 258) ⟨by decide, by unfold vK; omega⟩ (fun e => bit e) (fun n2 => ck hv (κ := 3) (c := 259) ⟨by decide, by unfold vK; omega⟩ (fun e => no (by omega)) (fun n3 => ck hv (κ := 4) (c := 260) ⟨by decide, by unfold vK; omega⟩ (fun e => no (by omega)) (fun n4 => ck hv (κ := 5) (c := 261) ⟨by decide, by unfold vK; omega⟩ (fun e => frm e) (fun n5 => ck hv (κ := 6) (c := 262) ⟨by decide, by unfold vK; omega⟩ (fun e => no (by omega)) (fun n6 => ck hv (κ := 7) (c := 263) ⟨by decide, by unfold vK; omega⟩ (fun e => no (by omega)) (fun n7 => ck hv (κ := 8) (c := 264) ⟨by decide, by unfold vK; omega⟩ (fun e => cut e) (fun n8 => ck hv (κ := 9) (c := 265) ⟨by decide, by unfold vK; omega⟩ (fun e => sno e) (fun n9 => ck hv (κ := 10) (c := 266) ⟨by decide, by unfold vK; omega⟩ (fun e => no (by omega)) (fun n10 => ck hv (κ := 11) (c := 267) ⟨by decide, by unfold vK; omega⟩ (fun e => law 0 (by omega) e) (fun n11 => ck hv (κ := 12) (c := 268) ⟨by decide, by unfold vK; omega⟩ (fun e => law 1 (by omega) e) (fun n12 => ck hv (κ := 13) (c := 269) ⟨by decide, by unfold vK; omega⟩ (fun e => law 2 (by omega) e) (fun n13 => ck hv (κ := 14) (c := 270) ⟨by decide, by unfold vK; omega⟩ (fun e => now e) (fun n14 => no (by omega))))))))))))))
/-- what is owed ahead of a line -/
def tlC (d : Nat) (Ψ : Int → cQ → (Nat → Nat → Int) → Nat × Nat → Prop) (x3 x4 : Int) (w : cQ) (M : Nat → Nat → Int) (n : Nat × Nat) : Prop := ((M 3 5) < x4 → Ψ (M 3 1) w M n) ∧ (¬ ((M 3 5) < x4) → (x3 = 0 → Ψ (M 3 1) w M n) ∧ (¬ (x3 = 0) → ((M 3 7) = 0 → Ψ (M 3 1) w M n) ∧ (¬ ((M 3 7) = 0) → CW d 33 [(2, 3)] w M n (fun r0 w_1 M1 n_1 => W4_readText_49 d Ψ r0 (w32 (x4 + 1)) w_1 M1 n_1))))
theorem c_lines : ∀ (u p : Nat) (M : Nat → Nat → Int) (P : Nat → Int) (i x0 : Nat), Ls T N u p P r → atC 3 M T N p P → okD p P → i ≤ p → (∀ x' M' p' P', (x' = x0 ∨ x' = 17) → frD M M' → atC 3 M' T N p' P' → r = .inl (p', P') → Ψ 0 (2, x', w2) M' n) → (∀ x' M' k a, (x' = x0 ∨ x' = 17) → frD M M' → badC M' k a → r = .inr (k, a) → Ψ k (2, x', w2) M' n) → tlC (d + 6) Ψ 1 (i : Nat) (2, x0, w2) M n := by
  intro u
  induction u with
  | zero => intro p M P i x0 g; exact g.elim
  | succ u ih =>
    intro p M P i x0 g h ok hi q1 q0
    have hp := h.le
    have hN := h.tap.2.1
    rw [Ls_s] at g
    unfold tlC
    rw [h.len, h.kd, h.w0]
    refine ⟨fun z => absurd z (by omega), fun _ => ⟨fun z => absurd z (by decide), fun _ => ck' (tkK_v T N p) (κ := 24) ⟨by decide, by unfold vK; omega⟩ (fun e => ?_) (fun e => ?_)⟩⟩
    · rw [if_pos e] at g
      exact q1 x0 M p P (Or.inl rfl) (frD.refl M) h g
    · rw [if_neg e] at g
      obtain ⟨r1, g1, g2⟩ := g
      refine c_readLine h ok e g1 (fun x' M' p' P' hx f' a' e' => ?_) (fun x' M' k a hx f' b' e' => ?_)
      · subst e'
        obtain ⟨o', h1, h2, g3⟩ := g2
        rw [w32_s (k := i) (by omega)]
        refine v4_readText_49 (ih p' M' P' (i + 1) x' g3 a' o' (by omega) (fun x2 M2 p2 P2 hx2 f2 a2 e2 => q1 x2 M2 p2 P2 ?_ (f'.trans f2) a2 e2) (fun x2 M2 k a hx2 f2 b2 e2 => q0 x2 M2 k a ?_ (f'.trans f2) b2 e2))
        · rcases hx2 with z | z
          · rw [z]; exact hx
          · exact Or.inr z
        · rcases hx2 with z | z
          · rw [z]; exact hx
          · exact Or.inr z
      · subst e'
        have Q : Ψ (M' 3 1) (2, x', w2) M' n := by rw [b'.1]; exact q0 x' M' k a hx f' b' g2
        exact v4_readText_49 ⟨fun _ => Q, fun _ => ⟨fun _ => Q, fun z => absurd rfl z⟩⟩
end
