/-! ===== laws: a token is taken, a law is read: the class (printed by program) ===== -/
theorem tbC {k : Nat} (hv : vK k) {A36 A30 A40 A39 A41 A38 A20 A19 D : Prop} (h36 : k = 36 → A36) (h30 : k = 30 → A30) (h40 : k = 40 → A40) (h39 : k = 39 → A39) (h41 : k = 41 → A41) (h38 : k = 38 → A38) (h20 : k = 20 → A20) (h19 : k = 19 → A19) (hd : k ≠ 36 → k ≠ 30 → k ≠ 40 → k ≠ 39 → k ≠ 41 → k ≠ 38 → k ≠ 20 → k ≠ 19 → D) : (cvK k = 41 → A36) ∧ (cvK k ≠ 41 → ((cvK k = 59 → A30) ∧ (cvK k ≠ 59 → ((cvK k = 60 → A40) ∧ (cvK k ≠ 60 → ((cvK k = 61 → A39) ∧ (cvK k ≠ 61 → ((cvK k = 62 → A41) ∧ (cvK k ≠ 62 → ((cvK k = 93 → A38) ∧ (cvK k ≠ 93 → ((cvK k = 271 → A20) ∧ (cvK k ≠ 271 → ((cvK k = 272 → A19) ∧ (cvK k ≠ 272 → (D)))))))))))))))) :=
  ck hv (κ := 36) (c := 41) ⟨by decide, by unfold vK; omega⟩ (fun e => h36 e) (fun n36 => ck hv (κ := 30) (c := 59) ⟨by decide, by unfold vK; omega⟩ (fun e => h30 e) (fun n30 => ck hv (κ := 40) (c := 60) ⟨by decide, by unfold vK; omega⟩ (fun e => h40 e) (fun n40 => ck hv (κ := 39) (c := 61) ⟨by decide, by unfold vK; omega⟩ (fun e => h39 e) (fun n39 => ck hv (κ := 41) (c := 62) ⟨by decide, by unfold vK; omega⟩ (fun e => h41 e) (fun n41 => ck hv (κ := 38) (c := 93) ⟨by decide, by unfold vK; omega⟩ (fun e => h38 e) (fun n38 => ck hv (κ := 20) (c := 271) ⟨by decide, by unfold vK; omega⟩ (fun e => h20 e) (fun n20 => ck hv (κ := 19) (c := 272) ⟨by decide, by unfold vK; omega⟩ (fun e => h19 e) (fun n19 => hd n36 n30 n40 n39 n41 n38 n20 n19))))))))
/-- what an operator makes of the stack -/
theorem lwC.pushed {M : Nat → Nat → Int} {l k st cm st' cm' : Nat} {S : List Nat} (lw : lwC M l S st cm) {M' : Nat → Nat → Int} (h27 : M' 27 = pset (M 27) S.length (cvK k)) (h0 : M' 26 0 = M 26 0) (h2 : M' 26 2 = M 26 2) (h4 : M' 26 4 = (S.length : Nat) + 1) (h5 : M' 26 5 = (cnT 21 (k :: S) : Nat)) (h6 : M' 26 6 = (cnT 35 (k :: S) : Nat)) (h7 : M' 26 7 = (cnT 37 (k :: S) : Nat)) (h8 : M' 26 8 = (st' : Int)) (h9 : M' 26 9 = (cm' : Int)) : lwC M' l (k :: S) st' cm' := by
  obtain ⟨l0, l2, l4, l5, l6, l7, l8, l9, ls⟩ := lw
  refine ⟨h0.trans l0, h2.trans l2, ?_, h5, h6, h7, h8, h9, by rw [h27, pset_eq], stkC_ext S (fun i hi => by rw [h27, pset_ne (by omega)]) ls⟩
  rw [h4]
  show _ = ((S.length + 1 : Nat) : Int)
  omega
section
variable {d : Nat} {n : Nat × Nat} {Φ : Int → (Nat → Nat → Int) → Prop} {M : Nat → Nat → Int} {l st cm k : Nat} {w : cQ} {w0 : Nat} {w2 : cQr} {P : Nat → Int} {S : List Nat}
theorem c_unit (q : Φ 0 (sI (sI M 26 8 0) 26 9 0)) : CF (d + 1) 8 [(2, 26)] w M n Φ := e1_beginUnit q
theorem c_opening (hv : vK k) (h : relE l M P) (lw : lwC M l S st cm) (iv : ivT S st cm) (hk : k = 35 ∨ (st = 0 ∧ (k = 37 ∨ k = 21))) (q4 : 6 ≤ dpT S → Φ 4 M) (qG : ¬ (6 ≤ dpT S) → ∀ M', frQ M M' → relE l M' P → lwC M' l (k :: S) (if k = 35 then 1 else 0) (if k = 35 then cm else 0) → Φ 0 M') : CF (d + 2) 11 [(2, 26), (0, cvK k)] w M n Φ := by
  have hL := iv.1.len
  have hD := iv.1.dp
  obtain ⟨l0, l2, l4, l5, l6, l7, l8, l9, ls⟩ := lw
  have lw : lwC M l S st cm := ⟨l0, l2, l4, l5, l6, l7, l8, l9, ls⟩
  have eD : w32 (w32 (M 26 5 + M 26 6) + M 26 7) = (dpT S : Nat) := by
    unfold dpT at hD ⊢
    rw [l5, l6, l7, w32_id (x := ((cnT 21 S : Nat) : Int) + ((cnT 35 S : Nat) : Int)) (by omega) (by omega), w32_id (by omega) (by omega)]
    omega
  apply e1_takeOpening
  rw [eD]
  refine ⟨fun c => ?_, fun c => q4 (by omega)⟩
  have qG := qG (by omega)
  have d1 : cnT 21 S ≤ 6 ∧ cnT 35 S ≤ 6 ∧ cnT 37 S ≤ 6 := by unfold dpT at hD; omega
  refine c_push l4 hL ?_
  have r26 : ∀ j, j ≠ 4 → (sI (sI M 27 S.length (cvK k)) 26 4 ((S.length : Nat) + 1)) 26 j = M 26 j := fun j hj => by rw [sI_ne hj, sI_rw (by omega)]
  refine ck hv (κ := 35) ⟨by decide, by unfold vK; omega⟩ (fun e => ?_) (fun n35 => ck hv (κ := 37) ⟨by decide, by unfold vK; omega⟩ (fun e => c_unit ?_) (fun n37 => c_unit ?_))
  · subst e
    rw [if_pos rfl, if_pos rfl] at qG
    refine qG _ ((((frQ.refl M).set (by omega)).set (by omega)).set (by omega) |>.set (by omega)) (h.law (fun c h1 h2 => by rw [sI_row (by omega), sI_row (by omega), sI_row (by omega), sI_row (by omega)])) (lw.pushed ?_ ?_ ?_ ?_ ?_ ?_ ?_ ?_ ?_)
    · rw [sI_row (by omega), sI_row (by omega), sI_row (by omega), sI_p]
    · rw [sI_ne (by omega), sI_ne (by omega), r26 _ (by omega)]
    · rw [sI_ne (by omega), sI_ne (by omega), r26 _ (by omega)]
    · rw [sI_ne (by omega), sI_ne (by omega), sI_same]
    · rw [sI_ne (by omega), sI_ne (by omega), r26 _ (by omega), l5, cnT_op (by omega)]
    · rw [sI_ne (by omega), sI_same, r26 _ (by omega), l6, w32_id (by omega) (by omega), cnT_in]
      omega
    · rw [sI_ne (by omega), sI_ne (by omega), r26 _ (by omega), l7, cnT_op (by omega)]
    · rw [sI_same]; rfl
    · rw [sI_ne (by omega), sI_ne (by omega), r26 _ (by omega)]; exact l9
  · subst e
    rw [if_neg (by decide), if_neg (by decide)] at qG
    refine qG _ (((((frQ.refl M).set (by omega)).set (by omega)).set (by omega) |>.set (by omega)) |>.set (by omega)) (h.law (fun c h1 h2 => by rw [sI_row (by omega), sI_row (by omega), sI_row (by omega), sI_row (by omega), sI_row (by omega)])) (lw.pushed ?_ ?_ ?_ ?_ ?_ ?_ ?_ ?_ ?_)
    · rw [sI_row (by omega), sI_row (by omega), sI_row (by omega), sI_row (by omega), sI_p]
    · rw [sI_ne (by omega), sI_ne (by omega), sI_ne (by omega), r26 _ (by omega)]
    · rw [sI_ne (by omega), sI_ne (by omega), sI_ne (by omega), r26 _ (by omega)]
    · rw [sI_ne (by omega), sI_ne (by omega), sI_ne (by omega), sI_same]
    · rw [sI_ne (by omega), sI_ne (by omega), sI_ne (by omega), r26 _ (by omega), l5, cnT_op (by omega)]
    · rw [sI_ne (by omega), sI_ne (by omega), sI_ne (by omega), r26 _ (by omega), l6, cnT_op (by omega)]
    · rw [sI_ne (by omega), sI_ne (by omega), sI_same, r26 _ (by omega), l7, w32_id (by omega) (by omega), cnT_in]
      omega
    · rw [sI_ne (by omega), sI_same]; rfl
    · rw [sI_same]; rfl
  · have e : k = 21 := by omega
    subst e
    rw [if_neg (by decide), if_neg (by decide)] at qG
    refine qG _ (((((frQ.refl M).set (by omega)).set (by omega)).set (by omega) |>.set (by omega)) |>.set (by omega)) (h.law (fun c h1 h2 => by rw [sI_row (by omega), sI_row (by omega), sI_row (by omega), sI_row (by omega), sI_row (by omega)])) (lw.pushed ?_ ?_ ?_ ?_ ?_ ?_ ?_ ?_ ?_)
    · rw [sI_row (by omega), sI_row (by omega), sI_row (by omega), sI_row (by omega), sI_p]
    · rw [sI_ne (by omega), sI_ne (by omega), sI_ne (by omega), r26 _ (by omega)]
    · rw [sI_ne (by omega), sI_ne (by omega), sI_ne (by omega), r26 _ (by omega)]
    · rw [sI_ne (by omega), sI_ne (by omega), sI_ne (by omega), sI_same]
    · rw [sI_ne (by omega), sI_ne (by omega), sI_same, r26 _ (by omega), l5, w32_id (by omega) (by omega), cnT_in]
      omega
    · rw [sI_ne (by omega), sI_ne (by omega), sI_ne (by omega), r26 _ (by omega), l6, cnT_op (by omega)]
    · rw [sI_ne (by omega), sI_ne (by omega), sI_ne (by omega), r26 _ (by omega), l7, cnT_op (by omega)]
    · rw [sI_ne (by omega), sI_same]; rfl
    · rw [sI_same]; rfl
theorem c_atom (hl : l < 3) (hv : vK k) (h : relE l M P) (lw : lwC M l S st cm) (h0 : 0 ≤ P 363) (h12 : P 3 ≤ 12) (h9 : k ≠ 24 → P 363 < 900) {x2 v : Int} (hx : k = 23 → x2 = v ∧ 0 ≤ v ∧ v < 1000) (q2 : k ≠ 23 → wrT l k = -1 → Φ 2 M) (q3 : k = 23 → ∀ M', frQ M M' → relE l M' (adC v P) → lwC M' l S 2 cm → Φ 0 M') (qW : k ≠ 23 → wrT l k ≠ -1 → ∀ M', frQ M M' → relE l M' (adC (1000 + wrT l k) P) → lwC M' l S 2 cm → Φ 0 M') : CF (d + 2) 12 [(2, 26), (0, cvK k), (0, x2)] (w0, 17, w2) M n Φ := by
  have fin : ∀ (y : Int), relE l (sI (sI M 23 (P 363).toNat (cvC y)) 17 13 (P 363 + 1)) (adC y P) → frQ M (sI (sI (sI M 23 (P 363).toNat (cvC y)) 17 13 (P 363 + 1)) 26 8 2) ∧ relE l (sI (sI (sI M 23 (P 363).toNat (cvC y)) 17 13 (P 363 + 1)) 26 8 2) (adC y P) ∧ lwC (sI (sI (sI M 23 (P 363).toNat (cvC y)) 17 13 (P 363 + 1)) 26 8 2) l S 2 cm := by
    intro y hy
    obtain ⟨l0, l2, l4, l5, l6, l7, l8, l9, ls⟩ := lw
    refine ⟨(((frQ.refl M).set (by omega)).set (by omega)).set (by omega), hy.law (fun c h1 h2 => sI_row (by omega)), ?_, ?_, ?_, ?_, ?_, ?_, ?_, ?_, ?_⟩
    · rw [sI_ne (by omega), sI_rw (by omega), sI_rw (by omega)]; exact l0
    · rw [sI_ne (by omega), sI_rw (by omega), sI_rw (by omega)]; exact l2
    · rw [sI_ne (by omega), sI_rw (by omega), sI_rw (by omega)]; exact l4
    · rw [sI_ne (by omega), sI_rw (by omega), sI_rw (by omega)]; exact l5
    · rw [sI_ne (by omega), sI_rw (by omega), sI_rw (by omega)]; exact l6
    · rw [sI_ne (by omega), sI_rw (by omega), sI_rw (by omega)]; exact l7
    · rw [sI_same]; rfl
    · rw [sI_ne (by omega), sI_rw (by omega), sI_rw (by omega)]; exact l9
    · exact stkC_ext S (fun i hi => by rw [sI_rw (by omega), sI_rw (by omega), sI_rw (by omega)]) ls
  refine e1_takeAtom (c_nameOf hl hv lw.2.1 ?_)
  refine ck' hv (κ := 23) ⟨by decide, by unfold vK; omega⟩ (fun e => ⟨fun z => absurd (by rw [e]; decide) z, fun _ => ?_⟩) (fun e => ⟨fun c => ⟨fun _ => ?_, fun z => absurd (fun y => e (cvK_inj hv (by unfold vK; omega) (y.trans (by decide)))) z⟩, fun c => ?_⟩)
  · obtain ⟨x1, x2', x3⟩ := hx e
    have ev : cvC v = v := by unfold cvC; exact if_pos (by omega)
    rw [x1, ← ev]
    refine c_addCode v h h0 (h9 (by omega)) h12 (fun hy => ?_)
    obtain ⟨f1, f2, f3⟩ := fin v hy
    exact q3 e _ f1 f2 f3
  · have cw : wrT l k ≠ -1 := fun z => c (by unfold nmC; rw [if_pos z])
    have en : nmC l k = nmW (wrT l k) := by unfold nmC; rw [if_neg cw]
    have hb := nmW_b4 hl cw
    obtain ⟨_, b1, b2⟩ := wrT_ok hl cw
    rw [en, w32_id (by omega) (by omega), ← cvC_w ⟨b1, b2⟩]
    refine c_addCode _ h h0 (h9 (fun z => by subst z; exact cw rfl)) h12 (fun hy => ?_)
    obtain ⟨f1, f2, f3⟩ := fin _ hy
    exact qW e cw _ f1 f2 f3
  · have cw : wrT l k = -1 := by
      apply Classical.byContradiction
      intro z
      apply c
      intro y
      have hb := nmW_b4 hl z
      unfold nmC at y
      rw [if_neg z] at y
      omega
    exact q2 e cw
theorem c_behind (hv : vK k) (hl : l < 3) (h : relE l M P) (lw : lwC M l S st cm) (hB : stB S) (hc : (k = 36 ∨ k = 38) → ∃ o S', S = o :: S' ∧ o = (if k = 36 then 35 else 37)) (hk : k = 30 ∨ k = 36 ∨ k = 38 ∨ k = 32 ∨ k = 33 ∨ k = 34 ∨ k = 39 ∨ k = 40 ∨ k = 41 ∨ k = 19 ∨ k = 20) (qD : k = 30 → ∀ M', (∀ c, c ≠ 25 → c ≠ 26 → M' c = M c) → (∀ j, j ≠ l → M' 25 j = M 25 j) → M' 26 0 = 1 → M' 25 l = w32 (M 17 13 - M 24 l) → Φ 0 M') (qC : (k = 36 ∨ k = 38) → ∀ M', frQ M M' → relE l M' P → lwC M' l S.tail (if k = 36 then 2 else 3) cm → Φ 0 M') (qO : k ≠ 30 → ¬ (k = 36 ∨ k = 38) → ∀ M', frQ M M' → relE l M' P → lwC M' l (k :: S) (if k = 19 ∨ k = 20 then 0 else 1) (if k = 19 ∨ k = 20 then 0 else if k = 39 ∨ k = 40 ∨ k = 41 then 1 else cm) → Φ 0 M') : CF (d + 2) 15 [(2, 26), (0, cvK k)] (w0, 17, w2) M n Φ := by
  have hL := hB.len
  have hD := hB.dp
  have d1 : cnT 21 S ≤ 6 ∧ cnT 35 S ≤ 6 ∧ cnT 37 S ≤ 6 := by unfold dpT at hD; omega
  obtain ⟨l0, l2, l4, l5, l6, l7, l8, l9, ls⟩ := lw
  have lw : lwC M l S st cm := ⟨l0, l2, l4, l5, l6, l7, l8, l9, ls⟩
  have r26 : ∀ j, j ≠ 4 → (sI (sI M 27 S.length (cvK k)) 26 4 ((S.length : Nat) + 1)) 26 j = M 26 j := fun j hj => by rw [sI_ne hj, sI_rw (by omega)]
  have cmp : (k = 39 ∨ k = 40 ∨ k = 41) → CF (d + 1) 17 [(2, 26), (0, cvK k)] (w0, 17, w2) M n (fun _ M1 => Φ 0 (sI (sI M1 26 9 1) 26 8 1)) := by
    intro e
    refine c_push l4 hL ?_
    have qO := qO (by omega) (by omega)
    rw [if_neg (by omega), if_neg (by omega), if_pos e] at qO
    refine qO _ ((((frQ.refl M).set (by omega)).set (by omega)).set (by omega) |>.set (by omega)) (h.law (fun c h1 h2 => by rw [sI_row (by omega), sI_row (by omega), sI_row (by omega), sI_row (by omega)])) (lw.pushed ?_ ?_ ?_ ?_ ?_ ?_ ?_ ?_ ?_)
    · rw [sI_row (by omega), sI_row (by omega), sI_row (by omega), sI_p]
    · rw [sI_ne (by omega), sI_ne (by omega), r26 _ (by omega)]
    · rw [sI_ne (by omega), sI_ne (by omega), r26 _ (by omega)]
    · rw [sI_ne (by omega), sI_ne (by omega), sI_same]
    · rw [sI_ne (by omega), sI_ne (by omega), r26 _ (by omega), l5, cnT_op (by omega)]
    · rw [sI_ne (by omega), sI_ne (by omega), r26 _ (by omega), l6, cnT_op (by omega)]
    · rw [sI_ne (by omega), sI_ne (by omega), r26 _ (by omega), l7, cnT_op (by omega)]
    · rw [sI_same]; rfl
    · rw [sI_ne (by omega), sI_same]; rfl
  have bol : (k = 19 ∨ k = 20) → CF (d + 1) 17 [(2, 26), (0, cvK k)] (w0, 17, w2) M n (fun _ M1 => CF (d + 1) 8 [(2, 26)] (w0, 17, w2) M1 n (fun _ M2 => Φ 0 M2)) := by
    intro e
    refine c_push l4 hL (c_unit ?_)
    have qO := qO (by omega) (by omega)
    rw [if_pos e, if_pos e] at qO
    refine qO _ ((((frQ.refl M).set (by omega)).set (by omega)).set (by omega) |>.set (by omega)) (h.law (fun c h1 h2 => by rw [sI_row (by omega), sI_row (by omega), sI_row (by omega), sI_row (by omega)])) (lw.pushed ?_ ?_ ?_ ?_ ?_ ?_ ?_ ?_ ?_)
    · rw [sI_row (by omega), sI_row (by omega), sI_row (by omega), sI_p]
    · rw [sI_ne (by omega), sI_ne (by omega), r26 _ (by omega)]
    · rw [sI_ne (by omega), sI_ne (by omega), r26 _ (by omega)]
    · rw [sI_ne (by omega), sI_ne (by omega), sI_same]
    · rw [sI_ne (by omega), sI_ne (by omega), r26 _ (by omega), l5, cnT_op (by omega)]
    · rw [sI_ne (by omega), sI_ne (by omega), r26 _ (by omega), l6, cnT_op (by omega)]
    · rw [sI_ne (by omega), sI_ne (by omega), r26 _ (by omega), l7, cnT_op (by omega)]
    · rw [sI_ne (by omega), sI_same]; rfl
    · rw [sI_same]; rfl
  apply e1_takeBehind
  refine tbC hv (fun e => ?_) (fun e => ?_) (fun e => cmp (by omega)) (fun e => cmp (by omega)) (fun e => cmp (by omega)) (fun e => ?_) (fun e => bol (by omega)) (fun e => bol (by omega)) (fun n36 n30 n40 n39 n41 n38 n20 n19 => ?_)
  · obtain ⟨o, S', e1, e2⟩ := hc (Or.inl e)
    have qC := qC (Or.inl e)
    rw [if_pos e] at qC e2
    subst e1
    subst e2
    refine qC _ (((frQ.refl M).set (by omega)).set (by omega) |>.set (by omega)) (h.law (fun c h1 h2 => by rw [sI_row (by omega), sI_row (by omega), sI_row (by omega)])) ⟨?_, ?_, ?_, ?_, ?_, ?_, ?_, ?_, ?_⟩
    · rw [sI_ne (by omega), sI_ne (by omega), sI_ne (by omega)]; exact l0
    · rw [sI_ne (by omega), sI_ne (by omega), sI_ne (by omega)]; exact l2
    · rw [sI_ne (by omega), sI_ne (by omega), sI_same, l4, w32_id (by omega) (by omega)]
      show ((S'.length + 1 : Nat) : Int) - 1 = _
      show _ = ((S'.length : Nat) : Int)
      omega
    · rw [sI_ne (by omega), sI_ne (by omega), sI_ne (by omega), l5, cnT_op (by omega)]; rfl
    · rw [sI_ne (by omega), sI_same, sI_ne (by omega), l6, w32_id (by omega) (by omega), cnT_in]
      show _ = ((cnT 35 S' : Nat) : Int)
      omega
    · rw [sI_ne (by omega), sI_ne (by omega), sI_ne (by omega), l7, cnT_op (by omega)]; rfl
    · rw [sI_same]; rfl
    · rw [sI_ne (by omega), sI_ne (by omega), sI_ne (by omega)]; exact l9
    · exact stkC_ext S' (fun i hi => by rw [sI_rw (by omega), sI_rw (by omega), sI_rw (by omega)]) ls.2
  · apply e1_finish
    rw [l2, Int.toNat_natCast]
    refine ⟨by omega, ⟨by omega, by omega, trivial⟩, qD e _ (fun c h1 h2 => by rw [sI_row h2, sI_row h1]) (fun j hj => by rw [sI_rw (by omega), sI_ne hj]) (sI_same _ _ _ _) (by rw [sI_rw (by omega), sI_same])⟩
  · obtain ⟨o, S', e1, e2⟩ := hc (Or.inr e)
    have qC := qC (Or.inr e)
    rw [if_neg (by omega)] at qC e2
    subst e1
    subst e2
    refine qC _ (((frQ.refl M).set (by omega)).set (by omega) |>.set (by omega)) (h.law (fun c h1 h2 => by rw [sI_row (by omega), sI_row (by omega), sI_row (by omega)])) ⟨?_, ?_, ?_, ?_, ?_, ?_, ?_, ?_, ?_⟩
    · rw [sI_ne (by omega), sI_ne (by omega), sI_ne (by omega)]; exact l0
    · rw [sI_ne (by omega), sI_ne (by omega), sI_ne (by omega)]; exact l2
    · rw [sI_ne (by omega), sI_ne (by omega), sI_same, l4, w32_id (by omega) (by omega)]
      show ((S'.length + 1 : Nat) : Int) - 1 = _
      show _ = ((S'.length : Nat) : Int)
      omega
    · rw [sI_ne (by omega), sI_ne (by omega), sI_ne (by omega), l5, cnT_op (by omega)]; rfl
    · rw [sI_ne (by omega), sI_ne (by omega), sI_ne (by omega), l6, cnT_op (by omega)]; rfl
    · rw [sI_ne (by omega), sI_same, sI_ne (by omega), l7, w32_id (by omega) (by omega), cnT_in]
      show _ = ((cnT 37 S' : Nat) : Int)
      omega
    · rw [sI_same]; rfl
    · rw [sI_ne (by omega), sI_ne (by omega), sI_ne (by omega)]; exact l9
    · exact stkC_ext S' (fun i hi => by rw [sI_rw (by omega), sI_rw (by omega), sI_rw (by omega)]) ls.2
  · refine c_push l4 hL ?_
    have qO := qO n30 (by omega)
    rw [if_neg (by omega), if_neg (by omega), if_neg (by omega)] at qO
    refine qO _ ((((frQ.refl M).set (by omega)).set (by omega)).set (by omega)) (h.law (fun c h1 h2 => by rw [sI_row (by omega), sI_row (by omega), sI_row (by omega)])) (lw.pushed ?_ ?_ ?_ ?_ ?_ ?_ ?_ ?_ ?_)
    · rw [sI_row (by omega), sI_row (by omega), sI_p]
    · rw [sI_ne (by omega), r26 _ (by omega)]
    · rw [sI_ne (by omega), r26 _ (by omega)]
    · rw [sI_ne (by omega), sI_same]
    · rw [sI_ne (by omega), r26 _ (by omega), l5, cnT_op (by omega)]
    · rw [sI_ne (by omega), r26 _ (by omega), l6, cnT_op (by omega)]
    · rw [sI_ne (by omega), r26 _ (by omega), l7, cnT_op (by omega)]
    · rw [sI_same]; rfl
    · rw [sI_ne (by omega), r26 _ (by omega)]; exact l9
theorem c_takeL (hl : l < 3) (hv : vK k) (h : relE l M P) (lw : lwC M l S st cm) (iv : ivT S st cm) (h0 : 0 ≤ P 363) (h9 : k ≠ 24 → P 363 + (S.length : Int) < 900) (h12 : P 3 ≤ 12) {x2 v : Int} (hx : k = 23 → x2 = v ∧ 0 ≤ v ∧ v < 1000) (qF : ∀ e, stpT l k v S st cm P = .inl e → e ≠ 0 → Φ e M) (qD : ∀ P', stpT l k v S st cm P = .inr (.inl P') → ∀ M', (∀ c, c ≠ 17 → c ≠ 23 → c ≠ 25 → c ≠ 26 → c ≠ 27 → M' c = M c) → relE l M' P' → M' 26 0 = 1 → M' 25 l = w32 (P' 363 - M 24 l) → Φ 0 M') (qG : ∀ S' st' cm' P', stpT l k v S st cm P = .inr (.inr (S', st', cm', P')) → ivT S' st' cm' → 0 ≤ P' 363 → P' 3 = P 3 → P' 363 + (S'.length : Int) ≤ P 363 + (S.length : Int) + 1 → k ≠ 24 → ∀ M', frQ M M' → relE l M' P' → lwC M' l S' st' cm' → Φ 0 M') : CF (d + 4) 9 [(2, 26), (0, cvK k), (0, x2)] (w0, 17, w2) M n Φ := by
  have hst := iv.2.1
  have begins : st < 2 → CF (d + 3) 10 [(2, 26), (0, cvK k)] (w0, 17, w2) M n (fun r0 M1 => (r0 = 0 → CF (d + 3) 12 [(2, 26), (0, cvK k), (0, x2)] (w0, 17, w2) M1 n (fun r1 M2 => Φ r1 M2)) ∧ (¬ (r0 = 0) → CF (d + 3) 11 [(2, 26), (0, cvK k)] (w0, 17, w2) M1 n (fun r1 M2 => Φ r1 M2))) := by
    intro c1
    refine c_opens hv lw.2.2.2.2.2.2.1 (br (fun e => ?_) (fun e => ?_))
    · have e := of_decide_eq_false e
      refine c_atom (d := d + 1) hl hv h lw h0 h12 (fun z => by have := h9 z; omega) hx (fun z1 z2 => ?_) (fun z1 M' f' r' lw' => ?_) (fun z1 z2 M' f' r' lw' => ?_)
      · refine qF 2 ?_ (by decide)
        unfold stpT
        rw [if_pos c1, if_neg e, if_neg z1, if_pos z2]
      · refine qG S 2 cm _ ?_ ⟨iv.1, by omega, iv.2.2.1, fun z => absurd z (by omega)⟩ (by rw [adC_n]; omega) (adC_ne (by omega) (by omega)) (by rw [adC_n]; omega) (by omega) M' f' r' lw'
        unfold stpT
        rw [if_pos c1, if_neg e, if_pos z1]
      · refine qG S 2 cm _ ?_ ⟨iv.1, by omega, iv.2.2.1, fun z => absurd z (by omega)⟩ (by rw [adC_n]; omega) (adC_ne (by omega) (by omega)) (by rw [adC_n]; omega) (fun z => by subst z; exact z2 rfl) M' f' r' lw'
        unfold stpT
        rw [if_pos c1, if_neg e, if_neg z1, if_neg z2]
    · have e := of_decide_eq_true e
      refine c_opening (d := d + 1) hv h lw iv e (fun z => ?_) (fun z M' f' r' lw' => ?_)
      · refine qF 4 ?_ (by decide)
        unfold stpT
        rw [if_pos c1, if_pos e, if_pos z]
      · refine qG (k :: S) _ _ P ?_ (iv.opn e z) h0 rfl ?_ (by omega) M' f' r' lw'
        · unfold stpT
          rw [if_pos c1, if_pos e, if_neg z]
        · show P 363 + ((S.length + 1 : Nat) : Int) ≤ _
          omega
  apply e1_take
  rw [lw.2.2.2.2.2.2.1]
  refine ⟨fun c => begins (by omega), fun c => ⟨fun c1 => ?_, fun c1 => begins (by omega)⟩⟩
  have c2 : ¬ (st < 2) := by omega
  refine c_fitsL (d := d + 2) hv lw hl iv.2.2.1 (fun hf => io1 ?_) (fun hf => iz1 ?_)
  · have hf' : ¬ (fitT l k S st cm = false) := by rw [hf]; decide
    have hcs := fit_cases hf'
    have hk : k = 30 ∨ k = 36 ∨ k = 38 ∨ k = 32 ∨ k = 33 ∨ k = 34 ∨ k = 39 ∨ k = 40 ∨ k = 41 ∨ k = 19 ∨ k = 20 := by omega
    have h9 := h9 (by omega)
    refine c_rank k hv ?_
    obtain ⟨R, hR, hR1, hR0⟩ : ∃ R : Nat, (if (1 : Int) < ((rkT k : Nat) : Int) then ((rkT k : Nat) : Int) else 1) = (R : Int) ∧ 1 ≤ R ∧ (R = if 1 ≤ rkT k then rkT k else 1) := by
      refine ⟨if 1 ≤ rkT k then rkT k else 1, ?_, ?_, rfl⟩
      · by_cases z : 1 < rkT k
        · rw [if_pos (by omega), if_pos (by omega)]
        · rw [if_neg (by omega)]
          split <;> omega
      · split <;> omega
    rw [hR]
    obtain ⟨i1, i2, i3, i4, i5⟩ := poT_len R S P h0 iv.1
    refine c_popD (d := d + 1) R hR1 h lw iv.1 h0 (by omega) h12 (fun M2 f2 r2 lw2 => ?_)
    have R0 : (k = 30 ∨ k = 36 ∨ k = 38) → R = 1 := by
      intro z
      rw [hR0]
      rcases z with z | z | z <;> subst z <;> rfl
    refine c_behind (d := d + 1) hv hl r2 lw2 i1 (fun z => ?_) hk (fun z M' g1 g2 g3 g4 => ?_) (fun z M' f' r' lw' => ?_) (fun z1 z2 M' f' r' lw' => ?_)
    · obtain ⟨o, S', e1, e2, _⟩ := iv.close h0 hf' z
      exact ⟨o, S', by rw [R0 (by omega)]; exact e1, e2⟩
    · have eR := R0 (by omega)
      subst eR
      refine qD (poT 1 S P).2 ?_ M' (fun c h1 h2 h3 h4 h5 => (g1 c h3 h4).trans (f2 c h1 h2 h4 h5)) ?_ g3 ?_
      · unfold stpT
        rw [if_neg c2, if_neg hf', if_pos z]
      · obtain ⟨a1, a2, a3, a4, a5, a6, a7⟩ := r2
        unfold relE
        rw [g1 17 (by omega) (by omega), g1 18 (by omega) (by omega), g1 19 (by omega) (by omega), g1 20 (by omega) (by omega), g1 21 (by omega) (by omega), g1 22 (by omega) (by omega), g1 23 (by omega) (by omega), g1 24 (by omega) (by omega)]
        exact ⟨a1, a2, a3, fun j hj hx => by rw [g2 j hx]; exact a4 j hj hx, a5, a6, a7⟩
      · rw [g4, r2.1.2.2.2.2.2, f2 24 (by omega) (by omega) (by omega) (by omega)]
    · have eR := R0 (by omega)
      subst eR
      obtain ⟨o, S', e1, e2, e3⟩ := iv.close h0 hf' z
      refine qG (poT 1 S P).1.tail _ cm _ ?_ (by rw [e1]; exact e3) (by omega) i4 ?_ (by omega) M' (f2.trans f') r' lw'
      · unfold stpT
        rw [if_neg c2, if_neg hf', if_neg (by omega), if_pos z]
      · rw [e1] at i3 ⊢
        have i3 : _ + ((S'.length + 1 : Nat) : Int) = _ := i3
        show _ + ((S'.length : Nat) : Int) ≤ _
        omega
    · obtain ⟨j1, j2⟩ := iv.op (P := P) h0 hf' z1 z2
      rw [if_pos j2] at hR0
      subst hR0
      refine qG (k :: (poT (rkT k) S P).1) _ _ _ ?_ j1 (by omega) i4 ?_ (by omega) M' (f2.trans f') r' lw'
      · unfold stpT
        rw [if_neg c2, if_neg hf', if_neg z1, if_neg z2]
      · show _ + (((poT (rkT k) S P).1.length + 1 : Nat) : Int) ≤ _
        omega
  · refine qF 2 ?_ (by decide)
    unfold stpT
    rw [if_neg c2, if_pos hf]
end
