/-! ===== laws: the class's stack machine reads as Rn does (printed by program) ===== -/
theorem ck {k κ : Nat} {c : Int} (hv : vK k) (hc : c = cvK κ ∧ vK κ) {A B : Prop} (h1 : k = κ → A) (h2 : k ≠ κ → B) : (cvK k = c → A) ∧ (cvK k ≠ c → B) := ⟨fun z => h1 (cvK_inj hv hc.2 (z.trans hc.1)), fun z => h2 (fun e => z (by rw [e]; exact hc.1.symm))⟩
theorem ck' {k κ : Nat} {c : Int} (hv : vK k) (hc : c = cvK κ ∧ vK κ) {A B : Prop} (h1 : k = κ → A) (h2 : k ≠ κ → B) : (cvK k = c → A) ∧ (¬ (cvK k = c) → B) := ck hv hc h1 h2
theorem ckn {k κ : Nat} {c : Int} (hv : vK k) (hc : c = cvK κ ∧ vK κ) {A B : Prop} (h1 : k ≠ κ → A) (h2 : k = κ → B) : (cvK k ≠ c → A) ∧ (¬ (cvK k ≠ c) → B) := ⟨(ck hv hc h2 h1).2, fun z => (ck (B := True) hv hc h2 (fun _ => trivial)).1 (Classical.byContradiction z)⟩
/-- a word's place in the class -/
def nmC (l k : Nat) : Int := if wrT l k = -1 then -1 else nmW (wrT l k)
/-- the class's stack holds the list, its top first -/
def stkC (M : Nat → Nat → Int) : List Nat → Prop
  | [] => True
  | o :: S => M 27 S.length = cvK o ∧ stkC M S
theorem stkC_ext {M M' : Nat → Nat → Int} : ∀ (S : List Nat), (∀ i, i < S.length → M' 27 i = M 27 i) → stkC M S → stkC M' S
  | [], _, _ => trivial
  | o :: S, h, z => ⟨(h S.length (Nat.lt_succ_self _)).trans z.1, stkC_ext S (fun i hi => h i (Nat.lt_succ_of_lt hi)) z.2⟩
def lwC (M : Nat → Nat → Int) (l : Nat) (S : List Nat) (st cm : Nat) : Prop := M 26 0 = 0 ∧ M 26 2 = (l : Int) ∧ M 26 4 = (S.length : Nat) ∧ M 26 5 = (cnT 21 S : Nat) ∧ M 26 6 = (cnT 35 S : Nat) ∧ M 26 7 = (cnT 37 S : Nat) ∧ M 26 8 = (st : Int) ∧ M 26 9 = (cm : Int) ∧ stkC M S
/-- what a stack may be -/
def stB : List Nat → Prop
  | [] => True
  | o :: S => (S.length + 1 ≤ 7 * dpT (o :: S) + rkT o ∧ dpT (o :: S) ≤ 6 ∧ vK o ∧ (o ≠ 32 → o ≠ 33 → o ≠ 34 → o ≠ 35 → cnT 35 S = 0) ∧ (rkT o = 0 → o = 35 ∨ o = 37)) ∧ stB S
theorem stB.len {S : List Nat} (h : stB S) : S.length ≤ 48 := by
  cases S with
  | nil => exact Nat.zero_le _
  | cons o S =>
    obtain ⟨⟨h1, h2, _⟩, _⟩ := h
    have := rkT_6 o
    show S.length + 1 ≤ 48
    omega
theorem stB.dp {S : List Nat} (h : stB S) : dpT S ≤ 6 := by
  cases S with
  | nil => exact Nat.zero_le _
  | cons o S => exact h.1.2.1
theorem stB.top {S : List Nat} (h : stB S) : S.length ≤ 7 * dpT S + tpT S := by
  cases S with
  | nil => exact Nat.zero_le _
  | cons o S => exact h.1.1
/-- the law's steps change these rows alone -/
def frQ (M M' : Nat → Nat → Int) : Prop := ∀ c, c ≠ 17 → c ≠ 23 → c ≠ 26 → c ≠ 27 → M' c = M c
theorem frQ.refl (M : Nat → Nat → Int) : frQ M M := fun _ _ _ _ _ => rfl
theorem frQ.trans {M M' M2 : Nat → Nat → Int} (h : frQ M M') (h2 : frQ M' M2) : frQ M M2 := fun c h3 h4 h5 h6 => (h2 c h3 h4 h5 h6).trans (h c h3 h4 h5 h6)
theorem frQ.set {M M' : Nat → Nat → Int} {a k : Nat} {x : Int} (h : frQ M M') (ha : a = 17 ∨ a = 23 ∨ a = 26 ∨ a = 27) : frQ M (sI M' a k x) := fun c h3 h4 h5 h6 => (sI_row (by omega)).trans (h c h3 h4 h5 h6)
theorem relE.law {x : Nat} {M M' : Nat → Nat → Int} {P : Nat → Int} (h : relE x M P) (e : ∀ c, 17 ≤ c → c ≤ 25 → M' c = M c) : relE x M' P := h.fr e
theorem opT_cv : ∀ o, o < 42 → (o < 26 ∨ 30 ≤ o) → 1 ≤ rkT o → -(cvK o) = cvC (opT o) := by decide +kernel
theorem cvK_b : ∀ o, o < 42 → 0 ≤ cvK o ∧ cvK o ≤ 400 := by decide +kernel
theorem cvC_w {x : Int} (h : 0 ≤ x ∧ x < 8) : cvC (1000 + x) = -1 - nmW x := by
  unfold cvC
  rw [if_neg (by omega), if_pos (by omega), show 1000 + x - 1000 = x by omega]
theorem nmW_b4 {l k : Nat} (hl : l < 3) (h : wrT l k ≠ -1) : 0 ≤ nmW (wrT l k) ∧ nmW (wrT l k) ≤ 4 := by
  obtain ⟨_, h2, h3⟩ := wrT_ok hl h
  have key : ∀ x : Nat, x < 8 → 0 ≤ nmW (x : Int) ∧ nmW (x : Int) ≤ 4 := by decide +kernel
  have := key (wrT l k).toNat (by omega)
  rw [show (((wrT l k).toNat : Nat) : Int) = wrT l k by omega] at this
  exact this
section
variable {d : Nat} {n : Nat × Nat} {Φ : Int → (Nat → Nat → Int) → Prop} {M : Nat → Nat → Int} {l st cm k : Nat} {w : cQ} {w0 : Nat} {w2 : cQr} {P : Nat → Int} {S : List Nat}
theorem c_rank (o : Nat) (hv : vK o) (q : Φ (rkT o : Nat) M) : CF (d + 1) 19 [(0, cvK o)] w M n Φ := by
  apply e1_rank
  refine ck hv (κ := 34) (c := 42) ⟨by decide, by unfold vK; omega⟩ (fun e => by subst e; exact q) (fun n34 => ck hv (κ := 32) (c := 43) ⟨by decide, by unfold vK; omega⟩ (fun e => by subst e; exact q) (fun n32 => ck hv (κ := 33) (c := 45) ⟨by decide, by unfold vK; omega⟩ (fun e => by subst e; exact q) (fun n33 => ck hv (κ := 40) (c := 60) ⟨by decide, by unfold vK; omega⟩ (fun e => by subst e; exact q) (fun n40 => ck hv (κ := 39) (c := 61) ⟨by decide, by unfold vK; omega⟩ (fun e => by subst e; exact q) (fun n39 => ck hv (κ := 41) (c := 62) ⟨by decide, by unfold vK; omega⟩ (fun e => by subst e; exact q) (fun n41 => ck hv (κ := 20) (c := 271) ⟨by decide, by unfold vK; omega⟩ (fun e => by subst e; exact q) (fun n20 => ck hv (κ := 19) (c := 272) ⟨by decide, by unfold vK; omega⟩ (fun e => by subst e; exact q) (fun n19 => ck hv (κ := 21) (c := 273) ⟨by decide, by unfold vK; omega⟩ (fun e => by subst e; exact q) (fun n21 => (by have e : rkT o = 0 := (by unfold rkT; rw [if_neg n20, if_neg n19, if_neg n21, if_neg (by omega), if_neg (by omega), if_neg n34]); rw [e] at q; exact q))))))))))
theorem c_nameOf (hl : l < 3) (hv : vK k) (h2 : M 26 2 = (l : Int)) (q : Φ (nmC l k) M) : CF (d + 1) 13 [(2, 26), (0, cvK k)] w M n Φ := by
  apply e1_nameOf
  rw [h2]
  have nl : ∀ {x y : Int}, x = y → Φ x M → Φ y M := fun e z => e ▸ z
  have hh : l = 0 ∨ l = 1 ∨ l = 2 := by omega
  rcases hh with z | z | z <;> subst z
  all_goals
    refine ck hv (κ := 2) (c := 258) ⟨by decide, by unfold vK; omega⟩ (fun e => by subst e; first | exact q | exact ⟨fun z => absurd rfl z, fun _ => q⟩ | exact ⟨fun _ => q, fun z => absurd (by decide) z⟩) (fun n2 => ck hv (κ := 3) (c := 259) ⟨by decide, by unfold vK; omega⟩ (fun e => by subst e; first | exact q | exact ⟨fun z => absurd rfl z, fun _ => q⟩ | exact ⟨fun _ => q, fun z => absurd (by decide) z⟩) (fun n3 => ck hv (κ := 4) (c := 260) ⟨by decide, by unfold vK; omega⟩ (fun e => by subst e; first | exact q | exact ⟨fun z => absurd rfl z, fun _ => q⟩ | exact ⟨fun _ => q, fun z => absurd (by decide) z⟩) (fun n4 => ck hv (κ := 5) (c := 261) ⟨by decide, by unfold vK; omega⟩ (fun e => by subst e; first | exact q | exact ⟨fun z => absurd rfl z, fun _ => q⟩ | exact ⟨fun _ => q, fun z => absurd (by decide) z⟩) (fun n5 => ck hv (κ := 6) (c := 262) ⟨by decide, by unfold vK; omega⟩ (fun e => by subst e; first | exact q | exact ⟨fun z => absurd rfl z, fun _ => q⟩ | exact ⟨fun _ => q, fun z => absurd (by decide) z⟩) (fun n6 => ck hv (κ := 7) (c := 263) ⟨by decide, by unfold vK; omega⟩ (fun e => by subst e; first | exact q | exact ⟨fun z => absurd rfl z, fun _ => q⟩ | exact ⟨fun _ => q, fun z => absurd (by decide) z⟩) (fun n7 => ck hv (κ := 8) (c := 264) ⟨by decide, by unfold vK; omega⟩ (fun e => by subst e; first | exact q | exact ⟨fun z => absurd rfl z, fun _ => q⟩ | exact ⟨fun _ => q, fun z => absurd (by decide) z⟩) (fun n8 => ck hv (κ := 9) (c := 265) ⟨by decide, by unfold vK; omega⟩ (fun e => by subst e; first | exact q | exact ⟨fun z => absurd rfl z, fun _ => q⟩ | exact ⟨fun _ => q, fun z => absurd (by decide) z⟩) (fun n9 => ck hv (κ := 10) (c := 266) ⟨by decide, by unfold vK; omega⟩ (fun e => by subst e; first | exact q | exact ⟨fun z => absurd rfl z, fun _ => q⟩ | exact ⟨fun _ => q, fun z => absurd (by decide) z⟩) (fun n10 => ck hv (κ := 11) (c := 267) ⟨by decide, by unfold vK; omega⟩ (fun e => by subst e; first | exact q | exact ⟨fun z => absurd rfl z, fun _ => q⟩ | exact ⟨fun _ => q, fun z => absurd (by decide) z⟩) (fun n11 => ck hv (κ := 12) (c := 268) ⟨by decide, by unfold vK; omega⟩ (fun e => by subst e; first | exact q | exact ⟨fun z => absurd rfl z, fun _ => q⟩ | exact ⟨fun _ => q, fun z => absurd (by decide) z⟩) (fun n12 => ck hv (κ := 13) (c := 269) ⟨by decide, by unfold vK; omega⟩ (fun e => by subst e; first | exact q | exact ⟨fun z => absurd rfl z, fun _ => q⟩ | exact ⟨fun _ => q, fun z => absurd (by decide) z⟩) (fun n13 => ck hv (κ := 14) (c := 270) ⟨by decide, by unfold vK; omega⟩ (fun e => by subst e; first | exact q | exact ⟨fun z => absurd rfl z, fun _ => q⟩ | exact ⟨fun _ => q, fun z => absurd (by decide) z⟩) (fun n14 => ck hv (κ := 20) (c := 271) ⟨by decide, by unfold vK; omega⟩ (fun e => by subst e; first | exact q | exact ⟨fun z => absurd rfl z, fun _ => q⟩ | exact ⟨fun _ => q, fun z => absurd (by decide) z⟩) (fun n20 => ck hv (κ := 19) (c := 272) ⟨by decide, by unfold vK; omega⟩ (fun e => by subst e; first | exact q | exact ⟨fun z => absurd rfl z, fun _ => q⟩ | exact ⟨fun _ => q, fun z => absurd (by decide) z⟩) (fun n19 => ck hv (κ := 21) (c := 273) ⟨by decide, by unfold vK; omega⟩ (fun e => by subst e; first | exact q | exact ⟨fun z => absurd rfl z, fun _ => q⟩ | exact ⟨fun _ => q, fun z => absurd (by decide) z⟩) (fun n21 => ck hv (κ := 15) (c := 274) ⟨by decide, by unfold vK; omega⟩ (fun e => by subst e; first | exact q | exact ⟨fun z => absurd rfl z, fun _ => q⟩ | exact ⟨fun _ => q, fun z => absurd (by decide) z⟩) (fun n15 => ck hv (κ := 16) (c := 275) ⟨by decide, by unfold vK; omega⟩ (fun e => by subst e; first | exact q | exact ⟨fun z => absurd rfl z, fun _ => q⟩ | exact ⟨fun _ => q, fun z => absurd (by decide) z⟩) (fun n16 => ck hv (κ := 17) (c := 276) ⟨by decide, by unfold vK; omega⟩ (fun e => by subst e; first | exact q | exact ⟨fun z => absurd rfl z, fun _ => q⟩ | exact ⟨fun _ => q, fun z => absurd (by decide) z⟩) (fun n17 => ck hv (κ := 18) (c := 277) ⟨by decide, by unfold vK; omega⟩ (fun e => by subst e; first | exact q | exact ⟨fun z => absurd rfl z, fun _ => q⟩ | exact ⟨fun _ => q, fun z => absurd (by decide) z⟩) (fun n18 => (by have e : ∀ j, wrT j k = -1 := (by intro j; unfold wrT; rw [if_neg n5, if_neg n7, if_neg n2, if_neg n15, if_neg n3, if_neg n16, if_neg n17, if_neg n18]); unfold nmC at q; rw [if_pos (e _)] at q; exact q)))))))))))))))))))))
theorem c_opens (hv : vK k) (h8 : M 26 8 = (st : Int)) (q : Φ (b2i (decide (k = 35 ∨ (st = 0 ∧ (k = 37 ∨ k = 21))))) M) : CF (d + 1) 10 [(2, 26), (0, cvK k)] w M n Φ := by
  apply e1_opens
  rw [h8]
  refine ck' hv (κ := 35) ⟨by decide, by unfold vK; omega⟩ (fun e => ?_) (fun n35 => ⟨fun z => ?_, fun z => ck' hv (κ := 37) ⟨by decide, by unfold vK; omega⟩ (fun e => ?_) (fun n37 => ckn hv (κ := 21) ⟨by decide, by unfold vK; omega⟩ (fun e => ?_) (fun e => ?_))⟩)
  · rw [decide_eq_true (by omega)] at q; exact q
  · rw [decide_eq_false (by omega)] at q; exact q
  · rw [decide_eq_true (by omega)] at q; exact q
  · rw [decide_eq_false (by omega)] at q; exact q
  · rw [decide_eq_true (by omega)] at q; exact q
theorem c_addCode (v : Int) (h : relE l M P) (h0 : 0 ≤ P 363) (h9 : P 363 < 900) (h12 : P 3 ≤ 12) (q : relE l (sI (sI M 23 (P 363).toNat (cvC v)) 17 13 (P 363 + 1)) (adC v P) → Φ 0 (sI (sI M 23 (P 363).toNat (cvC v)) 17 13 (P 363 + 1))) : CF (d + 1) 23 [(2, 17), (0, cvC v)] w M n Φ := by
  apply e2_addCode
  have e1 : (sI M 23 (P 363).toNat (cvC v)) 17 13 = P 363 := by rw [sI_rw (by omega)]; exact h.1.2.2.2.2.2
  rw [h.1.2.2.2.2.2, e1, w32_id (by omega) (by omega)]
  exact ⟨fun z => absurd z (by omega), fun _ => ⟨⟨by omega, by omega, trivial⟩, q (h.code h0 h12)⟩⟩
theorem c_pop (r : Nat) (hr : 1 ≤ r) : ∀ (S : List Nat) (M : Nat → Nat → Int) (P : Nat → Int), relE l M P → lwC M l S st cm → stB S → 0 ≤ P 363 → P 363 + (S.length : Int) ≤ 900 → P 3 ≤ 12 → (∀ M', frQ M M' → relE l M' (poT r S P).2 → lwC M' l (poT r S P).1 st cm → Φ 0 M') → W1_popDownTo_7 (d + 1) Φ (r : Nat) ((S.length : Int) - 1) (w0, 17, w2) M n := by
  intro S
  induction S with
  | nil =>
    intro M P h lw _ h0 h9 h12 q
    exact v1_popDownTo_7 ⟨fun _ => q M (frQ.refl M) h lw, fun z => absurd (by show ((0 : Nat) : Int) - 1 < 0; omega) z⟩
  | cons o S ih =>
    intro M P h lw hB h0 h9 h12 q
    obtain ⟨l0, l2, l4, l5, l6, l7, l8, l9, ls1, ls2⟩ := lw
    have hv := hB.1.2.2.1
    have hL := hB.len
    have eL : (((o :: S).length : Nat) : Int) - 1 = (S.length : Nat) := by show ((S.length + 1 : Nat) : Int) - 1 = _; omega
    have eL' : (((o :: S).length : Nat) : Int) = (S.length : Nat) + 1 := by show ((S.length + 1 : Nat) : Int) = _; omega
    have hL' : S.length ≤ 48 := by have : S.length + 1 ≤ 48 := hL; omega
    rw [eL]
    rw [eL'] at h9 l4
    apply v1_popDownTo_7
    rw [Int.toNat_natCast, ls1]
    refine ⟨fun z => absurd z (by omega), fun _ => ⟨⟨by omega, by omega⟩, c_rank o hv ⟨fun c => ?_, fun c => ⟨⟨by omega, by omega⟩, ?_⟩⟩⟩⟩
    · have e : poT r (o :: S) P = (o :: S, P) := by
        show (if r ≤ rkT o then _ else _) = _
        rw [if_neg (by omega)]
      rw [e] at q
      exact q M (frQ.refl M) h ⟨l0, l2, by rw [l4]; exact eL'.symm, l5, l6, l7, l8, l9, ls1, ls2⟩
    · have hro : r ≤ rkT o := by omega
      rw [poT_op hro] at q
      obtain ⟨o1, o2, o3, o4, o5⟩ := rkT_1 (o := o) (by omega)
      have eo : -(cvK o) = cvC (opT o) := by
        unfold vK at hv
        exact opT_cv o (by omega) (by omega) (by omega)
      have bo := cvK_b o (by unfold vK at hv; omega)
      have ew : w32 (-(cvK o)) = cvC (opT o) := by rw [w32_id (by omega) (by omega)]; exact eo
      have e36 : (adC (opT o) P) 363 = P 363 + 1 := adC_n _ _
      have e3 : (adC (opT o) P) 3 = P 3 := adC_ne (by omega) (by omega)
      have ei : w32 (((S.length : Nat) : Int) + (-1)) = ((S.length : Nat) : Int) - 1 := by rw [w32_id (by omega) (by omega)]; omega
      rw [ei]
      rw [ls1]
      refine ckn hv (κ := 21) ⟨by decide, by unfold vK; omega⟩ (fun n21 => ⟨⟨by omega, by omega⟩, ?_⟩) (fun n21 => ⟨⟨by omega, by omega⟩, ?_⟩)
      · rw [ew]
        refine c_addCode (opT o) h h0 (by omega) h12 (fun h' => ?_)
        refine ih _ _ (h'.law (fun c h1 h2 => sI_row (by omega))) ⟨?_, ?_, ?_, ?_, ?_, ?_, ?_, ?_, ?_⟩ hB.2 (by omega) (by omega) (by omega) (fun M' f' r' lw' => q M' ((((frQ.refl M).set (by omega)).set (by omega)).set (by omega) |>.trans f') r' lw')
        · rw [sI_ne (by omega), sI_rw (by omega), sI_rw (by omega)]; exact l0
        · rw [sI_ne (by omega), sI_rw (by omega), sI_rw (by omega)]; exact l2
        · rw [sI_same]
        · rw [sI_ne (by omega), sI_rw (by omega), sI_rw (by omega), l5, cnT_op n21]
        · rw [sI_ne (by omega), sI_rw (by omega), sI_rw (by omega), l6, cnT_op o1]
        · rw [sI_ne (by omega), sI_rw (by omega), sI_rw (by omega), l7, cnT_op o2]
        · rw [sI_ne (by omega), sI_rw (by omega), sI_rw (by omega)]; exact l8
        · rw [sI_ne (by omega), sI_rw (by omega), sI_rw (by omega)]; exact l9
        · exact stkC_ext S (fun i hi => by rw [sI_rw (by omega), sI_rw (by omega), sI_rw (by omega)]) ls2
      · have e27 : (sI M 26 5 (w32 (M 26 5 - 1))) 27 S.length = cvK o := by rw [sI_rw (by omega)]; exact ls1
        rw [e27, ew]
        refine c_addCode (opT o) (h.law (fun c h1 h2 => sI_row (by omega))) h0 (by omega) h12 (fun h' => ?_)
        refine ih _ _ (h'.law (fun c h1 h2 => sI_row (by omega))) ⟨?_, ?_, ?_, ?_, ?_, ?_, ?_, ?_, ?_⟩ hB.2 (by omega) (by omega) (by omega) (fun M' f' r' lw' => q M' (((((frQ.refl M).set (by omega)).set (by omega)).set (by omega)).set (by omega) |>.trans f') r' lw')
        · rw [sI_ne (by omega), sI_rw (by omega), sI_rw (by omega), sI_ne (by omega)]; exact l0
        · rw [sI_ne (by omega), sI_rw (by omega), sI_rw (by omega), sI_ne (by omega)]; exact l2
        · rw [sI_same]
        · have ln : cnT 21 S ≤ 6 := by
            have := hB.2.dp
            unfold dpT at this
            omega
          rw [sI_ne (by omega), sI_rw (by omega), sI_rw (by omega), sI_same, l5, n21, cnT_in, w32_id (by omega) (by omega)]
          omega
        · rw [sI_ne (by omega), sI_rw (by omega), sI_rw (by omega), sI_ne (by omega), l6, cnT_op o1]
        · rw [sI_ne (by omega), sI_rw (by omega), sI_rw (by omega), sI_ne (by omega), l7, cnT_op o2]
        · rw [sI_ne (by omega), sI_rw (by omega), sI_rw (by omega), sI_ne (by omega)]; exact l8
        · rw [sI_ne (by omega), sI_rw (by omega), sI_rw (by omega), sI_ne (by omega)]; exact l9
        · exact stkC_ext S (fun i hi => by rw [sI_rw (by omega), sI_rw (by omega), sI_rw (by omega), sI_rw (by omega)]) ls2
theorem c_popD (r : Nat) (hr : 1 ≤ r) (h : relE l M P) (lw : lwC M l S st cm) (hB : stB S) (h0 : 0 ≤ P 363) (h9 : P 363 + (S.length : Int) ≤ 900) (h12 : P 3 ≤ 12) (q : ∀ M', frQ M M' → relE l M' (poT r S P).2 → lwC M' l (poT r S P).1 st cm → Φ 0 M') : CF (d + 2) 18 [(2, 26), (0, (r : Nat))] (w0, 17, w2) M n Φ := by
  apply e1_popDownTo
  have hL := hB.len
  rw [lw.2.2.1, w32_id (by omega) (by omega)]
  exact c_pop r hr S M P h lw hB h0 h9 h12 q
theorem c_push (h4 : M 26 4 = (S.length : Nat)) (hL : S.length ≤ 48) (q : Φ 0 (sI (sI M 27 S.length (cvK k)) 26 4 ((S.length : Nat) + 1))) : CF (d + 1) 17 [(2, 26), (0, cvK k)] w M n Φ := by
  apply e1_push
  have e : (sI M 27 S.length (cvK k)) 26 4 = (S.length : Nat) := by rw [sI_rw (by omega)]; exact h4
  rw [h4, Int.toNat_natCast, e, w32_id (by omega) (by omega)]
  exact ⟨fun z => absurd z (by omega), fun _ => ⟨⟨by omega, by omega, trivial⟩, q⟩⟩
end
