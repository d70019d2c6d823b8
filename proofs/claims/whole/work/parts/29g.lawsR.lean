/-! ===== laws: the reference's descent reads as the machine does (printed by program) ===== -/
/-- code grew -/
def nwC (P P' : Nat → Int) : Prop := P 363 ≤ P' 363 ∧ ∀ j, j ≠ 363 → j < 364 + (P 363).toNat → P' j = P j
theorem nwC.refl (P : Nat → Int) : nwC P P := ⟨Int.le_refl _, fun _ _ _ => rfl⟩
theorem nwC.trans {P P' Q : Nat → Int} (h : nwC P P') (h2 : nwC P' Q) : nwC P Q := ⟨Int.le_trans h.1 h2.1, fun j h3 h4 => (h2.2 j h3 (by have := h.1; omega)).trans (h.2 j h3 h4)⟩
theorem nwC.ad {P P' : Nat → Int} {x : Int} (h : nwC P P') (h0 : 0 ≤ P 363) : nwC P (adC x P') := ⟨by rw [adC_n]; have := h.1; omega, fun j h3 h4 => by rw [adC_ne h3 (by have := h.1; omega)]; exact h.2 j h3 h4⟩
def XR (l : Nat) (T : Nat → Int) (N fr kk dd deep sl : Nat) (t : Bool) (pre : List Nat → Nat → Nat → Nat → Prop) (post : Nat → Nat → Nat → Nat → Prop) : Prop :=
  ∀ (n : Nat × Nat) (Φ : Int → (Nat → Nat → Int) → Prop) (M : Nat → Nat → Int) (p : Nat) (P : Nat → Int) (S : List Nat) (st cm : Nat) (s : List Bool),
    atR M T N p P → M 1 15 = (l : Int) → 0 ≤ P 363 → P 363 ≤ (p : Int) → fr ≤ (P 363).toNat → tyP l fr P = some s → s.length ≤ 5 * deep + sl → dpT S = deep → pre S st cm (tkK T N p) →
    (∀ (M' : Nat → Nat → Int) (p' : Nat) (P' : Nat → Int) (st' cm' : Nat), frZ M M' → atR M' T N p' P' → p < p' → nwC P P' → P' 363 + (p : Int) ≤ P 363 + (p' : Int) → tyP l fr P' = some (t :: s) → (∀ r, RnS l T N p' S st' cm' P' r → RnS l T N p S st cm P r) → post (tkK T N p') st' cm' cm → Φ 0 M') →
    (∀ (M' : Nat → Nat → Int) (k : Int) (a : Nat), frZ M M' → badR M' k a → RnS l T N p S st cm P (.inr (k, a)) → Φ 0 M') →
    CR dd kk [(2, 1), (0, (deep : Int))] M n Φ
def prA (_ : List Nat) (st _ k : Nat) : Prop := st < 2 ∧ (st = 0 → k ≠ 37 ∧ k ≠ 21)
def prT (S : List Nat) (st cm k : Nat) : Prop := prA S st cm k ∧ tpT S < 6
def prS (S : List Nat) (st cm k : Nat) : Prop := prA S st cm k ∧ tpT S < 5
def prU (l : Nat) (S : List Nat) (st cm _ : Nat) : Prop := st = 0 ∧ cm = 0 ∧ tpT S < 4 ∧ cnT 35 S = 0 ∧ l ≠ 2
def prB (l : Nat) (S : List Nat) (st cm _ : Nat) : Prop := st = 0 ∧ cm = 0 ∧ tpT S < 2 ∧ cnT 35 S = 0 ∧ l ≠ 2
def prR (l : Nat) (S : List Nat) (st cm _ : Nat) : Prop := st = 0 ∧ cm = 0 ∧ tpT S < 1 ∧ cnT 35 S = 0 ∧ l ≠ 2
def qoA (_ st' cm' cm : Nat) : Prop := st' = 2 ∧ cm' = cm
def qoT (k st' cm' cm : Nat) : Prop := st' = 2 ∧ cm' = cm ∧ k ≠ 34
def qoS (k st' cm' cm : Nat) : Prop := st' = 2 ∧ cm' = cm ∧ k ≠ 34 ∧ k ≠ 32 ∧ k ≠ 33
def qoU (k st' cm' _ : Nat) : Prop := st' = 3 ∨ (st' = 2 ∧ cm' = 1 ∧ k ≠ 32 ∧ k ≠ 33 ∧ k ≠ 34)
def qoB (k st' cm' cm : Nat) : Prop := qoU k st' cm' cm ∧ k ≠ 19
def qoR (k st' cm' cm : Nat) : Prop := qoU k st' cm' cm ∧ k ≠ 19 ∧ k ≠ 20
theorem fit_U {l k st cm c : Nat} {S : List Nat} (h : qoU k st cm c) (hR : cnT 35 S = 0) (hf : fitT l k S st cm = true) : k = 19 ∨ k = 20 ∨ k = 38 ∨ k = 30 := by
  have hf := of_decide_eq_true hf
  rcases h with z | ⟨z, y, a1, a2, a3⟩
  · subst z
    rcases hf with ⟨e, _⟩ | ⟨e, _⟩ | ⟨e, _⟩ | ⟨_, e | e⟩ | ⟨_, e, _⟩ | ⟨e, _⟩
    all_goals omega
  · subst z y
    rcases hf with ⟨_, e | e | e⟩ | ⟨_, _, e⟩ | ⟨_, _, _, e, _⟩ | ⟨_, e | e⟩ | ⟨_, e, _⟩ | ⟨e, _⟩
    all_goals omega
theorem fit_ar {l k cm : Nat} {S : List Nat} (h : k = 32 ∨ k = 33 ∨ k = 34) : fitT l k S 2 cm = true := decide_eq_true (Or.inl ⟨rfl, h⟩)
theorem fit_cl {l k cm : Nat} {S : List Nat} (h : k = 36) (hR : 0 < cnT 35 S) : fitT l k S 2 cm = true := decide_eq_true (Or.inr (Or.inl ⟨rfl, h, hR⟩))
theorem fit_cm {l k : Nat} {S : List Nat} (h : k = 39 ∨ k = 40 ∨ k = 41) (hR : cnT 35 S = 0) (hl : l ≠ 2) : fitT l k S 2 0 = true := decide_eq_true (Or.inr (Or.inr (Or.inl ⟨rfl, hR, hl, rfl, h⟩)))
theorem fit_bo {l k st cm : Nat} {S : List Nat} (h : k = 19 ∨ k = 20) (hR : cnT 35 S = 0) (hs : st = 3 ∨ (st = 2 ∧ cm = 1)) : fitT l k S st cm = true := decide_eq_true (Or.inr (Or.inr (Or.inr (Or.inl ⟨hs.imp id (fun z => ⟨z.1, hR, z.2⟩), h⟩))))
theorem fit_do {l k st cm : Nat} {S : List Nat} (h : k = 38) (hR : cnT 35 S = 0) (hs : st = 3 ∨ (st = 2 ∧ cm = 1)) (hQ : 0 < cnT 37 S) : fitT l k S st cm = true := decide_eq_true (Or.inr (Or.inr (Or.inr (Or.inr (Or.inl ⟨hs.imp id (fun z => ⟨z.1, hR, z.2⟩), h, hQ⟩)))))
theorem unf_cl {l k cm : Nat} {S : List Nat} (hR : 0 < cnT 35 S) (h1 : k ≠ 32) (h2 : k ≠ 33) (h3 : k ≠ 34) (h4 : k ≠ 36) : fitT l k S 2 cm = false := by
  refine decide_eq_false ?_
  rintro (⟨_, e | e | e⟩ | ⟨_, e, _⟩ | ⟨_, e, _⟩ | ⟨e | e, _⟩ | ⟨e | e, _⟩ | ⟨_, e | e⟩)
  · exact h1 e
  · exact h2 e
  · exact h3 e
  · exact h4 e
  · omega
  · omega
  · omega
  · omega
  · omega
  · omega
  · obtain ⟨_, e | e, _⟩ := e <;> omega
theorem unf_un {l k : Nat} {S : List Nat} (hR : cnT 35 S = 0) (hl : l ≠ 2) (h1 : k ≠ 32) (h2 : k ≠ 33) (h3 : k ≠ 34) (h4 : k ≠ 39) (h5 : k ≠ 40) (h6 : k ≠ 41) : fitT l k S 2 0 = false := by
  refine decide_eq_false ?_
  rintro (⟨_, e | e | e⟩ | ⟨_, _, e⟩ | ⟨_, _, _, _, e | e | e⟩ | ⟨e | e, _⟩ | ⟨e | e, _⟩ | ⟨_, e | e⟩)
  · exact h1 e
  · exact h2 e
  · exact h3 e
  · omega
  · exact h4 e
  · exact h5 e
  · exact h6 e
  · omega
  · omega
  · omega
  · omega
  · exact hl e.1
  · obtain ⟨_, e | e, _⟩ := e <;> omega
theorem unf_sq {l k st cm c : Nat} {S : List Nat} (hl : l ≠ 2) (hR : cnT 35 S = 0) (hQ : 0 < cnT 37 S) (h : qoU k st cm c) (h1 : k ≠ 19) (h2 : k ≠ 20) (h3 : k ≠ 38) : fitT l k S st cm = false := by
  cases hf : fitT l k S st cm with
  | false => rfl
  | true =>
    exfalso
    rcases fit_U h hR hf with e | e | e | e
    · exact h1 e
    · exact h2 e
    · exact h3 e
    · subst e
      have hf := of_decide_eq_true hf
      rcases hf with ⟨_, e | e | e⟩ | ⟨_, e, _⟩ | ⟨_, _, _, _, e | e | e⟩ | ⟨_, e | e⟩ | ⟨_, e, _⟩ | ⟨_, e | e⟩
      all_goals first | (exact hl e.1) | omega
theorem qoU_st {k st cm c : Nat} (h : qoU k st cm c) : 2 ≤ st ∧ (st = 3 ∨ (st = 2 ∧ cm = 1)) := by
  rcases h with e | ⟨e1, e2, _⟩
  · subst e; exact ⟨by decide, Or.inl rfl⟩
  · subst e1 e2; exact ⟨by decide, Or.inr ⟨rfl, rfl⟩⟩
theorem rk_U {k : Nat} (h : k = 19 ∨ k = 20 ∨ k = 38 ∨ k = 30) : rkT k ≤ 2 ∧ (k ≠ 19 → rkT k ≤ 1) := by
  rcases h with e | e | e | e <;> subst e <;> decide
theorem rk_S {k : Nat} : (k ≠ 34 → rkT k ≤ 5) ∧ (k ≠ 34 → k ≠ 32 → k ≠ 33 → rkT k ≤ 4) := by
  unfold rkT
  constructor
  · intro h
    repeat' split
    all_goals omega
  · intro h h1 h2
    repeat' split
    all_goals omega
theorem dpT_op {o : Nat} {S : List Nat} (h1 : o ≠ 21) (h2 : o ≠ 35) (h3 : o ≠ 37) : dpT (o :: S) = dpT S := by unfold dpT; rw [cnT_op h1, cnT_op h2, cnT_op h3]
theorem dpT_in {o : Nat} {S : List Nat} (h : o = 21 ∨ o = 35 ∨ o = 37) : dpT (o :: S) = dpT S + 1 := by
  unfold dpT
  rcases h with e | e | e <;> subst e
  · rw [cnT_in, cnT_op (by omega), cnT_op (by omega)]; omega
  · rw [cnT_in, cnT_op (by omega), cnT_op (by omega)]; omega
  · rw [cnT_in, cnT_op (by omega), cnT_op (by omega)]; omega
theorem badR.ne {M : Nat → Nat → Int} {k : Int} {a : Nat} (b : badR M k a) : M 1 11 ≠ 0 := by rw [b.1]; exact b.2.1
theorem tyP_1 {l fr : Nat} {x : Int} {P : Nat → Int} {s s' : List Bool} (h : 0 ≤ P 363) (hf : fr ≤ (P 363).toNat) (ht : tyP l fr P = some s) (h1 : ty1 l x s = some s') : tyP l fr (adC x P) = some s' := by
  rw [tyP_ad h hf, ht]
  exact h1
section
variable {d l N fr deep : Nat} {T : Nat → Int}
theorem x_atom (hl : l < 3) (hd : deep ≤ 6) (hS : deep < 6 → XR l T N fr 201 (d + 3) (deep + 1) 3 false prS qoS) : XR l T N fr 199 (d + 4) deep 5 false prA qoA := by
  intro n Φ M p P S st cm s h h15 hP0 hPp hfr hty hsl hdp hpre q1 q2
  obtain ⟨hst, hno⟩ := hpre
  have h9 := h.n900
  have hN := h.nx
  refine e12_readAtom (s_is 23 h (fun hk => io0 ?_) (fun hk => iz0 ⟨fun c => absurd h.w0 c, fun _ => ?_⟩))
  · rw [h.val hk]
    have hlt := hN.2 (by omega)
    refine s_codes _ h ⟨hP0, by omega⟩ (fun M1 f1 h1 => s_next h1 (fun M2 f2 h2 => q1 M2 (tkE T N p) _ 2 cm (f1.trans f2) h2 hlt ((nwC.refl P).ad hP0) (by rw [adC_n]; omega) (tyP_1 hP0 hfr hty (ty_num (tkV_b hk) (by omega))) (fun r hr => rs_num hst hk hr) ⟨rfl, rfl⟩))
  · rw [h.kd]
    refine s_word l hl h15 _ ⟨fun hw => ?_, fun hw => ?_⟩
    · refine s_is 35 h (fun ho => io0 ?_) (fun ho => iz0 ?_)
      · refine s_goes deep h (fun h6 M1 k a f1 b1 e1 => iz1 (q2 M1 k a f1 b1 (e1 ▸ rs_many hst (Or.inl ho) (by omega)))) (fun h6 M1 f1 h1 => io1 ?_)
        have hlt := hN.2 (by omega)
        rw [w32_s (by omega)]
        have hop : ∀ r, RnS l T N (tkE T N p) (35 :: S) 1 cm P r → RnS l T N p S st cm P r := fun r hr => rs_open hst (Or.inl ho) (by omega) (by rw [if_pos ho, if_pos ho, ho]; exact hr)
        refine hS (by omega) n _ M1 (tkE T N p) P (35 :: S) 1 cm s h1 (by rw [f1.2 15 (by omega)]; exact h15) hP0 (by omega) hfr hty (by omega) (by rw [dpT_in (by omega)]; omega) ⟨⟨by omega, fun z => by omega⟩, (by show rkT 35 < 5; decide)⟩ (fun M2 p2 P2 st2 cm2 f2 h2 lt2 n2 c2 t2 r2 g2 => ?_) (fun M2 k a f2 b2 r2 => ?_)
        · obtain ⟨e1, e2, g3, g4, g5⟩ := g2
          subst e1 e2
          have hN2 := h2.nx
          refine s_eats 36 h2 (fun hc M3 f3 h3 => io1 ?_) (fun hc => iz1 ?_)
          · have hlt2 := hN2.2 (by omega)
            refine q1 M3 (tkE T N p2) P2 2 cm2 ((f1.trans f2).trans f3) h3 (by omega) n2 (by omega) t2 (fun r hr => hop r (r2 r (rs_close (by omega) ?_ (Or.inl hc) ?_))) ⟨rfl, rfl⟩
            · exact fit_cl hc (by rw [cnT_in]; exact Nat.succ_pos _)
            · rw [poT_top (show tpT (35 :: S) < 1 by show rkT 35 < 1; decide), if_pos hc]
              exact hr
          · refine s_fails 2 (by decide) h2 (fun M3 k a f3 b3 e3 => q2 M3 k a ((f1.trans f2).trans f3) b3 (e3 ▸ hop _ (r2 _ (rs_unfit (by omega) ?_))))
            exact unf_cl (by rw [cnT_in]; exact Nat.succ_pos _) g4 g5 g3 hc
        · refine w_eats 36 b2.ne (iz1 (w_fails 2 b2.ne (q2 M2 k a (f1.trans f2) b2 (hop _ r2))))
      · exact s_fails 2 (by decide) h (fun M1 k a f1 b1 e1 => q2 M1 k a f1 b1 (e1 ▸ rs_none hst (by omega) hk hw))
    · rw [h.kd]
      refine s_word l hl h15 _ ?_
      obtain ⟨g1, g2, g3⟩ := wrT_ok hl hw
      rw [w32_id (by omega) (by omega)]
      have hk24 : tkK T N p ≠ 24 ∧ tkK T N p ≠ 35 ∧ tkK T N p ≠ 37 ∧ tkK T N p ≠ 21 := by
        refine ⟨?_, ?_, ?_, ?_⟩ <;> (intro z; apply hw; rw [z]; rfl)
      have hlt := hN.2 hk24.1
      refine s_codes _ h ⟨hP0, by omega⟩ (fun M1 f1 h1 => s_next h1 (fun M2 f2 h2 => q1 M2 (tkE T N p) _ 2 cm (f1.trans f2) h2 hlt ((nwC.refl P).ad hP0) (by rw [adC_n]; omega) (tyP_1 hP0 hfr hty (ty_word hl hw (by omega))) (fun r hr => rs_word hst (by omega) hk hw hr) ⟨rfl, rfl⟩))
theorem x_term (hA : XR l T N fr 199 (d + 4) deep 5 false prA qoA) : XR l T N fr 200 (d + 5) deep 4 false prT qoT := by
  intro n Φ M p P S st cm s h h15 hP0 hPp hfr hty hsl hdp hpre q1 q2
  obtain ⟨hpa, htp⟩ := hpre
  have h9 := h.n900
  have wr : ∀ M', M' 1 11 ≠ 0 → Φ 0 M' → W12_readTerm_5 (d + 4) n Φ (deep : Int) M' := fun M' hw q => v12_readTerm_5 (w_eats 34 hw (iz0 q))
  have lp : ∀ j p1, N - p1 ≤ j → ∀ (M1 : Nat → Nat → Int) (P1 : Nat → Int), frZ M M1 → atR M1 T N p1 P1 → p < p1 → nwC P P1 → P1 363 + (p : Int) ≤ P 363 + (p1 : Int) → tyP l fr P1 = some (false :: s) → (∀ r, RnS l T N p1 S 2 cm P1 r → RnS l T N p S st cm P r) → CR (d + 4) 193 [(2, 1), (0, 34)] M1 n (fun r0 M1 => (r0 = 0 → Φ 0 M1) ∧ (¬ (r0 = 0) → CR (d + 4) 199 [(2, 1), (0, (deep : Int))] M1 n (fun _ M2 => CR (d + 4) 197 [(2, 1), (0, 3002)] M2 n (fun _ M3 => W12_readTerm_5 (d + 4) n Φ (deep : Int) M3)))) := by
    intro j
    induction j with
    | zero =>
      intro p1 hj M1 P1 f1 h1 lt1 n1 c1 t1 r1
      have hN := h1.nx
      have hle := h1.le
      exact s_eats 34 h1 (fun hk => absurd (hN.2 (by omega)) (by omega)) (fun hk => iz0 (q1 M1 p1 P1 2 cm f1 h1 lt1 n1 c1 t1 r1 ⟨rfl, rfl, hk⟩))
    | succ j ih =>
      intro p1 hj M1 P1 f1 h1 lt1 n1 c1 t1 r1
      have hN := h1.nx
      refine s_eats 34 h1 (fun hk M2 f2 h2 => io0 ?_) (fun hk => iz0 (q1 M1 p1 P1 2 cm f1 h1 lt1 n1 c1 t1 r1 ⟨rfl, rfl, hk⟩))
      have hlt := hN.2 (by omega)
      have hn1 := n1.1
      have hop : ∀ r, RnS l T N (tkE T N p1) (34 :: S) 1 cm P1 r → RnS l T N p S st cm P r := fun r hr => r1 r (rs_op (Nat.le_refl 2) (fit_ar (Or.inr (Or.inr hk))) (by rw [hk]; decide) (by rw [hk]; exact htp) (by rw [hk]; exact hr))
      refine hA n _ M2 (tkE T N p1) P1 (34 :: S) 1 cm (false :: s) h2 (by rw [f2.2 15 (by omega), f1.2 15 (by omega)]; exact h15) (by omega) (by omega) (by omega) t1 (by rw [List.length_cons]; omega) (by rw [dpT_op (by omega) (by omega) (by omega)]; exact hdp) ⟨by omega, fun z => by omega⟩ (fun M3 p3 P3 st3 cm3 f3 h3 lt3 n3 c3 t3 r3 g3 => ?_) (fun M3 k a f3 b3 r3 => ?_)
      · obtain ⟨e1, e2⟩ := g3
        subst e1 e2
        have hn3 := n3.1
        have h3le := h3.le
        refine s_codes 3002 h3 ⟨by omega, by omega⟩ (fun M4 f4 h4 => v12_readTerm_5 (ih p3 (by omega) M4 _ (((f1.trans f2).trans f3).trans f4) h4 (by omega) ((n1.trans n3).ad hP0) (by rw [adC_n]; omega) (tyP_1 (by omega) (by omega) t3 (ty_sum (by omega))) (fun r hr => hop r (r3 r (rs_norm (Nat.le_refl 2) (by decide) (fun _ => rkT_6 _) hr)))))
      · exact w_codes 3002 b3.ne (wr M3 b3.ne (q2 M3 k a ((f1.trans f2).trans f3) b3 (hop _ r3)))
  refine e12_readTerm (hA n _ M p P S st cm s h h15 hP0 hPp hfr hty (by omega) hdp hpa (fun M1 p1 P1 st1 cm1 f1 h1 lt1 n1 c1 t1 r1 g1 => ?_) (fun M1 k a f1 b1 r1 => w_eats 34 b1.ne (iz0 (q2 M1 k a f1 b1 r1))))
  obtain ⟨e1, e2⟩ := g1
  subst e1 e2
  exact lp (N - p1) p1 (Nat.le_refl _) M1 P1 f1 h1 lt1 n1 c1 t1 r1
theorem x_sum (hT : XR l T N fr 200 (d + 5) deep 4 false prT qoT) : XR l T N fr 201 (d + 6) deep 3 false prS qoS := by
  intro n Φ M p P S st cm s h h15 hP0 hPp hfr hty hsl hdp hpre q1 q2
  obtain ⟨hpa, htp⟩ := hpre
  have h9 := h.n900
  have wr : ∀ M', M' 1 11 ≠ 0 → Φ 0 M' → W12_readSum_5 (d + 5) n Φ (deep : Int) M' := fun M' hw q => v12_readSum_5 (w_is 32 hw (iz1 (w_is 33 hw (iz0 q))))
  have lp : ∀ j p1, N - p1 ≤ j → ∀ (M1 : Nat → Nat → Int) (P1 : Nat → Int), frZ M M1 → atR M1 T N p1 P1 → p < p1 → nwC P P1 → P1 363 + (p : Int) ≤ P 363 + (p1 : Int) → tyP l fr P1 = some (false :: s) → (∀ r, RnS l T N p1 S 2 cm P1 r → RnS l T N p S st cm P r) → tkK T N p1 ≠ 34 → CR (d + 5) 192 [(2, 1), (0, 32)] M1 n (fun r0 M1 => (r0 ≠ 0 → ((M1 1 9) ≠ 32 → CR (d + 5) 190 [(2, 1)] M1 n (fun _ M2 => CR (d + 5) 200 [(2, 1), (0, (deep : Int))] M2 n (fun _ M3 => CR (d + 5) 197 [(2, 1), (0, 3001)] M3 n (fun _ M4 => W12_readSum_5 (d + 5) n Φ (deep : Int) M4)))) ∧ (¬ ((M1 1 9) ≠ 32) → CR (d + 5) 190 [(2, 1)] M1 n (fun _ M2 => CR (d + 5) 200 [(2, 1), (0, (deep : Int))] M2 n (fun _ M3 => CR (d + 5) 197 [(2, 1), (0, 3000)] M3 n (fun _ M4 => W12_readSum_5 (d + 5) n Φ (deep : Int) M4))))) ∧ (¬ (r0 ≠ 0) → CR (d + 5) 192 [(2, 1), (0, 33)] M1 n (fun r1 M2 => (r1 = 0 → Φ 0 M2) ∧ (¬ (r1 = 0) → ((M2 1 9) ≠ 32 → CR (d + 5) 190 [(2, 1)] M2 n (fun _ M3 => CR (d + 5) 200 [(2, 1), (0, (deep : Int))] M3 n (fun _ M4 => CR (d + 5) 197 [(2, 1), (0, 3001)] M4 n (fun _ M5 => W12_readSum_5 (d + 5) n Φ (deep : Int) M5)))) ∧ (¬ ((M2 1 9) ≠ 32) → CR (d + 5) 190 [(2, 1)] M2 n (fun _ M3 => CR (d + 5) 200 [(2, 1), (0, (deep : Int))] M3 n (fun _ M4 => CR (d + 5) 197 [(2, 1), (0, 3000)] M4 n (fun _ M5 => W12_readSum_5 (d + 5) n Φ (deep : Int) M5)))))))) := by
    intro j
    induction j with
    | zero =>
      intro p1 hj M1 P1 f1 h1 lt1 n1 c1 t1 r1 g1
      have hN := h1.nx
      have hle := h1.le
      exact s_is 32 h1 (fun hk => absurd (hN.2 (by omega)) (by omega)) (fun hk => iz1 (s_is 33 h1 (fun hk => absurd (hN.2 (by omega)) (by omega)) (fun hk2 => iz0 (q1 M1 p1 P1 2 cm f1 h1 lt1 n1 c1 t1 r1 ⟨rfl, rfl, g1, hk, hk2⟩))))
    | succ j ih =>
      intro p1 hj M1 P1 f1 h1 lt1 n1 c1 t1 r1 g1
      have hN := h1.nx
      have go : ∀ (o : Nat) (x : Int), (o = 32 ∧ x = 3000) ∨ (o = 33 ∧ x = 3001) → tkK T N p1 = o → CR (d + 5) 190 [(2, 1)] M1 n (fun _ M2 => CR (d + 5) 200 [(2, 1), (0, (deep : Int))] M2 n (fun _ M3 => CR (d + 5) 197 [(2, 1), (0, x)] M3 n (fun _ M4 => W12_readSum_5 (d + 5) n Φ (deep : Int) M4))) := by
        intro o x hox hk
        have hrk : rkT o = 5 ∧ opT o = x := by rcases hox with ⟨e1, e2⟩ | ⟨e1, e2⟩ <;> subst e1 e2 <;> exact ⟨by decide, rfl⟩
        refine s_next h1 (fun M2 f2 h2 => ?_)
        have hlt := hN.2 (by omega)
        have hn1 := n1.1
        have hop : ∀ r, RnS l T N (tkE T N p1) (o :: S) 1 cm P1 r → RnS l T N p S st cm P r := fun r hr => r1 r (rs_op (Nat.le_refl 2) (fit_ar (by omega)) (by rw [hk, hrk.1]; decide) (by rw [hk, hrk.1]; exact htp) (by rw [hk, if_neg (by omega), if_neg (by omega), if_neg (by omega)]; exact hr))
        refine hT n _ M2 (tkE T N p1) P1 (o :: S) 1 cm (false :: s) h2 (by rw [f2.2 15 (by omega), f1.2 15 (by omega)]; exact h15) (by omega) (by omega) (by omega) t1 (by rw [List.length_cons]; omega) (by rw [dpT_op (by omega) (by omega) (by omega)]; exact hdp) ⟨⟨by omega, fun z => by omega⟩, (by show rkT o < 6; omega)⟩ (fun M3 p3 P3 st3 cm3 f3 h3 lt3 n3 c3 t3 r3 g3 => ?_) (fun M3 k a f3 b3 r3 => ?_)
        · obtain ⟨e1, e2, g4⟩ := g3
          subst e1 e2
          have hn3 := n3.1
          have h3le := h3.le
          refine s_codes x h3 ⟨by omega, by omega⟩ (fun M4 f4 h4 => v12_readSum_5 (ih p3 (by omega) M4 _ (((f1.trans f2).trans f3).trans f4) h4 (by omega) ((n1.trans n3).ad hP0) (by rw [adC_n]; omega) (tyP_1 (by omega) (by omega) t3 (ty_sum (by omega))) (fun r hr => hop r (r3 r (rs_norm (Nat.le_refl 2) (by omega) (fun _ => by rw [hrk.1]; exact rk_S.1 g4) (by rw [hrk.2]; exact hr)))) g4))
        · exact w_codes x b3.ne (wr M3 b3.ne (q2 M3 k a ((f1.trans f2).trans f3) b3 (hop _ r3)))
      have go2 : tkK T N p1 = 32 ∨ tkK T N p1 = 33 → ((M1 1 9) ≠ 32 → CR (d + 5) 190 [(2, 1)] M1 n (fun _ M2 => CR (d + 5) 200 [(2, 1), (0, (deep : Int))] M2 n (fun _ M3 => CR (d + 5) 197 [(2, 1), (0, 3001)] M3 n (fun _ M4 => W12_readSum_5 (d + 5) n Φ (deep : Int) M4)))) ∧ (¬ ((M1 1 9) ≠ 32) → CR (d + 5) 190 [(2, 1)] M1 n (fun _ M2 => CR (d + 5) 200 [(2, 1), (0, (deep : Int))] M2 n (fun _ M3 => CR (d + 5) 197 [(2, 1), (0, 3000)] M3 n (fun _ M4 => W12_readSum_5 (d + 5) n Φ (deep : Int) M4)))) := by
        intro hk
        rw [h1.kd]
        exact ⟨fun c => go 33 3001 (by omega) (by omega), fun c => go 32 3000 (by omega) (by omega)⟩
      exact s_is 32 h1 (fun hk => io1 (go2 (Or.inl hk))) (fun hk => iz1 (s_is 33 h1 (fun hk => io0 (go2 (Or.inr hk))) (fun hk2 => iz0 (q1 M1 p1 P1 2 cm f1 h1 lt1 n1 c1 t1 r1 ⟨rfl, rfl, g1, hk, hk2⟩))))
  refine e12_readSum (hT n _ M p P S st cm s h h15 hP0 hPp hfr hty (by omega) hdp ⟨hpa, by omega⟩ (fun M1 p1 P1 st1 cm1 f1 h1 lt1 n1 c1 t1 r1 g1 => ?_) (fun M1 k a f1 b1 r1 => w_is 32 b1.ne (iz1 (w_is 33 b1.ne (iz0 (q2 M1 k a f1 b1 r1))))))
  obtain ⟨e1, e2, g2⟩ := g1
  subst e1 e2
  exact lp (N - p1) p1 (Nat.le_refl _) M1 P1 f1 h1 lt1 n1 c1 t1 r1 g2
theorem x_unit (hd : deep ≤ 6) (hS : XR l T N fr 201 (d + 6) deep 3 false prS qoS) (hU : deep < 6 → XR l T N fr 202 (d + 6) (deep + 1) 2 true (prU l) qoU) (hR : deep < 6 → XR l T N fr 204 (d + 6) (deep + 1) 0 true (prR l) qoR) : XR l T N fr 202 (d + 7) deep 2 true (prU l) qoU := by
  intro n Φ M p P S st cm s h h15 hP0 hPp hfr hty hsl hdp hpre q1 q2
  obtain ⟨hst, hcm, htp, hrd, hl2⟩ := hpre
  subst hst hcm
  have h9 := h.n900
  have hN := h.nx
  have w2 := w32_s (k := deep) (by omega)
  refine e12_readUnit (s_is 21 h (fun hk => io0 ?_) (fun hk => iz0 (s_is 37 h (fun hk2 => io0 ?_) (fun hk2 => iz0 ?_))))
  · -- not
    refine s_goes deep h (fun h6 M1 k a f1 b1 e1 => iz1 (q2 M1 k a f1 b1 (e1 ▸ rs_many (by omega) (by omega) (by omega)))) (fun h6 M1 f1 h1 => io1 ?_)
    have hlt := hN.2 (by omega)
    rw [w2]
    have hop : ∀ r, RnS l T N (tkE T N p) (21 :: S) 0 0 P r → RnS l T N p S 0 0 P r := fun r hr => rs_open (by omega) (by omega) (by omega) (by rw [if_neg (by omega), if_neg (by omega), hk]; exact hr)
    refine hU (by omega) n _ M1 (tkE T N p) P (21 :: S) 0 0 s h1 (by rw [f1.2 15 (by omega)]; exact h15) hP0 (by omega) hfr hty (by omega) (by rw [dpT_in (by omega)]; omega) ⟨rfl, rfl, (by show rkT 21 < 4; decide), (by rw [cnT_op (by omega)]; exact hrd), hl2⟩ (fun M2 p2 P2 st2 cm2 f2 h2 lt2 n2 c2 t2 r2 g2 => ?_) (fun M2 k a f2 b2 r2 => ?_)
    · have hn2 := n2.1
      have h2le := h2.le
      refine s_codes 3006 h2 ⟨by omega, by omega⟩ (fun M3 f3 h3 => q1 M3 p2 _ st2 cm2 ((f1.trans f2).trans f3) h3 (by omega) (n2.ad hP0) (by rw [adC_n]; omega) (tyP_1 (by omega) (by omega) t2 ty_not) (fun r hr => hop r (r2 r (rs_norm (qoU_st g2).1 (by decide) (fun hf => ?_) hr))) g2)
      have := (rk_U (fit_U g2 hrd hf)).1
      show _ ≤ 3
      omega
    · exact w_codes 3006 b2.ne (q2 M2 k a (f1.trans f2) b2 (hop _ r2))
  · -- square
    refine s_goes deep h (fun h6 M1 k a f1 b1 e1 => iz1 (q2 M1 k a f1 b1 (e1 ▸ rs_many (by omega) (by omega) (by omega)))) (fun h6 M1 f1 h1 => io1 ?_)
    have hlt := hN.2 (by omega)
    rw [w2]
    have hop : ∀ r, RnS l T N (tkE T N p) (37 :: S) 0 0 P r → RnS l T N p S 0 0 P r := fun r hr => rs_open (by omega) (by omega) (by omega) (by rw [if_neg (by omega), if_neg (by omega), hk2]; exact hr)
    refine hR (by omega) n _ M1 (tkE T N p) P (37 :: S) 0 0 s h1 (by rw [f1.2 15 (by omega)]; exact h15) hP0 (by omega) hfr hty (by omega) (by rw [dpT_in (by omega)]; omega) ⟨rfl, rfl, (by show rkT 37 < 1; decide), (by rw [cnT_op (by omega)]; exact hrd), hl2⟩ (fun M2 p2 P2 st2 cm2 f2 h2 lt2 n2 c2 t2 r2 g2 => ?_) (fun M2 k a f2 b2 r2 => ?_)
    · obtain ⟨g3, g4, g5⟩ := g2
      have hN2 := h2.nx
      have s37 := cnT_in (k := 37) (S := S)
      have s35 : cnT 35 (37 :: S) = 0 := by rw [cnT_op (by omega)]; exact hrd
      refine s_eats 38 h2 (fun hc M3 f3 h3 => io1 ?_) (fun hc => iz1 ?_)
      · have hlt2 := hN2.2 (by omega)
        refine q1 M3 (tkE T N p2) P2 3 cm2 ((f1.trans f2).trans f3) h3 (by omega) n2 (by omega) t2 (fun r hr => hop r (r2 r (rs_close (qoU_st g3).1 ?_ (Or.inr hc) ?_))) (Or.inl rfl)
        · exact fit_do hc s35 (qoU_st g3).2 (by rw [cnT_in]; exact Nat.succ_pos _)
        · rw [poT_top (show tpT (37 :: S) < 1 by show rkT 37 < 1; decide), if_neg (by omega)]
          exact hr
      · refine s_fails 2 (by decide) h2 (fun M3 k a f3 b3 e3 => q2 M3 k a ((f1.trans f2).trans f3) b3 (e3 ▸ hop _ (r2 _ (rs_unfit (qoU_st g3).1 ?_))))
        exact unf_sq hl2 s35 (by rw [cnT_in]; exact Nat.succ_pos _) g3 g4 g5 hc
    · exact w_eats 38 b2.ne (iz1 (w_fails 2 b2.ne (q2 M2 k a (f1.trans f2) b2 (hop _ r2))))
  · -- compared
    refine hS n _ M p P S 0 0 s h h15 hP0 hPp hfr hty (by omega) hdp ⟨⟨by omega, fun _ => ⟨hk2, hk⟩⟩, by omega⟩ (fun M1 p1 P1 st1 cm1 f1 h1 lt1 n1 c1 t1 r1 g1 => ?_) (fun M1 k a f1 b1 r1 => ?_)
    · obtain ⟨e1, e2, g2, g3, g4⟩ := g1
      subst e1 e2
      have hN1 := h1.nx
      have hn1 := n1.1
      have go : ∀ (o : Nat) (x : Int), (o = 39 ∧ x = 3003) ∨ (o = 40 ∧ x = 3004) ∨ (o = 41 ∧ x = 3005) → tkK T N p1 = o → CR (d + 6) 190 [(2, 1)] M1 n (fun _ M2 => CR (d + 6) 201 [(2, 1), (0, (deep : Int))] M2 n (fun _ M3 => CR (d + 6) 197 [(2, 1), (0, x)] M3 n (fun _ M4 => Φ 0 M4))) := by
        intro o x hox ho
        have hrk : rkT o = 4 ∧ opT o = x := by rcases hox with ⟨e1, e2⟩ | ⟨e1, e2⟩ | ⟨e1, e2⟩ <;> subst e1 e2 <;> exact ⟨by decide, rfl⟩
        refine s_next h1 (fun M2 f2 h2 => ?_)
        have hlt := hN1.2 (by omega)
        have hop : ∀ r, RnS l T N (tkE T N p1) (o :: S) 1 1 P1 r → RnS l T N p S 0 0 P r := fun r hr => r1 r (rs_op (Nat.le_refl 2) (fit_cm (by omega) hrd hl2) (by rw [ho, hrk.1]; decide) (by rw [ho, hrk.1]; exact htp) (by rw [ho, if_neg (by omega), if_neg (by omega), if_pos (by omega)]; exact hr))
        refine hS n _ M2 (tkE T N p1) P1 (o :: S) 1 1 (false :: s) h2 (by rw [f2.2 15 (by omega), f1.2 15 (by omega)]; exact h15) (by omega) (by omega) (by omega) t1 (by rw [List.length_cons]; omega) (by rw [dpT_op (by omega) (by omega) (by omega)]; exact hdp) ⟨⟨by omega, fun z => by omega⟩, (by show rkT o < 5; omega)⟩ (fun M3 p3 P3 st3 cm3 f3 h3 lt3 n3 c3 t3 r3 k3 => ?_) (fun M3 k a f3 b3 r3 => ?_)
        · obtain ⟨e1, e2, k4, k5, k6⟩ := k3
          subst e1 e2
          have hn3 := n3.1
          have h3le := h3.le
          refine s_codes x h3 ⟨by omega, by omega⟩ (fun M4 f4 h4 => q1 M4 p3 _ 2 1 (((f1.trans f2).trans f3).trans f4) h4 (by omega) ((n1.trans n3).ad hP0) (by rw [adC_n]; omega) (tyP_1 (by omega) (by omega) t3 (ty_cmp (by omega))) (fun r hr => hop r (r3 r (rs_norm (Nat.le_refl 2) (by omega) (fun _ => by rw [hrk.1]; exact rk_S.2 k4 k5 k6) (by rw [hrk.2]; exact hr)))) (Or.inr ⟨rfl, rfl, k5, k6, k4⟩))
        · exact w_codes x b3.ne (q2 M3 k a ((f1.trans f2).trans f3) b3 (hop _ r3))
      refine s_is 39 h1 (fun ho => io0 ?_) (fun ho => iz0 (s_is 40 h1 (fun ho2 => io0 ?_) (fun ho2 => iz0 ?_)))
      · exact s_is 39 h1 (fun ho => io1 (go 39 3003 (by omega) ho)) (fun z => absurd ho z)
      · exact s_is 39 h1 (fun z => absurd z ho) (fun _ => iz1 (s_is 40 h1 (fun _ => io1 (go 40 3004 (by omega) ho2)) (fun z => absurd ho2 z)))
      · refine s_is 39 h1 (fun z => absurd z ho) (fun _ => iz1 (s_is 40 h1 (fun z => absurd z ho2) (fun _ => iz1 (s_is 41 h1 (fun ho3 => io0 (go 41 3005 (by omega) ho3)) (fun ho3 => iz0 ?_)))))
        refine s_fails 2 (by decide) h1 (fun M2 k a f2 b2 e2 => ?_)
        refine w_sum _ b2.ne (w_codes 3005 b2.ne (q2 M2 k a (f1.trans f2) b2 (e2 ▸ r1 _ (rs_unfit (Nat.le_refl 2) (unf_un hrd hl2 g3 g4 g2 ho ho2 ho3)))))
    · have hw := b1.ne
      have hq := q2 M1 k a f1 b1 r1
      exact w_is 39 hw (iz0 (w_is 40 hw (iz0 (w_is 39 hw (iz1 (w_is 40 hw (iz1 (w_is 41 hw (iz0 (w_fails 2 hw (w_sum _ hw (w_codes 3005 hw hq)))))))))))) 
theorem x_both (hY : XR l T N fr 202 (d + 7) deep 2 true (prU l) qoU) : XR l T N fr 203 (d + 8) deep 1 true (prB l) qoB := by
  intro n Φ M p P S st cm s h h15 hP0 hPp hfr hty hsl hdp hpre q1 q2
  obtain ⟨hst, hcm, htp, hrd, hl2⟩ := hpre
  subst hst hcm
  have h9 := h.n900
  have wr : ∀ M', M' 1 11 ≠ 0 → Φ 0 M' → W12_readBoth_5 (d + 7) n Φ (deep : Int) M' := fun M' hw q => v12_readBoth_5 (w_eats 19 hw (iz0 q))
  have lp : ∀ j p1, N - p1 ≤ j → ∀ (M1 : Nat → Nat → Int) (P1 : Nat → Int) (st1 cm1 : Nat), frZ M M1 → atR M1 T N p1 P1 → p < p1 → nwC P P1 → P1 363 + (p : Int) ≤ P 363 + (p1 : Int) → tyP l fr P1 = some (true :: s) → (∀ r, RnS l T N p1 S st1 cm1 P1 r → RnS l T N p S 0 0 P r) → qoU (tkK T N p1) st1 cm1 0 → CR (d + 7) 193 [(2, 1), (0, 19)] M1 n (fun r0 M1 => (r0 = 0 → Φ 0 M1) ∧ (¬ (r0 = 0) → CR (d + 7) 202 [(2, 1), (0, (deep : Int))] M1 n (fun _ M2 => CR (d + 7) 197 [(2, 1), (0, 3007)] M2 n (fun _ M3 => W12_readBoth_5 (d + 7) n Φ (deep : Int) M3)))) := by
    intro j
    induction j with
    | zero =>
      intro p1 hj M1 P1 st1 cm1 f1 h1 lt1 n1 c1 t1 r1 g1
      have hN := h1.nx
      have hle := h1.le
      exact s_eats 19 h1 (fun hk => absurd (hN.2 (by omega)) (by omega)) (fun hk => iz0 (q1 M1 p1 P1 st1 cm1 f1 h1 lt1 n1 c1 t1 r1 ⟨g1, hk⟩))
    | succ j ih =>
      intro p1 hj M1 P1 st1 cm1 f1 h1 lt1 n1 c1 t1 r1 g1
      have hN := h1.nx
      refine s_eats 19 h1 (fun hk M2 f2 h2 => io0 ?_) (fun hk => iz0 (q1 M1 p1 P1 st1 cm1 f1 h1 lt1 n1 c1 t1 r1 ⟨g1, hk⟩))
      have hlt := hN.2 (by omega)
      have hn1 := n1.1
      have gU : qoU (tkK T N p1) st1 cm1 0 := g1
      have g2 := qoU_st gU
      have hop : ∀ r, RnS l T N (tkE T N p1) (19 :: S) 0 0 P1 r → RnS l T N p S 0 0 P r := fun r hr => r1 r (rs_op g2.1 (fit_bo (by omega) hrd g2.2) (by rw [hk]; decide) (by rw [hk]; exact htp) (by rw [hk]; exact hr))
      refine hY n _ M2 (tkE T N p1) P1 (19 :: S) 0 0 (true :: s) h2 (by rw [f2.2 15 (by omega), f1.2 15 (by omega)]; exact h15) (by omega) (by omega) (by omega) t1 (by rw [List.length_cons]; omega) (by rw [dpT_op (by omega) (by omega) (by omega)]; exact hdp) ⟨rfl, rfl, (by show rkT 19 < 4; decide), (by rw [cnT_op (by omega)]; exact hrd), hl2⟩ (fun M3 p3 P3 st3 cm3 f3 h3 lt3 n3 c3 t3 r3 g3 => ?_) (fun M3 k a f3 b3 r3 => ?_)
      · have hn3 := n3.1
        have h3le := h3.le
        have gU3 : qoU (tkK T N p3) st3 cm3 0 := g3
        have g4 := (qoU_st gU3).1
        refine s_codes 3007 h3 ⟨by omega, by omega⟩ (fun M4 f4 h4 => v12_readBoth_5 (ih p3 (by omega) M4 _ st3 cm3 (((f1.trans f2).trans f3).trans f4) h4 (by omega) ((n1.trans n3).ad hP0) (by rw [adC_n]; omega) (tyP_1 (by omega) (by omega) t3 (ty_bool (by omega))) (fun r hr => hop r (r3 r (rs_norm g4 (by decide) (fun hf => (rk_U (fit_U gU3 hrd hf)).1) hr))) g3))
      · exact w_codes 3007 b3.ne (wr M3 b3.ne (q2 M3 k a ((f1.trans f2).trans f3) b3 (hop _ r3)))
  refine e12_readBoth (hY n _ M p P S 0 0 s h h15 hP0 hPp hfr hty (by omega) hdp ⟨rfl, rfl, by omega, hrd, hl2⟩ (fun M1 p1 P1 st1 cm1 f1 h1 lt1 n1 c1 t1 r1 g1 => ?_) (fun M1 k a f1 b1 r1 => w_eats 19 b1.ne (iz0 (q2 M1 k a f1 b1 r1))))
  exact lp (N - p1) p1 (Nat.le_refl _) M1 P1 st1 cm1 f1 h1 lt1 n1 c1 t1 r1 g1
theorem x_truth (hY : XR l T N fr 203 (d + 8) deep 1 true (prB l) qoB) : XR l T N fr 204 (d + 9) deep 0 true (prR l) qoR := by
  intro n Φ M p P S st cm s h h15 hP0 hPp hfr hty hsl hdp hpre q1 q2
  obtain ⟨hst, hcm, htp, hrd, hl2⟩ := hpre
  subst hst hcm
  have h9 := h.n900
  have wr : ∀ M', M' 1 11 ≠ 0 → Φ 0 M' → W12_readTruth_5 (d + 8) n Φ (deep : Int) M' := fun M' hw q => v12_readTruth_5 (w_eats 20 hw (iz0 q))
  have lp : ∀ j p1, N - p1 ≤ j → ∀ (M1 : Nat → Nat → Int) (P1 : Nat → Int) (st1 cm1 : Nat), frZ M M1 → atR M1 T N p1 P1 → p < p1 → nwC P P1 → P1 363 + (p : Int) ≤ P 363 + (p1 : Int) → tyP l fr P1 = some (true :: s) → (∀ r, RnS l T N p1 S st1 cm1 P1 r → RnS l T N p S 0 0 P r) → qoB (tkK T N p1) st1 cm1 0 → CR (d + 8) 193 [(2, 1), (0, 20)] M1 n (fun r0 M1 => (r0 = 0 → Φ 0 M1) ∧ (¬ (r0 = 0) → CR (d + 8) 203 [(2, 1), (0, (deep : Int))] M1 n (fun _ M2 => CR (d + 8) 197 [(2, 1), (0, 3008)] M2 n (fun _ M3 => W12_readTruth_5 (d + 8) n Φ (deep : Int) M3)))) := by
    intro j
    induction j with
    | zero =>
      intro p1 hj M1 P1 st1 cm1 f1 h1 lt1 n1 c1 t1 r1 g1
      have hN := h1.nx
      have hle := h1.le
      exact s_eats 20 h1 (fun hk => absurd (hN.2 (by omega)) (by omega)) (fun hk => iz0 (q1 M1 p1 P1 st1 cm1 f1 h1 lt1 n1 c1 t1 r1 ⟨g1.1, g1.2, hk⟩))
    | succ j ih =>
      intro p1 hj M1 P1 st1 cm1 f1 h1 lt1 n1 c1 t1 r1 g1
      have hN := h1.nx
      refine s_eats 20 h1 (fun hk M2 f2 h2 => io0 ?_) (fun hk => iz0 (q1 M1 p1 P1 st1 cm1 f1 h1 lt1 n1 c1 t1 r1 ⟨g1.1, g1.2, hk⟩))
      have hlt := hN.2 (by omega)
      have hn1 := n1.1
      have gU : qoU (tkK T N p1) st1 cm1 0 := g1.1
      have g2 := qoU_st gU
      have hop : ∀ r, RnS l T N (tkE T N p1) (20 :: S) 0 0 P1 r → RnS l T N p S 0 0 P r := fun r hr => r1 r (rs_op g2.1 (fit_bo (by omega) hrd g2.2) (by rw [hk]; decide) (by rw [hk]; exact htp) (by rw [hk]; exact hr))
      refine hY n _ M2 (tkE T N p1) P1 (20 :: S) 0 0 (true :: s) h2 (by rw [f2.2 15 (by omega), f1.2 15 (by omega)]; exact h15) (by omega) (by omega) (by omega) t1 (by rw [List.length_cons]; omega) (by rw [dpT_op (by omega) (by omega) (by omega)]; exact hdp) ⟨rfl, rfl, (by show rkT 20 < 2; decide), (by rw [cnT_op (by omega)]; exact hrd), hl2⟩ (fun M3 p3 P3 st3 cm3 f3 h3 lt3 n3 c3 t3 r3 g3 => ?_) (fun M3 k a f3 b3 r3 => ?_)
      · have hn3 := n3.1
        have h3le := h3.le
        have gU3 : qoU (tkK T N p3) st3 cm3 0 := g3.1
        have g4 := (qoU_st gU3).1
        refine s_codes 3008 h3 ⟨by omega, by omega⟩ (fun M4 f4 h4 => v12_readTruth_5 (ih p3 (by omega) M4 _ st3 cm3 (((f1.trans f2).trans f3).trans f4) h4 (by omega) ((n1.trans n3).ad hP0) (by rw [adC_n]; omega) (tyP_1 (by omega) (by omega) t3 (ty_bool (by omega))) (fun r hr => hop r (r3 r (rs_norm g4 (by decide) (fun hf => (rk_U (fit_U gU3 hrd hf)).2 g3.2) hr))) g3))
      · exact w_codes 3008 b3.ne (wr M3 b3.ne (q2 M3 k a ((f1.trans f2).trans f3) b3 (hop _ r3)))
  refine e12_readTruth (hY n _ M p P S 0 0 s h h15 hP0 hPp hfr hty (by omega) hdp ⟨rfl, rfl, by omega, hrd, hl2⟩ (fun M1 p1 P1 st1 cm1 f1 h1 lt1 n1 c1 t1 r1 g1 => ?_) (fun M1 k a f1 b1 r1 => w_eats 20 b1.ne (iz0 (q2 M1 k a f1 b1 r1))))
  exact lp (N - p1) p1 (Nat.le_refl _) M1 P1 st1 cm1 f1 h1 lt1 n1 c1 t1 r1 g1
/-- all of them, by how much deeper one may still go -/
theorem x_all (hl : l < 3) : ∀ j, j ≤ 6 → (∀ d, XR l T N fr 201 (d + 3 * j + 6) (6 - j) 3 false prS qoS) ∧ (∀ d, XR l T N fr 202 (d + 3 * j + 7) (6 - j) 2 true (prU l) qoU) ∧ (∀ d, XR l T N fr 204 (d + 3 * j + 9) (6 - j) 0 true (prR l) qoR) := by
  intro j
  induction j with
  | zero =>
    intro _
    have hS : ∀ d, XR l T N fr 201 (d + 6) 6 3 false prS qoS := fun d => x_sum (x_term (x_atom hl (Nat.le_refl _) (fun z => absurd z (by omega))))
    have hU : ∀ d, XR l T N fr 202 (d + 7) 6 2 true (prU l) qoU := fun d => x_unit (Nat.le_refl _) (hS d) (fun z => absurd z (by omega)) (fun z => absurd z (by omega))
    exact ⟨hS, hU, fun d => x_truth (x_both (hU d))⟩
  | succ j ih =>
    intro hj
    obtain ⟨i1, i2, i3⟩ := ih (by omega)
    have e : 6 - (j + 1) + 1 = 6 - j := by omega
    have hS : ∀ d, XR l T N fr 201 (d + 3 * (j + 1) + 6) (6 - (j + 1)) 3 false prS qoS := by
      intro d
      rw [show d + 3 * (j + 1) + 6 = (d + 3 * j + 3) + 6 by omega]
      refine x_sum (x_term (x_atom hl (by omega) (fun _ => ?_)))
      rw [e, show d + 3 * j + 3 + 3 = d + 3 * j + 6 by omega]
      exact i1 d
    have hU : ∀ d, XR l T N fr 202 (d + 3 * (j + 1) + 7) (6 - (j + 1)) 2 true (prU l) qoU := by
      intro d
      have z := hS d
      rw [show d + 3 * (j + 1) + 7 = (d + 3 * j + 3) + 7 by omega]
      rw [show d + 3 * (j + 1) + 6 = (d + 3 * j + 3) + 6 by omega] at z
      refine x_unit (by omega) z (fun _ => ?_) (fun _ => ?_)
      · rw [e, show d + 3 * j + 3 + 6 = (d + 2) + 3 * j + 7 by omega]
        exact i2 (d + 2)
      · rw [e, show d + 3 * j + 3 + 6 = d + 3 * j + 9 by omega]
        exact i3 d
    refine ⟨hS, hU, fun d => ?_⟩
    have z := hU d
    rw [show d + 3 * (j + 1) + 9 = (d + 3 * j + 3) + 9 by omega]
    rw [show d + 3 * (j + 1) + 7 = (d + 3 * j + 3) + 7 by omega] at z
    exact x_truth (x_both z)
theorem x_sum0 (hl : l < 3) : XR l T N fr 201 (d + 24) 0 3 false prS qoS := ((x_all hl 6 (Nat.le_refl _)).1 d)
theorem x_truth0 (hl : l < 3) : XR l T N fr 204 (d + 27) 0 0 true (prR l) qoR := ((x_all hl 6 (Nat.le_refl _)).2.2 d)
end
