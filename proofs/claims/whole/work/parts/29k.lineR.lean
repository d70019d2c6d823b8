/-! ===== the lines of a text, the text: the reference ===== -/
/-- what is owed behind a line -/
def tlR (d : Nat) (n : Nat × Nat) (Φ : Int → (Nat → Nat → Int) → Prop) (M : Nat → Nat → Int) : Prop := ((M 1 11) ≠ 0 → (((sI M 1 13 (M 1 11)) 1 11) ≠ 0 → (((sI (sI M 1 13 (M 1 11)) 1 14 ((sI M 1 13 (M 1 11)) 1 12)) 1 11) = 0 → W12_line_180 d n Φ 0 (sI (sI M 1 13 (M 1 11)) 1 14 ((sI M 1 13 (M 1 11)) 1 12))) ∧ (¬ (((sI (sI M 1 13 (M 1 11)) 1 14 ((sI M 1 13 (M 1 11)) 1 12)) 1 11) = 0) → Φ (w32 ((-30) - ((sI (sI M 1 13 (M 1 11)) 1 14 ((sI M 1 13 (M 1 11)) 1 12)) 1 11))) (sI (sI M 1 13 (M 1 11)) 1 14 ((sI M 1 13 (M 1 11)) 1 12)))) ∧ (¬ (((sI M 1 13 (M 1 11)) 1 11) ≠ 0) → (((sI (sI M 1 13 (M 1 11)) 1 14 (-1)) 1 11) = 0 → W12_line_180 d n Φ 0 (sI (sI M 1 13 (M 1 11)) 1 14 (-1))) ∧ (¬ (((sI (sI M 1 13 (M 1 11)) 1 14 (-1)) 1 11) = 0) → Φ (w32 ((-30) - ((sI (sI M 1 13 (M 1 11)) 1 14 (-1)) 1 11))) (sI (sI M 1 13 (M 1 11)) 1 14 (-1))))) ∧ (¬ ((M 1 11) ≠ 0) → ((M 1 9) = 24 → (((sI M 1 13 (M 1 11)) 1 11) ≠ 0 → (((sI (sI M 1 13 (M 1 11)) 1 14 ((sI M 1 13 (M 1 11)) 1 12)) 1 11) = 0 → W12_line_180 d n Φ 0 (sI (sI M 1 13 (M 1 11)) 1 14 ((sI M 1 13 (M 1 11)) 1 12))) ∧ (¬ (((sI (sI M 1 13 (M 1 11)) 1 14 ((sI M 1 13 (M 1 11)) 1 12)) 1 11) = 0) → Φ (w32 ((-30) - ((sI (sI M 1 13 (M 1 11)) 1 14 ((sI M 1 13 (M 1 11)) 1 12)) 1 11))) (sI (sI M 1 13 (M 1 11)) 1 14 ((sI M 1 13 (M 1 11)) 1 12)))) ∧ (¬ (((sI M 1 13 (M 1 11)) 1 11) ≠ 0) → (((sI (sI M 1 13 (M 1 11)) 1 14 (-1)) 1 11) = 0 → W12_line_180 d n Φ 0 (sI (sI M 1 13 (M 1 11)) 1 14 (-1))) ∧ (¬ (((sI (sI M 1 13 (M 1 11)) 1 14 (-1)) 1 11) = 0) → Φ (w32 ((-30) - ((sI (sI M 1 13 (M 1 11)) 1 14 (-1)) 1 11))) (sI (sI M 1 13 (M 1 11)) 1 14 (-1))))) ∧ (¬ ((M 1 9) = 24) → CR d 210 [(2, 1)] M n (fun _ M1 => CR d 211 [(2, 1)] M1 n (fun _ M2 => W12_line_109 d n Φ  M2))))
/-- the rows below 1264 of a new text -/
def txP (P0 P : Nat → Int) : Nat → Int := fun j => if j < 1264 then P j else P0 j
def plK (P : Nat → Int) (k : Nat) : Nat → Int := fun j => if j < k then 0 else P j
section
variable {d : Nat} {n : Nat × Nat} {Φ : Int → (Nat → Nat → Int) → Prop} {M : Nat → Nat → Int} {T : Nat → Int} {N p : Nat} {P : Nat → Int}
theorem tl_bad {k : Int} {a : Nat} (b : badR M k a) (q : Φ (w32 (-30 - k)) (sI (sI M 1 13 k) 1 14 (a : Int))) : tlR d n Φ M := by
  have hw := b.ne
  have e1 := b.1
  have e2 := b.2.2
  have h1 : (sI M 1 13 (M 1 11)) 1 11 = k := by rw [sI_ne (by omega)]; exact e1
  have h2 : (sI M 1 13 (M 1 11)) 1 12 = (a : Int) := by rw [sI_ne (by omega)]; exact e2
  have h3 : (sI (sI M 1 13 (M 1 11)) 1 14 ((sI M 1 13 (M 1 11)) 1 12)) 1 11 = k := by rw [sI_ne (by omega)]; exact h1
  refine ⟨fun _ => ⟨fun _ => ⟨fun z => absurd (h3.symm.trans z) b.2.1, fun _ => ?_⟩, fun z => absurd (by rw [h1]; exact b.2.1) z⟩, fun z => absurd hw z⟩
  rw [h3, h2, e1]
  exact q
theorem tl_end (h : atR M T N p P) (h24 : tkK T N p = 24) (q : W12_line_180 d n Φ 0 (sI (sI M 1 13 0) 1 14 (-1))) : tlR d n Φ M := by
  have h1 : (sI M 1 13 (M 1 11)) 1 11 = 0 := by rw [sI_ne (by omega)]; exact h.w0
  have h3 : (sI (sI M 1 13 (M 1 11)) 1 14 (-1)) 1 11 = 0 := by rw [sI_ne (by omega)]; exact h1
  refine ⟨fun z => absurd h.w0 z, fun _ => ⟨fun _ => ⟨fun z => absurd h1 z, fun _ => ⟨fun _ => ?_, fun z => absurd h3 z⟩⟩, fun z => absurd (by rw [h.kd]; omega) z⟩⟩
  rw [h.w0]
  exact q
theorem tl_go (h : atR M T N p P) (h24 : tkK T N p ≠ 24) (q : CR d 210 [(2, 1)] M n (fun _ M1 => CR d 211 [(2, 1)] M1 n (fun _ M2 => W12_line_109 d n Φ M2))) : tlR d n Φ M :=
  ⟨fun z => absurd h.w0 z, fun _ => ⟨fun z => absurd (by rw [h.kd] at z; omega) h24, fun _ => q⟩⟩
theorem tl_all : ∀ (j : Nat) (p : Nat) (M : Nat → Nat → Int) (P : Nat → Int), N - p ≤ j → atR M T N p P → okD p P → (∀ (M' : Nat → Nat → Int) (p' : Nat) (P' : Nat → Int), frL M M' → atR M' T N p' P' → okD p' P' → LsS T N p P (.inl (p', P')) → W12_line_180 (d + 29) n Φ 0 (sI (sI M' 1 13 0) 1 14 (-1))) → (∀ (M' : Nat → Nat → Int) (k : Int) (a : Nat), frL M M' → badR M' k a → LsS T N p P (.inr (k, a)) → Φ (w32 (-30 - k)) (sI (sI M' 1 13 k) 1 14 (a : Int))) → tlR (d + 29) n Φ M := by
  intro j
  induction j with
  | zero =>
    intro p M P hj h ok q1 q0
    have hp := h.le
    have e : tkK T N p = 24 := by
      apply Classical.byContradiction
      intro z
      have := h.nx.2 z
      have := h.nx.1
      omega
    exact tl_end h e (q1 M p P (frL.refl M) h ok (ls_end e))
  | succ j ih =>
    intro p M P hj h ok q1 q0
    by_cases e : tkK T N p = 24
    · exact tl_end h e (q1 M p P (frL.refl M) h ok (ls_end e))
    · refine tl_go h e (s_lineE h ok (fun M1 p1 P1 f1 a1 hp o1 e1 => v12_line_109 (ih p1 M1 P1 (by omega) a1 o1 (fun M' p' P' f' a' o' e' => q1 M' p' P' (f1.trans f') a' o' (ls_go e e1 o1 hp a1.le e')) (fun M' k a f' b' e' => q0 M' k a (f1.trans f') b' (ls_go e e1 o1 hp a1.le e')))) (fun M1 k a f1 b1 e1 => v12_line_109 (tl_bad b1 (q0 M1 k a f1 b1 (ls_bad e e1)))))
theorem s_copy (P0 : Nat → Int) (hP : M 2 = P0) (q : ∀ M', (∀ c, c ≠ 2 → M' c = M c) → M' 2 = txP P0 (M 5) → Φ (M 5 0) M') : W12_line_180 d n Φ 0 M := by
  have key : ∀ k, k ≤ 1264 → ∀ (M' : Nat → Nat → Int), (∀ a, a ≠ 2 → M' a = M a) → M' 2 = (fun j => if j < k then M 5 j else P0 j) → W12_line_180 d n Φ (k : Nat) M' := by
    refine up (fun M' k1 k2 => ?_) (fun k hk ih M' k1 k2 => ?_)
    · refine v12_line_180 ⟨fun _ => ?_, fun c => absurd (by omega) c⟩
      have e : M' 2 0 = M 5 0 := by rw [k2]; rfl
      rw [e]
      exact q M' k1 k2
    · apply v12_line_180
      rw [w32_s (k := k) (by omega), Int.toNat_natCast, k1 5 (by omega)]
      refine ⟨fun c => absurd c (by omega), fun _ => ⟨⟨by omega, by omega⟩, ⟨by omega, by omega, trivial⟩, ih _ (fun a ha => (sI_row ha).trans (k1 a ha)) ?_⟩⟩
      rw [sI_p, k2]
      funext j
      by_cases c : j = k
      · rw [c, pset_eq, if_pos (by omega)]
      · rw [pset_ne c]
        by_cases c2 : j < k
        · rw [if_pos c2, if_pos (by omega)]
        · rw [if_neg c2, if_neg (by omega)]
  refine key 0 (Nat.zero_le _) M (fun _ _ => rfl) ?_
  rw [hP]
  funext j
  rw [if_neg (by omega)]
theorem s_plain (q : ∀ M', (∀ c, c ≠ 5 → M' c = M c) → empP (M' 5) → Φ 0 M') : CR (d + 1) 184 [(2, 5)] M n Φ := by
  have key : ∀ k, k ≤ 1264 → ∀ (M' : Nat → Nat → Int), (∀ a, a ≠ 5 → M' a = M a) → (∀ j, j < k → M' 5 j = 0) → W12_plainF_2 d n Φ (k : Nat) M' := by
    refine up (fun M' k1 k2 => ?_) (fun k hk ih M' k1 k2 => ?_)
    · refine v12_plainF_2 ⟨fun _ => ?_, fun c => absurd (by omega) c⟩
      refine q _ (fun c hc => by rw [sI_row hc, sI_row hc]; exact k1 c hc) (fun j h1 h2 h3 => ?_)
      rw [sI_ne h3, sI_ne h2]
      exact k2 j h1
    · apply v12_plainF_2
      rw [w32_s (k := k) (by omega), Int.toNat_natCast]
      refine ⟨fun c => absurd c (by omega), fun _ => ⟨⟨by omega, by omega, trivial⟩, ih _ (fun a ha => (sI_row ha).trans (k1 a ha)) (fun j hj => ?_)⟩⟩
      by_cases c : j = k
      · rw [c, sI_same]
      · rw [sI_ne c]; exact k2 j (by omega)
  exact e12_plainF (key 0 (Nat.zero_le _) M (fun _ _ => rfl) (fun j hj => absurd hj (by omega)))
/-- what is left of the reference when a line was read -/
def KL (M M' : Nat → Nat → Int) : Prop := (∀ a, a = 3 ∨ a = 4 ∨ (20 ≤ a ∧ a ≤ 22) → M' a = M a) ∧ M' 1 5 = 0
theorem r_line (x : Int) (L : Nat) (h5 : M 1 5 = (L : Int)) (hL : L ≤ 900) (hT : ∀ k, k < 900 → M 4 k = T k) (hP : M 2 = P) (q3 : ¬ (0 ≤ x ∧ x ≤ L) → ∀ (M' : Nat → Nat → Int), KR M M' → M' 2 = P → Φ (-3) M') (q1 : (0 ≤ x ∧ x ≤ L) → ∀ (M' : Nat → Nat → Int) (E : Nat → Int) (p' : Nat) (P' : Nat → Int), KL M M' → empP E → Txt T x.toNat E (.inl (p', P')) → okP P' → M' 1 13 = 0 → M' 1 14 = -1 → M' 2 = txP P P' → Φ (P' 0) M') (q0 : (0 ≤ x ∧ x ≤ L) → ∀ (M' : Nat → Nat → Int) (E : Nat → Int) (k : Int) (a : Nat), KL M M' → empP E → Txt T x.toNat E (.inr (k, a)) → M' 1 13 = k → M' 1 14 = (a : Int) → M' 2 = P → Φ (w32 (-30 - k)) M') : CR (d + 30) 212 [(2, 1), (0, x)] M n Φ := by
  have r5 : (sI M 1 0 0) 1 5 = (L : Int) := by rw [sI_ne (by omega)]; exact h5
  refine e12_line ?_
  rw [r5]
  refine sp_within _ _ _ (br' (fun e => ?_) (fun e => ?_))
  · have e := of_decide_eq_true e
    obtain ⟨N, hN⟩ : ∃ N : Nat, x = (N : Int) := ⟨x.toNat, by omega⟩
    subst hN
    have q1 := q1 e
    have q0 := q0 e
    rw [Int.toNat_natCast] at q1 q0
    refine s_plain (fun M2 k2 hE => ?_)
    have t1 : ∀ k, k ≠ 0 → k ≠ 5 → k ≠ 7 → k ≠ 8 → k ≠ 11 → M2 1 k = M 1 k := by
      intro k a0 a5 a7 a8 a11
      rw [k2 1 (by omega), sI_ne a11, sI_ne a7, sI_ne a5, sI_ne a8, sI_ne a0]
    have t5 : M2 1 5 = 0 := by rw [k2 1 (by omega), sI_ne (by omega), sI_ne (by omega), sI_same]
    have t7 : M2 1 7 = ((0 : Nat) : Int) := by rw [k2 1 (by omega), sI_ne (by omega), sI_same]; rfl
    have t8 : M2 1 8 = (N : Int) := by rw [k2 1 (by omega), sI_ne (by omega), sI_ne (by omega), sI_ne (by omega), sI_same]
    have t11 : M2 1 11 = 0 := by rw [k2 1 (by omega), sI_same]
    have tr : ∀ c, c ≠ 1 → c ≠ 5 → M2 c = M c := by
      intro c c1 c5
      rw [k2 c c5, sI_row c1, sI_row c1, sI_row c1, sI_row c1, sI_row c1]
    have tp : tapR M2 T N := ⟨t8, by omega, fun k hk => by rw [tr 4 (by omega) (by omega)]; exact hT k hk⟩
    have fin1 : ∀ (M' : Nat → Nat → Int) (p' : Nat) (P' : Nat → Int), frL M2 M' → atR M' T N p' P' → okD p' P' → Txt T N (M2 5) (.inl (p', P')) → W12_line_180 (d + 29) n Φ 0 (sI (sI M' 1 13 0) 1 14 (-1)) := by
      intro M' p' P' f a o t
      have e5 : (sI (sI M' 1 13 0) 1 14 (-1)) 5 = P' := by rw [sI_row (by omega), sI_row (by omega)]; exact a.row
      refine s_copy P (by rw [sI_row (by omega), sI_row (by omega), f.1 2 (by omega) (by omega), tr 2 (by omega) (by omega)]; exact hP) (fun M4 k4 h4 => ?_)
      rw [e5] at h4 ⊢
      refine q1 M4 (M2 5) p' P' ⟨fun c hc => ?_, ?_⟩ hE t o.1 ?_ ?_ h4
      · rw [k4 c (by omega), sI_row (by omega), sI_row (by omega), f.1 c (by omega) (by omega), tr c (by omega) (by omega)]
      · rw [k4 1 (by omega), sI_ne (by omega), sI_ne (by omega), f.2 5 (by omega), t5]
      · rw [k4 1 (by omega), sI_ne (by omega), sI_same]
      · rw [k4 1 (by omega), sI_same]
    have fin0 : ∀ (M' : Nat → Nat → Int) (k : Int) (a : Nat), frL M2 M' → badR M' k a → Txt T N (M2 5) (.inr (k, a)) → Φ (w32 (-30 - k)) (sI (sI M' 1 13 k) 1 14 (a : Int)) := by
      intro M' k a f b t
      refine q0 _ (M2 5) k a ⟨fun c hc => ?_, ?_⟩ hE t ?_ ?_ ?_
      · rw [sI_row (by omega), sI_row (by omega), f.1 c (by omega) (by omega), tr c (by omega) (by omega)]
      · rw [sI_ne (by omega), sI_ne (by omega), f.2 5 (by omega), t5]
      · rw [sI_ne (by omega), sI_same]
      · rw [sI_same]
      · rw [sI_row (by omega), sI_row (by omega), f.1 2 (by omega) (by omega), tr 2 (by omega) (by omega)]; exact hP
    refine sp_next 0 tp t7 (Nat.zero_le _) (fun M3 f3 b1 b2 b3 b4 => ?_)
    have a3 : atR M3 T N 0 (M2 5) := ⟨tp.fr f3, Nat.zero_le _, b1, b2, b3, b4, (f3.2 11 (by omega) (by omega) (by omega) (by omega)).trans t11, f3.1 5 (by omega)⟩
    have F3 : frL M2 M3 := frL.ofZ (frZ.ofX f3)
    have TB : ∀ {k : Int} {a : Nat}, hdT T N (M2 5) = .inr (k, a) → Txt T N (M2 5) (.inr (k, a)) := by
      intro k a z
      unfold Txt
      rw [z]
    refine s_eats 0 a3 (fun e0 M4 f4 a4 => io1 ?_) (fun e0 => iz1 ?_)
    · refine s_takes 2 8 a4 (fun u1 u2 u3 M5 f5 a5 => ?_) (fun M5 x k a f5 b rr ng => ?_)
      · have a6 := a5.set 1 (tkV T N (tkE T N 0))
        refine s_eats 1 a6 (fun e1 M7 f7 a7 => io1 ?_) (fun e1 => iz1 ?_)
        · have F7 : frL M2 M7 := (((F3.z f4).z f5).five).z f7
          refine s_takes 2 8 a7 (fun v1 v2 v3 M8 f8 a8 => ?_) (fun M8 x k a f8 b rr ng => ?_)
          · have a9 := a8.set 2 (tkV T N (tkE T N (tkE T N (tkE T N 0))))
            have F9 := (F7.z f8).five (k := 2) (x := tkV T N (tkE T N (tkE T N (tkE T N 0))))
            have eh := ((expC_t e0).trans ((numC_t ⟨u1, u2, u3⟩).trans ((expC_t e1).trans (numC_t ⟨v1, v2, v3⟩))) : hdT T N (M2 5) = _)
            refine s_ends (d := d + 25) a9 (fun e2 M' f' a' => ?_) (fun e2 M' k a f' b' rr => ?_)
            · have g := a9.nx.2 (by omega)
              have okh : okP (pset (pset (M2 5) 1 (tkV T N (tkE T N 0))) 2 (tkV T N (tkE T N (tkE T N (tkE T N 0))))) := okP.head hE ⟨u2, u3⟩ ⟨v2, v3⟩
              have o' : okD (tkE T N (tkE T N (tkE T N (tkE T N (tkE T N 0))))) (pset (pset (pset (M2 5) 1 (tkV T N (tkE T N 0))) 2 (tkV T N (tkE T N (tkE T N (tkE T N 0))))) 0 (w32 ((pset (pset (M2 5) 1 (tkV T N (tkE T N 0))) 2 (tkV T N (tkE T N (tkE T N (tkE T N 0))))) 0 + 1))) := by
                refine ⟨okh.lined, ?_⟩
                rw [pset_ne (by omega), pset_ne (by omega), pset_ne (by omega), hE 363 (by omega) (by omega) (by omega)]
                omega
              have TT : ∀ r, LsS T N (tkE T N (tkE T N (tkE T N (tkE T N (tkE T N 0))))) (pset (pset (pset (M2 5) 1 (tkV T N (tkE T N 0))) 2 (tkV T N (tkE T N (tkE T N (tkE T N 0))))) 0 (w32 ((pset (pset (M2 5) 1 (tkV T N (tkE T N 0))) 2 (tkV T N (tkE T N (tkE T N (tkE T N 0))))) 0 + 1))) r → Txt T N (M2 5) r := by
                intro r z
                unfold Txt
                have eq1 : hdT T N (M2 5) = _ := eh.trans (if_pos e2)
                rw [eq1]
                exact ⟨o', by omega, a'.le, z⟩
              exact tl_all _ _ M' _ (Nat.le_refl _) a' o' (fun M6 p6 P6 f6 a6 o6 z => fin1 M6 p6 P6 ((F9.trans f').trans f6) a6 o6 (TT _ z)) (fun M6 k a f6 b6 z => fin0 M6 k a ((F9.trans f').trans f6) b6 (TT _ z))
            · exact tl_bad b' (fin0 M' k a (F9.trans f') b' (TB ((eh.trans (if_neg e2)).trans rr.symm)))
          · have bb : badR (sI M8 5 2 x) k a := b.five
            exact w_ends (d := d + 26) bb (fun M' f' b' => tl_bad b' (fin0 M' k a (((F7.z f8).five).trans f') b' (TB (((expC_t e0).trans ((numC_t ⟨u1, u2, u3⟩).trans ((expC_t e1).trans (numC_f ng))) : hdT T N (M2 5) = _).trans rr.symm))))
        · refine s_fails 2 (by decide) a6 (fun M7 k a f7 b rr => ?_)
          have hw := b.ne
          refine w_takes _ _ hw ?_
          have bb : badR (sI M7 5 2 (M7 1 10)) k a := b.five
          exact w_ends (d := d + 26) bb (fun M' f' b' => tl_bad b' (fin0 M' k a ((((((F3.z f4).z f5).five).z f7).five).trans f') b' (TB (((expC_t e0).trans ((numC_t ⟨u1, u2, u3⟩).trans (expC_f e1)) : hdT T N (M2 5) = _).trans rr.symm))))
      · have b1 : badR (sI M5 5 1 x) k a := b.five
        have hw := b1.ne
        refine w_eats 1 hw (iz1 (w_fails 2 hw (w_takes _ _ hw ?_)))
        have bb : badR (sI (sI M5 5 1 x) 5 2 ((sI M5 5 1 x) 1 10)) k a := b1.five
        exact w_ends (d := d + 26) bb (fun M' f' b' => tl_bad b' (fin0 M' k a ((((F3.z f4).z f5).five.five).trans f') b' (TB (((expC_t e0).trans (numC_f ng) : hdT T N (M2 5) = _).trans rr.symm))))
    · refine s_fails 2 (by decide) a3 (fun M4 k a f4 b rr => ?_)
      have hw := b.ne
      refine w_takes _ _ hw ?_
      have b1 : badR (sI M4 5 1 (M4 1 10)) k a := b.five
      have hw1 := b1.ne
      refine w_eats 1 hw1 (iz1 (w_fails 2 hw1 (w_takes _ _ hw1 ?_)))
      have bb : badR (sI (sI M4 5 1 (M4 1 10)) 5 2 ((sI M4 5 1 (M4 1 10)) 1 10)) k a := b1.five
      exact w_ends (d := d + 26) bb (fun M' f' b' => tl_bad b' (fin0 M' k a (((F3.z f4).five.five).trans f') b' (TB ((expC_f e0 : hdT T N (M2 5) = _).trans rr.symm))))
  · have e := of_decide_eq_false e
    exact q3 e _ (KR.one (by omega)) ((sI_row (by omega)).trans hP)
end
