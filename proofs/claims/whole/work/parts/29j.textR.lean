/-! ===== a law, a line, a text: the reference ===== -/
theorem fit2_t {cm : Nat} : fitT 2 30 [] 2 cm = true := decide_eq_true (Or.inr (Or.inr (Or.inr (Or.inr (Or.inr ⟨rfl, Or.inl ⟨rfl, rfl, rfl⟩⟩)))))
theorem fit2_f {k : Nat} (h0 : k ≠ 30) (h1 : k ≠ 34) (h2 : k ≠ 32) (h3 : k ≠ 33) : fitT 2 k [] 2 0 = false := by
  have e1 : cnT 35 [] = 0 := rfl
  have e2 : cnT 37 [] = 0 := rfl
  unfold fitT
  rw [e1, e2]
  exact decide_eq_false (by omega)
theorem fitR_t {l st cm c : Nat} (hl : l ≠ 2) (h : qoR 30 st cm c) : fitT l 30 [] st cm = true := by
  have e1 : cnT 35 [] = 0 := rfl
  have e2 : cnT 37 [] = 0 := rfl
  obtain ⟨h1, h2, h3⟩ := h
  unfold qoU at h1
  unfold fitT
  rw [e1, e2]
  exact decide_eq_true (by omega)
theorem fitR_f {l k st cm c : Nat} (hl : l ≠ 2) (hk : k ≠ 30) (h : qoR k st cm c) : fitT l k [] st cm = false := by
  have e1 : cnT 35 [] = 0 := rfl
  have e2 : cnT 37 [] = 0 := rfl
  obtain ⟨h1, h2, h3⟩ := h
  unfold qoU at h1
  unfold fitT
  rw [e1, e2]
  exact decide_eq_false (by omega)
theorem badR.r15 {M : Nat → Nat → Int} {k : Int} {a : Nat} {x : Int} (b : badR M k a) : badR (sI M 1 15 x) k a := by
  unfold badR
  rw [sI_ne (by omega), sI_ne (by omega)]
  exact b
def LsS (T : Nat → Int) (N p : Nat) (P : Nat → Int) (r : pR) : Prop := ∃ u, Ls T N u p P r
theorem ls_end {T : Nat → Int} {N p : Nat} {P : Nat → Int} (h : tkK T N p = 24) : LsS T N p P (.inl (p, P)) := ⟨1, by rw [Ls_s, if_pos h]⟩
theorem ls_bad {T : Nat → Int} {N p : Nat} {P : Nat → Int} {e : Int × Nat} (h : tkK T N p ≠ 24) (g : LnE T N p P (.inr e)) : LsS T N p P (.inr e) := ⟨1, by rw [Ls_s, if_neg h]; exact ⟨_, g, rfl⟩⟩
theorem ls_go {T : Nat → Int} {N p p' : Nat} {P P' : Nat → Int} {r : pR} (h : tkK T N p ≠ 24) (g : LnE T N p P (.inl (p', P'))) (ok : okD p' P') (h1 : p < p') (h2 : p' ≤ N) (s : LsS T N p' P' r) : LsS T N p P r := by
  obtain ⟨u, s⟩ := s
  exact ⟨u + 1, by rw [Ls_s, if_neg h]; exact ⟨_, g, ok, h1, h2, s⟩⟩
section
variable {d : Nat} {n : Nat × Nat} {Φ : Int → (Nat → Nat → Int) → Prop} {M : Nat → Nat → Int} {T : Nat → Int} {N p : Nat} {P : Nat → Int}
theorem s_law (l : Nat) (hl : l < 3) (h : atR M T N p P) (ok : okD p P) (hk : tkK T N p ≠ 24) (q1 : ∀ (M' : Nat → Nat → Int) (p' : Nat) (P' : Nat → Int), frL M M' → atR M' T N p' P' → p < p' → okD p' P' → lawT T N l p P (.inl (p', P')) → Φ 0 M') (q2 : ∀ (M' : Nat → Nat → Int) (p' : Nat) (P' : Nat → Int), frL M M' → atR M' T N p' P' → tkK T N p' ≠ 30 → lawT T N l p P (flt T N 2 p') → Φ 0 M') (q0 : ∀ (M' : Nat → Nat → Int) (k : Int) (a : Nat), frL M M' → badR M' k a → lawT T N l p P (.inr (k, a)) → Φ 0 M') : CR (d + 28) 209 [(2, 1), (0, (l : Int))] M n Φ := by
  have g0 := h.nx.2 hk
  have hC := ok.1.nc
  have hO := ok.2
  have w1 : w32 (4 + (l : Int)) = ((4 + l : Nat) : Int) := by rw [w32_id (by omega) (by omega)]; omega
  have w2 : w32 (7 + (l : Int)) = ((7 + l : Nat) : Int) := by rw [w32_id (by omega) (by omega)]; omega
  have w3 : w32 (10 + (l : Int)) = ((10 + l : Nat) : Int) := by rw [w32_id (by omega) (by omega)]; omega
  refine e12_readLaw ?_
  rw [w1, w2, w3, Int.toNat_natCast, Int.toNat_natCast, Int.toNat_natCast]
  refine s_next h (fun M1 f1 a1 => s_eats 31 a1 (fun e M2 f2 a2 => io1 ?_) (fun e => iz1 ?_))
  · have g1 := a1.nx.2 (by omega)
    rw [a2.row]
    have fr2 : frL M (sI M2 1 15 (l : Int)) := ((frL.ofZ f1).z f2).r15
    have fin : ∀ (M3 : Nat → Nat → Int) (p3 : Nat) (P3 : Nat → Int) (st cm : Nat), frZ (sI M2 1 15 (l : Int)) M3 → atR M3 T N p3 P3 → tkE T N (tkE T N p) < p3 → nwC P P3 → P3 363 + ((tkE T N (tkE T N p) : Nat) : Int) ≤ P 363 + (p3 : Int) → tyP l (P 363).toNat P3 = some [decide (l ≠ 2)] → (∀ r, RnS l T N p3 [] st cm P3 r → RnS l T N (tkE T N (tkE T N p)) [] (if l = 2 then 1 else 0) 0 P r) → 2 ≤ st → (tkK T N p3 = 30 → fitT l 30 [] st cm = true) → (tkK T N p3 ≠ 30 → fitT l (tkK T N p3) [] st cm = false) → (M3 1 11 = 0 → (0 ≤ ((4 + l : Nat) : Int) ∧ ((4 + l : Nat) : Int) < ((1264 : Nat) : Int) ∧ True) ∧ ((0 ≤ ((7 + l : Nat) : Int) ∧ ((7 + l : Nat) : Int) < ((1264 : Nat) : Int) ∧ True) ∧ ((0 ≤ ((10 + l : Nat) : Int) ∧ ((10 + l : Nat) : Int) < ((1264 : Nat) : Int) ∧ True) ∧ (Φ 0 (sI (sI (sI M3 5 (4 + l) 1) 5 (7 + l) (P 363)) 5 (10 + l) (w32 (((sI (sI M3 5 (4 + l) 1) 5 (7 + l) (P 363)) 5 363) - (P 363)))))))) ∧ (¬ (M3 1 11 = 0) → Φ 0 M3) := by
      intro M3 p3 P3 st cm f3 a3 hp hn hc ht H h2 ht1 ht2
      have hN := a3.n900
      have hN2 := a3.le
      have hn1 := hn.1
      refine ⟨fun _ => ⟨⟨by omega, by omega, trivial⟩, ⟨by omega, by omega, trivial⟩, ⟨by omega, by omega, trivial⟩, ?_⟩, fun z => absurd a3.w0 z⟩
      have e3 : w32 ((sI (sI M3 5 (4 + l) 1) 5 (7 + l) (P 363)) 5 363 - P 363) = P3 363 - P 363 := by
        rw [sI_ne (by omega), sI_ne (by omega), a3.row, w32_id (by omega) (by omega)]
      rw [e3]
      have a4 : atR (sI (sI (sI M3 5 (4 + l) 1) 5 (7 + l) (P 363)) 5 (10 + l) (P3 363 - P 363)) T N p3 (putL l P P3) := ((a3.set _ _).set _ _).set _ _
      have fr4 : frL M (sI (sI (sI M3 5 (4 + l) 1) 5 (7 + l) (P 363)) 5 (10 + l) (P3 363 - P 363)) := (fr2.z f3).five.five.five
      by_cases c : tkK T N p3 = 30
      · refine q1 _ p3 _ fr4 a4 (by omega) ⟨ok.1.lawed hl hn (by omega) ht, ?_⟩ ?_
        · unfold putL
          rw [pset_ne (by omega), pset_ne (by omega), pset_ne (by omega)]
          omega
        · unfold lawT
          rw [if_pos e]
          exact ⟨.inl (p3, P3), H _ (rs_fin h2 (by rw [c]; exact ht1 c) c), rfl⟩
      · refine q2 _ p3 _ fr4 a4 c ?_
        unfold lawT
        rw [if_pos e]
        exact ⟨flt T N 2 p3, H _ (rs_unfit h2 (ht2 c)), rfl⟩
    have bad : ∀ (M3 : Nat → Nat → Int) (k : Int) (a : Nat), frZ (sI M2 1 15 (l : Int)) M3 → badR M3 k a → RnS l T N (tkE T N (tkE T N p)) [] (if l = 2 then 1 else 0) 0 P (.inr (k, a)) → Φ 0 M3 := by
      intro M3 k a f3 b H
      refine q0 M3 k a (fr2.z f3) b ?_
      unfold lawT
      rw [if_pos e]
      exact ⟨_, H, rfl⟩
    have t0 : tyP l (P 363).toNat P = some [] := by unfold tyP; rw [Nat.sub_self]; rfl
    refine ⟨fun c2 => ?_, fun c2 => ?_⟩
    · have c2 : l ≠ 2 := by omega
      have t1 : decide (l ≠ 2) = true := decide_eq_true c2
      rw [if_neg c2] at fin bad
      rw [t1] at fin
      refine x_truth0 (d := d) (fr := (P 363).toNat) hl n _ _ _ P [] 0 0 [] a2.r15 (sI_same _ _ _ _) hC.1 (by omega) (Nat.le_refl _) t0 (Nat.zero_le _) rfl ⟨rfl, rfl, Nat.zero_lt_one, rfl, c2⟩ (fun M3 p3 P3 st cm f3 a3 hp hn hc ht H hq => fin M3 p3 P3 st cm f3 a3 hp hn hc ht H (qoU_st hq.1).1 (fun c => fitR_t c2 (by rw [← c]; exact hq)) (fun c => fitR_f c2 c hq)) (fun M3 k a f3 b H => ⟨fun z => absurd z b.ne, fun _ => bad M3 k a f3 b H⟩)
    · have c2 : l = 2 := by omega
      subst c2
      refine x_sum0 (d := d + 3) (fr := (P 363).toNat) hl n _ _ _ P [] 1 0 [] a2.r15 (sI_same _ _ _ _) hC.1 (by omega) (Nat.le_refl _) t0 (Nat.zero_le _) rfl ⟨⟨by omega, fun z => absurd z (by omega)⟩, by decide⟩ (fun M3 p3 P3 st cm f3 a3 hp hn hc ht H hq => fin M3 p3 P3 st cm f3 a3 hp hn hc ht H (by rw [hq.1]; exact Nat.le_refl _) (fun c => by rw [hq.1]; exact fit2_t) (fun c => by rw [hq.1, hq.2.1]; exact fit2_f c hq.2.2.1 hq.2.2.2.1 hq.2.2.2.2)) (fun M3 k a f3 b H => ⟨fun z => absurd z b.ne, fun _ => bad M3 k a f3 b H⟩)
  · refine s_fails 2 (by decide) a1 (fun M3 k a f3 b rr => ?_)
    have b2 : badR (sI M3 1 15 (l : Int)) k a := b.r15
    have Q : Φ 0 (sI M3 1 15 (l : Int)) := by
      refine q0 _ k a ((frL.ofZ f1).z f3).r15 b2 ?_
      unfold lawT
      rw [if_neg e]; exact rr
    exact ⟨fun _ => w_truth 0 b2.ne ⟨fun z => absurd z b2.ne, fun _ => Q⟩, fun _ => w_sum 0 b2.ne ⟨fun z => absurd z b2.ne, fun _ => Q⟩⟩
def nowK (P : Nat → Int) (m : Int) (k : Nat) : Nat → Int := fun j => if 68 ≤ j ∧ j < 68 + k then m else P j
theorem nowK_s (P : Nat → Int) (m : Int) (k : Nat) : nowK P m (k + 1) = pset (nowK P m k) (68 + k) m := by
  funext j
  unfold nowK
  by_cases c : j = 68 + k
  · rw [c, pset_eq, if_pos (by omega)]
  · rw [pset_ne c]
    by_cases c2 : 68 ≤ j ∧ j < 68 + k
    · rw [if_pos c2, if_pos (by omega)]
    · rw [if_neg c2, if_neg (by omega)]
theorem s_nowL (m : Int) (q : ∀ M', (∀ c, c ≠ 5 → M' c = M c) → M' 5 = nowR (M 5) m → Φ 0 M') : W12_readLine_156 d n Φ m 0 M := by
  have key : ∀ k, k ≤ 8 → ∀ (M' : Nat → Nat → Int), (∀ a, a ≠ 5 → M' a = M a) → M' 5 = nowK (M 5) m k → W12_readLine_156 d n Φ m (k : Nat) M' := by
    refine up (fun M' k1 k2 => ?_) (fun k hk ih M' k1 k2 => ?_)
    · exact v12_readLine_156 ⟨fun _ => q M' k1 k2, fun c => absurd (by omega) c⟩
    · apply v12_readLine_156
      rw [show w32 (68 + (k : Int)) = ((68 + k : Nat) : Int) by rw [w32_id (by omega) (by omega)]; omega, w32_s (k := k) (by omega), Int.toNat_natCast]
      refine ⟨fun c => absurd c (by omega), fun _ => ⟨⟨by omega, by omega, trivial⟩, ih _ (fun a ha => (sI_row ha).trans (k1 a ha)) ?_⟩⟩
      rw [sI_p, k2, nowK_s]
  refine key 0 (Nat.zero_le _) M (fun _ _ => rfl) ?_
  funext j
  unfold nowK
  rw [if_neg (by omega)]
theorem s_line (h : atR M T N p P) (ok : okD p P) (q1 : ∀ (M' : Nat → Nat → Int) (p' : Nat) (P' : Nat → Int), frL M M' → atR M' T N p' P' → p < p' → okD p' P' → Ln T N p P (.inl (p', P')) → Φ 0 M') (q2 : ∀ (M' : Nat → Nat → Int) (p' : Nat) (P' : Nat → Int), frL M M' → atR M' T N p' P' → tkK T N p' ≠ 30 → Ln T N p P (flt T N 2 p') → Φ 0 M') (q0 : ∀ (M' : Nat → Nat → Int) (k : Int) (a : Nat), frL M M' → badR M' k a → Ln T N p P (.inr (k, a)) → Φ 0 M') : CR (d + 29) 210 [(2, 1)] M n Φ := by
  have hF := ok.1.F
  have hM := ok.1.Mo
  refine e12_readLine ⟨fun _ => ?_, fun z => absurd h.w0 z⟩
  refine s_is 2 h (fun k2 => io0 (s_bit (d := d + 24) h ok k2 (fun M' p' P' f a hp o e => q1 M' p' P' f a hp o ?_) (fun M' k a f b e => q0 M' k a f b ?_))) (fun k2 => iz0 ?_)
  · unfold Ln
    rw [if_pos k2]; exact e.symm
  · unfold Ln
    rw [if_pos k2]; exact e.symm
  refine s_is 5 h (fun k5 => io0 (s_farm (d := d + 23) h ok k5 (fun M' p' P' f a hp o e => q1 M' p' P' f a hp o ?_) (fun M' k a f b e => q0 M' k a f b ?_))) (fun k5 => iz0 ?_)
  · unfold Ln
    rw [if_neg k2, if_pos k5]; exact e
  · unfold Ln
    rw [if_neg k2, if_pos k5]; exact e
  refine s_eats 8 h (fun k8 M1 f1 a1 => io0 ?_) (fun k8 => iz0 ?_)
  · have g0 := h.nx.2 (by omega)
    rw [a1.row, w32_id (x := P 1 - 2) (by omega) (by omega)]
    refine s_takes 0 (P 1 - 2) a1 (fun t1 t2 t3 M2 f2 a2 => ⟨fun z => absurd a2.w0 z, fun _ => ?_⟩) (fun M2 x k a f2 b rr ng => ⟨fun _ => q0 M2 k a ((frL.ofZ f1).z f2) b ?_, fun z => absurd b.ne z⟩)
    · have g1 := a1.nx.2 (by omega)
      rw [a2.row]
      refine q1 _ _ _ ((frL.ofZ f1).z f2).five (a2.set _ _) (by omega) ⟨ok.1.cutted ⟨t2, t3⟩, by have := ok.2; rw [pset_ne (by omega)]; omega⟩ ?_
      unfold Ln
      rw [if_neg k2, if_neg k5, if_pos k8]
      exact (numC_t ⟨t1, t2, t3⟩ : cutT T N p P = _).symm
    · unfold Ln
      rw [if_neg k2, if_neg k5, if_pos k8]
      exact rr.trans (numC_f ng : cutT T N p P = _).symm
  refine s_is 9 h (fun k9 => io0 (s_snow (d := d + 24) h ok k9 (fun M' p' P' f a hp o e => q1 M' p' P' f a hp o ?_) (fun M' k a f b e => q0 M' k a f b ?_))) (fun k9 => iz0 ?_)
  · unfold Ln
    rw [if_neg k2, if_neg k5, if_neg k8, if_pos k9]; exact e.symm
  · unfold Ln
    rw [if_neg k2, if_neg k5, if_neg k8, if_pos k9]; exact e.symm
  rw [h.kd]
  refine sp_within _ _ _ (br (fun e => ?_) (fun e => ?_))
  · have e := of_decide_eq_false e
    have kL : ¬ (11 ≤ tkK T N p ∧ tkK T N p ≤ 13) := by omega
    refine s_eats 14 h (fun k14 M1 f1 a1 => io0 ?_) (fun k14 => iz0 ?_)
    · have g0 := h.nx.2 (by omega)
      rw [a1.row, w32_id (x := P 2 - 1) (by omega) (by omega)]
      refine s_takes 0 (P 2 - 1) a1 (fun t1 t2 t3 M2 f2 a2 => ?_) (fun M2 x k a f2 b rr ng => ?_)
      · have g1 := a1.nx.2 (by omega)
        refine s_nowL _ (fun M3 h3 h5 => ?_)
        rw [a2.row] at h5
        refine q1 M3 _ _ (((frL.ofZ f1).z f2).row5 h3) (a2.row5 h3 h5) (by omega) ⟨ok.1.nowed ⟨t2, t3⟩, ?_⟩ ?_
        · have := ok.2
          rw [show nowR P (tkV T N (tkE T N p)) 363 = P 363 from if_neg (by omega)]
          omega
        · unfold Ln
          rw [if_neg k2, if_neg k5, if_neg k8, if_neg k9, if_neg kL, if_pos k14]
          exact (numC_t ⟨t1, t2, t3⟩ : nowT T N p P = _).symm
      · refine s_nowL _ (fun M3 h3 h5 => q0 M3 k a (((frL.ofZ f1).z f2).row5 h3) (b.row5 h3) ?_)
        unfold Ln
        rw [if_neg k2, if_neg k5, if_neg k8, if_neg k9, if_neg kL, if_pos k14]
        exact rr.trans (numC_f ng : nowT T N p P = _).symm
    · refine s_fails 2 (by decide) h (fun M' k a f b rr => q0 M' k a (frL.ofZ f) b ?_)
      unfold Ln
      rw [if_neg k2, if_neg k5, if_neg k8, if_neg k9, if_neg kL, if_neg k14]
      exact rr
  · have e := of_decide_eq_true e
    have kL : 11 ≤ tkK T N p ∧ tkK T N p ≤ 13 := by omega
    have LE : ∀ r, lawT T N (tkK T N p - 11) p P r → Ln T N p P r := by
      intro r hr
      unfold Ln
      rw [if_neg k2, if_neg k5, if_neg k8, if_neg k9, if_pos kL]; exact hr
    rw [h.kd, show w32 (((tkK T N p : Nat) : Int) - 11) = ((tkK T N p - 11 : Nat) : Int) by rw [w32_id (by omega) (by omega)]; omega]
    exact s_law _ (by omega) h ok (by omega) (fun M' p' P' f a hp o e => q1 M' p' P' f a hp o (LE _ e)) (fun M' p' P' f a e30 e => q2 M' p' P' f a e30 (LE _ e)) (fun M' k a f b e => q0 M' k a f b (LE _ e))
theorem s_ends (h : atR M T N p P) (q1 : tkK T N p = 30 → ∀ (M' : Nat → Nat → Int), frL M M' → atR M' T N (tkE T N p) (pset P 0 (w32 (P 0 + 1))) → Φ 0 M') (q0 : tkK T N p ≠ 30 → ∀ (M' : Nat → Nat → Int) (k : Int) (a : Nat), frL M M' → badR M' k a → (.inr (k, a) : pR) = flt T N 2 p → Φ 0 M') : CR (d + 4) 211 [(2, 1)] M n Φ := by
  refine e12_ends1 (s_eats 30 h (fun e M1 f1 a1 => io1 ?_) (fun e => iz1 ?_))
  · rw [a1.row]
    exact q1 e _ (frL.ofZ f1).five (a1.set _ _)
  · exact s_fails 2 (by decide) h (fun M' k a f b rr => q0 e _ k a (frL.ofZ f).five b.five rr)
theorem w_ends {k : Int} {a : Nat} (b : badR M k a) (q : ∀ (M' : Nat → Nat → Int), frL M M' → badR M' k a → Φ 0 M') : CR (d + 3) 211 [(2, 1)] M n Φ := by
  have hw := b.ne
  exact e12_ends1 (w_eats 30 hw (iz1 (w_fails 2 hw (q _ (frL.refl M).five b.five))))
/-- a line with its end -/
theorem s_lineE (h : atR M T N p P) (ok : okD p P) {Ψ : (Nat → Nat → Int) → Prop} (q1 : ∀ (M' : Nat → Nat → Int) (p' : Nat) (P' : Nat → Int), frL M M' → atR M' T N p' P' → p < p' → okD p' P' → LnE T N p P (.inl (p', P')) → Ψ M') (q0 : ∀ (M' : Nat → Nat → Int) (k : Int) (a : Nat), frL M M' → badR M' k a → LnE T N p P (.inr (k, a)) → Ψ M') : CR (d + 29) 210 [(2, 1)] M n (fun _ M1 => CR (d + 29) 211 [(2, 1)] M1 n (fun _ M2 => Ψ M2)) := by
  refine s_line h ok (fun M1 p1 P1 f1 a1 hp o1 e1 => ?_) (fun M1 p1 P1 f1 a1 e30 e1 => ?_) (fun M1 k a f1 b1 e1 => ?_)
  · refine s_ends (d := d + 25) a1 (fun e M' f' a' => ?_) (fun e M' k a f' b' rr => ?_)
    · have g1 := a1.nx.2 (by omega)
      refine q1 M' _ _ (f1.trans f') a' (by omega) ⟨o1.1.lined, by have := o1.2; rw [pset_ne (by omega)]; omega⟩ ⟨_, e1, ?_⟩
      exact (if_pos e : smc T N p1 P1 = _).symm
    · exact q0 M' k a (f1.trans f') b' ⟨_, e1, rr.trans (if_neg e : smc T N p1 P1 = _).symm⟩
  · refine s_ends (d := d + 25) a1 (fun e => absurd e e30) (fun e M' k a f' b' rr => ?_)
    exact q0 M' k a (f1.trans f') b' ⟨_, e1, rr⟩
  · exact w_ends b1 (fun M' f' b' => q0 M' k a (f1.trans f') b' ⟨_, e1, rfl⟩)
end
