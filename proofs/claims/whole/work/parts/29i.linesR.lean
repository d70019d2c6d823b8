/-! ===== lines of a text: the reference ===== -/
def frL (M M' : Nat → Nat → Int) : Prop := (∀ c, c ≠ 1 → c ≠ 5 → M' c = M c) ∧ (∀ k, (k < 6 ∨ k = 8 ∨ (12 < k ∧ k ≠ 15)) → M' 1 k = M 1 k)
theorem frL.refl (M : Nat → Nat → Int) : frL M M := ⟨fun _ _ _ => rfl, fun _ _ => rfl⟩
theorem frL.trans {M M' M2 : Nat → Nat → Int} (h : frL M M') (h2 : frL M' M2) : frL M M2 := ⟨fun c h1 h5 => (h2.1 c h1 h5).trans (h.1 c h1 h5), fun k hk => (h2.2 k hk).trans (h.2 k hk)⟩
theorem frL.ofZ {M M' : Nat → Nat → Int} (h : frZ M M') : frL M M' := ⟨h.1, fun k hk => h.2 k (by omega)⟩
theorem frL.z {M M' M2 : Nat → Nat → Int} (h : frL M M') (h2 : frZ M' M2) : frL M M2 := h.trans (frL.ofZ h2)
theorem frL.row5 {M M' M2 : Nat → Nat → Int} (h : frL M M') (h2 : ∀ c, c ≠ 5 → M2 c = M' c) : frL M M2 := ⟨fun c h1 h5 => (h2 c h5).trans (h.1 c h1 h5), fun k hk => by rw [h2 1 (by omega)]; exact h.2 k hk⟩
theorem frL.five {M M' : Nat → Nat → Int} {k : Nat} {x : Int} (h : frL M M') : frL M (sI M' 5 k x) := h.row5 (fun _ hc => sI_row hc)
theorem frL.r15 {M M' : Nat → Nat → Int} {x : Int} (h : frL M M') : frL M (sI M' 1 15 x) := ⟨fun c h1 h5 => (sI_row h1).trans (h.1 c h1 h5), fun j hj => by rw [sI_ne (show j ≠ 15 by omega)]; exact h.2 j hj⟩
theorem badR.row5 {M M' : Nat → Nat → Int} {k : Int} {a : Nat} (b : badR M k a) (h : ∀ c, c ≠ 5 → M' c = M c) : badR M' k a := by
  unfold badR
  rw [h 1 (by omega)]
  exact b
theorem badR.five {M : Nat → Nat → Int} {k : Int} {a j : Nat} {x : Int} (b : badR M k a) : badR (sI M 5 j x) k a := b.row5 (fun _ hc => sI_row hc)
theorem atR.row5 {M M' : Nat → Nat → Int} {T : Nat → Int} {N p : Nat} {P Q : Nat → Int} (h : atR M T N p P) (h2 : ∀ c, c ≠ 5 → M' c = M c) (hQ : M' 5 = Q) : atR M' T N p Q := by
  obtain ⟨⟨a1, a2, a3⟩, a4, a5, a6, a7, a8, a9, _⟩ := h
  have r1 := h2 1 (by omega)
  exact ⟨⟨by rw [r1]; exact a1, a2, fun j hj => by rw [h2 4 (by omega)]; exact a3 j hj⟩, a4, by rw [r1]; exact a5, by rw [r1]; exact a6, by rw [r1]; exact a7, fun z => by rw [r1]; exact a8 z, by rw [r1]; exact a9, hQ⟩
theorem atR.r15 {M : Nat → Nat → Int} {T : Nat → Int} {N p : Nat} {P : Nat → Int} {x : Int} (h : atR M T N p P) : atR (sI M 1 15 x) T N p P := by
  obtain ⟨⟨a1, a2, a3⟩, a4, a5, a6, a7, a8, a9, a10⟩ := h
  exact ⟨⟨by rw [sI_ne (by omega)]; exact a1, a2, fun j hj => by rw [sI_row (by omega)]; exact a3 j hj⟩, a4, by rw [sI_ne (by omega)]; exact a5, by rw [sI_ne (by omega)]; exact a6, by rw [sI_ne (by omega)]; exact a7, fun z => by rw [sI_ne (by omega)]; exact a8 z, by rw [sI_ne (by omega)]; exact a9, by rw [sI_row (by omega)]; exact a10⟩
section
variable {T : Nat → Int} {N p f : Nat} {P : Nat → Int} {r : pR}
theorem numC_t {lo hi : Int} {K : Nat → Int → pR} (h : tkK T N p = 23 ∧ lo ≤ tkV T N p ∧ tkV T N p ≤ hi) : numC T N lo hi p K = K (tkE T N p) (tkV T N p) := if_pos h
theorem numC_f {lo hi : Int} {K : Nat → Int → pR} (h : ¬ (tkK T N p = 23 ∧ lo ≤ tkV T N p ∧ tkV T N p ≤ hi)) : numC T N lo hi p K = flt T N (if tkK T N p = 23 then 3 else 2) p := if_neg h
theorem expC_t {k : Nat} {K : Nat → pR} (h : tkK T N p = k) : expC T N k p K = K (tkE T N p) := if_pos h
theorem expC_f {k : Nat} {K : Nat → pR} (h : tkK T N p ≠ k) : expC T N k p K = flt T N 2 p := if_neg h
theorem fl_end (h6 : tkK T N p ≠ 6) (h7 : tkK T N p ≠ 7) : flgS T N f p P (.inl (p, P)) := ⟨1, by rw [flgT_s, if_neg h6, if_neg h7]⟩
theorem fl_w0 (h6 : tkK T N p = 6) (h : ¬ (tkK T N (tkE T N p) = 23 ∧ 0 ≤ tkV T N (tkE T N p) ∧ tkV T N (tkE T N p) ≤ P 2 - 1)) : flgS T N f p P (flt T N (if tkK T N (tkE T N p) = 23 then 3 else 2) (tkE T N p)) := ⟨1, by rw [flgT_s, if_pos h6, if_neg h]⟩
theorem fl_w1 (h6 : tkK T N p = 6) (h : tkK T N (tkE T N p) = 23 ∧ 0 ≤ tkV T N (tkE T N p) ∧ tkV T N (tkE T N p) ≤ P 2 - 1) (g : flgS T N f (tkE T N (tkE T N p)) (pset P (49 + f) (tkV T N (tkE T N p))) r) : flgS T N f p P r := by
  obtain ⟨u, g⟩ := g
  exact ⟨u + 1, by rw [flgT_s, if_pos h6, if_pos h]; exact g⟩
theorem fl_m0 (h7 : tkK T N p = 7) (h : ¬ (tkK T N (tkE T N p) = 23 ∧ 0 ≤ tkV T N (tkE T N p) ∧ tkV T N (tkE T N p) ≤ 9)) : flgS T N f p P (flt T N (if tkK T N (tkE T N p) = 23 then 3 else 2) (tkE T N p)) := ⟨1, by rw [flgT_s, if_neg (by omega), if_pos h7, if_neg h]⟩
theorem fl_m1 (h7 : tkK T N p = 7) (h : tkK T N (tkE T N p) = 23 ∧ 0 ≤ tkV T N (tkE T N p) ∧ tkV T N (tkE T N p) ≤ 9) (g : flgS T N f (tkE T N (tkE T N p)) (pset P (84 + f) (tkV T N (tkE T N p))) r) : flgS T N f p P r := by
  obtain ⟨u, g⟩ := g
  exact ⟨u + 1, by rw [flgT_s, if_neg (by omega), if_pos h7, if_pos h]; exact g⟩
end
theorem wI {x : Int} {a : Nat} {y : Int} (h : x = (a : Int) + y) (h1 : 0 ≤ y) (h2 : (a : Int) + y < 1264) : w32 x = ((a + y.toNat : Nat) : Int) := by
  rw [h, w32_id (by omega) (by omega)]; omega
section
variable {d : Nat} {n : Nat × Nat} {Φ : Int → (Nat → Nat → Int) → Prop} {M : Nat → Nat → Int} {T : Nat → Int} {N p : Nat} {P : Nat → Int}
theorem s_bit (h : atR M T N p P) (ok : okD p P) (hk : tkK T N p = 2) (q1 : ∀ (M' : Nat → Nat → Int) (p' : Nat) (P' : Nat → Int), frL M M' → atR M' T N p' P' → p < p' → okD p' P' → bitP T N p P = .inl (p', P') → Φ 0 M') (q0 : ∀ (M' : Nat → Nat → Int) (k : Int) (a : Nat), frL M M' → badR M' k a → bitP T N p P = .inr (k, a) → Φ 0 M') : CR (d + 4) 205 [(2, 1)] M n Φ := by
  have hB := ok.1.B
  have hM := ok.1.Mo
  have g0 := h.nx.2 (by omega)
  refine e12_readBit ?_
  rw [h.row]
  refine ⟨fun c => ⟨fun _ => ?_, fun z => absurd h.w0 z⟩, fun c => ?_⟩
  · have u1 : w32 (13 + P 3) = ((13 + (P 3).toNat : Nat) : Int) := wI rfl hB.1 (by omega)
    have u2 : w32 (25 + P 3) = ((25 + (P 3).toNat : Nat) : Int) := wI rfl hB.1 (by omega)
    have u3 : w32 (37 + P 3) = ((37 + (P 3).toNat : Nat) : Int) := wI rfl hB.1 (by omega)
    rw [u1, u2, u3]
    simp only [Int.toNat_natCast]
    have fin : ∀ (M5 : Nat → Nat → Int) (p5 : Nat) (a b m : Int), frL M M5 → atR M5 T N p5 P → p < p5 → 0 ≤ a ∧ a ≤ P 2 - 1 → 0 ≤ b ∧ b ≤ P 2 - 1 → (m = 0 ∨ m = 1) → bitP T N p P = .inl (p5, putB P a b m) → Φ 0 (sI (sI (sI (sI M5 5 (13 + (P 3).toNat) a) 5 (25 + (P 3).toNat) b) 5 (37 + (P 3).toNat) m) 5 3 (w32 ((sI (sI (sI M5 5 (13 + (P 3).toNat) a) 5 (25 + (P 3).toNat) b) 5 (37 + (P 3).toNat) m) 5 3 + 1))) := by
      intro M5 p5 a b m f5 a5 hp ha hb hm e
      have u4 : w32 ((sI (sI (sI M5 5 (13 + (P 3).toNat) a) 5 (25 + (P 3).toNat) b) 5 (37 + (P 3).toNat) m) 5 3 + 1) = P 3 + 1 := by
        rw [sI_ne (by omega), sI_ne (by omega), sI_ne (by omega), a5.row, w32_id (by omega) (by omega)]
      rw [u4]
      refine q1 _ p5 (putB P a b m) f5.five.five.five.five ((((a5.set _ _).set _ _).set _ _).set _ _) hp ⟨ok.1.put1 c ha hb hm, ?_⟩ e
      have := ok.2
      unfold putB
      rw [pset_ne (by omega), pset_ne (by omega), pset_ne (by omega), pset_ne (by omega)]
      omega
    refine s_next h (fun M1 f1 a1 => ?_)
    rw [a1.row, w32_id (x := P 2 - 1) (by omega) (by omega)]
    refine s_takes 0 (P 2 - 1) a1 (fun t1 t2 t3 M2 f2 a2 => ?_) (fun M2 x k a f2 b rr ng => ?_)
    · have g1 := a1.nx.2 (by omega)
      refine s_eats 3 a2 (fun e3 M3 f3 a3 => io1 ?_) (fun e3 => iz1 ?_)
      · have g2 := a2.nx.2 (by omega)
        rw [a3.row, w32_id (x := P 2 - 1) (by omega) (by omega)]
        refine s_takes 0 (P 2 - 1) a3 (fun v1 v2 v3 M4 f4 a4 => ?_) (fun M4 x k a f4 b rr ng => ?_)
        · have g3 := a3.nx.2 (by omega)
          have fr4 : frL M M4 := ((((frL.ofZ f1).z f2).z f3).z f4)
          have eb := ((if_neg c).trans ((numC_t ⟨t1, t2, t3⟩).trans ((expC_t e3).trans (numC_t ⟨v1, v2, v3⟩))) : bitP T N p P = _)
          refine s_eats 4 a4 (fun e4 M5 f5 a5 => io0 ⟨fun _ => ⟨⟨by omega, by omega, trivial⟩, ⟨by omega, by omega, trivial⟩, ⟨by omega, by omega, trivial⟩, ?_⟩, fun z => absurd a5.w0 z⟩) (fun e4 => iz0 ⟨fun _ => ⟨⟨by omega, by omega, trivial⟩, ⟨by omega, by omega, trivial⟩, ⟨by omega, by omega, trivial⟩, ?_⟩, fun z => absurd a4.w0 z⟩)
          · have g4 := a4.nx.2 (by omega)
            exact fin M5 _ _ _ 1 (fr4.z f5) a5 (by omega) ⟨t2, t3⟩ ⟨v2, v3⟩ (Or.inr rfl) (eb.trans (if_pos e4))
          · exact fin M4 _ _ _ 0 fr4 a4 (by omega) ⟨t2, t3⟩ ⟨v2, v3⟩ (Or.inl rfl) (eb.trans (if_neg e4))
        · have hw := b.ne
          exact w_eats 4 hw (iz0 ⟨fun z => absurd z hw, fun _ => q0 _ k a ((((frL.ofZ f1).z f2).z f3).z f4) b (((if_neg c).trans ((numC_t ⟨t1, t2, t3⟩).trans ((expC_t e3).trans (numC_f ng))) : bitP T N p P = _).trans rr.symm)⟩)
      · refine s_fails 2 (by decide) a2 (fun M3 k a f3 b rr => ?_)
        have hw := b.ne
        exact w_takes _ _ hw (w_eats 4 hw (iz0 ⟨fun z => absurd z hw, fun _ => q0 _ k a (((frL.ofZ f1).z f2).z f3) b (((if_neg c).trans ((numC_t ⟨t1, t2, t3⟩).trans (expC_f e3)) : bitP T N p P = _).trans rr.symm)⟩))
    · have hw := b.ne
      exact w_eats 3 hw (iz1 (w_fails 2 hw (w_takes _ _ hw (w_eats 4 hw (iz0 ⟨fun z => absurd z hw, fun _ => q0 _ k a ((frL.ofZ f1).z f2) b (((if_neg c).trans (numC_f ng) : bitP T N p P = _).trans rr.symm)⟩)))))
  · have c : P 3 = 12 := Classical.byContradiction c
    refine s_fails 4 (by decide) h (fun M' k a f b rr => ?_)
    exact ⟨fun z => absurd z b.ne, fun _ => q0 _ k a (frL.ofZ f) b (((if_pos c) : bitP T N p P = _).trans rr.symm)⟩
theorem s_flags (f : Nat) (hf : f < 8) : ∀ (j : Nat) (p : Nat) (M : Nat → Nat → Int) (P : Nat → Int), N - p ≤ j → atR M T N p P → okD p P → (∀ (M' : Nat → Nat → Int) (p' : Nat) (P' : Nat → Int), frL M M' → atR M' T N p' P' → p ≤ p' → okD p' P' → flgS T N f p P (.inl (p', P')) → Φ 0 M') → (∀ (M' : Nat → Nat → Int) (k : Int) (a : Nat), frL M M' → badR M' k a → flgS T N f p P (.inr (k, a)) → Φ 0 M') → W12_readFarm_18 (d + 4) n Φ (f : Nat) M := by
  intro j
  induction j with
  | zero =>
    intro p M P hj h ok q1 q0
    have hp := h.le
    have e : tkK T N p = 24 := by
      apply Classical.byContradiction
      intro z
      have := h.nx.2 z
      have := h.nx.1
      omega
    refine v12_readFarm_18 ⟨fun z => absurd h.w0 z, fun _ => e12_readFlag (s_eats 6 h (fun z => absurd z (by omega)) (fun z6 => iz0 (s_eats 7 h (fun z => absurd z (by omega)) (fun z7 => iz0 (iz0 (q1 M p P (frL.refl M) h (Nat.le_refl _) ok (fl_end z6 z7)))))))⟩
  | succ j ih =>
    intro p M P hj h ok q1 q0
    have hM := ok.1.Mo
    have w1 : w32 (49 + (f : Int)) = ((49 + f : Nat) : Int) := by rw [w32_id (by omega) (by omega)]; omega
    have w2 : w32 (84 + (f : Int)) = ((84 + f : Nat) : Int) := by rw [w32_id (by omega) (by omega)]; omega
    refine v12_readFarm_18 ⟨fun z => absurd h.w0 z, fun _ => e12_readFlag ?_⟩
    rw [w1, w2]
    rw [Int.toNat_natCast, Int.toNat_natCast]
    refine s_eats 6 h (fun e6 M1 f1 a1 => io0 ?_) (fun e6 => iz0 (s_eats 7 h (fun e7 M1 f1 a1 => io0 ?_) (fun e7 => iz0 (iz0 (q1 M p P (frL.refl M) h (Nat.le_refl _) ok (fl_end e6 e7))))))
    · have g0 := h.nx.2 (by omega)
      rw [a1.row, w32_id (x := P 2 - 1) (by omega) (by omega)]
      refine s_takes 0 (P 2 - 1) a1 (fun t1 t2 t3 M2 f2 a2 => ⟨⟨by omega, by omega, trivial⟩, ?_⟩) (fun M2 x k a f2 b rr ng => ⟨⟨by omega, by omega, trivial⟩, ?_⟩)
      · have g1 := a1.nx.2 (by omega)
        have a3 := a2.set (49 + f) (tkV T N (tkE T N p))
        have fr : frL M (sI M2 5 (49 + f) (tkV T N (tkE T N p))) := ((frL.ofZ f1).z f2).five
        refine ⟨fun z => absurd a3.w0 z, fun _ => io0 ?_⟩
        refine ih _ _ _ (by omega) a3 ⟨ok.1.wish hf ⟨t2, t3⟩, by have := ok.2; rw [pset_ne (by omega)]; omega⟩ (fun M' p' P' f' a' hp' ok' g' => q1 M' p' P' (fr.trans f') a' (by omega) ok' (fl_w1 e6 ⟨t1, t2, t3⟩ g')) (fun M' k a f' b' g' => q0 M' k a (fr.trans f') b' (fl_w1 e6 ⟨t1, t2, t3⟩ g'))
      · have b' : badR (sI M2 5 (49 + f) x) k a := b.five
        refine ⟨fun _ => iz0 (q0 _ k a ((frL.ofZ f1).z f2).five b' ?_), fun z => absurd b'.ne z⟩
        rw [rr]
        exact fl_w0 e6 ng
    · have g0 := h.nx.2 (by omega)
      refine s_takes 0 9 a1 (fun t1 t2 t3 M2 f2 a2 => ⟨⟨by omega, by omega, trivial⟩, ?_⟩) (fun M2 x k a f2 b rr ng => ⟨⟨by omega, by omega, trivial⟩, ?_⟩)
      · have g1 := a1.nx.2 (by omega)
        have a3 := a2.set (84 + f) (tkV T N (tkE T N p))
        have fr : frL M (sI M2 5 (84 + f) (tkV T N (tkE T N p))) := ((frL.ofZ f1).z f2).five
        refine ⟨fun z => absurd a3.w0 z, fun _ => io0 ?_⟩
        refine ih _ _ _ (by omega) a3 ⟨ok.1.mooded hf ⟨t2, t3⟩, by have := ok.2; rw [pset_ne (by omega)]; omega⟩ (fun M' p' P' f' a' hp' ok' g' => q1 M' p' P' (fr.trans f') a' (by omega) ok' (fl_m1 e7 ⟨t1, t2, t3⟩ g')) (fun M' k a f' b' g' => q0 M' k a (fr.trans f') b' (fl_m1 e7 ⟨t1, t2, t3⟩ g'))
      · have b' : badR (sI M2 5 (84 + f) x) k a := b.five
        refine ⟨fun _ => iz0 (q0 _ k a ((frL.ofZ f1).z f2).five b' ?_), fun z => absurd b'.ne z⟩
        rw [rr]
        exact fl_m0 e7 ng
theorem s_farm (h : atR M T N p P) (ok : okD p P) (hk : tkK T N p = 5) (q1 : ∀ (M' : Nat → Nat → Int) (p' : Nat) (P' : Nat → Int), frL M M' → atR M' T N p' P' → p < p' → okD p' P' → farmT T N p P (.inl (p', P')) → Φ 0 M') (q0 : ∀ (M' : Nat → Nat → Int) (k : Int) (a : Nat), frL M M' → badR M' k a → farmT T N p P (.inr (k, a)) → Φ 0 M') : CR (d + 5) 207 [(2, 1)] M n Φ := by
  have hF := ok.1.F
  have g0 := h.nx.2 (by omega)
  refine e12_readFarm (s_next h (fun M1 f1 a1 => ?_))
  rw [a1.row, w32_id (x := P 1 - 1) (by omega) (by omega)]
  refine s_takes 0 (P 1 - 1) a1 (fun t1 t2 t3 M2 f2 a2 => ?_) (fun M2 x k a f2 b rr ng => ?_)
  · have g1 := a1.nx.2 (by omega)
    have et : tkV T N (tkE T N p) = (((tkV T N (tkE T N p)).toNat : Nat) : Int) := by omega
    rw [et]
    refine s_flags _ (by omega) _ _ _ _ (Nat.le_refl _) a2 ⟨ok.1, by have := ok.2; omega⟩ (fun M' p' P' f' a' hp' ok' g' => q1 M' p' P' (((frL.ofZ f1).z f2).trans f') a' (by omega) ok' ?_) (fun M' k a f' b' g' => q0 M' k a (((frL.ofZ f1).z f2).trans f') b' ?_)
    · unfold farmT
      rw [if_pos ⟨t1, t2, t3⟩]; exact g'
    · unfold farmT
      rw [if_pos ⟨t1, t2, t3⟩]; exact g'
  · refine v12_readFarm_18 ⟨fun _ => q0 M2 k a ((frL.ofZ f1).z f2) b ?_, fun z => absurd b.ne z⟩
    unfold farmT
    rw [if_neg ng]; exact rr
theorem s_snow (h : atR M T N p P) (ok : okD p P) (hk : tkK T N p = 9) (q1 : ∀ (M' : Nat → Nat → Int) (p' : Nat) (P' : Nat → Int), frL M M' → atR M' T N p' P' → p < p' → okD p' P' → snowT T N p P = .inl (p', P') → Φ 0 M') (q0 : ∀ (M' : Nat → Nat → Int) (k : Int) (a : Nat), frL M M' → badR M' k a → snowT T N p P = .inr (k, a) → Φ 0 M') : CR (d + 4) 208 [(2, 1)] M n Φ := by
  have hF := ok.1.F
  have g0 := h.nx.2 (by omega)
  refine e12_readSnow (s_next h (fun M1 f1 a1 => ?_))
  refine s_takes 0 10 a1 (fun t1 t2 t3 M2 f2 a2 => ?_) (fun M2 x k a f2 b rr ng => ?_)
  · have g1 := a1.nx.2 (by omega)
    refine s_eats 10 a2 (fun e3 M3 f3 a3 => io1 ?_) (fun e3 => iz1 ?_)
    · have g2 := a2.nx.2 (by omega)
      rw [a3.row, w32_id (x := P 1 - 2) (by omega) (by omega)]
      refine s_takes 0 (P 1 - 2) a3 (fun v1 v2 v3 M4 f4 a4 => ⟨fun z => absurd a4.w0 z, fun _ => ?_⟩) (fun M4 x k a f4 b rr ng => ?_)
      · have g3 := a3.nx.2 (by omega)
        rw [show w32 (57 + tkV T N (tkE T N (tkE T N (tkE T N p)))) = ((57 + (tkV T N (tkE T N (tkE T N (tkE T N p)))).toNat : Nat) : Int) from wI rfl v2 (by omega), Int.toNat_natCast]
        refine ⟨⟨by omega, by omega, trivial⟩, q1 _ _ _ ((((frL.ofZ f1).z f2).z f3).z f4).five (a4.set _ _) (by omega) ⟨ok.1.snowed (by omega) ⟨t2, t3⟩, by have := ok.2; rw [pset_ne (by omega)]; omega⟩ ((numC_t ⟨t1, t2, t3⟩).trans ((expC_t e3).trans (numC_t ⟨v1, v2, v3⟩)))⟩
      · exact ⟨fun _ => q0 _ k a ((((frL.ofZ f1).z f2).z f3).z f4) b (((numC_t ⟨t1, t2, t3⟩).trans ((expC_t e3).trans (numC_f ng)) : snowT T N p P = _).trans rr.symm), fun z => absurd b.ne z⟩
    · refine s_fails 2 (by decide) a2 (fun M3 k a f3 b rr => ?_)
      have hw := b.ne
      exact w_takes _ _ hw ⟨fun _ => q0 _ k a (((frL.ofZ f1).z f2).z f3) b (((numC_t ⟨t1, t2, t3⟩).trans (expC_f e3) : snowT T N p P = _).trans rr.symm), fun z => absurd hw z⟩
  · have hw := b.ne
    exact w_eats 10 hw (iz1 (w_fails 2 hw (w_takes _ _ hw ⟨fun _ => q0 _ k a ((frL.ofZ f1).z f2) b ((numC_f ng : snowT T N p P = _).trans rr.symm), fun z => absurd hw z⟩)))
end
