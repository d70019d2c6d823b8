/-! ===== the class's reader: small members, plain lines ===== -/
/-- kinds of tokens -/
def vK (k : Nat) : Prop := k < 26 ∨ (30 ≤ k ∧ k < 42)
theorem cvK_inj0 : ∀ j, j < 42 → ∀ k, k < 42 → (j < 26 ∨ 30 ≤ j) → (k < 26 ∨ 30 ≤ k) → cvK j = cvK k → j = k := by decide +kernel
theorem cvK_inj {j k : Nat} (hj : vK j) (hk : vK k) (h : cvK j = cvK k) : j = k := by
  unfold vK at hj hk
  exact cvK_inj0 j (by omega) k (by omega) (by omega) (by omega) h
theorem sgn_le (c : Int) : sgn c ≤ 12 := (fstB_all (fun k => decide (c = mAtT sgL k)) 12).1
theorem tkK_v (T : Nat → Int) (N p : Nat) : vK (tkK T N p) := by
  unfold vK tkK
  split
  · split
    · have : keyN T (tkA T N p) (tkE T N p) ≤ 22 := (fstB_all (fun k => eqW' T (tkE T N p) (wdL k) (tkA T N p)) 22).1
      omega
    · split
      · split <;> omega
      · split <;> omega
  · omega
/-- what the reading of a text changes -/
def frD (M M' : Nat → Nat → Int) : Prop := ∀ c, c ≠ 3 → (c < 17 ∨ 27 < c) → M' c = M c
theorem frD.refl (M : Nat → Nat → Int) : frD M M := fun _ _ _ => rfl
theorem frD.trans {M M' M2 : Nat → Nat → Int} (h : frD M M') (h2 : frD M' M2) : frD M M2 := fun c h1 h3 => (h2 c h1 h3).trans (h c h1 h3)
theorem frD.ofY {M M' : Nat → Nat → Int} (h : frY M M') : frD M M' := fun c h1 _ => h.1 c h1
theorem frD.y {M M' M2 : Nat → Nat → Int} (h : frD M M') (h2 : frY M' M2) : frD M M2 := h.trans (frD.ofY h2)
theorem frD.set {M M' : Nat → Nat → Int} {a k : Nat} {x : Int} (h : frD M M') (ha : a = 3 ∨ (17 ≤ a ∧ a ≤ 27)) : frD M (sI M' a k x) := fun c h1 h3 => (sI_row (by omega)).trans (h c h1 h3)
/-- no fault yet; the next token begins behind p; the draft is P -/
def atC (x : Nat) (M : Nat → Nat → Int) (T : Nat → Int) (N p : Nat) (P : Nat → Int) : Prop := tapC M T N ∧ p ≤ N ∧ M 3 8 = (tkA T N p : Nat) ∧ M 3 6 = (tkE T N p : Nat) ∧ M 3 7 = cvK (tkK T N p) ∧ (tkK T N p = 23 → M 3 9 = tkV T N p) ∧ M 3 1 = 0 ∧ M 3 2 = -1 ∧ relE x M P
def badC (M : Nat → Nat → Int) (k : Int) (a : Nat) : Prop := M 3 1 = k ∧ k ≠ 0 ∧ M 3 2 = (a : Int)
theorem iz0' {A B : Prop} (h : A) : ((-1 : Int) = -1 → A) ∧ (¬ ((-1 : Int) = -1) → B) := ⟨fun _ => h, fun c => absurd rfl c⟩
section
variable {d : Nat} {n : Nat × Nat} {Φ : Int → (Nat → Nat → Int) → Prop} {M : Nat → Nat → Int} {T : Nat → Int} {N p x : Nat} {w : cQ} {w1 : Nat × cQr} {P : Nat → Int}
theorem atC.tap (h : atC x M T N p P) : tapC M T N := h.1
theorem atC.le (h : atC x M T N p P) : p ≤ N := h.2.1
theorem atC.pl (h : atC x M T N p P) : M 3 8 = (tkA T N p : Nat) := h.2.2.1
theorem atC.bh (h : atC x M T N p P) : M 3 6 = (tkE T N p : Nat) := h.2.2.2.1
theorem atC.kd (h : atC x M T N p P) : M 3 7 = cvK (tkK T N p) := h.2.2.2.2.1
theorem atC.val (h : atC x M T N p P) (hk : tkK T N p = 23) : M 3 9 = tkV T N p := h.2.2.2.2.2.1 hk
theorem atC.w0 (h : atC x M T N p P) : M 3 1 = 0 := h.2.2.2.2.2.2.1
theorem atC.fp (h : atC x M T N p P) : M 3 2 = -1 := h.2.2.2.2.2.2.2.1
theorem atC.rel (h : atC x M T N p P) : relE x M P := h.2.2.2.2.2.2.2.2
theorem atC.nx (h : atC x M T N p P) : tkE T N p ≤ N ∧ (tkK T N p ≠ 24 → p < tkE T N p) := ⟨(tkE_le (T := T) h.le).2, fun c => tkE_go h.le c⟩
theorem atC.len (h : atC x M T N p P) : M 3 5 = (N : Int) := h.1.1
/-- only the draft changes -/
theorem atC.wth {x' : Nat} {M' : Nat → Nat → Int} {Q : Nat → Int} (h : atC x M T N p P) (h3 : M' 3 = M 3) (h2 : M' 2 = M 2) (r : relE x' M' Q) : atC x' M' T N p Q := by
  obtain ⟨⟨a1, a2, a3⟩, a4, a5, a6, a7, a8, a9, a10, _⟩ := h
  exact ⟨⟨by rw [h3]; exact a1, a2, fun k hk => by rw [h2]; exact a3 k hk⟩, a4, by rw [h3]; exact a5, by rw [h3]; exact a6, by rw [h3]; exact a7, fun z => by rw [h3]; exact a8 z, by rw [h3]; exact a9, by rw [h3]; exact a10, r⟩
theorem c_adv (h : atC x M T N p P) (q : ∀ M', frY M M' → atC x M' T N (tkE T N p) P → Φ 0 M') : CF (d + 3) 44 [(2, 3)] (2, w1) M n Φ := by
  refine c_advance (tkE T N p) h.tap h.bh h.nx.1 (fun M' f a1 a2 a3 a4 => q M' f ⟨⟨?_, h.tap.2.1, fun k hk => ?_⟩, h.nx.1, a1, a2, a3, a4, ?_, ?_, ?_⟩)
  · rw [f.2 5 (by omega)]; exact h.len
  · rw [f.1 2 (by omega)]; exact h.tap.2.2 k hk
  · rw [f.2 1 (by omega)]; exact h.w0
  · rw [f.2 2 (by omega)]; exact h.fp
  · exact h.rel.fr (fun c h1 _ => f.1 c (by omega))
theorem c_fail (e : Int) (he : e ≠ 0) (h : atC x M T N p P) (q : ∀ M' k a, frD M M' → badC M' k a → (.inr (k, a) : pR) = flt T N e p → Φ 0 M') : CF (d + 1) 43 [(2, 3), (0, e)] w M n Φ := by
  refine e4_fail ?_
  have fq : ∀ x : Int, x ≠ 0 → x = (if tkK T N p = 25 then 1 else e) → Φ 0 (sI (sI M 3 1 x) 3 2 ((sI M 3 1 x) 3 8)) := by
    intro x hx hx2
    have e6 : (sI M 3 1 x) 3 8 = (tkA T N p : Nat) := by rw [sI_ne (by omega)]; exact h.pl
    rw [e6]
    refine q _ x (tkA T N p) (((frD.refl M).set (by omega)).set (by omega)) ⟨by rw [sI_ne (by omega), sI_same], hx, sI_same _ _ _ _⟩ ?_
    unfold flt
    rw [hx2]
  rw [h.kd]
  refine ⟨fun c => fq e he ?_, fun c => fq 1 (by decide) ?_⟩
  · rw [if_neg (fun z => c (by rw [z]; decide))]
  · have c : cvK (tkK T N p) = cvK 25 := Classical.byContradiction c
    rw [if_pos (cvK_inj (tkK_v T N p) (by unfold vK; omega) c)]
theorem c_expect (k : Nat) (hv : vK k) {xk : Int} (hx : xk = cvK k) (h : atC x M T N p P) (q1 : tkK T N p = k → ∀ M', frY M M' → atC x M' T N (tkE T N p) P → Φ 1 M') (q0 : tkK T N p ≠ k → ∀ M' k a, frD M M' → badC M' k a → (.inr (k, a) : pR) = flt T N 2 p → Φ 0 M') : CF (d + 4) 41 [(2, 3), (0, xk)] (2, w1) M n Φ := by
  refine e4_expect ⟨fun c => ?_, fun c => ?_⟩
  · rw [h.kd, hx] at c
    exact c_adv h (q1 (cvK_inj (tkK_v T N p) hv c))
  · exact c_fail 2 (by decide) h (fun M' k a f b rr => ⟨Or.inl rfl, q0 (fun z => c (by rw [h.kd, hx, z])) M' k a f b rr⟩)
theorem c_number (lo hi : Int) (h : atC x M T N p P) (q1 : tkK T N p = 23 ∧ lo ≤ tkV T N p ∧ tkV T N p ≤ hi → ∀ M', frY M M' → atC x M' T N (tkE T N p) P → Φ (tkV T N p) M') (q0 : ¬ (tkK T N p = 23 ∧ lo ≤ tkV T N p ∧ tkV T N p ≤ hi) → ∀ M' k a, frD M M' → badC M' k a → (.inr (k, a) : pR) = flt T N (if tkK T N p = 23 then 3 else 2) p → Φ (-1) M') : CF (d + 4) 42 [(2, 3), (0, lo), (0, hi)] (2, w1) M n Φ := by
  refine e4_number ⟨fun c => ?_, fun c => ?_⟩
  · have c : cvK (tkK T N p) = cvK 23 := by rw [← h.kd]; exact c
    have c := cvK_inj (tkK_v T N p) (by unfold vK; omega) c
    rw [h.val c]
    refine ⟨fun z => ?_, fun z => ⟨fun z2 => ?_, fun z2 => ?_⟩⟩
    · exact c_fail 3 (by decide) h (fun M' k a f b rr => q0 (by omega) M' k a f b (by rw [if_pos c]; exact rr))
    · exact c_adv h (q1 ⟨c, by omega, z2⟩)
    · exact c_fail 3 (by decide) h (fun M' k a f b rr => q0 (by omega) M' k a f b (by rw [if_pos c]; exact rr))
  · have c : tkK T N p ≠ 23 := fun z => c (by rw [h.kd, z]; decide)
    exact c_fail 2 (by decide) h (fun M' k a f b rr => q0 (fun z => c z.1) M' k a f b (by rw [if_neg c]; exact rr))
theorem c_end (h : atC 3 M T N p P) (q1 : tkK T N p = 30 → ∀ M', frD M M' → atC 3 M' T N (tkE T N p) (pset P 0 (w32 (P 0 + 1))) → Φ 1 M') (q0 : tkK T N p ≠ 30 → ∀ M' k a, frD M M' → badC M' k a → (.inr (k, a) : pR) = flt T N 2 p → Φ 0 M') : CF (d + 5) 34 [(2, 3)] (2, w1) M n Φ := by
  refine e4_endLine (c_expect 30 (by unfold vK; omega) (by decide) h (fun e M1 f1 a1 => io1 ?_) (fun e M1 k a f b rr => iz1 (q0 e M1 k a f b rr)))
  rw [a1.rel.1.2.2.2.2.1]
  exact q1 e _ ((frD.ofY f1).set (by omega)) (a1.wth (sI_row (by omega)) (sI_row (by omega)) a1.rel.lined)
theorem c_bitC (h : atC 3 M T N p P) (ok : okP P) (q1 : ∀ M' p' P', frD M M' → atC 3 M' T N p' P' → bitP T N p P = .inl (p', P') → Φ 1 M') (q0 : ∀ M' k a, frD M M' → badC M' k a → bitP T N p P = .inr (k, a) → Φ 0 M') : CF (d + 5) 35 [(2, 3)] (2, w1) M n Φ := by
  have hB := ok.B
  have hM := ok.Mo
  refine e4_readBit ?_
  rw [h.rel.1.2.2.1]
  refine ⟨fun c => ?_, fun c => ?_⟩
  · have c12 : P 3 ≠ 12 := by omega
    refine c_adv h (fun M1 f1 a1 => ?_)
    rw [a1.rel.1.2.1, w32_id (x := P 2 - 1) (by omega) (by omega)]
    refine c_number 0 (P 2 - 1) a1 (fun t M2 f2 a2 => ⟨fun z => absurd z (by omega), fun _ => ?_⟩) (fun t M2 k a f2 b rr => iz0' (q0 M2 k a ((frD.ofY f1).trans f2) b (((if_neg c12).trans (numC_f t) : bitP T N p P = _).trans rr.symm)))
    refine c_expect 3 (by unfold vK; omega) (by decide) a2 (fun e3 M3 f3 a3 => io1 ?_) (fun e3 M3 k a f3 b rr => iz1 (q0 M3 k a (((frD.ofY f1).y f2).trans f3) b (((if_neg c12).trans ((numC_t t).trans (expC_f e3)) : bitP T N p P = _).trans rr.symm)))
    rw [a3.rel.1.2.1, w32_id (x := P 2 - 1) (by omega) (by omega)]
    refine c_number 0 (P 2 - 1) a3 (fun v M4 f4 a4 => ⟨fun _ => ⟨⟨by omega, by omega, trivial⟩, ⟨by omega, by omega, trivial⟩, ?_⟩, fun z => absurd (by omega) z⟩) (fun v M4 k a f4 b rr => ⟨fun z => absurd rfl z, fun _ => q0 M4 k a ((((frD.ofY f1).y f2).y f3).trans f4) b (((if_neg c12).trans ((numC_t t).trans ((expC_t e3).trans (numC_f v))) : bitP T N p P = _).trans rr.symm)⟩)
    have eb := ((if_neg c12).trans ((numC_t t).trans ((expC_t e3).trans (numC_t v))) : bitP T N p P = _)
    have F4 : frD M M4 := ((((frD.ofY f1).y f2).y f3).y f4)
    have k7 : (sI (sI M4 18 (P 3).toNat (tkV T N (tkE T N p))) 19 (P 3).toNat (tkV T N (tkE T N (tkE T N (tkE T N p))))) 3 7 = cvK (tkK T N (tkE T N (tkE T N (tkE T N (tkE T N p))))) := by
      rw [sI_rw (by omega), sI_rw (by omega)]; exact a4.kd
    have k3 : (sI (sI M4 18 (P 3).toNat (tkV T N (tkE T N p))) 19 (P 3).toNat (tkV T N (tkE T N (tkE T N (tkE T N p))))) 17 3 = (mustN P : Nat) := by
      rw [sI_rw (by omega), sI_rw (by omega)]; exact a4.rel.1.2.2.2.1
    have k2 : w32 ((sI (sI M4 18 (P 3).toNat (tkV T N (tkE T N p))) 19 (P 3).toNat (tkV T N (tkE T N (tkE T N (tkE T N p))))) 17 2 + 1) = P 3 + 1 := by
      rw [sI_rw (by omega), sI_rw (by omega), a4.rel.1.2.2.1, w32_id (by omega) (by omega)]
    rw [k7, k3, k2]
    refine ⟨fun c => ?_, fun c => ?_⟩
    · have c : tkK T N (tkE T N (tkE T N (tkE T N (tkE T N p)))) ≠ 4 := fun z => c (by rw [z]; decide)
      refine q1 _ _ _ (((F4.set (by omega)).set (by omega)).set (by omega)) (a4.wth ?_ ?_ (a4.rel.put1 (a := tkV T N (tkE T N p)) (b := tkV T N (tkE T N (tkE T N (tkE T N p)))) (m := 0) hB.1 (by omega) (Or.inl rfl) (fun c h1 h2 => ?_) (fun k h1 h2 => ?_) (sI_same _ _ _ _) ?_ ?_ ?_)) (eb.trans (if_neg c))
      · rw [sI_row (by omega), sI_row (by omega), sI_row (by omega)]
      · rw [sI_row (by omega), sI_row (by omega), sI_row (by omega)]
      · rw [sI_row (by omega), sI_row (by omega), sI_row (by omega)]
      · rw [sI_ne h1, sI_rw (by omega), sI_rw (by omega)]
      · rw [if_neg (by decide), sI_ne (by omega), sI_rw (by omega), sI_rw (by omega)]
      · rw [sI_row (by omega), sI_row (by omega), sI_p]
      · rw [sI_row (by omega), sI_p, sI_row (by omega)]
    · have c : cvK (tkK T N (tkE T N (tkE T N (tkE T N (tkE T N p))))) = cvK 4 := Classical.byContradiction c
      have c := cvK_inj (tkK_v T N _) (by unfold vK; omega) c
      have a5 : atC 3 (sI (sI (sI (sI M4 18 (P 3).toNat (tkV T N (tkE T N p))) 19 (P 3).toNat (tkV T N (tkE T N (tkE T N (tkE T N p))))) 17 3 (m_or (mustN P : Nat) (m_shl 1 (P 3)))) 17 2 (P 3 + 1)) T N (tkE T N (tkE T N (tkE T N (tkE T N p)))) (putB P (tkV T N (tkE T N p)) (tkV T N (tkE T N (tkE T N (tkE T N p)))) 1) := by
        refine a4.wth ?_ ?_ (a4.rel.put1 (a := tkV T N (tkE T N p)) (b := tkV T N (tkE T N (tkE T N (tkE T N p)))) (m := 1) hB.1 (by omega) (Or.inr rfl) (fun c h1 h2 => ?_) (fun k h1 h2 => ?_) (sI_same _ _ _ _) ?_ ?_ ?_)
        · rw [sI_row (by omega), sI_row (by omega), sI_row (by omega), sI_row (by omega)]
        · rw [sI_row (by omega), sI_row (by omega), sI_row (by omega), sI_row (by omega)]
        · rw [sI_row (by omega), sI_row (by omega), sI_row (by omega), sI_row (by omega)]
        · rw [sI_ne h1, sI_ne h2, sI_rw (by omega), sI_rw (by omega)]
        · rw [if_pos rfl, sI_ne (by omega), sI_same, a4.rel.1.2.2.2.1]
        · rw [sI_row (by omega), sI_row (by omega), sI_row (by omega), sI_p]
        · rw [sI_row (by omega), sI_row (by omega), sI_p, sI_row (by omega)]
      -- the class puts the number of bits behind the next token: both orders give the same cells
      have t5 : tapC (sI (sI (sI M4 18 (P 3).toNat (tkV T N (tkE T N p))) 19 (P 3).toNat (tkV T N (tkE T N (tkE T N (tkE T N p))))) 17 3 (m_or (mustN P : Nat) (m_shl 1 (P 3)))) T N := by
        refine ⟨?_, a4.tap.2.1, fun k hk => ?_⟩
        · rw [sI_rw (by omega), sI_rw (by omega), sI_rw (by omega)]; exact a4.len
        · rw [sI_rw (by omega), sI_rw (by omega), sI_rw (by omega)]; exact a4.tap.2.2 k hk
      refine c_advance (tkE T N (tkE T N (tkE T N (tkE T N (tkE T N p))))) t5 (by rw [sI_rw (by omega), sI_rw (by omega), sI_rw (by omega)]; exact a4.bh) a4.nx.1 (fun M5 f5 b1 b2 b3 b4 => ?_)
      have k5 : w32 (M5 17 2 + 1) = P 3 + 1 := by
        rw [f5.1 17 (by omega), sI_ne (by omega), sI_rw (by omega), sI_rw (by omega), a4.rel.1.2.2.1, w32_id (by omega) (by omega)]
      rw [k5]
      refine q1 _ _ _ ((((F4.set (by omega)).set (by omega)).set (by omega)).y f5 |>.set (by omega)) ⟨⟨?_, a4.tap.2.1, fun k hk => ?_⟩, a4.nx.1, ?_, ?_, ?_, fun z => ?_, ?_, ?_, a5.rel.fr ?_⟩ (eb.trans (if_pos c))
      · rw [sI_rw (by omega), f5.2 5 (by omega)]; exact t5.1
      · rw [sI_rw (by omega), f5.1 2 (by omega)]; exact t5.2.2 k hk
      · rw [sI_rw (by omega)]; exact b1
      · rw [sI_rw (by omega)]; exact b2
      · rw [sI_rw (by omega)]; exact b3
      · rw [sI_rw (by omega)]; exact b4 z
      · rw [sI_rw (by omega), f5.2 1 (by omega), sI_rw (by omega), sI_rw (by omega), sI_rw (by omega)]; exact a4.w0
      · rw [sI_rw (by omega), f5.2 2 (by omega), sI_rw (by omega), sI_rw (by omega), sI_rw (by omega)]; exact a4.fp
      · intro c h1 h2
        by_cases e : c = 17
        · subst e
          rw [sI_p, sI_p, f5.1 17 (by omega)]
        · rw [sI_row e, sI_row e, f5.1 c (by omega)]
  · have c : P 3 = 12 := by omega
    exact c_fail 4 (by decide) h (fun M' k a f b rr => ⟨Or.inl rfl, q0 M' k a f b (((if_pos c) : bitP T N p P = _).trans rr.symm)⟩)
theorem c_flags {r : pR} (f : Nat) (hf : f < 8) : ∀ (u p : Nat) (M : Nat → Nat → Int) (P : Nat → Int) (i : Nat), i ≤ p → flgT T N f u p P r → atC 3 M T N p P → okP P → (∀ M' p' P', frD M M' → atC 3 M' T N p' P' → r = .inl (p', P') → Φ 1 M') → (∀ M' k a, frD M M' → badC M' k a → r = .inr (k, a) → Φ 0 M') → W4_readFarm_28 (d + 4) Φ (f : Nat) (i : Nat) (2, w1) M n := by
  intro u
  induction u with
  | zero => intro p M P i _ z; exact z.elim
  | succ u ih =>
    intro p M P i hi g h ok q1 q0
    have hM := ok.Mo
    have hp := h.le
    have hN := h.tap.2.1
    rw [flgT_s] at g
    have wish : tkK T N p = 6 → CF (d + 4) 44 [(2, 3)] (2, w1) M n (fun _ M1 => CF (d + 4) 42 [(2, 3), (0, 0), (0, w32 ((M1 17 1) - 1))] (2, w1) M1 n (fun r1 M2 => (r1 ≠ (-1) → ((0 : Int) ≤ ((f : Nat) : Int) ∧ (((f : Nat) : Int) : Int) < ((8 : Nat) : Int) ∧ True) ∧ (W4_readFarm_28 (d + 4) Φ (f : Nat) (w32 (((i : Nat) : Int) + 1)) (2, w1) (sI M2 20 ((f : Nat) : Int).toNat r1) n)) ∧ (¬ (r1 ≠ (-1)) → Φ 0 M2))) := by
      intro e6
      have g0 := h.nx.2 (by omega)
      rw [if_pos e6] at g
      refine c_adv h (fun M1 f1 a1 => ?_)
      rw [a1.rel.1.2.1, w32_id (x := P 2 - 1) (by omega) (by omega)]
      refine c_number 0 (P 2 - 1) a1 (fun t M2 f2 a2 => ⟨fun _ => ⟨⟨by omega, by omega, trivial⟩, ?_⟩, fun z => absurd (by omega) z⟩) (fun t M2 k a f2 b rr => ⟨fun z => absurd rfl z, fun _ => q0 M2 k a ((frD.ofY f1).trans f2) b ?_⟩)
      · rw [if_pos t] at g
        have g1 := a1.nx.2 (by omega)
        rw [w32_s (k := i) (by omega), Int.toNat_natCast]
        have fr : frD M (sI M2 20 f (tkV T N (tkE T N p))) := ((frD.ofY f1).y f2).set (by omega)
        exact ih _ _ _ (i + 1) (by omega) g (a2.wth (sI_row (by omega)) (sI_row (by omega)) (a2.rel.wish ok.B.2 hf)) (ok.wish hf t.2) (fun M' p' P' f' a' e' => q1 M' p' P' (fr.trans f') a' e') (fun M' k a f' b' e' => q0 M' k a (fr.trans f') b' e')
      · rw [if_neg t] at g
        exact g.trans rr.symm
    have mood : tkK T N p = 7 → CF (d + 4) 44 [(2, 3)] (2, w1) M n (fun _ M1 => CF (d + 4) 42 [(2, 3), (0, 0), (0, 9)] (2, w1) M1 n (fun r1 M2 => (r1 ≠ (-1) → ((0 : Int) ≤ ((f : Nat) : Int) ∧ (((f : Nat) : Int) : Int) < ((8 : Nat) : Int) ∧ True) ∧ (W4_readFarm_28 (d + 4) Φ (f : Nat) (w32 (((i : Nat) : Int) + 1)) (2, w1) (sI M2 21 ((f : Nat) : Int).toNat r1) n)) ∧ (¬ (r1 ≠ (-1)) → Φ 0 M2))) := by
      intro e7
      have g0 := h.nx.2 (by omega)
      rw [if_neg (show ¬ (tkK T N p = 6) by omega), if_pos e7] at g
      refine c_adv h (fun M1 f1 a1 => ?_)
      refine c_number 0 9 a1 (fun t M2 f2 a2 => ⟨fun _ => ⟨⟨by omega, by omega, trivial⟩, ?_⟩, fun z => absurd (by omega) z⟩) (fun t M2 k a f2 b rr => ⟨fun z => absurd rfl z, fun _ => q0 M2 k a ((frD.ofY f1).trans f2) b ?_⟩)
      · rw [if_pos t] at g
        have g1 := a1.nx.2 (by omega)
        rw [w32_s (k := i) (by omega), Int.toNat_natCast]
        have fr : frD M (sI M2 21 f (tkV T N (tkE T N p))) := ((frD.ofY f1).y f2).set (by omega)
        exact ih _ _ _ (i + 1) (by omega) g (a2.wth (sI_row (by omega)) (sI_row (by omega)) (a2.rel.mood ok.B.2 hf)) (ok.mooded hf t.2) (fun M' p' P' f' a' e' => q1 M' p' P' (fr.trans f') a' e') (fun M' k a f' b' e' => q0 M' k a (fr.trans f') b' e')
      · rw [if_neg t] at g
        exact g.trans rr.symm
    apply v4_readFarm_28
    rw [h.len, h.kd]
    refine ⟨fun z => absurd z (by omega), fun _ => ⟨fun c => ?_, fun c => ⟨fun c2 => ?_, fun c2 => ?_⟩⟩⟩
    · exact ⟨fun z => absurd c z, fun _ => wish (cvK_inj (tkK_v T N p) (by unfold vK; omega) (show cvK (tkK T N p) = cvK 6 from c))⟩
    · refine q1 M p P (frD.refl M) h ?_
      rw [if_neg (fun z => c (by rw [z]; decide)), if_neg (fun z => c2 (by rw [z]; decide))] at g
      exact g
    · have c2 : cvK (tkK T N p) = cvK 7 := Classical.byContradiction c2
      exact ⟨fun _ => mood (cvK_inj (tkK_v T N p) (by unfold vK; omega) c2), fun z => absurd c z⟩
theorem c_farmC {r : pR} (h : atC 3 M T N p P) (ok : okP P) (g : farmT T N p P r) (q1 : ∀ M' p' P', frD M M' → atC 3 M' T N p' P' → r = .inl (p', P') → Φ 1 M') (q0 : ∀ M' k a, frD M M' → badC M' k a → r = .inr (k, a) → Φ 0 M') : CF (d + 5) 36 [(2, 3)] (2, w1) M n Φ := by
  have hF := ok.F
  refine e4_readFarm (c_adv h (fun M1 f1 a1 => ?_))
  rw [a1.rel.1.1, w32_id (x := P 1 - 1) (by omega) (by omega)]
  unfold farmT at g
  refine c_number 0 (P 1 - 1) a1 (fun t M2 f2 a2 => ⟨fun _ => ?_, fun z => absurd (by omega) z⟩) (fun t M2 k a f2 b rr => ⟨fun z => absurd rfl z, fun _ => q0 M2 k a ((frD.ofY f1).trans f2) b ?_⟩)
  · rw [if_pos t] at g
    obtain ⟨u, g⟩ := g
    have et : tkV T N (tkE T N p) = (((tkV T N (tkE T N p)).toNat : Nat) : Int) := by omega
    rw [et]
    exact c_flags _ (by omega) u _ _ _ 0 (Nat.zero_le _) g a2 ok (fun M' p' P' f' a' e' => q1 M' p' P' (((frD.ofY f1).y f2).trans f') a' e') (fun M' k a f' b' e' => q0 M' k a (((frD.ofY f1).y f2).trans f') b' e')
  · rw [if_neg t] at g
    exact g.trans rr.symm
theorem c_cutC (h : atC 3 M T N p P) (ok : okP P) (q1 : ∀ M' p' P', frD M M' → atC 3 M' T N p' P' → cutT T N p P = .inl (p', P') → Φ 1 M') (q0 : ∀ M' k a, frD M M' → badC M' k a → cutT T N p P = .inr (k, a) → Φ 0 M') : CF (d + 5) 37 [(2, 3)] (2, w1) M n Φ := by
  have hF := ok.F
  refine e4_readCut (c_adv h (fun M1 f1 a1 => ?_))
  rw [a1.rel.1.1, w32_id (x := P 1 - 2) (by omega) (by omega)]
  refine c_number 0 (P 1 - 2) a1 (fun t M2 f2 a2 => ⟨fun _ => ?_, fun z => absurd (by omega) z⟩) (fun t M2 k a f2 b rr => ⟨fun z => absurd rfl z, fun _ => q0 M2 k a ((frD.ofY f1).trans f2) b ((numC_f t : cutT T N p P = _).trans rr.symm)⟩)
  rw [a2.rel.2.2.2.2.2.1.1]
  exact q1 _ _ _ (((frD.ofY f1).y f2).set (by omega)) (a2.wth (sI_row (by omega)) (sI_row (by omega)) (a2.rel.cutd ok.B.2)) (numC_t t : cutT T N p P = _)
theorem c_nowC (h : atC 3 M T N p P) (ok : okP P) (q1 : ∀ M' p' P', frD M M' → atC 3 M' T N p' P' → nowT T N p P = .inl (p', P') → Φ 1 M') (q0 : ∀ M' k a, frD M M' → badC M' k a → nowT T N p P = .inr (k, a) → Φ 0 M') : CF (d + 5) 39 [(2, 3)] (2, w1) M n Φ := by
  have hM := ok.Mo
  refine e4_readNow (c_adv h (fun M1 f1 a1 => ?_))
  rw [a1.rel.1.2.1, w32_id (x := P 2 - 1) (by omega) (by omega)]
  refine c_number 0 (P 2 - 1) a1 (fun t M2 f2 a2 => ⟨fun _ => ?_, fun z => absurd (by omega) z⟩) (fun t M2 k a f2 b rr => ⟨fun z => absurd rfl z, fun _ => q0 M2 k a ((frD.ofY f1).trans f2) b ((numC_f t : nowT T N p P = _).trans rr.symm)⟩)
  exact q1 _ _ _ (((frD.ofY f1).y f2).set (by omega)) (a2.wth (sI_row (by omega)) (sI_row (by omega)) (a2.rel.now ok.B.2)) (numC_t t : nowT T N p P = _)
theorem c_snowC (h : atC 3 M T N p P) (ok : okP P) (q1 : ∀ M' p' P', frD M M' → atC 3 M' T N p' P' → snowT T N p P = .inl (p', P') → Φ 1 M') (q0 : ∀ M' k a, frD M M' → badC M' k a → snowT T N p P = .inr (k, a) → Φ 0 M') : CF (d + 5) 38 [(2, 3)] (2, w1) M n Φ := by
  have hF := ok.F
  refine e4_readSnow (c_adv h (fun M1 f1 a1 => ?_))
  refine c_number 0 10 a1 (fun t M2 f2 a2 => ⟨fun z => absurd z (by omega), fun _ => ?_⟩) (fun t M2 k a f2 b rr => iz0' (q0 M2 k a ((frD.ofY f1).trans f2) b ((numC_f t : snowT T N p P = _).trans rr.symm)))
  refine c_expect 10 (by unfold vK; omega) (by decide) a2 (fun e3 M3 f3 a3 => io1 ?_) (fun e3 M3 k a f3 b rr => iz1 (q0 M3 k a (((frD.ofY f1).y f2).trans f3) b (((numC_t t).trans (expC_f e3) : snowT T N p P = _).trans rr.symm)))
  rw [a3.rel.1.1, w32_id (x := P 1 - 2) (by omega) (by omega)]
  refine c_number 0 (P 1 - 2) a3 (fun v M4 f4 a4 => ⟨fun _ => ⟨⟨by omega, by omega, trivial⟩, ?_⟩, fun z => absurd (by omega) z⟩) (fun v M4 k a f4 b rr => ⟨fun z => absurd rfl z, fun _ => q0 M4 k a ((((frD.ofY f1).y f2).y f3).trans f4) b (((numC_t t).trans ((expC_t e3).trans (numC_f v)) : snowT T N p P = _).trans rr.symm)⟩)
  exact q1 _ _ _ (((((frD.ofY f1).y f2).y f3).y f4).set (by omega)) (a4.wth (sI_row (by omega)) (sI_row (by omega)) (a4.rel.snowd ok.B.2 (by omega))) ((numC_t t).trans ((expC_t e3).trans (numC_t v)) : snowT T N p P = _)
end
