/-! ===== the reference's reader: small members; a fault stops all ===== -/
def frZ (M M' : Nat → Nat → Int) : Prop := (∀ c, c ≠ 1 → c ≠ 5 → M' c = M c) ∧ (∀ k, (k < 6 ∨ k = 8 ∨ 12 < k) → M' 1 k = M 1 k)
theorem frZ.refl (M : Nat → Nat → Int) : frZ M M := ⟨fun _ _ _ => rfl, fun _ _ => rfl⟩
theorem frZ.trans {M M' M2 : Nat → Nat → Int} (h : frZ M M') (h2 : frZ M' M2) : frZ M M2 := ⟨fun c h1 h5 => (h2.1 c h1 h5).trans (h.1 c h1 h5), fun k hk => (h2.2 k hk).trans (h.2 k hk)⟩
theorem frZ.one {M M' : Nat → Nat → Int} {k : Nat} {x : Int} (h : frZ M M') (hk : ¬ (k < 6 ∨ k = 8 ∨ 12 < k)) : frZ M (sI M' 1 k x) := ⟨fun c h1 h5 => (sI_row h1).trans (h.1 c h1 h5), fun j hj => by rw [sI_ne (show j ≠ k by omega)]; exact h.2 j hj⟩
theorem frZ.five {M M' : Nat → Nat → Int} {k : Nat} {x : Int} (h : frZ M M') : frZ M (sI M' 5 k x) := ⟨fun c h1 h5 => (sI_row h5).trans (h.1 c h1 h5), fun j hj => by rw [sI_row (by omega)]; exact h.2 j hj⟩
theorem frZ.ofX {M M' : Nat → Nat → Int} (h : frX M M') : frZ M M' := ⟨fun c h1 _ => h.1 c h1, fun k hk => h.2 k (by omega) (by omega) (by omega) (by omega)⟩
/-- no fault yet; the next token begins behind p; the row is P -/
def atR (M : Nat → Nat → Int) (T : Nat → Int) (N p : Nat) (P : Nat → Int) : Prop := tapR M T N ∧ p ≤ N ∧ M 1 6 = (tkA T N p : Nat) ∧ M 1 7 = (tkE T N p : Nat) ∧ M 1 9 = (tkK T N p : Nat) ∧ (tkK T N p = 23 → M 1 10 = tkV T N p) ∧ M 1 11 = 0 ∧ M 5 = P
/-- a fault stands -/
def badR (M : Nat → Nat → Int) (k : Int) (a : Nat) : Prop := M 1 11 = k ∧ k ≠ 0 ∧ M 1 12 = (a : Int)
theorem iz0 {A B : Prop} (h : A) : ((0 : Int) = 0 → A) ∧ (¬ ((0 : Int) = 0) → B) := ⟨fun _ => h, fun c => absurd rfl c⟩
theorem io0 {A B : Prop} (h : B) : ((1 : Int) = 0 → A) ∧ (¬ ((1 : Int) = 0) → B) := ⟨fun c => absurd c (by decide), fun _ => h⟩
theorem iz1 {A B : Prop} (h : B) : ((0 : Int) ≠ 0 → A) ∧ (¬ ((0 : Int) ≠ 0) → B) := ⟨fun c => absurd rfl c, fun _ => h⟩
theorem io1 {A B : Prop} (h : A) : ((1 : Int) ≠ 0 → A) ∧ (¬ ((1 : Int) ≠ 0) → B) := ⟨fun _ => h, fun c => absurd (by decide) c⟩
theorem rnd_all (p : Int → Bool) (T : Nat → Int) {N : Nat} : ∀ k i, N - i = k → ∀ j, i ≤ j → j < rnd p T N i → p (T j) = true := by
  intro k
  induction k with
  | zero => intro i hk j h1 h2; rw [rnd_end (by omega)] at h2; omega
  | succ k ih =>
    intro i hk j h1 h2
    by_cases c : i < N ∧ p (T i) = true
    · rw [rnd_go c.1 c.2] at h2
      by_cases e : j = i
      · rw [e]; exact c.2
      · exact ih (i + 1) (by omega) j (by omega) h2
    · rw [rnd_end c] at h2; omega
theorem dgv_b {T : Nat → Int} {a : Nat} : ∀ k, k ≤ 3 → (∀ j, j < k → isDg (T (a + j)) = true) → 0 ≤ dgv T a k ∧ dgv T a k < 10 ^ k := by
  intro k
  induction k with
  | zero => intro _ _; exact ⟨Int.le_refl 0, (by show (0 : Int) < 1; omega)⟩
  | succ k ih =>
    intro hk hall
    have h1 := ih (by omega) (fun j hj => hall j (by omega))
    have h2 := of_decide_eq_true (hall k (by omega))
    have h3 : k = 0 ∨ k = 1 ∨ k = 2 := by omega
    show 0 ≤ 10 * dgv T a k + T (a + k) - 48 ∧ 10 * dgv T a k + T (a + k) - 48 < 10 ^ (k + 1)
    rcases h3 with z | z | z <;> subst z <;> omega
theorem tkV_b {T : Nat → Int} {N p : Nat} (h : tkK T N p = 23) : 0 ≤ tkV T N p ∧ tkV T N p < 1000 := by
  have hh := h
  unfold tkK at hh
  split at hh
  · rename_i cA
    split at hh
    · have := (fstB_all (fun k => eqW' T (tkE T N p) (wdL k) (tkA T N p)) 22).1
      have : keyN T (tkA T N p) (tkE T N p) ≤ 22 := this
      omega
    · rename_i c1
      split at hh
      · rename_i c2
        split at hh
        · omega
        · rename_i c3
          have hE : tkE T N p = rnd isDg T N (tkA T N p) := by
            unfold tkE
            rw [if_pos cA, if_neg c1, if_pos c2]
          unfold tkV
          have hm : tkE T N p - tkA T N p = 0 ∨ tkE T N p - tkA T N p = 1 ∨ tkE T N p - tkA T N p = 2 ∨ tkE T N p - tkA T N p = 3 := by omega
          have hd := dgv_b (T := T) (a := tkA T N p) (min (tkE T N p - tkA T N p) 3) (by omega) (fun j hj => rnd_all isDg T _ (tkA T N p) rfl _ (by omega) (by rw [← hE]; omega))
          rcases hm with e | e | e | e <;> rw [e] at hd ⊢
          all_goals
            have h2 := hd.2
            have h1 := hd.1
            refine ⟨h1, ?_⟩
          · have : dgv T (tkA T N p) (min 0 3) < 1 := h2
            omega
          · have : dgv T (tkA T N p) (min 1 3) < 10 := h2
            omega
          · have : dgv T (tkA T N p) (min 2 3) < 100 := h2
            omega
          · have : dgv T (tkA T N p) (min 3 3) < 1000 := h2
            omega
      · split at hh <;> omega
  · omega
section
variable {d : Nat} {n : Nat × Nat} {Φ : Int → (Nat → Nat → Int) → Prop} {M : Nat → Nat → Int} {T : Nat → Int} {N p : Nat} {P : Nat → Int}
theorem atR.tap (h : atR M T N p P) : tapR M T N := h.1
theorem atR.le (h : atR M T N p P) : p ≤ N := h.2.1
theorem atR.n900 (h : atR M T N p P) : N ≤ 900 := h.1.2.1
theorem atR.pl (h : atR M T N p P) : M 1 6 = (tkA T N p : Nat) := h.2.2.1
theorem atR.bh (h : atR M T N p P) : M 1 7 = (tkE T N p : Nat) := h.2.2.2.1
theorem atR.kd (h : atR M T N p P) : M 1 9 = (tkK T N p : Nat) := h.2.2.2.2.1
theorem atR.val (h : atR M T N p P) (hk : tkK T N p = 23) : M 1 10 = tkV T N p := h.2.2.2.2.2.1 hk
theorem atR.w0 (h : atR M T N p P) : M 1 11 = 0 := h.2.2.2.2.2.2.1
theorem atR.row (h : atR M T N p P) : M 5 = P := h.2.2.2.2.2.2.2
theorem atR.nx (h : atR M T N p P) : tkE T N p ≤ N ∧ (tkK T N p ≠ 24 → p < tkE T N p) := ⟨(tkE_le (T := T) h.le).2, fun c => tkE_go h.le c⟩
theorem atR.set (h : atR M T N p P) (k : Nat) (x : Int) : atR (sI M 5 k x) T N p (pset P k x) := by
  obtain ⟨⟨a1, a2, a3⟩, a4, a5, a6, a7, a8, a9, a10⟩ := h
  have r1 : (sI M 5 k x) 1 = M 1 := sI_row (by omega)
  refine ⟨⟨by rw [r1]; exact a1, a2, fun j hj => by rw [sI_row (by omega)]; exact a3 j hj⟩, a4, by rw [r1]; exact a5, by rw [r1]; exact a6, by rw [r1]; exact a7, fun z => by rw [r1]; exact a8 z, by rw [r1]; exact a9, ?_⟩
  rw [sI_p, a10]
theorem s_next (h : atR M T N p P) (q : ∀ M', frZ M M' → atR M' T N (tkE T N p) P → Φ 0 M') : CR (d + 2) 190 [(2, 1)] M n Φ := by
  refine sp_next (tkE T N p) h.tap h.bh h.nx.1 (fun M' f a1 a2 a3 a4 => q M' (frZ.ofX f) ⟨h.tap.fr f, h.nx.1, a1, a2, a3, a4, ?_, ?_⟩)
  · rw [f.2 11 (by omega) (by omega) (by omega) (by omega)]; exact h.w0
  · rw [f.1 5 (by omega)]; exact h.row
theorem s_is (k : Nat) (h : atR M T N p P) (q1 : tkK T N p = k → Φ 1 M) (q0 : tkK T N p ≠ k → Φ 0 M) : CR (d + 1) 192 [(2, 1), (0, (k : Int))] M n Φ := by
  refine e12_is ⟨fun c => absurd h.w0 c, fun _ => ?_⟩
  rw [h.kd]
  exact ⟨fun c => q0 (by omega), fun c => q1 (by omega)⟩
theorem s_eats (k : Nat) (h : atR M T N p P) (q1 : tkK T N p = k → ∀ M', frZ M M' → atR M' T N (tkE T N p) P → Φ 1 M') (q0 : tkK T N p ≠ k → Φ 0 M) : CR (d + 3) 193 [(2, 1), (0, (k : Int))] M n Φ :=
  e12_eats (s_is k h (fun c => io1 (s_next h (q1 c))) (fun c => iz1 (q0 c)))
theorem s_fails (e : Int) (he : e ≠ 0) (h : atR M T N p P) (q : ∀ M' k a, frZ M M' → badR M' k a → (.inr (k, a) : pR) = flt T N e p → Φ 0 M') : CR (d + 1) 191 [(2, 1), (0, e)] M n Φ := by
  refine e12_fails ⟨fun _ => ?_, fun c => absurd h.w0 c⟩
  have fq : ∀ x : Int, x ≠ 0 → x = (if tkK T N p = 25 then 1 else e) → Φ 0 (sI (sI M 1 11 x) 1 12 ((sI M 1 11 x) 1 6)) := by
    intro x hx hx2
    have e6 : (sI M 1 11 x) 1 6 = (tkA T N p : Nat) := by rw [sI_ne (by omega)]; exact h.pl
    rw [e6]
    refine q _ x (tkA T N p) (((frZ.refl M).one (by omega)).one (by omega)) ⟨by rw [sI_ne (by omega), sI_same], hx, sI_same _ _ _ _⟩ ?_
    unfold flt
    rw [hx2]
  rw [h.kd]
  refine ⟨fun c => fq e he (by rw [if_neg (by omega)]), fun c => fq 1 (by decide) (by rw [if_pos (by omega)])⟩
theorem s_codes (x : Int) (h : atR M T N p P) (hb : 0 ≤ P 363 ∧ P 363 < 900) (q : ∀ M', frZ M M' → atR M' T N p (adC x P) → Φ 0 M') : CR (d + 1) 197 [(2, 1), (0, x)] M n Φ := by
  refine e12_codes ⟨fun _ => ?_, fun c => absurd h.w0 c⟩
  have r5 : M 5 363 = P 363 := by rw [h.row]
  have e1 : w32 (364 + M 5 363) = ((364 + (P 363).toNat : Nat) : Int) := by rw [r5, w32_id (by omega) (by omega)]; omega
  rw [e1, Int.toNat_natCast]
  refine ⟨⟨by omega, by omega, trivial⟩, ?_⟩
  have e2 : w32 ((sI M 5 (364 + (P 363).toNat) x) 5 363 + 1) = P 363 + 1 := by rw [sI_ne (by omega), r5, w32_id (by omega) (by omega)]
  rw [e2]
  exact q _ ((frZ.refl M).five.five) ((h.set _ _).set _ _)
theorem s_takes (lo hi : Int) (h : atR M T N p P) (q1 : tkK T N p = 23 → lo ≤ tkV T N p → tkV T N p ≤ hi → ∀ M', frZ M M' → atR M' T N (tkE T N p) P → Φ (tkV T N p) M') (q0 : ∀ M' x k a, frZ M M' → badR M' k a → (.inr (k, a) : pR) = flt T N (if tkK T N p = 23 then 3 else 2) p → ¬ (tkK T N p = 23 ∧ lo ≤ tkV T N p ∧ tkV T N p ≤ hi) → Φ x M') : CR (d + 3) 194 [(2, 1), (0, lo), (0, hi)] M n Φ := by
  refine e12_takes (s_is 23 h (fun c => io1 ?_) (fun c => iz1 ?_))
  · rw [h.val c]
    refine sp_within _ _ _ (br' (fun e => ?_) (fun e => ?_))
    · have e := of_decide_eq_true e
      rw [h.val c]
      exact ⟨fun z => absurd h.w0 z, fun _ => s_next h (q1 c e.1 e.2)⟩
    · have e := of_decide_eq_false e
      refine s_fails 3 (by decide) h (fun M' k a f b r => ?_)
      refine ⟨fun _ => q0 M' _ k a f b (by rw [if_pos c]; exact r) (fun z => e z.2), fun z => absurd (by rw [b.1]; exact b.2.1) z⟩
  · refine s_fails 2 (by decide) h (fun M' k a f b r => ?_)
    refine ⟨fun _ => q0 M' _ k a f b (by rw [if_neg c]; exact r) (fun z => c z.1), fun z => absurd (by rw [b.1]; exact b.2.1) z⟩
theorem s_goes (deep : Nat) (h : atR M T N p P) (q0 : deep = 6 → ∀ M' k a, frZ M M' → badR M' k a → (.inr (k, a) : pR) = flt T N 4 p → Φ 0 M') (q1 : deep ≠ 6 → ∀ M', frZ M M' → atR M' T N (tkE T N p) P → Φ 1 M') : CR (d + 3) 198 [(2, 1), (0, (deep : Int))] M n Φ := by
  refine e12_goesIn ⟨fun c => ⟨fun z => absurd h.w0 z, fun _ => s_next h (fun M' f h' => ⟨fun z => absurd h'.w0 z, fun _ => q1 (by omega) M' f h'⟩)⟩, fun c => ?_⟩
  refine s_fails 4 (by decide) h (fun M' k a f b r => ?_)
  have hw : M' 1 11 ≠ 0 := by rw [b.1]; exact b.2.1
  exact ⟨fun _ => ⟨fun _ => q0 (by omega) M' k a f b r, fun z => absurd hw z⟩, fun z => absurd hw z⟩
theorem s_word (l : Nat) (hl : l < 3) (h15 : M 1 15 = (l : Int)) (k : Nat) (q : Φ (wrT l k) M) : CR (d + 1) 196 [(2, 1), (0, (k : Int))] M n Φ := by
  apply e12_wordOf
  rw [h15]
  unfold wrT at q
  have hq : ∀ {k0 : Nat} {A : Prop}, (k0 = k → A) → (((k : Nat) : Int) = ((k0 : Nat) : Int) → A) := fun f z => f (by omega)
  refine ⟨hq (k0 := 2) (fun e => ?_), fun n2 => ⟨hq (k0 := 3) (fun e => ?_), fun n3 => ⟨hq (k0 := 4) (fun e => ?_), fun n4 => ⟨hq (k0 := 5) (fun e => ?_), fun n5 => ⟨hq (k0 := 6) (fun e => ?_), fun n6 => ⟨hq (k0 := 7) (fun e => ?_), fun n7 => ⟨hq (k0 := 8) (fun e => ?_), fun n8 => ⟨hq (k0 := 9) (fun e => ?_), fun n9 => ⟨hq (k0 := 10) (fun e => ?_), fun n10 => ⟨hq (k0 := 11) (fun e => ?_), fun n11 => ⟨hq (k0 := 12) (fun e => ?_), fun n12 => ⟨hq (k0 := 13) (fun e => ?_), fun n13 => ⟨hq (k0 := 14) (fun e => ?_), fun n14 => ⟨hq (k0 := 15) (fun e => ?_), fun n15 => ⟨hq (k0 := 16) (fun e => ?_), fun n16 => ⟨hq (k0 := 17) (fun e => ?_), fun n17 => ⟨hq (k0 := 18) (fun e => ?_), fun n18 => ?_⟩⟩⟩⟩⟩⟩⟩⟩⟩⟩⟩⟩⟩⟩⟩⟩⟩
  · subst e
    refine ⟨fun c => ?_, fun c => ?_⟩
    · have q : Φ (if l = 0 then 2 else -1) M := q
      rw [if_neg (by omega)] at q; exact q
    · have q : Φ (if l = 0 then 2 else -1) M := q
      rw [if_pos (by omega)] at q; exact q
  · subst e
    refine ⟨fun c => ?_, fun c => ?_⟩
    · have q : Φ (if l = 0 then 4 else -1) M := q
      rw [if_neg (by omega)] at q; exact q
    · have q : Φ (if l = 0 then 4 else -1) M := q
      rw [if_pos (by omega)] at q; exact q
  · subst e; exact q
  · subst e; exact q
  · subst e; exact q
  · subst e; exact q
  · subst e; exact q
  · subst e; exact q
  · subst e; exact q
  · subst e; exact q
  · subst e; exact q
  · subst e; exact q
  · subst e; exact q
  · subst e
    refine ⟨fun c => ?_, fun c => ?_⟩
    · have q : Φ (if l = 0 then 3 else -1) M := q
      rw [if_neg (by omega)] at q; exact q
    · have q : Φ (if l = 0 then 3 else -1) M := q
      rw [if_pos (by omega)] at q; exact q
  · subst e
    refine ⟨fun c => ?_, fun c => ?_⟩
    · have q : Φ (if l = 1 then 5 else -1) M := q
      rw [if_neg (by omega)] at q; exact q
    · have q : Φ (if l = 1 then 5 else -1) M := q
      rw [if_pos (by omega)] at q; exact q
  · subst e
    refine ⟨fun c => ?_, fun c => ?_⟩
    · have q : Φ (if l = 1 then 6 else -1) M := q
      rw [if_neg (by omega)] at q; exact q
    · have q : Φ (if l = 1 then 6 else -1) M := q
      rw [if_pos (by omega)] at q; exact q
  · subst e
    refine ⟨fun c => ?_, fun c => ?_⟩
    · have q : Φ (if l = 2 then 7 else -1) M := q
      rw [if_neg (by omega)] at q; exact q
    · have q : Φ (if l = 2 then 7 else -1) M := q
      rw [if_pos (by omega)] at q; exact q
  · rw [if_neg (by omega), if_neg (by omega), if_neg (by omega), if_neg (by omega), if_neg (by omega), if_neg (by omega), if_neg (by omega), if_neg (by omega)] at q
    exact q
theorem w_is (x : Int) (hw : M 1 11 ≠ 0) (q : Φ 0 M) : CR (d + 1) 192 [(2, 1), (0, x)] M n Φ := e12_is ⟨fun _ => q, fun c => absurd hw c⟩
theorem w_eats (x : Int) (hw : M 1 11 ≠ 0) (q : Φ 0 M) : CR (d + 2) 193 [(2, 1), (0, x)] M n Φ := e12_eats (w_is x hw (iz1 q))
theorem w_fails (x : Int) (hw : M 1 11 ≠ 0) (q : Φ 0 M) : CR (d + 1) 191 [(2, 1), (0, x)] M n Φ := e12_fails ⟨fun c => absurd c hw, fun _ => q⟩
theorem w_codes (x : Int) (hw : M 1 11 ≠ 0) (q : Φ 0 M) : CR (d + 1) 197 [(2, 1), (0, x)] M n Φ := e12_codes ⟨fun c => absurd c hw, fun _ => q⟩
theorem w_takes (x y : Int) (hw : M 1 11 ≠ 0) (q : Φ (M 1 10) M) : CR (d + 2) 194 [(2, 1), (0, x), (0, y)] M n Φ := e12_takes (w_is 23 hw (iz1 (w_fails 2 hw ⟨fun _ => q, fun c => absurd hw c⟩)))
theorem w_atom (x : Int) (hw : M 1 11 ≠ 0) (q : Φ 0 M) : CR (d + 2) 199 [(2, 1), (0, x)] M n Φ := e12_readAtom (w_is 23 hw (iz0 ⟨fun _ => w_is 35 hw (iz0 (w_fails 2 hw q)), fun c => absurd hw c⟩))
theorem w_term (x : Int) (hw : M 1 11 ≠ 0) (q : Φ 0 M) : CR (d + 3) 200 [(2, 1), (0, x)] M n Φ := e12_readTerm (w_atom x hw (w_eats 34 hw (iz0 q)))
theorem w_sum (x : Int) (hw : M 1 11 ≠ 0) (q : Φ 0 M) : CR (d + 4) 201 [(2, 1), (0, x)] M n Φ := e12_readSum (w_term x hw (w_is 32 hw (iz1 (w_is 33 hw (iz0 q)))))
theorem w_unit (x : Int) (hw : M 1 11 ≠ 0) (q : Φ 0 M) : CR (d + 5) 202 [(2, 1), (0, x)] M n Φ := e12_readUnit (w_is 21 hw (iz0 (w_is 37 hw (iz0 (w_sum x hw (w_is 39 hw (iz0 (w_is 40 hw (iz0 (w_is 39 hw (iz1 (w_is 40 hw (iz1 (w_is 41 hw (iz0 (w_fails 2 hw (w_sum x hw (w_codes 3005 hw q))))))))))))))))))
theorem w_both (x : Int) (hw : M 1 11 ≠ 0) (q : Φ 0 M) : CR (d + 6) 203 [(2, 1), (0, x)] M n Φ := e12_readBoth (w_unit x hw (w_eats 19 hw (iz0 q)))
theorem w_truth (x : Int) (hw : M 1 11 ≠ 0) (q : Φ 0 M) : CR (d + 7) 204 [(2, 1), (0, x)] M n Φ := e12_readTruth (w_both x hw (w_eats 20 hw (iz0 q)))
end
