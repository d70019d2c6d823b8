/-! ===== the next token: the class ===== -/
/-- the class's words in the reference's order -/
def cwd (c : Nat) : Nat := if c < 15 then c else if c = 15 then 20 else if c = 16 then 19 else if c = 17 then 21 else c - 3
def psC : Nat → Nat
  | 0 => 0
  | k + 1 => psC k + (wdL (cwd k)).length + 1
/-- a token's kind in the class's numbers -/
def cvK (k : Nat) : Int := if k < 15 then 256 + (k : Int) else if k < 19 then 259 + (k : Int) else if k = 19 then 272 else if k = 20 then 271 else if k = 21 then 273 else if k = 22 then 400 else if k = 23 then 2 else if k = 24 then 0 else if k = 25 then 1 else mAtT sgL (k - 30)
theorem cvK_wd : ∀ c, c < 22 → cvK (cwd c) = ((256 + c : Nat) : Int) ∧ cwd c < 22 := by decide +kernel
theorem cwd_on : ∀ k, k < 22 → ∃ c, c < 22 ∧ cwd c = k := by
  intro k hk
  by_cases h1 : k < 15
  · exact ⟨k, by omega, if_pos h1⟩
  · have : k = 15 ∨ k = 16 ∨ k = 17 ∨ k = 18 ∨ k = 19 ∨ k = 20 ∨ k = 21 := by omega
    rcases this with e | e | e | e | e | e | e <;> subst e
    · exact ⟨18, by omega, rfl⟩
    · exact ⟨19, by omega, rfl⟩
    · exact ⟨20, by omega, rfl⟩
    · exact ⟨21, by omega, rfl⟩
    · exact ⟨16, by omega, rfl⟩
    · exact ⟨15, by omega, rfl⟩
    · exact ⟨17, by omega, rfl⟩
theorem tx1_ok : ∀ k, k < 22 → (∀ i, i < 9 → i ≤ (wdL (cwd k)).length → mAtT (m_tx 1) (psC k + i) = atL (wdL (cwd k)) i) ∧ psC (k + 1) ≤ 111 := by decide +kernel
theorem tx1_len : mLenT (m_tx 1) = psC 22 := by decide +kernel
theorem psC_lt {k : Nat} (hk : k < 22) : psC k + (wdL (cwd k)).length < psC 22 ∧ psC 22 ≤ 111 := by
  have key : ∀ j, psC k + (wdL (cwd k)).length + 1 ≤ psC (k + 1 + j) := by
    intro j
    induction j with
    | zero => exact Nat.le_refl _
    | succ j ih =>
      show _ ≤ psC (k + 1 + j) + (wdL (cwd (k + 1 + j))).length + 1
      omega
  have h1 := key (22 - (k + 1))
  rw [show k + 1 + (22 - (k + 1)) = 22 by omega] at h1
  exact ⟨by omega, (tx1_ok 21 (by omega)).2⟩
theorem eqW'_inj {T : Nat → Int} {e : Nat} : ∀ {l l' : List Int} {a : Nat}, eqW' T e l a = true → eqW' T e l' a = true → l = l'
  | [], [], _, _, _ => rfl
  | [], c :: l', a, h, h' => by
    have h1 : a = e := of_decide_eq_true h
    have h2 : (decide (a < e ∧ T a = c) && eqW' T e l' (a + 1)) = true := h'
    rw [decide_eq_false (by omega)] at h2
    cases h2
  | c :: l, [], a, h', h => by
    have h1 : a = e := of_decide_eq_true h
    have h2 : (decide (a < e ∧ T a = c) && eqW' T e l (a + 1)) = true := h'
    rw [decide_eq_false (by omega)] at h2
    cases h2
  | c :: l, c' :: l', a, h, h' => by
    have h1 : (decide (a < e ∧ T a = c) && eqW' T e l (a + 1)) = true := h
    have h2 : (decide (a < e ∧ T a = c') && eqW' T e l' (a + 1)) = true := h'
    rw [Bool.and_eq_true] at h1 h2
    have h3 := of_decide_eq_true h1.1
    have h4 := of_decide_eq_true h2.1
    rw [eqW'_inj h1.2 h2.2, ← h3.2, ← h4.2]
theorem wdL_inj : ∀ j, j < 22 → ∀ k, k < 22 → wdL j = wdL k → j = k := by decide +kernel
theorem keyN_eq {T : Nat → Int} {a e k : Nat} (hk : k < 22) (h : eqW' T e (wdL k) a = true) : keyN T a e = k := by
  obtain ⟨f1, f2, f3⟩ := fstB_all (fun k => eqW' T e (wdL k) a) 22
  rcases Nat.lt_trichotomy (keyN T a e) k with z | z | z
  · exact wdL_inj _ (by omega) k hk (eqW'_inj (f2 (show keyN T a e < 22 by omega)) h)
  · exact z
  · have z2 := f3 k z
    rw [h] at z2
    cases z2
theorem keyN_no {T : Nat → Int} {a e : Nat} (h : ∀ c, c < 22 → eqW' T e (wdL (cwd c)) a = false) : keyN T a e = 22 := by
  obtain ⟨f1, f2, f3⟩ := fstB_all (fun k => eqW' T e (wdL k) a) 22
  by_cases c : keyN T a e < 22
  · have z := f2 c
    obtain ⟨j, hj, e2⟩ := cwd_on _ c
    have z2 := h j hj
    rw [e2] at z2
    have z : eqW' T e (wdL (keyN T a e)) a = true := z
    rw [z2] at z
    cases z
  · have f1 : keyN T a e ≤ 22 := f1
    omega
theorem i2b_eq {x c : Int} (hx : 0 ≤ x ∧ x < 256) (hc : 0 ≤ c ∧ c < 128) : m_i2b x = c ↔ x = c := by unfold m_i2b; omega
theorem i2b_sm {x : Int} (hx : 0 ≤ x ∧ x < 256) : isSm (m_i2b x) = isSm x := by unfold isSm; exact decide_eq_decide.mpr (by unfold m_i2b; omega)
theorem i2b_dg {x : Int} (hx : 0 ≤ x ∧ x < 256) : isDg (m_i2b x) = isDg x := by unfold isDg; exact decide_eq_decide.mpr (by unfold m_i2b; omega)
theorem i2b_id {x : Int} (hx : 0 ≤ x ∧ x < 128) : m_i2b x = x := by unfold m_i2b; omega
theorem i2b_and : ∀ x : Nat, x < 256 → (Int32.ofInt (m_i2b x) &&& Int32.ofInt 255).toInt = (x : Int) := by decide +kernel
theorem i2b_255 {x : Int} (hx : 0 ≤ x ∧ x < 256) : m_and (m_i2b x) 255 = x := by
  obtain ⟨k, hk⟩ : ∃ k : Nat, x = (k : Int) := ⟨x.toNat, by omega⟩
  subst hk
  rw [m_and_eq]
  exact i2b_and k (by omega)
theorem i2c_id {x : Int} (hx : 0 ≤ x ∧ x < 256) : m_i2c x = x := by unfold m_i2c; omega
theorem wdL_b : ∀ k, k < 22 → ∀ i, i < 9 → i < (wdL k).length → 0 ≤ atL (wdL k) i ∧ atL (wdL k) i < 128 := by decide +kernel
/-- the tape of the class -/
def tapC (M : Nat → Nat → Int) (T : Nat → Int) (N : Nat) : Prop := M 3 5 = (N : Int) ∧ N ≤ 900 ∧ (∀ k, k < 900 → M 2 k = m_i2b (T k) ∧ 0 ≤ T k ∧ T k < 256)
def frY (M M' : Nat → Nat → Int) : Prop := (∀ c, c ≠ 3 → M' c = M c) ∧ (∀ k, (k < 6 ∨ 9 < k) → M' 3 k = M 3 k)
theorem frY.refl (M : Nat → Nat → Int) : frY M M := ⟨fun _ _ => rfl, fun _ _ => rfl⟩
theorem frY.set {M M' : Nat → Nat → Int} {k : Nat} {x : Int} (h : frY M M') (hk : 6 ≤ k ∧ k ≤ 9) : frY M (sI M' 3 k x) := ⟨fun c hc => (sI_row hc).trans (h.1 c hc), fun j hj => by rw [sI_ne (by omega)]; exact h.2 j hj⟩
theorem frY.trans {M M' M2 : Nat → Nat → Int} (h : frY M M') (h2 : frY M' M2) : frY M M2 := ⟨fun c hc => (h2.1 c hc).trans (h.1 c hc), fun j hj => (h2.2 j hj).trans (h.2 j hj)⟩
theorem tapC.fr {M M' : Nat → Nat → Int} {T : Nat → Int} {N : Nat} (t : tapC M T N) (h : frY M M') : tapC M' T N := ⟨by rw [h.2 5 (by omega)]; exact t.1, t.2.1, fun k hk => by rw [h.1 2 (by omega)]; exact t.2.2 k hk⟩
section
variable {d : Nat} {n : Nat × Nat} {Φ : Int → (Nat → Nat → Int) → Prop} {M : Nat → Nat → Int} {T : Nat → Int} {N : Nat} {w : cQ} {w1 : Nat × cQr}
theorem c_small (c : Int) (q : Φ (b2i (isSm c)) M) : CF (d + 1) 47 [(0, c)] w M n Φ := by
  apply e4_isSmall
  unfold isSm at q
  refine ⟨fun h => ?_, fun h => ⟨fun h2 => ?_, fun h2 => ?_⟩⟩
  · rw [decide_eq_false (by omega)] at q; exact q
  · rw [decide_eq_false (by omega)] at q; exact q
  · rw [decide_eq_true (by omega)] at q; exact q
theorem c_digit (c : Int) (q : Φ (b2i (isDg c)) M) : CF (d + 1) 48 [(0, c)] w M n Φ := by
  apply e4_isDigit
  unfold isDg at q
  refine ⟨fun h => ?_, fun h => ⟨fun h2 => ?_, fun h2 => ?_⟩⟩
  · rw [decide_eq_false (by omega)] at q; exact q
  · rw [decide_eq_false (by omega)] at q; exact q
  · rw [decide_eq_true (by omega)] at q; exact q
theorem c_words (a e : Nat) (t : tapC M T N) (h8 : M 3 8 = (a : Int)) (h6 : M 3 6 = (e : Int)) (h7 : M 3 7 = 400) (hae : a ≤ e) (heN : e ≤ N) (q : ∀ M', frY M M' → M' 3 8 = (a : Int) → M' 3 6 = (e : Int) → M' 3 7 = cvK (keyN T a e) → Φ 0 M') : W4_takeWord_60 d Φ 256 (a : Int) 1 0 (2, w1) M n := by
  obtain ⟨t1, t2, t3⟩ := t
  have key : ∀ k, k ≤ 22 → (∀ j, j < k → eqW' T e (wdL (cwd j)) a = false) → W4_takeWord_60 d Φ ((256 + k : Nat) : Int) (a : Int) 1 (psC k : Nat) (2, w1) M n := by
    refine up (fun hno => ?_) (fun k hk ih hno => ?_)
    · apply v4_takeWord_60
      rw [tx1_len]
      refine ⟨fun _ => q M (frY.refl M) h8 h6 ?_, fun c => absurd (Int.le_refl _) c⟩
      rw [keyN_no hno, h7]; rfl
    · obtain ⟨hp1, hp2⟩ := psC_lt hk
      obtain ⟨tx, _⟩ := tx1_ok k hk
      obtain ⟨hcv, hc22⟩ := cvK_wd k hk
      have hl9 := (tx2_ok _ hc22).2.1
      have go : eqW' T e (wdL (cwd k)) a = false → W4_takeWord_60 d Φ (w32 (((256 + k : Nat) : Int) + 1)) (M 3 8) 1 (w32 (((psC k + (wdL (cwd k)).length : Nat) : Int) + 1)) (2, w1) M n := by
        intro hf
        rw [h8, w32_s (k := 256 + k) (by omega), w32_s (k := psC k + (wdL (cwd k)).length) (by omega)]
        exact ih (fun j hj => by
          by_cases c : j = k
          · rw [c]; exact hf
          · exact hno j (by omega))
      have inn : ∀ i, i ≤ (wdL (cwd k)).length → ∀ b : Bool, (eqW' T e (wdL (cwd k)) a = (b && eqW' T e ((wdL (cwd k)).drop i) (a + i))) → W4_takeWord_60 d Φ ((256 + k : Nat) : Int) ((a + i : Nat) : Int) (b2i b) ((psC k + i : Nat) : Int) (2, w1) M n := by
        refine up (fun b heq => ?_) (fun i hi ih2 b heq => ?_)
        · apply v4_takeWord_60
          rw [tx1_len, Int.toNat_natCast, tx _ hl9 (Nat.le_refl _), atL_end, h6, h7]
          rw [List.drop_length] at heq
          refine ⟨fun c => absurd c (by omega), fun _ => ⟨fun c => absurd rfl c, fun _ => ⟨by omega, fun _ => br (fun hb => go ?_) (fun hb => ⟨fun c => go ?_, fun c => ?_⟩), fun c => absurd rfl c⟩⟩⟩
          · rw [heq, hb]; rfl
          · rw [heq, hb]
            show decide (a + (wdL (cwd k)).length = e) = false
            exact decide_eq_false (by omega)
          · have ht : eqW' T e (wdL (cwd k)) a = true := by
              rw [heq, hb]
              show decide (a + (wdL (cwd k)).length = e) = true
              exact decide_eq_true (by omega)
            have hfin := q _ ((frY.refl M).set (k := 7) (x := ((256 + k : Nat) : Int)) (by omega)) (by rw [sI_ne (by omega)]; exact h8) (by rw [sI_ne (by omega)]; exact h6) (by rw [sI_same, keyN_eq hc22 ht, hcv])
            apply v4_takeWord_60
            refine ⟨fun _ => hfin, fun _ => ⟨fun _ => hfin, fun c2 => absurd ?_ c2⟩⟩
            rw [sI_same]
            omega
        · apply v4_takeWord_60
          have hne := wdL_ne _ hc22 i (by omega) hi
          have hb9 := wdL_b _ hc22 i (by omega) hi
          rw [tx1_len, w32_s (k := psC k + i) (by omega), w32_s (k := a + i) (by omega)]
          simp only [Int.toNat_natCast]
          rw [tx i (by omega) (by omega), h6, h7]
          rw [atL_drop _ i hi] at heq
          refine ⟨fun c => absurd c (by omega), fun _ => ⟨fun c => absurd rfl c, fun _ => ⟨by omega, fun c => absurd c hne, fun _ => br (fun hb => ih2 false ?_) (fun hb => ⟨fun c => ih2 false ?_, fun c => ⟨by omega, fun c2 => ih2 false ?_, fun c2 => ih2 true ?_⟩⟩)⟩⟩⟩
          · rw [heq, hb]; rfl
          · rw [heq, hb]
            show (decide (a + i < e ∧ _) && _) = false
            rw [decide_eq_false (by omega)]; rfl
          · rw [(t3 (a + i) (by omega)).1] at c2
            rw [heq, hb]
            show (decide (a + i < e ∧ T (a + i) = atL (wdL (cwd k)) i) && _) = false
            rw [decide_eq_false (fun z => c2 ((i2b_eq (t3 (a + i) (by omega)).2 hb9).mpr z.2))]; rfl
          · rw [(t3 (a + i) (by omega)).1] at c2
            rw [heq, hb]
            show (decide (a + i < e ∧ T (a + i) = atL (wdL (cwd k)) i) && eqW' T e ((wdL (cwd k)).drop (i + 1)) (a + i + 1)) = _
            rw [decide_eq_true ⟨by omega, (i2b_eq (t3 (a + i) (by omega)).2 hb9).mp (Decidable.not_not.mp c2)⟩]
            rfl
      exact inn 0 (Nat.zero_le _) true rfl
  exact key 0 (Nat.zero_le _) (fun j hj => absurd hj (Nat.not_lt_zero _))
theorem c_takeWord (a : Nat) (t : tapC M T N) (h8 : M 3 8 = (a : Int)) (h6 : M 3 6 = (a : Int)) (ha : a ≤ N) (q : ∀ M', frY M M' → M' 3 8 = (a : Int) → M' 3 6 = (rnd isSm T N a : Nat) → M' 3 7 = cvK (keyN T a (rnd isSm T N a)) → Φ 0 M') : CF (d + 2) 45 [(2, 3)] (2, w1) M n Φ := by
  have hN := t.2.1
  have fin : ∀ i, i ≤ N → a ≤ i → rnd isSm T N a = i → ∀ M4, frY M M4 → M4 3 8 = (a : Int) → M4 3 6 = (i : Int) → W4_takeWord_60 (d + 1) Φ 256 ((sI M4 3 7 400) 3 8) 1 0 (2, w1) (sI M4 3 7 400) n := by
    intro i hi hai hr M4 g1 g2 g3
    have e8 : (sI M4 3 7 400) 3 8 = (a : Int) := by rw [sI_ne (by omega)]; exact g2
    rw [e8]
    refine c_words a i ((t.fr g1).fr ((frY.refl M4).set (by omega))) e8 (by rw [sI_ne (by omega)]; exact g3) (sI_same _ _ _ _) hai hi (fun M' k1 k2 k3 k4 => ?_)
    exact q M' ((g1.set (by omega)).trans k1) k2 (by rw [hr]; exact k3) (by rw [hr]; exact k4)
  have key : ∀ i, i ≤ N → a ≤ i → rnd isSm T N a = rnd isSm T N i → ∀ M4, frY M M4 → M4 3 8 = (a : Int) → M4 3 6 = (i : Int) → (((M4 3 5) ≤ (M4 3 6) → W4_takeWord_60 (d + 1) Φ 256 ((sI M4 3 7 400) 3 8) 1 0 (2, w1) (sI M4 3 7 400) n) ∧ (¬ ((M4 3 5) ≤ (M4 3 6)) → ((0 : Int) ≤ (M4 3 6) ∧ (M4 3 6 : Int) < ((900 : Nat) : Int)) ∧ (CF (d + 1) 47 [(0, M4 2 (M4 3 6).toNat)] (2, w1) M4 n (fun r0 M1 => (r0 = 0 → W4_takeWord_60 (d + 1) Φ 256 ((sI M1 3 7 400) 3 8) 1 0 (2, w1) (sI M1 3 7 400) n) ∧ (¬ (r0 = 0) → W4_takeWord_0 (d + 1) Φ (2, w1) (sI M1 3 6 (w32 ((M1 3 6) + 1))) n))))) := by
    refine up (fun hai hr M4 g1 g2 g3 => ?_) (fun i hi ih hai hr M4 g1 g2 g3 => ?_)
    · have g5 : M4 3 5 = (N : Int) := (t.fr g1).1
      refine ⟨fun _ => fin N (Nat.le_refl _) hai (by rw [hr]; exact rnd_end (by omega)) M4 g1 g2 g3, fun c => absurd ?_ c⟩
      rw [g3, g5]; omega
    · have g5 : M4 3 5 = (N : Int) := (t.fr g1).1
      have gt := (t.fr g1).2.2 i (by omega)
      refine ⟨fun c => absurd c (by rw [g3, g5]; omega), fun _ => ⟨by rw [g3]; omega, ?_⟩⟩
      rw [g3, Int.toNat_natCast, gt.1]
      refine c_small _ ?_
      rw [i2b_sm gt.2]
      refine br (fun z => fin i (by omega) hai (by rw [hr]; exact rnd_end (fun y => by rw [z] at y; cases y.2)) M4 g1 g2 g3) (fun z => ?_)
      rw [g3, w32_s (by omega)]
      exact v4_takeWord_0 (ih (by omega) (hr.trans (rnd_go hi z)) _ (g1.set (by omega)) (by rw [sI_ne (by omega)]; exact g2) (sI_same _ _ _ _))
  exact e4_takeWord (key a ha (Nat.le_refl _) rfl M (frY.refl M) h8 h6)
theorem c_takeNumber (a : Nat) (t : tapC M T N) (h8 : M 3 8 = (a : Int)) (ha : a ≤ N) (q : ∀ M', frY M M' → M' 3 8 = (a : Int) → M' 3 6 = (rnd isDg T N a : Nat) → M' 3 7 = (if rnd isDg T N a - a > 3 then 1 else 2) → M' 3 9 = dgv T a (min (rnd isDg T N a - a) 3) → Φ 0 M') : CF (d + 2) 46 [(2, 3)] (2, w1) M n Φ := by
  have hN := t.2.1
  have hdv : ∀ k, k ≤ 3 → (∀ j, j < k → isDg (T (a + j)) = true) → 0 ≤ dgv T a k ∧ dgv T a k < 10 ^ k := by
    intro k
    induction k with
    | zero => intro _ _; exact ⟨Int.le_refl 0, (by show (0 : Int) < 1; omega)⟩
    | succ k ih =>
      intro hk hall
      have h1 := ih (by omega) (fun j hj => hall j (by omega))
      have h2 := of_decide_eq_true (hall k (by omega))
      have h3 : k = 0 ∨ k = 1 ∨ k = 2 := by omega
      show 0 ≤ 10 * dgv T a k + T (a + k) - 48 ∧ 10 * dgv T a k + T (a + k) - 48 < 10 ^ (k + 1)
      rcases h3 with z | z | z <;> subst z <;> omega
  have stop : ∀ i, i ≤ N → a ≤ i → rnd isDg T N a = i → ∀ M4, frY M M4 → M4 3 8 = (a : Int) → M4 3 9 = dgv T a (min (i - a) 3) → (((w32 ((i : Int) - ((sI M4 3 6 (i : Int)) 3 8))) ≤ 3 → Φ 0 (sI (sI M4 3 6 (i : Int)) 3 7 2)) ∧ (¬ ((w32 ((i : Int) - ((sI M4 3 6 (i : Int)) 3 8))) ≤ 3) → Φ 0 (sI (sI M4 3 6 (i : Int)) 3 7 1))) := by
    intro i hi hai hr M4 g1 g2 g4
    have e8 : (sI M4 3 6 (i : Int)) 3 8 = (a : Int) := by rw [sI_ne (by omega)]; exact g2
    rw [e8, w32_id (by omega) (by omega)]
    have fq : ∀ x : Int, x = (if rnd isDg T N a - a > 3 then 1 else 2) → Φ 0 (sI (sI M4 3 6 (i : Int)) 3 7 x) := by
      intro x hx
      refine q _ ((g1.set (by omega)).set (by omega)) (by rw [sI_ne (by omega)]; exact e8) (by rw [sI_ne (by omega), sI_same, hr]) (by rw [sI_same]; exact hx) ?_
      rw [sI_ne (by omega), sI_ne (by omega), hr]; exact g4
    refine ⟨fun c => fq 2 ?_, fun c => fq 1 ?_⟩
    · rw [hr, if_neg (by omega)]
    · rw [hr, if_pos (by omega)]
  have key : ∀ i, i ≤ N → a ≤ i → (∀ j, a ≤ j → j < i → isDg (T j) = true) → rnd isDg T N a = rnd isDg T N i → ∀ M4, frY M M4 → M4 3 8 = (a : Int) → M4 3 9 = dgv T a (min (i - a) 3) → W4_takeNumber_10 (d + 1) Φ (i : Int) (2, w1) M4 n := by
    refine up (fun hai hall hr M4 g1 g2 g4 => ?_) (fun i hi ih hai hall hr M4 g1 g2 g4 => ?_)
    · have g5 : M4 3 5 = (N : Int) := (t.fr g1).1
      apply v4_takeNumber_10
      refine ⟨fun _ => stop N (Nat.le_refl _) hai (by rw [hr]; exact rnd_end (by omega)) M4 g1 g2 g4, fun c => absurd ?_ c⟩
      rw [g5]; omega
    · have g5 : M4 3 5 = (N : Int) := (t.fr g1).1
      have gt := (t.fr g1).2.2 i (by omega)
      apply v4_takeNumber_10
      refine ⟨fun c => absurd c (by rw [g5]; omega), fun _ => ⟨by omega, ?_⟩⟩
      rw [Int.toNat_natCast, gt.1]
      refine c_digit _ ?_
      rw [i2b_dg gt.2]
      refine br (fun z => stop i (by omega) hai (by rw [hr]; exact rnd_end (fun y => by rw [z] at y; cases y.2)) M4 g1 g2 g4) (fun z => ?_)
      have hall' : ∀ j, a ≤ j → j < i + 1 → isDg (T j) = true := fun j h1 h2 => by
        by_cases c : j = i
        · rw [c]; exact z
        · exact hall j h1 (by omega)
      have hr' : rnd isDg T N a = rnd isDg T N (i + 1) := hr.trans (rnd_go hi z)
      have hz := of_decide_eq_true z
      rw [g2, w32_id (x := (a : Int) + 3) (by omega) (by omega), w32_s (k := i) (by omega), gt.1, i2b_id (by omega)]
      refine ⟨fun c => ?_, fun c => ⟨by omega, ?_⟩⟩
      · refine ih (by omega) hall' hr' _ g1 g2 ?_
        rw [g4, show min (i - a) 3 = 3 by omega, show min (i + 1 - a) 3 = 3 by omega]
      · have hv := hdv (i - a) (by omega) (fun j hj => hall (a + j) (by omega) (by omega))
        have h3 : i - a = 0 ∨ i - a = 1 ∨ i - a = 2 := by omega
        have hv2 : dgv T a (i - a) < 1000 := by
          rcases h3 with y | y | y <;> rw [y] at hv ⊢ <;> omega
        have ev : w32 (w32 (w32 (M4 3 9 * 10) + T i) - 48) = dgv T a (min (i + 1 - a) 3) := by
          rw [g4, show min (i - a) 3 = i - a by omega, show min (i + 1 - a) 3 = (i - a) + 1 by omega]
          show _ = 10 * dgv T a (i - a) + T (a + (i - a)) - 48
          rw [show a + (i - a) = i by omega, w32_id (x := dgv T a (i - a) * 10) (by omega) (by omega), w32_id (x := dgv T a (i - a) * 10 + T i) (by omega) (by omega), w32_id (by omega) (by omega)]
          omega
        rw [ev]
        exact ih (by omega) hall' hr' _ (g1.set (by omega)) (by rw [sI_ne (by omega)]; exact g2) (sI_same _ _ _ _)
  refine e4_takeNumber ?_
  rw [h8]
  exact key a ha (Nat.le_refl _) (fun j h1 h2 => by omega) rfl _ ((frY.refl M).set (by omega)) (by rw [sI_ne (by omega)]; exact h8) (by rw [sI_same, Nat.sub_self]; rfl)
theorem sg_ix : ∀ x : Nat, x < 256 → (sgn (x : Int) < 12 → 0 ≤ m_ix (x : Int) sgL 0 ∧ cvK (30 + sgn (x : Int)) = (x : Int)) ∧ (¬ (sgn (x : Int) < 12) → m_ix (x : Int) sgL 0 < 0) := by decide +kernel
theorem c_advance (p : Nat) (t : tapC M T N) (hM : M 3 6 = (p : Int)) (hp : p ≤ N) (q : ∀ M', frY M M' → M' 3 8 = (tkA T N p : Nat) → M' 3 6 = (tkE T N p : Nat) → M' 3 7 = cvK (tkK T N p) → (tkK T N p = 23 → M' 3 9 = tkV T N p) → Φ 0 M') : CF (d + 3) 44 [(2, 3)] (2, w1) M n Φ := by
  have hN := t.2.1
  have hA := tkA_le (T := T) hp
  generalize hA0 : tkA T N p = A at *
  have proc : ((A : Int) < ((sI (sI M 3 8 (A : Int)) 3 6 (A : Int)) 3 5) → ((0 : Int) ≤ (A : Int) ∧ ((A : Int) : Int) < ((900 : Nat) : Int)) ∧ (CF (d + 2) 47 [(0, (sI (sI M 3 8 (A : Int)) 3 6 (A : Int)) 2 ((A : Int)).toNat)] (2, w1) (sI (sI M 3 8 (A : Int)) 3 6 (A : Int)) n (fun r0 M1 => (r0 = 0 → ((0 : Int) ≤ (A : Int) ∧ ((A : Int) : Int) < ((900 : Nat) : Int)) ∧ (CF (d + 2) 48 [(0, M1 2 ((A : Int)).toNat)] (2, w1) M1 n (fun r1 M2 => (r1 = 0 → ((0 : Int) ≤ (A : Int) ∧ ((A : Int) : Int) < ((900 : Nat) : Int)) ∧ ((0 ≤ (m_i2c (m_and (M2 2 ((A : Int)).toNat) 255)) ∧ (m_i2c (m_and (M2 2 ((A : Int)).toNat) 255)) < 256) ∧ (((m_ix (m_i2c (m_and (M2 2 ((A : Int)).toNat) 255)) (m_tx 0) 0) < 0 → Φ 0 (sI (sI M2 3 7 1) 3 6 (w32 ((A : Int) + 1)))) ∧ (¬ ((m_ix (m_i2c (m_and (M2 2 ((A : Int)).toNat) 255)) (m_tx 0) 0) < 0) → Φ 0 (sI (sI M2 3 7 (m_and (M2 2 ((A : Int)).toNat) 255)) 3 6 (w32 ((A : Int) + 1))))))) ∧ (¬ (r1 = 0) → CF (d + 2) 46 [(2, 3)] (2, w1) M2 n (fun _ M3 => Φ 0 M3))))) ∧ (¬ (r0 = 0) → CF (d + 2) 45 [(2, 3)] (2, w1) M1 n (fun _ M2 => Φ 0 M2))))) ∧ (¬ ((A : Int) < ((sI (sI M 3 8 (A : Int)) 3 6 (A : Int)) 3 5)) → Φ 0 (sI (sI (sI M 3 8 (A : Int)) 3 6 (A : Int)) 3 7 0)) := by
    have f3 : frY M (sI (sI M 3 8 (A : Int)) 3 6 (A : Int)) := ((frY.refl M).set (by omega)).set (by omega)
    have e8 : (sI (sI M 3 8 (A : Int)) 3 6 (A : Int)) 3 8 = (A : Int) := by rw [sI_ne (by omega), sI_same]
    have e6 : (sI (sI M 3 8 (A : Int)) 3 6 (A : Int)) 3 6 = (A : Int) := sI_same _ _ _ _
    generalize sI (sI M 3 8 (A : Int)) 3 6 (A : Int) = M3 at *
    have t3 := t.fr f3
    rw [t3.1, Int.toNat_natCast]
    refine ⟨fun c => ⟨by omega, ?_⟩, fun c => ?_⟩
    · have cA : A < N := by omega
      obtain ⟨gt, gb⟩ := t3.2.2 A (by omega)
      rw [gt]
      refine c_small _ ?_
      rw [i2b_sm gb]
      refine br (fun hs => ⟨by omega, ?_⟩) (fun hs => ?_)
      · rw [gt]
        refine c_digit _ ?_
        rw [i2b_dg gb]
        refine br (fun hd => ?_) (fun hd => ?_)
        · rw [gt, i2b_255 gb, i2c_id gb, tx0_eq, w32_s (by omega)]
          have hE : tkE T N p = A + 1 := by
            unfold tkE
            rw [hA0, if_pos cA, if_neg (by rw [hs]; decide), if_neg (by rw [hd]; decide)]
          have hK : tkK T N p = if sgn (T A) < 12 then 30 + sgn (T A) else 25 := by
            unfold tkK
            rw [hA0, if_pos cA, if_neg (by rw [hs]; decide), if_neg (by rw [hd]; decide)]
          obtain ⟨x, hx⟩ : ∃ x : Nat, T A = (x : Int) := ⟨(T A).toNat, by omega⟩
          rw [hx] at hK gb ⊢
          obtain ⟨s1, s2⟩ := sg_ix x (by omega)
          have fq : ∀ y : Int, y = cvK (tkK T N p) → Φ 0 (sI (sI M3 3 7 y) 3 6 ((A + 1 : Nat) : Int)) := by
            intro y hy
            refine q _ ((f3.set (by omega)).set (by omega)) (by rw [sI_ne (by omega), sI_ne (by omega)]; exact e8) (by rw [sI_same, hE]) (by rw [sI_ne (by omega), sI_same]; exact hy) (fun z => ?_)
            rw [hK] at z
            split at z <;> omega
          refine ⟨by omega, by omega, fun c1 => fq 1 ?_, fun c1 => fq _ ?_⟩
          · rw [hK, if_neg]
            · rfl
            · intro z
              have := (s1 z).1
              omega
          · rw [hK]
            by_cases z : sgn (x : Int) < 12
            · rw [if_pos z]; exact (s1 z).2.symm
            · exact absurd (s2 z) c1
        · have hE : tkE T N p = rnd isDg T N A := by
            unfold tkE
            rw [hA0, if_pos cA, if_neg (by rw [hs]; decide), if_pos hd]
          have hK : tkK T N p = if tkE T N p - A > 3 then 25 else 23 := by
            unfold tkK
            rw [hA0, if_pos cA, if_neg (by rw [hs]; decide), if_pos hd]
          refine c_takeNumber A t3 e8 hA.2 (fun M' k1 k2 k3 k4 k5 => q M' (f3.trans k1) k2 (by rw [hE]; exact k3) ?_ (fun _ => ?_))
          · rw [k4, hK, hE]
            split <;> rfl
          · rw [k5]
            unfold tkV
            rw [hA0, hE]
      · have hE : tkE T N p = rnd isSm T N A := by
          unfold tkE
          rw [hA0, if_pos cA, if_pos hs]
        have hK : tkK T N p = keyN T A (tkE T N p) := by
          unfold tkK
          rw [hA0, if_pos cA, if_pos hs]
        have hk22 : keyN T A (tkE T N p) ≤ 22 := (fstB_all (fun k => eqW' T (tkE T N p) (wdL k) A) 22).1
        refine c_takeWord A t3 e8 e6 hA.2 (fun M' k1 k2 k3 k4 => q M' (f3.trans k1) k2 (by rw [hE]; exact k3) (by rw [hK, hE]; exact k4) (fun z => ?_))
        rw [hK] at z
        omega
    · have cA : ¬ (A < N) := by omega
      have hE : tkE T N p = A := by unfold tkE; rw [hA0, if_neg cA]
      have hK : tkK T N p = 24 := by unfold tkK; rw [hA0, if_neg cA]
      exact q _ (f3.set (by omega)) (by rw [sI_ne (by omega)]; exact e8) (by rw [sI_ne (by omega), hE]; exact e6) (by rw [sI_same, hK]; rfl) (fun z => by rw [hK] at z; omega)
  have key : ∀ i, i ≤ N → p ≤ i → rnd isSp T N p = rnd isSp T N i → W4_advance_5 (d + 2) Φ (i : Int) (2, w1) M n := by
    refine up (fun hpi hr => ?_) (fun i hi ih hpi hr => ?_)
    · have hNA : A = N := by rw [← hA0]; unfold tkA; rw [hr]; exact rnd_end (by omega)
      apply v4_advance_5
      refine ⟨fun _ => by rw [hNA] at proc; exact proc, fun c => absurd ?_ c⟩
      rw [t.1]; omega
    · obtain ⟨gt, gb⟩ := t.2.2 i (by omega)
      apply v4_advance_5
      refine ⟨fun c => absurd c (by rw [t.1]; omega), fun _ => ⟨by omega, fun c => ?_, fun c => ⟨by omega, fun c2 => ?_, fun c2 => ?_⟩⟩⟩
      · rw [Int.toNat_natCast, gt, i2b_eq gb (by omega)] at c
        rw [w32_s (by omega)]
        exact ih (by omega) (hr.trans (rnd_go hi (decide_eq_true (Or.inl c))))
      · rw [Int.toNat_natCast, gt, i2b_eq gb (by omega)] at c
        rw [Int.toNat_natCast, gt] at c2
        have c2 : ¬ (T i = 32) := fun z => c2 ((i2b_eq gb (by omega)).mpr z)
        have hAi : A = i := by
          rw [← hA0]
          unfold tkA
          rw [hr]
          refine rnd_end (fun y => ?_)
          rcases of_decide_eq_true y.2 with z | z
          · exact c z
          · exact c2 z
        rw [hAi] at proc
        exact proc
      · rw [Int.toNat_natCast, gt] at c2
        have c2 := (i2b_eq gb (by omega)).mp (Decidable.not_not.mp c2)
        rw [w32_s (by omega)]
        exact ih (by omega) (hr.trans (rnd_go hi (decide_eq_true (Or.inr c2))))
  refine e4_advance ?_
  rw [hM]
  exact key p hp (Nat.le_refl _) rfl
end
