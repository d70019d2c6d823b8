/-! ===== which bit is sure, who told: the class ===== -/
theorem or2_tb {s t : Nat} (ht : t < 8) (hs : s < 256) : m_or (s : Int) (m_shl 1 (t : Int)) = ((s ||| 2 ^ t : Nat) : Int) ∧ s ||| 2 ^ t < 256 := by
  have h := p2_8 t ht
  rw [m_one (by omega), m_or_n (by omega) (by omega)]
  exact ⟨rfl, Nat.or_lt_two_pow (n := 8) hs (by omega)⟩
theorem bit_tb {s k : Nat} (hs : s < 256) (hk : k < 8) : m_and (m_shr (s : Int) (k : Int)) 1 = b2i (s.testBit k) := by
  rw [m_bit (by omega) (by omega), ← inS_tb]
  unfold inS
  have h2 : s / 2 ^ k % 2 < 2 := Nat.mod_lt _ (by omega)
  by_cases c : s / 2 ^ k % 2 = 1
  · rw [c]; rfl
  · have e : s / 2 ^ k % 2 = 0 := by omega
    rw [e]; rfl
theorem tb_or2 (s t j : Nat) : (s ||| 2 ^ t).testBit j = (s.testBit j || decide (t = j)) := by
  rw [Nat.testBit_or, Nat.testBit_two_pow]
section
variable {d : Nat} {n : Nat × Nat} {Φ : Int → (Nat → Nat → Int) → Prop} {Ψ : Int → cQ → (Nat → Nat → Int) → Nat × Nat → Prop} {M : Nat → Nat → Int} {w : cQ} {P S Z U : Nat → Int}
theorem c_goOn (L : Nat) (h : Nat → Int) (p : Nat) (hp : p ≤ L) (hL : L ≤ 12) (a : hrd M P h L) (r : relW M P) (ok : okP P) (q : ∀ s : Nat, s < 256 → (∀ j, j < nM P → (s.testBit j = true ↔ 0 < upG P (sel0 P h) L (L - p) j)) → Φ (s : Nat) M) : CF (d + 2) 57 [(2, 15), (0, (p : Int))] w M n Φ := by
  obtain ⟨eB, hB12⟩ := ok.nBe
  obtain ⟨eM, hM1, hM2⟩ := ok.nMe
  have h2 : ∀ k, k ≤ 8 → 2 ≤ k → 4 ≤ 2 ^ k ∧ 2 ^ k ≤ 256 := by decide
  have h3 := h2 _ hM2 hM1
  have e1 : w32 (m_shl 1 (nM P : Int) - 1) = ((2 ^ nM P - 1 : Nat) : Int) := by
    rw [m_one (by omega), w32_eq]
    omega
  have e2 : w32 ((L : Int) - 1) = (L : Int) - 1 := by rw [w32_id] <;> omega
  have key : ∀ i, i ≤ L - p → ∀ s : Nat, s < 256 → (∀ j, j < nM P → (s.testBit j = true ↔ 0 < upG P (sel0 P h) L i j)) → W5_momentsThatGoOn_25 (d + 1) Φ (p : Nat) (s : Nat) ((L : Int) - 1 - (i : Int)) w M n := by
    refine up (fun s hs hb => ?_) (fun i hi ih s hs hb => ?_)
    · exact v5_momentsThatGoOn_25 ⟨fun _ => q s hs hb, fun c => absurd (by omega) c⟩
    · refine v5_momentsThatGoOn_25 ⟨fun c => absurd c (by omega), fun _ => ?_⟩
      have ek : (L : Int) - 1 - (i : Int) = ((L - (i + 1) : Nat) : Int) := by omega
      rw [ek]
      have inn : ∀ b, b ≤ nB P → ∀ x : Nat, x < 256 → (∀ j, j < nM P → (x.testBit j = true ↔ 0 < bkN P (sel0 P h (L - (i + 1))) (upG P (sel0 P h) L i) j b)) → W5_momentsThatGoOn_37 (d + 1) Φ (p : Nat) (s : Nat) ((L - (i + 1) : Nat) : Int) (x : Nat) (b : Nat) w M n := by
        refine up (fun x hx hxb => ?_) (fun b hb2 ih2 x hx hxb => ?_)
        · apply v5_momentsThatGoOn_37
          have e4 : w32 (((L - (i + 1) : Nat) : Int) + (-1)) = (L : Int) - 1 - ((i + 1 : Nat) : Int) := by rw [w32_id] <;> omega
          rw [r.B, eB, e4]
          exact ⟨fun _ => ih x hx hxb, fun c => absurd (Int.le_refl _) c⟩
        · apply v5_momentsThatGoOn_37
          have hbt := ok.bit (b := b) (by omega)
          have hto : toN P b < nM P := by unfold toN; omega
          have hfr : frN P b < nM P := by unfold frN; omega
          have es : ∀ j, bkN P (sel0 P h (L - (i + 1))) (upG P (sel0 P h) L i) j (b + 1) = bkN P (sel0 P h (L - (i + 1))) (upG P (sel0 P h) L i) j b + (if sel0 P h (L - (i + 1)) b = true ∧ frN P b = j then upG P (sel0 P h) L i (toN P b) else 0) := fun _ => rfl
          rw [r.B, eB, w32_s (k := b) (by omega)]
          simp only [Int.toNat_natCast]
          refine ⟨fun c => absurd c (by omega), fun _ => c_fits _ b a (by omega) hL hb2 r ok ?_⟩
          rw [r.to (by omega), r.from (by omega), show P (25 + b) = ((toN P b : Nat) : Int) by unfold toN; omega, show P (13 + b) = ((frN P b : Nat) : Int) by unfold frN; omega, bit_tb hs (by omega)]
          refine br (fun c => ?_) (fun c => ⟨by omega, br (fun c2 => ?_) (fun c2 => ⟨by omega, ?_⟩)⟩)
          · refine ih2 x hx (fun j hj => ?_)
            rw [es j, if_neg (fun z => by rw [c] at z; cases z.1), Nat.add_zero]
            exact hxb j hj
          · have hz : upG P (sel0 P h) L i (toN P b) = 0 := by
              have := mt (hb (toN P b) hto).mpr (by rw [c2]; decide)
              omega
            refine ih2 x hx (fun j hj => ?_)
            rw [es j, hz]
            have : (if sel0 P h (L - (i + 1)) b = true ∧ frN P b = j then 0 else 0) = 0 := by split <;> rfl
            rw [this, Nat.add_zero]
            exact hxb j hj
          · obtain ⟨e5, e6⟩ := or2_tb (s := x) (t := frN P b) (by omega) hx
            have hz := (hb (toN P b) hto).mp c2
            rw [e5]
            refine ih2 _ e6 (fun j hj => ?_)
            rw [tb_or2, Bool.or_eq_true, decide_eq_true_eq, hxb j hj, es j]
            by_cases ej : frN P b = j
            · rw [if_pos ⟨c, ej⟩]
              exact ⟨fun _ => by omega, fun _ => Or.inr ej⟩
            · rw [if_neg (fun z => ej z.2), Nat.add_zero]
              exact ⟨fun z => z.resolve_right ej, fun z => Or.inl z⟩
      exact inn 0 (Nat.zero_le _) 0 (by omega) (fun j _ => ⟨fun z => (by rw [Nat.zero_testBit] at z; cases z), fun z => absurd z (Nat.lt_irrefl 0)⟩)
  apply e5_momentsThatGoOn
  rw [r.Mo, eM, a.1, e1, e2]
  have := key 0 (Nat.zero_le _) (2 ^ nM P - 1) (by omega) (fun j hj => ⟨fun _ => by show 0 < 1; omega, fun _ => by rw [Nat.testBit_two_pow_sub_one]; exact decide_eq_true hj⟩)
  rw [show (L : Int) - 1 - ((0 : Nat) : Int) = (L : Int) - 1 by omega] at this
  exact this
theorem c_bitsAt (fr L pl : Nat) (h : Nat → Int) (hfr : fr < nM P) (hpl : pl < L) (hL : L ≤ 12) (a : hrd M P h L) (r : relW M P) (ok : okP P) (q : Φ (msk (atT P h fr L pl) (nB P) : Nat) M) : CF (d + 3) 56 [(2, 15), (0, (fr : Int)), (0, (pl : Int))] w M n Φ := by
  obtain ⟨eB, hB12⟩ := ok.nBe
  obtain ⟨eM, hM1, hM2⟩ := ok.nMe
  have key : ∀ k, k ≤ pl → ∀ s : Nat, s < 256 → (∀ j, j < nM P → (s.testBit j = true ↔ 0 < rwG P (sel0 P h) fr k j)) → W5_bitsAt_16 (d + 2) Φ (pl : Nat) (s : Nat) (k : Nat) w M n := by
    refine up (fun s hs hb => ?_) (fun k hk ih s hs hb => ?_)
    · apply v5_bitsAt_16
      refine ⟨fun _ => ?_, fun c => absurd (Int.le_refl _) c⟩
      rw [w32_s (by omega)]
      refine c_goOn L h (pl + 1) (by omega) hL a r ok (fun u hu hub => ?_)
      have inn : ∀ b, b ≤ nB P → W5_bitsAt_108 (d + 2) Φ (pl : Nat) (s : Nat) (u : Nat) (msk (atT P h fr L pl) b : Nat) (b : Nat) w M n := by
        refine up ?_ (fun b hb2 ih2 => ?_)
        · apply v5_bitsAt_108
          rw [r.B, eB]
          exact ⟨fun _ => q, fun c => absurd (Int.le_refl _) c⟩
        · apply v5_bitsAt_108
          have hbt := ok.bit (b := b) (by omega)
          have hto : toN P b < nM P := by unfold toN; omega
          have hfr' : frN P b < nM P := by unfold frN; omega
          rw [r.B, eB, w32_s (k := b) (by omega)]
          simp only [Int.toNat_natCast]
          refine ⟨fun c => absurd c (by omega), fun _ => c_fits pl b a (by omega) hL hb2 r ok ?_⟩
          rw [r.to (by omega), r.from (by omega), show P (25 + b) = ((toN P b : Nat) : Int) by unfold toN; omega, show P (13 + b) = ((frN P b : Nat) : Int) by unfold frN; omega, bit_tb hs (by omega), bit_tb hu (by omega)]
          have no : atT P h fr L pl b = false → W5_bitsAt_108 (d + 2) Φ (pl : Nat) (s : Nat) (u : Nat) (msk (atT P h fr L pl) b : Nat) ((b + 1 : Nat) : Int) w M n := fun e => by
            rw [← msk_no (atT P h fr L pl) e]
            exact ih2
          unfold atT nAt at no
          refine br (fun c => no ?_) (fun c => ⟨by omega, br (fun c2 => no ?_) (fun c2 => ⟨by omega, br (fun c3 => no ?_) (fun c3 => ?_)⟩)⟩)
          · rw [c, if_neg (by decide)]; rfl
          · have hz : rwG P (sel0 P h) fr pl (frN P b) = 0 := by
              have := mt (hb (frN P b) hfr').mpr (by rw [c2]; decide)
              omega
            rw [hz, Nat.zero_mul]
            split <;> rfl
          · have hz : upG P (sel0 P h) L (L - (pl + 1)) (toN P b) = 0 := by
              have := mt (hub (toN P b) hto).mpr (by rw [c3]; decide)
              omega
            rw [hz, Nat.mul_zero]
            split <;> rfl
          · have e : atT P h fr L pl b = true := by
              unfold atT nAt
              rw [if_pos c, decide_eq_true_eq]
              exact Nat.mul_pos ((hb _ hfr').mp c2) ((hub _ hto).mp c3)
            rw [or_s (atT P h fr L pl) (by omega) e]
            exact ih2
      exact inn 0 (Nat.zero_le _)
    · apply v5_bitsAt_16
      refine ⟨fun c => absurd c (by omega), fun _ => ?_⟩
      have inn : ∀ b, b ≤ nB P → ∀ x : Nat, x < 256 → (∀ j, j < nM P → (x.testBit j = true ↔ 0 < stN P (sel0 P h k) (rwG P (sel0 P h) fr k) b j)) → W5_bitsAt_28 (d + 2) Φ (pl : Nat) (s : Nat) (k : Nat) (x : Nat) (b : Nat) w M n := by
        refine up (fun x hx hxb => ?_) (fun b hb2 ih2 x hx hxb => ?_)
        · apply v5_bitsAt_28
          rw [r.B, eB, w32_s (by omega)]
          exact ⟨fun _ => ih x hx hxb, fun c => absurd (Int.le_refl _) c⟩
        · apply v5_bitsAt_28
          have hbt := ok.bit (b := b) (by omega)
          have hto : toN P b < nM P := by unfold toN; omega
          have hfr' : frN P b < nM P := by unfold frN; omega
          rw [r.B, eB, w32_s (k := b) (by omega)]
          simp only [Int.toNat_natCast]
          refine ⟨fun c => absurd c (by omega), fun _ => c_fits k b a (by omega) hL hb2 r ok ?_⟩
          rw [r.to (by omega), r.from (by omega), show P (25 + b) = ((toN P b : Nat) : Int) by unfold toN; omega, show P (13 + b) = ((frN P b : Nat) : Int) by unfold frN; omega, bit_tb hs (by omega)]
          have same : (∀ j, ¬ (sel0 P h k b = true ∧ 0 < rwG P (sel0 P h) fr k (frN P b) ∧ j = toN P b)) → W5_bitsAt_28 (d + 2) Φ (pl : Nat) (s : Nat) (k : Nat) (x : Nat) ((b + 1 : Nat) : Int) w M n := by
            intro hn
            refine ih2 x hx (fun j hj => ?_)
            rw [hxb j hj, stN_pos, stN_pos]
            constructor
            · rintro ⟨i, g1, g2⟩; exact ⟨i, by omega, g2⟩
            · rintro ⟨i, g1, g2, g3, g4⟩
              by_cases e : i = b
              · subst e; exact absurd ⟨g2, g3, g4⟩ (hn j)
              · exact ⟨i, by omega, g2, g3, g4⟩
          refine br (fun c => same (fun j z => by rw [c] at z; cases z.1)) (fun c => ⟨by omega, br (fun c2 => same (fun j z => ?_)) (fun c2 => ⟨by omega, ?_⟩)⟩)
          · have := (hb _ hfr').mpr z.2.1
            rw [c2] at this
            cases this
          · obtain ⟨e5, e6⟩ := or2_tb (s := x) (t := toN P b) (by omega) hx
            have hz := (hb _ hfr').mp c2
            rw [e5]
            refine ih2 _ e6 (fun j hj => ?_)
            rw [tb_or2, Bool.or_eq_true, decide_eq_true_eq, hxb j hj, stN_pos, stN_pos]
            constructor
            · rintro (⟨i, g1, g2⟩ | g)
              · exact ⟨i, by omega, g2⟩
              · exact ⟨b, by omega, c, hz, g.symm⟩
            · rintro ⟨i, g1, g2, g3, g4⟩
              by_cases e : i = b
              · subst e; exact Or.inr g4.symm
              · exact Or.inl ⟨i, by omega, g2, g3, g4⟩
      exact inn 0 (Nat.zero_le _) 0 (by omega) (fun j _ => ⟨fun z => (by rw [Nat.zero_testBit] at z; cases z), fun z => absurd z (Nat.lt_irrefl 0)⟩)
  have h28 := p2_8 fr (by omega)
  apply e5_bitsAt
  rw [m_one (by omega)]
  refine key 0 (Nat.zero_le _) (2 ^ fr) (by omega) (fun j hj => ?_)
  rw [Nat.testBit_two_pow, decide_eq_true_eq]
  show fr = j ↔ 0 < (if j = fr then 1 else 0)
  by_cases e : j = fr
  · rw [if_pos e]; exact ⟨fun _ => by omega, fun _ => e.symm⟩
  · rw [if_neg e]; exact ⟨fun z => absurd z.symm e, fun z => absurd z (Nat.lt_irrefl 0)⟩
theorem cnt_two {p : Nat → Bool} : ∀ n, 2 ≤ cntB p n → ∃ a b, a < b ∧ b < n ∧ p a = true ∧ p b = true
  | 0, h => absurd h (by show ¬ (2 ≤ 0); decide)
  | n + 1, h => by
    have h : 2 ≤ cntB p n + (if p n then 1 else 0) := h
    by_cases c : 2 ≤ cntB p n
    · obtain ⟨a, b, h1, h2, h3⟩ := cnt_two n c
      exact ⟨a, b, h1, by omega, h3⟩
    · have hp : p n = true := by
        cases e : p n with
        | true => rfl
        | false => rw [e] at h; have : cntB p n + 0 ≥ 2 := h; omega
      have h1 : 1 ≤ cntB p n := by rw [hp] at h; have : cntB p n + 1 ≥ 2 := h; omega
      have hex : ∀ m, 1 ≤ cntB p m → ∃ a, a < m ∧ p a = true := by
        intro m
        induction m with
        | zero => intro h; exact absurd h (by show ¬ (1 ≤ 0); decide)
        | succ m ih =>
          intro h
          have h : 1 ≤ cntB p m + (if p m then 1 else 0) := h
          cases e : p m with
          | true => exact ⟨m, by omega, e⟩
          | false =>
            rw [e] at h
            obtain ⟨a, g1, g2⟩ := ih h
            exact ⟨a, by omega, g2⟩
      obtain ⟨a, g1, g2⟩ := hex n h1
      exact ⟨a, n, g1, by omega, g2, hp⟩
theorem cnt_one {p : Nat → Bool} : ∀ n, cntB p n = 1 → ∃ a, a < n ∧ p a = true ∧ (∀ b, b < n → b ≠ a → p b = false) ∧ msk p n = 2 ^ a
  | 0, h => absurd h (by show ¬ (0 = 1); decide)
  | n + 1, h => by
    have h : cntB p n + (if p n then 1 else 0) = 1 := h
    have em : msk p (n + 1) = msk p n + (if p n then 2 ^ n else 0) := rfl
    cases hp : p n with
    | true =>
      rw [hp] at h
      have h0 : cntB p n = 0 := by have : cntB p n + 1 = 1 := h; omega
      have hz : ∀ m, cntB p m = 0 → ∀ b, b < m → p b = false := by
        intro m
        induction m with
        | zero => intro _ b hb; omega
        | succ m ih =>
          intro h b hb
          have h : cntB p m + (if p m then 1 else 0) = 0 := h
          cases e : p m with
          | true => rw [e] at h; have : cntB p m + 1 = 0 := h; omega
          | false =>
            by_cases c : b = m
            · rw [c]; exact e
            · exact ih (by omega) b (by omega)
      have hz := hz n h0
      refine ⟨n, by omega, hp, fun b hb hne => hz b (by omega), ?_⟩
      rw [em, hp, (msk_zero p n).mpr hz]
      show 0 + 2 ^ n = 2 ^ n
      omega
    | false =>
      rw [hp] at h
      obtain ⟨a, g1, g2, g3, g4⟩ := cnt_one n h
      refine ⟨a, by omega, g2, fun b hb hne => ?_, by rw [em, hp]; exact g4⟩
      by_cases c : b = n
      · rw [c]; exact hp
      · exact g3 b (by omega) hne
theorem cnt_pos {p : Nat → Bool} : ∀ n a, a < n → p a = true → 1 ≤ cntB p n
  | 0, a, h, _ => absurd h (Nat.not_lt_zero a)
  | n + 1, a, h, hp => by
    show 1 ≤ cntB p n + (if p n then 1 else 0)
    by_cases c : a = n
    · subst c; rw [hp]; exact Nat.le_add_left _ _
    · have := cnt_pos n a (by omega) hp; omega
/-- the one bit that is at a place -/
theorem sure_eq (ok : okP P) (h : Nat → Int) {fr L pl : Nat} (hpl : pl < L) : (cntB (atT P h fr L pl) (nB P) ≠ 1 → sureB P h fr L pl = -1) ∧ (∀ a, a < nB P → atT P h fr L pl a = true → (∀ b, b < nB P → b ≠ a → atT P h fr L pl b = false) → sureB P h fr L pl = (a : Int)) := by
  have hs := tot_sum ok h (fr := fr) hpl
  have hN : ∀ b, b < nB P → (atT P h fr L pl b = true ↔ 0 < nAt P h fr L pl b) := fun b _ => by unfold atT; rw [decide_eq_true_eq]
  obtain ⟨f1, f2, f3⟩ := fstB_all (fun c => decide (totP P h fr L pl c = totS P h fr L)) (nB P)
  constructor
  · intro hc
    unfold sureB
    by_cases c0 : 0 < totS P h fr L
    · rw [if_pos c0]
      by_cases c1 : fstB (fun c => decide (totP P h fr L pl c = totS P h fr L)) (nB P) < nB P
      · exfalso
        generalize fstB (fun c => decide (totP P h fr L pl c = totS P h fr L)) (nB P) = a at f1 f2 f3 c1
        have e := of_decide_eq_true (f2 c1)
        rw [totP_eq ok h hpl c1] at e
        apply hc
        have ha : atT P h fr L pl a = true := (hN a c1).mpr (by omega)
        apply Decidable.byContradiction
        intro hne
        have h1 := cnt_pos (nB P) a c1 ha
        obtain ⟨x, y, g1, g2, g3, g4⟩ := cnt_two (nB P) (show 2 ≤ cntB (atT P h fr L pl) (nB P) by omega)
        have l1 := smN_two (f := nAt P h fr L pl) g1 (nB P) g2
        have l2 := (hN x (by omega)).mp g3
        have l3 := (hN y g2).mp g4
        by_cases cx : x = a
        · subst cx; omega
        · by_cases cy : y = a
          · subst cy; omega
          · rcases Nat.lt_or_gt_of_ne cx with hxa | hxa
            · have := smN_two (f := nAt P h fr L pl) hxa (nB P) c1; omega
            · have := smN_two (f := nAt P h fr L pl) hxa (nB P) (by omega); omega
      · rw [if_neg c1]
    · rw [if_neg c0]
  · intro a ha hat hoth
    have h1 := (hN a ha).mp hat
    have e1 : totS P h fr L = nAt P h fr L pl a := by
      rw [hs]
      have : ∀ m, a < m → m ≤ nB P → smN (nAt P h fr L pl) m = nAt P h fr L pl a := by
        intro m
        induction m with
        | zero => intro h; omega
        | succ m ih =>
          intro hm0 hm
          show smN (nAt P h fr L pl) m + nAt P h fr L pl m = _
          by_cases c : a = m
          · subst c
            have hz : ∀ i, i ≤ a → smN (nAt P h fr L pl) i = 0 := by
              intro i
              induction i with
              | zero => intro _; rfl
              | succ i ih2 =>
                intro hi
                show smN (nAt P h fr L pl) i + nAt P h fr L pl i = 0
                have := mt (hN i (by omega)).mpr (by rw [hoth i (by omega) (by omega)]; decide)
                rw [ih2 (by omega)]; omega
            rw [hz a (Nat.le_refl _), Nat.zero_add]
          · have := mt (hN m (by omega)).mpr (by rw [hoth m (by omega) (by omega)]; decide)
            rw [ih (by omega) (by omega)]; omega
      exact this (nB P) ha (Nat.le_refl _)
    have e2 : fstB (fun c => decide (totP P h fr L pl c = totS P h fr L)) (nB P) = a := by
      generalize fstB (fun c => decide (totP P h fr L pl c = totS P h fr L)) (nB P) = x at f1 f2 f3
      rcases Nat.lt_trichotomy x a with c | c | c
      · exfalso
        have e := of_decide_eq_true (f2 (by omega))
        rw [totP_eq ok h hpl (by omega)] at e
        have := mt (hN x (by omega)).mpr (by rw [hoth x (by omega) (by omega)]; decide)
        omega
      · exact c
      · exfalso
        have e := of_decide_eq_false (f3 a c)
        rw [totP_eq ok h hpl ha] at e
        omega
    unfold sureB
    rw [if_pos (by omega), e2, if_pos ha]
theorem c_sureBit (t f p : Int) (r : relW M P) (rt : relT M S Z U) (ok : okP P) (q : ∀ M', KC M M' → Φ (zSure P S Z U t f p) M') : CF (d + 7) 160 [(2, 1), (0, t), (0, f), (0, p)] w M n Φ := by
  have hMo := ok.nMe
  obtain ⟨eB, hB12⟩ := ok.nBe
  unfold zSure at q
  refine e11_sureBit (c_takeSeen t f r rt ok (fun M1 h1 ha => ⟨fun c => ?_, fun c => ?_⟩))
  · rw [if_pos c] at q
    obtain ⟨c1, c2, c3, c4⟩ := noS_0 (by omega) c
    have r1 := r.kc h1
    have q' := q M1 h1
    refine c_hasPlace p (ha c) (br' (fun e => ?_) (fun e => ?_))
    · have e := of_decide_eq_true e
      rw [if_pos (by omega)] at q'
      rw [show f = (f.toNat : Int) by omega, show p = (p.toNat : Int) by omega]
      refine c_bitsAt _ _ _ _ (by omega) (by omega) (by omega) (ha c) r1 ok ?_
      have hm := msk_lt12 (atT P (nmT U t) f.toNat (Z t.toNat).toNat p.toNat) hB12
      refine sp_bitCount _ hm ?_
      rw [popc_msk _ hB12]
      obtain ⟨s1, s2⟩ := sure_eq ok (nmT U t) (fr := f.toNat) (show p.toNat < (Z t.toNat).toNat by omega)
      refine ⟨fun c5 => ?_, fun c5 => ?_⟩
      · rw [s1 (by omega)] at q'
        exact q'
      · obtain ⟨a, g1, g2, g3, g4⟩ := cnt_one (nB P) (show cntB (atT P (nmT U t) f.toNat (Z t.toNat).toNat p.toNat) (nB P) = 1 by omega)
        rw [s2 a g1 g2 g3] at q'
        rw [g4]
        exact c_ntz a (by omega) q'
    · have e := of_decide_eq_false e
      rw [if_neg (by omega)] at q'
      exact q'
  · rw [if_neg c] at q
    exact q M1 h1
theorem c_notTwice (s may : Nat → Bool) (q : Φ (msk (beT may s) 8 : Nat) M) : CF (d + 1) 60 [(0, ((msk s 8 : Nat) : Int)), (0, ((msk may 8 : Nat) : Int))] w M n Φ := by
  have hs := msk_lt8 s (n := 8) (by omega)
  have hm := msk_lt8 may (n := 8) (by omega)
  have key : ∀ f, f ≤ 8 → W5_notTwice_4 d Φ (msk s 8 : Nat) (msk may 8 : Nat) (msk (beT may s) f : Nat) (f : Nat) w M n := by
    refine up ?_ (fun f hf ih => ?_)
    · exact v5_notTwice_4 ⟨fun _ => q, fun c => absurd (by decide) c⟩
    · apply v5_notTwice_4
      have h28 := p2_8 f hf
      rw [w32_s (by omega), bit_tb hm hf]
      have em : (msk may 8).testBit f = may f := by rw [msk_tb, decide_eq_true hf, Bool.true_and]
      have e1 : m_and (msk s 8 : Nat) (m_xor (m_shl 1 (f : Int)) (-1)) = ((msk s 8 ^^^ (msk s 8 &&& 2 ^ f) : Nat) : Int) := by
        rw [m_one (by omega), m_andnot (by omega) (by omega)]
      have e2 : msk s 8 ^^^ (msk s 8 &&& 2 ^ f) = 0 ↔ ¬ (∃ g, g < 8 ∧ g ≠ f ∧ s g = true) := by
        constructor
        · rintro hz ⟨g, g1, g2, g3⟩
          have : (msk s 8 ^^^ (msk s 8 &&& 2 ^ f)).testBit g = true := by
            rw [andnot_tb, msk_tb, Nat.testBit_two_pow, decide_eq_true g1, g3, decide_eq_false (fun z => g2 z.symm)]
            rfl
          rw [hz, Nat.zero_testBit] at this
          cases this
        · intro hn
          apply Nat.eq_of_testBit_eq
          intro j
          rw [andnot_tb, msk_tb, Nat.testBit_two_pow, Nat.zero_testBit]
          by_cases cj : j < 8
          · rw [decide_eq_true cj, Bool.true_and]
            cases es : s j with
            | false => rfl
            | true =>
              by_cases cf : f = j
              · rw [decide_eq_true cf]; rfl
              · exact absurd ⟨j, cj, fun z => cf z.symm, es⟩ hn
          · rw [decide_eq_false cj]; rfl
      rw [em, e1]
      refine ⟨fun c => absurd c (by omega), fun _ => br (fun c => ?_) (fun c => ⟨fun c2 => ?_, fun c2 => ?_⟩)⟩
      · rw [← msk_no (beT may s) (by unfold beT; rw [c]; rfl)]; exact ih
      · have : beT may s f = false := by
          cases e : beT may s f with
          | false => rfl
          | true => exact absurd (beT_iff.mp e).2 (e2.mp (by omega))
        rw [← msk_no (beT may s) this]; exact ih
      · have : beT may s f = true := by
          refine beT_iff.mpr ⟨c, ?_⟩
          apply Decidable.byContradiction
          intro hn
          exact c2 (by rw [e2.mpr hn]; rfl)
        rw [or_s (beT may s) (by omega) this]; exact ih
  exact e5_notTwice (key 0 (Nat.zero_le _))
theorem who8 (ok : okP P) (h : Nat → Int) (k : Nat) : whoS P (h k).toNat = msk (can0 P h k) 8 := by
  obtain ⟨eF, hF1, hF2⟩ := ok.nFe
  unfold whoS
  have e1 : msk (can0 P h k) 8 = msk (can0 P h k) (nF P) := msk_more 8 hF2 (fun f h1 h2 => by unfold can0 mayB; rw [decide_eq_false (by omega)]; rfl)
  rw [e1]
  refine msk_ext _ (fun f hf => ?_)
  unfold can0 mayB
  rw [decide_eq_true hf, Bool.true_and]
theorem c_farmsAt (L pl : Nat) (h : Nat → Int) (hpl : pl < L) (hL : L ≤ 12) (hr : ∀ k, k < L → 0 ≤ h k ∧ h k < P 3) (a : hrd M P h L) (r : relW M P) (ok : okP P) (q : ∀ M', KC M M' → Φ (msk (telT P h L pl) (nF P) : Nat) M') : CF (d + 5) 59 [(2, 15), (0, (pl : Int))] w M n Φ := by
  obtain ⟨eF, hF1, hF2⟩ := ok.nFe
  have hB := ok.B
  have af : ∀ (k : Nat) (M' : Nat → Nat → Int) (Φ' : Int → (Nat → Nat → Int) → Prop), k < L → Q43 M M' → (∀ M2, Q43 M M2 → Φ' (msk (can0 P h k) 8 : Nat) M2) → CF (d + 4) 97 [(2, 4), (0, h k)] w M' n Φ' := by
    intro k M' Φ' hk hq hf
    have hrk := hr k hk
    rw [show h k = (((h k).toNat : Nat) : Int) by omega]
    refine sp_allowedFarms _ (r.q hq) ok (by omega) (fun M2 h2 => ?_)
    rw [who8 ok]
    exact hf M2 (hq.trans h2)
  have hd : ∀ M', Q43 M M' → hrd M' P h L := fun M' hq => a.congr (hq 15 (by omega) (by omega)) (hq 104 (by omega) (by omega))
  have k2 : ∀ i, i ≤ L - 1 - pl → ∀ M', Q43 M M' → W5_farmsAt_72 (d + 4) Φ (pl : Nat) (msk (ahT P h pl) 8 : Nat) (msk (bhT P h L i) 8 : Nat) ((L : Int) - 2 - (i : Int)) w M' n := by
    refine up (fun M' hq => ?_) (fun i hi ih M' hq => ?_)
    · apply v5_farmsAt_72
      have l1 := msk_lt8 (ahT P h pl) (n := 8) (by omega)
      have l2 := msk_lt8 (bhT P h L (L - 1 - pl)) (n := 8) (by omega)
      rw [m_and_n (by omega) (by omega), msk_and]
      have e : msk (fun k => ahT P h pl k && bhT P h L (L - 1 - pl) k) 8 = msk (telT P h L pl) (nF P) := by
        have e1 : msk (telT P h L pl) 8 = msk (telT P h L pl) (nF P) := msk_more 8 hF2 (fun f g1 g2 => by
          unfold telT
          rw [decide_eq_false_iff_not, tel_at P h hpl g2]
          rintro ⟨z, _⟩
          have hc : can0 P h pl f = true := by
            cases hp : pl with
            | zero => rw [hp] at z; exact z
            | succ k => rw [hp] at z; exact (beT_iff.mp z).1
          unfold can0 mayB at hc
          rw [decide_eq_false (by omega)] at hc
          cases hc)
        rw [← e1]
        refine msk_ext _ (fun f hf => ?_)
        unfold telT
        rw [Bool.eq_iff_iff, Bool.and_eq_true, decide_eq_true_eq, tel_at P h hpl hf]
      rw [e]
      exact ⟨fun _ => q M' (KC.of43 hq), fun c => absurd (by omega) c⟩
    · apply v5_farmsAt_72
      have ek : (L : Int) - 2 - (i : Int) = ((L - 1 - (i + 1) : Nat) : Int) := by omega
      have e4 : w32 (((L - 1 - (i + 1) : Nat) : Int) + (-1)) = (L : Int) - 2 - ((i + 1 : Nat) : Int) := by rw [w32_id] <;> omega
      rw [ek, Int.toNat_natCast, (hd M' hq).2.2 _ (by omega), e4]
      refine ⟨fun c => absurd c (by omega), fun _ => ⟨by omega, af _ M' _ (by omega) hq (fun M2 hq2 => c_notTwice _ _ (ih M2 hq2))⟩⟩
  have k1 : ∀ k, k ≤ pl + 1 → 1 ≤ k → ∀ M', Q43 M M' → W5_farmsAt_16 (d + 4) Φ (pl : Nat) (msk (ahT P h (k - 1)) 8 : Nat) (k : Nat) w M' n := by
    refine up (fun _ M' hq => ?_) (fun k hk ih hk1 M' hq => ?_)
    · apply v5_farmsAt_16
      have e1 : w32 ((L : Int) - 1) = ((L - 1 : Nat) : Int) := by rw [w32_eq]; omega
      have e2 : w32 ((L : Int) - 2) = (L : Int) - 2 := by rw [w32_id] <;> omega
      rw [(hd M' hq).1, e1, Int.toNat_natCast, (hd M' hq).2.2 _ (by omega)]
      refine ⟨fun _ => ⟨by omega, af _ M' _ (by omega) hq (fun M2 hq2 => ?_)⟩, fun c => absurd (by omega) c⟩
      rw [(hd M2 hq2).1, e2, show pl + 1 - 1 = pl by omega]
      have := k2 0 (Nat.zero_le _) M2 hq2
      rw [show (L : Int) - 2 - ((0 : Nat) : Int) = (L : Int) - 2 by omega] at this
      exact this
    · apply v5_farmsAt_16
      rw [Int.toNat_natCast, (hd M' hq).2.2 k (by omega), w32_s (by omega)]
      refine ⟨fun c => absurd c (by omega), fun _ => ⟨by omega, af k M' _ (by omega) hq (fun M2 hq2 => c_notTwice _ _ ?_)⟩⟩
      have ih' := ih (by omega) M2 hq2
      rw [show k + 1 - 1 = (k - 1) + 1 by omega] at ih'
      have e : ahT P h (k - 1 + 1) = beT (can0 P h k) (ahT P h (k - 1)) := by
        show beT (can0 P h (k - 1 + 1)) (ahT P h (k - 1)) = _
        rw [show k - 1 + 1 = k by omega]
      rw [e] at ih'
      exact ih'
  apply e5_farmsAt
  rw [a.2.2 0 (by omega)]
  exact af 0 M _ (by omega) (Q43.refl M) (fun M2 hq2 => k1 1 (by omega) (by omega) M2 hq2)
theorem c_teller (t p : Int) (r : relW M P) (rt : relT M S Z U) (ok : okP P) (q : ∀ M', KC M M' → Φ (zTeller P S Z U t p) M') : CF (d + 7) 163 [(2, 1), (0, t), (0, p)] w M n Φ := by
  unfold zTeller at q
  refine e11_teller (c_takeTold t r rt ok (fun M1 h1 ha => ⟨fun c => ?_, fun c => ?_⟩))
  · rw [if_pos c] at q
    obtain ⟨c1, c2, c3⟩ := noR_bits c
    have r1 := r.kc h1
    refine c_hasPlace p (ha c) (br (fun e => ?_) (fun e => ?_))
    · have e := of_decide_eq_false e
      have q' := q M1 h1
      rw [if_neg (by omega)] at q'
      exact q'
    · have e := of_decide_eq_true e
      rw [if_pos (by omega)] at q
      rw [show p = (p.toNat : Int) by omega]
      exact c_farmsAt _ _ _ (by omega) (by omega) c3 (ha c) r1 ok (fun M' h2 => q M' (h1.trans h2))
  · rw [if_neg c] at q
    exact q M1 h1
end
