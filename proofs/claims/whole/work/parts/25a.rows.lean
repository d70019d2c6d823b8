/-! ===== rows of bits and of farms: what is answered ===== -/
def smN (f : Nat → Nat) : Nat → Nat
  | 0 => 0
  | n + 1 => smN f n + f n
theorem smN_ext {f g : Nat → Nat} : ∀ n, (∀ k, k < n → f k = g k) → smN f n = smN g n
  | 0, _ => rfl
  | n + 1, h => by
    show smN f n + f n = smN g n + g n
    rw [smN_ext n (fun k hk => h k (by omega)), h n (by omega)]
theorem smN_le {f : Nat → Nat} {B : Nat} : ∀ n, (∀ k, k < n → f k ≤ B) → smN f n ≤ n * B
  | 0, _ => Nat.zero_le _
  | n + 1, h => by
    have h1 := smN_le n (fun k hk => h k (by omega))
    have h2 := h n (by omega)
    show smN f n + f n ≤ (n + 1) * B
    rw [Nat.succ_mul]
    omega
theorem smN_pos {f : Nat → Nat} : ∀ n, 0 < smN f n ↔ ∃ k, k < n ∧ 0 < f k
  | 0 => ⟨fun h => absurd h (Nat.lt_irrefl 0), fun ⟨k, h, _⟩ => absurd h (Nat.not_lt_zero k)⟩
  | n + 1 => by
    have ih := smN_pos (f := f) n
    show 0 < smN f n + f n ↔ _
    constructor
    · intro h
      by_cases c : 0 < f n
      · exact ⟨n, by omega, c⟩
      · obtain ⟨k, h1, h2⟩ := ih.mp (by omega)
        exact ⟨k, by omega, h2⟩
    · rintro ⟨k, h1, h2⟩
      by_cases c : k = n
      · subst c; omega
      · have := ih.mpr ⟨k, by omega, h2⟩; omega
theorem smN_one {f : Nat → Nat} {c : Nat} : ∀ n, c < n → f c ≤ smN f n
  | 0, h => absurd h (Nat.not_lt_zero c)
  | n + 1, h => by
    show f c ≤ smN f n + f n
    by_cases e : c = n
    · subst e; omega
    · have := smN_one (f := f) n (show c < n by omega); omega
theorem smN_two {f : Nat → Nat} {c e : Nat} (hce : c < e) : ∀ n, e < n → f c + f e ≤ smN f n
  | 0, h => absurd h (Nat.not_lt_zero e)
  | n + 1, h => by
    show f c + f e ≤ smN f n + f n
    by_cases e1 : e = n
    · subst e1
      have := smN_one (f := f) e hce
      omega
    · have := smN_two (f := f) hce n (show e < n by omega); omega
theorem smN_only {f : Nat → Nat} {c : Nat} (h : ∀ k, k ≠ c → f k = 0) : ∀ n, c < n → smN f n = f c
  | 0, hc => absurd hc (Nat.not_lt_zero c)
  | n + 1, hc => by
    show smN f n + f n = f c
    by_cases e : c = n
    · subst e
      have : smN f c = 0 := by
        have h0 : ∀ m, m ≤ c → smN f m = 0 := by
          intro m
          induction m with
          | zero => intro _; rfl
          | succ m ih => intro hm; show smN f m + f m = 0; rw [ih (by omega), h m (by omega)]
        exact h0 c (Nat.le_refl _)
      omega
    · rw [smN_only h n (by omega), h n (by omega), Nat.add_zero]
/-- one number more at a place, weighed -/
theorem smN_upd {v U : Nat → Nat} {t x : Nat} : ∀ n, t < n → smN (fun j => (if j = t then v j + x else v j) * U j) n = smN (fun j => v j * U j) n + x * U t
  | 0, h => absurd h (Nat.not_lt_zero t)
  | n + 1, h => by
    show smN (fun j => (if j = t then v j + x else v j) * U j) n + (if n = t then v n + x else v n) * U n = smN (fun j => v j * U j) n + v n * U n + x * U t
    by_cases e : n = t
    · subst e
      rw [if_pos rfl, Nat.add_mul]
      have : smN (fun j => (if j = n then v j + x else v j) * U j) n = smN (fun j => v j * U j) n := by
        refine smN_ext n (fun k hk => ?_)
        rw [if_neg (by omega)]
      omega
    · rw [if_neg e, smN_upd n (by omega)]
      omega
/-- from and to of a bit -/
def frN (P : Nat → Int) (b : Nat) : Nat := (P (13 + b)).toNat
def toN (P : Nat → Int) (b : Nat) : Nat := (P (25 + b)).toNat
/-- how many rows end at each moment, one bit more (of the first b) -/
def stN (P : Nat → Int) (sel : Nat → Bool) (v : Nat → Nat) : Nat → Nat → Nat
  | 0 => fun _ => 0
  | b + 1 => if sel b = true then (fun j => if j = toN P b then stN P sel v b j + v (frN P b) else stN P sel v b j) else stN P sel v b
theorem stN_le {P : Nat → Int} {sel : Nat → Bool} {v : Nat → Nat} {B : Nat} (hv : ∀ j, v j ≤ B) : ∀ b j, stN P sel v b j ≤ b * B
  | 0, _ => Nat.zero_le _
  | b + 1, j => by
    have h1 := stN_le (P := P) (sel := sel) hv b j
    have h2 := hv (frN P b)
    rw [Nat.succ_mul]
    show (if sel b = true then (fun j => if j = toN P b then stN P sel v b j + v (frN P b) else stN P sel v b j) else stN P sel v b) j ≤ _
    split
    · show (if j = toN P b then stN P sel v b j + v (frN P b) else stN P sel v b j) ≤ _
      split <;> omega
    · omega
theorem stN_ext {P : Nat → Int} {sel sel' : Nat → Bool} {v : Nat → Nat} : ∀ b, (∀ i, i < b → sel i = sel' i) → stN P sel v b = stN P sel' v b
  | 0, _ => rfl
  | b + 1, h => by
    show (if sel b = true then _ else stN P sel v b) = (if sel' b = true then _ else stN P sel' v b)
    rw [stN_ext b (fun i hi => h i (by omega)), h b (by omega)]
/-- the rows behind k bits -/
def rwG (P : Nat → Int) (sel : Nat → Nat → Bool) (fr : Nat) : Nat → Nat → Nat
  | 0 => fun j => if j = fr then 1 else 0
  | k + 1 => stN P (sel k) (rwG P sel fr k) (nB P)
theorem rwG_le {P : Nat → Int} (ok : okP P) (sel : Nat → Nat → Bool) (fr : Nat) : ∀ k j, rwG P sel fr k j ≤ 12 ^ k
  | 0, j => by show (if j = fr then 1 else 0) ≤ 1; split <;> omega
  | k + 1, j => by
    have h := stN_le (P := P) (sel := sel k) (rwG_le ok sel fr k) (nB P) j
    have hb := ok.nBe.2
    have h2 : nB P * 12 ^ k ≤ 12 * 12 ^ k := Nat.mul_le_mul_right _ hb
    rw [Nat.pow_succ, Nat.mul_comm]
    exact Nat.le_trans h h2
theorem rwG_ext {P : Nat → Int} {sel sel' : Nat → Nat → Bool} {fr : Nat} : ∀ k, (∀ i b, i < k → b < nB P → sel i b = sel' i b) → rwG P sel fr k = rwG P sel' fr k
  | 0, _ => rfl
  | k + 1, h => by
    show stN P (sel k) (rwG P sel fr k) (nB P) = stN P (sel' k) (rwG P sel' fr k) (nB P)
    rw [rwG_ext k (fun i b hi hb => h i b (by omega) hb)]
    exact stN_ext _ (fun b hb => h k b (by omega) hb)
theorem p12 : ∀ k, k ≤ 15 → 12 ^ k ≤ 15407021574586368 := by decide
/-- backwards: how many rows lead on, one bit more -/
def bkN (P : Nat → Int) (sel : Nat → Bool) (U : Nat → Nat) (j : Nat) : Nat → Nat
  | 0 => 0
  | b + 1 => bkN P sel U j b + (if sel b = true ∧ frN P b = j then U (toN P b) else 0)
theorem stN_dot {P : Nat → Int} (ok : okP P) {sel : Nat → Bool} {v U : Nat → Nat} : ∀ b, b ≤ nB P → smN (fun j => stN P sel v b j * U j) 8 = smN (fun i => if sel i = true then v (frN P i) * U (toN P i) else 0) b
  | 0, _ => by
    show smN (fun j => 0 * U j) 8 = 0
    have : ∀ n, smN (fun j => 0 * U j) n = 0 := by
      intro n
      induction n with
      | zero => rfl
      | succ n ih => show smN (fun j => 0 * U j) n + 0 * U n = 0; rw [ih, Nat.zero_mul]
    exact this 8
  | b + 1, h => by
    have ih := stN_dot ok (sel := sel) (v := v) (U := U) b (by omega)
    have hb := ok.nBe
    have hbt := ok.bit (b := b) (by omega)
    have hm := ok.Mo
    show smN (fun j => (if sel b = true then (fun j => if j = toN P b then stN P sel v b j + v (frN P b) else stN P sel v b j) else stN P sel v b) j * U j) 8 = smN (fun i => if sel i = true then v (frN P i) * U (toN P i) else 0) b + (if sel b = true then v (frN P b) * U (toN P b) else 0)
    by_cases c : sel b = true
    · rw [if_pos c, if_pos c, ← ih]
      exact smN_upd 8 (show toN P b < 8 by unfold toN; omega)
    · rw [if_neg c, if_neg c, ih, Nat.add_zero]
theorem bkN_dot {P : Nat → Int} (ok : okP P) {sel : Nat → Bool} {v U : Nat → Nat} : ∀ b, b ≤ nB P → smN (fun j => v j * bkN P sel U j b) 8 = smN (fun i => if sel i = true then v (frN P i) * U (toN P i) else 0) b
  | 0, _ => by
    show smN (fun j => v j * 0) 8 = 0
    have : ∀ n, smN (fun j => v j * 0) n = 0 := by
      intro n
      induction n with
      | zero => rfl
      | succ n ih => show smN (fun j => v j * 0) n + v n * 0 = 0; rw [ih, Nat.mul_zero]
    exact this 8
  | b + 1, h => by
    have ih := bkN_dot ok (sel := sel) (v := v) (U := U) b (by omega)
    have hb := ok.nBe
    have hbt := ok.bit (b := b) (by omega)
    have hm := ok.Mo
    show smN (fun j => v j * (bkN P sel U j b + (if sel b = true ∧ frN P b = j then U (toN P b) else 0))) 8 = smN (fun i => if sel i = true then v (frN P i) * U (toN P i) else 0) b + (if sel b = true then v (frN P b) * U (toN P b) else 0)
    by_cases c : sel b = true
    · rw [if_pos c, ← ih]
      have h2 := smN_upd (v := fun j => bkN P sel U j b) (U := v) (t := frN P b) (x := U (toN P b)) 8 (show frN P b < 8 by unfold frN; omega)
      have e1 : smN (fun j => v j * (bkN P sel U j b + (if sel b = true ∧ frN P b = j then U (toN P b) else 0))) 8 = smN (fun j => (if j = frN P b then bkN P sel U j b + U (toN P b) else bkN P sel U j b) * v j) 8 := by
        refine smN_ext 8 (fun k _ => ?_)
        show v k * (bkN P sel U k b + (if sel b = true ∧ frN P b = k then U (toN P b) else 0)) = (if k = frN P b then bkN P sel U k b + U (toN P b) else bkN P sel U k b) * v k
        rw [Nat.mul_comm]
        by_cases e : k = frN P b
        · rw [if_pos e, if_pos ⟨c, e.symm⟩]
        · rw [if_neg e, if_neg (fun z => e z.2.symm), Nat.add_zero]
      have e2 : smN (fun j => bkN P sel U j b * v j) 8 = smN (fun j => v j * bkN P sel U j b) 8 := smN_ext 8 (fun k _ => Nat.mul_comm _ _)
      rw [e1, h2, e2, Nat.mul_comm (U (toN P b))]
    · rw [if_neg c, Nat.add_zero, ← ih]
      refine smN_ext 8 (fun k _ => ?_)
      rw [if_neg (fun z => c z.1), Nat.add_zero]
/-- from place k on, of L places: how many rows lead on from each moment; L - k = i -/
def upG (P : Nat → Int) (sel : Nat → Nat → Bool) (L : Nat) : Nat → Nat → Nat
  | 0 => fun _ => 1
  | i + 1 => fun j => bkN P (sel (L - (i + 1))) (upG P sel L i) j (nB P)
theorem rw_tot {P : Nat → Int} (ok : okP P) (sel : Nat → Nat → Bool) (fr L : Nat) : ∀ i, i ≤ L → smN (rwG P sel fr L) 8 = smN (fun j => rwG P sel fr (L - i) j * upG P sel L i j) 8
  | 0, _ => by
    refine smN_ext 8 (fun k _ => ?_)
    show rwG P sel fr L k = rwG P sel fr L k * 1
    rw [Nat.mul_one]
  | i + 1, h => by
    rw [rw_tot ok sel fr L i (by omega)]
    have e : L - i = (L - (i + 1)) + 1 := by omega
    rw [e]
    exact (stN_dot ok (nB P) (Nat.le_refl _)).trans (bkN_dot ok (nB P) (Nat.le_refl _)).symm
/-- what was heard, and that one bit is at a place -/
def sel0 (P : Nat → Int) (h : Nat → Int) (k b : Nat) : Bool := useT P b && decide (h k = -1 ∨ h k = P (25 + b))
def selP (P : Nat → Int) (h : Nat → Int) (pl c : Nat) (k b : Nat) : Bool := sel0 P h k b && decide (k ≠ pl ∨ b = c)
def totS (P : Nat → Int) (h : Nat → Int) (fr L : Nat) : Nat := smN (rwG P (sel0 P h) fr L) 8
def totP (P : Nat → Int) (h : Nat → Int) (fr L pl c : Nat) : Nat := smN (rwG P (selP P h pl c) fr L) 8
theorem upG_ext {P : Nat → Int} {sel sel' : Nat → Nat → Bool} {L : Nat} : ∀ i, i ≤ L → (∀ k b, L - i ≤ k → k < L → sel k b = sel' k b) → upG P sel L i = upG P sel' L i
  | 0, _, _ => rfl
  | i + 1, hi, h => by
    funext j
    show bkN P (sel (L - (i + 1))) (upG P sel L i) j (nB P) = bkN P (sel' (L - (i + 1))) (upG P sel' L i) j (nB P)
    rw [upG_ext i (by omega) (fun k b h1 h2 => h k b (by omega) h2)]
    have : ∀ b, bkN P (sel (L - (i + 1))) (upG P sel' L i) j b = bkN P (sel' (L - (i + 1))) (upG P sel' L i) j b := by
      intro b
      induction b with
      | zero => rfl
      | succ b ih =>
        show bkN P (sel (L - (i + 1))) (upG P sel' L i) j b + _ = bkN P (sel' (L - (i + 1))) (upG P sel' L i) j b + _
        rw [ih, h _ b (by omega) (by omega)]
    exact this _
/-- how many of the rows have the bit c at the place pl -/
def nAt (P : Nat → Int) (h : Nat → Int) (fr L pl c : Nat) : Nat := if sel0 P h pl c = true then rwG P (sel0 P h) fr pl (frN P c) * upG P (sel0 P h) L (L - (pl + 1)) (toN P c) else 0
theorem tot_sum {P : Nat → Int} (ok : okP P) (h : Nat → Int) {fr L pl : Nat} (hpl : pl < L) : totS P h fr L = smN (nAt P h fr L pl) (nB P) := by
  unfold totS
  rw [rw_tot ok (sel0 P h) fr L (L - (pl + 1)) (by omega), show L - (L - (pl + 1)) = pl + 1 by omega]
  exact stN_dot ok (nB P) (Nat.le_refl _)
theorem totP_eq {P : Nat → Int} (ok : okP P) (h : Nat → Int) {fr L pl c : Nat} (hpl : pl < L) (hc : c < nB P) : totP P h fr L pl c = nAt P h fr L pl c := by
  unfold totP
  rw [rw_tot ok (selP P h pl c) fr L (L - (pl + 1)) (by omega), show L - (L - (pl + 1)) = pl + 1 by omega]
  have e1 : upG P (selP P h pl c) L (L - (pl + 1)) = upG P (sel0 P h) L (L - (pl + 1)) := by
    refine upG_ext _ (by omega) (fun k b h1 h2 => ?_)
    unfold selP
    rw [decide_eq_true (Or.inl (show k ≠ pl by omega)), Bool.and_true]
  have e2 : rwG P (selP P h pl c) fr pl = rwG P (sel0 P h) fr pl := by
    refine rwG_ext _ (fun k b h1 _ => ?_)
    unfold selP
    rw [decide_eq_true (Or.inl (show k ≠ pl by omega)), Bool.and_true]
  rw [e1]
  have h2 := stN_dot ok (sel := selP P h pl c pl) (v := rwG P (selP P h pl c) fr pl) (U := upG P (sel0 P h) L (L - (pl + 1))) (nB P) (Nat.le_refl _)
  refine h2.trans ?_
  rw [e2]
  have h3 := smN_only (f := fun i => if selP P h pl c pl i = true then rwG P (sel0 P h) fr pl (frN P i) * upG P (sel0 P h) L (L - (pl + 1)) (toN P i) else 0) (c := c) (fun k hk => by
    show (if selP P h pl c pl k = true then _ else 0) = 0
    unfold selP
    rw [decide_eq_false (show ¬ (pl ≠ pl ∨ k = c) by omega), Bool.and_false]
    rfl) (nB P) hc
  rw [h3]
  show (if selP P h pl c pl c = true then _ else 0) = nAt P h fr L pl c
  unfold nAt selP
  rw [decide_eq_true (Or.inr rfl), Bool.and_true]
/-- the answer of sureBit -/
def sureB (P : Nat → Int) (h : Nat → Int) (fr L pl : Nat) : Int := if 0 < totS P h fr L then (if fstB (fun c => decide (totP P h fr L pl c = totS P h fr L)) (nB P) < nB P then ((fstB (fun c => decide (totP P h fr L pl c = totS P h fr L)) (nB P) : Nat) : Int) else -1) else -1
/-- bits that are at a place in some row -/
def atT (P : Nat → Int) (h : Nat → Int) (fr L pl c : Nat) : Bool := decide (0 < nAt P h fr L pl c)
/-- rows of farms: who tells at each place, none two bits behind one another -/
def mayB (P : Nat → Int) (f b : Nat) : Bool := decide (f < nF P) && mayT P f b
def tlG (can : Nat → Nat → Bool) : Nat → Nat → Nat
  | 0 => fun f => if can 0 f = true then 1 else 0
  | k + 1 => fun f => if can (k + 1) f = true then smN (tlG can k) 8 - tlG can k f else 0
theorem tlG_le (can : Nat → Nat → Bool) : ∀ k f, tlG can k f ≤ 8 ^ k
  | 0, f => by show (if can 0 f = true then 1 else 0) ≤ 1; split <;> omega
  | k + 1, f => by
    have h := smN_le (f := tlG can k) (B := 8 ^ k) 8 (fun f _ => tlG_le can k f)
    show (if can (k + 1) f = true then smN (tlG can k) 8 - tlG can k f else 0) ≤ _
    rw [Nat.pow_succ, Nat.mul_comm]
    split
    · omega
    · exact Nat.zero_le _
theorem p8 : ∀ k, k ≤ 12 → 8 ^ k ≤ 68719476736 := by decide
theorem smN_less {f : Nat → Nat} {c n : Nat} (hc : c < n) : 0 < smN f n - f c ↔ ∃ k, k < n ∧ k ≠ c ∧ 0 < f k := by
  have e : smN f n = f c + smN (fun k => if k = c then 0 else f k) n := by
    have : ∀ m, smN f m = (if c < m then f c else 0) + smN (fun k => if k = c then 0 else f k) m := by
      intro m
      induction m with
      | zero => rfl
      | succ m ih =>
        show smN f m + f m = (if c < m + 1 then f c else 0) + (smN (fun k => if k = c then 0 else f k) m + (if m = c then 0 else f m))
        rw [ih]
        by_cases e1 : m = c
        · subst e1
          rw [if_neg (by omega), if_pos (by omega), if_pos rfl]; omega
        · rw [if_neg e1]
          by_cases e2 : c < m
          · rw [if_pos e2, if_pos (by omega)]; omega
          · rw [if_neg e2, if_neg (by omega)]; omega
    have h := this n
    rw [if_pos hc] at h
    exact h
  have h2 : smN f n - f c = smN (fun k => if k = c then 0 else f k) n := by omega
  rw [h2, smN_pos]
  constructor
  · rintro ⟨k, h1, h3⟩
    by_cases e1 : k = c
    · rw [if_pos e1] at h3; omega
    · rw [if_neg e1] at h3; exact ⟨k, h1, e1, h3⟩
  · rintro ⟨k, h1, h3, h4⟩
    exact ⟨k, h1, by rw [if_neg h3]; exact h4⟩
def can0 (P : Nat → Int) (h : Nat → Int) (k f : Nat) : Bool := mayB P f (h k).toNat
def canP (P : Nat → Int) (h : Nat → Int) (pl g : Nat) (k f : Nat) : Bool := can0 P h k f && decide (k ≠ pl ∨ f = g)
/-- how many rows of farms, of L bits (L is 1 at least) -/
def telS (P : Nat → Int) (h : Nat → Int) (L : Nat) : Nat := smN (tlG (can0 P h) (L - 1)) 8
def telP (P : Nat → Int) (h : Nat → Int) (L pl g : Nat) : Nat := smN (tlG (canP P h pl g) (L - 1)) 8
/-- one may stand beside others -/
def beT (may : Nat → Bool) (s : Nat → Bool) (f : Nat) : Bool := may f && anyB (fun g => s g && decide (g ≠ f)) 8
/-- who may be at a place, by what is ahead of it, by what is behind it -/
def ahT (P : Nat → Int) (h : Nat → Int) : Nat → Nat → Bool
  | 0 => can0 P h 0
  | k + 1 => beT (can0 P h (k + 1)) (ahT P h k)
def bhT (P : Nat → Int) (h : Nat → Int) (L : Nat) : Nat → Nat → Bool
  | 0 => can0 P h (L - 1)
  | i + 1 => beT (can0 P h (L - 1 - (i + 1))) (bhT P h L i)
theorem tl_pos (can : Nat → Nat → Bool) (k f : Nat) (hf : f < 8) : 0 < tlG can (k + 1) f ↔ can (k + 1) f = true ∧ ∃ g, g < 8 ∧ g ≠ f ∧ 0 < tlG can k g := by
  show 0 < (if can (k + 1) f = true then smN (tlG can k) 8 - tlG can k f else 0) ↔ _
  by_cases c : can (k + 1) f = true
  · rw [if_pos c, smN_less hf]
    exact ⟨fun h => ⟨c, h⟩, fun h => h.2⟩
  · rw [if_neg c]
    exact ⟨fun h => absurd h (Nat.lt_irrefl 0), fun h => absurd h.1 c⟩
theorem beT_iff {may s : Nat → Bool} {f : Nat} : beT may s f = true ↔ may f = true ∧ ∃ g, g < 8 ∧ g ≠ f ∧ s g = true := by
  unfold beT
  rw [Bool.and_eq_true, anyB_iff]
  constructor
  · rintro ⟨h1, g, h2, h3⟩
    rw [Bool.and_eq_true, decide_eq_true_eq] at h3
    exact ⟨h1, g, h2, h3.2, h3.1⟩
  · rintro ⟨h1, g, h2, h3, h4⟩
    exact ⟨h1, g, h2, by rw [h4, decide_eq_true h3]; rfl⟩
theorem ah_pos (P : Nat → Int) (h : Nat → Int) : ∀ k f, f < 8 → (0 < tlG (can0 P h) k f ↔ ahT P h k f = true)
  | 0, f, hf => by
    show 0 < (if can0 P h 0 f = true then 1 else 0) ↔ can0 P h 0 f = true
    by_cases c : can0 P h 0 f = true
    · rw [if_pos c]; exact ⟨fun _ => c, fun _ => by omega⟩
    · rw [if_neg c]; exact ⟨fun h => absurd h (Nat.lt_irrefl 0), fun h => absurd h c⟩
  | k + 1, f, hf => by
    rw [tl_pos _ _ _ hf]
    show _ ↔ beT (can0 P h (k + 1)) (ahT P h k) f = true
    rw [beT_iff]
    constructor
    · rintro ⟨h1, g, h2, h3, h4⟩; exact ⟨h1, g, h2, h3, (ah_pos P h k g h2).mp h4⟩
    · rintro ⟨h1, g, h2, h3, h4⟩; exact ⟨h1, g, h2, h3, (ah_pos P h k g h2).mpr h4⟩
theorem tl_congr {can can' : Nat → Nat → Bool} : ∀ k, (∀ i f, i ≤ k → can i f = can' i f) → tlG can k = tlG can' k
  | 0, h => by
    funext f
    show (if can 0 f = true then 1 else 0) = if can' 0 f = true then 1 else 0
    rw [h 0 f (by omega)]
  | k + 1, h => by
    have ih := tl_congr k (fun i f hi => h i f (by omega))
    funext f
    show (if can (k + 1) f = true then smN (tlG can k) 8 - tlG can k f else 0) = if can' (k + 1) f = true then smN (tlG can' k) 8 - tlG can' k f else 0
    rw [h (k + 1) f (by omega), ih]
theorem tl_can {can : Nat → Nat → Bool} {k f : Nat} (h : 0 < tlG can k f) : can k f = true := by
  cases k with
  | zero =>
    have h : 0 < (if can 0 f = true then 1 else 0) := h
    by_cases c : can 0 f = true
    · exact c
    · rw [if_neg c] at h; omega
  | succ k =>
    have h : 0 < (if can (k + 1) f = true then smN (tlG can k) 8 - tlG can k f else 0) := h
    by_cases c : can (k + 1) f = true
    · exact c
    · rw [if_neg c] at h; omega
/-- a farm is at a place in some row -/
theorem tel_at (P : Nat → Int) (h : Nat → Int) {L pl g : Nat} (hpl : pl < L) (hg : g < 8) : 0 < telP P h L pl g ↔ (ahT P h pl g = true ∧ bhT P h L (L - 1 - pl) g = true) := by
  have hb : ∀ i f, bhT P h L i f = true → can0 P h (L - 1 - i) f = true := by
    intro i f hh
    cases i with
    | zero => exact hh
    | succ i => exact (beT_iff.mp hh).1
  have key : ∀ i, i ≤ L - 1 - pl → (0 < telP P h L pl g ↔ ∃ f, f < 8 ∧ 0 < tlG (canP P h pl g) (L - 1 - i) f ∧ bhT P h L i f = true) := by
    intro i
    induction i with
    | zero =>
      intro _
      unfold telP
      rw [smN_pos]
      constructor
      · rintro ⟨f, h1, h2⟩
        refine ⟨f, h1, h2, ?_⟩
        have := tl_can h2
        unfold canP at this
        rw [Bool.and_eq_true] at this
        exact this.1
      · rintro ⟨f, h1, h2, _⟩; exact ⟨f, h1, h2⟩
    | succ i ih =>
      intro hi
      rw [ih (by omega)]
      have e : L - 1 - i = (L - 1 - (i + 1)) + 1 := by omega
      constructor
      · rintro ⟨f, h1, h2, h3⟩
        rw [e] at h2
        obtain ⟨h4, f', h5, h6, h7⟩ := (tl_pos _ _ _ h1).mp h2
        refine ⟨f', h5, h7, ?_⟩
        show beT (can0 P h (L - 1 - (i + 1))) (bhT P h L i) f' = true
        refine beT_iff.mpr ⟨?_, f, h1, Ne.symm h6, h3⟩
        have := tl_can h7
        unfold canP at this
        rw [Bool.and_eq_true] at this
        exact this.1
      · rintro ⟨f, h1, h2, h3⟩
        have h3 : beT (can0 P h (L - 1 - (i + 1))) (bhT P h L i) f = true := h3
        obtain ⟨h4, f', h5, h6, h7⟩ := beT_iff.mp h3
        refine ⟨f', h5, ?_, h7⟩
        rw [e]
        refine (tl_pos _ _ _ h5).mpr ⟨?_, f, h1, Ne.symm h6, h2⟩
        have := hb i f' h7
        unfold canP
        rw [← e, this, decide_eq_true (Or.inl (show L - 1 - i ≠ pl by omega))]
        rfl
  rw [key (L - 1 - pl) (Nat.le_refl _), show L - 1 - (L - 1 - pl) = pl by omega]
  have at_pl : ∀ f, f < 8 → (0 < tlG (canP P h pl g) pl f ↔ f = g ∧ ahT P h pl f = true) := by
    intro f hf
    rw [← ah_pos P h pl f hf]
    cases hp : pl with
    | zero =>
      show 0 < (if canP P h 0 g 0 f = true then 1 else 0) ↔ f = g ∧ 0 < (if can0 P h 0 f = true then 1 else 0)
      unfold canP
      by_cases e : f = g
      · rw [decide_eq_true (Or.inr e), Bool.and_true]; exact ⟨fun z => ⟨e, z⟩, fun z => z.2⟩
      · rw [decide_eq_false (show ¬ (0 ≠ 0 ∨ f = g) by omega), Bool.and_false]
        exact ⟨fun z => absurd z (by decide), fun z => absurd z.1 e⟩
    | succ k =>
      rw [tl_pos _ _ _ hf, tl_pos _ _ _ hf]
      have e2 : tlG (canP P h (k + 1) g) k = tlG (can0 P h) k := tl_congr k (fun i f hi => by
        unfold canP
        rw [decide_eq_true (Or.inl (show i ≠ k + 1 by omega)), Bool.and_true])
      rw [e2]
      unfold canP
      by_cases e : f = g
      · rw [decide_eq_true (Or.inr e), Bool.and_true]; exact ⟨fun z => ⟨e, z⟩, fun z => z.2⟩
      · rw [decide_eq_false (show ¬ (k + 1 ≠ k + 1 ∨ f = g) by omega), Bool.and_false]
        exact ⟨fun z => (by cases z.1), fun z => absurd z.1 e⟩
  constructor
  · rintro ⟨f, h1, h2, h3⟩
    obtain ⟨h4, h5⟩ := (at_pl f h1).mp h2
    subst h4
    exact ⟨h5, h3⟩
  · rintro ⟨h1, h2⟩
    exact ⟨g, hg, (at_pl g hg).mpr ⟨rfl, h1⟩, h2⟩
