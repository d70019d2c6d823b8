/-! ===== tokens of a text: pure; the reference reads them ===== -/
def rnE (p : Int → Bool) (T : Nat → Int) (N : Nat) : Nat → Nat → Nat
  | 0, i => i
  | k + 1, i => if i < N ∧ p (T i) = true then rnE p T N k (i + 1) else i
/-- where a run of signs of one sort ends -/
def rnd (p : Int → Bool) (T : Nat → Int) (N i : Nat) : Nat := rnE p T N (N - i) i
def isSp (c : Int) : Bool := decide (c = 10 ∨ c = 32)
def isSm (c : Int) : Bool := decide (97 ≤ c ∧ c ≤ 122)
def isDg (c : Int) : Bool := decide (48 ≤ c ∧ c ≤ 57)
theorem rnd_go {p : Int → Bool} {T : Nat → Int} {N i : Nat} (h : i < N) (hp : p (T i) = true) : rnd p T N i = rnd p T N (i + 1) := by
  unfold rnd
  rw [show N - i = (N - (i + 1)) + 1 by omega]
  show (if i < N ∧ p (T i) = true then rnE p T N (N - (i + 1)) (i + 1) else i) = _
  rw [if_pos ⟨h, hp⟩]
theorem rnd_end {p : Int → Bool} {T : Nat → Int} {N i : Nat} (h : ¬ (i < N ∧ p (T i) = true)) : rnd p T N i = i := by
  unfold rnd
  cases e : N - i with
  | zero => rfl
  | succ k =>
    show (if i < N ∧ p (T i) = true then rnE p T N k (i + 1) else i) = i
    rw [if_neg h]
theorem rnd_le (p : Int → Bool) (T : Nat → Int) {N : Nat} : ∀ k i, N - i = k → i ≤ N → i ≤ rnd p T N i ∧ rnd p T N i ≤ N := by
  intro k
  induction k with
  | zero => intro i hk hi; rw [rnd_end (by omega)]; omega
  | succ k ih =>
    intro i hk hi
    by_cases c : i < N ∧ p (T i) = true
    · rw [rnd_go c.1 c.2]
      have := ih (i + 1) (by omega) (by omega)
      omega
    · rw [rnd_end c]; omega
theorem rnd_lt {p : Int → Bool} {T : Nat → Int} {N i : Nat} (hi : i ≤ N) : i ≤ rnd p T N i ∧ rnd p T N i ≤ N := rnd_le p T _ i rfl hi
/-- the words and signs -/
def wdL : Nat → List Int
  | 0 => [102, 97, 114, 109, 115] | 1 => [109, 111, 109, 101, 110, 116, 115] | 2 => [98, 105, 116] | 3 => [116, 111] | 4 => [109, 117, 115, 116] | 5 => [102, 97, 114, 109]
  | 6 => [119, 105, 115, 104] | 7 => [109, 111, 111, 100] | 8 => [99, 117, 116] | 9 => [115, 110, 111, 119] | 10 => [97, 116] | 11 => [116, 101, 108, 108, 115] | 12 => [104, 101, 97, 114, 115]
  | 13 => [108, 105, 107, 101, 115] | 14 => [110, 111, 119] | 15 => [102, 114, 111, 109] | 16 => [116, 101, 108, 108, 101, 114] | 17 => [102, 97, 114] | 18 => [109, 111, 109, 101, 110, 116]
  | 19 => [97, 110, 100] | 20 => [111, 114] | _ => [110, 111, 116]
def sgL : List Int := [59, 58, 43, 45, 42, 40, 41, 91, 93, 61, 60, 62]
/-- the signs from a on are those of a list, and end at e -/
def eqW' (T : Nat → Int) (e : Nat) : List Int → Nat → Bool
  | [], a => decide (a = e)
  | c :: l, a => decide (a < e ∧ T a = c) && eqW' T e l (a + 1)
def keyN (T : Nat → Int) (a e : Nat) : Nat := fstB (fun k => eqW' T e (wdL k) a) 22
def sgn (c : Int) : Nat := fstB (fun k => decide (c = mAtT sgL k)) 12
def dgv (T : Nat → Int) (a : Nat) : Nat → Int
  | 0 => 0
  | k + 1 => 10 * dgv T a k + T (a + k) - 48
/-- where the next token begins, ends, its kind, its number -/
def tkA (T : Nat → Int) (N p : Nat) : Nat := rnd isSp T N p
def tkE (T : Nat → Int) (N p : Nat) : Nat :=
  if tkA T N p < N then (if isSm (T (tkA T N p)) = true then rnd isSm T N (tkA T N p) else if isDg (T (tkA T N p)) = true then rnd isDg T N (tkA T N p) else tkA T N p + 1) else tkA T N p
def tkK (T : Nat → Int) (N p : Nat) : Nat :=
  if tkA T N p < N then (if isSm (T (tkA T N p)) = true then keyN T (tkA T N p) (tkE T N p) else if isDg (T (tkA T N p)) = true then (if tkE T N p - tkA T N p > 3 then 25 else 23) else if sgn (T (tkA T N p)) < 12 then 30 + sgn (T (tkA T N p)) else 25) else 24
def tkV (T : Nat → Int) (N p : Nat) : Int := dgv T (tkA T N p) (min (tkE T N p - tkA T N p) 3)
theorem tkA_le {T : Nat → Int} {N p : Nat} (hp : p ≤ N) : p ≤ tkA T N p ∧ tkA T N p ≤ N := rnd_lt hp
theorem tkE_le {T : Nat → Int} {N p : Nat} (hp : p ≤ N) : tkA T N p ≤ tkE T N p ∧ tkE T N p ≤ N := by
  have h := tkA_le (T := T) hp
  unfold tkE
  split
  · split
    · exact rnd_lt h.2
    · split
      · exact rnd_lt h.2
      · omega
  · omega
section
variable {d : Nat} {n : Nat × Nat} {Φ : Int → (Nat → Nat → Int) → Prop} {M : Nat → Nat → Int} {T : Nat → Int} {N : Nat}
/-- the tape of the reference -/
def tapR (M : Nat → Nat → Int) (T : Nat → Int) (N : Nat) : Prop := M 1 8 = (N : Int) ∧ N ≤ 900 ∧ (∀ k, k < 900 → M 4 k = T k)
theorem sp_see (k : Nat) (t : tapR M T N) (q : Φ (if k < N then T k else -1) M) : CR (d + 1) 186 [(2, 1), (0, (k : Int))] M n Φ := by
  apply e12_see
  obtain ⟨t1, t2, t3⟩ := t
  rw [t1, Int.toNat_natCast]
  refine ⟨fun c => ?_, fun c => ⟨by omega, ?_⟩⟩
  · rw [if_neg (by omega)] at q; exact q
  · rw [if_pos (by omega)] at q
    rw [t3 k (by omega)]; exact q
theorem sp_small (c : Int) (q : Φ (b2i (isSm c)) M) : CR (d + 1) 187 [(0, c)] M n Φ := by
  apply e12_isSmall
  unfold isSm at q
  refine ⟨fun h => ?_, fun h => ⟨fun h2 => ?_, fun h2 => ?_⟩⟩
  · rw [decide_eq_false (by omega)] at q; exact q
  · rw [decide_eq_false (by omega)] at q; exact q
  · rw [decide_eq_true (by omega)] at q; exact q
theorem sp_digit (c : Int) (q : Φ (b2i (isDg c)) M) : CR (d + 1) 188 [(0, c)] M n Φ := by
  apply e12_isDigit
  unfold isDg at q
  refine ⟨fun h => ?_, fun h => ⟨fun h2 => ?_, fun h2 => ?_⟩⟩
  · rw [decide_eq_false (by omega)] at q; exact q
  · rw [decide_eq_false (by omega)] at q; exact q
  · rw [decide_eq_true (by omega)] at q; exact q
end
