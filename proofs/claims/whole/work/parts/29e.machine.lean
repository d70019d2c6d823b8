/-! ===== laws: read token by token, pure ===== -/
/-- what reading comes to: a place and a row, or a fault and its place -/
abbrev pR : Type := (Nat × (Nat → Int)) ⊕ (Int × Nat)
def flt (T : Nat → Int) (N : Nat) (e : Int) (p : Nat) : pR := .inr (if tkK T N p = 25 then 1 else e, tkA T N p)
/-- how tightly an operator binds -/
def rkT (k : Nat) : Nat := if k = 20 then 1 else if k = 19 then 2 else if k = 21 then 3 else if k = 39 ∨ k = 40 ∨ k = 41 then 4 else if k = 32 ∨ k = 33 then 5 else if k = 34 then 6 else 0
def opT (k : Nat) : Int := if k = 32 then 3000 else if k = 33 then 3001 else if k = 34 then 3002 else if k = 39 then 3003 else if k = 40 then 3004 else if k = 41 then 3005 else if k = 21 then 3006 else if k = 19 then 3007 else 3008
/-- a piece of code is put -/
def adC (x : Int) (P : Nat → Int) : Nat → Int := pset (pset P (364 + (P 363).toNat) x) 363 (P 363 + 1)
def cnT (k : Nat) : List Nat → Nat
  | [] => 0
  | o :: S => cnT k S + (if o = k then 1 else 0)
def dpT (S : List Nat) : Nat := cnT 21 S + cnT 35 S + cnT 37 S
def tpT : List Nat → Nat
  | [] => 0
  | o :: _ => rkT o
def poT (r : Nat) : List Nat → (Nat → Int) → List Nat × (Nat → Int)
  | [], P => ([], P)
  | o :: S, P => if r ≤ rkT o then poT r S (adC (opT o) P) else (o :: S, P)
def wrT (l k : Nat) : Int := if k = 5 then 0 else if k = 7 then 1 else if k = 2 then (if l = 0 then 2 else -1) else if k = 15 then (if l = 0 then 3 else -1) else if k = 3 then (if l = 0 then 4 else -1) else if k = 16 then (if l = 1 then 5 else -1) else if k = 17 then (if l = 1 then 6 else -1) else if k = 18 then (if l = 2 then 7 else -1) else -1
def fitT (l k : Nat) (S : List Nat) (st cm : Nat) : Bool := decide ((st = 2 ∧ (k = 32 ∨ k = 33 ∨ k = 34)) ∨ (st = 2 ∧ k = 36 ∧ 0 < cnT 35 S) ∨ (st = 2 ∧ cnT 35 S = 0 ∧ l ≠ 2 ∧ cm = 0 ∧ (k = 39 ∨ k = 40 ∨ k = 41)) ∨ ((st = 3 ∨ (st = 2 ∧ cnT 35 S = 0 ∧ cm = 1)) ∧ (k = 19 ∨ k = 20)) ∨ ((st = 3 ∨ (st = 2 ∧ cnT 35 S = 0 ∧ cm = 1)) ∧ k = 38 ∧ 0 < cnT 37 S) ∨ (k = 30 ∧ ((l = 2 ∧ st = 2 ∧ cnT 35 S = 0) ∨ (l ≠ 2 ∧ (st = 3 ∨ (st = 2 ∧ cnT 35 S = 0 ∧ cm = 1)) ∧ cnT 37 S = 0))))
/-- the reading of a law, in at most so many steps: the stack, the stage, whether compared, the row -/
def Rn (l : Nat) (T : Nat → Int) (N : Nat) : Nat → Nat → List Nat → Nat → Nat → (Nat → Int) → pR → Prop
  | 0, _, _, _, _, _, _ => False
  | f + 1, p, S, st, cm, P, r =>
    if st < 2 then
      (if tkK T N p = 35 ∨ (st = 0 ∧ (tkK T N p = 37 ∨ tkK T N p = 21)) then
        (if 6 ≤ dpT S then r = flt T N 4 p else Rn l T N f (tkE T N p) (tkK T N p :: S) (if tkK T N p = 35 then 1 else 0) (if tkK T N p = 35 then cm else 0) P r)
      else if tkK T N p = 23 then Rn l T N f (tkE T N p) S 2 cm (adC (tkV T N p) P) r
      else if wrT l (tkK T N p) = -1 then r = flt T N 2 p
      else Rn l T N f (tkE T N p) S 2 cm (adC (1000 + wrT l (tkK T N p)) P) r)
    else if fitT l (tkK T N p) S st cm = false then r = flt T N 2 p
    else if tkK T N p = 30 then r = .inl (p, (poT 1 S P).2)
    else if tkK T N p = 36 ∨ tkK T N p = 38 then Rn l T N f (tkE T N p) (poT 1 S P).1.tail (if tkK T N p = 36 then 2 else 3) cm (poT 1 S P).2 r
    else Rn l T N f (tkE T N p) (tkK T N p :: (poT (rkT (tkK T N p)) S P).1) (if tkK T N p = 19 ∨ tkK T N p = 20 then 0 else 1) (if tkK T N p = 19 ∨ tkK T N p = 20 then 0 else if tkK T N p = 39 ∨ tkK T N p = 40 ∨ tkK T N p = 41 then 1 else cm) (poT (rkT (tkK T N p)) S P).2 r
theorem Rn_s (l : Nat) (T : Nat → Int) (N f p : Nat) (S : List Nat) (st cm : Nat) (P : Nat → Int) (r : pR) : Rn l T N (f + 1) p S st cm P r = (if st < 2 then
      (if tkK T N p = 35 ∨ (st = 0 ∧ (tkK T N p = 37 ∨ tkK T N p = 21)) then
        (if 6 ≤ dpT S then r = flt T N 4 p else Rn l T N f (tkE T N p) (tkK T N p :: S) (if tkK T N p = 35 then 1 else 0) (if tkK T N p = 35 then cm else 0) P r)
      else if tkK T N p = 23 then Rn l T N f (tkE T N p) S 2 cm (adC (tkV T N p) P) r
      else if wrT l (tkK T N p) = -1 then r = flt T N 2 p
      else Rn l T N f (tkE T N p) S 2 cm (adC (1000 + wrT l (tkK T N p)) P) r)
    else if fitT l (tkK T N p) S st cm = false then r = flt T N 2 p
    else if tkK T N p = 30 then r = .inl (p, (poT 1 S P).2)
    else if tkK T N p = 36 ∨ tkK T N p = 38 then Rn l T N f (tkE T N p) (poT 1 S P).1.tail (if tkK T N p = 36 then 2 else 3) cm (poT 1 S P).2 r
    else Rn l T N f (tkE T N p) (tkK T N p :: (poT (rkT (tkK T N p)) S P).1) (if tkK T N p = 19 ∨ tkK T N p = 20 then 0 else 1) (if tkK T N p = 19 ∨ tkK T N p = 20 then 0 else if tkK T N p = 39 ∨ tkK T N p = 40 ∨ tkK T N p = 41 then 1 else cm) (poT (rkT (tkK T N p)) S P).2 r) := rfl
def RnS (l : Nat) (T : Nat → Int) (N p : Nat) (S : List Nat) (st cm : Nat) (P : Nat → Int) (r : pR) : Prop := ∃ f, Rn l T N f p S st cm P r
theorem cnT_op {k o : Nat} {S : List Nat} (h : o ≠ k) : cnT k (o :: S) = cnT k S := by
  show cnT k S + (if o = k then 1 else 0) = _
  rw [if_neg h]
  rfl
theorem cnT_in {k : Nat} {S : List Nat} : cnT k (k :: S) = cnT k S + 1 := by
  show cnT k S + (if k = k then 1 else 0) = _
  rw [if_pos rfl]
theorem rkT_1 {o : Nat} (h : 1 ≤ rkT o) : o ≠ 35 ∧ o ≠ 37 ∧ o ≠ 36 ∧ o ≠ 38 ∧ o ≠ 30 := by
  unfold rkT at h
  refine ⟨?_, ?_, ?_, ?_, ?_⟩ <;> (intro z; subst z; revert h; decide)
theorem fitT_op {l k o : Nat} {S : List Nat} {st cm : Nat} (h : 1 ≤ rkT o) : fitT l k (o :: S) st cm = fitT l k S st cm := by
  obtain ⟨h1, h2, _⟩ := rkT_1 h
  unfold fitT
  rw [cnT_op h1, cnT_op h2]
theorem rkT_6 (k : Nat) : rkT k ≤ 6 := by
  unfold rkT
  repeat' split
  all_goals omega
theorem poT_top {r : Nat} {S : List Nat} {P : Nat → Int} (h : tpT S < r) : poT r S P = (S, P) := by
  cases S with
  | nil => rfl
  | cons o S =>
    show (if r ≤ rkT o then _ else _) = _
    have h : rkT o < r := h
    rw [if_neg (by omega)]
theorem poT_op {r o : Nat} {S : List Nat} {P : Nat → Int} (h : r ≤ rkT o) : poT r (o :: S) P = poT r S (adC (opT o) P) := by
  show (if r ≤ rkT o then _ else _) = _
  rw [if_pos h]
section
variable {l N p st cm : Nat} {T : Nat → Int} {S : List Nat} {P : Nat → Int} {r : pR}
theorem rs_many (h1 : st < 2) (h2 : tkK T N p = 35 ∨ (st = 0 ∧ (tkK T N p = 37 ∨ tkK T N p = 21))) (h3 : 6 ≤ dpT S) : RnS l T N p S st cm P (flt T N 4 p) := ⟨1, by rw [Rn_s, if_pos h1, if_pos h2, if_pos h3]⟩
theorem rs_open (h1 : st < 2) (h2 : tkK T N p = 35 ∨ (st = 0 ∧ (tkK T N p = 37 ∨ tkK T N p = 21))) (h3 : ¬ (6 ≤ dpT S)) (h : RnS l T N (tkE T N p) (tkK T N p :: S) (if tkK T N p = 35 then 1 else 0) (if tkK T N p = 35 then cm else 0) P r) : RnS l T N p S st cm P r := by
  obtain ⟨f, h⟩ := h
  exact ⟨f + 1, by rw [Rn_s, if_pos h1, if_pos h2, if_neg h3]; exact h⟩
theorem rs_num (h1 : st < 2) (h2 : tkK T N p = 23) (h : RnS l T N (tkE T N p) S 2 cm (adC (tkV T N p) P) r) : RnS l T N p S st cm P r := by
  obtain ⟨f, h⟩ := h
  exact ⟨f + 1, by rw [Rn_s, if_pos h1, if_neg (by omega), if_pos h2]; exact h⟩
theorem rs_word (h1 : st < 2) (h2 : ¬ (tkK T N p = 35 ∨ (st = 0 ∧ (tkK T N p = 37 ∨ tkK T N p = 21)))) (h3 : tkK T N p ≠ 23) (h4 : wrT l (tkK T N p) ≠ -1) (h : RnS l T N (tkE T N p) S 2 cm (adC (1000 + wrT l (tkK T N p)) P) r) : RnS l T N p S st cm P r := by
  obtain ⟨f, h⟩ := h
  exact ⟨f + 1, by rw [Rn_s, if_pos h1, if_neg h2, if_neg h3, if_neg h4]; exact h⟩
theorem rs_none (h1 : st < 2) (h2 : ¬ (tkK T N p = 35 ∨ (st = 0 ∧ (tkK T N p = 37 ∨ tkK T N p = 21)))) (h3 : tkK T N p ≠ 23) (h4 : wrT l (tkK T N p) = -1) : RnS l T N p S st cm P (flt T N 2 p) := ⟨1, by rw [Rn_s, if_pos h1, if_neg h2, if_neg h3, if_pos h4]⟩
theorem rs_unfit (h1 : 2 ≤ st) (h2 : fitT l (tkK T N p) S st cm = false) : RnS l T N p S st cm P (flt T N 2 p) := ⟨1, by rw [Rn_s, if_neg (by omega), if_pos h2]⟩
theorem rs_fin (h1 : 2 ≤ st) (h2 : fitT l (tkK T N p) S st cm = true) (h3 : tkK T N p = 30) : RnS l T N p S st cm P (.inl (p, (poT 1 S P).2)) := ⟨1, by rw [Rn_s, if_neg (by omega), if_neg (by rw [h2]; decide), if_pos h3]⟩
theorem rs_close (h1 : 2 ≤ st) (h2 : fitT l (tkK T N p) S st cm = true) (h3 : tkK T N p = 36 ∨ tkK T N p = 38) (h : RnS l T N (tkE T N p) (poT 1 S P).1.tail (if tkK T N p = 36 then 2 else 3) cm (poT 1 S P).2 r) : RnS l T N p S st cm P r := by
  obtain ⟨f, h⟩ := h
  exact ⟨f + 1, by rw [Rn_s, if_neg (by omega), if_neg (by rw [h2]; decide), if_neg (by omega), if_pos h3]; exact h⟩
theorem rs_op (h1 : 2 ≤ st) (h2 : fitT l (tkK T N p) S st cm = true) (h3 : 1 ≤ rkT (tkK T N p)) (h4 : tpT S < rkT (tkK T N p)) (h : RnS l T N (tkE T N p) (tkK T N p :: S) (if tkK T N p = 19 ∨ tkK T N p = 20 then 0 else 1) (if tkK T N p = 19 ∨ tkK T N p = 20 then 0 else if tkK T N p = 39 ∨ tkK T N p = 40 ∨ tkK T N p = 41 then 1 else cm) P r) : RnS l T N p S st cm P r := by
  obtain ⟨f, h⟩ := h
  obtain ⟨g1, g2, g3, g4, g5⟩ := rkT_1 h3
  exact ⟨f + 1, by rw [Rn_s, if_neg (by omega), if_neg (by rw [h2]; decide), if_neg g5, if_neg (by omega), poT_top h4]; exact h⟩
/-- an operator that the next token would work off is worked off at once -/
theorem rs_norm {o : Nat} (h1 : 2 ≤ st) (h2 : 1 ≤ rkT o) (h3 : fitT l (tkK T N p) S st cm = true → rkT (tkK T N p) ≤ rkT o) (h : RnS l T N p S st cm (adC (opT o) P) r) : RnS l T N p (o :: S) st cm P r := by
  obtain ⟨f, h⟩ := h
  cases f with
  | zero => exact h.elim
  | succ f =>
    refine ⟨f + 1, ?_⟩
    rw [Rn_s, if_neg (by omega)] at h ⊢
    rw [fitT_op h2]
    cases hf : fitT l (tkK T N p) S st cm with
    | false =>
      rw [hf, if_pos rfl] at h
      rw [if_pos rfl]
      exact h
    | true =>
      rw [hf, if_neg (by decide)] at h
      rw [if_neg (by decide), poT_op h2, poT_op (h3 hf)]
      exact h
end
/-- the sorts of what a law's code leaves -/
def tyP (l fr : Nat) (P : Nat → Int) : Option (List Bool) := tyk l (fun k => P (364 + fr + k)) ((P 363).toNat - fr)
theorem adC_n (x : Int) (P : Nat → Int) : adC x P 363 = P 363 + 1 := pset_eq _ _ _
theorem adC_at {x : Int} {P : Nat → Int} (h : 0 ≤ P 363) : adC x P (364 + (P 363).toNat) = x := by
  unfold adC
  rw [pset_ne (by omega), pset_eq]
theorem adC_ne {x : Int} {P : Nat → Int} {j : Nat} (h1 : j ≠ 363) (h2 : j ≠ 364 + (P 363).toNat) : adC x P j = P j := by
  unfold adC
  rw [pset_ne h1, pset_ne h2]
theorem tyP_ad {l fr : Nat} {x : Int} {P : Nat → Int} (h : 0 ≤ P 363) (hf : fr ≤ (P 363).toNat) : tyP l fr (adC x P) = (tyP l fr P).bind (ty1 l x) := by
  unfold tyP
  rw [adC_n, show (P 363 + 1).toNat - fr = ((P 363).toNat - fr) + 1 by omega]
  show (tyk l (fun k => adC x P (364 + fr + k)) ((P 363).toNat - fr)).bind (ty1 l (adC x P (364 + fr + ((P 363).toNat - fr)))) = _
  rw [show 364 + fr + ((P 363).toNat - fr) = 364 + (P 363).toNat by omega, adC_at h, tyk_ext (cd := fun k => P (364 + fr + k)) _ (fun k hk => adC_ne (by omega) (by omega))]
theorem ty_num {l : Nat} {x : Int} {s : List Bool} (h : 0 ≤ x ∧ x < 1000) (hs : s.length < 64) : ty1 l x s = some (false :: s) := by
  unfold ty1
  rw [if_pos h.2, if_pos ⟨h.1, hs⟩]
theorem wrT_ok {l k : Nat} (hl : l < 3) (h : wrT l k ≠ -1) : wOk l (wrT l k) = true ∧ 0 ≤ wrT l k ∧ wrT l k < 8 := by
  have hh : l = 0 ∨ l = 1 ∨ l = 2 := by omega
  unfold wrT at h ⊢
  rcases hh with e | e | e <;> subst e
  all_goals
    repeat' split
    all_goals first | (exact absurd rfl h) | (exact absurd (by assumption) (by decide)) | decide | (rename_i g1 g2; omega) | skip
theorem ty_word {l k : Nat} {s : List Bool} (hl : l < 3) (h : wrT l k ≠ -1) (hs : s.length < 64) : ty1 l (1000 + wrT l k) s = some (false :: s) := by
  obtain ⟨h1, h2, h3⟩ := wrT_ok hl h
  unfold ty1
  rw [if_neg (by omega), if_pos (by omega), show 1000 + wrT l k - 1000 = wrT l k by omega, if_pos ⟨h1, hs⟩]
theorem ty_sum {l : Nat} {x : Int} {s : List Bool} (h : x = 3000 ∨ x = 3001 ∨ x = 3002) : ty1 l x (false :: false :: s) = some (false :: s) := by
  unfold ty1
  rw [if_neg (by omega), if_neg (by omega), if_neg (by omega), if_neg (by omega), if_neg (by omega), if_pos h]
  rfl
theorem ty_cmp {l : Nat} {x : Int} {s : List Bool} (h : x = 3003 ∨ x = 3004 ∨ x = 3005) : ty1 l x (false :: false :: s) = some (true :: s) := by
  unfold ty1
  rw [if_neg (by omega), if_neg (by omega), if_neg (by omega), if_neg (by omega), if_pos h]
  rfl
theorem ty_bool {l : Nat} {x : Int} {s : List Bool} (h : x = 3007 ∨ x = 3008) : ty1 l x (true :: true :: s) = some (true :: s) := by
  unfold ty1
  rw [if_neg (by omega), if_neg (by omega), if_neg (by omega), if_pos h]
  rfl
theorem ty_not {l : Nat} {s : List Bool} : ty1 l 3006 (true :: s) = some (true :: s) := by
  unfold ty1
  rw [if_neg (by omega), if_neg (by omega), if_pos rfl]
  rfl
theorem tkE_go {T : Nat → Int} {N p : Nat} (hp : p ≤ N) (h : tkK T N p ≠ 24) : p < tkE T N p := by
  have hA := tkA_le (T := T) hp
  by_cases c : tkA T N p < N
  · have : tkA T N p < tkE T N p := by
      unfold tkE
      rw [if_pos c]
      split
      · rename_i h1
        rw [rnd_go c h1]
        have := rnd_lt (p := isSm) (T := T) (N := N) (i := tkA T N p + 1) (by omega)
        omega
      · split
        · rename_i h1
          rw [rnd_go c h1]
          have := rnd_lt (p := isDg) (T := T) (N := N) (i := tkA T N p + 1) (by omega)
          omega
        · omega
    omega
  · exfalso
    apply h
    unfold tkK
    rw [if_neg c]
