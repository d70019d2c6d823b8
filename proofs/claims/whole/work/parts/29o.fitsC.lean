/-! ===== laws: one token is taken: the class (printed by program) ===== -/
theorem fbC {k : Nat} (hv : vK k) {A36 A34 A32 A33 A30 A40 A39 A41 A38 A20 A19 D : Prop} (h36 : k = 36 → A36) (h34 : k = 34 → A34) (h32 : k = 32 → A32) (h33 : k = 33 → A33) (h30 : k = 30 → A30) (h40 : k = 40 → A40) (h39 : k = 39 → A39) (h41 : k = 41 → A41) (h38 : k = 38 → A38) (h20 : k = 20 → A20) (h19 : k = 19 → A19) (hd : k ≠ 36 → k ≠ 34 → k ≠ 32 → k ≠ 33 → k ≠ 30 → k ≠ 40 → k ≠ 39 → k ≠ 41 → k ≠ 38 → k ≠ 20 → k ≠ 19 → D) : (cvK k = 41 → A36) ∧ (cvK k ≠ 41 → ((cvK k = 42 → A34) ∧ (cvK k ≠ 42 → ((cvK k = 43 → A32) ∧ (cvK k ≠ 43 → ((cvK k = 45 → A33) ∧ (cvK k ≠ 45 → ((cvK k = 59 → A30) ∧ (cvK k ≠ 59 → ((cvK k = 60 → A40) ∧ (cvK k ≠ 60 → ((cvK k = 61 → A39) ∧ (cvK k ≠ 61 → ((cvK k = 62 → A41) ∧ (cvK k ≠ 62 → ((cvK k = 93 → A38) ∧ (cvK k ≠ 93 → ((cvK k = 271 → A20) ∧ (cvK k ≠ 271 → ((cvK k = 272 → A19) ∧ (cvK k ≠ 272 → (D)))))))))))))))))))))) :=
  ck hv (κ := 36) (c := 41) ⟨by decide, by unfold vK; omega⟩ (fun e => h36 e) (fun n36 => ck hv (κ := 34) (c := 42) ⟨by decide, by unfold vK; omega⟩ (fun e => h34 e) (fun n34 => ck hv (κ := 32) (c := 43) ⟨by decide, by unfold vK; omega⟩ (fun e => h32 e) (fun n32 => ck hv (κ := 33) (c := 45) ⟨by decide, by unfold vK; omega⟩ (fun e => h33 e) (fun n33 => ck hv (κ := 30) (c := 59) ⟨by decide, by unfold vK; omega⟩ (fun e => h30 e) (fun n30 => ck hv (κ := 40) (c := 60) ⟨by decide, by unfold vK; omega⟩ (fun e => h40 e) (fun n40 => ck hv (κ := 39) (c := 61) ⟨by decide, by unfold vK; omega⟩ (fun e => h39 e) (fun n39 => ck hv (κ := 41) (c := 62) ⟨by decide, by unfold vK; omega⟩ (fun e => h41 e) (fun n41 => ck hv (κ := 38) (c := 93) ⟨by decide, by unfold vK; omega⟩ (fun e => h38 e) (fun n38 => ck hv (κ := 20) (c := 271) ⟨by decide, by unfold vK; omega⟩ (fun e => h20 e) (fun n20 => ck hv (κ := 19) (c := 272) ⟨by decide, by unfold vK; omega⟩ (fun e => h19 e) (fun n19 => hd n36 n34 n32 n33 n30 n40 n39 n41 n38 n20 n19)))))))))))
/-- one step of reading a law: a fault, the end, or what is next -/
def stpT (l k : Nat) (v : Int) (S : List Nat) (st cm : Nat) (P : Nat → Int) : Int ⊕ (Nat → Int) ⊕ (List Nat × Nat × Nat × (Nat → Int)) :=
  if st < 2 then
    (if k = 35 ∨ (st = 0 ∧ (k = 37 ∨ k = 21)) then
      (if 6 ≤ dpT S then .inl 4 else .inr (.inr (k :: S, (if k = 35 then 1 else 0), (if k = 35 then cm else 0), P)))
    else if k = 23 then .inr (.inr (S, 2, cm, adC v P))
    else if wrT l k = -1 then .inl 2
    else .inr (.inr (S, 2, cm, adC (1000 + wrT l k) P)))
  else if fitT l k S st cm = false then .inl 2
  else if k = 30 then .inr (.inl (poT 1 S P).2)
  else if k = 36 ∨ k = 38 then .inr (.inr ((poT 1 S P).1.tail, (if k = 36 then 2 else 3), cm, (poT 1 S P).2))
  else .inr (.inr (k :: (poT (rkT k) S P).1, (if k = 19 ∨ k = 20 then 0 else 1), (if k = 19 ∨ k = 20 then 0 else if k = 39 ∨ k = 40 ∨ k = 41 then 1 else cm), (poT (rkT k) S P).2))
theorem Rn_stp {l : Nat} {T : Nat → Int} {N f p : Nat} {S : List Nat} {st cm : Nat} {P : Nat → Int} {r : pR} (h : Rn l T N (f + 1) p S st cm P r) : match stpT l (tkK T N p) (tkV T N p) S st cm P with | .inl e => r = flt T N e p | .inr (.inl P') => r = .inl (p, P') | .inr (.inr (S', st', cm', P')) => Rn l T N f (tkE T N p) S' st' cm' P' r := by
  rw [Rn_s] at h
  unfold stpT
  by_cases c1 : st < 2
  · rw [if_pos c1] at h ⊢
    by_cases c2 : tkK T N p = 35 ∨ (st = 0 ∧ (tkK T N p = 37 ∨ tkK T N p = 21))
    · rw [if_pos c2] at h ⊢
      by_cases c3 : 6 ≤ dpT S
      · rw [if_pos c3] at h ⊢; exact h
      · rw [if_neg c3] at h ⊢; exact h
    · rw [if_neg c2] at h ⊢
      by_cases c3 : tkK T N p = 23
      · rw [if_pos c3] at h ⊢; exact h
      · rw [if_neg c3] at h ⊢
        by_cases c4 : wrT l (tkK T N p) = -1
        · rw [if_pos c4] at h ⊢; exact h
        · rw [if_neg c4] at h ⊢; exact h
  · rw [if_neg c1] at h ⊢
    by_cases c2 : fitT l (tkK T N p) S st cm = false
    · rw [if_pos c2] at h ⊢; exact h
    · rw [if_neg c2] at h ⊢
      by_cases c3 : tkK T N p = 30
      · rw [if_pos c3] at h ⊢; exact h
      · rw [if_neg c3] at h ⊢
        by_cases c4 : tkK T N p = 36 ∨ tkK T N p = 38
        · rw [if_pos c4] at h ⊢; exact h
        · rw [if_neg c4] at h ⊢; exact h
theorem poT_len (r : Nat) : ∀ (S : List Nat) (P : Nat → Int), 0 ≤ P 363 → stB S → stB (poT r S P).1 ∧ P 363 ≤ (poT r S P).2 363 ∧ (poT r S P).2 363 + ((poT r S P).1.length : Int) = P 363 + (S.length : Int) ∧ (poT r S P).2 3 = P 3 ∧ (1 ≤ r → cnT 35 (poT r S P).1 = cnT 35 S ∧ cnT 37 (poT r S P).1 = cnT 37 S ∧ tpT (poT r S P).1 < r)
  | [], P, h0, _ => ⟨trivial, Int.le_refl _, rfl, rfl, fun h => ⟨rfl, rfl, h⟩⟩
  | o :: S, P, h0, hB => by
    by_cases c : r ≤ rkT o
    · rw [poT_op c]
      obtain ⟨i1, i2, i3, i4, i5⟩ := poT_len r S (adC (opT o) P) (by rw [adC_n]; omega) hB.2
      rw [adC_n] at i2 i3
      refine ⟨i1, by omega, ?_, ?_, fun h => ?_⟩
      · rw [i3]
        show _ = P 363 + ((S.length + 1 : Nat) : Int)
        omega
      · rw [i4]; exact adC_ne (by omega) (by omega)
      · obtain ⟨j1, j2, j3⟩ := i5 h
        obtain ⟨o1, o2, _⟩ := rkT_1 (o := o) (by omega)
        rw [j1, j2, cnT_op o1, cnT_op o2]
        exact ⟨rfl, rfl, j3⟩
    · have e : poT r (o :: S) P = (o :: S, P) := by
        show (if r ≤ rkT o then _ else _) = _
        rw [if_neg c]
      rw [e]
      exact ⟨hB, Int.le_refl _, rfl, rfl, fun h => ⟨rfl, rfl, (by show rkT o < r; omega)⟩⟩
/-- what stays true of stack and stage -/
def ivT (S : List Nat) (st cm : Nat) : Prop := stB S ∧ st ≤ 3 ∧ cm ≤ 1 ∧ (st = 0 ∨ st = 3 → cnT 35 S = 0)
/-- the top bracket -/
theorem poT_br {S : List Nat} {P : Nat → Int} (hB : stB S) (h0 : 0 ≤ P 363) : ((poT 1 S P).1 = [] ∧ cnT 35 S = 0 ∧ cnT 37 S = 0) ∨ (∃ S', (poT 1 S P).1 = 35 :: S' ∧ 0 < cnT 35 S) ∨ (∃ S', (poT 1 S P).1 = 37 :: S' ∧ cnT 35 S = 0 ∧ cnT 35 S' = 0) := by
  obtain ⟨i1, i2, i3, i4, i5⟩ := poT_len 1 S P h0 hB
  obtain ⟨j1, j2, j3⟩ := i5 (Nat.le_refl _)
  rw [← j1, ← j2]
  cases e : (poT 1 S P).1 with
  | nil => exact Or.inl ⟨rfl, rfl, rfl⟩
  | cons o S' =>
    rw [e] at i1 j3
    have j3 : rkT o < 1 := j3
    rcases i1.1.2.2.2.2 (by omega) with z | z
    · subst z
      exact Or.inr (Or.inl ⟨S', rfl, by rw [cnT_in]; omega⟩)
    · subst z
      have := i1.1.2.2.2.1 (by omega) (by omega) (by omega) (by omega)
      exact Or.inr (Or.inr ⟨S', rfl, by rw [cnT_op (by omega)]; exact this, this⟩)
theorem fit_cases {l k st cm : Nat} {S : List Nat} (h : ¬ (fitT l k S st cm = false)) : (st = 2 ∧ (k = 32 ∨ k = 33 ∨ k = 34)) ∨ (st = 2 ∧ k = 36 ∧ 0 < cnT 35 S) ∨ (st = 2 ∧ cnT 35 S = 0 ∧ l ≠ 2 ∧ cm = 0 ∧ (k = 39 ∨ k = 40 ∨ k = 41)) ∨ ((st = 3 ∨ (st = 2 ∧ cnT 35 S = 0 ∧ cm = 1)) ∧ (k = 19 ∨ k = 20)) ∨ ((st = 3 ∨ (st = 2 ∧ cnT 35 S = 0 ∧ cm = 1)) ∧ k = 38 ∧ 0 < cnT 37 S) ∨ (k = 30 ∧ ((l = 2 ∧ st = 2 ∧ cnT 35 S = 0) ∨ (l ≠ 2 ∧ (st = 3 ∨ (st = 2 ∧ cnT 35 S = 0 ∧ cm = 1)) ∧ cnT 37 S = 0))) := by
  have h : fitT l k S st cm = true := by
    cases e : fitT l k S st cm with
    | true => rfl
    | false => exact absurd e h
  exact of_decide_eq_true h
theorem ivT.opn {S : List Nat} {st cm k : Nat} (h : ivT S st cm) (hk : k = 35 ∨ (st = 0 ∧ (k = 37 ∨ k = 21))) (h6 : ¬ (6 ≤ dpT S)) : ivT (k :: S) (if k = 35 then 1 else 0) (if k = 35 then cm else 0) := by
  obtain ⟨h1, h2, h3, h4⟩ := h
  have hd : dpT (k :: S) = dpT S + 1 := dpT_in (by omega)
  have ht := h1.top
  have h66 : tpT S ≤ 6 := by
    cases S with
    | nil => exact Nat.zero_le _
    | cons o S => exact rkT_6 o
  refine ⟨⟨⟨by omega, by omega, by unfold vK; omega, fun a1 a2 a3 a4 => h4 (by omega), fun z => ?_⟩, h1⟩, ?_, ?_, fun z => ?_⟩
  · rcases hk with e | ⟨_, e | e⟩
    · exact Or.inl e
    · exact Or.inr e
    · subst e
      exact absurd z (by decide)
  · split <;> omega
  · split <;> omega
  · by_cases c : k = 35
    · rw [if_pos c] at z
      omega
    · rw [cnT_op c]
      exact h4 (by omega)
theorem ivT.op {S : List Nat} {st cm l k : Nat} {P : Nat → Int} (h : ivT S st cm) (h0 : 0 ≤ P 363) (hf : ¬ (fitT l k S st cm = false)) (h30 : k ≠ 30) (h36 : ¬ (k = 36 ∨ k = 38)) : ivT (k :: (poT (rkT k) S P).1) (if k = 19 ∨ k = 20 then 0 else 1) (if k = 19 ∨ k = 20 then 0 else if k = 39 ∨ k = 40 ∨ k = 41 then 1 else cm) ∧ 1 ≤ rkT k := by
  obtain ⟨h1, h2, h3, h4⟩ := h
  have hc := fit_cases hf
  have hk : k = 32 ∨ k = 33 ∨ k = 34 ∨ k = 39 ∨ k = 40 ∨ k = 41 ∨ k = 19 ∨ k = 20 := by omega
  have hr : 1 ≤ rkT k := by
    rcases hk with e | e | e | e | e | e | e | e <;> subst e <;> decide
  obtain ⟨i1, i2, i3, i4, i5⟩ := poT_len (rkT k) S P h0 h1
  obtain ⟨j1, j2, j3⟩ := i5 hr
  have ht := i1.top
  have hd : dpT (k :: (poT (rkT k) S P).1) = dpT (poT (rkT k) S P).1 := dpT_op (by omega) (by omega) (by omega)
  have hd6 := i1.dp
  refine ⟨⟨⟨⟨by omega, by omega, by unfold vK; omega, fun a1 a2 a3 a4 => ?_, fun z => absurd z (by omega)⟩, i1⟩, ?_, ?_, fun z => ?_⟩, hr⟩
  · rw [j1]
    by_cases c : st = 3
    · exact h4 (Or.inr c)
    · omega
  · split <;> omega
  · split
    · omega
    · split <;> omega
  · rw [cnT_op (by omega), j1]
    by_cases c : k = 19 ∨ k = 20
    · by_cases c2 : st = 3
      · exact h4 (Or.inr c2)
      · omega
    · rw [if_neg c] at z; omega
theorem ivT.close {S : List Nat} {st cm l k : Nat} {P : Nat → Int} (h : ivT S st cm) (h0 : 0 ≤ P 363) (hf : ¬ (fitT l k S st cm = false)) (h36 : k = 36 ∨ k = 38) : ∃ o S', (poT 1 S P).1 = o :: S' ∧ o = (if k = 36 then 35 else 37) ∧ ivT S' (if k = 36 then 2 else 3) cm := by
  obtain ⟨h1, h2, h3, h4⟩ := h
  have hc := fit_cases hf
  obtain ⟨i1, i2, i3, i4, i5⟩ := poT_len 1 S P h0 h1
  obtain ⟨j1, j2, j3⟩ := i5 (Nat.le_refl _)
  rcases h36 with e | e
  · subst e
    rcases poT_br h1 h0 with ⟨z1, z2, z3⟩ | ⟨S', z1, z2⟩ | ⟨S', z1, z2, z3⟩
    · omega
    · rw [z1] at i1
      exact ⟨35, S', z1, rfl, i1.2, by decide, h3, fun z => absurd z (by decide)⟩
    · omega
  · subst e
    have c35 : cnT 35 S = 0 := by
      by_cases c : st = 3
      · exact h4 (Or.inr c)
      · omega
    rcases poT_br h1 h0 with ⟨z1, z2, z3⟩ | ⟨S', z1, z2⟩ | ⟨S', z1, z2, z3⟩
    · omega
    · omega
    · rw [z1] at i1
      exact ⟨37, S', z1, rfl, i1.2, by decide, h3, fun _ => z3⟩
section
variable {l st cm : Nat} {S : List Nat}
theorem ft_36 : fitT l 36 S st cm = decide (st = 2 ∧ 0 < cnT 35 S) := by simp [fitT]
theorem ft_34 : fitT l 34 S st cm = decide (st = 2) := by simp [fitT]
theorem ft_32 : fitT l 32 S st cm = decide (st = 2) := by simp [fitT]
theorem ft_33 : fitT l 33 S st cm = decide (st = 2) := by simp [fitT]
theorem ft_30 : fitT l 30 S st cm = decide ((l = 2 ∧ st = 2 ∧ cnT 35 S = 0) ∨ (l ≠ 2 ∧ (st = 3 ∨ (st = 2 ∧ cnT 35 S = 0 ∧ cm = 1)) ∧ cnT 37 S = 0)) := by simp [fitT]
theorem ft_40 : fitT l 40 S st cm = decide (st = 2 ∧ cnT 35 S = 0 ∧ l ≠ 2 ∧ cm = 0) := by simp [fitT]
theorem ft_39 : fitT l 39 S st cm = decide (st = 2 ∧ cnT 35 S = 0 ∧ l ≠ 2 ∧ cm = 0) := by simp [fitT]
theorem ft_41 : fitT l 41 S st cm = decide (st = 2 ∧ cnT 35 S = 0 ∧ l ≠ 2 ∧ cm = 0) := by simp [fitT]
theorem ft_38 : fitT l 38 S st cm = decide ((st = 3 ∨ (st = 2 ∧ cnT 35 S = 0 ∧ cm = 1)) ∧ 0 < cnT 37 S) := by simp [fitT]
theorem ft_20 : fitT l 20 S st cm = decide ((st = 3 ∨ (st = 2 ∧ cnT 35 S = 0 ∧ cm = 1))) := by simp [fitT]
theorem ft_19 : fitT l 19 S st cm = decide ((st = 3 ∨ (st = 2 ∧ cnT 35 S = 0 ∧ cm = 1))) := by simp [fitT]
end
section
variable {d : Nat} {n : Nat × Nat} {Φ : Int → (Nat → Nat → Int) → Prop} {M : Nat → Nat → Int} {l st cm k : Nat} {w : cQ} {w0 : Nat} {w2 : cQr} {P : Nat → Int} {S : List Nat}
set_option maxHeartbeats 4000000 in
theorem c_fitsL (hv : vK k) (lw : lwC M l S st cm) (hl : l < 3) (hcm : cm ≤ 1) (q1 : fitT l k S st cm = true → Φ 1 M) (q0 : fitT l k S st cm = false → Φ 0 M) : CF (d + 1) 14 [(2, 26), (0, cvK k)] w M n Φ := by
  obtain ⟨l0, l2, l4, l5, l6, l7, l8, l9, _⟩ := lw
  apply e1_fitsBehind
  rw [l2, l6, l7, l8, l9]
  have hd : k ≠ 36 → k ≠ 34 → k ≠ 32 → k ≠ 33 → k ≠ 30 → k ≠ 40 → k ≠ 39 → k ≠ 41 → k ≠ 38 → k ≠ 20 → k ≠ 19 → Φ 0 M := by
    intro n36 n34 n32 n33 n30 n40 n39 n41 n38 n20 n19
    refine q0 ?_
    refine decide_eq_false ?_
    intro h
    rcases h with ⟨_, h⟩ | ⟨_, h, _⟩ | ⟨_, _, _, _, h⟩ | ⟨_, h⟩ | ⟨_, h, _⟩ | ⟨h, _⟩
    · rcases h with h | h | h
      · exact n32 h
      · exact n33 h
      · exact n34 h
    · exact n36 h
    · rcases h with h | h | h
      · exact n39 h
      · exact n40 h
      · exact n41 h
    · rcases h with h | h
      · exact n19 h
      · exact n20 h
    · exact n38 h
    · exact n30 h
  clear l0 l2 l4 l5 l6 l7 l8 l9
  refine ⟨fun s2 => ⟨fun s3 => ?_, fun s3 => ?_⟩, fun s2 => ⟨fun r0 => ⟨fun s3 => ?_, fun s3 => ?_⟩, fun r0 => ⟨fun s3 => ?_, fun s3 => ⟨fun c0 => ?_, fun c0 => ?_⟩⟩⟩⟩
  · exact fbC hv (fun e => by subst e; rw [ft_36] at q1 q0; (repeat' (first | intro _ | apply And.intro)) <;> first | exact q1 (decide_eq_true (by omega)) | exact q0 (decide_eq_false (by omega))) (fun e => by subst e; rw [ft_34] at q1 q0; (repeat' (first | intro _ | apply And.intro)) <;> first | exact q1 (decide_eq_true (by omega)) | exact q0 (decide_eq_false (by omega))) (fun e => by subst e; rw [ft_32] at q1 q0; (repeat' (first | intro _ | apply And.intro)) <;> first | exact q1 (decide_eq_true (by omega)) | exact q0 (decide_eq_false (by omega))) (fun e => by subst e; rw [ft_33] at q1 q0; (repeat' (first | intro _ | apply And.intro)) <;> first | exact q1 (decide_eq_true (by omega)) | exact q0 (decide_eq_false (by omega))) (fun e => by subst e; rw [ft_30] at q1 q0; (repeat' (first | intro _ | apply And.intro)) <;> first | exact q1 (decide_eq_true (by omega)) | exact q0 (decide_eq_false (by omega))) (fun e => by subst e; rw [ft_40] at q1 q0; (repeat' (first | intro _ | apply And.intro)) <;> first | exact q1 (decide_eq_true (by omega)) | exact q0 (decide_eq_false (by omega))) (fun e => by subst e; rw [ft_39] at q1 q0; (repeat' (first | intro _ | apply And.intro)) <;> first | exact q1 (decide_eq_true (by omega)) | exact q0 (decide_eq_false (by omega))) (fun e => by subst e; rw [ft_41] at q1 q0; (repeat' (first | intro _ | apply And.intro)) <;> first | exact q1 (decide_eq_true (by omega)) | exact q0 (decide_eq_false (by omega))) (fun e => by subst e; rw [ft_38] at q1 q0; (repeat' (first | intro _ | apply And.intro)) <;> first | exact q1 (decide_eq_true (by omega)) | exact q0 (decide_eq_false (by omega))) (fun e => by subst e; rw [ft_20] at q1 q0; (repeat' (first | intro _ | apply And.intro)) <;> first | exact q1 (decide_eq_true (by omega)) | exact q0 (decide_eq_false (by omega))) (fun e => by subst e; rw [ft_19] at q1 q0; (repeat' (first | intro _ | apply And.intro)) <;> first | exact q1 (decide_eq_true (by omega)) | exact q0 (decide_eq_false (by omega))) hd
  · exact fbC hv (fun e => by subst e; rw [ft_36] at q1 q0; (repeat' (first | intro _ | apply And.intro)) <;> first | exact q1 (decide_eq_true (by omega)) | exact q0 (decide_eq_false (by omega))) (fun e => by subst e; rw [ft_34] at q1 q0; (repeat' (first | intro _ | apply And.intro)) <;> first | exact q1 (decide_eq_true (by omega)) | exact q0 (decide_eq_false (by omega))) (fun e => by subst e; rw [ft_32] at q1 q0; (repeat' (first | intro _ | apply And.intro)) <;> first | exact q1 (decide_eq_true (by omega)) | exact q0 (decide_eq_false (by omega))) (fun e => by subst e; rw [ft_33] at q1 q0; (repeat' (first | intro _ | apply And.intro)) <;> first | exact q1 (decide_eq_true (by omega)) | exact q0 (decide_eq_false (by omega))) (fun e => by subst e; rw [ft_30] at q1 q0; (repeat' (first | intro _ | apply And.intro)) <;> first | exact q1 (decide_eq_true (by omega)) | exact q0 (decide_eq_false (by omega))) (fun e => by subst e; rw [ft_40] at q1 q0; (repeat' (first | intro _ | apply And.intro)) <;> first | exact q1 (decide_eq_true (by omega)) | exact q0 (decide_eq_false (by omega))) (fun e => by subst e; rw [ft_39] at q1 q0; (repeat' (first | intro _ | apply And.intro)) <;> first | exact q1 (decide_eq_true (by omega)) | exact q0 (decide_eq_false (by omega))) (fun e => by subst e; rw [ft_41] at q1 q0; (repeat' (first | intro _ | apply And.intro)) <;> first | exact q1 (decide_eq_true (by omega)) | exact q0 (decide_eq_false (by omega))) (fun e => by subst e; rw [ft_38] at q1 q0; (repeat' (first | intro _ | apply And.intro)) <;> first | exact q1 (decide_eq_true (by omega)) | exact q0 (decide_eq_false (by omega))) (fun e => by subst e; rw [ft_20] at q1 q0; (repeat' (first | intro _ | apply And.intro)) <;> first | exact q1 (decide_eq_true (by omega)) | exact q0 (decide_eq_false (by omega))) (fun e => by subst e; rw [ft_19] at q1 q0; (repeat' (first | intro _ | apply And.intro)) <;> first | exact q1 (decide_eq_true (by omega)) | exact q0 (decide_eq_false (by omega))) hd
  · exact fbC hv (fun e => by subst e; rw [ft_36] at q1 q0; (repeat' (first | intro _ | apply And.intro)) <;> first | exact q1 (decide_eq_true (by omega)) | exact q0 (decide_eq_false (by omega))) (fun e => by subst e; rw [ft_34] at q1 q0; (repeat' (first | intro _ | apply And.intro)) <;> first | exact q1 (decide_eq_true (by omega)) | exact q0 (decide_eq_false (by omega))) (fun e => by subst e; rw [ft_32] at q1 q0; (repeat' (first | intro _ | apply And.intro)) <;> first | exact q1 (decide_eq_true (by omega)) | exact q0 (decide_eq_false (by omega))) (fun e => by subst e; rw [ft_33] at q1 q0; (repeat' (first | intro _ | apply And.intro)) <;> first | exact q1 (decide_eq_true (by omega)) | exact q0 (decide_eq_false (by omega))) (fun e => by subst e; rw [ft_30] at q1 q0; (repeat' (first | intro _ | apply And.intro)) <;> first | exact q1 (decide_eq_true (by omega)) | exact q0 (decide_eq_false (by omega))) (fun e => by subst e; rw [ft_40] at q1 q0; (repeat' (first | intro _ | apply And.intro)) <;> first | exact q1 (decide_eq_true (by omega)) | exact q0 (decide_eq_false (by omega))) (fun e => by subst e; rw [ft_39] at q1 q0; (repeat' (first | intro _ | apply And.intro)) <;> first | exact q1 (decide_eq_true (by omega)) | exact q0 (decide_eq_false (by omega))) (fun e => by subst e; rw [ft_41] at q1 q0; (repeat' (first | intro _ | apply And.intro)) <;> first | exact q1 (decide_eq_true (by omega)) | exact q0 (decide_eq_false (by omega))) (fun e => by subst e; rw [ft_38] at q1 q0; (repeat' (first | intro _ | apply And.intro)) <;> first | exact q1 (decide_eq_true (by omega)) | exact q0 (decide_eq_false (by omega))) (fun e => by subst e; rw [ft_20] at q1 q0; (repeat' (first | intro _ | apply And.intro)) <;> first | exact q1 (decide_eq_true (by omega)) | exact q0 (decide_eq_false (by omega))) (fun e => by subst e; rw [ft_19] at q1 q0; (repeat' (first | intro _ | apply And.intro)) <;> first | exact q1 (decide_eq_true (by omega)) | exact q0 (decide_eq_false (by omega))) hd
  · exact fbC hv (fun e => by subst e; rw [ft_36] at q1 q0; (repeat' (first | intro _ | apply And.intro)) <;> first | exact q1 (decide_eq_true (by omega)) | exact q0 (decide_eq_false (by omega))) (fun e => by subst e; rw [ft_34] at q1 q0; (repeat' (first | intro _ | apply And.intro)) <;> first | exact q1 (decide_eq_true (by omega)) | exact q0 (decide_eq_false (by omega))) (fun e => by subst e; rw [ft_32] at q1 q0; (repeat' (first | intro _ | apply And.intro)) <;> first | exact q1 (decide_eq_true (by omega)) | exact q0 (decide_eq_false (by omega))) (fun e => by subst e; rw [ft_33] at q1 q0; (repeat' (first | intro _ | apply And.intro)) <;> first | exact q1 (decide_eq_true (by omega)) | exact q0 (decide_eq_false (by omega))) (fun e => by subst e; rw [ft_30] at q1 q0; (repeat' (first | intro _ | apply And.intro)) <;> first | exact q1 (decide_eq_true (by omega)) | exact q0 (decide_eq_false (by omega))) (fun e => by subst e; rw [ft_40] at q1 q0; (repeat' (first | intro _ | apply And.intro)) <;> first | exact q1 (decide_eq_true (by omega)) | exact q0 (decide_eq_false (by omega))) (fun e => by subst e; rw [ft_39] at q1 q0; (repeat' (first | intro _ | apply And.intro)) <;> first | exact q1 (decide_eq_true (by omega)) | exact q0 (decide_eq_false (by omega))) (fun e => by subst e; rw [ft_41] at q1 q0; (repeat' (first | intro _ | apply And.intro)) <;> first | exact q1 (decide_eq_true (by omega)) | exact q0 (decide_eq_false (by omega))) (fun e => by subst e; rw [ft_38] at q1 q0; (repeat' (first | intro _ | apply And.intro)) <;> first | exact q1 (decide_eq_true (by omega)) | exact q0 (decide_eq_false (by omega))) (fun e => by subst e; rw [ft_20] at q1 q0; (repeat' (first | intro _ | apply And.intro)) <;> first | exact q1 (decide_eq_true (by omega)) | exact q0 (decide_eq_false (by omega))) (fun e => by subst e; rw [ft_19] at q1 q0; (repeat' (first | intro _ | apply And.intro)) <;> first | exact q1 (decide_eq_true (by omega)) | exact q0 (decide_eq_false (by omega))) hd
  · exact fbC hv (fun e => by subst e; rw [ft_36] at q1 q0; (repeat' (first | intro _ | apply And.intro)) <;> first | exact q1 (decide_eq_true (by omega)) | exact q0 (decide_eq_false (by omega))) (fun e => by subst e; rw [ft_34] at q1 q0; (repeat' (first | intro _ | apply And.intro)) <;> first | exact q1 (decide_eq_true (by omega)) | exact q0 (decide_eq_false (by omega))) (fun e => by subst e; rw [ft_32] at q1 q0; (repeat' (first | intro _ | apply And.intro)) <;> first | exact q1 (decide_eq_true (by omega)) | exact q0 (decide_eq_false (by omega))) (fun e => by subst e; rw [ft_33] at q1 q0; (repeat' (first | intro _ | apply And.intro)) <;> first | exact q1 (decide_eq_true (by omega)) | exact q0 (decide_eq_false (by omega))) (fun e => by subst e; rw [ft_30] at q1 q0; (repeat' (first | intro _ | apply And.intro)) <;> first | exact q1 (decide_eq_true (by omega)) | exact q0 (decide_eq_false (by omega))) (fun e => by subst e; rw [ft_40] at q1 q0; (repeat' (first | intro _ | apply And.intro)) <;> first | exact q1 (decide_eq_true (by omega)) | exact q0 (decide_eq_false (by omega))) (fun e => by subst e; rw [ft_39] at q1 q0; (repeat' (first | intro _ | apply And.intro)) <;> first | exact q1 (decide_eq_true (by omega)) | exact q0 (decide_eq_false (by omega))) (fun e => by subst e; rw [ft_41] at q1 q0; (repeat' (first | intro _ | apply And.intro)) <;> first | exact q1 (decide_eq_true (by omega)) | exact q0 (decide_eq_false (by omega))) (fun e => by subst e; rw [ft_38] at q1 q0; (repeat' (first | intro _ | apply And.intro)) <;> first | exact q1 (decide_eq_true (by omega)) | exact q0 (decide_eq_false (by omega))) (fun e => by subst e; rw [ft_20] at q1 q0; (repeat' (first | intro _ | apply And.intro)) <;> first | exact q1 (decide_eq_true (by omega)) | exact q0 (decide_eq_false (by omega))) (fun e => by subst e; rw [ft_19] at q1 q0; (repeat' (first | intro _ | apply And.intro)) <;> first | exact q1 (decide_eq_true (by omega)) | exact q0 (decide_eq_false (by omega))) hd
  · exact fbC hv (fun e => by subst e; rw [ft_36] at q1 q0; (repeat' (first | intro _ | apply And.intro)) <;> first | exact q1 (decide_eq_true (by omega)) | exact q0 (decide_eq_false (by omega))) (fun e => by subst e; rw [ft_34] at q1 q0; (repeat' (first | intro _ | apply And.intro)) <;> first | exact q1 (decide_eq_true (by omega)) | exact q0 (decide_eq_false (by omega))) (fun e => by subst e; rw [ft_32] at q1 q0; (repeat' (first | intro _ | apply And.intro)) <;> first | exact q1 (decide_eq_true (by omega)) | exact q0 (decide_eq_false (by omega))) (fun e => by subst e; rw [ft_33] at q1 q0; (repeat' (first | intro _ | apply And.intro)) <;> first | exact q1 (decide_eq_true (by omega)) | exact q0 (decide_eq_false (by omega))) (fun e => by subst e; rw [ft_30] at q1 q0; (repeat' (first | intro _ | apply And.intro)) <;> first | exact q1 (decide_eq_true (by omega)) | exact q0 (decide_eq_false (by omega))) (fun e => by subst e; rw [ft_40] at q1 q0; (repeat' (first | intro _ | apply And.intro)) <;> first | exact q1 (decide_eq_true (by omega)) | exact q0 (decide_eq_false (by omega))) (fun e => by subst e; rw [ft_39] at q1 q0; (repeat' (first | intro _ | apply And.intro)) <;> first | exact q1 (decide_eq_true (by omega)) | exact q0 (decide_eq_false (by omega))) (fun e => by subst e; rw [ft_41] at q1 q0; (repeat' (first | intro _ | apply And.intro)) <;> first | exact q1 (decide_eq_true (by omega)) | exact q0 (decide_eq_false (by omega))) (fun e => by subst e; rw [ft_38] at q1 q0; (repeat' (first | intro _ | apply And.intro)) <;> first | exact q1 (decide_eq_true (by omega)) | exact q0 (decide_eq_false (by omega))) (fun e => by subst e; rw [ft_20] at q1 q0; (repeat' (first | intro _ | apply And.intro)) <;> first | exact q1 (decide_eq_true (by omega)) | exact q0 (decide_eq_false (by omega))) (fun e => by subst e; rw [ft_19] at q1 q0; (repeat' (first | intro _ | apply And.intro)) <;> first | exact q1 (decide_eq_true (by omega)) | exact q0 (decide_eq_false (by omega))) hd
  · exact fbC hv (fun e => by subst e; rw [ft_36] at q1 q0; (repeat' (first | intro _ | apply And.intro)) <;> first | exact q1 (decide_eq_true (by omega)) | exact q0 (decide_eq_false (by omega))) (fun e => by subst e; rw [ft_34] at q1 q0; (repeat' (first | intro _ | apply And.intro)) <;> first | exact q1 (decide_eq_true (by omega)) | exact q0 (decide_eq_false (by omega))) (fun e => by subst e; rw [ft_32] at q1 q0; (repeat' (first | intro _ | apply And.intro)) <;> first | exact q1 (decide_eq_true (by omega)) | exact q0 (decide_eq_false (by omega))) (fun e => by subst e; rw [ft_33] at q1 q0; (repeat' (first | intro _ | apply And.intro)) <;> first | exact q1 (decide_eq_true (by omega)) | exact q0 (decide_eq_false (by omega))) (fun e => by subst e; rw [ft_30] at q1 q0; (repeat' (first | intro _ | apply And.intro)) <;> first | exact q1 (decide_eq_true (by omega)) | exact q0 (decide_eq_false (by omega))) (fun e => by subst e; rw [ft_40] at q1 q0; (repeat' (first | intro _ | apply And.intro)) <;> first | exact q1 (decide_eq_true (by omega)) | exact q0 (decide_eq_false (by omega))) (fun e => by subst e; rw [ft_39] at q1 q0; (repeat' (first | intro _ | apply And.intro)) <;> first | exact q1 (decide_eq_true (by omega)) | exact q0 (decide_eq_false (by omega))) (fun e => by subst e; rw [ft_41] at q1 q0; (repeat' (first | intro _ | apply And.intro)) <;> first | exact q1 (decide_eq_true (by omega)) | exact q0 (decide_eq_false (by omega))) (fun e => by subst e; rw [ft_38] at q1 q0; (repeat' (first | intro _ | apply And.intro)) <;> first | exact q1 (decide_eq_true (by omega)) | exact q0 (decide_eq_false (by omega))) (fun e => by subst e; rw [ft_20] at q1 q0; (repeat' (first | intro _ | apply And.intro)) <;> first | exact q1 (decide_eq_true (by omega)) | exact q0 (decide_eq_false (by omega))) (fun e => by subst e; rw [ft_19] at q1 q0; (repeat' (first | intro _ | apply And.intro)) <;> first | exact q1 (decide_eq_true (by omega)) | exact q0 (decide_eq_false (by omega))) hd
end
