/-! ===== conditions with tests kept (symbolic addresses); references that change ===== -/
def stJ (C : mCl) (F : mPost) (X : mS → Prop) (A : mA) : Prop := match A with
  | .inl (b, s) => b = true ∧ X s
  | .inr (.inl (b, c, s)) => b = true ∧ c ∧ X s
  | .inr (.inr (.inl (b, c, s, t))) => b = true ∧ (c → X s) ∧ (¬ c → X t)
  | .inr (.inr (.inr (.inl (b, x, ps, d, f)))) => b = true ∧ swX (fun t => X (f t)) x d ps
  | .inr (.inr (.inr (.inr (.inl (b, c, g, f))))) => b = true ∧ c ∧ ∃ q, g q = true ∧ X (f q)
  | .inr (.inr (.inr (.inr (.inr (.inl (b, k, as, h, f)))))) => b = true ∧ C k as h (fun r h' => X (f r h'))
  | .inr (.inr (.inr (.inr (.inr (.inr (.inl (b, v, h))))))) => b = true ∧ F v h
  | .inr (.inr (.inr (.inr (.inr (.inr (.inr (b, c, v, h))))))) => b = true ∧ c ∧ F v h
theorem bJ {b : Bool} {A : Prop} (q : b = true ∧ A) : bif b then A else False := by
  rw [q.1]
  exact q.2
theorem stJ_ok {C : mCl} {F : mPost} {X : mS → Prop} {A : mA} (q : stJ C F X A) : stA C F X A := by
  rcases A with ⟨b, s⟩ | ⟨b, c, s⟩ | ⟨b, c, s, t⟩ | ⟨b, x, ps, d, f⟩ | ⟨b, c, g, f⟩ | ⟨b, k, as, h, f⟩ | ⟨b, v, h⟩ | ⟨b, c, v, h⟩
  all_goals exact bJ q
def stp0J (cd : List (List mE)) (C : mCl) (F : mPost) (X : mS → Prop) (st : mS) : Prop := match st with
  | (pc, L, S, h) => match mAt cd pc with
    | some e => stJ C F X (act e pc L S h)
    | none => False
theorem stp0J_ok {cd : List (List mE)} {C : mCl} {F : mPost} {X : mS → Prop} {st : mS} (q : stp0J cd C F X st) : stp0 cd C F X st := by
  obtain ⟨pc, L, S, u⟩ := st
  unfold stp0J at q
  unfold stp0
  dsimp only at q ⊢
  cases h : mAt cd pc with
  | none => rw [h] at q; exact q
  | some e => rw [h] at q; exact stJ_ok q
/-- several steps at once, up to the places of K, tests kept -/
def vcJ (K : List Nat) (cd : List (List mE)) (C : mCl) (F : mPost) (X : mS → Prop) : Nat → mS → Prop
  | 0, st => X st
  | n + 1, st => stp0J cd C F (fun s => match s with
    | (pc, L, S, h) => bif mElem pc K then X (pc, L, S, h) else vcJ K cd C F X n (pc, L, S, h)) st
theorem vcJ_ok {K : List Nat} {cd : List (List mE)} {T : Nat → Option mM} {d : Nat} {F : mPost} : ∀ (n : Nat) (st : mS), vcJ K cd (WPm T d) F (WPc cd (WPm T d) F) n st → WPc cd (WPm T d) F st
  | 0, _, q => q
  | n + 1, _, q => WPc.step (WPm_mono T d) (stp_mono (WPm_mono T d) (fun _ _ e => e) (fun s e => by
      obtain ⟨pc, L, S, u⟩ := s
      dsimp only at e
      cases h : mElem pc K with
      | true => rw [h] at e; exact e
      | false => rw [h] at e; exact vcJ_ok n _ e) (stp_of0 (stp0J_ok q)))
theorem WPc_hq {cd : List (List mE)} {C : mCl} {F : mPost} {pc : Nat} {L S : List mV} {h h' : mH} (e : h = h') (q : WPc cd C F (pc, L, S, h')) : WPc cd C F (pc, L, S, h) := by
  rw [e]
  exact q
/-- the cells' shape stays; only numbers change -/
def FF (Φ : Int → (Nat → Nat → Int) → Prop) (w : cQ) (n : Nat × Nat) : mPost := fun r h' => ∃ M, h' = hC w M n ∧ Φ r.2 M
theorem FFmk {Φ : Int → (Nat → Nat → Int) → Prop} {w : cQ} {n : Nat × Nat} {t : Nat} {v : Int} {M : Nat → Nat → Int} (q : Φ v M) : FF Φ w n (t, v) (hC w M n) := ⟨M, rfl, q⟩
def CF (d k : Nat) (as : List mV) (w : cQ) (M : Nat → Nat → Int) (n : Nat × Nat) (Φ : Int → (Nat → Nat → Int) → Prop) : Prop := WPm gT d k as (hC w M n) (FF Φ w n)
def CE (d k : Nat) (as : List mV) (w w' : cQ) (M : Nat → Nat → Int) (n : Nat × Nat) (Φ : Int → (Nat → Nat → Int) → Prop) : Prop := WPm gT d k as (hC w M n) (FF Φ w' n)
theorem CF.mono {w : cQ} {d k : Nat} {as : List mV} {M : Nat → Nat → Int} {n : Nat × Nat} {Φ Ψ : Int → (Nat → Nat → Int) → Prop} (h : CF d k as w M n Φ) (hi : ∀ r N, Φ r N → Ψ r N) : CF d k as w M n Ψ :=
  WPm_mono gT d _ _ _ _ _ (fun r h' z => by obtain ⟨N, e, z⟩ := z; exact ⟨N, e, hi _ _ z⟩) h
theorem rf_put {w w' : cQ} {M : Nat → Nat → Int} {n : Nat × Nat} {a k v : Nat} (h1 : ∀ b j, rfC w' b j = if b = a ∧ j = k then v else rfC w b j) (h2 : shC w' = shC w) : mPut (hC w M n) a k v = hC w' M n := by
  have h3 : (fun b j => if b = a ∧ j = k then v else rfC w b j) = rfC w' := by
    funext b j
    exact (h1 b j).symm
  show (M, (fun b j => if b = a ∧ j = k then v else rfC w b j), shC w, n) = (M, rfC w', shC w', n)
  rw [h3, h2]
theorem hput_3_4 {w : cQ} {M : Nat → Nat → Int} {n : Nat × Nat} {v : Nat} : mPut (hC w M n) 3 4 v = hC (v, w.2) M n := by
  refine rf_put (fun b j => ?_) rfl
  by_cases hb : b = 3
  · subst hb
    by_cases hj : j = 4
    · subst hj; rfl
    · rw [if_neg (fun z => hj z.2)]
      show (match (generalizing := false) j with | 0 => 17 | 3 => 26 | 4 => v | _ => 0) = (match (generalizing := false) j with | 0 => 17 | 3 => 26 | 4 => w.1 | _ => 0)
      split
      · rfl
      · rfl
      · exact absurd rfl hj
      · rfl
  · rw [if_neg (fun z => hb z.1)]
    unfold rfC
    split
    · rfl
    · unfold rfCb
      split <;> first | rfl | skip
      unfold rfC0
      split <;> first | rfl | exact absurd rfl hb
theorem hput_26_1 {w : cQ} {M : Nat → Nat → Int} {n : Nat × Nat} {v : Nat} : mPut (hC w M n) 26 1 v = hC (w.1, v, w.2.2) M n := by
  refine rf_put (fun b j => ?_) rfl
  by_cases hb : b = 26
  · subst hb
    by_cases hj : j = 1
    · subst hj; rfl
    · rw [if_neg (fun z => hj z.2)]
      show (match (generalizing := false) j with | 1 => v | 3 => 27 | _ => 0) = (match (generalizing := false) j with | 1 => w.2.1 | 3 => 27 | _ => 0)
      split
      · exact absurd rfl hj
      · rfl
      · rfl
  · rw [if_neg (fun z => hb z.1)]
    unfold rfC
    split
    · rfl
    · unfold rfCb
      split <;> first | rfl | skip
      unfold rfC1
      split <;> first | rfl | exact absurd rfl hb
theorem hput_13_5 {w : cQ} {M : Nat → Nat → Int} {n : Nat × Nat} {v : Nat} : mPut (hC w M n) 13 5 v = hC (w.1, w.2.1, (v, w.2.2.1.2), w.2.2.2) M n := by
  refine rf_put (fun b j => ?_) rfl
  by_cases hb : b = 13
  · subst hb
    by_cases hj : j = 5
    · subst hj; rfl
    · rw [if_neg (fun z => hj z.2)]
      show (match (generalizing := false) j with | 0 => 93 | 1 => 4 | 2 => 96 | 3 => 97 | 4 => 98 | 5 => v | 6 => w.2.2.1.2 | _ => 0) = (match (generalizing := false) j with | 0 => 93 | 1 => 4 | 2 => 96 | 3 => 97 | 4 => 98 | 5 => w.2.2.1.1 | 6 => w.2.2.1.2 | _ => 0)
      split <;> first | rfl | exact absurd rfl hj
  · rw [if_neg (fun z => hb z.1)]
    unfold rfC
    split
    · rfl
    · unfold rfCb
      split <;> first | rfl | skip
      unfold rfC0
      split <;> first | rfl | exact absurd rfl hb
theorem hput_13_6 {w : cQ} {M : Nat → Nat → Int} {n : Nat × Nat} {v : Nat} : mPut (hC w M n) 13 6 v = hC (w.1, w.2.1, (w.2.2.1.1, v), w.2.2.2) M n := by
  refine rf_put (fun b j => ?_) rfl
  by_cases hb : b = 13
  · subst hb
    by_cases hj : j = 6
    · subst hj; rfl
    · rw [if_neg (fun z => hj z.2)]
      show (match (generalizing := false) j with | 0 => 93 | 1 => 4 | 2 => 96 | 3 => 97 | 4 => 98 | 5 => w.2.2.1.1 | 6 => v | _ => 0) = (match (generalizing := false) j with | 0 => 93 | 1 => 4 | 2 => 96 | 3 => 97 | 4 => 98 | 5 => w.2.2.1.1 | 6 => w.2.2.1.2 | _ => 0)
      split <;> first | rfl | exact absurd rfl hj
  · rw [if_neg (fun z => hb z.1)]
    unfold rfC
    split
    · rfl
    · unfold rfCb
      split <;> first | rfl | skip
      unfold rfC0
      split <;> first | rfl | exact absurd rfl hb
theorem hput_15_4 {w : cQ} {M : Nat → Nat → Int} {n : Nat × Nat} {v : Nat} : mPut (hC w M n) 15 4 v = hC (w.1, w.2.1, w.2.2.1, (v, w.2.2.2.1.2), w.2.2.2.2) M n := by
  refine rf_put (fun b j => ?_) rfl
  by_cases hb : b = 15
  · subst hb
    by_cases hj : j = 4
    · subst hj; rfl
    · rw [if_neg (fun z => hj z.2)]
      show (match (generalizing := false) j with | 0 => 4 | 1 => 104 | 4 => v | 5 => w.2.2.2.1.2 | _ => 0) = (match (generalizing := false) j with | 0 => 4 | 1 => 104 | 4 => w.2.2.2.1.1 | 5 => w.2.2.2.1.2 | _ => 0)
      split <;> first | rfl | exact absurd rfl hj
  · rw [if_neg (fun z => hb z.1)]
    unfold rfC
    split
    · rfl
    · unfold rfCb
      split <;> first | rfl | skip
      unfold rfC0
      split <;> first | rfl | exact absurd rfl hb
theorem hput_15_5 {w : cQ} {M : Nat → Nat → Int} {n : Nat × Nat} {v : Nat} : mPut (hC w M n) 15 5 v = hC (w.1, w.2.1, w.2.2.1, (w.2.2.2.1.1, v), w.2.2.2.2) M n := by
  refine rf_put (fun b j => ?_) rfl
  by_cases hb : b = 15
  · subst hb
    by_cases hj : j = 5
    · subst hj; rfl
    · rw [if_neg (fun z => hj z.2)]
      show (match (generalizing := false) j with | 0 => 4 | 1 => 104 | 4 => w.2.2.2.1.1 | 5 => v | _ => 0) = (match (generalizing := false) j with | 0 => 4 | 1 => 104 | 4 => w.2.2.2.1.1 | 5 => w.2.2.2.1.2 | _ => 0)
      split <;> first | rfl | exact absurd rfl hj
  · rw [if_neg (fun z => hb z.1)]
    unfold rfC
    split
    · rfl
    · unfold rfCb
      split <;> first | rfl | skip
      unfold rfC0
      split <;> first | rfl | exact absurd rfl hb
theorem hput_93_1 {w : cQ} {M : Nat → Nat → Int} {n : Nat × Nat} {v : Nat} : mPut (hC w M n) 93 1 v = hC (w.1, w.2.1, w.2.2.1, w.2.2.2.1, (v, w.2.2.2.2.1.2), w.2.2.2.2.2) M n := by
  refine rf_put (fun b j => ?_) rfl
  by_cases hb : b = 93
  · subst hb
    by_cases hj : j = 1
    · subst hj; rfl
    · rw [if_neg (fun z => hj z.2)]
      show (match (generalizing := false) j with | 1 => v | 2 => w.2.2.2.2.1.2 | _ => 0) = (match (generalizing := false) j with | 1 => w.2.2.2.2.1.1 | 2 => w.2.2.2.2.1.2 | _ => 0)
      split <;> first | rfl | exact absurd rfl hj
  · rw [if_neg (fun z => hb z.1)]
    unfold rfC
    split
    · rfl
    · unfold rfCb
      split <;> first | rfl | skip
      unfold rfC5
      split <;> first | rfl | exact absurd rfl hb
theorem hput_93_2 {w : cQ} {M : Nat → Nat → Int} {n : Nat × Nat} {v : Nat} : mPut (hC w M n) 93 2 v = hC (w.1, w.2.1, w.2.2.1, w.2.2.2.1, (w.2.2.2.2.1.1, v), w.2.2.2.2.2) M n := by
  refine rf_put (fun b j => ?_) rfl
  by_cases hb : b = 93
  · subst hb
    by_cases hj : j = 2
    · subst hj; rfl
    · rw [if_neg (fun z => hj z.2)]
      show (match (generalizing := false) j with | 1 => w.2.2.2.2.1.1 | 2 => v | _ => 0) = (match (generalizing := false) j with | 1 => w.2.2.2.2.1.1 | 2 => w.2.2.2.2.1.2 | _ => 0)
      split <;> first | rfl | exact absurd rfl hj
  · rw [if_neg (fun z => hb z.1)]
    unfold rfC
    split
    · rfl
    · unfold rfCb
      split <;> first | rfl | skip
      unfold rfC5
      split <;> first | rfl | exact absurd rfl hb
/-- one of the past's states is put -/
def stP (w : cQ) (k v : Nat) : cQ := (w.1, w.2.1, w.2.2.1, w.2.2.2.1, w.2.2.2.2.1, w.2.2.2.2.2.1, w.2.2.2.2.2.2.1, fun j => if j = k then v else w.2.2.2.2.2.2.2 j)
theorem hput_44 {w : cQ} {M : Nat → Nat → Int} {n : Nat × Nat} {v : Nat} {i : Int} (h : 0 ≤ i ∧ i < ((10 : Nat) : Int)) : mPut (hC w M n) 44 i.toNat v = hC (stP w i.toNat v) M n := by
  refine rf_put (fun b j => ?_) rfl
  by_cases hb : b = 44
  · subst hb
    show (bif Nat.ble 10 j then 0 else if j = i.toNat then v else w.2.2.2.2.2.2.2 j) = if 44 = 44 ∧ j = i.toNat then v else (bif Nat.ble 10 j then 0 else w.2.2.2.2.2.2.2 j)
    by_cases hj : j = i.toNat
    · rw [if_pos hj, if_pos ⟨rfl, hj⟩]
      cases h2 : Nat.ble 10 j with
      | false => rfl
      | true =>
        have := Nat.le_of_ble_eq_true h2
        omega
    · rw [if_neg hj, if_neg (fun z => hj z.2)]
  · rw [if_neg (fun z => hb z.1)]
    unfold rfC
    split
    · rfl
    · unfold rfCb
      split <;> first | rfl | skip
      unfold rfC2
      split <;> first | rfl | exact absurd rfl hb
