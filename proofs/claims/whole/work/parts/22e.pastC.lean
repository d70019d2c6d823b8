/-! ===== states kept and brought back, trays: the class ===== -/
theorem cI_row {M : Nat → Nat → Int} {a sp b dp n c : Nat} (h : c ≠ b) : cI M a sp b dp n c = M c := by
  funext j
  unfold cI
  rw [if_neg (fun z => h z.1)]
theorem cI_in {M : Nat → Nat → Int} {a b n j : Nat} (h : j < n) : cI M a 0 b 0 n b j = M a j := by
  unfold cI
  rw [if_pos ⟨rfl, by omega, by omega⟩, Nat.zero_add, Nat.sub_zero]
theorem cI_out {M : Nat → Nat → Int} {a b n j : Nat} (h : n ≤ j) : cI M a 0 b 0 n b j = M b j := by
  unfold cI
  rw [if_neg (by omega)]
/-- a State's cell -/
def isSt (w : cQ) (a : Nat) : Prop := (shC w a).1 = 17 ∧ (rfC w a 0 = a + 1 ∧ rfC w a 1 = a + 2 ∧ rfC w a 2 = a + 3) ∧ shC w (a + 1) = (1, 8) ∧ shC w (a + 2) = (1, 8) ∧ shC w (a + 3) = (1, 8)
theorem isSt_5 (w : cQ) : isSt w 5 := ⟨rfl, ⟨rfl, rfl, rfl⟩, rfl, rfl, rfl⟩
theorem isSt_38 (w : cQ) : isSt w 38 := ⟨rfl, ⟨rfl, rfl, rfl⟩, rfl, rfl, rfl⟩
theorem isSt_p (w : cQ) : ∀ j, j < 10 → isSt w (45 + 4 * j)
  | 0, _ => ⟨rfl, ⟨rfl, rfl, rfl⟩, rfl, rfl, rfl⟩
  | 1, _ => ⟨rfl, ⟨rfl, rfl, rfl⟩, rfl, rfl, rfl⟩
  | 2, _ => ⟨rfl, ⟨rfl, rfl, rfl⟩, rfl, rfl, rfl⟩
  | 3, _ => ⟨rfl, ⟨rfl, rfl, rfl⟩, rfl, rfl, rfl⟩
  | 4, _ => ⟨rfl, ⟨rfl, rfl, rfl⟩, rfl, rfl, rfl⟩
  | 5, _ => ⟨rfl, ⟨rfl, rfl, rfl⟩, rfl, rfl, rfl⟩
  | 6, _ => ⟨rfl, ⟨rfl, rfl, rfl⟩, rfl, rfl, rfl⟩
  | 7, _ => ⟨rfl, ⟨rfl, rfl, rfl⟩, rfl, rfl, rfl⟩
  | 8, _ => ⟨rfl, ⟨rfl, rfl, rfl⟩, rfl, rfl, rfl⟩
  | 9, _ => ⟨rfl, ⟨rfl, rfl, rfl⟩, rfl, rfl, rfl⟩
  | n + 10, h => absurd h (by omega)
theorem relS.ext {M : Nat → Nat → Int} {a : Nat} {Q Q' : Nat → Int} (h : ∀ j, j < 27 → Q' j = Q j) (r : relS M a Q) : relS M a Q' := by
  obtain ⟨⟨r1, r2, r3⟩, r4⟩ := r
  refine ⟨⟨r1.trans (h 0 (by omega)).symm, r2.trans (h 1 (by omega)).symm, r3.trans (h 2 (by omega)).symm⟩, fun f hf => ⟨?_, ?_, ?_⟩⟩
  · rw [h _ (by omega)]; exact (r4 f hf).1
  · rw [h _ (by omega)]; exact (r4 f hf).2.1
  · rw [h _ (by omega)]; exact (r4 f hf).2.2
def stw (w : cQ) : Nat → Nat := w.2.2.2.2.2.2.2
def stF (w : cQ) (s : Nat → Nat) : cQ := (w.1, w.2.1, w.2.2.1, w.2.2.2.1, w.2.2.2.2.1, w.2.2.2.2.2.1, w.2.2.2.2.2.2.1, s)
theorem stF_stw (w : cQ) (s : Nat → Nat) : stw (stF w s) = s := rfl
theorem stF_self (w : cQ) : stF w (stw w) = w := rfl
theorem stP_F (w : cQ) (s : Nat → Nat) (k v : Nat) : stP (stF w s) k v = stF w (fun j => if j = k then v else s j) := rfl
theorem rf44 (w : cQ) {i : Nat} (h : i < 10) : rfC w 44 i = stw w i := by
  show (bif Nat.ble 10 i then 0 else w.2.2.2.2.2.2.2 i) = _
  have : Nat.ble 10 i = false := by
    cases e : Nat.ble 10 i with
    | false => rfl
    | true => have := Nat.le_of_ble_eq_true e; omega
  rw [this]
  rfl
/-- the past's states are ten -/
def okSt (s : Nat → Nat) : Prop := (∀ i, i < 10 → ∃ j, j < 10 ∧ s i = 45 + 4 * j) ∧ (∀ i j, i < 10 → j < 10 → s i = s j → i = j)
/-- what can be undone -/
def relU (w : cQ) (M : Nat → Nat → Int) (P : Nat → Int) : Prop := M 9 1 = P 92 ∧ okSt (stw w) ∧ (∀ i : Nat, (i : Int) < P 92 → relS M (stw w i) (fun j => P (93 + 27 * i + j)))
theorem relU.congr {w : cQ} {M M' : Nat → Nat → Int} {P P' : Nat → Int} (u : relU w M P) (hp : 0 ≤ P 92 ∧ P 92 ≤ 10) (h9 : M' 9 = M 9) (h : ∀ c, 45 ≤ c → c ≤ 84 → M' c = M c) (hP : ∀ j, 92 ≤ j → j < 363 → P' j = P j) : relU w M' P' := by
  obtain ⟨u1, u2, u3⟩ := u
  refine ⟨by rw [h9, hP 92 (by omega) (by omega)]; exact u1, u2, fun i hi => ?_⟩
  rw [hP 92 (by omega) (by omega)] at hi
  obtain ⟨j, hj, ej⟩ := u2.1 i (by omega)
  refine ((u3 i hi).ext (fun k hk => hP _ (by omega) (by omega))).congr (fun b h1 h2 => h b (by omega) (by omega))
section
variable {d : Nat} {n : Nat × Nat} {Φ : Int → (Nat → Nat → Int) → Prop} {Ψ : Int → cQ → (Nat → Nat → Int) → Nat × Nat → Prop} {M : Nat → Nat → Int} {w : cQ} {P : Nat → Int}
theorem sp_copyS (a b : Nat) {Q : Nat → Int} (ha : isSt w a) (hb : isSt w b) (hab : a + 4 ≤ b ∨ b + 4 ≤ a) (r : relS M b Q) (q : ∀ M', (∀ c, c < a ∨ a + 3 < c → M' c = M c) → relS M' a Q → Φ 0 M') : CF (d + 1) 71 [(2, (a : Int)), (2, (b : Int))] w M n Φ := by
  obtain ⟨a0, ⟨a1, a2, a3⟩, a4, a5, a6⟩ := ha
  obtain ⟨b0, ⟨b1, b2, b3⟩, b4, b5, b6⟩ := hb
  apply e7_copyFrom
  rw [a0, b0, a1, a2, a3, b1, b2, b3, a4, a5, a6, b4, b5, b6]
  refine ⟨rfl, rfl, rfl, by decide, rfl, rfl, rfl, by decide, rfl, rfl, rfl, by decide, rfl, rfl, rfl, rfl, rfl, rfl, ?_⟩
  generalize hN : cI (cI (cI M (b + 1) 0 (a + 1) 0 8) (b + 2) 0 (a + 2) 0 8) (b + 3) 0 (a + 3) 0 8 = N
  have n0 : ∀ c, c ≠ a + 1 → c ≠ a + 2 → c ≠ a + 3 → N c = M c := by
    intro c h1 h2 h3
    rw [← hN, cI_row h3, cI_row h2, cI_row h1]
  have n1 : ∀ j, j < 8 → N (a + 1) j = M (b + 1) j := by
    intro j hj
    rw [← hN, cI_row (by omega), cI_row (by omega), cI_in hj]
  have n2 : ∀ j, j < 8 → N (a + 2) j = M (b + 2) j := by
    intro j hj
    rw [← hN, cI_row (by omega), cI_in hj, cI_row (by omega)]
  have n3 : ∀ j, j < 8 → N (a + 3) j = M (b + 3) j := by
    intro j hj
    rw [← hN, cI_in hj, cI_row (by omega), cI_row (by omega)]
  have hr : ∀ (K : Nat → Nat → Int) (k : Nat) (x : Int), sI K a k x b = K b := fun K k x => sI_row (by omega)
  simp only [hr]
  rw [n0 b (by omega) (by omega) (by omega)]
  obtain ⟨⟨r1, r2, r3⟩, r4⟩ := r
  refine q _ (fun c hc => ?_) ⟨⟨?_, ?_, ?_⟩, fun f hf => ⟨?_, ?_, ?_⟩⟩
  · rw [sI_row (by omega), sI_row (by omega), sI_row (by omega), n0 c (by omega) (by omega) (by omega)]
  · rw [sI_ne (by omega), sI_same]; exact r1
  · rw [sI_same]; exact r2
  · rw [sI_ne (by omega), sI_ne (by omega), sI_same]; exact r3
  · rw [sI_row (by omega), sI_row (by omega), sI_row (by omega), n1 f hf]; exact (r4 f hf).1
  · rw [sI_row (by omega), sI_row (by omega), sI_row (by omega), n2 f hf]; exact (r4 f hf).2.1
  · rw [sI_row (by omega), sI_row (by omega), sI_row (by omega), n3 f hf]; exact (r4 f hf).2.2
theorem beq17 {a : Nat} (h : isSt w a) : Nat.beq (shC w a).1 17 = true := by rw [h.1]; rfl
/-- the eldest state becomes the last -/
def rotS (s : Nat → Nat) : Nat → Nat := fun i => if i = 9 then s 0 else if i < 9 then s (i + 1) else s i
theorem c_forgetEldest (hs : okSt (stw w)) (q : ∀ w', w' = stF w (rotS (stw w)) → Ψ 0 w' (sI M 9 1 9) n) : CW (d + 1) 27 [(2, 9)] w M n Ψ := by
  have key : ∀ k, k ≤ 10 → 1 ≤ k → ∀ s : Nat → Nat, (∀ i, s i = if i + 1 < k then stw w (i + 1) else stw w i) → W3_forgetEldest_9 d Ψ (k : Nat) (stw w 0) (stF w s) M n := by
    refine up (fun _ s hsi => ?_) (fun k hk ih h1 s hsi => ?_)
    · apply v3_forgetEldest_9
      obtain ⟨j, hj, ej⟩ := hs.1 0 (by omega)
      have h17 := beq17 (w := stF w s) (isSt_p (stF w s) j hj)
      refine ⟨fun _ => ⟨by rw [ej, h17]; rfl, by omega, ?_⟩, fun c => absurd (by decide) c⟩
      rw [stP_F]
      refine q _ ?_
      congr 1
      funext i
      unfold rotS
      by_cases c : i = 9
      · rw [if_pos c, if_pos c]
      · rw [if_neg c, if_neg c, hsi i]
        by_cases c2 : i < 9
        · rw [if_pos (by omega), if_pos c2]
        · rw [if_neg (by omega), if_neg c2]
    · apply v3_forgetEldest_9
      obtain ⟨j, hj, ej⟩ := hs.1 k (by omega)
      have h17 := beq17 (w := stF w s) (isSt_p (stF w s) j hj)
      have e1 : rfC (stF w s) 44 k = stw w k := by rw [rf44 _ (by omega), stF_stw, hsi k, if_neg (by omega)]
      have e2 : w32 ((k : Int) - 1) = ((k - 1 : Nat) : Int) := by rw [w32_eq]; omega
      rw [e2, w32_s (by omega)]
      simp only [Int.toNat_natCast, e1]
      refine ⟨fun c => absurd c (by omega), fun _ => ⟨by omega, by rw [ej, h17]; rfl, by omega, ?_⟩⟩
      rw [stP_F]
      refine ih (by omega) _ (fun i => ?_)
      by_cases c : i = k - 1
      · rw [if_pos c, if_pos (by omega), show i + 1 = k by omega]
      · rw [if_neg c, hsi i]
        by_cases c2 : i + 1 < k
        · rw [if_pos c2, if_pos (by omega)]
        · rw [if_neg c2, if_neg (by omega)]
  have e0 : rfC w 44 0 = stw w 0 := rf44 w (by omega)
  apply e3_forgetEldest
  rw [e0]
  exact key 1 (by omega) (by omega) (stw w) (fun i => (if_neg (by omega)).symm)
theorem rot_ok {s : Nat → Nat} (h : okSt s) : okSt (rotS s) := by
  have e : ∀ i, i < 10 → rotS s i = s (if i = 9 then 0 else i + 1) := by
    intro i hi
    unfold rotS
    by_cases c : i = 9
    · rw [if_pos c, if_pos c]
    · rw [if_neg c, if_neg c, if_pos (by omega)]
  refine ⟨fun i hi => ?_, fun i j hi hj hij => ?_⟩
  · rw [e i hi]
    exact h.1 _ (by split <;> omega)
  · rw [e i hi, e j hj] at hij
    have := h.2 _ _ (by split <;> omega) (by split <;> omega) hij
    split at this <;> split at this <;> omega
/-- a state is kept -/
theorem c_keep (b : Nat) {Q : Nat → Int} (hb : b = 5 ∨ b = 38) (r : relS M b Q) (u : relU w M P) (h92 : 0 ≤ P 92 ∧ P 92 ≤ 10) (q : ∀ s M', (∀ c, c ≠ 9 → c < 45 ∨ 84 < c → M' c = M c) → relU (stF w s) M' (noteP Q P) → Ψ 0 (stF w s) M' n) : CW (d + 2) 26 [(2, 9), (2, (b : Int))] w M n Ψ := by
  have hbs : ∀ w, isSt w b := by
    intro w
    rcases hb with rfl | rfl
    · exact isSt_5 w
    · exact isSt_38 w
  obtain ⟨u1, u2, u3⟩ := u
  refine e3_keep ⟨fun c => ?_, fun c => ?_⟩
  · rw [u1] at c ⊢
    have e1 : rfC w 44 (P 92).toNat = stw w (P 92).toNat := rf44 w (by omega)
    obtain ⟨j, hj, ej⟩ := u2.1 (P 92).toNat (by omega)
    rw [e1, ej]
    refine ⟨by omega, beq17 (isSt_p w j hj), sp_copyS _ b (isSt_p w j hj) (hbs w) (by omega) r (fun M1 h1 r1 => ?_)⟩
    have m9 : M1 9 = M 9 := h1 9 (by omega)
    rw [m9, u1, w32_id (by omega) (by omega)]
    have q' := q (stw w)
    rw [stF_self] at q'
    refine q' _ (fun c hc hc2 => by rw [sI_row hc, h1 c (by omega)]) ⟨?_, u2, fun i hi => ?_⟩
    · rw [sI_same]
      unfold noteP
      rw [if_pos rfl, if_neg (by omega)]
    · unfold noteP at hi
      rw [if_pos rfl, if_neg (by omega)] at hi
      have er : ∀ a, a ≠ 9 → sI M1 9 1 (P 92 + 1) a = M1 a := fun a ha => sI_row ha
      by_cases ci : i = (P 92).toNat
      · subst ci
        rw [ej]
        refine (r1.ext (fun k hk => ?_)).congr (fun c h2 h3 => er c (by omega))
        unfold noteP
        rw [if_neg (by omega), if_neg (by omega), if_pos (by omega)]
        congr 1
        omega
      · obtain ⟨j2, hj2, ej2⟩ := u2.1 i (by omega)
        have hne : j2 ≠ j := by
          intro e
          have := u2.2 i (P 92).toNat (by omega) (by omega) (by rw [ej, ej2, e])
          omega
        refine ((u3 i (by omega)).ext (fun k hk => ?_)).congr (fun c h2 h3 => ?_)
        · unfold noteP
          rw [if_neg (by omega), if_neg (by omega), if_neg (by omega)]
        · rw [ej2] at h2 h3
          rw [er c (by omega), h1 c (by omega)]
  · rw [u1] at c
    have h10 : P 92 = 10 := by omega
    refine c_forgetEldest u2 (fun w' hw' => ?_)
    have o' := rot_ok u2
    rw [sI_same]
    have e1 : rfC w' 44 (9 : Int).toNat = stw w 0 := by
      show rfC w' 44 9 = _
      rw [rf44 w' (by omega), hw', stF_stw]
      unfold rotS
      rw [if_pos rfl]
    obtain ⟨j, hj, ej⟩ := u2.1 0 (by omega)
    rw [e1, ej]
    have r' : relS (sI M 9 1 9) b Q := r.congr (fun c h1 h2 => sI_row (by omega))
    refine ⟨by omega, beq17 (isSt_p w' j hj), sp_copyS _ b (isSt_p w' j hj) (hbs w') (by omega) r' (fun M1 h1 r1 => ?_)⟩
    have m9 : M1 9 = sI M 9 1 9 9 := h1 9 (by omega)
    rw [m9, sI_same, w32_id (by omega) (by omega)]
    rw [hw']
    refine q _ _ (fun c hc hc2 => by rw [sI_row hc, h1 c (by omega), sI_row hc]) ⟨?_, by rw [stF_stw]; exact o', fun i hi => ?_⟩
    · rw [sI_same]
      unfold noteP
      rw [if_pos rfl, if_pos h10]
      rfl
    · rw [stF_stw]
      unfold noteP at hi
      rw [if_pos rfl, if_pos h10] at hi
      have er : ∀ a, a ≠ 9 → sI M1 9 1 (9 + 1) a = M1 a := fun a ha => sI_row ha
      by_cases ci : i = 9
      · subst ci
        have e9 : rotS (stw w) 9 = 45 + 4 * j := by
          unfold rotS
          rw [if_pos rfl, ej]
        rw [e9]
        refine (r1.ext (fun k hk => ?_)).congr (fun c h2 h3 => er c (by omega))
        unfold noteP
        rw [if_neg (by omega), if_pos h10, if_neg (by omega), if_pos (by omega)]
        exact congrArg Q (by omega)
      · have ei : rotS (stw w) i = stw w (i + 1) := by
          unfold rotS
          rw [if_neg ci, if_pos (by omega)]
        rw [ei]
        obtain ⟨j2, hj2, ej2⟩ := u2.1 (i + 1) (by omega)
        have hne : j2 ≠ j := by
          intro e
          have := u2.2 (i + 1) 0 (by omega) (by omega) (by rw [ej, ej2, e])
          omega
        refine ((u3 (i + 1) (by omega)).ext (fun k hk => ?_)).congr (fun c h2 h3 => ?_)
        · unfold noteP
          rw [if_neg (by omega), if_pos h10, if_pos (by omega)]
          congr 1
          omega
        · rw [ej2] at h2 h3
          rw [er c (by omega), h1 c (by omega), sI_row (by omega)]
end
/-- trays: sorts S, sizes Z, numbers U -/
def relT (M : Nat → Nat → Int) (S Z U : Nat → Int) : Prop := ∀ t, t < 4 → (S t = -1 → M (85 + 2 * t) 2 = -1) ∧ (S t ≠ -1 → M (85 + 2 * t) 1 = S t ∧ M (85 + 2 * t) 2 = Z t ∧ (0 ≤ Z t ∧ Z t ≤ 40) ∧ (0 ≤ S t ∧ S t ≤ 3) ∧ (∀ k : Nat, (k : Int) < Z t → M (86 + 2 * t) k = U (40 * t + k)))
def isTr (w : cQ) (a : Nat) : Prop := Nat.beq (shC w a).1 18 = true ∧ rfC w a 0 = a + 1 ∧ shC w (a + 1) = (4, 40)
theorem isTr_t (w : cQ) : ∀ t, t < 4 → isTr w (85 + 2 * t) ∧ rfC w 10 t = 85 + 2 * t
  | 0, _ => ⟨⟨rfl, rfl, rfl⟩, rfl⟩
  | 1, _ => ⟨⟨rfl, rfl, rfl⟩, rfl⟩
  | 2, _ => ⟨⟨rfl, rfl, rfl⟩, rfl⟩
  | 3, _ => ⟨⟨rfl, rfl, rfl⟩, rfl⟩
  | n + 4, h => absurd h (by omega)
section
variable {d : Nat} {n : Nat × Nat} {Φ : Int → (Nat → Nat → Int) → Prop} {Ψ : Int → cQ → (Nat → Nat → Int) → Nat × Nat → Prop} {M : Nat → Nat → Int} {w : cQ} {P S Z U : Nat → Int}
theorem relT.congr {M' : Nat → Nat → Int} (h : ∀ c, 85 ≤ c → c ≤ 92 → M' c = M c) (r : relT M S Z U) : relT M' S Z U := by
  intro t ht
  rw [h (85 + 2 * t) (by omega) (by omega), h (86 + 2 * t) (by omega) (by omega)]
  exact r t ht
theorem c_isMissing (t : Nat) (ht : t < 4) (r : relT M S Z U) (q : Φ (b2i (decide (S t = -1))) M) : CF (d + 1) 73 [(2, ((85 + 2 * t : Nat) : Int))] w M n Φ := by
  refine e8_isMissing ⟨(isTr_t w t ht).1.1, fun c => ?_, fun c => ?_⟩
  · have : S t ≠ -1 := fun e => by have := (r t ht).1 e; omega
    rw [decide_eq_false this] at q
    exact q
  · have : S t = -1 := by
      by_cases e : S t = -1
      · exact e
      · have := (r t ht).2 e; omega
    rw [decide_eq_true this] at q
    exact q
theorem c_at (t k : Nat) (ht : t < 4) (r : relT M S Z U) (hs : S t ≠ -1) (hk : (k : Int) < Z t) (q : Φ (U (40 * t + k)) M) : CF (d + 1) 75 [(2, ((85 + 2 * t : Nat) : Int)), (0, (k : Int))] w M n Φ := by
  obtain ⟨⟨t1, t2, t3⟩, _⟩ := isTr_t w t ht
  obtain ⟨_, r2, r3, _, r4⟩ := (r t ht).2 hs
  apply e8_at
  rw [r2, t2, t3, show 85 + 2 * t + 1 = 86 + 2 * t by omega]
  simp only [Int.toNat_natCast]
  rw [r4 k hk]
  exact ⟨fun c => absurd c (by omega), fun _ => ⟨t1, fun c => absurd c (by omega), fun _ => ⟨t1, rfl, by omega, q⟩⟩⟩
theorem c_doAll (t z : Nat) (num : Nat → Int) (ht : t < 4) (rt : relT M S Z U) (hs : S t ≠ -1) (hz : Z t = (z : Int)) (hnum : ∀ k, k < z → U (40 * t + k) = num k) (r : relW M P) (ok : okP P) (q : ∀ M', QS M M' → relW M' (dK P num (dStop P num z)) → Φ (dStop P num z : Nat) M') : CF (d + 7) 111 [(2, 4), (2, ((85 + 2 * t : Nat) : Int))] w M n Φ := by
  obtain ⟨s1, s2, s3⟩ := dStop_all P num z
  have hz4 := ((rt t ht).2 hs).2.2.1
  have key : ∀ k, k ≤ dStop P num z → ∀ M', QS M M' → relW M' (dK P num k) → W10_doAll_2 (85 + 2 * t) (d + 6) Φ (k : Nat) w M' n := by
    refine up (fun M' hM' r' => ?_) (fun k hk ih M' hM' r' => ?_)
    · have rt' : relT M' S Z U := rt.congr (fun c h1 h2 => hM' c (by omega))
      have b := (isTr_t w t ht).1.1
      apply v10_doAll_2
      rw [((rt' t ht).2 hs).2.1, hz]
      refine ⟨b, fun c => ⟨b, ?_⟩, fun c => ⟨b, c_at t _ ht rt' hs (by omega) ?_⟩⟩
      · have e : dStop P num z = z := by omega
        have q' := q M' hM' r'
        rw [e] at q'
        exact q'
      · have hlt : dStop P num z < z := by omega
        rw [hnum _ hlt]
        refine c_attempt _ r' (dK_ok ok _ s3).1 (fun M2 h2 r2 => ?_)
        rw [if_neg (s2 hlt)] at r2
        exact ⟨fun c => absurd c (s2 hlt), fun _ => q M2 (hM'.trans h2) r2⟩
    · have rt' : relT M' S Z U := rt.congr (fun c h1 h2 => hM' c (by omega))
      have b := (isTr_t w t ht).1.1
      have w0 := s3 k hk
      apply v10_doAll_2
      rw [((rt' t ht).2 hs).2.1, hz, w32_s (by omega)]
      refine ⟨b, fun c => absurd c (by omega), fun c => ⟨b, c_at t _ ht rt' hs (by omega) ?_⟩⟩
      rw [hnum _ (by omega)]
      refine c_attempt _ r' (dK_ok ok k (fun j hj => s3 j (by omega))).1 (fun M2 h2 r2 => ?_)
      rw [if_pos w0] at r2
      rw [w0]
      exact ⟨fun _ => ih M2 (hM'.trans h2) r2, fun c => absurd rfl c⟩
  exact e10_doAll (key 0 (Nat.zero_le _) M (QS.refl M) r)
theorem c_unlikeMoments (r : relW M P) (ok : okP P) (q : Φ (talesN P : Nat) M) : CF (d + 2) 115 [(2, 4)] w M n Φ := by
  obtain ⟨eF, hF1, hF2⟩ := ok.nFe
  have key : ∀ k, k ≤ nF P → W10_unlikeMoments_4 (d + 1) Φ (orK P k : Nat) (k : Nat) w M n := by
    refine up ?_ (fun k hk ih => ?_)
    · apply v10_unlikeMoments_4
      have := orK_lt ok _ hF2
      rw [r.F, eF]
      exact ⟨fun _ => sp_bitCount _ (by omega) q, fun c => absurd (Int.le_refl _) c⟩
    · apply v10_unlikeMoments_4
      rw [r.F, eF, w32_s (by omega), Int.toNat_natCast, r.at (by omega), or_orK ok (by omega)]
      exact ⟨fun c => absurd c (by omega), fun _ => ⟨by omega, ih⟩⟩
  exact e10_unlikeMoments (key 0 (Nat.zero_le _))
theorem c_allDoubts (r : relW M P) (ok : okP P) (q : Φ (doubtsN P) M) : CF (d + 1) 116 [(2, 4)] w M n Φ := by
  obtain ⟨eF, hF1, hF2⟩ := ok.nFe
  have key : ∀ k, k ≤ nF P → W10_allDoubts_4 d Φ (sumK P k) (k : Nat) w M n := by
    refine up ?_ (fun k hk ih => ?_)
    · apply v10_allDoubts_4
      rw [r.F, eF]
      exact ⟨fun _ => q, fun c => absurd (Int.le_refl _) c⟩
    · apply v10_allDoubts_4
      rw [r.F, eF, w32_s (by omega), Int.toNat_natCast, r.doubt (by omega)]
      exact ⟨fun c => absurd c (by omega), fun _ => ⟨by omega, ih⟩⟩
  exact e10_allDoubts (key 0 (Nat.zero_le _))
end
