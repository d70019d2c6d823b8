/-! ===== laws: what a law's code means; the reference's and the class's ways to reckon it ===== -/
def wOk (l : Nat) (x : Int) : Bool := decide (x = 0 ∨ x = 1 ∨ (l = 0 ∧ (x = 2 ∨ x = 3 ∨ x = 4)) ∨ (l = 1 ∧ (x = 5 ∨ x = 6)) ∨ (l = 2 ∧ x = 7))
def clampV (x : Int) : Int := if 1000000 < x then 1000000 else if x < -1000000 then -1000000 else x
def opV (c a b : Int) : Int := if c = 3003 then (if a = b then 1 else 0) else if c = 3004 then (if a < b then 1 else 0) else if c = 3005 then (if b < a then 1 else 0) else if c = 3007 then (if a = 1 ∧ b = 1 then 1 else 0) else if c = 3008 then (if a = 1 ∨ b = 1 then 1 else 0) else clampV (if c = 3000 then a + b else if c = 3001 then a - b else a * b)
def notT : List Int → List Int
  | a :: r => (1 - a) :: r
  | [] => []
def binT (c : Int) : List Int → List Int
  | b :: a :: r => opV c a b :: r
  | _ => []
def lv1 (ws : Nat → Int) (c : Int) (st : List Int) : List Int := if c < 3000 then (if c < 1000 then c else ws (c - 1000).toNat) :: st else if c = 3006 then notT st else binT c st
def tyN : List Bool → Option (List Bool)
  | true :: r => some (true :: r)
  | _ => none
def tyB (x z : Bool) : List Bool → Option (List Bool)
  | a :: b :: r => if a = x ∧ b = x then some (z :: r) else none
  | _ => none
def ty1 (l : Nat) (c : Int) (st : List Bool) : Option (List Bool) :=
  if c < 1000 then (if 0 ≤ c ∧ st.length < 64 then some (false :: st) else none)
  else if c < 3000 then (if wOk l (c - 1000) = true ∧ st.length < 64 then some (false :: st) else none)
  else if c = 3006 then tyN st
  else if c = 3007 ∨ c = 3008 then tyB true true st
  else if c = 3003 ∨ c = 3004 ∨ c = 3005 then tyB false true st
  else if c = 3000 ∨ c = 3001 ∨ c = 3002 then tyB false false st
  else none
/-- the pile behind k pieces of code -/
def stk (cd ws : Nat → Int) : Nat → List Int
  | 0 => []
  | k + 1 => lv1 ws (cd k) (stk cd ws k)
/-- its sorts -/
def tyk (l : Nat) (cd : Nat → Int) : Nat → Option (List Bool)
  | 0 => some []
  | k + 1 => (tyk l cd k).bind (ty1 l (cd k))
/-- the law's value -/
def lawV (cd ws : Nat → Int) (mn : Nat) : Int := (stk cd ws mn).headD 0
def vT (t : Bool) (v : Int) : Prop := if t = true then v = 0 ∨ v = 1 else -1000000 ≤ v ∧ v ≤ 1000000
def vTs : List Bool → List Int → Prop
  | [], [] => True
  | t :: ts, v :: vs => vT t v ∧ vTs ts vs
  | _, _ => False
theorem vTs_len : ∀ {ts : List Bool} {vs : List Int}, vTs ts vs → ts.length = vs.length
  | [], [], _ => rfl
  | _ :: _, _ :: _, h => by
    have := vTs_len h.2
    simp only [List.length_cons]
    omega
theorem tyk_some {l : Nat} {cd : Nat → Int} {m : Nat} {s : List Bool} (h : tyk l cd m = some s) : ∀ k, k ≤ m → ∃ s', tyk l cd k = some s' := by
  induction m generalizing s with
  | zero => intro k hk; cases (show k = 0 by omega); exact ⟨s, h⟩
  | succ m ih =>
    intro k hk
    by_cases e : k = m + 1
    · subst e; exact ⟨s, h⟩
    · have h2 : (tyk l cd m).bind (ty1 l (cd m)) = some s := h
      cases h3 : tyk l cd m with
      | none => rw [h3] at h2; cases h2
      | some s' => exact ih h3 k (by omega)
theorem clampV_b (x : Int) : -1000000 ≤ clampV x ∧ clampV x ≤ 1000000 := by unfold clampV; split <;> (try split) <;> omega
theorem tyB_inv {x z : Bool} {ts ts' : List Bool} {vs : List Int} (h : tyB x z ts = some ts') (hv : vTs ts vs) : ∃ b a r tr, vs = b :: a :: r ∧ ts' = z :: tr ∧ vTs tr r ∧ vT x a ∧ vT x b := by
  match ts, vs, hv with
  | [], [], _ => cases h
  | [_], [_], _ => cases h
  | t1 :: t2 :: tr, b :: a :: r, hv =>
    have h' : (if t1 = x ∧ t2 = x then some (z :: tr) else none) = some ts' := h
    by_cases e : t1 = x ∧ t2 = x
    · rw [if_pos e] at h'
      cases h'
      exact ⟨b, a, r, tr, rfl, rfl, hv.2.2, e.2 ▸ hv.2.1, e.1 ▸ hv.1⟩
    · rw [if_neg e] at h'
      cases h'
theorem ty_case {l : Nat} {c : Int} {ts ts' : List Bool} {vs : List Int} (h : ty1 l c ts = some ts') (hv : vTs ts vs) :
    (0 ≤ c ∧ c < 1000 ∧ ts.length < 64 ∧ ts' = false :: ts) ∨
    (1000 ≤ c ∧ c < 3000 ∧ wOk l (c - 1000) = true ∧ ts.length < 64 ∧ ts' = false :: ts) ∨
    (c = 3006 ∧ ∃ a r tr, vs = a :: r ∧ (a = 0 ∨ a = 1) ∧ ts' = true :: tr ∧ vTs tr r) ∨
    (3000 ≤ c ∧ c ≠ 3006 ∧ ∃ b a r t tr, vs = b :: a :: r ∧ ts' = t :: tr ∧ vTs tr r ∧ ((t = true ∧ (c = 3007 ∨ c = 3008) ∧ (a = 0 ∨ a = 1) ∧ (b = 0 ∨ b = 1)) ∨ (t = true ∧ (c = 3003 ∨ c = 3004 ∨ c = 3005) ∧ (-1000000 ≤ a ∧ a ≤ 1000000) ∧ (-1000000 ≤ b ∧ b ≤ 1000000)) ∨ (t = false ∧ (c = 3000 ∨ c = 3001 ∨ c = 3002) ∧ (-1000000 ≤ a ∧ a ≤ 1000000) ∧ (-1000000 ≤ b ∧ b ≤ 1000000)))) := by
  unfold ty1 at h
  split at h
  · split at h
    · rename_i h1 h2; cases h; exact Or.inl ⟨h2.1, h1, h2.2, rfl⟩
    · cases h
  split at h
  · split at h
    · rename_i h1 h2 h3; cases h; exact Or.inr (Or.inl ⟨by omega, h2, h3.1, h3.2, rfl⟩)
    · cases h
  split at h
  · rename_i h3
    refine Or.inr (Or.inr (Or.inl ⟨h3, ?_⟩))
    match ts, vs, hv with
    | [], [], _ => cases h
    | true :: tr, a :: r, hv => cases h; exact ⟨a, r, tr, rfl, hv.1, rfl, hv.2⟩
    | false :: tr, a :: r, hv => cases h
  split at h
  · rename_i h3 h4
    obtain ⟨b, a, r, tr, e1, e2, h5, h6, h7⟩ := tyB_inv h hv
    exact Or.inr (Or.inr (Or.inr ⟨by omega, h3, b, a, r, true, tr, e1, e2, h5, Or.inl ⟨rfl, h4, h6, h7⟩⟩))
  split at h
  · rename_i h3 h4 h4b
    obtain ⟨b, a, r, tr, e1, e2, h5, h6, h7⟩ := tyB_inv h hv
    exact Or.inr (Or.inr (Or.inr ⟨by omega, h3, b, a, r, true, tr, e1, e2, h5, Or.inr (Or.inl ⟨rfl, h4b, h6, h7⟩)⟩))
  split at h
  · rename_i h3 h4 h4b h4c
    obtain ⟨b, a, r, tr, e1, e2, h5, h6, h7⟩ := tyB_inv h hv
    exact Or.inr (Or.inr (Or.inr ⟨by omega, h3, b, a, r, false, tr, e1, e2, h5, Or.inr (Or.inr ⟨rfl, h4c, h6, h7⟩)⟩))
  · cases h
theorem lv_push {ws : Nat → Int} {c : Int} {st : List Int} (h : c < 1000) : lv1 ws c st = c :: st := by
  unfold lv1; rw [if_pos (by omega), if_pos h]
theorem lv_word {ws : Nat → Int} {c : Int} {st : List Int} (h : 1000 ≤ c) (h2 : c < 3000) : lv1 ws c st = ws (c - 1000).toNat :: st := by
  unfold lv1; rw [if_pos h2, if_neg (by omega)]
theorem lv_not {ws : Nat → Int} {st : List Int} : lv1 ws 3006 st = notT st := by
  unfold lv1; rw [if_neg (by omega), if_pos rfl]
theorem lv_bin {ws : Nat → Int} {c : Int} {st : List Int} (h : 3000 ≤ c) (h2 : c ≠ 3006) : lv1 ws c st = binT c st := by
  unfold lv1; rw [if_neg (by omega), if_neg h2]
theorem tv_step {l : Nat} {ws : Nat → Int} (hw : ∀ x : Nat, wOk l x = true → -1000000 ≤ ws x ∧ ws x ≤ 1000000) {c : Int} {ts ts' : List Bool} {vs : List Int} (h : ty1 l c ts = some ts') (hv : vTs ts vs) : vTs ts' (lv1 ws c vs) := by
  rcases ty_case h hv with ⟨h1, h2, h3, rfl⟩ | ⟨h1, h2, h3, h4, rfl⟩ | ⟨rfl, a, r, tr, rfl, h1, rfl, h2⟩ | ⟨h1, h2, b, a, r, t, tr, rfl, rfl, h3, h4⟩
  · rw [lv_push h2]; exact ⟨show -1000000 ≤ c ∧ c ≤ 1000000 by omega, hv⟩
  · rw [lv_word h1 h2]
    refine ⟨hw _ ?_, hv⟩
    rw [Int.toNat_of_nonneg (by omega)]
    exact h3
  · rw [lv_not]
    refine ⟨?_, h2⟩
    show 1 - a = 0 ∨ 1 - a = 1
    omega
  · rw [lv_bin h1 h2]
    refine ⟨?_, h3⟩
    rcases h4 with ⟨rfl, hc, ha, hb⟩ | ⟨rfl, hc, ha, hb⟩ | ⟨rfl, hc, ha, hb⟩
    · show opV c a b = 0 ∨ opV c a b = 1
      unfold opV
      repeat' split
      all_goals first | omega | (exact Or.inl rfl) | (exact Or.inr rfl)
    · show opV c a b = 0 ∨ opV c a b = 1
      unfold opV
      repeat' split
      all_goals first | omega | (exact Or.inl rfl) | (exact Or.inr rfl)
    · show -1000000 ≤ opV c a b ∧ opV c a b ≤ 1000000
      unfold opV
      rw [if_neg (by omega), if_neg (by omega), if_neg (by omega), if_neg (by omega), if_neg (by omega)]
      exact clampV_b _
theorem tyk_vs {l : Nat} {cd ws : Nat → Int} (hw : ∀ x : Nat, wOk l x = true → -1000000 ≤ ws x ∧ ws x ≤ 1000000) : ∀ (k : Nat) {s : List Bool}, tyk l cd k = some s → vTs s (stk cd ws k)
  | 0, s, h => by cases h; exact trivial
  | k + 1, s, h => by
    have h2 : (tyk l cd k).bind (ty1 l (cd k)) = some s := h
    cases h3 : tyk l cd k with
    | none => rw [h3] at h2; cases h2
    | some s' =>
      rw [h3] at h2
      exact tv_step hw h2 (tyk_vs hw k h3)
theorem tyk_step {l : Nat} {cd : Nat → Int} {k m : Nat} {s : List Bool} (h : tyk l cd m = some s) (hk : k < m) : ∃ s1 s2, tyk l cd k = some s1 ∧ tyk l cd (k + 1) = some s2 ∧ ty1 l (cd k) s1 = some s2 := by
  obtain ⟨s1, h1⟩ := tyk_some h k (by omega)
  obtain ⟨s2, h2⟩ := tyk_some h (k + 1) (by omega)
  have h3 : (tyk l cd k).bind (ty1 l (cd k)) = some s2 := h2
  rw [h1] at h3
  exact ⟨s1, s2, h1, h2, h3⟩
theorem tyk_len {l : Nat} {cd : Nat → Int} : ∀ (k : Nat) {s : List Bool}, tyk l cd k = some s → s.length ≤ k
  | 0, s, h => by cases h; exact Nat.le_refl 0
  | k + 1, s, h => by
    have h2 : (tyk l cd k).bind (ty1 l (cd k)) = some s := h
    cases h3 : tyk l cd k with
    | none => rw [h3] at h2; cases h2
    | some s' =>
      rw [h3] at h2
      have h4 := tyk_len k h3
      have h5 : ty1 l (cd k) s' = some s := h2
      have hv : ∃ vs, vTs s' vs := by
        clear h2 h5 h4 h3
        induction s' with
        | nil => exact ⟨[], trivial⟩
        | cons t ts ih =>
          obtain ⟨vs, h⟩ := ih
          cases t with
          | true => exact ⟨0 :: vs, Or.inl rfl, h⟩
          | false => exact ⟨0 :: vs, ⟨by decide, by decide⟩, h⟩
      obtain ⟨vs, hv⟩ := hv
      have hl := vTs_len hv
      rcases ty_case h5 hv with ⟨h1, h2, h3, rfl⟩ | ⟨h1, h2, h3, h4, rfl⟩ | ⟨_, a, r, tr, rfl, h1, rfl, g2⟩ | ⟨h1, h2, b, a, r, t, tr, rfl, rfl, g3, h4⟩
      · simp only [List.length_cons]; omega
      · simp only [List.length_cons]; omega
      · have := vTs_len g2
        simp only [List.length_cons] at hl ⊢; omega
      · have := vTs_len g3
        simp only [List.length_cons] at hl ⊢; omega
theorem tyk_h {l : Nat} {cd : Nat → Int} : ∀ (k : Nat) {s : List Bool}, tyk l cd k = some s → s.length ≤ 64
  | 0, s, h => by cases h; exact Nat.zero_le _
  | k + 1, s, h => by
    have h2 : (tyk l cd k).bind (ty1 l (cd k)) = some s := h
    cases h3 : tyk l cd k with
    | none => rw [h3] at h2; cases h2
    | some s' =>
      rw [h3] at h2
      have h4 := tyk_h k h3
      have h5 : ty1 l (cd k) s' = some s := h2
      have hv : ∃ vs, vTs s' vs := by
        clear h2 h5 h4 h3
        induction s' with
        | nil => exact ⟨[], trivial⟩
        | cons t ts ih =>
          obtain ⟨vs, h⟩ := ih
          cases t with
          | true => exact ⟨0 :: vs, Or.inl rfl, h⟩
          | false => exact ⟨0 :: vs, ⟨by decide, by decide⟩, h⟩
      obtain ⟨vs, hv⟩ := hv
      have hl := vTs_len hv
      rcases ty_case h5 hv with ⟨h1, h2, h3, rfl⟩ | ⟨h1, h2, h3, h4, rfl⟩ | ⟨_, a, r, tr, rfl, h1, rfl, g2⟩ | ⟨h1, h2, b, a, r, t, tr, rfl, rfl, g3, h4⟩
      · simp only [List.length_cons]; omega
      · simp only [List.length_cons]; omega
      · have := vTs_len g2
        simp only [List.length_cons] at hl ⊢; omega
      · have := vTs_len g3
        simp only [List.length_cons] at hl ⊢; omega
/-- a row holds a pile -/
def hold (A : Nat → Int) : List Int → Prop
  | [] => True
  | v :: r => A r.length = v ∧ hold A r
theorem hold_congr {A B : Nat → Int} : ∀ {st : List Int}, (∀ i, i < st.length → B i = A i) → hold A st → hold B st
  | [], _, _ => trivial
  | v :: r, h, q => ⟨(h _ (by simp only [List.length_cons]; omega)).trans q.1, hold_congr (fun i hi => h i (by simp only [List.length_cons]; omega)) q.2⟩
theorem hold_push {M : Nat → Nat → Int} {a : Nat} {st : List Int} {v : Int} (h : hold (M a) st) : hold (sI M a st.length v a) (v :: st) :=
  ⟨sI_same M a _ v, hold_congr (fun i hi => sI_ne (by omega)) h⟩
theorem w64_b {x : Int} (h : -1000000000000 ≤ x) (h2 : x ≤ 1000000000000) : w64 x = x := w64_id (by omega) (by omega)
theorem mul_b {a b : Int} (ha : -1000000 ≤ a ∧ a ≤ 1000000) (hb : -1000000 ≤ b ∧ b ≤ 1000000) : -1000000000000 ≤ a * b ∧ a * b ≤ 1000000000000 := by
  have h1 : 0 ≤ (1000000 - a) * (1000000 + b) := Int.mul_nonneg (by omega) (by omega)
  have h2 : 0 ≤ (1000000 + a) * (1000000 - b) := Int.mul_nonneg (by omega) (by omega)
  have h3 : 0 ≤ (1000000 - a) * (1000000 - b) := Int.mul_nonneg (by omega) (by omega)
  have h4 : 0 ≤ (1000000 + a) * (1000000 + b) := Int.mul_nonneg (by omega) (by omega)
  rw [Int.sub_mul, Int.mul_add, Int.mul_add] at h1
  rw [Int.add_mul, Int.mul_sub, Int.mul_sub] at h2
  rw [Int.sub_mul, Int.mul_sub, Int.mul_sub] at h3
  rw [Int.add_mul, Int.mul_add, Int.mul_add] at h4
  omega
/-- what a two-handed piece stands on -/
def binOk (c a b : Int) : Prop := ((c = 3007 ∨ c = 3008) ∧ (a = 0 ∨ a = 1) ∧ (b = 0 ∨ b = 1)) ∨ ((c = 3003 ∨ c = 3004 ∨ c = 3005 ∨ c = 3000 ∨ c = 3001 ∨ c = 3002) ∧ (-1000000 ≤ a ∧ a ≤ 1000000) ∧ (-1000000 ≤ b ∧ b ≤ 1000000))
theorem and01 {a b : Int} (ha : a = 0 ∨ a = 1) (hb : b = 0 ∨ b = 1) : m_and a b = (if a = 1 ∧ b = 1 then 1 else 0) ∧ m_or a b = (if a = 1 ∨ b = 1 then 1 else 0) ∧ l_and a b = (if a = 1 ∧ b = 1 then 1 else 0) ∧ l_or a b = (if a = 1 ∨ b = 1 then 1 else 0) := by
  have k : ∀ x y : Nat, x < 2 → y < 2 → m_and (x : Int) (y : Int) = ((x &&& y : Nat) : Int) ∧ m_or (x : Int) (y : Int) = ((x ||| y : Nat) : Int) ∧ l_and (x : Int) (y : Int) = ((x &&& y : Nat) : Int) ∧ l_or (x : Int) (y : Int) = ((x ||| y : Nat) : Int) := fun x y hx hy => ⟨m_and_n (by omega) (by omega), m_or_n (by omega) (by omega), l_and_n (by omega) (by omega), l_or_n (by omega) (by omega)⟩
  rcases ha with rfl | rfl <;> rcases hb with rfl | rfl
  · exact k 0 0 (by omega) (by omega)
  · exact k 0 1 (by omega) (by omega)
  · exact k 1 0 (by omega) (by omega)
  · exact k 1 1 (by omega) (by omega)
theorem opV_p (a b : Int) : opV 3000 a b = clampV (a + b) := by
  unfold opV; rw [if_neg (by decide), if_neg (by decide), if_neg (by decide), if_neg (by decide), if_neg (by decide), if_pos rfl]
theorem opV_m (a b : Int) : opV 3001 a b = clampV (a - b) := by
  unfold opV; rw [if_neg (by decide), if_neg (by decide), if_neg (by decide), if_neg (by decide), if_neg (by decide), if_neg (by decide), if_pos rfl]
theorem opV_t (a b : Int) : opV 3002 a b = clampV (a * b) := by
  unfold opV; rw [if_neg (by decide), if_neg (by decide), if_neg (by decide), if_neg (by decide), if_neg (by decide), if_neg (by decide), if_neg (by decide)]
theorem opV_e (a b : Int) : opV 3003 a b = if a = b then 1 else 0 := by
  unfold opV; rw [if_pos rfl]
theorem opV_l (a b : Int) : opV 3004 a b = if a < b then 1 else 0 := by
  unfold opV; rw [if_neg (by decide), if_pos rfl]
theorem opV_g (a b : Int) : opV 3005 a b = if b < a then 1 else 0 := by
  unfold opV; rw [if_neg (by decide), if_neg (by decide), if_pos rfl]
theorem opV_a (a b : Int) : opV 3007 a b = if a = 1 ∧ b = 1 then 1 else 0 := by
  unfold opV; rw [if_neg (by decide), if_neg (by decide), if_neg (by decide), if_pos rfl]
theorem opV_o (a b : Int) : opV 3008 a b = if a = 1 ∨ b = 1 then 1 else 0 := by
  unfold opV; rw [if_neg (by decide), if_neg (by decide), if_neg (by decide), if_neg (by decide), if_pos rfl]
theorem clamp_fin {x : Int} {Φ : Int → Prop} (hx : -1000000000000 ≤ x ∧ x ≤ 1000000000000) (q : Φ (clampV x)) : (m_cmp (w64 x) 1000000 ≤ 0 → (0 ≤ m_cmp (w64 x) (-1000000) → Φ (w32 (w64 x))) ∧ (¬ (0 ≤ m_cmp (w64 x) (-1000000)) → Φ (w32 (-1000000)))) ∧ (¬ (m_cmp (w64 x) 1000000 ≤ 0) → Φ (w32 1000000)) := by
  rw [w64_b hx.1 hx.2, cmp_le0, cmp_ge0]
  refine ⟨fun h1 => ⟨fun h2 => ?_, fun h2 => ?_⟩, fun h1 => ?_⟩
  · rw [w32_id (by omega) (by omega)]
    unfold clampV at q
    rw [if_neg (by omega), if_neg (by omega)] at q
    exact q
  · rw [w32_id (by omega) (by omega)]
    unfold clampV at q
    rw [if_neg (by omega), if_pos (by omega)] at q
    exact q
  · rw [w32_id (by omega) (by omega)]
    unfold clampV at q
    rw [if_pos (by omega)] at q
    exact q
section
variable {d : Nat} {n : Nat × Nat} {Φ : Int → (Nat → Nat → Int) → Prop} {M : Nat → Nat → Int} {w : cQ}
theorem sp_between {c a b : Int} (h : binOk c a b) (q : Φ (opV c a b) M) : CR (d + 1) 219 [(0, c), (0, a), (0, b)] M n Φ := by
  have hs : ∀ x y : Int, -1000000 ≤ x ∧ x ≤ 1000000 → -1000000 ≤ y ∧ y ≤ 1000000 → (-1000000000000 ≤ x + y ∧ x + y ≤ 1000000000000) ∧ (-1000000000000 ≤ x - y ∧ x - y ≤ 1000000000000) := by intro x y; omega
  apply e12_between
  rcases h with ⟨hc, ha, hb⟩ | ⟨hc, ha, hb⟩
  · obtain ⟨e1, e2, _, _⟩ := and01 ha hb
    rcases hc with rfl | rfl
    · refine ⟨fun h => by omega, fun _ => ⟨fun h => by omega, fun _ => ⟨fun h => by omega, fun _ => ⟨fun h => by omega, fun _ => ⟨fun _ => ?_, fun h => by omega⟩⟩⟩⟩⟩
      rw [e1, ← opV_a]; exact q
    · refine ⟨fun h => by omega, fun _ => ⟨fun h => by omega, fun _ => ⟨fun h => by omega, fun _ => ⟨fun h => by omega, fun _ => ⟨fun h => by omega, fun _ => ⟨fun _ => ?_, fun h => by omega⟩⟩⟩⟩⟩⟩
      rw [e2, ← opV_o]; exact q
  · have hm := mul_b ha hb
    obtain ⟨hp, hq⟩ := hs a b ha hb
    rcases hc with rfl | rfl | rfl | rfl | rfl | rfl
    · refine ⟨fun _ => ⟨fun h => ?_, fun h => ?_⟩, fun h => by omega⟩
      · have : opV 3003 a b = 0 := by unfold opV; rw [if_pos rfl, if_neg (by omega)]
        rw [this] at q; exact q
      · have : opV 3003 a b = 1 := by unfold opV; rw [if_pos rfl, if_pos (by omega)]
        rw [this] at q; exact q
    · refine ⟨fun h => by omega, fun _ => ⟨fun _ => ⟨fun h => ?_, fun h => ?_⟩, fun h => by omega⟩⟩
      · have : opV 3004 a b = 0 := by unfold opV; rw [if_neg (by decide), if_pos rfl, if_neg (by omega)]
        rw [this] at q; exact q
      · have : opV 3004 a b = 1 := by unfold opV; rw [if_neg (by decide), if_pos rfl, if_pos (by omega)]
        rw [this] at q; exact q
    · refine ⟨fun h => by omega, fun _ => ⟨fun h => by omega, fun _ => ⟨fun _ => ⟨fun h => ?_, fun h => ?_⟩, fun h => by omega⟩⟩⟩
      · have : opV 3005 a b = 0 := by unfold opV; rw [if_neg (by decide), if_neg (by decide), if_pos rfl, if_neg (by omega)]
        rw [this] at q; exact q
      · have : opV 3005 a b = 1 := by unfold opV; rw [if_neg (by decide), if_neg (by decide), if_pos rfl, if_pos (by omega)]
        rw [this] at q; exact q
    · refine ⟨fun h => by omega, fun _ => ⟨fun h => by omega, fun _ => ⟨fun h => by omega, fun _ => ⟨fun h => by omega, fun _ => ⟨fun h => by omega, fun _ => ⟨fun h => by omega, fun _ => ⟨fun h => absurd rfl h, fun _ => ?_⟩⟩⟩⟩⟩⟩⟩
      rw [opV_p] at q
      exact clamp_fin (Φ := fun v => Φ v M) hp q
    · refine ⟨fun h => by omega, fun _ => ⟨fun h => by omega, fun _ => ⟨fun h => by omega, fun _ => ⟨fun h => by omega, fun _ => ⟨fun h => by omega, fun _ => ⟨fun h => by omega, fun _ => ⟨fun _ => ⟨fun h => absurd rfl h, fun _ => ?_⟩, fun h => absurd (by decide) h⟩⟩⟩⟩⟩⟩⟩
      rw [opV_m] at q
      exact clamp_fin (Φ := fun v => Φ v M) hq q
    · refine ⟨fun h => by omega, fun _ => ⟨fun h => by omega, fun _ => ⟨fun h => by omega, fun _ => ⟨fun h => by omega, fun _ => ⟨fun h => by omega, fun _ => ⟨fun h => by omega, fun _ => ⟨fun _ => ⟨fun _ => ?_, fun h => absurd (by decide) h⟩, fun h => absurd (by decide) h⟩⟩⟩⟩⟩⟩⟩
      rw [opV_t] at q
      exact clamp_fin (Φ := fun v => Φ v M) hm q
end
