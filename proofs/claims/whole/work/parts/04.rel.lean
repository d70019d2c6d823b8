/-! ===== the small machine's values and cells beside the machine's ===== -/
def VR (tx : Nat → Nat) (mp : Nat → Nat → Prop) (v : mV) (w : Value) : Prop := match w with
  | .int x => v = (0, x.toInt)
  | .long x => v = (1, x.toInt)
  | .null => v = (2, 0)
  | .ref q => (∃ a : Nat, v = (2, (a : Int)) ∧ 1 ≤ a ∧ mp a q) ∨ ∃ i : Nat, v = (3, (i : Int)) ∧ q = tx i
  | _ => False
theorem VR.mono {tx : Nat → Nat} {mp mp' : Nat → Nat → Prop} (h : ∀ a q, mp a q → mp' a q) {v : mV} {w : Value} (r : VR tx mp v w) : VR tx mp' v w := by
  cases w with
  | ref q =>
    rcases r with ⟨a, h1, h2, h3⟩ | r
    · exact Or.inl ⟨a, h1, h2, h a q h3⟩
    · exact Or.inr r
  | _ => exact r
theorem VR.i {tx : Nat → Nat} {mp : Nat → Nat → Prop} {v : mV} {w : Value} (r : VR tx mp v w) (t : v.1 = 0) : ∃ x : Int32, w = .int x ∧ v = (0, x.toInt) := by
  cases w with
  | int x => exact ⟨x, rfl, r⟩
  | long x => rw [show v = (1, x.toInt) from r] at t; cases t
  | null => rw [show v = (2, 0) from r] at t; cases t
  | ref q =>
    rcases r with ⟨a, h1, -⟩ | ⟨i, h1, -⟩
    · rw [h1] at t; cases t
    · rw [h1] at t; cases t
  | _ => exact r.elim
theorem VR.l {tx : Nat → Nat} {mp : Nat → Nat → Prop} {v : mV} {w : Value} (r : VR tx mp v w) (t : v.1 = 1) : ∃ x : Int64, w = .long x ∧ v = (1, x.toInt) := by
  cases w with
  | int x => rw [show v = (0, x.toInt) from r] at t; cases t
  | long x => exact ⟨x, rfl, r⟩
  | null => rw [show v = (2, 0) from r] at t; cases t
  | ref q =>
    rcases r with ⟨a, h1, -⟩ | ⟨i, h1, -⟩
    · rw [h1] at t; cases t
    · rw [h1] at t; cases t
  | _ => exact r.elim
theorem VR.a {tx : Nat → Nat} {mp : Nat → Nat → Prop} {v : mV} {w : Value} (r : VR tx mp v w) (t : v.1 = 2) : (w = .null ∧ v = (2, 0)) ∨ ∃ a q : Nat, w = .ref q ∧ v = (2, (a : Int)) ∧ 1 ≤ a ∧ mp a q := by
  cases w with
  | int x => rw [show v = (0, x.toInt) from r] at t; cases t
  | long x => rw [show v = (1, x.toInt) from r] at t; cases t
  | null => exact Or.inl ⟨rfl, r⟩
  | ref q =>
    rcases r with ⟨a, h1, h2, h3⟩ | ⟨i, h1, -⟩
    · exact Or.inr ⟨a, q, rfl, h1, h2, h3⟩
    · rw [h1] at t; cases t
  | _ => exact r.elim
theorem VR.t {tx : Nat → Nat} {mp : Nat → Nat → Prop} {v : mV} {w : Value} (r : VR tx mp v w) (t : v.1 = 3) : ∃ i : Nat, w = .ref (tx i) ∧ v = (3, (i : Int)) := by
  cases w with
  | int x => rw [show v = (0, x.toInt) from r] at t; cases t
  | long x => rw [show v = (1, x.toInt) from r] at t; cases t
  | null => rw [show v = (2, 0) from r] at t; cases t
  | ref q =>
    rcases r with ⟨a, h1, h2, h3⟩ | ⟨i, h1, h2⟩
    · rw [h1] at t; cases t
    · exact ⟨i, by rw [h2], h1⟩
  | _ => exact r.elim
theorem VR.cat {tx : Nat → Nat} {mp : Nat → Nat → Prop} {v : mV} {w : Value} (r : VR tx mp v w) : w.category = bif Nat.beq v.1 1 then 2 else 1 := by
  cases w with
  | int x => rw [show v = (0, x.toInt) from r]; rfl
  | long x => rw [show v = (1, x.toInt) from r]; rfl
  | null => rw [show v = (2, 0) from r]; rfl
  | ref q =>
    rcases r with ⟨a, h1, -⟩ | ⟨i, h1, -⟩
    · rw [h1]; rfl
    · rw [h1]; rfl
  | _ => exact r.elim
theorem beq_t {a b : Nat} (h : Nat.beq a b = true) : a = b := Nat.eq_of_beq_eq_true h
theorem VR.cat1 {tx : Nat → Nat} {mp : Nat → Nat → Prop} {v : mV} {w : Value} (r : VR tx mp v w) (h : v.1 ≠ 1) : w.category = 1 := by
  rw [r.cat]
  cases e : Nat.beq v.1 1 with
  | false => rfl
  | true => exact absurd (beq_t e) h
theorem VR.n9 {tx : Nat → Nat} {mp : Nat → Nat → Prop} {v : mV} {w : Value} (r : VR tx mp v w) : v.1 ≠ 9 := by
  intro t
  cases w with
  | int x => rw [show v = (0, x.toInt) from r] at t; cases t
  | long x => rw [show v = (1, x.toInt) from r] at t; cases t
  | null => rw [show v = (2, 0) from r] at t; cases t
  | ref q =>
    rcases r with ⟨a, h1, -⟩ | ⟨i, h1, -⟩
    · rw [h1] at t; cases t
    · rw [h1] at t; cases t
  | _ => exact r.elim
/-- a stack -/
def vS (tx : Nat → Nat) (mp : Nat → Nat → Prop) : List mV → List Value → Prop
  | [], [] => True
  | v :: S, w :: st => VR tx mp v w ∧ vS tx mp S st
  | _, _ => False
theorem vS.mono {tx : Nat → Nat} {mp mp' : Nat → Nat → Prop} (h : ∀ a q, mp a q → mp' a q) : ∀ {S : List mV} {st : List Value}, vS tx mp S st → vS tx mp' S st
  | [], [], _ => trivial
  | _ :: _, _ :: _, r => ⟨r.1.mono h, r.2.mono h⟩
theorem vS.cons {tx : Nat → Nat} {mp : Nat → Nat → Prop} {v : mV} {S : List mV} {st : List Value} (r : vS tx mp (v :: S) st) : ∃ w st', st = w :: st' ∧ VR tx mp v w ∧ vS tx mp S st' := by
  cases st with
  | nil => exact r.elim
  | cons w st' => exact ⟨w, st', rfl, r.1, r.2⟩
theorem vS.nil {tx : Nat → Nat} {mp : Nat → Nat → Prop} {st : List Value} (r : vS tx mp [] st) : st = [] := by
  cases st with
  | nil => rfl
  | cons w st' => exact r.elim
theorem vS.cats {tx : Nat → Nat} {mp : Nat → Nat → Prop} : ∀ {S : List mV} {st : List Value}, vS tx mp S st → (st.map fun v => v.category).sum = mCats S
  | [], [], _ => rfl
  | v :: S, w :: st, r => by
    have h := vS.cats r.2
    simp only [List.map_cons, List.sum_cons, mCats, h, r.1.cat]
theorem vS.len {tx : Nat → Nat} {mp : Nat → Nat → Prop} : ∀ {S : List mV} {st : List Value}, vS tx mp S st → st.length = mLenL S
  | [], [], _ => rfl
  | v :: S, w :: st, r => by
    have h := vS.len r.2
    simp only [List.length_cons, mLenL, h]
theorem vS.drop {tx : Nat → Nat} {mp : Nat → Nat → Prop} : ∀ {S : List mV} {st : List Value} (n : Nat), vS tx mp S st → vS tx mp (mDrop n S) (st.drop n)
  | S, st, 0, r => by simpa [mDrop] using r
  | [], [], n + 1, _ => by simp [mDrop, vS]
  | v :: S, w :: st, n + 1, r => by simpa [mDrop] using vS.drop n r.2
theorem vS.take {tx : Nat → Nat} {mp : Nat → Nat → Prop} : ∀ {S : List mV} {st : List Value} (n : Nat), vS tx mp S st → vS tx mp (mTake n S) (st.take n)
  | S, st, 0, r => by simp [mTake, vS]
  | [], [], n + 1, _ => by simp [mTake, vS]
  | v :: S, w :: st, n + 1, r => by simpa [mTake, vS] using ⟨r.1, vS.take n r.2⟩
theorem vS.rev {tx : Nat → Nat} {mp : Nat → Nat → Prop} : ∀ {S a : List mV} {st b : List Value}, vS tx mp S st → vS tx mp a b → vS tx mp (mRevA S a) (st.reverse ++ b)
  | [], a, [], b, _, h => by simpa [mRevA] using h
  | v :: S, a, w :: st, b, r, h => by
    have h2 := vS.rev (a := v :: a) (b := w :: b) r.2 ⟨r.1, h⟩
    simpa [mRevA] using h2
/-- locals -/
theorem mGetD_set : ∀ (L : List mV) (i j : Nat) (v : mV), mGetD (mSetL L i v) j = if j = i ∧ i < mLenL L then v else mGetD L j
  | [], i, j, v => by simp [mSetL, mLenL]
  | x :: l, 0, 0, v => by simp [mSetL, mGetD, mLenL]
  | x :: l, 0, j + 1, v => by simp [mSetL, mGetD]
  | x :: l, i + 1, 0, v => by simp [mSetL, mGetD]
  | x :: l, i + 1, j + 1, v => by
    show mGetD (mSetL l i v) j = if j + 1 = i + 1 ∧ i + 1 < mLenL l + 1 then v else mGetD l j
    rw [mGetD_set l i j v]
    by_cases h : j = i ∧ i < mLenL l
    · rw [if_pos h]
      exact (if_pos ⟨by omega, by omega⟩).symm
    · rw [if_neg h]
      exact (if_neg (fun q => h ⟨by omega, by omega⟩)).symm
theorem mLenL_set : ∀ (L : List mV) (i : Nat) (v : mV), mLenL (mSetL L i v) = mLenL L
  | [], i, v => rfl
  | x :: l, 0, v => rfl
  | x :: l, i + 1, v => by simp [mSetL, mLenL, mLenL_set l i v]
theorem mPre_len (L : List mV) (i : Nat) : mLenL (mPre L i) = mLenL L := by
  cases i with
  | zero => rfl
  | succ j =>
    show mLenL (mClr L j) = mLenL L
    unfold mClr
    cases Nat.beq (mGetD L j).1 1 with
    | true => exact mLenL_set L j _
    | false => rfl
theorem mGetD_big : ∀ (L : List mV) (i : Nat), mLenL L ≤ i → mGetD L i = (9, 0)
  | [], i, _ => by cases i <;> rfl
  | x :: l, 0, h => by simp [mLenL] at h
  | x :: l, i + 1, h => by simp only [mGetD]; exact mGetD_big l i (by simp [mLenL] at h; omega)
theorem mPre_get (L : List mV) (i j : Nat) : (mGetD (mPre L i) j).1 ≠ 9 → mGetD (mPre L i) j = mGetD L j ∧ ¬ (j + 1 = i ∧ (mGetD L j).1 = 1) := by
  cases i with
  | zero => intro h; exact ⟨rfl, fun q => by omega⟩
  | succ k =>
    show (mGetD (mClr L k) j).1 ≠ 9 → mGetD (mClr L k) j = mGetD L j ∧ ¬ (j + 1 = k + 1 ∧ (mGetD L j).1 = 1)
    unfold mClr
    cases e : Nat.beq (mGetD L k).1 1 with
    | true =>
      show (mGetD (mSetL L k (9, 0)) j).1 ≠ 9 → mGetD (mSetL L k (9, 0)) j = mGetD L j ∧ _
      rw [mGetD_set]
      intro h
      by_cases q : j = k ∧ k < mLenL L
      · rw [if_pos q] at h; exact absurd rfl h
      · rw [if_neg q]
        refine ⟨rfl, fun w => q ⟨by omega, ?_⟩⟩
        have h1 := beq_t e
        rcases Nat.lt_or_ge k (mLenL L) with z | z
        · exact z
        · rw [mGetD_big L k z] at h1; cases h1
    | false =>
      intro h
      refine ⟨rfl, fun w => ?_⟩
      have : k = j := by omega
      subst this
      rw [w.2] at e
      cases e
def lr (tx : Nat → Nat) (mp : Nat → Nat → Prop) (L : List mV) (ls : Array Slot) (nL : Nat) : Prop := ls.size = nL ∧ lv_wf ls ∧ mLenL L = nL ∧ ∀ i, (mGetD L i).1 ≠ 9 → ∃ w, ls[i]? = some (.val w) ∧ VR tx mp (mGetD L i) w
theorem lr.mono {tx : Nat → Nat} {mp mp' : Nat → Nat → Prop} (h : ∀ a q, mp a q → mp' a q) {L : List mV} {ls : Array Slot} {nL : Nat} (r : lr tx mp L ls nL) : lr tx mp' L ls nL :=
  ⟨r.1, r.2.1, r.2.2.1, fun i hi => by obtain ⟨w, h1, h2⟩ := r.2.2.2 i hi; exact ⟨w, h1, h2.mono h⟩⟩
/-- all that the locals hold -/
def lvOne (i : Nat) (x : Option Slot) : Option (Nat × Value) := match x with
  | some (.val w) => some (i, w)
  | _ => none
def lvAll (ls : Array Slot) (n : Nat) : List (Nat × Value) := (List.range n).filterMap (fun i : Nat => lvOne i ls[i]?)
theorem lvAll_mem {ls : Array Slot} {n i : Nat} {w : Value} (hi : i < n) (h : ls[i]? = some (.val w)) : (i, w) ∈ lvAll ls n := by
  refine List.mem_filterMap.mpr ⟨i, List.mem_range.mpr hi, ?_⟩
  rw [h]
  rfl
theorem lvAll_has {ls : Array Slot} {nL : Nat} (h1 : ls.size = nL) (h2 : lv_wf ls) : lv_has ls nL (lvAll ls nL) := by
  refine ⟨h1, h2, fun q hq => ?_⟩
  obtain ⟨i, -, h⟩ := List.mem_filterMap.mp hq
  cases e : ls[i]? with
  | none => rw [e] at h; cases h
  | some x =>
    cases x with
    | val w => rw [e] at h; cases h; exact e
    | _ => rw [e] at h; cases h
theorem lr.st1 {tx : Nat → Nat} {mp : Nat → Nat → Prop} {L : List mV} {ls ls' : Array Slot} {nL i : Nat} {v : mV} {w : Value} (r : lr tx mp L ls nL) (hi : i < nL) (hv : VR tx mp v w)
    (h : lv_has ls' nL ((i, w) :: (lvAll ls nL).filter (fun q => !(q.1 == i) && !(q.1 + 1 == i && q.2.category == 2)))) : lr tx mp (mSt1 L i v) ls' nL := by
  obtain ⟨r1, r2, r3, r4⟩ := r
  refine ⟨h.1, h.2.1, by unfold mSt1; rw [mLenL_set, mPre_len, r3], fun j hj => ?_⟩
  unfold mSt1 at hj ⊢
  rw [mGetD_set, mPre_len, r3] at hj ⊢
  by_cases e : j = i ∧ i < nL
  · rw [if_pos e]
    refine ⟨w, ?_, hv⟩
    rw [e.1]
    exact h.2.2 (i, w) List.mem_cons_self
  · rw [if_neg e] at hj ⊢
    obtain ⟨e1, e2⟩ := mPre_get L i j hj
    rw [e1] at hj ⊢
    obtain ⟨x, h1, h2⟩ := r4 j hj
    refine ⟨x, ?_, h2⟩
    have hjn : j < nL := by rw [← r1]; exact lv_lt h1
    refine h.2.2 (j, x) (List.mem_cons_of_mem _ (List.mem_filter.mpr ⟨lvAll_mem hjn h1, ?_⟩))
    have hne : j ≠ i := fun q => e ⟨q, hi⟩
    simp only [Bool.and_eq_true, Bool.not_eq_true', beq_eq_false_iff_ne, ne_eq, Bool.and_eq_false_iff]
    refine ⟨hne, ?_⟩
    by_cases q : j + 1 = i
    · right
      intro hc
      refine e2 ⟨q, ?_⟩
      rw [h2.cat] at hc
      cases b : Nat.beq (mGetD L j).1 1 with
      | true => exact beq_t b
      | false => rw [b] at hc; cases hc
    · left
      exact q
theorem lr.st2 {tx : Nat → Nat} {mp : Nat → Nat → Prop} {L : List mV} {ls ls' : Array Slot} {nL i : Nat} {v : mV} {w : Value} (r : lr tx mp L ls nL) (hi : i + 1 < nL) (hv : VR tx mp v w)
    (h : lv_has ls' nL ((i, w) :: (lvAll ls nL).filter (fun q => !(q.1 == i) && (!(q.1 == i + 1) && !(q.1 + 1 == i && q.2.category == 2))))) : lr tx mp (mSt2 L i v) ls' nL := by
  obtain ⟨r1, r2, r3, r4⟩ := r
  refine ⟨h.1, h.2.1, by unfold mSt2; rw [mLenL_set, mLenL_set, mPre_len, r3], fun j hj => ?_⟩
  unfold mSt2 at hj ⊢
  rw [mGetD_set, mLenL_set, mPre_len, r3] at hj ⊢
  by_cases e0 : j = i + 1 ∧ i + 1 < nL
  · rw [if_pos e0] at hj; exact absurd rfl hj
  · rw [if_neg e0, mGetD_set, mPre_len, r3] at hj ⊢
    by_cases e : j = i ∧ i < nL
    · rw [if_pos e]
      refine ⟨w, ?_, hv⟩
      rw [e.1]
      exact h.2.2 (i, w) List.mem_cons_self
    · rw [if_neg e] at hj ⊢
      obtain ⟨e1, e2⟩ := mPre_get L i j hj
      rw [e1] at hj ⊢
      obtain ⟨x, h1, h2⟩ := r4 j hj
      refine ⟨x, ?_, h2⟩
      have hjn : j < nL := by rw [← r1]; exact lv_lt h1
      refine h.2.2 (j, x) (List.mem_cons_of_mem _ (List.mem_filter.mpr ⟨lvAll_mem hjn h1, ?_⟩))
      have hne : j ≠ i := fun q => e ⟨q, by omega⟩
      have hne2 : j ≠ i + 1 := fun q => e0 ⟨q, hi⟩
      simp only [Bool.and_eq_true, Bool.not_eq_true', beq_eq_false_iff_ne, ne_eq, Bool.and_eq_false_iff]
      refine ⟨hne, hne2, ?_⟩
      by_cases q : j + 1 = i
      · right
        intro hc
        refine e2 ⟨q, ?_⟩
        rw [h2.cat] at hc
        cases b : Nat.beq (mGetD L j).1 1 with
        | true => exact beq_t b
        | false => rw [b] at hc; cases hc
      · left
        exact q
/-! cells -/
def fty (c k : Nat) : FieldType := match c with
  | 0 => tyX0 k
  | 1 => tyX1 k
  | 2 => tyX2 k
  | 3 => tyX3 k
  | 4 => tyX4 k
  | 5 => tyX5 k
  | 6 => tyX6 k
  | 7 => tyX7 k
  | 8 => tyX8 k
  | 9 => tyX9 k
  | 10 => tyX10 k
  | 11 => tyX11 k
  | _ => tyX12 k
def fso (t : FieldType) : Nat := match t with
  | .object _ => 2
  | .array _ => 2
  | .boolean => 5
  | _ => 0
/-- the cell a beside an entry of the machine's world -/
def cR (tx : Nat → Nat) (mp : Nat → Nat → Prop) (tys : List (ClassId × FieldType)) (g : mH) (a : Nat) (e : va_E) : Prop := match e with
  | .inl (cA, n, .inl f) => (mLn g a = n ∧ n ≤ 100000) ∧ (∀ k, k < n → (f k).toInt = g.1 a k) ∧ ∃ (t0 : Nat) (ty : FieldType), tys[t0]? = some (cA, ty) ∧ ((mKd g a = 1 ∧ ty = .int) ∨ (mKd g a = 2 ∧ ty = .byte) ∨ (mKd g a = 3 ∧ ty = .boolean))
  | .inl (cA, n, .inr (.inl f)) => (mLn g a = n ∧ n ≤ 100000) ∧ (∀ k, k < n → (f k).toInt = g.1 a k) ∧ ∃ t0 : Nat, tys[t0]? = some (cA, .long) ∧ mKd g a = 4
  | .inl (cA, n, .inr (.inr (.inr (.inr f)))) => (mLn g a = n ∧ n ≤ 100000) ∧ (∀ k, k < n → VR tx mp (2, (g.2.1 a k : Int)) (va_rf (f k))) ∧ ∃ (t0 c : Nat) (r : vw_C), tys[t0]? = some (cA, .object r.1) ∧ vwCl[c]? = some r ∧ mKd g a = 40 + c
  | .inr (c, fs) => mKd g a = 10 + c ∧ ∃ r : vw_C, vwCl[c]? = some r ∧ fs.length = r.2.2 ∧ ∀ k, k < r.2.2 → ∃ w, fs[k]? = some w ∧ VR tx mp (mLd g a k (fso (fty c k))) w
  | _ => False
theorem mLd_congr {g g' : mH} {a : Nat} (h1 : ∀ j, g'.1 a j = g.1 a j) (h2 : ∀ j, g'.2.1 a j = g.2.1 a j) (k c : Nat) : mLd g' a k c = mLd g a k c := by
  unfold mLd
  split
  · rw [h2]
  · rw [h1]
theorem cR.congr {tx : Nat → Nat} {mp mp' : Nat → Nat → Prop} {tys tys' : List (ClassId × FieldType)} {g g' : mH} {a : Nat} {e : va_E} (hmp : ∀ a q, mp a q → mp' a q) (hty : ∀ (t : Nat) q, tys[t]? = some q → tys'[t]? = some q)
    (h1 : ∀ j, g'.1 a j = g.1 a j) (h2 : ∀ j, g'.2.1 a j = g.2.1 a j) (h3 : g'.2.2.1 a = g.2.2.1 a) (r : cR tx mp tys g a e) : cR tx mp' tys' g' a e := by
  have k1 : mKd g' a = mKd g a := by unfold mKd; rw [h3]
  have k2 : mLn g' a = mLn g a := by unfold mLn; rw [h3]
  rcases e with ⟨cA, n, f | f | f | f | f⟩ | ⟨c, fs⟩
  · obtain ⟨r1, r2, t0, ty, r3, r4⟩ := r
    exact ⟨⟨k2.trans r1.1, r1.2⟩, fun k hk => (r2 k hk).trans (h1 k).symm, t0, ty, hty _ _ r3, by rw [k1]; exact r4⟩
  · obtain ⟨r1, r2, t0, r3, r4⟩ := r
    exact ⟨⟨k2.trans r1.1, r1.2⟩, fun k hk => (r2 k hk).trans (h1 k).symm, t0, hty _ _ r3, by rw [k1]; exact r4⟩
  · exact r.elim
  · exact r.elim
  · obtain ⟨r1, r2, t0, c, r0, r3, r4, r5⟩ := r
    exact ⟨⟨k2.trans r1.1, r1.2⟩, fun k hk => by rw [h2 k]; exact (r2 k hk).mono hmp, t0, c, r0, hty _ _ r3, r4, by rw [k1]; exact r5⟩
  · obtain ⟨r1, r0, r2, r3, r4⟩ := r
    refine ⟨k1.trans r1, r0, r2, r3, fun k hk => ?_⟩
    obtain ⟨w, q1, q2⟩ := r4 k hk
    exact ⟨w, q1, by rw [mLd_congr h1 h2]; exact q2.mono hmp⟩
def Rl (tx : Nat → Nat) (mp : Nat → Nat → Prop) (tys : List (ClassId × FieldType)) (g : mH) (ws : va_W) : Prop := ∀ a, mKd g a ≠ 0 → ∃ (q i : Nat) (e : va_E), mp a q ∧ ws[i]? = some (q, e) ∧ cR tx mp tys g a e
/-- the map of cells: one to one, of the cells that are there -/
def mOk (mp : Nat → Nat → Prop) (g : mH) : Prop := (∀ a q q', mp a q → mp a q' → q = q') ∧ (∀ a a' q, mp a q → mp a' q → a = a') ∧ ∀ a q, mp a q → mKd g a ≠ 0
/-- one cell is changed -/
theorem Rl.upd {tx : Nat → Nat} {mp : Nat → Nat → Prop} {tys : List (ClassId × FieldType)} {g g' : mH} {ws : va_W} {a q i : Nat} {e0 e' : va_E} (r : Rl tx mp tys g ws) (hm : mOk mp g) (ha : mp a q) (hi : ws[i]? = some (q, e0))
    (h1 : ∀ b, b ≠ a → ∀ j, g'.1 b j = g.1 b j) (h2 : ∀ b, b ≠ a → ∀ j, g'.2.1 b j = g.2.1 b j) (h3 : ∀ b, g'.2.2.1 b = g.2.2.1 b) (hc : cR tx mp tys g' a e') : Rl tx mp tys g' (ws.set i (q, e')) := by
  intro b hb
  have hil : i < ws.length := (List.getElem?_eq_some_iff.mp hi).1
  by_cases e : b = a
  · subst e
    exact ⟨q, i, e', ha, by rw [List.getElem?_set_self hil], hc⟩
  · have hb' : mKd g b ≠ 0 := by unfold mKd at hb ⊢; rw [h3] at hb; exact hb
    obtain ⟨q2, i2, e2, p1, p2, p3⟩ := r b hb'
    have hne : i ≠ i2 := by
      intro z
      subst z
      rw [hi] at p2
      cases p2
      exact e (hm.2.1 b a q p1 ha)
    exact ⟨q2, i2, e2, p1, by rw [List.getElem?_set_ne hne]; exact p2, p3.congr (fun _ _ z => z) (fun _ _ z => z) (h1 b e) (h2 b e) (h3 b)⟩
/-- a cell is made -/
def mpN (mp : Nat → Nat → Prop) (a q : Nat) : Nat → Nat → Prop := fun b r => mp b r ∨ (b = a ∧ r = q)
theorem Rl.new {tx : Nat → Nat} {mp : Nat → Nat → Prop} {tys tys' : List (ClassId × FieldType)} {g : mH} {ws : va_W} {a q kd n : Nat} {e : va_E} (r : Rl tx mp tys g ws) (hty : ∀ (t : Nat) z, tys[t]? = some z → tys'[t]? = some z) (hc : cR tx (mpN mp a q) tys' (mNew g a kd n) a e) :
    Rl tx (mpN mp a q) tys' (mNew g a kd n) (ws ++ [(q, e)]) := by
  intro b hb
  by_cases e1 : b = a
  · subst e1
    exact ⟨q, ws.length, e, Or.inr ⟨rfl, rfl⟩, by simp, hc⟩
  · have hb' : mKd g b ≠ 0 := by
      unfold mKd mNew at hb
      unfold mKd
      simpa [e1] using hb
    obtain ⟨q2, i2, e2, p1, p2, p3⟩ := r b hb'
    have hil : i2 < ws.length := (List.getElem?_eq_some_iff.mp p2).1
    refine ⟨q2, i2, e2, Or.inl p1, by rw [List.getElem?_append_left hil]; exact p2, p3.congr (fun _ _ z => Or.inl z) hty ?_ ?_ ?_⟩
    · intro j; simp [mNew, e1]
    · intro j; simp [mNew, e1]
    · simp [mNew, e1]
theorem mOk.new {mp : Nat → Nat → Prop} {g : mH} {a q kd n : Nat} {ws : va_W} {tx : Nat → Nat} {tys : List (ClassId × FieldType)} {A : Nat → Prop} {e : va_E} (hm : mOk mp g) (r : Rl tx mp tys g ws) (ha : mKd g a = 0) (hk : kd ≠ 0) (hD : va_D A (ws ++ [(q, e)])) : mOk (mpN mp a q) (mNew g a kd n) := by
  have fr : ∀ b, ¬ mp b q := by
    intro b hb
    obtain ⟨q2, i2, e2, p1, p2, -⟩ := r b (hm.2.2 b q hb)
    cases hm.1 b q q2 hb p1
    have hil : i2 < ws.length := (List.getElem?_eq_some_iff.mp p2).1
    have := hD.1 i2 ws.length (q, e2) (q, e) (by rw [List.getElem?_append_left hil]; exact p2) (by simp) rfl
    omega
  have na : ∀ r, ¬ mp a r := fun r h => hm.2.2 a r h ha
  refine ⟨?_, ?_, ?_⟩
  · rintro b r r' (h | ⟨h1, h2⟩) (h' | ⟨h1', h2'⟩)
    · exact hm.1 b r r' h h'
    · subst h1'; exact absurd h (na _)
    · subst h1; exact absurd h' (na _)
    · rw [h2, h2']
  · rintro b b' r (h | ⟨h1, h2⟩) (h' | ⟨h1', h2'⟩)
    · exact hm.2.1 b b' r h h'
    · subst h2'; exact absurd h (fr _)
    · subst h2; exact absurd h' (fr _)
    · rw [h1, h1']
  · rintro b r (h | ⟨h1, -⟩)
    · have hb := hm.2.2 b r h
      by_cases e : b = a
      · subst e; exact absurd h (na _)
      · unfold mKd mNew; unfold mKd at hb; simpa [e] using hb
    · subst h1
      unfold mKd mNew
      simpa using hk
