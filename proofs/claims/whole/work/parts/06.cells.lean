/-! ===== steps that read and write cells ===== -/
theorem refK {tx : Nat → Nat} {mp : Nat → Nat → Prop} {g : mH} {o : mV} {w : Value} (hv : VR tx mp o w) (ho : o.1 = 2) (hk : mKd g o.2.toNat ≠ 0) (hz : mKd g 0 = 0) : ∃ a q : Nat, w = .ref q ∧ o = (2, (a : Int)) ∧ mp a q := by
  rcases hv.a ho with ⟨-, rfl⟩ | ⟨a, q, h1, h2, -, h3⟩
  · exact absurd hz hk
  · exact ⟨a, q, h1, h2, h3⟩
theorem vw_lt {c : Nat} {r : vw_C} (h : vwCl[c]? = some r) : c < 13 := by
  have := (List.getElem?_eq_some_iff.mp h).1
  exact this
theorem Rl.obj {tx : Nat → Nat} {mp : Nat → Nat → Prop} {tys : List (ClassId × FieldType)} {g : mH} {ws : va_W} {a q ci : Nat} (r : Rl tx mp tys g ws) (hm : mOk mp g) (ha : mp a q) (hk : mKd g a = 10 + ci) (hc : ci < 13) :
    ∃ (i : Nat) (fs : List Value), ws[i]? = some (q, .inr (ci, fs)) ∧ ∃ r0 : vw_C, vwCl[ci]? = some r0 ∧ fs.length = r0.2.2 ∧ ∀ k, k < r0.2.2 → ∃ w, fs[k]? = some w ∧ VR tx mp (mLd g a k (fso (fty ci k))) w := by
  obtain ⟨q2, i, e, p1, p2, p3⟩ := r a (by omega)
  cases hm.1 a q q2 ha p1
  rcases e with ⟨cA, n, f | f | f | f | f⟩ | ⟨c, fs⟩
  · obtain ⟨-, -, t0, ty, -, h⟩ := p3; omega
  · obtain ⟨-, -, t0, -, h⟩ := p3; omega
  · exact p3.elim
  · exact p3.elim
  · obtain ⟨-, -, t0, c, r0, -, -, h⟩ := p3; omega
  · obtain ⟨h1, h2⟩ := p3
    have : c = ci := by omega
    subst this
    exact ⟨i, fs, p2, h2⟩
def kTy (k : Nat) : FieldType := match k with
  | 1 => .int
  | 2 => .byte
  | _ => .boolean
theorem Rl.arrI {tx : Nat → Nat} {mp : Nat → Nat → Prop} {tys : List (ClassId × FieldType)} {g : mH} {ws : va_W} {a q kd : Nat} (r : Rl tx mp tys g ws) (hm : mOk mp g) (ha : mp a q) (hk : mKd g a = kd) (hkd : 1 ≤ kd ∧ kd ≤ 3) :
    ∃ (i : Nat) (cA : ClassId) (f : Nat → Int32) (t0 : Nat), ws[i]? = some (q, .inl (cA, mLn g a, .inl f)) ∧ tys[t0]? = some (cA, kTy kd) ∧ mLn g a ≤ 100000 ∧ ∀ k, k < mLn g a → (f k).toInt = g.1 a k := by
  obtain ⟨q2, i, e, p1, p2, p3⟩ := r a (by omega)
  cases hm.1 a q q2 ha p1
  rcases e with ⟨cA, n, f | f | f | f | f⟩ | ⟨c, fs⟩
  · obtain ⟨⟨rfl, hl⟩, h2, t0, ty, h3, h4⟩ := p3
    refine ⟨i, cA, f, t0, p2, ?_, hl, h2⟩
    rcases h4 with ⟨e1, rfl⟩ | ⟨e1, rfl⟩ | ⟨e1, rfl⟩ <;> (have e2 := hk.symm.trans e1; subst e2; exact h3)
  · obtain ⟨-, -, t0, -, h⟩ := p3; omega
  · exact p3.elim
  · exact p3.elim
  · obtain ⟨-, -, t0, c, r0, -, -, h⟩ := p3; omega
  · obtain ⟨h1, h2⟩ := p3; omega
theorem Rl.arrL {tx : Nat → Nat} {mp : Nat → Nat → Prop} {tys : List (ClassId × FieldType)} {g : mH} {ws : va_W} {a q : Nat} (r : Rl tx mp tys g ws) (hm : mOk mp g) (ha : mp a q) (hk : mKd g a = 4) :
    ∃ (i : Nat) (cA : ClassId) (f : Nat → Int64) (t0 : Nat), ws[i]? = some (q, .inl (cA, mLn g a, .inr (.inl f))) ∧ tys[t0]? = some (cA, .long) ∧ mLn g a ≤ 100000 ∧ ∀ k, k < mLn g a → (f k).toInt = g.1 a k := by
  obtain ⟨q2, i, e, p1, p2, p3⟩ := r a (by omega)
  cases hm.1 a q q2 ha p1
  rcases e with ⟨cA, n, f | f | f | f | f⟩ | ⟨c, fs⟩
  · obtain ⟨-, -, t0, ty, -, h⟩ := p3; omega
  · obtain ⟨⟨rfl, hl⟩, h2, t0, h3, h4⟩ := p3
    exact ⟨i, cA, f, t0, p2, h3, hl, h2⟩
  · exact p3.elim
  · exact p3.elim
  · obtain ⟨-, -, t0, c, r0, -, -, h⟩ := p3; omega
  · obtain ⟨h1, h2⟩ := p3; omega
theorem Rl.arrR {tx : Nat → Nat} {mp : Nat → Nat → Prop} {tys : List (ClassId × FieldType)} {g : mH} {ws : va_W} {a q ci : Nat} (r : Rl tx mp tys g ws) (hm : mOk mp g) (ha : mp a q) (hk : mKd g a = 40 + ci) :
    ∃ (i : Nat) (cA : ClassId) (f : Nat → Option Nat) (t0 : Nat) (r0 : vw_C), ws[i]? = some (q, .inl (cA, mLn g a, .inr (.inr (.inr (.inr f))))) ∧ tys[t0]? = some (cA, .object r0.1) ∧ vwCl[ci]? = some r0 ∧ mLn g a ≤ 100000 ∧ ∀ k, k < mLn g a → VR tx mp (2, (g.2.1 a k : Int)) (va_rf (f k)) := by
  obtain ⟨q2, i, e, p1, p2, p3⟩ := r a (by omega)
  cases hm.1 a q q2 ha p1
  rcases e with ⟨cA, n, f | f | f | f | f⟩ | ⟨c, fs⟩
  · obtain ⟨-, -, t0, ty, -, h⟩ := p3; omega
  · obtain ⟨-, -, t0, -, h⟩ := p3; omega
  · exact p3.elim
  · exact p3.elim
  · obtain ⟨⟨rfl, hl⟩, h2, t0, c, r0, h3, h4, h5⟩ := p3
    have : c = ci := by omega
    subst this
    exact ⟨i, cA, f, t0, r0, p2, h3, h4, hl, h2⟩
  · obtain ⟨h1, r0, h2, -⟩ := p3
    have := vw_lt h2
    omega
theorem mKd_set (g : mH) (a k : Nat) (x : Int) (b : Nat) : mKd (mSet g a k x) b = mKd g b := rfl
theorem mKd_put (g : mH) (a k x b : Nat) : mKd (mPut g a k x) b = mKd g b := rfl
theorem mOk.set {mp : Nat → Nat → Prop} {g : mH} (h : mOk mp g) (a k : Nat) (x : Int) : mOk mp (mSet g a k x) := h
theorem mOk.put {mp : Nat → Nat → Prop} {g : mH} (h : mOk mp g) (a k x : Nat) : mOk mp (mPut g a k x) := h
/-- what is left of a world behind a store -/
theorem Wd.set {tx : Nat → Nat} {D : va_G} {A : Nat → Prop} {s : State} {mp0 : Nat → Nat → Prop} {nc0 ns0 : Nat} {mp : Nat → Nat → Prop} {tys : List (ClassId × FieldType)} {g g' : mH} {ws : va_W} {H H1 : Heap} {locs locs1 : List Loc} {cells slots a q i : Nat} {e0 e' : va_E}
    (hW : Wd tx D A s mp0 nc0 ns0 mp tys g ws H locs cells slots) (ha : mp a q) (hi : ws[i]? = some (q, e0)) (h1 : ∀ b, b ≠ a → ∀ j, g'.1 b j = g.1 b j) (h2 : ∀ b, b ≠ a → ∀ j, g'.2.1 b j = g.2.1 b j) (h3 : g'.2.2 = g.2.2) (hc : cR tx mp tys g' a e')
    (hP : va_P D vwCl (ws.set i (q, e')) H1) (hD : va_D A (ws.set i (q, e'))) (hS : va_S A s.heap H1 locs1) : Wd tx D A s mp0 nc0 ns0 mp tys g' (ws.set i (q, e')) H1 locs1 cells slots := by
  obtain ⟨hm, h0, hR, -, hK, -, -, c1, c2, hz⟩ := hW
  have h3b : ∀ b, g'.2.2.1 b = g.2.2.1 b := fun b => by rw [h3]
  refine ⟨⟨hm.1, hm.2.1, fun b r hb => ?_⟩, h0, hR.upd hm ha hi h1 h2 h3b hc, hP, hK, hD, hS, by rw [h3]; exact c1, by rw [h3]; exact c2, ?_⟩
  · have := hm.2.2 b r hb
    unfold mKd at this ⊢
    rw [h3b]
    exact this
  · unfold mKd at hz ⊢
    rw [h3b]
    exact hz
section SIM
variable {p : Program} {l : Launch} {e : Env} {R : Room} {s : State} {m : MethodId} {args : Array Value} {below : List Frame} {meth : Method} {c : Code} {Q : State → Prop} {nL : Nat} {tx : Nat → Nat} {D : va_G} {A : Nat → Prop} {mp0 : Nat → Nat → Prop} {nc0 ns0 : Nat}
variable {pc n a k : Nat} {L S : List mV} {g : mH} {C : mCl} {Fp : mPost}
theorem sm_get {so : Nat} {r0 : vw_C} (hr0 : vwCl[a]? = some r0) (hk : k < r0.2.2) (hso : so = fso (fty a k)) (row : ∀ (H : Heap) (locs : List Loc) (cells slots : Nat) (ls : Array Slot) (rest : List Value) (ws : va_W) (tys : List (ClassId × FieldType)) (q0 q : Nat) (fs : List Value) (v : Value), va_K D vwCl tys s → va_P D vwCl ws H → ws[q0]? = some (q, .inr (a, fs)) → fs[k]? = some v → W p l e R s m args below meth c H locs cells slots Q (F0 m (pc + 3) ls (v :: rest)) → W p l e R s m args below meth c H locs cells slots Q (F0 m pc ls (.ref q :: rest)))
    (q : stA C Fp (Sm p l e R s m args below meth c Q nL tx D A mp0 nc0 ns0) (aGet pc L S g a k so)) : Sm p l e R s m args below meth c Q nL tx D A mp0 nc0 ns0 (pc, L, S, g) := by
  rcases S with _ | ⟨o, r⟩
  · exact (show False from q).elim
  · obtain ⟨hb, q⟩ := cnd q
    obtain ⟨hb1, hb2⟩ := and2 hb
    have hkd := beq_t hb2
    intro mp tys ws H locs cells slots ls stk hW hL hS
    obtain ⟨w, st1, rfl, hv, hT⟩ := hS.cons
    have hz := hW.2.2.2.2.2.2.2.2.2
    obtain ⟨b, z, rfl, rfl, hb3⟩ := refK hv (beq_t hb1) (by rw [hkd]; omega) hz
    obtain ⟨i, fs, p1, r1, p2, p3, p4⟩ := hW.2.2.1.obj hW.1 hb3 hkd (vw_lt hr0)
    cases hr0.symm.trans p2
    obtain ⟨x, p5, p6⟩ := p4 k hk
    refine row _ _ _ _ _ _ ws tys i z fs x hW.2.2.2.2.1 hW.2.2.2.1 p1 p5 (q mp tys ws H locs cells slots ls _ hW hL ⟨?_, hT⟩)
    rw [hso]
    exact p6
/-- a field of numbers -/
theorem sm_putI {so : Nat} {r0 : vw_C} {ok : Int32 → Prop} {P : Int → Prop} (hok : ∀ x : Int32, P x.toInt → ok x) (hr0 : vwCl[a]? = some r0) (hk : k < r0.2.2) (hso : fso (fty a k) ≠ 2) (row : ∀ (H : Heap) (locs : List Loc) (cells slots : Nat) (ls : Array Slot) (rest : List Value) (ws : va_W) (tys : List (ClassId × FieldType)) (q0 q : Nat) (fs : List Value) (x : Int32), va_K D vwCl tys s → va_P D vwCl ws H → va_D A ws → va_S A s.heap H locs → ws[q0]? = some (q, .inr (a, fs)) → k < fs.length → ok x → (∀ (H1 : Heap) (locs1 : List Loc), va_P D vwCl (ws.set q0 (q, .inr (a, fs.set k (.int x)))) H1 → va_D A (ws.set q0 (q, .inr (a, fs.set k (.int x)))) → va_S A s.heap H1 locs1 → W p l e R s m args below meth c H1 locs1 cells slots Q (F0 m (pc + 3) ls rest)) → W p l e R s m args below meth c H locs cells slots Q (F0 m pc ls (.int x :: .ref q :: rest)))
    {v o : mV} {r : List mV} (hb : (Nat.beq o.1 2 && Nat.beq (mKd g o.2.toNat) (10 + a) && Nat.beq v.1 0) = true) (hPv : P v.2) (q : Sm p l e R s m args below meth c Q nL tx D A mp0 nc0 ns0 (pc + 3, L, r, mSet g o.2.toNat k v.2)) : Sm p l e R s m args below meth c Q nL tx D A mp0 nc0 ns0 (pc, L, v :: o :: r, g) := by
  obtain ⟨hb1, hb3⟩ := and2 hb
  obtain ⟨hb1, hb2⟩ := and2 hb1
  have hkd := beq_t hb2
  intro mp tys ws H locs cells slots ls stk hW hL hS
  obtain ⟨w, st1, rfl, hv, hT⟩ := hS.cons
  obtain ⟨w2, st2, rfl, hv2, hU⟩ := hT.cons
  have hz := hW.2.2.2.2.2.2.2.2.2
  obtain ⟨x, rfl, rfl⟩ := hv.i (beq_t hb3)
  obtain ⟨b, z, rfl, rfl, hb4⟩ := refK hv2 (beq_t hb1) (by rw [hkd]; omega) hz
  obtain ⟨i, fs, p1, r1, p2, p3, p4⟩ := hW.2.2.1.obj hW.1 hb4 hkd (vw_lt hr0)
  cases hr0.symm.trans p2
  have hkd : mKd g b = 10 + a := hkd
  refine row _ _ _ _ _ _ ws tys i z fs x hW.2.2.2.2.1 hW.2.2.2.1 hW.2.2.2.2.2.1 hW.2.2.2.2.2.2.1 p1 (by omega) (hok x hPv) (fun H1 locs1 hP hD hS1 => ?_)
  refine q mp tys _ H1 locs1 cells slots ls st2 (hW.set hb4 p1 ?_ ?_ rfl ?_ hP hD hS1) hL hU
  · intro b' hb' j
    show (if b' = b ∧ j = k then _ else g.1 b' j) = g.1 b' j
    rw [if_neg (fun h => hb' h.1)]
  · intro b' hb' j
    rfl
  · refine ⟨hkd, r0, hr0, by rw [List.length_set]; exact p3, fun j hj => ?_⟩
    by_cases e : j = k
    · subst e
      refine ⟨.int x, by rw [List.getElem?_set_self (by omega)], ?_⟩
      show mLd (mSet g b j x.toInt) b j (fso (fty a j)) = (0, x.toInt)
      unfold mLd
      split
      · next h => exact absurd h hso
      · show (0, if b = b ∧ j = j then x.toInt else _) = (0, x.toInt)
        rw [if_pos ⟨rfl, rfl⟩]
    · obtain ⟨y, p5, p6⟩ := p4 j hj
      refine ⟨y, by rw [List.getElem?_set_ne (fun h => e h.symm)]; exact p5, ?_⟩
      have : mLd (mSet g b k x.toInt) b j (fso (fty a j)) = mLd g b j (fso (fty a j)) := by
        unfold mLd
        split
        · rfl
        · show (0, if b = b ∧ j = k then x.toInt else g.1 b j) = (0, g.1 b j)
          rw [if_neg (fun h => e h.2)]
      show VR tx mp (mLd (mSet g b k x.toInt) b j (fso (fty a j))) y
      rw [this]
      exact p6
/-- a field of references -/
theorem sm_putR {r0 : vw_C} (hr0 : vwCl[a]? = some r0) (hk : k < r0.2.2) (hso : fso (fty a k) = 2) (row : ∀ (H : Heap) (locs : List Loc) (cells slots : Nat) (ls : Array Slot) (rest : List Value) (ws : va_W) (tys : List (ClassId × FieldType)) (q0 q : Nat) (fs : List Value) (x : Value), va_K D vwCl tys s → va_P D vwCl ws H → va_D A ws → va_S A s.heap H locs → ws[q0]? = some (q, .inr (a, fs)) → k < fs.length → (x = .null ∨ ∃ z, x = .ref z) → (∀ (H1 : Heap) (locs1 : List Loc), va_P D vwCl (ws.set q0 (q, .inr (a, fs.set k x))) H1 → va_D A (ws.set q0 (q, .inr (a, fs.set k x))) → va_S A s.heap H1 locs1 → W p l e R s m args below meth c H1 locs1 cells slots Q (F0 m (pc + 3) ls rest)) → W p l e R s m args below meth c H locs cells slots Q (F0 m pc ls (x :: .ref q :: rest)))
    {v o : mV} {r : List mV} (hb : (Nat.beq o.1 2 && Nat.beq (mKd g o.2.toNat) (10 + a) && Nat.beq v.1 2) = true) (q : Sm p l e R s m args below meth c Q nL tx D A mp0 nc0 ns0 (pc + 3, L, r, mPut g o.2.toNat k v.2.toNat)) : Sm p l e R s m args below meth c Q nL tx D A mp0 nc0 ns0 (pc, L, v :: o :: r, g) := by
  obtain ⟨hb1, hb3⟩ := and2 hb
  obtain ⟨hb1, hb2⟩ := and2 hb1
  have hkd := beq_t hb2
  intro mp tys ws H locs cells slots ls stk hW hL hS
  obtain ⟨w, st1, rfl, hv, hT⟩ := hS.cons
  obtain ⟨w2, st2, rfl, hv2, hU⟩ := hT.cons
  have hz := hW.2.2.2.2.2.2.2.2.2
  obtain ⟨b, z, rfl, rfl, hb4⟩ := refK hv2 (beq_t hb1) (by rw [hkd]; omega) hz
  obtain ⟨i, fs, p1, r1, p2, p3, p4⟩ := hW.2.2.1.obj hW.1 hb4 hkd (vw_lt hr0)
  cases hr0.symm.trans p2
  have hkd : mKd g b = 10 + a := hkd
  have hvv : (2, ((v.2.toNat : Nat) : Int)) = v := by
    rcases hv.a (beq_t hb3) with ⟨-, rfl⟩ | ⟨y, z, -, rfl, -⟩ <;> rfl
  have hw : w = .null ∨ ∃ z, w = .ref z := by
    rcases hv.a (beq_t hb3) with ⟨h, -⟩ | ⟨y, z, h, -⟩
    · exact Or.inl h
    · exact Or.inr ⟨z, h⟩
  refine row _ _ _ _ _ _ ws tys i z fs w hW.2.2.2.2.1 hW.2.2.2.1 hW.2.2.2.2.2.1 hW.2.2.2.2.2.2.1 p1 (by omega) hw (fun H1 locs1 hP hD hS1 => ?_)
  refine q mp tys _ H1 locs1 cells slots ls st2 (hW.set hb4 p1 ?_ ?_ rfl ?_ hP hD hS1) hL hU
  · intro b' hb' j
    rfl
  · intro b' hb' j
    show (if b' = b ∧ j = k then _ else g.2.1 b' j) = g.2.1 b' j
    rw [if_neg (fun h => hb' h.1)]
  · refine ⟨hkd, r0, hr0, by rw [List.length_set]; exact p3, fun j hj => ?_⟩
    by_cases e : j = k
    · subst e
      refine ⟨w, by rw [List.getElem?_set_self (by omega)], ?_⟩
      have : mLd (mPut g b j v.2.toNat) b j (fso (fty a j)) = v := by
        rw [hso]
        show (2, ((if b = b ∧ j = j then v.2.toNat else _ : Nat) : Int)) = v
        rw [if_pos ⟨rfl, rfl⟩]
        exact hvv
      show VR tx mp (mLd (mPut g b j v.2.toNat) b j (fso (fty a j))) w
      rw [this]
      exact hv
    · obtain ⟨y, p5, p6⟩ := p4 j hj
      refine ⟨y, by rw [List.getElem?_set_ne (fun h => e h.symm)]; exact p5, ?_⟩
      have : mLd (mPut g b k v.2.toNat) b j (fso (fty a j)) = mLd g b j (fso (fty a j)) := by
        unfold mLd
        split
        · show (2, ((if b = b ∧ j = k then v.2.toNat else g.2.1 b j : Nat) : Int)) = (2, ((g.2.1 b j : Nat) : Int))
          rw [if_neg (fun h => e h.2)]
        · rfl
      show VR tx mp (mLd (mPut g b k v.2.toNat) b j (fso (fty a j))) y
      rw [this]
      exact p6
theorem ix_in {x : Int32} {N : Nat} (h : 0 ≤ x.toInt ∧ x.toInt < N) : vp_in x N := vp_in_iff.mpr h
theorem sm_rdI {kd : Nat} (hkd1 : 1 ≤ kd ∧ kd ≤ 3) (row : ∀ (H : Heap) (locs : List Loc) (cells slots : Nat) (ls : Array Slot) (rest : List Value) (ws : va_W) (tys : List (ClassId × FieldType)) (q0 t0 q N : Nat) (cA : ClassId) (f : Nat → Int32) (i : Int32), va_K D vwCl tys s → va_P D vwCl ws H → ws[q0]? = some (q, .inl (cA, N, .inl f)) → tys[t0]? = some (cA, kTy kd) → vp_in i N → W p l e R s m args below meth c H locs cells slots Q (F0 m (pc + 1) ls (.int (f i.toNatClampNeg) :: rest)) → W p l e R s m args below meth c H locs cells slots Q (F0 m pc ls (.int i :: .ref q :: rest)))
    (q : stA C Fp (Sm p l e R s m args below meth c Q nL tx D A mp0 nc0 ns0) (aRd pc L S g kd 0)) : Sm p l e R s m args below meth c Q nL tx D A mp0 nc0 ns0 (pc, L, S, g) := by
  rcases S with _ | ⟨ix, _ | ⟨o, r⟩⟩
  · exact (show False from q).elim
  · exact (show False from q).elim
  · obtain ⟨hb, hin, q⟩ := cnd q
    obtain ⟨hb1, hb3⟩ := and2 hb
    obtain ⟨hb1, hb2⟩ := and2 hb1
    have hkd := beq_t hb3
    intro mp tys ws H locs cells slots ls stk hW hL hS
    obtain ⟨w, st1, rfl, hv, hT⟩ := hS.cons
    obtain ⟨w2, st2, rfl, hv2, hU⟩ := hT.cons
    have hz := hW.2.2.2.2.2.2.2.2.2
    obtain ⟨x, rfl, rfl⟩ := hv.i (beq_t hb1)
    obtain ⟨b, z, rfl, rfl, hb4⟩ := refK hv2 (beq_t hb2) (by rw [hkd]; omega) hz
    have hkd : mKd g b = kd := hkd
    have hin : 0 ≤ x.toInt ∧ x.toInt < (mLn g b : Int) := hin
    obtain ⟨i, cA, f, t0, p1, p2, p3, p4⟩ := hW.2.2.1.arrI hW.1 hb4 hkd hkd1
    refine row _ _ _ _ _ _ ws tys i t0 z _ cA f x hW.2.2.2.2.1 hW.2.2.2.1 p1 p2 (ix_in hin) (q mp tys ws H locs cells slots ls _ hW hL ⟨?_, hU⟩)
    show (0, g.1 b x.toInt.toNat) = (0, (f x.toInt.toNat).toInt)
    rw [p4 _ (show x.toInt.toNat < mLn g b by omega)]
theorem sm_rdL (row : ∀ (H : Heap) (locs : List Loc) (cells slots : Nat) (ls : Array Slot) (rest : List Value) (ws : va_W) (tys : List (ClassId × FieldType)) (q0 t0 q N : Nat) (cA : ClassId) (f : Nat → Int64) (i : Int32), va_K D vwCl tys s → va_P D vwCl ws H → ws[q0]? = some (q, .inl (cA, N, .inr (.inl f))) → tys[t0]? = some (cA, .long) → vp_in i N → W p l e R s m args below meth c H locs cells slots Q (F0 m (pc + 1) ls (.long (f i.toNatClampNeg) :: rest)) → W p l e R s m args below meth c H locs cells slots Q (F0 m pc ls (.int i :: .ref q :: rest)))
    (q : stA C Fp (Sm p l e R s m args below meth c Q nL tx D A mp0 nc0 ns0) (aRd pc L S g 4 1)) : Sm p l e R s m args below meth c Q nL tx D A mp0 nc0 ns0 (pc, L, S, g) := by
  rcases S with _ | ⟨ix, _ | ⟨o, r⟩⟩
  · exact (show False from q).elim
  · exact (show False from q).elim
  · obtain ⟨hb, hin, q⟩ := cnd q
    obtain ⟨hb1, hb3⟩ := and2 hb
    obtain ⟨hb1, hb2⟩ := and2 hb1
    have hkd := beq_t hb3
    intro mp tys ws H locs cells slots ls stk hW hL hS
    obtain ⟨w, st1, rfl, hv, hT⟩ := hS.cons
    obtain ⟨w2, st2, rfl, hv2, hU⟩ := hT.cons
    have hz := hW.2.2.2.2.2.2.2.2.2
    obtain ⟨x, rfl, rfl⟩ := hv.i (beq_t hb1)
    obtain ⟨b, z, rfl, rfl, hb4⟩ := refK hv2 (beq_t hb2) (by rw [hkd]; omega) hz
    have hkd : mKd g b = 4 := hkd
    have hin : 0 ≤ x.toInt ∧ x.toInt < (mLn g b : Int) := hin
    obtain ⟨i, cA, f, t0, p1, p2, p3, p4⟩ := hW.2.2.1.arrL hW.1 hb4 hkd
    refine row _ _ _ _ _ _ ws tys i t0 z _ cA f x hW.2.2.2.2.1 hW.2.2.2.1 p1 p2 (ix_in hin) (q mp tys ws H locs cells slots ls _ hW hL ⟨?_, hU⟩)
    show (1, g.1 b x.toInt.toNat) = (1, (f x.toInt.toNat).toInt)
    rw [p4 _ (show x.toInt.toNat < mLn g b by omega)]
theorem sm_rdR (row : ∀ (H : Heap) (locs : List Loc) (cells slots : Nat) (ls : Array Slot) (rest : List Value) (ws : va_W) (tys : List (ClassId × FieldType)) (q0 t0 q N : Nat) (cA : ClassId) (r0 : vw_C) (f : Nat → Option Nat) (i : Int32), va_K D vwCl tys s → va_P D vwCl ws H → ws[q0]? = some (q, .inl (cA, N, .inr (.inr (.inr (.inr f))))) → tys[t0]? = some (cA, .object r0.1) → vp_in i N → W p l e R s m args below meth c H locs cells slots Q (F0 m (pc + 1) ls (va_rf (f i.toNatClampNeg) :: rest)) → W p l e R s m args below meth c H locs cells slots Q (F0 m pc ls (.int i :: .ref q :: rest)))
    (q : stA C Fp (Sm p l e R s m args below meth c Q nL tx D A mp0 nc0 ns0) (aRdR pc L S g (40 + a))) : Sm p l e R s m args below meth c Q nL tx D A mp0 nc0 ns0 (pc, L, S, g) := by
  rcases S with _ | ⟨ix, _ | ⟨o, r⟩⟩
  · exact (show False from q).elim
  · exact (show False from q).elim
  · obtain ⟨hb, hin, q⟩ := cnd q
    obtain ⟨hb1, hb3⟩ := and2 hb
    obtain ⟨hb1, hb2⟩ := and2 hb1
    have hkd := beq_t hb3
    intro mp tys ws H locs cells slots ls stk hW hL hS
    obtain ⟨w, st1, rfl, hv, hT⟩ := hS.cons
    obtain ⟨w2, st2, rfl, hv2, hU⟩ := hT.cons
    have hz := hW.2.2.2.2.2.2.2.2.2
    obtain ⟨x, rfl, rfl⟩ := hv.i (beq_t hb1)
    obtain ⟨b, z, rfl, rfl, hb4⟩ := refK hv2 (beq_t hb2) (by rw [hkd]; omega) hz
    have hkd : mKd g b = 40 + a := hkd
    have hin : 0 ≤ x.toInt ∧ x.toInt < (mLn g b : Int) := hin
    obtain ⟨i, cA, f, t0, r0, p1, p2, p2b, p3, p4⟩ := hW.2.2.1.arrR hW.1 hb4 hkd
    exact row _ _ _ _ _ _ ws tys i t0 z _ cA r0 f x hW.2.2.2.2.1 hW.2.2.2.1 p1 p2 (ix_in hin) (q mp tys ws H locs cells slots ls _ hW hL ⟨p4 _ (show x.toInt.toNat < mLn g b by omega), hU⟩)
theorem sm_wrI {kd : Nat} {P : Int → Prop} {F : Int → Int} {f8 : Int32 → Int32} (hf : ∀ x : Int32, P x.toInt → (f8 x).toInt = F x.toInt) (hkd1 : 1 ≤ kd ∧ kd ≤ 3) (row : ∀ (H : Heap) (locs : List Loc) (cells slots : Nat) (ls : Array Slot) (rest : List Value) (ws : va_W) (tys : List (ClassId × FieldType)) (q0 t0 q N : Nat) (cA : ClassId) (f : Nat → Int32) (i x : Int32), va_K D vwCl tys s → va_P D vwCl ws H → va_D A ws → va_S A s.heap H locs → ws[q0]? = some (q, .inl (cA, N, .inl f)) → tys[t0]? = some (cA, kTy kd) → vp_in i N → (∀ (H1 : Heap) (locs1 : List Loc), va_P D vwCl (ws.set q0 (q, .inl (cA, N, .inl (upd f i.toNatClampNeg (f8 x))))) H1 → va_D A (ws.set q0 (q, .inl (cA, N, .inl (upd f i.toNatClampNeg (f8 x))))) → va_S A s.heap H1 locs1 → W p l e R s m args below meth c H1 locs1 cells slots Q (F0 m (pc + 1) ls rest)) → W p l e R s m args below meth c H locs cells slots Q (F0 m pc ls (.int x :: .int i :: .ref q :: rest)))
    (q : stA C Fp (Sm p l e R s m args below meth c Q nL tx D A mp0 nc0 ns0) (aWr pc L S g kd 0 P F)) : Sm p l e R s m args below meth c Q nL tx D A mp0 nc0 ns0 (pc, L, S, g) := by
  rcases S with _ | ⟨v, _ | ⟨ix, _ | ⟨o, r⟩⟩⟩
  · exact (show False from q).elim
  · exact (show False from q).elim
  · exact (show False from q).elim
  · obtain ⟨hb, hin, q⟩ := cnd q
    obtain ⟨hb1, hb3⟩ := and2 hb
    obtain ⟨hb1, hb2⟩ := and2 hb1
    obtain ⟨hb0, hb1⟩ := and2 hb1
    have hkd := beq_t hb3
    intro mp tys ws H locs cells slots ls stk hW hL hS
    obtain ⟨w0, st0, rfl, hv0, hS0⟩ := hS.cons
    obtain ⟨w, st1, rfl, hv, hT⟩ := hS0.cons
    obtain ⟨w2, st2, rfl, hv2, hU⟩ := hT.cons
    have hz := hW.2.2.2.2.2.2.2.2.2
    obtain ⟨y, rfl, rfl⟩ := hv0.i (beq_t hb0)
    obtain ⟨x, rfl, rfl⟩ := hv.i (beq_t hb1)
    obtain ⟨b, z, rfl, rfl, hb4⟩ := refK hv2 (beq_t hb2) (by rw [hkd]; omega) hz
    have hkd : mKd g b = kd := hkd
    have hin : 0 ≤ x.toInt ∧ x.toInt < (mLn g b : Int) ∧ P y.toInt := hin
    obtain ⟨i, cA, f, t0, p1, p2, p3, p4⟩ := hW.2.2.1.arrI hW.1 hb4 hkd hkd1
    refine row _ _ _ _ _ _ ws tys i t0 z _ cA f x y hW.2.2.2.2.1 hW.2.2.2.1 hW.2.2.2.2.2.1 hW.2.2.2.2.2.2.1 p1 p2 (ix_in ⟨hin.1, hin.2.1⟩) (fun H1 locs1 hP hD hS1 => ?_)
    refine q mp tys _ H1 locs1 cells slots ls st2 (hW.set hb4 p1 ?_ ?_ rfl ?_ hP hD hS1) hL hU
    · intro b' hb' j
      show (if b' = b ∧ j = x.toInt.toNat then _ else g.1 b' j) = g.1 b' j
      rw [if_neg (fun h => hb' h.1)]
    · intro b' hb' j
      rfl
    · refine ⟨⟨rfl, p3⟩, fun j hj => ?_, t0, kTy kd, p2, ?_⟩
      · show (if j = x.toInt.toNat then f8 y else f j).toInt = (if b = b ∧ j = x.toInt.toNat then F y.toInt else g.1 b j)
        by_cases e : j = x.toInt.toNat
        · rw [if_pos e, if_pos ⟨rfl, e⟩, hf y hin.2.2]
        · rw [if_neg e, if_neg (fun h => e h.2)]; exact p4 j hj
      · show (mKd g b = 1 ∧ _) ∨ (mKd g b = 2 ∧ _) ∨ (mKd g b = 3 ∧ _)
        rw [hkd]
        rcases (show kd = 1 ∨ kd = 2 ∨ kd = 3 by omega) with rfl | rfl | rfl
        · exact Or.inl ⟨rfl, rfl⟩
        · exact Or.inr (Or.inl ⟨rfl, rfl⟩)
        · exact Or.inr (Or.inr ⟨rfl, rfl⟩)
theorem sm_wrL (row : ∀ (H : Heap) (locs : List Loc) (cells slots : Nat) (ls : Array Slot) (rest : List Value) (ws : va_W) (tys : List (ClassId × FieldType)) (q0 t0 q N : Nat) (cA : ClassId) (f : Nat → Int64) (i : Int32) (x : Int64), va_K D vwCl tys s → va_P D vwCl ws H → va_D A ws → va_S A s.heap H locs → ws[q0]? = some (q, .inl (cA, N, .inr (.inl f))) → tys[t0]? = some (cA, .long) → vp_in i N → (∀ (H1 : Heap) (locs1 : List Loc), va_P D vwCl (ws.set q0 (q, .inl (cA, N, .inr (.inl (vp_updL f i.toNatClampNeg x))))) H1 → va_D A (ws.set q0 (q, .inl (cA, N, .inr (.inl (vp_updL f i.toNatClampNeg x))))) → va_S A s.heap H1 locs1 → W p l e R s m args below meth c H1 locs1 cells slots Q (F0 m (pc + 1) ls rest)) → W p l e R s m args below meth c H locs cells slots Q (F0 m pc ls (.long x :: .int i :: .ref q :: rest)))
    (q : stA C Fp (Sm p l e R s m args below meth c Q nL tx D A mp0 nc0 ns0) (aWr pc L S g 4 1 (fun _ => True) (fun x => x))) : Sm p l e R s m args below meth c Q nL tx D A mp0 nc0 ns0 (pc, L, S, g) := by
  rcases S with _ | ⟨v, _ | ⟨ix, _ | ⟨o, r⟩⟩⟩
  · exact (show False from q).elim
  · exact (show False from q).elim
  · exact (show False from q).elim
  · obtain ⟨hb, hin, q⟩ := cnd q
    obtain ⟨hb1, hb3⟩ := and2 hb
    obtain ⟨hb1, hb2⟩ := and2 hb1
    obtain ⟨hb0, hb1⟩ := and2 hb1
    have hkd := beq_t hb3
    intro mp tys ws H locs cells slots ls stk hW hL hS
    obtain ⟨w0, st0, rfl, hv0, hS0⟩ := hS.cons
    obtain ⟨w, st1, rfl, hv, hT⟩ := hS0.cons
    obtain ⟨w2, st2, rfl, hv2, hU⟩ := hT.cons
    have hz := hW.2.2.2.2.2.2.2.2.2
    obtain ⟨y, rfl, rfl⟩ := hv0.l (beq_t hb0)
    obtain ⟨x, rfl, rfl⟩ := hv.i (beq_t hb1)
    obtain ⟨b, z, rfl, rfl, hb4⟩ := refK hv2 (beq_t hb2) (by rw [hkd]; omega) hz
    have hkd : mKd g b = 4 := hkd
    have hin : 0 ≤ x.toInt ∧ x.toInt < (mLn g b : Int) ∧ True := hin
    obtain ⟨i, cA, f, t0, p1, p2, p3, p4⟩ := hW.2.2.1.arrL hW.1 hb4 hkd
    refine row _ _ _ _ _ _ ws tys i t0 z _ cA f x y hW.2.2.2.2.1 hW.2.2.2.1 hW.2.2.2.2.2.1 hW.2.2.2.2.2.2.1 p1 p2 (ix_in ⟨hin.1, hin.2.1⟩) (fun H1 locs1 hP hD hS1 => ?_)
    refine q mp tys _ H1 locs1 cells slots ls st2 (hW.set hb4 p1 ?_ ?_ rfl ?_ hP hD hS1) hL hU
    · intro b' hb' j
      show (if b' = b ∧ j = x.toInt.toNat then _ else g.1 b' j) = g.1 b' j
      rw [if_neg (fun h => hb' h.1)]
    · intro b' hb' j
      rfl
    · refine ⟨⟨rfl, p3⟩, fun j hj => ?_, t0, p2, hkd⟩
      show (if j = x.toInt.toNat then y else f j).toInt = (if b = b ∧ j = x.toInt.toNat then y.toInt else g.1 b j)
      by_cases e : j = x.toInt.toNat
      · rw [if_pos e, if_pos ⟨rfl, e⟩]
      · rw [if_neg e, if_neg (fun h => e h.2)]; exact p4 j hj
theorem sm_wrR (row : ∀ (H : Heap) (locs : List Loc) (cells slots : Nat) (ls : Array Slot) (rest : List Value) (ws : va_W) (tys : List (ClassId × FieldType)) (q0 t0 qk q N v : Nat) (cA : ClassId) (r0 : vw_C) (vs : List Value) (f : Nat → Option Nat) (i : Int32), va_K D vwCl tys s → va_P D vwCl ws H → va_D A ws → va_S A s.heap H locs → ws[q0]? = some (q, .inl (cA, N, .inr (.inr (.inr (.inr f))))) → tys[t0]? = some (cA, .object r0.1) → ws[qk]? = some (v, .inr (a, vs)) → vwCl[a]? = some r0 → vp_in i N → (∀ (H1 : Heap) (locs1 : List Loc), va_P D vwCl (ws.set q0 (q, .inl (cA, N, .inr (.inr (.inr (.inr (va_up f i.toNatClampNeg (some v)))))))) H1 → va_D A (ws.set q0 (q, .inl (cA, N, .inr (.inr (.inr (.inr (va_up f i.toNatClampNeg (some v)))))))) → va_S A s.heap H1 locs1 → W p l e R s m args below meth c H1 locs1 cells slots Q (F0 m (pc + 1) ls rest)) → W p l e R s m args below meth c H locs cells slots Q (F0 m pc ls (.ref v :: .int i :: .ref q :: rest)))
    (q : stA C Fp (Sm p l e R s m args below meth c Q nL tx D A mp0 nc0 ns0) (aWrR pc L S g a)) : Sm p l e R s m args below meth c Q nL tx D A mp0 nc0 ns0 (pc, L, S, g) := by
  rcases S with _ | ⟨v, _ | ⟨ix, _ | ⟨o, r⟩⟩⟩
  · exact (show False from q).elim
  · exact (show False from q).elim
  · exact (show False from q).elim
  · obtain ⟨hb, hin, q⟩ := cnd q
    obtain ⟨hb, hb4⟩ := and2 hb
    obtain ⟨hb, hb3⟩ := and2 hb
    obtain ⟨hb, hb2⟩ := and2 hb
    obtain ⟨hb0, hb1⟩ := and2 hb
    have hkd := beq_t hb4
    have hkv := beq_t hb1
    intro mp tys ws H locs cells slots ls stk hW hL hS
    obtain ⟨w0, st0, rfl, hv0, hS0⟩ := hS.cons
    obtain ⟨w, st1, rfl, hv, hT⟩ := hS0.cons
    obtain ⟨w2, st2, rfl, hv2, hU⟩ := hT.cons
    have hz := hW.2.2.2.2.2.2.2.2.2
    obtain ⟨x, rfl, rfl⟩ := hv.i (beq_t hb2)
    obtain ⟨b, z, rfl, rfl, hbz⟩ := refK hv2 (beq_t hb3) (by rw [hkd]; omega) hz
    obtain ⟨d, u, rfl, rfl, hdu⟩ := refK hv0 (beq_t hb0) (by rw [hkv]; omega) hz
    have hkd : mKd g b = 40 + a := hkd
    have hkv : mKd g d = 10 + a := hkv
    have hin : 0 ≤ x.toInt ∧ x.toInt < (mLn g b : Int) := hin
    obtain ⟨i, cA, f, t0, r0, p1, p2, p2b, p3, p4⟩ := hW.2.2.1.arrR hW.1 hbz hkd
    obtain ⟨iv, fs, o1, -⟩ := hW.2.2.1.obj hW.1 hdu hkv (vw_lt p2b)
    refine row _ _ _ _ _ _ ws tys i t0 iv z _ u cA r0 fs f x hW.2.2.2.2.1 hW.2.2.2.1 hW.2.2.2.2.2.1 hW.2.2.2.2.2.2.1 p1 p2 o1 p2b (ix_in hin) (fun H1 locs1 hP hD hS1 => ?_)
    refine q mp tys _ H1 locs1 cells slots ls st2 (hW.set hbz p1 ?_ ?_ rfl ?_ hP hD hS1) hL hU
    · intro b' hb' j
      rfl
    · intro b' hb' j
      show (if b' = b ∧ j = x.toInt.toNat then _ else g.2.1 b' j) = g.2.1 b' j
      rw [if_neg (fun h => hb' h.1)]
    · refine ⟨⟨rfl, p3⟩, fun j hj => ?_, t0, a, r0, p2, p2b, hkd⟩
      show VR tx mp (2, ((if b = b ∧ j = x.toInt.toNat then ((d : Int)).toNat else g.2.1 b j : Nat) : Int)) (va_rf (if j = x.toInt.toNat then some u else f j))
      by_cases e : j = x.toInt.toNat
      · rw [if_pos e, if_pos ⟨rfl, e⟩]
        exact hv0
      · rw [if_neg e, if_neg (fun h => e h.2)]; exact p4 j hj
theorem sm_len (row : ∀ (H : Heap) (locs : List Loc) (cells slots : Nat) (ls : Array Slot) (rest : List Value) (ws : va_W) (tys : List (ClassId × FieldType)) (q0 t0 q : Nat) (cA : ClassId) (x : vp_A) (ty : FieldType), va_K D vwCl tys s → va_P D vwCl ws H → ws[q0]? = some (q, .inl (cA, x)) → tys[t0]? = some (cA, ty) → W p l e R s m args below meth c H locs cells slots Q (F0 m (pc + 1) ls (.int (Int32.ofNat x.1) :: rest)) → W p l e R s m args below meth c H locs cells slots Q (F0 m pc ls (.ref q :: rest)))
    (q : stA C Fp (Sm p l e R s m args below meth c Q nL tx D A mp0 nc0 ns0) (aLen pc L S g)) : Sm p l e R s m args below meth c Q nL tx D A mp0 nc0 ns0 (pc, L, S, g) := by
  rcases S with _ | ⟨o, r⟩
  · exact (show False from q).elim
  · obtain ⟨hb, q⟩ := cnd q
    obtain ⟨hb1, hb2⟩ := and2 hb
    have hkd : (1 ≤ mKd g o.2.toNat ∧ mKd g o.2.toNat ≤ 4) ∨ 40 ≤ mKd g o.2.toNat := by
      rcases Bool.or_eq_true _ _ |>.mp hb2 with h | h
      · obtain ⟨h1, h2⟩ := and2 h
        exact Or.inl ⟨Nat.le_of_ble_eq_true h1, Nat.le_of_ble_eq_true h2⟩
      · exact Or.inr (Nat.le_of_ble_eq_true h)
    intro mp tys ws H locs cells slots ls stk hW hL hS
    obtain ⟨w, st1, rfl, hv, hT⟩ := hS.cons
    have hz := hW.2.2.2.2.2.2.2.2.2
    obtain ⟨b, z, rfl, rfl, hb3⟩ := refK hv (beq_t hb1) (by omega) hz
    have hkd : (1 ≤ mKd g b ∧ mKd g b ≤ 4) ∨ 40 ≤ mKd g b := hkd
    obtain ⟨q2, i, e, p1, p2, p3⟩ := hW.2.2.1 b (by omega)
    cases hW.1.1 b z q2 hb3 p1
    have fin : ∀ {N : Nat}, mLn g b = N → N ≤ 100000 → VR tx mp (0, (mLn g b : Int)) (.int (Int32.ofNat N)) := by
      intro N h1 h2
      show (0, (mLn g b : Int)) = (0, (nI N).toInt)
      rw [h1, nI_toInt (by omega)]
    rcases e with ⟨cA, N, f | f | f | f | f⟩ | ⟨c2, fs⟩
    · obtain ⟨⟨h1, h2⟩, -, t0, ty, h3, -⟩ := p3
      exact row _ _ _ _ _ _ ws tys i t0 z cA _ ty hW.2.2.2.2.1 hW.2.2.2.1 p2 h3 (q mp tys ws H locs cells slots ls _ hW hL ⟨fin h1 h2, hT⟩)
    · obtain ⟨⟨h1, h2⟩, -, t0, h3, -⟩ := p3
      exact row _ _ _ _ _ _ ws tys i t0 z cA _ _ hW.2.2.2.2.1 hW.2.2.2.1 p2 h3 (q mp tys ws H locs cells slots ls _ hW hL ⟨fin h1 h2, hT⟩)
    · exact p3.elim
    · exact p3.elim
    · obtain ⟨⟨h1, h2⟩, -, t0, c3, r0, h3, -⟩ := p3
      exact row _ _ _ _ _ _ ws tys i t0 z cA _ _ hW.2.2.2.2.1 hW.2.2.2.1 p2 h3 (q mp tys ws H locs cells slots ls _ hW hL ⟨fin h1 h2, hT⟩)
    · obtain ⟨h1, r0, h2, -⟩ := p3
      have := vw_lt h2
      omega
end SIM
