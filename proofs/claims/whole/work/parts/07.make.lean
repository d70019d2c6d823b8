/-! ===== steps that make cells, members of the library, ends ===== -/
/-- no fewer cells and slots were made -/
def gl (g h : mH) : Prop := g.2.2.2.1 ≤ h.2.2.2.1 ∧ g.2.2.2.2 ≤ h.2.2.2.2
theorem Wd.new {tx : Nat → Nat} {D : va_G} {A : Nat → Prop} {s : State} {mp0 : Nat → Nat → Prop} {nc0 ns0 : Nat} {mp : Nat → Nat → Prop} {tys tys' : List (ClassId × FieldType)} {g : mH} {ws : va_W} {H H1 : Heap} {locs : List Loc} {cells slots b q kd N : Nat} {e : va_E}
    (hW : Wd tx D A s mp0 nc0 ns0 mp tys g ws H locs cells slots) (hb : mKd g b = 0) (hb1 : 1 ≤ b) (hk : kd ≠ 0) (hty : ∀ (t : Nat) z, tys[t]? = some z → tys'[t]? = some z) (hc : cR tx (mpN mp b q) tys' (mNew g b kd N) b e)
    (hK : va_K D vwCl tys' s) (hP : va_P D vwCl (ws ++ [(q, e)]) H1) (hD : va_D A (ws ++ [(q, e)])) (hS : va_S A s.heap H1 locs) : Wd tx D A s mp0 nc0 ns0 (mpN mp b q) tys' (mNew g b kd N) (ws ++ [(q, e)]) H1 locs (cells + 1) (slots + N) := by
  obtain ⟨hm, h0, hR, -, -, -, -, c1, c2, hz⟩ := hW
  refine ⟨hm.new hR hb hk hD, fun a r h => Or.inl (h0 a r h), hR.new hty hc, hP, hK, hD, hS, ?_, ?_, ?_⟩
  · show g.2.2.2.1 + 1 = _
    omega
  · show g.2.2.2.2 + N = _
    omega
  · show ((if (0 : Nat) = b then (kd, N) else g.2.2.1 0)).1 = 0
    rw [if_neg (by omega)]
    exact hz
section SIM
variable {p : Program} {l : Launch} {e : Env} {R : Room} {s : State} {m : MethodId} {args : Array Value} {below : List Frame} {meth : Method} {c : Code} {Q : State → Prop} {nL : Nat} {tx : Nat → Nat} {D : va_G} {A : Nat → Prop} {mp0 : Nat → Nat → Prop} {nc0 ns0 : Nat}
variable {pc n a k : Nat} {L S : List mV} {g u : mH} {C : mCl} {Fp : mPost}
theorem sm_newA {kd : Nat} {ty : FieldType} {a0 : Nat → vp_A} (hkd : kd ≠ 0) (hu : u.2.2.2.1 = nc0 + R.cells ∧ u.2.2.2.2 = ns0 + R.slots)
    (hcr : ∀ (mp : Nat → Nat → Prop) (tys : List (ClassId × FieldType)) (t0 : Nat) (g' : mH) (b : Nat) (cA : ClassId) (N : Nat), tys[t0]? = some (cA, ty) → mKd g' b = kd → mLn g' b = N → N ≤ 100000 → (∀ k, g'.1 b k = 0) → (∀ k, g'.2.1 b k = 0) → cR tx mp tys g' b (.inl (cA, a0 N)))
    (row : ∀ (H : Heap) (locs : List Loc) (cells slots : Nat) (ls : Array Slot) (rest : List Value) (ws : va_W) (tys : List (ClassId × FieldType)) (x : Int32) (N : Nat), va_K D vwCl tys s → va_P D vwCl ws H → va_D A ws → va_S A s.heap H locs → ¬ x < 0 → x.toNatClampNeg = N → N ≤ 100000 → cells + 1 ≤ R.cells → slots + N ≤ R.slots → (∀ (q : Nat) (cA : ClassId) (H1 : Heap), va_K D vwCl (tys ++ [(cA, ty)]) s → va_P D vwCl (ws ++ [(q, .inl (cA, a0 N))]) H1 → va_D A (ws ++ [(q, .inl (cA, a0 N))]) → va_S A s.heap H1 locs → W p l e R s m args below meth c H1 locs (cells + 1) (slots + N) Q (F0 m (pc + n) ls (.ref q :: rest))) → W p l e R s m args below meth c H locs cells slots Q (F0 m pc ls (.int x :: rest)))
    (q : stA C Fp (fun z => Sm p l e R s m args below meth c Q nL tx D A mp0 nc0 ns0 z ∧ gl z.2.2.2 u) (aNewA pc L S g n kd)) : Sm p l e R s m args below meth c Q nL tx D A mp0 nc0 ns0 (pc, L, S, g) := by
  rcases S with _ | ⟨v, r⟩
  · exact (show False from q).elim
  · obtain ⟨hb, ⟨i1, i2, -, -⟩, b, hb2, q, hg⟩ := cnd q
    obtain ⟨hb3, hb4⟩ := and2 hb2
    have hkb := beq_t hb3
    have hb1 : 1 ≤ b := Nat.le_of_ble_eq_true hb4
    intro mp tys ws H locs cells slots ls stk hW hL hS
    obtain ⟨w, st1, rfl, hv, hT⟩ := hS.cons
    obtain ⟨x, rfl, rfl⟩ := hv.i (beq_t hb)
    have i1 : 0 ≤ x.toInt := i1
    have i2 : x.toInt ≤ 100000 := i2
    have hg : g.2.2.2.1 + 1 ≤ u.2.2.2.1 ∧ g.2.2.2.2 + x.toInt.toNat ≤ u.2.2.2.2 := hg
    have c1 := hW.2.2.2.2.2.2.2.1
    have c2 := hW.2.2.2.2.2.2.2.2.1
    refine row _ _ _ _ _ _ ws tys x x.toInt.toNat hW.2.2.2.2.1 hW.2.2.2.1 hW.2.2.2.2.2.1 hW.2.2.2.2.2.2.1 (fun h => by have h0 : x.toInt < 0 := nu_lt.mp h; omega) rfl (by omega) (by omega) (by omega) (fun z cA H1 hK hP hD hS1 => ?_)
    have e1 : ∀ j, (mNew g b kd x.toInt.toNat).1 b j = 0 := fun j => by simp [mNew]
    have e2 : ∀ j, (mNew g b kd x.toInt.toNat).2.1 b j = 0 := fun j => by simp [mNew]
    have e3 : (mNew g b kd x.toInt.toNat).2.2.1 b = (kd, x.toInt.toNat) := by simp [mNew]
    have hcc : cR tx (mpN mp b z) (tys ++ [(cA, ty)]) (mNew g b kd x.toInt.toNat) b (.inl (cA, a0 x.toInt.toNat)) :=
      hcr _ _ tys.length _ b cA _ (by simp) (by unfold mKd; rw [e3]) (by unfold mLn; rw [e3]) (by omega) e1 e2
    have hW' := hW.new hkb hb1 hkd (fun t z ht => by rw [List.getElem?_append_left (List.getElem?_eq_some_iff.mp ht).1]; exact ht) hcc hK hP hD hS1
    exact q _ _ _ H1 locs _ _ ls _ hW' (hL.mono (fun _ _ h => Or.inl h)) ⟨Or.inl ⟨b, rfl, hb1, Or.inr ⟨rfl, rfl⟩⟩, hT.mono (fun _ _ h => Or.inl h)⟩
theorem sm_newO {N : Nat} {r0 : vw_C} {fs : List Value} (hu : u.2.2.2.1 = nc0 + R.cells ∧ u.2.2.2.2 = ns0 + R.slots) (hr0 : vwCl[a]? = some r0) (hN : r0.2.2 = N) (hl : fs.length = N) (hfs : ∀ k, k < N → fs[k]? = some (if fso (fty a k) = 2 then Value.null else Value.int 0))
    (row : ∀ (H : Heap) (locs : List Loc) (cells slots : Nat) (ls : Array Slot) (rest : List Value) (ws : va_W) (tys : List (ClassId × FieldType)), va_K D vwCl tys s → va_P D vwCl ws H → va_D A ws → va_S A s.heap H locs → cells + 1 ≤ R.cells → slots + N ≤ R.slots → (∀ (q : Nat) (H1 : Heap), va_P D vwCl (ws ++ [(q, .inr (a, fs))]) H1 → va_D A (ws ++ [(q, .inr (a, fs))]) → va_S A s.heap H1 locs → W p l e R s m args below meth c H1 locs (cells + 1) (slots + N) Q (F0 m (pc + 3) ls (.ref q :: rest))) → W p l e R s m args below meth c H locs cells slots Q (F0 m pc ls rest))
    (q : stA C Fp (fun z => Sm p l e R s m args below meth c Q nL tx D A mp0 nc0 ns0 z ∧ gl z.2.2.2 u) (aNewO pc L S g a N)) : Sm p l e R s m args below meth c Q nL tx D A mp0 nc0 ns0 (pc, L, S, g) := by
  obtain ⟨-, b, hb2, q, hg⟩ := q
  obtain ⟨hb3, hb4⟩ := and2 hb2
  have hkb := beq_t hb3
  have hb1 : 1 ≤ b := Nat.le_of_ble_eq_true hb4
  intro mp tys ws H locs cells slots ls stk hW hL hS
  have hg : g.2.2.2.1 + 1 ≤ u.2.2.2.1 ∧ g.2.2.2.2 + N ≤ u.2.2.2.2 := hg
  have c1 := hW.2.2.2.2.2.2.2.1
  have c2 := hW.2.2.2.2.2.2.2.2.1
  refine row _ _ _ _ _ _ ws tys hW.2.2.2.2.1 hW.2.2.2.1 hW.2.2.2.2.2.1 hW.2.2.2.2.2.2.1 (by omega) (by omega) (fun z H1 hP hD hS1 => ?_)
  have e3 : (mNew g b (10 + a) N).2.2.1 b = (10 + a, N) := by simp [mNew]
  have hcc : cR tx (mpN mp b z) tys (mNew g b (10 + a) N) b (.inr (a, fs)) := by
    refine ⟨by unfold mKd; rw [e3], r0, hr0, hl.trans hN.symm, fun j hj => ⟨_, hfs j (by omega), ?_⟩⟩
    by_cases h2 : fso (fty a j) = 2
    · rw [if_pos h2, h2]
      show (2, (((mNew g b (10 + a) N).2.1 b j : Nat) : Int)) = (2, 0)
      simp [mNew]
    · rw [if_neg h2]
      have : mLd (mNew g b (10 + a) N) b j (fso (fty a j)) = (0, 0) := by
        unfold mLd
        split
        · next h => exact absurd h h2
        · simp [mNew]
      rw [this]
      rfl
  have hW' := hW.new hkb hb1 (by omega) (fun t z ht => ht) hcc hW.2.2.2.2.1 hP hD hS1
  exact q _ _ _ H1 locs _ _ ls _ hW' (hL.mono (fun _ _ h => Or.inl h)) ⟨Or.inl ⟨b, rfl, hb1, Or.inr ⟨rfl, rfl⟩⟩, hS.mono (fun _ _ h => Or.inl h)⟩
theorem sm_copy (row : ∀ (H : Heap) (locs : List Loc) (cells slots : Nat) (ls : Array Slot) (rest : List Value) (ws : va_W) (tys : List (ClassId × FieldType)) (q0 q1 t0 t1 za zb n0 n1 : Nat) (c0 c1 : ClassId) (f f2 : Nat → Int32) (sp dp x : Int32), ls.size = nL → va_K D vwCl tys s → va_P D vwCl ws H → va_D A ws → va_S A s.heap H locs → ws[q0]? = some (za, .inl (c0, n0, .inl f)) → ws[q1]? = some (zb, .inl (c1, n1, .inl f2)) → tys[t0]? = some (c0, .int) → tys[t1]? = some (c1, .int) → ¬ sp < 0 → ¬ dp < 0 → ¬ x < 0 → sp.toNatClampNeg + x.toNatClampNeg ≤ n0 → dp.toNatClampNeg + x.toNatClampNeg ≤ n1 → (rest.map fun v => v.category).sum ≤ 8 → (∀ (H1 : Heap) (locs1 : List Loc), va_P D vwCl (ws.set q1 (zb, .inl (c1, n1, .inl (va_cpy f f2 sp.toNatClampNeg dp.toNatClampNeg x.toNatClampNeg)))) H1 → va_D A (ws.set q1 (zb, .inl (c1, n1, .inl (va_cpy f f2 sp.toNatClampNeg dp.toNatClampNeg x.toNatClampNeg)))) → va_S A s.heap H1 locs1 → W p l e R s m args below meth c H1 locs1 cells slots Q (F0 m (pc + 3) ls rest)) → W p l e R s m args below meth c H locs cells slots Q (F0 m pc ls (.int x :: .int dp :: .ref zb :: .int sp :: .ref za :: rest)))
    (q : stA C Fp (Sm p l e R s m args below meth c Q nL tx D A mp0 nc0 ns0) (aLib pc L S g 1006)) : Sm p l e R s m args below meth c Q nL tx D A mp0 nc0 ns0 (pc, L, S, g) := by
  rcases S with _ | ⟨vn, _ | ⟨vd, _ | ⟨vb, _ | ⟨vs, _ | ⟨va, r⟩⟩⟩⟩⟩
  · exact (show False from q).elim
  · exact (show False from q).elim
  · exact (show False from q).elim
  · exact (show False from q).elim
  · exact (show False from q).elim
  · obtain ⟨hb, hin, q⟩ := cnd q
    obtain ⟨hb, b8⟩ := and2 hb
    obtain ⟨hb, b7⟩ := and2 hb
    obtain ⟨hb, b6⟩ := and2 hb
    obtain ⟨hb, b5⟩ := and2 hb
    obtain ⟨hb, b4⟩ := and2 hb
    obtain ⟨hb, b3⟩ := and2 hb
    obtain ⟨b1, b2⟩ := and2 hb
    have k7 := beq_t b7
    have k6 := beq_t b6
    intro mp tys ws H locs cells slots ls stk hW hL hS
    obtain ⟨w1, s1, rfl, v1, hS1⟩ := hS.cons
    obtain ⟨w2, s2, rfl, v2, hS2⟩ := hS1.cons
    obtain ⟨w3, s3, rfl, v3, hS3⟩ := hS2.cons
    obtain ⟨w4, s4, rfl, v4, hS4⟩ := hS3.cons
    obtain ⟨w5, s5, rfl, v5, hS5⟩ := hS4.cons
    have hz := hW.2.2.2.2.2.2.2.2.2
    obtain ⟨x, rfl, rfl⟩ := v1.i (beq_t b1)
    obtain ⟨dp, rfl, rfl⟩ := v2.i (beq_t b2)
    obtain ⟨sp, rfl, rfl⟩ := v4.i (beq_t b4)
    obtain ⟨bb, zb, rfl, rfl, hbb⟩ := refK v3 (beq_t b3) (by rw [k6]; omega) hz
    obtain ⟨ba, za, rfl, rfl, hba⟩ := refK v5 (beq_t b5) (by rw [k7]; omega) hz
    have k7 : mKd g ba = 1 := k7
    have k6 : mKd g bb = 1 := k6
    have hin : 0 ≤ x.toInt ∧ 0 ≤ dp.toInt ∧ 0 ≤ sp.toInt ∧ sp.toInt + x.toInt ≤ (mLn g ba : Int) ∧ dp.toInt + x.toInt ≤ (mLn g bb : Int) := hin
    obtain ⟨i, cA, f, t0, p1, p2, p3, p4⟩ := hW.2.2.1.arrI hW.1 hba k7 (by omega)
    obtain ⟨i', cA', f', t0', p1', p2', p3', p4'⟩ := hW.2.2.1.arrI hW.1 hbb k6 (by omega)
    have nl : ∀ {y : Int32}, 0 ≤ y.toInt → ¬ y < 0 := fun h h' => by have h0 := nu_lt.mp h'; rw [nu_0] at h0; omega
    have cl : ∀ y : Int32, y.toNatClampNeg = y.toInt.toNat := fun y => rfl
    refine row _ _ _ _ _ _ ws tys i i' t0 t0' za zb _ _ cA cA' f f' sp dp x hL.1 hW.2.2.2.2.1 hW.2.2.2.1 hW.2.2.2.2.2.1 hW.2.2.2.2.2.2.1 p1 p1' p2 p2' (nl hin.2.2.1) (nl hin.2.1) (nl hin.1) (by rw [cl, cl]; omega) (by rw [cl, cl]; omega) (by rw [hS5.cats]; exact Nat.le_of_ble_eq_true b8) (fun H1 locs1 hP hD hS1 => ?_)
    refine q mp tys _ H1 locs1 cells slots ls s5 (hW.set hbb p1' ?_ ?_ rfl ?_ hP hD hS1) hL hS5
    · intro b' hb' j
      show (if b' = bb ∧ _ ∧ _ then _ else g.1 b' j) = g.1 b' j
      rw [if_neg (fun h => hb' h.1)]
    · intro b' hb' j
      rfl
    · refine ⟨⟨rfl, p3'⟩, fun j hj => ?_, t0', .int, p2', Or.inl ⟨k6, rfl⟩⟩
      show (if dp.toInt.toNat ≤ j ∧ j < dp.toInt.toNat + x.toInt.toNat then f (sp.toInt.toNat + (j - dp.toInt.toNat)) else f' j).toInt = (if bb = bb ∧ dp.toInt.toNat ≤ j ∧ j < dp.toInt.toNat + x.toInt.toNat then g.1 ba (sp.toInt.toNat + (j - dp.toInt.toNat)) else g.1 bb j)
      by_cases h : dp.toInt.toNat ≤ j ∧ j < dp.toInt.toNat + x.toInt.toNat
      · rw [if_pos h, if_pos ⟨rfl, h⟩]
        exact p4 _ (by omega)
      · rw [if_neg h, if_neg (fun z => h z.2)]
        exact p4' j hj
theorem sm_objInit (row : ∀ (H : Heap) (locs : List Loc) (cells slots : Nat) (ls : Array Slot) (rest : List Value) (z : Nat), ls.size = nL → (rest.map fun v => v.category).sum ≤ 8 → W p l e R s m args below meth c H locs cells slots Q (F0 m (pc + 3) ls rest) → W p l e R s m args below meth c H locs cells slots Q (F0 m pc ls (.ref z :: rest)))
    (q : stA C Fp (Sm p l e R s m args below meth c Q nL tx D A mp0 nc0 ns0) (aLib pc L S g 1000)) : Sm p l e R s m args below meth c Q nL tx D A mp0 nc0 ns0 (pc, L, S, g) := by
  rcases S with _ | ⟨o, r⟩
  · exact (show False from q).elim
  · obtain ⟨hb, q⟩ := cnd q
    obtain ⟨hb, b3⟩ := and2 hb
    obtain ⟨b1, b2⟩ := and2 hb
    have hb1 := Nat.le_of_ble_eq_true b2
    intro mp tys ws H locs cells slots ls stk hW hL hS
    obtain ⟨w, st1, rfl, hv, hT⟩ := hS.cons
    rcases hv.a (beq_t b1) with ⟨-, rfl⟩ | ⟨b, z, rfl, -⟩
    · exact absurd hb1 (by show ¬ 1 ≤ (0 : Int).toNat; decide)
    · exact row _ _ _ _ _ _ z hL.1 (by rw [hT.cats]; exact Nat.le_of_ble_eq_true b3) (q mp tys ws H locs cells slots ls _ hW hL hT)
theorem sm_lib2 {k : Nat} {F : Int → Int → Int} {f : Int32 → Int32 → Int32} (hf : ∀ x y, (f x y).toInt = F x.toInt y.toInt) (row : ∀ (H : Heap) (locs : List Loc) (cells slots : Nat) (ls : Array Slot) (rest : List Value) (x y : Int32), ls.size = nL → (rest.map fun v => v.category).sum ≤ 8 → nc0 + cells = g.2.2.2.1 → ns0 + slots = g.2.2.2.2 → W p l e R s m args below meth c H locs cells slots Q (F0 m (pc + 3) ls (.int (f x y) :: rest)) → W p l e R s m args below meth c H locs cells slots Q (F0 m pc ls (.int y :: .int x :: rest)))
    (hk : ∀ X : mS → Prop, stA C Fp X (aLib pc L S g k) → ∃ x y r, S = y :: x :: r ∧ x.1 = 0 ∧ y.1 = 0 ∧ mCats r ≤ 8 ∧ X (pc + 3, L, (0, F x.2 y.2) :: r, g)) (q : stA C Fp (Sm p l e R s m args below meth c Q nL tx D A mp0 nc0 ns0) (aLib pc L S g k)) : Sm p l e R s m args below meth c Q nL tx D A mp0 nc0 ns0 (pc, L, S, g) := by
  obtain ⟨x, y, r, rfl, b1, b2, b3, q⟩ := hk _ q
  intro mp tys ws H locs cells slots ls stk hW hL hS
  obtain ⟨w, st1, rfl, hv, hT⟩ := hS.cons
  obtain ⟨w2, st2, rfl, hv2, hU⟩ := hT.cons
  obtain ⟨b, rfl, rfl⟩ := hv.i b2
  obtain ⟨a, rfl, rfl⟩ := hv2.i b1
  exact row _ _ _ _ _ _ _ _ hL.1 (by rw [hU.cats]; exact b3) hW.2.2.2.2.2.2.2.1.symm hW.2.2.2.2.2.2.2.2.1.symm (q mp tys ws H locs cells slots ls _ hW hL ⟨by show (0, F a.toInt b.toInt) = (0, (f a b).toInt); rw [hf], hU⟩)
theorem sm_lib2L {k : Nat} {F : Int → Int → Int} {f : Int64 → Int64 → Int64} (hf : ∀ x y, (f x y).toInt = F x.toInt y.toInt) (row : ∀ (H : Heap) (locs : List Loc) (cells slots : Nat) (ls : Array Slot) (rest : List Value) (x y : Int64), ls.size = nL → (rest.map fun v => v.category).sum ≤ 8 → nc0 + cells = g.2.2.2.1 → ns0 + slots = g.2.2.2.2 → W p l e R s m args below meth c H locs cells slots Q (F0 m (pc + 3) ls (.long (f x y) :: rest)) → W p l e R s m args below meth c H locs cells slots Q (F0 m pc ls (.long y :: .long x :: rest)))
    (hk : ∀ X : mS → Prop, stA C Fp X (aLib pc L S g k) → ∃ x y r, S = y :: x :: r ∧ x.1 = 1 ∧ y.1 = 1 ∧ mCats r ≤ 8 ∧ X (pc + 3, L, (1, F x.2 y.2) :: r, g)) (q : stA C Fp (Sm p l e R s m args below meth c Q nL tx D A mp0 nc0 ns0) (aLib pc L S g k)) : Sm p l e R s m args below meth c Q nL tx D A mp0 nc0 ns0 (pc, L, S, g) := by
  obtain ⟨x, y, r, rfl, b1, b2, b3, q⟩ := hk _ q
  intro mp tys ws H locs cells slots ls stk hW hL hS
  obtain ⟨w, st1, rfl, hv, hT⟩ := hS.cons
  obtain ⟨w2, st2, rfl, hv2, hU⟩ := hT.cons
  obtain ⟨b, rfl, rfl⟩ := hv.l b2
  obtain ⟨a, rfl, rfl⟩ := hv2.l b1
  exact row _ _ _ _ _ _ _ _ hL.1 (by rw [hU.cats]; exact b3) hW.2.2.2.2.2.2.2.1.symm hW.2.2.2.2.2.2.2.2.1.symm (q mp tys ws H locs cells slots ls _ hW hL ⟨by show (1, F a.toInt b.toInt) = (1, (f a b).toInt); rw [hf], hU⟩)
theorem sm_abs (row : ∀ (H : Heap) (locs : List Loc) (cells slots : Nat) (ls : Array Slot) (rest : List Value) (x : Int32), ls.size = nL → (rest.map fun v => v.category).sum ≤ 8 → nc0 + cells = g.2.2.2.1 → ns0 + slots = g.2.2.2.2 → W p l e R s m args below meth c H locs cells slots Q (F0 m (pc + 3) ls (.int (if 0 ≤ x then x else 0 - x) :: rest)) → W p l e R s m args below meth c H locs cells slots Q (F0 m pc ls (.int x :: rest)))
    (q : stA C Fp (Sm p l e R s m args below meth c Q nL tx D A mp0 nc0 ns0) (aLib pc L S g 1003)) : Sm p l e R s m args below meth c Q nL tx D A mp0 nc0 ns0 (pc, L, S, g) := by
  rcases S with _ | ⟨o, r⟩
  · exact (show False from q).elim
  · obtain ⟨hb, q⟩ := cnd q
    obtain ⟨b1, b3⟩ := and2 hb
    intro mp tys ws H locs cells slots ls stk hW hL hS
    obtain ⟨w, st1, rfl, hv, hT⟩ := hS.cons
    obtain ⟨a, rfl, rfl⟩ := hv.i (beq_t b1)
    exact row _ _ _ _ _ _ _ hL.1 (by rw [hT.cats]; exact Nat.le_of_ble_eq_true b3) hW.2.2.2.2.2.2.2.1.symm hW.2.2.2.2.2.2.2.2.1.symm (q mp tys ws H locs cells slots ls _ hW hL ⟨by show (0, if 0 ≤ a.toInt then a.toInt else w32 (0 - a.toInt)) = (0, (if 0 ≤ a then a else 0 - a).toInt); rw [nu_abs], hT⟩)
end SIM
