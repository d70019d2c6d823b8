/-! ===== calls and ends ===== -/
abbrev cS : Type := (Nat → Nat → Prop) × List (ClassId × FieldType) × va_W
abbrev tX : Type := (Nat → Prop) → State → Heap → Prop
/-- what is known of the texts goes with the machine -/
def txOk (TX : tX) : Prop := (∀ (A : Nat → Prop) (U V : State) (H : Heap), V.vm = U.vm → TX A U H → TX A V H) ∧ (∀ (A : Nat → Prop) (s U : State) (H : Heap), s.WarmedH U.vm → TX A s H → TX A U H) ∧ (∀ (A : Nat → Prop) (U : State) (H H1 : Heap), (∀ a : Nat, a < H.size → ¬ A a → H1[a]? = H[a]?) → TX A U H → TX A U H1) ∧ ∀ (A B : Nat → Prop) (U : State) (H : Heap), (∀ q, B q → A q) → TX A U H → TX B U H
def ctP (TX : tX) (D : va_G) (ws : va_W) (tys : List (ClassId × FieldType)) (avs : List Value) (sz : Nat) : Array Value → State → Prop := va_Pc avs (fun U => U.heap.size = sz ∧ va_P D vwCl ws U.heap ∧ va_K D vwCl tys U ∧ va_D (fun _ => True) ws ∧ TX (va_A ws sz) U U.heap)
def ctR (tx : Nat → Nat) (mp : Nat → Nat → Prop) (u : mH) (z : cS) : Prop := mOk z.1 u ∧ Rl tx z.1 z.2.1 u z.2.2 ∧ mKd u 0 = 0 ∧ ∀ a q, mp a q → z.1 a q
def ctB (D : va_G) (ws : va_W) (sz : Nat) (z : cS) (t : State) : Prop := va_P D vwCl z.2.2 t.heap ∧ va_K D vwCl z.2.1 t ∧ va_D (va_A ws sz) z.2.2
def ctQ (k : Nat) (tx : Nat → Nat) (mp : Nat → Nat → Prop) (u : mH) (r : mV) (D : va_G) (ws : va_W) (sz : Nat) : Array Value → State → Outcome → State → Prop := match k with
  | 0 => va_Qv (fun z : cS => ctR tx mp u z) (ctB D ws sz) (va_A ws sz)
  | 1 => va_Qi (fun (x : Int32) (z : cS) => r = (0, x.toInt) ∧ ctR tx mp u z) (ctB D ws sz) (va_A ws sz)
  | _ => va_Ql (fun (x : Int64) (z : cS) => r = (1, x.toInt) ∧ ctR tx mp u z) (ctB D ws sz) (va_A ws sz)
def rmD (d mc ms : Nat) : Room := { frames := d + 8, cells := mc, slots := ms, locals := 100 * (d + 8) }
/-- a method's contract, for one run of the small machine -/
def MetK (l : Launch) (tx : Nat → Nat) (TX : tX) (D : va_G) (d : Nat) (y : MethodName) (wy : List Cond) (kr : Nat) (as : List mV) (h : mH) (r : mV) (u : mH) : Prop :=
  ∀ (mp : Nat → Nat → Prop) (tys : List (ClassId × FieldType)) (ws : va_W) (avs : List Value) (sz : Nat), mOk mp h → Rl tx mp tys h ws → mKd h 0 = 0 → vS tx mp as avs →
    Met l y wy (rmD d (u.2.2.2.1 - h.2.2.2.1) (u.2.2.2.2 - h.2.2.2.2)) (ctP TX D ws tys avs sz) (ctQ kr tx mp u r D ws sz) (u.2.2.2.1 - h.2.2.2.1) (u.2.2.2.2 - h.2.2.2.2) (va_A ws sz)
theorem ctP_blind {TX : tX} (hT : txOk TX) {D : va_G} {ws : va_W} {tys : List (ClassId × FieldType)} {avs : List Value} {sz : Nat} : FrameBlind (ctP TX D ws tys avs sz) := by
  intro a U g mk q
  obtain ⟨q0, q1, qP, qK, qD, qT⟩ := q
  exact ⟨q0, q1, qP, va_K.moved (u := U) (U := U.calling g mk a) (Vm.Alike.refl U.vm) qK, qD, hT.1 _ U _ _ rfl qT⟩
/-- the receiver is of its class -/
def rcv (s : State) (cl : Int) (As : List Value) (H : Heap) : Prop := cl < 0 ∨ ∃ (b : Nat) (As' : List Value) (r0 : vw_C), As = .ref b :: As' ∧ vwCl[cl.toNat]? = some r0 ∧ ∃ cell : Cell, H[b]? = some cell ∧ cell.vm.isStatics = false ∧ s.vm.findClass r0.1 = some cell.cls
section SIM
variable {p : Program} {l : Launch} {e : Env} {R : Room} {s : State} {m : MethodId} {args : Array Value} {below : List Frame} {meth : Method} {c : Code} {Q : State → Prop} {nL : Nat} {tx : Nat → Nat} {D : va_G} {A : Nat → Prop} {mp0 : Nat → Nat → Prop} {nc0 ns0 : Nat}
variable {pc n a k d : Nat} {L S : List mV} {g u0 : mH} {C : mCl} {Fp : mPost} {TX : tX}
theorem sm_inv {kr : Nat} {cl : Int} {y : MethodName} {wy : List Cond} (hTX : txOk TX) (hT0 : TX A s s.heap) (hA : ∀ q, s.heap.size ≤ q → A q) (hu : u0.2.2.2.1 = nc0 + R.cells ∧ u0.2.2.2.2 = ns0 + R.slots) (hcl : 0 ≤ cl → cl < 13)
    (ih : ∀ (as : List mV) (h : mH) (F : mPost), C k as h F → ∃ r u, F r u ∧ gl h u ∧ MetK l tx TX D d y wy kr as h r u)
    (row : ∀ (H : Heap) (locs : List Loc) (cells slots : Nat) (ls : Array Slot) (rest As : List Value) (mc ms : Nat) (Pc : Array Value → State → Prop) (Qc : Array Value → State → Outcome → State → Prop) (free : Addr → Prop), Met l y wy (rmD d mc ms) Pc Qc mc ms free → FrameBlind Pc → (∀ U : State, U.heap = H → s.WarmedH U.vm → Pc As.toArray U) → rcv s cl As H → As.length = n → ls.size = nL → (rest.map fun v => v.category).sum ≤ 8 → cells + mc ≤ R.cells ∧ slots + ms ≤ R.slots → va_Run p l e R s m args below meth c H locs cells slots mc ms (F0 m pc ls (As.reverse ++ rest)) rest (Qc As.toArray) free)
    (q : stA C Fp (fun z => Sm p l e R s m args below meth c Q nL tx D A mp0 nc0 ns0 z ∧ gl z.2.2.2 u0) (aInv pc L S g k n kr cl)) : Sm p l e R s m args below meth c Q nL tx D A mp0 nc0 ns0 (pc, L, S, g) := by
  obtain ⟨hb, q⟩ := cnd q
  obtain ⟨hb, hb3⟩ := and2 hb
  obtain ⟨hb1, hb2⟩ := and2 hb
  have hn : n ≤ mLenL S := Nat.le_of_ble_eq_true hb1
  obtain ⟨r, u, ⟨qs, hg⟩, hgl, hM⟩ := ih _ _ _ q
  have hg : u.2.2.2.1 ≤ u0.2.2.2.1 ∧ u.2.2.2.2 ≤ u0.2.2.2.2 := hg
  have hgl : g.2.2.2.1 ≤ u.2.2.2.1 ∧ g.2.2.2.2 ≤ u.2.2.2.2 := hgl
  intro mp tys ws H locs cells slots ls stk hW hL hS
  obtain ⟨hm, h0, hR, hP, hK, hD, hSS, c1, c2, hz⟩ := id hW
  have hAs : vS tx mp (mRevA (mTake n S) []) (stk.take n).reverse := by
    have := (hS.take n).rev (a := []) (b := []) trivial
    simpa using this
  have hrest := hS.drop n
  have hlen : (stk.take n).reverse.length = n := by
    rw [List.length_reverse, List.length_take, hS.len]
    omega
  have hstk : ((stk.take n).reverse).reverse ++ stk.drop n = stk := by rw [List.reverse_reverse, List.take_append_drop]
  have hfree : ∀ q, va_A ws H.size q → A q := by
    rintro q (⟨j, e, h⟩ | h)
    · exact hD.2 j (q, e) h
    · exact hA q (Nat.le_trans hSS.1 h)
  have hrcv : rcv s cl (stk.take n).reverse H := by
    cases hneg : mNeg cl with
    | true =>
      left
      cases cl with
      | ofNat j => cases hneg
      | negSucc j => exact Int.negSucc_lt_zero j
    | false =>
      rw [hneg] at hb3
      have hc0 : 0 ≤ cl := by
        cases cl with
        | ofNat j => exact Int.natCast_nonneg j
        | negSucc j => cases hneg
      right
      cases hr : mRevA (mTake n S) [] with
      | nil => rw [hr] at hb3; cases hb3
      | cons o r2 =>
        rw [hr] at hb3 hAs
        have hb3 : (Nat.beq o.1 2 && Nat.beq (mKd g o.2.toNat) (10 + cl.toNat)) = true := hb3
        obtain ⟨h1, h2⟩ := and2 hb3
        have hkd := beq_t h2
        obtain ⟨w, st1, hst, hv, -⟩ := hAs.cons
        obtain ⟨b, z, rfl, rfl, hbz⟩ := refK hv (beq_t h1) (by rw [hkd]; omega) hz
        have hlt : cl.toNat < 13 := by have := hcl hc0; omega
        obtain ⟨i, fs, o1, r0, o2, -⟩ := hR.obj hm hbz hkd hlt
        exact ⟨z, st1, r0, hst, o2, va_recv hK hP o2 o1⟩
  have hPre : ∀ U : State, U.heap = H → s.WarmedH U.vm → ctP TX D ws tys (stk.take n).reverse H.size (stk.take n).reverse.toArray U := by
    intro U hU hWm
    refine ⟨rfl, by rw [hU], by rw [hU]; exact hP, va_K.moved hWm.alike hK, hD.weaken (fun _ _ _ _ => trivial), ?_⟩
    rw [hU]
    exact hTX.2.1 _ s _ _ hWm (hTX.2.2.2 A _ _ _ hfree (hTX.2.2.1 A s s.heap H (fun q h1 h2 => hSS.2.1 q h1 h2) hT0))
  have hMet := hM mp tys ws (stk.take n).reverse H.size hm hR hz hAs
  have hRun := row H locs cells slots ls (stk.drop n) (stk.take n).reverse _ _ _ _ _ hMet (ctP_blind hTX) hPre hrcv hlen hL.1 (by rw [hrest.cats]; exact Nat.le_of_ble_eq_true hb2) ⟨by omega, by omega⟩
  rw [hstk] at hRun
  have key : ∀ (z : cS) (t : State) (H1 : Heap) (locs1 : List Loc), t.heap = H1 → s.vm.Alike t.vm → ctR tx mp u z → ctB D ws H.size z t → va_S A s.heap H1 locs1 → Wd tx D A s mp0 nc0 ns0 z.1 z.2.1 u z.2.2 H1 locs1 (cells + (u.2.2.2.1 - g.2.2.2.1)) (slots + (u.2.2.2.2 - g.2.2.2.2)) := by
    intro z t H1 locs1 ht hvm hr hB hS1
    obtain ⟨hB1, hB2, hB3⟩ := hB
    rw [ht] at hB1
    exact ⟨hr.1, fun a q h => hr.2.2.2 a q (h0 a q h), hr.2.1, hB1, va_K.moved hvm.symm hB2, hB3.weaken (fun _ _ _ h => hfree _ h), hS1, by omega, by omega, hr.2.2.1⟩
  match kr, hRun, qs with
  | 0, hRun, qs =>
    refine va_callv (a := (stk.take n).reverse.toArray) hRun hSS (fun q _ h => hfree q h) hfree (fun z t H1 locs1 ht hvm hpost hB _ _ hS1 => ?_)
    exact qs z.1 z.2.1 z.2.2 H1 locs1 _ _ ls _ (key z t H1 locs1 ht hvm hpost hB hS1) (hL.mono hpost.2.2.2) (hrest.mono hpost.2.2.2)
  | 1, hRun, qs =>
    refine va_calli (a := (stk.take n).reverse.toArray) hRun hSS (fun q _ h => hfree q h) hfree (fun x z t H1 locs1 ht hvm hpost hB _ _ hS1 => ?_)
    exact qs z.1 z.2.1 z.2.2 H1 locs1 _ _ ls _ (key z t H1 locs1 ht hvm hpost.2 hB hS1) (hL.mono hpost.2.2.2.2) ⟨by show (0, r.2) = (0, x.toInt); rw [hpost.1], hrest.mono hpost.2.2.2.2⟩
  | j + 2, hRun, qs =>
    refine va_calll (a := (stk.take n).reverse.toArray) hRun hSS (fun q _ h => hfree q h) hfree (fun x z t H1 locs1 ht hvm hpost hB _ _ hS1 => ?_)
    exact qs z.1 z.2.1 z.2.2 H1 locs1 _ _ ls _ (key z t H1 locs1 ht hvm hpost.2 hB hS1) (hL.mono hpost.2.2.2.2) ⟨by show (1, r.2) = (1, x.toInt); rw [hpost.1], hrest.mono hpost.2.2.2.2⟩
variable {ws0 : va_W} {sz0 : Nat} {r : mV} {u : mH}
theorem sm_iret (hAe : A = va_A ws0 sz0) {P : Int → Prop} (row : ∀ (H : Heap) (locs : List Loc) (cells slots : Nat) (ls : Array Slot) (x : Int32), P x.toInt → (∀ t : State, t.heap = H → s.WarmedH t.vm → ctQ 1 tx mp0 u r D ws0 sz0 args s (.returned (some (.int x))) t) → (∀ q ∈ locs, A q.base) → W p l e R s m args below meth c H locs cells slots (MQ below (ctQ 1 tx mp0 u r D ws0 sz0) args s cells slots A) (F0 m pc ls [.int x]))
    {x : mV} (hx : x.1 = 0) (hP : P x.2) (q : mIs r u x g) : Sm p l e R s m args below meth c (MQ below (ctQ 1 tx mp0 u r D ws0 sz0) args s (u.2.2.2.1 - nc0) (u.2.2.2.2 - ns0) A) nL tx D A mp0 nc0 ns0 (pc, L, [x], g) := by
  obtain ⟨rfl, rfl⟩ := q
  intro mp tys ws H locs cells slots ls stk hW hL hS
  obtain ⟨w, st1, rfl, hv, hT⟩ := hS.cons
  cases hT.nil
  obtain ⟨y, rfl, rfl⟩ := hv.i hx
  obtain ⟨hm, h0, hR, hPP, hK, hD, hSS, c1, c2, hz⟩ := hW
  have e1 : g.2.2.2.1 - nc0 = cells := by omega
  have e2 : g.2.2.2.2 - ns0 = slots := by omega
  rw [e1, e2]
  subst hAe
  exact row _ _ _ _ _ _ hP (fun t ht hWm => ⟨⟨y, (mp, tys, ws), rfl, ⟨rfl, hm, hR, hz, h0⟩, by rw [ht]; exact hPP, va_K.moved hWm.alike hK, hD⟩, hSS.F ht⟩) hSS.2.2
theorem sm_lret (hAe : A = va_A ws0 sz0) (row : ∀ (H : Heap) (locs : List Loc) (cells slots : Nat) (ls : Array Slot) (x : Int64), (∀ t : State, t.heap = H → s.WarmedH t.vm → ctQ 2 tx mp0 u r D ws0 sz0 args s (.returned (some (.long x))) t) → (∀ q ∈ locs, A q.base) → W p l e R s m args below meth c H locs cells slots (MQ below (ctQ 2 tx mp0 u r D ws0 sz0) args s cells slots A) (F0 m pc ls [.long x]))
    {x : mV} (hx : x.1 = 1) (q : mIs r u x g) : Sm p l e R s m args below meth c (MQ below (ctQ 2 tx mp0 u r D ws0 sz0) args s (u.2.2.2.1 - nc0) (u.2.2.2.2 - ns0) A) nL tx D A mp0 nc0 ns0 (pc, L, [x], g) := by
  obtain ⟨rfl, rfl⟩ := q
  intro mp tys ws H locs cells slots ls stk hW hL hS
  obtain ⟨w, st1, rfl, hv, hT⟩ := hS.cons
  cases hT.nil
  obtain ⟨y, rfl, rfl⟩ := hv.l hx
  obtain ⟨hm, h0, hR, hPP, hK, hD, hSS, c1, c2, hz⟩ := hW
  have e1 : g.2.2.2.1 - nc0 = cells := by omega
  have e2 : g.2.2.2.2 - ns0 = slots := by omega
  rw [e1, e2]
  subst hAe
  exact row _ _ _ _ _ _ (fun t ht hWm => ⟨⟨y, (mp, tys, ws), rfl, ⟨rfl, hm, hR, hz, h0⟩, by rw [ht]; exact hPP, va_K.moved hWm.alike hK, hD⟩, hSS.F ht⟩) hSS.2.2
theorem sm_vret (hAe : A = va_A ws0 sz0) (row : ∀ (H : Heap) (locs : List Loc) (cells slots : Nat) (ls : Array Slot), (∀ t : State, t.heap = H → s.WarmedH t.vm → ctQ 0 tx mp0 u r D ws0 sz0 args s (.returned none) t) → (∀ q ∈ locs, A q.base) → W p l e R s m args below meth c H locs cells slots (MQ below (ctQ 0 tx mp0 u r D ws0 sz0) args s cells slots A) (F0 m pc ls []))
    (q : mIs r u (9, 0) g) : Sm p l e R s m args below meth c (MQ below (ctQ 0 tx mp0 u r D ws0 sz0) args s (u.2.2.2.1 - nc0) (u.2.2.2.2 - ns0) A) nL tx D A mp0 nc0 ns0 (pc, L, [], g) := by
  obtain ⟨-, rfl⟩ := q
  intro mp tys ws H locs cells slots ls stk hW hL hS
  cases hS.nil
  obtain ⟨hm, h0, hR, hPP, hK, hD, hSS, c1, c2, hz⟩ := hW
  have e1 : g.2.2.2.1 - nc0 = cells := by omega
  have e2 : g.2.2.2.2 - ns0 = slots := by omega
  rw [e1, e2]
  subst hAe
  exact row _ _ _ _ _ (fun t ht hWm => ⟨⟨(mp, tys, ws), rfl, ⟨hm, hR, hz, h0⟩, by rw [ht]; exact hPP, va_K.moved hWm.alike hK, hD⟩, hSS.F ht⟩) hSS.2.2
end SIM
