/-! ===== the law: two worlds beside each other, and one call in one of them ===== -/
def R_law : String := "PartyLineLaw"
def lw_P (b : Addr) (xs : List Int32) (args : Array Value) (s : State) : Prop := args = #[.ref b] ∧ s.IntsAt b xs ∧ xs.length ≤ 3072 ∧ (Jvm.Cond.and given_1 narrow_1).before args s = true
def lw_Q (_ : Array Value) (s : State) (o : Outcome) (t : State) : Prop := o = .returned (some (.int 1)) ∧ Framed s o t [] 600000 7302249
def lw_Z (below : List Frame) (a : Array Value) (s : State) : State → Prop := fun t => ∃ o, t.status = .running ∧ Ended t below o ∧ lw_Q a s o t
/-- the law's own end, with 1 on the stack, nothing written that was there before, its room as the claim has it -/
theorem lw_ret {p : Program} {l : Launch} {e : Env} {s : State} {m : MethodId} {below : List Frame} {meth : Method} {c : Code} {b : Nat} (hx : p.tables.exec = Jvm.exec) (hb : c.code = code) (hr : meth.sig.returnType = ret) (hlocks : meth.locks = false) {pc : Nat} {H : Heap} {ls : Array Slot} (hdg : decode code pc = .ok (.ireturn, 1)) : W p l e room_1 s m #[Value.ref b] below meth c H [] 600000 7302249 (lw_Z below #[Value.ref b] s) (F0 m pc ls [.int 1]) := by
  intro T hT X
  obtain ⟨fs, hret, hrun, hended, hW, hframe⟩ := X.leave (v := some (.int 1)) (hlocks := hlocks) (fun h => by rw [hr] at h; cases h)
  have hmeth' : T.vm.method? m = some meth := X.method'
  refine ⟨T.setFrames fs, ?_, .returned (some (.int 1)), hrun, hended, rfl, ⟨_, rfl⟩, hW, hframe⟩
  jvm_step X.here [X.here.top, hx, hb, hdg, hmeth', hr, ret, narrow_b1]
  (try refine ⟨rfl, ?_⟩); (try refine ⟨rfl, ?_⟩)
  first | (intro acts; rw [hret _ acts rfl rfl rfl]) | rw [hret _ _ rfl rfl rfl]
  exact Steps.refl _
/-- what holds at the law's entry: the machine, the code, the tables' words (any of lw_tbl by 'hts w (by decide +kernel)'), the script of L ints xs at the cell b, what the Statement gives of the start (any of its parts by flat_of_before) -/
def lw_At (p : Program) (s : State) (m : MethodId) (meth : Method) (c : Code) (b L : Nat) (xs : Nat → Int32) : Prop :=
  p.tables.exec = Jvm.exec ∧ c.code = code ∧ meth.sig.returnType = ret ∧ c.maxLocals = 4 ∧ s.vm.findClass R_law = some m.cls ∧ (∀ w ∈ lw_tbl, w.before #[Value.ref b] s = true) ∧ va_X b L xs s s.heap ∧ b < s.heap.size ∧ meth.locks = false ∧ (Jvm.Cond.and given_1 narrow_1).before #[Value.ref b] s = true
theorem lw_W {b : Nat} {s : State} (h : ∀ w ∈ lw_tbl, w.before #[Value.ref b] s = true) : ∀ w ∈ Ws, w.before #[Value.ref b] s = true := fun w hw => h w (List.mem_filter.mp hw).1
/-- what the law makes lies behind what was there -/
def lA (s : State) : Nat → Prop := fun q => s.heap.size ≤ q
def Hf (adK : Nat → Nat) (D : va_G) (s : State) (g : mH) (q : Nat) (ws : va_W) (H : Heap) : Prop :=
  ∃ (mp : Nat → Nat → Prop) (tys : List (ClassId × FieldType)), mOk mp g ∧ Rl (txA adK) mp tys g ws ∧ va_P D vwCl ws H ∧ va_K D vwCl tys s ∧ va_D (lA s) ws ∧ mKd g 0 = 0 ∧ mp 1 q
def Dj (ws1 ws2 : va_W) : Prop := ∀ (i j : Nat) (x y : Nat × va_E), ws1[i]? = some x → ws2[j]? = some y → x.1 ≠ y.1
/-- the class's world and the reference's -/
def Two (adK : Nat → Nat) (D : va_G) (s : State) (g1 : mH) (q1 : Nat) (g2 : mH) (q2 : Nat) (H : Heap) (locs : List Loc) (cells slots : Nat) : Prop :=
  ∃ ws1 ws2 : va_W, Hf adK D s g1 q1 ws1 H ∧ Hf adK D s g2 q2 ws2 H ∧ Dj ws1 ws2 ∧ va_S (lA s) s.heap H locs ∧ cells = g1.2.2.2.1 + g2.2.2.2.1 ∧ slots = g1.2.2.2.2 + g2.2.2.2.2
section LAW
variable {p : Program} {l : Launch} {e : Env} {s : State} {m : MethodId} {below : List Frame} {meth : Method} {c : Code} {b L : Nat} {xs : Nat → Int32} {adK adV : Nat → Nat} {D : va_G} {Q : State → Prop}
theorem Two.swap {g1 g2 : mH} {q1 q2 : Nat} {H : Heap} {locs : List Loc} {cells slots : Nat} (h : Two adK D s g1 q1 g2 q2 H locs cells slots) : Two adK D s g2 q2 g1 q1 H locs cells slots := by
  obtain ⟨ws1, ws2, h1, h2, h3, h4, h5, h6⟩ := h
  exact ⟨ws2, ws1, h2, h1, fun i j x y k1 k2 k3 => h3 j i y x k2 k1 k3.symm, h4, by omega, by omega⟩
theorem Two.S {g1 g2 : mH} {q1 q2 : Nat} {H : Heap} {locs : List Loc} {cells slots : Nat} (h : Two adK D s g1 q1 g2 q2 H locs cells slots) : va_S (lA s) s.heap H locs := by
  obtain ⟨ws1, ws2, h1, h2, h3, h4, h5, h6⟩ := h
  exact h4
theorem lw_pre (hih : IHd l gT gG (txA adK) (txs adK adV) D Ws 60) (hT0 : txs adK adV (lA s) s s.heap) {k : Nat} {Mm : mM} (hM1 : gT k = some Mm)
    {g1 : mH} {q1 : Nat} {ws1 ws2 : va_W} {H : Heap} {locs : List Loc} (hW : Hf adK D s g1 q1 ws1 H) (hB : va_P D vwCl ws2 H) (hdis : Dj ws1 ws2) (hS : va_S (lA s) s.heap H locs) {as : List mV} {F : mPost} (hq : WPm gT 60 k ((2, 1) :: as) g1 F) {As : List Value} (hAs : ∀ mp, vS (txA adK) mp as As) :
    ∃ (r : mV) (u : mH) (mp : Nat → Nat → Prop) (tys : List (ClassId × FieldType)), F r u ∧ gl g1 u ∧ (∀ q, va_A ws1 H.size q → lA s q) ∧
      Met l (gG k).1 (Cond.code (gG k).1 (gG k).2.2.1 Mm.2 (gG k).2.2.2.1 :: Ws) (rmD 60 (u.2.2.2.1 - g1.2.2.2.1) (u.2.2.2.2 - g1.2.2.2.2)) (ctP (txs adK adV) D ws1 tys (.ref q1 :: As) H.size) (ctQ (gG k).2.2.2.2 (txA adK) mp u r D ws1 H.size) (u.2.2.2.1 - g1.2.2.2.1) (u.2.2.2.2 - g1.2.2.2.2) (va_A ws1 H.size) ∧
      (∀ U : State, U.heap = H → s.WarmedH U.vm → ctP (txs adK adV) D ws1 tys (.ref q1 :: As) H.size (Value.ref q1 :: As).toArray U) ∧
      ∀ (z : cS) (t : State) (H1 : Heap), t.heap = H1 → s.vm.Alike t.vm → ctR (txA adK) mp u z → ctB D ws1 H.size z t → (∀ q : Nat, q < H.size → ¬ va_A ws1 H.size q → H1[q]? = H[q]?) → ∃ ws' : va_W, Hf adK D s u q1 ws' H1 ∧ va_P D vwCl ws2 H1 ∧ Dj ws' ws2 := by
  obtain ⟨r, u, hF, hgl, hM⟩ := hih k Mm hM1 _ _ _ hq
  obtain ⟨mp, tys, a1, a2, a3, a4, a5, a6, a7⟩ := hW
  have hfree : ∀ q, va_A ws1 H.size q → lA s q := by
    rintro q (⟨j, e, h⟩ | h)
    · exact a5.2 j (q, e) h
    · exact Nat.le_trans hS.1 h
  have hav : vS (txA adK) mp ((2, 1) :: as) (.ref q1 :: As) := ⟨Or.inl ⟨1, rfl, Nat.le_refl 1, a7⟩, hAs mp⟩
  have hMet := hM mp tys ws1 (.ref q1 :: As) H.size a1 a2 a6 hav
  have hTX := txs_ok adK adV
  refine ⟨r, u, mp, tys, hF, hgl, hfree, hMet, ?_, ?_⟩
  · intro U hU hWm
    refine ⟨rfl, by rw [hU], by rw [hU]; exact a3, va_K.moved hWm.alike a4, a5.weaken (fun _ _ _ _ => trivial), ?_⟩
    rw [hU]
    exact hTX.2.1 _ s _ _ hWm (hTX.2.2.2 (lA s) _ _ _ hfree (hTX.2.2.1 (lA s) s s.heap H (fun q h1 h2 => hS.2.1 q h1 h2) hT0))
  · intro z t H1 ht hvm hr hBB hk
    obtain ⟨hB1, hB2, hB3⟩ := hBB
    rw [ht] at hB1
    refine ⟨z.2.2, ⟨z.1, z.2.1, hr.1, hr.2.1, hB1, va_K.moved hvm.symm hB2, hB3.weaken (fun _ _ _ h => hfree _ h), hr.2.2.1, hr.2.2.2 _ _ a7⟩, hB.kept (fun k q hq => hk q.1 (hB k q hq).lt (fun h => ?_)), ?_⟩
    · rcases h with ⟨j, e, h⟩ | h
      · exact hdis j k _ q h hq rfl
      · exact absurd (hB k q hq).lt (Nat.not_lt.mpr h)
    · intro i j x y h1 h2 h3
      rcases hB3.2 i x h1 with ⟨j', e, h⟩ | h
      · exact hdis j' j (x.1, e) y h h2 h3
      · have := (hB j y h2).lt
        omega
theorem Hf.recv {g : mH} {q : Nat} {ws : va_W} {H : Heap} (h : Hf adK D s g q ws H) {cl : Nat} (hcl : cl < 13) (hkd : mKd g 1 = 10 + cl) : ∃ cell : Cell, H[q]? = some cell ∧ cell.vm.isStatics = false ∧ s.vm.findClass (oN cl) = some cell.cls := by
  obtain ⟨mp, tys, a1, a2, a3, a4, a5, a6, a7⟩ := h
  obtain ⟨i, fs, o1, r0, o2, -⟩ := a2.obj a1 a7 hkd hcl
  obtain ⟨-, d1, -⟩ := cl_all cl hcl
  cases d1.symm.trans o2
  exact va_recv a4 a3 o2 o1
/-- one method of the law's two classes, as the law calls it -/
abbrev lwM (k n kr idx cl mL a0 a1 a2 a3 : Nat) : Prop := ((k, mL, 1, n, a0, a1, a2, a3) : mF) ∈ mFk ∧ (gG k).2.2.2.2 = kr ∧ Cond.methodLink R_law idx (gG k).1 ∈ Ws ∧ cl < 13 ∧ oN cl = (gG k).1.cls
theorem lw_run (hih : IHd l gT gG (txA adK) (txs adK adV) D Ws 60) (C0 : lw_At p s m meth c b L xs) (hT0 : txs adK adV (lA s) s s.heap)
    {k n kr idx cl mL a0 a1 a2 a3 pc : Nat} (hm : lwM k n kr idx cl mL a0 a1 a2 a3) (hd : decode code pc = .ok (.invokevirtual idx, 3))
    {g1 g2 : mH} {q1 q2 : Nat} {H : Heap} {locs : List Loc} {cells slots : Nat} (hW : Two adK D s g1 q1 g2 q2 H locs cells slots) (hkd : mKd g1 1 = 10 + cl) {as : List mV} {F : mPost} (hq : WPm gT 60 k ((2, 1) :: as) g1 F) (hroom : ∀ r u, F r u → u.2.2.2.1 + g2.2.2.2.1 ≤ 600000 ∧ u.2.2.2.2 + g2.2.2.2.2 ≤ 7302249)
    {As rest : List Value} {ls : Array Slot} (hls : ls.size = 4) (hAs : ∀ mp, vS (txA adK) mp as As) (hlen : As.length = n) (hcat : (rest.map fun v => v.category).sum ≤ 8) :
    ∃ (r : mV) (u : mH) (mp : Nat → Nat → Prop) (ws : va_W), F r u ∧ (∀ q, va_A ws H.size q → lA s q) ∧ va_Run p l e room_1 s m #[Value.ref b] below meth c H locs cells slots (u.2.2.2.1 - g1.2.2.2.1) (u.2.2.2.2 - g1.2.2.2.2) (F0 m pc ls (As.reverse ++ .ref q1 :: rest)) rest (ctQ kr (txA adK) mp u r D ws H.size (Value.ref q1 :: As).toArray) (va_A ws H.size) ∧
      ∀ (z : cS) (t : State) (H1 : Heap) (locs1 : List Loc), t.heap = H1 → s.vm.Alike t.vm → ctR (txA adK) mp u z → ctB D ws H.size z t → (∀ q : Nat, q < H.size → ¬ va_A ws H.size q → H1[q]? = H[q]?) → va_S (lA s) s.heap H1 locs1 → Two adK D s u q1 g2 q2 H1 locs1 (cells + (u.2.2.2.1 - g1.2.2.2.1)) (slots + (u.2.2.2.2 - g1.2.2.2.2)) := by
  obtain ⟨hx, hb, hr, hml, hown, hts0, hX, hbl, hlocks, hgv⟩ := C0
  have hts := lw_W hts0
  obtain ⟨hr0, hkr, hlk, hcl1, hcl2⟩ := hm
  obtain ⟨f1, f2, f3, f4, f5, f6, f7, f8, f9⟩ := mFk_ok _ hr0
  have f0 := mFk_cd _ hr0
  obtain ⟨M, hM1, hM2⟩ := hgT _ hr0
  have hM1 : gT k = some M := hM1
  have hM2 : M.2 = mL := hM2
  subst hM2
  obtain ⟨ws1, ws2, hA1, hA2, hdis, hS, c1, c2⟩ := hW
  obtain ⟨cell, o3, o4, o5⟩ := hA1.recv hcl1 hkd
  rw [hcl2] at o5
  obtain ⟨mp2, tys2, b1, b2, b3, b4, b5, b6, b7⟩ := hA2
  obtain ⟨r, u, mp, tys, hF, hgl, hfree, hMet, hPre, key⟩ := lw_pre hih hT0 hM1 hA1 b3 hdis hS hq hAs
  have hgl : g1.2.2.2.1 ≤ u.2.2.2.1 ∧ g1.2.2.2.2 ≤ u.2.2.2.2 := hgl
  obtain ⟨z1, z2⟩ := hroom r u hF
  rw [hkr] at hMet
  have wcode : Cond.code (gG k).1 (gG k).2.2.1 M.2 (gG k).2.2.2.1 ∈ Ws := Ws_in a0 f0 rfl
  have wini : Cond.initialized (gG k).1.cls ∈ Ws := Ws_in _ f3 rfl
  have win : Cond.instanceMethod (gG k).1 ∈ Ws := Ws_in _ f1 rfl
  have wse : Cond.selects (gG k).1.cls (gG k).1 (gG k).1 ∈ Ws := Ws_in _ (f2 rfl) rfl
  have hGd : GoodIn Ws (Cond.code (gG k).1 (gG k).2.2.1 M.2 (gG k).2.2.2.1 :: Ws) := Ws_good (fun w hw => by
    rcases List.mem_cons.mp hw with rfl | hw
    · exact wcode
    · exact hw)
  refine ⟨r, u, mp, ws1, hF, hfree, ?_, ?_⟩
  · exact va_runV ⟨hx, hb, hml, hown, hts⟩ hMet ⟨callB_of n hts hGd rfl rfl rfl (hts _ wini) (hts _ hlk) ⟨f5.1, f5.2, f4⟩ ⟨by show 60 + 8 + 1 ≤ 2048; omega, by show 8 + (M.2 + 11) + 100 * (60 + 8) ≤ 84000; omega⟩, hts _ win, hts _ wse⟩ ⟨ctP_blind (txs_ok adK adV), ⟨cell, o3, o4, o5⟩, hPre⟩ rfl hlen hls rfl (by
      have h0 : 2 * (F0 m pc ls (As.reverse ++ .ref q1 :: rest)).monitorRoom = 0 := rfl
      omega) hd ⟨by show _ ≤ 600000; omega, by show _ ≤ 7302249; omega⟩
  · intro z t H1 locs1 ht hvm hr hB hk hS1
    obtain ⟨ws', k1, k2, k3⟩ := key z t H1 ht hvm hr hB hk
    exact ⟨ws', ws2, k1, ⟨mp2, tys2, b1, b2, k2, b4, b5, b6, b7⟩, k3, hS1, by omega, by omega⟩
theorem lw_int (hih : IHd l gT gG (txA adK) (txs adK adV) D Ws 60) (C0 : lw_At p s m meth c b L xs) (hT0 : txs adK adV (lA s) s s.heap)
    {k n idx cl mL a0 a1 a2 a3 pc : Nat} (hm : lwM k n 1 idx cl mL a0 a1 a2 a3) (hd : decode code pc = .ok (.invokevirtual idx, 3))
    {g1 g2 : mH} {q1 q2 : Nat} {H : Heap} {locs : List Loc} {cells slots : Nat} (hW : Two adK D s g1 q1 g2 q2 H locs cells slots) (hkd : mKd g1 1 = 10 + cl) {as : List mV} {F : mPost} (hq : WPm gT 60 k ((2, 1) :: as) g1 F) (hroom : ∀ r u, F r u → u.2.2.2.1 + g2.2.2.2.1 ≤ 600000 ∧ u.2.2.2.2 + g2.2.2.2.2 ≤ 7302249)
    {As rest : List Value} {ls : Array Slot} (hls : ls.size = 4) (hAs : ∀ mp, vS (txA adK) mp as As) (hlen : As.length = n) (hcat : (rest.map fun v => v.category).sum ≤ 8)
    (cont : ∀ (r : mV) (u : mH), F r u → ∀ (x : Int32), r = (0, x.toInt) → ∀ (H1 : Heap) (locs1 : List Loc) (cells1 slots1 : Nat), Two adK D s u q1 g2 q2 H1 locs1 cells1 slots1 → W p l e room_1 s m #[Value.ref b] below meth c H1 locs1 cells1 slots1 Q (F0 m (pc + 3) ls (.int x :: rest))) :
    W p l e room_1 s m #[Value.ref b] below meth c H locs cells slots Q (F0 m pc ls (As.reverse ++ .ref q1 :: rest)) := by
  obtain ⟨r, u, mp, ws, hF, hfree, hrun, key⟩ := lw_run (below := below) (e := e) hih C0 hT0 hm hd hW hkd hq hroom hls hAs hlen hcat
  refine va_calli (a := (Value.ref q1 :: As).toArray) hrun hW.S (fun q _ h => hfree q h) hfree (fun x z t H1 locs1 ht hvm hpost hB _ hk hS1 => ?_)
  exact cont r u hF x hpost.1 H1 locs1 _ _ (key z t H1 locs1 ht hvm hpost.2 hB hk hS1)
theorem lw_long (hih : IHd l gT gG (txA adK) (txs adK adV) D Ws 60) (C0 : lw_At p s m meth c b L xs) (hT0 : txs adK adV (lA s) s s.heap)
    {k n idx cl mL a0 a1 a2 a3 pc : Nat} (hm : lwM k n 2 idx cl mL a0 a1 a2 a3) (hd : decode code pc = .ok (.invokevirtual idx, 3))
    {g1 g2 : mH} {q1 q2 : Nat} {H : Heap} {locs : List Loc} {cells slots : Nat} (hW : Two adK D s g1 q1 g2 q2 H locs cells slots) (hkd : mKd g1 1 = 10 + cl) {as : List mV} {F : mPost} (hq : WPm gT 60 k ((2, 1) :: as) g1 F) (hroom : ∀ r u, F r u → u.2.2.2.1 + g2.2.2.2.1 ≤ 600000 ∧ u.2.2.2.2 + g2.2.2.2.2 ≤ 7302249)
    {As rest : List Value} {ls : Array Slot} (hls : ls.size = 4) (hAs : ∀ mp, vS (txA adK) mp as As) (hlen : As.length = n) (hcat : (rest.map fun v => v.category).sum ≤ 8)
    (cont : ∀ (r : mV) (u : mH), F r u → ∀ (x : Int64), r = (1, x.toInt) → ∀ (H1 : Heap) (locs1 : List Loc) (cells1 slots1 : Nat), Two adK D s u q1 g2 q2 H1 locs1 cells1 slots1 → W p l e room_1 s m #[Value.ref b] below meth c H1 locs1 cells1 slots1 Q (F0 m (pc + 3) ls (.long x :: rest))) :
    W p l e room_1 s m #[Value.ref b] below meth c H locs cells slots Q (F0 m pc ls (As.reverse ++ .ref q1 :: rest)) := by
  obtain ⟨r, u, mp, ws, hF, hfree, hrun, key⟩ := lw_run (below := below) (e := e) hih C0 hT0 hm hd hW hkd hq hroom hls hAs hlen hcat
  refine va_calll (a := (Value.ref q1 :: As).toArray) hrun hW.S (fun q _ h => hfree q h) hfree (fun x z t H1 locs1 ht hvm hpost hB _ hk hS1 => ?_)
  exact cont r u hF x hpost.1 H1 locs1 _ _ (key z t H1 locs1 ht hvm hpost.2 hB hk hS1)
end LAW
