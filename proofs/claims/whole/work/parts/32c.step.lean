/-! ===== texts: rows of code that ask texts; every run of the small machine is a contract ===== -/
def txA (adK : Nat → Nat) : Nat → Nat := fun i => adK (if i < 2 then i else 2)
theorem m_tx2 : ∀ i : Nat, m_tx i = m_tx (if i < 2 then i else 2)
  | 0 => rfl
  | 1 => rfl
  | n + 2 => by rw [if_neg (by omega)]; rfl
section
variable {l : Launch} {adK adV : Nat → Nat} {D : va_G} {d o : Nat} {nm : String} {cc : ByteArray} {nL kr : Nat} {ret : Option FieldType}
theorem sm_text {p : Program} {e : Env} {R : Room} {s : State} {m : MethodId} {args : Array Value} {below : List Frame} {meth : Method} {c : Code} {Q : State → Prop} {A : Nat → Prop} {mp0 : Nat → Nat → Prop} {nc0 ns0 : Nat} {u : mH} {own : String}
    {y : MethodName} {bytes : ByteArray} {maxL : Nat} {rt : Option FieldType} {n j i idx pc : Nat} {As : List Value} {val : Int} (hi : i < 3) (hj : j ≤ 8) (hmx : maxL ≤ 60) (hM : Met l y (Cond.code y bytes maxL rt :: Ws) (rmT j) (tP (txs adK adV) (.ref (adK i) :: As)) (tQi (fun x => x.toInt = val)) 0 0 (fun _ => False)) (hG : GoodIn Ws (Cond.code y bytes maxL rt :: Ws)) (hin : Cond.instanceMethod y ∈ Ws) (hse : Cond.selects "java/lang/String" y y ∈ Ws) (hlk : Cond.methodLink own idx y ∈ Ws) (hds : y.cls ≠ "java/lang/invoke/MethodHandle" ∧ y.cls ≠ "java/lang/invoke/VarHandle" ∧ (parseMethodDescriptor y.desc).map (fun d => d.parameters.length) = some n) (hn : As.length = n) (hini : Cond.initialized y.cls ∈ Ws)
    (hx : p.tables.exec = Jvm.exec) (hb : c.code = cc) (hml : c.maxLocals = nL) (hown : s.vm.findClass own = some m.cls) (hts : ∀ w ∈ Ws, w.before args s = true) (hT0 : txs adK adV A s s.heap) (hfr : R.frames = d + 9) (hlo : R.locals = 100 * (d + 9)) (hu1 : u.2.2.2.1 = nc0 + R.cells) (hu2 : u.2.2.2.2 = ns0 + R.slots) (hd : decode cc pc = .ok (.invokevirtual idx, 3))
    {L rS : List mV} {g : mH} {st' : List Value} (hcat : (st'.map fun v => v.category).sum ≤ 8) (qs : Sm p l e R s m args below meth c Q nL (txA adK) D A mp0 nc0 ns0 (pc + 3, L, (0, val) :: rS, g)) (hgl : gl g u) {mp : Nat → Nat → Prop} {tys : List (ClassId × FieldType)} {ws : va_W} {H : Heap} {locs : List Loc} {cells slots : Nat} {ls : Array Slot} (hW : Wd (txA adK) D A s mp0 nc0 ns0 mp tys g ws H locs cells slots) (hL : lr (txA adK) mp L ls nL) (hS : vS (txA adK) mp rS st') : W p l e R s m args below meth c H locs cells slots Q (F0 m pc ls (As.reverse ++ .ref (adK i) :: st')) := by
  obtain ⟨hm, h0, hR, hP, hK, hD, hSS, c1, c2, hz⟩ := id hW
  have hg1 : g.2.2.2.1 ≤ u.2.2.2.1 := hgl.1
  have hg2 : g.2.2.2.2 ≤ u.2.2.2.2 := hgl.2
  have hTX := txs_ok adK adV
  have hpre : ∀ U : State, U.heap = H → s.WarmedH U.vm → tP (txs adK adV) (.ref (adK i) :: As) (Value.ref (adK i) :: As).toArray U := by
    intro U hU hWm
    refine ⟨rfl, ?_⟩
    show txs adK adV (fun _ => False) U U.heap
    rw [hU]
    exact hTX.2.1 _ s _ _ hWm (hTX.2.2.2 A _ _ _ (fun q h => h.elim) (hTX.2.2.1 A s s.heap H (fun q h1 h2 => hSS.2.1 q h1 h2) hT0))
  have hrun := va_runV (C := "java/lang/String") (As := As) (rest := st') (nL := nL) (g := F0 m pc ls (As.reverse ++ .ref (adK i) :: st')) (locs := locs) (cells := cells) (slots := slots) (below := below) (meth := meth) (e := e) ⟨hx, hb, hml, hown, hts⟩ hM ⟨callB_of n hts hG rfl rfl rfl (hts _ hini) (hts _ hlk) hds ⟨by rw [hfr]; show j + 1 ≤ d + 9; omega, by rw [hlo]; show 8 + (maxL + 11) + 100 * j ≤ 100 * (d + 9); omega⟩, hts _ hin, hts _ hse⟩ ⟨tP_blind hTX, vk_recv hT0.1 hi hSS, hpre⟩ rfl hn hL.1 rfl (by
    have h0 : 2 * (F0 m pc ls (As.reverse ++ .ref (adK i) :: st')).monitorRoom = 0 := rfl
    omega) hd ⟨by omega, by omega⟩
  refine va_calli hrun hSS (fun q _ h => h.elim) (fun q h => h.elim) (fun x z t H1 locs1 ht hvm hpost hB hz1 hk1 hS1 => ?_)
  exact qs mp tys ws H1 locs1 _ _ ls _ ⟨hm, h0, hR, hP.kept (fun k q hk => hk1 q.1 (hP k q hk).lt (fun f => f)), hK, hD, hS1, by omega, by omega, hz⟩ hL ⟨by show (0, val) = (0, x.toInt); rw [hpost], hS⟩
theorem tx_step : ∀ en : mE, 1007 ≤ en.2.2.2.1 → en.2.2.2.1 ≤ 1009 → ∀ {idx : Nat}, en.2.1 = .invokevirtual idx → (idx, en.2.2.2.1) ∈ (lBk o).map Prod.fst → decode cc en.1 = .ok (.invokevirtual idx, 3) → ∀ (p : Program) (e : Env) (R : Room) (s : State) (m : MethodId) (args : Array Value) (below : List Frame) (meth : Method) (c : Code) (A : Nat → Prop) (mp0 : Nat → Nat → Prop) (nc0 ns0 : Nat) (ws0 : va_W) (sz0 : Nat) (r : mV) (u : mH) (L S : List mV) (g : mH), Ctx (txs adK adV) Ws d (oN o) nm cc nL ret p R s m args meth c A ws0 sz0 nc0 ns0 u →
      stA (WPm gT d) (mIs r u) (fun z => Sm p l e R s m args below meth c (MQ below (ctQ kr (txA adK) mp0 u r D ws0 sz0) args s (u.2.2.2.1 - nc0) (u.2.2.2.2 - ns0) A) nL (txA adK) D A mp0 nc0 ns0 z ∧ gl z.2.2.2 u) (act en en.1 L S g) → Sm p l e R s m args below meth c (MQ below (ctQ kr (txA adK) mp0 u r D ws0 sz0) args s (u.2.2.2.1 - nc0) (u.2.2.2.2 - ns0) A) nL (txA adK) D A mp0 nc0 ns0 (en.1, L, S, g) := by
  rintro ⟨pc, ins, ln, a, b, c0, v, ps⟩ h1 h2 idx hins hlk hd p e R s m args below meth c A mp0 nc0 ns0 ws0 sz0 r u L S g hcx q
  have h1 : 1007 ≤ a := h1
  have h2 : a ≤ 1009 := h2
  have hins : ins = .invokevirtual idx := hins
  have hlk : (idx, a) ∈ (lBk o).map Prod.fst := hlk
  have hd : decode cc pc = .ok (.invokevirtual idx, 3) := hd
  subst hins
  obtain ⟨hx, hb, hml, hown, hts, hT0, hAe, hsz, hA, hret, hlocks, hnm, hfr, hlo, hu1, hu2⟩ := hcx
  have hl9 := lB_get hlk
  have hi9 : ∀ i : Nat, (if i < 2 then i else 2) < 3 := fun i => by split <;> omega
  rcases (show a = 1007 ∨ a = 1008 ∨ a = 1009 by omega) with rfl | rfl | rfl
  · rcases S with _ | ⟨o1, rS⟩
    · exact (show False from q).elim
    · obtain ⟨hb1, qs, hgl⟩ := cnd q
      obtain ⟨hb2, hb3⟩ := and2 hb1
      intro mp tys ws H locs cells slots ls stk hW hL hS
      obtain ⟨w0, st', rfl, hv, hrest⟩ := hS.cons
      obtain ⟨i, rfl, rfl⟩ := hv.t (beq_t hb2)
      have e0 : (mLenT (m_tx i) : Int) = (mLenT (m_tx (if i < 2 then i else 2)) : Nat) := by rw [m_tx2 i]
      have e1 := lenX_0 _ (hi9 i)
      have e2 := lenX_b _ (hi9 i)
      have hM : Met l yT_leng (Cond.code yT_leng prog_18_method_54_code 1 (some .int) :: Ws) (rmT 2) (tP (txs adK adV) (.ref (adK (if i < 2 then i else 2)) :: [])) (tQi (fun x => x.toInt = (mLenT (m_tx i) : Int))) 0 0 (fun _ => False) := by
        have := t_leng (l := l) (adK := adK) (adV := adV) (hi9 i)
        have hq : (fun x : Int32 => x.toInt = (mLenT (m_tx i) : Int)) = fun x : Int32 => x = nI (lenX.getD (if i < 2 then i else 2) 0) := by
          funext x
          rw [nu_eq, nI_toInt (by omega), e1.2, e0]
        rw [hq]
        exact this
      exact sm_text (n := 0) (As := []) (hi9 i) (by omega) (by omega) hM gT_leng wT_i_leng wT_s_leng hl9 ⟨by decide +kernel, by decide +kernel, by decide +kernel⟩ rfl wT_n1 hx hb hml hown hts hT0 hfr hlo hu1 hu2 hd (by rw [hrest.cats]; exact Nat.le_of_ble_eq_true hb3) qs hgl hW hL hrest
  · rcases S with _ | ⟨k1, _ | ⟨o1, rS⟩⟩
    · exact (show False from q).elim
    · exact (show False from q).elim
    · obtain ⟨hb1, ⟨hk0, hk1⟩, qs, hgl⟩ := cnd q
      obtain ⟨hb2, hb4⟩ := and2 hb1
      obtain ⟨hb2, hb3⟩ := and2 hb2
      intro mp tys ws H locs cells slots ls stk hW hL hS
      obtain ⟨w1, st1, rfl, hv1, hS1⟩ := hS.cons
      obtain ⟨w0, st', rfl, hv, hrest⟩ := hS1.cons
      obtain ⟨x1, rfl, rfl⟩ := hv1.i (beq_t hb2)
      obtain ⟨i, rfl, rfl⟩ := hv.t (beq_t hb3)
      have hk0 : 0 ≤ x1.toInt := hk0
      have hk1 : x1.toInt < (mLenT (m_tx i) : Int) := hk1
      have e1 := lenX_0 _ (hi9 i)
      have e2 := lenX_b _ (hi9 i)
      rw [m_tx2 i, ← e1.2] at hk1
      obtain ⟨k, hk⟩ : ∃ k : Nat, x1.toInt = (k : Int) := ⟨x1.toInt.toNat, by omega⟩
      have ek : x1 = nI k := nu_eq.mpr (by rw [nI_toInt (by omega)]; exact hk)
      subst ek
      have hkl : k < lenX.getD (if i < 2 then i else 2) 0 := by omega
      obtain ⟨b1, b2, b3, _⟩ := bytX_ok _ (hi9 i) k (by omega) hkl
      have hM : Met l yT_chrS (Cond.code yT_chrS prog_18_method_56_code 2 (some .char) :: Ws) (rmT 4) (tP (txs adK adV) (.ref (adK (if i < 2 then i else 2)) :: [.int (nI k)])) (tQi (fun x => x.toInt = mAtT (m_tx i) (nI k).toInt.toNat)) 0 0 (fun _ => False) := by
        have := t_chrS (l := l) (adK := adK) (adV := adV) (hi9 i) hkl
        have hq : (fun x : Int32 => x.toInt = mAtT (m_tx i) (nI k).toInt.toNat) = fun x : Int32 => x = Int32.ofInt (mAtT (m_tx (if i < 2 then i else 2)) k) := by
          funext x
          rw [nu_eq, b3, hk, Int.toNat_natCast, m_tx2 i]
        rw [hq]
        exact this
      exact sm_text (n := 1) (As := [.int (nI k)]) (hi9 i) (by omega) (by omega) hM gT_chrS wT_i_chrS wT_s_chrS hl9 ⟨by decide +kernel, by decide +kernel, by decide +kernel⟩ rfl wT_n1 hx hb hml hown hts hT0 hfr hlo hu1 hu2 hd (by rw [hrest.cats]; exact Nat.le_of_ble_eq_true hb4) qs hgl hW hL hrest
  · rcases S with _ | ⟨k1, _ | ⟨o1, rS⟩⟩
    · exact (show False from q).elim
    · exact (show False from q).elim
    · obtain ⟨hb1, ⟨hk0, hk1⟩, qs, hgl⟩ := cnd q
      obtain ⟨hb2, hb4⟩ := and2 hb1
      obtain ⟨hb2, hb3⟩ := and2 hb2
      obtain ⟨_, hb2⟩ := and2 hb2
      intro mp tys ws H locs cells slots ls stk hW hL hS
      obtain ⟨w1, st1, rfl, hv1, hS1⟩ := hS.cons
      obtain ⟨w0, st', rfl, hv, hrest⟩ := hS1.cons
      obtain ⟨x1, rfl, rfl⟩ := hv1.i (beq_t hb2)
      obtain ⟨i, rfl, rfl⟩ := hv.t (beq_t hb3)
      have hk0 : 0 ≤ x1.toInt := hk0
      have hk1 : x1.toInt < 256 := hk1
      obtain ⟨k, hk⟩ : ∃ k : Nat, x1.toInt = (k : Int) := ⟨x1.toInt.toNat, by omega⟩
      have ek : x1 = nI k := nu_eq.mpr (by rw [nI_toInt (by omega)]; exact hk)
      subst ek
      have hM : Met l yT_ix1 (Cond.code yT_ix1 prog_18_method_79_code 2 (some .int) :: Ws) (rmT 4) (tP (txs adK adV) (.ref (adK (if i < 2 then i else 2)) :: [.int (nI k)])) (tQi (fun x => x.toInt = m_ix (nI k).toInt (m_tx i) 0)) 0 0 (fun _ => False) := by
        have := t_ix1 (l := l) (adK := adK) (adV := adV) (ch := k) (hi9 i) (by omega)
        rw [hk, m_tx2 i]
        exact this
      exact sm_text (n := 1) (As := [.int (nI k)]) (hi9 i) (by omega) (by omega) hM gT_ix1 wT_i_ix1 wT_s_ix1 hl9 ⟨by decide +kernel, by decide +kernel, by decide +kernel⟩ rfl wT_n1 hx hb hml hown hts hT0 hfr hlo hu1 hu2 hd (by rw [hrest.cats]; exact Nat.le_of_ble_eq_true hb4) qs hgl hW hL hrest
end
