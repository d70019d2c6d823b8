/-! ===== every row of the code that is tested does as the small machine says ===== -/
theorem lw_max : Cond.static Lib.Math.max.name ∈ Ws ∧ Cond.initialized "java/lang/Math" ∈ Ws ∧ Cond.code Lib.Math.max.name Lib.Math.max.code 2 (some .int) ∈ Ws := ⟨Ws_in 3094 (by decide +kernel) (by decide +kernel), Ws_in 1014 (by decide +kernel) (by decide +kernel), Ws_in 3095 (by decide +kernel) (by decide +kernel)⟩
theorem lw_min : Cond.static Lib.Math.min.name ∈ Ws ∧ Cond.initialized "java/lang/Math" ∈ Ws ∧ Cond.code Lib.Math.min.name Lib.Math.min.code 2 (some .int) ∈ Ws := ⟨Ws_in 3004 (by decide +kernel) (by decide +kernel), Ws_in 1014 (by decide +kernel) (by decide +kernel), Ws_in 3005 (by decide +kernel) (by decide +kernel)⟩
theorem lw_abs : Cond.static Lib.Math.abs.name ∈ Ws ∧ Cond.initialized "java/lang/Math" ∈ Ws ∧ Cond.code Lib.Math.abs.name Lib.Math.abs.code 1 (some .int) ∈ Ws := ⟨Ws_in 4037 (by decide +kernel) (by decide +kernel), Ws_in 1014 (by decide +kernel) (by decide +kernel), Ws_in 4038 (by decide +kernel) (by decide +kernel)⟩
theorem lw_maxl : Cond.static Lib.MathLoose.max_long.x ∈ Ws ∧ Cond.initialized "java/lang/Math" ∈ Ws ∧ Cond.code Lib.MathLoose.max_long.x Lib.MathLoose.max_long.code 4 (some .long) ∈ Ws := ⟨Ws_in 4053 (by decide +kernel) (by decide +kernel), Ws_in 1014 (by decide +kernel) (by decide +kernel), Ws_in 4054 (by decide +kernel) (by decide +kernel)⟩
theorem lw_minl : Cond.static Lib.MathLoose.min_long.x ∈ Ws ∧ Cond.initialized "java/lang/Math" ∈ Ws ∧ Cond.code Lib.MathLoose.min_long.x Lib.MathLoose.min_long.code 4 (some .long) ∈ Ws := ⟨Ws_in 4050 (by decide +kernel) (by decide +kernel), Ws_in 1014 (by decide +kernel) (by decide +kernel), Ws_in 4051 (by decide +kernel) (by decide +kernel)⟩
theorem lw_copy : Cond.native arraycopyName ∈ Ws ∧ Cond.static arraycopyName ∈ Ws ∧ Cond.initialized "java/lang/System" ∈ Ws := ⟨Ws_in 4005 (by decide +kernel) (by decide +kernel), Ws_in 4004 (by decide +kernel) (by decide +kernel), Ws_in 1020 (by decide +kernel) (by decide +kernel)⟩
theorem lw_obj : Cond.instanceMethod objectInit ∈ Ws ∧ Cond.code objectInit ⟨#[0xb1]⟩ 1 none ∈ Ws := ⟨Ws_in 1028 (by decide +kernel) (by decide +kernel), Ws_in 1029 (by decide +kernel) (by decide +kernel)⟩
theorem aw_int : Cond.arrayClass (newarray.typeOf .int) ∈ Ws := Ws_in 1141 (by decide +kernel) (by decide +kernel)
theorem aw_byte : Cond.arrayClass (newarray.typeOf .byte) ∈ Ws := Ws_in 1140 (by decide +kernel) (by decide +kernel)
theorem aw_bool : Cond.arrayClass (newarray.typeOf .boolean) ∈ Ws := Ws_in 7001 (by decide +kernel) (by decide +kernel)
theorem aw_long : Cond.arrayClass (newarray.typeOf .long) ∈ Ws := Ws_in 2124 (by decide +kernel) (by decide +kernel)
/-- fields are ints, truths, references -/
def fokB (t : FieldType) : Bool := match t with
  | .int => true
  | .boolean => true
  | .object _ => true
  | .array _ => true
  | _ => false
theorem hnf : ∀ a, a < 13 → ∀ b, b < fNn a → fokB (fty a b) = true := by decide +kernel
/-- a call -/
theorem inv_ok {l : Launch} {gT : Nat → Option mM} {tx : Nat → Nat} {TX : tX} {D : va_G} {d o : Nat} {nm : String} {cc : ByteArray} {nL : Nat} {ret : Option FieldType} {Q : State → Prop} {op idx k n c : Nat} {cl : Int} {pc : Nat} (hTX : txOk TX) (hTn : ∀ (A : Nat → Prop) (U : State) (H : Heap), TX A U H → ∀ w ∈ nstW, va_Nw w U)
    (hgT : ∀ r ∈ mFk, ∃ M, gT r.1 = some M ∧ M.2 = r.2.1) (ih : IHd l gT gG tx TX D Ws d) {p : Program} {e : Env} {R : Room} {s : State} {m : MethodId} {args : Array Value} {below : List Frame} {meth : Method} {c0 : Code} {A : Nat → Prop} {mp0 : Nat → Nat → Prop} {nc0 ns0 : Nat} {ws0 : va_W} {sz0 : Nat} {u : mH} {L S : List mV} {g : mH} {Fp : mPost}
    (hcx : Ctx TX Ws d (oN o) nm cc nL ret p R s m args meth c0 A ws0 sz0 nc0 ns0 u) (hl : (op, idx, k, n, c, cl) ∈ (mLk o).map Prod.fst) (hd : (op = 0 ∧ decode cc pc = .ok (.invokestatic idx, 3)) ∨ (op = 1 ∧ decode cc pc = .ok (.invokevirtual idx, 3)) ∨ (op = 2 ∧ decode cc pc = .ok (.invokespecial idx, 3)))
    (q : stA (WPm gT d) Fp (fun z => Sm p l e R s m args below meth c0 Q nL tx D A mp0 nc0 ns0 z ∧ gl z.2.2.2 u) (aInv pc L S g k n c cl)) : Sm p l e R s m args below meth c0 Q nL tx D A mp0 nc0 ns0 (pc, L, S, g) := by
  obtain ⟨hx, hb, hml, hown, hts, hT0, hAe, hsz, hA, hret, hlocks, hnm, hfr, hlo, hu1, hu2⟩ := id hcx
  obtain ⟨⟨q0, f, pp⟩, hq, he⟩ := List.mem_map.mp hl
  cases he
  obtain ⟨hlink, rfl, -, hcl, r0, hr0, hk, hop, hn⟩ := mLk_ok o _ hq
  obtain ⟨i, mL, kd, pa, p0, p1, p2, p3⟩ := r0
  have hk : i = k := hk
  have hop : kd = op := hop
  subst hk; subst hop
  obtain ⟨f1, f2, f3, f4, f5, f6, f7, f8, f9⟩ := mFk_ok _ hr0
  have f0 := mFk_cd _ hr0
  obtain ⟨M, hM1, hM2⟩ := hgT _ hr0
  have hM1 : gT i = some M := hM1
  have hM2 : M.2 = mL := hM2
  subst hM2
  have wcode : Cond.code (gG i).1 (gG i).2.2.1 M.2 (gG i).2.2.2.1 ∈ Ws := Ws_in p0 f0 rfl
  have wini : Cond.initialized (gG i).1.cls ∈ Ws := Ws_in _ f3 rfl
  have hGd : GoodIn Ws (Cond.code (gG i).1 (gG i).2.2.1 M.2 (gG i).2.2.2.1 :: Ws) := Ws_good (fun w hw => by
    rcases List.mem_cons.mp hw with rfl | hw
    · exact wcode
    · exact hw)
  have hRm : ∀ mc ms, (rmD d mc ms).frames + 1 ≤ R.frames ∧ 8 + (M.2 + 11) + (rmD d mc ms).locals ≤ R.locals := fun mc ms => ⟨by rw [hfr]; show d + 8 + 1 ≤ d + 9; omega, by rw [hlo]; show 8 + (M.2 + 11) + 100 * (d + 8) ≤ 100 * (d + 9); omega⟩
  have hcf : CallFix p m c0 cc nL s args Ws (oN o) := ⟨hx, hb, hml, hown, hts⟩
  refine sm_inv (y := (gG i).1) (wy := Cond.code (gG i).1 (gG i).2.2.1 M.2 (gG i).2.2.2.1 :: Ws) (d := d) hTX hT0 hA ⟨hu1, hu2⟩ (fun h0 => by rcases hcl with ⟨-, h⟩ | ⟨-, h, h', -⟩ <;> omega) (fun as h F hC => ih i M hM1 as h F hC) ?_ q
  intro H locs cells slots ls rest As mc ms Pc Qc free hMet hbl hPre hrcv hlen hsize hcat hroom
  have hroomW : 2 * (F0 m pc ls (As.reverse ++ rest)).monitorRoom + (rest.map fun v => v.category).sum ≤ 8 := by
    have h0 : 2 * (F0 m pc ls (As.reverse ++ rest)).monitorRoom = 0 := rfl
    omega
  rcases hd with ⟨rfl, hd⟩ | ⟨rfl, hd⟩ | ⟨rfl, hd⟩
  · have hn : n = pa := hn
    subst hn
    have wst : Cond.static (gG i).1 ∈ Ws := Ws_in _ f1 rfl
    rcases hlink with ⟨-, hlk⟩ | ⟨-, hlk⟩
    · exact va_runS hcf hMet ⟨callB_of n hts hGd rfl rfl rfl (hts _ wini) (hts _ (Ws_in _ hlk rfl)) ⟨f5.1, f5.2, f4⟩ (hRm mc ms), hts _ wst⟩ ⟨hbl, hPre⟩ rfl hlen hsize rfl hroomW hd hroom
    · exact va_runSN hcf hMet ⟨va_cnB n hts hGd rfl rfl rfl (hTn A s s.heap hT0 _ (tnth_mem hlk)) (hts _ wini) ⟨f5.1, f5.2, f4⟩ (hRm mc ms), hts _ wst, trivial⟩ ⟨hbl, hPre⟩ rfl hlen hsize rfl hroomW hd hroom
  · have hn : n = pa + 1 := hn
    have win : Cond.instanceMethod (gG i).1 ∈ Ws := Ws_in _ f1 rfl
    have wse : Cond.selects (gG i).1.cls (gG i).1 (gG i).1 ∈ Ws := Ws_in _ (f2 rfl) rfl
    rcases hcl with ⟨h, -⟩ | ⟨-, h1, h2, h3⟩
    · omega
    rcases hrcv with h | ⟨b, As', r1, rfl, o1, cell, o2, o3, o4⟩
    · omega
    obtain ⟨-, c1, -⟩ := cl_all cl.toNat (by omega)
    cases c1.symm.trans o1
    have o4 : s.vm.findClass (oN cl.toNat) = some cell.cls := o4
    rw [h3] at o4
    have hlen : As'.length = pa := by have : As'.length + 1 = n := hlen; omega
    have hst : (Value.ref b :: As').reverse ++ rest = As'.reverse ++ .ref b :: rest := by simp
    rw [hst] at hroomW ⊢
    rcases hlink with ⟨-, hlk⟩ | ⟨-, hlk⟩
    · exact va_runV hcf hMet ⟨callB_of pa hts hGd rfl rfl rfl (hts _ wini) (hts _ (Ws_in _ hlk rfl)) ⟨f5.1, f5.2, f4⟩ (hRm mc ms), hts _ win, hts _ wse⟩ ⟨hbl, ⟨cell, o2, o3, o4⟩, hPre⟩ rfl hlen hsize rfl hroomW hd hroom
    · exact va_runVN hcf hMet ⟨va_cnB pa hts hGd rfl rfl rfl (hTn A s s.heap hT0 _ (tnth_mem hlk)) (hts _ wini) ⟨f5.1, f5.2, f4⟩ (hRm mc ms), hts _ win, hts _ wse⟩ ⟨hbl, ⟨cell, o2, o3, o4⟩, hPre⟩ rfl hlen hsize rfl hroomW hd hroom
  · have hn : n = pa + 1 := hn
    have win : Cond.instanceMethod (gG i).1 ∈ Ws := Ws_in _ f1 rfl
    obtain ⟨g1, g2⟩ := f7 rfl
    rcases hcl with ⟨h, -⟩ | ⟨-, h1, h2, h3⟩
    · omega
    rcases hrcv with h | ⟨b, As', r1, rfl, -⟩
    · omega
    have hlen : As'.length = pa := by have : As'.length + 1 = n := hlen; omega
    have hst : (Value.ref b :: As').reverse ++ rest = As'.reverse ++ .ref b :: rest := by simp
    rw [hst] at hroomW ⊢
    rw [g2] at hMet hGd
    rcases hlink with ⟨-, hlk⟩ | ⟨-, hlk⟩
    · exact va_runI hcf hMet ⟨callB_of pa hts hGd rfl rfl rfl (hts _ wini) (hts _ (Ws_in _ hlk rfl)) ⟨f5.1, f5.2, f4⟩ (hRm mc ms), g1, hts _ win⟩ ⟨hbl, hPre⟩ rfl hlen hsize rfl hroomW hd hroom
    · exact va_runIN hcf hMet ⟨va_cnB pa hts hGd rfl rfl rfl (hTn A s s.heap hT0 _ (tnth_mem hlk)) (hts _ wini) ⟨f5.1, f5.2, f4⟩ (hRm mc ms), g1, hts _ win⟩ ⟨hbl, hPre⟩ rfl hlen hsize rfl hroomW hd hroom
set_option maxHeartbeats 4000000 in
theorem step_ok {l : Launch} {gT : Nat → Option mM} {tx : Nat → Nat} {TX : tX} {D : va_G} {d o : Nat} {nm : String} {cc : ByteArray} {nL kr : Nat} {ret : Option FieldType} (hTX : txOk TX) (hTn : ∀ (A : Nat → Prop) (U : State) (H : Heap), TX A U H → ∀ w ∈ nstW, va_Nw w U) (hTo : ∀ (A : Nat → Prop) (U : State) (H : Heap) (a : Nat), TX A U H → (a = 2 ∨ a = 7 ∨ a = 8) → va_AO (oN a) U)
    (hTt : ∀ (A : Nat → Prop) (U : State) (H : Heap) (o idx : Nat) (v : Int), TX A U H → (o, idx, v) ∈ tXk → ∃ z : Nat, v = (z : Int) ∧ ∀ {p : Program} {l : Launch} {e : Env} {R : Room} {m : MethodId} {args : Array Value} {below : List Frame} {meth : Method} {c : Code} {H : Heap} {locs : List Loc} {cells slots : Nat} {Q : State → Prop} {cc : ByteArray} {pc : Nat} {ls : Array Slot} {rest : List Value}, p.tables.exec = Jvm.exec → c.code = cc → U.vm.findClass (oN o) = some m.cls → decode cc pc = .ok (.ldc idx, 2) → W p l e R U m args below meth c H locs cells slots Q (F0 m (pc + 2) ls (.ref (tx z) :: rest)) → W p l e R U m args below meth c H locs cells slots Q (F0 m pc ls rest))
    (hgT : ∀ r ∈ mFk, ∃ M, gT r.1 = some M ∧ M.2 = r.2.1)
    (hTs : ∀ en : mE, 1007 ≤ en.2.2.2.1 → en.2.2.2.1 ≤ 1009 → ∀ {idx : Nat}, en.2.1 = .invokevirtual idx → (idx, en.2.2.2.1) ∈ (lBk o).map Prod.fst → decode cc en.1 = .ok (.invokevirtual idx, 3) → ∀ (p : Program) (e : Env) (R : Room) (s : State) (m : MethodId) (args : Array Value) (below : List Frame) (meth : Method) (c : Code) (A : Nat → Prop) (mp0 : Nat → Nat → Prop) (nc0 ns0 : Nat) (ws0 : va_W) (sz0 : Nat) (r : mV) (u : mH) (L S : List mV) (g : mH), Ctx TX Ws d (oN o) nm cc nL ret p R s m args meth c A ws0 sz0 nc0 ns0 u →
      stA (WPm gT d) (mIs r u) (fun z => Sm p l e R s m args below meth c (MQ below (ctQ kr tx mp0 u r D ws0 sz0) args s (u.2.2.2.1 - nc0) (u.2.2.2.2 - ns0) A) nL tx D A mp0 nc0 ns0 z ∧ gl z.2.2.2 u) (act en en.1 L S g) → Sm p l e R s m args below meth c (MQ below (ctQ kr tx mp0 u r D ws0 sz0) args s (u.2.2.2.1 - nc0) (u.2.2.2.2 - ns0) A) nL tx D A mp0 nc0 ns0 (en.1, L, S, g))
    {en : mE} (hok : okB o nm ret kr en = true) (hd : decode cc en.1 = .ok (en.2.1, en.2.2.1)) : StepOK l gT tx TX D Ws (IHd l gT gG tx TX D Ws) d (oN o) nm cc nL ret kr en := by
  intro ih p e R s m args below meth c0 A mp0 nc0 ns0 ws0 sz0 r u L S g hcx q
  have hcx0 := hcx
  have hglu : gl g u := stA_gl (fun k as h F hq => by
    cases hT : gT k with
    | none =>
      cases d with
      | zero => exact hq.elim
      | succ d => unfold WPm at hq; rw [hT] at hq; exact hq.elim
    | some M =>
      obtain ⟨r, u, h1, h2, -⟩ := ih k M hT as h F hq
      exact ⟨r, u, h1, h2⟩) (act_gr en en.1 L S g) q
  obtain ⟨hx, hb, hml, hown, hts, hT0, hAe, hsz, hA, hret, hlocks, hnm, hfr, hlo, hu1, hu2⟩ := hcx0
  have hcx0 := hcx
  have q1 := stA_mono (WPm_mono gT d) (fun _ _ h => h) (fun z h => h.1) q
  obtain ⟨pc, i, n, a, b, c, v, ps⟩ := en
  have hd : decode cc pc = .ok (i, n) := hd
  cases i with
  | iconst x =>
    obtain ⟨rfl, hv⟩ := of_decide_eq_true hok
    exact sm_push (w := .int (Int32.ofInt x)) (fun _ => by show (0, v) = (0, (Int32.ofInt x).toInt); rw [hv]) (fun _ _ _ _ _ _ k => lv_iconst hx hb hd rfl k) q1
  | bipush x =>
    obtain ⟨rfl, hv⟩ := of_decide_eq_true hok
    exact sm_push (w := .int (Int8.ofInt x).toInt32) (fun _ => by show (0, v) = (0, ((Int8.ofInt x).toInt32).toInt); rw [hv]) (fun _ _ _ _ _ _ k => lv_bipush hx hb hd rfl k) q1
  | sipush x =>
    obtain ⟨rfl, hv⟩ := of_decide_eq_true hok
    exact sm_push (w := .int (Int16.ofInt x).toInt32) (fun _ => by show (0, v) = (0, ((Int16.ofInt x).toInt32).toInt); rw [hv]) (fun _ _ _ _ _ _ k => lv_sipush hx hb hd rfl k) q1
  | ldc idx =>
    obtain ⟨rfl, hv⟩ := of_decide_eq_true hok
    rcases hv with ⟨rfl, hv⟩ | ⟨rfl, hv⟩
    · obtain ⟨h1, h2⟩ := cI_get hv
      exact sm_push (w := .int (Int32.ofInt v)) (fun _ => by show (0, v) = (0, (Int32.ofInt v).toInt); rw [h1]) (fun _ _ _ _ _ _ k => lv_ldc hx hb hown (hts _ h2) hd k) q1
    · obtain ⟨z, h1, h2⟩ := hTt A s s.heap o idx v hT0 hv
      exact sm_push (w := .ref (tx z)) (fun _ => Or.inr ⟨z, by rw [h1], rfl⟩) (fun _ _ _ _ _ _ k => h2 hx hb hown hd k) q1
  | ldc_w idx =>
    obtain ⟨rfl, hv⟩ := of_decide_eq_true hok
    obtain ⟨h1, h2⟩ := cI_get hv
    exact sm_push (w := .int (Int32.ofInt v)) (fun _ => by show (0, v) = (0, (Int32.ofInt v).toInt); rw [h1]) (fun _ _ _ _ _ _ k => lv_ldcw hx hb hown (hts _ h2) hd k) q1
  | lconst x =>
    obtain ⟨rfl, hv⟩ := of_decide_eq_true hok
    exact sm_push (w := .long (Int64.ofNat (x : Nat))) (fun _ => by show (1, v) = (1, (Int64.ofNat (x : Nat)).toInt); rw [hv]) (fun _ _ _ _ _ _ k => lv_lconst hx hb hd rfl k) q1
  | ldc2_w idx =>
    obtain ⟨rfl, hv⟩ := of_decide_eq_true hok
    obtain ⟨h1, h2⟩ := cL_get hv
    exact sm_push (w := .long (Int64.ofInt v)) (fun _ => by show (1, v) = (1, (Int64.ofInt v).toInt); rw [h1]) (fun _ _ _ _ _ _ k => lv_ldc2 hx hb hown (hts _ h2) hd k) q1
  | iload x =>
    obtain ⟨rfl, rfl⟩ := of_decide_eq_true hok
    exact sm_loadI (fun _ _ _ _ _ _ _ hl k => lv_iload hx hb hd hl k) q1
  | lload x =>
    obtain ⟨rfl, rfl⟩ := of_decide_eq_true hok
    exact sm_loadL (fun _ _ _ _ _ _ _ hl k => lv_lload hx hb hd hl k) q1
  | aload x =>
    obtain ⟨rfl, rfl⟩ := of_decide_eq_true hok
    exact sm_loadA (fun _ _ _ _ _ _ _ hl k => lv_aload hx hb hd hl k) (fun _ _ _ _ _ _ hl k => lv_aloadN hx hb hd hl k) q1
  | istore x =>
    obtain ⟨rfl, rfl⟩ := of_decide_eq_true hok
    exact sm_storeI (fun _ _ _ _ _ _ _ _ h1 h2 k => lv_istore hx hb hd h1 h2 rfl k) q1
  | lstore x =>
    obtain ⟨rfl, rfl⟩ := of_decide_eq_true hok
    exact sm_storeL (fun _ _ _ _ _ _ _ _ h1 h2 k => lv_lstore hx hb hd h1 h2 rfl k) q1
  | astore x =>
    obtain ⟨rfl, rfl⟩ := of_decide_eq_true hok
    exact sm_storeA (fun _ _ _ _ _ _ _ _ h1 h2 k => lv_astore hx hb hd h1 h2 rfl k) (fun _ _ _ _ _ _ _ h1 h2 k => lv_astoreN hx hb hd h1 h2 rfl k) q1
  | iload_n x =>
    obtain ⟨rfl, rfl⟩ := of_decide_eq_true hok
    exact sm_loadI (fun _ _ _ _ _ _ _ hl k => lv_iload_n hx hb hd rfl hl k) q1
  | lload_n x =>
    obtain ⟨rfl, rfl⟩ := of_decide_eq_true hok
    exact sm_loadL (fun _ _ _ _ _ _ _ hl k => lv_lload_n hx hb hd rfl hl k) q1
  | aload_n x =>
    obtain ⟨rfl, rfl⟩ := of_decide_eq_true hok
    exact sm_loadA (fun _ _ _ _ _ _ _ hl k => lv_aload_n hx hb hd rfl hl k) (fun _ _ _ _ _ _ hl k => lv_aload_nN hx hb hd rfl hl k) q1
  | istore_n x =>
    obtain ⟨rfl, rfl⟩ := of_decide_eq_true hok
    exact sm_storeI (fun _ _ _ _ _ _ _ _ h1 h2 k => lv_istore_n hx hb hd rfl h1 h2 rfl k) q1
  | lstore_n x =>
    obtain ⟨rfl, rfl⟩ := of_decide_eq_true hok
    exact sm_storeL (fun _ _ _ _ _ _ _ _ h1 h2 k => lv_lstore_n hx hb hd rfl h1 h2 rfl k) q1
  | astore_n x =>
    obtain ⟨rfl, rfl⟩ := of_decide_eq_true hok
    exact sm_storeA (fun _ _ _ _ _ _ _ _ h1 h2 k => lv_astore_n hx hb hd rfl h1 h2 rfl k) (fun _ _ _ _ _ _ _ h1 h2 k => lv_astore_nN hx hb hd rfl h1 h2 rfl k) q1
  | iinc x y =>
    obtain ⟨rfl, rfl, rfl⟩ := of_decide_eq_true hok
    exact sm_iinc (fun _ _ _ _ _ _ _ _ _ h1 h2 h3 k => lv_iinc hx hb hd h1 h2 rfl h3 rfl k) q1
  | dup =>
    cases of_decide_eq_true hok
    rcases S with _ | ⟨x, r2⟩
    · exact (show False from q1).elim
    exact sm_dup (S := x :: r2) (fun _ _ _ _ _ _ _ h k => lv_dup hx hb hd h k) q1
  | dup2 =>
    cases of_decide_eq_true hok
    rcases S with _ | ⟨x, _ | ⟨y, r2⟩⟩
    · exact (show False from q1).elim
    · exact (show False from q1).elim
    exact sm_dup2 (S := x :: y :: r2) (fun _ _ _ _ _ _ _ _ h h2 k => lv_dup2_11 hx hb hd h h2 k) q1
  | pop =>
    cases of_decide_eq_true hok
    rcases S with _ | ⟨x, r2⟩
    · exact (show False from q1).elim
    exact sm_pop (S := x :: r2) (fun _ _ _ _ _ _ _ h k => lv_pop hx hb hd h k) q1
  | pop2 =>
    cases of_decide_eq_true hok
    rcases S with _ | ⟨x, r2⟩
    · exact (show False from q1).elim
    exact sm_pop2 (S := x :: r2) (fun _ _ _ _ _ _ _ h k => lv_pop2_2 hx hb hd h k) q1
  | iadd =>
    cases of_decide_eq_true hok
    exact sm_bin (F := fun x y => w32 (x + y)) nu_add (fun _ _ _ _ _ _ _ _ k => lv_iadd hx hb hd k) q1
  | isub =>
    cases of_decide_eq_true hok
    exact sm_bin (F := fun x y => w32 (x - y)) nu_sub (fun _ _ _ _ _ _ _ _ k => lv_isub hx hb hd k) q1
  | imul =>
    cases of_decide_eq_true hok
    exact sm_bin (F := fun x y => w32 (x * y)) nu_mul (fun _ _ _ _ _ _ _ _ k => lv_imul hx hb hd k) q1
  | iand =>
    cases of_decide_eq_true hok
    exact sm_bin nu_and (fun _ _ _ _ _ _ _ _ k => lv_iand hx hb hd k) q1
  | ior =>
    cases of_decide_eq_true hok
    exact sm_bin nu_or (fun _ _ _ _ _ _ _ _ k => lv_ior hx hb hd k) q1
  | ixor =>
    cases of_decide_eq_true hok
    exact sm_bin nu_xor (fun _ _ _ _ _ _ _ _ k => lv_ixor hx hb hd k) q1
  | ishl =>
    cases of_decide_eq_true hok
    exact sm_bin nu_shl (fun _ _ _ _ _ _ _ _ k => lv_ishl hx hb hd k) q1
  | ishr =>
    cases of_decide_eq_true hok
    exact sm_bin nu_shr (fun _ _ _ _ _ _ _ _ k => lv_ishr hx hb hd k) q1
  | iushr =>
    cases of_decide_eq_true hok
    exact sm_bin nu_ushr (fun _ _ _ _ _ _ _ _ k => lv_iushr hx hb hd rfl k) q1
  | idiv =>
    cases of_decide_eq_true hok
    exact sm_div nu_div (fun _ _ _ _ _ _ _ _ h k => lv_idiv hx hb hd h k) q1
  | irem =>
    cases of_decide_eq_true hok
    exact sm_div nu_rem (fun _ _ _ _ _ _ _ _ h k => lv_irem hx hb hd h k) q1
  | ineg =>
    cases of_decide_eq_true hok
    exact sm_un (F := fun x => w32 (-x)) nu_neg (fun _ _ _ _ _ _ _ k => lv_ineg hx hb hd k) q1
  | ladd =>
    cases of_decide_eq_true hok
    exact sm_binL (F := fun x y => w64 (x + y)) nl_add (fun _ _ _ _ _ _ _ _ k => lv_ladd hx hb hd k) q1
  | lsub =>
    cases of_decide_eq_true hok
    exact sm_binL (F := fun x y => w64 (x - y)) nl_sub (fun _ _ _ _ _ _ _ _ k => lv_lsub hx hb hd k) q1
  | lmul =>
    cases of_decide_eq_true hok
    exact sm_binL (F := fun x y => w64 (x * y)) nl_mul (fun _ _ _ _ _ _ _ _ k => lv_lmul hx hb hd k) q1
  | land =>
    cases of_decide_eq_true hok
    exact sm_binL nl_and (fun _ _ _ _ _ _ _ _ k => lv_land hx hb hd k) q1
  | lor =>
    cases of_decide_eq_true hok
    exact sm_binL nl_or (fun _ _ _ _ _ _ _ _ k => lv_lor hx hb hd k) q1
  | lshl =>
    cases of_decide_eq_true hok
    exact sm_shL nl_shl (fun _ _ _ _ _ _ _ _ k => lv_lshl hx hb hd rfl k) q1
  | lshr =>
    cases of_decide_eq_true hok
    exact sm_shL nl_shr (fun _ _ _ _ _ _ _ _ k => lv_lshr hx hb hd rfl k) q1
  | ldiv =>
    cases of_decide_eq_true hok
    exact sm_divL nl_div (fun _ _ _ _ _ _ _ _ h k => lv_ldiv hx hb hd h k) q1
  | lrem =>
    cases of_decide_eq_true hok
    exact sm_divL nl_rem (fun _ _ _ _ _ _ _ _ h k => lv_lrem hx hb hd h k) q1
  | lcmp =>
    cases of_decide_eq_true hok
    exact sm_cmpL nl_cmp (fun _ _ _ _ _ _ _ _ k => W.lcmp hx hb hd k) q1
  | i2l =>
    cases of_decide_eq_true hok
    exact sm_i2l (F := fun x => x) nu_i2l (fun _ _ _ _ _ _ _ k => lv_i2l hx hb hd rfl k) q1
  | l2i =>
    cases of_decide_eq_true hok
    exact sm_l2i nu_l2i (fun _ _ _ _ _ _ _ k => lv_l2i hx hb hd rfl k) q1
  | i2b =>
    cases of_decide_eq_true hok
    exact sm_un nu_i2b (fun _ _ _ _ _ _ _ k => lv_i2b hx hb hd rfl k) q1
  | i2s =>
    cases of_decide_eq_true hok
    exact sm_un nu_i2s (fun _ _ _ _ _ _ _ k => lv_i2s hx hb hd rfl k) q1
  | i2c =>
    cases of_decide_eq_true hok
    exact sm_un nu_i2c (fun _ _ _ _ _ _ _ k => lv_i2c hx hb hd rfl k) q1
  | ifCond cnd0 off =>
    obtain ⟨rfl, ht⟩ := of_decide_eq_true hok
    cases cnd0 with
    | eq => exact sm_if1 (r0 := .eq) (P := fun x => x = 0) (fun x => nu_eq) (fun _ _ _ _ _ _ _ kt kf => lv_if_eq hx hb hd ht kt kf) q1
    | ne => exact sm_if1 (r0 := .ne) (P := fun x => ¬ x = 0) (fun x => (not_congr nu_eq)) (fun _ _ _ _ _ _ _ kt kf => lv_if_ne hx hb hd ht kt (fun h => kf (fun n => n h))) q1
    | lt => exact sm_if1 (r0 := .lt) (P := fun x => x < 0) (fun x => nu_lt) (fun _ _ _ _ _ _ _ kt kf => lv_if_lt hx hb hd ht kt kf) q1
    | ge => exact sm_if1 (r0 := .ge) (P := fun x => 0 ≤ x) (fun x => nu_le) (fun _ _ _ _ _ _ _ kt kf => lv_if_ge hx hb hd ht kt kf) q1
    | gt => exact sm_if1 (r0 := .gt) (P := fun x => 0 < x) (fun x => nu_lt) (fun _ _ _ _ _ _ _ kt kf => lv_if_gt hx hb hd ht kt kf) q1
    | le => exact sm_if1 (r0 := .le) (P := fun x => x ≤ 0) (fun x => nu_le) (fun _ _ _ _ _ _ _ kt kf => lv_if_le hx hb hd ht kt kf) q1
  | if_icmp cnd0 off =>
    obtain ⟨rfl, ht⟩ := of_decide_eq_true hok
    cases cnd0 with
    | eq => exact sm_if2 (r0 := .eq) (P := fun x y => x = y) (fun x y => nu_eq) (fun _ _ _ _ _ _ _ _ kt kf => lv_icmp_eq hx hb hd ht kt kf) q1
    | ne => exact sm_if2 (r0 := .ne) (P := fun x y => ¬ x = y) (fun x y => (not_congr nu_eq)) (fun _ _ _ _ _ _ _ _ kt kf => lv_icmp_ne hx hb hd ht kt (fun h => kf (fun n => n h))) q1
    | lt => exact sm_if2 (r0 := .lt) (P := fun x y => x < y) (fun x y => nu_lt) (fun _ _ _ _ _ _ _ _ kt kf => lv_icmp_lt hx hb hd ht kt kf) q1
    | ge => exact sm_if2 (r0 := .ge) (P := fun x y => y ≤ x) (fun x y => nu_le) (fun _ _ _ _ _ _ _ _ kt kf => lv_icmp_ge hx hb hd ht kt kf) q1
    | gt => exact sm_if2 (r0 := .gt) (P := fun x y => y < x) (fun x y => nu_lt) (fun _ _ _ _ _ _ _ _ kt kf => lv_icmp_gt hx hb hd ht kt kf) q1
    | le => exact sm_if2 (r0 := .le) (P := fun x y => x ≤ y) (fun x y => nu_le) (fun _ _ _ _ _ _ _ _ kt kf => lv_icmp_le hx hb hd ht kt kf) q1
  | ifnull off =>
    obtain ⟨rfl, ht⟩ := of_decide_eq_true hok
    exact sm_null (b := true) (fun _ _ _ _ _ _ _ k => lv_ifnull hx hb hd k) (fun _ _ _ _ _ _ k => lv_ifnullN hx hb hd ht k) q1
  | ifnonnull off =>
    obtain ⟨rfl, ht⟩ := of_decide_eq_true hok
    exact sm_null (b := false) (fun _ _ _ _ _ _ _ k => lv_ifnonnull hx hb hd ht k) (fun _ _ _ _ _ _ k => lv_ifnonnullN hx hb hd k) q1
  | goto off =>
    obtain ⟨rfl, ht⟩ := of_decide_eq_true hok
    exact sm_goto (fun _ _ _ _ _ _ k => lv_goto hx hb hd ht k) q1
  | tableswitch df lo hi offs =>
    obtain ⟨rfl, h1, h2, ht⟩ := of_decide_eq_true hok
    refine sm_sw (fun _ _ _ _ _ _ x k => ?_) q1
    by_cases hin : lo ≤ x.toInt ∧ x.toInt < lo + offs.toList.length
    · obtain ⟨f, h3, h4⟩ := tsP_in (pc := pc) (d := a) offs.toList lo hin.1 hin.2
      rw [h4] at k
      have h5 := h2 f (List.mem_of_getElem? h3)
      exact lv_tableIn hx hb hd (by omega) (by omega) (by rw [← Array.getElem?_toList]; exact h3) (by omega) k
    · rw [tsP_out (pc := pc) (d := a) offs.toList lo (by omega)] at k
      exact lv_tableOut hx hb hd (by omega) ht k
  | lookupswitch df prs =>
    obtain ⟨rfl, h1, h2, ht⟩ := of_decide_eq_true hok
    refine sm_sw (fun _ _ _ _ _ _ x k => ?_) q1
    have h3 := lsP_ok (pc := pc) (x := x.toInt) (df := df) (by omega) prs.toList h2
    have ha : ((pc : Int) + df).toNat = a := by omega
    rw [ha] at h3
    exact lv_lookup hx hb hd h1 rfl h3 k
  | getfield idx =>
    obtain ⟨rfl, hl⟩ := of_decide_eq_true hok
    obtain ⟨h1, h2, h3, h4⟩ := fL_get hl
    obtain ⟨-, c1, c2, -⟩ := cl_all a h1
    exact sm_get (r0 := (oN a, fTb a, fNn a)) c1 h2 h3 (fun _ _ _ _ _ _ ws tys q0 z fs w hK hP he hv k => va_get (own := oN o) (C := oN a) (T := fTb a) (N := fNn a) (ref := (fTb a b).1) hx hb hts c2 hown hK hP q0 he c1 b h2 (hts _ h4) (fun _ y => y) hv hd k) q1
  | putfield idx =>
    obtain ⟨rfl, hl, hfi⟩ := of_decide_eq_true hok
    obtain ⟨h1, h2, h3, h4⟩ := fL_get hl
    obtain ⟨-, c1, c2, c3, c4, c5, -⟩ := cl_all a h1
    have hrow : ∀ (H : Heap) (locs : List Loc) (cells slots : Nat) (ls : Array Slot) (rest : List Value) (ws : va_W) (tys : List (ClassId × FieldType)) (q0 z : Nat) (fs : List Value) (w : Value), va_K D vwCl tys s → va_P D vwCl ws H → va_D A ws → va_S A s.heap H locs → ws[q0]? = some (z, .inr (a, fs)) → b < fs.length → narrow (fty a b) w = w → fits (fty a b) w = true → (∀ (H1 : Heap) (locs1 : List Loc), va_P D vwCl (ws.set q0 (z, .inr (a, fs.set b w))) H1 → va_D A (ws.set q0 (z, .inr (a, fs.set b w))) → va_S A s.heap H1 locs1 → W p l e R s m args below meth c0 H1 locs1 cells slots (MQ below (ctQ kr tx mp0 u r D ws0 sz0) args s (u.2.2.2.1 - nc0) (u.2.2.2.2 - ns0) A) (F0 m (pc + 3) ls rest)) → W p l e R s m args below meth c0 H locs cells slots (MQ below (ctQ kr tx mp0 u r D ws0 sz0) args s (u.2.2.2.1 - nc0) (u.2.2.2.2 - ns0) A) (F0 m pc ls (w :: .ref z :: rest)) := by
      intro H locs cells slots ls rest ws tys q0 z fs w hK hP hD hS he hlen hn hf k
      cases hfin : (fTb a b).2.2.2 with
      | false => exact va_put (own := oN o) (C := oN a) (T := fTb a) (N := fNn a) (ref := (fTb a b).1) (ty := fty a b) hx hb hts c2 (fty a) c3 c4 hown hK hP hD hS q0 he c1 b h2 (hts _ h4) (fun _ y => y) hfin (c3 b h2) hn hf hlen hd k
      | true =>
        obtain ⟨i1, rfl⟩ := hfi hfin
        exact va_putF (own := oN o) (C := oN o) (T := fTb o) (N := fNn o) (ref := (fTb o b).1) (ty := fty o b) hx hb hts c2 (fty o) c3 c4 hown hK hP hD hS q0 he c1 b h2 (hts _ h4) (fun _ y => y) hfin (hnm.trans i1) (c5 b h2) (c3 b h2) hn hf hlen hd k
    rcases S with _ | ⟨w, _ | ⟨y, r2⟩⟩
    · exact (show False from q1).elim
    · exact (show False from q1).elim
    have hq : stA (WPm gT d) (mIs r u) (Sm p l e R s m args below meth c0 (MQ below (ctQ kr tx mp0 u r D ws0 sz0) args s (u.2.2.2.1 - nc0) (u.2.2.2.2 - ns0) A) nL tx D A mp0 nc0 ns0) (aPutF pc L (w :: y :: r2) g a b c) := q1
    cases hty : fty a b with
    | object C0 =>
      rw [hty] at h3 hrow
      subst h3
      obtain ⟨hb1, hq⟩ := cnd hq
      exact sm_putR (r0 := (oN a, fTb a, fNn a)) c1 h2 (by rw [hty]; rfl) (fun _ _ _ _ _ _ ws tys q0 z fs w hK hP hD hS he hlen hw k => hrow _ _ _ _ _ _ ws tys q0 z fs w hK hP hD hS he hlen (by rcases hw with rfl | ⟨z, rfl⟩ <;> rfl) (by rcases hw with rfl | ⟨z, rfl⟩ <;> rfl) k) hb1 hq
    | array t0 =>
      rw [hty] at h3 hrow
      subst h3
      obtain ⟨hb1, hq⟩ := cnd hq
      exact sm_putR (r0 := (oN a, fTb a, fNn a)) c1 h2 (by rw [hty]; rfl) (fun _ _ _ _ _ _ ws tys q0 z fs w hK hP hD hS he hlen hw k => hrow _ _ _ _ _ _ ws tys q0 z fs w hK hP hD hS he hlen (by rcases hw with rfl | ⟨z, rfl⟩ <;> rfl) (by rcases hw with rfl | ⟨z, rfl⟩ <;> rfl) k) hb1 hq
    | boolean =>
      rw [hty] at h3 hrow
      subst h3
      obtain ⟨hb1, hz, hq⟩ := cnd hq
      have b01 : ∀ x : Int32, (x.toInt = 0 ∨ x.toInt = 1) → x = 0 ∨ x = 1 := fun x h => by
        rcases h with h | h
        · exact Or.inl (nu_eq.mpr h)
        · exact Or.inr (nu_eq.mpr h)
      exact sm_putI (so := 5) (P := fun x => x = 0 ∨ x = 1) (ok := fun x => x = 0 ∨ x = 1) b01 (r0 := (oN a, fTb a, fNn a)) c1 h2 (by rw [hty]; decide) (fun _ _ _ _ _ _ ws tys q0 z fs x hK hP hD hS he hlen hx1 k => hrow _ _ _ _ _ _ ws tys q0 z fs (.int x) hK hP hD hS he hlen (by rcases hx1 with rfl | rfl <;> decide +kernel) (by rcases hx1 with rfl | rfl <;> decide +kernel) k) hb1 hz hq
    | int =>
      rw [hty] at h3 hrow
      subst h3
      obtain ⟨hb1, hq⟩ := cnd hq
      exact sm_putI (so := 0) (P := fun _ => True) (ok := fun _ => True) (fun _ _ => trivial) (r0 := (oN a, fTb a, fNn a)) c1 h2 (by rw [hty]; decide) (fun _ _ _ _ _ _ ws tys q0 z fs x hK hP hD hS he hlen _ k => hrow _ _ _ _ _ _ ws tys q0 z fs (.int x) hK hP hD hS he hlen rfl rfl k) hb1 trivial hq
    | _ => exact absurd (hnf a h1 b h2) (by rw [hty]; decide)
  | iaload =>
    cases of_decide_eq_true hok
    exact sm_rdI (kd := 1) (by omega) (fun _ _ _ _ _ _ ws tys q0 t0 z N cA f i hK hP ha ht hin k => va_iald hx hb hK hP q0 t0 ha ht hin hd k) q1
  | baload =>
    obtain ⟨rfl, h1⟩ := of_decide_eq_true hok
    rcases h1 with rfl | rfl
    · exact sm_rdI (kd := 2) (by omega) (fun _ _ _ _ _ _ ws tys q0 t0 z N cA f i hK hP ha ht hin k => va_bald hx hb hK hP q0 t0 ha ht hin hd k) q1
    · exact sm_rdI (kd := 3) (by omega) (fun _ _ _ _ _ _ ws tys q0 t0 z N cA f i hK hP ha ht hin k => va_zald hx hb hK hP q0 t0 ha ht hin hd k) q1
  | laload =>
    cases of_decide_eq_true hok
    exact sm_rdL (fun _ _ _ _ _ _ ws tys q0 t0 z N cA f i hK hP ha ht hin k => va_lald hx hb hK hP q0 t0 ha ht hin hd k) q1
  | aaload =>
    cases of_decide_eq_true hok
    exact sm_rdR (fun _ _ _ _ _ _ ws tys q0 t0 z N cA r0 f i hK hP ha ht hin k => va_aldq hx hb hK hP q0 t0 ha ht hin hd k) q1
  | iastore =>
    cases of_decide_eq_true hok
    exact sm_wrI (kd := 1) (P := fun _ => True) (F := fun x => x) (f8 := fun x => x) (fun _ _ => rfl) (by omega) (fun _ _ _ _ _ _ ws tys q0 t0 z N cA f i x hK hP hD hS ha ht hin k => va_iast hx hb hK hP hD hS q0 t0 ha ht hin hd k) q1
  | bastore =>
    obtain ⟨rfl, h1⟩ := of_decide_eq_true hok
    rcases h1 with rfl | rfl
    · exact sm_wrI (kd := 2) (P := fun _ => True) (F := m_i2b) (f8 := fun x => vp_nar .byte x) (fun x _ => by show (vp_nar .byte x).toInt = _; rw [vp_nar_byte, nu_i2b]) (by omega) (fun _ _ _ _ _ _ ws tys q0 t0 z N cA f i x hK hP hD hS ha ht hin k => va_bast hx hb hK hP hD hS q0 t0 ha ht hin hd k) q1
    · exact sm_wrI (kd := 3) (P := fun x => x = 0 ∨ x = 1) (F := fun x => x) (f8 := fun x => vp_nar .boolean x) (fun x h => by
        have h' : x = 0 ∨ x = 1 := by
          rcases h with h | h
          · exact Or.inl (nu_eq.mpr h)
          · exact Or.inr (nu_eq.mpr h)
        rcases h' with rfl | rfl <;> decide +kernel) (by omega) (fun _ _ _ _ _ _ ws tys q0 t0 z N cA f i x hK hP hD hS ha ht hin k => va_zast hx hb hK hP hD hS q0 t0 ha ht hin hd k) q1
  | lastore =>
    cases of_decide_eq_true hok
    exact sm_wrL (fun _ _ _ _ _ _ ws tys q0 t0 z N cA f i x hK hP hD hS ha ht hin k => va_last hx hb hK hP hD hS q0 t0 ha ht hin hd k) q1
  | aastore =>
    obtain ⟨rfl, h1⟩ := of_decide_eq_true hok
    exact sm_wrR (fun _ _ _ _ _ _ ws tys q0 t0 qk z N w cA r0 vs f i hK hP hD hS ha ht hv hc hin k => va_astq hx hb hK hP hD hS q0 t0 qk a ha ht hv hc hin hd k) q1
  | arraylength =>
    cases of_decide_eq_true hok
    exact sm_len (fun _ _ _ _ _ _ ws tys q0 t0 z cA x ty hK hP ha ht k => va_alen hx hb hK hP q0 t0 ha ht rfl hd k) q1
  | newarray t =>
    obtain ⟨rfl, h1, h2⟩ := of_decide_eq_true hok
    have hu : u.2.2.2.1 = nc0 + R.cells ∧ u.2.2.2.2 = ns0 + R.slots := ⟨hu1, hu2⟩
    cases t with
    | int =>
      cases h1
      exact sm_newA (kd := 1) (ty := .int) (a0 := fun N => (N, .inl (fun _ => 0))) (by omega) hu (fun mp tys t0 g' b' cA N i1 i2 i3 i4 i5 i6 => ⟨⟨i3, i4⟩, fun k _ => (i5 k).symm, t0, .int, i1, Or.inl ⟨i2, rfl⟩⟩) (fun _ _ _ _ _ _ ws tys x N hK hP hD hS hx0 hN hle hc1 hc2 k => va_newa (atype := .int) hx hb (hts _ aw_int) rfl hK hP hD hS hA (fun _ => rfl) hx0 hN (by show N * 4 ≤ _; omega) hc1 hc2 hd k) q
    | byte =>
      cases h1
      exact sm_newA (kd := 2) (ty := .byte) (a0 := fun N => (N, .inl (fun _ => 0))) (by omega) hu (fun mp tys t0 g' b' cA N i1 i2 i3 i4 i5 i6 => ⟨⟨i3, i4⟩, fun k _ => (i5 k).symm, t0, .byte, i1, Or.inr (Or.inl ⟨i2, rfl⟩)⟩) (fun _ _ _ _ _ _ ws tys x N hK hP hD hS hx0 hN hle hc1 hc2 k => va_newa (atype := .byte) hx hb (hts _ aw_byte) rfl hK hP hD hS hA (fun _ => rfl) hx0 hN (by show N * 1 ≤ _; omega) hc1 hc2 hd k) q
    | boolean =>
      cases h1
      exact sm_newA (kd := 3) (ty := .boolean) (a0 := fun N => (N, .inl (fun _ => 0))) (by omega) hu (fun mp tys t0 g' b' cA N i1 i2 i3 i4 i5 i6 => ⟨⟨i3, i4⟩, fun k _ => (i5 k).symm, t0, .boolean, i1, Or.inr (Or.inr ⟨i2, rfl⟩)⟩) (fun _ _ _ _ _ _ ws tys x N hK hP hD hS hx0 hN hle hc1 hc2 k => va_newa (atype := .boolean) hx hb (hts _ aw_bool) rfl hK hP hD hS hA (fun _ => rfl) hx0 hN (by show N * 1 ≤ _; omega) hc1 hc2 hd k) q
    | long =>
      cases h1
      exact sm_newA (kd := 4) (ty := .long) (a0 := fun N => (N, .inr (.inl (fun _ => 0)))) (by omega) hu (fun mp tys t0 g' b' cA N i1 i2 i3 i4 i5 i6 => ⟨⟨i3, i4⟩, fun k _ => (i5 k).symm, t0, i1, i2⟩) (fun _ _ _ _ _ _ ws tys x N hK hP hD hS hx0 hN hle hc1 hc2 k => va_newa (atype := .long) hx hb (hts _ aw_long) rfl hK hP hD hS hA (fun _ => rfl) hx0 hN (by show N * 8 ≤ _; omega) hc1 hc2 hd k) q
    | _ => exact absurd h1.symm h2
  | anewarray idx =>
    obtain ⟨rfl, hl, h2⟩ := of_decide_eq_true hok
    obtain ⟨h1, h4⟩ := nW_get hl
    obtain ⟨-, c1, -⟩ := cl_all a h1
    have hu : u.2.2.2.1 = nc0 + R.cells ∧ u.2.2.2.2 = ns0 + R.slots := ⟨hu1, hu2⟩
    exact sm_newA (kd := 40 + a) (ty := .object (oN a)) (a0 := fun N => (N, .inr (.inr (.inr (.inr (fun _ => none)))))) (by omega) hu (fun mp tys t0 g' b' cA N i1 i2 i3 i4 i5 i6 => ⟨⟨i3, i4⟩, fun k _ => by show (2, ((g'.2.1 b' k : Nat) : Int)) = (2, 0); rw [i6]; rfl, t0, a, (oN a, fTb a, fNn a), i1, c1, i2⟩) (fun _ _ _ _ _ _ ws tys x N hK hP hD hS hx0 hN hle hc1 hc2 k => va_newq hx hb hown (hts _ h4) (hTo A s s.heap a hT0 h2) hK hP hD hS hA hx0 hN (by omega) hc1 hc2 hd k) q
  | new idx =>
    obtain ⟨rfl, hl, rfl⟩ := of_decide_eq_true hok
    obtain ⟨h1, h4⟩ := nW_get hl
    obtain ⟨-, c1, c2, c3, c4, c5, c6, c7⟩ := cl_all a h1
    exact sm_newO (r0 := (oN a, fTb a, fNn a)) (fs := (List.range (fNn a)).map (fun k => if fso (fty a k) = 2 then Value.null else Value.int 0)) ⟨hu1, hu2⟩ c1 rfl (by simp) (fun k hk => by simp [hk]) (fun _ _ _ _ _ _ ws tys hK hP hD hS hc1 hc2 k => va_new (own := oN o) (C := oN a) (T := fTb a) (N := fNn a) hx hb hts c2 (fty a) c3 hown (hts _ h4) (hts _ c6) (hts _ c7) hK hP hD hS hA c1 (fun j hj => by
      unfold vp_V
      rw [show ((List.range (fNn a)).map (fun k => if fso (fty a k) = 2 then Value.null else Value.int 0)).getD j .null = (if fso (fty a j) = 2 then Value.null else Value.int 0) by simp [List.getD, hj]]
      have := hnf a h1 j hj
      revert this
      cases fty a j <;> simp [fso, defaultValue, fokB]) hc1 hc2 hd k) q
  | ireturn =>
    obtain ⟨rfl, rfl, h1⟩ := of_decide_eq_true hok
    rcases S with _ | ⟨x, _ | ⟨y, r2⟩⟩
    · exact (show False from q1).elim
    · rcases h1 with ⟨rfl, hr2⟩ | ⟨rfl, hr2⟩
      · obtain ⟨hb1, q2⟩ := cnd (show bif Nat.beq x.1 0 then mIs r u x g else False from q1)
        exact sm_iret hAe (P := fun _ => True) (fun _ _ _ _ _ _ _ hq hf => W.iret hx hb (hret.trans hr2) hq hf hd hlocks) (beq_t hb1) trivial q2
      · obtain ⟨hb1, q2⟩ := cnd (show bif Nat.beq x.1 0 then (x.2 = 0 ∨ x.2 = 1) ∧ mIs r u x g else False from q1)
        exact sm_iret hAe (P := fun z => z = 0 ∨ z = 1) (fun _ _ _ _ _ z h hq hf => W.zret hx hb (hret.trans hr2) (by
          have h' : z = 0 ∨ z = 1 := by
            rcases h with h | h
            · exact Or.inl (nu_eq.mpr h)
            · exact Or.inr (nu_eq.mpr h)
          rcases h' with rfl | rfl <;> decide +kernel) hq hf hd hlocks) (beq_t hb1) q2.1 q2.2
    · exact (show False from q1).elim
  | lreturn =>
    obtain ⟨rfl, rfl, hr2⟩ := of_decide_eq_true hok
    rcases S with _ | ⟨x, _ | ⟨y, r2⟩⟩
    · exact (show False from q1).elim
    · obtain ⟨hb1, q2⟩ := cnd (show bif Nat.beq x.1 1 then mIs r u x g else False from q1)
      exact sm_lret hAe (fun _ _ _ _ _ _ hq hf => W.lret hx hb (hret.trans hr2) hq hf hd hlocks) (beq_t hb1) q2
    · exact (show False from q1).elim
  | return_ =>
    obtain ⟨rfl, rfl, hr2⟩ := of_decide_eq_true hok
    rcases S with _ | ⟨x, r2⟩
    · exact sm_vret hAe (fun _ _ _ _ _ hq hf => W.vret hx hb (hret.trans hr2) hq hf hd hlocks) q1
    · exact (show False from q1).elim
  | invokevirtual idx =>
    obtain ⟨rfl, h1⟩ := of_decide_eq_true hok
    rcases h1 with ⟨h1, h2, h3⟩ | ⟨h1, h3⟩
    · exact hTs (pc, .invokevirtual idx, 3, a, b, c, v, ps) h1 h2 rfl h3 hd p e R s m args below meth c0 A mp0 nc0 ns0 ws0 sz0 r u L S g hcx q
    · have hlt : Nat.ble 1000 a = false := by
        cases hbl : Nat.ble 1000 a with
        | false => rfl
        | true => exact absurd (Nat.le_of_ble_eq_true hbl) (by omega)
      have q2 : stA (WPm gT d) (mIs r u) (fun z => Sm p l e R s m args below meth c0 (MQ below (ctQ kr tx mp0 u r D ws0 sz0) args s (u.2.2.2.1 - nc0) (u.2.2.2.2 - ns0) A) nL tx D A mp0 nc0 ns0 z ∧ gl z.2.2.2 u) (aCl pc L S g a b c v) := q
      unfold aCl at q2
      rw [hlt] at q2
      exact inv_ok (op := 1) hTX hTn hgT ih hcx0 h3 (Or.inr (Or.inl ⟨rfl, hd⟩)) q2
  | invokestatic idx =>
    obtain ⟨rfl, h1⟩ := of_decide_eq_true hok
    rcases h1 with ⟨h1, h2, h3⟩ | ⟨h1, h3⟩
    · have q2 : stA (WPm gT d) (mIs r u) (Sm p l e R s m args below meth c0 (MQ below (ctQ kr tx mp0 u r D ws0 sz0) args s (u.2.2.2.1 - nc0) (u.2.2.2.2 - ns0) A) nL tx D A mp0 nc0 ns0) (aCl pc L S g a b c v) := q1
      have hml2 : ∀ ls : Array Slot, ls.size = nL → c0.maxLocals = ls.size := fun ls h => hml.trans h.symm
      have gcl : gl g u := hglu
      rcases (show a = 1001 ∨ a = 1002 ∨ a = 1003 ∨ a = 1004 ∨ a = 1005 ∨ a = 1006 by omega) with rfl | rfl | rfl | rfl | rfl | rfl
      · exact sm_lib2 (k := 1001) (F := fun x y => if x < y then y else x) (f := fun x y => if x < y then y else x) nu_max (fun _ _ cells slots ls _ _ _ hsz2 hcat e1 e2 k => va_mmax hx hb (hml2 ls hsz2) hown (hts _ (lB_get h3)) (hts _ lw_max.1) (hts _ lw_max.2.1) (hts _ lw_max.2.2) (by omega) (by omega) (by have := gcl.1; omega) (by have := gcl.2; omega) hd k) (fun X hq => by
          rcases S with _ | ⟨y, _ | ⟨x, r2⟩⟩
          · exact (show False from hq).elim
          · exact (show False from hq).elim
          · obtain ⟨hb1, hq⟩ := cnd (show bif (Nat.beq x.1 0 && Nat.beq y.1 0 && Nat.ble (mCats r2) 8) then X (pc + 3, L, (0, if x.2 < y.2 then y.2 else x.2) :: r2, g) else False from hq)
            obtain ⟨hb1, hb3⟩ := and2 hb1
            obtain ⟨hb1, hb2⟩ := and2 hb1
            exact ⟨x, y, r2, rfl, beq_t hb1, beq_t hb2, Nat.le_of_ble_eq_true hb3, hq⟩) q2
      · exact sm_lib2 (k := 1002) (F := fun x y => if y < x then y else x) (f := fun x y => if y < x then y else x) nu_min (fun _ _ cells slots ls _ _ _ hsz2 hcat e1 e2 k => va_mmin hx hb (hml2 ls hsz2) hown (hts _ (lB_get h3)) (hts _ lw_min.1) (hts _ lw_min.2.1) (hts _ lw_min.2.2) (by omega) (by omega) (by have := gcl.1; omega) (by have := gcl.2; omega) hd k) (fun X hq => by
          rcases S with _ | ⟨y, _ | ⟨x, r2⟩⟩
          · exact (show False from hq).elim
          · exact (show False from hq).elim
          · obtain ⟨hb1, hq⟩ := cnd (show bif (Nat.beq x.1 0 && Nat.beq y.1 0 && Nat.ble (mCats r2) 8) then X (pc + 3, L, (0, if y.2 < x.2 then y.2 else x.2) :: r2, g) else False from hq)
            obtain ⟨hb1, hb3⟩ := and2 hb1
            obtain ⟨hb1, hb2⟩ := and2 hb1
            exact ⟨x, y, r2, rfl, beq_t hb1, beq_t hb2, Nat.le_of_ble_eq_true hb3, hq⟩) q2
      · exact sm_abs (fun _ _ cells slots ls _ _ hsz2 hcat e1 e2 k => va_mabs hx hb (hml2 ls hsz2) hown (hts _ (lB_get h3)) (hts _ lw_abs.1) (hts _ lw_abs.2.1) (hts _ lw_abs.2.2) (by omega) (by omega) (by have := gcl.1; omega) (by have := gcl.2; omega) hd k) q2
      · exact sm_lib2L (k := 1004) (F := fun x y => if x < y then y else x) (f := fun x y => if y < x then x else y) nl_max (fun _ _ cells slots ls _ _ _ hsz2 hcat e1 e2 k => va_mmax_long hx hb (hml2 ls hsz2) hown (hts _ (lB_get h3)) (hts _ lw_maxl.1) (hts _ lw_maxl.2.1) (hts _ lw_maxl.2.2) (by omega) (by omega) (by have := gcl.1; omega) (by have := gcl.2; omega) hd k) (fun X hq => by
          rcases S with _ | ⟨y, _ | ⟨x, r2⟩⟩
          · exact (show False from hq).elim
          · exact (show False from hq).elim
          · obtain ⟨hb1, hq⟩ := cnd (show bif (Nat.beq x.1 1 && Nat.beq y.1 1 && Nat.ble (mCats r2) 8) then X (pc + 3, L, (1, if x.2 < y.2 then y.2 else x.2) :: r2, g) else False from hq)
            obtain ⟨hb1, hb3⟩ := and2 hb1
            obtain ⟨hb1, hb2⟩ := and2 hb1
            exact ⟨x, y, r2, rfl, beq_t hb1, beq_t hb2, Nat.le_of_ble_eq_true hb3, hq⟩) q2
      · exact sm_lib2L (k := 1005) (F := fun x y => if y < x then y else x) (f := fun x y => if y < x then y else x) nl_min (fun _ _ cells slots ls _ _ _ hsz2 hcat e1 e2 k => va_mmin_long hx hb (hml2 ls hsz2) hown (hts _ (lB_get h3)) (hts _ lw_minl.1) (hts _ lw_minl.2.1) (hts _ lw_minl.2.2) (by omega) (by omega) (by have := gcl.1; omega) (by have := gcl.2; omega) hd k) (fun X hq => by
          rcases S with _ | ⟨y, _ | ⟨x, r2⟩⟩
          · exact (show False from hq).elim
          · exact (show False from hq).elim
          · obtain ⟨hb1, hq⟩ := cnd (show bif (Nat.beq x.1 1 && Nat.beq y.1 1 && Nat.ble (mCats r2) 8) then X (pc + 3, L, (1, if y.2 < x.2 then y.2 else x.2) :: r2, g) else False from hq)
            obtain ⟨hb1, hb3⟩ := and2 hb1
            obtain ⟨hb1, hb2⟩ := and2 hb1
            exact ⟨x, y, r2, rfl, beq_t hb1, beq_t hb2, Nat.le_of_ble_eq_true hb3, hq⟩) q2
      · exact sm_copy (fun _ _ cells slots ls rest ws tys q0 q1' t0 t1 za zb n0 n1 ca cb f f2 sp dp x hsz2 hK hP hD hS ha0 ha1 ht0 ht1 i1 i2 i3 i4 i5 hcat k => va_copyi (ty := .int) hx hb (hml2 ls hsz2) hown (hts _ (lB_get h3)) (hts _ lw_copy.1) (hts _ lw_copy.2.1) (hts _ lw_copy.2.2) hK hP hD hS q0 q1' t0 t1 ha0 ha1 ht0 ht1 rfl i1 i2 i3 i4 i5 (fun _ _ => rfl) (by omega) (by
          have : nativeFrameWords "java/lang/System" "arraycopy" 5 = 7 := by decide +kernel
          rw [this]; omega) hd k) q2
    · have hlt : Nat.ble 1000 a = false := by
        cases hbl : Nat.ble 1000 a with
        | false => rfl
        | true => exact absurd (Nat.le_of_ble_eq_true hbl) (by omega)
      have q2 : stA (WPm gT d) (mIs r u) (fun z => Sm p l e R s m args below meth c0 (MQ below (ctQ kr tx mp0 u r D ws0 sz0) args s (u.2.2.2.1 - nc0) (u.2.2.2.2 - ns0) A) nL tx D A mp0 nc0 ns0 z ∧ gl z.2.2.2 u) (aCl pc L S g a b c v) := q
      unfold aCl at q2
      rw [hlt] at q2
      exact inv_ok (op := 0) hTX hTn hgT ih hcx0 h3 (Or.inl ⟨rfl, hd⟩) q2
  | invokespecial idx =>
    obtain ⟨rfl, h1⟩ := of_decide_eq_true hok
    rcases h1 with ⟨rfl, h3⟩ | ⟨h1, h3⟩
    · have q2 : stA (WPm gT d) (mIs r u) (Sm p l e R s m args below meth c0 (MQ below (ctQ kr tx mp0 u r D ws0 sz0) args s (u.2.2.2.1 - nc0) (u.2.2.2.2 - ns0) A) nL tx D A mp0 nc0 ns0) (aCl pc L S g 1000 b c v) := q1
      exact sm_objInit (fun _ _ _ _ ls rest z hsz2 hcat k => W.objInit hx hb hown (hts _ (lB_get h3)) (hts _ lw_obj.1) (hts _ lw_obj.2) rfl (hsz2.trans hml.symm) rfl hd (by omega) (by
        rw [hlo]
        show 2 * (F0 m pc ls (Value.ref z :: rest)).monitorRoom + (rest.map fun v => v.category).sum + 12 ≤ 100 * (d + 9)
        have h0 : (F0 m pc ls (Value.ref z :: rest)).monitorRoom = 0 := rfl
        omega) k) q2
    · have hlt : Nat.ble 1000 a = false := by
        cases hbl : Nat.ble 1000 a with
        | false => rfl
        | true => exact absurd (Nat.le_of_ble_eq_true hbl) (by omega)
      have q2 : stA (WPm gT d) (mIs r u) (fun z => Sm p l e R s m args below meth c0 (MQ below (ctQ kr tx mp0 u r D ws0 sz0) args s (u.2.2.2.1 - nc0) (u.2.2.2.2 - ns0) A) nL tx D A mp0 nc0 ns0 z ∧ gl z.2.2.2 u) (aCl pc L S g a b c v) := q
      unfold aCl at q2
      rw [hlt] at q2
      exact inv_ok (op := 2) hTX hTn hgT ih hcx0 h3 (Or.inr (Or.inr ⟨rfl, hd⟩)) q2
  | _ => exact (Bool.false_ne_true hok).elim
