/-! ===== a run of the small machine is a contract of the method ===== -/
/-- what a step leads to has no fewer cells -/
def gr (g : mH) (A : mA) : Prop := match A with
  | .inl (_, s) => gl g s.2.2.2
  | .inr (.inl (_, _, s)) => gl g s.2.2.2
  | .inr (.inr (.inl (_, _, s, t))) => gl g s.2.2.2 ∧ gl g t.2.2.2
  | .inr (.inr (.inr (.inl (_, _, _, _, f)))) => ∀ t, gl g (f t).2.2.2
  | .inr (.inr (.inr (.inr (.inl (_, _, _, f))))) => ∀ q, gl g (f q).2.2.2
  | .inr (.inr (.inr (.inr (.inr (.inl (_, _, _, h, f)))))) => gl g h ∧ ∀ r h', gl h' (f r h').2.2.2
  | .inr (.inr (.inr (.inr (.inr (.inr (.inl (_, _, h))))))) => gl g h
  | .inr (.inr (.inr (.inr (.inr (.inr (.inr (_, _, _, h))))))) => gl g h
theorem gl.trans {a b c : mH} (h : gl a b) (k : gl b c) : gl a c := ⟨Nat.le_trans h.1 k.1, Nat.le_trans h.2 k.2⟩
theorem gl.refl (g : mH) : gl g g := ⟨Nat.le_refl _, Nat.le_refl _⟩
theorem stA_gl {C : mCl} (hC : ∀ k as h (F : mPost), C k as h F → ∃ r u, F r u ∧ gl h u) {P : mS → Prop} {g u : mH} {r : mV} {A : mA} (hg : gr g A) (q : stA C (mIs r u) (fun z => P z ∧ gl z.2.2.2 u) A) : gl g u := by
  rcases A with ⟨b, s⟩ | ⟨b, c, s⟩ | ⟨b, c, s, t⟩ | ⟨b, x, ps, d, f⟩ | ⟨b, c, g1, f⟩ | ⟨b, k, as, h, f⟩ | ⟨b, v, h⟩ | ⟨b, c, v, h⟩
  · obtain ⟨-, q⟩ := cnd q
    exact hg.trans q.2
  · obtain ⟨-, q⟩ := cnd q
    exact hg.trans q.2.2
  · obtain ⟨-, q⟩ := cnd q
    by_cases hc : c
    · exact hg.1.trans (q.1 hc).2
    · exact hg.2.trans (q.2 hc).2
  · obtain ⟨-, q⟩ := cnd q
    obtain ⟨t, h1, -⟩ := swX_ex _ q
    exact (hg t).trans h1.2
  · obtain ⟨-, -, n, -, q⟩ := cnd q
    exact (hg n).trans q.2
  · obtain ⟨-, q⟩ := cnd q
    obtain ⟨r1, u1, h1, h2⟩ := hC _ _ _ _ q
    exact (hg.1.trans h2).trans ((hg.2 r1 u1).trans h1.2)
  · obtain ⟨-, q⟩ := cnd q
    rw [← q.2]
    exact hg
  · obtain ⟨-, q⟩ := cnd q
    rw [← q.2.2]
    exact hg
theorem gr_lib (pc : Nat) (L S : List mV) (g : mH) (k : Nat) : gr g (aLib pc L S g k) := by
  have z : gl g g := gl.refl g
  unfold aLib
  cases Nat.beq k 1000 with
  | true => cases S <;> exact z
  | false =>
  cases Nat.beq k 1001 with
  | true => rcases S with _ | ⟨x, _ | ⟨y, r⟩⟩ <;> exact z
  | false =>
  cases Nat.beq k 1002 with
  | true => rcases S with _ | ⟨x, _ | ⟨y, r⟩⟩ <;> exact z
  | false =>
  cases Nat.beq k 1003 with
  | true => cases S <;> exact z
  | false =>
  cases Nat.beq k 1004 with
  | true => rcases S with _ | ⟨x, _ | ⟨y, r⟩⟩ <;> exact z
  | false =>
  cases Nat.beq k 1005 with
  | true => rcases S with _ | ⟨x, _ | ⟨y, r⟩⟩ <;> exact z
  | false =>
  cases Nat.beq k 1006 with
  | true => rcases S with _ | ⟨vn, _ | ⟨vd, _ | ⟨vb, _ | ⟨vs, _ | ⟨va, r⟩⟩⟩⟩⟩ <;> exact z
  | false =>
  cases Nat.beq k 1007 with
  | true => cases S <;> exact z
  | false =>
  cases Nat.beq k 1008 with
  | true => rcases S with _ | ⟨x, _ | ⟨y, r⟩⟩ <;> exact z
  | false => rcases S with _ | ⟨x, _ | ⟨y, r⟩⟩ <;> exact z
theorem gr_cl (pc : Nat) (L S : List mV) (g : mH) (k n c : Nat) (cl : Int) : gr g (aCl pc L S g k n c cl) := by
  unfold aCl
  cases Nat.ble 1000 k with
  | true => exact gr_lib pc L S g k
  | false => exact ⟨gl.refl g, fun r h' => gl.refl h'⟩
theorem grl_nw (g : mH) (q k n : Nat) : gl g (mNew g q k n) := ⟨Nat.le_succ _, Nat.le_add_right _ _⟩
theorem act_gr (en : mE) (pc : Nat) (L S : List mV) (g : mH) : gr g (act en pc L S g) := by
  obtain ⟨pc0, i, n, a, b, c, v, ps⟩ := en
  have z : gl g g := gl.refl g
  cases i <;> first
    | exact z
    | exact gr_cl pc L S g a b c v
    | (cases S <;> exact z)
    | (rcases S with _ | ⟨x, _ | ⟨y, r⟩⟩ <;> exact z)
    | (rcases S with _ | ⟨x, _ | ⟨y, _ | ⟨w, r⟩⟩⟩ <;> exact z)
    | (rcases S with _ | ⟨x, r⟩ <;> first | exact z | exact ⟨z, z⟩)
    | (rcases S with _ | ⟨x, _ | ⟨y, r⟩⟩ <;> first | exact z | exact ⟨z, z⟩)
    | (rcases S with _ | ⟨x, r⟩ <;> first | exact z | exact fun _ => z)
    | (rcases S with _ | ⟨x, r⟩ <;> first | exact z | exact fun q => grl_nw g q _ _)
    | exact fun q => grl_nw g q _ _
    | (rcases S with _ | ⟨x, _ | ⟨y, r⟩⟩
       · exact z
       · exact z
       · show gr g (match c with | 2 => _ | 5 => _ | _ => _)
         split <;> exact z)
    | (show gr g (match a with | 2 => _ | _ => _)
       split <;> (rcases S with _ | ⟨x, _ | ⟨y, _ | ⟨w, r⟩⟩⟩ <;> exact z))
    | (rcases S with _ | ⟨x, _ | ⟨y, r⟩⟩
       · exact z
       · show gr g (match a with | 0 => _ | _ => _)
         split <;> exact z
       · exact z)
theorem mFind_mem {pc : Nat} : ∀ {l : List mE} {en : mE}, mFind pc l = some en → en ∈ l ∧ en.1 = pc
  | [], en, h => by cases h
  | x :: l, en, h => by
    unfold mFind at h
    cases hb : Nat.beq x.1 pc with
    | true =>
      rw [hb] at h
      cases h
      exact ⟨List.mem_cons_self, beq_t hb⟩
    | false =>
      rw [hb] at h
      obtain ⟨h1, h2⟩ := mFind_mem (l := l) h
      exact ⟨List.mem_cons_of_mem _ h1, h2⟩
theorem mRow_mem : ∀ {cd : List (List mE)} {n : Nat} {en : mE}, en ∈ mRow cd n → ∃ l ∈ cd, en ∈ l
  | [], n, en, h => by cases n <;> cases h
  | r :: cd, 0, en, h => ⟨r, List.mem_cons_self, h⟩
  | r :: cd, n + 1, en, h => by
    obtain ⟨l, h1, h2⟩ := mRow_mem (cd := cd) (n := n) h
    exact ⟨l, List.mem_cons_of_mem _ h1, h2⟩
theorem mAt_mem {cd : List (List mE)} {pc : Nat} {en : mE} (h : mAt cd pc = some en) : (∃ l ∈ cd, en ∈ l) ∧ en.1 = pc := by
  obtain ⟨h1, h2⟩ := mFind_mem h
  exact ⟨mRow_mem h1, h2⟩
/-- the locals at the entry -/
theorem mEnt_len : ∀ (as : List mV) (n : Nat), mCats as ≤ n → mLenL (mEnt as n) = n
  | [], n, _ => by
    show mLenL (mUn n) = n
    induction n with
    | zero => rfl
    | succ n ih => show mLenL (mUn n) + 1 = n + 1; rw [ih (Nat.zero_le _)]
  | v :: as, n, h => by
    unfold mEnt
    unfold mCats at h
    cases hb : Nat.beq v.1 1 with
    | true =>
      rw [hb] at h
      have h : 2 + mCats as ≤ n := h
      show mLenL (mEnt as (n - 2)) + 1 + 1 = n
      rw [mEnt_len as (n - 2) (by omega)]
      omega
    | false =>
      rw [hb] at h
      have h : 1 + mCats as ≤ n := h
      show mLenL (mEnt as (n - 1)) + 1 = n
      rw [mEnt_len as (n - 1) (by omega)]
      omega
theorem mUn_get : ∀ (n j : Nat), mGetD (mUn n) j = (9, 0)
  | 0, j => by cases j <;> rfl
  | n + 1, 0 => rfl
  | n + 1, j + 1 => mUn_get n j
theorem mEnt_get {tx : Nat → Nat} {mp : Nat → Nat → Prop} : ∀ (as : List mV) (avs : List Value) (n i0 j : Nat), vS tx mp as avs → (mGetD (mEnt as n) j).1 ≠ 9 → ∃ w, (i0 + j, w) ∈ lv_args i0 avs ∧ VR tx mp (mGetD (mEnt as n) j) w
  | [], avs, n, i0, j, h, h9 => by
    exact absurd (by show (mGetD (mUn n) j).1 = 9; rw [mUn_get]) h9
  | v :: as, [], n, i0, j, h, h9 => h.elim
  | v :: as, w :: avs, n, i0, j, h, h9 => by
    have hc := h.1.cat
    unfold mEnt at h9 ⊢
    unfold lv_args
    cases hb : Nat.beq v.1 1 with
    | true =>
      rw [hb] at h9 hc
      have hc : w.category = 2 := hc
      rw [if_pos hc]
      match j, h9 with
      | 0, h9 => exact ⟨w, List.mem_cons_self, h.1⟩
      | 1, h9 => exact absurd rfl h9
      | j + 2, h9 =>
        obtain ⟨x, h1, h2⟩ := mEnt_get as avs (n - 2) (i0 + 2) j h.2 h9
        exact ⟨x, List.mem_cons_of_mem _ (by rw [show i0 + (j + 2) = i0 + 2 + j by omega]; exact h1), h2⟩
    | false =>
      rw [hb] at h9 hc
      have hc : w.category = 1 := hc
      rw [if_neg (by omega)]
      match j, h9 with
      | 0, h9 => exact ⟨w, List.mem_cons_self, h.1⟩
      | j + 1, h9 =>
        obtain ⟨x, h1, h2⟩ := mEnt_get as avs (n - 1) (i0 + 1) j h.2 h9
        exact ⟨x, List.mem_cons_of_mem _ (by rw [show i0 + (j + 1) = i0 + 1 + j by omega]; exact h1), h2⟩
theorem lg_len {tx : Nat → Nat} {mp : Nat → Nat → Prop} : ∀ {as : List mV} {avs : List Value}, vS tx mp as avs → (lg_sl avs).length = mCats as
  | [], [], _ => rfl
  | v :: as, w :: avs, h => by
    have ih := lg_len h.2
    have hc := h.1.cat
    unfold lg_sl at ih ⊢
    rw [List.flatMap_cons, List.length_append, ih]
    show _ + mCats as = (bif Nat.beq v.1 1 then 2 else 1) + mCats as
    cases hb : Nat.beq v.1 1 with
    | true =>
      rw [hb] at hc
      rw [if_pos (show w.category = 2 from hc)]
      rfl
    | false =>
      rw [hb] at hc
      rw [if_neg (by rw [show w.category = 1 from hc]; decide)]
      rfl
/-- what a walk of a method knows -/
def Ctx (TX : tX) (Ws : List Cond) (d : Nat) (own nm : String) (cc : ByteArray) (nL : Nat) (ret : Option FieldType) (p : Program) (R : Room) (s : State) (m : MethodId) (args : Array Value) (meth : Method) (c : Code) (A : Nat → Prop) (ws0 : va_W) (sz0 nc0 ns0 : Nat) (u : mH) : Prop :=
  p.tables.exec = Jvm.exec ∧ c.code = cc ∧ c.maxLocals = nL ∧ s.vm.findClass own = some m.cls ∧ (∀ w ∈ Ws, w.before args s = true) ∧ TX A s s.heap ∧ A = va_A ws0 sz0 ∧ s.heap.size = sz0 ∧ (∀ q, s.heap.size ≤ q → A q) ∧ meth.sig.returnType = ret ∧ meth.locks = false ∧ meth.name = nm ∧ R.frames = d + 9 ∧ R.locals = 100 * (d + 9) ∧ u.2.2.2.1 = nc0 + R.cells ∧ u.2.2.2.2 = ns0 + R.slots
/-- a row of the code does as the small machine says -/
def StepOK (l : Launch) (T : Nat → Option mM) (tx : Nat → Nat) (TX : tX) (D : va_G) (Ws : List Cond) (IH : Nat → Prop) (d : Nat) (own nm : String) (cc : ByteArray) (nL : Nat) (ret : Option FieldType) (kr : Nat) (en : mE) : Prop :=
  IH d → ∀ (p : Program) (e : Env) (R : Room) (s : State) (m : MethodId) (args : Array Value) (below : List Frame) (meth : Method) (c : Code) (A : Nat → Prop) (mp0 : Nat → Nat → Prop) (nc0 ns0 : Nat) (ws0 : va_W) (sz0 : Nat) (r : mV) (u : mH) (L S : List mV) (g : mH),
    Ctx TX Ws d own nm cc nL ret p R s m args meth c A ws0 sz0 nc0 ns0 u →
    stA (WPm T d) (mIs r u) (fun z => Sm p l e R s m args below meth c (MQ below (ctQ kr tx mp0 u r D ws0 sz0) args s (u.2.2.2.1 - nc0) (u.2.2.2.2 - ns0) A) nL tx D A mp0 nc0 ns0 z ∧ gl z.2.2.2 u) (act en en.1 L S g) →
    Sm p l e R s m args below meth c (MQ below (ctQ kr tx mp0 u r D ws0 sz0) args s (u.2.2.2.1 - nc0) (u.2.2.2.2 - ns0) A) nL tx D A mp0 nc0 ns0 (en.1, L, S, g)
/-- a method of the table: its name, its class, its bytes, its answer -/
abbrev mG : Type := MethodName × String × ByteArray × Option FieldType × Nat
/-- every run of depth d of the small machine is a contract -/
def IHd (l : Launch) (T : Nat → Option mM) (G : Nat → mG) (tx : Nat → Nat) (TX : tX) (D : va_G) (Ws : List Cond) (d : Nat) : Prop :=
  ∀ (k : Nat) (M : mM), T k = some M → ∀ (as : List mV) (h : mH) (F : mPost), WPm T d k as h F → ∃ r u, F r u ∧ gl h u ∧ MetK l tx TX D d (G k).1 (Cond.code (G k).1 (G k).2.2.1 M.2 (G k).2.2.2.1 :: Ws) (G k).2.2.2.2 as h r u
theorem lr.kill {tx : Nat → Nat} {mp : Nat → Nat → Prop} {ls : Array Slot} {nL : Nat} : ∀ (ks : List Nat) {L : List mV}, lr tx mp L ls nL → lr tx mp (mKill ks L) ls nL
  | [], _, h => h
  | k :: ks, L, h => by
    refine lr.kill ks ⟨h.1, h.2.1, by rw [mLenL_set]; exact h.2.2.1, fun j hj => ?_⟩
    rw [mGetD_set] at hj ⊢
    by_cases e : j = k ∧ k < mLenL L
    · rw [if_pos e] at hj; exact absurd rfl hj
    · rw [if_neg e] at hj ⊢; exact h.2.2.2 j hj
theorem sound {l : Launch} {T : Nat → Option mM} {G : Nat → mG} {tx : Nat → Nat} {TX : tX} {D : va_G} {Ws : List Cond} (hTX : txOk TX)
    (hG : ∀ (k : Nat) (M : mM), T k = some M → plainName (G k).1.cls = true ∧ (G k).2.1 = (G k).1.cls ∧ ∀ (d : Nat), ∀ row ∈ M.1, ∀ en ∈ row, StepOK l T tx TX D Ws (IHd l T G tx TX D Ws) d (G k).2.1 (G k).1.name (G k).2.2.1 M.2 (G k).2.2.2.1 (G k).2.2.2.2 en) : ∀ d, IHd l T G tx TX D Ws d := by
  intro d
  induction d with
  | zero => intro k M hk as h F q; exact q.elim
  | succ d ih =>
    intro k M hk as h F q
    obtain ⟨r, u, hF, q⟩ := WPm_exact T (d + 1) k as h F q
    obtain ⟨hpl, hown0, hst⟩ := hG k M hk
    unfold WPm at q
    rw [hk] at q
    obtain ⟨hcat, q⟩ := q
    have hCg : ∀ k as h (F : mPost), WPm T d k as h F → ∃ r u, F r u ∧ gl h u := by
      intro k as h F q
      cases hT : T k with
      | none =>
        cases d with
        | zero => exact q.elim
        | succ d => unfold WPm at q; rw [hT] at q; exact q.elim
      | some M =>
        obtain ⟨r, u, h1, h2, -⟩ := ih k M hT as h F q
        exact ⟨r, u, h1, h2⟩
    have hgl : gl h u := by
      have := q (fun z => True ∧ gl z.2.2.2 u) (fun st hs => by
        obtain ⟨pc, L, S, g⟩ := st
        obtain ⟨ks, hs⟩ := hs
        unfold stp0 at hs
        dsimp only at hs
        cases he : mAt M.1 pc with
        | none => rw [he] at hs; exact hs.elim
        | some en =>
          rw [he] at hs
          exact ⟨trivial, stA_gl (P := fun _ => True) hCg (act_gr en pc _ S g) hs⟩)
      exact this.2
    refine ⟨r, u, hF, hgl, ?_⟩
    intro mp tys ws avs sz hm hR hz hvs
    refine Met.ofW (cc := (G k).2.2.1) (maxL := M.2) (ret := (G k).2.2.2.1) hpl rfl ?_
    intro p e s m args below meth c s₁ B hml hv
    obtain ⟨rfl, hsz, hP, hK, hD0, hT0⟩ := hv
    subst hsz
    have hD := hD0.self (sz := s.heap.size)
    have hown : s.vm.findClass (G k).1.cls = some m.cls := findClass_of_methodNamed B.named
    have hts := atoms_spec (ws := Cond.code (G k).1 (G k).2.2.1 M.2 (G k).2.2.2.1 :: Ws) B.pre
    have hnm : meth.name = (G k).1.name := (name_of_methodNamed B.named B.method).1
    have hcx : Ctx TX Ws d (G k).2.1 (G k).1.name (G k).2.2.1 M.2 (G k).2.2.2.1 p (headSpec (Cond.code (G k).1 (G k).2.2.1 M.2 (G k).2.2.2.1 :: Ws) (rmD (d + 1) (u.2.2.2.1 - h.2.2.2.1) (u.2.2.2.2 - h.2.2.2.2))).room s m avs.toArray meth c (va_A ws s.heap.size) ws s.heap.size h.2.2.2.1 h.2.2.2.2 u := by
      refine ⟨B.exec, B.bytes, hml, by rw [hown0]; exact hown, fun w hw => hts w (List.mem_cons_of_mem _ hw), hT0, rfl, rfl, fun q hq => Or.inr hq, B.returns, B.notSynchronized, hnm, ?_, ?_, ?_, ?_⟩
      · show d + 1 + 8 = d + 9
        omega
      · show 100 * (d + 1 + 8) = 100 * (d + 9)
        omega
      · show u.2.2.2.1 = h.2.2.2.1 + (u.2.2.2.1 - h.2.2.2.1)
        have := hgl.1
        omega
      · show u.2.2.2.2 = h.2.2.2.2 + (u.2.2.2.2 - h.2.2.2.2)
        have := hgl.2
        omega
    have key := q (fun z => Sm p l e (headSpec (Cond.code (G k).1 (G k).2.2.1 M.2 (G k).2.2.2.1 :: Ws) (rmD (d + 1) (u.2.2.2.1 - h.2.2.2.1) (u.2.2.2.2 - h.2.2.2.2))).room s m avs.toArray below meth c (MQ below (ctQ (G k).2.2.2.2 tx mp u r D ws s.heap.size) avs.toArray s (u.2.2.2.1 - h.2.2.2.1) (u.2.2.2.2 - h.2.2.2.2) (va_A ws s.heap.size)) M.2 tx D (va_A ws s.heap.size) mp h.2.2.2.1 h.2.2.2.2 z ∧ gl z.2.2.2 u) (fun st hs => by
      obtain ⟨pc, L, S, g⟩ := st
      obtain ⟨ks, hs⟩ := hs
      unfold stp0 at hs
      dsimp only at hs
      cases he : mAt M.1 pc with
      | none => rw [he] at hs; exact hs.elim
      | some en =>
        rw [he] at hs
        obtain ⟨⟨row, hrow, hen⟩, hpc⟩ := mAt_mem he
        refine ⟨?_, stA_gl hCg (act_gr en pc _ S g) hs⟩
        subst hpc
        have h1 := hst d row hrow en hen ih p e _ s m avs.toArray below meth c _ mp _ _ ws s.heap.size r u (mKill ks L) S g hcx hs
        exact fun mp' tys' ws' H' locs' cells' slots' ls' stk' hW' hL' hS' => h1 mp' tys' ws' H' locs' cells' slots' ls' stk' hW' (lr.kill ks hL') hS')
    have hl := lv_entry avs (n := M.2) (by rw [lg_len hvs]; exact hcat)
    rw [lg_entry_eq]
    refine key.1 mp tys ws s.heap [] 0 0 _ [] ⟨hm, fun _ _ z => z, hR, hP, hK, hD, va_S.rf, rfl, rfl, hz⟩ ⟨hl.1, hl.2.1, mEnt_len as M.2 hcat, fun j h9 => ?_⟩ trivial
    obtain ⟨w, h1, h2⟩ := mEnt_get as avs M.2 0 j hvs h9
    refine ⟨w, ?_, h2⟩
    have := hl.2.2 _ h1
    simpa using this
