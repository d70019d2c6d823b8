/-! ===== every row of the code, tested, does as the small machine says ===== -/
/-- where a table's switch goes -/
def tsP (pc : Nat) : Int → List Int → List (Int × Nat)
  | _, [] => []
  | lo, o :: l => (lo, ((pc : Int) + o).toNat) :: tsP pc (lo + 1) l
theorem tsP_out {pc d : Nat} {x : Int} : ∀ (l : List Int) (lo : Int), (x < lo ∨ lo + l.length ≤ x) → swT x d (tsP pc lo l) = d
  | [], lo, _ => rfl
  | o :: l, lo, h => by
    have h : x < lo ∨ lo + ((l.length + 1 : Nat) : Int) ≤ x := h
    show (if x = lo then _ else swT x d (tsP pc (lo + 1) l)) = d
    rw [if_neg (by omega)]
    exact tsP_out l (lo + 1) (by omega)
theorem tsP_in {pc d : Nat} {x : Int} : ∀ (l : List Int) (lo : Int), lo ≤ x → x < lo + l.length → ∃ o, l[(x - lo).toNat]? = some o ∧ swT x d (tsP pc lo l) = ((pc : Int) + o).toNat
  | [], lo, h1, h2 => by
    have h2 : x < lo + ((0 : Nat) : Int) := h2
    omega
  | o :: l, lo, h1, h2 => by
    have h2 : x < lo + ((l.length + 1 : Nat) : Int) := h2
    by_cases e : x = lo
    · refine ⟨o, by rw [e, Int.sub_self]; rfl, ?_⟩
      show (if x = lo then _ else _) = _
      rw [if_pos e]
    · obtain ⟨o', h3, h4⟩ := tsP_in (pc := pc) (d := d) (x := x) l (lo + 1) (by omega) (by omega)
      refine ⟨o', ?_, ?_⟩
      · rw [show (x - lo).toNat = (x - (lo + 1)).toNat + 1 by omega]
        exact h3
      · show (if x = lo then _ else swT x d (tsP pc (lo + 1) l)) = _
        rw [if_neg e]
        exact h4
/-- where a switch by pairs goes -/
def lsP (pc : Nat) (l : List (Int × Int)) : List (Int × Nat) := l.map (fun q => (q.1, ((pc : Int) + q.2).toNat))
theorem lsP_ok {pc : Nat} {x df : Int} (hd : 0 ≤ (pc : Int) + df) : ∀ (l : List (Int × Int)), (∀ q ∈ l, 0 ≤ (pc : Int) + q.2) → (pc : Int) + Op.lookupswitch.offset l df x = (swT x ((pc : Int) + df).toNat (lsP pc l) : Int)
  | [], _ => by
    show (pc : Int) + df = (((pc : Int) + df).toNat : Int)
    omega
  | q :: l, h => by
    have h1 := h q List.mem_cons_self
    have ih := lsP_ok (x := x) hd l (fun z hz => h z (List.mem_cons_of_mem _ hz))
    show (pc : Int) + Op.lookupswitch.offset (q :: l) df x = ((if x = q.1 then ((pc : Int) + q.2).toNat else swT x ((pc : Int) + df).toNat (lsP pc l) : Nat) : Int)
    by_cases e : x = q.1
    · rw [if_pos e]
      have : Op.lookupswitch.offset (q :: l) df x = q.2 := by
        obtain ⟨a, b⟩ := q
        subst e
        simp [Op.lookupswitch.offset]
      rw [this]
      omega
    · rw [if_neg e, ← ih]
      have : Op.lookupswitch.offset (q :: l) df x = Op.lookupswitch.offset l df x := by
        obtain ⟨a, b⟩ := q
        have e' : ¬ a = x := fun z => e z.symm
        simp [Op.lookupswitch.offset, e']
      rw [this]
def atKd (t : ArrayType) : Nat := match t with
  | .int => 1
  | .byte => 2
  | .boolean => 3
  | .long => 4
  | _ => 0
def tXk : List (Nat × Nat × Int) := [(4, 161, 0), (4, 169, 1), (12, 93, 2), (12, 131, 0)]
/-- the test of a row -/
def okB (o : Nat) (nm : String) (ret : Option FieldType) (kr : Nat) (en : mE) : Bool := match en with
  | (pc, i, n, a, b, c, v, ps) => match i with
    | .iconst x => decide (n = 1 ∧ (Int32.ofInt x).toInt = v)
    | .bipush x => decide (n = 2 ∧ ((Int8.ofInt x).toInt32).toInt = v)
    | .sipush x => decide (n = 3 ∧ ((Int16.ofInt x).toInt32).toInt = v)
    | .ldc idx => decide (n = 2 ∧ ((a = 0 ∧ (idx, v) ∈ (cIk o).map Prod.fst) ∨ (a = 3 ∧ (o, idx, v) ∈ tXk)))
    | .ldc_w idx => decide (n = 3 ∧ (idx, v) ∈ (cIk o).map Prod.fst)
    | .lconst x => decide (n = 1 ∧ (Int64.ofNat (x : Nat)).toInt = v)
    | .ldc2_w idx => decide (n = 3 ∧ (idx, v) ∈ (cLk o).map Prod.fst)
    | .iload x | .lload x | .aload x | .istore x | .lstore x | .astore x => decide (n = 2 ∧ x = a)
    | .iload_n x | .lload_n x | .aload_n x | .istore_n x | .lstore_n x | .astore_n x => decide (n = 1 ∧ (x : Nat) = a)
    | .iinc x y => decide (n = 3 ∧ x = a ∧ y = v)
    | .dup | .dup2 | .pop | .pop2 | .iadd | .isub | .imul | .iand | .ior | .ixor | .ishl | .ishr | .iushr | .idiv | .irem | .ineg | .ladd | .lsub | .lmul | .land | .lor | .lshl | .lshr | .ldiv | .lrem | .lcmp | .i2l | .l2i | .i2b | .i2s | .i2c | .iaload | .laload | .iastore | .lastore | .arraylength | .aaload => decide (n = 1)
    | .ifCond _ off | .if_icmp _ off | .ifnull off | .ifnonnull off | .goto off => decide (n = 3 ∧ (pc : Int) + off = (a : Int))
    | .tableswitch df lo hi offs => decide (ps = tsP pc lo offs.toList ∧ hi = lo + offs.toList.length - 1 ∧ (∀ q ∈ offs.toList, 0 ≤ (pc : Int) + q) ∧ (pc : Int) + df = (a : Int))
    | .lookupswitch df prs => decide (ps = lsP pc prs.toList ∧ (prs.toList.zip (prs.toList.drop 1)).all (fun (x, y) => x.1 < y.1) = true ∧ (∀ q ∈ prs.toList, 0 ≤ (pc : Int) + q.2) ∧ (pc : Int) + df = (a : Int))
    | .getfield idx => decide (n = 3 ∧ (idx, a, b, c) ∈ (fLk o).map Prod.fst)
    | .putfield idx => decide (n = 3 ∧ (idx, a, b, c) ∈ (fLk o).map Prod.fst ∧ ((fTb a b).2.2.2 = true → nm = "<init>" ∧ o = a))
    | .baload | .bastore => decide (n = 1 ∧ (a = 2 ∨ a = 3))
    | .aastore => decide (n = 1 ∧ a < 13)
    | .newarray t => decide (n = 2 ∧ atKd t = a ∧ a ≠ 0)
    | .anewarray idx => decide (n = 3 ∧ (idx, a) ∈ (nWk o).map Prod.fst ∧ (a = 2 ∨ a = 7 ∨ a = 8))
    | .new idx => decide (n = 3 ∧ (idx, a) ∈ (nWk o).map Prod.fst ∧ b = fNn a)
    | .invokevirtual idx => decide (n = 3 ∧ ((1007 ≤ a ∧ a ≤ 1009 ∧ (idx, a) ∈ (lBk o).map Prod.fst) ∨ (a < 1000 ∧ (1, idx, a, b, c, v) ∈ (mLk o).map Prod.fst)))
    | .invokestatic idx => decide (n = 3 ∧ ((1001 ≤ a ∧ a ≤ 1006 ∧ (idx, a) ∈ (lBk o).map Prod.fst) ∨ (a < 1000 ∧ (0, idx, a, b, c, v) ∈ (mLk o).map Prod.fst)))
    | .invokespecial idx => decide (n = 3 ∧ ((a = 1000 ∧ (idx, a) ∈ (lBk o).map Prod.fst) ∨ (a < 1000 ∧ (2, idx, a, b, c, v) ∈ (mLk o).map Prod.fst)))
    | .ireturn => decide (n = 1 ∧ kr = 1 ∧ ((a = 0 ∧ ret = some .int) ∨ (a = 1 ∧ ret = some .boolean)))
    | .lreturn => decide (n = 1 ∧ kr = 2 ∧ ret = some .long)
    | .return_ => decide (n = 1 ∧ kr = 0 ∧ ret = none)
    | _ => false
theorem cI_get {o idx : Nat} {v : Int} (h : (idx, v) ∈ (cIk o).map Prod.fst) : (Int32.ofInt v).toInt = v ∧ Cond.constant (oN o) idx (Int32.ofInt v) ∈ Ws := by
  obtain ⟨q, hq, he⟩ := List.mem_map.mp h
  have := cIk_ok o q hq
  obtain ⟨⟨i, x⟩, j⟩ := q
  cases he
  exact ⟨this.1, Ws_in _ this.2 rfl⟩
theorem cL_get {o idx : Nat} {v : Int} (h : (idx, v) ∈ (cLk o).map Prod.fst) : (Int64.ofInt v).toInt = v ∧ Cond.constantLong (oN o) idx (Int64.ofInt v) ∈ Ws := by
  obtain ⟨q, hq, he⟩ := List.mem_map.mp h
  have := cLk_ok o q hq
  obtain ⟨⟨i, x⟩, j⟩ := q
  cases he
  exact ⟨this.1, Ws_in _ this.2 rfl⟩
theorem fL_get {o idx a b c : Nat} (h : (idx, a, b, c) ∈ (fLk o).map Prod.fst) : a < 13 ∧ b < fNn a ∧ c = fso (fty a b) ∧ Cond.fieldLink (oN o) idx (fTb a b).1 (fTb a b).2.1 (fTb a b).2.2.1 ∈ Ws := by
  obtain ⟨q, hq, he⟩ := List.mem_map.mp h
  have := fLk_ok o q hq
  obtain ⟨⟨i, x, y, z⟩, j⟩ := q
  cases he
  exact ⟨this.1, this.2.1, this.2.2.1, Ws_in _ this.2.2.2 rfl⟩
theorem nW_get {o idx a : Nat} (h : (idx, a) ∈ (nWk o).map Prod.fst) : a < 13 ∧ Cond.classLink (oN o) idx (oN a) ∈ Ws := by
  obtain ⟨q, hq, he⟩ := List.mem_map.mp h
  have := nWk_ok o q hq
  obtain ⟨⟨i, x⟩, j⟩ := q
  cases he
  exact ⟨this.1, Ws_in _ this.2 rfl⟩
theorem lB_get {o idx a : Nat} (h : (idx, a) ∈ (lBk o).map Prod.fst) : Cond.methodLink (oN o) idx (lbN a) ∈ Ws := by
  obtain ⟨q, hq, he⟩ := List.mem_map.mp h
  have := lBk_ok o q hq
  obtain ⟨⟨i, x⟩, j⟩ := q
  cases he
  exact Ws_in _ this rfl
