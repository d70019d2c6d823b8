/-! ===== THE SMALL MACHINE: values, cells and one step of a method, over mathematical integers ===== -/
/-- a value: (0,x) an int, (1,x) a long, (2,0) null, (2,a) the cell a, (3,i) the i-th text, (9,_) nothing known -/
abbrev mV : Type := Nat × Int
/-- the cells: numbers, references, shapes (kind, length), cells and slots made so far -/
abbrev mH : Type := (Nat → Nat → Int) × (Nat → Nat → Nat) × (Nat → Nat × Nat) × Nat × Nat
/-- an instruction at its place: place, instruction, length, what it links -/
abbrev mE : Type := Nat × Instr × Nat × Nat × Nat × Nat × Int × List (Int × Nat)
/-- a frame: place, locals, stack, cells -/
abbrev mS : Type := Nat × List mV × List mV × mH
theorem w32_ex : ∃ f : Int → Int, ∀ x : Int, f x = (x + 2147483648) % 4294967296 - 2147483648 := ⟨fun x => (x + 2147483648) % 4294967296 - 2147483648, fun _ => rfl⟩
/-- kept shut: only its equation is used -/
noncomputable def w32 : Int → Int := Classical.choose w32_ex
theorem w32_eq (x : Int) : w32 x = (x + 2147483648) % 4294967296 - 2147483648 := Classical.choose_spec w32_ex x
theorem w64_ex : ∃ f : Int → Int, ∀ x : Int, f x = (x + 9223372036854775808) % 18446744073709551616 - 9223372036854775808 := ⟨fun x => (x + 9223372036854775808) % 18446744073709551616 - 9223372036854775808, fun _ => rfl⟩
/-- kept shut: only its equation is used -/
noncomputable def w64 : Int → Int := Classical.choose w64_ex
theorem w64_eq (x : Int) : w64 x = (x + 9223372036854775808) % 18446744073709551616 - 9223372036854775808 := Classical.choose_spec w64_ex x
theorem m_and_ex : ∃ f : Int → Int → Int, ∀ x y : Int, f x y = (Int32.ofInt x &&& Int32.ofInt y).toInt := ⟨fun x y => (Int32.ofInt x &&& Int32.ofInt y).toInt, fun _ _ => rfl⟩
/-- kept shut: only its equation is used -/
noncomputable def m_and : Int → Int → Int := Classical.choose m_and_ex
theorem m_and_eq (x y : Int) : m_and x y = (Int32.ofInt x &&& Int32.ofInt y).toInt := Classical.choose_spec m_and_ex x y
theorem m_or_ex : ∃ f : Int → Int → Int, ∀ x y : Int, f x y = (Int32.ofInt x ||| Int32.ofInt y).toInt := ⟨fun x y => (Int32.ofInt x ||| Int32.ofInt y).toInt, fun _ _ => rfl⟩
/-- kept shut: only its equation is used -/
noncomputable def m_or : Int → Int → Int := Classical.choose m_or_ex
theorem m_or_eq (x y : Int) : m_or x y = (Int32.ofInt x ||| Int32.ofInt y).toInt := Classical.choose_spec m_or_ex x y
theorem m_xor_ex : ∃ f : Int → Int → Int, ∀ x y : Int, f x y = (Int32.ofInt x ^^^ Int32.ofInt y).toInt := ⟨fun x y => (Int32.ofInt x ^^^ Int32.ofInt y).toInt, fun _ _ => rfl⟩
/-- kept shut: only its equation is used -/
noncomputable def m_xor : Int → Int → Int := Classical.choose m_xor_ex
theorem m_xor_eq (x y : Int) : m_xor x y = (Int32.ofInt x ^^^ Int32.ofInt y).toInt := Classical.choose_spec m_xor_ex x y
theorem m_shl_ex : ∃ f : Int → Int → Int, ∀ x y : Int, f x y = (Int32.ofInt x <<< (Int32.ofInt y &&& 31)).toInt := ⟨fun x y => (Int32.ofInt x <<< (Int32.ofInt y &&& 31)).toInt, fun _ _ => rfl⟩
/-- kept shut: only its equation is used -/
noncomputable def m_shl : Int → Int → Int := Classical.choose m_shl_ex
theorem m_shl_eq (x y : Int) : m_shl x y = (Int32.ofInt x <<< (Int32.ofInt y &&& 31)).toInt := Classical.choose_spec m_shl_ex x y
theorem m_shr_ex : ∃ f : Int → Int → Int, ∀ x y : Int, f x y = (Int32.ofInt x >>> (Int32.ofInt y &&& 31)).toInt := ⟨fun x y => (Int32.ofInt x >>> (Int32.ofInt y &&& 31)).toInt, fun _ _ => rfl⟩
/-- kept shut: only its equation is used -/
noncomputable def m_shr : Int → Int → Int := Classical.choose m_shr_ex
theorem m_shr_eq (x y : Int) : m_shr x y = (Int32.ofInt x >>> (Int32.ofInt y &&& 31)).toInt := Classical.choose_spec m_shr_ex x y
theorem m_ushr_ex : ∃ f : Int → Int → Int, ∀ x y : Int, f x y = (((Int32.ofInt x).toUInt32 >>> ((Int32.ofInt y).toUInt32 &&& Int32.toUInt32 31)).toInt32).toInt := ⟨fun x y => (((Int32.ofInt x).toUInt32 >>> ((Int32.ofInt y).toUInt32 &&& Int32.toUInt32 31)).toInt32).toInt, fun _ _ => rfl⟩
/-- kept shut: only its equation is used -/
noncomputable def m_ushr : Int → Int → Int := Classical.choose m_ushr_ex
theorem m_ushr_eq (x y : Int) : m_ushr x y = (((Int32.ofInt x).toUInt32 >>> ((Int32.ofInt y).toUInt32 &&& Int32.toUInt32 31)).toInt32).toInt := Classical.choose_spec m_ushr_ex x y
theorem m_div_ex : ∃ f : Int → Int → Int, ∀ x y : Int, f x y = (Int32.ofInt x / Int32.ofInt y).toInt := ⟨fun x y => (Int32.ofInt x / Int32.ofInt y).toInt, fun _ _ => rfl⟩
/-- kept shut: only its equation is used -/
noncomputable def m_div : Int → Int → Int := Classical.choose m_div_ex
theorem m_div_eq (x y : Int) : m_div x y = (Int32.ofInt x / Int32.ofInt y).toInt := Classical.choose_spec m_div_ex x y
theorem m_rem_ex : ∃ f : Int → Int → Int, ∀ x y : Int, f x y = (Int32.ofInt x - Int32.ofInt x / Int32.ofInt y * Int32.ofInt y).toInt := ⟨fun x y => (Int32.ofInt x - Int32.ofInt x / Int32.ofInt y * Int32.ofInt y).toInt, fun _ _ => rfl⟩
/-- kept shut: only its equation is used -/
noncomputable def m_rem : Int → Int → Int := Classical.choose m_rem_ex
theorem m_rem_eq (x y : Int) : m_rem x y = (Int32.ofInt x - Int32.ofInt x / Int32.ofInt y * Int32.ofInt y).toInt := Classical.choose_spec m_rem_ex x y
theorem l_and_ex : ∃ f : Int → Int → Int, ∀ x y : Int, f x y = (Int64.ofInt x &&& Int64.ofInt y).toInt := ⟨fun x y => (Int64.ofInt x &&& Int64.ofInt y).toInt, fun _ _ => rfl⟩
/-- kept shut: only its equation is used -/
noncomputable def l_and : Int → Int → Int := Classical.choose l_and_ex
theorem l_and_eq (x y : Int) : l_and x y = (Int64.ofInt x &&& Int64.ofInt y).toInt := Classical.choose_spec l_and_ex x y
theorem l_or_ex : ∃ f : Int → Int → Int, ∀ x y : Int, f x y = (Int64.ofInt x ||| Int64.ofInt y).toInt := ⟨fun x y => (Int64.ofInt x ||| Int64.ofInt y).toInt, fun _ _ => rfl⟩
/-- kept shut: only its equation is used -/
noncomputable def l_or : Int → Int → Int := Classical.choose l_or_ex
theorem l_or_eq (x y : Int) : l_or x y = (Int64.ofInt x ||| Int64.ofInt y).toInt := Classical.choose_spec l_or_ex x y
theorem l_shl_ex : ∃ f : Int → Int → Int, ∀ x y : Int, f x y = (Int64.ofInt x <<< ((Int32.ofInt y).toInt64 &&& 63)).toInt := ⟨fun x y => (Int64.ofInt x <<< ((Int32.ofInt y).toInt64 &&& 63)).toInt, fun _ _ => rfl⟩
/-- kept shut: only its equation is used -/
noncomputable def l_shl : Int → Int → Int := Classical.choose l_shl_ex
theorem l_shl_eq (x y : Int) : l_shl x y = (Int64.ofInt x <<< ((Int32.ofInt y).toInt64 &&& 63)).toInt := Classical.choose_spec l_shl_ex x y
theorem l_shr_ex : ∃ f : Int → Int → Int, ∀ x y : Int, f x y = (Int64.ofInt x >>> ((Int32.ofInt y).toInt64 &&& 63)).toInt := ⟨fun x y => (Int64.ofInt x >>> ((Int32.ofInt y).toInt64 &&& 63)).toInt, fun _ _ => rfl⟩
/-- kept shut: only its equation is used -/
noncomputable def l_shr : Int → Int → Int := Classical.choose l_shr_ex
theorem l_shr_eq (x y : Int) : l_shr x y = (Int64.ofInt x >>> ((Int32.ofInt y).toInt64 &&& 63)).toInt := Classical.choose_spec l_shr_ex x y
theorem l_div_ex : ∃ f : Int → Int → Int, ∀ x y : Int, f x y = (Int64.ofInt x / Int64.ofInt y).toInt := ⟨fun x y => (Int64.ofInt x / Int64.ofInt y).toInt, fun _ _ => rfl⟩
/-- kept shut: only its equation is used -/
noncomputable def l_div : Int → Int → Int := Classical.choose l_div_ex
theorem l_div_eq (x y : Int) : l_div x y = (Int64.ofInt x / Int64.ofInt y).toInt := Classical.choose_spec l_div_ex x y
theorem l_rem_ex : ∃ f : Int → Int → Int, ∀ x y : Int, f x y = (Int64.ofInt x - Int64.ofInt x / Int64.ofInt y * Int64.ofInt y).toInt := ⟨fun x y => (Int64.ofInt x - Int64.ofInt x / Int64.ofInt y * Int64.ofInt y).toInt, fun _ _ => rfl⟩
/-- kept shut: only its equation is used -/
noncomputable def l_rem : Int → Int → Int := Classical.choose l_rem_ex
theorem l_rem_eq (x y : Int) : l_rem x y = (Int64.ofInt x - Int64.ofInt x / Int64.ofInt y * Int64.ofInt y).toInt := Classical.choose_spec l_rem_ex x y
def m_cmp (x y : Int) : Int := if x = y then 0 else if x < y then -1 else 1
def m_i2b (x : Int) : Int := (x + 128) % 256 - 128
def m_i2s (x : Int) : Int := (x + 32768) % 65536 - 32768
def m_i2c (x : Int) : Int := x % 65536
/-- one number is put -/
def mSet (h : mH) (a k : Nat) (x : Int) : mH := (fun b j => if b = a ∧ j = k then x else h.1 b j, h.2)
/-- one reference is put -/
def mPut (h : mH) (a k : Nat) (x : Nat) : mH := (h.1, fun b j => if b = a ∧ j = k then x else h.2.1 b j, h.2.2)
/-- a cell is made -/
def mNew (h : mH) (a k n : Nat) : mH := (fun b j => if b = a then 0 else h.1 b j, fun b j => if b = a then 0 else h.2.1 b j, fun b => if b = a then (k, n) else h.2.2.1 b, h.2.2.2.1 + 1, h.2.2.2.2 + n)
/-- numbers are copied from one row to another -/
def mCpy (h : mH) (a sp b dp n : Nat) : mH := (fun c j => if c = b ∧ dp ≤ j ∧ j < dp + n then h.1 a (sp + (j - dp)) else h.1 c j, h.2)
def mKd (h : mH) (a : Nat) : Nat := (h.2.2.1 a).1
def mLn (h : mH) (a : Nat) : Nat := (h.2.2.1 a).2
/-- what a step comes to: on, on if something holds, two ways, many ways, a new cell, a call, the end -/
abbrev mA : Type := (Bool × mS) ⊕ (Bool × Prop × mS) ⊕ (Bool × Prop × mS × mS) ⊕ (Bool × Int × List (Int × Nat) × Nat × (Nat → mS)) ⊕ (Bool × Prop × (Nat → Bool) × (Nat → mS)) ⊕ (Bool × Nat × List mV × mH × (mV → mH → mS)) ⊕ (Bool × mV × mH) ⊕ (Bool × Prop × mV × mH)
def aGo (b : Bool) (s : mS) : mA := .inl (b, s)
def aOn (b : Bool) (c : Prop) (s : mS) : mA := .inr (.inl (b, c, s))
def aBr (b : Bool) (c : Prop) (s t : mS) : mA := .inr (.inr (.inl (b, c, s, t)))
def aSw (b : Bool) (x : Int) (ps : List (Int × Nat)) (d : Nat) (f : Nat → mS) : mA := .inr (.inr (.inr (.inl (b, x, ps, d, f))))
def aNew (b : Bool) (c : Prop) (g : Nat → Bool) (f : Nat → mS) : mA := .inr (.inr (.inr (.inr (.inl (b, c, g, f)))))
def aCall (b : Bool) (k : Nat) (as : List mV) (h : mH) (f : mV → mH → mS) : mA := .inr (.inr (.inr (.inr (.inr (.inl (b, k, as, h, f))))))
def aEnd (b : Bool) (v : mV) (h : mH) : mA := .inr (.inr (.inr (.inr (.inr (.inr (.inl (b, v, h)))))))
def aEnB (b : Bool) (c : Prop) (v : mV) (h : mH) : mA := .inr (.inr (.inr (.inr (.inr (.inr (.inr (b, c, v, h)))))))
def aNo (s : mS) : mA := .inl (false, s)
/-- lists, by rows that unfold -/
def mGetD : List mV → Nat → mV
  | [], _ => (9, 0)
  | v :: _, 0 => v
  | _ :: l, n + 1 => mGetD l n
def mSetL : List mV → Nat → mV → List mV
  | [], _, _ => []
  | _ :: l, 0, v => v :: l
  | x :: l, n + 1, v => x :: mSetL l n v
def mTake : Nat → List mV → List mV
  | 0, _ => []
  | _ + 1, [] => []
  | n + 1, v :: l => v :: mTake n l
def mDrop : Nat → List mV → List mV
  | 0, l => l
  | _ + 1, [] => []
  | n + 1, _ :: l => mDrop n l
def mRevA : List mV → List mV → List mV
  | [], a => a
  | v :: l, a => mRevA l (v :: a)
def mLenL : List mV → Nat
  | [] => 0
  | _ :: l => mLenL l + 1
def mUn : Nat → List mV
  | 0 => []
  | n + 1 => (9, 0) :: mUn n
def mElem (n : Nat) : List Nat → Bool
  | [] => false
  | k :: l => bif Nat.beq k n then true else mElem n l
def mCats : List mV → Nat
  | [] => 0
  | v :: l => (bif Nat.beq v.1 1 then 2 else 1) + mCats l
/-- what is in a local -/
def mLoc (L : List mV) (i : Nat) : mV := mGetD L i
/-- a value of one slot, of two is put into a local -/
def mClr (L : List mV) (i : Nat) : List mV := bif Nat.beq (mGetD L i).1 1 then mSetL L i (9, 0) else L
def mPre (L : List mV) : Nat → List mV
  | 0 => L
  | j + 1 => mClr L j
def mSt1 (L : List mV) (i : Nat) (v : mV) : List mV := mSetL (mPre L i) i v
def mSt2 (L : List mV) (i : Nat) (v : mV) : List mV := mSetL (mSetL (mPre L i) i v) (i + 1) (9, 0)
def mLd (h : mH) (a k c : Nat) : mV := match c with
  | 2 => (2, (h.2.1 a k : Int))
  | _ => (0, h.1 a k)
def aPush (pc : Nat) (L S : List mV) (h : mH) (n : Nat) (v : mV) : mA := aGo true (pc + n, L, v :: S, h)
def aLoad (pc : Nat) (L S : List mV) (h : mH) (n t i : Nat) : mA := aGo (Nat.beq (mLoc L i).1 t) (pc + n, L, mLoc L i :: S, h)
def aStore (pc : Nat) (L S : List mV) (h : mH) (n t i : Nat) : mA := match S with
  | v :: r => aGo (Nat.beq v.1 t && Nat.blt i (mLenL L)) (pc + n, mSt1 L i v, r, h)
  | _ => aNo (pc, L, S, h)
def aUn (pc : Nat) (L S : List mV) (h : mH) (t u : Nat) (f : Int → Int) : mA := match S with
  | x :: r => aGo (Nat.beq x.1 t) (pc + 1, L, (u, f x.2) :: r, h)
  | _ => aNo (pc, L, S, h)
def aBin (pc : Nat) (L S : List mV) (h : mH) (t t2 u : Nat) (f : Int → Int → Int) : mA := match S with
  | y :: x :: r => aGo (Nat.beq x.1 t && Nat.beq y.1 t2) (pc + 1, L, (u, f x.2 y.2) :: r, h)
  | _ => aNo (pc, L, S, h)
def aDiv (pc : Nat) (L S : List mV) (h : mH) (t : Nat) (f : Int → Int → Int) : mA := match S with
  | y :: x :: r => aOn (Nat.beq x.1 t && Nat.beq y.1 t) (y.2 ≠ 0) (pc + 1, L, (t, f x.2 y.2) :: r, h)
  | _ => aNo (pc, L, S, h)
def cRel (c : ClassFile.Cond) (x y : Int) : Prop := match c with
  | .eq => x = y
  | .ne => x ≠ y
  | .lt => x < y
  | .ge => y ≤ x
  | .gt => y < x
  | .le => x ≤ y
def aIf1 (pc : Nat) (L S : List mV) (h : mH) (c : ClassFile.Cond) (tg : Nat) : mA := match S with
  | x :: r => aBr (Nat.beq x.1 0) (cRel c x.2 0) (tg, L, r, h) (pc + 3, L, r, h)
  | _ => aNo (pc, L, S, h)
def aIf2 (pc : Nat) (L S : List mV) (h : mH) (c : ClassFile.Cond) (tg : Nat) : mA := match S with
  | y :: x :: r => aBr (Nat.beq x.1 0 && Nat.beq y.1 0) (cRel c x.2 y.2) (tg, L, r, h) (pc + 3, L, r, h)
  | _ => aNo (pc, L, S, h)
def aNull (pc : Nat) (L S : List mV) (h : mH) (tg : Nat) (b : Bool) : mA := match S with
  | x :: r => aBr (Nat.beq x.1 2) (bif b then x.2 = 0 else x.2 ≠ 0) (tg, L, r, h) (pc + 3, L, r, h)
  | _ => aNo (pc, L, S, h)
def aGet (pc : Nat) (L S : List mV) (h : mH) (a k c : Nat) : mA := match S with
  | o :: r => aGo (Nat.beq o.1 2 && Nat.beq (mKd h o.2.toNat) (10 + a)) (pc + 3, L, mLd h o.2.toNat k c :: r, h)
  | _ => aNo (pc, L, S, h)
def aPutF (pc : Nat) (L S : List mV) (h : mH) (a k c : Nat) : mA := match S with
  | v :: o :: r => (match c with
    | 2 => aGo (Nat.beq o.1 2 && Nat.beq (mKd h o.2.toNat) (10 + a) && Nat.beq v.1 2) (pc + 3, L, r, mPut h o.2.toNat k v.2.toNat)
    | 5 => aOn (Nat.beq o.1 2 && Nat.beq (mKd h o.2.toNat) (10 + a) && Nat.beq v.1 0) (v.2 = 0 ∨ v.2 = 1) (pc + 3, L, r, mSet h o.2.toNat k v.2)
    | _ => aGo (Nat.beq o.1 2 && Nat.beq (mKd h o.2.toNat) (10 + a) && Nat.beq v.1 0) (pc + 3, L, r, mSet h o.2.toNat k v.2))
  | _ => aNo (pc, L, S, h)
/-- a place of a row: kd the row's kind, t the value's sort -/
def aRd (pc : Nat) (L S : List mV) (h : mH) (kd t : Nat) : mA := match S with
  | i :: o :: r => aOn (Nat.beq i.1 0 && Nat.beq o.1 2 && Nat.beq (mKd h o.2.toNat) (kd)) (0 ≤ i.2 ∧ i.2 < mLn h o.2.toNat) (pc + 1, L, (t, h.1 o.2.toNat i.2.toNat) :: r, h)
  | _ => aNo (pc, L, S, h)
def aRdR (pc : Nat) (L S : List mV) (h : mH) (kd : Nat) : mA := match S with
  | i :: o :: r => aOn (Nat.beq i.1 0 && Nat.beq o.1 2 && Nat.beq (mKd h o.2.toNat) (kd)) (0 ≤ i.2 ∧ i.2 < mLn h o.2.toNat) (pc + 1, L, (2, (h.2.1 o.2.toNat i.2.toNat : Int)) :: r, h)
  | _ => aNo (pc, L, S, h)
def aWr (pc : Nat) (L S : List mV) (h : mH) (kd t : Nat) (c : Int → Prop) (f : Int → Int) : mA := match S with
  | v :: i :: o :: r => aOn (Nat.beq v.1 t && Nat.beq i.1 0 && Nat.beq o.1 2 && Nat.beq (mKd h o.2.toNat) (kd)) (0 ≤ i.2 ∧ i.2 < mLn h o.2.toNat ∧ c v.2) (pc + 1, L, r, mSet h o.2.toNat i.2.toNat (f v.2))
  | _ => aNo (pc, L, S, h)
def aWrR (pc : Nat) (L S : List mV) (h : mH) (cl : Nat) : mA := match S with
  | v :: i :: o :: r => aOn (Nat.beq v.1 2 && Nat.beq (mKd h v.2.toNat) (10 + cl) && Nat.beq i.1 0 && Nat.beq o.1 2 && Nat.beq (mKd h o.2.toNat) (40 + cl)) (0 ≤ i.2 ∧ i.2 < mLn h o.2.toNat) (pc + 1, L, r, mPut h o.2.toNat i.2.toNat v.2.toNat)
  | _ => aNo (pc, L, S, h)
def aLen (pc : Nat) (L S : List mV) (h : mH) : mA := match S with
  | o :: r => aGo (Nat.beq o.1 2 && (Nat.ble 1 (mKd h o.2.toNat) && Nat.ble (mKd h o.2.toNat) 4 || Nat.ble 40 (mKd h o.2.toNat))) (pc + 1, L, (0, (mLn h o.2.toNat : Int)) :: r, h)
  | _ => aNo (pc, L, S, h)
def aNewA (pc : Nat) (L S : List mV) (h : mH) (n kd : Nat) : mA := match S with
  | x :: r => aNew (Nat.beq x.1 0) (0 ≤ x.2 ∧ x.2 ≤ 100000 ∧ h.2.2.2.1 + 1 ≤ 600000 ∧ h.2.2.2.2 + x.2.toNat ≤ 7302249) (fun q => Nat.beq (mKd h q) (0) && Nat.ble 1 q) (fun q => (pc + n, L, (2, (q : Int)) :: r, mNew h q kd x.2.toNat))
  | _ => aNo (pc, L, S, h)
def aNewO (pc : Nat) (L S : List mV) (h : mH) (a n : Nat) : mA :=
  aNew true (h.2.2.2.1 + 1 ≤ 600000 ∧ h.2.2.2.2 + n ≤ 7302249) (fun q => Nat.beq (mKd h q) (0) && Nat.ble 1 q) (fun q => (pc + 3, L, (2, (q : Int)) :: S, mNew h q (10 + a) n))
def mNeg : Int → Bool
  | .ofNat _ => false
  | .negSucc _ => true
def mRet (c : Nat) (r : mV) (S : List mV) : List mV := match c with
  | 0 => S
  | 1 => (0, r.2) :: S
  | _ => (1, r.2) :: S
/-- a call: k the method, n its arguments, c its answer's sort, cl the receiver's class (none below 0) -/
def aInv (pc : Nat) (L S : List mV) (h : mH) (k n c : Nat) (cl : Int) : mA :=
  aCall (Nat.ble n (mLenL S) && Nat.ble (mCats (mDrop n S)) 8 && (mNeg cl || (match mRevA (mTake n S) [] with
    | o :: _ => Nat.beq o.1 2 && Nat.beq (mKd h o.2.toNat) (10 + cl.toNat)
    | _ => false))) k (mRevA (mTake n S) []) h (fun r h' => (pc + 3, L, mRet c r (mDrop n S), h'))
