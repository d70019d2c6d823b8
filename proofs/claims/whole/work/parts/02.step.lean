/-! ===== one step of the small machine, and what must hold for a method to come to its end ===== -/
/-- the texts, as signs -/
def m_t0 : List Int := [59, 58, 43, 45, 42, 40, 41, 91, 93, 61, 60, 62]
def m_t1 : List Int := [102, 97, 114, 109, 115, 32, 109, 111, 109, 101, 110, 116, 115, 32, 98, 105, 116, 32, 116, 111, 32, 109, 117, 115, 116, 32, 102, 97, 114, 109, 32, 119, 105, 115, 104, 32, 109, 111, 111, 100, 32, 99, 117, 116, 32, 115, 110, 111, 119, 32, 97, 116, 32, 116, 101, 108, 108, 115, 32, 104, 101, 97, 114, 115, 32, 108, 105, 107, 101, 115, 32, 110, 111, 119, 32, 111, 114, 32, 97, 110, 100, 32, 110, 111, 116, 32, 102, 114, 111, 109, 32, 116, 101, 108, 108, 101, 114, 32, 102, 97, 114, 32, 109, 111, 109, 101, 110, 116, 32]
def m_t2 : List Int := [32, 102, 97, 114, 109, 115, 32, 109, 111, 109, 101, 110, 116, 115, 32, 98, 105, 116, 32, 116, 111, 32, 109, 117, 115, 116, 32, 102, 97, 114, 109, 32, 119, 105, 115, 104, 32, 109, 111, 111, 100, 32, 99, 117, 116, 32, 115, 110, 111, 119, 32, 97, 116, 32, 116, 101, 108, 108, 115, 32, 104, 101, 97, 114, 115, 32, 108, 105, 107, 101, 115, 32, 110, 111, 119, 32, 102, 114, 111, 109, 32, 116, 101, 108, 108, 101, 114, 32, 102, 97, 114, 32, 109, 111, 109, 101, 110, 116, 32, 97, 110, 100, 32, 111, 114, 32, 110, 111, 116, 32]
def m_tx (i : Nat) : List Int := match i with
  | 0 => m_t0
  | 1 => m_t1
  | _ => m_t2
def mLenT : List Int → Nat
  | [] => 0
  | _ :: l => mLenT l + 1
def mAtT : List Int → Nat → Int
  | [], _ => 0
  | v :: _, 0 => v
  | _ :: l, n + 1 => mAtT l n
def m_ix (c : Int) : List Int → Int → Int
  | [], _ => -1
  | b :: l, k => if b = c then k else m_ix c l (k + 1)
/-- members of the library: 1000 Object's maker, Math's, arraycopy, a text's length, sign, place of a sign -/
noncomputable def aLib (pc : Nat) (L S : List mV) (h : mH) (k : Nat) : mA :=
  bif Nat.beq k 1000 then (match S with
    | o :: r => aGo (Nat.beq o.1 2 && Nat.ble 1 o.2.toNat && Nat.ble (mCats r) 8) (pc + 3, L, r, h)
    | _ => aNo (pc, L, S, h))
  else bif Nat.beq k 1001 then (match S with
    | y :: x :: r => aGo (Nat.beq x.1 0 && Nat.beq y.1 0 && Nat.ble (mCats r) 8) (pc + 3, L, (0, if x.2 < y.2 then y.2 else x.2) :: r, h)
    | _ => aNo (pc, L, S, h))
  else bif Nat.beq k 1002 then (match S with
    | y :: x :: r => aGo (Nat.beq x.1 0 && Nat.beq y.1 0 && Nat.ble (mCats r) 8) (pc + 3, L, (0, if y.2 < x.2 then y.2 else x.2) :: r, h)
    | _ => aNo (pc, L, S, h))
  else bif Nat.beq k 1003 then (match S with
    | x :: r => aGo (Nat.beq x.1 0 && Nat.ble (mCats r) 8) (pc + 3, L, (0, if 0 ≤ x.2 then x.2 else w32 (0 - x.2)) :: r, h)
    | _ => aNo (pc, L, S, h))
  else bif Nat.beq k 1004 then (match S with
    | y :: x :: r => aGo (Nat.beq x.1 1 && Nat.beq y.1 1 && Nat.ble (mCats r) 8) (pc + 3, L, (1, if x.2 < y.2 then y.2 else x.2) :: r, h)
    | _ => aNo (pc, L, S, h))
  else bif Nat.beq k 1005 then (match S with
    | y :: x :: r => aGo (Nat.beq x.1 1 && Nat.beq y.1 1 && Nat.ble (mCats r) 8) (pc + 3, L, (1, if y.2 < x.2 then y.2 else x.2) :: r, h)
    | _ => aNo (pc, L, S, h))
  else bif Nat.beq k 1006 then (match S with
    | n :: dp :: b :: sp :: a :: r => aOn (Nat.beq n.1 0 && Nat.beq dp.1 0 && Nat.beq b.1 2 && Nat.beq sp.1 0 && Nat.beq a.1 2 && Nat.beq (mKd h b.2.toNat) (1) && Nat.beq (mKd h a.2.toNat) (1) && Nat.ble (mCats r) 8) (0 ≤ n.2 ∧ 0 ≤ dp.2 ∧ 0 ≤ sp.2 ∧ sp.2 + n.2 ≤ mLn h a.2.toNat ∧ dp.2 + n.2 ≤ mLn h b.2.toNat) (pc + 3, L, r, mCpy h a.2.toNat sp.2.toNat b.2.toNat dp.2.toNat n.2.toNat)
    | _ => aNo (pc, L, S, h))
  else bif Nat.beq k 1007 then (match S with
    | o :: r => aGo (Nat.beq o.1 3 && Nat.ble (mCats r) 8) (pc + 3, L, (0, (mLenT (m_tx o.2.toNat) : Int)) :: r, h)
    | _ => aNo (pc, L, S, h))
  else bif Nat.beq k 1008 then (match S with
    | i :: o :: r => aOn (Nat.beq i.1 0 && Nat.beq o.1 3 && Nat.ble (mCats r) 8) (0 ≤ i.2 ∧ i.2 < mLenT (m_tx o.2.toNat)) (pc + 3, L, (0, mAtT (m_tx o.2.toNat) i.2.toNat) :: r, h)
    | _ => aNo (pc, L, S, h))
  else (match S with
    | c :: o :: r => aOn (Nat.beq k 1009 && Nat.beq c.1 0 && Nat.beq o.1 3 && Nat.ble (mCats r) 8) (0 ≤ c.2 ∧ c.2 < 256) (pc + 3, L, (0, m_ix c.2 (m_tx o.2.toNat) 0) :: r, h)
    | _ => aNo (pc, L, S, h))
noncomputable def aCl (pc : Nat) (L S : List mV) (h : mH) (k n c : Nat) (cl : Int) : mA := bif Nat.ble 1000 k then aLib pc L S h k else aInv pc L S h k n c cl
noncomputable def act (e : mE) (pc : Nat) (L S : List mV) (h : mH) : mA := match e with
  | (_, i, n, a, b, c, v, ps) => match i with
    | .iconst _ | .bipush _ | .sipush _ | .ldc_w _ => aPush pc L S h n (0, v)
    | .ldc _ => aPush pc L S h n (a, v)
    | .lconst _ | .ldc2_w _ => aPush pc L S h n (1, v)
    | .iload _ | .iload_n _ => aLoad pc L S h n 0 a
    | .lload _ | .lload_n _ => aLoad pc L S h n 1 a
    | .aload _ | .aload_n _ => aLoad pc L S h n 2 a
    | .istore _ | .istore_n _ => aStore pc L S h n 0 a
    | .astore _ | .astore_n _ => aStore pc L S h n 2 a
    | .lstore _ | .lstore_n _ => (match S with
      | x :: r => aGo (Nat.beq x.1 1 && Nat.blt (a + 1) (mLenL L)) (pc + n, mSt2 L a x, r, h)
      | _ => aNo (pc, L, S, h))
    | .iinc _ _ => aGo (Nat.beq (mLoc L a).1 0 && Nat.blt a (mLenL L)) (pc + n, mSt1 L a (0, w32 ((mLoc L a).2 + v)), S, h)
    | .dup => (match S with
      | x :: r => aGo (!(Nat.beq x.1 1)) (pc + 1, L, x :: x :: r, h)
      | _ => aNo (pc, L, S, h))
    | .dup2 => (match S with
      | x :: y :: r => aGo (!(Nat.beq x.1 1) && !(Nat.beq y.1 1)) (pc + 1, L, x :: y :: x :: y :: r, h)
      | _ => aNo (pc, L, S, h))
    | .pop => (match S with
      | x :: r => aGo (!(Nat.beq x.1 1)) (pc + 1, L, r, h)
      | _ => aNo (pc, L, S, h))
    | .pop2 => (match S with
      | x :: r => aGo (Nat.beq x.1 1) (pc + 1, L, r, h)
      | _ => aNo (pc, L, S, h))
    | .iadd => aBin pc L S h 0 0 0 (fun x y => w32 (x + y))
    | .isub => aBin pc L S h 0 0 0 (fun x y => w32 (x - y))
    | .imul => aBin pc L S h 0 0 0 (fun x y => w32 (x * y))
    | .iand => aBin pc L S h 0 0 0 m_and
    | .ior => aBin pc L S h 0 0 0 m_or
    | .ixor => aBin pc L S h 0 0 0 m_xor
    | .ishl => aBin pc L S h 0 0 0 m_shl
    | .ishr => aBin pc L S h 0 0 0 m_shr
    | .iushr => aBin pc L S h 0 0 0 m_ushr
    | .idiv => aDiv pc L S h 0 m_div
    | .irem => aDiv pc L S h 0 m_rem
    | .ineg => aUn pc L S h 0 0 (fun x => w32 (-x))
    | .ladd => aBin pc L S h 1 1 1 (fun x y => w64 (x + y))
    | .lsub => aBin pc L S h 1 1 1 (fun x y => w64 (x - y))
    | .lmul => aBin pc L S h 1 1 1 (fun x y => w64 (x * y))
    | .land => aBin pc L S h 1 1 1 l_and
    | .lor => aBin pc L S h 1 1 1 l_or
    | .lshl => aBin pc L S h 1 0 1 l_shl
    | .lshr => aBin pc L S h 1 0 1 l_shr
    | .ldiv => aDiv pc L S h 1 l_div
    | .lrem => aDiv pc L S h 1 l_rem
    | .lcmp => aBin pc L S h 1 1 0 m_cmp
    | .i2l => aUn pc L S h 0 1 (fun x => x)
    | .l2i => aUn pc L S h 1 0 w32
    | .i2b => aUn pc L S h 0 0 m_i2b
    | .i2s => aUn pc L S h 0 0 m_i2s
    | .i2c => aUn pc L S h 0 0 m_i2c
    | .ifCond r _ => aIf1 pc L S h r a
    | .if_icmp r _ => aIf2 pc L S h r a
    | .ifnull _ => aNull pc L S h a true
    | .ifnonnull _ => aNull pc L S h a false
    | .goto _ => aGo true (a, L, S, h)
    | .tableswitch _ _ _ _ | .lookupswitch _ _ => (match S with
      | x :: r => aSw (Nat.beq x.1 0) x.2 ps a (fun t => (t, L, r, h))
      | _ => aNo (pc, L, S, h))
    | .getfield _ => aGet pc L S h a b c
    | .putfield _ => aPutF pc L S h a b c
    | .iaload => aRd pc L S h 1 0
    | .baload => aRd pc L S h a 0
    | .laload => aRd pc L S h 4 1
    | .aaload => aRdR pc L S h (40 + a)
    | .iastore => aWr pc L S h 1 0 (fun _ => True) (fun x => x)
    | .bastore => (match a with
      | 2 => aWr pc L S h 2 0 (fun _ => True) m_i2b
      | _ => aWr pc L S h 3 0 (fun x => x = 0 ∨ x = 1) (fun x => x))
    | .lastore => aWr pc L S h 4 1 (fun _ => True) (fun x => x)
    | .aastore => aWrR pc L S h a
    | .arraylength => aLen pc L S h
    | .newarray _ => aNewA pc L S h n a
    | .anewarray _ => aNewA pc L S h n (40 + a)
    | .new _ => aNewO pc L S h a b
    | .invokespecial _ | .invokestatic _ | .invokevirtual _ => aCl pc L S h a b c v
    | .ireturn => (match S with
      | [x] => (match a with
        | 0 => aEnd (Nat.beq x.1 0) x h
        | _ => aEnB (Nat.beq x.1 0) (x.2 = 0 ∨ x.2 = 1) x h)
      | _ => aNo (pc, L, S, h))
    | .lreturn => (match S with
      | [x] => aEnd (Nat.beq x.1 1) x h
      | _ => aNo (pc, L, S, h))
    | .return_ => (match S with
      | [] => aEnd true (9, 0) h
      | _ => aNo (pc, L, S, h))
    | _ => aNo (pc, L, S, h)
abbrev mPost : Type := mV → mH → Prop
abbrev mCl : Type := Nat → List mV → mH → mPost → Prop
def swX (X : Nat → Prop) (x : Int) (d : Nat) : List (Int × Nat) → Prop
  | [] => X d
  | q :: ps => (x = q.1 → X q.2) ∧ (x ≠ q.1 → swX X x d ps)
/-- what must hold for a step's outcome -/
def stA (C : mCl) (F : mPost) (X : mS → Prop) (A : mA) : Prop := match A with
  | .inl (b, s) => bif b then X s else False
  | .inr (.inl (b, c, s)) => bif b then c ∧ X s else False
  | .inr (.inr (.inl (b, c, s, t))) => bif b then (c → X s) ∧ (¬ c → X t) else False
  | .inr (.inr (.inr (.inl (b, x, ps, d, f)))) => bif b then swX (fun t => X (f t)) x d ps else False
  | .inr (.inr (.inr (.inr (.inl (b, c, g, f))))) => bif b then c ∧ ∃ q, g q = true ∧ X (f q) else False
  | .inr (.inr (.inr (.inr (.inr (.inl (b, k, as, h, f)))))) => bif b then C k as h (fun r h' => X (f r h')) else False
  | .inr (.inr (.inr (.inr (.inr (.inr (.inl (b, v, h))))))) => bif b then F v h else False
  | .inr (.inr (.inr (.inr (.inr (.inr (.inr (b, c, v, h))))))) => bif b then c ∧ F v h else False
theorem bf {b : Bool} {A B : Prop} (h : A → B) (q : bif b then A else False) : bif b then B else False := by
  cases b
  · exact q
  · exact h q
/-- the code of a method: rows of instructions, sixteen places a row -/
def mRow : List (List mE) → Nat → List mE
  | [], _ => []
  | r :: _, 0 => r
  | _ :: l, n + 1 => mRow l n
def mFind (pc : Nat) : List mE → Option mE
  | [] => none
  | e :: l => bif Nat.beq e.1 pc then some e else mFind pc l
def mAt (cd : List (List mE)) (pc : Nat) : Option mE := mFind pc (mRow cd (pc / 16))
def stp0 (cd : List (List mE)) (C : mCl) (F : mPost) (X : mS → Prop) (st : mS) : Prop := match st with
  | (pc, L, S, h) => match mAt cd pc with
    | some e => stA C F X (act e pc L S h)
    | none => False
/-- some locals are forgotten -/
def mKill : List Nat → List mV → List mV
  | [], L => L
  | k :: ks, L => mKill ks (mSetL L k (9, 0))
/-- a step, behind which some locals may be forgotten ahead -/
def stp (cd : List (List mE)) (C : mCl) (F : mPost) (X : mS → Prop) (st : mS) : Prop := match st with
  | (pc, L, S, h) => ∃ ks : List Nat, stp0 cd C F X (pc, mKill ks L, S, h)
/-- from this frame on the method comes to its end, and F holds of its answer and the cells then -/
def WPc (cd : List (List mE)) (C : mCl) (F : mPost) (st : mS) : Prop := ∀ X : mS → Prop, (∀ s, stp cd C F X s → X s) → X st
theorem swX_mono {X Y : Nat → Prop} (h : ∀ t, X t → Y t) {x : Int} {d : Nat} : ∀ ps : List (Int × Nat), swX X x d ps → swX Y x d ps
  | [], q => h _ q
  | _ :: ps, q => ⟨fun e => h _ (q.1 e), fun e => swX_mono h ps (q.2 e)⟩
theorem stA_mono {C : mCl} (hC : ∀ k as h (F G : mPost), (∀ r u, F r u → G r u) → C k as h F → C k as h G) {F G : mPost} {X Y : mS → Prop} (hF : ∀ r u, F r u → G r u) (hX : ∀ s, X s → Y s) {A : mA} (q : stA C F X A) : stA C G Y A := by
  rcases A with ⟨b, s⟩ | ⟨b, c, s⟩ | ⟨b, c, s, t⟩ | ⟨b, x, ps, d, f⟩ | ⟨b, c, g, f⟩ | ⟨b, k, as, h, f⟩ | ⟨b, v, h⟩ | ⟨b, c, v, h⟩
  · exact bf (fun q => hX _ q) q
  · exact bf (fun q => ⟨q.1, hX _ q.2⟩) q
  · exact bf (fun q => ⟨fun e => hX _ (q.1 e), fun e => hX _ (q.2 e)⟩) q
  · exact bf (fun q => swX_mono (fun t e => hX _ e) _ q) q
  · exact bf (fun q => by obtain ⟨h2, n, h3, h4⟩ := q; exact ⟨h2, n, h3, hX _ h4⟩) q
  · exact bf (fun q => hC _ _ _ _ _ (fun r u e => hX _ e) q) q
  · exact bf (fun q => hF _ _ q) q
  · exact bf (fun q => ⟨q.1, hF _ _ q.2⟩) q
theorem stp0_mono {cd : List (List mE)} {C : mCl} (hC : ∀ k as h (F G : mPost), (∀ r u, F r u → G r u) → C k as h F → C k as h G) {F G : mPost} {X Y : mS → Prop} (hF : ∀ r u, F r u → G r u) (hX : ∀ s, X s → Y s) {st : mS} (q : stp0 cd C F X st) : stp0 cd C G Y st := by
  obtain ⟨pc, L, S, u⟩ := st
  unfold stp0 at q ⊢
  dsimp only at q ⊢
  cases h : mAt cd pc with
  | none => rw [h] at q; exact q
  | some e => rw [h] at q; exact stA_mono hC hF hX q
theorem stp_mono {cd : List (List mE)} {C : mCl} (hC : ∀ k as h (F G : mPost), (∀ r u, F r u → G r u) → C k as h F → C k as h G) {F G : mPost} {X Y : mS → Prop} (hF : ∀ r u, F r u → G r u) (hX : ∀ s, X s → Y s) {st : mS} (q : stp cd C F X st) : stp cd C G Y st := by
  obtain ⟨pc, L, S, u⟩ := st
  obtain ⟨ks, q⟩ := q
  exact ⟨ks, stp0_mono hC hF hX q⟩
theorem stp_of0 {cd : List (List mE)} {C : mCl} {F : mPost} {X : mS → Prop} {st : mS} (q : stp0 cd C F X st) : stp cd C F X st := by
  obtain ⟨pc, L, S, u⟩ := st
  exact ⟨[], q⟩
theorem mKill_app : ∀ (a b : List Nat) (L : List mV), mKill (a ++ b) L = mKill b (mKill a L)
  | [], b, L => rfl
  | k :: a, b, L => mKill_app a b (mSetL L k (9, 0))
theorem WPc.step {cd : List (List mE)} {C : mCl} (hC : ∀ k as h (F G : mPost), (∀ r u, F r u → G r u) → C k as h F → C k as h G) {F : mPost} {st : mS} (q : stp cd C F (WPc cd C F) st) : WPc cd C F st := by
  intro X hX
  exact hX _ (stp_mono hC (fun _ _ e => e) (fun s e => e X hX) q)
theorem WPc.out {cd : List (List mE)} {C : mCl} (hC : ∀ k as h (F G : mPost), (∀ r u, F r u → G r u) → C k as h F → C k as h G) {F : mPost} {st : mS} (q : WPc cd C F st) : stp cd C F (WPc cd C F) st :=
  q (stp cd C F (WPc cd C F)) (fun s e => stp_mono hC (fun _ _ z => z) (fun t z => WPc.step hC z) e)
theorem WPc.killC {cd : List (List mE)} {C : mCl} (hC : ∀ k as h (F G : mPost), (∀ r u, F r u → G r u) → C k as h F → C k as h G) {F : mPost} {pc : Nat} {L S : List mV} {h : mH} (ks : List Nat) (q : WPc cd C F (pc, mKill ks L, S, h)) : WPc cd C F (pc, L, S, h) := by
  obtain ⟨ks', q⟩ := WPc.out hC q
  refine WPc.step hC ⟨ks ++ ks', ?_⟩
  rw [mKill_app]
  exact q
theorem WPc.mono {cd : List (List mE)} {C : mCl} (hC : ∀ k as h (F G : mPost), (∀ r u, F r u → G r u) → C k as h F → C k as h G) {F G : mPost} (hF : ∀ r u, F r u → G r u) {st : mS} (q : WPc cd C F st) : WPc cd C G st := by
  intro X hX
  exact q X (fun s e => hX s (stp_mono hC hF (fun _ e => e) e))
/-- a method: its code, how many locals -/
abbrev mM : Type := List (List mE) × Nat
def mEnt : List mV → Nat → List mV
  | [], n => mUn n
  | v :: l, n => bif Nat.beq v.1 1 then v :: (9, 0) :: mEnt l (n - 2) else v :: mEnt l (n - 1)
def WPm (T : Nat → Option mM) : Nat → mCl
  | 0, _, _, _, _ => False
  | d + 1, k, as, h, F => match T k with
    | some M => mCats as ≤ M.2 ∧ WPc M.1 (WPm T d) F (0, mEnt as M.2, [], h)
    | none => False
theorem WPm_mono (T : Nat → Option mM) : ∀ (d k : Nat) (as : List mV) (h : mH) (F G : mPost), (∀ r u, F r u → G r u) → WPm T d k as h F → WPm T d k as h G
  | 0, _, _, _, _, _, _, q => q
  | d + 1, k, as, h, F, G, hF, q => by
    unfold WPm at q ⊢
    cases e : T k with
    | none => rw [e] at q; exact q
    | some M => rw [e] at q; exact ⟨q.1, WPc.mono (WPm_mono T d) hF q.2⟩
/-- one exact answer -/
def mIs (r : mV) (h : mH) : mPost := fun r1 h1 => r1 = r ∧ h1 = h
theorem swX_ex {X : Nat → Prop} {x : Int} {d : Nat} : ∀ ps : List (Int × Nat), swX X x d ps → ∃ t, X t ∧ ∀ Y : Nat → Prop, Y t → swX Y x d ps
  | [], q => ⟨d, q, fun _ y => y⟩
  | p :: ps, q => by
    by_cases e : x = p.1
    · exact ⟨p.2, q.1 e, fun Y y => ⟨fun _ => y, fun n => absurd e n⟩⟩
    · obtain ⟨t, h1, h2⟩ := swX_ex ps (q.2 e)
      exact ⟨t, h1, fun Y y => ⟨fun n => absurd n e, fun _ => h2 Y y⟩⟩
theorem WPc.exact {cd : List (List mE)} {C : mCl} (hC : ∀ k as h (F G : mPost), (∀ r u, F r u → G r u) → C k as h F → C k as h G) (hE : ∀ k as h (F : mPost), C k as h F → ∃ r u, F r u ∧ C k as h (mIs r u)) {F : mPost} {st : mS} (q : WPc cd C F st) : ∃ r u, F r u ∧ WPc cd C (mIs r u) st := by
  refine q (fun s => ∃ r u, F r u ∧ WPc cd C (mIs r u) s) (fun s e => ?_)
  have key : ∀ A : mA, stA C F (fun s => ∃ r u, F r u ∧ WPc cd C (mIs r u) s) A → ∃ r u, F r u ∧ stA C (mIs r u) (WPc cd C (mIs r u)) A := by
    intro A q
    have cd2 : ∀ {b : Bool} {P : Prop}, (bif b then P else False) → b = true ∧ P := by
      intro b P q
      cases b
      · exact q.elim
      · exact ⟨rfl, q⟩
    rcases A with ⟨b, s⟩ | ⟨b, c, s⟩ | ⟨b, c, s, t⟩ | ⟨b, x, ps, d, f⟩ | ⟨b, c, g, f⟩ | ⟨b, k, as, h, f⟩ | ⟨b, v, h⟩ | ⟨b, c, v, h⟩
    · obtain ⟨rfl, r, u, h3, h4⟩ := cd2 q
      exact ⟨r, u, h3, h4⟩
    · obtain ⟨rfl, h2, r, u, h3, h4⟩ := cd2 q
      exact ⟨r, u, h3, h2, h4⟩
    · obtain ⟨rfl, h2, h3⟩ := cd2 q
      by_cases hc : c
      · obtain ⟨r, u, h4, h5⟩ := h2 hc
        exact ⟨r, u, h4, fun _ => h5, fun n => absurd hc n⟩
      · obtain ⟨r, u, h4, h5⟩ := h3 hc
        exact ⟨r, u, h4, fun n => absurd n hc, fun _ => h5⟩
    · obtain ⟨rfl, h2⟩ := cd2 q
      obtain ⟨t, ⟨r, u, h3, h4⟩, h5⟩ := swX_ex _ h2
      exact ⟨r, u, h3, h5 (fun t => WPc cd C (mIs r u) (f t)) h4⟩
    · obtain ⟨rfl, h2, n, h3, r, u, h4, h5⟩ := cd2 q
      exact ⟨r, u, h4, h2, n, h3, h5⟩
    · obtain ⟨rfl, h2⟩ := cd2 q
      obtain ⟨r1, u1, ⟨r, u, h3, h4⟩, h5⟩ := hE _ _ _ _ h2
      exact ⟨r, u, h3, hC _ _ _ _ _ (fun r2 u2 e2 => by obtain ⟨rfl, rfl⟩ := e2; exact h4) h5⟩
    · obtain ⟨rfl, h2⟩ := cd2 q
      exact ⟨v, h, h2, rfl, rfl⟩
    · obtain ⟨rfl, h2, h3⟩ := cd2 q
      exact ⟨v, h, h3, h2, rfl, rfl⟩
  obtain ⟨pc, L, S, v⟩ := s
  obtain ⟨ks, e⟩ := e
  unfold stp0 at e
  dsimp only at e
  cases h : mAt cd pc with
  | none => rw [h] at e; exact e.elim
  | some m =>
    rw [h] at e
    obtain ⟨r, u, h1, h2⟩ := key _ e
    refine ⟨r, u, h1, WPc.step hC ⟨ks, ?_⟩⟩
    unfold stp0
    dsimp only
    rw [h]
    exact h2
theorem WPm_exact (T : Nat → Option mM) : ∀ (d k : Nat) (as : List mV) (h : mH) (F : mPost), WPm T d k as h F → ∃ r u, F r u ∧ WPm T d k as h (mIs r u)
  | 0, _, _, _, _, q => q.elim
  | d + 1, k, as, h, F, q => by
    unfold WPm at q
    cases e : T k with
    | none => rw [e] at q; exact q.elim
    | some M =>
      rw [e] at q
      obtain ⟨r, u, h1, h2⟩ := WPc.exact (WPm_mono T d) (WPm_exact T d) q.2
      refine ⟨r, u, h1, ?_⟩
      unfold WPm
      rw [e]
      exact ⟨q.1, h2⟩
/-- several steps at once, up to the places of K -/
def vcK (K : List Nat) (cd : List (List mE)) (C : mCl) (F : mPost) (X : mS → Prop) : Nat → mS → Prop
  | 0, st => X st
  | n + 1, st => stp0 cd C F (fun s => match s with
    | (pc, L, S, h) => bif mElem pc K then X (pc, L, S, h) else vcK K cd C F X n (pc, L, S, h)) st
theorem vcK_ok {K : List Nat} {cd : List (List mE)} {T : Nat → Option mM} {d : Nat} {F : mPost} : ∀ (n : Nat) (st : mS), vcK K cd (WPm T d) F (WPc cd (WPm T d) F) n st → WPc cd (WPm T d) F st
  | 0, _, q => q
  | n + 1, _, q => WPc.step (WPm_mono T d) (stp_mono (WPm_mono T d) (fun _ _ e => e) (fun s e => by
      obtain ⟨pc, L, S, u⟩ := s
      dsimp only at e
      cases h : mElem pc K with
      | true => rw [h] at e; exact e
      | false => rw [h] at e; exact vcK_ok n _ e) (stp_of0 q))
theorem WPc.kill {cd : List (List mE)} {T : Nat → Option mM} {d : Nat} {F : mPost} {pc : Nat} {L S : List mV} {h : mH} (ks : List Nat) (q : WPc cd (WPm T d) F (pc, mKill ks L, S, h)) : WPc cd (WPm T d) F (pc, L, S, h) := WPc.killC (WPm_mono T d) ks q
