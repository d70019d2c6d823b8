/-! ===== one step of the small machine, and what must hold for a method to come to its end ===== -/
/-- the texts, as signs -/
def m_t0 : List Int := [59, 58, 43, 45, 42, 40, 41, 91, 93, 61, 60, 62]
def m_tx (i : Nat) : List Int := match i with
  | 0 => m_t0
  | _ => []
def m_ix (c : Int) : List Int → Int → Int
  | [], _ => -1
  | b :: l, k => if b = c then k else m_ix c l (k + 1)
/-- members of the library: 1000 Object's maker, Math's, arraycopy, a text's length, sign, place of a sign -/
def aLib (pc : Nat) (L S : List mV) (h : mH) (k : Nat) : mA :=
  bif k == 1000 then (match S with
    | o :: r => aOn (o.1 == 2 && Nat.ble 1 o.2.toNat && Nat.ble (mCats r) 8) True (pc + 3, L, r, h)
    | _ => aNo (pc, L, S, h))
  else bif k == 1001 then (match S with
    | y :: x :: r => aOn (x.1 == 0 && y.1 == 0 && Nat.ble (mCats r) 8) True (pc + 3, L, (0, if x.2 < y.2 then y.2 else x.2) :: r, h)
    | _ => aNo (pc, L, S, h))
  else bif k == 1002 then (match S with
    | y :: x :: r => aOn (x.1 == 0 && y.1 == 0 && Nat.ble (mCats r) 8) True (pc + 3, L, (0, if y.2 < x.2 then y.2 else x.2) :: r, h)
    | _ => aNo (pc, L, S, h))
  else bif k == 1003 then (match S with
    | x :: r => aOn (x.1 == 0 && Nat.ble (mCats r) 8) True (pc + 3, L, (0, if 0 ≤ x.2 then x.2 else w32 (0 - x.2)) :: r, h)
    | _ => aNo (pc, L, S, h))
  else bif k == 1004 then (match S with
    | y :: x :: r => aOn (x.1 == 1 && y.1 == 1 && Nat.ble (mCats r) 8) True (pc + 3, L, (1, if x.2 < y.2 then y.2 else x.2) :: r, h)
    | _ => aNo (pc, L, S, h))
  else bif k == 1005 then (match S with
    | y :: x :: r => aOn (x.1 == 1 && y.1 == 1 && Nat.ble (mCats r) 8) True (pc + 3, L, (1, if y.2 < x.2 then y.2 else x.2) :: r, h)
    | _ => aNo (pc, L, S, h))
  else bif k == 1006 then (match S with
    | n :: dp :: b :: sp :: a :: r => aOn (n.1 == 0 && dp.1 == 0 && b.1 == 2 && sp.1 == 0 && a.1 == 2 && mKd h b.2.toNat == 1 && mKd h a.2.toNat == 1 && Nat.ble (mCats r) 8) (0 ≤ n.2 ∧ 0 ≤ dp.2 ∧ 0 ≤ sp.2 ∧ sp.2 + n.2 ≤ mLn h a.2.toNat ∧ dp.2 + n.2 ≤ mLn h b.2.toNat) (pc + 3, L, r, mCpy h a.2.toNat sp.2.toNat b.2.toNat dp.2.toNat n.2.toNat)
    | _ => aNo (pc, L, S, h))
  else bif k == 1007 then (match S with
    | o :: r => aOn (o.1 == 3 && Nat.ble (mCats r) 8) True (pc + 3, L, (0, ((m_tx o.2.toNat).length : Int)) :: r, h)
    | _ => aNo (pc, L, S, h))
  else bif k == 1008 then (match S with
    | i :: o :: r => aOn (i.1 == 0 && o.1 == 3 && Nat.ble (mCats r) 8) (0 ≤ i.2 ∧ i.2 < (m_tx o.2.toNat).length) (pc + 3, L, (0, (m_tx o.2.toNat).getD i.2.toNat 0) :: r, h)
    | _ => aNo (pc, L, S, h))
  else (match S with
    | c :: o :: r => aOn (k == 1009 && c.1 == 0 && o.1 == 3 && Nat.ble (mCats r) 8) (0 ≤ c.2 ∧ c.2 < 256) (pc + 3, L, (0, m_ix c.2 (m_tx o.2.toNat) 0) :: r, h)
    | _ => aNo (pc, L, S, h))
def aCl (pc : Nat) (L S : List mV) (h : mH) (k n c : Nat) (cl : Int) : mA := bif Nat.ble 1000 k then aLib pc L S h k else aInv pc L S h k n c cl
def act (e : mE) (pc : Nat) (L S : List mV) (h : mH) : mA := match e with
  | (_, i, n, a, b, c, v, ps) => match i with
    | .iconst _ | .bipush _ | .sipush _ | .ldc_w _ => aPush pc L S h n (0, v)
    | .ldc _ => aPush pc L S h n (a, v)
    | .lconst _ | .ldc2_w _ => aPush pc L S h n (1, v)
    | .iload _ | .iload_n _ => aLoad pc L S h n 0 a
    | .lload _ | .lload_n _ => aLoad pc L S h n 1 a
    | .aload _ | .aload_n _ => aLoad pc L S h n 2 a
    | .istore _ | .istore_n _ => aStore pc L S h n 0 a
    | .astore _ | .astore_n _ => aStore pc L S h n 2 a
    | .lstore _ | .lstore_n _ => (match S with
      | x :: r => aOn (x.1 == 1 && (a + 1).blt L.length) True (pc + n, mSt2 L a x, r, h)
      | _ => aNo (pc, L, S, h))
    | .iinc _ _ => aOn ((mLoc L a).1 == 0 && a.blt L.length) True (pc + n, mSt1 L a (0, w32 ((mLoc L a).2 + v)), S, h)
    | .dup => (match S with
      | x :: r => aOn (!(x.1 == 1)) True (pc + 1, L, x :: x :: r, h)
      | _ => aNo (pc, L, S, h))
    | .dup2 => (match S with
      | x :: y :: r => aOn (!(x.1 == 1) && !(y.1 == 1)) True (pc + 1, L, x :: y :: x :: y :: r, h)
      | _ => aNo (pc, L, S, h))
    | .pop => (match S with
      | x :: r => aOn (!(x.1 == 1)) True (pc + 1, L, r, h)
      | _ => aNo (pc, L, S, h))
    | .pop2 => (match S with
      | x :: r => aOn (x.1 == 1) True (pc + 1, L, r, h)
      | _ => aNo (pc, L, S, h))
    | .iadd => aBin pc L S h 0 0 0 (fun x y => w32 (x + y))
    | .isub => aBin pc L S h 0 0 0 (fun x y => w32 (x - y))
    | .imul => aBin pc L S h 0 0 0 (fun x y => w32 (x * y))
    | .iand => aBin pc L S h 0 0 0 m_and
    | .ior => aBin pc L S h 0 0 0 m_or
    | .ixor => aBin pc L S h 0 0 0 m_xor
    | .ishl => aBin pc L S h 0 0 0 m_shl
    | .ishr => aBin pc L S h 0 0 0 m_shr
    | .iushr => aBin pc L S h 0 0 0 m_ushr
    | .idiv => aDiv pc L S h 0 m_div
    | .irem => aDiv pc L S h 0 m_rem
    | .ineg => aUn pc L S h 0 0 (fun x => w32 (-x))
    | .ladd => aBin pc L S h 1 1 1 (fun x y => w64 (x + y))
    | .lsub => aBin pc L S h 1 1 1 (fun x y => w64 (x - y))
    | .lmul => aBin pc L S h 1 1 1 (fun x y => w64 (x * y))
    | .land => aBin pc L S h 1 1 1 l_and
    | .lor => aBin pc L S h 1 1 1 l_or
    | .lshl => aBin pc L S h 1 0 1 l_shl
    | .lshr => aBin pc L S h 1 0 1 l_shr
    | .ldiv => aDiv pc L S h 1 l_div
    | .lrem => aDiv pc L S h 1 l_rem
    | .lcmp => aBin pc L S h 1 1 0 m_cmp
    | .i2l => aUn pc L S h 0 1 (fun x => x)
    | .l2i => aUn pc L S h 1 0 w32
    | .i2b => aUn pc L S h 0 0 m_i2b
    | .i2s => aUn pc L S h 0 0 m_i2s
    | .i2c => aUn pc L S h 0 0 m_i2c
    | .ifCond r _ => aIf1 pc L S h r a
    | .if_icmp r _ => aIf2 pc L S h r a
    | .ifnull _ => aNull pc L S h a true
    | .ifnonnull _ => aNull pc L S h a false
    | .goto _ => aOn true True (a, L, S, h)
    | .tableswitch _ _ _ _ | .lookupswitch _ _ => (match S with
      | x :: r => aSw (x.1 == 0) x.2 ps a (fun t => (t, L, r, h))
      | _ => aNo (pc, L, S, h))
    | .getfield _ => aGet pc L S h a b c
    | .putfield _ => aPutF pc L S h a b c
    | .iaload => aRd pc L S h 1 0
    | .baload => aRd pc L S h a 0
    | .laload => aRd pc L S h 4 1
    | .aaload => aRdR pc L S h (40 + a)
    | .iastore => aWr pc L S h 1 0 (fun _ => True) (fun x => x)
    | .bastore => (match a with
      | 2 => aWr pc L S h 2 0 (fun _ => True) m_i2b
      | _ => aWr pc L S h 3 0 (fun x => x = 0 ∨ x = 1) (fun x => x))
    | .lastore => aWr pc L S h 4 1 (fun _ => True) (fun x => x)
    | .aastore => aWrR pc L S h a
    | .arraylength => aLen pc L S h
    | .newarray _ => aNewA pc L S h n a
    | .anewarray _ => aNewA pc L S h n (40 + a)
    | .new _ => aNewO pc L S h a b
    | .invokespecial _ | .invokestatic _ | .invokevirtual _ => aCl pc L S h a b c v
    | .ireturn => (match S with
      | x :: _ => (match a with
        | 0 => aEnd (x.1 == 0) True x h
        | _ => aEnd (x.1 == 0) (x.2 = 0 ∨ x.2 = 1) x h)
      | _ => aNo (pc, L, S, h))
    | .lreturn => (match S with
      | x :: _ => aEnd (x.1 == 1) True x h
      | _ => aNo (pc, L, S, h))
    | .return_ => aEnd true True (9, 0) h
    | _ => aNo (pc, L, S, h)
abbrev mPost : Type := mV → mH → Prop
abbrev mCl : Type := Nat → List mV → mH → mPost → Prop
def swX (X : Nat → Prop) (x : Int) (d : Nat) : List (Int × Nat) → Prop
  | [] => X d
  | q :: ps => (x = q.1 → X q.2) ∧ (x ≠ q.1 → swX X x d ps)
/-- what must hold for a step's outcome -/
def stA (C : mCl) (F : mPost) (X : mS → Prop) (A : mA) : Prop := match A with
  | .inl (b, c, s) => b = true ∧ c ∧ X s
  | .inr (.inl (b, c, s, t)) => b = true ∧ (c → X s) ∧ (¬ c → X t)
  | .inr (.inr (.inl (b, x, ps, d, f))) => b = true ∧ swX (fun t => X (f t)) x d ps
  | .inr (.inr (.inr (.inl (b, c, g, f)))) => b = true ∧ c ∧ ∃ q, g q = true ∧ X (f q)
  | .inr (.inr (.inr (.inr (.inl (b, k, as, h, f))))) => b = true ∧ C k as h (fun r h' => X (f r h'))
  | .inr (.inr (.inr (.inr (.inr (b, c, v, h))))) => b = true ∧ c ∧ F v h
/-- the code of a method: rows of instructions, sixteen places a row -/
def mAt (cd : List (List mE)) (pc : Nat) : Option mE := match cd[pc / 16]? with
  | some l => l.find? (fun e => e.1 == pc)
  | none => none
def stp (cd : List (List mE)) (C : mCl) (F : mPost) (X : mS → Prop) (st : mS) : Prop := match mAt cd st.1 with
  | some e => stA C F X (act e st.1 st.2.1 st.2.2.1 st.2.2.2)
  | none => False
/-- from this frame on the method comes to its end, and F holds of its answer and the cells then -/
def WPc (cd : List (List mE)) (C : mCl) (F : mPost) (st : mS) : Prop := ∀ X : mS → Prop, (∀ s, stp cd C F X s → X s) → X st
theorem swX_mono {X Y : Nat → Prop} (h : ∀ t, X t → Y t) {x : Int} {d : Nat} : ∀ ps : List (Int × Nat), swX X x d ps → swX Y x d ps
  | [], q => h _ q
  | _ :: ps, q => ⟨fun e => h _ (q.1 e), fun e => swX_mono h ps (q.2 e)⟩
theorem stA_mono {C : mCl} (hC : ∀ k as h (F G : mPost), (∀ r u, F r u → G r u) → C k as h F → C k as h G) {F G : mPost} {X Y : mS → Prop} (hF : ∀ r u, F r u → G r u) (hX : ∀ s, X s → Y s) {A : mA} (q : stA C F X A) : stA C G Y A := by
  rcases A with ⟨b, c, s⟩ | ⟨b, c, s, t⟩ | ⟨b, x, ps, d, f⟩ | ⟨b, c, g, f⟩ | ⟨b, k, as, h, f⟩ | ⟨b, c, v, h⟩
  · exact ⟨q.1, q.2.1, hX _ q.2.2⟩
  · exact ⟨q.1, fun e => hX _ (q.2.1 e), fun e => hX _ (q.2.2 e)⟩
  · exact ⟨q.1, swX_mono (fun t e => hX _ e) _ q.2⟩
  · obtain ⟨h1, h2, n, h3, h4⟩ := q
    exact ⟨h1, h2, n, h3, hX _ h4⟩
  · exact ⟨q.1, hC _ _ _ _ _ (fun r u e => hX _ e) q.2⟩
  · exact ⟨q.1, q.2.1, hF _ _ q.2.2⟩
theorem stp_mono {cd : List (List mE)} {C : mCl} (hC : ∀ k as h (F G : mPost), (∀ r u, F r u → G r u) → C k as h F → C k as h G) {F G : mPost} {X Y : mS → Prop} (hF : ∀ r u, F r u → G r u) (hX : ∀ s, X s → Y s) {st : mS} (q : stp cd C F X st) : stp cd C G Y st := by
  unfold stp at q ⊢
  cases h : mAt cd st.1 with
  | none => rw [h] at q; exact q
  | some e => rw [h] at q; exact stA_mono hC hF hX q
theorem WPc.step {cd : List (List mE)} {C : mCl} (hC : ∀ k as h (F G : mPost), (∀ r u, F r u → G r u) → C k as h F → C k as h G) {F : mPost} {st : mS} (q : stp cd C F (WPc cd C F) st) : WPc cd C F st := by
  intro X hX
  exact hX _ (stp_mono hC (fun _ _ e => e) (fun s e => e X hX) q)
theorem WPc.mono {cd : List (List mE)} {C : mCl} (hC : ∀ k as h (F G : mPost), (∀ r u, F r u → G r u) → C k as h F → C k as h G) {F G : mPost} (hF : ∀ r u, F r u → G r u) {st : mS} (q : WPc cd C F st) : WPc cd C G st := by
  intro X hX
  exact q X (fun s e => hX s (stp_mono hC hF (fun _ e => e) e))
/-- a method: its code, how many locals -/
abbrev mM : Type := List (List mE) × Nat
def mEnt (as : List mV) (n : Nat) : List mV := (as.foldr (fun v l => bif v.1 == 1 then v :: (9, 0) :: l else v :: l) []) ++ List.replicate (n - mCats as) (9, 0)
def WPm (T : Nat → Option mM) : Nat → mCl
  | 0, _, _, _, _ => False
  | d + 1, k, as, h, F => match T k with
    | some M => mCats as ≤ M.2 ∧ WPc M.1 (WPm T d) F (0, mEnt as M.2, [], h)
    | none => False
theorem WPm_mono (T : Nat → Option mM) : ∀ (d k : Nat) (as : List mV) (h : mH) (F G : mPost), (∀ r u, F r u → G r u) → WPm T d k as h F → WPm T d k as h G
  | 0, _, _, _, _, _, _, q => q
  | d + 1, k, as, h, F, G, hF, q => by
    unfold WPm at q ⊢
    cases e : T k with
    | none => rw [e] at q; exact q
    | some M => rw [e] at q; exact ⟨q.1, WPc.mono (WPm_mono T d) hF q.2⟩
/-- one exact answer -/
def mIs (r : mV) (h : mH) : mPost := fun r1 h1 => r1 = r ∧ h1 = h
theorem swX_ex {X : Nat → Prop} {x : Int} {d : Nat} : ∀ ps : List (Int × Nat), swX X x d ps → ∃ t, X t ∧ ∀ Y : Nat → Prop, Y t → swX Y x d ps
  | [], q => ⟨d, q, fun _ y => y⟩
  | p :: ps, q => by
    by_cases e : x = p.1
    · exact ⟨p.2, q.1 e, fun Y y => ⟨fun _ => y, fun n => absurd e n⟩⟩
    · obtain ⟨t, h1, h2⟩ := swX_ex ps (q.2 e)
      exact ⟨t, h1, fun Y y => ⟨fun n => absurd n e, fun _ => h2 Y y⟩⟩
theorem WPc.exact {cd : List (List mE)} {C : mCl} (hC : ∀ k as h (F G : mPost), (∀ r u, F r u → G r u) → C k as h F → C k as h G) (hE : ∀ k as h (F : mPost), C k as h F → ∃ r u, F r u ∧ C k as h (mIs r u)) {F : mPost} {st : mS} (q : WPc cd C F st) : ∃ r u, F r u ∧ WPc cd C (mIs r u) st := by
  refine q (fun s => ∃ r u, F r u ∧ WPc cd C (mIs r u) s) (fun s e => ?_)
  have key : ∀ A : mA, stA C F (fun s => ∃ r u, F r u ∧ WPc cd C (mIs r u) s) A → ∃ r u, F r u ∧ stA C (mIs r u) (WPc cd C (mIs r u)) A := by
    intro A q
    rcases A with ⟨b, c, s⟩ | ⟨b, c, s, t⟩ | ⟨b, x, ps, d, f⟩ | ⟨b, c, g, f⟩ | ⟨b, k, as, h, f⟩ | ⟨b, c, v, h⟩
    · obtain ⟨h1, h2, r, u, h3, h4⟩ := q
      exact ⟨r, u, h3, h1, h2, h4⟩
    · obtain ⟨h1, h2, h3⟩ := q
      by_cases hc : c
      · obtain ⟨r, u, h4, h5⟩ := h2 hc
        exact ⟨r, u, h4, h1, fun _ => h5, fun n => absurd hc n⟩
      · obtain ⟨r, u, h4, h5⟩ := h3 hc
        exact ⟨r, u, h4, h1, fun n => absurd n hc, fun _ => h5⟩
    · obtain ⟨h1, h2⟩ := q
      obtain ⟨t, ⟨r, u, h3, h4⟩, h5⟩ := swX_ex _ h2
      exact ⟨r, u, h3, h1, h5 (fun t => WPc cd C (mIs r u) (f t)) h4⟩
    · obtain ⟨h1, h2, n, h3, r, u, h4, h5⟩ := q
      exact ⟨r, u, h4, h1, h2, n, h3, h5⟩
    · obtain ⟨h1, h2⟩ := q
      obtain ⟨r1, u1, ⟨r, u, h3, h4⟩, h5⟩ := hE _ _ _ _ h2
      exact ⟨r, u, h3, h1, hC _ _ _ _ _ (fun r2 u2 e2 => by obtain ⟨rfl, rfl⟩ := e2; exact h4) h5⟩
    · exact ⟨v, h, q.2.2, q.1, q.2.1, rfl, rfl⟩
  unfold stp at e
  cases h : mAt cd s.1 with
  | none => rw [h] at e; exact e.elim
  | some m =>
    rw [h] at e
    obtain ⟨r, u, h1, h2⟩ := key _ e
    refine ⟨r, u, h1, WPc.step hC ?_⟩
    unfold stp
    rw [h]
    exact h2
theorem WPm_exact (T : Nat → Option mM) : ∀ (d k : Nat) (as : List mV) (h : mH) (F : mPost), WPm T d k as h F → ∃ r u, F r u ∧ WPm T d k as h (mIs r u)
  | 0, _, _, _, _, q => q.elim
  | d + 1, k, as, h, F, q => by
    unfold WPm at q
    cases e : T k with
    | none => rw [e] at q; exact q.elim
    | some M =>
      rw [e] at q
      obtain ⟨r, u, h1, h2⟩ := WPc.exact (WPm_mono T d) (WPm_exact T d) q.2
      refine ⟨r, u, h1, ?_⟩
      unfold WPm
      rw [e]
      exact ⟨q.1, h2⟩
