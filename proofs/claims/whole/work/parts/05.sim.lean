/-! ===== one step of the small machine is the machine's: what doesn't touch the cells ===== -/
def Wd (tx : Nat → Nat) (D : va_G) (A : Nat → Prop) (s : State) (mp0 : Nat → Nat → Prop) (nc0 ns0 : Nat) (mp : Nat → Nat → Prop) (tys : List (ClassId × FieldType)) (g : mH) (ws : va_W) (H : Heap) (locs : List Loc) (cells slots : Nat) : Prop :=
  mOk mp g ∧ (∀ a q, mp0 a q → mp a q) ∧ Rl tx mp tys g ws ∧ va_P D vwCl ws H ∧ va_K D vwCl tys s ∧ va_D A ws ∧ va_S A s.heap H locs ∧ g.2.2.2.1 = nc0 + cells ∧ g.2.2.2.2 = ns0 + slots ∧ mKd g 0 = 0
/-- from a frame beside this one the machine comes to Q -/
def Sm (p : Program) (l : Launch) (e : Env) (R : Room) (s : State) (m : MethodId) (args : Array Value) (below : List Frame) (meth : Method) (c : Code) (Q : State → Prop) (nL : Nat) (tx : Nat → Nat) (D : va_G) (A : Nat → Prop) (mp0 : Nat → Nat → Prop) (nc0 ns0 : Nat) (st : mS) : Prop := match st with
  | (pc, L, S, g) => ∀ (mp : Nat → Nat → Prop) (tys : List (ClassId × FieldType)) (ws : va_W) (H : Heap) (locs : List Loc) (cells slots : Nat) (ls : Array Slot) (stk : List Value), Wd tx D A s mp0 nc0 ns0 mp tys g ws H locs cells slots → lr tx mp L ls nL → vS tx mp S stk → W p l e R s m args below meth c H locs cells slots Q (F0 m pc ls stk)
theorem cnd {b : Bool} {P : Prop} (q : bif b then P else False) : b = true ∧ P := by
  cases b
  · exact q.elim
  · exact ⟨rfl, q⟩
theorem and2 {a b : Bool} (h : (a && b) = true) : a = true ∧ b = true := by
  cases a
  · exact absurd h (by simp)
  · exact ⟨rfl, by simpa using h⟩
section SIM
variable {p : Program} {l : Launch} {e : Env} {R : Room} {s : State} {m : MethodId} {args : Array Value} {below : List Frame} {meth : Method} {c : Code} {Q : State → Prop} {nL : Nat} {tx : Nat → Nat} {D : va_G} {A : Nat → Prop} {mp0 : Nat → Nat → Prop} {nc0 ns0 : Nat}
variable {pc n i tg : Nat} {L S : List mV} {g : mH} {C : mCl} {Fp : mPost}
theorem sm_push {v : mV} {w : Value} (hv : ∀ mp, VR tx mp v w) (row : ∀ (H : Heap) (locs : List Loc) (cells slots : Nat) (ls : Array Slot) (rest : List Value), W p l e R s m args below meth c H locs cells slots Q (F0 m (pc + n) ls (w :: rest)) → W p l e R s m args below meth c H locs cells slots Q (F0 m pc ls rest))
    (q : stA C Fp (Sm p l e R s m args below meth c Q nL tx D A mp0 nc0 ns0) (aPush pc L S g n v)) : Sm p l e R s m args below meth c Q nL tx D A mp0 nc0 ns0 (pc, L, S, g) := by
  intro mp tys ws H locs cells slots ls stk hW hL hS
  exact row _ _ _ _ _ _ (q mp tys ws H locs cells slots ls (w :: stk) hW hL ⟨hv mp, hS⟩)
theorem sm_loadI (row : ∀ (H : Heap) (locs : List Loc) (cells slots : Nat) (ls : Array Slot) (rest : List Value) (x : Int32), ls[i]? = some (.val (.int x)) → W p l e R s m args below meth c H locs cells slots Q (F0 m (pc + n) ls (.int x :: rest)) → W p l e R s m args below meth c H locs cells slots Q (F0 m pc ls rest))
    (q : stA C Fp (Sm p l e R s m args below meth c Q nL tx D A mp0 nc0 ns0) (aLoad pc L S g n 0 i)) : Sm p l e R s m args below meth c Q nL tx D A mp0 nc0 ns0 (pc, L, S, g) := by
  obtain ⟨hb, q⟩ := cnd q
  have ht := beq_t hb
  intro mp tys ws H locs cells slots ls stk hW hL hS
  obtain ⟨w, h1, h2⟩ := hL.2.2.2 i (by show (mLoc L i).1 ≠ 9; rw [ht]; decide)
  obtain ⟨x, rfl, -⟩ := h2.i ht
  exact row _ _ _ _ _ _ _ h1 (q mp tys ws H locs cells slots ls _ hW hL ⟨h2, hS⟩)
theorem sm_loadL (row : ∀ (H : Heap) (locs : List Loc) (cells slots : Nat) (ls : Array Slot) (rest : List Value) (x : Int64), ls[i]? = some (.val (.long x)) → W p l e R s m args below meth c H locs cells slots Q (F0 m (pc + n) ls (.long x :: rest)) → W p l e R s m args below meth c H locs cells slots Q (F0 m pc ls rest))
    (q : stA C Fp (Sm p l e R s m args below meth c Q nL tx D A mp0 nc0 ns0) (aLoad pc L S g n 1 i)) : Sm p l e R s m args below meth c Q nL tx D A mp0 nc0 ns0 (pc, L, S, g) := by
  obtain ⟨hb, q⟩ := cnd q
  have ht := beq_t hb
  intro mp tys ws H locs cells slots ls stk hW hL hS
  obtain ⟨w, h1, h2⟩ := hL.2.2.2 i (by show (mLoc L i).1 ≠ 9; rw [ht]; decide)
  obtain ⟨x, rfl, -⟩ := h2.l ht
  exact row _ _ _ _ _ _ _ h1 (q mp tys ws H locs cells slots ls _ hW hL ⟨h2, hS⟩)
theorem sm_loadA (row : ∀ (H : Heap) (locs : List Loc) (cells slots : Nat) (ls : Array Slot) (rest : List Value) (x : Nat), ls[i]? = some (.val (.ref x)) → W p l e R s m args below meth c H locs cells slots Q (F0 m (pc + n) ls (.ref x :: rest)) → W p l e R s m args below meth c H locs cells slots Q (F0 m pc ls rest))
    (rowN : ∀ (H : Heap) (locs : List Loc) (cells slots : Nat) (ls : Array Slot) (rest : List Value), ls[i]? = some (.val .null) → W p l e R s m args below meth c H locs cells slots Q (F0 m (pc + n) ls (.null :: rest)) → W p l e R s m args below meth c H locs cells slots Q (F0 m pc ls rest))
    (q : stA C Fp (Sm p l e R s m args below meth c Q nL tx D A mp0 nc0 ns0) (aLoad pc L S g n 2 i)) : Sm p l e R s m args below meth c Q nL tx D A mp0 nc0 ns0 (pc, L, S, g) := by
  obtain ⟨hb, q⟩ := cnd q
  have ht := beq_t hb
  intro mp tys ws H locs cells slots ls stk hW hL hS
  obtain ⟨w, h1, h2⟩ := hL.2.2.2 i (by show (mLoc L i).1 ≠ 9; rw [ht]; decide)
  rcases h2.a ht with ⟨rfl, -⟩ | ⟨a, r, rfl, -⟩
  · exact rowN _ _ _ _ _ _ h1 (q mp tys ws H locs cells slots ls _ hW hL ⟨h2, hS⟩)
  · exact row _ _ _ _ _ _ _ h1 (q mp tys ws H locs cells slots ls _ hW hL ⟨h2, hS⟩)
theorem sm_storeI (row : ∀ (H : Heap) (locs : List Loc) (cells slots : Nat) (ls : Array Slot) (rest : List Value) (x : Int32) (lv : List (Nat × Value)), lv_has ls nL lv → i < nL → (∀ ls' : Array Slot, lv_has ls' nL ((i, Value.int x) :: lv.filter (fun q => !(q.1 == i) && !(q.1 + 1 == i && q.2.category == 2))) → W p l e R s m args below meth c H locs cells slots Q (F0 m (pc + n) ls' rest)) → W p l e R s m args below meth c H locs cells slots Q (F0 m pc ls (.int x :: rest)))
    (q : stA C Fp (Sm p l e R s m args below meth c Q nL tx D A mp0 nc0 ns0) (aStore pc L S g n 0 i)) : Sm p l e R s m args below meth c Q nL tx D A mp0 nc0 ns0 (pc, L, S, g) := by
  rcases S with _ | ⟨v, r⟩
  · exact (show False from q).elim
  · obtain ⟨hb, q⟩ := cnd q
    obtain ⟨hb, hlt⟩ := and2 hb
    intro mp tys ws H locs cells slots ls stk hW hL hS
    obtain ⟨w, st1, rfl, hv, hT⟩ := hS.cons
    obtain ⟨x, rfl, -⟩ := hv.i (beq_t hb)
    have hi : i < nL := by rw [← hL.2.2.1]; exact Nat.le_of_ble_eq_true hlt
    exact row _ _ _ _ _ _ _ _ (lvAll_has hL.1 hL.2.1) hi (fun ls' h' => q mp tys ws H locs cells slots ls' st1 hW (hL.st1 hi hv h') hT)
theorem sm_storeA (row : ∀ (H : Heap) (locs : List Loc) (cells slots : Nat) (ls : Array Slot) (rest : List Value) (x : Nat) (lv : List (Nat × Value)), lv_has ls nL lv → i < nL → (∀ ls' : Array Slot, lv_has ls' nL ((i, Value.ref x) :: lv.filter (fun q => !(q.1 == i) && !(q.1 + 1 == i && q.2.category == 2))) → W p l e R s m args below meth c H locs cells slots Q (F0 m (pc + n) ls' rest)) → W p l e R s m args below meth c H locs cells slots Q (F0 m pc ls (.ref x :: rest)))
    (rowN : ∀ (H : Heap) (locs : List Loc) (cells slots : Nat) (ls : Array Slot) (rest : List Value) (lv : List (Nat × Value)), lv_has ls nL lv → i < nL → (∀ ls' : Array Slot, lv_has ls' nL ((i, Value.null) :: lv.filter (fun q => !(q.1 == i) && !(q.1 + 1 == i && q.2.category == 2))) → W p l e R s m args below meth c H locs cells slots Q (F0 m (pc + n) ls' rest)) → W p l e R s m args below meth c H locs cells slots Q (F0 m pc ls (.null :: rest)))
    (q : stA C Fp (Sm p l e R s m args below meth c Q nL tx D A mp0 nc0 ns0) (aStore pc L S g n 2 i)) : Sm p l e R s m args below meth c Q nL tx D A mp0 nc0 ns0 (pc, L, S, g) := by
  rcases S with _ | ⟨v, r⟩
  · exact (show False from q).elim
  · obtain ⟨hb, q⟩ := cnd q
    obtain ⟨hb, hlt⟩ := and2 hb
    intro mp tys ws H locs cells slots ls stk hW hL hS
    obtain ⟨w, st1, rfl, hv, hT⟩ := hS.cons
    have hi : i < nL := by rw [← hL.2.2.1]; exact Nat.le_of_ble_eq_true hlt
    rcases hv.a (beq_t hb) with ⟨rfl, -⟩ | ⟨a, r, rfl, -⟩
    · exact rowN _ _ _ _ _ _ _ (lvAll_has hL.1 hL.2.1) hi (fun ls' h' => q mp tys ws H locs cells slots ls' st1 hW (hL.st1 hi hv h') hT)
    · exact row _ _ _ _ _ _ _ _ (lvAll_has hL.1 hL.2.1) hi (fun ls' h' => q mp tys ws H locs cells slots ls' st1 hW (hL.st1 hi hv h') hT)
theorem sm_storeL (row : ∀ (H : Heap) (locs : List Loc) (cells slots : Nat) (ls : Array Slot) (rest : List Value) (x : Int64) (lv : List (Nat × Value)), lv_has ls nL lv → i + 1 < nL → (∀ ls' : Array Slot, lv_has ls' nL ((i, Value.long x) :: lv.filter (fun q => !(q.1 == i) && (!(q.1 == i + 1) && !(q.1 + 1 == i && q.2.category == 2)))) → W p l e R s m args below meth c H locs cells slots Q (F0 m (pc + n) ls' rest)) → W p l e R s m args below meth c H locs cells slots Q (F0 m pc ls (.long x :: rest)))
    (q : stA C Fp (Sm p l e R s m args below meth c Q nL tx D A mp0 nc0 ns0) (match S with
      | x :: r => aGo (Nat.beq x.1 1 && Nat.blt (i + 1) (mLenL L)) (pc + n, mSt2 L i x, r, g)
      | _ => aNo (pc, L, S, g))) : Sm p l e R s m args below meth c Q nL tx D A mp0 nc0 ns0 (pc, L, S, g) := by
  rcases S with _ | ⟨v, r⟩
  · exact (show False from q).elim
  · obtain ⟨hb, q⟩ := cnd q
    obtain ⟨hb, hlt⟩ := and2 hb
    intro mp tys ws H locs cells slots ls stk hW hL hS
    obtain ⟨w, st1, rfl, hv, hT⟩ := hS.cons
    obtain ⟨x, rfl, -⟩ := hv.l (beq_t hb)
    have hi : i + 1 < nL := by rw [← hL.2.2.1]; exact Nat.le_of_ble_eq_true hlt
    exact row _ _ _ _ _ _ _ _ (lvAll_has hL.1 hL.2.1) hi (fun ls' h' => q mp tys ws H locs cells slots ls' st1 hW (hL.st2 hi hv h') hT)
theorem sm_iinc {v : Int} (row : ∀ (H : Heap) (locs : List Loc) (cells slots : Nat) (ls : Array Slot) (rest : List Value) (x : Int32) (lv : List (Nat × Value)) (k : Nat), lv_has ls nL lv → lv[k]? = some (i, .int x) → i < nL → (∀ ls' : Array Slot, lv_has ls' nL ((i, Value.int (x + Int32.ofInt v)) :: lv.filter (fun q => !(q.1 == i) && !(q.1 + 1 == i && q.2.category == 2))) → W p l e R s m args below meth c H locs cells slots Q (F0 m (pc + n) ls' rest)) → W p l e R s m args below meth c H locs cells slots Q (F0 m pc ls rest))
    (q : stA C Fp (Sm p l e R s m args below meth c Q nL tx D A mp0 nc0 ns0) (aGo (Nat.beq (mLoc L i).1 0 && Nat.blt i (mLenL L)) (pc + n, mSt1 L i (0, w32 ((mLoc L i).2 + v)), S, g))) : Sm p l e R s m args below meth c Q nL tx D A mp0 nc0 ns0 (pc, L, S, g) := by
  obtain ⟨hb, q⟩ := cnd q
  obtain ⟨hb, hlt⟩ := and2 hb
  have ht := beq_t hb
  intro mp tys ws H locs cells slots ls stk hW hL hS
  have hi : i < nL := by rw [← hL.2.2.1]; exact Nat.le_of_ble_eq_true hlt
  obtain ⟨w, h1, h2⟩ := hL.2.2.2 i (by show (mLoc L i).1 ≠ 9; rw [ht]; decide)
  obtain ⟨x, rfl, hx⟩ := h2.i ht
  obtain ⟨k, hk⟩ := List.getElem?_of_mem (lvAll_mem hi h1)
  have hx2 : (mLoc L i).2 = x.toInt := congrArg Prod.snd hx
  refine row _ _ _ _ _ _ _ _ k (lvAll_has hL.1 hL.2.1) hk hi (fun ls' h' => q mp tys ws H locs cells slots ls' stk hW (hL.st1 hi ?_ h') hS)
  show (0, w32 ((mLoc L i).2 + v)) = (0, (x + Int32.ofInt v).toInt)
  rw [hx2, nu_inc]
theorem sm_dup (row : ∀ (H : Heap) (locs : List Loc) (cells slots : Nat) (ls : Array Slot) (rest : List Value) (w : Value), w.category = 1 → W p l e R s m args below meth c H locs cells slots Q (F0 m (pc + 1) ls (w :: w :: rest)) → W p l e R s m args below meth c H locs cells slots Q (F0 m pc ls (w :: rest)))
    (q : stA C Fp (Sm p l e R s m args below meth c Q nL tx D A mp0 nc0 ns0) (match S with
      | x :: r => aGo (!(Nat.beq x.1 1)) (pc + 1, L, x :: x :: r, g)
      | _ => aNo (pc, L, S, g))) : Sm p l e R s m args below meth c Q nL tx D A mp0 nc0 ns0 (pc, L, S, g) := by
  rcases S with _ | ⟨v, r⟩
  · exact (show False from q).elim
  · obtain ⟨hb, q⟩ := cnd q
    intro mp tys ws H locs cells slots ls stk hW hL hS
    obtain ⟨w, st1, rfl, hv, hT⟩ := hS.cons
    exact row _ _ _ _ _ _ _ (hv.cat1 (fun z => by rw [z] at hb; cases hb)) (q mp tys ws H locs cells slots ls _ hW hL ⟨hv, hv, hT⟩)
theorem sm_dup2 (row : ∀ (H : Heap) (locs : List Loc) (cells slots : Nat) (ls : Array Slot) (rest : List Value) (w z : Value), w.category = 1 → z.category = 1 → W p l e R s m args below meth c H locs cells slots Q (F0 m (pc + 1) ls (w :: z :: w :: z :: rest)) → W p l e R s m args below meth c H locs cells slots Q (F0 m pc ls (w :: z :: rest)))
    (q : stA C Fp (Sm p l e R s m args below meth c Q nL tx D A mp0 nc0 ns0) (match S with
      | x :: y :: r => aGo (!(Nat.beq x.1 1) && !(Nat.beq y.1 1)) (pc + 1, L, x :: y :: x :: y :: r, g)
      | _ => aNo (pc, L, S, g))) : Sm p l e R s m args below meth c Q nL tx D A mp0 nc0 ns0 (pc, L, S, g) := by
  rcases S with _ | ⟨v, _ | ⟨u, r⟩⟩
  · exact (show False from q).elim
  · exact (show False from q).elim
  · obtain ⟨hb, q⟩ := cnd q
    obtain ⟨hb1, hb2⟩ := and2 hb
    intro mp tys ws H locs cells slots ls stk hW hL hS
    obtain ⟨w, st1, rfl, hv, hT⟩ := hS.cons
    obtain ⟨w2, st2, rfl, hv2, hU⟩ := hT.cons
    exact row _ _ _ _ _ _ _ _ (hv.cat1 (fun z => by rw [z] at hb1; cases hb1)) (hv2.cat1 (fun z => by rw [z] at hb2; cases hb2)) (q mp tys ws H locs cells slots ls _ hW hL ⟨hv, hv2, hv, hv2, hU⟩)
theorem sm_pop (row : ∀ (H : Heap) (locs : List Loc) (cells slots : Nat) (ls : Array Slot) (rest : List Value) (w : Value), w.category = 1 → W p l e R s m args below meth c H locs cells slots Q (F0 m (pc + 1) ls rest) → W p l e R s m args below meth c H locs cells slots Q (F0 m pc ls (w :: rest)))
    (q : stA C Fp (Sm p l e R s m args below meth c Q nL tx D A mp0 nc0 ns0) (match S with
      | x :: r => aGo (!(Nat.beq x.1 1)) (pc + 1, L, r, g)
      | _ => aNo (pc, L, S, g))) : Sm p l e R s m args below meth c Q nL tx D A mp0 nc0 ns0 (pc, L, S, g) := by
  rcases S with _ | ⟨v, r⟩
  · exact (show False from q).elim
  · obtain ⟨hb, q⟩ := cnd q
    intro mp tys ws H locs cells slots ls stk hW hL hS
    obtain ⟨w, st1, rfl, hv, hT⟩ := hS.cons
    exact row _ _ _ _ _ _ _ (hv.cat1 (fun z => by rw [z] at hb; cases hb)) (q mp tys ws H locs cells slots ls _ hW hL hT)
theorem sm_pop2 (row : ∀ (H : Heap) (locs : List Loc) (cells slots : Nat) (ls : Array Slot) (rest : List Value) (w : Value), w.category = 2 → W p l e R s m args below meth c H locs cells slots Q (F0 m (pc + 1) ls rest) → W p l e R s m args below meth c H locs cells slots Q (F0 m pc ls (w :: rest)))
    (q : stA C Fp (Sm p l e R s m args below meth c Q nL tx D A mp0 nc0 ns0) (match S with
      | x :: r => aGo (Nat.beq x.1 1) (pc + 1, L, r, g)
      | _ => aNo (pc, L, S, g))) : Sm p l e R s m args below meth c Q nL tx D A mp0 nc0 ns0 (pc, L, S, g) := by
  rcases S with _ | ⟨v, r⟩
  · exact (show False from q).elim
  · obtain ⟨hb, q⟩ := cnd q
    intro mp tys ws H locs cells slots ls stk hW hL hS
    obtain ⟨w, st1, rfl, hv, hT⟩ := hS.cons
    exact row _ _ _ _ _ _ _ (by rw [hv.cat, hb]; rfl) (q mp tys ws H locs cells slots ls _ hW hL hT)
theorem sm_bin {F : Int → Int → Int} {f : Int32 → Int32 → Int32} (hf : ∀ x y, (f x y).toInt = F x.toInt y.toInt) (row : ∀ (H : Heap) (locs : List Loc) (cells slots : Nat) (ls : Array Slot) (rest : List Value) (x : Int32) (y : Int32), W p l e R s m args below meth c H locs cells slots Q (F0 m (pc + 1) ls (.int (f x y) :: rest)) → W p l e R s m args below meth c H locs cells slots Q (F0 m pc ls (.int y :: .int x :: rest)))
    (q : stA C Fp (Sm p l e R s m args below meth c Q nL tx D A mp0 nc0 ns0) (aBin pc L S g 0 0 0 F)) : Sm p l e R s m args below meth c Q nL tx D A mp0 nc0 ns0 (pc, L, S, g) := by
  rcases S with _ | ⟨y, _ | ⟨x, r⟩⟩
  · exact (show False from q).elim
  · exact (show False from q).elim
  · obtain ⟨hb, q⟩ := cnd q
    obtain ⟨hb1, hb2⟩ := and2 hb
    intro mp tys ws H locs cells slots ls stk hW hL hS
    obtain ⟨w, st1, rfl, hv, hT⟩ := hS.cons
    obtain ⟨w2, st2, rfl, hv2, hU⟩ := hT.cons
    obtain ⟨b, rfl, rfl⟩ := hv.i (beq_t hb2)
    obtain ⟨a, rfl, rfl⟩ := hv2.i (beq_t hb1)
    exact row _ _ _ _ _ _ _ _ (q mp tys ws H locs cells slots ls _ hW hL ⟨by show (0, F a.toInt b.toInt) = (0, (f a b).toInt); rw [hf], hU⟩)
theorem sm_binL {F : Int → Int → Int} {f : Int64 → Int64 → Int64} (hf : ∀ x y, (f x y).toInt = F x.toInt y.toInt) (row : ∀ (H : Heap) (locs : List Loc) (cells slots : Nat) (ls : Array Slot) (rest : List Value) (x : Int64) (y : Int64), W p l e R s m args below meth c H locs cells slots Q (F0 m (pc + 1) ls (.long (f x y) :: rest)) → W p l e R s m args below meth c H locs cells slots Q (F0 m pc ls (.long y :: .long x :: rest)))
    (q : stA C Fp (Sm p l e R s m args below meth c Q nL tx D A mp0 nc0 ns0) (aBin pc L S g 1 1 1 F)) : Sm p l e R s m args below meth c Q nL tx D A mp0 nc0 ns0 (pc, L, S, g) := by
  rcases S with _ | ⟨y, _ | ⟨x, r⟩⟩
  · exact (show False from q).elim
  · exact (show False from q).elim
  · obtain ⟨hb, q⟩ := cnd q
    obtain ⟨hb1, hb2⟩ := and2 hb
    intro mp tys ws H locs cells slots ls stk hW hL hS
    obtain ⟨w, st1, rfl, hv, hT⟩ := hS.cons
    obtain ⟨w2, st2, rfl, hv2, hU⟩ := hT.cons
    obtain ⟨b, rfl, rfl⟩ := hv.l (beq_t hb2)
    obtain ⟨a, rfl, rfl⟩ := hv2.l (beq_t hb1)
    exact row _ _ _ _ _ _ _ _ (q mp tys ws H locs cells slots ls _ hW hL ⟨by show (1, F a.toInt b.toInt) = (1, (f a b).toInt); rw [hf], hU⟩)
theorem sm_shL {F : Int → Int → Int} {f : Int64 → Int32 → Int64} (hf : ∀ x y, (f x y).toInt = F x.toInt y.toInt) (row : ∀ (H : Heap) (locs : List Loc) (cells slots : Nat) (ls : Array Slot) (rest : List Value) (x : Int64) (y : Int32), W p l e R s m args below meth c H locs cells slots Q (F0 m (pc + 1) ls (.long (f x y) :: rest)) → W p l e R s m args below meth c H locs cells slots Q (F0 m pc ls (.int y :: .long x :: rest)))
    (q : stA C Fp (Sm p l e R s m args below meth c Q nL tx D A mp0 nc0 ns0) (aBin pc L S g 1 0 1 F)) : Sm p l e R s m args below meth c Q nL tx D A mp0 nc0 ns0 (pc, L, S, g) := by
  rcases S with _ | ⟨y, _ | ⟨x, r⟩⟩
  · exact (show False from q).elim
  · exact (show False from q).elim
  · obtain ⟨hb, q⟩ := cnd q
    obtain ⟨hb1, hb2⟩ := and2 hb
    intro mp tys ws H locs cells slots ls stk hW hL hS
    obtain ⟨w, st1, rfl, hv, hT⟩ := hS.cons
    obtain ⟨w2, st2, rfl, hv2, hU⟩ := hT.cons
    obtain ⟨b, rfl, rfl⟩ := hv.i (beq_t hb2)
    obtain ⟨a, rfl, rfl⟩ := hv2.l (beq_t hb1)
    exact row _ _ _ _ _ _ _ _ (q mp tys ws H locs cells slots ls _ hW hL ⟨by show (1, F a.toInt b.toInt) = (1, (f a b).toInt); rw [hf], hU⟩)
theorem sm_cmpL {F : Int → Int → Int} {f : Int64 → Int64 → Int32} (hf : ∀ x y, (f x y).toInt = F x.toInt y.toInt) (row : ∀ (H : Heap) (locs : List Loc) (cells slots : Nat) (ls : Array Slot) (rest : List Value) (x : Int64) (y : Int64), W p l e R s m args below meth c H locs cells slots Q (F0 m (pc + 1) ls (.int (f x y) :: rest)) → W p l e R s m args below meth c H locs cells slots Q (F0 m pc ls (.long y :: .long x :: rest)))
    (q : stA C Fp (Sm p l e R s m args below meth c Q nL tx D A mp0 nc0 ns0) (aBin pc L S g 1 1 0 F)) : Sm p l e R s m args below meth c Q nL tx D A mp0 nc0 ns0 (pc, L, S, g) := by
  rcases S with _ | ⟨y, _ | ⟨x, r⟩⟩
  · exact (show False from q).elim
  · exact (show False from q).elim
  · obtain ⟨hb, q⟩ := cnd q
    obtain ⟨hb1, hb2⟩ := and2 hb
    intro mp tys ws H locs cells slots ls stk hW hL hS
    obtain ⟨w, st1, rfl, hv, hT⟩ := hS.cons
    obtain ⟨w2, st2, rfl, hv2, hU⟩ := hT.cons
    obtain ⟨b, rfl, rfl⟩ := hv.l (beq_t hb2)
    obtain ⟨a, rfl, rfl⟩ := hv2.l (beq_t hb1)
    exact row _ _ _ _ _ _ _ _ (q mp tys ws H locs cells slots ls _ hW hL ⟨by show (0, F a.toInt b.toInt) = (0, (f a b).toInt); rw [hf], hU⟩)
theorem sm_div {F : Int → Int → Int} {f : Int32 → Int32 → Int32} (hf : ∀ x y, (f x y).toInt = F x.toInt y.toInt) (row : ∀ (H : Heap) (locs : List Loc) (cells slots : Nat) (ls : Array Slot) (rest : List Value) (x : Int32) (y : Int32), ¬ y = 0 → W p l e R s m args below meth c H locs cells slots Q (F0 m (pc + 1) ls (.int (f x y) :: rest)) → W p l e R s m args below meth c H locs cells slots Q (F0 m pc ls (.int y :: .int x :: rest)))
    (q : stA C Fp (Sm p l e R s m args below meth c Q nL tx D A mp0 nc0 ns0) (aDiv pc L S g 0 F)) : Sm p l e R s m args below meth c Q nL tx D A mp0 nc0 ns0 (pc, L, S, g) := by
  rcases S with _ | ⟨y, _ | ⟨x, r⟩⟩
  · exact (show False from q).elim
  · exact (show False from q).elim
  · obtain ⟨hb, hne, q⟩ := cnd q
    obtain ⟨hb1, hb2⟩ := and2 hb
    intro mp tys ws H locs cells slots ls stk hW hL hS
    obtain ⟨w, st1, rfl, hv, hT⟩ := hS.cons
    obtain ⟨w2, st2, rfl, hv2, hU⟩ := hT.cons
    obtain ⟨b, rfl, rfl⟩ := hv.i (beq_t hb2)
    obtain ⟨a, rfl, rfl⟩ := hv2.i (beq_t hb1)
    exact row _ _ _ _ _ _ _ _ (nu_ne0 hne) (q mp tys ws H locs cells slots ls _ hW hL ⟨by show (0, F a.toInt b.toInt) = (0, (f a b).toInt); rw [hf], hU⟩)
theorem sm_divL {F : Int → Int → Int} {f : Int64 → Int64 → Int64} (hf : ∀ x y, (f x y).toInt = F x.toInt y.toInt) (row : ∀ (H : Heap) (locs : List Loc) (cells slots : Nat) (ls : Array Slot) (rest : List Value) (x : Int64) (y : Int64), ¬ y = 0 → W p l e R s m args below meth c H locs cells slots Q (F0 m (pc + 1) ls (.long (f x y) :: rest)) → W p l e R s m args below meth c H locs cells slots Q (F0 m pc ls (.long y :: .long x :: rest)))
    (q : stA C Fp (Sm p l e R s m args below meth c Q nL tx D A mp0 nc0 ns0) (aDiv pc L S g 1 F)) : Sm p l e R s m args below meth c Q nL tx D A mp0 nc0 ns0 (pc, L, S, g) := by
  rcases S with _ | ⟨y, _ | ⟨x, r⟩⟩
  · exact (show False from q).elim
  · exact (show False from q).elim
  · obtain ⟨hb, hne, q⟩ := cnd q
    obtain ⟨hb1, hb2⟩ := and2 hb
    intro mp tys ws H locs cells slots ls stk hW hL hS
    obtain ⟨w, st1, rfl, hv, hT⟩ := hS.cons
    obtain ⟨w2, st2, rfl, hv2, hU⟩ := hT.cons
    obtain ⟨b, rfl, rfl⟩ := hv.l (beq_t hb2)
    obtain ⟨a, rfl, rfl⟩ := hv2.l (beq_t hb1)
    exact row _ _ _ _ _ _ _ _ (nl_ne0 hne) (q mp tys ws H locs cells slots ls _ hW hL ⟨by show (1, F a.toInt b.toInt) = (1, (f a b).toInt); rw [hf], hU⟩)
theorem sm_un {F : Int → Int} {f : Int32 → Int32} (hf : ∀ x, (f x).toInt = F x.toInt) (row : ∀ (H : Heap) (locs : List Loc) (cells slots : Nat) (ls : Array Slot) (rest : List Value) (x : Int32), W p l e R s m args below meth c H locs cells slots Q (F0 m (pc + 1) ls (.int (f x) :: rest)) → W p l e R s m args below meth c H locs cells slots Q (F0 m pc ls (.int x :: rest)))
    (q : stA C Fp (Sm p l e R s m args below meth c Q nL tx D A mp0 nc0 ns0) (aUn pc L S g 0 0 F)) : Sm p l e R s m args below meth c Q nL tx D A mp0 nc0 ns0 (pc, L, S, g) := by
  rcases S with _ | ⟨x, r⟩
  · exact (show False from q).elim
  · obtain ⟨hb, q⟩ := cnd q
    intro mp tys ws H locs cells slots ls stk hW hL hS
    obtain ⟨w, st1, rfl, hv, hT⟩ := hS.cons
    obtain ⟨a, rfl, rfl⟩ := hv.i (beq_t hb)
    exact row _ _ _ _ _ _ _ (q mp tys ws H locs cells slots ls _ hW hL ⟨by show (0, F a.toInt) = (0, (f a).toInt); rw [hf], hT⟩)
theorem sm_i2l {F : Int → Int} {f : Int32 → Int64} (hf : ∀ x, (f x).toInt = F x.toInt) (row : ∀ (H : Heap) (locs : List Loc) (cells slots : Nat) (ls : Array Slot) (rest : List Value) (x : Int32), W p l e R s m args below meth c H locs cells slots Q (F0 m (pc + 1) ls (.long (f x) :: rest)) → W p l e R s m args below meth c H locs cells slots Q (F0 m pc ls (.int x :: rest)))
    (q : stA C Fp (Sm p l e R s m args below meth c Q nL tx D A mp0 nc0 ns0) (aUn pc L S g 0 1 F)) : Sm p l e R s m args below meth c Q nL tx D A mp0 nc0 ns0 (pc, L, S, g) := by
  rcases S with _ | ⟨x, r⟩
  · exact (show False from q).elim
  · obtain ⟨hb, q⟩ := cnd q
    intro mp tys ws H locs cells slots ls stk hW hL hS
    obtain ⟨w, st1, rfl, hv, hT⟩ := hS.cons
    obtain ⟨a, rfl, rfl⟩ := hv.i (beq_t hb)
    exact row _ _ _ _ _ _ _ (q mp tys ws H locs cells slots ls _ hW hL ⟨by show (1, F a.toInt) = (1, (f a).toInt); rw [hf], hT⟩)
theorem sm_l2i {F : Int → Int} {f : Int64 → Int32} (hf : ∀ x, (f x).toInt = F x.toInt) (row : ∀ (H : Heap) (locs : List Loc) (cells slots : Nat) (ls : Array Slot) (rest : List Value) (x : Int64), W p l e R s m args below meth c H locs cells slots Q (F0 m (pc + 1) ls (.int (f x) :: rest)) → W p l e R s m args below meth c H locs cells slots Q (F0 m pc ls (.long x :: rest)))
    (q : stA C Fp (Sm p l e R s m args below meth c Q nL tx D A mp0 nc0 ns0) (aUn pc L S g 1 0 F)) : Sm p l e R s m args below meth c Q nL tx D A mp0 nc0 ns0 (pc, L, S, g) := by
  rcases S with _ | ⟨x, r⟩
  · exact (show False from q).elim
  · obtain ⟨hb, q⟩ := cnd q
    intro mp tys ws H locs cells slots ls stk hW hL hS
    obtain ⟨w, st1, rfl, hv, hT⟩ := hS.cons
    obtain ⟨a, rfl, rfl⟩ := hv.l (beq_t hb)
    exact row _ _ _ _ _ _ _ (q mp tys ws H locs cells slots ls _ hW hL ⟨by show (0, F a.toInt) = (0, (f a).toInt); rw [hf], hT⟩)
theorem sm_if1 {r0 : ClassFile.Cond} {P : Int32 → Prop} (hP : ∀ x, P x ↔ cRel r0 x.toInt 0) (row : ∀ (H : Heap) (locs : List Loc) (cells slots : Nat) (ls : Array Slot) (rest : List Value) (x : Int32), (P x → W p l e R s m args below meth c H locs cells slots Q (F0 m tg ls rest)) → (¬ P x → W p l e R s m args below meth c H locs cells slots Q (F0 m (pc + 3) ls rest)) → W p l e R s m args below meth c H locs cells slots Q (F0 m pc ls (.int x :: rest)))
    (q : stA C Fp (Sm p l e R s m args below meth c Q nL tx D A mp0 nc0 ns0) (aIf1 pc L S g r0 tg)) : Sm p l e R s m args below meth c Q nL tx D A mp0 nc0 ns0 (pc, L, S, g) := by
  rcases S with _ | ⟨x, r⟩
  · exact (show False from q).elim
  · obtain ⟨hb, q⟩ := cnd q
    intro mp tys ws H locs cells slots ls stk hW hL hS
    obtain ⟨w, st1, rfl, hv, hT⟩ := hS.cons
    obtain ⟨a, rfl, rfl⟩ := hv.i (beq_t hb)
    exact row _ _ _ _ _ _ _ (fun z => q.1 ((hP a).mp z) mp tys ws H locs cells slots ls _ hW hL hT) (fun z => q.2 (fun y => z ((hP a).mpr y)) mp tys ws H locs cells slots ls _ hW hL hT)
theorem sm_if2 {r0 : ClassFile.Cond} {P : Int32 → Int32 → Prop} (hP : ∀ x y, P x y ↔ cRel r0 x.toInt y.toInt) (row : ∀ (H : Heap) (locs : List Loc) (cells slots : Nat) (ls : Array Slot) (rest : List Value) (x y : Int32), (P x y → W p l e R s m args below meth c H locs cells slots Q (F0 m tg ls rest)) → (¬ P x y → W p l e R s m args below meth c H locs cells slots Q (F0 m (pc + 3) ls rest)) → W p l e R s m args below meth c H locs cells slots Q (F0 m pc ls (.int y :: .int x :: rest)))
    (q : stA C Fp (Sm p l e R s m args below meth c Q nL tx D A mp0 nc0 ns0) (aIf2 pc L S g r0 tg)) : Sm p l e R s m args below meth c Q nL tx D A mp0 nc0 ns0 (pc, L, S, g) := by
  rcases S with _ | ⟨y, _ | ⟨x, r⟩⟩
  · exact (show False from q).elim
  · exact (show False from q).elim
  · obtain ⟨hb, q⟩ := cnd q
    obtain ⟨hb1, hb2⟩ := and2 hb
    intro mp tys ws H locs cells slots ls stk hW hL hS
    obtain ⟨w, st1, rfl, hv, hT⟩ := hS.cons
    obtain ⟨w2, st2, rfl, hv2, hU⟩ := hT.cons
    obtain ⟨b, rfl, rfl⟩ := hv.i (beq_t hb2)
    obtain ⟨a, rfl, rfl⟩ := hv2.i (beq_t hb1)
    exact row _ _ _ _ _ _ _ _ (fun z => q.1 ((hP a b).mp z) mp tys ws H locs cells slots ls _ hW hL hU) (fun z => q.2 (fun y => z ((hP a b).mpr y)) mp tys ws H locs cells slots ls _ hW hL hU)
theorem sm_null {b : Bool} (row : ∀ (H : Heap) (locs : List Loc) (cells slots : Nat) (ls : Array Slot) (rest : List Value) (x : Nat), W p l e R s m args below meth c H locs cells slots Q (F0 m (bif b then pc + 3 else tg) ls rest) → W p l e R s m args below meth c H locs cells slots Q (F0 m pc ls (.ref x :: rest)))
    (rowN : ∀ (H : Heap) (locs : List Loc) (cells slots : Nat) (ls : Array Slot) (rest : List Value), W p l e R s m args below meth c H locs cells slots Q (F0 m (bif b then tg else pc + 3) ls rest) → W p l e R s m args below meth c H locs cells slots Q (F0 m pc ls (.null :: rest)))
    (q : stA C Fp (Sm p l e R s m args below meth c Q nL tx D A mp0 nc0 ns0) (aNull pc L S g tg b)) : Sm p l e R s m args below meth c Q nL tx D A mp0 nc0 ns0 (pc, L, S, g) := by
  rcases S with _ | ⟨x, r⟩
  · exact (show False from q).elim
  · obtain ⟨hb, q1, q2⟩ := cnd q
    intro mp tys ws H locs cells slots ls stk hW hL hS
    obtain ⟨w, st1, rfl, hv, hT⟩ := hS.cons
    rcases hv.a (beq_t hb) with ⟨rfl, rfl⟩ | ⟨a, z, rfl, rfl, ha, -⟩
    · cases b with
      | true => exact rowN _ _ _ _ _ _ (q1 rfl mp tys ws H locs cells slots ls _ hW hL hT)
      | false => exact rowN _ _ _ _ _ _ (q2 (fun k => k rfl) mp tys ws H locs cells slots ls _ hW hL hT)
    · have hne : (a : Int) ≠ 0 := by omega
      cases b with
      | true => exact row _ _ _ _ _ _ _ (q2 (fun k => hne k) mp tys ws H locs cells slots ls _ hW hL hT)
      | false => exact row _ _ _ _ _ _ _ (q1 hne mp tys ws H locs cells slots ls _ hW hL hT)
theorem sm_goto (row : ∀ (H : Heap) (locs : List Loc) (cells slots : Nat) (ls : Array Slot) (rest : List Value), W p l e R s m args below meth c H locs cells slots Q (F0 m tg ls rest) → W p l e R s m args below meth c H locs cells slots Q (F0 m pc ls rest))
    (q : stA C Fp (Sm p l e R s m args below meth c Q nL tx D A mp0 nc0 ns0) (aGo true (tg, L, S, g))) : Sm p l e R s m args below meth c Q nL tx D A mp0 nc0 ns0 (pc, L, S, g) := by
  intro mp tys ws H locs cells slots ls stk hW hL hS
  exact row _ _ _ _ _ _ (q mp tys ws H locs cells slots ls _ hW hL hS)
/-- where a switch goes -/
def swT (x : Int) (d : Nat) : List (Int × Nat) → Nat
  | [] => d
  | q :: ps => if x = q.1 then q.2 else swT x d ps
theorem swX_T {X : Nat → Prop} {x : Int} {d : Nat} : ∀ ps : List (Int × Nat), swX X x d ps → X (swT x d ps)
  | [], q => q
  | z :: ps, q => by
    unfold swT
    by_cases h : x = z.1
    · rw [if_pos h]; exact q.1 h
    · rw [if_neg h]; exact swX_T ps (q.2 h)
theorem sm_sw {ps : List (Int × Nat)} {d : Nat} (row : ∀ (H : Heap) (locs : List Loc) (cells slots : Nat) (ls : Array Slot) (rest : List Value) (x : Int32), W p l e R s m args below meth c H locs cells slots Q (F0 m (swT x.toInt d ps) ls rest) → W p l e R s m args below meth c H locs cells slots Q (F0 m pc ls (.int x :: rest)))
    (q : stA C Fp (Sm p l e R s m args below meth c Q nL tx D A mp0 nc0 ns0) (match S with
      | x :: r => aSw (Nat.beq x.1 0) x.2 ps d (fun t => (t, L, r, g))
      | _ => aNo (pc, L, S, g))) : Sm p l e R s m args below meth c Q nL tx D A mp0 nc0 ns0 (pc, L, S, g) := by
  rcases S with _ | ⟨x, r⟩
  · exact (show False from q).elim
  · obtain ⟨hb, q⟩ := cnd q
    intro mp tys ws H locs cells slots ls stk hW hL hS
    obtain ⟨w, st1, rfl, hv, hT⟩ := hS.cons
    obtain ⟨a, rfl, rfl⟩ := hv.i (beq_t hb)
    exact row _ _ _ _ _ _ _ (swX_T _ q mp tys ws H locs cells slots ls _ hW hL hT)
end SIM
