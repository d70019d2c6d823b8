/-! ===== the law: its cases and its loop (printed in part by program) ===== -/
abbrev pshB (pc j : Nat) : Prop := decode code pc = .ok (.aload_n 0, 1) ∧ decode code (pc + 1) = .ok (.iload_n 3, 1) ∧ decode code (pc + 2) = .ok (.iconst (j : Int), 1) ∧ decode code (pc + 3) = .ok (.iadd, 1) ∧ decode code (pc + 4) = .ok (.iaload, 1)
/-- the law's locals at the head of its loop -/
def lL (b q1 q2 i : Nat) : List (Nat × Value) := [(0, .ref b), (1, .ref q1), (2, .ref q2), (3, .int (nI i))]
theorem ofI_n : ∀ j : Nat, j < 7 → Int32.ofInt (j : Int) = nI j := by decide
/-- the first n numbers behind the place i -/
def aV (xs : Nat → Int32) (i n : Nat) : List Value := (List.range n).map (fun j => Value.int (xs (i + (j + 1))))
def aM (xs : Nat → Int32) (i n : Nat) : List mV := (List.range n).map (fun j => (0, (xs (i + (j + 1))).toInt))
theorem vS_map {tx : Nat → Nat} {mp : Nat → Nat → Prop} (f : Nat → Int32) : ∀ l : List Nat, vS tx mp (l.map (fun j => (0, (f j).toInt))) (l.map (fun j => Value.int (f j)))
  | [] => trivial
  | j :: l => ⟨rfl, vS_map f l⟩
theorem J.room {w : cQ} {n : Nat × Nat} {M R : Nat → Nat → Int} (h : J w n M R) : n.1 + 22 ≤ 600000 ∧ n.2 + 40282 ≤ 7302249 := by
  obtain ⟨L, c, h⟩ := h
  obtain ⟨⟨s1, -⟩, ⟨s2, s3⟩, -⟩ := h.S
  have := szJ_9 s1
  omega
theorem lgc_eq (x : Int64) : lg_cmp x x = 0 := by
  rw [nu_eq, nl_cmp]
  unfold m_cmp
  simp
section LAW
variable {p : Program} {l : Launch} {e : Env} {s : State} {m : MethodId} {below : List Frame} {meth : Method} {c : Code} {b L : Nat} {xs : Nat → Int32} {adK adV : Nat → Nat} {D : va_G} {Q : State → Prop}
theorem lw_psh (C0 : lw_At p s m meth c b L xs) (hL : L ≤ 3072) {H : Heap} {locs : List Loc} {cells slots : Nat} (hS : va_S (lA s) s.heap H locs) {i j pc q1 q2 : Nat} (h : pshB pc j) (hj : j < 7) (hij : i + j < L) {ls : Array Slot} (hl : lv_has ls 4 (lL b q1 q2 i)) {rest : List Value}
    (k : W p l e room_1 s m #[Value.ref b] below meth c H locs cells slots Q (F0 m (pc + 5) ls (.int (xs (i + j)) :: rest))) : W p l e room_1 s m #[Value.ref b] below meth c H locs cells slots Q (F0 m pc ls rest) := by
  obtain ⟨hx, hb, hr, hml, hown, hts0, hX, hbl, hlocks, hgv⟩ := C0
  have hbA : ¬ lA s b := Nat.not_le.mpr hbl
  refine lv_aload_n hx hb h.1 rfl (lv_at hl 0 rfl) ?_
  refine lv_iload_n hx hb h.2.1 rfl (lv_at hl 3 rfl) ?_
  refine lv_iconst (v := nI j) hx hb h.2.2.1 (ofI_n j hj) ?_
  refine lv_iadd hx hb h.2.2.2.1 ?_
  rw [nI_add]
  refine va_sld hx hb hX hbl hbA hS (vp_in_nI hij (by omega)) h.2.2.2.2 ?_
  rw [nI_clamp (by omega)]
  exact k
theorem lw_pshs (C0 : lw_At p s m meth c b L xs) (hL : L ≤ 3072) {H : Heap} {locs : List Loc} {cells slots : Nat} (hS : va_S (lA s) s.heap H locs) {i pc q1 q2 : Nat} (hi : i + 6 ≤ L) {ls : Array Slot} (hl : lv_has ls 4 (lL b q1 q2 i)) {rest : List Value} : ∀ (n : Nat), n ≤ 5 → (∀ j, j < n → pshB (pc + 5 * j) (j + 1)) →
    W p l e room_1 s m #[Value.ref b] below meth c H locs cells slots Q (F0 m (pc + 5 * n) ls ((aV xs i n).reverse ++ rest)) → W p l e room_1 s m #[Value.ref b] below meth c H locs cells slots Q (F0 m pc ls rest)
  | 0, _, _, k => k
  | n + 1, hn, h, k => by
    refine lw_pshs C0 hL hS hi hl n (by omega) (fun j hj => h j (by omega)) ?_
    refine lw_psh C0 hL hS (h n (by omega)) (by omega) (by omega) hl ?_
    have e1 : (aV xs i (n + 1)).reverse ++ rest = .int (xs (i + (n + 1))) :: ((aV xs i n).reverse ++ rest) := by
      unfold aV
      rw [List.range_succ, List.map_append, List.reverse_append]
      rfl
    rw [e1] at k
    exact k
/-- all that the law's walk stands on -/
def LC (p : Program) (l : Launch) (s : State) (m : MethodId) (meth : Method) (c : Code) (b L : Nat) (xs : Nat → Int32) (adK adV : Nat → Nat) (D : va_G) : Prop := IHd l gT gG (txA adK) (txs adK adV) D Ws 60 ∧ lw_At p s m meth c b L xs ∧ txs adK adV (lA s) s s.heap ∧ L ≤ 3072
theorem lw_roomC (hih : IHd l gT gG (txA adK) (txs adK adV) D Ws 60) {kR : Nat} {MR : mM} (hR : gT kR = some MR) {as : List mV} {R : Nat → Nat → Int} : ∀ (r : mV) (u : mH), FC (fun a w' M' n' => CR 60 kR as R (22, 40282) (fun b R' => b = a ∧ J w' n' M' R')) r u → u.2.2.2.1 + 22 ≤ 600000 ∧ u.2.2.2.2 + 40282 ≤ 7302249 := by
  rintro r u ⟨w', M', n', rfl, hq⟩
  obtain ⟨r2, u2, ⟨R', -, -, hJ⟩, -⟩ := hih kR MR hR _ _ _ hq
  exact hJ.room
theorem lw_gT {k n kr idx cl mL a0 a1 a2 a3 : Nat} (hm : lwM k n kr idx cl mL a0 a1 a2 a3) : ∃ M, gT k = some M := by
  obtain ⟨M, h, -⟩ := hgT _ hm.1
  exact ⟨M, h⟩
abbrev csB (T n i1 i2 : Nat) : Prop := decode code T = .ok (.aload_n 1, 1) ∧ (∀ j, j < n → pshB (T + 1 + 5 * j) (j + 1)) ∧ decode code (T + 1 + 5 * n) = .ok (.invokevirtual i1, 3) ∧ decode code (T + 1 + 5 * n + 3) = .ok (.aload_n 2, 1) ∧ (∀ j, j < n → pshB (T + 1 + 5 * n + 3 + 1 + 5 * j) (j + 1)) ∧ decode code (T + 1 + 5 * n + 3 + 1 + 5 * n) = .ok (.invokevirtual i2, 3)
theorem lw_caseI (C : LC p l s m meth c b L xs adK adV D) {n T i1 i2 kC kR mC a0 a1 a2 a3 mR b0 b1 b2 b3 : Nat} (hn : n ≤ 5) (hcs : csB T n i1 i2) {off : Int} (d6 : decode code (T + 1 + 5 * n + 3 + 1 + 5 * n + 3) = .ok (.if_icmp .eq off, 3)) (ht : ((T + 1 + 5 * n + 3 + 1 + 5 * n + 3 : Nat) : Int) + off = ((1709 : Nat) : Int))
    (mCl : lwM kC n 1 i1 11 mC a0 a1 a2 a3) (mRf : lwM kR n 1 i2 12 mR b0 b1 b2 b3) {w : cQ} {n0 : Nat × Nat} {M R : Nat → Nat → Int} {i q1 q2 : Nat} (hJ : JO kC kR (aM xs i n) w n0 M R) (hi : i + 6 ≤ L) {H : Heap} {locs : List Loc} {cells slots : Nat} (hW : Two adK D s (hC w M n0) q1 (hR R (22, 40282)) q2 H locs cells slots) {ls : Array Slot} (hl : lv_has ls 4 (lL b q1 q2 i))
    (k : ∀ (w' : cQ) (n' : Nat × Nat) (M' R' : Nat → Nat → Int) (H1 : Heap) (locs1 : List Loc) (c1 s1 : Nat), J w' n' M' R' → Two adK D s (hC w' M' n') q1 (hR R' (22, 40282)) q2 H1 locs1 c1 s1 → W p l e room_1 s m #[Value.ref b] below meth c H1 locs1 c1 s1 Q (F0 m 1709 ls [])) :
    W p l e room_1 s m #[Value.ref b] below meth c H locs cells slots Q (F0 m T ls []) := by
  obtain ⟨hih, C0, hT0, hL⟩ := C
  obtain ⟨hx, hb, -⟩ := id C0
  obtain ⟨d0, d1, d2, d3, d4, d5⟩ := hcs
  obtain ⟨MR, hMR⟩ := lw_gT mRf
  have hlen : (aV xs i n).length = n := by unfold aV; simp
  refine lv_aload_n hx hb d0 rfl (lv_at hl 1 rfl) ?_
  refine lw_pshs C0 hL hW.S hi hl n hn d1 ?_
  refine lw_int (cl := 11) hih C0 hT0 mCl d2 hW rfl hJ (lw_roomC hih hMR) hl.1 (fun mp => vS_map _ _) hlen (by decide) (fun r u hF x hr H1 locs1 c1 s1 hW1 => ?_)
  obtain ⟨w', M', n', rfl, hq⟩ := hF
  refine lv_aload_n hx hb d3 rfl (lv_at hl 2 rfl) ?_
  refine lw_pshs C0 hL hW1.S hi hl n hn d4 ?_
  refine lw_int (cl := 12) hih C0 hT0 mRf d5 hW1.swap rfl hq (fun r2 u2 hF2 => ?_) hl.1 (fun mp => vS_map _ _) hlen (by show 1 + 0 ≤ 8; omega) (fun r2 u2 hF2 y hr2 H2 locs2 c2 s2 hW2 => ?_)
  · obtain ⟨R', rfl, -, hJ'⟩ := hF2
    have := hJ'.room
    show 22 + n'.1 ≤ 600000 ∧ 40282 + n'.2 ≤ 7302249
    omega
  · obtain ⟨R', rfl, e1, hJ'⟩ := hF2
    have exy : x = y := nu_eq.mpr (by rw [hr, hr2] at e1; exact e1.symm)
    exact lv_icmp_eq (tgt := 1709) hx hb d6 ht (fun _ => k _ _ _ _ _ _ _ _ hJ' hW2.swap) (fun z => absurd exy z)
theorem lw_caseL (C : LC p l s m meth c b L xs adK adV D) {n T i1 i2 kC kR mC a0 a1 a2 a3 mR b0 b1 b2 b3 : Nat} (hn : n ≤ 5) (hcs : csB T n i1 i2) {off : Int} (d6 : decode code (T + 1 + 5 * n + 3 + 1 + 5 * n + 3) = .ok (.lcmp, 1)) (d7 : decode code (T + 1 + 5 * n + 3 + 1 + 5 * n + 3 + 1) = .ok (.ifCond .eq off, 3)) (ht : ((T + 1 + 5 * n + 3 + 1 + 5 * n + 3 + 1 : Nat) : Int) + off = ((1709 : Nat) : Int))
    (mCl : lwM kC n 2 i1 11 mC a0 a1 a2 a3) (mRf : lwM kR n 2 i2 12 mR b0 b1 b2 b3) {w : cQ} {n0 : Nat × Nat} {M R : Nat → Nat → Int} {i q1 q2 : Nat} (hJ : JO kC kR (aM xs i n) w n0 M R) (hi : i + 6 ≤ L) {H : Heap} {locs : List Loc} {cells slots : Nat} (hW : Two adK D s (hC w M n0) q1 (hR R (22, 40282)) q2 H locs cells slots) {ls : Array Slot} (hl : lv_has ls 4 (lL b q1 q2 i))
    (k : ∀ (w' : cQ) (n' : Nat × Nat) (M' R' : Nat → Nat → Int) (H1 : Heap) (locs1 : List Loc) (c1 s1 : Nat), J w' n' M' R' → Two adK D s (hC w' M' n') q1 (hR R' (22, 40282)) q2 H1 locs1 c1 s1 → W p l e room_1 s m #[Value.ref b] below meth c H1 locs1 c1 s1 Q (F0 m 1709 ls [])) :
    W p l e room_1 s m #[Value.ref b] below meth c H locs cells slots Q (F0 m T ls []) := by
  obtain ⟨hih, C0, hT0, hL⟩ := C
  obtain ⟨hx, hb, -⟩ := id C0
  obtain ⟨d0, d1, d2, d3, d4, d5⟩ := hcs
  obtain ⟨MR, hMR⟩ := lw_gT mRf
  have hlen : (aV xs i n).length = n := by unfold aV; simp
  refine lv_aload_n hx hb d0 rfl (lv_at hl 1 rfl) ?_
  refine lw_pshs C0 hL hW.S hi hl n hn d1 ?_
  refine lw_long (cl := 11) hih C0 hT0 mCl d2 hW rfl hJ (lw_roomC hih hMR) hl.1 (fun mp => vS_map _ _) hlen (by decide) (fun r u hF x hr H1 locs1 c1 s1 hW1 => ?_)
  obtain ⟨w', M', n', rfl, hq⟩ := hF
  refine lv_aload_n hx hb d3 rfl (lv_at hl 2 rfl) ?_
  refine lw_pshs C0 hL hW1.S hi hl n hn d4 ?_
  refine lw_long (cl := 12) hih C0 hT0 mRf d5 hW1.swap rfl hq (fun r2 u2 hF2 => ?_) hl.1 (fun mp => vS_map _ _) hlen (by show 2 + 0 ≤ 8; omega) (fun r2 u2 hF2 y hr2 H2 locs2 c2 s2 hW2 => ?_)
  · obtain ⟨R', rfl, -, hJ'⟩ := hF2
    have := hJ'.room
    show 22 + n'.1 ≤ 600000 ∧ 40282 + n'.2 ≤ 7302249
    omega
  · obtain ⟨R', rfl, e1, hJ'⟩ := hF2
    have exy : x = y := nl_eq.mpr (by rw [hr, hr2] at e1; exact e1.symm)
    subst exy
    refine W.lcmp hx hb d6 ?_
    exact lv_if_eq (tgt := 1709) hx hb d7 ht (fun _ => k _ _ _ _ _ _ _ _ hJ' hW2.swap) (fun z => absurd (lgc_eq _) z)
end LAW
