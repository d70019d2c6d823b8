/-! ===== the law: its start (printed in part by program) ===== -/
def lGv : Jvm.Cond := Jvm.Cond.and given_1 narrow_1
def lFl : List Jvm.Cond := flatC lGv
def tmX (i : Nat) : Term := match i with
  | 0 => .string "PartyLine$Reader" 161
  | 1 => .string "PartyLine$Reader" 169
  | _ => .string "PartyLineModel" 93
def lPs : List (List Nat) := [[165, 166, 167, 168, 169, 170, 171, 172, 173, 174, 175, 176], [52, 53, 54, 55, 56, 57, 58, 59, 60, 61, 62, 63, 64, 65, 66, 67, 68, 69, 70, 71, 72, 73, 74, 75, 76, 77, 78, 79, 80, 81, 82, 83, 84, 85, 86, 87, 88, 89, 90, 91, 92, 93, 94, 95, 96, 97, 98, 99, 100, 101, 102, 103, 104, 105, 106, 107, 108, 109, 110, 111, 112, 113, 114, 115, 116, 117, 118, 119, 120, 121, 122, 123, 124, 125, 126, 127, 128, 129, 130, 131, 132, 133, 134, 135, 136, 137, 138, 139, 140, 141, 142, 143, 144, 145, 146, 147, 148, 149, 150, 151, 152, 153, 154, 155, 156, 157, 158, 159, 160], [182, 183, 184, 185, 186, 187, 188, 189, 190, 191, 192, 193, 194, 195, 196, 197, 198, 199, 200, 201, 202, 203, 204, 205, 206, 207, 208, 209, 210, 211, 212, 213, 214, 215, 216, 217, 218, 219, 220, 221, 222, 223, 224, 225, 226, 227, 228, 229, 230, 231, 232, 233, 234, 235, 236, 237, 238, 239, 240, 241, 242, 243, 244, 245, 246, 247, 248, 249, 250, 251, 252, 253, 254, 255, 256, 257, 258, 259, 260, 261, 262, 263, 264, 265, 266, 267, 268, 269, 270, 271, 272, 273, 274, 275, 276, 277, 278, 279, 280, 281, 282, 283, 284, 285, 286, 287, 288, 289, 290, 291]]
theorem lm_ex : ∀ i, i < 3 → Cond.exactly (tmX i) "java/lang/String" ∈ lFl := by decide +kernel
theorem lm_co : ∀ i, i < 3 → Cond.eq (.field (tmX i) "java/lang/String" "coder" "B") (.int 0) ∈ lFl := by decide +kernel
theorem lm_ar : ∀ i, i < 3 → Cond.arrayOf (.field (tmX i) "java/lang/String" "value" "[B") .byte ∈ lFl := by decide +kernel
theorem lm_le : ∀ i, i < 3 → Cond.eq (.length (.field (tmX i) "java/lang/String" "value" "[B")) (.int (Int32.ofNat (lenX.getD i 0))) ∈ lFl := by decide +kernel
set_option maxRecDepth 20000 in
theorem lm_el0 : ∀ j, j < lenX.getD 0 0 → lFl[(lPs.getD 0 []).getD j 0]? = some (Cond.eq (.elem (.field (tmX 0) "java/lang/String" "value" "[B") (.int (Int32.ofNat j))) (.int ((bytX.getD 0 []).getD j 0))) := by decide +kernel
set_option maxRecDepth 20000 in
theorem lm_el1 : ∀ j, j < lenX.getD 1 0 → lFl[(lPs.getD 1 []).getD j 0]? = some (Cond.eq (.elem (.field (tmX 1) "java/lang/String" "value" "[B") (.int (Int32.ofNat j))) (.int ((bytX.getD 1 []).getD j 0))) := by decide +kernel
set_option maxRecDepth 20000 in
theorem lm_el2 : ∀ j, j < lenX.getD 2 0 → lFl[(lPs.getD 2 []).getD j 0]? = some (Cond.eq (.elem (.field (tmX 2) "java/lang/String" "value" "[B") (.int (Int32.ofNat j))) (.int ((bytX.getD 2 []).getD j 0))) := by decide +kernel
theorem lm_el : ∀ i, i < 3 → ∀ j, j < lenX.getD i 0 → Cond.eq (.elem (.field (tmX i) "java/lang/String" "value" "[B") (.int (Int32.ofNat j))) (.int ((bytX.getD i []).getD j 0)) ∈ lFl
  | 0, _, j, hj => List.mem_of_getElem? (lm_el0 j hj)
  | 1, _, j, hj => List.mem_of_getElem? (lm_el1 j hj)
  | 2, _, j, hj => List.mem_of_getElem? (lm_el2 j hj)
  | i + 3, h, _, _ => absurd h (by omega)
theorem lm_10 : Cond.not (Cond.eq (tmX 1) (tmX 0)) ∈ lFl := by decide +kernel
theorem lm_12 : Cond.not (Cond.eq (tmX 1) (tmX 2)) ∈ lFl := by decide +kernel
theorem lm_02 : Cond.not (Cond.eq (tmX 0) (tmX 2)) ∈ lFl := by decide +kernel
theorem lm_03 : Cond.eq (tmX 0) (.string "PartyLineModel" 131) ∈ lFl := by decide +kernel
theorem lm_cs : Cond.eq (.static "java/lang/String" "COMPACT_STRINGS" "Z") (.int 1) ∈ lFl := by decide +kernel
theorem lm_sf : Cond.isRef (.static "jdk/internal/util/Preconditions" "SIOOBE_FORMATTER" "Ljava/util/function/BiFunction;") ∈ lFl := by decide +kernel
theorem lm_lb : ∀ i, i < 3 → lenX.getD i 0 < 2 ^ 31 := by decide +kernel
def nstI : List Nat := [1032, 1038, 1144, 1221, 1224, 2050, 2059, 2080, 2170, 4031, 6110]
theorem nst_in : nstI.map tw = nstW.map some := by decide +kernel
theorem nst_tb : ∀ w ∈ nstW, w ∈ lw_tbl := by
  intro w hw
  have h : some w ∈ nstI.map tw := by rw [nst_in]; exact List.mem_map_of_mem hw
  obtain ⟨i, -, hi⟩ := List.mem_map.mp h
  exact tw_mem hi
theorem nst_on : ∀ w ∈ nstW, w.onTables = true := by decide +kernel
theorem lw_tx {b : Nat} {s : State} (hts0 : ∀ w ∈ lw_tbl, w.before #[Value.ref b] s = true) (hgv : (Jvm.Cond.and given_1 narrow_1).before #[Value.ref b] s = true) : ∃ adK adV : Nat → Nat, txs adK adV (lA s) s s.heap := by
  have hs : ∀ c ∈ lFl, c.before #[Value.ref b] s = true := flat_of_before _ hgv
  have hA : ∀ a : Nat, a < s.heap.size → ¬ lA s a := fun a h => Nat.not_le.mpr h
  obtain ⟨adK, adV, hS, hev⟩ := vk_Sof (N := 3) (tm := tmX) (len := lenX) (byt := bytX) (A := lA s) lm_lb (fun i hi => hs _ (lm_ex i hi)) (fun i hi => hs _ (lm_co i hi)) (fun i hi => hs _ (lm_ar i hi)) (fun i hi => hs _ (lm_le i hi)) (fun i hi j hj => hs _ (lm_el i hi j hj)) (fun i j hi hj hij => by
    rcases (show i = 0 ∨ i = 1 ∨ i = 2 by omega) with rfl | rfl | rfl <;> rcases (show j = 0 ∨ j = 1 ∨ j = 2 by omega) with rfl | rfl | rfl
    · exact absurd rfl hij
    · exact Or.inr (hs _ lm_10)
    · exact Or.inl (hs _ lm_02)
    · exact Or.inl (hs _ lm_10)
    · exact absurd rfl hij
    · exact Or.inl (hs _ lm_12)
    · exact Or.inr (hs _ lm_02)
    · exact Or.inr (hs _ lm_12)
    · exact absurd rfl hij) hA
  have w1 : Cond.laysStatic "java/lang/String" "COMPACT_STRINGS" "Z" ∈ lw_tbl := tw_mem (i := 3031) (by decide +kernel)
  have w2 : Cond.initialized "java/lang/String" ∈ lw_tbl := tw_mem (i := 1015) (by decide +kernel)
  have w3 : Cond.laysStatic "jdk/internal/util/Preconditions" "SIOOBE_FORMATTER" "Ljava/util/function/BiFunction;" ∈ lw_tbl := tw_mem (i := 3047) (by decide +kernel)
  have w4 : Cond.initialized "jdk/internal/util/Preconditions" ∈ lw_tbl := tw_mem (i := 1017) (by decide +kernel)
  have r1 : Cond.stringRef "PartyLine$Reader" 161 ";:+-*()[]=<>" ∈ lw_tbl := tw_mem (i := 3077) (by decide +kernel)
  have r2 : Cond.stringRef "PartyLine$Reader" 169 "farms moments bit to must farm wish mood cut snow at tells hears likes now or and not from teller far moment " ∈ lw_tbl := tw_mem (i := 3021) (by decide +kernel)
  have r3 : Cond.stringRef "PartyLineModel" 93 " farms moments bit to must farm wish mood cut snow at tells hears likes now from teller far moment and or not " ∈ lw_tbl := tw_mem (i := 7028) (by decide +kernel)
  have r4 : Cond.stringRef "PartyLineModel" 131 ";:+-*()[]=<>" ∈ lw_tbl := tw_mem (i := 7034) (by decide +kernel)
  have a1 : Cond.arrayOver (.object (oN 2)) ∈ lw_tbl := tw_mem (i := 2071) (by decide +kernel)
  have a2 : Cond.arrayOver (.object (oN 7)) ∈ lw_tbl := tw_mem (i := 2058) (by decide +kernel)
  have a3 : Cond.arrayOver (.object (oN 8)) ∈ lw_tbl := tw_mem (i := 2069) (by decide +kernel)
  refine ⟨adK, adV, hS, va_Zof (hts0 _ w1) (hts0 _ w2) (va_eqt (hs _ lm_cs)) hA, va_Zqof (hts0 _ w3) (hts0 _ w4) (hs _ lm_sf) hA, ⟨vk_R.of (hts0 _ r1) (hev 0 (by omega)), vk_R.of (hts0 _ r2) (hev 1 (by omega)), vk_R.of (hts0 _ r3) (hev 2 (by omega)), vk_R.of (hts0 _ r4) (va_eqR (hs _ lm_03) (hev 0 (by omega)))⟩, fun w hw => va_Nw.of (nst_on w hw) (hts0 w (nst_tb w hw)), ?_⟩
  rintro a (rfl | rfl | rfl)
  · exact va_AO.of (hts0 _ a1)
  · exact va_AO.of (hts0 _ a2)
  · exact va_AO.of (hts0 _ a3)
theorem lw_D {b : Nat} {s : State} (hts : ∀ w ∈ Ws, w.before #[Value.ref b] s = true) : ∃ D : va_G, va_K D vwCl [] s := by
  have h1 : ∀ a : Nat, a < 13 → ∃ (cC : ClassId) (iS : Nat → Nat), u_Kn s (oN a) (fTb a) (fNn a) cC iS := by
    intro a ha
    obtain ⟨-, c1, c2, c3, c4, c5, c6, c7⟩ := cl_all a ha
    exact u_known (n := fNn a) hts c2 (hts _ c6)
  obtain ⟨z1, z2, -⟩ := h1 0 (by omega)
  have h : ∀ a : Nat, ∃ z : ClassId × (Nat → Nat), a < 13 → u_Kn s (oN a) (fTb a) (fNn a) z.1 z.2 := by
    intro a
    by_cases ha : a < 13
    · obtain ⟨cC, iS, h⟩ := h1 a ha
      exact ⟨(cC, iS), fun _ => h⟩
    · exact ⟨(z1, z2), fun h => absurd h ha⟩
  obtain ⟨f, hf⟩ := Classical.axiomOfChoice h
  refine ⟨(fun a => (f a).1, fun a => (f a).2), fun k q hq => ?_, fun k q h => by simp at h⟩
  have hk : k < 13 := (List.getElem?_eq_some_iff.mp hq).1
  obtain ⟨-, c1, -⟩ := cl_all k hk
  cases c1.symm.trans hq
  exact hf k hk
section LAW
variable {p : Program} {l : Launch} {e : Env} {s : State} {m : MethodId} {below : List Frame} {meth : Method} {c : Code} {b L : Nat} {xs : Nat → Int32} {adK adV : Nat → Nat} {D : va_G} {Q : State → Prop}
/-- a new object, all zero -/
def g0K (cl : Nat) : mH := (fun _ _ => 0, fun _ _ => 0, fun b => if b = 1 then (10 + cl, fNn cl) else (0, 0), (1, fNn cl))
def fs0 (cl : Nat) : List Value := (List.range (fNn cl)).map (fun k => if fso (fty cl k) = 2 then Value.null else Value.int 0)
theorem Hf_new {cl q : Nat} (hcl : cl < 13) {H : Heap} {tys : List (ClassId × FieldType)} (hK : va_K D vwCl tys s) (hP : va_P D vwCl [(q, .inr (cl, fs0 cl))] H) (hq : lA s q) : Hf adK D s (g0K cl) q [(q, .inr (cl, fs0 cl))] H := by
  obtain ⟨-, c1, -⟩ := cl_all cl hcl
  refine ⟨fun a r => a = 1 ∧ r = q, tys, ⟨fun a r r' h h' => h.2.trans h'.2.symm, fun a a' r h h' => h.1.trans h'.1.symm, fun a r h => ?_⟩, ?_, hP, hK, ⟨fun i j x y h1 h2 _ => ?_, fun k x hk => ?_⟩, rfl, rfl, rfl⟩
  · rw [h.1]
    show 10 + cl ≠ 0
    omega
  · intro a ha
    have ha1 : a = 1 := by
      by_cases z : a = 1
      · exact z
      · refine absurd ?_ ha
        unfold mKd g0K
        simp [z]
    subst ha1
    refine ⟨q, 0, _, ⟨rfl, rfl⟩, rfl, rfl, _, c1, by unfold fs0; simp, fun k hk => ?_⟩
    have hk : k < fNn cl := hk
    refine ⟨if fso (fty cl k) = 2 then Value.null else Value.int 0, by unfold fs0; simp [hk], ?_⟩
    by_cases h2 : fso (fty cl k) = 2
    · rw [if_pos h2, h2]
      rfl
    · rw [if_neg h2]
      have : mLd (g0K cl) 1 k (fso (fty cl k)) = (0, 0) := by
        unfold mLd
        split
        · rename_i z
          exact absurd z h2
        · rfl
      rw [this]
      rfl
  · have := (List.getElem?_eq_some_iff.mp h1).1
    have := (List.getElem?_eq_some_iff.mp h2).1
    simp at *
    omega
  · have h0 := (List.getElem?_eq_some_iff.mp hk).1
    have h0 : k = 0 := by simp at h0; exact h0
    subst h0
    cases hk
    exact hq
theorem lw_make (hih : IHd l gT gG (txA adK) (txs adK adV) D Ws 60) (C0 : lw_At p s m meth c b L xs) (hT0 : txs adK adV (lA s) s s.heap) {cl k mL a0 a1 a2 a3 ic im pc : Nat} (hcl : cl < 13) (hm : ((k, mL, 2, 0, a0, a1, a2, a3) : mF) ∈ mFk) (hkr : (gG k).2.2.2.2 = 0) (hlk : Cond.methodLink R_law im (gG k).1 ∈ Ws) (hlc : Cond.classLink R_law ic (oN cl) ∈ Ws) (d0 : decode code pc = .ok (.new ic, 3)) (d1 : decode code (pc + 3) = .ok (.dup, 1)) (d2 : decode code (pc + 3 + 1) = .ok (.invokespecial im, 3))
    {ws2 : va_W} {H : Heap} {locs : List Loc} {cells slots : Nat} {tys : List (ClassId × FieldType)} (hK : va_K D vwCl tys s) (hB : va_P D vwCl ws2 H) (hD : va_D (lA s) ws2) (hS : va_S (lA s) s.heap H locs) {F : mPost} (hq : WPm gT 60 k [(2, 1)] (g0K cl) F) (hroom : ∀ r u, F r u → cells + u.2.2.2.1 ≤ 600000 ∧ slots + u.2.2.2.2 ≤ 7302249) {ls : Array Slot} (hls : ls.size = 4)
    (cont : ∀ (r : mV) (u : mH), F r u → ∀ (q : Nat) (ws1 : va_W) (H1 : Heap) (locs1 : List Loc), Hf adK D s u q ws1 H1 → va_P D vwCl ws2 H1 → Dj ws1 ws2 → va_S (lA s) s.heap H1 locs1 → W p l e room_1 s m #[Value.ref b] below meth c H1 locs1 (cells + u.2.2.2.1) (slots + u.2.2.2.2) Q (F0 m (pc + 3 + 1 + 3) ls [.ref q])) :
    W p l e room_1 s m #[Value.ref b] below meth c H locs cells slots Q (F0 m pc ls []) := by
  obtain ⟨hx, hb, hr, hml, hown, hts0, hX, hbl, hlocks, hgv⟩ := C0
  have hts := lw_W hts0
  obtain ⟨f1, f2, f3, f4, f5, f6, f7, f8, f9⟩ := mFk_ok _ hm
  have f0 := mFk_cd _ hm
  obtain ⟨M, hM1, hM2⟩ := hgT _ hm
  have hM1 : gT k = some M := hM1
  have hM2 : M.2 = mL := hM2
  subst hM2
  obtain ⟨r9, u9, hF9, hgl9, -⟩ := hih k M hM1 _ _ _ hq
  have hgl9 : 1 ≤ u9.2.2.2.1 ∧ fNn cl ≤ u9.2.2.2.2 := hgl9
  obtain ⟨z1, z2⟩ := hroom r9 u9 hF9
  obtain ⟨-, c1, c2, c3, c4, c5, c6, c7⟩ := cl_all cl hcl
  refine va_new (own := R_law) (C := oN cl) (T := fTb cl) (N := fNn cl) (ci := cl) (fs := fs0 cl) hx hb hts c2 (fty cl) c3 hown (hts _ hlc) (hts _ c6) (hts _ c7) hK hB hD hS (fun _ h => h) c1 (fun j hj => by
      unfold vp_V fs0
      rw [show ((List.range (fNn cl)).map (fun k => if fso (fty cl k) = 2 then Value.null else Value.int 0)).getD j .null = (if fso (fty cl j) = 2 then Value.null else Value.int 0) by simp [List.getD, hj]]
      have := hnf cl hcl j hj
      revert this
      cases fty cl j <;> simp [fso, defaultValue, fokB]) (by show cells + 1 ≤ 600000; omega) (by show slots + fNn cl ≤ 7302249; omega) d0 (fun q H1 hP1 hD1 hS1 => ?_)
  refine lv_dup hx hb d1 rfl ?_
  have hB1 : va_P D vwCl ws2 H1 := fun k x hk => hP1 k x (by rw [List.getElem?_append_left (List.getElem?_eq_some_iff.mp hk).1]; exact hk)
  have hlast : (ws2 ++ [((q, .inr (cl, fs0 cl)) : Nat × va_E)])[ws2.length]? = some (q, .inr (cl, fs0 cl)) := by simp
  have hQ1 : va_P D vwCl [(q, .inr (cl, fs0 cl))] H1 := fun k x hk => by
    have h0 := (List.getElem?_eq_some_iff.mp hk).1
    have h0 : k = 0 := by simp at h0; exact h0
    subst h0
    cases hk
    exact hP1 _ _ hlast
  have hdis : Dj [(q, .inr (cl, fs0 cl))] ws2 := by
    intro i j x y h1 h2 h3
    have h0 := (List.getElem?_eq_some_iff.mp h1).1
    have h0 : i = 0 := by simp at h0; exact h0
    subst h0
    cases h1
    have hj := (List.getElem?_eq_some_iff.mp h2).1
    have := hD1.1 ws2.length j _ y hlast (by rw [List.getElem?_append_left hj]; exact h2) h3
    omega
  obtain ⟨r, u, mp, tys', hF, hgl, hfree, hMet, hPre, key⟩ := lw_pre (As := []) hih hT0 hM1 (Hf_new (adK := adK) hcl hK hQ1 (hD1.2 _ _ hlast)) hB1 hdis hS1 hq (fun mp => trivial)
  have hgl : 1 ≤ u.2.2.2.1 ∧ fNn cl ≤ u.2.2.2.2 := hgl
  obtain ⟨z1, z2⟩ := hroom r u hF
  have e1 : (g0K cl).2.2.2.1 = 1 := rfl
  have e2 : (g0K cl).2.2.2.2 = fNn cl := rfl
  have wcode : Cond.code (gG k).1 (gG k).2.2.1 M.2 (gG k).2.2.2.1 ∈ Ws := Ws_in a0 f0 rfl
  have wini : Cond.initialized (gG k).1.cls ∈ Ws := Ws_in _ f3 rfl
  have win : Cond.instanceMethod (gG k).1 ∈ Ws := Ws_in _ f1 rfl
  have hGd : GoodIn Ws (Cond.code (gG k).1 (gG k).2.2.1 M.2 (gG k).2.2.2.1 :: Ws) := Ws_good (fun w hw => by
    rcases List.mem_cons.mp hw with rfl | hw
    · exact wcode
    · exact hw)
  obtain ⟨g1, g2⟩ := f7 rfl
  rw [g2] at hMet hGd
  rw [hkr] at hMet
  have hrun := va_runI (R := room_1) (args := #[Value.ref b]) (As := []) (rest := [.ref q]) (g := F0 m (pc + 3 + 1) ls [.ref q, .ref q]) (locs := locs) (cells := cells + 1) (slots := slots + fNn cl) (below := below) (meth := meth) (e := e) (H := H1) ⟨hx, hb, hml, hown, hts⟩ hMet ⟨callB_of 0 hts hGd rfl rfl rfl (hts _ wini) (hts _ hlk) ⟨f5.1, f5.2, f4⟩ ⟨by show 60 + 8 + 1 ≤ 2048; omega, by show 8 + (M.2 + 11) + 100 * (60 + 8) ≤ 84000; omega⟩, g1, hts _ win⟩ ⟨ctP_blind (txs_ok adK adV), hPre⟩ rfl rfl hls rfl (by
      have h0 : 2 * (F0 m (pc + 3 + 1) ls [.ref q, .ref q]).monitorRoom = 0 := rfl
      show 2 * (F0 m (pc + 3 + 1) ls [.ref q, .ref q]).monitorRoom + (1 + 0) ≤ 8
      omega) d2 ⟨by show _ ≤ 600000; omega, by show _ ≤ 7302249; omega⟩
  refine va_callv (a := [Value.ref q].toArray) hrun hS1 (fun q _ h => hfree q h) hfree (fun z t H2 locs2 ht hvm hpost hBB _ hk hS2 => ?_)
  obtain ⟨ws', k1, k2, k3⟩ := key z t H2 ht hvm hpost hBB hk
  rw [show cells + 1 + (u.2.2.2.1 - (g0K cl).2.2.2.1) = cells + u.2.2.2.1 by omega, show slots + fNn cl + (u.2.2.2.2 - (g0K cl).2.2.2.2) = slots + u.2.2.2.2 by omega]
  exact cont r u hF q ws' H2 locs2 k1 k2 k3 hS2
end LAW
