/-! ===== the law: its loop (printed in part by program) ===== -/
def lOf : Array Int := #[207, 270, 293, 316, 349, 382, 415, 448, 481, 504, 537, 560, 583, 616, 639, 672, 695, 708, 741, 754, 767, 790, 823, 866, 910, 943, 986, 999, 1032, 1055, 1088, 1121, 1134, 1167, 1210, 1244, 1287, 1311, 1344, 1357, 1370, 1414, 1447, 1490, 1564, 1607, 1630, 1653]
def lTg : List Nat := [240, 303, 326, 349, 382, 415, 448, 481, 514, 537, 570, 593, 616, 649, 672, 705, 728, 741, 774, 787, 800, 823, 856, 899, 943, 976, 1019, 1032, 1065, 1088, 1121, 1154, 1167, 1200, 1243, 1277, 1320, 1344, 1377, 1390, 1403, 1447, 1480, 1523, 1597, 1640, 1663, 1686]
theorem tg_ok : ∀ j, j < 48 → lOf[j]? = some ((lTg.getD j 0 : Nat) - 33 : Int) := by decide +kernel
theorem dl_33 : decode code 33 = .ok (.tableswitch 1676 0 47 lOf, 207) := by decide +kernel
theorem dl_0 : decode code 0 = .ok (.new 7, 3) := by decide +kernel
theorem dl_3 : decode code 3 = .ok (.dup, 1) := by decide +kernel
theorem dl_4 : decode code 4 = .ok (.invokespecial 9, 3) := by decide +kernel
theorem dl_7 : decode code 7 = .ok (.astore_n 1, 1) := by decide +kernel
theorem dl_8 : decode code 8 = .ok (.new 10, 3) := by decide +kernel
theorem dl_11 : decode code 11 = .ok (.dup, 1) := by decide +kernel
theorem dl_12 : decode code 12 = .ok (.invokespecial 12, 3) := by decide +kernel
theorem dl_15 : decode code 15 = .ok (.astore_n 2, 1) := by decide +kernel
theorem dl_16 : decode code 16 = .ok (.iconst 0, 1) := by decide +kernel
theorem dl_17 : decode code 17 = .ok (.istore_n 3, 1) := by decide +kernel
theorem dl_18 : decode code 18 = .ok (.iload_n 3, 1) := by decide +kernel
theorem dl_19 : decode code 19 = .ok (.aload_n 0, 1) := by decide +kernel
theorem dl_20 : decode code 20 = .ok (.arraylength, 1) := by decide +kernel
theorem dl_21 : decode code 21 = .ok (.bipush 6, 2) := by decide +kernel
theorem dl_23 : decode code 23 = .ok (.isub, 1) := by decide +kernel
theorem dl_24 : decode code 24 = .ok (.if_icmp .gt 1691, 3) := by decide +kernel
theorem dl_27 : decode code 27 = .ok (.aload_n 0, 1) := by decide +kernel
theorem dl_28 : decode code 28 = .ok (.iload_n 3, 1) := by decide +kernel
theorem dl_29 : decode code 29 = .ok (.iaload, 1) := by decide +kernel
theorem dl_30 : decode code 30 = .ok (.bipush 63, 2) := by decide +kernel
theorem dl_32 : decode code 32 = .ok (.iand, 1) := by decide +kernel
theorem dl_1709 : decode code 1709 = .ok (.iinc 3 6, 3) := by decide +kernel
theorem dl_1712 : decode code 1712 = .ok (.goto (-1694), 3) := by decide +kernel
theorem dl_1715 : decode code 1715 = .ok (.iconst 1, 1) := by decide +kernel
theorem dl_1716 : decode code 1716 = .ok (.ireturn, 1) := by decide +kernel
section LAW
variable {p : Program} {l : Launch} {e : Env} {s : State} {m : MethodId} {below : List Frame} {meth : Method} {c : Code} {b L : Nat} {xs : Nat → Int32} {adK adV : Nat → Nat} {D : va_G}
variable {w : cQ} {n : Nat × Nat} {M R : Nat → Nat → Int} {i q1 q2 : Nat} {H : Heap} {locs : List Loc} {cells slots : Nat} {ls : Array Slot}
theorem lk_all {Q : State → Prop} (C : LC p l s m meth c b L xs adK adV D) (h : J w n M R) (hi : i + 6 ≤ L) (hW : Two adK D s (hC w M n) q1 (hR R (22, 40282)) q2 H locs cells slots) (hl : lv_has ls 4 (lL b q1 q2 i)) (k : lwK p l e s m below meth c b adK D Q q1 q2 ls) : ∀ j, j < 48 → W p l e room_1 s m #[Value.ref b] below meth c H locs cells slots Q (F0 m (lTg.getD j 0) ls [])
  | 0, _ => lk_0 C h hi hW hl k
  | 1, _ => lk_1 C h hi hW hl k
  | 2, _ => lk_2 C h hi hW hl k
  | 3, _ => lk_3 C h hi hW hl k
  | 4, _ => lk_4 C h hi hW hl k
  | 5, _ => lk_5 C h hi hW hl k
  | 6, _ => lk_6 C h hi hW hl k
  | 7, _ => lk_7 C h hi hW hl k
  | 8, _ => lk_8 C h hi hW hl k
  | 9, _ => lk_9 C h hi hW hl k
  | 10, _ => lk_10 C h hi hW hl k
  | 11, _ => lk_11 C h hi hW hl k
  | 12, _ => lk_12 C h hi hW hl k
  | 13, _ => lk_13 C h hi hW hl k
  | 14, _ => lk_14 C h hi hW hl k
  | 15, _ => lk_15 C h hi hW hl k
  | 16, _ => lk_16 C h hi hW hl k
  | 17, _ => lk_17 C h hi hW hl k
  | 18, _ => lk_18 C h hi hW hl k
  | 19, _ => lk_19 C h hi hW hl k
  | 20, _ => lk_20 C h hi hW hl k
  | 21, _ => lk_21 C h hi hW hl k
  | 22, _ => lk_22 C h hi hW hl k
  | 23, _ => lk_23 C h hi hW hl k
  | 24, _ => lk_24 C h hi hW hl k
  | 25, _ => lk_25 C h hi hW hl k
  | 26, _ => lk_26 C h hi hW hl k
  | 27, _ => lk_27 C h hi hW hl k
  | 28, _ => lk_28 C h hi hW hl k
  | 29, _ => lk_29 C h hi hW hl k
  | 30, _ => lk_30 C h hi hW hl k
  | 31, _ => lk_31 C h hi hW hl k
  | 32, _ => lk_32 C h hi hW hl k
  | 33, _ => lk_33 C h hi hW hl k
  | 34, _ => lk_34 C h hi hW hl k
  | 35, _ => lk_35 C h hi hW hl k
  | 36, _ => lk_36 C h hi hW hl k
  | 37, _ => lk_37 C h hi hW hl k
  | 38, _ => lk_38 C h hi hW hl k
  | 39, _ => lk_39 C h hi hW hl k
  | 40, _ => lk_40 C h hi hW hl k
  | 41, _ => lk_41 C h hi hW hl k
  | 42, _ => lk_42 C h hi hW hl k
  | 43, _ => lk_43 C h hi hW hl k
  | 44, _ => lk_44 C h hi hW hl k
  | 45, _ => lk_45 C h hi hW hl k
  | 46, _ => lk_46 C h hi hW hl k
  | 47, _ => lk_47 C h hi hW hl k
  | j + 48, hj => absurd hj (by omega)
theorem lw_head (C : LC p l s m meth c b L xs adK adV D) (h : J w n M R) (hW : Two adK D s (hC w M n) q1 (hR R (22, 40282)) q2 H locs cells slots) (hl : lv_has ls 4 (lL b q1 q2 i)) (hi : i ≤ 3072) (kc : i + 6 ≤ L → W p l e room_1 s m #[Value.ref b] below meth c H locs cells slots (lw_Z below #[Value.ref b] s) (F0 m 27 ls [])) : W p l e room_1 s m #[Value.ref b] below meth c H locs cells slots (lw_Z below #[Value.ref b] s) (F0 m 18 ls []) := by
  obtain ⟨hih, C0, hT0, hL⟩ := C
  obtain ⟨hx, hb, hr, hml, hown, hts0, hX, hbl, hlocks, hgv⟩ := id C0
  have hbA : ¬ lA s b := Nat.not_le.mpr hbl
  refine lv_iload_n hx hb dl_18 rfl (lv_at hl 3 rfl) ?_
  refine lv_aload_n hx hb dl_19 rfl (lv_at hl 0 rfl) ?_
  refine va_slen hx hb hX hbl hbA hW.S dl_20 ?_
  refine lv_bipush (v := 6) hx hb dl_21 rfl ?_
  refine lv_isub hx hb dl_23 ?_
  have e6 : (Int32.ofNat L - 6).toInt = (L : Int) - 6 := by
    rw [nu_sub, show (Int32.ofNat L).toInt = (L : Int) from nI_toInt (n := L) (by omega), show (6 : Int32).toInt = 6 from rfl, w32_id (by omega) (by omega)]
  refine lv_icmp_gt (tgt := 1715) hx hb dl_24 (by decide) (fun _ => ?_) (fun z => kc ?_)
  · refine lv_iconst (v := 1) hx hb dl_1715 (by decide) ?_
    refine va_forget (fun q hq => hW.S.2.2 q hq) ?_
    obtain ⟨ws1, ws2, -, -, -, -, c1, c2⟩ := hW
    have hrm := h.room
    refine W.widen (k := 600000) (n := 7302249) (by rw [c1]; exact hrm.1) (by rw [c2]; exact hrm.2) ?_
    exact lw_ret hx hb hr hlocks dl_1716
  · rw [nu_lt, e6, nI_toInt (by omega)] at z
    omega
theorem lw_loop (C : LC p l s m meth c b L xs adK adV D) : ∀ (N i : Nat) (w : cQ) (n : Nat × Nat) (M R : Nat → Nat → Int) (H : Heap) (locs : List Loc) (cells slots : Nat) (ls : Array Slot), L ≤ i + 6 * N → i ≤ 3072 → J w n M R → Two adK D s (hC w M n) q1 (hR R (22, 40282)) q2 H locs cells slots → lv_has ls 4 (lL b q1 q2 i) → W p l e room_1 s m #[Value.ref b] below meth c H locs cells slots (lw_Z below #[Value.ref b] s) (F0 m 18 ls []) := by
  intro N
  induction N with
  | zero =>
    intro i w n M R H locs cells slots ls hN hi h hW hl
    exact lw_head C h hW hl hi (fun z => absurd z (by omega))
  | succ N ih =>
    intro i w n M R H locs cells slots ls hN hi h hW hl
    refine lw_head C h hW hl hi (fun h6 => ?_)
    obtain ⟨hih, C0, hT0, hL⟩ := id C
    obtain ⟨hx, hb, hr, hml, hown, hts0, hX, hbl, hlocks, hgv⟩ := id C0
    have hbA : ¬ lA s b := Nat.not_le.mpr hbl
    refine lv_aload_n hx hb dl_27 rfl (lv_at hl 0 rfl) ?_
    refine lv_iload_n hx hb dl_28 rfl (lv_at hl 3 rfl) ?_
    refine va_sld hx hb hX hbl hbA hW.S (vp_in_nI (show i < L by omega) (by omega)) dl_29 ?_
    refine lv_bipush (v := 63) hx hb dl_30 rfl ?_
    refine lv_iand hx hb dl_32 ?_
    have k : lwK p l e s m below meth c b adK D (lw_Z below #[Value.ref b] s) q1 q2 ls := by
      intro w' n' M' R' H1 locs1 c1 s1 hJ hW1
      refine lv_iinc (v := nI (i + 6)) (lv' := [(3, .int (nI (i + 6))), (0, .ref b), (1, .ref q1), (2, .ref q2)]) hx hb dl_1709 hl (k := 3) rfl (by rw [← nI_add]; rfl) (by decide) rfl (fun ls hl => ?_)
      refine lv_goto (tgt := 18) hx hb dl_1712 (by decide) ?_
      exact ih (i + 6) w' n' M' R' H1 locs1 c1 s1 ls (by omega) (by omega) hJ hW1 (lv_sub hl [1, 2, 3, 0] rfl)
    generalize xs (nI i).toNatClampNeg &&& 63 = x
    by_cases hin : 0 ≤ x.toInt ∧ x.toInt < 48
    · obtain ⟨j, hj⟩ : ∃ j : Nat, x.toInt = (j : Int) := ⟨x.toInt.toNat, by omega⟩
      refine lv_tableIn (tgt := lTg.getD j 0) (off := ((lTg.getD j 0 : Nat) : Int) - 33) hx hb dl_33 (by omega) (by omega) ?_ (by omega) (lk_all C h h6 hW hl k j (by omega))
      rw [hj, show ((j : Int) - 0).toNat = j by omega]
      exact tg_ok j (by omega)
    · exact lv_tableOut (tgt := 1709) hx hb dl_33 (by omega) (by decide) (k _ _ _ _ _ _ _ _ h hW)
end LAW
