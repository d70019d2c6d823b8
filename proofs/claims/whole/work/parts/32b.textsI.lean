/-! ===== texts: the place of a sign; the rows of code that ask texts (printed in part by program) ===== -/
theorem ix_at (c : Int) : ∀ (l : List Int) (k : Nat) (j : Int), k < mLenT l → m_ix c (l.drop k) j = if mAtT l k = c then j else m_ix c (l.drop (k + 1)) (j + 1)
  | [], k, j, h => absurd h (Nat.not_lt_zero _)
  | b :: l, 0, j, _ => rfl
  | b :: l, k + 1, j, h => ix_at c l k j (Nat.lt_of_succ_lt_succ h)
theorem ix_end (c : Int) : ∀ (l : List Int) (k : Nat) (j : Int), mLenT l ≤ k → m_ix c (l.drop k) j = -1
  | [], k, j, _ => by rw [List.drop_nil]; rfl
  | b :: l, 0, j, h => absurd h (Nat.not_succ_le_zero _)
  | b :: l, k + 1, j, h => ix_end c l k j (Nat.le_of_succ_le_succ h)
theorem bq {b ch : Nat} (hb : b < 128) (hc : ch < 256) : nI b = (nI ch).toInt8.toInt32 ↔ b = ch := by
  rw [nu_eq, nu_i2b, nI_toInt (by omega), nI_toInt (by omega)]
  unfold m_i2b
  omega
theorem lenX_p : ∀ i, i < 3 → 0 < lenX.getD i 0 := by decide +kernel
section
variable {l : Launch} {adK adV : Nat → Nat}
theorem t_ixC {i ch : Nat} (hi : i < 3) (hc : ch < 256) : Met l yT_ixC (Cond.code yT_ixC prog_19_method_23_code 6 (some .int) :: Ws) (rmT 1) (tP (txs adK adV) [.ref (adV i), .int (nI ch), .int 0, .int (nI (lenX.getD i 0))]) (tQi (fun x => x.toInt = m_ix (ch : Int) (m_tx i) 0)) 0 0 (fun _ => False) := by
  refine Met.ofW (cc := prog_19_method_23_code) (maxL := 6) (ret := (some .int)) (by decide +kernel) rfl ?_
  intro p e s m args below meth c s₁ B hml hv
  obtain ⟨rfl, hT⟩ := hv
  have hx := B.exec
  have hb := B.bytes
  have hr := B.returns
  have hts0 := atoms_spec (ws := Cond.code yT_ixC prog_19_method_23_code 6 (some .int) :: Ws) B.pre
  have hts : ∀ w ∈ Ws, w.before [.ref (adV i), .int (nI ch), .int 0, .int (nI (lenX.getD i 0))].toArray s = true := fun w hw => hts0 w (List.mem_cons_of_mem _ hw)
  have hown : s.vm.findClass "java/lang/StringLatin1" = some m.cls := findClass_of_methodNamed B.named
  have hlocks := B.notSynchronized
  have hS : va_S (fun _ => False) s.heap s.heap [] := va_S.rf
  have hl := lv_entry ([.ref (adV i), .int (nI ch), .int 0, .int (nI (lenX.getD i 0))]) (n := 6) (Nat.le_of_ble_eq_true rfl)
  rw [lg_entry_eq]
  generalize (lg_sl ([.ref (adV i), .int (nI ch), .int 0, .int (nI (lenX.getD i 0))]) ++ List.replicate (6 - (lg_sl ([.ref (adV i), .int (nI ch), .int 0, .int (nI (lenX.getD i 0))])).length) Slot.unset).toArray = ls at hl ⊢
  have hl : lv_has ls 6 [(0, .ref (adV i)), (1, .int (nI ch)), (2, .int 0), (3, .int (nI (lenX.getD i 0)))] := hl
  have hL := lenX_b i hi
  have hM := (lenX_0 i hi).2
  refine lv_iload_n hx hb dT_ixC_0 rfl (lv_at hl 1 rfl) ?_
  refine lv_i2b (v := (nI ch).toInt8.toInt32) hx hb dT_ixC_1 rfl ?_
  refine lv_istore (lv' := [(4, .int (nI ch).toInt8.toInt32), (0, .ref (adV i)), (1, .int (nI ch)), (2, .int 0), (3, .int (nI (lenX.getD i 0)))]) hx hb dT_ixC_2 hl (by decide) rfl (fun ls hl => ?_)
  refine lv_iload_n hx hb dT_ixC_4 rfl (lv_at hl 3 rfl) ?_
  refine lv_istore (lv' := [(5, .int (nI 0)), (4, .int (nI ch).toInt8.toInt32), (0, .ref (adV i)), (1, .int (nI ch)), (2, .int 0), (3, .int (nI (lenX.getD i 0)))]) hx hb dT_ixC_5 hl (by decide) (by rw [nI_0]; rfl) (fun ls hl => ?_)
  have loop : ∀ (n k : Nat), k + n = lenX.getD i 0 → m_ix (ch : Int) ((m_tx i).drop k) (k : Int) = m_ix (ch : Int) (m_tx i) 0 → ∀ ls : Array Slot, lv_has ls 6 [(5, .int (nI k)), (4, .int (nI ch).toInt8.toInt32), (0, .ref (adV i)), (1, .int (nI ch)), (2, .int 0), (3, .int (nI (lenX.getD i 0)))] → W p l e (headSpec (Cond.code yT_ixC prog_19_method_23_code 6 (some .int) :: Ws) (rmT 1)).room s m [.ref (adV i), .int (nI ch), .int 0, .int (nI (lenX.getD i 0))].toArray below meth c s.heap [] 0 0 (MQ below (tQi (fun x => x.toInt = m_ix (ch : Int) (m_tx i) 0)) [.ref (adV i), .int (nI ch), .int 0, .int (nI (lenX.getD i 0))].toArray s 0 0 (fun _ => False)) (F0 m 7 ls []) := by
    intro n
    induction n with
    | zero =>
      intro k hk hx9 ls hl
      refine lv_iload hx hb dT_ixC_7 (lv_at hl 0 rfl) ?_
      refine lv_iload_n hx hb dT_ixC_9 rfl (lv_at hl 5 rfl) ?_
      refine lv_icmp_ge (tgt := 31) hx hb dT_ixC_10 (by decide) (fun _ => ?_) (fun z => absurd (nI_le (by omega) (by omega)) z)
      refine lv_iconst (v := -1) hx hb dT_ixC_31 (by decide) ?_
      exact W.iret hx hb hr (fun t ht _ => ⟨⟨_, (), rfl, by rw [← hx9, ix_end _ _ _ _ (by omega)]; rfl, trivial⟩, hS.F ht⟩) (fun q hq => hS.2.2 q hq) dT_ixC_32 hlocks
    | succ n ih =>
      intro k hk hx9 ls hl
      obtain ⟨b1, b2, b3, b4, b5, b6⟩ := bytX_ok i hi k (by omega) (by omega)
      refine lv_iload hx hb dT_ixC_7 (lv_at hl 0 rfl) ?_
      refine lv_iload_n hx hb dT_ixC_9 rfl (lv_at hl 5 rfl) ?_
      refine lv_icmp_ge (tgt := 31) hx hb dT_ixC_10 (by decide) (fun z => absurd z (nI_ge (by omega) (by omega))) (fun _ => ?_)
      refine lv_aload_n hx hb dT_ixC_13 rfl (lv_at hl 2 rfl) ?_
      refine lv_iload hx hb dT_ixC_14 (lv_at hl 0 rfl) ?_
      refine va_tb (i := nI k) (v := .int ((bytX.getD i []).getD k 0)) hx hb (hT.1.1 i hi).2.2.2 hS (vp_in_nI (by omega) (by omega)) (by rw [nI_clamp (by omega)]) dT_ixC_16 ?_
      refine lv_iload hx hb dT_ixC_17 (lv_at hl 1 rfl) ?_
      rw [ix_at _ _ _ _ (by omega)] at hx9
      rw [b4]
      refine lv_icmp_ne (tgt := 25) hx hb dT_ixC_19 (by decide) (fun z => ?_) (fun z => ?_)
      · have z : mAtT (m_tx i) k ≠ (ch : Int) := fun y => z ((bq (by omega) hc).mpr (by omega))
        rw [if_neg z] at hx9
        refine lv_iinc (v := nI (k + 1)) (lv' := [(5, .int (nI (k + 1))), (4, .int (nI ch).toInt8.toInt32), (0, .ref (adV i)), (1, .int (nI ch)), (2, .int 0), (3, .int (nI (lenX.getD i 0)))]) hx hb dT_ixC_25 hl (k := 0) rfl (by rw [nI_succ]; rfl) (by decide) rfl (fun ls hl => ?_)
        refine lv_goto (tgt := 7) hx hb dT_ixC_28 (by decide) ?_
        exact ih (k + 1) (by omega) (by rw [← hx9]; rfl) ls hl
      · have z := (bq (b := (mAtT (m_tx i) k).toNat) (by omega) hc).mp z
        rw [if_pos (by omega)] at hx9
        refine lv_iload hx hb dT_ixC_22 (lv_at hl 0 rfl) ?_
        exact W.iret hx hb hr (fun t ht _ => ⟨⟨_, (), rfl, by show (nI k).toInt = _; rw [← hx9, nI_toInt (by omega)], trivial⟩, hS.F ht⟩) (fun q hq => hS.2.2 q hq) dT_ixC_24 hlocks
  exact loop (lenX.getD i 0) 0 (by omega) rfl ls hl
theorem t_ixL {i ch : Nat} (hi : i < 3) (hc : ch < 256) : Met l yT_ixL (Cond.code yT_ixL prog_19_method_22_code 4 (some .int) :: Ws) (rmT 2) (tP (txs adK adV) [.ref (adV i), .int (nI ch), .int 0, .int (nI (lenX.getD i 0))]) (tQi (fun x => x.toInt = m_ix (ch : Int) (m_tx i) 0)) 0 0 (fun _ => False) := by
  refine Met.ofW (cc := prog_19_method_22_code) (maxL := 4) (ret := (some .int)) (by decide +kernel) rfl ?_
  intro p e s m args below meth c s₁ B hml hv
  obtain ⟨rfl, hT⟩ := hv
  have hx := B.exec
  have hb := B.bytes
  have hr := B.returns
  have hts0 := atoms_spec (ws := Cond.code yT_ixL prog_19_method_22_code 4 (some .int) :: Ws) B.pre
  have hts : ∀ w ∈ Ws, w.before [.ref (adV i), .int (nI ch), .int 0, .int (nI (lenX.getD i 0))].toArray s = true := fun w hw => hts0 w (List.mem_cons_of_mem _ hw)
  have hown : s.vm.findClass "java/lang/StringLatin1" = some m.cls := findClass_of_methodNamed B.named
  have hlocks := B.notSynchronized
  have hS : va_S (fun _ => False) s.heap s.heap [] := va_S.rf
  have hl := lv_entry ([.ref (adV i), .int (nI ch), .int 0, .int (nI (lenX.getD i 0))]) (n := 4) (Nat.le_of_ble_eq_true rfl)
  rw [lg_entry_eq]
  generalize (lg_sl ([.ref (adV i), .int (nI ch), .int 0, .int (nI (lenX.getD i 0))]) ++ List.replicate (4 - (lg_sl ([.ref (adV i), .int (nI ch), .int 0, .int (nI (lenX.getD i 0))])).length) Slot.unset).toArray = ls at hl ⊢
  have hl : lv_has ls 4 [(0, .ref (adV i)), (1, .int (nI ch)), (2, .int 0), (3, .int (nI (lenX.getD i 0)))] := hl
  have hL := lenX_b i hi
  have hL0 := lenX_p i hi
  refine lv_iload_n hx hb dT_ixL_0 rfl (lv_at hl 1 rfl) ?_
  refine va_calli (va_runS (As := [.int (nI ch)]) (rest := []) ⟨hx, hb, hml, hown, hts⟩ (t_canE (l := l) hc) ⟨callB_of 1 hts gT_canE rfl rfl rfl (hts _ wT_n2) (hts _ wT_l6) ⟨by decide +kernel, by decide +kernel, by decide +kernel⟩ ⟨Nat.le_of_ble_eq_true rfl, Nat.le_of_ble_eq_true rfl⟩, hts _ wT_t_canE⟩ ⟨tP_blind (txs_ok adK adV), tP_pre (txs_ok adK adV) hT hS⟩ rfl rfl hl.1 rfl (lv_room (Nat.le_of_ble_eq_true rfl)) dT_ixL_1 ⟨Nat.zero_le _, Nat.zero_le _⟩) hS (fun q _ h => h) (fun q h => h) (fun x u t H1 locs1 ht hvm hw hB hz1 hk1 hS => ?_)
  clear hB u ht hvm t hz1 hk1
  subst hw
  refine lv_if_ne (tgt := 9) hx hb dT_ixL_4 (by decide) (fun _ => ?_) (fun z => absurd z (by decide))
  refine lv_iload_n hx hb dT_ixL_9 rfl (lv_at hl 2 rfl) ?_
  refine lv_iconst (v := 0) hx hb dT_ixL_10 (by decide) ?_
  refine va_mmax hx hb (hml.trans hl.1.symm) hown (hts _ wT_lx) (hts _ lw_max.1) (hts _ lw_max.2.1) (hts _ lw_max.2.2) (Nat.le_of_ble_eq_true rfl) (Nat.le_of_ble_eq_true rfl) (Nat.zero_le _) (Nat.zero_le _) dT_ixL_11 ?_
  rw [show (if (0 : Int32) < 0 then (0 : Int32) else 0) = 0 from rfl]
  refine lv_istore_n (lv' := [(2, .int 0), (0, .ref (adV i)), (1, .int (nI ch)), (3, .int (nI (lenX.getD i 0)))]) hx hb dT_ixL_14 rfl hl (by decide) rfl (fun ls hl => ?_)
  refine lv_iload_n hx hb dT_ixL_15 rfl (lv_at hl 3 rfl) ?_
  refine lv_aload_n hx hb dT_ixL_16 rfl (lv_at hl 1 rfl) ?_
  refine va_tlen (v := nI (lenX.getD i 0)) hx hb (hT.1.1 i hi).2.2.2 hS rfl dT_ixL_17 ?_
  refine va_mmin hx hb (hml.trans hl.1.symm) hown (hts _ wT_ln) (hts _ lw_min.1) (hts _ lw_min.2.1) (hts _ lw_min.2.2) (Nat.le_of_ble_eq_true rfl) (Nat.le_of_ble_eq_true rfl) (Nat.zero_le _) (Nat.zero_le _) dT_ixL_18 ?_
  rw [show (if nI (lenX.getD i 0) < nI (lenX.getD i 0) then nI (lenX.getD i 0) else nI (lenX.getD i 0)) = nI (lenX.getD i 0) from by split <;> rfl]
  refine lv_istore_n (lv' := [(3, .int (nI (lenX.getD i 0))), (2, .int 0), (0, .ref (adV i)), (1, .int (nI ch))]) hx hb dT_ixL_21 rfl hl (by decide) rfl (fun ls hl => ?_)
  refine lv_iload_n hx hb dT_ixL_22 rfl (lv_at hl 1 rfl) ?_
  refine lv_iload_n hx hb dT_ixL_23 rfl (lv_at hl 0 rfl) ?_
  refine lv_icmp_lt (tgt := 29) hx hb dT_ixL_24 (by decide) (fun _ => ?_) (fun z => absurd (by rw [← nI_0]; exact nI_lt hL0 (by omega)) z)
  refine lv_aload_n hx hb dT_ixL_29 rfl (lv_at hl 2 rfl) ?_
  refine lv_iload_n hx hb dT_ixL_30 rfl (lv_at hl 3 rfl) ?_
  refine lv_iload_n hx hb dT_ixL_31 rfl (lv_at hl 1 rfl) ?_
  refine lv_iload_n hx hb dT_ixL_32 rfl (lv_at hl 0 rfl) ?_
  refine va_calli (va_runS (As := [.ref (adV i), .int (nI ch), .int 0, .int (nI (lenX.getD i 0))]) (rest := []) ⟨hx, hb, hml, hown, hts⟩ (t_ixC (l := l) hi hc) ⟨callB_of 4 hts gT_ixC rfl rfl rfl (hts _ wT_n2) (hts _ wT_l7) ⟨by decide +kernel, by decide +kernel, by decide +kernel⟩ ⟨Nat.le_of_ble_eq_true rfl, Nat.le_of_ble_eq_true rfl⟩, hts _ wT_t_ixC⟩ ⟨tP_blind (txs_ok adK adV), tP_pre (txs_ok adK adV) hT hS⟩ rfl rfl hl.1 rfl (lv_room (Nat.le_of_ble_eq_true rfl)) dT_ixL_33 ⟨Nat.zero_le _, Nat.zero_le _⟩) hS (fun q _ h => h) (fun q h => h) (fun x u t H1 locs1 ht hvm hw hB hz1 hk1 hS => ?_)
  clear hB u ht hvm t hz1 hk1
  exact W.iret hx hb hr (fun t ht _ => ⟨⟨_, (), rfl, hw, trivial⟩, hS.F ht⟩) (fun q hq => hS.2.2 q hq) dT_ixL_36 hlocks
theorem t_ix2 {i ch : Nat} (hi : i < 3) (hc : ch < 256) : Met l yT_ix2 (Cond.code yT_ix2 prog_18_method_80_code 3 (some .int) :: Ws) (rmT 3) (tP (txs adK adV) [.ref (adK i), .int (nI ch), .int 0]) (tQi (fun x => x.toInt = m_ix (ch : Int) (m_tx i) 0)) 0 0 (fun _ => False) := by
  refine Met.ofW (cc := prog_18_method_80_code) (maxL := 3) (ret := (some .int)) (by decide +kernel) rfl ?_
  intro p e s m args below meth c s₁ B hml hv
  obtain ⟨rfl, hT⟩ := hv
  have hx := B.exec
  have hb := B.bytes
  have hr := B.returns
  have hts0 := atoms_spec (ws := Cond.code yT_ix2 prog_18_method_80_code 3 (some .int) :: Ws) B.pre
  have hts : ∀ w ∈ Ws, w.before [.ref (adK i), .int (nI ch), .int 0].toArray s = true := fun w hw => hts0 w (List.mem_cons_of_mem _ hw)
  have hown : s.vm.findClass "java/lang/String" = some m.cls := findClass_of_methodNamed B.named
  have hlocks := B.notSynchronized
  have hS : va_S (fun _ => False) s.heap s.heap [] := va_S.rf
  have hl := lv_entry ([.ref (adK i), .int (nI ch), .int 0]) (n := 3) (Nat.le_of_ble_eq_true rfl)
  rw [lg_entry_eq]
  generalize (lg_sl ([.ref (adK i), .int (nI ch), .int 0]) ++ List.replicate (3 - (lg_sl ([.ref (adK i), .int (nI ch), .int 0])).length) Slot.unset).toArray = ls at hl ⊢
  have hl : lv_has ls 3 [(0, .ref (adK i)), (1, .int (nI ch)), (2, .int 0)] := hl
  refine lv_aload_n hx hb dT_ix2_0 rfl (lv_at hl 0 rfl) ?_
  refine va_calli (va_runV (C := "java/lang/String") (As := []) (rest := []) ⟨hx, hb, hml, hown, hts⟩ (t_isLat (l := l) hi) ⟨callB_of 0 hts gT_isLat rfl rfl rfl (hts _ wT_n1) (hts _ wT_l2) ⟨by decide +kernel, by decide +kernel, by decide +kernel⟩ ⟨Nat.le_of_ble_eq_true rfl, Nat.le_of_ble_eq_true rfl⟩, hts _ wT_i_isLat, hts _ wT_s_isLat⟩ ⟨tP_blind (txs_ok adK adV), vk_recv hT.1 hi hS, tP_pre (txs_ok adK adV) hT hS⟩ rfl rfl hl.1 rfl (lv_room (Nat.le_of_ble_eq_true rfl)) dT_ix2_1 ⟨Nat.zero_le _, Nat.zero_le _⟩) hS (fun q _ h => h) (fun q h => h) (fun x u t H1 locs1 ht hvm hw hB hz1 hk1 hS => ?_)
  clear hB u ht hvm t hz1 hk1
  subst hw
  refine lv_if_eq (tgt := 23) hx hb dT_ix2_4 (by decide) (fun z => absurd z (by decide)) (fun _ => ?_)
  refine lv_aload_n hx hb dT_ix2_7 rfl (lv_at hl 0 rfl) ?_
  refine vk_getf (v := .ref (adV i)) hx hb (hT.1.1 i hi).2.2.1 hS hown (hts _ wT_fv) (fun _ h => h) dT_ix2_8 ?_
  refine lv_iload_n hx hb dT_ix2_11 rfl (lv_at hl 1 rfl) ?_
  refine lv_iload_n hx hb dT_ix2_12 rfl (lv_at hl 2 rfl) ?_
  refine lv_aload_n hx hb dT_ix2_13 rfl (lv_at hl 0 rfl) ?_
  refine va_calli (va_runV (C := "java/lang/String") (As := []) (rest := [.int 0, .int (nI ch), .ref (adV i)]) ⟨hx, hb, hml, hown, hts⟩ (t_leng (l := l) hi) ⟨callB_of 0 hts gT_leng rfl rfl rfl (hts _ wT_n1) (hts _ wT_l9) ⟨by decide +kernel, by decide +kernel, by decide +kernel⟩ ⟨Nat.le_of_ble_eq_true rfl, Nat.le_of_ble_eq_true rfl⟩, hts _ wT_i_leng, hts _ wT_s_leng⟩ ⟨tP_blind (txs_ok adK adV), vk_recv hT.1 hi hS, tP_pre (txs_ok adK adV) hT hS⟩ rfl rfl hl.1 rfl (lv_room (Nat.le_of_ble_eq_true rfl)) dT_ix2_14 ⟨Nat.zero_le _, Nat.zero_le _⟩) hS (fun q _ h => h) (fun q h => h) (fun x u t H1 locs1 ht hvm hw hB hz1 hk1 hS => ?_)
  clear hB u ht hvm t hz1 hk1
  subst hw
  refine va_calli (va_runS (As := [.ref (adV i), .int (nI ch), .int 0, .int (nI (lenX.getD i 0))]) (rest := []) ⟨hx, hb, hml, hown, hts⟩ (t_ixL (l := l) hi hc) ⟨callB_of 4 hts gT_ixL rfl rfl rfl (hts _ wT_n2) (hts _ wT_l8) ⟨by decide +kernel, by decide +kernel, by decide +kernel⟩ ⟨Nat.le_of_ble_eq_true rfl, Nat.le_of_ble_eq_true rfl⟩, hts _ wT_t_ixL⟩ ⟨tP_blind (txs_ok adK adV), tP_pre (txs_ok adK adV) hT hS⟩ rfl rfl hl.1 rfl (lv_room (Nat.le_of_ble_eq_true rfl)) dT_ix2_17 ⟨Nat.zero_le _, Nat.zero_le _⟩) hS (fun q _ h => h) (fun q h => h) (fun x u t H1 locs1 ht hvm hw hB hz1 hk1 hS => ?_)
  clear hB u ht hvm t hz1 hk1
  refine lv_goto (tgt := 36) hx hb dT_ix2_20 (by decide) ?_
  exact W.iret hx hb hr (fun t ht _ => ⟨⟨_, (), rfl, hw, trivial⟩, hS.F ht⟩) (fun q hq => hS.2.2 q hq) dT_ix2_36 hlocks
theorem t_ix1 {i ch : Nat} (hi : i < 3) (hc : ch < 256) : Met l yT_ix1 (Cond.code yT_ix1 prog_18_method_79_code 2 (some .int) :: Ws) (rmT 4) (tP (txs adK adV) [.ref (adK i), .int (nI ch)]) (tQi (fun x => x.toInt = m_ix (ch : Int) (m_tx i) 0)) 0 0 (fun _ => False) := by
  refine Met.ofW (cc := prog_18_method_79_code) (maxL := 2) (ret := (some .int)) (by decide +kernel) rfl ?_
  intro p e s m args below meth c s₁ B hml hv
  obtain ⟨rfl, hT⟩ := hv
  have hx := B.exec
  have hb := B.bytes
  have hr := B.returns
  have hts0 := atoms_spec (ws := Cond.code yT_ix1 prog_18_method_79_code 2 (some .int) :: Ws) B.pre
  have hts : ∀ w ∈ Ws, w.before [.ref (adK i), .int (nI ch)].toArray s = true := fun w hw => hts0 w (List.mem_cons_of_mem _ hw)
  have hown : s.vm.findClass "java/lang/String" = some m.cls := findClass_of_methodNamed B.named
  have hlocks := B.notSynchronized
  have hS : va_S (fun _ => False) s.heap s.heap [] := va_S.rf
  have hl := lv_entry ([.ref (adK i), .int (nI ch)]) (n := 2) (Nat.le_of_ble_eq_true rfl)
  rw [lg_entry_eq]
  generalize (lg_sl ([.ref (adK i), .int (nI ch)]) ++ List.replicate (2 - (lg_sl ([.ref (adK i), .int (nI ch)])).length) Slot.unset).toArray = ls at hl ⊢
  have hl : lv_has ls 2 [(0, .ref (adK i)), (1, .int (nI ch))] := hl
  refine lv_aload_n hx hb dT_ix1_0 rfl (lv_at hl 0 rfl) ?_
  refine lv_iload_n hx hb dT_ix1_1 rfl (lv_at hl 1 rfl) ?_
  refine lv_iconst (v := 0) hx hb dT_ix1_2 (by decide) ?_
  refine va_calli (va_runV (C := "java/lang/String") (As := [.int (nI ch), .int 0]) (rest := []) ⟨hx, hb, hml, hown, hts⟩ (t_ix2 (l := l) hi hc) ⟨callB_of 2 hts gT_ix2 rfl rfl rfl (hts _ wT_n1) (hts _ wT_l10) ⟨by decide +kernel, by decide +kernel, by decide +kernel⟩ ⟨Nat.le_of_ble_eq_true rfl, Nat.le_of_ble_eq_true rfl⟩, hts _ wT_i_ix2, hts _ wT_s_ix2⟩ ⟨tP_blind (txs_ok adK adV), vk_recv hT.1 hi hS, tP_pre (txs_ok adK adV) hT hS⟩ rfl rfl hl.1 rfl (lv_room (Nat.le_of_ble_eq_true rfl)) dT_ix1_3 ⟨Nat.zero_le _, Nat.zero_le _⟩) hS (fun q _ h => h) (fun q h => h) (fun x u t H1 locs1 ht hvm hw hB hz1 hk1 hS => ?_)
  clear hB u ht hvm t hz1 hk1
  exact W.iret hx hb hr (fun t ht _ => ⟨⟨_, (), rfl, hw, trivial⟩, hS.F ht⟩) (fun q hq => hS.2.2 q hq) dT_ix1_6 hlocks
end
