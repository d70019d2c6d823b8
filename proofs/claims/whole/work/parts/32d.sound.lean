/-! ===== every run of the small machine is a contract ===== -/
section
variable {l : Launch} {adK adV : Nat → Nat} {D : va_G}
theorem tx_hTn : ∀ (A : Nat → Prop) (U : State) (H : Heap), txs adK adV A U H → ∀ w ∈ nstW, va_Nw w U := fun _ _ _ h => h.2.2.2.2.1
theorem tx_hTo : ∀ (A : Nat → Prop) (U : State) (H : Heap) (a : Nat), txs adK adV A U H → (a = 2 ∨ a = 7 ∨ a = 8) → va_AO (oN a) U := fun _ _ _ a h ha => h.2.2.2.2.2 a ha
theorem tx_hTt : ∀ (A : Nat → Prop) (U : State) (H : Heap) (o idx : Nat) (v : Int), txs adK adV A U H → (o, idx, v) ∈ tXk → ∃ z : Nat, v = (z : Int) ∧ ∀ {p : Program} {l : Launch} {e : Env} {R : Room} {m : MethodId} {args : Array Value} {below : List Frame} {meth : Method} {c : Code} {H : Heap} {locs : List Loc} {cells slots : Nat} {Q : State → Prop} {cc : ByteArray} {pc : Nat} {ls : Array Slot} {rest : List Value}, p.tables.exec = Jvm.exec → c.code = cc → U.vm.findClass (oN o) = some m.cls → decode cc pc = .ok (.ldc idx, 2) → W p l e R U m args below meth c H locs cells slots Q (F0 m (pc + 2) ls (.ref (txA adK z) :: rest)) → W p l e R U m args below meth c H locs cells slots Q (F0 m pc ls rest) := by
  intro A U H o idx v hT hk
  obtain ⟨r1, r2, r3, r4⟩ := hT.2.2.2.1
  unfold tXk at hk
  rcases List.mem_cons.mp hk with h | hk
  · cases h
    exact ⟨0, rfl, fun hx hb hown hd k => va_ldcS hx hb hown r1 hd k⟩
  rcases List.mem_cons.mp hk with h | hk
  · cases h
    exact ⟨1, rfl, fun hx hb hown hd k => va_ldcS hx hb hown r2 hd k⟩
  rcases List.mem_cons.mp hk with h | hk
  · cases h
    exact ⟨2, rfl, fun hx hb hown hd k => va_ldcS hx hb hown r3 hd k⟩
  rcases List.mem_cons.mp hk with h | hk
  · cases h
    exact ⟨0, rfl, fun hx hb hown hd k => va_ldcS hx hb hown r4 hd k⟩
  · exact absurd hk List.not_mem_nil
variable (l adK adV D) in
def qOK (k : Nat) : Prop := ∀ M : mM, gT k = some M → plainName (gG k).1.cls = true ∧ (gG k).2.1 = (gG k).1.cls ∧ ∀ (d : Nat), ∀ row ∈ M.1, ∀ en ∈ row, StepOK l gT (txA adK) (txs adK adV) D Ws (IHd l gT gG (txA adK) (txs adK adV) D Ws) d (gG k).2.1 (gG k).1.name (gG k).2.2.1 M.2 (gG k).2.2.2.1 (gG k).2.2.2.2 en
theorem qOK_of {k o nL kr : Nat} {nm : String} {cc : ByteArray} {ret : Option FieldType} {y : MethodName} {t : List (List mE)} (ht : gT k = some (t, nL)) (hg : gG k = (y, oN o, cc, ret, kr)) (hp : plainName y.cls = true ∧ oN o = y.cls ∧ y.name = nm) (hd : ∀ row ∈ t, ∀ en ∈ row, decode cc en.1 = .ok (en.2.1, en.2.2.1)) (hb : ∀ row ∈ t, ∀ en ∈ row, okB o nm ret kr en = true) : qOK l adK adV D k := by
  intro M hM
  obtain rfl : (t, nL) = M := Option.some.inj (ht.symm.trans hM)
  rw [hg]
  obtain ⟨h1, h2, h3⟩ := hp
  refine ⟨h1, h2, fun d row hr en he => ?_⟩
  show StepOK l gT (txA adK) (txs adK adV) D Ws (IHd l gT gG (txA adK) (txs adK adV) D Ws) d (oN o) y.name cc nL ret kr en
  rw [h3]
  exact step_ok (txs_ok adK adV) tx_hTn tx_hTo tx_hTt hgT tx_step (hb row hr en he) (hd row hr en he)
theorem qOK_none {k : Nat} (h : gT k = none) : qOK l adK adV D k := by
  intro M hM
  rw [h] at hM
  cases hM
theorem q_0 : qOK l adK adV D 0 := qOK_of (o := 0) (y := yX0_init) (t := t0_init) rfl rfl ⟨by decide +kernel, by decide +kernel, rfl⟩ t0_init_d t0_init_b
theorem q_1 : qOK l adK adV D 1 := qOK_of (o := 0) (y := yX0_learn) (t := t0_learn) rfl rfl ⟨by decide +kernel, by decide +kernel, rfl⟩ t0_learn_d t0_learn_b
theorem q_2 : qOK l adK adV D 2 := qOK_of (o := 0) (y := yX0_turnsNeeded) (t := t0_turnsNeeded) rfl rfl ⟨by decide +kernel, by decide +kernel, rfl⟩ t0_turnsNeeded_d t0_turnsNeeded_b
theorem q_3 : qOK l adK adV D 3 := qOK_of (o := 0) (y := yX0_widen) (t := t0_widen) rfl rfl ⟨by decide +kernel, by decide +kernel, rfl⟩ t0_widen_d t0_widen_b
theorem q_4 : qOK l adK adV D 4 := qOK_of (o := 0) (y := yX0_leadsInto) (t := t0_leadsInto) rfl rfl ⟨by decide +kernel, by decide +kernel, rfl⟩ t0_leadsInto_d t0_leadsInto_b
theorem q_5 : qOK l adK adV D 5 := qOK_of (o := 0) (y := yX0_firstBest) (t := t0_firstBest) rfl rfl ⟨by decide +kernel, by decide +kernel, rfl⟩ t0_firstBest_d t0_firstBest_b
theorem q_6 : qOK l adK adV D 6 := qOK_of (o := 1) (y := yX1_init) (t := t1_init) rfl rfl ⟨by decide +kernel, by decide +kernel, rfl⟩ t1_init_d t1_init_b
theorem q_7 : qOK l adK adV D 7 := qOK_of (o := 1) (y := yX1_begin) (t := t1_begin) rfl rfl ⟨by decide +kernel, by decide +kernel, rfl⟩ t1_begin_d t1_begin_b
theorem q_8 : qOK l adK adV D 8 := qOK_of (o := 1) (y := yX1_beginUnit) (t := t1_beginUnit) rfl rfl ⟨by decide +kernel, by decide +kernel, rfl⟩ t1_beginUnit_d t1_beginUnit_b
theorem q_9 : qOK l adK adV D 9 := qOK_of (o := 1) (y := yX1_take) (t := t1_take) rfl rfl ⟨by decide +kernel, by decide +kernel, rfl⟩ t1_take_d t1_take_b
theorem q_10 : qOK l adK adV D 10 := qOK_of (o := 1) (y := yX1_opens) (t := t1_opens) rfl rfl ⟨by decide +kernel, by decide +kernel, rfl⟩ t1_opens_d t1_opens_b
theorem q_11 : qOK l adK adV D 11 := qOK_of (o := 1) (y := yX1_takeOpening) (t := t1_takeOpening) rfl rfl ⟨by decide +kernel, by decide +kernel, rfl⟩ t1_takeOpening_d t1_takeOpening_b
theorem q_12 : qOK l adK adV D 12 := qOK_of (o := 1) (y := yX1_takeAtom) (t := t1_takeAtom) rfl rfl ⟨by decide +kernel, by decide +kernel, rfl⟩ t1_takeAtom_d t1_takeAtom_b
theorem q_13 : qOK l adK adV D 13 := qOK_of (o := 1) (y := yX1_nameOf) (t := t1_nameOf) rfl rfl ⟨by decide +kernel, by decide +kernel, rfl⟩ t1_nameOf_d t1_nameOf_b
theorem q_14 : qOK l adK adV D 14 := qOK_of (o := 1) (y := yX1_fitsBehind) (t := t1_fitsBehind) rfl rfl ⟨by decide +kernel, by decide +kernel, rfl⟩ t1_fitsBehind_d t1_fitsBehind_b
theorem q_15 : qOK l adK adV D 15 := qOK_of (o := 1) (y := yX1_takeBehind) (t := t1_takeBehind) rfl rfl ⟨by decide +kernel, by decide +kernel, rfl⟩ t1_takeBehind_d t1_takeBehind_b
theorem q_16 : qOK l adK adV D 16 := qOK_of (o := 1) (y := yX1_finish) (t := t1_finish) rfl rfl ⟨by decide +kernel, by decide +kernel, rfl⟩ t1_finish_d t1_finish_b
theorem q_17 : qOK l adK adV D 17 := qOK_of (o := 1) (y := yX1_push) (t := t1_push) rfl rfl ⟨by decide +kernel, by decide +kernel, rfl⟩ t1_push_d t1_push_b
theorem q_18 : qOK l adK adV D 18 := qOK_of (o := 1) (y := yX1_popDownTo) (t := t1_popDownTo) rfl rfl ⟨by decide +kernel, by decide +kernel, rfl⟩ t1_popDownTo_d t1_popDownTo_b
theorem q_19 : qOK l adK adV D 19 := qOK_of (o := 1) (y := yX1_rank) (t := t1_rank) rfl rfl ⟨by decide +kernel, by decide +kernel, rfl⟩ t1_rank_d t1_rank_b
theorem q_20 : qOK l adK adV D 20 := qOK_of (o := 2) (y := yX2_init) (t := t2_init) rfl rfl ⟨by decide +kernel, by decide +kernel, rfl⟩ t2_init_d t2_init_b
theorem q_21 : qOK l adK adV D 21 := qOK_of (o := 2) (y := yX2_empty) (t := t2_empty) rfl rfl ⟨by decide +kernel, by decide +kernel, rfl⟩ t2_empty_d t2_empty_b
theorem q_22 : qOK l adK adV D 22 := qOK_of (o := 2) (y := yX2_copyFrom) (t := t2_copyFrom) rfl rfl ⟨by decide +kernel, by decide +kernel, rfl⟩ t2_copyFrom_d t2_copyFrom_b
theorem q_23 : qOK l adK adV D 23 := qOK_of (o := 2) (y := yX2_addCode) (t := t2_addCode) rfl rfl ⟨by decide +kernel, by decide +kernel, rfl⟩ t2_addCode_d t2_addCode_b
theorem q_24 : qOK l adK adV D 24 := qOK_of (o := 2) (y := yX2_bitsFrom) (t := t2_bitsFrom) rfl rfl ⟨by decide +kernel, by decide +kernel, rfl⟩ t2_bitsFrom_d t2_bitsFrom_b
theorem q_25 : qOK l adK adV D 25 := qOK_of (o := 3) (y := yX3_init) (t := t3_init) rfl rfl ⟨by decide +kernel, by decide +kernel, rfl⟩ t3_init_d t3_init_b
theorem q_26 : qOK l adK adV D 26 := qOK_of (o := 3) (y := yX3_keep) (t := t3_keep) rfl rfl ⟨by decide +kernel, by decide +kernel, rfl⟩ t3_keep_d t3_keep_b
theorem q_27 : qOK l adK adV D 27 := qOK_of (o := 3) (y := yX3_forgetEldest) (t := t3_forgetEldest) rfl rfl ⟨by decide +kernel, by decide +kernel, rfl⟩ t3_forgetEldest_d t3_forgetEldest_b
theorem q_28 : qOK l adK adV D 28 := qOK_of (o := 3) (y := yX3_bringBack) (t := t3_bringBack) rfl rfl ⟨by decide +kernel, by decide +kernel, rfl⟩ t3_bringBack_d t3_bringBack_b
theorem q_29 : qOK l adK adV D 29 := qOK_of (o := 3) (y := yX3_forget) (t := t3_forget) rfl rfl ⟨by decide +kernel, by decide +kernel, rfl⟩ t3_forget_d t3_forget_b
theorem q_30 : qOK l adK adV D 30 := qOK_of (o := 4) (y := yX4_init) (t := t4_init) rfl rfl ⟨by decide +kernel, by decide +kernel, rfl⟩ t4_init_d t4_init_b
theorem q_31 : qOK l adK adV D 31 := qOK_of (o := 4) (y := yX4_readText) (t := t4_readText) rfl rfl ⟨by decide +kernel, by decide +kernel, rfl⟩ t4_readText_d t4_readText_b
theorem q_32 : qOK l adK adV D 32 := qOK_of (o := 4) (y := yX4_readFarms) (t := t4_readFarms) rfl rfl ⟨by decide +kernel, by decide +kernel, rfl⟩ t4_readFarms_d t4_readFarms_b
theorem q_33 : qOK l adK adV D 33 := qOK_of (o := 4) (y := yX4_readLine) (t := t4_readLine) rfl rfl ⟨by decide +kernel, by decide +kernel, rfl⟩ t4_readLine_d t4_readLine_b
theorem q_34 : qOK l adK adV D 34 := qOK_of (o := 4) (y := yX4_endLine) (t := t4_endLine) rfl rfl ⟨by decide +kernel, by decide +kernel, rfl⟩ t4_endLine_d t4_endLine_b
theorem q_35 : qOK l adK adV D 35 := qOK_of (o := 4) (y := yX4_readBit) (t := t4_readBit) rfl rfl ⟨by decide +kernel, by decide +kernel, rfl⟩ t4_readBit_d t4_readBit_b
theorem q_36 : qOK l adK adV D 36 := qOK_of (o := 4) (y := yX4_readFarm) (t := t4_readFarm) rfl rfl ⟨by decide +kernel, by decide +kernel, rfl⟩ t4_readFarm_d t4_readFarm_b
theorem q_37 : qOK l adK adV D 37 := qOK_of (o := 4) (y := yX4_readCut) (t := t4_readCut) rfl rfl ⟨by decide +kernel, by decide +kernel, rfl⟩ t4_readCut_d t4_readCut_b
theorem q_38 : qOK l adK adV D 38 := qOK_of (o := 4) (y := yX4_readSnow) (t := t4_readSnow) rfl rfl ⟨by decide +kernel, by decide +kernel, rfl⟩ t4_readSnow_d t4_readSnow_b
theorem q_39 : qOK l adK adV D 39 := qOK_of (o := 4) (y := yX4_readNow) (t := t4_readNow) rfl rfl ⟨by decide +kernel, by decide +kernel, rfl⟩ t4_readNow_d t4_readNow_b
theorem q_40 : qOK l adK adV D 40 := qOK_of (o := 4) (y := yX4_readLaw) (t := t4_readLaw) rfl rfl ⟨by decide +kernel, by decide +kernel, rfl⟩ t4_readLaw_d t4_readLaw_b
theorem q_41 : qOK l adK adV D 41 := qOK_of (o := 4) (y := yX4_expect) (t := t4_expect) rfl rfl ⟨by decide +kernel, by decide +kernel, rfl⟩ t4_expect_d t4_expect_b
theorem q_42 : qOK l adK adV D 42 := qOK_of (o := 4) (y := yX4_number) (t := t4_number) rfl rfl ⟨by decide +kernel, by decide +kernel, rfl⟩ t4_number_d t4_number_b
theorem q_43 : qOK l adK adV D 43 := qOK_of (o := 4) (y := yX4_fail) (t := t4_fail) rfl rfl ⟨by decide +kernel, by decide +kernel, rfl⟩ t4_fail_d t4_fail_b
theorem q_44 : qOK l adK adV D 44 := qOK_of (o := 4) (y := yX4_advance) (t := t4_advance) rfl rfl ⟨by decide +kernel, by decide +kernel, rfl⟩ t4_advance_d t4_advance_b
theorem q_45 : qOK l adK adV D 45 := qOK_of (o := 4) (y := yX4_takeWord) (t := t4_takeWord) rfl rfl ⟨by decide +kernel, by decide +kernel, rfl⟩ t4_takeWord_d t4_takeWord_b
theorem q_46 : qOK l adK adV D 46 := qOK_of (o := 4) (y := yX4_takeNumber) (t := t4_takeNumber) rfl rfl ⟨by decide +kernel, by decide +kernel, rfl⟩ t4_takeNumber_d t4_takeNumber_b
theorem q_47 : qOK l adK adV D 47 := qOK_of (o := 4) (y := yX4_isSmall) (t := t4_isSmall) rfl rfl ⟨by decide +kernel, by decide +kernel, rfl⟩ t4_isSmall_d t4_isSmall_b
theorem q_48 : qOK l adK adV D 48 := qOK_of (o := 4) (y := yX4_isDigit) (t := t4_isDigit) rfl rfl ⟨by decide +kernel, by decide +kernel, rfl⟩ t4_isDigit_d t4_isDigit_b
theorem q_49 : qOK l adK adV D 49 := qOK_of (o := 5) (y := yX5_init) (t := t5_init) rfl rfl ⟨by decide +kernel, by decide +kernel, rfl⟩ t5_init_d t5_init_b
theorem q_50 : qOK l adK adV D 50 := qOK_of (o := 5) (y := yX5_take) (t := t5_take) rfl rfl ⟨by decide +kernel, by decide +kernel, rfl⟩ t5_take_d t5_take_b
theorem q_51 : qOK l adK adV D 51 := qOK_of (o := 5) (y := yX5_hasPlace) (t := t5_hasPlace) rfl rfl ⟨by decide +kernel, by decide +kernel, rfl⟩ t5_hasPlace_d t5_hasPlace_b
theorem q_52 : qOK l adK adV D 52 := qOK_of (o := 5) (y := yX5_fits) (t := t5_fits) rfl rfl ⟨by decide +kernel, by decide +kernel, rfl⟩ t5_fits_d t5_fits_b
theorem q_53 : qOK l adK adV D 53 := qOK_of (o := 5) (y := yX5_howManySeen) (t := t5_howManySeen) rfl rfl ⟨by decide +kernel, by decide +kernel, rfl⟩ t5_howManySeen_d t5_howManySeen_b
theorem q_54 : qOK l adK adV D 54 := qOK_of (o := 5) (y := yX5_swap) (t := t5_swap) rfl rfl ⟨by decide +kernel, by decide +kernel, rfl⟩ t5_swap_d t5_swap_b
theorem q_55 : qOK l adK adV D 55 := qOK_of (o := 5) (y := yX5_sum) (t := t5_sum) rfl rfl ⟨by decide +kernel, by decide +kernel, rfl⟩ t5_sum_d t5_sum_b
theorem q_56 : qOK l adK adV D 56 := qOK_of (o := 5) (y := yX5_bitsAt) (t := t5_bitsAt) rfl rfl ⟨by decide +kernel, by decide +kernel, rfl⟩ t5_bitsAt_d t5_bitsAt_b
theorem q_57 : qOK l adK adV D 57 := qOK_of (o := 5) (y := yX5_momentsThatGoOn) (t := t5_momentsThatGoOn) rfl rfl ⟨by decide +kernel, by decide +kernel, rfl⟩ t5_momentsThatGoOn_d t5_momentsThatGoOn_b
theorem q_58 : qOK l adK adV D 58 := qOK_of (o := 5) (y := yX5_howManyTold) (t := t5_howManyTold) rfl rfl ⟨by decide +kernel, by decide +kernel, rfl⟩ t5_howManyTold_d t5_howManyTold_b
theorem q_59 : qOK l adK adV D 59 := qOK_of (o := 5) (y := yX5_farmsAt) (t := t5_farmsAt) rfl rfl ⟨by decide +kernel, by decide +kernel, rfl⟩ t5_farmsAt_d t5_farmsAt_b
theorem q_60 : qOK l adK adV D 60 := qOK_of (o := 5) (y := yX5_notTwice) (t := t5_notTwice) rfl rfl ⟨by decide +kernel, by decide +kernel, rfl⟩ t5_notTwice_d t5_notTwice_b
theorem q_61 : qOK l adK adV D 61 := qOK_of (o := 6) (y := yX6_init) (t := t6_init) rfl rfl ⟨by decide +kernel, by decide +kernel, rfl⟩ t6_init_d t6_init_b
theorem q_62 : qOK l adK adV D 62 := qOK_of (o := 6) (y := yX6_begin) (t := t6_begin) rfl rfl ⟨by decide +kernel, by decide +kernel, rfl⟩ t6_begin_d t6_begin_b
theorem q_63 : qOK l adK adV D 63 := qOK_of (o := 6) (y := yX6_size) (t := t6_size) rfl rfl ⟨by decide +kernel, by decide +kernel, rfl⟩ t6_size_d t6_size_b
theorem q_64 : qOK l adK adV D 64 := qOK_of (o := 6) (y := yX6_nextPlace) (t := t6_nextPlace) rfl rfl ⟨by decide +kernel, by decide +kernel, rfl⟩ t6_nextPlace_d t6_nextPlace_b
theorem q_65 : qOK l adK adV D 65 := qOK_of (o := 6) (y := yX6_isReached) (t := t6_isReached) rfl rfl ⟨by decide +kernel, by decide +kernel, rfl⟩ t6_isReached_d t6_isReached_b
theorem q_66 : qOK l adK adV D 66 := qOK_of (o := 6) (y := yX6_offer) (t := t6_offer) rfl rfl ⟨by decide +kernel, by decide +kernel, rfl⟩ t6_offer_d t6_offer_b
theorem q_67 : qOK l adK adV D 67 := qOK_of (o := 6) (y := yX6_steps) (t := t6_steps) rfl rfl ⟨by decide +kernel, by decide +kernel, rfl⟩ t6_steps_d t6_steps_b
theorem q_68 : qOK l adK adV D 68 := qOK_of (o := 6) (y := yX6_labelAt) (t := t6_labelAt) rfl rfl ⟨by decide +kernel, by decide +kernel, rfl⟩ t6_labelAt_d t6_labelAt_b
theorem q_69 : qOK l adK adV D 69 := qOK_of (o := 7) (y := yX7_init) (t := t7_init) rfl rfl ⟨by decide +kernel, by decide +kernel, rfl⟩ t7_init_d t7_init_b
theorem q_70 : qOK l adK adV D 70 := qOK_of (o := 7) (y := yX7_begin) (t := t7_begin) rfl rfl ⟨by decide +kernel, by decide +kernel, rfl⟩ t7_begin_d t7_begin_b
theorem q_71 : qOK l adK adV D 71 := qOK_of (o := 7) (y := yX7_copyFrom) (t := t7_copyFrom) rfl rfl ⟨by decide +kernel, by decide +kernel, rfl⟩ t7_copyFrom_d t7_copyFrom_b
theorem q_72 : qOK l adK adV D 72 := qOK_of (o := 8) (y := yX8_init) (t := t8_init) rfl rfl ⟨by decide +kernel, by decide +kernel, rfl⟩ t8_init_d t8_init_b
theorem q_73 : qOK l adK adV D 73 := qOK_of (o := 8) (y := yX8_isMissing) (t := t8_isMissing) rfl rfl ⟨by decide +kernel, by decide +kernel, rfl⟩ t8_isMissing_d t8_isMissing_b
theorem q_74 : qOK l adK adV D 74 := qOK_of (o := 8) (y := yX8_lay) (t := t8_lay) rfl rfl ⟨by decide +kernel, by decide +kernel, rfl⟩ t8_lay_d t8_lay_b
theorem q_75 : qOK l adK adV D 75 := qOK_of (o := 8) (y := yX8_at) (t := t8_at) rfl rfl ⟨by decide +kernel, by decide +kernel, rfl⟩ t8_at_d t8_at_b
theorem q_76 : qOK l adK adV D 76 := qOK_of (o := 8) (y := yX8_put) (t := t8_put) rfl rfl ⟨by decide +kernel, by decide +kernel, rfl⟩ t8_put_d t8_put_b
theorem q_77 : qOK l adK adV D 77 := qOK_of (o := 8) (y := yX8_trim) (t := t8_trim) rfl rfl ⟨by decide +kernel, by decide +kernel, rfl⟩ t8_trim_d t8_trim_b
theorem q_78 : qOK l adK adV D 78 := qOK_of (o := 9) (y := yX9_init) (t := t9_init) rfl rfl ⟨by decide +kernel, by decide +kernel, rfl⟩ t9_init_d t9_init_b
theorem q_79 : qOK l adK adV D 79 := qOK_of (o := 9) (y := yX9_reached) (t := t9_reached) rfl rfl ⟨by decide +kernel, by decide +kernel, rfl⟩ t9_reached_d t9_reached_b
theorem q_80 : qOK l adK adV D 80 := qOK_of (o := 9) (y := yX9_howMany) (t := t9_howMany) rfl rfl ⟨by decide +kernel, by decide +kernel, rfl⟩ t9_howMany_d t9_howMany_b
theorem q_81 : qOK l adK adV D 81 := qOK_of (o := 9) (y := yX9_find) (t := t9_find) rfl rfl ⟨by decide +kernel, by decide +kernel, rfl⟩ t9_find_d t9_find_b
theorem q_82 : qOK l adK adV D 82 := qOK_of (o := 9) (y := yX9_markBits) (t := t9_markBits) rfl rfl ⟨by decide +kernel, by decide +kernel, rfl⟩ t9_markBits_d t9_markBits_b
theorem q_83 : qOK l adK adV D 83 := qOK_of (o := 9) (y := yX9_sortBits) (t := t9_sortBits) rfl rfl ⟨by decide +kernel, by decide +kernel, rfl⟩ t9_sortBits_d t9_sortBits_b
theorem q_84 : qOK l adK adV D 84 := qOK_of (o := 9) (y := yX9_spread) (t := t9_spread) rfl rfl ⟨by decide +kernel, by decide +kernel, rfl⟩ t9_spread_d t9_spread_b
theorem q_85 : qOK l adK adV D 85 := qOK_of (o := 9) (y := yX9_findJoining) (t := t9_findJoining) rfl rfl ⟨by decide +kernel, by decide +kernel, rfl⟩ t9_findJoining_d t9_findJoining_b
theorem q_86 : qOK l adK adV D 86 := qOK_of (o := 9) (y := yX9_spreadLow) (t := t9_spreadLow) rfl rfl ⟨by decide +kernel, by decide +kernel, rfl⟩ t9_spreadLow_d t9_spreadLow_b
theorem q_87 : qOK l adK adV D 87 := qOK_of (o := 9) (y := yX9_spreadHigh) (t := t9_spreadHigh) rfl rfl ⟨by decide +kernel, by decide +kernel, rfl⟩ t9_spreadHigh_d t9_spreadHigh_b
theorem q_88 : qOK l adK adV D 88 := qOK_of (o := 9) (y := yX9_offerPair) (t := t9_offerPair) rfl rfl ⟨by decide +kernel, by decide +kernel, rfl⟩ t9_offerPair_d t9_offerPair_b
theorem q_89 : qOK l adK adV D 89 := qOK_of (o := 9) (y := yX9_markAtOne) (t := t9_markAtOne) rfl rfl ⟨by decide +kernel, by decide +kernel, rfl⟩ t9_markAtOne_d t9_markAtOne_b
theorem q_90 : qOK l adK adV D 90 := qOK_of (o := 10) (y := yX10_init) (t := t10_init) rfl rfl ⟨by decide +kernel, by decide +kernel, rfl⟩ t10_init_d t10_init_b
theorem q_91 : qOK l adK adV D 91 := qOK_of (o := 10) (y := yX10_isFarm) (t := t10_isFarm) rfl rfl ⟨by decide +kernel, by decide +kernel, rfl⟩ t10_isFarm_d t10_isFarm_b
theorem q_92 : qOK l adK adV D 92 := qOK_of (o := 10) (y := yX10_isMoment) (t := t10_isMoment) rfl rfl ⟨by decide +kernel, by decide +kernel, rfl⟩ t10_isMoment_d t10_isMoment_b
theorem q_93 : qOK l adK adV D 93 := qOK_of (o := 10) (y := yX10_isBit) (t := t10_isBit) rfl rfl ⟨by decide +kernel, by decide +kernel, rfl⟩ t10_isBit_d t10_isBit_b
theorem q_94 : qOK l adK adV D 94 := qOK_of (o := 10) (y := yX10_isWire) (t := t10_isWire) rfl rfl ⟨by decide +kernel, by decide +kernel, rfl⟩ t10_isWire_d t10_isWire_b
theorem q_95 : qOK l adK adV D 95 := qOK_of (o := 10) (y := yX10_allows) (t := t10_allows) rfl rfl ⟨by decide +kernel, by decide +kernel, rfl⟩ t10_allows_d t10_allows_b
theorem q_96 : qOK l adK adV D 96 := qOK_of (o := 10) (y := yX10_allowedBits) (t := t10_allowedBits) rfl rfl ⟨by decide +kernel, by decide +kernel, rfl⟩ t10_allowedBits_d t10_allowedBits_b
theorem q_97 : qOK l adK adV D 97 := qOK_of (o := 10) (y := yX10_allowedFarms) (t := t10_allowedFarms) rfl rfl ⟨by decide +kernel, by decide +kernel, rfl⟩ t10_allowedFarms_d t10_allowedFarms_b
theorem q_98 : qOK l adK adV D 98 := qOK_of (o := 10) (y := yX10_tellableBits) (t := t10_tellableBits) rfl rfl ⟨by decide +kernel, by decide +kernel, rfl⟩ t10_tellableBits_d t10_tellableBits_b
theorem q_99 : qOK l adK adV D 99 := qOK_of (o := 10) (y := yX10_hearsFrom) (t := t10_hearsFrom) rfl rfl ⟨by decide +kernel, by decide +kernel, rfl⟩ t10_hearsFrom_d t10_hearsFrom_b
theorem q_100 : qOK l adK adV D 100 := qOK_of (o := 10) (y := yX10_heardFarms) (t := t10_heardFarms) rfl rfl ⟨by decide +kernel, by decide +kernel, rfl⟩ t10_heardFarms_d t10_heardFarms_b
theorem q_101 : qOK l adK adV D 101 := qOK_of (o := 10) (y := yX10_hearers) (t := t10_hearers) rfl rfl ⟨by decide +kernel, by decide +kernel, rfl⟩ t10_hearers_d t10_hearers_b
theorem q_102 : qOK l adK adV D 102 := qOK_of (o := 10) (y := yX10_liking) (t := t10_liking) rfl rfl ⟨by decide +kernel, by decide +kernel, rfl⟩ t10_liking_d t10_liking_b
theorem q_103 : qOK l adK adV D 103 := qOK_of (o := 10) (y := yX10_lawValue) (t := t10_lawValue) rfl rfl ⟨by decide +kernel, by decide +kernel, rfl⟩ t10_lawValue_d t10_lawValue_b
theorem q_104 : qOK l adK adV D 104 := qOK_of (o := 10) (y := yX10_joined) (t := t10_joined) rfl rfl ⟨by decide +kernel, by decide +kernel, rfl⟩ t10_joined_d t10_joined_b
theorem q_105 : qOK l adK adV D 105 := qOK_of (o := 10) (y := yX10_whyNotTell) (t := t10_whyNotTell) rfl rfl ⟨by decide +kernel, by decide +kernel, rfl⟩ t10_whyNotTell_d t10_whyNotTell_b
theorem q_106 : qOK l adK adV D 106 := qOK_of (o := 10) (y := yX10_whyNot) (t := t10_whyNot) rfl rfl ⟨by decide +kernel, by decide +kernel, rfl⟩ t10_whyNot_d t10_whyNot_b
theorem q_107 : qOK l adK adV D 107 := qOK_of (o := 10) (y := yX10_attempt) (t := t10_attempt) rfl rfl ⟨by decide +kernel, by decide +kernel, rfl⟩ t10_attempt_d t10_attempt_b
theorem q_108 : qOK l adK adV D 108 := qOK_of (o := 10) (y := yX10_nextFarm) (t := t10_nextFarm) rfl rfl ⟨by decide +kernel, by decide +kernel, rfl⟩ t10_nextFarm_d t10_nextFarm_b
theorem q_109 : qOK l adK adV D 109 := qOK_of (o := 10) (y := yX10_firstBit) (t := t10_firstBit) rfl rfl ⟨by decide +kernel, by decide +kernel, rfl⟩ t10_firstBit_d t10_firstBit_b
theorem q_110 : qOK l adK adV D 110 := qOK_of (o := 10) (y := yX10_say) (t := t10_say) rfl rfl ⟨by decide +kernel, by decide +kernel, rfl⟩ t10_say_d t10_say_b
theorem q_111 : qOK l adK adV D 111 := qOK_of (o := 10) (y := yX10_doAll) (t := t10_doAll) rfl rfl ⟨by decide +kernel, by decide +kernel, rfl⟩ t10_doAll_d t10_doAll_b
theorem q_112 : qOK l adK adV D 112 := qOK_of (o := 10) (y := yX10_haveWinter) (t := t10_haveWinter) rfl rfl ⟨by decide +kernel, by decide +kernel, rfl⟩ t10_haveWinter_d t10_haveWinter_b
theorem q_113 : qOK l adK adV D 113 := qOK_of (o := 10) (y := yX10_drawnDeed) (t := t10_drawnDeed) rfl rfl ⟨by decide +kernel, by decide +kernel, rfl⟩ t10_drawnDeed_d t10_drawnDeed_b
theorem q_114 : qOK l adK adV D 114 := qOK_of (o := 10) (y := yX10_drawBelow) (t := t10_drawBelow) rfl rfl ⟨by decide +kernel, by decide +kernel, rfl⟩ t10_drawBelow_d t10_drawBelow_b
theorem q_115 : qOK l adK adV D 115 := qOK_of (o := 10) (y := yX10_unlikeMoments) (t := t10_unlikeMoments) rfl rfl ⟨by decide +kernel, by decide +kernel, rfl⟩ t10_unlikeMoments_d t10_unlikeMoments_b
theorem q_116 : qOK l adK adV D 116 := qOK_of (o := 10) (y := yX10_allDoubts) (t := t10_allDoubts) rfl rfl ⟨by decide +kernel, by decide +kernel, rfl⟩ t10_allDoubts_d t10_allDoubts_b
theorem q_117 : qOK l adK adV D 117 := qOK_of (o := 10) (y := yX10_wholeAbove) (t := t10_wholeAbove) rfl rfl ⟨by decide +kernel, by decide +kernel, rfl⟩ t10_wholeAbove_d t10_wholeAbove_b
theorem q_118 : qOK l adK adV D 118 := qOK_of (o := 10) (y := yX10_wholeBelow) (t := t10_wholeBelow) rfl rfl ⟨by decide +kernel, by decide +kernel, rfl⟩ t10_wholeBelow_d t10_wholeBelow_b
theorem q_119 : qOK l adK adV D 119 := qOK_of (o := 11) (y := yX11_init) (t := t11_init) rfl rfl ⟨by decide +kernel, by decide +kernel, rfl⟩ t11_init_d t11_init_b
theorem q_120 : qOK l adK adV D 120 := qOK_of (o := 11) (y := yX11_feed) (t := t11_feed) rfl rfl ⟨by decide +kernel, by decide +kernel, rfl⟩ t11_feed_d t11_feed_b
theorem q_121 : qOK l adK adV D 121 := qOK_of (o := 11) (y := yX11_putBytes) (t := t11_putBytes) rfl rfl ⟨by decide +kernel, by decide +kernel, rfl⟩ t11_putBytes_d t11_putBytes_b
theorem q_122 : qOK l adK adV D 122 := qOK_of (o := 11) (y := yX11_line) (t := t11_line) rfl rfl ⟨by decide +kernel, by decide +kernel, rfl⟩ t11_line_d t11_line_b
theorem q_123 : qOK l adK adV D 123 := qOK_of (o := 11) (y := yX11_fault) (t := t11_fault) rfl rfl ⟨by decide +kernel, by decide +kernel, rfl⟩ t11_fault_d t11_fault_b
theorem q_124 : qOK l adK adV D 124 := qOK_of (o := 11) (y := yX11_farm) (t := t11_farm) rfl rfl ⟨by decide +kernel, by decide +kernel, rfl⟩ t11_farm_d t11_farm_b
theorem q_125 : qOK l adK adV D 125 := qOK_of (o := 11) (y := yX11_bit) (t := t11_bit) rfl rfl ⟨by decide +kernel, by decide +kernel, rfl⟩ t11_bit_d t11_bit_b
theorem q_126 : qOK l adK adV D 126 := qOK_of (o := 11) (y := yX11_wire) (t := t11_wire) rfl rfl ⟨by decide +kernel, by decide +kernel, rfl⟩ t11_wire_d t11_wire_b
theorem q_127 : qOK l adK adV D 127 := qOK_of (o := 11) (y := yX11_likes) (t := t11_likes) rfl rfl ⟨by decide +kernel, by decide +kernel, rfl⟩ t11_likes_d t11_likes_b
theorem q_128 : qOK l adK adV D 128 := qOK_of (o := 11) (y := yX11_tell) (t := t11_tell) rfl rfl ⟨by decide +kernel, by decide +kernel, rfl⟩ t11_tell_d t11_tell_b
theorem q_129 : qOK l adK adV D 129 := qOK_of (o := 11) (y := yX11_cut) (t := t11_cut) rfl rfl ⟨by decide +kernel, by decide +kernel, rfl⟩ t11_cut_d t11_cut_b
theorem q_130 : qOK l adK adV D 130 := qOK_of (o := 11) (y := yX11_mood) (t := t11_mood) rfl rfl ⟨by decide +kernel, by decide +kernel, rfl⟩ t11_mood_d t11_mood_b
theorem q_131 : qOK l adK adV D 131 := qOK_of (o := 11) (y := yX11_go) (t := t11_go) rfl rfl ⟨by decide +kernel, by decide +kernel, rfl⟩ t11_go_d t11_go_b
theorem q_132 : qOK l adK adV D 132 := qOK_of (o := 11) (y := yX11_undo) (t := t11_undo) rfl rfl ⟨by decide +kernel, by decide +kernel, rfl⟩ t11_undo_d t11_undo_b
theorem q_133 : qOK l adK adV D 133 := qOK_of (o := 11) (y := yX11_judge) (t := t11_judge) rfl rfl ⟨by decide +kernel, by decide +kernel, rfl⟩ t11_judge_d t11_judge_b
theorem q_134 : qOK l adK adV D 134 := qOK_of (o := 11) (y := yX11_verdict) (t := t11_verdict) rfl rfl ⟨by decide +kernel, by decide +kernel, rfl⟩ t11_verdict_d t11_verdict_b
theorem q_135 : qOK l adK adV D 135 := qOK_of (o := 11) (y := yX11_perform) (t := t11_perform) rfl rfl ⟨by decide +kernel, by decide +kernel, rfl⟩ t11_perform_d t11_perform_b
theorem q_136 : qOK l adK adV D 136 := qOK_of (o := 11) (y := yX11_winter) (t := t11_winter) rfl rfl ⟨by decide +kernel, by decide +kernel, rfl⟩ t11_winter_d t11_winter_b
theorem q_137 : qOK l adK adV D 137 := qOK_of (o := 11) (y := yX11_keptIfAny) (t := t11_keptIfAny) rfl rfl ⟨by decide +kernel, by decide +kernel, rfl⟩ t11_keptIfAny_d t11_keptIfAny_b
theorem q_138 : qOK l adK adV D 138 := qOK_of (o := 11) (y := yX11_heardBy) (t := t11_heardBy) rfl rfl ⟨by decide +kernel, by decide +kernel, rfl⟩ t11_heardBy_d t11_heardBy_b
theorem q_139 : qOK l adK adV D 139 := qOK_of (o := 11) (y := yX11_ear) (t := t11_ear) rfl rfl ⟨by decide +kernel, by decide +kernel, rfl⟩ t11_ear_d t11_ear_b
theorem q_140 : qOK l adK adV D 140 := qOK_of (o := 11) (y := yX11_needs) (t := t11_needs) rfl rfl ⟨by decide +kernel, by decide +kernel, rfl⟩ t11_needs_d t11_needs_b
theorem q_141 : qOK l adK adV D 141 := qOK_of (o := 11) (y := yX11_pieces) (t := t11_pieces) rfl rfl ⟨by decide +kernel, by decide +kernel, rfl⟩ t11_pieces_d t11_pieces_b
theorem q_142 : qOK l adK adV D 142 := qOK_of (o := 11) (y := yX11_listeners) (t := t11_listeners) rfl rfl ⟨by decide +kernel, by decide +kernel, rfl⟩ t11_listeners_d t11_listeners_b
theorem q_143 : qOK l adK adV D 143 := qOK_of (o := 11) (y := yX11_covered) (t := t11_covered) rfl rfl ⟨by decide +kernel, by decide +kernel, rfl⟩ t11_covered_d t11_covered_b
theorem q_144 : qOK l adK adV D 144 := qOK_of (o := 11) (y := yX11_reach) (t := t11_reach) rfl rfl ⟨by decide +kernel, by decide +kernel, rfl⟩ t11_reach_d t11_reach_b
theorem q_145 : qOK l adK adV D 145 := qOK_of (o := 11) (y := yX11_fewest) (t := t11_fewest) rfl rfl ⟨by decide +kernel, by decide +kernel, rfl⟩ t11_fewest_d t11_fewest_b
theorem q_146 : qOK l adK adV D 146 := qOK_of (o := 11) (y := yX11_way) (t := t11_way) rfl rfl ⟨by decide +kernel, by decide +kernel, rfl⟩ t11_way_d t11_way_b
theorem q_147 : qOK l adK adV D 147 := qOK_of (o := 11) (y := yX11_ways) (t := t11_ways) rfl rfl ⟨by decide +kernel, by decide +kernel, rfl⟩ t11_ways_d t11_ways_b
theorem q_148 : qOK l adK adV D 148 := qOK_of (o := 11) (y := yX11_full) (t := t11_full) rfl rfl ⟨by decide +kernel, by decide +kernel, rfl⟩ t11_full_d t11_full_b
theorem q_149 : qOK l adK adV D 149 := qOK_of (o := 11) (y := yX11_fullWay) (t := t11_fullWay) rfl rfl ⟨by decide +kernel, by decide +kernel, rfl⟩ t11_fullWay_d t11_fullWay_b
theorem q_150 : qOK l adK adV D 150 := qOK_of (o := 11) (y := yX11_placeOfWay) (t := t11_placeOfWay) rfl rfl ⟨by decide +kernel, by decide +kernel, rfl⟩ t11_placeOfWay_d t11_placeOfWay_b
theorem q_151 : qOK l adK adV D 151 := qOK_of (o := 11) (y := yX11_ends) (t := t11_ends) rfl rfl ⟨by decide +kernel, by decide +kernel, rfl⟩ t11_ends_d t11_ends_b
theorem q_152 : qOK l adK adV D 152 := qOK_of (o := 11) (y := yX11_forces) (t := t11_forces) rfl rfl ⟨by decide +kernel, by decide +kernel, rfl⟩ t11_forces_d t11_forces_b
theorem q_153 : qOK l adK adV D 153 := qOK_of (o := 11) (y := yX11_power) (t := t11_power) rfl rfl ⟨by decide +kernel, by decide +kernel, rfl⟩ t11_power_d t11_power_b
theorem q_154 : qOK l adK adV D 154 := qOK_of (o := 11) (y := yX11_best) (t := t11_best) rfl rfl ⟨by decide +kernel, by decide +kernel, rfl⟩ t11_best_d t11_best_b
theorem q_155 : qOK l adK adV D 155 := qOK_of (o := 11) (y := yX11_ally) (t := t11_ally) rfl rfl ⟨by decide +kernel, by decide +kernel, rfl⟩ t11_ally_d t11_ally_b
theorem q_156 : qOK l adK adV D 156 := qOK_of (o := 11) (y := yX11_tales) (t := t11_tales) rfl rfl ⟨by decide +kernel, by decide +kernel, rfl⟩ t11_tales_d t11_tales_b
theorem q_157 : qOK l adK adV D 157 := qOK_of (o := 11) (y := yX11_joins) (t := t11_joins) rfl rfl ⟨by decide +kernel, by decide +kernel, rfl⟩ t11_joins_d t11_joins_b
theorem q_158 : qOK l adK adV D 158 := qOK_of (o := 11) (y := yX11_joinBy) (t := t11_joinBy) rfl rfl ⟨by decide +kernel, by decide +kernel, rfl⟩ t11_joinBy_d t11_joinBy_b
theorem q_159 : qOK l adK adV D 159 := qOK_of (o := 11) (y := yX11_rows) (t := t11_rows) rfl rfl ⟨by decide +kernel, by decide +kernel, rfl⟩ t11_rows_d t11_rows_b
theorem q_160 : qOK l adK adV D 160 := qOK_of (o := 11) (y := yX11_sureBit) (t := t11_sureBit) rfl rfl ⟨by decide +kernel, by decide +kernel, rfl⟩ t11_sureBit_d t11_sureBit_b
theorem q_161 : qOK l adK adV D 161 := qOK_of (o := 11) (y := yX11_takeSeen) (t := t11_takeSeen) rfl rfl ⟨by decide +kernel, by decide +kernel, rfl⟩ t11_takeSeen_d t11_takeSeen_b
theorem q_162 : qOK l adK adV D 162 := qOK_of (o := 11) (y := yX11_tellers) (t := t11_tellers) rfl rfl ⟨by decide +kernel, by decide +kernel, rfl⟩ t11_tellers_d t11_tellers_b
theorem q_163 : qOK l adK adV D 163 := qOK_of (o := 11) (y := yX11_teller) (t := t11_teller) rfl rfl ⟨by decide +kernel, by decide +kernel, rfl⟩ t11_teller_d t11_teller_b
theorem q_164 : qOK l adK adV D 164 := qOK_of (o := 11) (y := yX11_takeTold) (t := t11_takeTold) rfl rfl ⟨by decide +kernel, by decide +kernel, rfl⟩ t11_takeTold_d t11_takeTold_b
theorem q_165 : qOK l adK adV D 165 := qOK_of (o := 11) (y := yX11_better) (t := t11_better) rfl rfl ⟨by decide +kernel, by decide +kernel, rfl⟩ t11_better_d t11_better_b
theorem q_166 : qOK l adK adV D 166 := qOK_of (o := 11) (y := yX11_isBetter) (t := t11_isBetter) rfl rfl ⟨by decide +kernel, by decide +kernel, rfl⟩ t11_isBetter_d t11_isBetter_b
theorem q_167 : qOK l adK adV D 167 := qOK_of (o := 11) (y := yX11_fairest) (t := t11_fairest) rfl rfl ⟨by decide +kernel, by decide +kernel, rfl⟩ t11_fairest_d t11_fairest_b
theorem q_168 : qOK l adK adV D 168 := qOK_of (o := 11) (y := yX11_leastLiking) (t := t11_leastLiking) rfl rfl ⟨by decide +kernel, by decide +kernel, rfl⟩ t11_leastLiking_d t11_leastLiking_b
theorem q_169 : qOK l adK adV D 169 := qOK_of (o := 11) (y := yX11_snow) (t := t11_snow) rfl rfl ⟨by decide +kernel, by decide +kernel, rfl⟩ t11_snow_d t11_snow_b
theorem q_170 : qOK l adK adV D 170 := qOK_of (o := 11) (y := yX11_commonDivisor) (t := t11_commonDivisor) rfl rfl ⟨by decide +kernel, by decide +kernel, rfl⟩ t11_commonDivisor_d t11_commonDivisor_b
theorem q_171 : qOK l adK adV D 171 := qOK_of (o := 11) (y := yX11_left) (t := t11_left) rfl rfl ⟨by decide +kernel, by decide +kernel, rfl⟩ t11_left_d t11_left_b
theorem q_172 : qOK l adK adV D 172 := qOK_of (o := 11) (y := yX11_numbers) (t := t11_numbers) rfl rfl ⟨by decide +kernel, by decide +kernel, rfl⟩ t11_numbers_d t11_numbers_b
theorem q_173 : qOK l adK adV D 173 := qOK_of (o := 11) (y := yX11_write) (t := t11_write) rfl rfl ⟨by decide +kernel, by decide +kernel, rfl⟩ t11_write_d t11_write_b
theorem q_174 : qOK l adK adV D 174 := qOK_of (o := 11) (y := yX11_lists) (t := t11_lists) rfl rfl ⟨by decide +kernel, by decide +kernel, rfl⟩ t11_lists_d t11_lists_b
theorem q_175 : qOK l adK adV D 175 := qOK_of (o := 11) (y := yX11_image) (t := t11_image) rfl rfl ⟨by decide +kernel, by decide +kernel, rfl⟩ t11_image_d t11_image_b
theorem q_176 : qOK l adK adV D 176 := qOK_of (o := 11) (y := yX11_restore) (t := t11_restore) rfl rfl ⟨by decide +kernel, by decide +kernel, rfl⟩ t11_restore_d t11_restore_b
theorem q_177 : qOK l adK adV D 177 := qOK_of (o := 11) (y := yX11_count) (t := t11_count) rfl rfl ⟨by decide +kernel, by decide +kernel, rfl⟩ t11_count_d t11_count_b
theorem q_178 : qOK l adK adV D 178 := qOK_of (o := 11) (y := yX11_isTray) (t := t11_isTray) rfl rfl ⟨by decide +kernel, by decide +kernel, rfl⟩ t11_isTray_d t11_isTray_b
theorem q_179 : qOK l adK adV D 179 := qOK_of (o := 11) (y := yX11_areTwo) (t := t11_areTwo) rfl rfl ⟨by decide +kernel, by decide +kernel, rfl⟩ t11_areTwo_d t11_areTwo_b
theorem q_180 : qOK l adK adV D 180 := qOK_of (o := 11) (y := yX11_areMoments) (t := t11_areMoments) rfl rfl ⟨by decide +kernel, by decide +kernel, rfl⟩ t11_areMoments_d t11_areMoments_b
theorem q_181 : qOK l adK adV D 181 := qOK_of (o := 11) (y := yX11_wiresBetween) (t := t11_wiresBetween) rfl rfl ⟨by decide +kernel, by decide +kernel, rfl⟩ t11_wiresBetween_d t11_wiresBetween_b
theorem q_182 : qOK l adK adV D 182 := qOK_of (o := 12) (y := yX12_within) (t := t12_within) rfl rfl ⟨by decide +kernel, by decide +kernel, rfl⟩ t12_within_d t12_within_b
theorem q_183 : qOK l adK adV D 183 := qOK_of (o := 12) (y := yX12_init) (t := t12_init) rfl rfl ⟨by decide +kernel, by decide +kernel, rfl⟩ t12_init_d t12_init_b
theorem q_184 : qOK l adK adV D 184 := qOK_of (o := 12) (y := yX12_plain) (t := t12_plain) rfl rfl ⟨by decide +kernel, by decide +kernel, rfl⟩ t12_plain_d t12_plain_b
theorem q_185 : qOK l adK adV D 185 := qOK_of (o := 12) (y := yX12_feed) (t := t12_feed) rfl rfl ⟨by decide +kernel, by decide +kernel, rfl⟩ t12_feed_d t12_feed_b
theorem q_186 : qOK l adK adV D 186 := qOK_of (o := 12) (y := yX12_see) (t := t12_see) rfl rfl ⟨by decide +kernel, by decide +kernel, rfl⟩ t12_see_d t12_see_b
theorem q_187 : qOK l adK adV D 187 := qOK_of (o := 12) (y := yX12_isSmall) (t := t12_isSmall) rfl rfl ⟨by decide +kernel, by decide +kernel, rfl⟩ t12_isSmall_d t12_isSmall_b
theorem q_188 : qOK l adK adV D 188 := qOK_of (o := 12) (y := yX12_isDigit) (t := t12_isDigit) rfl rfl ⟨by decide +kernel, by decide +kernel, rfl⟩ t12_isDigit_d t12_isDigit_b
theorem q_189 : qOK l adK adV D 189 := qOK_of (o := 12) (y := yX12_keyAt) (t := t12_keyAt) rfl rfl ⟨by decide +kernel, by decide +kernel, rfl⟩ t12_keyAt_d t12_keyAt_b
theorem q_190 : qOK l adK adV D 190 := qOK_of (o := 12) (y := yX12_next) (t := t12_next) rfl rfl ⟨by decide +kernel, by decide +kernel, rfl⟩ t12_next_d t12_next_b
theorem q_191 : qOK l adK adV D 191 := qOK_of (o := 12) (y := yX12_fails) (t := t12_fails) rfl rfl ⟨by decide +kernel, by decide +kernel, rfl⟩ t12_fails_d t12_fails_b
theorem q_192 : qOK l adK adV D 192 := qOK_of (o := 12) (y := yX12_is) (t := t12_is) rfl rfl ⟨by decide +kernel, by decide +kernel, rfl⟩ t12_is_d t12_is_b
theorem q_193 : qOK l adK adV D 193 := qOK_of (o := 12) (y := yX12_eats) (t := t12_eats) rfl rfl ⟨by decide +kernel, by decide +kernel, rfl⟩ t12_eats_d t12_eats_b
theorem q_194 : qOK l adK adV D 194 := qOK_of (o := 12) (y := yX12_takes) (t := t12_takes) rfl rfl ⟨by decide +kernel, by decide +kernel, rfl⟩ t12_takes_d t12_takes_b
theorem q_195 : qOK l adK adV D 195 := qOK_of (o := 12) (y := yX12_isIn) (t := t12_isIn) rfl rfl ⟨by decide +kernel, by decide +kernel, rfl⟩ t12_isIn_d t12_isIn_b
theorem q_196 : qOK l adK adV D 196 := qOK_of (o := 12) (y := yX12_wordOf) (t := t12_wordOf) rfl rfl ⟨by decide +kernel, by decide +kernel, rfl⟩ t12_wordOf_d t12_wordOf_b
theorem q_197 : qOK l adK adV D 197 := qOK_of (o := 12) (y := yX12_codes) (t := t12_codes) rfl rfl ⟨by decide +kernel, by decide +kernel, rfl⟩ t12_codes_d t12_codes_b
theorem q_198 : qOK l adK adV D 198 := qOK_of (o := 12) (y := yX12_goesIn) (t := t12_goesIn) rfl rfl ⟨by decide +kernel, by decide +kernel, rfl⟩ t12_goesIn_d t12_goesIn_b
theorem q_199 : qOK l adK adV D 199 := qOK_of (o := 12) (y := yX12_readAtom) (t := t12_readAtom) rfl rfl ⟨by decide +kernel, by decide +kernel, rfl⟩ t12_readAtom_d t12_readAtom_b
theorem q_200 : qOK l adK adV D 200 := qOK_of (o := 12) (y := yX12_readTerm) (t := t12_readTerm) rfl rfl ⟨by decide +kernel, by decide +kernel, rfl⟩ t12_readTerm_d t12_readTerm_b
theorem q_201 : qOK l adK adV D 201 := qOK_of (o := 12) (y := yX12_readSum) (t := t12_readSum) rfl rfl ⟨by decide +kernel, by decide +kernel, rfl⟩ t12_readSum_d t12_readSum_b
theorem q_202 : qOK l adK adV D 202 := qOK_of (o := 12) (y := yX12_readUnit) (t := t12_readUnit) rfl rfl ⟨by decide +kernel, by decide +kernel, rfl⟩ t12_readUnit_d t12_readUnit_b
theorem q_203 : qOK l adK adV D 203 := qOK_of (o := 12) (y := yX12_readBoth) (t := t12_readBoth) rfl rfl ⟨by decide +kernel, by decide +kernel, rfl⟩ t12_readBoth_d t12_readBoth_b
theorem q_204 : qOK l adK adV D 204 := qOK_of (o := 12) (y := yX12_readTruth) (t := t12_readTruth) rfl rfl ⟨by decide +kernel, by decide +kernel, rfl⟩ t12_readTruth_d t12_readTruth_b
theorem q_205 : qOK l adK adV D 205 := qOK_of (o := 12) (y := yX12_readBit) (t := t12_readBit) rfl rfl ⟨by decide +kernel, by decide +kernel, rfl⟩ t12_readBit_d t12_readBit_b
theorem q_206 : qOK l adK adV D 206 := qOK_of (o := 12) (y := yX12_readFlag) (t := t12_readFlag) rfl rfl ⟨by decide +kernel, by decide +kernel, rfl⟩ t12_readFlag_d t12_readFlag_b
theorem q_207 : qOK l adK adV D 207 := qOK_of (o := 12) (y := yX12_readFarm) (t := t12_readFarm) rfl rfl ⟨by decide +kernel, by decide +kernel, rfl⟩ t12_readFarm_d t12_readFarm_b
theorem q_208 : qOK l adK adV D 208 := qOK_of (o := 12) (y := yX12_readSnow) (t := t12_readSnow) rfl rfl ⟨by decide +kernel, by decide +kernel, rfl⟩ t12_readSnow_d t12_readSnow_b
theorem q_209 : qOK l adK adV D 209 := qOK_of (o := 12) (y := yX12_readLaw) (t := t12_readLaw) rfl rfl ⟨by decide +kernel, by decide +kernel, rfl⟩ t12_readLaw_d t12_readLaw_b
theorem q_210 : qOK l adK adV D 210 := qOK_of (o := 12) (y := yX12_readLine) (t := t12_readLine) rfl rfl ⟨by decide +kernel, by decide +kernel, rfl⟩ t12_readLine_d t12_readLine_b
theorem q_211 : qOK l adK adV D 211 := qOK_of (o := 12) (y := yX12_ends1) (t := t12_ends1) rfl rfl ⟨by decide +kernel, by decide +kernel, rfl⟩ t12_ends1_d t12_ends1_b
theorem q_212 : qOK l adK adV D 212 := qOK_of (o := 12) (y := yX12_line) (t := t12_line) rfl rfl ⟨by decide +kernel, by decide +kernel, rfl⟩ t12_line_d t12_line_b
theorem q_213 : qOK l adK adV D 213 := qOK_of (o := 12) (y := yX12_fault) (t := t12_fault) rfl rfl ⟨by decide +kernel, by decide +kernel, rfl⟩ t12_fault_d t12_fault_b
theorem q_214 : qOK l adK adV D 214 := qOK_of (o := 12) (y := yX12_isFarm) (t := t12_isFarm) rfl rfl ⟨by decide +kernel, by decide +kernel, rfl⟩ t12_isFarm_d t12_isFarm_b
theorem q_215 : qOK l adK adV D 215 := qOK_of (o := 12) (y := yX12_isMoment) (t := t12_isMoment) rfl rfl ⟨by decide +kernel, by decide +kernel, rfl⟩ t12_isMoment_d t12_isMoment_b
theorem q_216 : qOK l adK adV D 216 := qOK_of (o := 12) (y := yX12_isBit) (t := t12_isBit) rfl rfl ⟨by decide +kernel, by decide +kernel, rfl⟩ t12_isBit_d t12_isBit_b
theorem q_217 : qOK l adK adV D 217 := qOK_of (o := 12) (y := yX12_isWire) (t := t12_isWire) rfl rfl ⟨by decide +kernel, by decide +kernel, rfl⟩ t12_isWire_d t12_isWire_b
theorem q_218 : qOK l adK adV D 218 := qOK_of (o := 12) (y := yX12_bitsOf) (t := t12_bitsOf) rfl rfl ⟨by decide +kernel, by decide +kernel, rfl⟩ t12_bitsOf_d t12_bitsOf_b
theorem q_219 : qOK l adK adV D 219 := qOK_of (o := 12) (y := yX12_between) (t := t12_between) rfl rfl ⟨by decide +kernel, by decide +kernel, rfl⟩ t12_between_d t12_between_b
theorem q_220 : qOK l adK adV D 220 := qOK_of (o := 12) (y := yX12_reckons) (t := t12_reckons) rfl rfl ⟨by decide +kernel, by decide +kernel, rfl⟩ t12_reckons_d t12_reckons_b
theorem q_221 : qOK l adK adV D 221 := qOK_of (o := 12) (y := yX12_mayTell) (t := t12_mayTell) rfl rfl ⟨by decide +kernel, by decide +kernel, rfl⟩ t12_mayTell_d t12_mayTell_b
theorem q_222 : qOK l adK adV D 222 := qOK_of (o := 12) (y := yX12_wiresOf) (t := t12_wiresOf) rfl rfl ⟨by decide +kernel, by decide +kernel, rfl⟩ t12_wiresOf_d t12_wiresOf_b
theorem q_223 : qOK l adK adV D 223 := qOK_of (o := 12) (y := yX12_hears) (t := t12_hears) rfl rfl ⟨by decide +kernel, by decide +kernel, rfl⟩ t12_hears_d t12_hears_b
theorem q_224 : qOK l adK adV D 224 := qOK_of (o := 12) (y := yX12_likesOf) (t := t12_likesOf) rfl rfl ⟨by decide +kernel, by decide +kernel, rfl⟩ t12_likesOf_d t12_likesOf_b
theorem q_225 : qOK l adK adV D 225 := qOK_of (o := 12) (y := yX12_heardOf) (t := t12_heardOf) rfl rfl ⟨by decide +kernel, by decide +kernel, rfl⟩ t12_heardOf_d t12_heardOf_b
theorem q_226 : qOK l adK adV D 226 := qOK_of (o := 12) (y := yX12_hearersOf) (t := t12_hearersOf) rfl rfl ⟨by decide +kernel, by decide +kernel, rfl⟩ t12_hearersOf_d t12_hearersOf_b
theorem q_227 : qOK l adK adV D 227 := qOK_of (o := 12) (y := yX12_whoMay) (t := t12_whoMay) rfl rfl ⟨by decide +kernel, by decide +kernel, rfl⟩ t12_whoMay_d t12_whoMay_b
theorem q_228 : qOK l adK adV D 228 := qOK_of (o := 12) (y := yX12_canTell) (t := t12_canTell) rfl rfl ⟨by decide +kernel, by decide +kernel, rfl⟩ t12_canTell_d t12_canTell_b
theorem q_229 : qOK l adK adV D 229 := qOK_of (o := 12) (y := yX12_farm) (t := t12_farm) rfl rfl ⟨by decide +kernel, by decide +kernel, rfl⟩ t12_farm_d t12_farm_b
theorem q_230 : qOK l adK adV D 230 := qOK_of (o := 12) (y := yX12_bit) (t := t12_bit) rfl rfl ⟨by decide +kernel, by decide +kernel, rfl⟩ t12_bit_d t12_bit_b
theorem q_231 : qOK l adK adV D 231 := qOK_of (o := 12) (y := yX12_wire) (t := t12_wire) rfl rfl ⟨by decide +kernel, by decide +kernel, rfl⟩ t12_wire_d t12_wire_b
theorem q_232 : qOK l adK adV D 232 := qOK_of (o := 12) (y := yX12_likes) (t := t12_likes) rfl rfl ⟨by decide +kernel, by decide +kernel, rfl⟩ t12_likes_d t12_likes_b
theorem q_233 : qOK l adK adV D 233 := qOK_of (o := 12) (y := yX12_keeps) (t := t12_keeps) rfl rfl ⟨by decide +kernel, by decide +kernel, rfl⟩ t12_keeps_d t12_keeps_b
theorem q_234 : qOK l adK adV D 234 := qOK_of (o := 12) (y := yX12_isAgain) (t := t12_isAgain) rfl rfl ⟨by decide +kernel, by decide +kernel, rfl⟩ t12_isAgain_d t12_isAgain_b
theorem q_235 : qOK l adK adV D 235 := qOK_of (o := 12) (y := yX12_notes) (t := t12_notes) rfl rfl ⟨by decide +kernel, by decide +kernel, rfl⟩ t12_notes_d t12_notes_b
theorem q_236 : qOK l adK adV D 236 := qOK_of (o := 12) (y := yX12_whyTell) (t := t12_whyTell) rfl rfl ⟨by decide +kernel, by decide +kernel, rfl⟩ t12_whyTell_d t12_whyTell_b
theorem q_237 : qOK l adK adV D 237 := qOK_of (o := 12) (y := yX12_tells1) (t := t12_tells1) rfl rfl ⟨by decide +kernel, by decide +kernel, rfl⟩ t12_tells1_d t12_tells1_b
theorem q_238 : qOK l adK adV D 238 := qOK_of (o := 12) (y := yX12_goesTurn) (t := t12_goesTurn) rfl rfl ⟨by decide +kernel, by decide +kernel, rfl⟩ t12_goesTurn_d t12_goesTurn_b
theorem q_239 : qOK l adK adV D 239 := qOK_of (o := 12) (y := yX12_tell) (t := t12_tell) rfl rfl ⟨by decide +kernel, by decide +kernel, rfl⟩ t12_tell_d t12_tell_b
theorem q_240 : qOK l adK adV D 240 := qOK_of (o := 12) (y := yX12_cut) (t := t12_cut) rfl rfl ⟨by decide +kernel, by decide +kernel, rfl⟩ t12_cut_d t12_cut_b
theorem q_241 : qOK l adK adV D 241 := qOK_of (o := 12) (y := yX12_mood) (t := t12_mood) rfl rfl ⟨by decide +kernel, by decide +kernel, rfl⟩ t12_mood_d t12_mood_b
theorem q_242 : qOK l adK adV D 242 := qOK_of (o := 12) (y := yX12_go) (t := t12_go) rfl rfl ⟨by decide +kernel, by decide +kernel, rfl⟩ t12_go_d t12_go_b
theorem q_243 : qOK l adK adV D 243 := qOK_of (o := 12) (y := yX12_undo) (t := t12_undo) rfl rfl ⟨by decide +kernel, by decide +kernel, rfl⟩ t12_undo_d t12_undo_b
theorem q_244 : qOK l adK adV D 244 := qOK_of (o := 12) (y := yX12_whyNot) (t := t12_whyNot) rfl rfl ⟨by decide +kernel, by decide +kernel, rfl⟩ t12_whyNot_d t12_whyNot_b
theorem q_245 : qOK l adK adV D 245 := qOK_of (o := 12) (y := yX12_does) (t := t12_does) rfl rfl ⟨by decide +kernel, by decide +kernel, rfl⟩ t12_does_d t12_does_b
theorem q_246 : qOK l adK adV D 246 := qOK_of (o := 12) (y := yX12_goesDeeds) (t := t12_goesDeeds) rfl rfl ⟨by decide +kernel, by decide +kernel, rfl⟩ t12_goesDeeds_d t12_goesDeeds_b
theorem q_247 : qOK l adK adV D 247 := qOK_of (o := 12) (y := yX12_noTray) (t := t12_noTray) rfl rfl ⟨by decide +kernel, by decide +kernel, rfl⟩ t12_noTray_d t12_noTray_b
theorem q_248 : qOK l adK adV D 248 := qOK_of (o := 12) (y := yX12_talesNow) (t := t12_talesNow) rfl rfl ⟨by decide +kernel, by decide +kernel, rfl⟩ t12_talesNow_d t12_talesNow_b
theorem q_249 : qOK l adK adV D 249 := qOK_of (o := 12) (y := yX12_doubtsAll) (t := t12_doubtsAll) rfl rfl ⟨by decide +kernel, by decide +kernel, rfl⟩ t12_doubtsAll_d t12_doubtsAll_b
theorem q_250 : qOK l adK adV D 250 := qOK_of (o := 12) (y := yX12_judge) (t := t12_judge) rfl rfl ⟨by decide +kernel, by decide +kernel, rfl⟩ t12_judge_d t12_judge_b
theorem q_251 : qOK l adK adV D 251 := qOK_of (o := 12) (y := yX12_perform) (t := t12_perform) rfl rfl ⟨by decide +kernel, by decide +kernel, rfl⟩ t12_perform_d t12_perform_b
theorem q_252 : qOK l adK adV D 252 := qOK_of (o := 12) (y := yX12_draw) (t := t12_draw) rfl rfl ⟨by decide +kernel, by decide +kernel, rfl⟩ t12_draw_d t12_draw_b
theorem q_253 : qOK l adK adV D 253 := qOK_of (o := 12) (y := yX12_drawn) (t := t12_drawn) rfl rfl ⟨by decide +kernel, by decide +kernel, rfl⟩ t12_drawn_d t12_drawn_b
theorem q_254 : qOK l adK adV D 254 := qOK_of (o := 12) (y := yX12_winter) (t := t12_winter) rfl rfl ⟨by decide +kernel, by decide +kernel, rfl⟩ t12_winter_d t12_winter_b
theorem q_255 : qOK l adK adV D 255 := qOK_of (o := 12) (y := yX12_heardBy) (t := t12_heardBy) rfl rfl ⟨by decide +kernel, by decide +kernel, rfl⟩ t12_heardBy_d t12_heardBy_b
theorem q_256 : qOK l adK adV D 256 := qOK_of (o := 12) (y := yX12_ear) (t := t12_ear) rfl rfl ⟨by decide +kernel, by decide +kernel, rfl⟩ t12_ear_d t12_ear_b
theorem q_257 : qOK l adK adV D 257 := qOK_of (o := 12) (y := yX12_areTwo) (t := t12_areTwo) rfl rfl ⟨by decide +kernel, by decide +kernel, rfl⟩ t12_areTwo_d t12_areTwo_b
theorem q_258 : qOK l adK adV D 258 := qOK_of (o := 12) (y := yX12_needs) (t := t12_needs) rfl rfl ⟨by decide +kernel, by decide +kernel, rfl⟩ t12_needs_d t12_needs_b
theorem q_259 : qOK l adK adV D 259 := qOK_of (o := 12) (y := yX12_pieces) (t := t12_pieces) rfl rfl ⟨by decide +kernel, by decide +kernel, rfl⟩ t12_pieces_d t12_pieces_b
theorem q_260 : qOK l adK adV D 260 := qOK_of (o := 12) (y := yX12_listeners) (t := t12_listeners) rfl rfl ⟨by decide +kernel, by decide +kernel, rfl⟩ t12_listeners_d t12_listeners_b
theorem q_261 : qOK l adK adV D 261 := qOK_of (o := 12) (y := yX12_laysUsable) (t := t12_laysUsable) rfl rfl ⟨by decide +kernel, by decide +kernel, rfl⟩ t12_laysUsable_d t12_laysUsable_b
theorem q_262 : qOK l adK adV D 262 := qOK_of (o := 12) (y := yX12_isFrom) (t := t12_isFrom) rfl rfl ⟨by decide +kernel, by decide +kernel, rfl⟩ t12_isFrom_d t12_isFrom_b
theorem q_263 : qOK l adK adV D 263 := qOK_of (o := 12) (y := yX12_reach) (t := t12_reach) rfl rfl ⟨by decide +kernel, by decide +kernel, rfl⟩ t12_reach_d t12_reach_b
theorem q_264 : qOK l adK adV D 264 := qOK_of (o := 12) (y := yX12_told) (t := t12_told) rfl rfl ⟨by decide +kernel, by decide +kernel, rfl⟩ t12_told_d t12_told_b
theorem q_265 : qOK l adK adV D 265 := qOK_of (o := 12) (y := yX12_laysStill) (t := t12_laysStill) rfl rfl ⟨by decide +kernel, by decide +kernel, rfl⟩ t12_laysStill_d t12_laysStill_b
theorem q_266 : qOK l adK adV D 266 := qOK_of (o := 12) (y := yX12_laysFarm) (t := t12_laysFarm) rfl rfl ⟨by decide +kernel, by decide +kernel, rfl⟩ t12_laysFarm_d t12_laysFarm_b
theorem q_267 : qOK l adK adV D 267 := qOK_of (o := 12) (y := yX12_laysWay) (t := t12_laysWay) rfl rfl ⟨by decide +kernel, by decide +kernel, rfl⟩ t12_laysWay_d t12_laysWay_b
theorem q_268 : qOK l adK adV D 268 := qOK_of (o := 12) (y := yX12_areMoments) (t := t12_areMoments) rfl rfl ⟨by decide +kernel, by decide +kernel, rfl⟩ t12_areMoments_d t12_areMoments_b
theorem q_269 : qOK l adK adV D 269 := qOK_of (o := 12) (y := yX12_fewest) (t := t12_fewest) rfl rfl ⟨by decide +kernel, by decide +kernel, rfl⟩ t12_fewest_d t12_fewest_b
theorem q_270 : qOK l adK adV D 270 := qOK_of (o := 12) (y := yX12_wayAt) (t := t12_wayAt) rfl rfl ⟨by decide +kernel, by decide +kernel, rfl⟩ t12_wayAt_d t12_wayAt_b
theorem q_271 : qOK l adK adV D 271 := qOK_of (o := 12) (y := yX12_way) (t := t12_way) rfl rfl ⟨by decide +kernel, by decide +kernel, rfl⟩ t12_way_d t12_way_b
theorem q_272 : qOK l adK adV D 272 := qOK_of (o := 12) (y := yX12_goesRows) (t := t12_goesRows) rfl rfl ⟨by decide +kernel, by decide +kernel, rfl⟩ t12_goesRows_d t12_goesRows_b
theorem q_273 : qOK l adK adV D 273 := qOK_of (o := 12) (y := yX12_beginsRows) (t := t12_beginsRows) rfl rfl ⟨by decide +kernel, by decide +kernel, rfl⟩ t12_beginsRows_d t12_beginsRows_b
theorem q_274 : qOK l adK adV D 274 := qOK_of (o := 12) (y := yX12_ways) (t := t12_ways) rfl rfl ⟨by decide +kernel, by decide +kernel, rfl⟩ t12_ways_d t12_ways_b
theorem q_275 : qOK l adK adV D 275 := qOK_of (o := 12) (y := yX12_full) (t := t12_full) rfl rfl ⟨by decide +kernel, by decide +kernel, rfl⟩ t12_full_d t12_full_b
theorem q_276 : qOK l adK adV D 276 := qOK_of (o := 12) (y := yX12_fullWay) (t := t12_fullWay) rfl rfl ⟨by decide +kernel, by decide +kernel, rfl⟩ t12_fullWay_d t12_fullWay_b
theorem q_277 : qOK l adK adV D 277 := qOK_of (o := 12) (y := yX12_ends) (t := t12_ends) rfl rfl ⟨by decide +kernel, by decide +kernel, rfl⟩ t12_ends_d t12_ends_b
theorem q_278 : qOK l adK adV D 278 := qOK_of (o := 12) (y := yX12_turnOf) (t := t12_turnOf) rfl rfl ⟨by decide +kernel, by decide +kernel, rfl⟩ t12_turnOf_d t12_turnOf_b
theorem q_279 : qOK l adK adV D 279 := qOK_of (o := 12) (y := yX12_behind1) (t := t12_behind1) rfl rfl ⟨by decide +kernel, by decide +kernel, rfl⟩ t12_behind1_d t12_behind1_b
theorem q_280 : qOK l adK adV D 280 := qOK_of (o := 12) (y := yX12_laysGame) (t := t12_laysGame) rfl rfl ⟨by decide +kernel, by decide +kernel, rfl⟩ t12_laysGame_d t12_laysGame_b
theorem q_281 : qOK l adK adV D 281 := qOK_of (o := 12) (y := yX12_forcesBy) (t := t12_forcesBy) rfl rfl ⟨by decide +kernel, by decide +kernel, rfl⟩ t12_forcesBy_d t12_forcesBy_b
theorem q_282 : qOK l adK adV D 282 := qOK_of (o := 12) (y := yX12_forces) (t := t12_forces) rfl rfl ⟨by decide +kernel, by decide +kernel, rfl⟩ t12_forces_d t12_forces_b
theorem q_283 : qOK l adK adV D 283 := qOK_of (o := 12) (y := yX12_power) (t := t12_power) rfl rfl ⟨by decide +kernel, by decide +kernel, rfl⟩ t12_power_d t12_power_b
theorem q_284 : qOK l adK adV D 284 := qOK_of (o := 12) (y := yX12_best) (t := t12_best) rfl rfl ⟨by decide +kernel, by decide +kernel, rfl⟩ t12_best_d t12_best_b
theorem q_285 : qOK l adK adV D 285 := qOK_of (o := 12) (y := yX12_ally) (t := t12_ally) rfl rfl ⟨by decide +kernel, by decide +kernel, rfl⟩ t12_ally_d t12_ally_b
theorem q_286 : qOK l adK adV D 286 := qOK_of (o := 12) (y := yX12_tales) (t := t12_tales) rfl rfl ⟨by decide +kernel, by decide +kernel, rfl⟩ t12_tales_d t12_tales_b
theorem q_287 : qOK l adK adV D 287 := qOK_of (o := 12) (y := yX12_joined) (t := t12_joined) rfl rfl ⟨by decide +kernel, by decide +kernel, rfl⟩ t12_joined_d t12_joined_b
theorem q_288 : qOK l adK adV D 288 := qOK_of (o := 12) (y := yX12_deedOf) (t := t12_deedOf) rfl rfl ⟨by decide +kernel, by decide +kernel, rfl⟩ t12_deedOf_d t12_deedOf_b
theorem q_289 : qOK l adK adV D 289 := qOK_of (o := 12) (y := yX12_laysJoin) (t := t12_laysJoin) rfl rfl ⟨by decide +kernel, by decide +kernel, rfl⟩ t12_laysJoin_d t12_laysJoin_b
theorem q_290 : qOK l adK adV D 290 := qOK_of (o := 12) (y := yX12_isNearer) (t := t12_isNearer) rfl rfl ⟨by decide +kernel, by decide +kernel, rfl⟩ t12_isNearer_d t12_isNearer_b
theorem q_291 : qOK l adK adV D 291 := qOK_of (o := 12) (y := yX12_joins) (t := t12_joins) rfl rfl ⟨by decide +kernel, by decide +kernel, rfl⟩ t12_joins_d t12_joins_b
theorem q_292 : qOK l adK adV D 292 := qOK_of (o := 12) (y := yX12_joinBy) (t := t12_joinBy) rfl rfl ⟨by decide +kernel, by decide +kernel, rfl⟩ t12_joinBy_d t12_joinBy_b
theorem q_293 : qOK l adK adV D 293 := qOK_of (o := 12) (y := yX12_noRow) (t := t12_noRow) rfl rfl ⟨by decide +kernel, by decide +kernel, rfl⟩ t12_noRow_d t12_noRow_b
theorem q_294 : qOK l adK adV D 294 := qOK_of (o := 12) (y := yX12_noSeen) (t := t12_noSeen) rfl rfl ⟨by decide +kernel, by decide +kernel, rfl⟩ t12_noSeen_d t12_noSeen_b
theorem q_295 : qOK l adK adV D 295 := qOK_of (o := 12) (y := yX12_rowsBy) (t := t12_rowsBy) rfl rfl ⟨by decide +kernel, by decide +kernel, rfl⟩ t12_rowsBy_d t12_rowsBy_b
theorem q_296 : qOK l adK adV D 296 := qOK_of (o := 12) (y := yX12_rows) (t := t12_rows) rfl rfl ⟨by decide +kernel, by decide +kernel, rfl⟩ t12_rows_d t12_rows_b
theorem q_297 : qOK l adK adV D 297 := qOK_of (o := 12) (y := yX12_sureBit) (t := t12_sureBit) rfl rfl ⟨by decide +kernel, by decide +kernel, rfl⟩ t12_sureBit_d t12_sureBit_b
theorem q_298 : qOK l adK adV D 298 := qOK_of (o := 12) (y := yX12_tellersBy) (t := t12_tellersBy) rfl rfl ⟨by decide +kernel, by decide +kernel, rfl⟩ t12_tellersBy_d t12_tellersBy_b
theorem q_299 : qOK l adK adV D 299 := qOK_of (o := 12) (y := yX12_tellers) (t := t12_tellers) rfl rfl ⟨by decide +kernel, by decide +kernel, rfl⟩ t12_tellers_d t12_tellers_b
theorem q_300 : qOK l adK adV D 300 := qOK_of (o := 12) (y := yX12_teller) (t := t12_teller) rfl rfl ⟨by decide +kernel, by decide +kernel, rfl⟩ t12_teller_d t12_teller_b
theorem q_301 : qOK l adK adV D 301 := qOK_of (o := 12) (y := yX12_better) (t := t12_better) rfl rfl ⟨by decide +kernel, by decide +kernel, rfl⟩ t12_better_d t12_better_b
theorem q_302 : qOK l adK adV D 302 := qOK_of (o := 12) (y := yX12_leastLikes) (t := t12_leastLikes) rfl rfl ⟨by decide +kernel, by decide +kernel, rfl⟩ t12_leastLikes_d t12_leastLikes_b
theorem q_303 : qOK l adK adV D 303 := qOK_of (o := 12) (y := yX12_fairest) (t := t12_fairest) rfl rfl ⟨by decide +kernel, by decide +kernel, rfl⟩ t12_fairest_d t12_fairest_b
theorem q_304 : qOK l adK adV D 304 := qOK_of (o := 12) (y := yX12_tens) (t := t12_tens) rfl rfl ⟨by decide +kernel, by decide +kernel, rfl⟩ t12_tens_d t12_tens_b
theorem q_305 : qOK l adK adV D 305 := qOK_of (o := 12) (y := yX12_common) (t := t12_common) rfl rfl ⟨by decide +kernel, by decide +kernel, rfl⟩ t12_common_d t12_common_b
theorem q_306 : qOK l adK adV D 306 := qOK_of (o := 12) (y := yX12_wholeOf) (t := t12_wholeOf) rfl rfl ⟨by decide +kernel, by decide +kernel, rfl⟩ t12_wholeOf_d t12_wholeOf_b
theorem q_307 : qOK l adK adV D 307 := qOK_of (o := 12) (y := yX12_snow) (t := t12_snow) rfl rfl ⟨by decide +kernel, by decide +kernel, rfl⟩ t12_snow_d t12_snow_b
theorem q_308 : qOK l adK adV D 308 := qOK_of (o := 12) (y := yX12_left) (t := t12_left) rfl rfl ⟨by decide +kernel, by decide +kernel, rfl⟩ t12_left_d t12_left_b
theorem q_309 : qOK l adK adV D 309 := qOK_of (o := 12) (y := yX12_cut1) (t := t12_cut1) rfl rfl ⟨by decide +kernel, by decide +kernel, rfl⟩ t12_cut1_d t12_cut1_b
theorem q_310 : qOK l adK adV D 310 := qOK_of (o := 12) (y := yX12_numbers) (t := t12_numbers) rfl rfl ⟨by decide +kernel, by decide +kernel, rfl⟩ t12_numbers_d t12_numbers_b
theorem q_311 : qOK l adK adV D 311 := qOK_of (o := 12) (y := yX12_write) (t := t12_write) rfl rfl ⟨by decide +kernel, by decide +kernel, rfl⟩ t12_write_d t12_write_b
theorem q_312 : qOK l adK adV D 312 := qOK_of (o := 12) (y := yX12_lists) (t := t12_lists) rfl rfl ⟨by decide +kernel, by decide +kernel, rfl⟩ t12_lists_d t12_lists_b
theorem q_313 : qOK l adK adV D 313 := qOK_of (o := 12) (y := yX12_image) (t := t12_image) rfl rfl ⟨by decide +kernel, by decide +kernel, rfl⟩ t12_image_d t12_image_b
theorem q_314 : qOK l adK adV D 314 := qOK_of (o := 12) (y := yX12_restore) (t := t12_restore) rfl rfl ⟨by decide +kernel, by decide +kernel, rfl⟩ t12_restore_d t12_restore_b
theorem q_315 : qOK l adK adV D 315 := qOK_of (o := 12) (y := yX12_mustAll) (t := t12_mustAll) rfl rfl ⟨by decide +kernel, by decide +kernel, rfl⟩ t12_mustAll_d t12_mustAll_b
theorem q_316 : qOK l adK adV D 316 := qOK_of (o := 12) (y := yX12_count) (t := t12_count) rfl rfl ⟨by decide +kernel, by decide +kernel, rfl⟩ t12_count_d t12_count_b
theorem q_317 : qOK l adK adV D 317 := qOK_of (o := 13) (y := yJ6_numberOfTrailingZeros_0f7a4) (t := tJ_numberOfTrailingZeros) rfl rfl ⟨by decide +kernel, by decide +kernel, rfl⟩ tJ_numberOfTrailingZeros_d tJ_numberOfTrailingZeros_b
theorem q_318 : qOK l adK adV D 318 := qOK_of (o := 13) (y := yJ6_bitCount_0f7a4) (t := tJ_bitCount) rfl rfl ⟨by decide +kernel, by decide +kernel, rfl⟩ tJ_bitCount_d tJ_bitCount_b
theorem qc_0 : ∀ i, i < 20 → qOK l adK adV D (20 * 0 + i)
  | 0, _ => q_0
  | 1, _ => q_1
  | 2, _ => q_2
  | 3, _ => q_3
  | 4, _ => q_4
  | 5, _ => q_5
  | 6, _ => q_6
  | 7, _ => q_7
  | 8, _ => q_8
  | 9, _ => q_9
  | 10, _ => q_10
  | 11, _ => q_11
  | 12, _ => q_12
  | 13, _ => q_13
  | 14, _ => q_14
  | 15, _ => q_15
  | 16, _ => q_16
  | 17, _ => q_17
  | 18, _ => q_18
  | 19, _ => q_19
  | i + 20, h => absurd h (by omega)
theorem qc_1 : ∀ i, i < 20 → qOK l adK adV D (20 * 1 + i)
  | 0, _ => q_20
  | 1, _ => q_21
  | 2, _ => q_22
  | 3, _ => q_23
  | 4, _ => q_24
  | 5, _ => q_25
  | 6, _ => q_26
  | 7, _ => q_27
  | 8, _ => q_28
  | 9, _ => q_29
  | 10, _ => q_30
  | 11, _ => q_31
  | 12, _ => q_32
  | 13, _ => q_33
  | 14, _ => q_34
  | 15, _ => q_35
  | 16, _ => q_36
  | 17, _ => q_37
  | 18, _ => q_38
  | 19, _ => q_39
  | i + 20, h => absurd h (by omega)
theorem qc_2 : ∀ i, i < 20 → qOK l adK adV D (20 * 2 + i)
  | 0, _ => q_40
  | 1, _ => q_41
  | 2, _ => q_42
  | 3, _ => q_43
  | 4, _ => q_44
  | 5, _ => q_45
  | 6, _ => q_46
  | 7, _ => q_47
  | 8, _ => q_48
  | 9, _ => q_49
  | 10, _ => q_50
  | 11, _ => q_51
  | 12, _ => q_52
  | 13, _ => q_53
  | 14, _ => q_54
  | 15, _ => q_55
  | 16, _ => q_56
  | 17, _ => q_57
  | 18, _ => q_58
  | 19, _ => q_59
  | i + 20, h => absurd h (by omega)
theorem qc_3 : ∀ i, i < 20 → qOK l adK adV D (20 * 3 + i)
  | 0, _ => q_60
  | 1, _ => q_61
  | 2, _ => q_62
  | 3, _ => q_63
  | 4, _ => q_64
  | 5, _ => q_65
  | 6, _ => q_66
  | 7, _ => q_67
  | 8, _ => q_68
  | 9, _ => q_69
  | 10, _ => q_70
  | 11, _ => q_71
  | 12, _ => q_72
  | 13, _ => q_73
  | 14, _ => q_74
  | 15, _ => q_75
  | 16, _ => q_76
  | 17, _ => q_77
  | 18, _ => q_78
  | 19, _ => q_79
  | i + 20, h => absurd h (by omega)
theorem qc_4 : ∀ i, i < 20 → qOK l adK adV D (20 * 4 + i)
  | 0, _ => q_80
  | 1, _ => q_81
  | 2, _ => q_82
  | 3, _ => q_83
  | 4, _ => q_84
  | 5, _ => q_85
  | 6, _ => q_86
  | 7, _ => q_87
  | 8, _ => q_88
  | 9, _ => q_89
  | 10, _ => q_90
  | 11, _ => q_91
  | 12, _ => q_92
  | 13, _ => q_93
  | 14, _ => q_94
  | 15, _ => q_95
  | 16, _ => q_96
  | 17, _ => q_97
  | 18, _ => q_98
  | 19, _ => q_99
  | i + 20, h => absurd h (by omega)
theorem qc_5 : ∀ i, i < 20 → qOK l adK adV D (20 * 5 + i)
  | 0, _ => q_100
  | 1, _ => q_101
  | 2, _ => q_102
  | 3, _ => q_103
  | 4, _ => q_104
  | 5, _ => q_105
  | 6, _ => q_106
  | 7, _ => q_107
  | 8, _ => q_108
  | 9, _ => q_109
  | 10, _ => q_110
  | 11, _ => q_111
  | 12, _ => q_112
  | 13, _ => q_113
  | 14, _ => q_114
  | 15, _ => q_115
  | 16, _ => q_116
  | 17, _ => q_117
  | 18, _ => q_118
  | 19, _ => q_119
  | i + 20, h => absurd h (by omega)
theorem qc_6 : ∀ i, i < 20 → qOK l adK adV D (20 * 6 + i)
  | 0, _ => q_120
  | 1, _ => q_121
  | 2, _ => q_122
  | 3, _ => q_123
  | 4, _ => q_124
  | 5, _ => q_125
  | 6, _ => q_126
  | 7, _ => q_127
  | 8, _ => q_128
  | 9, _ => q_129
  | 10, _ => q_130
  | 11, _ => q_131
  | 12, _ => q_132
  | 13, _ => q_133
  | 14, _ => q_134
  | 15, _ => q_135
  | 16, _ => q_136
  | 17, _ => q_137
  | 18, _ => q_138
  | 19, _ => q_139
  | i + 20, h => absurd h (by omega)
theorem qc_7 : ∀ i, i < 20 → qOK l adK adV D (20 * 7 + i)
  | 0, _ => q_140
  | 1, _ => q_141
  | 2, _ => q_142
  | 3, _ => q_143
  | 4, _ => q_144
  | 5, _ => q_145
  | 6, _ => q_146
  | 7, _ => q_147
  | 8, _ => q_148
  | 9, _ => q_149
  | 10, _ => q_150
  | 11, _ => q_151
  | 12, _ => q_152
  | 13, _ => q_153
  | 14, _ => q_154
  | 15, _ => q_155
  | 16, _ => q_156
  | 17, _ => q_157
  | 18, _ => q_158
  | 19, _ => q_159
  | i + 20, h => absurd h (by omega)
theorem qc_8 : ∀ i, i < 20 → qOK l adK adV D (20 * 8 + i)
  | 0, _ => q_160
  | 1, _ => q_161
  | 2, _ => q_162
  | 3, _ => q_163
  | 4, _ => q_164
  | 5, _ => q_165
  | 6, _ => q_166
  | 7, _ => q_167
  | 8, _ => q_168
  | 9, _ => q_169
  | 10, _ => q_170
  | 11, _ => q_171
  | 12, _ => q_172
  | 13, _ => q_173
  | 14, _ => q_174
  | 15, _ => q_175
  | 16, _ => q_176
  | 17, _ => q_177
  | 18, _ => q_178
  | 19, _ => q_179
  | i + 20, h => absurd h (by omega)
theorem qc_9 : ∀ i, i < 20 → qOK l adK adV D (20 * 9 + i)
  | 0, _ => q_180
  | 1, _ => q_181
  | 2, _ => q_182
  | 3, _ => q_183
  | 4, _ => q_184
  | 5, _ => q_185
  | 6, _ => q_186
  | 7, _ => q_187
  | 8, _ => q_188
  | 9, _ => q_189
  | 10, _ => q_190
  | 11, _ => q_191
  | 12, _ => q_192
  | 13, _ => q_193
  | 14, _ => q_194
  | 15, _ => q_195
  | 16, _ => q_196
  | 17, _ => q_197
  | 18, _ => q_198
  | 19, _ => q_199
  | i + 20, h => absurd h (by omega)
theorem qc_10 : ∀ i, i < 20 → qOK l adK adV D (20 * 10 + i)
  | 0, _ => q_200
  | 1, _ => q_201
  | 2, _ => q_202
  | 3, _ => q_203
  | 4, _ => q_204
  | 5, _ => q_205
  | 6, _ => q_206
  | 7, _ => q_207
  | 8, _ => q_208
  | 9, _ => q_209
  | 10, _ => q_210
  | 11, _ => q_211
  | 12, _ => q_212
  | 13, _ => q_213
  | 14, _ => q_214
  | 15, _ => q_215
  | 16, _ => q_216
  | 17, _ => q_217
  | 18, _ => q_218
  | 19, _ => q_219
  | i + 20, h => absurd h (by omega)
theorem qc_11 : ∀ i, i < 20 → qOK l adK adV D (20 * 11 + i)
  | 0, _ => q_220
  | 1, _ => q_221
  | 2, _ => q_222
  | 3, _ => q_223
  | 4, _ => q_224
  | 5, _ => q_225
  | 6, _ => q_226
  | 7, _ => q_227
  | 8, _ => q_228
  | 9, _ => q_229
  | 10, _ => q_230
  | 11, _ => q_231
  | 12, _ => q_232
  | 13, _ => q_233
  | 14, _ => q_234
  | 15, _ => q_235
  | 16, _ => q_236
  | 17, _ => q_237
  | 18, _ => q_238
  | 19, _ => q_239
  | i + 20, h => absurd h (by omega)
theorem qc_12 : ∀ i, i < 20 → qOK l adK adV D (20 * 12 + i)
  | 0, _ => q_240
  | 1, _ => q_241
  | 2, _ => q_242
  | 3, _ => q_243
  | 4, _ => q_244
  | 5, _ => q_245
  | 6, _ => q_246
  | 7, _ => q_247
  | 8, _ => q_248
  | 9, _ => q_249
  | 10, _ => q_250
  | 11, _ => q_251
  | 12, _ => q_252
  | 13, _ => q_253
  | 14, _ => q_254
  | 15, _ => q_255
  | 16, _ => q_256
  | 17, _ => q_257
  | 18, _ => q_258
  | 19, _ => q_259
  | i + 20, h => absurd h (by omega)
theorem qc_13 : ∀ i, i < 20 → qOK l adK adV D (20 * 13 + i)
  | 0, _ => q_260
  | 1, _ => q_261
  | 2, _ => q_262
  | 3, _ => q_263
  | 4, _ => q_264
  | 5, _ => q_265
  | 6, _ => q_266
  | 7, _ => q_267
  | 8, _ => q_268
  | 9, _ => q_269
  | 10, _ => q_270
  | 11, _ => q_271
  | 12, _ => q_272
  | 13, _ => q_273
  | 14, _ => q_274
  | 15, _ => q_275
  | 16, _ => q_276
  | 17, _ => q_277
  | 18, _ => q_278
  | 19, _ => q_279
  | i + 20, h => absurd h (by omega)
theorem qc_14 : ∀ i, i < 20 → qOK l adK adV D (20 * 14 + i)
  | 0, _ => q_280
  | 1, _ => q_281
  | 2, _ => q_282
  | 3, _ => q_283
  | 4, _ => q_284
  | 5, _ => q_285
  | 6, _ => q_286
  | 7, _ => q_287
  | 8, _ => q_288
  | 9, _ => q_289
  | 10, _ => q_290
  | 11, _ => q_291
  | 12, _ => q_292
  | 13, _ => q_293
  | 14, _ => q_294
  | 15, _ => q_295
  | 16, _ => q_296
  | 17, _ => q_297
  | 18, _ => q_298
  | 19, _ => q_299
  | i + 20, h => absurd h (by omega)
theorem qc_15 : ∀ i, i < 20 → qOK l adK adV D (20 * 15 + i)
  | 0, _ => q_300
  | 1, _ => q_301
  | 2, _ => q_302
  | 3, _ => q_303
  | 4, _ => q_304
  | 5, _ => q_305
  | 6, _ => q_306
  | 7, _ => q_307
  | 8, _ => q_308
  | 9, _ => q_309
  | 10, _ => q_310
  | 11, _ => q_311
  | 12, _ => q_312
  | 13, _ => q_313
  | 14, _ => q_314
  | 15, _ => q_315
  | 16, _ => q_316
  | 17, _ => q_317
  | 18, _ => q_318
  | 19, _ => qOK_none rfl
  | i + 20, h => absurd h (by omega)
theorem q_all (k : Nat) : qOK l adK adV D k := by
  rw [← Nat.div_add_mod k 20]
  have hl : k % 20 < 20 := Nat.mod_lt _ (by omega)
  generalize k / 20 = c
  generalize k % 20 = i at hl ⊢
  match c with
  | 0 => exact qc_0 i hl
  | 1 => exact qc_1 i hl
  | 2 => exact qc_2 i hl
  | 3 => exact qc_3 i hl
  | 4 => exact qc_4 i hl
  | 5 => exact qc_5 i hl
  | 6 => exact qc_6 i hl
  | 7 => exact qc_7 i hl
  | 8 => exact qc_8 i hl
  | 9 => exact qc_9 i hl
  | 10 => exact qc_10 i hl
  | 11 => exact qc_11 i hl
  | 12 => exact qc_12 i hl
  | 13 => exact qc_13 i hl
  | 14 => exact qc_14 i hl
  | 15 => exact qc_15 i hl
  | c + 16 =>
    refine qOK_none ?_
    unfold gT
    rw [show (20 * (c + 16) + i) / 20 = c + 16 by omega]
    rfl
theorem all_ok : ∀ d, IHd l gT gG (txA adK) (txs adK adV) D Ws d := sound (txs_ok adK adV) (fun k M hM => q_all k M hM)
end
