/-! ===== the law: its forty-eight cases (printed by program) ===== -/
section LAW
variable {p : Program} {l : Launch} {e : Env} {s : State} {m : MethodId} {below : List Frame} {meth : Method} {c : Code} {b L : Nat} {xs : Nat → Int32} {adK adV : Nat → Nat} {D : va_G} {Q : State → Prop}
variable {w : cQ} {n : Nat × Nat} {M R : Nat → Nat → Int} {i q1 q2 : Nat} {H : Heap} {locs : List Loc} {cells slots : Nat} {ls : Array Slot}
/-- what a case of the law asks -/
abbrev lwK (p : Program) (l : Launch) (e : Env) (s : State) (m : MethodId) (below : List Frame) (meth : Method) (c : Code) (b : Nat) (adK : Nat → Nat) (D : va_G) (Q : State → Prop) (q1 q2 : Nat) (ls : Array Slot) : Prop := ∀ (w' : cQ) (n' : Nat × Nat) (M' R' : Nat → Nat → Int) (H1 : Heap) (locs1 : List Loc) (c1 s1 : Nat), J w' n' M' R' → Two adK D s (hC w' M' n') q1 (hR R' (22, 40282)) q2 H1 locs1 c1 s1 → W p l e room_1 s m #[Value.ref b] below meth c H1 locs1 c1 s1 Q (F0 m 1709 ls [])
theorem lmc_0 : lwM 120 5 1 13 11 6 2230 2228 2229 1001 := ⟨by decide +kernel, by decide +kernel, Ws_in 2227 (by decide +kernel) (by decide +kernel), by omega, by decide +kernel⟩
theorem lmr_0 : lwM 185 5 1 17 12 8 7005 7003 7004 1013 := ⟨by decide +kernel, by decide +kernel, Ws_in 7002 (by decide +kernel) (by decide +kernel), by omega, by decide +kernel⟩
theorem lk_0 (C : LC p l s m meth c b L xs adK adV D) (h : J w n M R) (hi : i + 6 ≤ L) (hW : Two adK D s (hC w M n) q1 (hR R (22, 40282)) q2 H locs cells slots) (hl : lv_has ls 4 (lL b q1 q2 i)) (k : lwK p l e s m below meth c b adK D Q q1 q2 ls) : W p l e room_1 s m #[Value.ref b] below meth c H locs cells slots Q (F0 m 240 ls []) := by
  obtain ⟨L0, c0, h⟩ := h
  exact lw_caseI (n := 5) (T := 240) (off := 1411) (i1 := 13) (i2 := 17) C (by omega) ⟨by decide +kernel, by decide +kernel, by decide +kernel, by decide +kernel, by decide +kernel, by decide +kernel⟩ (by decide +kernel) (by decide) lmc_0 lmr_0 (j_feed _ _ _ _ _ h) hi hW hl k
theorem lmc_1 : lwM 122 1 1 18 11 3 2238 2236 2237 1001 := ⟨by decide +kernel, by decide +kernel, Ws_in 2235 (by decide +kernel) (by decide +kernel), by omega, by decide +kernel⟩
theorem lmr_1 : lwM 212 1 1 22 12 3 7009 7007 7008 1013 := ⟨by decide +kernel, by decide +kernel, Ws_in 7006 (by decide +kernel) (by decide +kernel), by omega, by decide +kernel⟩
theorem lk_1 (C : LC p l s m meth c b L xs adK adV D) (h : J w n M R) (hi : i + 6 ≤ L) (hW : Two adK D s (hC w M n) q1 (hR R (22, 40282)) q2 H locs cells slots) (hl : lv_has ls 4 (lL b q1 q2 i)) (k : lwK p l e s m below meth c b adK D Q q1 q2 ls) : W p l e room_1 s m #[Value.ref b] below meth c H locs cells slots Q (F0 m 303 ls []) := by
  obtain ⟨L0, c0, h⟩ := h
  exact lw_caseI (n := 1) (T := 303) (off := 1388) (i1 := 18) (i2 := 22) C (by omega) ⟨by decide +kernel, by decide +kernel, by decide +kernel, by decide +kernel, by decide +kernel, by decide +kernel⟩ (by decide +kernel) (by decide) lmc_1 lmr_1 (j_line _ h) hi hW hl k
theorem lmc_2 : lwM 123 1 1 23 11 2 4014 4012 4013 1001 := ⟨by decide +kernel, by decide +kernel, Ws_in 4011 (by decide +kernel) (by decide +kernel), by omega, by decide +kernel⟩
theorem lmr_2 : lwM 213 1 1 26 12 2 7120 7118 7119 1013 := ⟨by decide +kernel, by decide +kernel, Ws_in 7117 (by decide +kernel) (by decide +kernel), by omega, by decide +kernel⟩
theorem lk_2 (C : LC p l s m meth c b L xs adK adV D) (h : J w n M R) (hi : i + 6 ≤ L) (hW : Two adK D s (hC w M n) q1 (hR R (22, 40282)) q2 H locs cells slots) (hl : lv_has ls 4 (lL b q1 q2 i)) (k : lwK p l e s m below meth c b adK D Q q1 q2 ls) : W p l e room_1 s m #[Value.ref b] below meth c H locs cells slots Q (F0 m 326 ls []) := by
  obtain ⟨L0, c0, h⟩ := h
  exact lw_caseI (n := 1) (T := 326) (off := 1365) (i1 := 23) (i2 := 26) C (by omega) ⟨by decide +kernel, by decide +kernel, by decide +kernel, by decide +kernel, by decide +kernel, by decide +kernel⟩ (by decide +kernel) (by decide) lmc_2 lmr_2 (j_fault _ h) hi hW hl k
theorem lmc_3 : lwM 124 2 1 27 11 3 4018 4016 4017 1001 := ⟨by decide +kernel, by decide +kernel, Ws_in 4015 (by decide +kernel) (by decide +kernel), by omega, by decide +kernel⟩
theorem lmr_3 : lwM 229 2 1 31 12 3 7124 7122 7123 1013 := ⟨by decide +kernel, by decide +kernel, Ws_in 7121 (by decide +kernel) (by decide +kernel), by omega, by decide +kernel⟩
theorem lk_3 (C : LC p l s m meth c b L xs adK adV D) (h : J w n M R) (hi : i + 6 ≤ L) (hW : Two adK D s (hC w M n) q1 (hR R (22, 40282)) q2 H locs cells slots) (hl : lv_has ls 4 (lL b q1 q2 i)) (k : lwK p l e s m below meth c b adK D Q q1 q2 ls) : W p l e room_1 s m #[Value.ref b] below meth c H locs cells slots Q (F0 m 349 ls []) := by
  obtain ⟨L0, c0, h⟩ := h
  exact lw_caseI (n := 2) (T := 349) (off := 1332) (i1 := 27) (i2 := 31) C (by omega) ⟨by decide +kernel, by decide +kernel, by decide +kernel, by decide +kernel, by decide +kernel, by decide +kernel⟩ (by decide +kernel) (by decide) lmc_3 lmr_3 (j_farm _ _ h) hi hW hl k
theorem lmc_4 : lwM 125 2 1 32 11 3 4070 4068 4069 1001 := ⟨by decide +kernel, by decide +kernel, Ws_in 4067 (by decide +kernel) (by decide +kernel), by omega, by decide +kernel⟩
theorem lmr_4 : lwM 230 2 1 35 12 3 7160 7158 7159 1013 := ⟨by decide +kernel, by decide +kernel, Ws_in 7157 (by decide +kernel) (by decide +kernel), by omega, by decide +kernel⟩
theorem lk_4 (C : LC p l s m meth c b L xs adK adV D) (h : J w n M R) (hi : i + 6 ≤ L) (hW : Two adK D s (hC w M n) q1 (hR R (22, 40282)) q2 H locs cells slots) (hl : lv_has ls 4 (lL b q1 q2 i)) (k : lwK p l e s m below meth c b adK D Q q1 q2 ls) : W p l e room_1 s m #[Value.ref b] below meth c H locs cells slots Q (F0 m 382 ls []) := by
  obtain ⟨L0, c0, h⟩ := h
  exact lw_caseI (n := 2) (T := 382) (off := 1299) (i1 := 32) (i2 := 35) C (by omega) ⟨by decide +kernel, by decide +kernel, by decide +kernel, by decide +kernel, by decide +kernel, by decide +kernel⟩ (by decide +kernel) (by decide) lmc_4 lmr_4 (j_bit _ _ h) hi hW hl k
theorem lmc_5 : lwM 126 2 1 36 11 3 4082 4080 4081 1001 := ⟨by decide +kernel, by decide +kernel, Ws_in 4079 (by decide +kernel) (by decide +kernel), by omega, by decide +kernel⟩
theorem lmr_5 : lwM 231 2 1 39 12 3 7172 7170 7171 1013 := ⟨by decide +kernel, by decide +kernel, Ws_in 7169 (by decide +kernel) (by decide +kernel), by omega, by decide +kernel⟩
theorem lk_5 (C : LC p l s m meth c b L xs adK adV D) (h : J w n M R) (hi : i + 6 ≤ L) (hW : Two adK D s (hC w M n) q1 (hR R (22, 40282)) q2 H locs cells slots) (hl : lv_has ls 4 (lL b q1 q2 i)) (k : lwK p l e s m below meth c b adK D Q q1 q2 ls) : W p l e room_1 s m #[Value.ref b] below meth c H locs cells slots Q (F0 m 415 ls []) := by
  obtain ⟨L0, c0, h⟩ := h
  exact lw_caseI (n := 2) (T := 415) (off := 1266) (i1 := 36) (i2 := 39) C (by omega) ⟨by decide +kernel, by decide +kernel, by decide +kernel, by decide +kernel, by decide +kernel, by decide +kernel⟩ (by decide +kernel) (by decide) lmc_5 lmr_5 (j_wire _ _ h) hi hW hl k
theorem lmc_6 : lwM 127 2 1 40 11 3 4090 4088 4089 1001 := ⟨by decide +kernel, by decide +kernel, Ws_in 4087 (by decide +kernel) (by decide +kernel), by omega, by decide +kernel⟩
theorem lmr_6 : lwM 232 2 1 43 12 3 7180 7178 7179 1013 := ⟨by decide +kernel, by decide +kernel, Ws_in 7177 (by decide +kernel) (by decide +kernel), by omega, by decide +kernel⟩
theorem lk_6 (C : LC p l s m meth c b L xs adK adV D) (h : J w n M R) (hi : i + 6 ≤ L) (hW : Two adK D s (hC w M n) q1 (hR R (22, 40282)) q2 H locs cells slots) (hl : lv_has ls 4 (lL b q1 q2 i)) (k : lwK p l e s m below meth c b adK D Q q1 q2 ls) : W p l e room_1 s m #[Value.ref b] below meth c H locs cells slots Q (F0 m 448 ls []) := by
  obtain ⟨L0, c0, h⟩ := h
  exact lw_caseI (n := 2) (T := 448) (off := 1233) (i1 := 40) (i2 := 43) C (by omega) ⟨by decide +kernel, by decide +kernel, by decide +kernel, by decide +kernel, by decide +kernel, by decide +kernel⟩ (by decide +kernel) (by decide) lmc_6 lmr_6 (j_likes _ _ h) hi hW hl k
theorem lmc_7 : lwM 128 2 1 44 11 4 4103 4101 4102 1001 := ⟨by decide +kernel, by decide +kernel, Ws_in 4100 (by decide +kernel) (by decide +kernel), by omega, by decide +kernel⟩
theorem lmr_7 : lwM 239 2 1 47 12 5 7193 7191 7192 1013 := ⟨by decide +kernel, by decide +kernel, Ws_in 7190 (by decide +kernel) (by decide +kernel), by omega, by decide +kernel⟩
theorem lk_7 (C : LC p l s m meth c b L xs adK adV D) (h : J w n M R) (hi : i + 6 ≤ L) (hW : Two adK D s (hC w M n) q1 (hR R (22, 40282)) q2 H locs cells slots) (hl : lv_has ls 4 (lL b q1 q2 i)) (k : lwK p l e s m below meth c b adK D Q q1 q2 ls) : W p l e room_1 s m #[Value.ref b] below meth c H locs cells slots Q (F0 m 481 ls []) := by
  obtain ⟨L0, c0, h⟩ := h
  exact lw_caseI (n := 2) (T := 481) (off := 1200) (i1 := 44) (i2 := 47) C (by omega) ⟨by decide +kernel, by decide +kernel, by decide +kernel, by decide +kernel, by decide +kernel, by decide +kernel⟩ (by decide +kernel) (by decide) lmc_7 lmr_7 (j_tell _ _ h) hi hW hl k
theorem lmc_8 : lwM 129 1 1 48 11 2 4130 4128 4129 1001 := ⟨by decide +kernel, by decide +kernel, Ws_in 4127 (by decide +kernel) (by decide +kernel), by omega, by decide +kernel⟩
theorem lmr_8 : lwM 240 1 1 51 12 2 7223 7221 7222 1013 := ⟨by decide +kernel, by decide +kernel, Ws_in 7220 (by decide +kernel) (by decide +kernel), by omega, by decide +kernel⟩
theorem lk_8 (C : LC p l s m meth c b L xs adK adV D) (h : J w n M R) (hi : i + 6 ≤ L) (hW : Two adK D s (hC w M n) q1 (hR R (22, 40282)) q2 H locs cells slots) (hl : lv_has ls 4 (lL b q1 q2 i)) (k : lwK p l e s m below meth c b adK D Q q1 q2 ls) : W p l e room_1 s m #[Value.ref b] below meth c H locs cells slots Q (F0 m 514 ls []) := by
  obtain ⟨L0, c0, h⟩ := h
  exact lw_caseI (n := 1) (T := 514) (off := 1177) (i1 := 48) (i2 := 51) C (by omega) ⟨by decide +kernel, by decide +kernel, by decide +kernel, by decide +kernel, by decide +kernel, by decide +kernel⟩ (by decide +kernel) (by decide) lmc_8 lmr_8 (j_cut _ h) hi hW hl k
theorem lmc_9 : lwM 130 2 1 52 11 4 4134 4132 4133 1001 := ⟨by decide +kernel, by decide +kernel, Ws_in 4131 (by decide +kernel) (by decide +kernel), by omega, by decide +kernel⟩
theorem lmr_9 : lwM 241 2 1 55 12 3 7227 7225 7226 1013 := ⟨by decide +kernel, by decide +kernel, Ws_in 7224 (by decide +kernel) (by decide +kernel), by omega, by decide +kernel⟩
theorem lk_9 (C : LC p l s m meth c b L xs adK adV D) (h : J w n M R) (hi : i + 6 ≤ L) (hW : Two adK D s (hC w M n) q1 (hR R (22, 40282)) q2 H locs cells slots) (hl : lv_has ls 4 (lL b q1 q2 i)) (k : lwK p l e s m below meth c b adK D Q q1 q2 ls) : W p l e room_1 s m #[Value.ref b] below meth c H locs cells slots Q (F0 m 537 ls []) := by
  obtain ⟨L0, c0, h⟩ := h
  exact lw_caseI (n := 2) (T := 537) (off := 1144) (i1 := 52) (i2 := 55) C (by omega) ⟨by decide +kernel, by decide +kernel, by decide +kernel, by decide +kernel, by decide +kernel, by decide +kernel⟩ (by decide +kernel) (by decide) lmc_9 lmr_9 (j_mood _ _ h) hi hW hl k
theorem lmc_10 : lwM 131 1 1 56 11 4 4138 4136 4137 1001 := ⟨by decide +kernel, by decide +kernel, Ws_in 4135 (by decide +kernel) (by decide +kernel), by omega, by decide +kernel⟩
theorem lmr_10 : lwM 242 1 1 59 12 4 7232 7230 7231 1013 := ⟨by decide +kernel, by decide +kernel, Ws_in 7229 (by decide +kernel) (by decide +kernel), by omega, by decide +kernel⟩
theorem lk_10 (C : LC p l s m meth c b L xs adK adV D) (h : J w n M R) (hi : i + 6 ≤ L) (hW : Two adK D s (hC w M n) q1 (hR R (22, 40282)) q2 H locs cells slots) (hl : lv_has ls 4 (lL b q1 q2 i)) (k : lwK p l e s m below meth c b adK D Q q1 q2 ls) : W p l e room_1 s m #[Value.ref b] below meth c H locs cells slots Q (F0 m 570 ls []) := by
  obtain ⟨L0, c0, h⟩ := h
  exact lw_caseI (n := 1) (T := 570) (off := 1121) (i1 := 56) (i2 := 59) C (by omega) ⟨by decide +kernel, by decide +kernel, by decide +kernel, by decide +kernel, by decide +kernel, by decide +kernel⟩ (by decide +kernel) (by decide) lmc_10 lmr_10 (j_go _ h) hi hW hl k
theorem lmc_11 : lwM 132 1 1 60 11 2 4168 4166 4167 1001 := ⟨by decide +kernel, by decide +kernel, Ws_in 4165 (by decide +kernel) (by decide +kernel), by omega, by decide +kernel⟩
theorem lmr_11 : lwM 243 1 1 63 12 3 8001 7239 8000 1013 := ⟨by decide +kernel, by decide +kernel, Ws_in 7238 (by decide +kernel) (by decide +kernel), by omega, by decide +kernel⟩
theorem lk_11 (C : LC p l s m meth c b L xs adK adV D) (h : J w n M R) (hi : i + 6 ≤ L) (hW : Two adK D s (hC w M n) q1 (hR R (22, 40282)) q2 H locs cells slots) (hl : lv_has ls 4 (lL b q1 q2 i)) (k : lwK p l e s m below meth c b adK D Q q1 q2 ls) : W p l e room_1 s m #[Value.ref b] below meth c H locs cells slots Q (F0 m 593 ls []) := by
  obtain ⟨L0, c0, h⟩ := h
  exact lw_caseI (n := 1) (T := 593) (off := 1098) (i1 := 60) (i2 := 63) C (by omega) ⟨by decide +kernel, by decide +kernel, by decide +kernel, by decide +kernel, by decide +kernel, by decide +kernel⟩ (by decide +kernel) (by decide) lmc_11 lmr_11 (j_undo _ h) hi hW hl k
theorem lmc_12 : lwM 133 2 1 64 11 5 4176 4174 4175 1001 := ⟨by decide +kernel, by decide +kernel, Ws_in 4173 (by decide +kernel) (by decide +kernel), by omega, by decide +kernel⟩
theorem lmr_12 : lwM 250 2 1 67 12 7 8006 8004 8005 1013 := ⟨by decide +kernel, by decide +kernel, Ws_in 8003 (by decide +kernel) (by decide +kernel), by omega, by decide +kernel⟩
theorem lk_12 (C : LC p l s m meth c b L xs adK adV D) (h : J w n M R) (hi : i + 6 ≤ L) (hW : Two adK D s (hC w M n) q1 (hR R (22, 40282)) q2 H locs cells slots) (hl : lv_has ls 4 (lL b q1 q2 i)) (k : lwK p l e s m below meth c b adK D Q q1 q2 ls) : W p l e room_1 s m #[Value.ref b] below meth c H locs cells slots Q (F0 m 616 ls []) := by
  obtain ⟨L0, c0, h⟩ := h
  exact lw_caseI (n := 2) (T := 616) (off := 1065) (i1 := 64) (i2 := 67) C (by omega) ⟨by decide +kernel, by decide +kernel, by decide +kernel, by decide +kernel, by decide +kernel, by decide +kernel⟩ (by decide +kernel) (by decide) lmc_12 lmr_12 (j_judge _ _ h) hi hW hl k
theorem lmc_13 : lwM 135 1 1 68 11 2 4217 4215 4216 1001 := ⟨by decide +kernel, by decide +kernel, Ws_in 4214 (by decide +kernel) (by decide +kernel), by omega, by decide +kernel⟩
theorem lmr_13 : lwM 251 1 1 71 12 4 8046 8044 8045 1013 := ⟨by decide +kernel, by decide +kernel, Ws_in 8043 (by decide +kernel) (by decide +kernel), by omega, by decide +kernel⟩
theorem lk_13 (C : LC p l s m meth c b L xs adK adV D) (h : J w n M R) (hi : i + 6 ≤ L) (hW : Two adK D s (hC w M n) q1 (hR R (22, 40282)) q2 H locs cells slots) (hl : lv_has ls 4 (lL b q1 q2 i)) (k : lwK p l e s m below meth c b adK D Q q1 q2 ls) : W p l e room_1 s m #[Value.ref b] below meth c H locs cells slots Q (F0 m 649 ls []) := by
  obtain ⟨L0, c0, h⟩ := h
  exact lw_caseI (n := 1) (T := 649) (off := 1042) (i1 := 68) (i2 := 71) C (by omega) ⟨by decide +kernel, by decide +kernel, by decide +kernel, by decide +kernel, by decide +kernel, by decide +kernel⟩ (by decide +kernel) (by decide) lmc_13 lmr_13 (j_perform _ h) hi hW hl k
theorem lmc_14 : lwM 136 2 1 72 11 3 4225 4223 4224 1001 := ⟨by decide +kernel, by decide +kernel, Ws_in 4222 (by decide +kernel) (by decide +kernel), by omega, by decide +kernel⟩
theorem lmr_14 : lwM 254 2 1 75 12 6 8050 8048 8049 1013 := ⟨by decide +kernel, by decide +kernel, Ws_in 8047 (by decide +kernel) (by decide +kernel), by omega, by decide +kernel⟩
theorem lk_14 (C : LC p l s m meth c b L xs adK adV D) (h : J w n M R) (hi : i + 6 ≤ L) (hW : Two adK D s (hC w M n) q1 (hR R (22, 40282)) q2 H locs cells slots) (hl : lv_has ls 4 (lL b q1 q2 i)) (k : lwK p l e s m below meth c b adK D Q q1 q2 ls) : W p l e room_1 s m #[Value.ref b] below meth c H locs cells slots Q (F0 m 672 ls []) := by
  obtain ⟨L0, c0, h⟩ := h
  exact lw_caseI (n := 2) (T := 672) (off := 1009) (i1 := 72) (i2 := 75) C (by omega) ⟨by decide +kernel, by decide +kernel, by decide +kernel, by decide +kernel, by decide +kernel, by decide +kernel⟩ (by decide +kernel) (by decide) lmc_14 lmr_14 (j_winter _ _ h) hi hW hl k
theorem lmc_15 : lwM 138 1 1 76 11 2 5002 5000 5001 1001 := ⟨by decide +kernel, by decide +kernel, Ws_in 4239 (by decide +kernel) (by decide +kernel), by omega, by decide +kernel⟩
theorem lmr_15 : lwM 255 1 1 79 12 2 8064 8062 8063 1013 := ⟨by decide +kernel, by decide +kernel, Ws_in 8061 (by decide +kernel) (by decide +kernel), by omega, by decide +kernel⟩
theorem lk_15 (C : LC p l s m meth c b L xs adK adV D) (h : J w n M R) (hi : i + 6 ≤ L) (hW : Two adK D s (hC w M n) q1 (hR R (22, 40282)) q2 H locs cells slots) (hl : lv_has ls 4 (lL b q1 q2 i)) (k : lwK p l e s m below meth c b adK D Q q1 q2 ls) : W p l e room_1 s m #[Value.ref b] below meth c H locs cells slots Q (F0 m 705 ls []) := by
  obtain ⟨L0, c0, h⟩ := h
  exact lw_caseI (n := 1) (T := 705) (off := 986) (i1 := 76) (i2 := 79) C (by omega) ⟨by decide +kernel, by decide +kernel, by decide +kernel, by decide +kernel, by decide +kernel, by decide +kernel⟩ (by decide +kernel) (by decide) lmc_15 lmr_15 (j_heardBy _ h) hi hW hl k
theorem lmc_16 : lwM 139 0 1 80 11 5 5010 5008 5009 1001 := ⟨by decide +kernel, by decide +kernel, Ws_in 5007 (by decide +kernel) (by decide +kernel), by omega, by decide +kernel⟩
theorem lmr_16 : lwM 256 0 1 84 12 3 8068 8066 8067 1013 := ⟨by decide +kernel, by decide +kernel, Ws_in 8065 (by decide +kernel) (by decide +kernel), by omega, by decide +kernel⟩
theorem lk_16 (C : LC p l s m meth c b L xs adK adV D) (h : J w n M R) (hi : i + 6 ≤ L) (hW : Two adK D s (hC w M n) q1 (hR R (22, 40282)) q2 H locs cells slots) (hl : lv_has ls 4 (lL b q1 q2 i)) (k : lwK p l e s m below meth c b adK D Q q1 q2 ls) : W p l e room_1 s m #[Value.ref b] below meth c H locs cells slots Q (F0 m 728 ls []) := by
  obtain ⟨L0, c0, h⟩ := h
  exact lw_caseI (n := 0) (T := 728) (off := 973) (i1 := 80) (i2 := 84) C (by omega) ⟨by decide +kernel, by decide +kernel, by decide +kernel, by decide +kernel, by decide +kernel, by decide +kernel⟩ (by decide +kernel) (by decide) lmc_16 lmr_16 (j_ear h) hi hW hl k
theorem lmc_17 : lwM 140 2 1 85 11 3 5015 5013 5014 1001 := ⟨by decide +kernel, by decide +kernel, Ws_in 5012 (by decide +kernel) (by decide +kernel), by omega, by decide +kernel⟩
theorem lmr_17 : lwM 258 2 1 88 12 3 8072 8070 8071 1013 := ⟨by decide +kernel, by decide +kernel, Ws_in 8069 (by decide +kernel) (by decide +kernel), by omega, by decide +kernel⟩
theorem lk_17 (C : LC p l s m meth c b L xs adK adV D) (h : J w n M R) (hi : i + 6 ≤ L) (hW : Two adK D s (hC w M n) q1 (hR R (22, 40282)) q2 H locs cells slots) (hl : lv_has ls 4 (lL b q1 q2 i)) (k : lwK p l e s m below meth c b adK D Q q1 q2 ls) : W p l e room_1 s m #[Value.ref b] below meth c H locs cells slots Q (F0 m 741 ls []) := by
  obtain ⟨L0, c0, h⟩ := h
  exact lw_caseI (n := 2) (T := 741) (off := 940) (i1 := 85) (i2 := 88) C (by omega) ⟨by decide +kernel, by decide +kernel, by decide +kernel, by decide +kernel, by decide +kernel, by decide +kernel⟩ (by decide +kernel) (by decide) lmc_17 lmr_17 (j_needs _ _ h) hi hW hl k
theorem lmc_18 : lwM 141 0 1 89 11 1 5025 5023 5024 1001 := ⟨by decide +kernel, by decide +kernel, Ws_in 5022 (by decide +kernel) (by decide +kernel), by omega, by decide +kernel⟩
theorem lmr_18 : lwM 259 0 1 92 12 1 8080 8078 8079 1013 := ⟨by decide +kernel, by decide +kernel, Ws_in 8077 (by decide +kernel) (by decide +kernel), by omega, by decide +kernel⟩
theorem lk_18 (C : LC p l s m meth c b L xs adK adV D) (h : J w n M R) (hi : i + 6 ≤ L) (hW : Two adK D s (hC w M n) q1 (hR R (22, 40282)) q2 H locs cells slots) (hl : lv_has ls 4 (lL b q1 q2 i)) (k : lwK p l e s m below meth c b adK D Q q1 q2 ls) : W p l e room_1 s m #[Value.ref b] below meth c H locs cells slots Q (F0 m 774 ls []) := by
  obtain ⟨L0, c0, h⟩ := h
  exact lw_caseI (n := 0) (T := 774) (off := 927) (i1 := 89) (i2 := 92) C (by omega) ⟨by decide +kernel, by decide +kernel, by decide +kernel, by decide +kernel, by decide +kernel, by decide +kernel⟩ (by decide +kernel) (by decide) lmc_18 lmr_18 (j_pieces h) hi hW hl k
theorem lmc_19 : lwM 142 0 1 93 11 5 5029 5027 5028 1001 := ⟨by decide +kernel, by decide +kernel, Ws_in 5026 (by decide +kernel) (by decide +kernel), by omega, by decide +kernel⟩
theorem lmr_19 : lwM 260 0 1 96 12 6 8084 8082 8083 1013 := ⟨by decide +kernel, by decide +kernel, Ws_in 8081 (by decide +kernel) (by decide +kernel), by omega, by decide +kernel⟩
theorem lk_19 (C : LC p l s m meth c b L xs adK adV D) (h : J w n M R) (hi : i + 6 ≤ L) (hW : Two adK D s (hC w M n) q1 (hR R (22, 40282)) q2 H locs cells slots) (hl : lv_has ls 4 (lL b q1 q2 i)) (k : lwK p l e s m below meth c b adK D Q q1 q2 ls) : W p l e room_1 s m #[Value.ref b] below meth c H locs cells slots Q (F0 m 787 ls []) := by
  obtain ⟨L0, c0, h⟩ := h
  exact lw_caseI (n := 0) (T := 787) (off := 914) (i1 := 93) (i2 := 96) C (by omega) ⟨by decide +kernel, by decide +kernel, by decide +kernel, by decide +kernel, by decide +kernel, by decide +kernel⟩ (by decide +kernel) (by decide) lmc_19 lmr_19 (j_listeners h) hi hW hl k
theorem lmc_20 : lwM 144 1 1 97 11 2 5037 5035 5036 1001 := ⟨by decide +kernel, by decide +kernel, Ws_in 5034 (by decide +kernel) (by decide +kernel), by omega, by decide +kernel⟩
theorem lmr_20 : lwM 263 1 1 100 12 5 8088 8086 8087 1013 := ⟨by decide +kernel, by decide +kernel, Ws_in 8085 (by decide +kernel) (by decide +kernel), by omega, by decide +kernel⟩
theorem lk_20 (C : LC p l s m meth c b L xs adK adV D) (h : J w n M R) (hi : i + 6 ≤ L) (hW : Two adK D s (hC w M n) q1 (hR R (22, 40282)) q2 H locs cells slots) (hl : lv_has ls 4 (lL b q1 q2 i)) (k : lwK p l e s m below meth c b adK D Q q1 q2 ls) : W p l e room_1 s m #[Value.ref b] below meth c H locs cells slots Q (F0 m 800 ls []) := by
  obtain ⟨L0, c0, h⟩ := h
  exact lw_caseI (n := 1) (T := 800) (off := 891) (i1 := 97) (i2 := 100) C (by omega) ⟨by decide +kernel, by decide +kernel, by decide +kernel, by decide +kernel, by decide +kernel, by decide +kernel⟩ (by decide +kernel) (by decide) lmc_20 lmr_20 (j_reach _ h) hi hW hl k
theorem lmc_21 : lwM 145 2 1 101 11 3 5049 5047 5048 1001 := ⟨by decide +kernel, by decide +kernel, Ws_in 5046 (by decide +kernel) (by decide +kernel), by omega, by decide +kernel⟩
theorem lmr_21 : lwM 269 2 1 104 12 3 8096 8094 8095 1013 := ⟨by decide +kernel, by decide +kernel, Ws_in 8093 (by decide +kernel) (by decide +kernel), by omega, by decide +kernel⟩
theorem lk_21 (C : LC p l s m meth c b L xs adK adV D) (h : J w n M R) (hi : i + 6 ≤ L) (hW : Two adK D s (hC w M n) q1 (hR R (22, 40282)) q2 H locs cells slots) (hl : lv_has ls 4 (lL b q1 q2 i)) (k : lwK p l e s m below meth c b adK D Q q1 q2 ls) : W p l e room_1 s m #[Value.ref b] below meth c H locs cells slots Q (F0 m 823 ls []) := by
  obtain ⟨L0, c0, h⟩ := h
  exact lw_caseI (n := 2) (T := 823) (off := 858) (i1 := 101) (i2 := 104) C (by omega) ⟨by decide +kernel, by decide +kernel, by decide +kernel, by decide +kernel, by decide +kernel, by decide +kernel⟩ (by decide +kernel) (by decide) lmc_21 lmr_21 (j_fewest _ _ h) hi hW hl k
theorem lmc_22 : lwM 146 3 1 105 11 4 5097 5095 5096 1001 := ⟨by decide +kernel, by decide +kernel, Ws_in 5094 (by decide +kernel) (by decide +kernel), by omega, by decide +kernel⟩
theorem lmr_22 : lwM 271 3 1 109 12 4 8125 8123 8124 1013 := ⟨by decide +kernel, by decide +kernel, Ws_in 8122 (by decide +kernel) (by decide +kernel), by omega, by decide +kernel⟩
theorem lk_22 (C : LC p l s m meth c b L xs adK adV D) (h : J w n M R) (hi : i + 6 ≤ L) (hW : Two adK D s (hC w M n) q1 (hR R (22, 40282)) q2 H locs cells slots) (hl : lv_has ls 4 (lL b q1 q2 i)) (k : lwK p l e s m below meth c b adK D Q q1 q2 ls) : W p l e room_1 s m #[Value.ref b] below meth c H locs cells slots Q (F0 m 856 ls []) := by
  obtain ⟨L0, c0, h⟩ := h
  exact lw_caseI (n := 3) (T := 856) (off := 815) (i1 := 105) (i2 := 109) C (by omega) ⟨by decide +kernel, by decide +kernel, by decide +kernel, by decide +kernel, by decide +kernel, by decide +kernel⟩ (by decide +kernel) (by decide) lmc_22 lmr_22 (j_way _ _ _ h) hi hW hl k
theorem lmc_23 : lwM 147 3 2 110 11 4 5110 5108 5109 1001 := ⟨by decide +kernel, by decide +kernel, Ws_in 5107 (by decide +kernel) (by decide +kernel), by omega, by decide +kernel⟩
theorem lmr_23 : lwM 274 3 2 114 12 5 8133 8131 8132 1013 := ⟨by decide +kernel, by decide +kernel, Ws_in 8130 (by decide +kernel) (by decide +kernel), by omega, by decide +kernel⟩
theorem lk_23 (C : LC p l s m meth c b L xs adK adV D) (h : J w n M R) (hi : i + 6 ≤ L) (hW : Two adK D s (hC w M n) q1 (hR R (22, 40282)) q2 H locs cells slots) (hl : lv_has ls 4 (lL b q1 q2 i)) (k : lwK p l e s m below meth c b adK D Q q1 q2 ls) : W p l e room_1 s m #[Value.ref b] below meth c H locs cells slots Q (F0 m 899 ls []) := by
  obtain ⟨L0, c0, h⟩ := h
  exact lw_caseL (n := 3) (T := 899) (off := 771) (i1 := 110) (i2 := 114) C (by omega) ⟨by decide +kernel, by decide +kernel, by decide +kernel, by decide +kernel, by decide +kernel, by decide +kernel⟩ (by decide +kernel) (by decide +kernel) (by decide) lmc_23 lmr_23 (j_ways _ _ _ h) hi hW hl k
theorem lmc_24 : lwM 148 2 1 115 11 3 5120 5118 5119 1001 := ⟨by decide +kernel, by decide +kernel, Ws_in 5117 (by decide +kernel) (by decide +kernel), by omega, by decide +kernel⟩
theorem lmr_24 : lwM 275 2 1 118 12 3 8148 8146 8147 1013 := ⟨by decide +kernel, by decide +kernel, Ws_in 8145 (by decide +kernel) (by decide +kernel), by omega, by decide +kernel⟩
theorem lk_24 (C : LC p l s m meth c b L xs adK adV D) (h : J w n M R) (hi : i + 6 ≤ L) (hW : Two adK D s (hC w M n) q1 (hR R (22, 40282)) q2 H locs cells slots) (hl : lv_has ls 4 (lL b q1 q2 i)) (k : lwK p l e s m below meth c b adK D Q q1 q2 ls) : W p l e room_1 s m #[Value.ref b] below meth c H locs cells slots Q (F0 m 943 ls []) := by
  obtain ⟨L0, c0, h⟩ := h
  exact lw_caseI (n := 2) (T := 943) (off := 738) (i1 := 115) (i2 := 118) C (by omega) ⟨by decide +kernel, by decide +kernel, by decide +kernel, by decide +kernel, by decide +kernel, by decide +kernel⟩ (by decide +kernel) (by decide) lmc_24 lmr_24 (j_full _ _ h) hi hW hl k
theorem lmc_25 : lwM 149 3 1 119 11 4 5124 5122 5123 1001 := ⟨by decide +kernel, by decide +kernel, Ws_in 5121 (by decide +kernel) (by decide +kernel), by omega, by decide +kernel⟩
theorem lmr_25 : lwM 276 3 1 122 12 4 8152 8150 8151 1013 := ⟨by decide +kernel, by decide +kernel, Ws_in 8149 (by decide +kernel) (by decide +kernel), by omega, by decide +kernel⟩
theorem lk_25 (C : LC p l s m meth c b L xs adK adV D) (h : J w n M R) (hi : i + 6 ≤ L) (hW : Two adK D s (hC w M n) q1 (hR R (22, 40282)) q2 H locs cells slots) (hl : lv_has ls 4 (lL b q1 q2 i)) (k : lwK p l e s m below meth c b adK D Q q1 q2 ls) : W p l e room_1 s m #[Value.ref b] below meth c H locs cells slots Q (F0 m 976 ls []) := by
  obtain ⟨L0, c0, h⟩ := h
  exact lw_caseI (n := 3) (T := 976) (off := 695) (i1 := 119) (i2 := 122) C (by omega) ⟨by decide +kernel, by decide +kernel, by decide +kernel, by decide +kernel, by decide +kernel, by decide +kernel⟩ (by decide +kernel) (by decide) lmc_25 lmr_25 (j_fullWay _ _ _ h) hi hW hl k
theorem lmc_26 : lwM 151 0 1 123 11 4 5128 5126 5127 1001 := ⟨by decide +kernel, by decide +kernel, Ws_in 5125 (by decide +kernel) (by decide +kernel), by omega, by decide +kernel⟩
theorem lmr_26 : lwM 277 0 1 126 12 5 8156 8154 8155 1013 := ⟨by decide +kernel, by decide +kernel, Ws_in 8153 (by decide +kernel) (by decide +kernel), by omega, by decide +kernel⟩
theorem lk_26 (C : LC p l s m meth c b L xs adK adV D) (h : J w n M R) (hi : i + 6 ≤ L) (hW : Two adK D s (hC w M n) q1 (hR R (22, 40282)) q2 H locs cells slots) (hl : lv_has ls 4 (lL b q1 q2 i)) (k : lwK p l e s m below meth c b adK D Q q1 q2 ls) : W p l e room_1 s m #[Value.ref b] below meth c H locs cells slots Q (F0 m 1019 ls []) := by
  obtain ⟨L0, c0, h⟩ := h
  exact lw_caseI (n := 0) (T := 1019) (off := 682) (i1 := 123) (i2 := 126) C (by omega) ⟨by decide +kernel, by decide +kernel, by decide +kernel, by decide +kernel, by decide +kernel, by decide +kernel⟩ (by decide +kernel) (by decide) lmc_26 lmr_26 (j_ends h) hi hW hl k
theorem lmc_27 : lwM 152 2 1 127 11 3 5133 5131 5132 1001 := ⟨by decide +kernel, by decide +kernel, Ws_in 5130 (by decide +kernel) (by decide +kernel), by omega, by decide +kernel⟩
theorem lmr_27 : lwM 282 2 1 130 12 3 8160 8158 8159 1013 := ⟨by decide +kernel, by decide +kernel, Ws_in 8157 (by decide +kernel) (by decide +kernel), by omega, by decide +kernel⟩
theorem lk_27 (C : LC p l s m meth c b L xs adK adV D) (h : J w n M R) (hi : i + 6 ≤ L) (hW : Two adK D s (hC w M n) q1 (hR R (22, 40282)) q2 H locs cells slots) (hl : lv_has ls 4 (lL b q1 q2 i)) (k : lwK p l e s m below meth c b adK D Q q1 q2 ls) : W p l e room_1 s m #[Value.ref b] below meth c H locs cells slots Q (F0 m 1032 ls []) := by
  obtain ⟨L0, c0, h⟩ := h
  exact lw_caseI (n := 2) (T := 1032) (off := 649) (i1 := 127) (i2 := 130) C (by omega) ⟨by decide +kernel, by decide +kernel, by decide +kernel, by decide +kernel, by decide +kernel, by decide +kernel⟩ (by decide +kernel) (by decide) lmc_27 lmr_27 (j_forces _ _ h) hi hW hl k
theorem lmc_28 : lwM 153 1 1 131 11 4 5155 5153 5154 1001 := ⟨by decide +kernel, by decide +kernel, Ws_in 5152 (by decide +kernel) (by decide +kernel), by omega, by decide +kernel⟩
theorem lmr_28 : lwM 283 1 1 134 12 4 8179 8177 8178 1013 := ⟨by decide +kernel, by decide +kernel, Ws_in 8176 (by decide +kernel) (by decide +kernel), by omega, by decide +kernel⟩
theorem lk_28 (C : LC p l s m meth c b L xs adK adV D) (h : J w n M R) (hi : i + 6 ≤ L) (hW : Two adK D s (hC w M n) q1 (hR R (22, 40282)) q2 H locs cells slots) (hl : lv_has ls 4 (lL b q1 q2 i)) (k : lwK p l e s m below meth c b adK D Q q1 q2 ls) : W p l e room_1 s m #[Value.ref b] below meth c H locs cells slots Q (F0 m 1065 ls []) := by
  obtain ⟨L0, c0, h⟩ := h
  exact lw_caseI (n := 1) (T := 1065) (off := 626) (i1 := 131) (i2 := 134) C (by omega) ⟨by decide +kernel, by decide +kernel, by decide +kernel, by decide +kernel, by decide +kernel, by decide +kernel⟩ (by decide +kernel) (by decide) lmc_28 lmr_28 (j_power _ h) hi hW hl k
theorem lmc_29 : lwM 154 2 1 135 11 3 5159 5157 5158 1001 := ⟨by decide +kernel, by decide +kernel, Ws_in 5156 (by decide +kernel) (by decide +kernel), by omega, by decide +kernel⟩
theorem lmr_29 : lwM 284 2 1 138 12 5 8183 8181 8182 1013 := ⟨by decide +kernel, by decide +kernel, Ws_in 8180 (by decide +kernel) (by decide +kernel), by omega, by decide +kernel⟩
theorem lk_29 (C : LC p l s m meth c b L xs adK adV D) (h : J w n M R) (hi : i + 6 ≤ L) (hW : Two adK D s (hC w M n) q1 (hR R (22, 40282)) q2 H locs cells slots) (hl : lv_has ls 4 (lL b q1 q2 i)) (k : lwK p l e s m below meth c b adK D Q q1 q2 ls) : W p l e room_1 s m #[Value.ref b] below meth c H locs cells slots Q (F0 m 1088 ls []) := by
  obtain ⟨L0, c0, h⟩ := h
  exact lw_caseI (n := 2) (T := 1088) (off := 593) (i1 := 135) (i2 := 138) C (by omega) ⟨by decide +kernel, by decide +kernel, by decide +kernel, by decide +kernel, by decide +kernel, by decide +kernel⟩ (by decide +kernel) (by decide) lmc_29 lmr_29 (j_best _ _ h) hi hW hl k
theorem lmc_30 : lwM 155 2 1 139 11 4 5170 5168 5169 1001 := ⟨by decide +kernel, by decide +kernel, Ws_in 5167 (by decide +kernel) (by decide +kernel), by omega, by decide +kernel⟩
theorem lmr_30 : lwM 285 2 1 142 12 4 8187 8185 8186 1013 := ⟨by decide +kernel, by decide +kernel, Ws_in 8184 (by decide +kernel) (by decide +kernel), by omega, by decide +kernel⟩
theorem lk_30 (C : LC p l s m meth c b L xs adK adV D) (h : J w n M R) (hi : i + 6 ≤ L) (hW : Two adK D s (hC w M n) q1 (hR R (22, 40282)) q2 H locs cells slots) (hl : lv_has ls 4 (lL b q1 q2 i)) (k : lwK p l e s m below meth c b adK D Q q1 q2 ls) : W p l e room_1 s m #[Value.ref b] below meth c H locs cells slots Q (F0 m 1121 ls []) := by
  obtain ⟨L0, c0, h⟩ := h
  exact lw_caseI (n := 2) (T := 1121) (off := 560) (i1 := 139) (i2 := 142) C (by omega) ⟨by decide +kernel, by decide +kernel, by decide +kernel, by decide +kernel, by decide +kernel, by decide +kernel⟩ (by decide +kernel) (by decide) lmc_30 lmr_30 (j_ally _ _ h) hi hW hl k
theorem lmc_31 : lwM 156 0 1 143 11 1 5174 5172 5173 1001 := ⟨by decide +kernel, by decide +kernel, Ws_in 5171 (by decide +kernel) (by decide +kernel), by omega, by decide +kernel⟩
theorem lmr_31 : lwM 286 0 1 146 12 1 8191 8189 8190 1013 := ⟨by decide +kernel, by decide +kernel, Ws_in 8188 (by decide +kernel) (by decide +kernel), by omega, by decide +kernel⟩
theorem lk_31 (C : LC p l s m meth c b L xs adK adV D) (h : J w n M R) (hi : i + 6 ≤ L) (hW : Two adK D s (hC w M n) q1 (hR R (22, 40282)) q2 H locs cells slots) (hl : lv_has ls 4 (lL b q1 q2 i)) (k : lwK p l e s m below meth c b adK D Q q1 q2 ls) : W p l e room_1 s m #[Value.ref b] below meth c H locs cells slots Q (F0 m 1154 ls []) := by
  obtain ⟨L0, c0, h⟩ := h
  exact lw_caseI (n := 0) (T := 1154) (off := 547) (i1 := 143) (i2 := 146) C (by omega) ⟨by decide +kernel, by decide +kernel, by decide +kernel, by decide +kernel, by decide +kernel, by decide +kernel⟩ (by decide +kernel) (by decide) lmc_31 lmr_31 (j_tales h) hi hW hl k
theorem lmc_32 : lwM 157 2 1 147 11 3 5178 5176 5177 1001 := ⟨by decide +kernel, by decide +kernel, Ws_in 5175 (by decide +kernel) (by decide +kernel), by omega, by decide +kernel⟩
theorem lmr_32 : lwM 291 2 1 150 12 3 8195 8193 8194 1013 := ⟨by decide +kernel, by decide +kernel, Ws_in 8192 (by decide +kernel) (by decide +kernel), by omega, by decide +kernel⟩
theorem lk_32 (C : LC p l s m meth c b L xs adK adV D) (h : J w n M R) (hi : i + 6 ≤ L) (hW : Two adK D s (hC w M n) q1 (hR R (22, 40282)) q2 H locs cells slots) (hl : lv_has ls 4 (lL b q1 q2 i)) (k : lwK p l e s m below meth c b adK D Q q1 q2 ls) : W p l e room_1 s m #[Value.ref b] below meth c H locs cells slots Q (F0 m 1167 ls []) := by
  obtain ⟨L0, c0, h⟩ := h
  exact lw_caseI (n := 2) (T := 1167) (off := 514) (i1 := 147) (i2 := 150) C (by omega) ⟨by decide +kernel, by decide +kernel, by decide +kernel, by decide +kernel, by decide +kernel, by decide +kernel⟩ (by decide +kernel) (by decide) lmc_32 lmr_32 (j_joins _ _ h) hi hW hl k
theorem lmc_33 : lwM 158 3 1 151 11 4 5206 5204 5205 1001 := ⟨by decide +kernel, by decide +kernel, Ws_in 5203 (by decide +kernel) (by decide +kernel), by omega, by decide +kernel⟩
theorem lmr_33 : lwM 292 3 1 154 12 5 8215 8213 8214 1013 := ⟨by decide +kernel, by decide +kernel, Ws_in 8212 (by decide +kernel) (by decide +kernel), by omega, by decide +kernel⟩
theorem lk_33 (C : LC p l s m meth c b L xs adK adV D) (h : J w n M R) (hi : i + 6 ≤ L) (hW : Two adK D s (hC w M n) q1 (hR R (22, 40282)) q2 H locs cells slots) (hl : lv_has ls 4 (lL b q1 q2 i)) (k : lwK p l e s m below meth c b adK D Q q1 q2 ls) : W p l e room_1 s m #[Value.ref b] below meth c H locs cells slots Q (F0 m 1200 ls []) := by
  obtain ⟨L0, c0, h⟩ := h
  exact lw_caseI (n := 3) (T := 1200) (off := 471) (i1 := 151) (i2 := 154) C (by omega) ⟨by decide +kernel, by decide +kernel, by decide +kernel, by decide +kernel, by decide +kernel, by decide +kernel⟩ (by decide +kernel) (by decide) lmc_33 lmr_33 (j_joinBy _ _ _ h) hi hW hl k
theorem lmc_34 : lwM 159 2 2 155 11 4 5210 5208 5209 1001 := ⟨by decide +kernel, by decide +kernel, Ws_in 5207 (by decide +kernel) (by decide +kernel), by omega, by decide +kernel⟩
theorem lmr_34 : lwM 296 2 2 159 12 4 8219 8217 8218 1013 := ⟨by decide +kernel, by decide +kernel, Ws_in 8216 (by decide +kernel) (by decide +kernel), by omega, by decide +kernel⟩
theorem lk_34 (C : LC p l s m meth c b L xs adK adV D) (h : J w n M R) (hi : i + 6 ≤ L) (hW : Two adK D s (hC w M n) q1 (hR R (22, 40282)) q2 H locs cells slots) (hl : lv_has ls 4 (lL b q1 q2 i)) (k : lwK p l e s m below meth c b adK D Q q1 q2 ls) : W p l e room_1 s m #[Value.ref b] below meth c H locs cells slots Q (F0 m 1243 ls []) := by
  obtain ⟨L0, c0, h⟩ := h
  exact lw_caseL (n := 2) (T := 1243) (off := 437) (i1 := 155) (i2 := 159) C (by omega) ⟨by decide +kernel, by decide +kernel, by decide +kernel, by decide +kernel, by decide +kernel, by decide +kernel⟩ (by decide +kernel) (by decide +kernel) (by decide) lmc_34 lmr_34 (j_rows _ _ h) hi hW hl k
theorem lmc_35 : lwM 160 3 1 160 11 6 6001 5239 6000 1001 := ⟨by decide +kernel, by decide +kernel, Ws_in 5238 (by decide +kernel) (by decide +kernel), by omega, by decide +kernel⟩
theorem lmr_35 : lwM 297 3 1 163 12 8 8236 8234 8235 1013 := ⟨by decide +kernel, by decide +kernel, Ws_in 8233 (by decide +kernel) (by decide +kernel), by omega, by decide +kernel⟩
theorem lk_35 (C : LC p l s m meth c b L xs adK adV D) (h : J w n M R) (hi : i + 6 ≤ L) (hW : Two adK D s (hC w M n) q1 (hR R (22, 40282)) q2 H locs cells slots) (hl : lv_has ls 4 (lL b q1 q2 i)) (k : lwK p l e s m below meth c b adK D Q q1 q2 ls) : W p l e room_1 s m #[Value.ref b] below meth c H locs cells slots Q (F0 m 1277 ls []) := by
  obtain ⟨L0, c0, h⟩ := h
  exact lw_caseI (n := 3) (T := 1277) (off := 394) (i1 := 160) (i2 := 163) C (by omega) ⟨by decide +kernel, by decide +kernel, by decide +kernel, by decide +kernel, by decide +kernel, by decide +kernel⟩ (by decide +kernel) (by decide) lmc_35 lmr_35 (j_sureBit _ _ _ h) hi hW hl k
theorem lmc_36 : lwM 162 1 2 164 11 3 6021 6019 6020 1001 := ⟨by decide +kernel, by decide +kernel, Ws_in 6018 (by decide +kernel) (by decide +kernel), by omega, by decide +kernel⟩
theorem lmr_36 : lwM 299 1 2 168 12 3 9000 8238 8239 1013 := ⟨by decide +kernel, by decide +kernel, Ws_in 8237 (by decide +kernel) (by decide +kernel), by omega, by decide +kernel⟩
theorem lk_36 (C : LC p l s m meth c b L xs adK adV D) (h : J w n M R) (hi : i + 6 ≤ L) (hW : Two adK D s (hC w M n) q1 (hR R (22, 40282)) q2 H locs cells slots) (hl : lv_has ls 4 (lL b q1 q2 i)) (k : lwK p l e s m below meth c b adK D Q q1 q2 ls) : W p l e room_1 s m #[Value.ref b] below meth c H locs cells slots Q (F0 m 1320 ls []) := by
  obtain ⟨L0, c0, h⟩ := h
  exact lw_caseL (n := 1) (T := 1320) (off := 370) (i1 := 164) (i2 := 168) C (by omega) ⟨by decide +kernel, by decide +kernel, by decide +kernel, by decide +kernel, by decide +kernel, by decide +kernel⟩ (by decide +kernel) (by decide +kernel) (by decide) lmc_36 lmr_36 (j_tellers _ h) hi hW hl k
theorem lmc_37 : lwM 163 2 1 169 11 4 6034 6032 6033 1001 := ⟨by decide +kernel, by decide +kernel, Ws_in 6031 (by decide +kernel) (by decide +kernel), by omega, by decide +kernel⟩
theorem lmr_37 : lwM 300 2 1 172 12 6 9008 9006 9007 1013 := ⟨by decide +kernel, by decide +kernel, Ws_in 9005 (by decide +kernel) (by decide +kernel), by omega, by decide +kernel⟩
theorem lk_37 (C : LC p l s m meth c b L xs adK adV D) (h : J w n M R) (hi : i + 6 ≤ L) (hW : Two adK D s (hC w M n) q1 (hR R (22, 40282)) q2 H locs cells slots) (hl : lv_has ls 4 (lL b q1 q2 i)) (k : lwK p l e s m below meth c b adK D Q q1 q2 ls) : W p l e room_1 s m #[Value.ref b] below meth c H locs cells slots Q (F0 m 1344 ls []) := by
  obtain ⟨L0, c0, h⟩ := h
  exact lw_caseI (n := 2) (T := 1344) (off := 337) (i1 := 169) (i2 := 172) C (by omega) ⟨by decide +kernel, by decide +kernel, by decide +kernel, by decide +kernel, by decide +kernel, by decide +kernel⟩ (by decide +kernel) (by decide) lmc_37 lmr_37 (j_teller _ _ h) hi hW hl k
theorem lmc_38 : lwM 165 0 1 173 11 3 6045 6043 6044 1001 := ⟨by decide +kernel, by decide +kernel, Ws_in 6042 (by decide +kernel) (by decide +kernel), by omega, by decide +kernel⟩
theorem lmr_38 : lwM 301 0 1 176 12 6 9012 9010 9011 1013 := ⟨by decide +kernel, by decide +kernel, Ws_in 9009 (by decide +kernel) (by decide +kernel), by omega, by decide +kernel⟩
theorem lk_38 (C : LC p l s m meth c b L xs adK adV D) (h : J w n M R) (hi : i + 6 ≤ L) (hW : Two adK D s (hC w M n) q1 (hR R (22, 40282)) q2 H locs cells slots) (hl : lv_has ls 4 (lL b q1 q2 i)) (k : lwK p l e s m below meth c b adK D Q q1 q2 ls) : W p l e room_1 s m #[Value.ref b] below meth c H locs cells slots Q (F0 m 1377 ls []) := by
  obtain ⟨L0, c0, h⟩ := h
  exact lw_caseI (n := 0) (T := 1377) (off := 324) (i1 := 173) (i2 := 176) C (by omega) ⟨by decide +kernel, by decide +kernel, by decide +kernel, by decide +kernel, by decide +kernel, by decide +kernel⟩ (by decide +kernel) (by decide) lmc_38 lmr_38 (j_better h) hi hW hl k
theorem lmc_39 : lwM 167 0 1 177 11 3 6053 6051 6052 1001 := ⟨by decide +kernel, by decide +kernel, Ws_in 6050 (by decide +kernel) (by decide +kernel), by omega, by decide +kernel⟩
theorem lmr_39 : lwM 303 0 1 180 12 3 9016 9014 9015 1013 := ⟨by decide +kernel, by decide +kernel, Ws_in 9013 (by decide +kernel) (by decide +kernel), by omega, by decide +kernel⟩
theorem lk_39 (C : LC p l s m meth c b L xs adK adV D) (h : J w n M R) (hi : i + 6 ≤ L) (hW : Two adK D s (hC w M n) q1 (hR R (22, 40282)) q2 H locs cells slots) (hl : lv_has ls 4 (lL b q1 q2 i)) (k : lwK p l e s m below meth c b adK D Q q1 q2 ls) : W p l e room_1 s m #[Value.ref b] below meth c H locs cells slots Q (F0 m 1390 ls []) := by
  obtain ⟨L0, c0, h⟩ := h
  exact lw_caseI (n := 0) (T := 1390) (off := 311) (i1 := 177) (i2 := 180) C (by omega) ⟨by decide +kernel, by decide +kernel, by decide +kernel, by decide +kernel, by decide +kernel, by decide +kernel⟩ (by decide +kernel) (by decide) lmc_39 lmr_39 (j_fairest h) hi hW hl k
theorem lmc_40 : lwM 169 3 2 181 11 12 6062 6060 6061 1001 := ⟨by decide +kernel, by decide +kernel, Ws_in 6059 (by decide +kernel) (by decide +kernel), by omega, by decide +kernel⟩
theorem lmr_40 : lwM 307 3 2 184 12 10 9024 9022 9023 1013 := ⟨by decide +kernel, by decide +kernel, Ws_in 9021 (by decide +kernel) (by decide +kernel), by omega, by decide +kernel⟩
theorem lk_40 (C : LC p l s m meth c b L xs adK adV D) (h : J w n M R) (hi : i + 6 ≤ L) (hW : Two adK D s (hC w M n) q1 (hR R (22, 40282)) q2 H locs cells slots) (hl : lv_has ls 4 (lL b q1 q2 i)) (k : lwK p l e s m below meth c b adK D Q q1 q2 ls) : W p l e room_1 s m #[Value.ref b] below meth c H locs cells slots Q (F0 m 1403 ls []) := by
  obtain ⟨L0, c0, h⟩ := h
  exact lw_caseL (n := 3) (T := 1403) (off := 267) (i1 := 181) (i2 := 184) C (by omega) ⟨by decide +kernel, by decide +kernel, by decide +kernel, by decide +kernel, by decide +kernel, by decide +kernel⟩ (by decide +kernel) (by decide +kernel) (by decide) lmc_40 lmr_40 (j_snow _ _ _ h) hi hW hl k
theorem lmc_41 : lwM 171 2 1 185 11 5 6078 6076 6077 1001 := ⟨by decide +kernel, by decide +kernel, Ws_in 6075 (by decide +kernel) (by decide +kernel), by omega, by decide +kernel⟩
theorem lmr_41 : lwM 308 2 1 188 12 5 9038 9036 9037 1013 := ⟨by decide +kernel, by decide +kernel, Ws_in 9035 (by decide +kernel) (by decide +kernel), by omega, by decide +kernel⟩
theorem lk_41 (C : LC p l s m meth c b L xs adK adV D) (h : J w n M R) (hi : i + 6 ≤ L) (hW : Two adK D s (hC w M n) q1 (hR R (22, 40282)) q2 H locs cells slots) (hl : lv_has ls 4 (lL b q1 q2 i)) (k : lwK p l e s m below meth c b adK D Q q1 q2 ls) : W p l e room_1 s m #[Value.ref b] below meth c H locs cells slots Q (F0 m 1447 ls []) := by
  obtain ⟨L0, c0, h⟩ := h
  exact lw_caseI (n := 2) (T := 1447) (off := 234) (i1 := 185) (i2 := 188) C (by omega) ⟨by decide +kernel, by decide +kernel, by decide +kernel, by decide +kernel, by decide +kernel, by decide +kernel⟩ (by decide +kernel) (by decide) lmc_41 lmr_41 (j_left _ _ h) hi hW hl k
theorem lmc_42 : lwM 172 3 1 189 11 4 6083 6081 6082 1001 := ⟨by decide +kernel, by decide +kernel, Ws_in 6080 (by decide +kernel) (by decide +kernel), by omega, by decide +kernel⟩
theorem lmr_42 : lwM 310 3 1 192 12 5 9042 9040 9041 1013 := ⟨by decide +kernel, by decide +kernel, Ws_in 9039 (by decide +kernel) (by decide +kernel), by omega, by decide +kernel⟩
theorem lk_42 (C : LC p l s m meth c b L xs adK adV D) (h : J w n M R) (hi : i + 6 ≤ L) (hW : Two adK D s (hC w M n) q1 (hR R (22, 40282)) q2 H locs cells slots) (hl : lv_has ls 4 (lL b q1 q2 i)) (k : lwK p l e s m below meth c b adK D Q q1 q2 ls) : W p l e room_1 s m #[Value.ref b] below meth c H locs cells slots Q (F0 m 1480 ls []) := by
  obtain ⟨L0, c0, h⟩ := h
  exact lw_caseI (n := 3) (T := 1480) (off := 191) (i1 := 189) (i2 := 192) C (by omega) ⟨by decide +kernel, by decide +kernel, by decide +kernel, by decide +kernel, by decide +kernel, by decide +kernel⟩ (by decide +kernel) (by decide) lmc_42 lmr_42 (j_numbers _ _ _ h) hi hW hl k
theorem lmc_43 : lwM 173 3 2 195 11 6 6091 6089 6090 1001 := ⟨by decide +kernel, by decide +kernel, Ws_in 6088 (by decide +kernel) (by decide +kernel), by omega, by decide +kernel⟩
theorem lmr_43 : lwM 311 3 2 199 12 6 9046 9044 9045 1013 := ⟨by decide +kernel, by decide +kernel, Ws_in 9043 (by decide +kernel) (by decide +kernel), by omega, by decide +kernel⟩
def lV (xs : Nat → Int32) (i : Nat) : Int64 := ((xs (i + 3)).toInt64 <<< ((32 : Int32).toInt64 &&& 63)) ||| ((xs (i + 4)).toInt64 &&& 4294967295)
abbrev wrB (pc : Nat) : Prop := pshB pc 3 ∧ decode code (pc + 5) = .ok (.i2l, 1) ∧ decode code (pc + 6) = .ok (.bipush 32, 2) ∧ decode code (pc + 8) = .ok (.lshl, 1) ∧ pshB (pc + 9) 4 ∧ decode code (pc + 14) = .ok (.i2l, 1) ∧ decode code (pc + 15) = .ok (.ldc2_w 193, 3) ∧ decode code (pc + 18) = .ok (.land, 1) ∧ decode code (pc + 19) = .ok (.lor, 1)
theorem lw_wr (C : LC p l s m meth c b L xs adK adV D) (hS : va_S (lA s) s.heap H locs) (hi : i + 6 ≤ L) (hl : lv_has ls 4 (lL b q1 q2 i)) {pc : Nat} (h : wrB pc) {rest : List Value} (k : W p l e room_1 s m #[Value.ref b] below meth c H locs cells slots Q (F0 m (pc + 20) ls (.long (lV xs i) :: rest))) : W p l e room_1 s m #[Value.ref b] below meth c H locs cells slots Q (F0 m pc ls rest) := by
  obtain ⟨hih, C0, hT0, hL⟩ := C
  obtain ⟨hx, hb, hr, hml, hown, hts0, -⟩ := id C0
  have hts := lw_W hts0
  obtain ⟨h1, h2, h3, h4, h5, h6, h7, h8, h9⟩ := h
  refine lw_psh C0 hL hS h1 (by omega) (by omega) hl ?_
  refine lv_i2l hx hb h2 rfl ?_
  refine lv_bipush (v := 32) hx hb h3 rfl ?_
  refine lv_lshl hx hb h4 rfl ?_
  refine lw_psh C0 hL hS h5 (by omega) (by omega) hl ?_
  refine lv_i2l hx hb h6 rfl ?_
  refine lv_ldc2 hx hb hown (hts (Cond.constantLong R_law 193 4294967295) (Ws_in 9071 (by decide +kernel) (by decide +kernel))) h7 ?_
  refine lv_land hx hb h8 ?_
  refine lv_lor hx hb h9 ?_
  exact k
theorem lk_43 (C : LC p l s m meth c b L xs adK adV D) (h : J w n M R) (hi : i + 6 ≤ L) (hW : Two adK D s (hC w M n) q1 (hR R (22, 40282)) q2 H locs cells slots) (hl : lv_has ls 4 (lL b q1 q2 i)) (k : lwK p l e s m below meth c b adK D Q q1 q2 ls) : W p l e room_1 s m #[Value.ref b] below meth c H locs cells slots Q (F0 m 1523 ls []) := by
  obtain ⟨L0, c0, h⟩ := h
  obtain ⟨hih, C0, hT0, hL⟩ := id C
  obtain ⟨hx, hb, -⟩ := id C0
  obtain ⟨MR, hMR⟩ := lw_gT lmr_43
  have d0 : decode code 1523 = .ok (.aload_n 1, 1) := by decide +kernel
  have d1 : decode code 1557 = .ok (.aload_n 2, 1) := by decide +kernel
  refine lv_aload_n hx hb d0 rfl (lv_at hl 1 rfl) ?_
  refine lw_pshs (pc := 1524) C0 hL hW.S hi hl 2 (by omega) (by decide +kernel) ?_
  refine lw_wr (pc := 1534) C hW.S hi hl ⟨by decide +kernel, by decide +kernel, by decide +kernel, by decide +kernel, by decide +kernel, by decide +kernel, by decide +kernel, by decide +kernel, by decide +kernel⟩ ?_
  refine lw_long (pc := 1554) (cl := 11) (As := [.int (xs (i + 1)), .int (xs (i + 2)), .long (lV xs i)]) hih C0 hT0 lmc_43 (by decide +kernel) hW rfl (j_write (xs (i + 1)).toInt (xs (i + 2)).toInt (lV xs i).toInt h) (lw_roomC hih hMR) hl.1 (fun mp => ⟨rfl, rfl, rfl, trivial⟩) rfl (by decide) (fun r u hF x hr H1 locs1 c1 s1 hW1 => ?_)
  obtain ⟨w', M', n', rfl, hq⟩ := hF
  refine lv_aload_n hx hb d1 rfl (lv_at hl 2 rfl) ?_
  refine lw_pshs (pc := 1558) C0 hL hW1.S hi hl 2 (by omega) (by decide +kernel) ?_
  refine lw_wr (pc := 1568) C hW1.S hi hl ⟨by decide +kernel, by decide +kernel, by decide +kernel, by decide +kernel, by decide +kernel, by decide +kernel, by decide +kernel, by decide +kernel, by decide +kernel⟩ ?_
  refine lw_long (pc := 1588) (cl := 12) (As := [.int (xs (i + 1)), .int (xs (i + 2)), .long (lV xs i)]) hih C0 hT0 lmr_43 (by decide +kernel) hW1.swap rfl hq (fun r2 u2 hF2 => ?_) hl.1 (fun mp => ⟨rfl, rfl, rfl, trivial⟩) rfl (by show 2 + 0 ≤ 8; omega) (fun r2 u2 hF2 y hr2 H2 locs2 c2 s2 hW2 => ?_)
  · obtain ⟨R', rfl, -, hJ'⟩ := hF2
    have := hJ'.room
    show 22 + n'.1 ≤ 600000 ∧ 40282 + n'.2 ≤ 7302249
    omega
  · obtain ⟨R', rfl, e1, hJ'⟩ := hF2
    have exy : x = y := nl_eq.mpr (by rw [hr, hr2] at e1; exact e1.symm)
    subst exy
    refine W.lcmp hx hb (pc := 1591) (by decide +kernel) ?_
    exact lv_if_eq (pc := 1592) (off := 117) (tgt := 1709) hx hb (by decide +kernel) (by decide) (fun _ => k _ _ _ _ _ _ _ _ hJ' hW2.swap) (fun z => absurd (lgc_eq _) z)
theorem lmc_44 : lwM 174 3 1 200 11 8 6105 6103 6104 1001 := ⟨by decide +kernel, by decide +kernel, Ws_in 6102 (by decide +kernel) (by decide +kernel), by omega, by decide +kernel⟩
theorem lmr_44 : lwM 312 3 1 203 12 8 9054 9052 9053 1013 := ⟨by decide +kernel, by decide +kernel, Ws_in 9051 (by decide +kernel) (by decide +kernel), by omega, by decide +kernel⟩
theorem lk_44 (C : LC p l s m meth c b L xs adK adV D) (h : J w n M R) (hi : i + 6 ≤ L) (hW : Two adK D s (hC w M n) q1 (hR R (22, 40282)) q2 H locs cells slots) (hl : lv_has ls 4 (lL b q1 q2 i)) (k : lwK p l e s m below meth c b adK D Q q1 q2 ls) : W p l e room_1 s m #[Value.ref b] below meth c H locs cells slots Q (F0 m 1597 ls []) := by
  obtain ⟨L0, c0, h⟩ := h
  exact lw_caseI (n := 3) (T := 1597) (off := 74) (i1 := 200) (i2 := 203) C (by omega) ⟨by decide +kernel, by decide +kernel, by decide +kernel, by decide +kernel, by decide +kernel, by decide +kernel⟩ (by decide +kernel) (by decide) lmc_44 lmr_44 (j_lists _ _ _ h) hi hW hl k
theorem lmc_45 : lwM 175 1 1 204 11 2 6109 6107 6108 1001 := ⟨by decide +kernel, by decide +kernel, Ws_in 6106 (by decide +kernel) (by decide +kernel), by omega, by decide +kernel⟩
theorem lmr_45 : lwM 313 1 1 207 12 3 9058 9056 9057 1013 := ⟨by decide +kernel, by decide +kernel, Ws_in 9055 (by decide +kernel) (by decide +kernel), by omega, by decide +kernel⟩
theorem lk_45 (C : LC p l s m meth c b L xs adK adV D) (h : J w n M R) (hi : i + 6 ≤ L) (hW : Two adK D s (hC w M n) q1 (hR R (22, 40282)) q2 H locs cells slots) (hl : lv_has ls 4 (lL b q1 q2 i)) (k : lwK p l e s m below meth c b adK D Q q1 q2 ls) : W p l e room_1 s m #[Value.ref b] below meth c H locs cells slots Q (F0 m 1640 ls []) := by
  obtain ⟨L0, c0, h⟩ := h
  exact lw_caseI (n := 1) (T := 1640) (off := 51) (i1 := 204) (i2 := 207) C (by omega) ⟨by decide +kernel, by decide +kernel, by decide +kernel, by decide +kernel, by decide +kernel, by decide +kernel⟩ (by decide +kernel) (by decide) lmc_45 lmr_45 (j_image _ h) hi hW hl k
theorem lmc_46 : lwM 176 1 1 208 11 2 6114 6112 6113 1001 := ⟨by decide +kernel, by decide +kernel, Ws_in 6111 (by decide +kernel) (by decide +kernel), by omega, by decide +kernel⟩
theorem lmr_46 : lwM 314 1 1 211 12 3 9062 9060 9061 1013 := ⟨by decide +kernel, by decide +kernel, Ws_in 9059 (by decide +kernel) (by decide +kernel), by omega, by decide +kernel⟩
theorem lk_46 (C : LC p l s m meth c b L xs adK adV D) (h : J w n M R) (hi : i + 6 ≤ L) (hW : Two adK D s (hC w M n) q1 (hR R (22, 40282)) q2 H locs cells slots) (hl : lv_has ls 4 (lL b q1 q2 i)) (k : lwK p l e s m below meth c b adK D Q q1 q2 ls) : W p l e room_1 s m #[Value.ref b] below meth c H locs cells slots Q (F0 m 1663 ls []) := by
  obtain ⟨L0, c0, h⟩ := h
  exact lw_caseI (n := 1) (T := 1663) (off := 28) (i1 := 208) (i2 := 211) C (by omega) ⟨by decide +kernel, by decide +kernel, by decide +kernel, by decide +kernel, by decide +kernel, by decide +kernel⟩ (by decide +kernel) (by decide) lmc_46 lmr_46 (j_restore _ h) hi hW hl k
theorem lmc_47 : lwM 177 1 1 212 11 2 6118 6116 6117 1001 := ⟨by decide +kernel, by decide +kernel, Ws_in 6115 (by decide +kernel) (by decide +kernel), by omega, by decide +kernel⟩
theorem lmr_47 : lwM 316 1 1 215 12 2 9066 9064 9065 1013 := ⟨by decide +kernel, by decide +kernel, Ws_in 9063 (by decide +kernel) (by decide +kernel), by omega, by decide +kernel⟩
theorem lk_47 (C : LC p l s m meth c b L xs adK adV D) (h : J w n M R) (hi : i + 6 ≤ L) (hW : Two adK D s (hC w M n) q1 (hR R (22, 40282)) q2 H locs cells slots) (hl : lv_has ls 4 (lL b q1 q2 i)) (k : lwK p l e s m below meth c b adK D Q q1 q2 ls) : W p l e room_1 s m #[Value.ref b] below meth c H locs cells slots Q (F0 m 1686 ls []) := by
  obtain ⟨L0, c0, h⟩ := h
  exact lw_caseI (n := 1) (T := 1686) (off := 5) (i1 := 212) (i2 := 215) C (by omega) ⟨by decide +kernel, by decide +kernel, by decide +kernel, by decide +kernel, by decide +kernel, by decide +kernel⟩ (by decide +kernel) (by decide) lmc_47 lmr_47 (j_count _ h) hi hW hl k
end LAW
