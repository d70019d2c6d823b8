/-! ===== texts: what the JDK answers of them (printed in part by program) ===== -/
def yT_coder : MethodName := ⟨"java/lang/String", "coder", "()B"⟩
theorem wT_coder : Cond.code yT_coder prog_18_method_152_code 1 (some .byte) ∈ Ws := Ws_in 3029 (by decide +kernel) (by decide +kernel)
theorem dT_coder_0 : decode prog_18_method_152_code 0 = .ok (.getstatic 38, 3) := by decide +kernel
theorem dT_coder_3 : decode prog_18_method_152_code 3 = .ok (.ifCond .eq 10, 3) := by decide +kernel
theorem dT_coder_6 : decode prog_18_method_152_code 6 = .ok (.aload_n 0, 1) := by decide +kernel
theorem dT_coder_7 : decode prog_18_method_152_code 7 = .ok (.getfield 15, 3) := by decide +kernel
theorem dT_coder_10 : decode prog_18_method_152_code 10 = .ok (.goto 4, 3) := by decide +kernel
theorem dT_coder_14 : decode prog_18_method_152_code 14 = .ok (.ireturn, 1) := by decide +kernel
theorem gT_coder : GoodIn Ws (Cond.code yT_coder prog_18_method_152_code 1 (some .byte) :: Ws) := Ws_good (fun w hw => by
  rcases List.mem_cons.mp hw with rfl | hw
  · exact wT_coder
  · exact hw)
def yT_isLat : MethodName := ⟨"java/lang/String", "isLatin1", "()Z"⟩
theorem wT_isLat : Cond.code yT_isLat prog_18_method_154_code 1 (some .boolean) ∈ Ws := Ws_in 3039 (by decide +kernel) (by decide +kernel)
theorem dT_isLat_0 : decode prog_18_method_154_code 0 = .ok (.getstatic 38, 3) := by decide +kernel
theorem dT_isLat_3 : decode prog_18_method_154_code 3 = .ok (.ifCond .eq 14, 3) := by decide +kernel
theorem dT_isLat_6 : decode prog_18_method_154_code 6 = .ok (.aload_n 0, 1) := by decide +kernel
theorem dT_isLat_7 : decode prog_18_method_154_code 7 = .ok (.getfield 15, 3) := by decide +kernel
theorem dT_isLat_10 : decode prog_18_method_154_code 10 = .ok (.ifCond .ne 7, 3) := by decide +kernel
theorem dT_isLat_13 : decode prog_18_method_154_code 13 = .ok (.iconst 1, 1) := by decide +kernel
theorem dT_isLat_14 : decode prog_18_method_154_code 14 = .ok (.goto 4, 3) := by decide +kernel
theorem dT_isLat_18 : decode prog_18_method_154_code 18 = .ok (.ireturn, 1) := by decide +kernel
theorem gT_isLat : GoodIn Ws (Cond.code yT_isLat prog_18_method_154_code 1 (some .boolean) :: Ws) := Ws_good (fun w hw => by
  rcases List.mem_cons.mp hw with rfl | hw
  · exact wT_isLat
  · exact hw)
def yT_leng : MethodName := ⟨"java/lang/String", "length", "()I"⟩
theorem wT_leng : Cond.code yT_leng prog_18_method_54_code 1 (some .int) ∈ Ws := Ws_in 3025 (by decide +kernel) (by decide +kernel)
theorem dT_leng_0 : decode prog_18_method_54_code 0 = .ok (.aload_n 0, 1) := by decide +kernel
theorem dT_leng_1 : decode prog_18_method_54_code 1 = .ok (.getfield 9, 3) := by decide +kernel
theorem dT_leng_4 : decode prog_18_method_54_code 4 = .ok (.arraylength, 1) := by decide +kernel
theorem dT_leng_5 : decode prog_18_method_54_code 5 = .ok (.aload_n 0, 1) := by decide +kernel
theorem dT_leng_6 : decode prog_18_method_54_code 6 = .ok (.invokevirtual 335, 3) := by decide +kernel
theorem dT_leng_9 : decode prog_18_method_54_code 9 = .ok (.ishr, 1) := by decide +kernel
theorem dT_leng_10 : decode prog_18_method_54_code 10 = .ok (.ireturn, 1) := by decide +kernel
theorem gT_leng : GoodIn Ws (Cond.code yT_leng prog_18_method_54_code 1 (some .int) :: Ws) := Ws_good (fun w hw => by
  rcases List.mem_cons.mp hw with rfl | hw
  · exact wT_leng
  · exact hw)
def yT_chkP : MethodName := ⟨"jdk/internal/util/Preconditions", "checkIndex", "(IILjava/util/function/BiFunction;)I"⟩
theorem wT_chkP : Cond.code yT_chkP prog_22_method_11_code 3 (some .int) ∈ Ws := Ws_in 3050 (by decide +kernel) (by decide +kernel)
theorem dT_chkP_0 : decode prog_22_method_11_code 0 = .ok (.iload_n 0, 1) := by decide +kernel
theorem dT_chkP_1 : decode prog_22_method_11_code 1 = .ok (.ifCond .lt 8, 3) := by decide +kernel
theorem dT_chkP_4 : decode prog_22_method_11_code 4 = .ok (.iload_n 0, 1) := by decide +kernel
theorem dT_chkP_5 : decode prog_22_method_11_code 5 = .ok (.iload_n 1, 1) := by decide +kernel
theorem dT_chkP_6 : decode prog_22_method_11_code 6 = .ok (.if_icmp .lt 10, 3) := by decide +kernel
theorem dT_chkP_16 : decode prog_22_method_11_code 16 = .ok (.iload_n 0, 1) := by decide +kernel
theorem dT_chkP_17 : decode prog_22_method_11_code 17 = .ok (.ireturn, 1) := by decide +kernel
theorem gT_chkP : GoodIn Ws (Cond.code yT_chkP prog_22_method_11_code 3 (some .int) :: Ws) := Ws_good (fun w hw => by
  rcases List.mem_cons.mp hw with rfl | hw
  · exact wT_chkP
  · exact hw)
def yT_chkS : MethodName := ⟨"java/lang/String", "checkIndex", "(II)V"⟩
theorem wT_chkS : Cond.code yT_chkS prog_18_method_155_code 2 none ∈ Ws := Ws_in 3045 (by decide +kernel) (by decide +kernel)
theorem dT_chkS_0 : decode prog_18_method_155_code 0 = .ok (.iload_n 0, 1) := by decide +kernel
theorem dT_chkS_1 : decode prog_18_method_155_code 1 = .ok (.iload_n 1, 1) := by decide +kernel
theorem dT_chkS_2 : decode prog_18_method_155_code 2 = .ok (.getstatic 1053, 3) := by decide +kernel
theorem dT_chkS_5 : decode prog_18_method_155_code 5 = .ok (.invokestatic 1059, 3) := by decide +kernel
theorem dT_chkS_8 : decode prog_18_method_155_code 8 = .ok (.pop, 1) := by decide +kernel
theorem dT_chkS_9 : decode prog_18_method_155_code 9 = .ok (.return_, 1) := by decide +kernel
theorem gT_chkS : GoodIn Ws (Cond.code yT_chkS prog_18_method_155_code 2 none :: Ws) := Ws_good (fun w hw => by
  rcases List.mem_cons.mp hw with rfl | hw
  · exact wT_chkS
  · exact hw)
def yT_chrL : MethodName := ⟨"java/lang/StringLatin1", "charAt", "([BI)C"⟩
theorem wT_chrL : Cond.code yT_chrL prog_19_method_2_code 2 (some .char) ∈ Ws := Ws_in 3042 (by decide +kernel) (by decide +kernel)
theorem dT_chrL_0 : decode prog_19_method_2_code 0 = .ok (.iload_n 1, 1) := by decide +kernel
theorem dT_chrL_1 : decode prog_19_method_2_code 1 = .ok (.aload_n 0, 1) := by decide +kernel
theorem dT_chrL_2 : decode prog_19_method_2_code 2 = .ok (.arraylength, 1) := by decide +kernel
theorem dT_chrL_3 : decode prog_19_method_2_code 3 = .ok (.invokestatic 9, 3) := by decide +kernel
theorem dT_chrL_6 : decode prog_19_method_2_code 6 = .ok (.aload_n 0, 1) := by decide +kernel
theorem dT_chrL_7 : decode prog_19_method_2_code 7 = .ok (.iload_n 1, 1) := by decide +kernel
theorem dT_chrL_8 : decode prog_19_method_2_code 8 = .ok (.baload, 1) := by decide +kernel
theorem dT_chrL_9 : decode prog_19_method_2_code 9 = .ok (.sipush 255, 3) := by decide +kernel
theorem dT_chrL_12 : decode prog_19_method_2_code 12 = .ok (.iand, 1) := by decide +kernel
theorem dT_chrL_13 : decode prog_19_method_2_code 13 = .ok (.i2c, 1) := by decide +kernel
theorem dT_chrL_14 : decode prog_19_method_2_code 14 = .ok (.ireturn, 1) := by decide +kernel
theorem gT_chrL : GoodIn Ws (Cond.code yT_chrL prog_19_method_2_code 2 (some .char) :: Ws) := Ws_good (fun w hw => by
  rcases List.mem_cons.mp hw with rfl | hw
  · exact wT_chrL
  · exact hw)
def yT_chrS : MethodName := ⟨"java/lang/String", "charAt", "(I)C"⟩
theorem wT_chrS : Cond.code yT_chrS prog_18_method_56_code 2 (some .char) ∈ Ws := Ws_in 3035 (by decide +kernel) (by decide +kernel)
theorem dT_chrS_0 : decode prog_18_method_56_code 0 = .ok (.aload_n 0, 1) := by decide +kernel
theorem dT_chrS_1 : decode prog_18_method_56_code 1 = .ok (.invokevirtual 492, 3) := by decide +kernel
theorem dT_chrS_4 : decode prog_18_method_56_code 4 = .ok (.ifCond .eq 12, 3) := by decide +kernel
theorem dT_chrS_7 : decode prog_18_method_56_code 7 = .ok (.aload_n 0, 1) := by decide +kernel
theorem dT_chrS_8 : decode prog_18_method_56_code 8 = .ok (.getfield 9, 3) := by decide +kernel
theorem dT_chrS_11 : decode prog_18_method_56_code 11 = .ok (.iload_n 1, 1) := by decide +kernel
theorem dT_chrS_12 : decode prog_18_method_56_code 12 = .ok (.invokestatic 495, 3) := by decide +kernel
theorem dT_chrS_15 : decode prog_18_method_56_code 15 = .ok (.ireturn, 1) := by decide +kernel
theorem gT_chrS : GoodIn Ws (Cond.code yT_chrS prog_18_method_56_code 2 (some .char) :: Ws) := Ws_good (fun w hw => by
  rcases List.mem_cons.mp hw with rfl | hw
  · exact wT_chrS
  · exact hw)
def yT_canE : MethodName := ⟨"java/lang/StringLatin1", "canEncode", "(I)Z"⟩
theorem wT_canE : Cond.code yT_canE prog_19_method_4_code 1 (some .boolean) ∈ Ws := Ws_in 3092 (by decide +kernel) (by decide +kernel)
theorem dT_canE_0 : decode prog_19_method_4_code 0 = .ok (.iload_n 0, 1) := by decide +kernel
theorem dT_canE_1 : decode prog_19_method_4_code 1 = .ok (.ifCond .lt 14, 3) := by decide +kernel
theorem dT_canE_4 : decode prog_19_method_4_code 4 = .ok (.iload_n 0, 1) := by decide +kernel
theorem dT_canE_5 : decode prog_19_method_4_code 5 = .ok (.sipush 255, 3) := by decide +kernel
theorem dT_canE_8 : decode prog_19_method_4_code 8 = .ok (.if_icmp .gt 7, 3) := by decide +kernel
theorem dT_canE_11 : decode prog_19_method_4_code 11 = .ok (.iconst 1, 1) := by decide +kernel
theorem dT_canE_12 : decode prog_19_method_4_code 12 = .ok (.goto 4, 3) := by decide +kernel
theorem dT_canE_16 : decode prog_19_method_4_code 16 = .ok (.ireturn, 1) := by decide +kernel
theorem gT_canE : GoodIn Ws (Cond.code yT_canE prog_19_method_4_code 1 (some .boolean) :: Ws) := Ws_good (fun w hw => by
  rcases List.mem_cons.mp hw with rfl | hw
  · exact wT_canE
  · exact hw)
def yT_ixC : MethodName := ⟨"java/lang/StringLatin1", "indexOfChar", "([BIII)I"⟩
theorem wT_ixC : Cond.code yT_ixC prog_19_method_23_code 6 (some .int) ∈ Ws := Ws_in 3099 (by decide +kernel) (by decide +kernel)
theorem dT_ixC_0 : decode prog_19_method_23_code 0 = .ok (.iload_n 1, 1) := by decide +kernel
theorem dT_ixC_1 : decode prog_19_method_23_code 1 = .ok (.i2b, 1) := by decide +kernel
theorem dT_ixC_2 : decode prog_19_method_23_code 2 = .ok (.istore 4, 2) := by decide +kernel
theorem dT_ixC_4 : decode prog_19_method_23_code 4 = .ok (.iload_n 2, 1) := by decide +kernel
theorem dT_ixC_5 : decode prog_19_method_23_code 5 = .ok (.istore 5, 2) := by decide +kernel
theorem dT_ixC_7 : decode prog_19_method_23_code 7 = .ok (.iload 5, 2) := by decide +kernel
theorem dT_ixC_9 : decode prog_19_method_23_code 9 = .ok (.iload_n 3, 1) := by decide +kernel
theorem dT_ixC_10 : decode prog_19_method_23_code 10 = .ok (.if_icmp .ge 21, 3) := by decide +kernel
theorem dT_ixC_13 : decode prog_19_method_23_code 13 = .ok (.aload_n 0, 1) := by decide +kernel
theorem dT_ixC_14 : decode prog_19_method_23_code 14 = .ok (.iload 5, 2) := by decide +kernel
theorem dT_ixC_16 : decode prog_19_method_23_code 16 = .ok (.baload, 1) := by decide +kernel
theorem dT_ixC_17 : decode prog_19_method_23_code 17 = .ok (.iload 4, 2) := by decide +kernel
theorem dT_ixC_19 : decode prog_19_method_23_code 19 = .ok (.if_icmp .ne 6, 3) := by decide +kernel
theorem dT_ixC_22 : decode prog_19_method_23_code 22 = .ok (.iload 5, 2) := by decide +kernel
theorem dT_ixC_24 : decode prog_19_method_23_code 24 = .ok (.ireturn, 1) := by decide +kernel
theorem dT_ixC_25 : decode prog_19_method_23_code 25 = .ok (.iinc 5 1, 3) := by decide +kernel
theorem dT_ixC_28 : decode prog_19_method_23_code 28 = .ok (.goto (-21), 3) := by decide +kernel
theorem dT_ixC_31 : decode prog_19_method_23_code 31 = .ok (.iconst (-1), 1) := by decide +kernel
theorem dT_ixC_32 : decode prog_19_method_23_code 32 = .ok (.ireturn, 1) := by decide +kernel
theorem gT_ixC : GoodIn Ws (Cond.code yT_ixC prog_19_method_23_code 6 (some .int) :: Ws) := Ws_good (fun w hw => by
  rcases List.mem_cons.mp hw with rfl | hw
  · exact wT_ixC
  · exact hw)
def yT_ixL : MethodName := ⟨"java/lang/StringLatin1", "indexOf", "([BIII)I"⟩
theorem wT_ixL : Cond.code yT_ixL prog_19_method_22_code 4 (some .int) ∈ Ws := Ws_in 3089 (by decide +kernel) (by decide +kernel)
theorem dT_ixL_0 : decode prog_19_method_22_code 0 = .ok (.iload_n 1, 1) := by decide +kernel
theorem dT_ixL_1 : decode prog_19_method_22_code 1 = .ok (.invokestatic 88, 3) := by decide +kernel
theorem dT_ixL_4 : decode prog_19_method_22_code 4 = .ok (.ifCond .ne 5, 3) := by decide +kernel
theorem dT_ixL_9 : decode prog_19_method_22_code 9 = .ok (.iload_n 2, 1) := by decide +kernel
theorem dT_ixL_10 : decode prog_19_method_22_code 10 = .ok (.iconst 0, 1) := by decide +kernel
theorem dT_ixL_11 : decode prog_19_method_22_code 11 = .ok (.invokestatic 92, 3) := by decide +kernel
theorem dT_ixL_14 : decode prog_19_method_22_code 14 = .ok (.istore_n 2, 1) := by decide +kernel
theorem dT_ixL_15 : decode prog_19_method_22_code 15 = .ok (.iload_n 3, 1) := by decide +kernel
theorem dT_ixL_16 : decode prog_19_method_22_code 16 = .ok (.aload_n 0, 1) := by decide +kernel
theorem dT_ixL_17 : decode prog_19_method_22_code 17 = .ok (.arraylength, 1) := by decide +kernel
theorem dT_ixL_18 : decode prog_19_method_22_code 18 = .ok (.invokestatic 38, 3) := by decide +kernel
theorem dT_ixL_21 : decode prog_19_method_22_code 21 = .ok (.istore_n 3, 1) := by decide +kernel
theorem dT_ixL_22 : decode prog_19_method_22_code 22 = .ok (.iload_n 2, 1) := by decide +kernel
theorem dT_ixL_23 : decode prog_19_method_22_code 23 = .ok (.iload_n 3, 1) := by decide +kernel
theorem dT_ixL_24 : decode prog_19_method_22_code 24 = .ok (.if_icmp .lt 5, 3) := by decide +kernel
theorem dT_ixL_29 : decode prog_19_method_22_code 29 = .ok (.aload_n 0, 1) := by decide +kernel
theorem dT_ixL_30 : decode prog_19_method_22_code 30 = .ok (.iload_n 1, 1) := by decide +kernel
theorem dT_ixL_31 : decode prog_19_method_22_code 31 = .ok (.iload_n 2, 1) := by decide +kernel
theorem dT_ixL_32 : decode prog_19_method_22_code 32 = .ok (.iload_n 3, 1) := by decide +kernel
theorem dT_ixL_33 : decode prog_19_method_22_code 33 = .ok (.invokestatic 95, 3) := by decide +kernel
theorem dT_ixL_36 : decode prog_19_method_22_code 36 = .ok (.ireturn, 1) := by decide +kernel
theorem gT_ixL : GoodIn Ws (Cond.code yT_ixL prog_19_method_22_code 4 (some .int) :: Ws) := Ws_good (fun w hw => by
  rcases List.mem_cons.mp hw with rfl | hw
  · exact wT_ixL
  · exact hw)
def yT_ix2 : MethodName := ⟨"java/lang/String", "indexOf", "(II)I"⟩
theorem wT_ix2 : Cond.code yT_ix2 prog_18_method_80_code 3 (some .int) ∈ Ws := Ws_in 3085 (by decide +kernel) (by decide +kernel)
theorem dT_ix2_0 : decode prog_18_method_80_code 0 = .ok (.aload_n 0, 1) := by decide +kernel
theorem dT_ix2_1 : decode prog_18_method_80_code 1 = .ok (.invokevirtual 492, 3) := by decide +kernel
theorem dT_ix2_4 : decode prog_18_method_80_code 4 = .ok (.ifCond .eq 19, 3) := by decide +kernel
theorem dT_ix2_7 : decode prog_18_method_80_code 7 = .ok (.aload_n 0, 1) := by decide +kernel
theorem dT_ix2_8 : decode prog_18_method_80_code 8 = .ok (.getfield 9, 3) := by decide +kernel
theorem dT_ix2_11 : decode prog_18_method_80_code 11 = .ok (.iload_n 1, 1) := by decide +kernel
theorem dT_ix2_12 : decode prog_18_method_80_code 12 = .ok (.iload_n 2, 1) := by decide +kernel
theorem dT_ix2_13 : decode prog_18_method_80_code 13 = .ok (.aload_n 0, 1) := by decide +kernel
theorem dT_ix2_14 : decode prog_18_method_80_code 14 = .ok (.invokevirtual 505, 3) := by decide +kernel
theorem dT_ix2_17 : decode prog_18_method_80_code 17 = .ok (.invokestatic 637, 3) := by decide +kernel
theorem dT_ix2_20 : decode prog_18_method_80_code 20 = .ok (.goto 16, 3) := by decide +kernel
theorem dT_ix2_36 : decode prog_18_method_80_code 36 = .ok (.ireturn, 1) := by decide +kernel
theorem gT_ix2 : GoodIn Ws (Cond.code yT_ix2 prog_18_method_80_code 3 (some .int) :: Ws) := Ws_good (fun w hw => by
  rcases List.mem_cons.mp hw with rfl | hw
  · exact wT_ix2
  · exact hw)
def yT_ix1 : MethodName := ⟨"java/lang/String", "indexOf", "(I)I"⟩
theorem wT_ix1 : Cond.code yT_ix1 prog_18_method_79_code 2 (some .int) ∈ Ws := Ws_in 3081 (by decide +kernel) (by decide +kernel)
theorem dT_ix1_0 : decode prog_18_method_79_code 0 = .ok (.aload_n 0, 1) := by decide +kernel
theorem dT_ix1_1 : decode prog_18_method_79_code 1 = .ok (.iload_n 1, 1) := by decide +kernel
theorem dT_ix1_2 : decode prog_18_method_79_code 2 = .ok (.iconst 0, 1) := by decide +kernel
theorem dT_ix1_3 : decode prog_18_method_79_code 3 = .ok (.invokevirtual 633, 3) := by decide +kernel
theorem dT_ix1_6 : decode prog_18_method_79_code 6 = .ok (.ireturn, 1) := by decide +kernel
theorem gT_ix1 : GoodIn Ws (Cond.code yT_ix1 prog_18_method_79_code 2 (some .int) :: Ws) := Ws_good (fun w hw => by
  rcases List.mem_cons.mp hw with rfl | hw
  · exact wT_ix1
  · exact hw)
theorem wT_cs : Cond.fieldLink "java/lang/String" 38 "java/lang/String" "COMPACT_STRINGS" "Z" ∈ Ws := Ws_in 3030 (by decide +kernel) (by decide +kernel)
theorem wT_fv : Cond.fieldLink "java/lang/String" 9 "java/lang/String" "value" "[B" ∈ Ws := Ws_in 9072 (by decide +kernel) (by decide +kernel)
theorem wT_fc : Cond.fieldLink "java/lang/String" 15 "java/lang/String" "coder" "B" ∈ Ws := Ws_in 9073 (by decide +kernel) (by decide +kernel)
theorem wT_ff : Cond.fieldLink "java/lang/String" 1053 "jdk/internal/util/Preconditions" "SIOOBE_FORMATTER" "Ljava/util/function/BiFunction;" ∈ Ws := Ws_in 3046 (by decide +kernel) (by decide +kernel)
theorem wT_l1 : Cond.methodLink "java/lang/String" 335 yT_coder ∈ Ws := Ws_in 3026 (by decide +kernel) (by decide +kernel)
theorem wT_l2 : Cond.methodLink "java/lang/String" 492 yT_isLat ∈ Ws := Ws_in 3036 (by decide +kernel) (by decide +kernel)
theorem wT_l3 : Cond.methodLink "java/lang/String" 1059 yT_chkP ∈ Ws := Ws_in 3048 (by decide +kernel) (by decide +kernel)
theorem wT_l4 : Cond.methodLink "java/lang/StringLatin1" 9 yT_chkS ∈ Ws := Ws_in 3043 (by decide +kernel) (by decide +kernel)
theorem wT_l5 : Cond.methodLink "java/lang/String" 495 yT_chrL ∈ Ws := Ws_in 3040 (by decide +kernel) (by decide +kernel)
theorem wT_l6 : Cond.methodLink "java/lang/StringLatin1" 88 yT_canE ∈ Ws := Ws_in 3090 (by decide +kernel) (by decide +kernel)
theorem wT_l7 : Cond.methodLink "java/lang/StringLatin1" 95 yT_ixC ∈ Ws := Ws_in 3097 (by decide +kernel) (by decide +kernel)
theorem wT_l8 : Cond.methodLink "java/lang/String" 637 yT_ixL ∈ Ws := Ws_in 3087 (by decide +kernel) (by decide +kernel)
theorem wT_l9 : Cond.methodLink "java/lang/String" 505 yT_leng ∈ Ws := Ws_in 3086 (by decide +kernel) (by decide +kernel)
theorem wT_l10 : Cond.methodLink "java/lang/String" 633 yT_ix2 ∈ Ws := Ws_in 3082 (by decide +kernel) (by decide +kernel)
theorem wT_lx : Cond.methodLink "java/lang/StringLatin1" 92 Lib.Math.max.name ∈ Ws := Ws_in 3093 (by decide +kernel) (by decide +kernel)
theorem wT_ln : Cond.methodLink "java/lang/StringLatin1" 38 Lib.Math.min.name ∈ Ws := Ws_in 3096 (by decide +kernel) (by decide +kernel)
theorem wT_i_coder : Cond.instanceMethod yT_coder ∈ Ws := Ws_in 3027 (by decide +kernel) (by decide +kernel)
theorem wT_s_coder : Cond.selects "java/lang/String" yT_coder yT_coder ∈ Ws := Ws_in 3028 (by decide +kernel) (by decide +kernel)
theorem wT_i_isLat : Cond.instanceMethod yT_isLat ∈ Ws := Ws_in 3037 (by decide +kernel) (by decide +kernel)
theorem wT_s_isLat : Cond.selects "java/lang/String" yT_isLat yT_isLat ∈ Ws := Ws_in 3038 (by decide +kernel) (by decide +kernel)
theorem wT_i_leng : Cond.instanceMethod yT_leng ∈ Ws := Ws_in 3023 (by decide +kernel) (by decide +kernel)
theorem wT_s_leng : Cond.selects "java/lang/String" yT_leng yT_leng ∈ Ws := Ws_in 3024 (by decide +kernel) (by decide +kernel)
theorem wT_i_chrS : Cond.instanceMethod yT_chrS ∈ Ws := Ws_in 3033 (by decide +kernel) (by decide +kernel)
theorem wT_s_chrS : Cond.selects "java/lang/String" yT_chrS yT_chrS ∈ Ws := Ws_in 3034 (by decide +kernel) (by decide +kernel)
theorem wT_i_ix2 : Cond.instanceMethod yT_ix2 ∈ Ws := Ws_in 3083 (by decide +kernel) (by decide +kernel)
theorem wT_s_ix2 : Cond.selects "java/lang/String" yT_ix2 yT_ix2 ∈ Ws := Ws_in 3084 (by decide +kernel) (by decide +kernel)
theorem wT_i_ix1 : Cond.instanceMethod yT_ix1 ∈ Ws := Ws_in 3079 (by decide +kernel) (by decide +kernel)
theorem wT_s_ix1 : Cond.selects "java/lang/String" yT_ix1 yT_ix1 ∈ Ws := Ws_in 3080 (by decide +kernel) (by decide +kernel)
theorem wT_t_chkP : Cond.static yT_chkP ∈ Ws := Ws_in 3049 (by decide +kernel) (by decide +kernel)
theorem wT_t_chkS : Cond.static yT_chkS ∈ Ws := Ws_in 3044 (by decide +kernel) (by decide +kernel)
theorem wT_t_chrL : Cond.static yT_chrL ∈ Ws := Ws_in 3041 (by decide +kernel) (by decide +kernel)
theorem wT_t_canE : Cond.static yT_canE ∈ Ws := Ws_in 3091 (by decide +kernel) (by decide +kernel)
theorem wT_t_ixC : Cond.static yT_ixC ∈ Ws := Ws_in 3098 (by decide +kernel) (by decide +kernel)
theorem wT_t_ixL : Cond.static yT_ixL ∈ Ws := Ws_in 3088 (by decide +kernel) (by decide +kernel)
theorem wT_n1 : Cond.initialized "java/lang/String" ∈ Ws := Ws_in 1015 (by decide +kernel) (by decide +kernel)
theorem wT_n2 : Cond.initialized "java/lang/StringLatin1" ∈ Ws := Ws_in 1016 (by decide +kernel) (by decide +kernel)
theorem wT_n3 : Cond.initialized "jdk/internal/util/Preconditions" ∈ Ws := Ws_in 1017 (by decide +kernel) (by decide +kernel)
def lenX : List Nat := [mLenT m_t0, mLenT m_t1, mLenT m_t2]
def bytX : List (List Int32) := [m_t0.map Int32.ofInt, m_t1.map Int32.ofInt, m_t2.map Int32.ofInt]
/-- what is known of the texts -/
def txs (adK adV : Nat → Nat) : tX := fun A U H => vk_S 3 lenX bytX adK adV A U H ∧ va_Z "java/lang/String" "COMPACT_STRINGS" "Z" (.int 1) A U H ∧ va_Zq "jdk/internal/util/Preconditions" "SIOOBE_FORMATTER" "Ljava/util/function/BiFunction;" A U H ∧ (vk_R "PartyLine$Reader" 161 ";:+-*()[]=<>" (adK 0) U ∧ vk_R "PartyLine$Reader" 169 "farms moments bit to must farm wish mood cut snow at tells hears likes now or and not from teller far moment " (adK 1) U ∧ vk_R "PartyLineModel" 93 " farms moments bit to must farm wish mood cut snow at tells hears likes now from teller far moment and or not " (adK 2) U ∧ vk_R "PartyLineModel" 131 ";:+-*()[]=<>" (adK 0) U) ∧ (∀ w ∈ nstW, va_Nw w U) ∧ (∀ a : Nat, (a = 2 ∨ a = 7 ∨ a = 8) → va_AO (oN a) U)
def nestB (w : Cond) : Bool := match w with
  | .methodLinkNest _ _ _ _ => true
  | .fieldLinkNest _ _ _ _ _ _ => true
  | _ => false
theorem nst_kd : ∀ w ∈ nstW, nestB w = true := by decide +kernel
theorem nst_warm {w : Cond} (h : nestB w = true) {s U : State} (hW : s.WarmedH U.vm) (hZ : va_Nw w s) : va_Nw w U := by
  cases w with
  | methodLinkNest a i x h => exact va_Nw.warmM hW hZ
  | fieldLinkNest a i b n d h => exact va_Nw.warmF hW hZ
  | _ => cases h
theorem nst_same {w : Cond} (h : nestB w = true) {u U : State} (hv : u.vm = U.vm) (hZ : va_Nw w u) : va_Nw w U := by
  cases w with
  | methodLinkNest a i x h => exact va_Nw.same rfl hv hZ
  | fieldLinkNest a i b n d h => exact va_Nw.same rfl hv hZ
  | _ => cases h
theorem txs_ok (adK adV : Nat → Nat) : txOk (txs adK adV) := by
  refine ⟨fun A U V H hv h => ?_, fun A s U H hW h => ?_, fun A U H H1 hq h => ?_, fun A B U H hAB h => ?_⟩
  · obtain ⟨h1, h2, h3, ⟨r1, r2, r3, r4⟩, h5, h6⟩ := h
    have ha : U.vm.Alike V.vm := by rw [hv]; exact Vm.Alike.refl U.vm
    exact ⟨h1.moved ha, h2.moved ha, h3.moved ha, ⟨r1.same hv, r2.same hv, r3.same hv, r4.same hv⟩, fun w hw => nst_same (nst_kd w hw) hv.symm (h5 w hw), fun a z => (h6 a z).moved ha⟩
  · obtain ⟨h1, h2, h3, ⟨r1, r2, r3, r4⟩, h5, h6⟩ := h
    exact ⟨h1.moved hW.alike, h2.moved hW.alike, h3.moved hW.alike, ⟨r1.warm hW, r2.warm hW, r3.warm hW, r4.warm hW⟩, fun w hw => nst_warm (nst_kd w hw) hW (h5 w hw), fun a z => (h6 a z).moved hW.alike⟩
  · obtain ⟨h1, h2, h3, h4, h5, h6⟩ := h
    exact ⟨h1.kept hq, h2.kept hq, h3.kept hq, h4, h5, h6⟩
  · obtain ⟨h1, h2, h3, h4, h5, h6⟩ := h
    exact ⟨h1.narrow hAB, h2.narrow hAB, h3.narrow hAB, h4, h5, h6⟩
def rmT (j : Nat) : Room := { frames := j, cells := 0, slots := 0, locals := 100 * j }
def tP (TX : tX) (avs : List Value) : Array Value → State → Prop := va_Pc avs (fun U => TX (fun _ => False) U U.heap)
def tQi (ok : Int32 → Prop) : Array Value → State → Outcome → State → Prop := va_Qi (fun x (_ : Unit) => ok x) (fun _ _ => True) (fun _ => False)
def tQv : Array Value → State → Outcome → State → Prop := va_Qv (fun (_ : Unit) => True) (fun _ _ => True) (fun _ => False)
theorem tP_blind {TX : tX} (hT : txOk TX) {avs : List Value} : FrameBlind (tP TX avs) := by
  intro a U g mk q
  obtain ⟨q0, qT⟩ := q
  exact ⟨q0, hT.1 _ U _ _ rfl qT⟩
theorem tP_pre {TX : tX} (hT : txOk TX) {s : State} {H : Heap} {locs : List Loc} {avs : List Value} (h : TX (fun _ => False) s s.heap) (hS : va_S (fun _ => False) s.heap H locs) : ∀ U : State, U.heap = H → s.WarmedH U.vm → tP TX avs avs.toArray U := by
  intro U hU hW
  refine ⟨rfl, ?_⟩
  show TX (fun _ => False) U U.heap
  rw [hU]
  exact hT.2.1 _ s _ _ hW (hT.2.2.1 _ s s.heap H (fun q h1 h2 => hS.2.1 q h1 h2) h)
theorem lenX_b : ∀ i, i < 3 → lenX.getD i 0 < 112 := by decide +kernel
theorem lenX_0 : ∀ i, i < 3 → ((nI (lenX.getD i 0)) >>> ((0 : Int32) &&& 31)) = nI (lenX.getD i 0) ∧ lenX.getD i 0 = mLenT (m_tx i) := by decide +kernel
theorem bytX_ok : ∀ i, i < 3 → ∀ k, k < 112 → k < lenX.getD i 0 → ((((bytX.getD i []).getD k 0) &&& 255).toUInt32 % 65536).toInt32 = Int32.ofInt (mAtT (m_tx i) k) ∧ narrow .char (.int (Int32.ofInt (mAtT (m_tx i) k))) = .int (Int32.ofInt (mAtT (m_tx i) k)) ∧ (Int32.ofInt (mAtT (m_tx i) k)).toInt = mAtT (m_tx i) k ∧ (bytX.getD i []).getD k 0 = nI (mAtT (m_tx i) k).toNat ∧ 0 ≤ mAtT (m_tx i) k ∧ mAtT (m_tx i) k < 128 := by decide +kernel
section
variable {l : Launch} {adK adV : Nat → Nat}
theorem t_coder {i : Nat} (hi : i < 3) : Met l yT_coder (Cond.code yT_coder prog_18_method_152_code 1 (some .byte) :: Ws) (rmT 1) (tP (txs adK adV) [.ref (adK i)]) (tQi (fun x => x = 0)) 0 0 (fun _ => False) := by
  refine Met.ofW (cc := prog_18_method_152_code) (maxL := 1) (ret := (some .byte)) (by decide +kernel) rfl ?_
  intro p e s m args below meth c s₁ B hml hv
  obtain ⟨rfl, hT⟩ := hv
  have hx := B.exec
  have hb := B.bytes
  have hr := B.returns
  have hts0 := atoms_spec (ws := Cond.code yT_coder prog_18_method_152_code 1 (some .byte) :: Ws) B.pre
  have hts : ∀ w ∈ Ws, w.before [.ref (adK i)].toArray s = true := fun w hw => hts0 w (List.mem_cons_of_mem _ hw)
  have hown : s.vm.findClass "java/lang/String" = some m.cls := findClass_of_methodNamed B.named
  have hlocks := B.notSynchronized
  have hS : va_S (fun _ => False) s.heap s.heap [] := va_S.rf
  have hl := lv_entry ([.ref (adK i)]) (n := 1) (Nat.le_of_ble_eq_true rfl)
  rw [lg_entry_eq]
  generalize (lg_sl ([.ref (adK i)]) ++ List.replicate (1 - (lg_sl ([.ref (adK i)])).length) Slot.unset).toArray = ls at hl ⊢
  have hl : lv_has ls 1 [(0, .ref (adK i))] := hl
  refine va_gets (v := .int 1) hx hb hT.2.1 hS hown (hts _ wT_cs) (fun _ h => h) dT_coder_0 ?_
  refine lv_if_eq (tgt := 13) hx hb dT_coder_3 (by decide) (fun z => absurd z (by decide)) (fun _ => ?_)
  refine lv_aload_n hx hb dT_coder_6 rfl (lv_at hl 0 rfl) ?_
  refine vk_getf (v := .int 0) hx hb (hT.1.1 i hi).2.1 hS hown (hts _ wT_fc) (fun _ h => h) dT_coder_7 ?_
  refine lv_goto (tgt := 14) hx hb dT_coder_10 (by decide) ?_
  exact W.zret hx hb hr rfl (fun t ht _ => ⟨⟨_, (), rfl, rfl, trivial⟩, hS.F ht⟩) (fun q hq => hS.2.2 q hq) dT_coder_14 hlocks
theorem t_isLat {i : Nat} (hi : i < 3) : Met l yT_isLat (Cond.code yT_isLat prog_18_method_154_code 1 (some .boolean) :: Ws) (rmT 1) (tP (txs adK adV) [.ref (adK i)]) (tQi (fun x => x = 1)) 0 0 (fun _ => False) := by
  refine Met.ofW (cc := prog_18_method_154_code) (maxL := 1) (ret := (some .boolean)) (by decide +kernel) rfl ?_
  intro p e s m args below meth c s₁ B hml hv
  obtain ⟨rfl, hT⟩ := hv
  have hx := B.exec
  have hb := B.bytes
  have hr := B.returns
  have hts0 := atoms_spec (ws := Cond.code yT_isLat prog_18_method_154_code 1 (some .boolean) :: Ws) B.pre
  have hts : ∀ w ∈ Ws, w.before [.ref (adK i)].toArray s = true := fun w hw => hts0 w (List.mem_cons_of_mem _ hw)
  have hown : s.vm.findClass "java/lang/String" = some m.cls := findClass_of_methodNamed B.named
  have hlocks := B.notSynchronized
  have hS : va_S (fun _ => False) s.heap s.heap [] := va_S.rf
  have hl := lv_entry ([.ref (adK i)]) (n := 1) (Nat.le_of_ble_eq_true rfl)
  rw [lg_entry_eq]
  generalize (lg_sl ([.ref (adK i)]) ++ List.replicate (1 - (lg_sl ([.ref (adK i)])).length) Slot.unset).toArray = ls at hl ⊢
  have hl : lv_has ls 1 [(0, .ref (adK i))] := hl
  refine va_gets (v := .int 1) hx hb hT.2.1 hS hown (hts _ wT_cs) (fun _ h => h) dT_isLat_0 ?_
  refine lv_if_eq (tgt := 17) hx hb dT_isLat_3 (by decide) (fun z => absurd z (by decide)) (fun _ => ?_)
  refine lv_aload_n hx hb dT_isLat_6 rfl (lv_at hl 0 rfl) ?_
  refine vk_getf (v := .int 0) hx hb (hT.1.1 i hi).2.1 hS hown (hts _ wT_fc) (fun _ h => h) dT_isLat_7 ?_
  refine lv_if_ne (tgt := 17) hx hb dT_isLat_10 (by decide) (fun z => absurd rfl z) (fun _ => ?_)
  refine lv_iconst (v := 1) hx hb dT_isLat_13 (by decide) ?_
  refine lv_goto (tgt := 18) hx hb dT_isLat_14 (by decide) ?_
  exact W.zret hx hb hr rfl (fun t ht _ => ⟨⟨_, (), rfl, rfl, trivial⟩, hS.F ht⟩) (fun q hq => hS.2.2 q hq) dT_isLat_18 hlocks
theorem t_leng {i : Nat} (hi : i < 3) : Met l yT_leng (Cond.code yT_leng prog_18_method_54_code 1 (some .int) :: Ws) (rmT 2) (tP (txs adK adV) [.ref (adK i)]) (tQi (fun x => x = nI (lenX.getD i 0))) 0 0 (fun _ => False) := by
  refine Met.ofW (cc := prog_18_method_54_code) (maxL := 1) (ret := (some .int)) (by decide +kernel) rfl ?_
  intro p e s m args below meth c s₁ B hml hv
  obtain ⟨rfl, hT⟩ := hv
  have hx := B.exec
  have hb := B.bytes
  have hr := B.returns
  have hts0 := atoms_spec (ws := Cond.code yT_leng prog_18_method_54_code 1 (some .int) :: Ws) B.pre
  have hts : ∀ w ∈ Ws, w.before [.ref (adK i)].toArray s = true := fun w hw => hts0 w (List.mem_cons_of_mem _ hw)
  have hown : s.vm.findClass "java/lang/String" = some m.cls := findClass_of_methodNamed B.named
  have hlocks := B.notSynchronized
  have hS : va_S (fun _ => False) s.heap s.heap [] := va_S.rf
  have hl := lv_entry ([.ref (adK i)]) (n := 1) (Nat.le_of_ble_eq_true rfl)
  rw [lg_entry_eq]
  generalize (lg_sl ([.ref (adK i)]) ++ List.replicate (1 - (lg_sl ([.ref (adK i)])).length) Slot.unset).toArray = ls at hl ⊢
  have hl : lv_has ls 1 [(0, .ref (adK i))] := hl
  refine lv_aload_n hx hb dT_leng_0 rfl (lv_at hl 0 rfl) ?_
  refine vk_getf (v := .ref (adV i)) hx hb (hT.1.1 i hi).2.2.1 hS hown (hts _ wT_fv) (fun _ h => h) dT_leng_1 ?_
  refine va_tlen (v := nI (lenX.getD i 0)) hx hb (hT.1.1 i hi).2.2.2 hS rfl dT_leng_4 ?_
  refine lv_aload_n hx hb dT_leng_5 rfl (lv_at hl 0 rfl) ?_
  refine va_calli (va_runV (C := "java/lang/String") (As := []) (rest := [.int (nI (lenX.getD i 0))]) ⟨hx, hb, hml, hown, hts⟩ (t_coder (l := l) hi) ⟨callB_of 0 hts gT_coder rfl rfl rfl (hts _ wT_n1) (hts _ wT_l1) ⟨by decide +kernel, by decide +kernel, by decide +kernel⟩ ⟨Nat.le_of_ble_eq_true rfl, Nat.le_of_ble_eq_true rfl⟩, hts _ wT_i_coder, hts _ wT_s_coder⟩ ⟨tP_blind (txs_ok adK adV), vk_recv hT.1 hi hS, tP_pre (txs_ok adK adV) hT hS⟩ rfl rfl hl.1 rfl (lv_room (Nat.le_of_ble_eq_true rfl)) dT_leng_6 ⟨Nat.zero_le _, Nat.zero_le _⟩) hS (fun q _ h => h) (fun q h => h) (fun x u t H1 locs1 ht hvm hw hB hz1 hk1 hS => ?_)
  clear hB u ht hvm t hz1 hk1
  subst hw
  refine lv_ishr hx hb dT_leng_9 ?_
  exact W.iret hx hb hr (fun t ht _ => ⟨⟨_, (), rfl, (lenX_0 i hi).1, trivial⟩, hS.F ht⟩) (fun q hq => hS.2.2 q hq) dT_leng_10 hlocks
theorem t_chkP {a b : Nat} {v : Value} (hab : a < b) (hb3 : b < 1000) (hv9 : v = .null ∨ ∃ t, v = .ref t) : Met l yT_chkP (Cond.code yT_chkP prog_22_method_11_code 3 (some .int) :: Ws) (rmT 1) (tP (txs adK adV) [.int (nI a), .int (nI b), v]) (tQi (fun _ => True)) 0 0 (fun _ => False) := by
  rcases hv9 with rfl | ⟨t9, rfl⟩
  · refine Met.ofW (cc := prog_22_method_11_code) (maxL := 3) (ret := (some .int)) (by decide +kernel) rfl ?_
    intro p e s m args below meth c s₁ B hml hv
    obtain ⟨rfl, hT⟩ := hv
    have hx := B.exec
    have hb := B.bytes
    have hr := B.returns
    have hts0 := atoms_spec (ws := Cond.code yT_chkP prog_22_method_11_code 3 (some .int) :: Ws) B.pre
    have hts : ∀ w ∈ Ws, w.before [.int (nI a), .int (nI b), .null].toArray s = true := fun w hw => hts0 w (List.mem_cons_of_mem _ hw)
    have hown : s.vm.findClass "jdk/internal/util/Preconditions" = some m.cls := findClass_of_methodNamed B.named
    have hlocks := B.notSynchronized
    have hS : va_S (fun _ => False) s.heap s.heap [] := va_S.rf
    have hl := lv_entry ([.int (nI a), .int (nI b), .null]) (n := 3) (Nat.le_of_ble_eq_true rfl)
    rw [lg_entry_eq]
    generalize (lg_sl ([.int (nI a), .int (nI b), .null]) ++ List.replicate (3 - (lg_sl ([.int (nI a), .int (nI b), .null])).length) Slot.unset).toArray = ls at hl ⊢
    have hl : lv_has ls 3 [(0, .int (nI a)), (1, .int (nI b)), (2, .null)] := hl
    refine lv_iload_n hx hb dT_chkP_0 rfl (lv_at hl 0 rfl) ?_
    refine lv_if_lt (tgt := 9) hx hb dT_chkP_1 (by decide) (fun z => absurd z (nI_pos (by omega))) (fun _ => ?_)
    refine lv_iload_n hx hb dT_chkP_4 rfl (lv_at hl 0 rfl) ?_
    refine lv_iload_n hx hb dT_chkP_5 rfl (lv_at hl 1 rfl) ?_
    refine lv_icmp_lt (tgt := 16) hx hb dT_chkP_6 (by decide) (fun _ => ?_) (fun z => absurd (nI_lt hab (by omega)) z)
    refine lv_iload_n hx hb dT_chkP_16 rfl (lv_at hl 0 rfl) ?_
    exact W.iret hx hb hr (fun t ht _ => ⟨⟨_, (), rfl, trivial, trivial⟩, hS.F ht⟩) (fun q hq => hS.2.2 q hq) dT_chkP_17 hlocks
  · refine Met.ofW (cc := prog_22_method_11_code) (maxL := 3) (ret := (some .int)) (by decide +kernel) rfl ?_
    intro p e s m args below meth c s₁ B hml hv
    obtain ⟨rfl, hT⟩ := hv
    have hx := B.exec
    have hb := B.bytes
    have hr := B.returns
    have hts0 := atoms_spec (ws := Cond.code yT_chkP prog_22_method_11_code 3 (some .int) :: Ws) B.pre
    have hts : ∀ w ∈ Ws, w.before [.int (nI a), .int (nI b), .ref t9].toArray s = true := fun w hw => hts0 w (List.mem_cons_of_mem _ hw)
    have hown : s.vm.findClass "jdk/internal/util/Preconditions" = some m.cls := findClass_of_methodNamed B.named
    have hlocks := B.notSynchronized
    have hS : va_S (fun _ => False) s.heap s.heap [] := va_S.rf
    have hl := lv_entry ([.int (nI a), .int (nI b), .ref t9]) (n := 3) (Nat.le_of_ble_eq_true rfl)
    rw [lg_entry_eq]
    generalize (lg_sl ([.int (nI a), .int (nI b), .ref t9]) ++ List.replicate (3 - (lg_sl ([.int (nI a), .int (nI b), .ref t9])).length) Slot.unset).toArray = ls at hl ⊢
    have hl : lv_has ls 3 [(0, .int (nI a)), (1, .int (nI b)), (2, .ref t9)] := hl
    refine lv_iload_n hx hb dT_chkP_0 rfl (lv_at hl 0 rfl) ?_
    refine lv_if_lt (tgt := 9) hx hb dT_chkP_1 (by decide) (fun z => absurd z (nI_pos (by omega))) (fun _ => ?_)
    refine lv_iload_n hx hb dT_chkP_4 rfl (lv_at hl 0 rfl) ?_
    refine lv_iload_n hx hb dT_chkP_5 rfl (lv_at hl 1 rfl) ?_
    refine lv_icmp_lt (tgt := 16) hx hb dT_chkP_6 (by decide) (fun _ => ?_) (fun z => absurd (nI_lt hab (by omega)) z)
    refine lv_iload_n hx hb dT_chkP_16 rfl (lv_at hl 0 rfl) ?_
    exact W.iret hx hb hr (fun t ht _ => ⟨⟨_, (), rfl, trivial, trivial⟩, hS.F ht⟩) (fun q hq => hS.2.2 q hq) dT_chkP_17 hlocks
theorem t_chkS {a b : Nat} (hab : a < b) (hb3 : b < 1000) : Met l yT_chkS (Cond.code yT_chkS prog_18_method_155_code 2 none :: Ws) (rmT 2) (tP (txs adK adV) [.int (nI a), .int (nI b)]) (tQv) 0 0 (fun _ => False) := by
  refine Met.ofW (cc := prog_18_method_155_code) (maxL := 2) (ret := none) (by decide +kernel) rfl ?_
  intro p e s m args below meth c s₁ B hml hv
  obtain ⟨rfl, hT⟩ := hv
  have hx := B.exec
  have hb := B.bytes
  have hr := B.returns
  have hts0 := atoms_spec (ws := Cond.code yT_chkS prog_18_method_155_code 2 none :: Ws) B.pre
  have hts : ∀ w ∈ Ws, w.before [.int (nI a), .int (nI b)].toArray s = true := fun w hw => hts0 w (List.mem_cons_of_mem _ hw)
  have hown : s.vm.findClass "java/lang/String" = some m.cls := findClass_of_methodNamed B.named
  have hlocks := B.notSynchronized
  have hS : va_S (fun _ => False) s.heap s.heap [] := va_S.rf
  have hl := lv_entry ([.int (nI a), .int (nI b)]) (n := 2) (Nat.le_of_ble_eq_true rfl)
  rw [lg_entry_eq]
  generalize (lg_sl ([.int (nI a), .int (nI b)]) ++ List.replicate (2 - (lg_sl ([.int (nI a), .int (nI b)])).length) Slot.unset).toArray = ls at hl ⊢
  have hl : lv_has ls 2 [(0, .int (nI a)), (1, .int (nI b))] := hl
  refine lv_iload_n hx hb dT_chkS_0 rfl (lv_at hl 0 rfl) ?_
  refine lv_iload_n hx hb dT_chkS_1 rfl (lv_at hl 1 rfl) ?_
  obtain ⟨v, hv9, hZ⟩ : ∃ v : Value, (v = .null ∨ ∃ t, v = .ref t) ∧ va_Z "jdk/internal/util/Preconditions" "SIOOBE_FORMATTER" "Ljava/util/function/BiFunction;" v (fun _ => False) s s.heap := by
    rcases hT.2.2.1 with z | ⟨t, z⟩
    · exact ⟨.null, Or.inl rfl, z⟩
    · exact ⟨.ref t, Or.inr ⟨t, rfl⟩, z⟩
  refine va_gets (v := v) hx hb hZ hS hown (hts _ wT_ff) (fun _ h => h) dT_chkS_2 ?_
  refine va_calli (va_runS (As := [.int (nI a), .int (nI b), v]) (rest := []) ⟨hx, hb, hml, hown, hts⟩ (t_chkP (l := l) hab hb3 hv9) ⟨callB_of 3 hts gT_chkP rfl rfl rfl (hts _ wT_n3) (hts _ wT_l3) ⟨by decide +kernel, by decide +kernel, by decide +kernel⟩ ⟨Nat.le_of_ble_eq_true rfl, Nat.le_of_ble_eq_true rfl⟩, hts _ wT_t_chkP⟩ ⟨tP_blind (txs_ok adK adV), tP_pre (txs_ok adK adV) hT hS⟩ rfl rfl hl.1 rfl (lv_room (Nat.le_of_ble_eq_true rfl)) dT_chkS_5 ⟨Nat.zero_le _, Nat.zero_le _⟩) hS (fun q _ h => h) (fun q h => h) (fun x u t H1 locs1 ht hvm hw hB hz1 hk1 hS => ?_)
  clear hB u ht hvm t hz1 hk1
  refine lv_pop hx hb dT_chkS_8 rfl ?_
  exact W.vret hx hb hr (fun t ht _ => ⟨⟨(), rfl, trivial, trivial⟩, hS.F ht⟩) (fun q hq => hS.2.2 q hq) dT_chkS_9 hlocks
theorem t_chrL {i k : Nat} (hi : i < 3) (hk : k < lenX.getD i 0) : Met l yT_chrL (Cond.code yT_chrL prog_19_method_2_code 2 (some .char) :: Ws) (rmT 3) (tP (txs adK adV) [.ref (adV i), .int (nI k)]) (tQi (fun x => x = Int32.ofInt (mAtT (m_tx i) k))) 0 0 (fun _ => False) := by
  refine Met.ofW (cc := prog_19_method_2_code) (maxL := 2) (ret := (some .char)) (by decide +kernel) rfl ?_
  intro p e s m args below meth c s₁ B hml hv
  obtain ⟨rfl, hT⟩ := hv
  have hx := B.exec
  have hb := B.bytes
  have hr := B.returns
  have hts0 := atoms_spec (ws := Cond.code yT_chrL prog_19_method_2_code 2 (some .char) :: Ws) B.pre
  have hts : ∀ w ∈ Ws, w.before [.ref (adV i), .int (nI k)].toArray s = true := fun w hw => hts0 w (List.mem_cons_of_mem _ hw)
  have hown : s.vm.findClass "java/lang/StringLatin1" = some m.cls := findClass_of_methodNamed B.named
  have hlocks := B.notSynchronized
  have hS : va_S (fun _ => False) s.heap s.heap [] := va_S.rf
  have hl := lv_entry ([.ref (adV i), .int (nI k)]) (n := 2) (Nat.le_of_ble_eq_true rfl)
  rw [lg_entry_eq]
  generalize (lg_sl ([.ref (adV i), .int (nI k)]) ++ List.replicate (2 - (lg_sl ([.ref (adV i), .int (nI k)])).length) Slot.unset).toArray = ls at hl ⊢
  have hl : lv_has ls 2 [(0, .ref (adV i)), (1, .int (nI k))] := hl
  have hL := lenX_b i hi
  obtain ⟨b1, b2, b3, _⟩ := bytX_ok i hi k (by omega) hk
  refine lv_iload_n hx hb dT_chrL_0 rfl (lv_at hl 1 rfl) ?_
  refine lv_aload_n hx hb dT_chrL_1 rfl (lv_at hl 0 rfl) ?_
  refine va_tlen (v := nI (lenX.getD i 0)) hx hb (hT.1.1 i hi).2.2.2 hS rfl dT_chrL_2 ?_
  refine va_callv (va_runS (As := [.int (nI k), .int (nI (lenX.getD i 0))]) (rest := []) ⟨hx, hb, hml, hown, hts⟩ (t_chkS (l := l) hk (by omega)) ⟨callB_of 2 hts gT_chkS rfl rfl rfl (hts _ wT_n1) (hts _ wT_l4) ⟨by decide +kernel, by decide +kernel, by decide +kernel⟩ ⟨Nat.le_of_ble_eq_true rfl, Nat.le_of_ble_eq_true rfl⟩, hts _ wT_t_chkS⟩ ⟨tP_blind (txs_ok adK adV), tP_pre (txs_ok adK adV) hT hS⟩ rfl rfl hl.1 rfl (lv_room (Nat.le_of_ble_eq_true rfl)) dT_chrL_3 ⟨Nat.zero_le _, Nat.zero_le _⟩) hS (fun q _ h => h) (fun q h => h) (fun u t H1 locs1 ht hvm hw hB hz1 hk1 hS => ?_)
  clear hB u ht hvm t hz1 hk1
  refine lv_aload_n hx hb dT_chrL_6 rfl (lv_at hl 0 rfl) ?_
  refine lv_iload_n hx hb dT_chrL_7 rfl (lv_at hl 1 rfl) ?_
  refine va_tb (i := nI k) (v := .int ((bytX.getD i []).getD k 0)) hx hb (hT.1.1 i hi).2.2.2 hS (vp_in_nI hk (by omega)) (by rw [nI_clamp (by omega)]) dT_chrL_8 ?_
  refine lv_sipush (v := 255) hx hb dT_chrL_9 (by decide) ?_
  refine lv_iand hx hb dT_chrL_12 ?_
  refine lv_i2c (v := Int32.ofInt (mAtT (m_tx i) k)) hx hb dT_chrL_13 b1 ?_
  exact W.zret hx hb hr b2 (fun t ht _ => ⟨⟨_, (), rfl, rfl, trivial⟩, hS.F ht⟩) (fun q hq => hS.2.2 q hq) dT_chrL_14 hlocks
theorem t_chrS {i k : Nat} (hi : i < 3) (hk : k < lenX.getD i 0) : Met l yT_chrS (Cond.code yT_chrS prog_18_method_56_code 2 (some .char) :: Ws) (rmT 4) (tP (txs adK adV) [.ref (adK i), .int (nI k)]) (tQi (fun x => x = Int32.ofInt (mAtT (m_tx i) k))) 0 0 (fun _ => False) := by
  refine Met.ofW (cc := prog_18_method_56_code) (maxL := 2) (ret := (some .char)) (by decide +kernel) rfl ?_
  intro p e s m args below meth c s₁ B hml hv
  obtain ⟨rfl, hT⟩ := hv
  have hx := B.exec
  have hb := B.bytes
  have hr := B.returns
  have hts0 := atoms_spec (ws := Cond.code yT_chrS prog_18_method_56_code 2 (some .char) :: Ws) B.pre
  have hts : ∀ w ∈ Ws, w.before [.ref (adK i), .int (nI k)].toArray s = true := fun w hw => hts0 w (List.mem_cons_of_mem _ hw)
  have hown : s.vm.findClass "java/lang/String" = some m.cls := findClass_of_methodNamed B.named
  have hlocks := B.notSynchronized
  have hS : va_S (fun _ => False) s.heap s.heap [] := va_S.rf
  have hl := lv_entry ([.ref (adK i), .int (nI k)]) (n := 2) (Nat.le_of_ble_eq_true rfl)
  rw [lg_entry_eq]
  generalize (lg_sl ([.ref (adK i), .int (nI k)]) ++ List.replicate (2 - (lg_sl ([.ref (adK i), .int (nI k)])).length) Slot.unset).toArray = ls at hl ⊢
  have hl : lv_has ls 2 [(0, .ref (adK i)), (1, .int (nI k))] := hl
  have hL := lenX_b i hi
  obtain ⟨b1, b2, b3, _⟩ := bytX_ok i hi k (by omega) hk
  refine lv_aload_n hx hb dT_chrS_0 rfl (lv_at hl 0 rfl) ?_
  refine va_calli (va_runV (C := "java/lang/String") (As := []) (rest := []) ⟨hx, hb, hml, hown, hts⟩ (t_isLat (l := l) hi) ⟨callB_of 0 hts gT_isLat rfl rfl rfl (hts _ wT_n1) (hts _ wT_l2) ⟨by decide +kernel, by decide +kernel, by decide +kernel⟩ ⟨Nat.le_of_ble_eq_true rfl, Nat.le_of_ble_eq_true rfl⟩, hts _ wT_i_isLat, hts _ wT_s_isLat⟩ ⟨tP_blind (txs_ok adK adV), vk_recv hT.1 hi hS, tP_pre (txs_ok adK adV) hT hS⟩ rfl rfl hl.1 rfl (lv_room (Nat.le_of_ble_eq_true rfl)) dT_chrS_1 ⟨Nat.zero_le _, Nat.zero_le _⟩) hS (fun q _ h => h) (fun q h => h) (fun x u t H1 locs1 ht hvm hw hB hz1 hk1 hS => ?_)
  clear hB u ht hvm t hz1 hk1
  subst hw
  refine lv_if_eq (tgt := 16) hx hb dT_chrS_4 (by decide) (fun z => absurd z (by decide)) (fun _ => ?_)
  refine lv_aload_n hx hb dT_chrS_7 rfl (lv_at hl 0 rfl) ?_
  refine vk_getf (v := .ref (adV i)) hx hb (hT.1.1 i hi).2.2.1 hS hown (hts _ wT_fv) (fun _ h => h) dT_chrS_8 ?_
  refine lv_iload_n hx hb dT_chrS_11 rfl (lv_at hl 1 rfl) ?_
  refine va_calli (va_runS (As := [.ref (adV i), .int (nI k)]) (rest := []) ⟨hx, hb, hml, hown, hts⟩ (t_chrL (l := l) hi hk) ⟨callB_of 2 hts gT_chrL rfl rfl rfl (hts _ wT_n2) (hts _ wT_l5) ⟨by decide +kernel, by decide +kernel, by decide +kernel⟩ ⟨Nat.le_of_ble_eq_true rfl, Nat.le_of_ble_eq_true rfl⟩, hts _ wT_t_chrL⟩ ⟨tP_blind (txs_ok adK adV), tP_pre (txs_ok adK adV) hT hS⟩ rfl rfl hl.1 rfl (lv_room (Nat.le_of_ble_eq_true rfl)) dT_chrS_12 ⟨Nat.zero_le _, Nat.zero_le _⟩) hS (fun q _ h => h) (fun q h => h) (fun x u t H1 locs1 ht hvm hw hB hz1 hk1 hS => ?_)
  clear hB u ht hvm t hz1 hk1
  subst hw
  exact W.zret hx hb hr b2 (fun t ht _ => ⟨⟨_, (), rfl, rfl, trivial⟩, hS.F ht⟩) (fun q hq => hS.2.2 q hq) dT_chrS_15 hlocks
theorem t_canE {ch : Nat} (hc : ch < 256) : Met l yT_canE (Cond.code yT_canE prog_19_method_4_code 1 (some .boolean) :: Ws) (rmT 1) (tP (txs adK adV) [.int (nI ch)]) (tQi (fun x => x = 1)) 0 0 (fun _ => False) := by
  refine Met.ofW (cc := prog_19_method_4_code) (maxL := 1) (ret := (some .boolean)) (by decide +kernel) rfl ?_
  intro p e s m args below meth c s₁ B hml hv
  obtain ⟨rfl, hT⟩ := hv
  have hx := B.exec
  have hb := B.bytes
  have hr := B.returns
  have hts0 := atoms_spec (ws := Cond.code yT_canE prog_19_method_4_code 1 (some .boolean) :: Ws) B.pre
  have hts : ∀ w ∈ Ws, w.before [.int (nI ch)].toArray s = true := fun w hw => hts0 w (List.mem_cons_of_mem _ hw)
  have hown : s.vm.findClass "java/lang/StringLatin1" = some m.cls := findClass_of_methodNamed B.named
  have hlocks := B.notSynchronized
  have hS : va_S (fun _ => False) s.heap s.heap [] := va_S.rf
  have hl := lv_entry ([.int (nI ch)]) (n := 1) (Nat.le_of_ble_eq_true rfl)
  rw [lg_entry_eq]
  generalize (lg_sl ([.int (nI ch)]) ++ List.replicate (1 - (lg_sl ([.int (nI ch)])).length) Slot.unset).toArray = ls at hl ⊢
  have hl : lv_has ls 1 [(0, .int (nI ch))] := hl
  refine lv_iload_n hx hb dT_canE_0 rfl (lv_at hl 0 rfl) ?_
  refine lv_if_lt (tgt := 15) hx hb dT_canE_1 (by decide) (fun z => absurd z (nI_pos (by omega))) (fun _ => ?_)
  refine lv_iload_n hx hb dT_canE_4 rfl (lv_at hl 0 rfl) ?_
  refine lv_sipush (v := nI 255) hx hb dT_canE_5 (by decide) ?_
  refine lv_icmp_gt (tgt := 15) hx hb dT_canE_8 (by decide) (fun z => absurd z (nI_nlt (by omega) (by omega))) (fun _ => ?_)
  refine lv_iconst (v := 1) hx hb dT_canE_11 (by decide) ?_
  refine lv_goto (tgt := 16) hx hb dT_canE_12 (by decide) ?_
  exact W.zret hx hb hr rfl (fun t ht _ => ⟨⟨_, (), rfl, rfl, trivial⟩, hS.F ht⟩) (fun q hq => hS.2.2 q hq) dT_canE_16 hlocks
end
