/-! ===== what the code links, by places among the words of the tables (printed by program) ===== -/
def Ws : List Cond := lw_tbl.filter goodWord
/-- the tables, a piece by number; the word at a place (a thousand places a piece) -/
def tch (c : Nat) : List Cond := match c with
  | 0 => k2_sels lw_privs
  | 1 => tables_1_1
  | 2 => tables_1_2
  | 3 => tables_1_3
  | 4 => tables_1_4
  | 5 => tables_1_5
  | 6 => tables_1_6
  | 7 => tables_1_7
  | 8 => tables_1_8
  | _ => tables_1_9
def tnth : List Cond → Nat → Option Cond
  | [], _ => none
  | w :: _, 0 => some w
  | _ :: l, n + 1 => tnth l n
def tw (i : Nat) : Option Cond := tnth (tch (i / 1000)) (i % 1000)
theorem tnth_mem : ∀ {l : List Cond} {n : Nat} {w : Cond}, tnth l n = some w → w ∈ l
  | [], _, _, h => by cases h
  | x :: l, 0, w, h => by cases h; exact List.mem_cons_self
  | x :: l, n + 1, w, h => List.mem_cons_of_mem _ (tnth_mem (l := l) h)
theorem tch_in (c : Nat) : ∀ w ∈ tch c, w ∈ lw_tbl := by
  intro w h
  unfold lw_tbl tables_1
  simp only [List.mem_append]
  unfold tch at h
  split at h
  all_goals simp only [h, true_or, or_true]
theorem tw_mem {i : Nat} {w : Cond} (h : tw i = some w) : w ∈ lw_tbl := tch_in _ w (tnth_mem h)
theorem Ws_in {w : Cond} (i : Nat) (h : tw i = some w) (g : goodWord w = true) : w ∈ Ws := List.mem_filter.mpr ⟨tw_mem h, g⟩
theorem Ws_good {l : List Cond} (h : ∀ w ∈ l, w ∈ Ws) : GoodIn Ws l := fun w hw => ⟨h w hw, good_of_word (List.mem_filter.mp (h w hw)).2⟩
def oN (n : Nat) : String := match n with
  | 0 => RX0
  | 1 => RX1
  | 2 => RX2
  | 3 => RX3
  | 4 => RX4
  | 5 => RX5
  | 6 => RX6
  | 7 => RX7
  | 8 => RX8
  | 9 => RX9
  | 10 => RX10
  | 11 => RX11
  | 12 => RX12
  | _ => RJ6
def fTb (a b : Nat) : String × String × String × Bool := match a with
  | 0 => TX0 b
  | 1 => TX1 b
  | 2 => TX2 b
  | 3 => TX3 b
  | 4 => TX4 b
  | 5 => TX5 b
  | 6 => TX6 b
  | 7 => TX7 b
  | 8 => TX8 b
  | 9 => TX9 b
  | 10 => TX10 b
  | 11 => TX11 b
  | _ => TX12 b
def fNn (a : Nat) : Nat := match a with
  | 0 => 4
  | 1 => 10
  | 2 => 16
  | 3 => 2
  | 4 => 10
  | 5 => 6
  | 6 => 5
  | 7 => 6
  | 8 => 3
  | 9 => 7
  | 10 => 5
  | 11 => 13
  | _ => 37
/-- a class as the tables have it -/
def CLf (a : Nat) : Prop := a < 13 ∧ vwCl[a]? = some (oN a, fTb a, fNn a) ∧ (∀ w ∈ u_ws (oN a) (fTb a) (fNn a), w ∈ Ws) ∧ (∀ k, k < fNn a → parseFieldDescriptor (fTb a k).2.2.1 = some (fty a k)) ∧ (∀ x, x < fNn a → ∀ y, y < fNn a → x ≠ y → (fTb a x).2.1 ≠ (fTb a y).2.1) ∧ (∀ k, k < fNn a → (fTb a k).1 = oN a) ∧ Cond.instantiable (oN a) (fNn a) ∈ Ws ∧ Cond.initialized (oN a) ∈ Ws
theorem uw_in {C : String} {T : u_T} {N : Nat} (ps : List Nat) (h : ∀ k, k < N → tw (ps.getD k 0) = some (u_lay C T k)) (h2 : ∀ k, k < N → goodWord (u_lay C T k) = true) : ∀ w ∈ u_ws C T N, w ∈ Ws := by
  intro w hw
  obtain ⟨k, hk, rfl⟩ := List.mem_map.mp hw
  have hk := List.mem_range.mp hk
  exact Ws_in _ (h k hk) (h2 k hk)
theorem cl_0 : CLf 0 := ⟨by decide, rfl, uw_in [2135, 2137, 2139, 2141] (by decide +kernel) (by decide +kernel), tyX0_ok, nmX0, by decide +kernel, Ws_in 2126 (by decide +kernel) (by decide +kernel), Ws_in 1010 (by decide +kernel) (by decide +kernel)⟩
theorem cl_1 : CLf 1 := ⟨by decide, rfl, uw_in [1159, 1161, 1163, 1165, 1167, 1169, 1171, 1173, 1175, 1177] (by decide +kernel) (by decide +kernel), tyX1_ok, nmX1, by decide +kernel, Ws_in 1143 (by decide +kernel) (by decide +kernel), Ws_in 1004 (by decide +kernel) (by decide +kernel)⟩
theorem cl_2 : CLf 2 := ⟨by decide, rfl, uw_in [1107, 1109, 1111, 1113, 1115, 1117, 1119, 1121, 1123, 1125, 1127, 1129, 1131, 1133, 1135, 1137] (by decide +kernel) (by decide +kernel), tyX2_ok, nmX2, by decide +kernel, Ws_in 1037 (by decide +kernel) (by decide +kernel), Ws_in 1003 (by decide +kernel) (by decide +kernel)⟩
theorem cl_3 : CLf 3 := ⟨by decide, rfl, uw_in [2063, 2065] (by decide +kernel) (by decide +kernel), tyX3_ok, nmX3, by decide +kernel, Ws_in 2052 (by decide +kernel) (by decide +kernel), Ws_in 1007 (by decide +kernel) (by decide +kernel)⟩
theorem cl_4 : CLf 4 := ⟨by decide, rfl, uw_in [1193, 1195, 1197, 1199, 1201, 1203, 1205, 1207, 1209, 1211] (by decide +kernel) (by decide +kernel), tyX4_ok, nmX4, by decide +kernel, Ws_in 1031 (by decide +kernel) (by decide +kernel), Ws_in 1002 (by decide +kernel) (by decide +kernel)⟩
theorem cl_5 : CLf 5 := ⟨by decide, rfl, uw_in [2156, 2158, 2160, 2162, 2164, 2166] (by decide +kernel) (by decide +kernel), tyX5_ok, nmX5, by decide +kernel, Ws_in 2145 (by decide +kernel) (by decide +kernel), Ws_in 1011 (by decide +kernel) (by decide +kernel)⟩
theorem cl_6 : CLf 6 := ⟨by decide, rfl, uw_in [2090, 2092, 2094, 2096, 2098] (by decide +kernel) (by decide +kernel), tyX6_ok, nmX6, by decide +kernel, Ws_in 2079 (by decide +kernel) (by decide +kernel), Ws_in 1009 (by decide +kernel) (by decide +kernel)⟩
theorem cl_7 : CLf 7 := ⟨by decide, rfl, uw_in [2009, 2011, 2013, 2015, 2017, 2019] (by decide +kernel) (by decide +kernel), tyX7_ok, nmX7, by decide +kernel, Ws_in 1223 (by decide +kernel) (by decide +kernel), Ws_in 1006 (by decide +kernel) (by decide +kernel)⟩
theorem cl_8 : CLf 8 := ⟨by decide, rfl, uw_in [2180, 2182, 2184] (by decide +kernel) (by decide +kernel), tyX8_ok, nmX8, by decide +kernel, Ws_in 2169 (by decide +kernel) (by decide +kernel), Ws_in 1012 (by decide +kernel) (by decide +kernel)⟩
theorem cl_9 : CLf 9 := ⟨by decide, rfl, uw_in [2109, 2111, 2113, 2115, 2117, 2119, 2121] (by decide +kernel) (by decide +kernel), tyX9_ok, nmX9, by decide +kernel, Ws_in 2073 (by decide +kernel) (by decide +kernel), Ws_in 1008 (by decide +kernel) (by decide +kernel)⟩
theorem cl_10 : CLf 10 := ⟨by decide, rfl, uw_in [2038, 2040, 2042, 2044, 2046] (by decide +kernel) (by decide +kernel), tyX10_ok, nmX10, by decide +kernel, Ws_in 1215 (by decide +kernel) (by decide +kernel), Ws_in 1005 (by decide +kernel) (by decide +kernel)⟩
theorem cl_11 : CLf 11 := ⟨by decide, rfl, uw_in [2200, 2202, 2204, 2206, 2208, 2210, 2212, 2214, 2216, 2218, 2220, 2222, 2224] (by decide +kernel) (by decide +kernel), tyX11_ok, nmX11, by decide +kernel, Ws_in 1023 (by decide +kernel) (by decide +kernel), Ws_in 1001 (by decide +kernel) (by decide +kernel)⟩
theorem cl_12 : CLf 12 := ⟨by decide, rfl, uw_in [6166, 6168, 6170, 6172, 6174, 6176, 6178, 6180, 6182, 6184, 6186, 6188, 6190, 6192, 6194, 6196, 6198, 6200, 6202, 6204, 6206, 6208, 6210, 6212, 6214, 6216, 6218, 6220, 6222, 6224, 6226, 6228, 6230, 6232, 6234, 6236, 6238] (by decide +kernel) (by decide +kernel), tyX12_ok, nmX12, by decide +kernel, Ws_in 6120 (by decide +kernel) (by decide +kernel), Ws_in 1013 (by decide +kernel) (by decide +kernel)⟩
theorem cl_all (a : Nat) (h : a < 13) : CLf a := by
  match a, h with
  | 0, _ => exact cl_0
  | 1, _ => exact cl_1
  | 2, _ => exact cl_2
  | 3, _ => exact cl_3
  | 4, _ => exact cl_4
  | 5, _ => exact cl_5
  | 6, _ => exact cl_6
  | 7, _ => exact cl_7
  | 8, _ => exact cl_8
  | 9, _ => exact cl_9
  | 10, _ => exact cl_10
  | 11, _ => exact cl_11
  | 12, _ => exact cl_12
def fLk (o : Nat) : List ((Nat × Nat × Nat × Nat) × Nat) := match o with
  | 0 => [((9, 0, 1, 2), 2132), ((15, 0, 2, 2), 2133), ((18, 0, 3, 2), 2134), ((21, 0, 0, 2), 2131), ((25, 10, 0, 2), 2028), ((31, 2, 0, 0), 1044), ((37, 2, 2, 0), 1055), ((44, 2, 7, 2), 1074), ((47, 2, 8, 2), 1081), ((50, 10, 1, 2), 2032), ((54, 7, 0, 2), 1229), ((63, 7, 4, 0), 2003), ((76, 2, 1, 0), 1050)]
  | 1 => [((9, 1, 3, 2), 1152), ((15, 1, 2, 0), 1151), ((19, 1, 1, 2), 1150), ((23, 2, 14, 2), 1102), ((28, 2, 13, 0), 1099), ((31, 2, 15, 2), 1105), ((34, 1, 4, 0), 1153), ((37, 1, 5, 0), 1154), ((40, 1, 6, 0), 1155), ((43, 1, 7, 0), 1156), ((46, 1, 0, 5), 1148), ((53, 1, 8, 0), 1157), ((56, 1, 9, 5), 1158)]
  | 2 => [((9, 2, 0, 0), 1042), ((15, 2, 1, 0), 1047), ((18, 2, 7, 2), 1072), ((22, 2, 8, 2), 1079), ((25, 2, 9, 2), 1086), ((28, 2, 10, 2), 1090), ((31, 2, 11, 2), 1093), ((34, 2, 12, 2), 1097), ((37, 2, 14, 2), 1101), ((40, 2, 15, 2), 1104), ((43, 2, 2, 0), 1053), ((46, 2, 3, 0), 1060), ((49, 2, 4, 0), 1063), ((52, 2, 5, 0), 1067), ((55, 2, 6, 0), 1069), ((58, 2, 13, 0), 1100)]
  | 3 => [((11, 3, 0, 2), 2060), ((18, 3, 1, 0), 2061)]
  | 4 => [((12, 4, 0, 2), 1180), ((18, 4, 2, 0), 1184), ((25, 4, 3, 2), 1186), ((29, 4, 4, 2), 1187), ((39, 4, 5, 0), 1188), ((42, 4, 6, 0), 1189), ((45, 4, 1, 0), 1182), ((58, 4, 7, 0), 1190), ((71, 2, 0, 0), 1045), ((74, 2, 1, 0), 1049), ((101, 2, 6, 0), 1071), ((104, 2, 2, 0), 1058), ((107, 2, 7, 2), 1077), ((111, 2, 8, 2), 1084), ((114, 2, 3, 0), 1061), ((117, 2, 9, 2), 1088), ((120, 2, 10, 2), 1092), ((123, 2, 4, 0), 1065), ((126, 2, 11, 2), 1095), ((129, 2, 5, 0), 1068), ((136, 4, 9, 0), 1192), ((142, 1, 0, 5), 1149), ((146, 4, 8, 0), 1191)]
  | 5 => [((9, 5, 1, 2), 2151), ((15, 5, 4, 2), 2154), ((19, 5, 5, 2), 2155), ((22, 5, 0, 2), 2150), ((32, 8, 2, 0), 2177), ((36, 5, 2, 0), 2152), ((49, 5, 3, 0), 2153), ((52, 10, 0, 2), 2029), ((56, 2, 8, 2), 1082), ((61, 2, 2, 0), 1057), ((68, 2, 7, 2), 1075), ((82, 2, 1, 0), 1051)]
  | 6 => [((9, 6, 0, 0), 2084), ((15, 6, 1, 2), 2086), ((19, 6, 2, 2), 2087), ((22, 6, 4, 0), 2089), ((25, 6, 3, 0), 2088)]
  | 7 => [((9, 7, 0, 2), 1228), ((15, 7, 1, 2), 1233), ((18, 7, 2, 2), 1236), ((21, 2, 5, 0), 1066), ((27, 2, 10, 2), 1091), ((28, 2, 4, 0), 1064), ((31, 7, 3, 0), 1239), ((32, 7, 4, 0), 2002), ((35, 7, 5, 0), 2006)]
  | 8 => [((9, 8, 0, 2), 2174), ((15, 8, 2, 0), 2176), ((19, 8, 1, 0), 2175)]
  | 9 => [((12, 9, 0, 2), 2101), ((18, 9, 2, 2), 2104), ((22, 9, 3, 2), 2105), ((25, 9, 4, 2), 2106), ((28, 9, 5, 2), 2107), ((32, 9, 6, 2), 2108), ((35, 9, 1, 2), 2103), ((39, 10, 0, 2), 2027), ((49, 2, 2, 0), 1054), ((55, 2, 7, 2), 1073), ((58, 2, 8, 2), 1080), ((97, 10, 1, 2), 2034), ((101, 7, 0, 2), 1231), ((126, 6, 0, 0), 2085)]
  | 10 => [((12, 10, 0, 2), 2026), ((21, 10, 1, 2), 2031), ((25, 10, 2, 2), 2035), ((29, 10, 3, 2), 2036), ((36, 2, 0, 0), 1043), ((40, 2, 1, 0), 1048), ((43, 2, 2, 0), 1056), ((46, 2, 15, 2), 1106), ((49, 7, 2, 2), 1237), ((52, 2, 7, 2), 1076), ((55, 2, 8, 2), 1083), ((66, 7, 3, 0), 2001), ((81, 2, 9, 2), 1089), ((84, 2, 14, 2), 1103), ((87, 2, 12, 2), 1098), ((114, 7, 0, 2), 1232), ((138, 7, 4, 0), 2004), ((150, 7, 1, 2), 1235), ((153, 7, 5, 0), 2008), ((156, 8, 2, 0), 2179), ((168, 10, 4, 0), 2037), ((184, 2, 11, 2), 1096)]
  | 11 => [((9, 11, 0, 2), 2187), ((16, 11, 2, 2), 2189), ((23, 11, 3, 2), 2190), ((30, 11, 4, 2), 2191), ((37, 11, 5, 2), 2192), ((43, 11, 6, 2), 2193), ((49, 11, 7, 2), 2194), ((53, 11, 8, 2), 2195), ((62, 11, 9, 2), 2196), ((69, 11, 10, 2), 2197), ((76, 11, 11, 2), 2198), ((80, 11, 12, 2), 2199), ((85, 11, 1, 0), 2188), ((97, 10, 0, 2), 2030), ((101, 4, 0, 2), 1181), ((108, 10, 1, 2), 2033), ((117, 2, 6, 0), 1070), ((120, 4, 1, 0), 1183), ((123, 4, 2, 0), 1185), ((130, 7, 0, 2), 1230), ((133, 7, 1, 2), 1234), ((136, 7, 2, 2), 1238), ((139, 2, 9, 2), 1087), ((155, 2, 7, 2), 1078), ((158, 2, 8, 2), 1085), ((161, 2, 3, 0), 1062), ((170, 7, 3, 0), 2000), ((173, 2, 11, 2), 1094), ((194, 7, 5, 0), 2007), ((203, 3, 1, 0), 2062), ((227, 8, 2, 0), 2178), ((253, 2, 0, 0), 1046), ((296, 9, 0, 2), 2102), ((308, 2, 2, 0), 1059), ((311, 2, 1, 0), 1052), ((319, 7, 4, 0), 2005)]
  | 12 => [((13, 12, 1, 2), 6130), ((17, 12, 2, 2), 6131), ((21, 12, 3, 2), 6132), ((24, 12, 4, 2), 6133), ((27, 12, 14, 0), 6143), ((30, 12, 16, 2), 6145), ((33, 12, 17, 2), 6146), ((36, 12, 18, 2), 6147), ((40, 12, 22, 2), 6151), ((43, 12, 23, 2), 6152), ((46, 12, 25, 2), 6154), ((50, 12, 26, 2), 6155), ((53, 12, 27, 2), 6156), ((56, 12, 28, 2), 6157), ((59, 12, 29, 2), 6158), ((62, 12, 30, 2), 6159), ((65, 12, 31, 2), 6160), ((68, 12, 32, 2), 6161), ((71, 12, 33, 2), 6162), ((74, 12, 34, 2), 6163), ((77, 12, 35, 2), 6164), ((80, 12, 36, 2), 6165), ((1, 12, 0, 0), 6129), ((87, 12, 5, 0), 6134), ((90, 12, 8, 0), 6137), ((105, 12, 6, 0), 6135), ((108, 12, 7, 0), 6136), ((115, 12, 9, 0), 6138), ((128, 12, 10, 0), 6139), ((133, 12, 11, 0), 6140), ((136, 12, 12, 0), 6141), ((153, 12, 15, 0), 6144), ((215, 12, 13, 0), 6142), ((311, 12, 19, 0), 6148), ((339, 12, 20, 0), 6149), ((353, 12, 21, 0), 6150), ((359, 12, 24, 0), 6153)]
  | _ => []
def FLc (o : Nat) (q : (Nat × Nat × Nat × Nat) × Nat) : Prop := q.1.2.1 < 13 ∧ q.1.2.2.1 < fNn q.1.2.1 ∧ q.1.2.2.2 = fso (fty q.1.2.1 q.1.2.2.1) ∧ tw q.2 = some (Cond.fieldLink (oN o) q.1.1 (fTb q.1.2.1 q.1.2.2.1).1 (fTb q.1.2.1 q.1.2.2.1).2.1 (fTb q.1.2.1 q.1.2.2.1).2.2.1)
theorem fl_0 : ∀ q ∈ fLk 0, FLc 0 q := by unfold FLc; decide +kernel
theorem fl_1 : ∀ q ∈ fLk 1, FLc 1 q := by unfold FLc; decide +kernel
theorem fl_2 : ∀ q ∈ fLk 2, FLc 2 q := by unfold FLc; decide +kernel
theorem fl_3 : ∀ q ∈ fLk 3, FLc 3 q := by unfold FLc; decide +kernel
theorem fl_4 : ∀ q ∈ fLk 4, FLc 4 q := by unfold FLc; decide +kernel
theorem fl_5 : ∀ q ∈ fLk 5, FLc 5 q := by unfold FLc; decide +kernel
theorem fl_6 : ∀ q ∈ fLk 6, FLc 6 q := by unfold FLc; decide +kernel
theorem fl_7 : ∀ q ∈ fLk 7, FLc 7 q := by unfold FLc; decide +kernel
theorem fl_8 : ∀ q ∈ fLk 8, FLc 8 q := by unfold FLc; decide +kernel
theorem fl_9 : ∀ q ∈ fLk 9, FLc 9 q := by unfold FLc; decide +kernel
theorem fl_10 : ∀ q ∈ fLk 10, FLc 10 q := by unfold FLc; decide +kernel
theorem fl_11 : ∀ q ∈ fLk 11, FLc 11 q := by unfold FLc; decide +kernel
theorem fl_12 : ∀ q ∈ fLk 12, FLc 12 q := by unfold FLc; decide +kernel
theorem fLk_ok (o : Nat) : ∀ q ∈ fLk o, FLc o q := by
  match o with
  | 0 => exact fl_0
  | 1 => exact fl_1
  | 2 => exact fl_2
  | 3 => exact fl_3
  | 4 => exact fl_4
  | 5 => exact fl_5
  | 6 => exact fl_6
  | 7 => exact fl_7
  | 8 => exact fl_8
  | 9 => exact fl_9
  | 10 => exact fl_10
  | 11 => exact fl_11
  | 12 => exact fl_12
  | _ + 13 => intro q h; cases h
def cIk (o : Nat) : List ((Nat × Int) × Nat) := match o with
  | 10 => [((178, 1103515245), 4238)]
  | 11 => [((179, (-99000002)), 4095), ((362, 1000000), 6058)]
  | 12 => [((39, 32768), 6125), ((264, (-99000002)), 7189), ((338, 1103515245), 8060), ((362, 268435456), 8109)]
  | 13 => [((264, 65536), 6017), ((265, 1431655765), 4207), ((266, 858993459), 4208), ((267, 252645135), 4209)]
  | _ => []
def CIc (o : Nat) (q : (Nat × Int) × Nat) : Prop := (Int32.ofInt q.1.2).toInt = q.1.2 ∧ tw q.2 = some (Cond.constant (oN o) q.1.1 (Int32.ofInt q.1.2))
theorem ci_10 : ∀ q ∈ cIk 10, CIc 10 q := by unfold CIc; decide +kernel
theorem ci_11 : ∀ q ∈ cIk 11, CIc 11 q := by unfold CIc; decide +kernel
theorem ci_12 : ∀ q ∈ cIk 12, CIc 12 q := by unfold CIc; decide +kernel
theorem ci_13 : ∀ q ∈ cIk 13, CIc 13 q := by unfold CIc; decide +kernel
theorem cIk_ok (o : Nat) : ∀ q ∈ cIk o, CIc o q := by
  match o with
  | 10 => exact ci_10
  | 11 => exact ci_11
  | 12 => exact ci_12
  | 13 => exact ci_13
  | 0 => intro q h; cases h
  | 1 => intro q h; cases h
  | 2 => intro q h; cases h
  | 3 => intro q h; cases h
  | 4 => intro q h; cases h
  | 5 => intro q h; cases h
  | 6 => intro q h; cases h
  | 7 => intro q h; cases h
  | 8 => intro q h; cases h
  | 9 => intro q h; cases h
  | _ + 14 => intro q h; cases h
def cLk (o : Nat) : List ((Nat × Int) × Nat) := match o with
  | 10 => [((97, (-1000000)), 4047), ((99, 1000000), 4048), ((116, (-1)), 4148), ((118, 900), 4149), ((123, 1000), 4151), ((125, 1010), 4152), ((130, 2000), 4154), ((132, 2100), 4155), ((187, 10), 6071)]
  | 11 => [((197, (-1)), 4139), ((288, (-2)), 5111), ((290, (-3)), 5112), ((379, 100), 6079), ((385, (-6)), 6092), ((387, (-7)), 6093)]
  | 12 => [((202, 11), 7075), ((204, 13), 7076), ((218, 1000000), 7147), ((220, (-1000000)), 7148), ((288, 9), 7228), ((290, 99), 7233), ((295, 10), 8002), ((297, (-1)), 8020), ((299, 899), 8021), ((301, 100), 8022), ((303, 1000), 8023), ((305, 1009), 8024), ((307, 2000), 8025), ((309, 2099), 8026), ((321, 3), 8007), ((345, 40), 8051), ((387, (-2)), 8134), ((389, 15), 8135), ((391, (-3)), 8136), ((426, 12), 8228), ((458, (-7)), 9047)]
  | _ => []
def CLc (o : Nat) (q : (Nat × Int) × Nat) : Prop := (Int64.ofInt q.1.2).toInt = q.1.2 ∧ tw q.2 = some (Cond.constantLong (oN o) q.1.1 (Int64.ofInt q.1.2))
theorem cg_10 : ∀ q ∈ cLk 10, CLc 10 q := by unfold CLc; decide +kernel
theorem cg_11 : ∀ q ∈ cLk 11, CLc 11 q := by unfold CLc; decide +kernel
theorem cg_12 : ∀ q ∈ cLk 12, CLc 12 q := by unfold CLc; decide +kernel
theorem cLk_ok (o : Nat) : ∀ q ∈ cLk o, CLc o q := by
  match o with
  | 10 => exact cg_10
  | 11 => exact cg_11
  | 12 => exact cg_12
  | 0 => intro q h; cases h
  | 1 => intro q h; cases h
  | 2 => intro q h; cases h
  | 3 => intro q h; cases h
  | 4 => intro q h; cases h
  | 5 => intro q h; cases h
  | 6 => intro q h; cases h
  | 7 => intro q h; cases h
  | 8 => intro q h; cases h
  | 9 => intro q h; cases h
  | _ + 13 => intro q h; cases h
def nWk (o : Nat) : List ((Nat × Nat) × Nat) := match o with
  | 3 => [((9, 7), 2057)]
  | 4 => [((9, 2), 1036), ((22, 1), 1142)]
  | 9 => [((9, 6), 2078)]
  | 10 => [((9, 2), 1220), ((18, 7), 1222)]
  | 11 => [((13, 4), 1030), ((20, 10), 1214), ((27, 7), 2049), ((34, 3), 2051), ((41, 8), 2068), ((47, 2), 2070), ((57, 9), 2072), ((66, 0), 2125), ((73, 5), 2144)]
  | _ => []
def NWc (o : Nat) (q : (Nat × Nat) × Nat) : Prop := q.1.2 < 13 ∧ tw q.2 = some (Cond.classLink (oN o) q.1.1 (oN q.1.2))
theorem nw_3 : ∀ q ∈ nWk 3, NWc 3 q := by unfold NWc; decide +kernel
theorem nw_4 : ∀ q ∈ nWk 4, NWc 4 q := by unfold NWc; decide +kernel
theorem nw_9 : ∀ q ∈ nWk 9, NWc 9 q := by unfold NWc; decide +kernel
theorem nw_10 : ∀ q ∈ nWk 10, NWc 10 q := by unfold NWc; decide +kernel
theorem nw_11 : ∀ q ∈ nWk 11, NWc 11 q := by unfold NWc; decide +kernel
theorem nWk_ok (o : Nat) : ∀ q ∈ nWk o, NWc o q := by
  match o with
  | 3 => exact nw_3
  | 4 => exact nw_4
  | 9 => exact nw_9
  | 10 => exact nw_10
  | 11 => exact nw_11
  | 0 => intro q h; cases h
  | 1 => intro q h; cases h
  | 2 => intro q h; cases h
  | 5 => intro q h; cases h
  | 6 => intro q h; cases h
  | 7 => intro q h; cases h
  | 8 => intro q h; cases h
  | _ + 12 => intro q h; cases h
