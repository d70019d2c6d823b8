/-! ===== the code of methods, row by row, and its test (printed by program) ===== -/

def t4_init : List (List mE) := [[(0, .aload_n 0, 1, 0, 0, 0, 0, []), (1, .invokespecial 3, 3, 1000, 1, 0, (-1), []), (4, .aload_n 0, 1, 0, 0, 0, 0, []), (5, .new 9, 3, 2, 16, 0, 0, []), (8, .dup, 1, 0, 0, 0, 0, []), (9, .invokespecial 11, 3, 20, 1, 0, 2, []), (12, .putfield 12, 3, 4, 0, 2, 0, []), (15, .aload_n 0, 1, 0, 0, 0, 0, [])],
  [(16, .iconst (-1), 1, 0, 0, 0, (-1), []), (17, .putfield 18, 3, 4, 2, 0, 0, []), (20, .aload_n 0, 1, 0, 0, 0, 0, []), (21, .new 22, 3, 1, 10, 0, 0, []), (24, .dup, 1, 0, 0, 0, 0, []), (25, .invokespecial 24, 3, 6, 1, 0, 1, []), (28, .putfield 25, 3, 4, 3, 2, 0, []), (31, .aload_n 0, 1, 0, 0, 0, 0, [])],
  [(32, .iconst 0, 1, 0, 0, 0, 0, []), (33, .newarray .byte, 2, 2, 0, 0, 0, []), (35, .putfield 29, 3, 4, 4, 2, 0, []), (38, .return_, 1, 0, 0, 0, 0, [])]]
set_option maxRecDepth 20000 in
theorem t4_init_d : ∀ row ∈ t4_init, ∀ en ∈ row, decode cX4_init en.1 = .ok (en.2.1, en.2.2.1) := by decide +kernel
set_option maxRecDepth 20000 in
theorem t4_init_b : ∀ row ∈ t4_init, ∀ en ∈ row, okB 4 "<init>" none 0 en = true := by decide +kernel
def t4_readText : List (List mE) := [[(0, .aload_n 0, 1, 0, 0, 0, 0, []), (1, .aload_n 1, 1, 1, 0, 0, 0, []), (2, .putfield 29, 3, 4, 4, 2, 0, []), (5, .aload_n 0, 1, 0, 0, 0, 0, []), (6, .iload_n 2, 1, 2, 0, 0, 0, []), (7, .aload_n 1, 1, 1, 0, 0, 0, []), (8, .arraylength, 1, 0, 0, 0, 0, []), (9, .invokestatic 33, 3, 1002, 2, 1, (-1), []), (12, .putfield 39, 3, 4, 5, 0, 0, []), (15, .aload_n 0, 1, 0, 0, 0, 0, [])],
  [(16, .iconst 0, 1, 0, 0, 0, 0, []), (17, .putfield 42, 3, 4, 6, 0, 0, []), (20, .aload_n 0, 1, 0, 0, 0, 0, []), (21, .iconst 0, 1, 0, 0, 0, 0, []), (22, .putfield 45, 3, 4, 1, 0, 0, []), (25, .aload_n 0, 1, 0, 0, 0, 0, []), (26, .iconst (-1), 1, 0, 0, 0, (-1), []), (27, .putfield 18, 3, 4, 2, 0, 0, []), (30, .aload_n 0, 1, 0, 0, 0, 0, []), (31, .getfield 12, 3, 4, 0, 2, 0, [])],
  [(34, .invokevirtual 48, 3, 21, 1, 0, 2, []), (37, .aload_n 0, 1, 0, 0, 0, 0, []), (38, .invokevirtual 51, 3, 44, 1, 0, 4, []), (41, .aload_n 0, 1, 0, 0, 0, 0, []), (42, .invokevirtual 54, 3, 32, 1, 1, 4, []), (45, .istore_n 3, 1, 3, 0, 0, 0, []), (46, .iconst 0, 1, 0, 0, 0, 0, []), (47, .istore 4, 2, 4, 0, 0, 0, [])],
  [(49, .iload 4, 2, 4, 0, 0, 0, []), (51, .aload_n 0, 1, 0, 0, 0, 0, []), (52, .getfield 39, 3, 4, 5, 0, 0, []), (55, .if_icmp .gt 25, 3, 80, 0, 0, 0, []), (58, .iload_n 3, 1, 3, 0, 0, 0, []), (59, .ifCond .eq 21, 3, 80, 0, 0, 0, []), (62, .aload_n 0, 1, 0, 0, 0, 0, []), (63, .getfield 58, 3, 4, 7, 0, 0, [])],
  [(66, .ifCond .eq 14, 3, 80, 0, 0, 0, []), (69, .aload_n 0, 1, 0, 0, 0, 0, []), (70, .invokevirtual 61, 3, 33, 1, 1, 4, []), (73, .istore_n 3, 1, 3, 0, 0, 0, []), (74, .iinc 4 1, 3, 4, 0, 0, 1, []), (77, .goto (-28), 3, 49, 0, 0, 0, [])],
  [(80, .aload_n 0, 1, 0, 0, 0, 0, []), (81, .getfield 45, 3, 4, 1, 0, 0, []), (84, .ireturn, 1, 0, 0, 0, 0, [])]]
set_option maxRecDepth 20000 in
theorem t4_readText_d : ∀ row ∈ t4_readText, ∀ en ∈ row, decode cX4_readText en.1 = .ok (en.2.1, en.2.2.1) := by decide +kernel
set_option maxRecDepth 20000 in
theorem t4_readText_b : ∀ row ∈ t4_readText, ∀ en ∈ row, okB 4 "readText" (some .int) 1 en = true := by decide +kernel
def t4_readFarms : List (List mE) := [[(0, .aload_n 0, 1, 0, 0, 0, 0, []), (1, .sipush 256, 3, 0, 0, 0, 256, []), (4, .invokevirtual 64, 3, 41, 2, 1, 4, []), (7, .ifCond .ne 5, 3, 12, 0, 0, 0, []), (10, .iconst 0, 1, 0, 0, 0, 0, []), (11, .ireturn, 1, 1, 0, 0, 0, []), (12, .aload_n 0, 1, 0, 0, 0, 0, []), (13, .getfield 12, 3, 4, 0, 2, 0, [])],
  [(16, .aload_n 0, 1, 0, 0, 0, 0, []), (17, .iconst 2, 1, 0, 0, 0, 2, []), (18, .bipush 8, 2, 0, 0, 0, 8, []), (20, .invokevirtual 68, 3, 42, 3, 1, 4, []), (23, .putfield 71, 3, 2, 0, 0, 0, []), (26, .aload_n 0, 1, 0, 0, 0, 0, []), (27, .getfield 12, 3, 4, 0, 2, 0, []), (30, .getfield 71, 3, 2, 0, 0, 0, [])],
  [(33, .iconst (-1), 1, 0, 0, 0, (-1), []), (34, .if_icmp .eq 13, 3, 47, 0, 0, 0, []), (37, .aload_n 0, 1, 0, 0, 0, 0, []), (38, .sipush 257, 3, 0, 0, 0, 257, []), (41, .invokevirtual 64, 3, 41, 2, 1, 4, []), (44, .ifCond .ne 5, 3, 49, 0, 0, 0, []), (47, .iconst 0, 1, 0, 0, 0, 0, [])],
  [(48, .ireturn, 1, 1, 0, 0, 0, []), (49, .aload_n 0, 1, 0, 0, 0, 0, []), (50, .getfield 12, 3, 4, 0, 2, 0, []), (53, .aload_n 0, 1, 0, 0, 0, 0, []), (54, .iconst 2, 1, 0, 0, 0, 2, []), (55, .bipush 8, 2, 0, 0, 0, 8, []), (57, .invokevirtual 68, 3, 42, 3, 1, 4, []), (60, .putfield 74, 3, 2, 1, 0, 0, []), (63, .aload_n 0, 1, 0, 0, 0, 0, [])],
  [(64, .getfield 12, 3, 4, 0, 2, 0, []), (67, .getfield 74, 3, 2, 1, 0, 0, []), (70, .iconst (-1), 1, 0, 0, 0, (-1), []), (71, .if_icmp .eq 14, 3, 85, 0, 0, 0, []), (74, .aload_n 0, 1, 0, 0, 0, 0, []), (75, .invokevirtual 77, 3, 34, 1, 1, 4, []), (78, .ifCond .eq 7, 3, 85, 0, 0, 0, [])],
  [(81, .iconst 1, 1, 0, 0, 0, 1, []), (82, .goto 4, 3, 86, 0, 0, 0, []), (85, .iconst 0, 1, 0, 0, 0, 0, []), (86, .ireturn, 1, 1, 0, 0, 0, [])]]
set_option maxRecDepth 20000 in
theorem t4_readFarms_d : ∀ row ∈ t4_readFarms, ∀ en ∈ row, decode cX4_readFarms en.1 = .ok (en.2.1, en.2.2.1) := by decide +kernel
set_option maxRecDepth 20000 in
theorem t4_readFarms_b : ∀ row ∈ t4_readFarms, ∀ en ∈ row, okB 4 "readFarms" (some .boolean) 1 en = true := by decide +kernel
def t4_readLine : List (List mE) := [[(0, .aload_n 0, 1, 0, 0, 0, 0, []), (1, .getfield 58, 3, 4, 7, 0, 0, []), (4, .tableswitch 124 258 270 #[68, 124, 124, 76, 124, 124, 84, 92, 124, 100, 100, 100, 116], 68, 128, 0, 0, 0, [(258, 72), (259, 128), (260, 128), (261, 80), (262, 128), (263, 128), (264, 88), (265, 96), (266, 128), (267, 104), (268, 104), (269, 104), (270, 120)])],
  [],
  [],
  [],
  [(72, .aload_n 0, 1, 0, 0, 0, 0, []), (73, .invokevirtual 80, 3, 35, 1, 1, 4, []), (76, .istore_n 1, 1, 1, 0, 0, 0, []), (77, .goto 57, 3, 134, 0, 0, 0, [])],
  [(80, .aload_n 0, 1, 0, 0, 0, 0, []), (81, .invokevirtual 83, 3, 36, 1, 1, 4, []), (84, .istore_n 1, 1, 1, 0, 0, 0, []), (85, .goto 49, 3, 134, 0, 0, 0, []), (88, .aload_n 0, 1, 0, 0, 0, 0, []), (89, .invokevirtual 86, 3, 37, 1, 1, 4, []), (92, .istore_n 1, 1, 1, 0, 0, 0, []), (93, .goto 41, 3, 134, 0, 0, 0, [])],
  [(96, .aload_n 0, 1, 0, 0, 0, 0, []), (97, .invokevirtual 89, 3, 38, 1, 1, 4, []), (100, .istore_n 1, 1, 1, 0, 0, 0, []), (101, .goto 33, 3, 134, 0, 0, 0, []), (104, .aload_n 0, 1, 0, 0, 0, 0, []), (105, .aload_n 0, 1, 0, 0, 0, 0, []), (106, .getfield 58, 3, 4, 7, 0, 0, []), (109, .sipush 267, 3, 0, 0, 0, 267, [])],
  [(112, .isub, 1, 0, 0, 0, 0, []), (113, .invokevirtual 92, 3, 40, 2, 1, 4, []), (116, .istore_n 1, 1, 1, 0, 0, 0, []), (117, .goto 17, 3, 134, 0, 0, 0, []), (120, .aload_n 0, 1, 0, 0, 0, 0, []), (121, .invokevirtual 95, 3, 39, 1, 1, 4, []), (124, .istore_n 1, 1, 1, 0, 0, 0, []), (125, .goto 9, 3, 134, 0, 0, 0, [])],
  [(128, .aload_n 0, 1, 0, 0, 0, 0, []), (129, .iconst 2, 1, 0, 0, 0, 2, []), (130, .invokevirtual 98, 3, 43, 2, 1, 4, []), (133, .istore_n 1, 1, 1, 0, 0, 0, []), (134, .iload_n 1, 1, 1, 0, 0, 0, []), (135, .ifCond .eq 14, 3, 149, 0, 0, 0, []), (138, .aload_n 0, 1, 0, 0, 0, 0, []), (139, .invokevirtual 77, 3, 34, 1, 1, 4, []), (142, .ifCond .eq 7, 3, 149, 0, 0, 0, [])],
  [(145, .iconst 1, 1, 0, 0, 0, 1, []), (146, .goto 4, 3, 150, 0, 0, 0, []), (149, .iconst 0, 1, 0, 0, 0, 0, []), (150, .ireturn, 1, 1, 0, 0, 0, [])]]
set_option maxRecDepth 20000 in
theorem t4_readLine_d : ∀ row ∈ t4_readLine, ∀ en ∈ row, decode cX4_readLine en.1 = .ok (en.2.1, en.2.2.1) := by decide +kernel
set_option maxRecDepth 20000 in
theorem t4_readLine_b : ∀ row ∈ t4_readLine, ∀ en ∈ row, okB 4 "readLine" (some .boolean) 1 en = true := by decide +kernel
def t4_endLine : List (List mE) := [[(0, .aload_n 0, 1, 0, 0, 0, 0, []), (1, .bipush 59, 2, 0, 0, 0, 59, []), (3, .invokevirtual 64, 3, 41, 2, 1, 4, []), (6, .ifCond .ne 5, 3, 11, 0, 0, 0, []), (9, .iconst 0, 1, 0, 0, 0, 0, []), (10, .ireturn, 1, 1, 0, 0, 0, []), (11, .aload_n 0, 1, 0, 0, 0, 0, []), (12, .getfield 12, 3, 4, 0, 2, 0, []), (15, .dup, 1, 0, 0, 0, 0, [])],
  [(16, .getfield 101, 3, 2, 6, 0, 0, []), (19, .iconst 1, 1, 0, 0, 0, 1, []), (20, .iadd, 1, 0, 0, 0, 0, []), (21, .putfield 101, 3, 2, 6, 0, 0, []), (24, .iconst 1, 1, 0, 0, 0, 1, []), (25, .ireturn, 1, 1, 0, 0, 0, [])]]
set_option maxRecDepth 20000 in
theorem t4_endLine_d : ∀ row ∈ t4_endLine, ∀ en ∈ row, decode cX4_endLine en.1 = .ok (en.2.1, en.2.2.1) := by decide +kernel
set_option maxRecDepth 20000 in
theorem t4_endLine_b : ∀ row ∈ t4_endLine, ∀ en ∈ row, okB 4 "endLine" (some .boolean) 1 en = true := by decide +kernel
def t4_readBit : List (List mE) := [[(0, .aload_n 0, 1, 0, 0, 0, 0, []), (1, .getfield 12, 3, 4, 0, 2, 0, []), (4, .getfield 104, 3, 2, 2, 0, 0, []), (7, .istore_n 1, 1, 1, 0, 0, 0, []), (8, .iload_n 1, 1, 1, 0, 0, 0, []), (9, .bipush 12, 2, 0, 0, 0, 12, []), (11, .if_icmp .lt 9, 3, 20, 0, 0, 0, []), (14, .aload_n 0, 1, 0, 0, 0, 0, []), (15, .iconst 4, 1, 0, 0, 0, 4, [])],
  [(16, .invokevirtual 98, 3, 43, 2, 1, 4, []), (19, .ireturn, 1, 1, 0, 0, 0, []), (20, .aload_n 0, 1, 0, 0, 0, 0, []), (21, .invokevirtual 51, 3, 44, 1, 0, 4, []), (24, .aload_n 0, 1, 0, 0, 0, 0, []), (25, .iconst 0, 1, 0, 0, 0, 0, []), (26, .aload_n 0, 1, 0, 0, 0, 0, []), (27, .getfield 12, 3, 4, 0, 2, 0, []), (30, .getfield 74, 3, 2, 1, 0, 0, [])],
  [(33, .iconst 1, 1, 0, 0, 0, 1, []), (34, .isub, 1, 0, 0, 0, 0, []), (35, .invokevirtual 68, 3, 42, 3, 1, 4, []), (38, .istore_n 2, 1, 2, 0, 0, 0, []), (39, .iload_n 2, 1, 2, 0, 0, 0, []), (40, .iconst (-1), 1, 0, 0, 0, (-1), []), (41, .if_icmp .eq 13, 3, 54, 0, 0, 0, []), (44, .aload_n 0, 1, 0, 0, 0, 0, []), (45, .sipush 259, 3, 0, 0, 0, 259, [])],
  [(48, .invokevirtual 64, 3, 41, 2, 1, 4, []), (51, .ifCond .ne 5, 3, 56, 0, 0, 0, []), (54, .iconst 0, 1, 0, 0, 0, 0, []), (55, .ireturn, 1, 1, 0, 0, 0, []), (56, .aload_n 0, 1, 0, 0, 0, 0, []), (57, .iconst 0, 1, 0, 0, 0, 0, []), (58, .aload_n 0, 1, 0, 0, 0, 0, []), (59, .getfield 12, 3, 4, 0, 2, 0, []), (62, .getfield 74, 3, 2, 1, 0, 0, [])],
  [(65, .iconst 1, 1, 0, 0, 0, 1, []), (66, .isub, 1, 0, 0, 0, 0, []), (67, .invokevirtual 68, 3, 42, 3, 1, 4, []), (70, .istore_n 3, 1, 3, 0, 0, 0, []), (71, .iload_n 3, 1, 3, 0, 0, 0, []), (72, .iconst (-1), 1, 0, 0, 0, (-1), []), (73, .if_icmp .ne 5, 3, 78, 0, 0, 0, []), (76, .iconst 0, 1, 0, 0, 0, 0, []), (77, .ireturn, 1, 1, 0, 0, 0, []), (78, .aload_n 0, 1, 0, 0, 0, 0, []), (79, .getfield 12, 3, 4, 0, 2, 0, [])],
  [(82, .getfield 107, 3, 2, 7, 2, 0, []), (85, .iload_n 1, 1, 1, 0, 0, 0, []), (86, .iload_n 2, 1, 2, 0, 0, 0, []), (87, .iastore, 1, 0, 0, 0, 0, []), (88, .aload_n 0, 1, 0, 0, 0, 0, []), (89, .getfield 12, 3, 4, 0, 2, 0, []), (92, .getfield 111, 3, 2, 8, 2, 0, []), (95, .iload_n 1, 1, 1, 0, 0, 0, [])],
  [(96, .iload_n 3, 1, 3, 0, 0, 0, []), (97, .iastore, 1, 0, 0, 0, 0, []), (98, .aload_n 0, 1, 0, 0, 0, 0, []), (99, .getfield 58, 3, 4, 7, 0, 0, []), (102, .sipush 260, 3, 0, 0, 0, 260, []), (105, .if_icmp .ne 22, 3, 127, 0, 0, 0, []), (108, .aload_n 0, 1, 0, 0, 0, 0, []), (109, .getfield 12, 3, 4, 0, 2, 0, [])],
  [(112, .dup, 1, 0, 0, 0, 0, []), (113, .getfield 114, 3, 2, 3, 0, 0, []), (116, .iconst 1, 1, 0, 0, 0, 1, []), (117, .iload_n 1, 1, 1, 0, 0, 0, []), (118, .ishl, 1, 0, 0, 0, 0, []), (119, .ior, 1, 0, 0, 0, 0, []), (120, .putfield 114, 3, 2, 3, 0, 0, []), (123, .aload_n 0, 1, 0, 0, 0, 0, []), (124, .invokevirtual 51, 3, 44, 1, 0, 4, []), (127, .aload_n 0, 1, 0, 0, 0, 0, [])],
  [(128, .getfield 12, 3, 4, 0, 2, 0, []), (131, .dup, 1, 0, 0, 0, 0, []), (132, .getfield 104, 3, 2, 2, 0, 0, []), (135, .iconst 1, 1, 0, 0, 0, 1, []), (136, .iadd, 1, 0, 0, 0, 0, []), (137, .putfield 104, 3, 2, 2, 0, 0, []), (140, .iconst 1, 1, 0, 0, 0, 1, []), (141, .ireturn, 1, 1, 0, 0, 0, [])]]
set_option maxRecDepth 20000 in
theorem t4_readBit_d : ∀ row ∈ t4_readBit, ∀ en ∈ row, decode cX4_readBit en.1 = .ok (en.2.1, en.2.2.1) := by decide +kernel
set_option maxRecDepth 20000 in
theorem t4_readBit_b : ∀ row ∈ t4_readBit, ∀ en ∈ row, okB 4 "readBit" (some .boolean) 1 en = true := by decide +kernel
def t4_readFarm : List (List mE) := [[(0, .aload_n 0, 1, 0, 0, 0, 0, []), (1, .invokevirtual 51, 3, 44, 1, 0, 4, []), (4, .aload_n 0, 1, 0, 0, 0, 0, []), (5, .iconst 0, 1, 0, 0, 0, 0, []), (6, .aload_n 0, 1, 0, 0, 0, 0, []), (7, .getfield 12, 3, 4, 0, 2, 0, []), (10, .getfield 71, 3, 2, 0, 0, 0, []), (13, .iconst 1, 1, 0, 0, 0, 1, []), (14, .isub, 1, 0, 0, 0, 0, []), (15, .invokevirtual 68, 3, 42, 3, 1, 4, [])],
  [(18, .istore_n 1, 1, 1, 0, 0, 0, []), (19, .iload_n 1, 1, 1, 0, 0, 0, []), (20, .iconst (-1), 1, 0, 0, 0, (-1), []), (21, .if_icmp .ne 5, 3, 26, 0, 0, 0, []), (24, .iconst 0, 1, 0, 0, 0, 0, []), (25, .ireturn, 1, 1, 0, 0, 0, []), (26, .iconst 0, 1, 0, 0, 0, 0, []), (27, .istore_n 2, 1, 2, 0, 0, 0, []), (28, .iload_n 2, 1, 2, 0, 0, 0, []), (29, .aload_n 0, 1, 0, 0, 0, 0, []), (30, .getfield 39, 3, 4, 5, 0, 0, [])],
  [(33, .if_icmp .gt 111, 3, 144, 0, 0, 0, []), (36, .aload_n 0, 1, 0, 0, 0, 0, []), (37, .getfield 58, 3, 4, 7, 0, 0, []), (40, .sipush 262, 3, 0, 0, 0, 262, []), (43, .if_icmp .eq 13, 3, 56, 0, 0, 0, []), (46, .aload_n 0, 1, 0, 0, 0, 0, []), (47, .getfield 58, 3, 4, 7, 0, 0, [])],
  [(50, .sipush 263, 3, 0, 0, 0, 263, []), (53, .if_icmp .ne 91, 3, 144, 0, 0, 0, []), (56, .aload_n 0, 1, 0, 0, 0, 0, []), (57, .getfield 58, 3, 4, 7, 0, 0, []), (60, .sipush 262, 3, 0, 0, 0, 262, []), (63, .if_icmp .ne 7, 3, 70, 0, 0, 0, [])],
  [(66, .iconst 1, 1, 0, 0, 0, 1, []), (67, .goto 4, 3, 71, 0, 0, 0, []), (70, .iconst 0, 1, 0, 0, 0, 0, []), (71, .istore_n 3, 1, 3, 0, 0, 0, []), (72, .aload_n 0, 1, 0, 0, 0, 0, []), (73, .invokevirtual 51, 3, 44, 1, 0, 4, []), (76, .aload_n 0, 1, 0, 0, 0, 0, []), (77, .iconst 0, 1, 0, 0, 0, 0, []), (78, .iload_n 3, 1, 3, 0, 0, 0, []), (79, .ifCond .eq 15, 3, 94, 0, 0, 0, [])],
  [(82, .aload_n 0, 1, 0, 0, 0, 0, []), (83, .getfield 12, 3, 4, 0, 2, 0, []), (86, .getfield 74, 3, 2, 1, 0, 0, []), (89, .iconst 1, 1, 0, 0, 0, 1, []), (90, .isub, 1, 0, 0, 0, 0, []), (91, .goto 5, 3, 96, 0, 0, 0, []), (94, .bipush 9, 2, 0, 0, 0, 9, [])],
  [(96, .invokevirtual 68, 3, 42, 3, 1, 4, []), (99, .istore 4, 2, 4, 0, 0, 0, []), (101, .iload 4, 2, 4, 0, 0, 0, []), (103, .iconst (-1), 1, 0, 0, 0, (-1), []), (104, .if_icmp .ne 5, 3, 109, 0, 0, 0, []), (107, .iconst 0, 1, 0, 0, 0, 0, []), (108, .ireturn, 1, 1, 0, 0, 0, []), (109, .iload_n 3, 1, 3, 0, 0, 0, []), (110, .ifCond .eq 17, 3, 127, 0, 0, 0, [])],
  [(113, .aload_n 0, 1, 0, 0, 0, 0, []), (114, .getfield 12, 3, 4, 0, 2, 0, []), (117, .getfield 117, 3, 2, 9, 2, 0, []), (120, .iload_n 1, 1, 1, 0, 0, 0, []), (121, .iload 4, 2, 4, 0, 0, 0, []), (123, .iastore, 1, 0, 0, 0, 0, []), (124, .goto 14, 3, 138, 0, 0, 0, []), (127, .aload_n 0, 1, 0, 0, 0, 0, [])],
  [(128, .getfield 12, 3, 4, 0, 2, 0, []), (131, .getfield 120, 3, 2, 10, 2, 0, []), (134, .iload_n 1, 1, 1, 0, 0, 0, []), (135, .iload 4, 2, 4, 0, 0, 0, []), (137, .iastore, 1, 0, 0, 0, 0, []), (138, .iinc 2 1, 3, 2, 0, 0, 1, []), (141, .goto (-113), 3, 28, 0, 0, 0, [])],
  [(144, .iconst 1, 1, 0, 0, 0, 1, []), (145, .ireturn, 1, 1, 0, 0, 0, [])]]
set_option maxRecDepth 20000 in
theorem t4_readFarm_d : ∀ row ∈ t4_readFarm, ∀ en ∈ row, decode cX4_readFarm en.1 = .ok (en.2.1, en.2.2.1) := by decide +kernel
set_option maxRecDepth 20000 in
theorem t4_readFarm_b : ∀ row ∈ t4_readFarm, ∀ en ∈ row, okB 4 "readFarm" (some .boolean) 1 en = true := by decide +kernel
def t4_readCut : List (List mE) := [[(0, .aload_n 0, 1, 0, 0, 0, 0, []), (1, .invokevirtual 51, 3, 44, 1, 0, 4, []), (4, .aload_n 0, 1, 0, 0, 0, 0, []), (5, .iconst 0, 1, 0, 0, 0, 0, []), (6, .aload_n 0, 1, 0, 0, 0, 0, []), (7, .getfield 12, 3, 4, 0, 2, 0, []), (10, .getfield 71, 3, 2, 0, 0, 0, []), (13, .iconst 2, 1, 0, 0, 0, 2, []), (14, .isub, 1, 0, 0, 0, 0, []), (15, .invokevirtual 68, 3, 42, 3, 1, 4, [])],
  [(18, .istore_n 1, 1, 1, 0, 0, 0, []), (19, .iload_n 1, 1, 1, 0, 0, 0, []), (20, .iconst (-1), 1, 0, 0, 0, (-1), []), (21, .if_icmp .ne 5, 3, 26, 0, 0, 0, []), (24, .iconst 0, 1, 0, 0, 0, 0, []), (25, .ireturn, 1, 1, 0, 0, 0, []), (26, .aload_n 0, 1, 0, 0, 0, 0, []), (27, .getfield 12, 3, 4, 0, 2, 0, []), (30, .dup, 1, 0, 0, 0, 0, []), (31, .getfield 123, 3, 2, 4, 0, 0, [])],
  [(34, .iconst 1, 1, 0, 0, 0, 1, []), (35, .iload_n 1, 1, 1, 0, 0, 0, []), (36, .ishl, 1, 0, 0, 0, 0, []), (37, .ior, 1, 0, 0, 0, 0, []), (38, .putfield 123, 3, 2, 4, 0, 0, []), (41, .iconst 1, 1, 0, 0, 0, 1, []), (42, .ireturn, 1, 1, 0, 0, 0, [])]]
set_option maxRecDepth 20000 in
theorem t4_readCut_d : ∀ row ∈ t4_readCut, ∀ en ∈ row, decode cX4_readCut en.1 = .ok (en.2.1, en.2.2.1) := by decide +kernel
set_option maxRecDepth 20000 in
theorem t4_readCut_b : ∀ row ∈ t4_readCut, ∀ en ∈ row, okB 4 "readCut" (some .boolean) 1 en = true := by decide +kernel
def t4_readSnow : List (List mE) := [[(0, .aload_n 0, 1, 0, 0, 0, 0, []), (1, .invokevirtual 51, 3, 44, 1, 0, 4, []), (4, .aload_n 0, 1, 0, 0, 0, 0, []), (5, .iconst 0, 1, 0, 0, 0, 0, []), (6, .bipush 10, 2, 0, 0, 0, 10, []), (8, .invokevirtual 68, 3, 42, 3, 1, 4, []), (11, .istore_n 1, 1, 1, 0, 0, 0, []), (12, .iload_n 1, 1, 1, 0, 0, 0, []), (13, .iconst (-1), 1, 0, 0, 0, (-1), []), (14, .if_icmp .eq 13, 3, 27, 0, 0, 0, [])],
  [(17, .aload_n 0, 1, 0, 0, 0, 0, []), (18, .sipush 266, 3, 0, 0, 0, 266, []), (21, .invokevirtual 64, 3, 41, 2, 1, 4, []), (24, .ifCond .ne 5, 3, 29, 0, 0, 0, []), (27, .iconst 0, 1, 0, 0, 0, 0, []), (28, .ireturn, 1, 1, 0, 0, 0, []), (29, .aload_n 0, 1, 0, 0, 0, 0, []), (30, .iconst 0, 1, 0, 0, 0, 0, []), (31, .aload_n 0, 1, 0, 0, 0, 0, [])],
  [(32, .getfield 12, 3, 4, 0, 2, 0, []), (35, .getfield 71, 3, 2, 0, 0, 0, []), (38, .iconst 2, 1, 0, 0, 0, 2, []), (39, .isub, 1, 0, 0, 0, 0, []), (40, .invokevirtual 68, 3, 42, 3, 1, 4, []), (43, .istore_n 2, 1, 2, 0, 0, 0, []), (44, .iload_n 2, 1, 2, 0, 0, 0, []), (45, .iconst (-1), 1, 0, 0, 0, (-1), []), (46, .if_icmp .ne 5, 3, 51, 0, 0, 0, [])],
  [(49, .iconst 0, 1, 0, 0, 0, 0, []), (50, .ireturn, 1, 1, 0, 0, 0, []), (51, .aload_n 0, 1, 0, 0, 0, 0, []), (52, .getfield 12, 3, 4, 0, 2, 0, []), (55, .getfield 126, 3, 2, 11, 2, 0, []), (58, .iload_n 2, 1, 2, 0, 0, 0, []), (59, .iload_n 1, 1, 1, 0, 0, 0, []), (60, .iastore, 1, 0, 0, 0, 0, []), (61, .iconst 1, 1, 0, 0, 0, 1, []), (62, .ireturn, 1, 1, 0, 0, 0, [])]]
set_option maxRecDepth 20000 in
theorem t4_readSnow_d : ∀ row ∈ t4_readSnow, ∀ en ∈ row, decode cX4_readSnow en.1 = .ok (en.2.1, en.2.2.1) := by decide +kernel
set_option maxRecDepth 20000 in
theorem t4_readSnow_b : ∀ row ∈ t4_readSnow, ∀ en ∈ row, okB 4 "readSnow" (some .boolean) 1 en = true := by decide +kernel
def t4_readNow : List (List mE) := [[(0, .aload_n 0, 1, 0, 0, 0, 0, []), (1, .invokevirtual 51, 3, 44, 1, 0, 4, []), (4, .aload_n 0, 1, 0, 0, 0, 0, []), (5, .iconst 0, 1, 0, 0, 0, 0, []), (6, .aload_n 0, 1, 0, 0, 0, 0, []), (7, .getfield 12, 3, 4, 0, 2, 0, []), (10, .getfield 74, 3, 2, 1, 0, 0, []), (13, .iconst 1, 1, 0, 0, 0, 1, []), (14, .isub, 1, 0, 0, 0, 0, []), (15, .invokevirtual 68, 3, 42, 3, 1, 4, [])],
  [(18, .istore_n 1, 1, 1, 0, 0, 0, []), (19, .iload_n 1, 1, 1, 0, 0, 0, []), (20, .iconst (-1), 1, 0, 0, 0, (-1), []), (21, .if_icmp .ne 5, 3, 26, 0, 0, 0, []), (24, .iconst 0, 1, 0, 0, 0, 0, []), (25, .ireturn, 1, 1, 0, 0, 0, []), (26, .aload_n 0, 1, 0, 0, 0, 0, []), (27, .getfield 12, 3, 4, 0, 2, 0, []), (30, .iload_n 1, 1, 1, 0, 0, 0, []), (31, .putfield 129, 3, 2, 5, 0, 0, [])],
  [(34, .iconst 1, 1, 0, 0, 0, 1, []), (35, .ireturn, 1, 1, 0, 0, 0, [])]]
set_option maxRecDepth 20000 in
theorem t4_readNow_d : ∀ row ∈ t4_readNow, ∀ en ∈ row, decode cX4_readNow en.1 = .ok (en.2.1, en.2.2.1) := by decide +kernel
set_option maxRecDepth 20000 in
theorem t4_readNow_b : ∀ row ∈ t4_readNow, ∀ en ∈ row, okB 4 "readNow" (some .boolean) 1 en = true := by decide +kernel
def t4_readLaw : List (List mE) := [[(0, .aload_n 0, 1, 0, 0, 0, 0, []), (1, .invokevirtual 51, 3, 44, 1, 0, 4, []), (4, .aload_n 0, 1, 0, 0, 0, 0, []), (5, .bipush 58, 2, 0, 0, 0, 58, []), (7, .invokevirtual 64, 3, 41, 2, 1, 4, []), (10, .ifCond .ne 5, 3, 15, 0, 0, 0, []), (13, .iconst 0, 1, 0, 0, 0, 0, []), (14, .ireturn, 1, 1, 0, 0, 0, []), (15, .aload_n 0, 1, 0, 0, 0, 0, [])],
  [(16, .getfield 25, 3, 4, 3, 2, 0, []), (19, .iload_n 1, 1, 1, 0, 0, 0, []), (20, .aload_n 0, 1, 0, 0, 0, 0, []), (21, .getfield 12, 3, 4, 0, 2, 0, []), (24, .invokevirtual 132, 3, 7, 3, 0, 1, []), (27, .iconst 0, 1, 0, 0, 0, 0, []), (28, .istore_n 2, 1, 2, 0, 0, 0, []), (29, .iload_n 2, 1, 2, 0, 0, 0, []), (30, .aload_n 0, 1, 0, 0, 0, 0, []), (31, .getfield 39, 3, 4, 5, 0, 0, [])],
  [(34, .if_icmp .gt 51, 3, 85, 0, 0, 0, []), (37, .aload_n 0, 1, 0, 0, 0, 0, []), (38, .getfield 25, 3, 4, 3, 2, 0, []), (41, .aload_n 0, 1, 0, 0, 0, 0, []), (42, .getfield 58, 3, 4, 7, 0, 0, []), (45, .aload_n 0, 1, 0, 0, 0, 0, []), (46, .getfield 136, 3, 4, 9, 0, 0, [])],
  [(49, .invokevirtual 139, 3, 9, 3, 1, 1, []), (52, .istore_n 3, 1, 3, 0, 0, 0, []), (53, .iload_n 3, 1, 3, 0, 0, 0, []), (54, .ifCond .eq 9, 3, 63, 0, 0, 0, []), (57, .aload_n 0, 1, 0, 0, 0, 0, []), (58, .iload_n 3, 1, 3, 0, 0, 0, []), (59, .invokevirtual 98, 3, 43, 2, 1, 4, []), (62, .ireturn, 1, 1, 0, 0, 0, []), (63, .aload_n 0, 1, 0, 0, 0, 0, [])],
  [(64, .getfield 25, 3, 4, 3, 2, 0, []), (67, .getfield 142, 3, 1, 0, 5, 0, []), (70, .ifCond .eq 5, 3, 75, 0, 0, 0, []), (73, .iconst 1, 1, 0, 0, 0, 1, []), (74, .ireturn, 1, 1, 0, 0, 0, []), (75, .aload_n 0, 1, 0, 0, 0, 0, []), (76, .invokevirtual 51, 3, 44, 1, 0, 4, []), (79, .iinc 2 1, 3, 2, 0, 0, 1, [])],
  [(82, .goto (-53), 3, 29, 0, 0, 0, []), (85, .aload_n 0, 1, 0, 0, 0, 0, []), (86, .iconst 2, 1, 0, 0, 0, 2, []), (87, .invokevirtual 98, 3, 43, 2, 1, 4, []), (90, .ireturn, 1, 1, 0, 0, 0, [])]]
set_option maxRecDepth 20000 in
theorem t4_readLaw_d : ∀ row ∈ t4_readLaw, ∀ en ∈ row, decode cX4_readLaw en.1 = .ok (en.2.1, en.2.2.1) := by decide +kernel
set_option maxRecDepth 20000 in
theorem t4_readLaw_b : ∀ row ∈ t4_readLaw, ∀ en ∈ row, okB 4 "readLaw" (some .boolean) 1 en = true := by decide +kernel
def t4_expect : List (List mE) := [[(0, .aload_n 0, 1, 0, 0, 0, 0, []), (1, .getfield 58, 3, 4, 7, 0, 0, []), (4, .iload_n 1, 1, 1, 0, 0, 0, []), (5, .if_icmp .eq 9, 3, 14, 0, 0, 0, []), (8, .aload_n 0, 1, 0, 0, 0, 0, []), (9, .iconst 2, 1, 0, 0, 0, 2, []), (10, .invokevirtual 98, 3, 43, 2, 1, 4, []), (13, .ireturn, 1, 1, 0, 0, 0, []), (14, .aload_n 0, 1, 0, 0, 0, 0, []), (15, .invokevirtual 51, 3, 44, 1, 0, 4, [])],
  [(18, .iconst 1, 1, 0, 0, 0, 1, []), (19, .ireturn, 1, 1, 0, 0, 0, [])]]
set_option maxRecDepth 20000 in
theorem t4_expect_d : ∀ row ∈ t4_expect, ∀ en ∈ row, decode cX4_expect en.1 = .ok (en.2.1, en.2.2.1) := by decide +kernel
set_option maxRecDepth 20000 in
theorem t4_expect_b : ∀ row ∈ t4_expect, ∀ en ∈ row, okB 4 "expect" (some .boolean) 1 en = true := by decide +kernel
def t4_number : List (List mE) := [[(0, .aload_n 0, 1, 0, 0, 0, 0, []), (1, .getfield 58, 3, 4, 7, 0, 0, []), (4, .iconst 2, 1, 0, 0, 0, 2, []), (5, .if_icmp .eq 11, 3, 16, 0, 0, 0, []), (8, .aload_n 0, 1, 0, 0, 0, 0, []), (9, .iconst 2, 1, 0, 0, 0, 2, []), (10, .invokevirtual 98, 3, 43, 2, 1, 4, []), (13, .pop, 1, 0, 0, 0, 0, []), (14, .iconst (-1), 1, 0, 0, 0, (-1), []), (15, .ireturn, 1, 0, 0, 0, 0, [])],
  [(16, .aload_n 0, 1, 0, 0, 0, 0, []), (17, .getfield 136, 3, 4, 9, 0, 0, []), (20, .iload_n 1, 1, 1, 0, 0, 0, []), (21, .if_icmp .lt 11, 3, 32, 0, 0, 0, []), (24, .aload_n 0, 1, 0, 0, 0, 0, []), (25, .getfield 136, 3, 4, 9, 0, 0, []), (28, .iload_n 2, 1, 2, 0, 0, 0, []), (29, .if_icmp .le 11, 3, 40, 0, 0, 0, [])],
  [(32, .aload_n 0, 1, 0, 0, 0, 0, []), (33, .iconst 3, 1, 0, 0, 0, 3, []), (34, .invokevirtual 98, 3, 43, 2, 1, 4, []), (37, .pop, 1, 0, 0, 0, 0, []), (38, .iconst (-1), 1, 0, 0, 0, (-1), []), (39, .ireturn, 1, 0, 0, 0, 0, []), (40, .aload_n 0, 1, 0, 0, 0, 0, []), (41, .getfield 136, 3, 4, 9, 0, 0, []), (44, .istore_n 3, 1, 3, 0, 0, 0, []), (45, .aload_n 0, 1, 0, 0, 0, 0, []), (46, .invokevirtual 51, 3, 44, 1, 0, 4, [])],
  [(49, .iload_n 3, 1, 3, 0, 0, 0, []), (50, .ireturn, 1, 0, 0, 0, 0, [])]]
set_option maxRecDepth 20000 in
theorem t4_number_d : ∀ row ∈ t4_number, ∀ en ∈ row, decode cX4_number en.1 = .ok (en.2.1, en.2.2.1) := by decide +kernel
set_option maxRecDepth 20000 in
theorem t4_number_b : ∀ row ∈ t4_number, ∀ en ∈ row, okB 4 "number" (some .int) 1 en = true := by decide +kernel
def t4_fail : List (List mE) := [[(0, .aload_n 0, 1, 0, 0, 0, 0, []), (1, .aload_n 0, 1, 0, 0, 0, 0, []), (2, .getfield 58, 3, 4, 7, 0, 0, []), (5, .iconst 1, 1, 0, 0, 0, 1, []), (6, .if_icmp .ne 7, 3, 13, 0, 0, 0, []), (9, .iconst 1, 1, 0, 0, 0, 1, []), (10, .goto 4, 3, 14, 0, 0, 0, []), (13, .iload_n 1, 1, 1, 0, 0, 0, []), (14, .putfield 45, 3, 4, 1, 0, 0, [])],
  [(17, .aload_n 0, 1, 0, 0, 0, 0, []), (18, .aload_n 0, 1, 0, 0, 0, 0, []), (19, .getfield 146, 3, 4, 8, 0, 0, []), (22, .putfield 18, 3, 4, 2, 0, 0, []), (25, .iconst 0, 1, 0, 0, 0, 0, []), (26, .ireturn, 1, 1, 0, 0, 0, [])]]
set_option maxRecDepth 20000 in
theorem t4_fail_d : ∀ row ∈ t4_fail, ∀ en ∈ row, decode cX4_fail en.1 = .ok (en.2.1, en.2.2.1) := by decide +kernel
set_option maxRecDepth 20000 in
theorem t4_fail_b : ∀ row ∈ t4_fail, ∀ en ∈ row, okB 4 "fail" (some .boolean) 1 en = true := by decide +kernel
def t4_advance : List (List mE) := [[(0, .aload_n 0, 1, 0, 0, 0, 0, []), (1, .getfield 42, 3, 4, 6, 0, 0, []), (4, .istore_n 1, 1, 1, 0, 0, 0, []), (5, .iload_n 1, 1, 1, 0, 0, 0, []), (6, .aload_n 0, 1, 0, 0, 0, 0, []), (7, .getfield 39, 3, 4, 5, 0, 0, []), (10, .if_icmp .ge 31, 3, 41, 0, 0, 0, []), (13, .aload_n 0, 1, 0, 0, 0, 0, []), (14, .getfield 29, 3, 4, 4, 2, 0, [])],
  [(17, .iload_n 1, 1, 1, 0, 0, 0, []), (18, .baload, 1, 2, 0, 0, 0, []), (19, .bipush 10, 2, 0, 0, 0, 10, []), (21, .if_icmp .eq 14, 3, 35, 0, 0, 0, []), (24, .aload_n 0, 1, 0, 0, 0, 0, []), (25, .getfield 29, 3, 4, 4, 2, 0, []), (28, .iload_n 1, 1, 1, 0, 0, 0, []), (29, .baload, 1, 2, 0, 0, 0, []), (30, .bipush 32, 2, 0, 0, 0, 32, [])],
  [(32, .if_icmp .ne 9, 3, 41, 0, 0, 0, []), (35, .iinc 1 1, 3, 1, 0, 0, 1, []), (38, .goto (-33), 3, 5, 0, 0, 0, []), (41, .aload_n 0, 1, 0, 0, 0, 0, []), (42, .iload_n 1, 1, 1, 0, 0, 0, []), (43, .putfield 146, 3, 4, 8, 0, 0, []), (46, .aload_n 0, 1, 0, 0, 0, 0, []), (47, .iload_n 1, 1, 1, 0, 0, 0, [])],
  [(48, .putfield 42, 3, 4, 6, 0, 0, []), (51, .iload_n 1, 1, 1, 0, 0, 0, []), (52, .aload_n 0, 1, 0, 0, 0, 0, []), (53, .getfield 39, 3, 4, 5, 0, 0, []), (56, .if_icmp .lt 11, 3, 67, 0, 0, 0, []), (59, .aload_n 0, 1, 0, 0, 0, 0, []), (60, .iconst 0, 1, 0, 0, 0, 0, []), (61, .putfield 58, 3, 4, 7, 0, 0, [])],
  [(64, .goto 78, 3, 142, 0, 0, 0, []), (67, .aload_n 0, 1, 0, 0, 0, 0, []), (68, .getfield 29, 3, 4, 4, 2, 0, []), (71, .iload_n 1, 1, 1, 0, 0, 0, []), (72, .baload, 1, 2, 0, 0, 0, []), (73, .invokestatic 149, 3, 47, 1, 1, (-1), []), (76, .ifCond .eq 10, 3, 86, 0, 0, 0, []), (79, .aload_n 0, 1, 0, 0, 0, 0, [])],
  [(80, .invokevirtual 152, 3, 45, 1, 0, 4, []), (83, .goto 59, 3, 142, 0, 0, 0, []), (86, .aload_n 0, 1, 0, 0, 0, 0, []), (87, .getfield 29, 3, 4, 4, 2, 0, []), (90, .iload_n 1, 1, 1, 0, 0, 0, []), (91, .baload, 1, 2, 0, 0, 0, []), (92, .invokestatic 155, 3, 48, 1, 1, (-1), []), (95, .ifCond .eq 10, 3, 105, 0, 0, 0, [])],
  [(98, .aload_n 0, 1, 0, 0, 0, 0, []), (99, .invokevirtual 158, 3, 46, 1, 0, 4, []), (102, .goto 40, 3, 142, 0, 0, 0, []), (105, .aload_n 0, 1, 0, 0, 0, 0, []), (106, .getfield 29, 3, 4, 4, 2, 0, []), (109, .iload_n 1, 1, 1, 0, 0, 0, []), (110, .baload, 1, 2, 0, 0, 0, []), (111, .sipush 255, 3, 0, 0, 0, 255, [])],
  [(114, .iand, 1, 0, 0, 0, 0, []), (115, .istore_n 2, 1, 2, 0, 0, 0, []), (116, .aload_n 0, 1, 0, 0, 0, 0, []), (117, .ldc 161, 2, 3, 0, 0, 0, []), (119, .iload_n 2, 1, 2, 0, 0, 0, []), (120, .i2c, 1, 0, 0, 0, 0, []), (121, .invokevirtual 163, 3, 1009, 2, 1, (-1), []), (124, .ifCond .lt 7, 3, 131, 0, 0, 0, []), (127, .iload_n 2, 1, 2, 0, 0, 0, [])],
  [(128, .goto 4, 3, 132, 0, 0, 0, []), (131, .iconst 1, 1, 0, 0, 0, 1, []), (132, .putfield 58, 3, 4, 7, 0, 0, []), (135, .aload_n 0, 1, 0, 0, 0, 0, []), (136, .iload_n 1, 1, 1, 0, 0, 0, []), (137, .iconst 1, 1, 0, 0, 0, 1, []), (138, .iadd, 1, 0, 0, 0, 0, []), (139, .putfield 42, 3, 4, 6, 0, 0, []), (142, .return_, 1, 0, 0, 0, 0, [])]]
set_option maxRecDepth 20000 in
theorem t4_advance_d : ∀ row ∈ t4_advance, ∀ en ∈ row, decode cX4_advance en.1 = .ok (en.2.1, en.2.2.1) := by decide +kernel
set_option maxRecDepth 20000 in
theorem t4_advance_b : ∀ row ∈ t4_advance, ∀ en ∈ row, okB 4 "advance" none 0 en = true := by decide +kernel
def t4_takeWord : List (List mE) := [[(0, .aload_n 0, 1, 0, 0, 0, 0, []), (1, .getfield 42, 3, 4, 6, 0, 0, []), (4, .aload_n 0, 1, 0, 0, 0, 0, []), (5, .getfield 39, 3, 4, 5, 0, 0, []), (8, .if_icmp .ge 31, 3, 39, 0, 0, 0, []), (11, .aload_n 0, 1, 0, 0, 0, 0, []), (12, .getfield 29, 3, 4, 4, 2, 0, []), (15, .aload_n 0, 1, 0, 0, 0, 0, [])],
  [(16, .getfield 42, 3, 4, 6, 0, 0, []), (19, .baload, 1, 2, 0, 0, 0, []), (20, .invokestatic 149, 3, 47, 1, 1, (-1), []), (23, .ifCond .eq 16, 3, 39, 0, 0, 0, []), (26, .aload_n 0, 1, 0, 0, 0, 0, []), (27, .dup, 1, 0, 0, 0, 0, []), (28, .getfield 42, 3, 4, 6, 0, 0, []), (31, .iconst 1, 1, 0, 0, 0, 1, [])],
  [(32, .iadd, 1, 0, 0, 0, 0, []), (33, .putfield 42, 3, 4, 6, 0, 0, []), (36, .goto (-36), 3, 0, 0, 0, 0, []), (39, .aload_n 0, 1, 0, 0, 0, 0, []), (40, .sipush 400, 3, 0, 0, 0, 400, []), (43, .putfield 58, 3, 4, 7, 0, 0, []), (46, .sipush 256, 3, 0, 0, 0, 256, [])],
  [(49, .istore_n 1, 1, 1, 0, 0, 0, []), (50, .aload_n 0, 1, 0, 0, 0, 0, []), (51, .getfield 146, 3, 4, 8, 0, 0, []), (54, .istore_n 2, 1, 2, 0, 0, 0, []), (55, .iconst 1, 1, 0, 0, 0, 1, []), (56, .istore_n 3, 1, 3, 0, 0, 0, []), (57, .iconst 0, 1, 0, 0, 0, 0, []), (58, .istore 4, 2, 4, 0, 0, 0, []), (60, .iload 4, 2, 4, 0, 0, 0, []), (62, .ldc 169, 2, 3, 0, 0, 1, [])],
  [(64, .invokevirtual 171, 3, 1007, 1, 1, (-1), []), (67, .if_icmp .ge 100, 3, 167, 0, 0, 0, []), (70, .aload_n 0, 1, 0, 0, 0, 0, []), (71, .getfield 58, 3, 4, 7, 0, 0, []), (74, .sipush 400, 3, 0, 0, 0, 400, []), (77, .if_icmp .ne 90, 3, 167, 0, 0, 0, [])],
  [(80, .ldc 169, 2, 3, 0, 0, 1, []), (82, .iload 4, 2, 4, 0, 0, 0, []), (84, .invokevirtual 174, 3, 1008, 2, 1, (-1), []), (87, .istore 5, 2, 5, 0, 0, 0, []), (89, .iload 5, 2, 5, 0, 0, 0, []), (91, .bipush 32, 2, 0, 0, 0, 32, []), (93, .if_icmp .eq 38, 3, 131, 0, 0, 0, [])],
  [(96, .iload_n 3, 1, 3, 0, 0, 0, []), (97, .ifCond .eq 26, 3, 123, 0, 0, 0, []), (100, .iload_n 2, 1, 2, 0, 0, 0, []), (101, .aload_n 0, 1, 0, 0, 0, 0, []), (102, .getfield 42, 3, 4, 6, 0, 0, []), (105, .if_icmp .ge 18, 3, 123, 0, 0, 0, []), (108, .aload_n 0, 1, 0, 0, 0, 0, []), (109, .getfield 29, 3, 4, 4, 2, 0, [])],
  [(112, .iload_n 2, 1, 2, 0, 0, 0, []), (113, .baload, 1, 2, 0, 0, 0, []), (114, .iload 5, 2, 5, 0, 0, 0, []), (116, .if_icmp .ne 7, 3, 123, 0, 0, 0, []), (119, .iconst 1, 1, 0, 0, 0, 1, []), (120, .goto 4, 3, 124, 0, 0, 0, []), (123, .iconst 0, 1, 0, 0, 0, 0, []), (124, .istore_n 3, 1, 3, 0, 0, 0, []), (125, .iinc 2 1, 3, 2, 0, 0, 1, [])],
  [(128, .goto 33, 3, 161, 0, 0, 0, []), (131, .iload_n 3, 1, 3, 0, 0, 0, []), (132, .ifCond .eq 19, 3, 151, 0, 0, 0, []), (135, .iload_n 2, 1, 2, 0, 0, 0, []), (136, .aload_n 0, 1, 0, 0, 0, 0, []), (137, .getfield 42, 3, 4, 6, 0, 0, []), (140, .if_icmp .ne 11, 3, 151, 0, 0, 0, []), (143, .aload_n 0, 1, 0, 0, 0, 0, [])],
  [(144, .iload_n 1, 1, 1, 0, 0, 0, []), (145, .putfield 58, 3, 4, 7, 0, 0, []), (148, .goto 13, 3, 161, 0, 0, 0, []), (151, .iinc 1 1, 3, 1, 0, 0, 1, []), (154, .aload_n 0, 1, 0, 0, 0, 0, []), (155, .getfield 146, 3, 4, 8, 0, 0, []), (158, .istore_n 2, 1, 2, 0, 0, 0, []), (159, .iconst 1, 1, 0, 0, 0, 1, [])],
  [(160, .istore_n 3, 1, 3, 0, 0, 0, []), (161, .iinc 4 1, 3, 4, 0, 0, 1, []), (164, .goto (-104), 3, 60, 0, 0, 0, []), (167, .return_, 1, 0, 0, 0, 0, [])]]
set_option maxRecDepth 20000 in
theorem t4_takeWord_d : ∀ row ∈ t4_takeWord, ∀ en ∈ row, decode cX4_takeWord en.1 = .ok (en.2.1, en.2.2.1) := by decide +kernel
set_option maxRecDepth 20000 in
theorem t4_takeWord_b : ∀ row ∈ t4_takeWord, ∀ en ∈ row, okB 4 "takeWord" none 0 en = true := by decide +kernel
def t4_takeNumber : List (List mE) := [[(0, .aload_n 0, 1, 0, 0, 0, 0, []), (1, .getfield 146, 3, 4, 8, 0, 0, []), (4, .istore_n 1, 1, 1, 0, 0, 0, []), (5, .aload_n 0, 1, 0, 0, 0, 0, []), (6, .iconst 0, 1, 0, 0, 0, 0, []), (7, .putfield 136, 3, 4, 9, 0, 0, []), (10, .iload_n 1, 1, 1, 0, 0, 0, []), (11, .aload_n 0, 1, 0, 0, 0, 0, []), (12, .getfield 39, 3, 4, 5, 0, 0, []), (15, .if_icmp .ge 52, 3, 67, 0, 0, 0, [])],
  [(18, .aload_n 0, 1, 0, 0, 0, 0, []), (19, .getfield 29, 3, 4, 4, 2, 0, []), (22, .iload_n 1, 1, 1, 0, 0, 0, []), (23, .baload, 1, 2, 0, 0, 0, []), (24, .invokestatic 155, 3, 48, 1, 1, (-1), []), (27, .ifCond .eq 40, 3, 67, 0, 0, 0, []), (30, .iload_n 1, 1, 1, 0, 0, 0, []), (31, .aload_n 0, 1, 0, 0, 0, 0, [])],
  [(32, .getfield 146, 3, 4, 8, 0, 0, []), (35, .iconst 3, 1, 0, 0, 0, 3, []), (36, .iadd, 1, 0, 0, 0, 0, []), (37, .if_icmp .ge 24, 3, 61, 0, 0, 0, []), (40, .aload_n 0, 1, 0, 0, 0, 0, []), (41, .aload_n 0, 1, 0, 0, 0, 0, []), (42, .getfield 136, 3, 4, 9, 0, 0, []), (45, .bipush 10, 2, 0, 0, 0, 10, []), (47, .imul, 1, 0, 0, 0, 0, [])],
  [(48, .aload_n 0, 1, 0, 0, 0, 0, []), (49, .getfield 29, 3, 4, 4, 2, 0, []), (52, .iload_n 1, 1, 1, 0, 0, 0, []), (53, .baload, 1, 2, 0, 0, 0, []), (54, .iadd, 1, 0, 0, 0, 0, []), (55, .bipush 48, 2, 0, 0, 0, 48, []), (57, .isub, 1, 0, 0, 0, 0, []), (58, .putfield 136, 3, 4, 9, 0, 0, []), (61, .iinc 1 1, 3, 1, 0, 0, 1, [])],
  [(64, .goto (-54), 3, 10, 0, 0, 0, []), (67, .aload_n 0, 1, 0, 0, 0, 0, []), (68, .iload_n 1, 1, 1, 0, 0, 0, []), (69, .putfield 42, 3, 4, 6, 0, 0, []), (72, .aload_n 0, 1, 0, 0, 0, 0, []), (73, .iload_n 1, 1, 1, 0, 0, 0, []), (74, .aload_n 0, 1, 0, 0, 0, 0, []), (75, .getfield 146, 3, 4, 8, 0, 0, []), (78, .isub, 1, 0, 0, 0, 0, []), (79, .iconst 3, 1, 0, 0, 0, 3, [])],
  [(80, .if_icmp .le 7, 3, 87, 0, 0, 0, []), (83, .iconst 1, 1, 0, 0, 0, 1, []), (84, .goto 4, 3, 88, 0, 0, 0, []), (87, .iconst 2, 1, 0, 0, 0, 2, []), (88, .putfield 58, 3, 4, 7, 0, 0, []), (91, .return_, 1, 0, 0, 0, 0, [])]]
set_option maxRecDepth 20000 in
theorem t4_takeNumber_d : ∀ row ∈ t4_takeNumber, ∀ en ∈ row, decode cX4_takeNumber en.1 = .ok (en.2.1, en.2.2.1) := by decide +kernel
set_option maxRecDepth 20000 in
theorem t4_takeNumber_b : ∀ row ∈ t4_takeNumber, ∀ en ∈ row, okB 4 "takeNumber" none 0 en = true := by decide +kernel
def t4_isSmall : List (List mE) := [[(0, .iload_n 0, 1, 0, 0, 0, 0, []), (1, .bipush 97, 2, 0, 0, 0, 97, []), (3, .if_icmp .lt 13, 3, 16, 0, 0, 0, []), (6, .iload_n 0, 1, 0, 0, 0, 0, []), (7, .bipush 122, 2, 0, 0, 0, 122, []), (9, .if_icmp .gt 7, 3, 16, 0, 0, 0, []), (12, .iconst 1, 1, 0, 0, 0, 1, []), (13, .goto 4, 3, 17, 0, 0, 0, [])],
  [(16, .iconst 0, 1, 0, 0, 0, 0, []), (17, .ireturn, 1, 1, 0, 0, 0, [])]]
set_option maxRecDepth 20000 in
theorem t4_isSmall_d : ∀ row ∈ t4_isSmall, ∀ en ∈ row, decode cX4_isSmall en.1 = .ok (en.2.1, en.2.2.1) := by decide +kernel
set_option maxRecDepth 20000 in
theorem t4_isSmall_b : ∀ row ∈ t4_isSmall, ∀ en ∈ row, okB 4 "isSmall" (some .boolean) 1 en = true := by decide +kernel
def t4_isDigit : List (List mE) := [[(0, .iload_n 0, 1, 0, 0, 0, 0, []), (1, .bipush 48, 2, 0, 0, 0, 48, []), (3, .if_icmp .lt 13, 3, 16, 0, 0, 0, []), (6, .iload_n 0, 1, 0, 0, 0, 0, []), (7, .bipush 57, 2, 0, 0, 0, 57, []), (9, .if_icmp .gt 7, 3, 16, 0, 0, 0, []), (12, .iconst 1, 1, 0, 0, 0, 1, []), (13, .goto 4, 3, 17, 0, 0, 0, [])],
  [(16, .iconst 0, 1, 0, 0, 0, 0, []), (17, .ireturn, 1, 1, 0, 0, 0, [])]]
set_option maxRecDepth 20000 in
theorem t4_isDigit_d : ∀ row ∈ t4_isDigit, ∀ en ∈ row, decode cX4_isDigit en.1 = .ok (en.2.1, en.2.2.1) := by decide +kernel
set_option maxRecDepth 20000 in
theorem t4_isDigit_b : ∀ row ∈ t4_isDigit, ∀ en ∈ row, okB 4 "isDigit" (some .boolean) 1 en = true := by decide +kernel
def t5_init : List (List mE) := [[(0, .aload_n 0, 1, 0, 0, 0, 0, []), (1, .invokespecial 3, 3, 1000, 1, 0, (-1), []), (4, .aload_n 0, 1, 0, 0, 0, 0, []), (5, .bipush 12, 2, 0, 0, 0, 12, []), (7, .newarray .int, 2, 1, 0, 0, 0, []), (9, .putfield 9, 3, 5, 1, 2, 0, []), (12, .aload_n 0, 1, 0, 0, 0, 0, []), (13, .bipush 8, 2, 0, 0, 0, 8, []), (15, .newarray .long, 2, 4, 0, 0, 0, [])],
  [(17, .putfield 15, 3, 5, 4, 2, 0, []), (20, .aload_n 0, 1, 0, 0, 0, 0, []), (21, .bipush 8, 2, 0, 0, 0, 8, []), (23, .newarray .long, 2, 4, 0, 0, 0, []), (25, .putfield 19, 3, 5, 5, 2, 0, []), (28, .aload_n 0, 1, 0, 0, 0, 0, []), (29, .aload_n 1, 1, 1, 0, 0, 0, []), (30, .putfield 22, 3, 5, 0, 2, 0, [])],
  [(33, .return_, 1, 0, 0, 0, 0, [])]]
set_option maxRecDepth 20000 in
theorem t5_init_d : ∀ row ∈ t5_init, ∀ en ∈ row, decode cX5_init en.1 = .ok (en.2.1, en.2.2.1) := by decide +kernel
set_option maxRecDepth 20000 in
theorem t5_init_b : ∀ row ∈ t5_init, ∀ en ∈ row, okB 5 "<init>" none 0 en = true := by decide +kernel
def t5_take : List (List mE) := [[(0, .aload_n 1, 1, 1, 0, 0, 0, []), (1, .invokevirtual 26, 3, 73, 1, 1, 8, []), (4, .ifCond .eq 6, 3, 10, 0, 0, 0, []), (7, .bipush (-6), 2, 0, 0, 0, (-6), []), (9, .ireturn, 1, 0, 0, 0, 0, []), (10, .aload_n 1, 1, 1, 0, 0, 0, []), (11, .getfield 32, 3, 8, 2, 0, 0, []), (14, .iconst 1, 1, 0, 0, 0, 1, []), (15, .if_icmp .lt 12, 3, 27, 0, 0, 0, [])],
  [(18, .aload_n 1, 1, 1, 0, 0, 0, []), (19, .getfield 32, 3, 8, 2, 0, 0, []), (22, .bipush 12, 2, 0, 0, 0, 12, []), (24, .if_icmp .le 6, 3, 30, 0, 0, 0, []), (27, .bipush (-4), 2, 0, 0, 0, (-4), []), (29, .ireturn, 1, 0, 0, 0, 0, []), (30, .aload_n 0, 1, 0, 0, 0, 0, []), (31, .aload_n 1, 1, 1, 0, 0, 0, [])],
  [(32, .getfield 32, 3, 8, 2, 0, 0, []), (35, .putfield 36, 3, 5, 2, 0, 0, []), (38, .iconst 0, 1, 0, 0, 0, 0, []), (39, .istore 4, 2, 4, 0, 0, 0, []), (41, .iload 4, 2, 4, 0, 0, 0, []), (43, .aload_n 0, 1, 0, 0, 0, 0, []), (44, .getfield 36, 3, 5, 2, 0, 0, []), (47, .if_icmp .ge 46, 3, 93, 0, 0, 0, [])],
  [(50, .aload_n 1, 1, 1, 0, 0, 0, []), (51, .iload 4, 2, 4, 0, 0, 0, []), (53, .invokevirtual 39, 3, 75, 2, 2, 8, []), (56, .lstore 5, 2, 5, 0, 0, 0, []), (58, .lload 5, 2, 5, 0, 0, 0, []), (60, .iload_n 2, 1, 2, 0, 0, 0, []), (61, .i2l, 1, 0, 0, 0, 0, []), (62, .lcmp, 1, 0, 0, 0, 0, []), (63, .ifCond .lt 11, 3, 74, 0, 0, 0, [])],
  [(66, .lload 5, 2, 5, 0, 0, 0, []), (68, .iload_n 3, 1, 3, 0, 0, 0, []), (69, .i2l, 1, 0, 0, 0, 0, []), (70, .lcmp, 1, 0, 0, 0, 0, []), (71, .ifCond .lt 6, 3, 77, 0, 0, 0, []), (74, .bipush (-3), 2, 0, 0, 0, (-3), []), (76, .ireturn, 1, 0, 0, 0, 0, []), (77, .aload_n 0, 1, 0, 0, 0, 0, []), (78, .getfield 9, 3, 5, 1, 2, 0, [])],
  [(81, .iload 4, 2, 4, 0, 0, 0, []), (83, .lload 5, 2, 5, 0, 0, 0, []), (85, .l2i, 1, 0, 0, 0, 0, []), (86, .iastore, 1, 0, 0, 0, 0, []), (87, .iinc 4 1, 3, 4, 0, 0, 1, []), (90, .goto (-49), 3, 41, 0, 0, 0, []), (93, .aload_n 0, 1, 0, 0, 0, 0, []), (94, .aload_n 0, 1, 0, 0, 0, 0, []), (95, .getfield 22, 3, 5, 0, 2, 0, [])],
  [(98, .invokevirtual 43, 3, 98, 1, 1, 10, []), (101, .putfield 49, 3, 5, 3, 0, 0, []), (104, .iconst 0, 1, 0, 0, 0, 0, []), (105, .ireturn, 1, 0, 0, 0, 0, [])]]
set_option maxRecDepth 20000 in
theorem t5_take_d : ∀ row ∈ t5_take, ∀ en ∈ row, decode cX5_take en.1 = .ok (en.2.1, en.2.2.1) := by decide +kernel
set_option maxRecDepth 20000 in
theorem t5_take_b : ∀ row ∈ t5_take, ∀ en ∈ row, okB 5 "take" (some .int) 1 en = true := by decide +kernel
def t5_hasPlace : List (List mE) := [[(0, .iload_n 1, 1, 1, 0, 0, 0, []), (1, .ifCond .lt 15, 3, 16, 0, 0, 0, []), (4, .iload_n 1, 1, 1, 0, 0, 0, []), (5, .aload_n 0, 1, 0, 0, 0, 0, []), (6, .getfield 36, 3, 5, 2, 0, 0, []), (9, .if_icmp .ge 7, 3, 16, 0, 0, 0, []), (12, .iconst 1, 1, 0, 0, 0, 1, []), (13, .goto 4, 3, 17, 0, 0, 0, [])],
  [(16, .iconst 0, 1, 0, 0, 0, 0, []), (17, .ireturn, 1, 1, 0, 0, 0, [])]]
set_option maxRecDepth 20000 in
theorem t5_hasPlace_d : ∀ row ∈ t5_hasPlace, ∀ en ∈ row, decode cX5_hasPlace en.1 = .ok (en.2.1, en.2.2.1) := by decide +kernel
set_option maxRecDepth 20000 in
theorem t5_hasPlace_b : ∀ row ∈ t5_hasPlace, ∀ en ∈ row, okB 5 "hasPlace" (some .boolean) 1 en = true := by decide +kernel
def t5_fits : List (List mE) := [[(0, .aload_n 0, 1, 0, 0, 0, 0, []), (1, .getfield 49, 3, 5, 3, 0, 0, []), (4, .iload_n 2, 1, 2, 0, 0, 0, []), (5, .ishr, 1, 0, 0, 0, 0, []), (6, .iconst 1, 1, 0, 0, 0, 1, []), (7, .iand, 1, 0, 0, 0, 0, []), (8, .ifCond .eq 38, 3, 46, 0, 0, 0, []), (11, .aload_n 0, 1, 0, 0, 0, 0, []), (12, .getfield 9, 3, 5, 1, 2, 0, []), (15, .iload_n 1, 1, 1, 0, 0, 0, [])],
  [(16, .iaload, 1, 0, 0, 0, 0, []), (17, .iconst (-1), 1, 0, 0, 0, (-1), []), (18, .if_icmp .eq 24, 3, 42, 0, 0, 0, []), (21, .aload_n 0, 1, 0, 0, 0, 0, []), (22, .getfield 9, 3, 5, 1, 2, 0, []), (25, .iload_n 1, 1, 1, 0, 0, 0, []), (26, .iaload, 1, 0, 0, 0, 0, []), (27, .aload_n 0, 1, 0, 0, 0, 0, []), (28, .getfield 22, 3, 5, 0, 2, 0, []), (31, .getfield 52, 3, 10, 0, 2, 0, [])],
  [(34, .getfield 56, 3, 2, 8, 2, 0, []), (37, .iload_n 2, 1, 2, 0, 0, 0, []), (38, .iaload, 1, 0, 0, 0, 0, []), (39, .if_icmp .ne 7, 3, 46, 0, 0, 0, []), (42, .iconst 1, 1, 0, 0, 0, 1, []), (43, .goto 4, 3, 47, 0, 0, 0, []), (46, .iconst 0, 1, 0, 0, 0, 0, []), (47, .ireturn, 1, 1, 0, 0, 0, [])]]
set_option maxRecDepth 20000 in
theorem t5_fits_d : ∀ row ∈ t5_fits, ∀ en ∈ row, decode cX5_fits en.1 = .ok (en.2.1, en.2.2.1) := by decide +kernel
set_option maxRecDepth 20000 in
theorem t5_fits_b : ∀ row ∈ t5_fits, ∀ en ∈ row, okB 5 "fits" (some .boolean) 1 en = true := by decide +kernel
def t5_howManySeen : List (List mE) := [[(0, .aload_n 0, 1, 0, 0, 0, 0, []), (1, .getfield 22, 3, 5, 0, 2, 0, []), (4, .getfield 52, 3, 10, 0, 2, 0, []), (7, .astore_n 2, 1, 2, 0, 0, 0, []), (8, .iconst 0, 1, 0, 0, 0, 0, []), (9, .istore_n 3, 1, 3, 0, 0, 0, []), (10, .iload_n 3, 1, 3, 0, 0, 0, []), (11, .bipush 8, 2, 0, 0, 0, 8, []), (13, .if_icmp .ge 25, 3, 38, 0, 0, 0, [])],
  [(16, .aload_n 0, 1, 0, 0, 0, 0, []), (17, .getfield 15, 3, 5, 4, 2, 0, []), (20, .iload_n 3, 1, 3, 0, 0, 0, []), (21, .iload_n 3, 1, 3, 0, 0, 0, []), (22, .iload_n 1, 1, 1, 0, 0, 0, []), (23, .if_icmp .ne 7, 3, 30, 0, 0, 0, []), (26, .lconst 1, 1, 0, 0, 0, 1, []), (27, .goto 4, 3, 31, 0, 0, 0, []), (30, .lconst 0, 1, 0, 0, 0, 0, []), (31, .lastore, 1, 0, 0, 0, 0, [])],
  [(32, .iinc 3 1, 3, 3, 0, 0, 1, []), (35, .goto (-25), 3, 10, 0, 0, 0, []), (38, .iconst 0, 1, 0, 0, 0, 0, []), (39, .istore_n 3, 1, 3, 0, 0, 0, []), (40, .iload_n 3, 1, 3, 0, 0, 0, []), (41, .aload_n 0, 1, 0, 0, 0, 0, []), (42, .getfield 36, 3, 5, 2, 0, 0, []), (45, .if_icmp .ge 92, 3, 137, 0, 0, 0, [])],
  [(48, .iconst 0, 1, 0, 0, 0, 0, []), (49, .istore 4, 2, 4, 0, 0, 0, []), (51, .iload 4, 2, 4, 0, 0, 0, []), (53, .bipush 8, 2, 0, 0, 0, 8, []), (55, .if_icmp .ge 17, 3, 72, 0, 0, 0, []), (58, .aload_n 0, 1, 0, 0, 0, 0, []), (59, .getfield 19, 3, 5, 5, 2, 0, []), (62, .iload 4, 2, 4, 0, 0, 0, [])],
  [(64, .lconst 0, 1, 0, 0, 0, 0, []), (65, .lastore, 1, 0, 0, 0, 0, []), (66, .iinc 4 1, 3, 4, 0, 0, 1, []), (69, .goto (-18), 3, 51, 0, 0, 0, []), (72, .iconst 0, 1, 0, 0, 0, 0, []), (73, .istore 4, 2, 4, 0, 0, 0, []), (75, .iload 4, 2, 4, 0, 0, 0, []), (77, .aload_n 2, 1, 2, 0, 0, 0, []), (78, .getfield 61, 3, 2, 2, 0, 0, [])],
  [(81, .if_icmp .ge 46, 3, 127, 0, 0, 0, []), (84, .aload_n 0, 1, 0, 0, 0, 0, []), (85, .iload_n 3, 1, 3, 0, 0, 0, []), (86, .iload 4, 2, 4, 0, 0, 0, []), (88, .invokevirtual 64, 3, 52, 3, 1, 5, []), (91, .ifCond .eq 30, 3, 121, 0, 0, 0, []), (94, .aload_n 0, 1, 0, 0, 0, 0, []), (95, .getfield 19, 3, 5, 5, 2, 0, [])],
  [(98, .aload_n 2, 1, 2, 0, 0, 0, []), (99, .getfield 56, 3, 2, 8, 2, 0, []), (102, .iload 4, 2, 4, 0, 0, 0, []), (104, .iaload, 1, 0, 0, 0, 0, []), (105, .dup2, 1, 0, 0, 0, 0, []), (106, .laload, 1, 0, 0, 0, 0, []), (107, .aload_n 0, 1, 0, 0, 0, 0, []), (108, .getfield 15, 3, 5, 4, 2, 0, []), (111, .aload_n 2, 1, 2, 0, 0, 0, [])],
  [(112, .getfield 68, 3, 2, 7, 2, 0, []), (115, .iload 4, 2, 4, 0, 0, 0, []), (117, .iaload, 1, 0, 0, 0, 0, []), (118, .laload, 1, 0, 0, 0, 0, []), (119, .ladd, 1, 0, 0, 0, 0, []), (120, .lastore, 1, 0, 0, 0, 0, []), (121, .iinc 4 1, 3, 4, 0, 0, 1, []), (124, .goto (-49), 3, 75, 0, 0, 0, []), (127, .aload_n 0, 1, 0, 0, 0, 0, [])],
  [(128, .invokevirtual 71, 3, 54, 1, 0, 5, []), (131, .iinc 3 1, 3, 3, 0, 0, 1, []), (134, .goto (-94), 3, 40, 0, 0, 0, []), (137, .aload_n 0, 1, 0, 0, 0, 0, []), (138, .invokevirtual 74, 3, 55, 1, 2, 5, []), (141, .lreturn, 1, 0, 0, 0, 0, [])]]
set_option maxRecDepth 20000 in
theorem t5_howManySeen_d : ∀ row ∈ t5_howManySeen, ∀ en ∈ row, decode cX5_howManySeen en.1 = .ok (en.2.1, en.2.2.1) := by decide +kernel
set_option maxRecDepth 20000 in
theorem t5_howManySeen_b : ∀ row ∈ t5_howManySeen, ∀ en ∈ row, okB 5 "howManySeen" (some .long) 2 en = true := by decide +kernel
def t5_swap : List (List mE) := [[(0, .aload_n 0, 1, 0, 0, 0, 0, []), (1, .getfield 15, 3, 5, 4, 2, 0, []), (4, .astore_n 1, 1, 1, 0, 0, 0, []), (5, .aload_n 0, 1, 0, 0, 0, 0, []), (6, .aload_n 0, 1, 0, 0, 0, 0, []), (7, .getfield 19, 3, 5, 5, 2, 0, []), (10, .putfield 15, 3, 5, 4, 2, 0, []), (13, .aload_n 0, 1, 0, 0, 0, 0, []), (14, .aload_n 1, 1, 1, 0, 0, 0, []), (15, .putfield 19, 3, 5, 5, 2, 0, [])],
  [(18, .return_, 1, 0, 0, 0, 0, [])]]
set_option maxRecDepth 20000 in
theorem t5_swap_d : ∀ row ∈ t5_swap, ∀ en ∈ row, decode cX5_swap en.1 = .ok (en.2.1, en.2.2.1) := by decide +kernel
set_option maxRecDepth 20000 in
theorem t5_swap_b : ∀ row ∈ t5_swap, ∀ en ∈ row, okB 5 "swap" none 0 en = true := by decide +kernel
def t5_sum : List (List mE) := [[(0, .lconst 0, 1, 0, 0, 0, 0, []), (1, .lstore_n 1, 1, 1, 0, 0, 0, []), (2, .iconst 0, 1, 0, 0, 0, 0, []), (3, .istore_n 3, 1, 3, 0, 0, 0, []), (4, .iload_n 3, 1, 3, 0, 0, 0, []), (5, .bipush 8, 2, 0, 0, 0, 8, []), (7, .if_icmp .ge 18, 3, 25, 0, 0, 0, []), (10, .lload_n 1, 1, 1, 0, 0, 0, []), (11, .aload_n 0, 1, 0, 0, 0, 0, []), (12, .getfield 15, 3, 5, 4, 2, 0, []), (15, .iload_n 3, 1, 3, 0, 0, 0, [])],
  [(16, .laload, 1, 0, 0, 0, 0, []), (17, .ladd, 1, 0, 0, 0, 0, []), (18, .lstore_n 1, 1, 1, 0, 0, 0, []), (19, .iinc 3 1, 3, 3, 0, 0, 1, []), (22, .goto (-18), 3, 4, 0, 0, 0, []), (25, .lload_n 1, 1, 1, 0, 0, 0, []), (26, .lreturn, 1, 0, 0, 0, 0, [])]]
set_option maxRecDepth 20000 in
theorem t5_sum_d : ∀ row ∈ t5_sum, ∀ en ∈ row, decode cX5_sum en.1 = .ok (en.2.1, en.2.2.1) := by decide +kernel
set_option maxRecDepth 20000 in
theorem t5_sum_b : ∀ row ∈ t5_sum, ∀ en ∈ row, okB 5 "sum" (some .long) 2 en = true := by decide +kernel
def t5_bitsAt : List (List mE) := [[(0, .aload_n 0, 1, 0, 0, 0, 0, []), (1, .getfield 22, 3, 5, 0, 2, 0, []), (4, .getfield 52, 3, 10, 0, 2, 0, []), (7, .astore_n 3, 1, 3, 0, 0, 0, []), (8, .iconst 1, 1, 0, 0, 0, 1, []), (9, .iload_n 1, 1, 1, 0, 0, 0, []), (10, .ishl, 1, 0, 0, 0, 0, []), (11, .istore 4, 2, 4, 0, 0, 0, []), (13, .iconst 0, 1, 0, 0, 0, 0, []), (14, .istore 5, 2, 5, 0, 0, 0, [])],
  [(16, .iload 5, 2, 5, 0, 0, 0, []), (18, .iload_n 2, 1, 2, 0, 0, 0, []), (19, .if_icmp .ge 74, 3, 93, 0, 0, 0, []), (22, .iconst 0, 1, 0, 0, 0, 0, []), (23, .istore 6, 2, 6, 0, 0, 0, []), (25, .iconst 0, 1, 0, 0, 0, 0, []), (26, .istore 7, 2, 7, 0, 0, 0, []), (28, .iload 7, 2, 7, 0, 0, 0, []), (30, .aload_n 3, 1, 3, 0, 0, 0, []), (31, .getfield 61, 3, 2, 2, 0, 0, [])],
  [(34, .if_icmp .ge 49, 3, 83, 0, 0, 0, []), (37, .aload_n 0, 1, 0, 0, 0, 0, []), (38, .iload 5, 2, 5, 0, 0, 0, []), (40, .iload 7, 2, 7, 0, 0, 0, []), (42, .invokevirtual 64, 3, 52, 3, 1, 5, []), (45, .ifCond .eq 32, 3, 77, 0, 0, 0, [])],
  [(48, .iload 4, 2, 4, 0, 0, 0, []), (50, .aload_n 3, 1, 3, 0, 0, 0, []), (51, .getfield 68, 3, 2, 7, 2, 0, []), (54, .iload 7, 2, 7, 0, 0, 0, []), (56, .iaload, 1, 0, 0, 0, 0, []), (57, .ishr, 1, 0, 0, 0, 0, []), (58, .iconst 1, 1, 0, 0, 0, 1, []), (59, .iand, 1, 0, 0, 0, 0, []), (60, .ifCond .eq 17, 3, 77, 0, 0, 0, []), (63, .iload 6, 2, 6, 0, 0, 0, [])],
  [(65, .iconst 1, 1, 0, 0, 0, 1, []), (66, .aload_n 3, 1, 3, 0, 0, 0, []), (67, .getfield 56, 3, 2, 8, 2, 0, []), (70, .iload 7, 2, 7, 0, 0, 0, []), (72, .iaload, 1, 0, 0, 0, 0, []), (73, .ishl, 1, 0, 0, 0, 0, []), (74, .ior, 1, 0, 0, 0, 0, []), (75, .istore 6, 2, 6, 0, 0, 0, []), (77, .iinc 7 1, 3, 7, 0, 0, 1, [])],
  [(80, .goto (-52), 3, 28, 0, 0, 0, []), (83, .iload 6, 2, 6, 0, 0, 0, []), (85, .istore 4, 2, 4, 0, 0, 0, []), (87, .iinc 5 1, 3, 5, 0, 0, 1, []), (90, .goto (-74), 3, 16, 0, 0, 0, []), (93, .aload_n 0, 1, 0, 0, 0, 0, []), (94, .iload_n 2, 1, 2, 0, 0, 0, []), (95, .iconst 1, 1, 0, 0, 0, 1, [])],
  [(96, .iadd, 1, 0, 0, 0, 0, []), (97, .invokevirtual 78, 3, 57, 2, 1, 5, []), (100, .istore 5, 2, 5, 0, 0, 0, []), (102, .iconst 0, 1, 0, 0, 0, 0, []), (103, .istore 6, 2, 6, 0, 0, 0, []), (105, .iconst 0, 1, 0, 0, 0, 0, []), (106, .istore 7, 2, 7, 0, 0, 0, []), (108, .iload 7, 2, 7, 0, 0, 0, []), (110, .aload_n 3, 1, 3, 0, 0, 0, []), (111, .getfield 61, 3, 2, 2, 0, 0, [])],
  [(114, .if_icmp .ge 58, 3, 172, 0, 0, 0, []), (117, .aload_n 0, 1, 0, 0, 0, 0, []), (118, .iload_n 2, 1, 2, 0, 0, 0, []), (119, .iload 7, 2, 7, 0, 0, 0, []), (121, .invokevirtual 64, 3, 52, 3, 1, 5, []), (124, .ifCond .eq 42, 3, 166, 0, 0, 0, []), (127, .iload 4, 2, 4, 0, 0, 0, [])],
  [(129, .aload_n 3, 1, 3, 0, 0, 0, []), (130, .getfield 68, 3, 2, 7, 2, 0, []), (133, .iload 7, 2, 7, 0, 0, 0, []), (135, .iaload, 1, 0, 0, 0, 0, []), (136, .ishr, 1, 0, 0, 0, 0, []), (137, .iconst 1, 1, 0, 0, 0, 1, []), (138, .iand, 1, 0, 0, 0, 0, []), (139, .ifCond .eq 27, 3, 166, 0, 0, 0, []), (142, .iload 5, 2, 5, 0, 0, 0, [])],
  [(144, .aload_n 3, 1, 3, 0, 0, 0, []), (145, .getfield 56, 3, 2, 8, 2, 0, []), (148, .iload 7, 2, 7, 0, 0, 0, []), (150, .iaload, 1, 0, 0, 0, 0, []), (151, .ishr, 1, 0, 0, 0, 0, []), (152, .iconst 1, 1, 0, 0, 0, 1, []), (153, .iand, 1, 0, 0, 0, 0, []), (154, .ifCond .eq 12, 3, 166, 0, 0, 0, []), (157, .iload 6, 2, 6, 0, 0, 0, []), (159, .iconst 1, 1, 0, 0, 0, 1, [])],
  [(160, .iload 7, 2, 7, 0, 0, 0, []), (162, .ishl, 1, 0, 0, 0, 0, []), (163, .ior, 1, 0, 0, 0, 0, []), (164, .istore 6, 2, 6, 0, 0, 0, []), (166, .iinc 7 1, 3, 7, 0, 0, 1, []), (169, .goto (-61), 3, 108, 0, 0, 0, []), (172, .iload 6, 2, 6, 0, 0, 0, []), (174, .ireturn, 1, 0, 0, 0, 0, [])]]
set_option maxRecDepth 20000 in
theorem t5_bitsAt_d : ∀ row ∈ t5_bitsAt, ∀ en ∈ row, decode cX5_bitsAt en.1 = .ok (en.2.1, en.2.2.1) := by decide +kernel
set_option maxRecDepth 20000 in
theorem t5_bitsAt_b : ∀ row ∈ t5_bitsAt, ∀ en ∈ row, okB 5 "bitsAt" (some .int) 1 en = true := by decide +kernel
def t5_momentsThatGoOn : List (List mE) := [[(0, .aload_n 0, 1, 0, 0, 0, 0, []), (1, .getfield 22, 3, 5, 0, 2, 0, []), (4, .getfield 52, 3, 10, 0, 2, 0, []), (7, .astore_n 2, 1, 2, 0, 0, 0, []), (8, .iconst 1, 1, 0, 0, 0, 1, []), (9, .aload_n 2, 1, 2, 0, 0, 0, []), (10, .getfield 82, 3, 2, 1, 0, 0, []), (13, .ishl, 1, 0, 0, 0, 0, []), (14, .iconst 1, 1, 0, 0, 0, 1, []), (15, .isub, 1, 0, 0, 0, 0, [])],
  [(16, .istore_n 3, 1, 3, 0, 0, 0, []), (17, .aload_n 0, 1, 0, 0, 0, 0, []), (18, .getfield 36, 3, 5, 2, 0, 0, []), (21, .iconst 1, 1, 0, 0, 0, 1, []), (22, .isub, 1, 0, 0, 0, 0, []), (23, .istore 4, 2, 4, 0, 0, 0, []), (25, .iload 4, 2, 4, 0, 0, 0, []), (27, .iload_n 1, 1, 1, 0, 0, 0, []), (28, .if_icmp .lt 72, 3, 100, 0, 0, 0, []), (31, .iconst 0, 1, 0, 0, 0, 0, [])],
  [(32, .istore 5, 2, 5, 0, 0, 0, []), (34, .iconst 0, 1, 0, 0, 0, 0, []), (35, .istore 6, 2, 6, 0, 0, 0, []), (37, .iload 6, 2, 6, 0, 0, 0, []), (39, .aload_n 2, 1, 2, 0, 0, 0, []), (40, .getfield 61, 3, 2, 2, 0, 0, []), (43, .if_icmp .ge 48, 3, 91, 0, 0, 0, []), (46, .aload_n 0, 1, 0, 0, 0, 0, []), (47, .iload 4, 2, 4, 0, 0, 0, [])],
  [(49, .iload 6, 2, 6, 0, 0, 0, []), (51, .invokevirtual 64, 3, 52, 3, 1, 5, []), (54, .ifCond .eq 31, 3, 85, 0, 0, 0, []), (57, .iload_n 3, 1, 3, 0, 0, 0, []), (58, .aload_n 2, 1, 2, 0, 0, 0, []), (59, .getfield 56, 3, 2, 8, 2, 0, []), (62, .iload 6, 2, 6, 0, 0, 0, [])],
  [(64, .iaload, 1, 0, 0, 0, 0, []), (65, .ishr, 1, 0, 0, 0, 0, []), (66, .iconst 1, 1, 0, 0, 0, 1, []), (67, .iand, 1, 0, 0, 0, 0, []), (68, .ifCond .eq 17, 3, 85, 0, 0, 0, []), (71, .iload 5, 2, 5, 0, 0, 0, []), (73, .iconst 1, 1, 0, 0, 0, 1, []), (74, .aload_n 2, 1, 2, 0, 0, 0, []), (75, .getfield 68, 3, 2, 7, 2, 0, []), (78, .iload 6, 2, 6, 0, 0, 0, [])],
  [(80, .iaload, 1, 0, 0, 0, 0, []), (81, .ishl, 1, 0, 0, 0, 0, []), (82, .ior, 1, 0, 0, 0, 0, []), (83, .istore 5, 2, 5, 0, 0, 0, []), (85, .iinc 6 1, 3, 6, 0, 0, 1, []), (88, .goto (-51), 3, 37, 0, 0, 0, []), (91, .iload 5, 2, 5, 0, 0, 0, []), (93, .istore_n 3, 1, 3, 0, 0, 0, []), (94, .iinc 4 (-1), 3, 4, 0, 0, (-1), [])],
  [(97, .goto (-72), 3, 25, 0, 0, 0, []), (100, .iload_n 3, 1, 3, 0, 0, 0, []), (101, .ireturn, 1, 0, 0, 0, 0, [])]]
set_option maxRecDepth 20000 in
theorem t5_momentsThatGoOn_d : ∀ row ∈ t5_momentsThatGoOn, ∀ en ∈ row, decode cX5_momentsThatGoOn en.1 = .ok (en.2.1, en.2.2.1) := by decide +kernel
set_option maxRecDepth 20000 in
theorem t5_momentsThatGoOn_b : ∀ row ∈ t5_momentsThatGoOn, ∀ en ∈ row, okB 5 "momentsThatGoOn" (some .int) 1 en = true := by decide +kernel
def t5_howManyTold : List (List mE) := [[(0, .aload_n 0, 1, 0, 0, 0, 0, []), (1, .getfield 22, 3, 5, 0, 2, 0, []), (4, .aload_n 0, 1, 0, 0, 0, 0, []), (5, .getfield 9, 3, 5, 1, 2, 0, []), (8, .iconst 0, 1, 0, 0, 0, 0, []), (9, .iaload, 1, 0, 0, 0, 0, []), (10, .invokevirtual 85, 3, 97, 2, 1, 10, []), (13, .istore_n 1, 1, 1, 0, 0, 0, []), (14, .iconst 0, 1, 0, 0, 0, 0, []), (15, .istore_n 2, 1, 2, 0, 0, 0, [])],
  [(16, .iload_n 2, 1, 2, 0, 0, 0, []), (17, .bipush 8, 2, 0, 0, 0, 8, []), (19, .if_icmp .ge 21, 3, 40, 0, 0, 0, []), (22, .aload_n 0, 1, 0, 0, 0, 0, []), (23, .getfield 15, 3, 5, 4, 2, 0, []), (26, .iload_n 2, 1, 2, 0, 0, 0, []), (27, .iload_n 1, 1, 1, 0, 0, 0, []), (28, .iload_n 2, 1, 2, 0, 0, 0, []), (29, .ishr, 1, 0, 0, 0, 0, []), (30, .iconst 1, 1, 0, 0, 0, 1, []), (31, .iand, 1, 0, 0, 0, 0, [])],
  [(32, .i2l, 1, 0, 0, 0, 0, []), (33, .lastore, 1, 0, 0, 0, 0, []), (34, .iinc 2 1, 3, 2, 0, 0, 1, []), (37, .goto (-21), 3, 16, 0, 0, 0, []), (40, .iconst 1, 1, 0, 0, 0, 1, []), (41, .istore_n 2, 1, 2, 0, 0, 0, []), (42, .iload_n 2, 1, 2, 0, 0, 0, []), (43, .aload_n 0, 1, 0, 0, 0, 0, []), (44, .getfield 36, 3, 5, 2, 0, 0, []), (47, .if_icmp .ge 79, 3, 126, 0, 0, 0, [])],
  [(50, .aload_n 0, 1, 0, 0, 0, 0, []), (51, .getfield 22, 3, 5, 0, 2, 0, []), (54, .aload_n 0, 1, 0, 0, 0, 0, []), (55, .getfield 9, 3, 5, 1, 2, 0, []), (58, .iload_n 2, 1, 2, 0, 0, 0, []), (59, .iaload, 1, 0, 0, 0, 0, []), (60, .invokevirtual 85, 3, 97, 2, 1, 10, []), (63, .istore_n 3, 1, 3, 0, 0, 0, [])],
  [(64, .aload_n 0, 1, 0, 0, 0, 0, []), (65, .invokevirtual 74, 3, 55, 1, 2, 5, []), (68, .lstore 4, 2, 4, 0, 0, 0, []), (70, .iconst 0, 1, 0, 0, 0, 0, []), (71, .istore 6, 2, 6, 0, 0, 0, []), (73, .iload 6, 2, 6, 0, 0, 0, []), (75, .bipush 8, 2, 0, 0, 0, 8, []), (77, .if_icmp .ge 39, 3, 116, 0, 0, 0, [])],
  [(80, .aload_n 0, 1, 0, 0, 0, 0, []), (81, .getfield 19, 3, 5, 5, 2, 0, []), (84, .iload 6, 2, 6, 0, 0, 0, []), (86, .iload_n 3, 1, 3, 0, 0, 0, []), (87, .iload 6, 2, 6, 0, 0, 0, []), (89, .ishr, 1, 0, 0, 0, 0, []), (90, .iconst 1, 1, 0, 0, 0, 1, []), (91, .iand, 1, 0, 0, 0, 0, []), (92, .ifCond .eq 16, 3, 108, 0, 0, 0, []), (95, .lload 4, 2, 4, 0, 0, 0, [])],
  [(97, .aload_n 0, 1, 0, 0, 0, 0, []), (98, .getfield 15, 3, 5, 4, 2, 0, []), (101, .iload 6, 2, 6, 0, 0, 0, []), (103, .laload, 1, 0, 0, 0, 0, []), (104, .lsub, 1, 0, 0, 0, 0, []), (105, .goto 4, 3, 109, 0, 0, 0, []), (108, .lconst 0, 1, 0, 0, 0, 0, []), (109, .lastore, 1, 0, 0, 0, 0, []), (110, .iinc 6 1, 3, 6, 0, 0, 1, [])],
  [(113, .goto (-40), 3, 73, 0, 0, 0, []), (116, .aload_n 0, 1, 0, 0, 0, 0, []), (117, .invokevirtual 71, 3, 54, 1, 0, 5, []), (120, .iinc 2 1, 3, 2, 0, 0, 1, []), (123, .goto (-81), 3, 42, 0, 0, 0, []), (126, .aload_n 0, 1, 0, 0, 0, 0, []), (127, .invokevirtual 74, 3, 55, 1, 2, 5, [])],
  [(130, .lreturn, 1, 0, 0, 0, 0, [])]]
set_option maxRecDepth 20000 in
theorem t5_howManyTold_d : ∀ row ∈ t5_howManyTold, ∀ en ∈ row, decode cX5_howManyTold en.1 = .ok (en.2.1, en.2.2.1) := by decide +kernel
set_option maxRecDepth 20000 in
theorem t5_howManyTold_b : ∀ row ∈ t5_howManyTold, ∀ en ∈ row, okB 5 "howManyTold" (some .long) 2 en = true := by decide +kernel
def t5_farmsAt : List (List mE) := [[(0, .aload_n 0, 1, 0, 0, 0, 0, []), (1, .getfield 22, 3, 5, 0, 2, 0, []), (4, .aload_n 0, 1, 0, 0, 0, 0, []), (5, .getfield 9, 3, 5, 1, 2, 0, []), (8, .iconst 0, 1, 0, 0, 0, 0, []), (9, .iaload, 1, 0, 0, 0, 0, []), (10, .invokevirtual 85, 3, 97, 2, 1, 10, []), (13, .istore_n 2, 1, 2, 0, 0, 0, []), (14, .iconst 1, 1, 0, 0, 0, 1, []), (15, .istore_n 3, 1, 3, 0, 0, 0, [])],
  [(16, .iload_n 3, 1, 3, 0, 0, 0, []), (17, .iload_n 1, 1, 1, 0, 0, 0, []), (18, .if_icmp .gt 27, 3, 45, 0, 0, 0, []), (21, .iload_n 2, 1, 2, 0, 0, 0, []), (22, .aload_n 0, 1, 0, 0, 0, 0, []), (23, .getfield 22, 3, 5, 0, 2, 0, []), (26, .aload_n 0, 1, 0, 0, 0, 0, []), (27, .getfield 9, 3, 5, 1, 2, 0, []), (30, .iload_n 3, 1, 3, 0, 0, 0, []), (31, .iaload, 1, 0, 0, 0, 0, [])],
  [(32, .invokevirtual 85, 3, 97, 2, 1, 10, []), (35, .invokestatic 88, 3, 60, 2, 1, (-1), []), (38, .istore_n 2, 1, 2, 0, 0, 0, []), (39, .iinc 3 1, 3, 3, 0, 0, 1, []), (42, .goto (-26), 3, 16, 0, 0, 0, []), (45, .aload_n 0, 1, 0, 0, 0, 0, []), (46, .getfield 22, 3, 5, 0, 2, 0, [])],
  [(49, .aload_n 0, 1, 0, 0, 0, 0, []), (50, .getfield 9, 3, 5, 1, 2, 0, []), (53, .aload_n 0, 1, 0, 0, 0, 0, []), (54, .getfield 36, 3, 5, 2, 0, 0, []), (57, .iconst 1, 1, 0, 0, 0, 1, []), (58, .isub, 1, 0, 0, 0, 0, []), (59, .iaload, 1, 0, 0, 0, 0, []), (60, .invokevirtual 85, 3, 97, 2, 1, 10, []), (63, .istore_n 3, 1, 3, 0, 0, 0, [])],
  [(64, .aload_n 0, 1, 0, 0, 0, 0, []), (65, .getfield 36, 3, 5, 2, 0, 0, []), (68, .iconst 2, 1, 0, 0, 0, 2, []), (69, .isub, 1, 0, 0, 0, 0, []), (70, .istore 4, 2, 4, 0, 0, 0, []), (72, .iload 4, 2, 4, 0, 0, 0, []), (74, .iload_n 1, 1, 1, 0, 0, 0, []), (75, .if_icmp .lt 28, 3, 103, 0, 0, 0, []), (78, .iload_n 3, 1, 3, 0, 0, 0, []), (79, .aload_n 0, 1, 0, 0, 0, 0, [])],
  [(80, .getfield 22, 3, 5, 0, 2, 0, []), (83, .aload_n 0, 1, 0, 0, 0, 0, []), (84, .getfield 9, 3, 5, 1, 2, 0, []), (87, .iload 4, 2, 4, 0, 0, 0, []), (89, .iaload, 1, 0, 0, 0, 0, []), (90, .invokevirtual 85, 3, 97, 2, 1, 10, []), (93, .invokestatic 88, 3, 60, 2, 1, (-1), [])],
  [(96, .istore_n 3, 1, 3, 0, 0, 0, []), (97, .iinc 4 (-1), 3, 4, 0, 0, (-1), []), (100, .goto (-28), 3, 72, 0, 0, 0, []), (103, .iload_n 2, 1, 2, 0, 0, 0, []), (104, .iload_n 3, 1, 3, 0, 0, 0, []), (105, .iand, 1, 0, 0, 0, 0, []), (106, .ireturn, 1, 0, 0, 0, 0, [])]]
set_option maxRecDepth 20000 in
theorem t5_farmsAt_d : ∀ row ∈ t5_farmsAt, ∀ en ∈ row, decode cX5_farmsAt en.1 = .ok (en.2.1, en.2.2.1) := by decide +kernel
set_option maxRecDepth 20000 in
theorem t5_farmsAt_b : ∀ row ∈ t5_farmsAt, ∀ en ∈ row, okB 5 "farmsAt" (some .int) 1 en = true := by decide +kernel
def t5_notTwice : List (List mE) := [[(0, .iconst 0, 1, 0, 0, 0, 0, []), (1, .istore_n 2, 1, 2, 0, 0, 0, []), (2, .iconst 0, 1, 0, 0, 0, 0, []), (3, .istore_n 3, 1, 3, 0, 0, 0, []), (4, .iload_n 3, 1, 3, 0, 0, 0, []), (5, .bipush 8, 2, 0, 0, 0, 8, []), (7, .if_icmp .ge 33, 3, 40, 0, 0, 0, []), (10, .iload_n 1, 1, 1, 0, 0, 0, []), (11, .iload_n 3, 1, 3, 0, 0, 0, []), (12, .ishr, 1, 0, 0, 0, 0, []), (13, .iconst 1, 1, 0, 0, 0, 1, []), (14, .iand, 1, 0, 0, 0, 0, []), (15, .ifCond .eq 19, 3, 34, 0, 0, 0, [])],
  [(18, .iload_n 0, 1, 0, 0, 0, 0, []), (19, .iconst 1, 1, 0, 0, 0, 1, []), (20, .iload_n 3, 1, 3, 0, 0, 0, []), (21, .ishl, 1, 0, 0, 0, 0, []), (22, .iconst (-1), 1, 0, 0, 0, (-1), []), (23, .ixor, 1, 0, 0, 0, 0, []), (24, .iand, 1, 0, 0, 0, 0, []), (25, .ifCond .eq 9, 3, 34, 0, 0, 0, []), (28, .iload_n 2, 1, 2, 0, 0, 0, []), (29, .iconst 1, 1, 0, 0, 0, 1, []), (30, .iload_n 3, 1, 3, 0, 0, 0, []), (31, .ishl, 1, 0, 0, 0, 0, [])],
  [(32, .ior, 1, 0, 0, 0, 0, []), (33, .istore_n 2, 1, 2, 0, 0, 0, []), (34, .iinc 3 1, 3, 3, 0, 0, 1, []), (37, .goto (-33), 3, 4, 0, 0, 0, []), (40, .iload_n 2, 1, 2, 0, 0, 0, []), (41, .ireturn, 1, 0, 0, 0, 0, [])]]
set_option maxRecDepth 20000 in
theorem t5_notTwice_d : ∀ row ∈ t5_notTwice, ∀ en ∈ row, decode cX5_notTwice en.1 = .ok (en.2.1, en.2.2.1) := by decide +kernel
set_option maxRecDepth 20000 in
theorem t5_notTwice_b : ∀ row ∈ t5_notTwice, ∀ en ∈ row, okB 5 "notTwice" (some .int) 1 en = true := by decide +kernel
def t6_init : List (List mE) := [[(0, .aload_n 0, 1, 0, 0, 0, 0, []), (1, .invokespecial 3, 3, 1000, 1, 0, (-1), []), (4, .aload_n 0, 1, 0, 0, 0, 0, []), (5, .iconst (-1), 1, 0, 0, 0, (-1), []), (6, .putfield 9, 3, 6, 0, 0, 0, []), (9, .aload_n 0, 1, 0, 0, 0, 0, []), (10, .bipush 64, 2, 0, 0, 0, 64, []), (12, .newarray .int, 2, 1, 0, 0, 0, []), (14, .putfield 15, 3, 6, 1, 2, 0, [])],
  [(17, .aload_n 0, 1, 0, 0, 0, 0, []), (18, .bipush 64, 2, 0, 0, 0, 64, []), (20, .newarray .int, 2, 1, 0, 0, 0, []), (22, .putfield 19, 3, 6, 2, 2, 0, []), (25, .return_, 1, 0, 0, 0, 0, [])]]
set_option maxRecDepth 20000 in
theorem t6_init_d : ∀ row ∈ t6_init, ∀ en ∈ row, decode cX6_init en.1 = .ok (en.2.1, en.2.2.1) := by decide +kernel
set_option maxRecDepth 20000 in
theorem t6_init_b : ∀ row ∈ t6_init, ∀ en ∈ row, okB 6 "<init>" none 0 en = true := by decide +kernel
def t6_begin : List (List mE) := [[(0, .iconst 0, 1, 0, 0, 0, 0, []), (1, .istore 4, 2, 4, 0, 0, 0, []), (3, .iload 4, 2, 4, 0, 0, 0, []), (5, .aload_n 0, 1, 0, 0, 0, 0, []), (6, .getfield 22, 3, 6, 4, 0, 0, []), (9, .if_icmp .ge 22, 3, 31, 0, 0, 0, []), (12, .aload_n 0, 1, 0, 0, 0, 0, []), (13, .getfield 15, 3, 6, 1, 2, 0, [])],
  [(16, .aload_n 0, 1, 0, 0, 0, 0, []), (17, .getfield 19, 3, 6, 2, 2, 0, []), (20, .iload 4, 2, 4, 0, 0, 0, []), (22, .iaload, 1, 0, 0, 0, 0, []), (23, .iconst 0, 1, 0, 0, 0, 0, []), (24, .iastore, 1, 0, 0, 0, 0, []), (25, .iinc 4 1, 3, 4, 0, 0, 1, []), (28, .goto (-25), 3, 3, 0, 0, 0, []), (31, .aload_n 0, 1, 0, 0, 0, 0, [])],
  [(32, .iconst 0, 1, 0, 0, 0, 0, []), (33, .putfield 25, 3, 6, 3, 0, 0, []), (36, .aload_n 0, 1, 0, 0, 0, 0, []), (37, .iconst 0, 1, 0, 0, 0, 0, []), (38, .putfield 22, 3, 6, 4, 0, 0, []), (41, .iload_n 1, 1, 1, 0, 0, 0, []), (42, .aload_n 0, 1, 0, 0, 0, 0, []), (43, .getfield 15, 3, 6, 1, 2, 0, []), (46, .arraylength, 1, 0, 0, 0, 0, []), (47, .if_icmp .le 17, 3, 64, 0, 0, 0, [])],
  [(50, .aload_n 0, 1, 0, 0, 0, 0, []), (51, .iload_n 1, 1, 1, 0, 0, 0, []), (52, .newarray .int, 2, 1, 0, 0, 0, []), (54, .putfield 15, 3, 6, 1, 2, 0, []), (57, .aload_n 0, 1, 0, 0, 0, 0, []), (58, .iload_n 1, 1, 1, 0, 0, 0, []), (59, .newarray .int, 2, 1, 0, 0, 0, []), (61, .putfield 19, 3, 6, 2, 2, 0, [])],
  [(64, .aload_n 0, 1, 0, 0, 0, 0, []), (65, .iload_n 3, 1, 3, 0, 0, 0, []), (66, .putfield 9, 3, 6, 0, 0, 0, []), (69, .iload_n 2, 1, 2, 0, 0, 0, []), (70, .ifCond .lt 31, 3, 101, 0, 0, 0, []), (73, .iload_n 2, 1, 2, 0, 0, 0, []), (74, .aload_n 0, 1, 0, 0, 0, 0, []), (75, .getfield 15, 3, 6, 1, 2, 0, []), (78, .arraylength, 1, 0, 0, 0, 0, []), (79, .if_icmp .ge 22, 3, 101, 0, 0, 0, [])],
  [(82, .aload_n 0, 1, 0, 0, 0, 0, []), (83, .getfield 15, 3, 6, 1, 2, 0, []), (86, .iload_n 2, 1, 2, 0, 0, 0, []), (87, .iconst (-1), 1, 0, 0, 0, (-1), []), (88, .iastore, 1, 0, 0, 0, 0, []), (89, .aload_n 0, 1, 0, 0, 0, 0, []), (90, .getfield 19, 3, 6, 2, 2, 0, []), (93, .iconst 0, 1, 0, 0, 0, 0, []), (94, .iload_n 2, 1, 2, 0, 0, 0, []), (95, .iastore, 1, 0, 0, 0, 0, [])],
  [(96, .aload_n 0, 1, 0, 0, 0, 0, []), (97, .iconst 1, 1, 0, 0, 0, 1, []), (98, .putfield 22, 3, 6, 4, 0, 0, []), (101, .return_, 1, 0, 0, 0, 0, [])]]
set_option maxRecDepth 20000 in
theorem t6_begin_d : ∀ row ∈ t6_begin, ∀ en ∈ row, decode cX6_begin en.1 = .ok (en.2.1, en.2.2.1) := by decide +kernel
set_option maxRecDepth 20000 in
theorem t6_begin_b : ∀ row ∈ t6_begin, ∀ en ∈ row, okB 6 "begin" none 0 en = true := by decide +kernel
def t6_size : List (List mE) := [[(0, .aload_n 0, 1, 0, 0, 0, 0, []), (1, .getfield 15, 3, 6, 1, 2, 0, []), (4, .arraylength, 1, 0, 0, 0, 0, []), (5, .ireturn, 1, 0, 0, 0, 0, [])]]
set_option maxRecDepth 20000 in
theorem t6_size_d : ∀ row ∈ t6_size, ∀ en ∈ row, decode cX6_size en.1 = .ok (en.2.1, en.2.2.1) := by decide +kernel
set_option maxRecDepth 20000 in
theorem t6_size_b : ∀ row ∈ t6_size, ∀ en ∈ row, okB 6 "size" (some .int) 1 en = true := by decide +kernel
def t6_nextPlace : List (List mE) := [[(0, .aload_n 0, 1, 0, 0, 0, 0, []), (1, .getfield 25, 3, 6, 3, 0, 0, []), (4, .aload_n 0, 1, 0, 0, 0, 0, []), (5, .getfield 22, 3, 6, 4, 0, 0, []), (8, .if_icmp .ge 10, 3, 18, 0, 0, 0, []), (11, .aload_n 0, 1, 0, 0, 0, 0, []), (12, .invokevirtual 28, 3, 65, 1, 1, 6, []), (15, .ifCond .eq 5, 3, 20, 0, 0, 0, [])],
  [(18, .iconst (-1), 1, 0, 0, 0, (-1), []), (19, .ireturn, 1, 0, 0, 0, 0, []), (20, .aload_n 0, 1, 0, 0, 0, 0, []), (21, .dup, 1, 0, 0, 0, 0, []), (22, .getfield 25, 3, 6, 3, 0, 0, []), (25, .iconst 1, 1, 0, 0, 0, 1, []), (26, .iadd, 1, 0, 0, 0, 0, []), (27, .putfield 25, 3, 6, 3, 0, 0, []), (30, .aload_n 0, 1, 0, 0, 0, 0, []), (31, .getfield 19, 3, 6, 2, 2, 0, [])],
  [(34, .aload_n 0, 1, 0, 0, 0, 0, []), (35, .getfield 25, 3, 6, 3, 0, 0, []), (38, .iconst 1, 1, 0, 0, 0, 1, []), (39, .isub, 1, 0, 0, 0, 0, []), (40, .iaload, 1, 0, 0, 0, 0, []), (41, .ireturn, 1, 0, 0, 0, 0, [])]]
set_option maxRecDepth 20000 in
theorem t6_nextPlace_d : ∀ row ∈ t6_nextPlace, ∀ en ∈ row, decode cX6_nextPlace en.1 = .ok (en.2.1, en.2.2.1) := by decide +kernel
set_option maxRecDepth 20000 in
theorem t6_nextPlace_b : ∀ row ∈ t6_nextPlace, ∀ en ∈ row, okB 6 "nextPlace" (some .int) 1 en = true := by decide +kernel
def t6_isReached : List (List mE) := [[(0, .aload_n 0, 1, 0, 0, 0, 0, []), (1, .getfield 9, 3, 6, 0, 0, 0, []), (4, .ifCond .lt 31, 3, 35, 0, 0, 0, []), (7, .aload_n 0, 1, 0, 0, 0, 0, []), (8, .getfield 9, 3, 6, 0, 0, 0, []), (11, .aload_n 0, 1, 0, 0, 0, 0, []), (12, .getfield 15, 3, 6, 1, 2, 0, []), (15, .arraylength, 1, 0, 0, 0, 0, [])],
  [(16, .if_icmp .ge 19, 3, 35, 0, 0, 0, []), (19, .aload_n 0, 1, 0, 0, 0, 0, []), (20, .getfield 15, 3, 6, 1, 2, 0, []), (23, .aload_n 0, 1, 0, 0, 0, 0, []), (24, .getfield 9, 3, 6, 0, 0, 0, []), (27, .iaload, 1, 0, 0, 0, 0, []), (28, .ifCond .eq 7, 3, 35, 0, 0, 0, []), (31, .iconst 1, 1, 0, 0, 0, 1, [])],
  [(32, .goto 4, 3, 36, 0, 0, 0, []), (35, .iconst 0, 1, 0, 0, 0, 0, []), (36, .ireturn, 1, 1, 0, 0, 0, [])]]
set_option maxRecDepth 20000 in
theorem t6_isReached_d : ∀ row ∈ t6_isReached, ∀ en ∈ row, decode cX6_isReached en.1 = .ok (en.2.1, en.2.2.1) := by decide +kernel
set_option maxRecDepth 20000 in
theorem t6_isReached_b : ∀ row ∈ t6_isReached, ∀ en ∈ row, okB 6 "isReached" (some .boolean) 1 en = true := by decide +kernel
def t6_offer : List (List mE) := [[(0, .iload_n 1, 1, 1, 0, 0, 0, []), (1, .ifCond .lt 68, 3, 69, 0, 0, 0, []), (4, .iload_n 1, 1, 1, 0, 0, 0, []), (5, .aload_n 0, 1, 0, 0, 0, 0, []), (6, .getfield 15, 3, 6, 1, 2, 0, []), (9, .arraylength, 1, 0, 0, 0, 0, []), (10, .if_icmp .ge 59, 3, 69, 0, 0, 0, []), (13, .aload_n 0, 1, 0, 0, 0, 0, []), (14, .getfield 15, 3, 6, 1, 2, 0, [])],
  [(17, .iload_n 1, 1, 1, 0, 0, 0, []), (18, .iaload, 1, 0, 0, 0, 0, []), (19, .ifCond .ne 50, 3, 69, 0, 0, 0, []), (22, .aload_n 0, 1, 0, 0, 0, 0, []), (23, .getfield 22, 3, 6, 4, 0, 0, []), (26, .aload_n 0, 1, 0, 0, 0, 0, []), (27, .getfield 19, 3, 6, 2, 2, 0, []), (30, .arraylength, 1, 0, 0, 0, 0, []), (31, .if_icmp .ge 38, 3, 69, 0, 0, 0, [])],
  [(34, .aload_n 0, 1, 0, 0, 0, 0, []), (35, .getfield 15, 3, 6, 1, 2, 0, []), (38, .iload_n 1, 1, 1, 0, 0, 0, []), (39, .iload_n 2, 1, 2, 0, 0, 0, []), (40, .sipush 1024, 3, 0, 0, 0, 1024, []), (43, .imul, 1, 0, 0, 0, 0, []), (44, .iload_n 3, 1, 3, 0, 0, 0, []), (45, .iadd, 1, 0, 0, 0, 0, []), (46, .iconst 1, 1, 0, 0, 0, 1, []), (47, .iadd, 1, 0, 0, 0, 0, [])],
  [(48, .iastore, 1, 0, 0, 0, 0, []), (49, .aload_n 0, 1, 0, 0, 0, 0, []), (50, .getfield 19, 3, 6, 2, 2, 0, []), (53, .aload_n 0, 1, 0, 0, 0, 0, []), (54, .getfield 22, 3, 6, 4, 0, 0, []), (57, .iload_n 1, 1, 1, 0, 0, 0, []), (58, .iastore, 1, 0, 0, 0, 0, []), (59, .aload_n 0, 1, 0, 0, 0, 0, []), (60, .dup, 1, 0, 0, 0, 0, []), (61, .getfield 22, 3, 6, 4, 0, 0, [])],
  [(64, .iconst 1, 1, 0, 0, 0, 1, []), (65, .iadd, 1, 0, 0, 0, 0, []), (66, .putfield 22, 3, 6, 4, 0, 0, []), (69, .return_, 1, 0, 0, 0, 0, [])]]
set_option maxRecDepth 20000 in
theorem t6_offer_d : ∀ row ∈ t6_offer, ∀ en ∈ row, decode cX6_offer en.1 = .ok (en.2.1, en.2.2.1) := by decide +kernel
set_option maxRecDepth 20000 in
theorem t6_offer_b : ∀ row ∈ t6_offer, ∀ en ∈ row, okB 6 "offer" none 0 en = true := by decide +kernel
def t6_steps : List (List mE) := [[(0, .aload_n 0, 1, 0, 0, 0, 0, []), (1, .invokevirtual 28, 3, 65, 1, 1, 6, []), (4, .ifCond .ne 5, 3, 9, 0, 0, 0, []), (7, .iconst (-1), 1, 0, 0, 0, (-1), []), (8, .ireturn, 1, 0, 0, 0, 0, []), (9, .aload_n 0, 1, 0, 0, 0, 0, []), (10, .getfield 9, 3, 6, 0, 0, 0, []), (13, .istore_n 1, 1, 1, 0, 0, 0, []), (14, .iconst 0, 1, 0, 0, 0, 0, []), (15, .istore_n 2, 1, 2, 0, 0, 0, [])],
  [(16, .iconst 0, 1, 0, 0, 0, 0, []), (17, .istore_n 3, 1, 3, 0, 0, 0, []), (18, .iload_n 3, 1, 3, 0, 0, 0, []), (19, .aload_n 0, 1, 0, 0, 0, 0, []), (20, .getfield 22, 3, 6, 4, 0, 0, []), (23, .if_icmp .ge 34, 3, 57, 0, 0, 0, []), (26, .aload_n 0, 1, 0, 0, 0, 0, []), (27, .getfield 15, 3, 6, 1, 2, 0, []), (30, .iload_n 1, 1, 1, 0, 0, 0, []), (31, .iaload, 1, 0, 0, 0, 0, [])],
  [(32, .ifCond .le 25, 3, 57, 0, 0, 0, []), (35, .aload_n 0, 1, 0, 0, 0, 0, []), (36, .getfield 15, 3, 6, 1, 2, 0, []), (39, .iload_n 1, 1, 1, 0, 0, 0, []), (40, .iaload, 1, 0, 0, 0, 0, []), (41, .iconst 1, 1, 0, 0, 0, 1, []), (42, .isub, 1, 0, 0, 0, 0, []), (43, .sipush 1024, 3, 0, 0, 0, 1024, []), (46, .idiv, 1, 0, 0, 0, 0, []), (47, .istore_n 1, 1, 1, 0, 0, 0, [])],
  [(48, .iinc 2 1, 3, 2, 0, 0, 1, []), (51, .iinc 3 1, 3, 3, 0, 0, 1, []), (54, .goto (-36), 3, 18, 0, 0, 0, []), (57, .iload_n 2, 1, 2, 0, 0, 0, []), (58, .ireturn, 1, 0, 0, 0, 0, [])]]
set_option maxRecDepth 20000 in
theorem t6_steps_d : ∀ row ∈ t6_steps, ∀ en ∈ row, decode cX6_steps en.1 = .ok (en.2.1, en.2.2.1) := by decide +kernel
set_option maxRecDepth 20000 in
theorem t6_steps_b : ∀ row ∈ t6_steps, ∀ en ∈ row, okB 6 "steps" (some .int) 1 en = true := by decide +kernel
def t6_labelAt : List (List mE) := [[(0, .aload_n 0, 1, 0, 0, 0, 0, []), (1, .getfield 9, 3, 6, 0, 0, 0, []), (4, .istore_n 2, 1, 2, 0, 0, 0, []), (5, .aload_n 0, 1, 0, 0, 0, 0, []), (6, .invokevirtual 32, 3, 67, 1, 1, 6, []), (9, .iconst 1, 1, 0, 0, 0, 1, []), (10, .isub, 1, 0, 0, 0, 0, []), (11, .istore_n 3, 1, 3, 0, 0, 0, []), (12, .iload_n 3, 1, 3, 0, 0, 0, []), (13, .iload_n 1, 1, 1, 0, 0, 0, []), (14, .if_icmp .le 22, 3, 36, 0, 0, 0, [])],
  [(17, .aload_n 0, 1, 0, 0, 0, 0, []), (18, .getfield 15, 3, 6, 1, 2, 0, []), (21, .iload_n 2, 1, 2, 0, 0, 0, []), (22, .iaload, 1, 0, 0, 0, 0, []), (23, .iconst 1, 1, 0, 0, 0, 1, []), (24, .isub, 1, 0, 0, 0, 0, []), (25, .sipush 1024, 3, 0, 0, 0, 1024, []), (28, .idiv, 1, 0, 0, 0, 0, []), (29, .istore_n 2, 1, 2, 0, 0, 0, []), (30, .iinc 3 (-1), 3, 3, 0, 0, (-1), [])],
  [(33, .goto (-21), 3, 12, 0, 0, 0, []), (36, .aload_n 0, 1, 0, 0, 0, 0, []), (37, .invokevirtual 28, 3, 65, 1, 1, 6, []), (40, .ifCond .eq 27, 3, 67, 0, 0, 0, []), (43, .aload_n 0, 1, 0, 0, 0, 0, []), (44, .getfield 15, 3, 6, 1, 2, 0, []), (47, .iload_n 2, 1, 2, 0, 0, 0, [])],
  [(48, .iaload, 1, 0, 0, 0, 0, []), (49, .ifCond .le 18, 3, 67, 0, 0, 0, []), (52, .aload_n 0, 1, 0, 0, 0, 0, []), (53, .getfield 15, 3, 6, 1, 2, 0, []), (56, .iload_n 2, 1, 2, 0, 0, 0, []), (57, .iaload, 1, 0, 0, 0, 0, []), (58, .iconst 1, 1, 0, 0, 0, 1, []), (59, .isub, 1, 0, 0, 0, 0, []), (60, .sipush 1024, 3, 0, 0, 0, 1024, []), (63, .irem, 1, 0, 0, 0, 0, [])],
  [(64, .goto 4, 3, 68, 0, 0, 0, []), (67, .iconst (-1), 1, 0, 0, 0, (-1), []), (68, .ireturn, 1, 0, 0, 0, 0, [])]]
set_option maxRecDepth 20000 in
theorem t6_labelAt_d : ∀ row ∈ t6_labelAt, ∀ en ∈ row, decode cX6_labelAt en.1 = .ok (en.2.1, en.2.2.1) := by decide +kernel
set_option maxRecDepth 20000 in
theorem t6_labelAt_b : ∀ row ∈ t6_labelAt, ∀ en ∈ row, okB 6 "labelAt" (some .int) 1 en = true := by decide +kernel
def t7_init : List (List mE) := [[(0, .aload_n 0, 1, 0, 0, 0, 0, []), (1, .invokespecial 3, 3, 1000, 1, 0, (-1), []), (4, .aload_n 0, 1, 0, 0, 0, 0, []), (5, .bipush 8, 2, 0, 0, 0, 8, []), (7, .newarray .int, 2, 1, 0, 0, 0, []), (9, .putfield 9, 3, 7, 0, 2, 0, []), (12, .aload_n 0, 1, 0, 0, 0, 0, []), (13, .bipush 8, 2, 0, 0, 0, 8, []), (15, .newarray .int, 2, 1, 0, 0, 0, [])],
  [(17, .putfield 15, 3, 7, 1, 2, 0, []), (20, .aload_n 0, 1, 0, 0, 0, 0, []), (21, .bipush 8, 2, 0, 0, 0, 8, []), (23, .newarray .int, 2, 1, 0, 0, 0, []), (25, .putfield 18, 3, 7, 2, 2, 0, []), (28, .return_, 1, 0, 0, 0, 0, [])]]
set_option maxRecDepth 20000 in
theorem t7_init_d : ∀ row ∈ t7_init, ∀ en ∈ row, decode cX7_init en.1 = .ok (en.2.1, en.2.2.1) := by decide +kernel
set_option maxRecDepth 20000 in
theorem t7_init_b : ∀ row ∈ t7_init, ∀ en ∈ row, okB 7 "<init>" none 0 en = true := by decide +kernel
def t7_begin : List (List mE) := [[(0, .iconst 0, 1, 0, 0, 0, 0, []), (1, .istore_n 2, 1, 2, 0, 0, 0, []), (2, .iload_n 2, 1, 2, 0, 0, 0, []), (3, .bipush 8, 2, 0, 0, 0, 8, []), (5, .if_icmp .ge 38, 3, 43, 0, 0, 0, []), (8, .aload_n 0, 1, 0, 0, 0, 0, []), (9, .getfield 9, 3, 7, 0, 2, 0, []), (12, .iload_n 2, 1, 2, 0, 0, 0, []), (13, .aload_n 1, 1, 1, 0, 0, 0, []), (14, .getfield 21, 3, 2, 5, 0, 0, [])],
  [(17, .iastore, 1, 0, 0, 0, 0, []), (18, .aload_n 0, 1, 0, 0, 0, 0, []), (19, .getfield 15, 3, 7, 1, 2, 0, []), (22, .iload_n 2, 1, 2, 0, 0, 0, []), (23, .iconst 0, 1, 0, 0, 0, 0, []), (24, .iastore, 1, 0, 0, 0, 0, []), (25, .aload_n 0, 1, 0, 0, 0, 0, []), (26, .getfield 18, 3, 7, 2, 2, 0, []), (29, .iload_n 2, 1, 2, 0, 0, 0, []), (30, .aload_n 1, 1, 1, 0, 0, 0, []), (31, .getfield 27, 3, 2, 10, 2, 0, [])],
  [(34, .iload_n 2, 1, 2, 0, 0, 0, []), (35, .iaload, 1, 0, 0, 0, 0, []), (36, .iastore, 1, 0, 0, 0, 0, []), (37, .iinc 2 1, 3, 2, 0, 0, 1, []), (40, .goto (-38), 3, 2, 0, 0, 0, []), (43, .aload_n 0, 1, 0, 0, 0, 0, []), (44, .aload_n 1, 1, 1, 0, 0, 0, []), (45, .getfield 28, 3, 2, 4, 0, 0, [])],
  [(48, .putfield 31, 3, 7, 3, 0, 0, []), (51, .aload_n 0, 1, 0, 0, 0, 0, []), (52, .iconst 0, 1, 0, 0, 0, 0, []), (53, .putfield 32, 3, 7, 4, 0, 0, []), (56, .aload_n 0, 1, 0, 0, 0, 0, []), (57, .iconst 0, 1, 0, 0, 0, 0, []), (58, .putfield 35, 3, 7, 5, 0, 0, []), (61, .return_, 1, 0, 0, 0, 0, [])]]
set_option maxRecDepth 20000 in
theorem t7_begin_d : ∀ row ∈ t7_begin, ∀ en ∈ row, decode cX7_begin en.1 = .ok (en.2.1, en.2.2.1) := by decide +kernel
set_option maxRecDepth 20000 in
theorem t7_begin_b : ∀ row ∈ t7_begin, ∀ en ∈ row, okB 7 "begin" none 0 en = true := by decide +kernel
def t7_copyFrom : List (List mE) := [[(0, .aload_n 1, 1, 1, 0, 0, 0, []), (1, .getfield 9, 3, 7, 0, 2, 0, []), (4, .iconst 0, 1, 0, 0, 0, 0, []), (5, .aload_n 0, 1, 0, 0, 0, 0, []), (6, .getfield 9, 3, 7, 0, 2, 0, []), (9, .iconst 0, 1, 0, 0, 0, 0, []), (10, .bipush 8, 2, 0, 0, 0, 8, []), (12, .invokestatic 38, 3, 1006, 5, 0, (-1), []), (15, .aload_n 1, 1, 1, 0, 0, 0, [])],
  [(16, .getfield 15, 3, 7, 1, 2, 0, []), (19, .iconst 0, 1, 0, 0, 0, 0, []), (20, .aload_n 0, 1, 0, 0, 0, 0, []), (21, .getfield 15, 3, 7, 1, 2, 0, []), (24, .iconst 0, 1, 0, 0, 0, 0, []), (25, .bipush 8, 2, 0, 0, 0, 8, []), (27, .invokestatic 38, 3, 1006, 5, 0, (-1), []), (30, .aload_n 1, 1, 1, 0, 0, 0, []), (31, .getfield 18, 3, 7, 2, 2, 0, [])],
  [(34, .iconst 0, 1, 0, 0, 0, 0, []), (35, .aload_n 0, 1, 0, 0, 0, 0, []), (36, .getfield 18, 3, 7, 2, 2, 0, []), (39, .iconst 0, 1, 0, 0, 0, 0, []), (40, .bipush 8, 2, 0, 0, 0, 8, []), (42, .invokestatic 38, 3, 1006, 5, 0, (-1), []), (45, .aload_n 0, 1, 0, 0, 0, 0, []), (46, .aload_n 1, 1, 1, 0, 0, 0, []), (47, .getfield 31, 3, 7, 3, 0, 0, [])],
  [(50, .putfield 31, 3, 7, 3, 0, 0, []), (53, .aload_n 0, 1, 0, 0, 0, 0, []), (54, .aload_n 1, 1, 1, 0, 0, 0, []), (55, .getfield 32, 3, 7, 4, 0, 0, []), (58, .putfield 32, 3, 7, 4, 0, 0, []), (61, .aload_n 0, 1, 0, 0, 0, 0, []), (62, .aload_n 1, 1, 1, 0, 0, 0, []), (63, .getfield 35, 3, 7, 5, 0, 0, [])],
  [(66, .putfield 35, 3, 7, 5, 0, 0, []), (69, .return_, 1, 0, 0, 0, 0, [])]]
set_option maxRecDepth 20000 in
theorem t7_copyFrom_d : ∀ row ∈ t7_copyFrom, ∀ en ∈ row, decode cX7_copyFrom en.1 = .ok (en.2.1, en.2.2.1) := by decide +kernel
set_option maxRecDepth 20000 in
theorem t7_copyFrom_b : ∀ row ∈ t7_copyFrom, ∀ en ∈ row, okB 7 "copyFrom" none 0 en = true := by decide +kernel
def t8_init : List (List mE) := [[(0, .aload_n 0, 1, 0, 0, 0, 0, []), (1, .invokespecial 3, 3, 1000, 1, 0, (-1), []), (4, .aload_n 0, 1, 0, 0, 0, 0, []), (5, .bipush 40, 2, 0, 0, 0, 40, []), (7, .newarray .long, 2, 4, 0, 0, 0, []), (9, .putfield 9, 3, 8, 0, 2, 0, []), (12, .aload_n 0, 1, 0, 0, 0, 0, []), (13, .iconst (-1), 1, 0, 0, 0, (-1), []), (14, .putfield 15, 3, 8, 2, 0, 0, [])],
  [(17, .return_, 1, 0, 0, 0, 0, [])]]
set_option maxRecDepth 20000 in
theorem t8_init_d : ∀ row ∈ t8_init, ∀ en ∈ row, decode cX8_init en.1 = .ok (en.2.1, en.2.2.1) := by decide +kernel
set_option maxRecDepth 20000 in
theorem t8_init_b : ∀ row ∈ t8_init, ∀ en ∈ row, okB 8 "<init>" none 0 en = true := by decide +kernel
def t8_isMissing : List (List mE) := [[(0, .aload_n 0, 1, 0, 0, 0, 0, []), (1, .getfield 15, 3, 8, 2, 0, 0, []), (4, .ifCond .ge 7, 3, 11, 0, 0, 0, []), (7, .iconst 1, 1, 0, 0, 0, 1, []), (8, .goto 4, 3, 12, 0, 0, 0, []), (11, .iconst 0, 1, 0, 0, 0, 0, []), (12, .ireturn, 1, 1, 0, 0, 0, [])]]
set_option maxRecDepth 20000 in
theorem t8_isMissing_d : ∀ row ∈ t8_isMissing, ∀ en ∈ row, decode cX8_isMissing en.1 = .ok (en.2.1, en.2.2.1) := by decide +kernel
set_option maxRecDepth 20000 in
theorem t8_isMissing_b : ∀ row ∈ t8_isMissing, ∀ en ∈ row, okB 8 "isMissing" (some .boolean) 1 en = true := by decide +kernel
def t8_lay : List (List mE) := [[(0, .aload_n 0, 1, 0, 0, 0, 0, []), (1, .iload_n 1, 1, 1, 0, 0, 0, []), (2, .putfield 19, 3, 8, 1, 0, 0, []), (5, .aload_n 0, 1, 0, 0, 0, 0, []), (6, .iload_n 2, 1, 2, 0, 0, 0, []), (7, .putfield 15, 3, 8, 2, 0, 0, []), (10, .iconst 0, 1, 0, 0, 0, 0, []), (11, .istore_n 3, 1, 3, 0, 0, 0, []), (12, .iload_n 3, 1, 3, 0, 0, 0, []), (13, .bipush 40, 2, 0, 0, 0, 40, []), (15, .if_icmp .ge 16, 3, 31, 0, 0, 0, [])],
  [(18, .aload_n 0, 1, 0, 0, 0, 0, []), (19, .getfield 9, 3, 8, 0, 2, 0, []), (22, .iload_n 3, 1, 3, 0, 0, 0, []), (23, .lconst 0, 1, 0, 0, 0, 0, []), (24, .lastore, 1, 0, 0, 0, 0, []), (25, .iinc 3 1, 3, 3, 0, 0, 1, []), (28, .goto (-16), 3, 12, 0, 0, 0, []), (31, .return_, 1, 0, 0, 0, 0, [])]]
set_option maxRecDepth 20000 in
theorem t8_lay_d : ∀ row ∈ t8_lay, ∀ en ∈ row, decode cX8_lay en.1 = .ok (en.2.1, en.2.2.1) := by decide +kernel
set_option maxRecDepth 20000 in
theorem t8_lay_b : ∀ row ∈ t8_lay, ∀ en ∈ row, okB 8 "lay" none 0 en = true := by decide +kernel
def t8_at : List (List mE) := [[(0, .iload_n 1, 1, 1, 0, 0, 0, []), (1, .ifCond .lt 20, 3, 21, 0, 0, 0, []), (4, .iload_n 1, 1, 1, 0, 0, 0, []), (5, .aload_n 0, 1, 0, 0, 0, 0, []), (6, .getfield 15, 3, 8, 2, 0, 0, []), (9, .if_icmp .ge 12, 3, 21, 0, 0, 0, []), (12, .aload_n 0, 1, 0, 0, 0, 0, []), (13, .getfield 9, 3, 8, 0, 2, 0, [])],
  [(16, .iload_n 1, 1, 1, 0, 0, 0, []), (17, .laload, 1, 0, 0, 0, 0, []), (18, .goto 4, 3, 22, 0, 0, 0, []), (21, .lconst 0, 1, 0, 0, 0, 0, []), (22, .lreturn, 1, 0, 0, 0, 0, [])]]
set_option maxRecDepth 20000 in
theorem t8_at_d : ∀ row ∈ t8_at, ∀ en ∈ row, decode cX8_at en.1 = .ok (en.2.1, en.2.2.1) := by decide +kernel
set_option maxRecDepth 20000 in
theorem t8_at_b : ∀ row ∈ t8_at, ∀ en ∈ row, okB 8 "at" (some .long) 2 en = true := by decide +kernel
def t8_put : List (List mE) := [[(0, .aload_n 0, 1, 0, 0, 0, 0, []), (1, .lload_n 2, 1, 2, 0, 0, 0, []), (2, .invokevirtual 22, 3, 77, 2, 2, 8, []), (5, .lstore 4, 2, 4, 0, 0, 0, []), (7, .iload_n 1, 1, 1, 0, 0, 0, []), (8, .ifCond .lt 19, 3, 27, 0, 0, 0, []), (11, .iload_n 1, 1, 1, 0, 0, 0, []), (12, .aload_n 0, 1, 0, 0, 0, 0, []), (13, .getfield 15, 3, 8, 2, 0, 0, [])],
  [(16, .if_icmp .ge 11, 3, 27, 0, 0, 0, []), (19, .aload_n 0, 1, 0, 0, 0, 0, []), (20, .getfield 9, 3, 8, 0, 2, 0, []), (23, .iload_n 1, 1, 1, 0, 0, 0, []), (24, .lload 4, 2, 4, 0, 0, 0, []), (26, .lastore, 1, 0, 0, 0, 0, []), (27, .lload 4, 2, 4, 0, 0, 0, []), (29, .lreturn, 1, 0, 0, 0, 0, [])]]
set_option maxRecDepth 20000 in
theorem t8_put_d : ∀ row ∈ t8_put, ∀ en ∈ row, decode cX8_put en.1 = .ok (en.2.1, en.2.2.1) := by decide +kernel
set_option maxRecDepth 20000 in
theorem t8_put_b : ∀ row ∈ t8_put, ∀ en ∈ row, okB 8 "put" (some .long) 2 en = true := by decide +kernel
def t8_trim : List (List mE) := [[(0, .aload_n 0, 1, 0, 0, 0, 0, []), (1, .getfield 19, 3, 8, 1, 0, 0, []), (4, .tableswitch 42 0 2 #[28, 33, 38], 28, 46, 0, 0, 0, [(0, 32), (1, 37), (2, 42)])],
  [],
  [(32, .lload_n 1, 1, 1, 0, 0, 0, []), (33, .l2i, 1, 0, 0, 0, 0, []), (34, .i2b, 1, 0, 0, 0, 0, []), (35, .i2l, 1, 0, 0, 0, 0, []), (36, .lreturn, 1, 0, 0, 0, 0, []), (37, .lload_n 1, 1, 1, 0, 0, 0, []), (38, .l2i, 1, 0, 0, 0, 0, []), (39, .i2s, 1, 0, 0, 0, 0, []), (40, .i2l, 1, 0, 0, 0, 0, []), (41, .lreturn, 1, 0, 0, 0, 0, []), (42, .lload_n 1, 1, 1, 0, 0, 0, []), (43, .l2i, 1, 0, 0, 0, 0, []), (44, .i2l, 1, 0, 0, 0, 0, []), (45, .lreturn, 1, 0, 0, 0, 0, []), (46, .lload_n 1, 1, 1, 0, 0, 0, []), (47, .lreturn, 1, 0, 0, 0, 0, [])]]
set_option maxRecDepth 20000 in
theorem t8_trim_d : ∀ row ∈ t8_trim, ∀ en ∈ row, decode cX8_trim en.1 = .ok (en.2.1, en.2.2.1) := by decide +kernel
set_option maxRecDepth 20000 in
theorem t8_trim_b : ∀ row ∈ t8_trim, ∀ en ∈ row, okB 8 "trim" (some .long) 2 en = true := by decide +kernel
