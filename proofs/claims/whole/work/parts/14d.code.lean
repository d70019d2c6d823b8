/-! ===== the code of methods, row by row, and its test (printed by program) ===== -/

def t11_init : List (List mE) := [[(0, .aload_n 0, 1, 0, 0, 0, 0, []), (1, .invokespecial 1, 3, 1000, 1, 0, (-1), []), (4, .aload_n 0, 1, 0, 0, 0, 0, []), (5, .sipush 900, 3, 0, 0, 0, 900, []), (8, .newarray .byte, 2, 2, 0, 0, 0, []), (10, .putfield 9, 3, 11, 0, 2, 0, []), (13, .aload_n 0, 1, 0, 0, 0, 0, []), (14, .new 13, 3, 4, 10, 0, 0, [])],
  [(17, .dup, 1, 0, 0, 0, 0, []), (18, .invokespecial 15, 3, 30, 1, 0, 4, []), (21, .putfield 16, 3, 11, 2, 2, 0, []), (24, .aload_n 0, 1, 0, 0, 0, 0, []), (25, .new 20, 3, 10, 5, 0, 0, []), (28, .dup, 1, 0, 0, 0, 0, []), (29, .invokespecial 22, 3, 90, 1, 0, 10, [])],
  [(32, .putfield 23, 3, 11, 3, 2, 0, []), (35, .aload_n 0, 1, 0, 0, 0, 0, []), (36, .new 27, 3, 7, 6, 0, 0, []), (39, .dup, 1, 0, 0, 0, 0, []), (40, .invokespecial 29, 3, 69, 1, 0, 7, []), (43, .putfield 30, 3, 11, 4, 2, 0, []), (46, .aload_n 0, 1, 0, 0, 0, 0, []), (47, .new 34, 3, 3, 2, 0, 0, [])],
  [(50, .dup, 1, 0, 0, 0, 0, []), (51, .invokespecial 36, 3, 25, 1, 0, 3, []), (54, .putfield 37, 3, 11, 5, 2, 0, []), (57, .aload_n 0, 1, 0, 0, 0, 0, []), (58, .iconst 4, 1, 0, 0, 0, 4, []), (59, .anewarray 41, 3, 8, 0, 0, 0, []), (62, .putfield 43, 3, 11, 6, 2, 0, [])],
  [(65, .aload_n 0, 1, 0, 0, 0, 0, []), (66, .iconst 2, 1, 0, 0, 0, 2, []), (67, .anewarray 47, 3, 2, 0, 0, 0, []), (70, .putfield 49, 3, 11, 7, 2, 0, []), (73, .aload_n 0, 1, 0, 0, 0, 0, []), (74, .iconst 2, 1, 0, 0, 0, 2, []), (75, .anewarray 27, 3, 7, 0, 0, 0, []), (78, .putfield 53, 3, 11, 8, 2, 0, [])],
  [(81, .aload_n 0, 1, 0, 0, 0, 0, []), (82, .new 57, 3, 9, 7, 0, 0, []), (85, .dup, 1, 0, 0, 0, 0, []), (86, .aload_n 0, 1, 0, 0, 0, 0, []), (87, .getfield 23, 3, 11, 3, 2, 0, []), (90, .invokespecial 59, 3, 78, 2, 0, 9, []), (93, .putfield 62, 3, 11, 9, 2, 0, [])],
  [(96, .aload_n 0, 1, 0, 0, 0, 0, []), (97, .new 66, 3, 0, 4, 0, 0, []), (100, .dup, 1, 0, 0, 0, 0, []), (101, .aload_n 0, 1, 0, 0, 0, 0, []), (102, .getfield 23, 3, 11, 3, 2, 0, []), (105, .invokespecial 68, 3, 0, 2, 0, 0, []), (108, .putfield 69, 3, 11, 10, 2, 0, []), (111, .aload_n 0, 1, 0, 0, 0, 0, [])],
  [(112, .new 73, 3, 5, 6, 0, 0, []), (115, .dup, 1, 0, 0, 0, 0, []), (116, .aload_n 0, 1, 0, 0, 0, 0, []), (117, .getfield 23, 3, 11, 3, 2, 0, []), (120, .invokespecial 75, 3, 49, 2, 0, 5, []), (123, .putfield 76, 3, 11, 11, 2, 0, []), (126, .aload_n 0, 1, 0, 0, 0, 0, []), (127, .bipush 8, 2, 0, 0, 0, 8, [])],
  [(129, .newarray .int, 2, 1, 0, 0, 0, []), (131, .putfield 80, 3, 11, 12, 2, 0, []), (134, .iconst 0, 1, 0, 0, 0, 0, []), (135, .istore_n 1, 1, 1, 0, 0, 0, []), (136, .iload_n 1, 1, 1, 0, 0, 0, []), (137, .iconst 4, 1, 0, 0, 0, 4, []), (138, .if_icmp .ge 22, 3, 160, 0, 0, 0, []), (141, .aload_n 0, 1, 0, 0, 0, 0, []), (142, .getfield 43, 3, 11, 6, 2, 0, [])],
  [(145, .iload_n 1, 1, 1, 0, 0, 0, []), (146, .new 41, 3, 8, 3, 0, 0, []), (149, .dup, 1, 0, 0, 0, 0, []), (150, .invokespecial 84, 3, 72, 1, 0, 8, []), (153, .aastore, 1, 8, 0, 0, 0, []), (154, .iinc 1 1, 3, 1, 0, 0, 1, []), (157, .goto (-21), 3, 136, 0, 0, 0, [])],
  [(160, .return_, 1, 0, 0, 0, 0, [])]]
set_option maxRecDepth 20000 in
theorem t11_init_d : ∀ row ∈ t11_init, ∀ en ∈ row, decode cX11_init en.1 = .ok (en.2.1, en.2.2.1) := by decide +kernel
set_option maxRecDepth 20000 in
theorem t11_init_b : ∀ row ∈ t11_init, ∀ en ∈ row, okB 11 "<init>" none 0 en = true := by decide +kernel
def t11_feed : List (List mE) := [[(0, .aload_n 0, 1, 0, 0, 0, 0, []), (1, .getfield 85, 3, 11, 1, 0, 0, []), (4, .bipush 20, 2, 0, 0, 0, 20, []), (6, .iadd, 1, 0, 0, 0, 0, []), (7, .sipush 900, 3, 0, 0, 0, 900, []), (10, .if_icmp .le 6, 3, 16, 0, 0, 0, []), (13, .bipush (-5), 2, 0, 0, 0, (-5), []), (15, .ireturn, 1, 0, 0, 0, 0, [])],
  [(16, .aload_n 0, 1, 0, 0, 0, 0, []), (17, .iload_n 1, 1, 1, 0, 0, 0, []), (18, .invokevirtual 89, 3, 121, 2, 0, 11, []), (21, .aload_n 0, 1, 0, 0, 0, 0, []), (22, .iload_n 2, 1, 2, 0, 0, 0, []), (23, .invokevirtual 89, 3, 121, 2, 0, 11, []), (26, .aload_n 0, 1, 0, 0, 0, 0, []), (27, .iload_n 3, 1, 3, 0, 0, 0, []), (28, .invokevirtual 89, 3, 121, 2, 0, 11, []), (31, .aload_n 0, 1, 0, 0, 0, 0, [])],
  [(32, .iload 4, 2, 4, 0, 0, 0, []), (34, .invokevirtual 89, 3, 121, 2, 0, 11, []), (37, .aload_n 0, 1, 0, 0, 0, 0, []), (38, .iload 5, 2, 5, 0, 0, 0, []), (40, .invokevirtual 89, 3, 121, 2, 0, 11, []), (43, .aload_n 0, 1, 0, 0, 0, 0, []), (44, .getfield 85, 3, 11, 1, 0, 0, []), (47, .ireturn, 1, 0, 0, 0, 0, [])]]
set_option maxRecDepth 20000 in
theorem t11_feed_d : ∀ row ∈ t11_feed, ∀ en ∈ row, decode cX11_feed en.1 = .ok (en.2.1, en.2.2.1) := by decide +kernel
set_option maxRecDepth 20000 in
theorem t11_feed_b : ∀ row ∈ t11_feed, ∀ en ∈ row, okB 11 "feed" (some .int) 1 en = true := by decide +kernel
def t11_putBytes : List (List mE) := [[(0, .bipush 24, 2, 0, 0, 0, 24, []), (2, .istore_n 2, 1, 2, 0, 0, 0, []), (3, .iload_n 2, 1, 2, 0, 0, 0, []), (4, .ifCond .lt 42, 3, 46, 0, 0, 0, []), (7, .aload_n 0, 1, 0, 0, 0, 0, []), (8, .getfield 85, 3, 11, 1, 0, 0, []), (11, .sipush 900, 3, 0, 0, 0, 900, []), (14, .if_icmp .ge 32, 3, 46, 0, 0, 0, [])],
  [(17, .aload_n 0, 1, 0, 0, 0, 0, []), (18, .getfield 9, 3, 11, 0, 2, 0, []), (21, .aload_n 0, 1, 0, 0, 0, 0, []), (22, .getfield 85, 3, 11, 1, 0, 0, []), (25, .iload_n 1, 1, 1, 0, 0, 0, []), (26, .iload_n 2, 1, 2, 0, 0, 0, []), (27, .iushr, 1, 0, 0, 0, 0, []), (28, .i2b, 1, 0, 0, 0, 0, []), (29, .bastore, 1, 2, 0, 0, 0, []), (30, .aload_n 0, 1, 0, 0, 0, 0, []), (31, .dup, 1, 0, 0, 0, 0, [])],
  [(32, .getfield 85, 3, 11, 1, 0, 0, []), (35, .iconst 1, 1, 0, 0, 0, 1, []), (36, .iadd, 1, 0, 0, 0, 0, []), (37, .putfield 85, 3, 11, 1, 0, 0, []), (40, .iinc 2 (-8), 3, 2, 0, 0, (-8), []), (43, .goto (-40), 3, 3, 0, 0, 0, []), (46, .return_, 1, 0, 0, 0, 0, [])]]
set_option maxRecDepth 20000 in
theorem t11_putBytes_d : ∀ row ∈ t11_putBytes, ∀ en ∈ row, decode cX11_putBytes en.1 = .ok (en.2.1, en.2.2.1) := by decide +kernel
set_option maxRecDepth 20000 in
theorem t11_putBytes_b : ∀ row ∈ t11_putBytes, ∀ en ∈ row, okB 11 "putBytes" none 0 en = true := by decide +kernel
def t11_line : List (List mE) := [[(0, .iload_n 1, 1, 1, 0, 0, 0, []), (1, .ifCond .lt 11, 3, 12, 0, 0, 0, []), (4, .iload_n 1, 1, 1, 0, 0, 0, []), (5, .aload_n 0, 1, 0, 0, 0, 0, []), (6, .getfield 85, 3, 11, 1, 0, 0, []), (9, .if_icmp .le 6, 3, 15, 0, 0, 0, []), (12, .bipush (-3), 2, 0, 0, 0, (-3), []), (14, .ireturn, 1, 0, 0, 0, 0, []), (15, .aload_n 0, 1, 0, 0, 0, 0, [])],
  [(16, .iconst 0, 1, 0, 0, 0, 0, []), (17, .putfield 85, 3, 11, 1, 0, 0, []), (20, .aload_n 0, 1, 0, 0, 0, 0, []), (21, .getfield 16, 3, 11, 2, 2, 0, []), (24, .aload_n 0, 1, 0, 0, 0, 0, []), (25, .getfield 9, 3, 11, 0, 2, 0, []), (28, .iload_n 1, 1, 1, 0, 0, 0, []), (29, .invokevirtual 93, 3, 31, 3, 1, 4, [])],
  [(32, .istore_n 2, 1, 2, 0, 0, 0, []), (33, .iload_n 2, 1, 2, 0, 0, 0, []), (34, .ifCond .eq 8, 3, 42, 0, 0, 0, []), (37, .bipush (-30), 2, 0, 0, 0, (-30), []), (39, .iload_n 2, 1, 2, 0, 0, 0, []), (40, .isub, 1, 0, 0, 0, 0, []), (41, .ireturn, 1, 0, 0, 0, 0, []), (42, .aload_n 0, 1, 0, 0, 0, 0, []), (43, .getfield 23, 3, 11, 3, 2, 0, []), (46, .getfield 97, 3, 10, 0, 2, 0, [])],
  [(49, .aload_n 0, 1, 0, 0, 0, 0, []), (50, .getfield 16, 3, 11, 2, 2, 0, []), (53, .getfield 101, 3, 4, 0, 2, 0, []), (56, .invokevirtual 104, 3, 22, 2, 0, 2, []), (59, .aload_n 0, 1, 0, 0, 0, 0, []), (60, .getfield 23, 3, 11, 3, 2, 0, []), (63, .getfield 108, 3, 10, 1, 2, 0, [])],
  [(66, .aload_n 0, 1, 0, 0, 0, 0, []), (67, .getfield 23, 3, 11, 3, 2, 0, []), (70, .getfield 97, 3, 10, 0, 2, 0, []), (73, .invokevirtual 111, 3, 70, 2, 0, 7, []), (76, .aload_n 0, 1, 0, 0, 0, 0, []), (77, .getfield 37, 3, 11, 5, 2, 0, [])],
  [(80, .invokevirtual 114, 3, 29, 1, 0, 3, []), (83, .aload_n 0, 1, 0, 0, 0, 0, []), (84, .getfield 23, 3, 11, 3, 2, 0, []), (87, .getfield 97, 3, 10, 0, 2, 0, []), (90, .getfield 117, 3, 2, 6, 0, 0, []), (93, .ireturn, 1, 0, 0, 0, 0, [])]]
set_option maxRecDepth 20000 in
theorem t11_line_d : ∀ row ∈ t11_line, ∀ en ∈ row, decode cX11_line en.1 = .ok (en.2.1, en.2.2.1) := by decide +kernel
set_option maxRecDepth 20000 in
theorem t11_line_b : ∀ row ∈ t11_line, ∀ en ∈ row, okB 11 "line" (some .int) 1 en = true := by decide +kernel
def t11_fault : List (List mE) := [[(0, .iload_n 1, 1, 1, 0, 0, 0, []), (1, .ifCond .ne 11, 3, 12, 0, 0, 0, []), (4, .aload_n 0, 1, 0, 0, 0, 0, []), (5, .getfield 16, 3, 11, 2, 2, 0, []), (8, .getfield 120, 3, 4, 1, 0, 0, []), (11, .ireturn, 1, 0, 0, 0, 0, []), (12, .iload_n 1, 1, 1, 0, 0, 0, []), (13, .iconst 1, 1, 0, 0, 0, 1, []), (14, .if_icmp .ne 13, 3, 27, 0, 0, 0, [])],
  [(17, .aload_n 0, 1, 0, 0, 0, 0, []), (18, .getfield 16, 3, 11, 2, 2, 0, []), (21, .getfield 123, 3, 4, 2, 0, 0, []), (24, .goto 4, 3, 28, 0, 0, 0, []), (27, .iconst (-1), 1, 0, 0, 0, (-1), []), (28, .ireturn, 1, 0, 0, 0, 0, [])]]
set_option maxRecDepth 20000 in
theorem t11_fault_d : ∀ row ∈ t11_fault, ∀ en ∈ row, decode cX11_fault en.1 = .ok (en.2.1, en.2.2.1) := by decide +kernel
set_option maxRecDepth 20000 in
theorem t11_fault_b : ∀ row ∈ t11_fault, ∀ en ∈ row, okB 11 "fault" (some .int) 1 en = true := by decide +kernel
def t11_farm : List (List mE) := [[(0, .aload_n 0, 1, 0, 0, 0, 0, []), (1, .getfield 23, 3, 11, 3, 2, 0, []), (4, .iload_n 1, 1, 1, 0, 0, 0, []), (5, .invokevirtual 126, 3, 91, 2, 1, 10, []), (8, .ifCond .ne 6, 3, 14, 0, 0, 0, []), (11, .bipush (-2), 2, 0, 0, 0, (-2), []), (13, .ireturn, 1, 0, 0, 0, 0, []), (14, .iload_n 2, 1, 2, 0, 0, 0, []), (15, .tableswitch 130 0 5 #[37, 50, 63, 76, 89, 98], 37, 145, 0, 0, 0, [(0, 52), (1, 65), (2, 78), (3, 91), (4, 104), (5, 113)])],
  [],
  [],
  [(52, .aload_n 0, 1, 0, 0, 0, 0, []), (53, .getfield 23, 3, 11, 3, 2, 0, []), (56, .getfield 108, 3, 10, 1, 2, 0, []), (59, .getfield 130, 3, 7, 0, 2, 0, []), (62, .iload_n 1, 1, 1, 0, 0, 0, []), (63, .iaload, 1, 0, 0, 0, 0, [])],
  [(64, .ireturn, 1, 0, 0, 0, 0, []), (65, .aload_n 0, 1, 0, 0, 0, 0, []), (66, .getfield 23, 3, 11, 3, 2, 0, []), (69, .getfield 108, 3, 10, 1, 2, 0, []), (72, .getfield 133, 3, 7, 1, 2, 0, []), (75, .iload_n 1, 1, 1, 0, 0, 0, []), (76, .iaload, 1, 0, 0, 0, 0, []), (77, .ireturn, 1, 0, 0, 0, 0, []), (78, .aload_n 0, 1, 0, 0, 0, 0, []), (79, .getfield 23, 3, 11, 3, 2, 0, [])],
  [(82, .getfield 108, 3, 10, 1, 2, 0, []), (85, .getfield 136, 3, 7, 2, 2, 0, []), (88, .iload_n 1, 1, 1, 0, 0, 0, []), (89, .iaload, 1, 0, 0, 0, 0, []), (90, .ireturn, 1, 0, 0, 0, 0, []), (91, .aload_n 0, 1, 0, 0, 0, 0, []), (92, .getfield 23, 3, 11, 3, 2, 0, []), (95, .getfield 97, 3, 10, 0, 2, 0, [])],
  [(98, .getfield 139, 3, 2, 9, 2, 0, []), (101, .iload_n 1, 1, 1, 0, 0, 0, []), (102, .iaload, 1, 0, 0, 0, 0, []), (103, .ireturn, 1, 0, 0, 0, 0, []), (104, .aload_n 0, 1, 0, 0, 0, 0, []), (105, .getfield 23, 3, 11, 3, 2, 0, []), (108, .iload_n 1, 1, 1, 0, 0, 0, []), (109, .invokevirtual 142, 3, 100, 2, 1, 10, [])],
  [(112, .ireturn, 1, 0, 0, 0, 0, []), (113, .aload_n 0, 1, 0, 0, 0, 0, []), (114, .getfield 23, 3, 11, 3, 2, 0, []), (117, .iload_n 1, 1, 1, 0, 0, 0, []), (118, .invokevirtual 146, 3, 96, 2, 1, 10, []), (121, .aload_n 0, 1, 0, 0, 0, 0, []), (122, .getfield 23, 3, 11, 3, 2, 0, []), (125, .getfield 97, 3, 10, 0, 2, 0, [])],
  [(128, .aload_n 0, 1, 0, 0, 0, 0, []), (129, .getfield 23, 3, 11, 3, 2, 0, []), (132, .getfield 108, 3, 10, 1, 2, 0, []), (135, .getfield 130, 3, 7, 0, 2, 0, []), (138, .iload_n 1, 1, 1, 0, 0, 0, []), (139, .iaload, 1, 0, 0, 0, 0, []), (140, .invokevirtual 149, 3, 24, 2, 1, 2, []), (143, .iand, 1, 0, 0, 0, 0, [])],
  [(144, .ireturn, 1, 0, 0, 0, 0, []), (145, .bipush (-2), 2, 0, 0, 0, (-2), []), (147, .ireturn, 1, 0, 0, 0, 0, [])]]
set_option maxRecDepth 20000 in
theorem t11_farm_d : ∀ row ∈ t11_farm, ∀ en ∈ row, decode cX11_farm en.1 = .ok (en.2.1, en.2.2.1) := by decide +kernel
set_option maxRecDepth 20000 in
theorem t11_farm_b : ∀ row ∈ t11_farm, ∀ en ∈ row, okB 11 "farm" (some .int) 1 en = true := by decide +kernel
def t11_bit : List (List mE) := [[(0, .aload_n 0, 1, 0, 0, 0, 0, []), (1, .getfield 23, 3, 11, 3, 2, 0, []), (4, .iload_n 1, 1, 1, 0, 0, 0, []), (5, .invokevirtual 152, 3, 93, 2, 1, 10, []), (8, .ifCond .ne 6, 3, 14, 0, 0, 0, []), (11, .bipush (-2), 2, 0, 0, 0, (-2), []), (13, .ireturn, 1, 0, 0, 0, 0, []), (14, .iload_n 2, 1, 2, 0, 0, 0, []), (15, .tableswitch 79 0 3 #[29, 42, 55, 70], 29, 94, 0, 0, 0, [(0, 44), (1, 57), (2, 70), (3, 85)])],
  [],
  [(44, .aload_n 0, 1, 0, 0, 0, 0, []), (45, .getfield 23, 3, 11, 3, 2, 0, [])],
  [(48, .getfield 97, 3, 10, 0, 2, 0, []), (51, .getfield 155, 3, 2, 7, 2, 0, []), (54, .iload_n 1, 1, 1, 0, 0, 0, []), (55, .iaload, 1, 0, 0, 0, 0, []), (56, .ireturn, 1, 0, 0, 0, 0, []), (57, .aload_n 0, 1, 0, 0, 0, 0, []), (58, .getfield 23, 3, 11, 3, 2, 0, []), (61, .getfield 97, 3, 10, 0, 2, 0, [])],
  [(64, .getfield 158, 3, 2, 8, 2, 0, []), (67, .iload_n 1, 1, 1, 0, 0, 0, []), (68, .iaload, 1, 0, 0, 0, 0, []), (69, .ireturn, 1, 0, 0, 0, 0, []), (70, .aload_n 0, 1, 0, 0, 0, 0, []), (71, .getfield 23, 3, 11, 3, 2, 0, []), (74, .getfield 97, 3, 10, 0, 2, 0, []), (77, .getfield 161, 3, 2, 3, 0, 0, [])],
  [(80, .iload_n 1, 1, 1, 0, 0, 0, []), (81, .ishr, 1, 0, 0, 0, 0, []), (82, .iconst 1, 1, 0, 0, 0, 1, []), (83, .iand, 1, 0, 0, 0, 0, []), (84, .ireturn, 1, 0, 0, 0, 0, []), (85, .aload_n 0, 1, 0, 0, 0, 0, []), (86, .getfield 23, 3, 11, 3, 2, 0, []), (89, .iload_n 1, 1, 1, 0, 0, 0, []), (90, .invokevirtual 164, 3, 97, 2, 1, 10, []), (93, .ireturn, 1, 0, 0, 0, 0, []), (94, .bipush (-2), 2, 0, 0, 0, (-2), [])],
  [(96, .ireturn, 1, 0, 0, 0, 0, [])]]
set_option maxRecDepth 20000 in
theorem t11_bit_d : ∀ row ∈ t11_bit, ∀ en ∈ row, decode cX11_bit en.1 = .ok (en.2.1, en.2.2.1) := by decide +kernel
set_option maxRecDepth 20000 in
theorem t11_bit_b : ∀ row ∈ t11_bit, ∀ en ∈ row, okB 11 "bit" (some .int) 1 en = true := by decide +kernel
def t11_wire : List (List mE) := [[(0, .aload_n 0, 1, 0, 0, 0, 0, []), (1, .getfield 23, 3, 11, 3, 2, 0, []), (4, .iload_n 1, 1, 1, 0, 0, 0, []), (5, .invokevirtual 167, 3, 94, 2, 1, 10, []), (8, .ifCond .ne 6, 3, 14, 0, 0, 0, []), (11, .bipush (-2), 2, 0, 0, 0, (-2), []), (13, .ireturn, 1, 0, 0, 0, 0, []), (14, .iload_n 2, 1, 2, 0, 0, 0, []), (15, .lookupswitch 53 #[(0, 25), (1, 40)], 25, 68, 0, 0, 0, [(0, 40), (1, 55)])],
  [],
  [(40, .aload_n 0, 1, 0, 0, 0, 0, []), (41, .getfield 23, 3, 11, 3, 2, 0, []), (44, .getfield 108, 3, 10, 1, 2, 0, []), (47, .getfield 170, 3, 7, 3, 0, 0, [])],
  [(50, .iload_n 1, 1, 1, 0, 0, 0, []), (51, .ishr, 1, 0, 0, 0, 0, []), (52, .iconst 1, 1, 0, 0, 0, 1, []), (53, .iand, 1, 0, 0, 0, 0, []), (54, .ireturn, 1, 0, 0, 0, 0, []), (55, .aload_n 0, 1, 0, 0, 0, 0, []), (56, .getfield 23, 3, 11, 3, 2, 0, []), (59, .getfield 97, 3, 10, 0, 2, 0, []), (62, .getfield 173, 3, 2, 11, 2, 0, [])],
  [(65, .iload_n 1, 1, 1, 0, 0, 0, []), (66, .iaload, 1, 0, 0, 0, 0, []), (67, .ireturn, 1, 0, 0, 0, 0, []), (68, .bipush (-2), 2, 0, 0, 0, (-2), []), (70, .ireturn, 1, 0, 0, 0, 0, [])]]
set_option maxRecDepth 20000 in
theorem t11_wire_d : ∀ row ∈ t11_wire, ∀ en ∈ row, decode cX11_wire en.1 = .ok (en.2.1, en.2.2.1) := by decide +kernel
set_option maxRecDepth 20000 in
theorem t11_wire_b : ∀ row ∈ t11_wire, ∀ en ∈ row, okB 11 "wire" (some .int) 1 en = true := by decide +kernel
def t11_likes : List (List mE) := [[(0, .aload_n 0, 1, 0, 0, 0, 0, []), (1, .getfield 23, 3, 11, 3, 2, 0, []), (4, .iload_n 1, 1, 1, 0, 0, 0, []), (5, .invokevirtual 126, 3, 91, 2, 1, 10, []), (8, .ifCond .eq 14, 3, 22, 0, 0, 0, []), (11, .aload_n 0, 1, 0, 0, 0, 0, []), (12, .getfield 23, 3, 11, 3, 2, 0, []), (15, .iload_n 2, 1, 2, 0, 0, 0, [])],
  [(16, .invokevirtual 176, 3, 92, 2, 1, 10, []), (19, .ifCond .ne 6, 3, 25, 0, 0, 0, []), (22, .ldc 179, 2, 0, 0, 0, (-99000002), []), (24, .ireturn, 1, 0, 0, 0, 0, []), (25, .aload_n 0, 1, 0, 0, 0, 0, []), (26, .getfield 23, 3, 11, 3, 2, 0, []), (29, .iload_n 1, 1, 1, 0, 0, 0, []), (30, .iload_n 2, 1, 2, 0, 0, 0, []), (31, .invokevirtual 180, 3, 102, 3, 1, 10, [])],
  [(34, .ireturn, 1, 0, 0, 0, 0, [])]]
set_option maxRecDepth 20000 in
theorem t11_likes_d : ∀ row ∈ t11_likes, ∀ en ∈ row, decode cX11_likes en.1 = .ok (en.2.1, en.2.2.1) := by decide +kernel
set_option maxRecDepth 20000 in
theorem t11_likes_b : ∀ row ∈ t11_likes, ∀ en ∈ row, okB 11 "likes" (some .int) 1 en = true := by decide +kernel
def t11_tell : List (List mE) := [[(0, .aload_n 0, 1, 0, 0, 0, 0, []), (1, .getfield 23, 3, 11, 3, 2, 0, []), (4, .iload_n 1, 1, 1, 0, 0, 0, []), (5, .iload_n 2, 1, 2, 0, 0, 0, []), (6, .invokevirtual 184, 3, 105, 3, 1, 10, []), (9, .istore_n 3, 1, 3, 0, 0, 0, []), (10, .iload_n 3, 1, 3, 0, 0, 0, []), (11, .ifCond .eq 8, 3, 19, 0, 0, 0, []), (14, .bipush (-10), 2, 0, 0, 0, (-10), [])],
  [(16, .iload_n 3, 1, 3, 0, 0, 0, []), (17, .isub, 1, 0, 0, 0, 0, []), (18, .ireturn, 1, 0, 0, 0, 0, []), (19, .aload_n 0, 1, 0, 0, 0, 0, []), (20, .getfield 37, 3, 11, 5, 2, 0, []), (23, .aload_n 0, 1, 0, 0, 0, 0, []), (24, .getfield 23, 3, 11, 3, 2, 0, []), (27, .getfield 108, 3, 10, 1, 2, 0, []), (30, .invokevirtual 187, 3, 26, 2, 0, 3, [])],
  [(33, .aload_n 0, 1, 0, 0, 0, 0, []), (34, .getfield 23, 3, 11, 3, 2, 0, []), (37, .iload_n 1, 1, 1, 0, 0, 0, []), (38, .iload_n 2, 1, 2, 0, 0, 0, []), (39, .invokevirtual 191, 3, 110, 3, 1, 10, []), (42, .ireturn, 1, 0, 0, 0, 0, [])]]
set_option maxRecDepth 20000 in
theorem t11_tell_d : ∀ row ∈ t11_tell, ∀ en ∈ row, decode cX11_tell en.1 = .ok (en.2.1, en.2.2.1) := by decide +kernel
set_option maxRecDepth 20000 in
theorem t11_tell_b : ∀ row ∈ t11_tell, ∀ en ∈ row, okB 11 "tell" (some .int) 1 en = true := by decide +kernel
def t11_cut : List (List mE) := [[(0, .aload_n 0, 1, 0, 0, 0, 0, []), (1, .getfield 23, 3, 11, 3, 2, 0, []), (4, .iload_n 1, 1, 1, 0, 0, 0, []), (5, .invokevirtual 167, 3, 94, 2, 1, 10, []), (8, .ifCond .ne 6, 3, 14, 0, 0, 0, []), (11, .bipush (-11), 2, 0, 0, 0, (-11), []), (13, .ireturn, 1, 0, 0, 0, 0, []), (14, .aload_n 0, 1, 0, 0, 0, 0, []), (15, .getfield 37, 3, 11, 5, 2, 0, [])],
  [(18, .aload_n 0, 1, 0, 0, 0, 0, []), (19, .getfield 23, 3, 11, 3, 2, 0, []), (22, .getfield 108, 3, 10, 1, 2, 0, []), (25, .invokevirtual 187, 3, 26, 2, 0, 3, []), (28, .aload_n 0, 1, 0, 0, 0, 0, []), (29, .getfield 23, 3, 11, 3, 2, 0, [])],
  [(32, .getfield 108, 3, 10, 1, 2, 0, []), (35, .dup, 1, 0, 0, 0, 0, []), (36, .getfield 170, 3, 7, 3, 0, 0, []), (39, .iconst 1, 1, 0, 0, 0, 1, []), (40, .iload_n 1, 1, 1, 0, 0, 0, []), (41, .ishl, 1, 0, 0, 0, 0, []), (42, .ixor, 1, 0, 0, 0, 0, []), (43, .putfield 170, 3, 7, 3, 0, 0, []), (46, .aload_n 0, 1, 0, 0, 0, 0, []), (47, .getfield 23, 3, 11, 3, 2, 0, [])],
  [(50, .getfield 108, 3, 10, 1, 2, 0, []), (53, .getfield 170, 3, 7, 3, 0, 0, []), (56, .iload_n 1, 1, 1, 0, 0, 0, []), (57, .ishr, 1, 0, 0, 0, 0, []), (58, .iconst 1, 1, 0, 0, 0, 1, []), (59, .iand, 1, 0, 0, 0, 0, []), (60, .ireturn, 1, 0, 0, 0, 0, [])]]
set_option maxRecDepth 20000 in
theorem t11_cut_d : ∀ row ∈ t11_cut, ∀ en ∈ row, decode cX11_cut en.1 = .ok (en.2.1, en.2.2.1) := by decide +kernel
set_option maxRecDepth 20000 in
theorem t11_cut_b : ∀ row ∈ t11_cut, ∀ en ∈ row, okB 11 "cut" (some .int) 1 en = true := by decide +kernel
def t11_mood : List (List mE) := [[(0, .aload_n 0, 1, 0, 0, 0, 0, []), (1, .getfield 23, 3, 11, 3, 2, 0, []), (4, .iload_n 1, 1, 1, 0, 0, 0, []), (5, .invokevirtual 126, 3, 91, 2, 1, 10, []), (8, .ifCond .eq 13, 3, 21, 0, 0, 0, []), (11, .iload_n 2, 1, 2, 0, 0, 0, []), (12, .ifCond .lt 9, 3, 21, 0, 0, 0, []), (15, .iload_n 2, 1, 2, 0, 0, 0, [])],
  [(16, .bipush 9, 2, 0, 0, 0, 9, []), (18, .if_icmp .le 6, 3, 24, 0, 0, 0, []), (21, .bipush (-11), 2, 0, 0, 0, (-11), []), (23, .ireturn, 1, 0, 0, 0, 0, []), (24, .aload_n 0, 1, 0, 0, 0, 0, []), (25, .getfield 37, 3, 11, 5, 2, 0, []), (28, .aload_n 0, 1, 0, 0, 0, 0, []), (29, .getfield 23, 3, 11, 3, 2, 0, [])],
  [(32, .getfield 108, 3, 10, 1, 2, 0, []), (35, .invokevirtual 187, 3, 26, 2, 0, 3, []), (38, .aload_n 0, 1, 0, 0, 0, 0, []), (39, .getfield 23, 3, 11, 3, 2, 0, []), (42, .getfield 108, 3, 10, 1, 2, 0, []), (45, .getfield 136, 3, 7, 2, 2, 0, [])],
  [(48, .iload_n 1, 1, 1, 0, 0, 0, []), (49, .iaload, 1, 0, 0, 0, 0, []), (50, .istore_n 3, 1, 3, 0, 0, 0, []), (51, .aload_n 0, 1, 0, 0, 0, 0, []), (52, .getfield 23, 3, 11, 3, 2, 0, []), (55, .getfield 108, 3, 10, 1, 2, 0, []), (58, .getfield 136, 3, 7, 2, 2, 0, []), (61, .iload_n 1, 1, 1, 0, 0, 0, []), (62, .iload_n 2, 1, 2, 0, 0, 0, []), (63, .iastore, 1, 0, 0, 0, 0, [])],
  [(64, .iload_n 3, 1, 3, 0, 0, 0, []), (65, .ireturn, 1, 0, 0, 0, 0, [])]]
set_option maxRecDepth 20000 in
theorem t11_mood_d : ∀ row ∈ t11_mood, ∀ en ∈ row, decode cX11_mood en.1 = .ok (en.2.1, en.2.2.1) := by decide +kernel
set_option maxRecDepth 20000 in
theorem t11_mood_b : ∀ row ∈ t11_mood, ∀ en ∈ row, okB 11 "mood" (some .int) 1 en = true := by decide +kernel
def t11_go : List (List mE) := [[(0, .iload_n 1, 1, 1, 0, 0, 0, []), (1, .iconst 1, 1, 0, 0, 0, 1, []), (2, .if_icmp .lt 9, 3, 11, 0, 0, 0, []), (5, .iload_n 1, 1, 1, 0, 0, 0, []), (6, .bipush 99, 2, 0, 0, 0, 99, []), (8, .if_icmp .le 6, 3, 14, 0, 0, 0, []), (11, .bipush (-3), 2, 0, 0, 0, (-3), []), (13, .ireturn, 1, 0, 0, 0, 0, []), (14, .aload_n 0, 1, 0, 0, 0, 0, []), (15, .getfield 37, 3, 11, 5, 2, 0, [])],
  [(18, .aload_n 0, 1, 0, 0, 0, 0, []), (19, .getfield 23, 3, 11, 3, 2, 0, []), (22, .getfield 108, 3, 10, 1, 2, 0, []), (25, .invokevirtual 187, 3, 26, 2, 0, 3, []), (28, .aload_n 0, 1, 0, 0, 0, 0, []), (29, .getfield 23, 3, 11, 3, 2, 0, [])],
  [(32, .getfield 108, 3, 10, 1, 2, 0, []), (35, .getfield 194, 3, 7, 5, 0, 0, []), (38, .istore_n 2, 1, 2, 0, 0, 0, []), (39, .iconst 0, 1, 0, 0, 0, 0, []), (40, .istore_n 3, 1, 3, 0, 0, 0, []), (41, .iload_n 3, 1, 3, 0, 0, 0, []), (42, .iload_n 1, 1, 1, 0, 0, 0, []), (43, .if_icmp .ge 20, 3, 63, 0, 0, 0, []), (46, .aload_n 0, 1, 0, 0, 0, 0, []), (47, .getfield 23, 3, 11, 3, 2, 0, [])],
  [(50, .ldc2_w 197, 3, 0, 0, 0, (-1), []), (53, .invokevirtual 199, 3, 107, 2, 1, 10, []), (56, .pop, 1, 0, 0, 0, 0, []), (57, .iinc 3 1, 3, 3, 0, 0, 1, []), (60, .goto (-19), 3, 41, 0, 0, 0, []), (63, .aload_n 0, 1, 0, 0, 0, 0, [])],
  [(64, .getfield 23, 3, 11, 3, 2, 0, []), (67, .getfield 108, 3, 10, 1, 2, 0, []), (70, .getfield 194, 3, 7, 5, 0, 0, []), (73, .iload_n 2, 1, 2, 0, 0, 0, []), (74, .isub, 1, 0, 0, 0, 0, []), (75, .ireturn, 1, 0, 0, 0, 0, [])]]
set_option maxRecDepth 20000 in
theorem t11_go_d : ∀ row ∈ t11_go, ∀ en ∈ row, decode cX11_go en.1 = .ok (en.2.1, en.2.2.1) := by decide +kernel
set_option maxRecDepth 20000 in
theorem t11_go_b : ∀ row ∈ t11_go, ∀ en ∈ row, okB 11 "go" (some .int) 1 en = true := by decide +kernel
def t11_undo : List (List mE) := [[(0, .iload_n 1, 1, 1, 0, 0, 0, []), (1, .iconst 1, 1, 0, 0, 0, 1, []), (2, .if_icmp .lt 20, 3, 22, 0, 0, 0, []), (5, .iload_n 1, 1, 1, 0, 0, 0, []), (6, .bipush 10, 2, 0, 0, 0, 10, []), (8, .if_icmp .gt 14, 3, 22, 0, 0, 0, []), (11, .iload_n 1, 1, 1, 0, 0, 0, []), (12, .aload_n 0, 1, 0, 0, 0, 0, []), (13, .getfield 37, 3, 11, 5, 2, 0, [])],
  [(16, .getfield 203, 3, 3, 1, 0, 0, []), (19, .if_icmp .le 6, 3, 25, 0, 0, 0, []), (22, .bipush (-3), 2, 0, 0, 0, (-3), []), (24, .ireturn, 1, 0, 0, 0, 0, []), (25, .aload_n 0, 1, 0, 0, 0, 0, []), (26, .getfield 37, 3, 11, 5, 2, 0, []), (29, .iload_n 1, 1, 1, 0, 0, 0, []), (30, .aload_n 0, 1, 0, 0, 0, 0, []), (31, .getfield 23, 3, 11, 3, 2, 0, [])],
  [(34, .getfield 108, 3, 10, 1, 2, 0, []), (37, .invokevirtual 206, 3, 28, 3, 0, 3, []), (40, .aload_n 0, 1, 0, 0, 0, 0, []), (41, .getfield 37, 3, 11, 5, 2, 0, []), (44, .getfield 203, 3, 3, 1, 0, 0, []), (47, .ireturn, 1, 0, 0, 0, 0, [])]]
set_option maxRecDepth 20000 in
theorem t11_undo_d : ∀ row ∈ t11_undo, ∀ en ∈ row, decode cX11_undo en.1 = .ok (en.2.1, en.2.2.1) := by decide +kernel
set_option maxRecDepth 20000 in
theorem t11_undo_b : ∀ row ∈ t11_undo, ∀ en ∈ row, okB 11 "undo" (some .int) 1 en = true := by decide +kernel
def t11_judge : List (List mE) := [[(0, .iload_n 1, 1, 1, 0, 0, 0, []), (1, .invokestatic 210, 3, 178, 1, 1, (-1), []), (4, .ifCond .eq 12, 3, 16, 0, 0, 0, []), (7, .iload_n 2, 1, 2, 0, 0, 0, []), (8, .ifCond .lt 8, 3, 16, 0, 0, 0, []), (11, .iload_n 2, 1, 2, 0, 0, 0, []), (12, .iconst 3, 1, 0, 0, 0, 3, []), (13, .if_icmp .le 6, 3, 19, 0, 0, 0, [])],
  [(16, .bipush (-2), 2, 0, 0, 0, (-2), []), (18, .ireturn, 1, 0, 0, 0, 0, []), (19, .aload_n 0, 1, 0, 0, 0, 0, []), (20, .getfield 43, 3, 11, 6, 2, 0, []), (23, .iload_n 1, 1, 1, 0, 0, 0, []), (24, .aaload, 1, 8, 0, 0, 0, []), (25, .astore_n 3, 1, 3, 0, 0, 0, []), (26, .aload_n 3, 1, 3, 0, 0, 0, []), (27, .invokevirtual 213, 3, 73, 1, 1, 8, []), (30, .ifCond .eq 6, 3, 36, 0, 0, 0, [])],
  [(33, .bipush (-6), 2, 0, 0, 0, (-6), []), (35, .ireturn, 1, 0, 0, 0, 0, []), (36, .aload_n 0, 1, 0, 0, 0, 0, []), (37, .getfield 30, 3, 11, 4, 2, 0, []), (40, .aload_n 0, 1, 0, 0, 0, 0, []), (41, .getfield 23, 3, 11, 3, 2, 0, []), (44, .getfield 108, 3, 10, 1, 2, 0, []), (47, .invokevirtual 217, 3, 71, 2, 0, 7, [])],
  [(50, .aload_n 0, 1, 0, 0, 0, 0, []), (51, .aload_n 3, 1, 3, 0, 0, 0, []), (52, .iload_n 2, 1, 2, 0, 0, 0, []), (53, .aload_n 0, 1, 0, 0, 0, 0, []), (54, .getfield 23, 3, 11, 3, 2, 0, []), (57, .aload_n 3, 1, 3, 0, 0, 0, []), (58, .invokevirtual 219, 3, 111, 2, 1, 10, []), (61, .invokevirtual 223, 3, 134, 4, 1, 11, [])],
  [(64, .istore 4, 2, 4, 0, 0, 0, []), (66, .aload_n 0, 1, 0, 0, 0, 0, []), (67, .getfield 23, 3, 11, 3, 2, 0, []), (70, .getfield 108, 3, 10, 1, 2, 0, []), (73, .aload_n 0, 1, 0, 0, 0, 0, []), (74, .getfield 30, 3, 11, 4, 2, 0, []), (77, .invokevirtual 217, 3, 71, 2, 0, 7, [])],
  [(80, .iload 4, 2, 4, 0, 0, 0, []), (82, .ireturn, 1, 0, 0, 0, 0, [])]]
set_option maxRecDepth 20000 in
theorem t11_judge_d : ∀ row ∈ t11_judge, ∀ en ∈ row, decode cX11_judge en.1 = .ok (en.2.1, en.2.2.1) := by decide +kernel
set_option maxRecDepth 20000 in
theorem t11_judge_b : ∀ row ∈ t11_judge, ∀ en ∈ row, okB 11 "judge" (some .int) 1 en = true := by decide +kernel
def t11_verdict : List (List mE) := [[(0, .iload_n 3, 1, 3, 0, 0, 0, []), (1, .aload_n 1, 1, 1, 0, 0, 0, []), (2, .getfield 227, 3, 8, 2, 0, 0, []), (5, .if_icmp .lt 7, 3, 12, 0, 0, 0, []), (8, .iconst 1, 1, 0, 0, 0, 1, []), (9, .goto 4, 3, 13, 0, 0, 0, []), (12, .iconst 0, 1, 0, 0, 0, 0, []), (13, .istore 4, 2, 4, 0, 0, 0, []), (15, .iload_n 2, 1, 2, 0, 0, 0, [])],
  [(16, .tableswitch 69 0 2 #[28, 39, 61], 28, 85, 0, 0, 0, [(0, 44), (1, 55), (2, 77)])],
  [(44, .iload 4, 2, 4, 0, 0, 0, []), (46, .ifCond .eq 7, 3, 53, 0, 0, 0, [])],
  [(49, .iconst (-1), 1, 0, 0, 0, (-1), []), (50, .goto 4, 3, 54, 0, 0, 0, []), (53, .iload_n 3, 1, 3, 0, 0, 0, []), (54, .ireturn, 1, 0, 0, 0, 0, []), (55, .iload 4, 2, 4, 0, 0, 0, []), (57, .ifCond .eq 7, 3, 64, 0, 0, 0, []), (60, .iconst 0, 1, 0, 0, 0, 0, []), (61, .goto 15, 3, 76, 0, 0, 0, [])],
  [(64, .aload_n 0, 1, 0, 0, 0, 0, []), (65, .getfield 23, 3, 11, 3, 2, 0, []), (68, .aload_n 1, 1, 1, 0, 0, 0, []), (69, .iload_n 3, 1, 3, 0, 0, 0, []), (70, .invokevirtual 230, 3, 75, 2, 2, 8, []), (73, .invokevirtual 234, 3, 106, 2, 1, 10, []), (76, .ireturn, 1, 0, 0, 0, 0, []), (77, .aload_n 0, 1, 0, 0, 0, 0, []), (78, .getfield 23, 3, 11, 3, 2, 0, [])],
  [(81, .invokevirtual 237, 3, 115, 1, 1, 10, []), (84, .ireturn, 1, 0, 0, 0, 0, []), (85, .aload_n 0, 1, 0, 0, 0, 0, []), (86, .getfield 23, 3, 11, 3, 2, 0, []), (89, .invokevirtual 241, 3, 116, 1, 1, 10, []), (92, .ireturn, 1, 0, 0, 0, 0, [])]]
set_option maxRecDepth 20000 in
theorem t11_verdict_d : ∀ row ∈ t11_verdict, ∀ en ∈ row, decode cX11_verdict en.1 = .ok (en.2.1, en.2.2.1) := by decide +kernel
set_option maxRecDepth 20000 in
theorem t11_verdict_b : ∀ row ∈ t11_verdict, ∀ en ∈ row, okB 11 "verdict" (some .int) 1 en = true := by decide +kernel
def t11_perform : List (List mE) := [[(0, .iload_n 1, 1, 1, 0, 0, 0, []), (1, .invokestatic 210, 3, 178, 1, 1, (-1), []), (4, .ifCond .ne 6, 3, 10, 0, 0, 0, []), (7, .bipush (-2), 2, 0, 0, 0, (-2), []), (9, .ireturn, 1, 0, 0, 0, 0, []), (10, .aload_n 0, 1, 0, 0, 0, 0, []), (11, .getfield 43, 3, 11, 6, 2, 0, []), (14, .iload_n 1, 1, 1, 0, 0, 0, []), (15, .aaload, 1, 8, 0, 0, 0, [])],
  [(16, .invokevirtual 213, 3, 73, 1, 1, 8, []), (19, .ifCond .eq 6, 3, 25, 0, 0, 0, []), (22, .bipush (-6), 2, 0, 0, 0, (-6), []), (24, .ireturn, 1, 0, 0, 0, 0, []), (25, .aload_n 0, 1, 0, 0, 0, 0, []), (26, .getfield 30, 3, 11, 4, 2, 0, []), (29, .aload_n 0, 1, 0, 0, 0, 0, []), (30, .getfield 23, 3, 11, 3, 2, 0, [])],
  [(33, .getfield 108, 3, 10, 1, 2, 0, []), (36, .invokevirtual 217, 3, 71, 2, 0, 7, []), (39, .aload_n 0, 1, 0, 0, 0, 0, []), (40, .aload_n 0, 1, 0, 0, 0, 0, []), (41, .getfield 23, 3, 11, 3, 2, 0, []), (44, .aload_n 0, 1, 0, 0, 0, 0, []), (45, .getfield 43, 3, 11, 6, 2, 0, [])],
  [(48, .iload_n 1, 1, 1, 0, 0, 0, []), (49, .aaload, 1, 8, 0, 0, 0, []), (50, .invokevirtual 219, 3, 111, 2, 1, 10, []), (53, .invokevirtual 244, 3, 137, 2, 1, 11, []), (56, .ireturn, 1, 0, 0, 0, 0, [])]]
set_option maxRecDepth 20000 in
theorem t11_perform_d : ∀ row ∈ t11_perform, ∀ en ∈ row, decode cX11_perform en.1 = .ok (en.2.1, en.2.2.1) := by decide +kernel
set_option maxRecDepth 20000 in
theorem t11_perform_b : ∀ row ∈ t11_perform, ∀ en ∈ row, okB 11 "perform" (some .int) 1 en = true := by decide +kernel
def t11_winter : List (List mE) := [[(0, .iload_n 2, 1, 2, 0, 0, 0, []), (1, .iconst 1, 1, 0, 0, 0, 1, []), (2, .if_icmp .lt 9, 3, 11, 0, 0, 0, []), (5, .iload_n 2, 1, 2, 0, 0, 0, []), (6, .bipush 40, 2, 0, 0, 0, 40, []), (8, .if_icmp .le 6, 3, 14, 0, 0, 0, []), (11, .bipush (-3), 2, 0, 0, 0, (-3), []), (13, .ireturn, 1, 0, 0, 0, 0, []), (14, .aload_n 0, 1, 0, 0, 0, 0, []), (15, .getfield 30, 3, 11, 4, 2, 0, [])],
  [(18, .aload_n 0, 1, 0, 0, 0, 0, []), (19, .getfield 23, 3, 11, 3, 2, 0, []), (22, .getfield 108, 3, 10, 1, 2, 0, []), (25, .invokevirtual 217, 3, 71, 2, 0, 7, []), (28, .aload_n 0, 1, 0, 0, 0, 0, []), (29, .aload_n 0, 1, 0, 0, 0, 0, []), (30, .getfield 23, 3, 11, 3, 2, 0, [])],
  [(33, .iload_n 1, 1, 1, 0, 0, 0, []), (34, .iload_n 2, 1, 2, 0, 0, 0, []), (35, .invokevirtual 247, 3, 112, 3, 1, 10, []), (38, .invokevirtual 244, 3, 137, 2, 1, 11, []), (41, .ireturn, 1, 0, 0, 0, 0, [])]]
set_option maxRecDepth 20000 in
theorem t11_winter_d : ∀ row ∈ t11_winter, ∀ en ∈ row, decode cX11_winter en.1 = .ok (en.2.1, en.2.2.1) := by decide +kernel
set_option maxRecDepth 20000 in
theorem t11_winter_b : ∀ row ∈ t11_winter, ∀ en ∈ row, okB 11 "winter" (some .int) 1 en = true := by decide +kernel
def t11_keptIfAny : List (List mE) := [[(0, .iload_n 1, 1, 1, 0, 0, 0, []), (1, .ifCond .le 14, 3, 15, 0, 0, 0, []), (4, .aload_n 0, 1, 0, 0, 0, 0, []), (5, .getfield 37, 3, 11, 5, 2, 0, []), (8, .aload_n 0, 1, 0, 0, 0, 0, []), (9, .getfield 30, 3, 11, 4, 2, 0, []), (12, .invokevirtual 187, 3, 26, 2, 0, 3, []), (15, .iload_n 1, 1, 1, 0, 0, 0, [])],
  [(16, .ireturn, 1, 0, 0, 0, 0, [])]]
set_option maxRecDepth 20000 in
theorem t11_keptIfAny_d : ∀ row ∈ t11_keptIfAny, ∀ en ∈ row, decode cX11_keptIfAny en.1 = .ok (en.2.1, en.2.2.1) := by decide +kernel
set_option maxRecDepth 20000 in
theorem t11_keptIfAny_b : ∀ row ∈ t11_keptIfAny, ∀ en ∈ row, okB 11 "keptIfAny" (some .int) 1 en = true := by decide +kernel
def t11_heardBy : List (List mE) := [[(0, .aload_n 0, 1, 0, 0, 0, 0, []), (1, .getfield 23, 3, 11, 3, 2, 0, []), (4, .iload_n 1, 1, 1, 0, 0, 0, []), (5, .invokevirtual 126, 3, 91, 2, 1, 10, []), (8, .ifCond .eq 14, 3, 22, 0, 0, 0, []), (11, .aload_n 0, 1, 0, 0, 0, 0, []), (12, .getfield 23, 3, 11, 3, 2, 0, []), (15, .iload_n 1, 1, 1, 0, 0, 0, [])],
  [(16, .invokevirtual 250, 3, 101, 2, 1, 10, []), (19, .goto 5, 3, 24, 0, 0, 0, []), (22, .bipush (-2), 2, 0, 0, 0, (-2), []), (24, .ireturn, 1, 0, 0, 0, 0, [])]]
set_option maxRecDepth 20000 in
theorem t11_heardBy_d : ∀ row ∈ t11_heardBy, ∀ en ∈ row, decode cX11_heardBy en.1 = .ok (en.2.1, en.2.2.1) := by decide +kernel
set_option maxRecDepth 20000 in
theorem t11_heardBy_b : ∀ row ∈ t11_heardBy, ∀ en ∈ row, okB 11 "heardBy" (some .int) 1 en = true := by decide +kernel
def t11_ear : List (List mE) := [[(0, .iconst 0, 1, 0, 0, 0, 0, []), (1, .istore_n 1, 1, 1, 0, 0, 0, []), (2, .iconst (-1), 1, 0, 0, 0, (-1), []), (3, .istore_n 2, 1, 2, 0, 0, 0, []), (4, .iconst 0, 1, 0, 0, 0, 0, []), (5, .istore_n 3, 1, 3, 0, 0, 0, []), (6, .iload_n 3, 1, 3, 0, 0, 0, []), (7, .aload_n 0, 1, 0, 0, 0, 0, []), (8, .getfield 23, 3, 11, 3, 2, 0, []), (11, .getfield 97, 3, 10, 0, 2, 0, []), (14, .getfield 253, 3, 2, 0, 0, 0, [])],
  [(17, .if_icmp .ge 33, 3, 50, 0, 0, 0, []), (20, .aload_n 0, 1, 0, 0, 0, 0, []), (21, .getfield 23, 3, 11, 3, 2, 0, []), (24, .iload_n 3, 1, 3, 0, 0, 0, []), (25, .invokevirtual 142, 3, 100, 2, 1, 10, []), (28, .invokestatic 256, 3, 318, 1, 1, (-1), []), (31, .istore 4, 2, 4, 0, 0, 0, [])],
  [(33, .iload 4, 2, 4, 0, 0, 0, []), (35, .iload_n 2, 1, 2, 0, 0, 0, []), (36, .if_icmp .le 8, 3, 44, 0, 0, 0, []), (39, .iload 4, 2, 4, 0, 0, 0, []), (41, .istore_n 2, 1, 2, 0, 0, 0, []), (42, .iload_n 3, 1, 3, 0, 0, 0, []), (43, .istore_n 1, 1, 1, 0, 0, 0, []), (44, .iinc 3 1, 3, 3, 0, 0, 1, []), (47, .goto (-41), 3, 6, 0, 0, 0, [])],
  [(50, .iload_n 1, 1, 1, 0, 0, 0, []), (51, .ireturn, 1, 0, 0, 0, 0, [])]]
set_option maxRecDepth 20000 in
theorem t11_ear_d : ∀ row ∈ t11_ear, ∀ en ∈ row, decode cX11_ear en.1 = .ok (en.2.1, en.2.2.1) := by decide +kernel
set_option maxRecDepth 20000 in
theorem t11_ear_b : ∀ row ∈ t11_ear, ∀ en ∈ row, okB 11 "ear" (some .int) 1 en = true := by decide +kernel
def t11_needs : List (List mE) := [[(0, .aload_n 0, 1, 0, 0, 0, 0, []), (1, .iload_n 1, 1, 1, 0, 0, 0, []), (2, .iload_n 2, 1, 2, 0, 0, 0, []), (3, .invokevirtual 261, 3, 179, 3, 1, 11, []), (6, .ifCond .ne 6, 3, 12, 0, 0, 0, []), (9, .bipush (-2), 2, 0, 0, 0, (-2), []), (11, .ireturn, 1, 0, 0, 0, 0, []), (12, .aload_n 0, 1, 0, 0, 0, 0, []), (13, .getfield 23, 3, 11, 3, 2, 0, [])],
  [(16, .iload_n 1, 1, 1, 0, 0, 0, []), (17, .iload_n 2, 1, 2, 0, 0, 0, []), (18, .invokevirtual 265, 3, 99, 3, 1, 10, []), (21, .ifCond .eq 11, 3, 32, 0, 0, 0, []), (24, .iload_n 1, 1, 1, 0, 0, 0, []), (25, .iload_n 2, 1, 2, 0, 0, 0, []), (26, .invokestatic 268, 3, 181, 2, 1, (-1), []), (29, .goto 4, 3, 33, 0, 0, 0, [])],
  [(32, .iconst 0, 1, 0, 0, 0, 0, []), (33, .ireturn, 1, 0, 0, 0, 0, [])]]
set_option maxRecDepth 20000 in
theorem t11_needs_d : ∀ row ∈ t11_needs, ∀ en ∈ row, decode cX11_needs en.1 = .ok (en.2.1, en.2.2.1) := by decide +kernel
set_option maxRecDepth 20000 in
theorem t11_needs_b : ∀ row ∈ t11_needs, ∀ en ∈ row, okB 11 "needs" (some .int) 1 en = true := by decide +kernel
def t11_pieces : List (List mE) := [[(0, .aload_n 0, 1, 0, 0, 0, 0, []), (1, .getfield 23, 3, 11, 3, 2, 0, []), (4, .getfield 108, 3, 10, 1, 2, 0, []), (7, .getfield 170, 3, 7, 3, 0, 0, []), (10, .invokestatic 256, 3, 318, 1, 1, (-1), []), (13, .iconst 1, 1, 0, 0, 0, 1, []), (14, .iadd, 1, 0, 0, 0, 0, []), (15, .ireturn, 1, 0, 0, 0, 0, [])]]
set_option maxRecDepth 20000 in
theorem t11_pieces_d : ∀ row ∈ t11_pieces, ∀ en ∈ row, decode cX11_pieces en.1 = .ok (en.2.1, en.2.2.1) := by decide +kernel
set_option maxRecDepth 20000 in
theorem t11_pieces_b : ∀ row ∈ t11_pieces, ∀ en ∈ row, okB 11 "pieces" (some .int) 1 en = true := by decide +kernel
def t11_listeners : List (List mE) := [[(0, .aload_n 0, 1, 0, 0, 0, 0, []), (1, .getfield 23, 3, 11, 3, 2, 0, []), (4, .getfield 97, 3, 10, 0, 2, 0, []), (7, .getfield 253, 3, 2, 0, 0, 0, []), (10, .istore_n 1, 1, 1, 0, 0, 0, []), (11, .iconst 0, 1, 0, 0, 0, 0, []), (12, .istore_n 2, 1, 2, 0, 0, 0, []), (13, .iload_n 2, 1, 2, 0, 0, 0, []), (14, .iload_n 1, 1, 1, 0, 0, 0, []), (15, .if_icmp .ge 27, 3, 42, 0, 0, 0, [])],
  [(18, .aload_n 0, 1, 0, 0, 0, 0, []), (19, .getfield 80, 3, 11, 12, 2, 0, []), (22, .iload_n 2, 1, 2, 0, 0, 0, []), (23, .aload_n 0, 1, 0, 0, 0, 0, []), (24, .getfield 23, 3, 11, 3, 2, 0, []), (27, .iload_n 2, 1, 2, 0, 0, 0, []), (28, .invokevirtual 142, 3, 100, 2, 1, 10, []), (31, .iconst 1, 1, 0, 0, 0, 1, [])],
  [(32, .iload_n 2, 1, 2, 0, 0, 0, []), (33, .ishl, 1, 0, 0, 0, 0, []), (34, .ior, 1, 0, 0, 0, 0, []), (35, .iastore, 1, 0, 0, 0, 0, []), (36, .iinc 2 1, 3, 2, 0, 0, 1, []), (39, .goto (-26), 3, 13, 0, 0, 0, []), (42, .iconst 1, 1, 0, 0, 0, 1, []), (43, .iload_n 1, 1, 1, 0, 0, 0, []), (44, .ishl, 1, 0, 0, 0, 0, []), (45, .iconst 1, 1, 0, 0, 0, 1, []), (46, .isub, 1, 0, 0, 0, 0, []), (47, .istore_n 2, 1, 2, 0, 0, 0, [])],
  [(48, .iload_n 2, 1, 2, 0, 0, 0, []), (49, .istore_n 3, 1, 3, 0, 0, 0, []), (50, .iconst 1, 1, 0, 0, 0, 1, []), (51, .istore 4, 2, 4, 0, 0, 0, []), (53, .iload 4, 2, 4, 0, 0, 0, []), (55, .iload_n 2, 1, 2, 0, 0, 0, []), (56, .if_icmp .ge 34, 3, 90, 0, 0, 0, []), (59, .iload 4, 2, 4, 0, 0, 0, []), (61, .invokestatic 256, 3, 318, 1, 1, (-1), [])],
  [(64, .iload_n 3, 1, 3, 0, 0, 0, []), (65, .invokestatic 256, 3, 318, 1, 1, (-1), []), (68, .if_icmp .ge 16, 3, 84, 0, 0, 0, []), (71, .aload_n 0, 1, 0, 0, 0, 0, []), (72, .iload 4, 2, 4, 0, 0, 0, []), (74, .invokevirtual 271, 3, 143, 2, 1, 11, []), (77, .iload_n 2, 1, 2, 0, 0, 0, []), (78, .if_icmp .ne 6, 3, 84, 0, 0, 0, [])],
  [(81, .iload 4, 2, 4, 0, 0, 0, []), (83, .istore_n 3, 1, 3, 0, 0, 0, []), (84, .iinc 4 1, 3, 4, 0, 0, 1, []), (87, .goto (-34), 3, 53, 0, 0, 0, []), (90, .iload_n 3, 1, 3, 0, 0, 0, []), (91, .ireturn, 1, 0, 0, 0, 0, [])]]
set_option maxRecDepth 20000 in
theorem t11_listeners_d : ∀ row ∈ t11_listeners, ∀ en ∈ row, decode cX11_listeners en.1 = .ok (en.2.1, en.2.2.1) := by decide +kernel
set_option maxRecDepth 20000 in
theorem t11_listeners_b : ∀ row ∈ t11_listeners, ∀ en ∈ row, okB 11 "listeners" (some .int) 1 en = true := by decide +kernel
def t11_covered : List (List mE) := [[(0, .iconst 0, 1, 0, 0, 0, 0, []), (1, .istore_n 2, 1, 2, 0, 0, 0, []), (2, .iconst 0, 1, 0, 0, 0, 0, []), (3, .istore_n 3, 1, 3, 0, 0, 0, []), (4, .iload_n 3, 1, 3, 0, 0, 0, []), (5, .bipush 8, 2, 0, 0, 0, 8, []), (7, .if_icmp .ge 26, 3, 33, 0, 0, 0, []), (10, .iload_n 1, 1, 1, 0, 0, 0, []), (11, .iload_n 3, 1, 3, 0, 0, 0, []), (12, .ishr, 1, 0, 0, 0, 0, []), (13, .iconst 1, 1, 0, 0, 0, 1, []), (14, .iand, 1, 0, 0, 0, 0, []), (15, .ifCond .eq 12, 3, 27, 0, 0, 0, [])],
  [(18, .iload_n 2, 1, 2, 0, 0, 0, []), (19, .aload_n 0, 1, 0, 0, 0, 0, []), (20, .getfield 80, 3, 11, 12, 2, 0, []), (23, .iload_n 3, 1, 3, 0, 0, 0, []), (24, .iaload, 1, 0, 0, 0, 0, []), (25, .ior, 1, 0, 0, 0, 0, []), (26, .istore_n 2, 1, 2, 0, 0, 0, []), (27, .iinc 3 1, 3, 3, 0, 0, 1, []), (30, .goto (-26), 3, 4, 0, 0, 0, [])],
  [(33, .iload_n 2, 1, 2, 0, 0, 0, []), (34, .ireturn, 1, 0, 0, 0, 0, [])]]
set_option maxRecDepth 20000 in
theorem t11_covered_d : ∀ row ∈ t11_covered, ∀ en ∈ row, decode cX11_covered en.1 = .ok (en.2.1, en.2.2.1) := by decide +kernel
set_option maxRecDepth 20000 in
theorem t11_covered_b : ∀ row ∈ t11_covered, ∀ en ∈ row, okB 11 "covered" (some .int) 1 en = true := by decide +kernel
def t11_reach : List (List mE) := [[(0, .aload_n 0, 1, 0, 0, 0, 0, []), (1, .getfield 23, 3, 11, 3, 2, 0, []), (4, .iload_n 1, 1, 1, 0, 0, 0, []), (5, .invokevirtual 176, 3, 92, 2, 1, 10, []), (8, .ifCond .eq 14, 3, 22, 0, 0, 0, []), (11, .aload_n 0, 1, 0, 0, 0, 0, []), (12, .getfield 62, 3, 11, 9, 2, 0, []), (15, .iload_n 1, 1, 1, 0, 0, 0, [])],
  [(16, .invokevirtual 274, 3, 79, 2, 1, 9, []), (19, .goto 5, 3, 24, 0, 0, 0, []), (22, .bipush (-2), 2, 0, 0, 0, (-2), []), (24, .ireturn, 1, 0, 0, 0, 0, [])]]
set_option maxRecDepth 20000 in
theorem t11_reach_d : ∀ row ∈ t11_reach, ∀ en ∈ row, decode cX11_reach en.1 = .ok (en.2.1, en.2.2.1) := by decide +kernel
set_option maxRecDepth 20000 in
theorem t11_reach_b : ∀ row ∈ t11_reach, ∀ en ∈ row, okB 11 "reach" (some .int) 1 en = true := by decide +kernel
def t11_fewest : List (List mE) := [[(0, .aload_n 0, 1, 0, 0, 0, 0, []), (1, .iload_n 1, 1, 1, 0, 0, 0, []), (2, .iload_n 2, 1, 2, 0, 0, 0, []), (3, .invokevirtual 277, 3, 180, 3, 1, 11, []), (6, .ifCond .eq 16, 3, 22, 0, 0, 0, []), (9, .aload_n 0, 1, 0, 0, 0, 0, []), (10, .getfield 62, 3, 11, 9, 2, 0, []), (13, .iload_n 1, 1, 1, 0, 0, 0, []), (14, .iload_n 2, 1, 2, 0, 0, 0, []), (15, .iconst 0, 1, 0, 0, 0, 0, [])],
  [(16, .invokevirtual 280, 3, 81, 4, 1, 9, []), (19, .goto 5, 3, 24, 0, 0, 0, []), (22, .bipush (-2), 2, 0, 0, 0, (-2), []), (24, .ireturn, 1, 0, 0, 0, 0, [])]]
set_option maxRecDepth 20000 in
theorem t11_fewest_d : ∀ row ∈ t11_fewest, ∀ en ∈ row, decode cX11_fewest en.1 = .ok (en.2.1, en.2.2.1) := by decide +kernel
set_option maxRecDepth 20000 in
theorem t11_fewest_b : ∀ row ∈ t11_fewest, ∀ en ∈ row, okB 11 "fewest" (some .int) 1 en = true := by decide +kernel
def t11_way : List (List mE) := [[(0, .aload_n 0, 1, 0, 0, 0, 0, []), (1, .iload_n 1, 1, 1, 0, 0, 0, []), (2, .iload_n 2, 1, 2, 0, 0, 0, []), (3, .iload_n 3, 1, 3, 0, 0, 0, []), (4, .iconst 0, 1, 0, 0, 0, 0, []), (5, .invokevirtual 284, 3, 150, 5, 1, 11, []), (8, .ireturn, 1, 0, 0, 0, 0, [])]]
set_option maxRecDepth 20000 in
theorem t11_way_d : ∀ row ∈ t11_way, ∀ en ∈ row, decode cX11_way en.1 = .ok (en.2.1, en.2.2.1) := by decide +kernel
set_option maxRecDepth 20000 in
theorem t11_way_b : ∀ row ∈ t11_way, ∀ en ∈ row, okB 11 "way" (some .int) 1 en = true := by decide +kernel
def t11_ways : List (List mE) := [[(0, .aload_n 0, 1, 0, 0, 0, 0, []), (1, .iload_n 1, 1, 1, 0, 0, 0, []), (2, .iload_n 2, 1, 2, 0, 0, 0, []), (3, .invokevirtual 277, 3, 180, 3, 1, 11, []), (6, .ifCond .ne 7, 3, 13, 0, 0, 0, []), (9, .ldc2_w 288, 3, 0, 0, 0, (-2), []), (12, .lreturn, 1, 0, 0, 0, 0, []), (13, .iload_n 3, 1, 3, 0, 0, 0, []), (14, .ifCond .lt 9, 3, 23, 0, 0, 0, [])],
  [(17, .iload_n 3, 1, 3, 0, 0, 0, []), (18, .bipush 15, 2, 0, 0, 0, 15, []), (20, .if_icmp .le 9, 3, 29, 0, 0, 0, []), (23, .ldc2_w 290, 3, 0, 0, 0, (-3), []), (26, .goto 13, 3, 39, 0, 0, 0, []), (29, .aload_n 0, 1, 0, 0, 0, 0, []), (30, .getfield 62, 3, 11, 9, 2, 0, [])],
  [(33, .iload_n 1, 1, 1, 0, 0, 0, []), (34, .iload_n 2, 1, 2, 0, 0, 0, []), (35, .iload_n 3, 1, 3, 0, 0, 0, []), (36, .invokevirtual 292, 3, 80, 4, 2, 9, []), (39, .lreturn, 1, 0, 0, 0, 0, [])]]
set_option maxRecDepth 20000 in
theorem t11_ways_d : ∀ row ∈ t11_ways, ∀ en ∈ row, decode cX11_ways en.1 = .ok (en.2.1, en.2.2.1) := by decide +kernel
set_option maxRecDepth 20000 in
theorem t11_ways_b : ∀ row ∈ t11_ways, ∀ en ∈ row, okB 11 "ways" (some .long) 2 en = true := by decide +kernel
def t11_full : List (List mE) := [[(0, .aload_n 0, 1, 0, 0, 0, 0, []), (1, .iload_n 1, 1, 1, 0, 0, 0, []), (2, .iload_n 2, 1, 2, 0, 0, 0, []), (3, .invokevirtual 277, 3, 180, 3, 1, 11, []), (6, .ifCond .eq 25, 3, 31, 0, 0, 0, []), (9, .aload_n 0, 1, 0, 0, 0, 0, []), (10, .getfield 62, 3, 11, 9, 2, 0, []), (13, .iload_n 1, 1, 1, 0, 0, 0, []), (14, .iload_n 2, 1, 2, 0, 0, 0, []), (15, .aload_n 0, 1, 0, 0, 0, 0, [])],
  [(16, .getfield 23, 3, 11, 3, 2, 0, []), (19, .getfield 97, 3, 10, 0, 2, 0, []), (22, .getfield 161, 3, 2, 3, 0, 0, []), (25, .invokevirtual 280, 3, 81, 4, 1, 9, []), (28, .goto 5, 3, 33, 0, 0, 0, []), (31, .bipush (-2), 2, 0, 0, 0, (-2), [])],
  [(33, .ireturn, 1, 0, 0, 0, 0, [])]]
set_option maxRecDepth 20000 in
theorem t11_full_d : ∀ row ∈ t11_full, ∀ en ∈ row, decode cX11_full en.1 = .ok (en.2.1, en.2.2.1) := by decide +kernel
set_option maxRecDepth 20000 in
theorem t11_full_b : ∀ row ∈ t11_full, ∀ en ∈ row, okB 11 "full" (some .int) 1 en = true := by decide +kernel
def t11_fullWay : List (List mE) := [[(0, .aload_n 0, 1, 0, 0, 0, 0, []), (1, .iload_n 1, 1, 1, 0, 0, 0, []), (2, .iload_n 2, 1, 2, 0, 0, 0, []), (3, .iload_n 3, 1, 3, 0, 0, 0, []), (4, .aload_n 0, 1, 0, 0, 0, 0, []), (5, .getfield 23, 3, 11, 3, 2, 0, []), (8, .getfield 97, 3, 10, 0, 2, 0, []), (11, .getfield 161, 3, 2, 3, 0, 0, []), (14, .invokevirtual 284, 3, 150, 5, 1, 11, [])],
  [(17, .ireturn, 1, 0, 0, 0, 0, [])]]
set_option maxRecDepth 20000 in
theorem t11_fullWay_d : ∀ row ∈ t11_fullWay, ∀ en ∈ row, decode cX11_fullWay en.1 = .ok (en.2.1, en.2.2.1) := by decide +kernel
set_option maxRecDepth 20000 in
theorem t11_fullWay_b : ∀ row ∈ t11_fullWay, ∀ en ∈ row, okB 11 "fullWay" (some .int) 1 en = true := by decide +kernel
def t11_placeOfWay : List (List mE) := [[(0, .aload_n 0, 1, 0, 0, 0, 0, []), (1, .iload_n 1, 1, 1, 0, 0, 0, []), (2, .iload_n 2, 1, 2, 0, 0, 0, []), (3, .invokevirtual 277, 3, 180, 3, 1, 11, []), (6, .ifCond .ne 6, 3, 12, 0, 0, 0, []), (9, .bipush (-2), 2, 0, 0, 0, (-2), []), (11, .ireturn, 1, 0, 0, 0, 0, []), (12, .iload_n 3, 1, 3, 0, 0, 0, []), (13, .ifCond .ge 6, 3, 19, 0, 0, 0, [])],
  [(16, .bipush (-3), 2, 0, 0, 0, (-3), []), (18, .ireturn, 1, 0, 0, 0, 0, []), (19, .iload_n 3, 1, 3, 0, 0, 0, []), (20, .aload_n 0, 1, 0, 0, 0, 0, []), (21, .getfield 62, 3, 11, 9, 2, 0, []), (24, .iload_n 1, 1, 1, 0, 0, 0, []), (25, .iload_n 2, 1, 2, 0, 0, 0, []), (26, .iload 4, 2, 4, 0, 0, 0, []), (28, .invokevirtual 280, 3, 81, 4, 1, 9, []), (31, .if_icmp .ge 17, 3, 48, 0, 0, 0, [])],
  [(34, .aload_n 0, 1, 0, 0, 0, 0, []), (35, .getfield 62, 3, 11, 9, 2, 0, []), (38, .getfield 296, 3, 9, 0, 2, 0, []), (41, .iload_n 3, 1, 3, 0, 0, 0, []), (42, .invokevirtual 300, 3, 68, 2, 1, 6, []), (45, .goto 4, 3, 49, 0, 0, 0, [])],
  [(48, .iconst (-1), 1, 0, 0, 0, (-1), []), (49, .ireturn, 1, 0, 0, 0, 0, [])]]
set_option maxRecDepth 20000 in
theorem t11_placeOfWay_d : ∀ row ∈ t11_placeOfWay, ∀ en ∈ row, decode cX11_placeOfWay en.1 = .ok (en.2.1, en.2.2.1) := by decide +kernel
set_option maxRecDepth 20000 in
theorem t11_placeOfWay_b : ∀ row ∈ t11_placeOfWay, ∀ en ∈ row, okB 11 "placeOfWay" (some .int) 1 en = true := by decide +kernel
def t11_ends : List (List mE) := [[(0, .iconst 0, 1, 0, 0, 0, 0, []), (1, .istore_n 1, 1, 1, 0, 0, 0, []), (2, .aload_n 0, 1, 0, 0, 0, 0, []), (3, .getfield 23, 3, 11, 3, 2, 0, []), (6, .invokevirtual 305, 3, 98, 1, 1, 10, []), (9, .istore_n 2, 1, 2, 0, 0, 0, []), (10, .iconst 0, 1, 0, 0, 0, 0, []), (11, .istore_n 3, 1, 3, 0, 0, 0, []), (12, .iload_n 3, 1, 3, 0, 0, 0, []), (13, .aload_n 0, 1, 0, 0, 0, 0, []), (14, .getfield 23, 3, 11, 3, 2, 0, [])],
  [(17, .getfield 97, 3, 10, 0, 2, 0, []), (20, .getfield 308, 3, 2, 2, 0, 0, []), (23, .if_icmp .ge 34, 3, 57, 0, 0, 0, []), (26, .iload_n 2, 1, 2, 0, 0, 0, []), (27, .iload_n 3, 1, 3, 0, 0, 0, []), (28, .ishr, 1, 0, 0, 0, 0, []), (29, .iconst 1, 1, 0, 0, 0, 1, []), (30, .iand, 1, 0, 0, 0, 0, []), (31, .ifCond .eq 20, 3, 51, 0, 0, 0, [])],
  [(34, .iload_n 1, 1, 1, 0, 0, 0, []), (35, .iconst 1, 1, 0, 0, 0, 1, []), (36, .aload_n 0, 1, 0, 0, 0, 0, []), (37, .getfield 23, 3, 11, 3, 2, 0, []), (40, .getfield 97, 3, 10, 0, 2, 0, []), (43, .getfield 155, 3, 2, 7, 2, 0, []), (46, .iload_n 3, 1, 3, 0, 0, 0, []), (47, .iaload, 1, 0, 0, 0, 0, [])],
  [(48, .ishl, 1, 0, 0, 0, 0, []), (49, .ior, 1, 0, 0, 0, 0, []), (50, .istore_n 1, 1, 1, 0, 0, 0, []), (51, .iinc 3 1, 3, 3, 0, 0, 1, []), (54, .goto (-42), 3, 12, 0, 0, 0, []), (57, .iconst 1, 1, 0, 0, 0, 1, []), (58, .aload_n 0, 1, 0, 0, 0, 0, []), (59, .getfield 23, 3, 11, 3, 2, 0, []), (62, .getfield 97, 3, 10, 0, 2, 0, [])],
  [(65, .getfield 311, 3, 2, 1, 0, 0, []), (68, .ishl, 1, 0, 0, 0, 0, []), (69, .iconst 1, 1, 0, 0, 0, 1, []), (70, .isub, 1, 0, 0, 0, 0, []), (71, .iload_n 1, 1, 1, 0, 0, 0, []), (72, .iconst (-1), 1, 0, 0, 0, (-1), []), (73, .ixor, 1, 0, 0, 0, 0, []), (74, .iand, 1, 0, 0, 0, 0, []), (75, .ireturn, 1, 0, 0, 0, 0, [])]]
set_option maxRecDepth 20000 in
theorem t11_ends_d : ∀ row ∈ t11_ends, ∀ en ∈ row, decode cX11_ends en.1 = .ok (en.2.1, en.2.2.1) := by decide +kernel
set_option maxRecDepth 20000 in
theorem t11_ends_b : ∀ row ∈ t11_ends, ∀ en ∈ row, okB 11 "ends" (some .int) 1 en = true := by decide +kernel
def t11_forces : List (List mE) := [[(0, .aload_n 0, 1, 0, 0, 0, 0, []), (1, .getfield 23, 3, 11, 3, 2, 0, []), (4, .iload_n 1, 1, 1, 0, 0, 0, []), (5, .invokevirtual 126, 3, 91, 2, 1, 10, []), (8, .ifCond .eq 14, 3, 22, 0, 0, 0, []), (11, .aload_n 0, 1, 0, 0, 0, 0, []), (12, .getfield 23, 3, 11, 3, 2, 0, []), (15, .iload_n 2, 1, 2, 0, 0, 0, [])],
  [(16, .invokevirtual 176, 3, 92, 2, 1, 10, []), (19, .ifCond .ne 6, 3, 25, 0, 0, 0, []), (22, .bipush (-2), 2, 0, 0, 0, (-2), []), (24, .ireturn, 1, 0, 0, 0, 0, []), (25, .aload_n 0, 1, 0, 0, 0, 0, []), (26, .getfield 69, 3, 11, 10, 2, 0, []), (29, .invokevirtual 313, 3, 1, 1, 0, 0, [])],
  [(32, .aload_n 0, 1, 0, 0, 0, 0, []), (33, .getfield 69, 3, 11, 10, 2, 0, []), (36, .iload_n 1, 1, 1, 0, 0, 0, []), (37, .iload_n 2, 1, 2, 0, 0, 0, []), (38, .iconst 1, 1, 0, 0, 0, 1, []), (39, .iload_n 1, 1, 1, 0, 0, 0, []), (40, .ishl, 1, 0, 0, 0, 0, []), (41, .invokevirtual 316, 3, 2, 4, 1, 0, []), (44, .ireturn, 1, 0, 0, 0, 0, [])]]
set_option maxRecDepth 20000 in
theorem t11_forces_d : ∀ row ∈ t11_forces, ∀ en ∈ row, decode cX11_forces en.1 = .ok (en.2.1, en.2.2.1) := by decide +kernel
set_option maxRecDepth 20000 in
theorem t11_forces_b : ∀ row ∈ t11_forces, ∀ en ∈ row, okB 11 "forces" (some .int) 1 en = true := by decide +kernel
def t11_power : List (List mE) := [[(0, .aload_n 0, 1, 0, 0, 0, 0, []), (1, .getfield 23, 3, 11, 3, 2, 0, []), (4, .iload_n 1, 1, 1, 0, 0, 0, []), (5, .invokevirtual 126, 3, 91, 2, 1, 10, []), (8, .ifCond .ne 6, 3, 14, 0, 0, 0, []), (11, .bipush (-2), 2, 0, 0, 0, (-2), []), (13, .ireturn, 1, 0, 0, 0, 0, []), (14, .aload_n 0, 1, 0, 0, 0, 0, []), (15, .getfield 69, 3, 11, 10, 2, 0, [])],
  [(18, .invokevirtual 313, 3, 1, 1, 0, 0, []), (21, .iconst 0, 1, 0, 0, 0, 0, []), (22, .istore_n 2, 1, 2, 0, 0, 0, []), (23, .iconst 0, 1, 0, 0, 0, 0, []), (24, .istore_n 3, 1, 3, 0, 0, 0, []), (25, .iload_n 3, 1, 3, 0, 0, 0, []), (26, .aload_n 0, 1, 0, 0, 0, 0, []), (27, .getfield 23, 3, 11, 3, 2, 0, []), (30, .getfield 97, 3, 10, 0, 2, 0, [])],
  [(33, .getfield 311, 3, 2, 1, 0, 0, []), (36, .if_icmp .ge 31, 3, 67, 0, 0, 0, []), (39, .aload_n 0, 1, 0, 0, 0, 0, []), (40, .getfield 69, 3, 11, 10, 2, 0, []), (43, .iload_n 1, 1, 1, 0, 0, 0, []), (44, .iload_n 3, 1, 3, 0, 0, 0, []), (45, .iconst 1, 1, 0, 0, 0, 1, []), (46, .iload_n 1, 1, 1, 0, 0, 0, []), (47, .ishl, 1, 0, 0, 0, 0, [])],
  [(48, .invokevirtual 316, 3, 2, 4, 1, 0, []), (51, .iconst (-1), 1, 0, 0, 0, (-1), []), (52, .if_icmp .eq 9, 3, 61, 0, 0, 0, []), (55, .iload_n 2, 1, 2, 0, 0, 0, []), (56, .iconst 1, 1, 0, 0, 0, 1, []), (57, .iload_n 3, 1, 3, 0, 0, 0, []), (58, .ishl, 1, 0, 0, 0, 0, []), (59, .ior, 1, 0, 0, 0, 0, []), (60, .istore_n 2, 1, 2, 0, 0, 0, []), (61, .iinc 3 1, 3, 3, 0, 0, 1, [])],
  [(64, .goto (-39), 3, 25, 0, 0, 0, []), (67, .iload_n 2, 1, 2, 0, 0, 0, []), (68, .ireturn, 1, 0, 0, 0, 0, [])]]
set_option maxRecDepth 20000 in
theorem t11_power_d : ∀ row ∈ t11_power, ∀ en ∈ row, decode cX11_power en.1 = .ok (en.2.1, en.2.2.1) := by decide +kernel
set_option maxRecDepth 20000 in
theorem t11_power_b : ∀ row ∈ t11_power, ∀ en ∈ row, okB 11 "power" (some .int) 1 en = true := by decide +kernel
def t11_best : List (List mE) := [[(0, .aload_n 0, 1, 0, 0, 0, 0, []), (1, .getfield 23, 3, 11, 3, 2, 0, []), (4, .iload_n 1, 1, 1, 0, 0, 0, []), (5, .invokevirtual 126, 3, 91, 2, 1, 10, []), (8, .ifCond .eq 14, 3, 22, 0, 0, 0, []), (11, .aload_n 0, 1, 0, 0, 0, 0, []), (12, .getfield 23, 3, 11, 3, 2, 0, []), (15, .iload_n 2, 1, 2, 0, 0, 0, [])],
  [(16, .invokevirtual 176, 3, 92, 2, 1, 10, []), (19, .ifCond .ne 6, 3, 25, 0, 0, 0, []), (22, .bipush (-2), 2, 0, 0, 0, (-2), []), (24, .ireturn, 1, 0, 0, 0, 0, []), (25, .aload_n 0, 1, 0, 0, 0, 0, []), (26, .getfield 23, 3, 11, 3, 2, 0, []), (29, .getfield 108, 3, 10, 1, 2, 0, [])],
  [(32, .getfield 319, 3, 7, 4, 0, 0, []), (35, .iload_n 1, 1, 1, 0, 0, 0, []), (36, .if_icmp .eq 6, 3, 42, 0, 0, 0, []), (39, .bipush (-5), 2, 0, 0, 0, (-5), []), (41, .ireturn, 1, 0, 0, 0, 0, []), (42, .aload_n 0, 1, 0, 0, 0, 0, []), (43, .getfield 69, 3, 11, 10, 2, 0, []), (46, .invokevirtual 313, 3, 1, 1, 0, 0, [])],
  [(49, .aload_n 0, 1, 0, 0, 0, 0, []), (50, .getfield 69, 3, 11, 10, 2, 0, []), (53, .iload_n 1, 1, 1, 0, 0, 0, []), (54, .iload_n 2, 1, 2, 0, 0, 0, []), (55, .invokevirtual 322, 3, 5, 3, 1, 0, []), (58, .ireturn, 1, 0, 0, 0, 0, [])]]
set_option maxRecDepth 20000 in
theorem t11_best_d : ∀ row ∈ t11_best, ∀ en ∈ row, decode cX11_best en.1 = .ok (en.2.1, en.2.2.1) := by decide +kernel
set_option maxRecDepth 20000 in
theorem t11_best_b : ∀ row ∈ t11_best, ∀ en ∈ row, okB 11 "best" (some .int) 1 en = true := by decide +kernel
def t11_ally : List (List mE) := [[(0, .aload_n 0, 1, 0, 0, 0, 0, []), (1, .getfield 23, 3, 11, 3, 2, 0, []), (4, .iload_n 1, 1, 1, 0, 0, 0, []), (5, .invokevirtual 126, 3, 91, 2, 1, 10, []), (8, .ifCond .eq 14, 3, 22, 0, 0, 0, []), (11, .aload_n 0, 1, 0, 0, 0, 0, []), (12, .getfield 23, 3, 11, 3, 2, 0, []), (15, .iload_n 2, 1, 2, 0, 0, 0, [])],
  [(16, .invokevirtual 176, 3, 92, 2, 1, 10, []), (19, .ifCond .ne 6, 3, 25, 0, 0, 0, []), (22, .bipush (-2), 2, 0, 0, 0, (-2), []), (24, .ireturn, 1, 0, 0, 0, 0, []), (25, .aload_n 0, 1, 0, 0, 0, 0, []), (26, .getfield 69, 3, 11, 10, 2, 0, []), (29, .invokevirtual 313, 3, 1, 1, 0, 0, [])],
  [(32, .aload_n 0, 1, 0, 0, 0, 0, []), (33, .getfield 69, 3, 11, 10, 2, 0, []), (36, .iload_n 1, 1, 1, 0, 0, 0, []), (37, .iload_n 2, 1, 2, 0, 0, 0, []), (38, .iconst 1, 1, 0, 0, 0, 1, []), (39, .iload_n 1, 1, 1, 0, 0, 0, []), (40, .ishl, 1, 0, 0, 0, 0, []), (41, .invokevirtual 316, 3, 2, 4, 1, 0, []), (44, .iconst (-1), 1, 0, 0, 0, (-1), []), (45, .if_icmp .eq 5, 3, 50, 0, 0, 0, [])],
  [(48, .iconst (-1), 1, 0, 0, 0, (-1), []), (49, .ireturn, 1, 0, 0, 0, 0, []), (50, .iconst 0, 1, 0, 0, 0, 0, []), (51, .istore_n 3, 1, 3, 0, 0, 0, []), (52, .iload_n 3, 1, 3, 0, 0, 0, []), (53, .aload_n 0, 1, 0, 0, 0, 0, []), (54, .getfield 23, 3, 11, 3, 2, 0, []), (57, .getfield 97, 3, 10, 0, 2, 0, []), (60, .getfield 253, 3, 2, 0, 0, 0, []), (63, .if_icmp .ge 36, 3, 99, 0, 0, 0, [])],
  [(66, .iload_n 3, 1, 3, 0, 0, 0, []), (67, .iload_n 1, 1, 1, 0, 0, 0, []), (68, .if_icmp .eq 25, 3, 93, 0, 0, 0, []), (71, .aload_n 0, 1, 0, 0, 0, 0, []), (72, .getfield 69, 3, 11, 10, 2, 0, []), (75, .iload_n 1, 1, 1, 0, 0, 0, []), (76, .iload_n 2, 1, 2, 0, 0, 0, []), (77, .iconst 1, 1, 0, 0, 0, 1, []), (78, .iload_n 1, 1, 1, 0, 0, 0, []), (79, .ishl, 1, 0, 0, 0, 0, [])],
  [(80, .iconst 1, 1, 0, 0, 0, 1, []), (81, .iload_n 3, 1, 3, 0, 0, 0, []), (82, .ishl, 1, 0, 0, 0, 0, []), (83, .ior, 1, 0, 0, 0, 0, []), (84, .invokevirtual 316, 3, 2, 4, 1, 0, []), (87, .iconst (-1), 1, 0, 0, 0, (-1), []), (88, .if_icmp .eq 5, 3, 93, 0, 0, 0, []), (91, .iload_n 3, 1, 3, 0, 0, 0, []), (92, .ireturn, 1, 0, 0, 0, 0, []), (93, .iinc 3 1, 3, 3, 0, 0, 1, [])],
  [(96, .goto (-44), 3, 52, 0, 0, 0, []), (99, .iconst (-1), 1, 0, 0, 0, (-1), []), (100, .ireturn, 1, 0, 0, 0, 0, [])]]
set_option maxRecDepth 20000 in
theorem t11_ally_d : ∀ row ∈ t11_ally, ∀ en ∈ row, decode cX11_ally en.1 = .ok (en.2.1, en.2.2.1) := by decide +kernel
set_option maxRecDepth 20000 in
theorem t11_ally_b : ∀ row ∈ t11_ally, ∀ en ∈ row, okB 11 "ally" (some .int) 1 en = true := by decide +kernel
def t11_tales : List (List mE) := [[(0, .aload_n 0, 1, 0, 0, 0, 0, []), (1, .getfield 23, 3, 11, 3, 2, 0, []), (4, .invokevirtual 237, 3, 115, 1, 1, 10, []), (7, .ireturn, 1, 0, 0, 0, 0, [])]]
set_option maxRecDepth 20000 in
theorem t11_tales_d : ∀ row ∈ t11_tales, ∀ en ∈ row, decode cX11_tales en.1 = .ok (en.2.1, en.2.2.1) := by decide +kernel
set_option maxRecDepth 20000 in
theorem t11_tales_b : ∀ row ∈ t11_tales, ∀ en ∈ row, okB 11 "tales" (some .int) 1 en = true := by decide +kernel
def t11_joins : List (List mE) := [[(0, .aload_n 0, 1, 0, 0, 0, 0, []), (1, .iload_n 1, 1, 1, 0, 0, 0, []), (2, .iload_n 2, 1, 2, 0, 0, 0, []), (3, .invokevirtual 261, 3, 179, 3, 1, 11, []), (6, .ifCond .eq 15, 3, 21, 0, 0, 0, []), (9, .aload_n 0, 1, 0, 0, 0, 0, []), (10, .getfield 62, 3, 11, 9, 2, 0, []), (13, .iload_n 1, 1, 1, 0, 0, 0, []), (14, .iload_n 2, 1, 2, 0, 0, 0, []), (15, .invokevirtual 325, 3, 85, 3, 1, 9, [])],
  [(18, .goto 5, 3, 23, 0, 0, 0, []), (21, .bipush (-2), 2, 0, 0, 0, (-2), []), (23, .ireturn, 1, 0, 0, 0, 0, [])]]
set_option maxRecDepth 20000 in
theorem t11_joins_d : ∀ row ∈ t11_joins, ∀ en ∈ row, decode cX11_joins en.1 = .ok (en.2.1, en.2.2.1) := by decide +kernel
set_option maxRecDepth 20000 in
theorem t11_joins_b : ∀ row ∈ t11_joins, ∀ en ∈ row, okB 11 "joins" (some .int) 1 en = true := by decide +kernel
def t11_joinBy : List (List mE) := [[(0, .aload_n 0, 1, 0, 0, 0, 0, []), (1, .iload_n 1, 1, 1, 0, 0, 0, []), (2, .iload_n 2, 1, 2, 0, 0, 0, []), (3, .invokevirtual 261, 3, 179, 3, 1, 11, []), (6, .ifCond .ne 6, 3, 12, 0, 0, 0, []), (9, .bipush (-2), 2, 0, 0, 0, (-2), []), (11, .ireturn, 1, 0, 0, 0, 0, []), (12, .iload_n 3, 1, 3, 0, 0, 0, []), (13, .ifCond .ge 6, 3, 19, 0, 0, 0, [])],
  [(16, .bipush (-3), 2, 0, 0, 0, (-3), []), (18, .ireturn, 1, 0, 0, 0, 0, []), (19, .iload_n 3, 1, 3, 0, 0, 0, []), (20, .aload_n 0, 1, 0, 0, 0, 0, []), (21, .getfield 62, 3, 11, 9, 2, 0, []), (24, .iload_n 1, 1, 1, 0, 0, 0, []), (25, .iload_n 2, 1, 2, 0, 0, 0, []), (26, .invokevirtual 325, 3, 85, 3, 1, 9, []), (29, .if_icmp .ge 17, 3, 46, 0, 0, 0, [])],
  [(32, .aload_n 0, 1, 0, 0, 0, 0, []), (33, .getfield 62, 3, 11, 9, 2, 0, []), (36, .getfield 296, 3, 9, 0, 2, 0, []), (39, .iload_n 3, 1, 3, 0, 0, 0, []), (40, .invokevirtual 300, 3, 68, 2, 1, 6, []), (43, .goto 4, 3, 47, 0, 0, 0, []), (46, .iconst (-1), 1, 0, 0, 0, (-1), []), (47, .ireturn, 1, 0, 0, 0, 0, [])]]
set_option maxRecDepth 20000 in
theorem t11_joinBy_d : ∀ row ∈ t11_joinBy, ∀ en ∈ row, decode cX11_joinBy en.1 = .ok (en.2.1, en.2.2.1) := by decide +kernel
set_option maxRecDepth 20000 in
theorem t11_joinBy_b : ∀ row ∈ t11_joinBy, ∀ en ∈ row, okB 11 "joinBy" (some .int) 1 en = true := by decide +kernel
def t11_rows : List (List mE) := [[(0, .aload_n 0, 1, 0, 0, 0, 0, []), (1, .iload_n 1, 1, 1, 0, 0, 0, []), (2, .iload_n 2, 1, 2, 0, 0, 0, []), (3, .invokevirtual 328, 3, 161, 3, 1, 11, []), (6, .istore_n 3, 1, 3, 0, 0, 0, []), (7, .iload_n 3, 1, 3, 0, 0, 0, []), (8, .ifCond .eq 8, 3, 16, 0, 0, 0, []), (11, .iload_n 3, 1, 3, 0, 0, 0, []), (12, .i2l, 1, 0, 0, 0, 0, []), (13, .goto 11, 3, 24, 0, 0, 0, [])],
  [(16, .aload_n 0, 1, 0, 0, 0, 0, []), (17, .getfield 76, 3, 11, 11, 2, 0, []), (20, .iload_n 2, 1, 2, 0, 0, 0, []), (21, .invokevirtual 331, 3, 53, 2, 2, 5, []), (24, .lreturn, 1, 0, 0, 0, 0, [])]]
set_option maxRecDepth 20000 in
theorem t11_rows_d : ∀ row ∈ t11_rows, ∀ en ∈ row, decode cX11_rows en.1 = .ok (en.2.1, en.2.2.1) := by decide +kernel
set_option maxRecDepth 20000 in
theorem t11_rows_b : ∀ row ∈ t11_rows, ∀ en ∈ row, okB 11 "rows" (some .long) 2 en = true := by decide +kernel
def t11_sureBit : List (List mE) := [[(0, .aload_n 0, 1, 0, 0, 0, 0, []), (1, .iload_n 1, 1, 1, 0, 0, 0, []), (2, .iload_n 2, 1, 2, 0, 0, 0, []), (3, .invokevirtual 328, 3, 161, 3, 1, 11, []), (6, .istore 4, 2, 4, 0, 0, 0, []), (8, .iload 4, 2, 4, 0, 0, 0, []), (10, .ifCond .eq 6, 3, 16, 0, 0, 0, []), (13, .iload 4, 2, 4, 0, 0, 0, []), (15, .ireturn, 1, 0, 0, 0, 0, [])],
  [(16, .aload_n 0, 1, 0, 0, 0, 0, []), (17, .getfield 76, 3, 11, 11, 2, 0, []), (20, .iload_n 3, 1, 3, 0, 0, 0, []), (21, .invokevirtual 334, 3, 51, 2, 1, 5, []), (24, .ifCond .ne 6, 3, 30, 0, 0, 0, []), (27, .bipush (-7), 2, 0, 0, 0, (-7), []), (29, .ireturn, 1, 0, 0, 0, 0, []), (30, .aload_n 0, 1, 0, 0, 0, 0, []), (31, .getfield 76, 3, 11, 11, 2, 0, [])],
  [(34, .iload_n 2, 1, 2, 0, 0, 0, []), (35, .iload_n 3, 1, 3, 0, 0, 0, []), (36, .invokevirtual 337, 3, 56, 3, 1, 5, []), (39, .istore 5, 2, 5, 0, 0, 0, []), (41, .iload 5, 2, 5, 0, 0, 0, []), (43, .invokestatic 256, 3, 318, 1, 1, (-1), []), (46, .iconst 1, 1, 0, 0, 0, 1, []), (47, .if_icmp .ne 11, 3, 58, 0, 0, 0, [])],
  [(50, .iload 5, 2, 5, 0, 0, 0, []), (52, .invokestatic 340, 3, 317, 1, 1, (-1), []), (55, .goto 4, 3, 59, 0, 0, 0, []), (58, .iconst (-1), 1, 0, 0, 0, (-1), []), (59, .ireturn, 1, 0, 0, 0, 0, [])]]
set_option maxRecDepth 20000 in
theorem t11_sureBit_d : ∀ row ∈ t11_sureBit, ∀ en ∈ row, decode cX11_sureBit en.1 = .ok (en.2.1, en.2.2.1) := by decide +kernel
set_option maxRecDepth 20000 in
theorem t11_sureBit_b : ∀ row ∈ t11_sureBit, ∀ en ∈ row, okB 11 "sureBit" (some .int) 1 en = true := by decide +kernel
def t11_takeSeen : List (List mE) := [[(0, .iload_n 1, 1, 1, 0, 0, 0, []), (1, .invokestatic 210, 3, 178, 1, 1, (-1), []), (4, .ifCond .eq 14, 3, 18, 0, 0, 0, []), (7, .aload_n 0, 1, 0, 0, 0, 0, []), (8, .getfield 23, 3, 11, 3, 2, 0, []), (11, .iload_n 2, 1, 2, 0, 0, 0, []), (12, .invokevirtual 176, 3, 92, 2, 1, 10, []), (15, .ifCond .ne 6, 3, 21, 0, 0, 0, [])],
  [(18, .bipush (-2), 2, 0, 0, 0, (-2), []), (20, .ireturn, 1, 0, 0, 0, 0, []), (21, .aload_n 0, 1, 0, 0, 0, 0, []), (22, .getfield 76, 3, 11, 11, 2, 0, []), (25, .aload_n 0, 1, 0, 0, 0, 0, []), (26, .getfield 43, 3, 11, 6, 2, 0, []), (29, .iload_n 1, 1, 1, 0, 0, 0, []), (30, .aaload, 1, 8, 0, 0, 0, []), (31, .iconst (-1), 1, 0, 0, 0, (-1), [])],
  [(32, .aload_n 0, 1, 0, 0, 0, 0, []), (33, .getfield 23, 3, 11, 3, 2, 0, []), (36, .getfield 97, 3, 10, 0, 2, 0, []), (39, .getfield 311, 3, 2, 1, 0, 0, []), (42, .invokevirtual 343, 3, 50, 4, 1, 5, []), (45, .ireturn, 1, 0, 0, 0, 0, [])]]
set_option maxRecDepth 20000 in
theorem t11_takeSeen_d : ∀ row ∈ t11_takeSeen, ∀ en ∈ row, decode cX11_takeSeen en.1 = .ok (en.2.1, en.2.2.1) := by decide +kernel
set_option maxRecDepth 20000 in
theorem t11_takeSeen_b : ∀ row ∈ t11_takeSeen, ∀ en ∈ row, okB 11 "takeSeen" (some .int) 1 en = true := by decide +kernel
def t11_tellers : List (List mE) := [[(0, .aload_n 0, 1, 0, 0, 0, 0, []), (1, .iload_n 1, 1, 1, 0, 0, 0, []), (2, .invokevirtual 346, 3, 164, 2, 1, 11, []), (5, .istore_n 2, 1, 2, 0, 0, 0, []), (6, .iload_n 2, 1, 2, 0, 0, 0, []), (7, .ifCond .eq 8, 3, 15, 0, 0, 0, []), (10, .iload_n 2, 1, 2, 0, 0, 0, []), (11, .i2l, 1, 0, 0, 0, 0, []), (12, .goto 10, 3, 22, 0, 0, 0, []), (15, .aload_n 0, 1, 0, 0, 0, 0, [])],
  [(16, .getfield 76, 3, 11, 11, 2, 0, []), (19, .invokevirtual 349, 3, 58, 1, 2, 5, []), (22, .lreturn, 1, 0, 0, 0, 0, [])]]
set_option maxRecDepth 20000 in
theorem t11_tellers_d : ∀ row ∈ t11_tellers, ∀ en ∈ row, decode cX11_tellers en.1 = .ok (en.2.1, en.2.2.1) := by decide +kernel
set_option maxRecDepth 20000 in
theorem t11_tellers_b : ∀ row ∈ t11_tellers, ∀ en ∈ row, okB 11 "tellers" (some .long) 2 en = true := by decide +kernel
def t11_teller : List (List mE) := [[(0, .aload_n 0, 1, 0, 0, 0, 0, []), (1, .iload_n 1, 1, 1, 0, 0, 0, []), (2, .invokevirtual 346, 3, 164, 2, 1, 11, []), (5, .istore_n 3, 1, 3, 0, 0, 0, []), (6, .iload_n 3, 1, 3, 0, 0, 0, []), (7, .ifCond .eq 5, 3, 12, 0, 0, 0, []), (10, .iload_n 3, 1, 3, 0, 0, 0, []), (11, .ireturn, 1, 0, 0, 0, 0, []), (12, .aload_n 0, 1, 0, 0, 0, 0, []), (13, .getfield 76, 3, 11, 11, 2, 0, [])],
  [(16, .iload_n 2, 1, 2, 0, 0, 0, []), (17, .invokevirtual 334, 3, 51, 2, 1, 5, []), (20, .ifCond .eq 14, 3, 34, 0, 0, 0, []), (23, .aload_n 0, 1, 0, 0, 0, 0, []), (24, .getfield 76, 3, 11, 11, 2, 0, []), (27, .iload_n 2, 1, 2, 0, 0, 0, []), (28, .invokevirtual 353, 3, 59, 2, 1, 5, []), (31, .goto 5, 3, 36, 0, 0, 0, [])],
  [(34, .bipush (-7), 2, 0, 0, 0, (-7), []), (36, .ireturn, 1, 0, 0, 0, 0, [])]]
set_option maxRecDepth 20000 in
theorem t11_teller_d : ∀ row ∈ t11_teller, ∀ en ∈ row, decode cX11_teller en.1 = .ok (en.2.1, en.2.2.1) := by decide +kernel
set_option maxRecDepth 20000 in
theorem t11_teller_b : ∀ row ∈ t11_teller, ∀ en ∈ row, okB 11 "teller" (some .int) 1 en = true := by decide +kernel
def t11_takeTold : List (List mE) := [[(0, .iload_n 1, 1, 1, 0, 0, 0, []), (1, .invokestatic 210, 3, 178, 1, 1, (-1), []), (4, .ifCond .eq 30, 3, 34, 0, 0, 0, []), (7, .aload_n 0, 1, 0, 0, 0, 0, []), (8, .getfield 76, 3, 11, 11, 2, 0, []), (11, .aload_n 0, 1, 0, 0, 0, 0, []), (12, .getfield 43, 3, 11, 6, 2, 0, []), (15, .iload_n 1, 1, 1, 0, 0, 0, [])],
  [(16, .aaload, 1, 8, 0, 0, 0, []), (17, .iconst 0, 1, 0, 0, 0, 0, []), (18, .aload_n 0, 1, 0, 0, 0, 0, []), (19, .getfield 23, 3, 11, 3, 2, 0, []), (22, .getfield 97, 3, 10, 0, 2, 0, []), (25, .getfield 308, 3, 2, 2, 0, 0, []), (28, .invokevirtual 343, 3, 50, 4, 1, 5, []), (31, .goto 5, 3, 36, 0, 0, 0, [])],
  [(34, .bipush (-2), 2, 0, 0, 0, (-2), []), (36, .ireturn, 1, 0, 0, 0, 0, [])]]
set_option maxRecDepth 20000 in
theorem t11_takeTold_d : ∀ row ∈ t11_takeTold, ∀ en ∈ row, decode cX11_takeTold en.1 = .ok (en.2.1, en.2.2.1) := by decide +kernel
set_option maxRecDepth 20000 in
theorem t11_takeTold_b : ∀ row ∈ t11_takeTold, ∀ en ∈ row, okB 11 "takeTold" (some .int) 1 en = true := by decide +kernel
def t11_better : List (List mE) := [[(0, .iconst 0, 1, 0, 0, 0, 0, []), (1, .istore_n 1, 1, 1, 0, 0, 0, []), (2, .iconst 0, 1, 0, 0, 0, 0, []), (3, .istore_n 2, 1, 2, 0, 0, 0, []), (4, .iload_n 2, 1, 2, 0, 0, 0, []), (5, .aload_n 0, 1, 0, 0, 0, 0, []), (6, .getfield 23, 3, 11, 3, 2, 0, []), (9, .getfield 97, 3, 10, 0, 2, 0, []), (12, .getfield 311, 3, 2, 1, 0, 0, []), (15, .if_icmp .ge 23, 3, 38, 0, 0, 0, [])],
  [(18, .aload_n 0, 1, 0, 0, 0, 0, []), (19, .iload_n 2, 1, 2, 0, 0, 0, []), (20, .invokevirtual 356, 3, 166, 2, 1, 11, []), (23, .ifCond .eq 9, 3, 32, 0, 0, 0, []), (26, .iload_n 1, 1, 1, 0, 0, 0, []), (27, .iconst 1, 1, 0, 0, 0, 1, []), (28, .iload_n 2, 1, 2, 0, 0, 0, []), (29, .ishl, 1, 0, 0, 0, 0, []), (30, .ior, 1, 0, 0, 0, 0, []), (31, .istore_n 1, 1, 1, 0, 0, 0, [])],
  [(32, .iinc 2 1, 3, 2, 0, 0, 1, []), (35, .goto (-31), 3, 4, 0, 0, 0, []), (38, .iload_n 1, 1, 1, 0, 0, 0, []), (39, .ireturn, 1, 0, 0, 0, 0, [])]]
set_option maxRecDepth 20000 in
theorem t11_better_d : ∀ row ∈ t11_better, ∀ en ∈ row, decode cX11_better en.1 = .ok (en.2.1, en.2.2.1) := by decide +kernel
set_option maxRecDepth 20000 in
theorem t11_better_b : ∀ row ∈ t11_better, ∀ en ∈ row, okB 11 "better" (some .int) 1 en = true := by decide +kernel
def t11_isBetter : List (List mE) := [[(0, .iconst 0, 1, 0, 0, 0, 0, []), (1, .istore_n 2, 1, 2, 0, 0, 0, []), (2, .iconst 0, 1, 0, 0, 0, 0, []), (3, .istore_n 3, 1, 3, 0, 0, 0, []), (4, .iload_n 3, 1, 3, 0, 0, 0, []), (5, .aload_n 0, 1, 0, 0, 0, 0, []), (6, .getfield 23, 3, 11, 3, 2, 0, []), (9, .getfield 97, 3, 10, 0, 2, 0, []), (12, .getfield 253, 3, 2, 0, 0, 0, []), (15, .if_icmp .ge 66, 3, 81, 0, 0, 0, [])],
  [(18, .aload_n 0, 1, 0, 0, 0, 0, []), (19, .getfield 23, 3, 11, 3, 2, 0, []), (22, .iload_n 3, 1, 3, 0, 0, 0, []), (23, .iload_n 1, 1, 1, 0, 0, 0, []), (24, .invokevirtual 180, 3, 102, 3, 1, 10, []), (27, .istore 4, 2, 4, 0, 0, 0, []), (29, .aload_n 0, 1, 0, 0, 0, 0, []), (30, .getfield 23, 3, 11, 3, 2, 0, [])],
  [(33, .iload_n 3, 1, 3, 0, 0, 0, []), (34, .aload_n 0, 1, 0, 0, 0, 0, []), (35, .getfield 23, 3, 11, 3, 2, 0, []), (38, .getfield 108, 3, 10, 1, 2, 0, []), (41, .getfield 130, 3, 7, 0, 2, 0, []), (44, .iload_n 3, 1, 3, 0, 0, 0, []), (45, .iaload, 1, 0, 0, 0, 0, []), (46, .invokevirtual 180, 3, 102, 3, 1, 10, [])],
  [(49, .istore 5, 2, 5, 0, 0, 0, []), (51, .iload 4, 2, 4, 0, 0, 0, []), (53, .iload 5, 2, 5, 0, 0, 0, []), (55, .if_icmp .ge 5, 3, 60, 0, 0, 0, []), (58, .iconst 0, 1, 0, 0, 0, 0, []), (59, .ireturn, 1, 1, 0, 0, 0, []), (60, .iload_n 2, 1, 2, 0, 0, 0, []), (61, .iload 4, 2, 4, 0, 0, 0, []), (63, .iload 5, 2, 5, 0, 0, 0, [])],
  [(65, .if_icmp .le 7, 3, 72, 0, 0, 0, []), (68, .iconst 1, 1, 0, 0, 0, 1, []), (69, .goto 4, 3, 73, 0, 0, 0, []), (72, .iconst 0, 1, 0, 0, 0, 0, []), (73, .ior, 1, 0, 0, 0, 0, []), (74, .istore_n 2, 1, 2, 0, 0, 0, []), (75, .iinc 3 1, 3, 3, 0, 0, 1, []), (78, .goto (-74), 3, 4, 0, 0, 0, [])],
  [(81, .iload_n 2, 1, 2, 0, 0, 0, []), (82, .ireturn, 1, 1, 0, 0, 0, [])]]
set_option maxRecDepth 20000 in
theorem t11_isBetter_d : ∀ row ∈ t11_isBetter, ∀ en ∈ row, decode cX11_isBetter en.1 = .ok (en.2.1, en.2.2.1) := by decide +kernel
set_option maxRecDepth 20000 in
theorem t11_isBetter_b : ∀ row ∈ t11_isBetter, ∀ en ∈ row, okB 11 "isBetter" (some .boolean) 1 en = true := by decide +kernel
def t11_fairest : List (List mE) := [[(0, .iconst 0, 1, 0, 0, 0, 0, []), (1, .istore_n 1, 1, 1, 0, 0, 0, []), (2, .iconst 1, 1, 0, 0, 0, 1, []), (3, .istore_n 2, 1, 2, 0, 0, 0, []), (4, .iload_n 2, 1, 2, 0, 0, 0, []), (5, .aload_n 0, 1, 0, 0, 0, 0, []), (6, .getfield 23, 3, 11, 3, 2, 0, []), (9, .getfield 97, 3, 10, 0, 2, 0, []), (12, .getfield 311, 3, 2, 1, 0, 0, []), (15, .if_icmp .ge 24, 3, 39, 0, 0, 0, [])],
  [(18, .aload_n 0, 1, 0, 0, 0, 0, []), (19, .iload_n 2, 1, 2, 0, 0, 0, []), (20, .invokevirtual 359, 3, 168, 2, 1, 11, []), (23, .aload_n 0, 1, 0, 0, 0, 0, []), (24, .iload_n 1, 1, 1, 0, 0, 0, []), (25, .invokevirtual 359, 3, 168, 2, 1, 11, []), (28, .if_icmp .le 5, 3, 33, 0, 0, 0, []), (31, .iload_n 2, 1, 2, 0, 0, 0, [])],
  [(32, .istore_n 1, 1, 1, 0, 0, 0, []), (33, .iinc 2 1, 3, 2, 0, 0, 1, []), (36, .goto (-32), 3, 4, 0, 0, 0, []), (39, .iload_n 1, 1, 1, 0, 0, 0, []), (40, .ireturn, 1, 0, 0, 0, 0, [])]]
set_option maxRecDepth 20000 in
theorem t11_fairest_d : ∀ row ∈ t11_fairest, ∀ en ∈ row, decode cX11_fairest en.1 = .ok (en.2.1, en.2.2.1) := by decide +kernel
set_option maxRecDepth 20000 in
theorem t11_fairest_b : ∀ row ∈ t11_fairest, ∀ en ∈ row, okB 11 "fairest" (some .int) 1 en = true := by decide +kernel
def t11_leastLiking : List (List mE) := [[(0, .ldc_w 362, 3, 0, 0, 0, 1000000, []), (3, .istore_n 2, 1, 2, 0, 0, 0, []), (4, .iconst 0, 1, 0, 0, 0, 0, []), (5, .istore_n 3, 1, 3, 0, 0, 0, []), (6, .iload_n 3, 1, 3, 0, 0, 0, []), (7, .aload_n 0, 1, 0, 0, 0, 0, []), (8, .getfield 23, 3, 11, 3, 2, 0, []), (11, .getfield 97, 3, 10, 0, 2, 0, []), (14, .getfield 253, 3, 2, 0, 0, 0, [])],
  [(17, .if_icmp .ge 23, 3, 40, 0, 0, 0, []), (20, .iload_n 2, 1, 2, 0, 0, 0, []), (21, .aload_n 0, 1, 0, 0, 0, 0, []), (22, .getfield 23, 3, 11, 3, 2, 0, []), (25, .iload_n 3, 1, 3, 0, 0, 0, []), (26, .iload_n 1, 1, 1, 0, 0, 0, []), (27, .invokevirtual 180, 3, 102, 3, 1, 10, []), (30, .invokestatic 363, 3, 1002, 2, 1, (-1), [])],
  [(33, .istore_n 2, 1, 2, 0, 0, 0, []), (34, .iinc 3 1, 3, 3, 0, 0, 1, []), (37, .goto (-31), 3, 6, 0, 0, 0, []), (40, .iload_n 2, 1, 2, 0, 0, 0, []), (41, .ireturn, 1, 0, 0, 0, 0, [])]]
set_option maxRecDepth 20000 in
theorem t11_leastLiking_d : ∀ row ∈ t11_leastLiking, ∀ en ∈ row, decode cX11_leastLiking en.1 = .ok (en.2.1, en.2.2.1) := by decide +kernel
set_option maxRecDepth 20000 in
theorem t11_leastLiking_b : ∀ row ∈ t11_leastLiking, ∀ en ∈ row, okB 11 "leastLiking" (some .int) 1 en = true := by decide +kernel
def t11_snow : List (List mE) := [[(0, .aload_n 0, 1, 0, 0, 0, 0, []), (1, .iload_n 1, 1, 1, 0, 0, 0, []), (2, .iload_n 2, 1, 2, 0, 0, 0, []), (3, .invokevirtual 261, 3, 179, 3, 1, 11, []), (6, .ifCond .eq 12, 3, 18, 0, 0, 0, []), (9, .iload_n 3, 1, 3, 0, 0, 0, []), (10, .ifCond .lt 8, 3, 18, 0, 0, 0, []), (13, .iload_n 3, 1, 3, 0, 0, 0, []), (14, .iconst 1, 1, 0, 0, 0, 1, []), (15, .if_icmp .le 7, 3, 22, 0, 0, 0, [])],
  [(18, .ldc2_w 288, 3, 0, 0, 0, (-2), []), (21, .lreturn, 1, 0, 0, 0, 0, []), (22, .aload_n 0, 1, 0, 0, 0, 0, []), (23, .getfield 23, 3, 11, 3, 2, 0, []), (26, .iload_n 1, 1, 1, 0, 0, 0, []), (27, .iload_n 2, 1, 2, 0, 0, 0, []), (28, .invokevirtual 368, 3, 117, 3, 2, 10, []), (31, .lstore 4, 2, 4, 0, 0, 0, [])],
  [(33, .aload_n 0, 1, 0, 0, 0, 0, []), (34, .getfield 23, 3, 11, 3, 2, 0, []), (37, .iload_n 1, 1, 1, 0, 0, 0, []), (38, .iload_n 2, 1, 2, 0, 0, 0, []), (39, .invokevirtual 372, 3, 118, 3, 2, 10, []), (42, .lstore 6, 2, 6, 0, 0, 0, []), (44, .lload 4, 2, 4, 0, 0, 0, []), (46, .lload 6, 2, 6, 0, 0, 0, [])],
  [(48, .invokestatic 375, 3, 170, 2, 2, (-1), []), (51, .lstore 8, 2, 8, 0, 0, 0, []), (53, .iload_n 3, 1, 3, 0, 0, 0, []), (54, .ifCond .ne 8, 3, 62, 0, 0, 0, []), (57, .lload 4, 2, 4, 0, 0, 0, []), (59, .goto 5, 3, 64, 0, 0, 0, []), (62, .lload 6, 2, 6, 0, 0, 0, [])],
  [(64, .lstore 10, 2, 10, 0, 0, 0, []), (66, .lload 8, 2, 8, 0, 0, 0, []), (68, .lconst 1, 1, 0, 0, 0, 1, []), (69, .lcmp, 1, 0, 0, 0, 0, []), (70, .ifCond .le 11, 3, 81, 0, 0, 0, []), (73, .lload 10, 2, 10, 0, 0, 0, []), (75, .lload 8, 2, 8, 0, 0, 0, []), (77, .ldiv, 1, 0, 0, 0, 0, []), (78, .goto 5, 3, 83, 0, 0, 0, [])],
  [(81, .lload 10, 2, 10, 0, 0, 0, []), (83, .lreturn, 1, 0, 0, 0, 0, [])]]
set_option maxRecDepth 20000 in
theorem t11_snow_d : ∀ row ∈ t11_snow, ∀ en ∈ row, decode cX11_snow en.1 = .ok (en.2.1, en.2.2.1) := by decide +kernel
set_option maxRecDepth 20000 in
theorem t11_snow_b : ∀ row ∈ t11_snow, ∀ en ∈ row, okB 11 "snow" (some .long) 2 en = true := by decide +kernel
def t11_commonDivisor : List (List mE) := [[(0, .lload_n 0, 1, 0, 0, 0, 0, []), (1, .lstore 4, 2, 4, 0, 0, 0, []), (3, .lload_n 2, 1, 2, 0, 0, 0, []), (4, .lstore 6, 2, 6, 0, 0, 0, []), (6, .iconst 0, 1, 0, 0, 0, 0, []), (7, .istore 8, 2, 8, 0, 0, 0, []), (9, .iload 8, 2, 8, 0, 0, 0, []), (11, .bipush 100, 2, 0, 0, 0, 100, []), (13, .if_icmp .ge 31, 3, 44, 0, 0, 0, [])],
  [(16, .lload 6, 2, 6, 0, 0, 0, []), (18, .lconst 0, 1, 0, 0, 0, 0, []), (19, .lcmp, 1, 0, 0, 0, 0, []), (20, .ifCond .eq 24, 3, 44, 0, 0, 0, []), (23, .lload 4, 2, 4, 0, 0, 0, []), (25, .lload 6, 2, 6, 0, 0, 0, []), (27, .lrem, 1, 0, 0, 0, 0, []), (28, .lstore 9, 2, 9, 0, 0, 0, []), (30, .lload 6, 2, 6, 0, 0, 0, [])],
  [(32, .lstore 4, 2, 4, 0, 0, 0, []), (34, .lload 9, 2, 9, 0, 0, 0, []), (36, .lstore 6, 2, 6, 0, 0, 0, []), (38, .iinc 8 1, 3, 8, 0, 0, 1, []), (41, .goto (-32), 3, 9, 0, 0, 0, []), (44, .lload 4, 2, 4, 0, 0, 0, []), (46, .lreturn, 1, 0, 0, 0, 0, [])]]
set_option maxRecDepth 20000 in
theorem t11_commonDivisor_d : ∀ row ∈ t11_commonDivisor, ∀ en ∈ row, decode cX11_commonDivisor en.1 = .ok (en.2.1, en.2.2.1) := by decide +kernel
set_option maxRecDepth 20000 in
theorem t11_commonDivisor_b : ∀ row ∈ t11_commonDivisor, ∀ en ∈ row, okB 11 "commonDivisor" (some .long) 2 en = true := by decide +kernel
def t11_left : List (List mE) := [[(0, .aload_n 0, 1, 0, 0, 0, 0, []), (1, .getfield 23, 3, 11, 3, 2, 0, []), (4, .iload_n 1, 1, 1, 0, 0, 0, []), (5, .invokevirtual 126, 3, 91, 2, 1, 10, []), (8, .ifCond .ne 6, 3, 14, 0, 0, 0, []), (11, .bipush (-2), 2, 0, 0, 0, (-2), []), (13, .ireturn, 1, 0, 0, 0, 0, []), (14, .iload_n 2, 1, 2, 0, 0, 0, []), (15, .ifCond .lt 9, 3, 24, 0, 0, 0, [])],
  [(18, .iload_n 2, 1, 2, 0, 0, 0, []), (19, .bipush 100, 2, 0, 0, 0, 100, []), (21, .if_icmp .le 6, 3, 27, 0, 0, 0, []), (24, .bipush (-3), 2, 0, 0, 0, (-3), []), (26, .ireturn, 1, 0, 0, 0, 0, []), (27, .iconst 0, 1, 0, 0, 0, 0, []), (28, .istore_n 3, 1, 3, 0, 0, 0, []), (29, .iconst 0, 1, 0, 0, 0, 0, []), (30, .istore 4, 2, 4, 0, 0, 0, [])],
  [(32, .iload 4, 2, 4, 0, 0, 0, []), (34, .aload_n 0, 1, 0, 0, 0, 0, []), (35, .getfield 23, 3, 11, 3, 2, 0, []), (38, .getfield 97, 3, 10, 0, 2, 0, []), (41, .getfield 253, 3, 2, 0, 0, 0, []), (44, .if_icmp .ge 49, 3, 93, 0, 0, 0, []), (47, .iload 4, 2, 4, 0, 0, 0, [])],
  [(49, .iload_n 1, 1, 1, 0, 0, 0, []), (50, .if_icmp .eq 37, 3, 87, 0, 0, 0, []), (53, .ldc2_w 379, 3, 0, 0, 0, 100, []), (56, .aload_n 0, 1, 0, 0, 0, 0, []), (57, .getfield 23, 3, 11, 3, 2, 0, []), (60, .iload_n 1, 1, 1, 0, 0, 0, []), (61, .iload 4, 2, 4, 0, 0, 0, []), (63, .invokevirtual 368, 3, 117, 3, 2, 10, [])],
  [(66, .lmul, 1, 0, 0, 0, 0, []), (67, .iload_n 2, 1, 2, 0, 0, 0, []), (68, .i2l, 1, 0, 0, 0, 0, []), (69, .aload_n 0, 1, 0, 0, 0, 0, []), (70, .getfield 23, 3, 11, 3, 2, 0, []), (73, .iload_n 1, 1, 1, 0, 0, 0, []), (74, .iload 4, 2, 4, 0, 0, 0, []), (76, .invokevirtual 372, 3, 118, 3, 2, 10, []), (79, .lmul, 1, 0, 0, 0, 0, [])],
  [(80, .lcmp, 1, 0, 0, 0, 0, []), (81, .ifCond .lt 6, 3, 87, 0, 0, 0, []), (84, .iinc 3 1, 3, 3, 0, 0, 1, []), (87, .iinc 4 1, 3, 4, 0, 0, 1, []), (90, .goto (-58), 3, 32, 0, 0, 0, []), (93, .iload_n 3, 1, 3, 0, 0, 0, []), (94, .ireturn, 1, 0, 0, 0, 0, [])]]
set_option maxRecDepth 20000 in
theorem t11_left_d : ∀ row ∈ t11_left, ∀ en ∈ row, decode cX11_left en.1 = .ok (en.2.1, en.2.2.1) := by decide +kernel
set_option maxRecDepth 20000 in
theorem t11_left_b : ∀ row ∈ t11_left, ∀ en ∈ row, okB 11 "left" (some .int) 1 en = true := by decide +kernel
def t11_numbers : List (List mE) := [[(0, .iload_n 1, 1, 1, 0, 0, 0, []), (1, .invokestatic 210, 3, 178, 1, 1, (-1), []), (4, .ifCond .eq 12, 3, 16, 0, 0, 0, []), (7, .iload_n 2, 1, 2, 0, 0, 0, []), (8, .ifCond .lt 8, 3, 16, 0, 0, 0, []), (11, .iload_n 2, 1, 2, 0, 0, 0, []), (12, .iconst 4, 1, 0, 0, 0, 4, []), (13, .if_icmp .lt 6, 3, 19, 0, 0, 0, [])],
  [(16, .bipush (-2), 2, 0, 0, 0, (-2), []), (18, .ireturn, 1, 0, 0, 0, 0, []), (19, .iload_n 3, 1, 3, 0, 0, 0, []), (20, .ifCond .lt 9, 3, 29, 0, 0, 0, []), (23, .iload_n 3, 1, 3, 0, 0, 0, []), (24, .bipush 40, 2, 0, 0, 0, 40, []), (26, .if_icmp .le 6, 3, 32, 0, 0, 0, []), (29, .bipush (-3), 2, 0, 0, 0, (-3), []), (31, .ireturn, 1, 0, 0, 0, 0, [])],
  [(32, .aload_n 0, 1, 0, 0, 0, 0, []), (33, .getfield 43, 3, 11, 6, 2, 0, []), (36, .iload_n 1, 1, 1, 0, 0, 0, []), (37, .aaload, 1, 8, 0, 0, 0, []), (38, .iload_n 2, 1, 2, 0, 0, 0, []), (39, .iload_n 3, 1, 3, 0, 0, 0, []), (40, .invokevirtual 381, 3, 74, 3, 0, 8, []), (43, .iconst 0, 1, 0, 0, 0, 0, []), (44, .ireturn, 1, 0, 0, 0, 0, [])]]
set_option maxRecDepth 20000 in
theorem t11_numbers_d : ∀ row ∈ t11_numbers, ∀ en ∈ row, decode cX11_numbers en.1 = .ok (en.2.1, en.2.2.1) := by decide +kernel
set_option maxRecDepth 20000 in
theorem t11_numbers_b : ∀ row ∈ t11_numbers, ∀ en ∈ row, okB 11 "numbers" (some .int) 1 en = true := by decide +kernel
def t11_write : List (List mE) := [[(0, .iload_n 1, 1, 1, 0, 0, 0, []), (1, .invokestatic 210, 3, 178, 1, 1, (-1), []), (4, .ifCond .ne 7, 3, 11, 0, 0, 0, []), (7, .ldc2_w 288, 3, 0, 0, 0, (-2), []), (10, .lreturn, 1, 0, 0, 0, 0, []), (11, .aload_n 0, 1, 0, 0, 0, 0, []), (12, .getfield 43, 3, 11, 6, 2, 0, []), (15, .iload_n 1, 1, 1, 0, 0, 0, [])],
  [(16, .aaload, 1, 8, 0, 0, 0, []), (17, .astore 5, 2, 5, 0, 0, 0, []), (19, .aload 5, 2, 5, 0, 0, 0, []), (21, .invokevirtual 213, 3, 73, 1, 1, 8, []), (24, .ifCond .eq 7, 3, 31, 0, 0, 0, []), (27, .ldc2_w 385, 3, 0, 0, 0, (-6), []), (30, .lreturn, 1, 0, 0, 0, 0, []), (31, .iload_n 2, 1, 2, 0, 0, 0, [])],
  [(32, .ifCond .lt 12, 3, 44, 0, 0, 0, []), (35, .iload_n 2, 1, 2, 0, 0, 0, []), (36, .aload 5, 2, 5, 0, 0, 0, []), (38, .getfield 227, 3, 8, 2, 0, 0, []), (41, .if_icmp .lt 9, 3, 50, 0, 0, 0, []), (44, .ldc2_w 387, 3, 0, 0, 0, (-7), []), (47, .goto 10, 3, 57, 0, 0, 0, [])],
  [(50, .aload 5, 2, 5, 0, 0, 0, []), (52, .iload_n 2, 1, 2, 0, 0, 0, []), (53, .lload_n 3, 1, 3, 0, 0, 0, []), (54, .invokevirtual 389, 3, 76, 3, 2, 8, []), (57, .lreturn, 1, 0, 0, 0, 0, [])]]
set_option maxRecDepth 20000 in
theorem t11_write_d : ∀ row ∈ t11_write, ∀ en ∈ row, decode cX11_write en.1 = .ok (en.2.1, en.2.2.1) := by decide +kernel
set_option maxRecDepth 20000 in
theorem t11_write_b : ∀ row ∈ t11_write, ∀ en ∈ row, okB 11 "write" (some .long) 2 en = true := by decide +kernel
def t11_lists : List (List mE) := [[(0, .iload_n 1, 1, 1, 0, 0, 0, []), (1, .invokestatic 210, 3, 178, 1, 1, (-1), []), (4, .ifCond .eq 12, 3, 16, 0, 0, 0, []), (7, .aload_n 0, 1, 0, 0, 0, 0, []), (8, .iload_n 2, 1, 2, 0, 0, 0, []), (9, .iload_n 3, 1, 3, 0, 0, 0, []), (10, .invokevirtual 277, 3, 180, 3, 1, 11, []), (13, .ifCond .ne 6, 3, 19, 0, 0, 0, [])],
  [(16, .bipush (-2), 2, 0, 0, 0, (-2), []), (18, .ireturn, 1, 0, 0, 0, 0, []), (19, .aload_n 0, 1, 0, 0, 0, 0, []), (20, .getfield 43, 3, 11, 6, 2, 0, []), (23, .iload_n 1, 1, 1, 0, 0, 0, []), (24, .aaload, 1, 8, 0, 0, 0, []), (25, .astore 4, 2, 4, 0, 0, 0, []), (27, .aload 4, 2, 4, 0, 0, 0, []), (29, .invokevirtual 213, 3, 73, 1, 1, 8, [])],
  [(32, .ifCond .eq 6, 3, 38, 0, 0, 0, []), (35, .bipush (-6), 2, 0, 0, 0, (-6), []), (37, .ireturn, 1, 0, 0, 0, 0, []), (38, .aload_n 0, 1, 0, 0, 0, 0, []), (39, .getfield 62, 3, 11, 9, 2, 0, []), (42, .iload_n 2, 1, 2, 0, 0, 0, []), (43, .iload_n 3, 1, 3, 0, 0, 0, []), (44, .iconst 0, 1, 0, 0, 0, 0, []), (45, .invokevirtual 280, 3, 81, 4, 1, 9, [])],
  [(48, .istore 5, 2, 5, 0, 0, 0, []), (50, .iload 5, 2, 5, 0, 0, 0, []), (52, .iconst (-1), 1, 0, 0, 0, (-1), []), (53, .if_icmp .ne 6, 3, 59, 0, 0, 0, []), (56, .bipush (-5), 2, 0, 0, 0, (-5), []), (58, .ireturn, 1, 0, 0, 0, 0, []), (59, .iload 5, 2, 5, 0, 0, 0, []), (61, .aload 4, 2, 4, 0, 0, 0, []), (63, .getfield 227, 3, 8, 2, 0, 0, [])],
  [(66, .invokestatic 363, 3, 1002, 2, 1, (-1), []), (69, .istore 6, 2, 6, 0, 0, 0, []), (71, .iconst 0, 1, 0, 0, 0, 0, []), (72, .istore 7, 2, 7, 0, 0, 0, []), (74, .iload 7, 2, 7, 0, 0, 0, []), (76, .iload 6, 2, 6, 0, 0, 0, []), (78, .if_icmp .ge 30, 3, 108, 0, 0, 0, [])],
  [(81, .aload 4, 2, 4, 0, 0, 0, []), (83, .iload 7, 2, 7, 0, 0, 0, []), (85, .aload_n 0, 1, 0, 0, 0, 0, []), (86, .getfield 62, 3, 11, 9, 2, 0, []), (89, .getfield 296, 3, 9, 0, 2, 0, []), (92, .iload 7, 2, 7, 0, 0, 0, []), (94, .invokevirtual 300, 3, 68, 2, 1, 6, [])],
  [(97, .i2l, 1, 0, 0, 0, 0, []), (98, .invokevirtual 389, 3, 76, 3, 2, 8, []), (101, .pop2, 1, 0, 0, 0, 0, []), (102, .iinc 7 1, 3, 7, 0, 0, 1, []), (105, .goto (-31), 3, 74, 0, 0, 0, []), (108, .iload 6, 2, 6, 0, 0, 0, []), (110, .ireturn, 1, 0, 0, 0, 0, [])]]
set_option maxRecDepth 20000 in
theorem t11_lists_d : ∀ row ∈ t11_lists, ∀ en ∈ row, decode cX11_lists en.1 = .ok (en.2.1, en.2.2.1) := by decide +kernel
set_option maxRecDepth 20000 in
theorem t11_lists_b : ∀ row ∈ t11_lists, ∀ en ∈ row, okB 11 "lists" (some .int) 1 en = true := by decide +kernel
def t11_image : List (List mE) := [[(0, .iload_n 1, 1, 1, 0, 0, 0, []), (1, .ifCond .lt 8, 3, 9, 0, 0, 0, []), (4, .iload_n 1, 1, 1, 0, 0, 0, []), (5, .iconst 2, 1, 0, 0, 0, 2, []), (6, .if_icmp .lt 6, 3, 12, 0, 0, 0, []), (9, .bipush (-2), 2, 0, 0, 0, (-2), []), (11, .ireturn, 1, 0, 0, 0, 0, []), (12, .aload_n 0, 1, 0, 0, 0, 0, []), (13, .getfield 49, 3, 11, 7, 2, 0, [])],
  [(16, .iload_n 1, 1, 1, 0, 0, 0, []), (17, .aaload, 1, 2, 0, 0, 0, []), (18, .ifnull 12, 3, 30, 0, 0, 0, []), (21, .aload_n 0, 1, 0, 0, 0, 0, []), (22, .getfield 53, 3, 11, 8, 2, 0, []), (25, .iload_n 1, 1, 1, 0, 0, 0, []), (26, .aaload, 1, 7, 0, 0, 0, []), (27, .ifnonnull 29, 3, 56, 0, 0, 0, []), (30, .aload_n 0, 1, 0, 0, 0, 0, []), (31, .getfield 49, 3, 11, 7, 2, 0, [])],
  [(34, .iload_n 1, 1, 1, 0, 0, 0, []), (35, .new 47, 3, 2, 16, 0, 0, []), (38, .dup, 1, 0, 0, 0, 0, []), (39, .invokespecial 393, 3, 20, 1, 0, 2, []), (42, .aastore, 1, 2, 0, 0, 0, []), (43, .aload_n 0, 1, 0, 0, 0, 0, []), (44, .getfield 53, 3, 11, 8, 2, 0, []), (47, .iload_n 1, 1, 1, 0, 0, 0, [])],
  [(48, .new 27, 3, 7, 6, 0, 0, []), (51, .dup, 1, 0, 0, 0, 0, []), (52, .invokespecial 29, 3, 69, 1, 0, 7, []), (55, .aastore, 1, 7, 0, 0, 0, []), (56, .aload_n 0, 1, 0, 0, 0, 0, []), (57, .getfield 49, 3, 11, 7, 2, 0, []), (60, .iload_n 1, 1, 1, 0, 0, 0, []), (61, .aaload, 1, 2, 0, 0, 0, []), (62, .aload_n 0, 1, 0, 0, 0, 0, []), (63, .getfield 23, 3, 11, 3, 2, 0, [])],
  [(66, .getfield 97, 3, 10, 0, 2, 0, []), (69, .invokevirtual 104, 3, 22, 2, 0, 2, []), (72, .aload_n 0, 1, 0, 0, 0, 0, []), (73, .getfield 53, 3, 11, 8, 2, 0, []), (76, .iload_n 1, 1, 1, 0, 0, 0, []), (77, .aaload, 1, 7, 0, 0, 0, []), (78, .aload_n 0, 1, 0, 0, 0, 0, []), (79, .getfield 23, 3, 11, 3, 2, 0, [])],
  [(82, .getfield 108, 3, 10, 1, 2, 0, []), (85, .invokevirtual 217, 3, 71, 2, 0, 7, []), (88, .iconst 0, 1, 0, 0, 0, 0, []), (89, .ireturn, 1, 0, 0, 0, 0, [])]]
set_option maxRecDepth 20000 in
theorem t11_image_d : ∀ row ∈ t11_image, ∀ en ∈ row, decode cX11_image en.1 = .ok (en.2.1, en.2.2.1) := by decide +kernel
set_option maxRecDepth 20000 in
theorem t11_image_b : ∀ row ∈ t11_image, ∀ en ∈ row, okB 11 "image" (some .int) 1 en = true := by decide +kernel
def t11_restore : List (List mE) := [[(0, .iload_n 1, 1, 1, 0, 0, 0, []), (1, .ifCond .lt 8, 3, 9, 0, 0, 0, []), (4, .iload_n 1, 1, 1, 0, 0, 0, []), (5, .iconst 2, 1, 0, 0, 0, 2, []), (6, .if_icmp .lt 6, 3, 12, 0, 0, 0, []), (9, .bipush (-2), 2, 0, 0, 0, (-2), []), (11, .ireturn, 1, 0, 0, 0, 0, []), (12, .aload_n 0, 1, 0, 0, 0, 0, []), (13, .getfield 49, 3, 11, 7, 2, 0, [])],
  [(16, .iload_n 1, 1, 1, 0, 0, 0, []), (17, .aaload, 1, 2, 0, 0, 0, []), (18, .ifnull 12, 3, 30, 0, 0, 0, []), (21, .aload_n 0, 1, 0, 0, 0, 0, []), (22, .getfield 53, 3, 11, 8, 2, 0, []), (25, .iload_n 1, 1, 1, 0, 0, 0, []), (26, .aaload, 1, 7, 0, 0, 0, []), (27, .ifnonnull 6, 3, 33, 0, 0, 0, []), (30, .bipush (-5), 2, 0, 0, 0, (-5), [])],
  [(32, .ireturn, 1, 0, 0, 0, 0, []), (33, .aload_n 0, 1, 0, 0, 0, 0, []), (34, .getfield 23, 3, 11, 3, 2, 0, []), (37, .getfield 97, 3, 10, 0, 2, 0, []), (40, .aload_n 0, 1, 0, 0, 0, 0, []), (41, .getfield 49, 3, 11, 7, 2, 0, []), (44, .iload_n 1, 1, 1, 0, 0, 0, []), (45, .aaload, 1, 2, 0, 0, 0, []), (46, .invokevirtual 104, 3, 22, 2, 0, 2, [])],
  [(49, .aload_n 0, 1, 0, 0, 0, 0, []), (50, .getfield 23, 3, 11, 3, 2, 0, []), (53, .getfield 108, 3, 10, 1, 2, 0, []), (56, .aload_n 0, 1, 0, 0, 0, 0, []), (57, .getfield 53, 3, 11, 8, 2, 0, []), (60, .iload_n 1, 1, 1, 0, 0, 0, []), (61, .aaload, 1, 7, 0, 0, 0, []), (62, .invokevirtual 217, 3, 71, 2, 0, 7, [])],
  [(65, .aload_n 0, 1, 0, 0, 0, 0, []), (66, .getfield 37, 3, 11, 5, 2, 0, []), (69, .invokevirtual 114, 3, 29, 1, 0, 3, []), (72, .iconst 0, 1, 0, 0, 0, 0, []), (73, .ireturn, 1, 0, 0, 0, 0, [])]]
set_option maxRecDepth 20000 in
theorem t11_restore_d : ∀ row ∈ t11_restore, ∀ en ∈ row, decode cX11_restore en.1 = .ok (en.2.1, en.2.2.1) := by decide +kernel
set_option maxRecDepth 20000 in
theorem t11_restore_b : ∀ row ∈ t11_restore, ∀ en ∈ row, okB 11 "restore" (some .int) 1 en = true := by decide +kernel
def t11_count : List (List mE) := [[(0, .iload_n 1, 1, 1, 0, 0, 0, []), (1, .tableswitch 168 0 10 #[59, 70, 81, 92, 103, 114, 125, 136, 144, 152, 157], 59, 169, 0, 0, 0, [(0, 60), (1, 71), (2, 82), (3, 93), (4, 104), (5, 115), (6, 126), (7, 137), (8, 145), (9, 153), (10, 158)])],
  [],
  [],
  [(60, .aload_n 0, 1, 0, 0, 0, 0, []), (61, .getfield 23, 3, 11, 3, 2, 0, [])],
  [(64, .getfield 97, 3, 10, 0, 2, 0, []), (67, .getfield 253, 3, 2, 0, 0, 0, []), (70, .ireturn, 1, 0, 0, 0, 0, []), (71, .aload_n 0, 1, 0, 0, 0, 0, []), (72, .getfield 23, 3, 11, 3, 2, 0, []), (75, .getfield 97, 3, 10, 0, 2, 0, []), (78, .getfield 311, 3, 2, 1, 0, 0, [])],
  [(81, .ireturn, 1, 0, 0, 0, 0, []), (82, .aload_n 0, 1, 0, 0, 0, 0, []), (83, .getfield 23, 3, 11, 3, 2, 0, []), (86, .getfield 97, 3, 10, 0, 2, 0, []), (89, .getfield 308, 3, 2, 2, 0, 0, []), (92, .ireturn, 1, 0, 0, 0, 0, []), (93, .aload_n 0, 1, 0, 0, 0, 0, []), (94, .getfield 23, 3, 11, 3, 2, 0, [])],
  [(97, .getfield 97, 3, 10, 0, 2, 0, []), (100, .getfield 161, 3, 2, 3, 0, 0, []), (103, .ireturn, 1, 0, 0, 0, 0, []), (104, .aload_n 0, 1, 0, 0, 0, 0, []), (105, .getfield 23, 3, 11, 3, 2, 0, []), (108, .getfield 108, 3, 10, 1, 2, 0, []), (111, .getfield 170, 3, 7, 3, 0, 0, [])],
  [(114, .ireturn, 1, 0, 0, 0, 0, []), (115, .aload_n 0, 1, 0, 0, 0, 0, []), (116, .getfield 23, 3, 11, 3, 2, 0, []), (119, .getfield 108, 3, 10, 1, 2, 0, []), (122, .getfield 319, 3, 7, 4, 0, 0, []), (125, .ireturn, 1, 0, 0, 0, 0, []), (126, .aload_n 0, 1, 0, 0, 0, 0, []), (127, .getfield 23, 3, 11, 3, 2, 0, [])],
  [(130, .getfield 108, 3, 10, 1, 2, 0, []), (133, .getfield 194, 3, 7, 5, 0, 0, []), (136, .ireturn, 1, 0, 0, 0, 0, []), (137, .aload_n 0, 1, 0, 0, 0, 0, []), (138, .getfield 23, 3, 11, 3, 2, 0, []), (141, .invokevirtual 241, 3, 116, 1, 1, 10, [])],
  [(144, .ireturn, 1, 0, 0, 0, 0, []), (145, .aload_n 0, 1, 0, 0, 0, 0, []), (146, .getfield 37, 3, 11, 5, 2, 0, []), (149, .getfield 203, 3, 3, 1, 0, 0, []), (152, .ireturn, 1, 0, 0, 0, 0, []), (153, .aload_n 0, 1, 0, 0, 0, 0, []), (154, .getfield 85, 3, 11, 1, 0, 0, []), (157, .ireturn, 1, 0, 0, 0, 0, []), (158, .aload_n 0, 1, 0, 0, 0, 0, []), (159, .getfield 23, 3, 11, 3, 2, 0, [])],
  [(162, .getfield 97, 3, 10, 0, 2, 0, []), (165, .getfield 117, 3, 2, 6, 0, 0, []), (168, .ireturn, 1, 0, 0, 0, 0, []), (169, .iconst (-1), 1, 0, 0, 0, (-1), []), (170, .ireturn, 1, 0, 0, 0, 0, [])]]
set_option maxRecDepth 20000 in
theorem t11_count_d : ∀ row ∈ t11_count, ∀ en ∈ row, decode cX11_count en.1 = .ok (en.2.1, en.2.2.1) := by decide +kernel
set_option maxRecDepth 20000 in
theorem t11_count_b : ∀ row ∈ t11_count, ∀ en ∈ row, okB 11 "count" (some .int) 1 en = true := by decide +kernel
def t11_isTray : List (List mE) := [[(0, .iload_n 0, 1, 0, 0, 0, 0, []), (1, .ifCond .lt 12, 3, 13, 0, 0, 0, []), (4, .iload_n 0, 1, 0, 0, 0, 0, []), (5, .iconst 4, 1, 0, 0, 0, 4, []), (6, .if_icmp .ge 7, 3, 13, 0, 0, 0, []), (9, .iconst 1, 1, 0, 0, 0, 1, []), (10, .goto 4, 3, 14, 0, 0, 0, []), (13, .iconst 0, 1, 0, 0, 0, 0, []), (14, .ireturn, 1, 1, 0, 0, 0, [])]]
set_option maxRecDepth 20000 in
theorem t11_isTray_d : ∀ row ∈ t11_isTray, ∀ en ∈ row, decode cX11_isTray en.1 = .ok (en.2.1, en.2.2.1) := by decide +kernel
set_option maxRecDepth 20000 in
theorem t11_isTray_b : ∀ row ∈ t11_isTray, ∀ en ∈ row, okB 11 "isTray" (some .boolean) 1 en = true := by decide +kernel
def t11_areTwo : List (List mE) := [[(0, .aload_n 0, 1, 0, 0, 0, 0, []), (1, .getfield 23, 3, 11, 3, 2, 0, []), (4, .iload_n 1, 1, 1, 0, 0, 0, []), (5, .invokevirtual 126, 3, 91, 2, 1, 10, []), (8, .ifCond .eq 23, 3, 31, 0, 0, 0, []), (11, .aload_n 0, 1, 0, 0, 0, 0, []), (12, .getfield 23, 3, 11, 3, 2, 0, []), (15, .iload_n 2, 1, 2, 0, 0, 0, [])],
  [(16, .invokevirtual 126, 3, 91, 2, 1, 10, []), (19, .ifCond .eq 12, 3, 31, 0, 0, 0, []), (22, .iload_n 1, 1, 1, 0, 0, 0, []), (23, .iload_n 2, 1, 2, 0, 0, 0, []), (24, .if_icmp .eq 7, 3, 31, 0, 0, 0, []), (27, .iconst 1, 1, 0, 0, 0, 1, []), (28, .goto 4, 3, 32, 0, 0, 0, []), (31, .iconst 0, 1, 0, 0, 0, 0, [])],
  [(32, .ireturn, 1, 1, 0, 0, 0, [])]]
set_option maxRecDepth 20000 in
theorem t11_areTwo_d : ∀ row ∈ t11_areTwo, ∀ en ∈ row, decode cX11_areTwo en.1 = .ok (en.2.1, en.2.2.1) := by decide +kernel
set_option maxRecDepth 20000 in
theorem t11_areTwo_b : ∀ row ∈ t11_areTwo, ∀ en ∈ row, okB 11 "areTwo" (some .boolean) 1 en = true := by decide +kernel
def t11_areMoments : List (List mE) := [[(0, .aload_n 0, 1, 0, 0, 0, 0, []), (1, .getfield 23, 3, 11, 3, 2, 0, []), (4, .iload_n 1, 1, 1, 0, 0, 0, []), (5, .invokevirtual 176, 3, 92, 2, 1, 10, []), (8, .ifCond .eq 18, 3, 26, 0, 0, 0, []), (11, .aload_n 0, 1, 0, 0, 0, 0, []), (12, .getfield 23, 3, 11, 3, 2, 0, []), (15, .iload_n 2, 1, 2, 0, 0, 0, [])],
  [(16, .invokevirtual 176, 3, 92, 2, 1, 10, []), (19, .ifCond .eq 7, 3, 26, 0, 0, 0, []), (22, .iconst 1, 1, 0, 0, 0, 1, []), (23, .goto 4, 3, 27, 0, 0, 0, []), (26, .iconst 0, 1, 0, 0, 0, 0, []), (27, .ireturn, 1, 1, 0, 0, 0, [])]]
set_option maxRecDepth 20000 in
theorem t11_areMoments_d : ∀ row ∈ t11_areMoments, ∀ en ∈ row, decode cX11_areMoments en.1 = .ok (en.2.1, en.2.2.1) := by decide +kernel
set_option maxRecDepth 20000 in
theorem t11_areMoments_b : ∀ row ∈ t11_areMoments, ∀ en ∈ row, okB 11 "areMoments" (some .boolean) 1 en = true := by decide +kernel
def t11_wiresBetween : List (List mE) := [[(0, .iconst 1, 1, 0, 0, 0, 1, []), (1, .iload_n 0, 1, 0, 0, 0, 0, []), (2, .iload_n 1, 1, 1, 0, 0, 0, []), (3, .invokestatic 394, 3, 1001, 2, 1, (-1), []), (6, .ishl, 1, 0, 0, 0, 0, []), (7, .iconst 1, 1, 0, 0, 0, 1, []), (8, .iload_n 0, 1, 0, 0, 0, 0, []), (9, .iload_n 1, 1, 1, 0, 0, 0, []), (10, .invokestatic 363, 3, 1002, 2, 1, (-1), []), (13, .ishl, 1, 0, 0, 0, 0, []), (14, .isub, 1, 0, 0, 0, 0, []), (15, .ireturn, 1, 0, 0, 0, 0, [])]]
set_option maxRecDepth 20000 in
theorem t11_wiresBetween_d : ∀ row ∈ t11_wiresBetween, ∀ en ∈ row, decode cX11_wiresBetween en.1 = .ok (en.2.1, en.2.2.1) := by decide +kernel
set_option maxRecDepth 20000 in
theorem t11_wiresBetween_b : ∀ row ∈ t11_wiresBetween, ∀ en ∈ row, okB 11 "wiresBetween" (some .int) 1 en = true := by decide +kernel
