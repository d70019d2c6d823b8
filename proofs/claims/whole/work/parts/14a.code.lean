/-! ===== the code of methods, row by row, and its test (printed by program) ===== -/

def t0_init : List (List mE) := [[(0, .aload_n 0, 1, 0, 0, 0, 0, []), (1, .invokespecial 3, 3, 1000, 1, 0, (-1), []), (4, .aload_n 0, 1, 0, 0, 0, 0, []), (5, .bipush 64, 2, 0, 0, 0, 64, []), (7, .newarray .int, 2, 1, 0, 0, 0, []), (9, .putfield 9, 3, 0, 1, 2, 0, []), (12, .aload_n 0, 1, 0, 0, 0, 0, []), (13, .bipush 8, 2, 0, 0, 0, 8, []), (15, .newarray .int, 2, 1, 0, 0, 0, [])],
  [(17, .putfield 15, 3, 0, 2, 2, 0, []), (20, .aload_n 0, 1, 0, 0, 0, 0, []), (21, .bipush 8, 2, 0, 0, 0, 8, []), (23, .newarray .int, 2, 1, 0, 0, 0, []), (25, .putfield 18, 3, 0, 3, 2, 0, []), (28, .aload_n 0, 1, 0, 0, 0, 0, []), (29, .aload_n 1, 1, 1, 0, 0, 0, []), (30, .putfield 21, 3, 0, 0, 2, 0, [])],
  [(33, .return_, 1, 0, 0, 0, 0, [])]]
set_option maxRecDepth 20000 in
theorem t0_init_d : ∀ row ∈ t0_init, ∀ en ∈ row, decode cX0_init en.1 = .ok (en.2.1, en.2.2.1) := by decide +kernel
set_option maxRecDepth 20000 in
theorem t0_init_b : ∀ row ∈ t0_init, ∀ en ∈ row, okB 0 "<init>" none 0 en = true := by decide +kernel
def t0_learn : List (List mE) := [[(0, .aload_n 0, 1, 0, 0, 0, 0, []), (1, .getfield 21, 3, 0, 0, 2, 0, []), (4, .getfield 25, 3, 10, 0, 2, 0, []), (7, .astore_n 1, 1, 1, 0, 0, 0, []), (8, .iconst 0, 1, 0, 0, 0, 0, []), (9, .istore_n 2, 1, 2, 0, 0, 0, []), (10, .iload_n 2, 1, 2, 0, 0, 0, []), (11, .aload_n 0, 1, 0, 0, 0, 0, []), (12, .getfield 9, 3, 0, 1, 2, 0, []), (15, .arraylength, 1, 0, 0, 0, 0, [])],
  [(16, .if_icmp .ge 16, 3, 32, 0, 0, 0, []), (19, .aload_n 0, 1, 0, 0, 0, 0, []), (20, .getfield 9, 3, 0, 1, 2, 0, []), (23, .iload_n 2, 1, 2, 0, 0, 0, []), (24, .iconst 0, 1, 0, 0, 0, 0, []), (25, .iastore, 1, 0, 0, 0, 0, []), (26, .iinc 2 1, 3, 2, 0, 0, 1, []), (29, .goto (-19), 3, 10, 0, 0, 0, [])],
  [(32, .iconst 0, 1, 0, 0, 0, 0, []), (33, .istore_n 2, 1, 2, 0, 0, 0, []), (34, .iload_n 2, 1, 2, 0, 0, 0, []), (35, .aload_n 1, 1, 1, 0, 0, 0, []), (36, .getfield 31, 3, 2, 0, 0, 0, []), (39, .if_icmp .ge 64, 3, 103, 0, 0, 0, []), (42, .iconst 0, 1, 0, 0, 0, 0, []), (43, .istore_n 3, 1, 3, 0, 0, 0, []), (44, .iload_n 3, 1, 3, 0, 0, 0, []), (45, .aload_n 1, 1, 1, 0, 0, 0, []), (46, .getfield 37, 3, 2, 2, 0, 0, [])],
  [(49, .if_icmp .ge 48, 3, 97, 0, 0, 0, []), (52, .aload_n 0, 1, 0, 0, 0, 0, []), (53, .getfield 21, 3, 0, 0, 2, 0, []), (56, .iload_n 2, 1, 2, 0, 0, 0, []), (57, .iload_n 3, 1, 3, 0, 0, 0, []), (58, .invokevirtual 40, 3, 95, 3, 1, 10, []), (61, .ifCond .eq 30, 3, 91, 0, 0, 0, [])],
  [(64, .aload_n 0, 1, 0, 0, 0, 0, []), (65, .getfield 9, 3, 0, 1, 2, 0, []), (68, .iload_n 2, 1, 2, 0, 0, 0, []), (69, .bipush 8, 2, 0, 0, 0, 8, []), (71, .imul, 1, 0, 0, 0, 0, []), (72, .aload_n 1, 1, 1, 0, 0, 0, []), (73, .getfield 44, 3, 2, 7, 2, 0, []), (76, .iload_n 3, 1, 3, 0, 0, 0, []), (77, .iaload, 1, 0, 0, 0, 0, []), (78, .iadd, 1, 0, 0, 0, 0, []), (79, .dup2, 1, 0, 0, 0, 0, [])],
  [(80, .iaload, 1, 0, 0, 0, 0, []), (81, .iconst 1, 1, 0, 0, 0, 1, []), (82, .aload_n 1, 1, 1, 0, 0, 0, []), (83, .getfield 47, 3, 2, 8, 2, 0, []), (86, .iload_n 3, 1, 3, 0, 0, 0, []), (87, .iaload, 1, 0, 0, 0, 0, []), (88, .ishl, 1, 0, 0, 0, 0, []), (89, .ior, 1, 0, 0, 0, 0, []), (90, .iastore, 1, 0, 0, 0, 0, []), (91, .iinc 3 1, 3, 3, 0, 0, 1, []), (94, .goto (-50), 3, 44, 0, 0, 0, [])],
  [(97, .iinc 2 1, 3, 2, 0, 0, 1, []), (100, .goto (-66), 3, 34, 0, 0, 0, []), (103, .return_, 1, 0, 0, 0, 0, [])]]
set_option maxRecDepth 20000 in
theorem t0_learn_d : ∀ row ∈ t0_learn, ∀ en ∈ row, decode cX0_learn en.1 = .ok (en.2.1, en.2.2.1) := by decide +kernel
set_option maxRecDepth 20000 in
theorem t0_learn_b : ∀ row ∈ t0_learn, ∀ en ∈ row, okB 0 "learn" none 0 en = true := by decide +kernel
def t0_turnsNeeded : List (List mE) := [[(0, .aload_n 0, 1, 0, 0, 0, 0, []), (1, .getfield 21, 3, 0, 0, 2, 0, []), (4, .getfield 50, 3, 10, 1, 2, 0, []), (7, .getfield 54, 3, 7, 0, 2, 0, []), (10, .iload_n 1, 1, 1, 0, 0, 0, []), (11, .iaload, 1, 0, 0, 0, 0, []), (12, .istore 4, 2, 4, 0, 0, 0, []), (14, .iload 4, 2, 4, 0, 0, 0, [])],
  [(16, .iload_n 2, 1, 2, 0, 0, 0, []), (17, .if_icmp .ne 5, 3, 22, 0, 0, 0, []), (20, .iconst 0, 1, 0, 0, 0, 0, []), (21, .ireturn, 1, 0, 0, 0, 0, []), (22, .aload_n 0, 1, 0, 0, 0, 0, []), (23, .getfield 21, 3, 0, 0, 2, 0, []), (26, .getfield 25, 3, 10, 0, 2, 0, []), (29, .getfield 31, 3, 2, 0, 0, 0, [])],
  [(32, .istore 5, 2, 5, 0, 0, 0, []), (34, .iconst 0, 1, 0, 0, 0, 0, []), (35, .istore 6, 2, 6, 0, 0, 0, []), (37, .iload 6, 2, 6, 0, 0, 0, []), (39, .iload 5, 2, 5, 0, 0, 0, []), (41, .if_icmp .ge 19, 3, 60, 0, 0, 0, []), (44, .aload_n 0, 1, 0, 0, 0, 0, []), (45, .getfield 15, 3, 0, 2, 2, 0, [])],
  [(48, .iload 6, 2, 6, 0, 0, 0, []), (50, .iconst 1, 1, 0, 0, 0, 1, []), (51, .iload_n 2, 1, 2, 0, 0, 0, []), (52, .ishl, 1, 0, 0, 0, 0, []), (53, .iastore, 1, 0, 0, 0, 0, []), (54, .iinc 6 1, 3, 6, 0, 0, 1, []), (57, .goto (-20), 3, 37, 0, 0, 0, []), (60, .iconst 1, 1, 0, 0, 0, 1, []), (61, .istore 6, 2, 6, 0, 0, 0, []), (63, .iload 6, 2, 6, 0, 0, 0, [])],
  [(65, .bipush 64, 2, 0, 0, 0, 64, []), (67, .if_icmp .gt 60, 3, 127, 0, 0, 0, []), (70, .aload_n 0, 1, 0, 0, 0, 0, []), (71, .iload_n 3, 1, 3, 0, 0, 0, []), (72, .invokevirtual 59, 3, 3, 2, 1, 0, []), (75, .ifCond .ne 5, 3, 80, 0, 0, 0, []), (78, .iconst (-1), 1, 0, 0, 0, (-1), []), (79, .ireturn, 1, 0, 0, 0, 0, [])],
  [(80, .aload_n 0, 1, 0, 0, 0, 0, []), (81, .getfield 18, 3, 0, 3, 2, 0, []), (84, .aload_n 0, 1, 0, 0, 0, 0, []), (85, .getfield 21, 3, 0, 0, 2, 0, []), (88, .getfield 50, 3, 10, 1, 2, 0, []), (91, .getfield 63, 3, 7, 4, 0, 0, []), (94, .iaload, 1, 0, 0, 0, 0, []), (95, .iload 4, 2, 4, 0, 0, 0, [])],
  [(97, .ishr, 1, 0, 0, 0, 0, []), (98, .iconst 1, 1, 0, 0, 0, 1, []), (99, .iand, 1, 0, 0, 0, 0, []), (100, .ifCond .eq 6, 3, 106, 0, 0, 0, []), (103, .iload 6, 2, 6, 0, 0, 0, []), (105, .ireturn, 1, 0, 0, 0, 0, []), (106, .aload_n 0, 1, 0, 0, 0, 0, []), (107, .getfield 18, 3, 0, 3, 2, 0, []), (110, .iconst 0, 1, 0, 0, 0, 0, []), (111, .aload_n 0, 1, 0, 0, 0, 0, [])],
  [(112, .getfield 15, 3, 0, 2, 2, 0, []), (115, .iconst 0, 1, 0, 0, 0, 0, []), (116, .iload 5, 2, 5, 0, 0, 0, []), (118, .invokestatic 66, 3, 1006, 5, 0, (-1), []), (121, .iinc 6 1, 3, 6, 0, 0, 1, []), (124, .goto (-61), 3, 63, 0, 0, 0, []), (127, .iconst (-1), 1, 0, 0, 0, (-1), [])],
  [(128, .ireturn, 1, 0, 0, 0, 0, [])]]
set_option maxRecDepth 20000 in
theorem t0_turnsNeeded_d : ∀ row ∈ t0_turnsNeeded, ∀ en ∈ row, decode cX0_turnsNeeded en.1 = .ok (en.2.1, en.2.2.1) := by decide +kernel
set_option maxRecDepth 20000 in
theorem t0_turnsNeeded_b : ∀ row ∈ t0_turnsNeeded, ∀ en ∈ row, okB 0 "turnsNeeded" (some .int) 1 en = true := by decide +kernel
def t0_widen : List (List mE) := [[(0, .iconst 0, 1, 0, 0, 0, 0, []), (1, .istore_n 2, 1, 2, 0, 0, 0, []), (2, .iconst 0, 1, 0, 0, 0, 0, []), (3, .istore_n 3, 1, 3, 0, 0, 0, []), (4, .iload_n 3, 1, 3, 0, 0, 0, []), (5, .aload_n 0, 1, 0, 0, 0, 0, []), (6, .getfield 21, 3, 0, 0, 2, 0, []), (9, .getfield 25, 3, 10, 0, 2, 0, []), (12, .getfield 31, 3, 2, 0, 0, 0, []), (15, .if_icmp .ge 135, 3, 150, 0, 0, 0, [])],
  [(18, .aload_n 0, 1, 0, 0, 0, 0, []), (19, .getfield 15, 3, 0, 2, 2, 0, []), (22, .aload_n 0, 1, 0, 0, 0, 0, []), (23, .getfield 21, 3, 0, 0, 2, 0, []), (26, .iload_n 3, 1, 3, 0, 0, 0, []), (27, .invokevirtual 72, 3, 108, 2, 1, 10, []), (30, .iaload, 1, 0, 0, 0, 0, []), (31, .istore 4, 2, 4, 0, 0, 0, [])],
  [(33, .iload_n 1, 1, 1, 0, 0, 0, []), (34, .iload_n 3, 1, 3, 0, 0, 0, []), (35, .ishr, 1, 0, 0, 0, 0, []), (36, .iconst 1, 1, 0, 0, 0, 1, []), (37, .iand, 1, 0, 0, 0, 0, []), (38, .ifCond .eq 7, 3, 45, 0, 0, 0, []), (41, .iconst 1, 1, 0, 0, 0, 1, []), (42, .goto 4, 3, 46, 0, 0, 0, []), (45, .iconst 0, 1, 0, 0, 0, 0, []), (46, .istore 5, 2, 5, 0, 0, 0, [])],
  [(48, .aload_n 0, 1, 0, 0, 0, 0, []), (49, .getfield 18, 3, 0, 3, 2, 0, []), (52, .iload_n 3, 1, 3, 0, 0, 0, []), (53, .aload_n 0, 1, 0, 0, 0, 0, []), (54, .getfield 15, 3, 0, 2, 2, 0, []), (57, .iload_n 3, 1, 3, 0, 0, 0, []), (58, .iaload, 1, 0, 0, 0, 0, []), (59, .iastore, 1, 0, 0, 0, 0, []), (60, .iconst 0, 1, 0, 0, 0, 0, []), (61, .istore 6, 2, 6, 0, 0, 0, []), (63, .iload 6, 2, 6, 0, 0, 0, [])],
  [(65, .aload_n 0, 1, 0, 0, 0, 0, []), (66, .getfield 21, 3, 0, 0, 2, 0, []), (69, .getfield 25, 3, 10, 0, 2, 0, []), (72, .getfield 76, 3, 2, 1, 0, 0, []), (75, .if_icmp .ge 46, 3, 121, 0, 0, 0, []), (78, .aload_n 0, 1, 0, 0, 0, 0, []), (79, .getfield 9, 3, 0, 1, 2, 0, [])],
  [(82, .iload_n 3, 1, 3, 0, 0, 0, []), (83, .bipush 8, 2, 0, 0, 0, 8, []), (85, .imul, 1, 0, 0, 0, 0, []), (86, .iload 6, 2, 6, 0, 0, 0, []), (88, .iadd, 1, 0, 0, 0, 0, []), (89, .iaload, 1, 0, 0, 0, 0, []), (90, .iload 6, 2, 6, 0, 0, 0, []), (92, .iload 4, 2, 4, 0, 0, 0, []), (94, .iload 5, 2, 5, 0, 0, 0, [])],
  [(96, .invokestatic 78, 3, 4, 4, 1, (-1), []), (99, .ifCond .eq 16, 3, 115, 0, 0, 0, []), (102, .aload_n 0, 1, 0, 0, 0, 0, []), (103, .getfield 18, 3, 0, 3, 2, 0, []), (106, .iload_n 3, 1, 3, 0, 0, 0, []), (107, .dup2, 1, 0, 0, 0, 0, []), (108, .iaload, 1, 0, 0, 0, 0, []), (109, .iconst 1, 1, 0, 0, 0, 1, []), (110, .iload 6, 2, 6, 0, 0, 0, [])],
  [(112, .ishl, 1, 0, 0, 0, 0, []), (113, .ior, 1, 0, 0, 0, 0, []), (114, .iastore, 1, 0, 0, 0, 0, []), (115, .iinc 6 1, 3, 6, 0, 0, 1, []), (118, .goto (-55), 3, 63, 0, 0, 0, []), (121, .iload_n 2, 1, 2, 0, 0, 0, []), (122, .aload_n 0, 1, 0, 0, 0, 0, []), (123, .getfield 18, 3, 0, 3, 2, 0, []), (126, .iload_n 3, 1, 3, 0, 0, 0, []), (127, .iaload, 1, 0, 0, 0, 0, [])],
  [(128, .aload_n 0, 1, 0, 0, 0, 0, []), (129, .getfield 15, 3, 0, 2, 2, 0, []), (132, .iload_n 3, 1, 3, 0, 0, 0, []), (133, .iaload, 1, 0, 0, 0, 0, []), (134, .if_icmp .eq 7, 3, 141, 0, 0, 0, []), (137, .iconst 1, 1, 0, 0, 0, 1, []), (138, .goto 4, 3, 142, 0, 0, 0, []), (141, .iconst 0, 1, 0, 0, 0, 0, []), (142, .ior, 1, 0, 0, 0, 0, []), (143, .istore_n 2, 1, 2, 0, 0, 0, [])],
  [(144, .iinc 3 1, 3, 3, 0, 0, 1, []), (147, .goto (-143), 3, 4, 0, 0, 0, []), (150, .iload_n 2, 1, 2, 0, 0, 0, []), (151, .ireturn, 1, 1, 0, 0, 0, [])]]
set_option maxRecDepth 20000 in
theorem t0_widen_d : ∀ row ∈ t0_widen, ∀ en ∈ row, decode cX0_widen en.1 = .ok (en.2.1, en.2.2.1) := by decide +kernel
set_option maxRecDepth 20000 in
theorem t0_widen_b : ∀ row ∈ t0_widen, ∀ en ∈ row, okB 0 "widen" (some .boolean) 1 en = true := by decide +kernel
def t0_leadsInto : List (List mE) := [[(0, .iload_n 0, 1, 0, 0, 0, 0, []), (1, .ifCond .ne 17, 3, 18, 0, 0, 0, []), (4, .iload_n 2, 1, 2, 0, 0, 0, []), (5, .iload_n 1, 1, 1, 0, 0, 0, []), (6, .ishr, 1, 0, 0, 0, 0, []), (7, .iconst 1, 1, 0, 0, 0, 1, []), (8, .iand, 1, 0, 0, 0, 0, []), (9, .ifCond .eq 7, 3, 16, 0, 0, 0, []), (12, .iconst 1, 1, 0, 0, 0, 1, []), (13, .goto 4, 3, 17, 0, 0, 0, [])],
  [(16, .iconst 0, 1, 0, 0, 0, 0, []), (17, .ireturn, 1, 1, 0, 0, 0, []), (18, .iload_n 3, 1, 3, 0, 0, 0, []), (19, .ifCond .eq 17, 3, 36, 0, 0, 0, []), (22, .iload_n 0, 1, 0, 0, 0, 0, []), (23, .iload_n 2, 1, 2, 0, 0, 0, []), (24, .iand, 1, 0, 0, 0, 0, []), (25, .ifCond .eq 7, 3, 32, 0, 0, 0, []), (28, .iconst 1, 1, 0, 0, 0, 1, []), (29, .goto 20, 3, 49, 0, 0, 0, [])],
  [(32, .iconst 0, 1, 0, 0, 0, 0, []), (33, .goto 16, 3, 49, 0, 0, 0, []), (36, .iload_n 0, 1, 0, 0, 0, 0, []), (37, .iload_n 2, 1, 2, 0, 0, 0, []), (38, .iconst (-1), 1, 0, 0, 0, (-1), []), (39, .ixor, 1, 0, 0, 0, 0, []), (40, .iand, 1, 0, 0, 0, 0, []), (41, .ifCond .ne 7, 3, 48, 0, 0, 0, []), (44, .iconst 1, 1, 0, 0, 0, 1, []), (45, .goto 4, 3, 49, 0, 0, 0, [])],
  [(48, .iconst 0, 1, 0, 0, 0, 0, []), (49, .ireturn, 1, 1, 0, 0, 0, [])]]
set_option maxRecDepth 20000 in
theorem t0_leadsInto_d : ∀ row ∈ t0_leadsInto, ∀ en ∈ row, decode cX0_leadsInto en.1 = .ok (en.2.1, en.2.2.1) := by decide +kernel
set_option maxRecDepth 20000 in
theorem t0_leadsInto_b : ∀ row ∈ t0_leadsInto, ∀ en ∈ row, okB 0 "leadsInto" (some .boolean) 1 en = true := by decide +kernel
def t0_firstBest : List (List mE) := [[(0, .aload_n 0, 1, 0, 0, 0, 0, []), (1, .iload_n 1, 1, 1, 0, 0, 0, []), (2, .iload_n 2, 1, 2, 0, 0, 0, []), (3, .iconst 1, 1, 0, 0, 0, 1, []), (4, .iload_n 1, 1, 1, 0, 0, 0, []), (5, .ishl, 1, 0, 0, 0, 0, []), (6, .invokevirtual 82, 3, 2, 4, 1, 0, []), (9, .iconst 1, 1, 0, 0, 0, 1, []), (10, .if_icmp .ge 5, 3, 15, 0, 0, 0, []), (13, .iconst (-1), 1, 0, 0, 0, (-1), []), (14, .ireturn, 1, 0, 0, 0, 0, []), (15, .aload_n 0, 1, 0, 0, 0, 0, [])],
  [(16, .getfield 21, 3, 0, 0, 2, 0, []), (19, .getfield 25, 3, 10, 0, 2, 0, []), (22, .astore_n 3, 1, 3, 0, 0, 0, []), (23, .aload_n 0, 1, 0, 0, 0, 0, []), (24, .getfield 15, 3, 0, 2, 2, 0, []), (27, .aload_n 0, 1, 0, 0, 0, 0, []), (28, .getfield 21, 3, 0, 0, 2, 0, []), (31, .iload_n 1, 1, 1, 0, 0, 0, [])],
  [(32, .invokevirtual 72, 3, 108, 2, 1, 10, []), (35, .iaload, 1, 0, 0, 0, 0, []), (36, .istore 4, 2, 4, 0, 0, 0, []), (38, .aload_n 0, 1, 0, 0, 0, 0, []), (39, .getfield 21, 3, 0, 0, 2, 0, []), (42, .iload_n 1, 1, 1, 0, 0, 0, []), (43, .invokevirtual 86, 3, 96, 2, 1, 10, []), (46, .aload_n 3, 1, 3, 0, 0, 0, []), (47, .aload_n 0, 1, 0, 0, 0, 0, [])],
  [(48, .getfield 21, 3, 0, 0, 2, 0, []), (51, .getfield 50, 3, 10, 1, 2, 0, []), (54, .getfield 54, 3, 7, 0, 2, 0, []), (57, .iload_n 1, 1, 1, 0, 0, 0, []), (58, .iaload, 1, 0, 0, 0, 0, []), (59, .invokevirtual 89, 3, 24, 2, 1, 2, []), (62, .iand, 1, 0, 0, 0, 0, []), (63, .istore 5, 2, 5, 0, 0, 0, [])],
  [(65, .iconst 0, 1, 0, 0, 0, 0, []), (66, .istore 6, 2, 6, 0, 0, 0, []), (68, .iload 6, 2, 6, 0, 0, 0, []), (70, .aload_n 3, 1, 3, 0, 0, 0, []), (71, .getfield 37, 3, 2, 2, 0, 0, []), (74, .if_icmp .ge 37, 3, 111, 0, 0, 0, []), (77, .iload 5, 2, 5, 0, 0, 0, []), (79, .iload 6, 2, 6, 0, 0, 0, [])],
  [(81, .ishr, 1, 0, 0, 0, 0, []), (82, .iconst 1, 1, 0, 0, 0, 1, []), (83, .iand, 1, 0, 0, 0, 0, []), (84, .ifCond .eq 21, 3, 105, 0, 0, 0, []), (87, .iload 4, 2, 4, 0, 0, 0, []), (89, .aload_n 3, 1, 3, 0, 0, 0, []), (90, .getfield 47, 3, 2, 8, 2, 0, []), (93, .iload 6, 2, 6, 0, 0, 0, []), (95, .iaload, 1, 0, 0, 0, 0, [])],
  [(96, .ishr, 1, 0, 0, 0, 0, []), (97, .iconst 1, 1, 0, 0, 0, 1, []), (98, .iand, 1, 0, 0, 0, 0, []), (99, .ifCond .eq 6, 3, 105, 0, 0, 0, []), (102, .iload 6, 2, 6, 0, 0, 0, []), (104, .ireturn, 1, 0, 0, 0, 0, []), (105, .iinc 6 1, 3, 6, 0, 0, 1, []), (108, .goto (-40), 3, 68, 0, 0, 0, []), (111, .iconst (-1), 1, 0, 0, 0, (-1), [])],
  [(112, .ireturn, 1, 0, 0, 0, 0, [])]]
set_option maxRecDepth 20000 in
theorem t0_firstBest_d : ∀ row ∈ t0_firstBest, ∀ en ∈ row, decode cX0_firstBest en.1 = .ok (en.2.1, en.2.2.1) := by decide +kernel
set_option maxRecDepth 20000 in
theorem t0_firstBest_b : ∀ row ∈ t0_firstBest, ∀ en ∈ row, okB 0 "firstBest" (some .int) 1 en = true := by decide +kernel
def t1_init : List (List mE) := [[(0, .aload_n 0, 1, 0, 0, 0, 0, []), (1, .invokespecial 3, 3, 1000, 1, 0, (-1), []), (4, .aload_n 0, 1, 0, 0, 0, 0, []), (5, .bipush 64, 2, 0, 0, 0, 64, []), (7, .newarray .int, 2, 1, 0, 0, 0, []), (9, .putfield 9, 3, 1, 3, 2, 0, []), (12, .return_, 1, 0, 0, 0, 0, [])]]
set_option maxRecDepth 20000 in
theorem t1_init_d : ∀ row ∈ t1_init, ∀ en ∈ row, decode cX1_init en.1 = .ok (en.2.1, en.2.2.1) := by decide +kernel
set_option maxRecDepth 20000 in
theorem t1_init_b : ∀ row ∈ t1_init, ∀ en ∈ row, okB 1 "<init>" none 0 en = true := by decide +kernel
def t1_begin : List (List mE) := [[(0, .aload_n 0, 1, 0, 0, 0, 0, []), (1, .iload_n 1, 1, 1, 0, 0, 0, []), (2, .putfield 15, 3, 1, 2, 0, 0, []), (5, .aload_n 0, 1, 0, 0, 0, 0, []), (6, .aload_n 2, 1, 2, 0, 0, 0, []), (7, .putfield 19, 3, 1, 1, 2, 0, []), (10, .aload_n 0, 1, 0, 0, 0, 0, []), (11, .getfield 19, 3, 1, 1, 2, 0, []), (14, .getfield 23, 3, 2, 14, 2, 0, [])],
  [(17, .aload_n 0, 1, 0, 0, 0, 0, []), (18, .getfield 15, 3, 1, 2, 0, 0, []), (21, .aload_n 0, 1, 0, 0, 0, 0, []), (22, .getfield 19, 3, 1, 1, 2, 0, []), (25, .getfield 28, 3, 2, 13, 0, 0, []), (28, .iastore, 1, 0, 0, 0, 0, []), (29, .aload_n 0, 1, 0, 0, 0, 0, []), (30, .getfield 19, 3, 1, 1, 2, 0, [])],
  [(33, .getfield 31, 3, 2, 15, 2, 0, []), (36, .aload_n 0, 1, 0, 0, 0, 0, []), (37, .getfield 15, 3, 1, 2, 0, 0, []), (40, .iconst 0, 1, 0, 0, 0, 0, []), (41, .iastore, 1, 0, 0, 0, 0, []), (42, .aload_n 0, 1, 0, 0, 0, 0, []), (43, .iconst 0, 1, 0, 0, 0, 0, []), (44, .putfield 34, 3, 1, 4, 0, 0, []), (47, .aload_n 0, 1, 0, 0, 0, 0, [])],
  [(48, .iconst 0, 1, 0, 0, 0, 0, []), (49, .putfield 37, 3, 1, 5, 0, 0, []), (52, .aload_n 0, 1, 0, 0, 0, 0, []), (53, .iconst 0, 1, 0, 0, 0, 0, []), (54, .putfield 40, 3, 1, 6, 0, 0, []), (57, .aload_n 0, 1, 0, 0, 0, 0, []), (58, .iconst 0, 1, 0, 0, 0, 0, []), (59, .putfield 43, 3, 1, 7, 0, 0, []), (62, .aload_n 0, 1, 0, 0, 0, 0, []), (63, .iconst 0, 1, 0, 0, 0, 0, [])],
  [(64, .putfield 46, 3, 1, 0, 5, 0, []), (67, .aload_n 0, 1, 0, 0, 0, 0, []), (68, .invokevirtual 50, 3, 8, 1, 0, 1, []), (71, .aload_n 0, 1, 0, 0, 0, 0, []), (72, .getfield 15, 3, 1, 2, 0, 0, []), (75, .iconst 2, 1, 0, 0, 0, 2, []), (76, .if_icmp .ne 8, 3, 84, 0, 0, 0, []), (79, .aload_n 0, 1, 0, 0, 0, 0, [])],
  [(80, .iconst 1, 1, 0, 0, 0, 1, []), (81, .putfield 53, 3, 1, 8, 0, 0, []), (84, .return_, 1, 0, 0, 0, 0, [])]]
set_option maxRecDepth 20000 in
theorem t1_begin_d : ∀ row ∈ t1_begin, ∀ en ∈ row, decode cX1_begin en.1 = .ok (en.2.1, en.2.2.1) := by decide +kernel
set_option maxRecDepth 20000 in
theorem t1_begin_b : ∀ row ∈ t1_begin, ∀ en ∈ row, okB 1 "begin" none 0 en = true := by decide +kernel
def t1_beginUnit : List (List mE) := [[(0, .aload_n 0, 1, 0, 0, 0, 0, []), (1, .iconst 0, 1, 0, 0, 0, 0, []), (2, .putfield 53, 3, 1, 8, 0, 0, []), (5, .aload_n 0, 1, 0, 0, 0, 0, []), (6, .iconst 0, 1, 0, 0, 0, 0, []), (7, .putfield 56, 3, 1, 9, 5, 0, []), (10, .return_, 1, 0, 0, 0, 0, [])]]
set_option maxRecDepth 20000 in
theorem t1_beginUnit_d : ∀ row ∈ t1_beginUnit, ∀ en ∈ row, decode cX1_beginUnit en.1 = .ok (en.2.1, en.2.2.1) := by decide +kernel
set_option maxRecDepth 20000 in
theorem t1_beginUnit_b : ∀ row ∈ t1_beginUnit, ∀ en ∈ row, okB 1 "beginUnit" none 0 en = true := by decide +kernel
def t1_take : List (List mE) := [[(0, .aload_n 0, 1, 0, 0, 0, 0, []), (1, .getfield 19, 3, 1, 1, 2, 0, []), (4, .ifnonnull 5, 3, 9, 0, 0, 0, []), (7, .iconst 2, 1, 0, 0, 0, 2, []), (8, .ireturn, 1, 0, 0, 0, 0, []), (9, .aload_n 0, 1, 0, 0, 0, 0, []), (10, .getfield 53, 3, 1, 8, 0, 0, []), (13, .ifCond .eq 11, 3, 24, 0, 0, 0, [])],
  [(16, .aload_n 0, 1, 0, 0, 0, 0, []), (17, .getfield 53, 3, 1, 8, 0, 0, []), (20, .iconst 1, 1, 0, 0, 0, 1, []), (21, .if_icmp .ne 26, 3, 47, 0, 0, 0, []), (24, .aload_n 0, 1, 0, 0, 0, 0, []), (25, .iload_n 1, 1, 1, 0, 0, 0, []), (26, .invokevirtual 59, 3, 10, 2, 1, 1, []), (29, .ifCond .eq 11, 3, 40, 0, 0, 0, [])],
  [(32, .aload_n 0, 1, 0, 0, 0, 0, []), (33, .iload_n 1, 1, 1, 0, 0, 0, []), (34, .invokevirtual 63, 3, 11, 2, 1, 1, []), (37, .goto 9, 3, 46, 0, 0, 0, []), (40, .aload_n 0, 1, 0, 0, 0, 0, []), (41, .iload_n 1, 1, 1, 0, 0, 0, []), (42, .iload_n 2, 1, 2, 0, 0, 0, []), (43, .invokevirtual 67, 3, 12, 3, 1, 1, []), (46, .ireturn, 1, 0, 0, 0, 0, []), (47, .aload_n 0, 1, 0, 0, 0, 0, [])],
  [(48, .iload_n 1, 1, 1, 0, 0, 0, []), (49, .invokevirtual 71, 3, 14, 2, 1, 1, []), (52, .ifCond .ne 5, 3, 57, 0, 0, 0, []), (55, .iconst 2, 1, 0, 0, 0, 2, []), (56, .ireturn, 1, 0, 0, 0, 0, []), (57, .aload_n 0, 1, 0, 0, 0, 0, []), (58, .iconst 1, 1, 0, 0, 0, 1, []), (59, .iload_n 1, 1, 1, 0, 0, 0, []), (60, .invokestatic 74, 3, 19, 1, 1, (-1), []), (63, .invokestatic 77, 3, 1001, 2, 1, (-1), [])],
  [(66, .invokevirtual 82, 3, 18, 2, 0, 1, []), (69, .aload_n 0, 1, 0, 0, 0, 0, []), (70, .iload_n 1, 1, 1, 0, 0, 0, []), (71, .invokevirtual 86, 3, 15, 2, 0, 1, []), (74, .iconst 0, 1, 0, 0, 0, 0, []), (75, .ireturn, 1, 0, 0, 0, 0, [])]]
set_option maxRecDepth 20000 in
theorem t1_take_d : ∀ row ∈ t1_take, ∀ en ∈ row, decode cX1_take en.1 = .ok (en.2.1, en.2.2.1) := by decide +kernel
set_option maxRecDepth 20000 in
theorem t1_take_b : ∀ row ∈ t1_take, ∀ en ∈ row, okB 1 "take" (some .int) 1 en = true := by decide +kernel
def t1_opens : List (List mE) := [[(0, .iload_n 1, 1, 1, 0, 0, 0, []), (1, .bipush 40, 2, 0, 0, 0, 40, []), (3, .if_icmp .eq 23, 3, 26, 0, 0, 0, []), (6, .aload_n 0, 1, 0, 0, 0, 0, []), (7, .getfield 53, 3, 1, 8, 0, 0, []), (10, .ifCond .ne 20, 3, 30, 0, 0, 0, []), (13, .iload_n 1, 1, 1, 0, 0, 0, []), (14, .bipush 91, 2, 0, 0, 0, 91, [])],
  [(16, .if_icmp .eq 10, 3, 26, 0, 0, 0, []), (19, .iload_n 1, 1, 1, 0, 0, 0, []), (20, .sipush 273, 3, 0, 0, 0, 273, []), (23, .if_icmp .ne 7, 3, 30, 0, 0, 0, []), (26, .iconst 1, 1, 0, 0, 0, 1, []), (27, .goto 4, 3, 31, 0, 0, 0, []), (30, .iconst 0, 1, 0, 0, 0, 0, []), (31, .ireturn, 1, 1, 0, 0, 0, [])]]
set_option maxRecDepth 20000 in
theorem t1_opens_d : ∀ row ∈ t1_opens, ∀ en ∈ row, decode cX1_opens en.1 = .ok (en.2.1, en.2.2.1) := by decide +kernel
set_option maxRecDepth 20000 in
theorem t1_opens_b : ∀ row ∈ t1_opens, ∀ en ∈ row, okB 1 "opens" (some .boolean) 1 en = true := by decide +kernel
def t1_takeOpening : List (List mE) := [[(0, .aload_n 0, 1, 0, 0, 0, 0, []), (1, .getfield 37, 3, 1, 5, 0, 0, []), (4, .aload_n 0, 1, 0, 0, 0, 0, []), (5, .getfield 40, 3, 1, 6, 0, 0, []), (8, .iadd, 1, 0, 0, 0, 0, []), (9, .aload_n 0, 1, 0, 0, 0, 0, []), (10, .getfield 43, 3, 1, 7, 0, 0, []), (13, .iadd, 1, 0, 0, 0, 0, []), (14, .bipush 6, 2, 0, 0, 0, 6, [])],
  [(16, .if_icmp .lt 5, 3, 21, 0, 0, 0, []), (19, .iconst 4, 1, 0, 0, 0, 4, []), (20, .ireturn, 1, 0, 0, 0, 0, []), (21, .aload_n 0, 1, 0, 0, 0, 0, []), (22, .iload_n 1, 1, 1, 0, 0, 0, []), (23, .invokevirtual 89, 3, 17, 2, 0, 1, []), (26, .iload_n 1, 1, 1, 0, 0, 0, []), (27, .lookupswitch 60 #[(40, 25), (91, 43)], 25, 87, 0, 0, 0, [(40, 52), (91, 70)])],
  [],
  [(52, .aload_n 0, 1, 0, 0, 0, 0, []), (53, .dup, 1, 0, 0, 0, 0, []), (54, .getfield 40, 3, 1, 6, 0, 0, []), (57, .iconst 1, 1, 0, 0, 0, 1, []), (58, .iadd, 1, 0, 0, 0, 0, []), (59, .putfield 40, 3, 1, 6, 0, 0, []), (62, .aload_n 0, 1, 0, 0, 0, 0, []), (63, .iconst 1, 1, 0, 0, 0, 1, [])],
  [(64, .putfield 53, 3, 1, 8, 0, 0, []), (67, .goto 34, 3, 101, 0, 0, 0, []), (70, .aload_n 0, 1, 0, 0, 0, 0, []), (71, .dup, 1, 0, 0, 0, 0, []), (72, .getfield 43, 3, 1, 7, 0, 0, []), (75, .iconst 1, 1, 0, 0, 0, 1, []), (76, .iadd, 1, 0, 0, 0, 0, []), (77, .putfield 43, 3, 1, 7, 0, 0, [])],
  [(80, .aload_n 0, 1, 0, 0, 0, 0, []), (81, .invokevirtual 50, 3, 8, 1, 0, 1, []), (84, .goto 17, 3, 101, 0, 0, 0, []), (87, .aload_n 0, 1, 0, 0, 0, 0, []), (88, .dup, 1, 0, 0, 0, 0, []), (89, .getfield 37, 3, 1, 5, 0, 0, []), (92, .iconst 1, 1, 0, 0, 0, 1, []), (93, .iadd, 1, 0, 0, 0, 0, []), (94, .putfield 37, 3, 1, 5, 0, 0, [])],
  [(97, .aload_n 0, 1, 0, 0, 0, 0, []), (98, .invokevirtual 50, 3, 8, 1, 0, 1, []), (101, .iconst 0, 1, 0, 0, 0, 0, []), (102, .ireturn, 1, 0, 0, 0, 0, [])]]
set_option maxRecDepth 20000 in
theorem t1_takeOpening_d : ∀ row ∈ t1_takeOpening, ∀ en ∈ row, decode cX1_takeOpening en.1 = .ok (en.2.1, en.2.2.1) := by decide +kernel
set_option maxRecDepth 20000 in
theorem t1_takeOpening_b : ∀ row ∈ t1_takeOpening, ∀ en ∈ row, okB 1 "takeOpening" (some .int) 1 en = true := by decide +kernel
def t1_takeAtom : List (List mE) := [[(0, .aload_n 0, 1, 0, 0, 0, 0, []), (1, .iload_n 1, 1, 1, 0, 0, 0, []), (2, .invokevirtual 92, 3, 13, 2, 1, 1, []), (5, .istore_n 3, 1, 3, 0, 0, 0, []), (6, .iload_n 1, 1, 1, 0, 0, 0, []), (7, .iconst 2, 1, 0, 0, 0, 2, []), (8, .if_icmp .eq 10, 3, 18, 0, 0, 0, []), (11, .iload_n 3, 1, 3, 0, 0, 0, []), (12, .iconst (-1), 1, 0, 0, 0, (-1), []), (13, .if_icmp .ne 5, 3, 18, 0, 0, 0, [])],
  [(16, .iconst 2, 1, 0, 0, 0, 2, []), (17, .ireturn, 1, 0, 0, 0, 0, []), (18, .aload_n 0, 1, 0, 0, 0, 0, []), (19, .getfield 19, 3, 1, 1, 2, 0, []), (22, .iload_n 1, 1, 1, 0, 0, 0, []), (23, .iconst 2, 1, 0, 0, 0, 2, []), (24, .if_icmp .ne 7, 3, 31, 0, 0, 0, []), (27, .iload_n 2, 1, 2, 0, 0, 0, []), (28, .goto 6, 3, 34, 0, 0, 0, []), (31, .iconst (-1), 1, 0, 0, 0, (-1), [])],
  [(32, .iload_n 3, 1, 3, 0, 0, 0, []), (33, .isub, 1, 0, 0, 0, 0, []), (34, .invokevirtual 95, 3, 23, 2, 0, 2, []), (37, .aload_n 0, 1, 0, 0, 0, 0, []), (38, .iconst 2, 1, 0, 0, 0, 2, []), (39, .putfield 53, 3, 1, 8, 0, 0, []), (42, .iconst 0, 1, 0, 0, 0, 0, []), (43, .ireturn, 1, 0, 0, 0, 0, [])]]
set_option maxRecDepth 20000 in
theorem t1_takeAtom_d : ∀ row ∈ t1_takeAtom, ∀ en ∈ row, decode cX1_takeAtom en.1 = .ok (en.2.1, en.2.2.1) := by decide +kernel
set_option maxRecDepth 20000 in
theorem t1_takeAtom_b : ∀ row ∈ t1_takeAtom, ∀ en ∈ row, okB 1 "takeAtom" (some .int) 1 en = true := by decide +kernel
def t1_nameOf : List (List mE) := [[(0, .iload_n 1, 1, 1, 0, 0, 0, []), (1, .tableswitch 180 258 277 #[99, 125, 180, 95, 180, 97, 180, 180, 180, 180, 180, 180, 180, 180, 180, 180, 112, 138, 152, 166], 95, 181, 0, 0, 0, [(258, 100), (259, 126), (260, 181), (261, 96), (262, 181), (263, 98), (264, 181), (265, 181), (266, 181), (267, 181), (268, 181), (269, 181), (270, 181), (271, 181), (272, 181), (273, 181), (274, 113), (275, 139), (276, 153), (277, 167)])],
  [],
  [],
  [],
  [],
  [],
  [(96, .iconst 0, 1, 0, 0, 0, 0, []), (97, .ireturn, 1, 0, 0, 0, 0, []), (98, .iconst 1, 1, 0, 0, 0, 1, []), (99, .ireturn, 1, 0, 0, 0, 0, []), (100, .aload_n 0, 1, 0, 0, 0, 0, []), (101, .getfield 15, 3, 1, 2, 0, 0, []), (104, .ifCond .ne 7, 3, 111, 0, 0, 0, []), (107, .iconst 2, 1, 0, 0, 0, 2, []), (108, .goto 4, 3, 112, 0, 0, 0, []), (111, .iconst (-1), 1, 0, 0, 0, (-1), [])],
  [(112, .ireturn, 1, 0, 0, 0, 0, []), (113, .aload_n 0, 1, 0, 0, 0, 0, []), (114, .getfield 15, 3, 1, 2, 0, 0, []), (117, .ifCond .ne 7, 3, 124, 0, 0, 0, []), (120, .iconst 3, 1, 0, 0, 0, 3, []), (121, .goto 4, 3, 125, 0, 0, 0, []), (124, .iconst (-1), 1, 0, 0, 0, (-1), []), (125, .ireturn, 1, 0, 0, 0, 0, []), (126, .aload_n 0, 1, 0, 0, 0, 0, []), (127, .getfield 15, 3, 1, 2, 0, 0, [])],
  [(130, .ifCond .ne 7, 3, 137, 0, 0, 0, []), (133, .iconst 4, 1, 0, 0, 0, 4, []), (134, .goto 4, 3, 138, 0, 0, 0, []), (137, .iconst (-1), 1, 0, 0, 0, (-1), []), (138, .ireturn, 1, 0, 0, 0, 0, []), (139, .aload_n 0, 1, 0, 0, 0, 0, []), (140, .getfield 15, 3, 1, 2, 0, 0, []), (143, .iconst 1, 1, 0, 0, 0, 1, [])],
  [(144, .if_icmp .ne 7, 3, 151, 0, 0, 0, []), (147, .iconst 2, 1, 0, 0, 0, 2, []), (148, .goto 4, 3, 152, 0, 0, 0, []), (151, .iconst (-1), 1, 0, 0, 0, (-1), []), (152, .ireturn, 1, 0, 0, 0, 0, []), (153, .aload_n 0, 1, 0, 0, 0, 0, []), (154, .getfield 15, 3, 1, 2, 0, 0, []), (157, .iconst 1, 1, 0, 0, 0, 1, []), (158, .if_icmp .ne 7, 3, 165, 0, 0, 0, [])],
  [(161, .iconst 3, 1, 0, 0, 0, 3, []), (162, .goto 4, 3, 166, 0, 0, 0, []), (165, .iconst (-1), 1, 0, 0, 0, (-1), []), (166, .ireturn, 1, 0, 0, 0, 0, []), (167, .aload_n 0, 1, 0, 0, 0, 0, []), (168, .getfield 15, 3, 1, 2, 0, 0, []), (171, .iconst 2, 1, 0, 0, 0, 2, []), (172, .if_icmp .ne 7, 3, 179, 0, 0, 0, []), (175, .iconst 2, 1, 0, 0, 0, 2, [])],
  [(176, .goto 4, 3, 180, 0, 0, 0, []), (179, .iconst (-1), 1, 0, 0, 0, (-1), []), (180, .ireturn, 1, 0, 0, 0, 0, []), (181, .iconst (-1), 1, 0, 0, 0, (-1), []), (182, .ireturn, 1, 0, 0, 0, 0, [])]]
set_option maxRecDepth 20000 in
theorem t1_nameOf_d : ∀ row ∈ t1_nameOf, ∀ en ∈ row, decode cX1_nameOf en.1 = .ok (en.2.1, en.2.2.1) := by decide +kernel
set_option maxRecDepth 20000 in
theorem t1_nameOf_b : ∀ row ∈ t1_nameOf, ∀ en ∈ row, okB 1 "nameOf" (some .int) 1 en = true := by decide +kernel
def t1_fitsBehind : List (List mE) := [[(0, .aload_n 0, 1, 0, 0, 0, 0, []), (1, .getfield 53, 3, 1, 8, 0, 0, []), (4, .iconst 2, 1, 0, 0, 0, 2, []), (5, .if_icmp .ne 7, 3, 12, 0, 0, 0, []), (8, .iconst 1, 1, 0, 0, 0, 1, []), (9, .goto 4, 3, 13, 0, 0, 0, []), (12, .iconst 0, 1, 0, 0, 0, 0, []), (13, .istore_n 2, 1, 2, 0, 0, 0, []), (14, .iload_n 2, 1, 2, 0, 0, 0, []), (15, .ifCond .eq 14, 3, 29, 0, 0, 0, [])],
  [(18, .aload_n 0, 1, 0, 0, 0, 0, []), (19, .getfield 40, 3, 1, 6, 0, 0, []), (22, .ifCond .ne 7, 3, 29, 0, 0, 0, []), (25, .iconst 1, 1, 0, 0, 0, 1, []), (26, .goto 4, 3, 30, 0, 0, 0, []), (29, .iconst 0, 1, 0, 0, 0, 0, []), (30, .istore_n 3, 1, 3, 0, 0, 0, []), (31, .aload_n 0, 1, 0, 0, 0, 0, [])],
  [(32, .getfield 53, 3, 1, 8, 0, 0, []), (35, .iconst 3, 1, 0, 0, 0, 3, []), (36, .if_icmp .eq 14, 3, 50, 0, 0, 0, []), (39, .iload_n 3, 1, 3, 0, 0, 0, []), (40, .ifCond .eq 14, 3, 54, 0, 0, 0, []), (43, .aload_n 0, 1, 0, 0, 0, 0, []), (44, .getfield 56, 3, 1, 9, 5, 0, []), (47, .ifCond .eq 7, 3, 54, 0, 0, 0, [])],
  [(50, .iconst 1, 1, 0, 0, 0, 1, []), (51, .goto 4, 3, 55, 0, 0, 0, []), (54, .iconst 0, 1, 0, 0, 0, 0, []), (55, .istore 4, 2, 4, 0, 0, 0, []), (57, .iload_n 1, 1, 1, 0, 0, 0, []), (58, .lookupswitch 193 #[(41, 100), (42, 98), (43, 98), (45, 98), (59, 163), (60, 117), (61, 117), (62, 117), (93, 145), (271, 142), (272, 142)], 98, 251, 0, 0, 0, [(41, 158), (42, 156), (43, 156), (45, 156), (59, 221), (60, 175), (61, 175), (62, 175), (93, 203), (271, 200), (272, 200)])],
  [],
  [],
  [],
  [],
  [],
  [(156, .iload_n 2, 1, 2, 0, 0, 0, []), (157, .ireturn, 1, 1, 0, 0, 0, []), (158, .iload_n 2, 1, 2, 0, 0, 0, []), (159, .ifCond .eq 14, 3, 173, 0, 0, 0, [])],
  [(162, .aload_n 0, 1, 0, 0, 0, 0, []), (163, .getfield 40, 3, 1, 6, 0, 0, []), (166, .ifCond .le 7, 3, 173, 0, 0, 0, []), (169, .iconst 1, 1, 0, 0, 0, 1, []), (170, .goto 4, 3, 174, 0, 0, 0, []), (173, .iconst 0, 1, 0, 0, 0, 0, []), (174, .ireturn, 1, 1, 0, 0, 0, []), (175, .iload_n 3, 1, 3, 0, 0, 0, [])],
  [(176, .ifCond .eq 22, 3, 198, 0, 0, 0, []), (179, .aload_n 0, 1, 0, 0, 0, 0, []), (180, .getfield 15, 3, 1, 2, 0, 0, []), (183, .iconst 2, 1, 0, 0, 0, 2, []), (184, .if_icmp .eq 14, 3, 198, 0, 0, 0, []), (187, .aload_n 0, 1, 0, 0, 0, 0, []), (188, .getfield 56, 3, 1, 9, 5, 0, []), (191, .ifCond .ne 7, 3, 198, 0, 0, 0, [])],
  [(194, .iconst 1, 1, 0, 0, 0, 1, []), (195, .goto 4, 3, 199, 0, 0, 0, []), (198, .iconst 0, 1, 0, 0, 0, 0, []), (199, .ireturn, 1, 1, 0, 0, 0, []), (200, .iload 4, 2, 4, 0, 0, 0, []), (202, .ireturn, 1, 1, 0, 0, 0, []), (203, .iload 4, 2, 4, 0, 0, 0, []), (205, .ifCond .eq 14, 3, 219, 0, 0, 0, [])],
  [(208, .aload_n 0, 1, 0, 0, 0, 0, []), (209, .getfield 43, 3, 1, 7, 0, 0, []), (212, .ifCond .le 7, 3, 219, 0, 0, 0, []), (215, .iconst 1, 1, 0, 0, 0, 1, []), (216, .goto 4, 3, 220, 0, 0, 0, []), (219, .iconst 0, 1, 0, 0, 0, 0, []), (220, .ireturn, 1, 1, 0, 0, 0, []), (221, .aload_n 0, 1, 0, 0, 0, 0, []), (222, .getfield 15, 3, 1, 2, 0, 0, [])],
  [(225, .iconst 2, 1, 0, 0, 0, 2, []), (226, .if_icmp .ne 7, 3, 233, 0, 0, 0, []), (229, .iload_n 3, 1, 3, 0, 0, 0, []), (230, .goto 20, 3, 250, 0, 0, 0, []), (233, .iload 4, 2, 4, 0, 0, 0, []), (235, .ifCond .eq 14, 3, 249, 0, 0, 0, []), (238, .aload_n 0, 1, 0, 0, 0, 0, []), (239, .getfield 43, 3, 1, 7, 0, 0, [])],
  [(242, .ifCond .ne 7, 3, 249, 0, 0, 0, []), (245, .iconst 1, 1, 0, 0, 0, 1, []), (246, .goto 4, 3, 250, 0, 0, 0, []), (249, .iconst 0, 1, 0, 0, 0, 0, []), (250, .ireturn, 1, 1, 0, 0, 0, []), (251, .iconst 0, 1, 0, 0, 0, 0, []), (252, .ireturn, 1, 1, 0, 0, 0, [])]]
set_option maxRecDepth 20000 in
theorem t1_fitsBehind_d : ∀ row ∈ t1_fitsBehind, ∀ en ∈ row, decode cX1_fitsBehind en.1 = .ok (en.2.1, en.2.2.1) := by decide +kernel
set_option maxRecDepth 20000 in
theorem t1_fitsBehind_b : ∀ row ∈ t1_fitsBehind, ∀ en ∈ row, okB 1 "fitsBehind" (some .boolean) 1 en = true := by decide +kernel
def t1_takeBehind : List (List mE) := [[(0, .iload_n 1, 1, 1, 0, 0, 0, []), (1, .lookupswitch 168 #[(41, 75), (59, 131), (60, 150), (61, 150), (62, 150), (93, 103), (271, 138), (272, 138)], 75, 169, 0, 0, 0, [(41, 76), (59, 132), (60, 151), (61, 151), (62, 151), (93, 104), (271, 139), (272, 139)])],
  [],
  [],
  [],
  [(76, .aload_n 0, 1, 0, 0, 0, 0, []), (77, .dup, 1, 0, 0, 0, 0, []), (78, .getfield 34, 3, 1, 4, 0, 0, [])],
  [(81, .iconst 1, 1, 0, 0, 0, 1, []), (82, .isub, 1, 0, 0, 0, 0, []), (83, .putfield 34, 3, 1, 4, 0, 0, []), (86, .aload_n 0, 1, 0, 0, 0, 0, []), (87, .dup, 1, 0, 0, 0, 0, []), (88, .getfield 40, 3, 1, 6, 0, 0, []), (91, .iconst 1, 1, 0, 0, 0, 1, []), (92, .isub, 1, 0, 0, 0, 0, []), (93, .putfield 40, 3, 1, 6, 0, 0, [])],
  [(96, .aload_n 0, 1, 0, 0, 0, 0, []), (97, .iconst 2, 1, 0, 0, 0, 2, []), (98, .putfield 53, 3, 1, 8, 0, 0, []), (101, .goto 78, 3, 179, 0, 0, 0, []), (104, .aload_n 0, 1, 0, 0, 0, 0, []), (105, .dup, 1, 0, 0, 0, 0, []), (106, .getfield 34, 3, 1, 4, 0, 0, []), (109, .iconst 1, 1, 0, 0, 0, 1, []), (110, .isub, 1, 0, 0, 0, 0, []), (111, .putfield 34, 3, 1, 4, 0, 0, [])],
  [(114, .aload_n 0, 1, 0, 0, 0, 0, []), (115, .dup, 1, 0, 0, 0, 0, []), (116, .getfield 43, 3, 1, 7, 0, 0, []), (119, .iconst 1, 1, 0, 0, 0, 1, []), (120, .isub, 1, 0, 0, 0, 0, []), (121, .putfield 43, 3, 1, 7, 0, 0, []), (124, .aload_n 0, 1, 0, 0, 0, 0, []), (125, .iconst 3, 1, 0, 0, 0, 3, []), (126, .putfield 53, 3, 1, 8, 0, 0, [])],
  [(129, .goto 50, 3, 179, 0, 0, 0, []), (132, .aload_n 0, 1, 0, 0, 0, 0, []), (133, .invokevirtual 98, 3, 16, 1, 0, 1, []), (136, .goto 43, 3, 179, 0, 0, 0, []), (139, .aload_n 0, 1, 0, 0, 0, 0, []), (140, .iload_n 1, 1, 1, 0, 0, 0, []), (141, .invokevirtual 89, 3, 17, 2, 0, 1, [])],
  [(144, .aload_n 0, 1, 0, 0, 0, 0, []), (145, .invokevirtual 50, 3, 8, 1, 0, 1, []), (148, .goto 31, 3, 179, 0, 0, 0, []), (151, .aload_n 0, 1, 0, 0, 0, 0, []), (152, .iload_n 1, 1, 1, 0, 0, 0, []), (153, .invokevirtual 89, 3, 17, 2, 0, 1, []), (156, .aload_n 0, 1, 0, 0, 0, 0, []), (157, .iconst 1, 1, 0, 0, 0, 1, []), (158, .putfield 56, 3, 1, 9, 5, 0, [])],
  [(161, .aload_n 0, 1, 0, 0, 0, 0, []), (162, .iconst 1, 1, 0, 0, 0, 1, []), (163, .putfield 53, 3, 1, 8, 0, 0, []), (166, .goto 13, 3, 179, 0, 0, 0, []), (169, .aload_n 0, 1, 0, 0, 0, 0, []), (170, .iload_n 1, 1, 1, 0, 0, 0, []), (171, .invokevirtual 89, 3, 17, 2, 0, 1, []), (174, .aload_n 0, 1, 0, 0, 0, 0, []), (175, .iconst 1, 1, 0, 0, 0, 1, [])],
  [(176, .putfield 53, 3, 1, 8, 0, 0, []), (179, .return_, 1, 0, 0, 0, 0, [])]]
set_option maxRecDepth 20000 in
theorem t1_takeBehind_d : ∀ row ∈ t1_takeBehind, ∀ en ∈ row, decode cX1_takeBehind en.1 = .ok (en.2.1, en.2.2.1) := by decide +kernel
set_option maxRecDepth 20000 in
theorem t1_takeBehind_b : ∀ row ∈ t1_takeBehind, ∀ en ∈ row, okB 1 "takeBehind" none 0 en = true := by decide +kernel
def t1_finish : List (List mE) := [[(0, .aload_n 0, 1, 0, 0, 0, 0, []), (1, .getfield 19, 3, 1, 1, 2, 0, []), (4, .getfield 31, 3, 2, 15, 2, 0, []), (7, .aload_n 0, 1, 0, 0, 0, 0, []), (8, .getfield 15, 3, 1, 2, 0, 0, []), (11, .aload_n 0, 1, 0, 0, 0, 0, []), (12, .getfield 19, 3, 1, 1, 2, 0, []), (15, .getfield 28, 3, 2, 13, 0, 0, [])],
  [(18, .aload_n 0, 1, 0, 0, 0, 0, []), (19, .getfield 19, 3, 1, 1, 2, 0, []), (22, .getfield 23, 3, 2, 14, 2, 0, []), (25, .aload_n 0, 1, 0, 0, 0, 0, []), (26, .getfield 15, 3, 1, 2, 0, 0, []), (29, .iaload, 1, 0, 0, 0, 0, []), (30, .isub, 1, 0, 0, 0, 0, []), (31, .iastore, 1, 0, 0, 0, 0, [])],
  [(32, .aload_n 0, 1, 0, 0, 0, 0, []), (33, .iconst 1, 1, 0, 0, 0, 1, []), (34, .putfield 46, 3, 1, 0, 5, 0, []), (37, .return_, 1, 0, 0, 0, 0, [])]]
set_option maxRecDepth 20000 in
theorem t1_finish_d : ∀ row ∈ t1_finish, ∀ en ∈ row, decode cX1_finish en.1 = .ok (en.2.1, en.2.2.1) := by decide +kernel
set_option maxRecDepth 20000 in
theorem t1_finish_b : ∀ row ∈ t1_finish, ∀ en ∈ row, okB 1 "finish" none 0 en = true := by decide +kernel
def t1_push : List (List mE) := [[(0, .aload_n 0, 1, 0, 0, 0, 0, []), (1, .getfield 34, 3, 1, 4, 0, 0, []), (4, .bipush 64, 2, 0, 0, 0, 64, []), (6, .if_icmp .ge 23, 3, 29, 0, 0, 0, []), (9, .aload_n 0, 1, 0, 0, 0, 0, []), (10, .getfield 9, 3, 1, 3, 2, 0, []), (13, .aload_n 0, 1, 0, 0, 0, 0, []), (14, .getfield 34, 3, 1, 4, 0, 0, [])],
  [(17, .iload_n 1, 1, 1, 0, 0, 0, []), (18, .iastore, 1, 0, 0, 0, 0, []), (19, .aload_n 0, 1, 0, 0, 0, 0, []), (20, .dup, 1, 0, 0, 0, 0, []), (21, .getfield 34, 3, 1, 4, 0, 0, []), (24, .iconst 1, 1, 0, 0, 0, 1, []), (25, .iadd, 1, 0, 0, 0, 0, []), (26, .putfield 34, 3, 1, 4, 0, 0, []), (29, .return_, 1, 0, 0, 0, 0, [])]]
set_option maxRecDepth 20000 in
theorem t1_push_d : ∀ row ∈ t1_push, ∀ en ∈ row, decode cX1_push en.1 = .ok (en.2.1, en.2.2.1) := by decide +kernel
set_option maxRecDepth 20000 in
theorem t1_push_b : ∀ row ∈ t1_push, ∀ en ∈ row, okB 1 "push" none 0 en = true := by decide +kernel
def t1_popDownTo : List (List mE) := [[(0, .aload_n 0, 1, 0, 0, 0, 0, []), (1, .getfield 34, 3, 1, 4, 0, 0, []), (4, .iconst 1, 1, 0, 0, 0, 1, []), (5, .isub, 1, 0, 0, 0, 0, []), (6, .istore_n 2, 1, 2, 0, 0, 0, []), (7, .iload_n 2, 1, 2, 0, 0, 0, []), (8, .ifCond .lt 63, 3, 71, 0, 0, 0, []), (11, .aload_n 0, 1, 0, 0, 0, 0, []), (12, .getfield 9, 3, 1, 3, 2, 0, []), (15, .iload_n 2, 1, 2, 0, 0, 0, [])],
  [(16, .iaload, 1, 0, 0, 0, 0, []), (17, .invokestatic 74, 3, 19, 1, 1, (-1), []), (20, .iload_n 1, 1, 1, 0, 0, 0, []), (21, .if_icmp .lt 50, 3, 71, 0, 0, 0, []), (24, .aload_n 0, 1, 0, 0, 0, 0, []), (25, .getfield 9, 3, 1, 3, 2, 0, []), (28, .iload_n 2, 1, 2, 0, 0, 0, []), (29, .iaload, 1, 0, 0, 0, 0, []), (30, .sipush 273, 3, 0, 0, 0, 273, [])],
  [(33, .if_icmp .ne 13, 3, 46, 0, 0, 0, []), (36, .aload_n 0, 1, 0, 0, 0, 0, []), (37, .dup, 1, 0, 0, 0, 0, []), (38, .getfield 37, 3, 1, 5, 0, 0, []), (41, .iconst 1, 1, 0, 0, 0, 1, []), (42, .isub, 1, 0, 0, 0, 0, []), (43, .putfield 37, 3, 1, 5, 0, 0, []), (46, .aload_n 0, 1, 0, 0, 0, 0, []), (47, .getfield 19, 3, 1, 1, 2, 0, [])],
  [(50, .aload_n 0, 1, 0, 0, 0, 0, []), (51, .getfield 9, 3, 1, 3, 2, 0, []), (54, .iload_n 2, 1, 2, 0, 0, 0, []), (55, .iaload, 1, 0, 0, 0, 0, []), (56, .ineg, 1, 0, 0, 0, 0, []), (57, .invokevirtual 95, 3, 23, 2, 0, 2, []), (60, .aload_n 0, 1, 0, 0, 0, 0, []), (61, .iload_n 2, 1, 2, 0, 0, 0, []), (62, .putfield 34, 3, 1, 4, 0, 0, [])],
  [(65, .iinc 2 (-1), 3, 2, 0, 0, (-1), []), (68, .goto (-61), 3, 7, 0, 0, 0, []), (71, .return_, 1, 0, 0, 0, 0, [])]]
set_option maxRecDepth 20000 in
theorem t1_popDownTo_d : ∀ row ∈ t1_popDownTo, ∀ en ∈ row, decode cX1_popDownTo en.1 = .ok (en.2.1, en.2.2.1) := by decide +kernel
set_option maxRecDepth 20000 in
theorem t1_popDownTo_b : ∀ row ∈ t1_popDownTo, ∀ en ∈ row, okB 1 "popDownTo" none 0 en = true := by decide +kernel
def t1_rank : List (List mE) := [[(0, .iload_n 0, 1, 0, 0, 0, 0, []), (1, .lookupswitch 96 #[(42, 93), (43, 91), (45, 91), (60, 89), (61, 89), (62, 89), (271, 83), (272, 85), (273, 87)], 83, 97, 0, 0, 0, [(42, 94), (43, 92), (45, 92), (60, 90), (61, 90), (62, 90), (271, 84), (272, 86), (273, 88)])],
  [],
  [],
  [],
  [],
  [(84, .iconst 1, 1, 0, 0, 0, 1, []), (85, .ireturn, 1, 0, 0, 0, 0, []), (86, .iconst 2, 1, 0, 0, 0, 2, []), (87, .ireturn, 1, 0, 0, 0, 0, []), (88, .iconst 3, 1, 0, 0, 0, 3, []), (89, .ireturn, 1, 0, 0, 0, 0, []), (90, .iconst 4, 1, 0, 0, 0, 4, []), (91, .ireturn, 1, 0, 0, 0, 0, []), (92, .iconst 5, 1, 0, 0, 0, 5, []), (93, .ireturn, 1, 0, 0, 0, 0, []), (94, .bipush 6, 2, 0, 0, 0, 6, [])],
  [(96, .ireturn, 1, 0, 0, 0, 0, []), (97, .iconst 0, 1, 0, 0, 0, 0, []), (98, .ireturn, 1, 0, 0, 0, 0, [])]]
set_option maxRecDepth 20000 in
theorem t1_rank_d : ∀ row ∈ t1_rank, ∀ en ∈ row, decode cX1_rank en.1 = .ok (en.2.1, en.2.2.1) := by decide +kernel
set_option maxRecDepth 20000 in
theorem t1_rank_b : ∀ row ∈ t1_rank, ∀ en ∈ row, okB 1 "rank" (some .int) 1 en = true := by decide +kernel
def t2_init : List (List mE) := [[(0, .aload_n 0, 1, 0, 0, 0, 0, []), (1, .invokespecial 3, 3, 1000, 1, 0, (-1), []), (4, .aload_n 0, 1, 0, 0, 0, 0, []), (5, .iconst 2, 1, 0, 0, 0, 2, []), (6, .putfield 9, 3, 2, 0, 0, 0, []), (9, .aload_n 0, 1, 0, 0, 0, 0, []), (10, .iconst 2, 1, 0, 0, 0, 2, []), (11, .putfield 15, 3, 2, 1, 0, 0, []), (14, .aload_n 0, 1, 0, 0, 0, 0, []), (15, .bipush 12, 2, 0, 0, 0, 12, [])],
  [(17, .newarray .int, 2, 1, 0, 0, 0, []), (19, .putfield 18, 3, 2, 7, 2, 0, []), (22, .aload_n 0, 1, 0, 0, 0, 0, []), (23, .bipush 12, 2, 0, 0, 0, 12, []), (25, .newarray .int, 2, 1, 0, 0, 0, []), (27, .putfield 22, 3, 2, 8, 2, 0, []), (30, .aload_n 0, 1, 0, 0, 0, 0, []), (31, .bipush 8, 2, 0, 0, 0, 8, [])],
  [(33, .newarray .int, 2, 1, 0, 0, 0, []), (35, .putfield 25, 3, 2, 9, 2, 0, []), (38, .aload_n 0, 1, 0, 0, 0, 0, []), (39, .bipush 8, 2, 0, 0, 0, 8, []), (41, .newarray .int, 2, 1, 0, 0, 0, []), (43, .putfield 28, 3, 2, 10, 2, 0, []), (46, .aload_n 0, 1, 0, 0, 0, 0, []), (47, .bipush 8, 2, 0, 0, 0, 8, [])],
  [(49, .newarray .int, 2, 1, 0, 0, 0, []), (51, .putfield 31, 3, 2, 11, 2, 0, []), (54, .aload_n 0, 1, 0, 0, 0, 0, []), (55, .sipush 900, 3, 0, 0, 0, 900, []), (58, .newarray .int, 2, 1, 0, 0, 0, []), (60, .putfield 34, 3, 2, 12, 2, 0, []), (63, .aload_n 0, 1, 0, 0, 0, 0, [])],
  [(64, .iconst 3, 1, 0, 0, 0, 3, []), (65, .newarray .int, 2, 1, 0, 0, 0, []), (67, .putfield 37, 3, 2, 14, 2, 0, []), (70, .aload_n 0, 1, 0, 0, 0, 0, []), (71, .iconst 3, 1, 0, 0, 0, 3, []), (72, .newarray .int, 2, 1, 0, 0, 0, []), (74, .putfield 40, 3, 2, 15, 2, 0, []), (77, .return_, 1, 0, 0, 0, 0, [])]]
set_option maxRecDepth 20000 in
theorem t2_init_d : ∀ row ∈ t2_init, ∀ en ∈ row, decode cX2_init en.1 = .ok (en.2.1, en.2.2.1) := by decide +kernel
set_option maxRecDepth 20000 in
theorem t2_init_b : ∀ row ∈ t2_init, ∀ en ∈ row, okB 2 "<init>" none 0 en = true := by decide +kernel
def t2_empty : List (List mE) := [[(0, .aload_n 0, 1, 0, 0, 0, 0, []), (1, .iconst 0, 1, 0, 0, 0, 0, []), (2, .putfield 43, 3, 2, 2, 0, 0, []), (5, .aload_n 0, 1, 0, 0, 0, 0, []), (6, .iconst 0, 1, 0, 0, 0, 0, []), (7, .putfield 46, 3, 2, 3, 0, 0, []), (10, .aload_n 0, 1, 0, 0, 0, 0, []), (11, .iconst 0, 1, 0, 0, 0, 0, []), (12, .putfield 49, 3, 2, 4, 0, 0, []), (15, .aload_n 0, 1, 0, 0, 0, 0, [])],
  [(16, .iconst 0, 1, 0, 0, 0, 0, []), (17, .putfield 52, 3, 2, 5, 0, 0, []), (20, .aload_n 0, 1, 0, 0, 0, 0, []), (21, .iconst 0, 1, 0, 0, 0, 0, []), (22, .putfield 55, 3, 2, 6, 0, 0, []), (25, .aload_n 0, 1, 0, 0, 0, 0, []), (26, .iconst 0, 1, 0, 0, 0, 0, []), (27, .putfield 58, 3, 2, 13, 0, 0, []), (30, .iconst 0, 1, 0, 0, 0, 0, []), (31, .istore_n 1, 1, 1, 0, 0, 0, [])],
  [(32, .iload_n 1, 1, 1, 0, 0, 0, []), (33, .bipush 8, 2, 0, 0, 0, 8, []), (35, .if_icmp .ge 30, 3, 65, 0, 0, 0, []), (38, .aload_n 0, 1, 0, 0, 0, 0, []), (39, .getfield 25, 3, 2, 9, 2, 0, []), (42, .iload_n 1, 1, 1, 0, 0, 0, []), (43, .iconst 0, 1, 0, 0, 0, 0, []), (44, .iastore, 1, 0, 0, 0, 0, []), (45, .aload_n 0, 1, 0, 0, 0, 0, []), (46, .getfield 28, 3, 2, 10, 2, 0, [])],
  [(49, .iload_n 1, 1, 1, 0, 0, 0, []), (50, .iconst 0, 1, 0, 0, 0, 0, []), (51, .iastore, 1, 0, 0, 0, 0, []), (52, .aload_n 0, 1, 0, 0, 0, 0, []), (53, .getfield 31, 3, 2, 11, 2, 0, []), (56, .iload_n 1, 1, 1, 0, 0, 0, []), (57, .iconst 0, 1, 0, 0, 0, 0, []), (58, .iastore, 1, 0, 0, 0, 0, []), (59, .iinc 1 1, 3, 1, 0, 0, 1, []), (62, .goto (-30), 3, 32, 0, 0, 0, [])],
  [(65, .iconst 0, 1, 0, 0, 0, 0, []), (66, .istore_n 1, 1, 1, 0, 0, 0, []), (67, .iload_n 1, 1, 1, 0, 0, 0, []), (68, .iconst 3, 1, 0, 0, 0, 3, []), (69, .if_icmp .ge 16, 3, 85, 0, 0, 0, []), (72, .aload_n 0, 1, 0, 0, 0, 0, []), (73, .getfield 40, 3, 2, 15, 2, 0, []), (76, .iload_n 1, 1, 1, 0, 0, 0, []), (77, .iconst 0, 1, 0, 0, 0, 0, []), (78, .iastore, 1, 0, 0, 0, 0, []), (79, .iinc 1 1, 3, 1, 0, 0, 1, [])],
  [(82, .goto (-15), 3, 67, 0, 0, 0, []), (85, .return_, 1, 0, 0, 0, 0, [])]]
set_option maxRecDepth 20000 in
theorem t2_empty_d : ∀ row ∈ t2_empty, ∀ en ∈ row, decode cX2_empty en.1 = .ok (en.2.1, en.2.2.1) := by decide +kernel
set_option maxRecDepth 20000 in
theorem t2_empty_b : ∀ row ∈ t2_empty, ∀ en ∈ row, okB 2 "empty" none 0 en = true := by decide +kernel
def t2_copyFrom : List (List mE) := [[(0, .aload_n 0, 1, 0, 0, 0, 0, []), (1, .aload_n 1, 1, 1, 0, 0, 0, []), (2, .getfield 9, 3, 2, 0, 0, 0, []), (5, .putfield 9, 3, 2, 0, 0, 0, []), (8, .aload_n 0, 1, 0, 0, 0, 0, []), (9, .aload_n 1, 1, 1, 0, 0, 0, []), (10, .getfield 15, 3, 2, 1, 0, 0, []), (13, .putfield 15, 3, 2, 1, 0, 0, [])],
  [(16, .aload_n 0, 1, 0, 0, 0, 0, []), (17, .aload_n 1, 1, 1, 0, 0, 0, []), (18, .getfield 43, 3, 2, 2, 0, 0, []), (21, .putfield 43, 3, 2, 2, 0, 0, []), (24, .aload_n 0, 1, 0, 0, 0, 0, []), (25, .aload_n 1, 1, 1, 0, 0, 0, []), (26, .getfield 46, 3, 2, 3, 0, 0, []), (29, .putfield 46, 3, 2, 3, 0, 0, [])],
  [(32, .aload_n 0, 1, 0, 0, 0, 0, []), (33, .aload_n 1, 1, 1, 0, 0, 0, []), (34, .getfield 49, 3, 2, 4, 0, 0, []), (37, .putfield 49, 3, 2, 4, 0, 0, []), (40, .aload_n 0, 1, 0, 0, 0, 0, []), (41, .aload_n 1, 1, 1, 0, 0, 0, []), (42, .getfield 52, 3, 2, 5, 0, 0, []), (45, .putfield 52, 3, 2, 5, 0, 0, [])],
  [(48, .aload_n 0, 1, 0, 0, 0, 0, []), (49, .aload_n 1, 1, 1, 0, 0, 0, []), (50, .getfield 55, 3, 2, 6, 0, 0, []), (53, .putfield 55, 3, 2, 6, 0, 0, []), (56, .aload_n 0, 1, 0, 0, 0, 0, []), (57, .aload_n 1, 1, 1, 0, 0, 0, []), (58, .getfield 58, 3, 2, 13, 0, 0, []), (61, .putfield 58, 3, 2, 13, 0, 0, [])],
  [(64, .aload_n 1, 1, 1, 0, 0, 0, []), (65, .getfield 18, 3, 2, 7, 2, 0, []), (68, .iconst 0, 1, 0, 0, 0, 0, []), (69, .aload_n 0, 1, 0, 0, 0, 0, []), (70, .getfield 18, 3, 2, 7, 2, 0, []), (73, .iconst 0, 1, 0, 0, 0, 0, []), (74, .bipush 12, 2, 0, 0, 0, 12, []), (76, .invokestatic 61, 3, 1006, 5, 0, (-1), []), (79, .aload_n 1, 1, 1, 0, 0, 0, [])],
  [(80, .getfield 22, 3, 2, 8, 2, 0, []), (83, .iconst 0, 1, 0, 0, 0, 0, []), (84, .aload_n 0, 1, 0, 0, 0, 0, []), (85, .getfield 22, 3, 2, 8, 2, 0, []), (88, .iconst 0, 1, 0, 0, 0, 0, []), (89, .bipush 12, 2, 0, 0, 0, 12, []), (91, .invokestatic 61, 3, 1006, 5, 0, (-1), []), (94, .aload_n 1, 1, 1, 0, 0, 0, []), (95, .getfield 25, 3, 2, 9, 2, 0, [])],
  [(98, .iconst 0, 1, 0, 0, 0, 0, []), (99, .aload_n 0, 1, 0, 0, 0, 0, []), (100, .getfield 25, 3, 2, 9, 2, 0, []), (103, .iconst 0, 1, 0, 0, 0, 0, []), (104, .bipush 8, 2, 0, 0, 0, 8, []), (106, .invokestatic 61, 3, 1006, 5, 0, (-1), []), (109, .aload_n 1, 1, 1, 0, 0, 0, []), (110, .getfield 28, 3, 2, 10, 2, 0, [])],
  [(113, .iconst 0, 1, 0, 0, 0, 0, []), (114, .aload_n 0, 1, 0, 0, 0, 0, []), (115, .getfield 28, 3, 2, 10, 2, 0, []), (118, .iconst 0, 1, 0, 0, 0, 0, []), (119, .bipush 8, 2, 0, 0, 0, 8, []), (121, .invokestatic 61, 3, 1006, 5, 0, (-1), []), (124, .aload_n 1, 1, 1, 0, 0, 0, []), (125, .getfield 31, 3, 2, 11, 2, 0, [])],
  [(128, .iconst 0, 1, 0, 0, 0, 0, []), (129, .aload_n 0, 1, 0, 0, 0, 0, []), (130, .getfield 31, 3, 2, 11, 2, 0, []), (133, .iconst 0, 1, 0, 0, 0, 0, []), (134, .bipush 8, 2, 0, 0, 0, 8, []), (136, .invokestatic 61, 3, 1006, 5, 0, (-1), []), (139, .aload_n 1, 1, 1, 0, 0, 0, []), (140, .getfield 34, 3, 2, 12, 2, 0, []), (143, .iconst 0, 1, 0, 0, 0, 0, [])],
  [(144, .aload_n 0, 1, 0, 0, 0, 0, []), (145, .getfield 34, 3, 2, 12, 2, 0, []), (148, .iconst 0, 1, 0, 0, 0, 0, []), (149, .aload_n 0, 1, 0, 0, 0, 0, []), (150, .getfield 58, 3, 2, 13, 0, 0, []), (153, .invokestatic 61, 3, 1006, 5, 0, (-1), []), (156, .aload_n 1, 1, 1, 0, 0, 0, []), (157, .getfield 37, 3, 2, 14, 2, 0, [])],
  [(160, .iconst 0, 1, 0, 0, 0, 0, []), (161, .aload_n 0, 1, 0, 0, 0, 0, []), (162, .getfield 37, 3, 2, 14, 2, 0, []), (165, .iconst 0, 1, 0, 0, 0, 0, []), (166, .iconst 3, 1, 0, 0, 0, 3, []), (167, .invokestatic 61, 3, 1006, 5, 0, (-1), []), (170, .aload_n 1, 1, 1, 0, 0, 0, []), (171, .getfield 40, 3, 2, 15, 2, 0, []), (174, .iconst 0, 1, 0, 0, 0, 0, []), (175, .aload_n 0, 1, 0, 0, 0, 0, [])],
  [(176, .getfield 40, 3, 2, 15, 2, 0, []), (179, .iconst 0, 1, 0, 0, 0, 0, []), (180, .iconst 3, 1, 0, 0, 0, 3, []), (181, .invokestatic 61, 3, 1006, 5, 0, (-1), []), (184, .return_, 1, 0, 0, 0, 0, [])]]
set_option maxRecDepth 20000 in
theorem t2_copyFrom_d : ∀ row ∈ t2_copyFrom, ∀ en ∈ row, decode cX2_copyFrom en.1 = .ok (en.2.1, en.2.2.1) := by decide +kernel
set_option maxRecDepth 20000 in
theorem t2_copyFrom_b : ∀ row ∈ t2_copyFrom, ∀ en ∈ row, okB 2 "copyFrom" none 0 en = true := by decide +kernel
def t2_addCode : List (List mE) := [[(0, .aload_n 0, 1, 0, 0, 0, 0, []), (1, .getfield 58, 3, 2, 13, 0, 0, []), (4, .aload_n 0, 1, 0, 0, 0, 0, []), (5, .getfield 34, 3, 2, 12, 2, 0, []), (8, .arraylength, 1, 0, 0, 0, 0, []), (9, .if_icmp .ge 23, 3, 32, 0, 0, 0, []), (12, .aload_n 0, 1, 0, 0, 0, 0, []), (13, .getfield 34, 3, 2, 12, 2, 0, [])],
  [(16, .aload_n 0, 1, 0, 0, 0, 0, []), (17, .getfield 58, 3, 2, 13, 0, 0, []), (20, .iload_n 1, 1, 1, 0, 0, 0, []), (21, .iastore, 1, 0, 0, 0, 0, []), (22, .aload_n 0, 1, 0, 0, 0, 0, []), (23, .dup, 1, 0, 0, 0, 0, []), (24, .getfield 58, 3, 2, 13, 0, 0, []), (27, .iconst 1, 1, 0, 0, 0, 1, []), (28, .iadd, 1, 0, 0, 0, 0, []), (29, .putfield 58, 3, 2, 13, 0, 0, [])],
  [(32, .return_, 1, 0, 0, 0, 0, [])]]
set_option maxRecDepth 20000 in
theorem t2_addCode_d : ∀ row ∈ t2_addCode, ∀ en ∈ row, decode cX2_addCode en.1 = .ok (en.2.1, en.2.2.1) := by decide +kernel
set_option maxRecDepth 20000 in
theorem t2_addCode_b : ∀ row ∈ t2_addCode, ∀ en ∈ row, okB 2 "addCode" none 0 en = true := by decide +kernel
def t2_bitsFrom : List (List mE) := [[(0, .iconst 0, 1, 0, 0, 0, 0, []), (1, .istore_n 2, 1, 2, 0, 0, 0, []), (2, .iconst 0, 1, 0, 0, 0, 0, []), (3, .istore_n 3, 1, 3, 0, 0, 0, []), (4, .iload_n 3, 1, 3, 0, 0, 0, []), (5, .aload_n 0, 1, 0, 0, 0, 0, []), (6, .getfield 43, 3, 2, 2, 0, 0, []), (9, .if_icmp .ge 25, 3, 34, 0, 0, 0, []), (12, .aload_n 0, 1, 0, 0, 0, 0, []), (13, .getfield 18, 3, 2, 7, 2, 0, [])],
  [(16, .iload_n 3, 1, 3, 0, 0, 0, []), (17, .iaload, 1, 0, 0, 0, 0, []), (18, .iload_n 1, 1, 1, 0, 0, 0, []), (19, .if_icmp .ne 9, 3, 28, 0, 0, 0, []), (22, .iload_n 2, 1, 2, 0, 0, 0, []), (23, .iconst 1, 1, 0, 0, 0, 1, []), (24, .iload_n 3, 1, 3, 0, 0, 0, []), (25, .ishl, 1, 0, 0, 0, 0, []), (26, .ior, 1, 0, 0, 0, 0, []), (27, .istore_n 2, 1, 2, 0, 0, 0, []), (28, .iinc 3 1, 3, 3, 0, 0, 1, []), (31, .goto (-27), 3, 4, 0, 0, 0, [])],
  [(34, .iload_n 2, 1, 2, 0, 0, 0, []), (35, .ireturn, 1, 0, 0, 0, 0, [])]]
set_option maxRecDepth 20000 in
theorem t2_bitsFrom_d : ∀ row ∈ t2_bitsFrom, ∀ en ∈ row, decode cX2_bitsFrom en.1 = .ok (en.2.1, en.2.2.1) := by decide +kernel
set_option maxRecDepth 20000 in
theorem t2_bitsFrom_b : ∀ row ∈ t2_bitsFrom, ∀ en ∈ row, okB 2 "bitsFrom" (some .int) 1 en = true := by decide +kernel
def t3_init : List (List mE) := [[(0, .aload_n 0, 1, 0, 0, 0, 0, []), (1, .invokespecial 3, 3, 1000, 1, 0, (-1), []), (4, .aload_n 0, 1, 0, 0, 0, 0, []), (5, .bipush 10, 2, 0, 0, 0, 10, []), (7, .anewarray 9, 3, 7, 0, 0, 0, []), (10, .putfield 11, 3, 3, 0, 2, 0, []), (13, .iconst 0, 1, 0, 0, 0, 0, []), (14, .istore_n 1, 1, 1, 0, 0, 0, []), (15, .iload_n 1, 1, 1, 0, 0, 0, [])],
  [(16, .bipush 10, 2, 0, 0, 0, 10, []), (18, .if_icmp .ge 22, 3, 40, 0, 0, 0, []), (21, .aload_n 0, 1, 0, 0, 0, 0, []), (22, .getfield 11, 3, 3, 0, 2, 0, []), (25, .iload_n 1, 1, 1, 0, 0, 0, []), (26, .new 9, 3, 7, 6, 0, 0, []), (29, .dup, 1, 0, 0, 0, 0, []), (30, .invokespecial 17, 3, 69, 1, 0, 7, [])],
  [(33, .aastore, 1, 7, 0, 0, 0, []), (34, .iinc 1 1, 3, 1, 0, 0, 1, []), (37, .goto (-22), 3, 15, 0, 0, 0, []), (40, .return_, 1, 0, 0, 0, 0, [])]]
set_option maxRecDepth 20000 in
theorem t3_init_d : ∀ row ∈ t3_init, ∀ en ∈ row, decode cX3_init en.1 = .ok (en.2.1, en.2.2.1) := by decide +kernel
set_option maxRecDepth 20000 in
theorem t3_init_b : ∀ row ∈ t3_init, ∀ en ∈ row, okB 3 "<init>" none 0 en = true := by decide +kernel
def t3_keep : List (List mE) := [[(0, .aload_n 0, 1, 0, 0, 0, 0, []), (1, .getfield 18, 3, 3, 1, 0, 0, []), (4, .bipush 10, 2, 0, 0, 0, 10, []), (6, .if_icmp .lt 7, 3, 13, 0, 0, 0, []), (9, .aload_n 0, 1, 0, 0, 0, 0, []), (10, .invokevirtual 22, 3, 27, 1, 0, 3, []), (13, .aload_n 0, 1, 0, 0, 0, 0, []), (14, .getfield 11, 3, 3, 0, 2, 0, [])],
  [(17, .aload_n 0, 1, 0, 0, 0, 0, []), (18, .getfield 18, 3, 3, 1, 0, 0, []), (21, .aaload, 1, 7, 0, 0, 0, []), (22, .aload_n 1, 1, 1, 0, 0, 0, []), (23, .invokevirtual 25, 3, 71, 2, 0, 7, []), (26, .aload_n 0, 1, 0, 0, 0, 0, []), (27, .dup, 1, 0, 0, 0, 0, []), (28, .getfield 18, 3, 3, 1, 0, 0, []), (31, .iconst 1, 1, 0, 0, 0, 1, [])],
  [(32, .iadd, 1, 0, 0, 0, 0, []), (33, .putfield 18, 3, 3, 1, 0, 0, []), (36, .return_, 1, 0, 0, 0, 0, [])]]
set_option maxRecDepth 20000 in
theorem t3_keep_d : ∀ row ∈ t3_keep, ∀ en ∈ row, decode cX3_keep en.1 = .ok (en.2.1, en.2.2.1) := by decide +kernel
set_option maxRecDepth 20000 in
theorem t3_keep_b : ∀ row ∈ t3_keep, ∀ en ∈ row, okB 3 "keep" none 0 en = true := by decide +kernel
def t3_forgetEldest : List (List mE) := [[(0, .aload_n 0, 1, 0, 0, 0, 0, []), (1, .getfield 11, 3, 3, 0, 2, 0, []), (4, .iconst 0, 1, 0, 0, 0, 0, []), (5, .aaload, 1, 7, 0, 0, 0, []), (6, .astore_n 1, 1, 1, 0, 0, 0, []), (7, .iconst 1, 1, 0, 0, 0, 1, []), (8, .istore_n 2, 1, 2, 0, 0, 0, []), (9, .iload_n 2, 1, 2, 0, 0, 0, []), (10, .bipush 10, 2, 0, 0, 0, 10, []), (12, .if_icmp .ge 23, 3, 35, 0, 0, 0, []), (15, .aload_n 0, 1, 0, 0, 0, 0, [])],
  [(16, .getfield 11, 3, 3, 0, 2, 0, []), (19, .iload_n 2, 1, 2, 0, 0, 0, []), (20, .iconst 1, 1, 0, 0, 0, 1, []), (21, .isub, 1, 0, 0, 0, 0, []), (22, .aload_n 0, 1, 0, 0, 0, 0, []), (23, .getfield 11, 3, 3, 0, 2, 0, []), (26, .iload_n 2, 1, 2, 0, 0, 0, []), (27, .aaload, 1, 7, 0, 0, 0, []), (28, .aastore, 1, 7, 0, 0, 0, []), (29, .iinc 2 1, 3, 2, 0, 0, 1, [])],
  [(32, .goto (-23), 3, 9, 0, 0, 0, []), (35, .aload_n 0, 1, 0, 0, 0, 0, []), (36, .getfield 11, 3, 3, 0, 2, 0, []), (39, .bipush 9, 2, 0, 0, 0, 9, []), (41, .aload_n 1, 1, 1, 0, 0, 0, []), (42, .aastore, 1, 7, 0, 0, 0, []), (43, .aload_n 0, 1, 0, 0, 0, 0, []), (44, .bipush 9, 2, 0, 0, 0, 9, []), (46, .putfield 18, 3, 3, 1, 0, 0, [])],
  [(49, .return_, 1, 0, 0, 0, 0, [])]]
set_option maxRecDepth 20000 in
theorem t3_forgetEldest_d : ∀ row ∈ t3_forgetEldest, ∀ en ∈ row, decode cX3_forgetEldest en.1 = .ok (en.2.1, en.2.2.1) := by decide +kernel
set_option maxRecDepth 20000 in
theorem t3_forgetEldest_b : ∀ row ∈ t3_forgetEldest, ∀ en ∈ row, okB 3 "forgetEldest" none 0 en = true := by decide +kernel
def t3_bringBack : List (List mE) := [[(0, .iload_n 1, 1, 1, 0, 0, 0, []), (1, .iconst 1, 1, 0, 0, 0, 1, []), (2, .if_icmp .lt 34, 3, 36, 0, 0, 0, []), (5, .iload_n 1, 1, 1, 0, 0, 0, []), (6, .aload_n 0, 1, 0, 0, 0, 0, []), (7, .getfield 18, 3, 3, 1, 0, 0, []), (10, .if_icmp .gt 26, 3, 36, 0, 0, 0, []), (13, .aload_n 0, 1, 0, 0, 0, 0, []), (14, .dup, 1, 0, 0, 0, 0, []), (15, .getfield 18, 3, 3, 1, 0, 0, [])],
  [(18, .iload_n 1, 1, 1, 0, 0, 0, []), (19, .isub, 1, 0, 0, 0, 0, []), (20, .putfield 18, 3, 3, 1, 0, 0, []), (23, .aload_n 2, 1, 2, 0, 0, 0, []), (24, .aload_n 0, 1, 0, 0, 0, 0, []), (25, .getfield 11, 3, 3, 0, 2, 0, []), (28, .aload_n 0, 1, 0, 0, 0, 0, []), (29, .getfield 18, 3, 3, 1, 0, 0, [])],
  [(32, .aaload, 1, 7, 0, 0, 0, []), (33, .invokevirtual 25, 3, 71, 2, 0, 7, []), (36, .return_, 1, 0, 0, 0, 0, [])]]
set_option maxRecDepth 20000 in
theorem t3_bringBack_d : ∀ row ∈ t3_bringBack, ∀ en ∈ row, decode cX3_bringBack en.1 = .ok (en.2.1, en.2.2.1) := by decide +kernel
set_option maxRecDepth 20000 in
theorem t3_bringBack_b : ∀ row ∈ t3_bringBack, ∀ en ∈ row, okB 3 "bringBack" none 0 en = true := by decide +kernel
def t3_forget : List (List mE) := [[(0, .aload_n 0, 1, 0, 0, 0, 0, []), (1, .iconst 0, 1, 0, 0, 0, 0, []), (2, .putfield 18, 3, 3, 1, 0, 0, []), (5, .return_, 1, 0, 0, 0, 0, [])]]
set_option maxRecDepth 20000 in
theorem t3_forget_d : ∀ row ∈ t3_forget, ∀ en ∈ row, decode cX3_forget en.1 = .ok (en.2.1, en.2.2.1) := by decide +kernel
set_option maxRecDepth 20000 in
theorem t3_forget_b : ∀ row ∈ t3_forget, ∀ en ∈ row, okB 3 "forget" none 0 en = true := by decide +kernel
