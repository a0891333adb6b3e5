def DT_X9_init_0 : List (Nat × Instr × Nat) := [(0, .aload_n 0, 1), (1, .invokespecial 1, 3), (4, .aload_n 0, 1), (5, .bipush 8, 2), (7, .newarray .int, 2), (9, .putfield 7, 3), (12, .aload_n 0, 1), (13, .bipush 8, 2), (15, .newarray .int, 2), (17, .putfield 13, 3), (20, .aload_n 0, 1), (21, .sipush 320, 3), (24, .newarray .int, 2), (26, .putfield 16, 3), (29, .aload_n 0, 1), (30, .bipush 40, 2), (32, .newarray .int, 2), (34, .putfield 19, 3), (37, .aload_n 0, 1), (38, .sipush 160, 3), (41, .newarray .int, 2), (43, .putfield 22, 3), (46, .aload_n 0, 1), (47, .bipush 63, 2), (49, .newarray .int, 2), (51, .putfield 25, 3), (54, .aload_n 0, 1), (55, .bipush 63, 2), (57, .newarray .int, 2), (59, .putfield 28, 3), (62, .aload_n 0, 1), (63, .bipush 63, 2), (65, .newarray .int, 2), (67, .putfield 31, 3), (70, .aload_n 0, 1), (71, .sipush 1512, 3), (74, .newarray .int, 2), (76, .putfield 34, 3), (79, .aload_n 0, 1), (80, .bipush 126, 2), (82, .newarray .int, 2), (84, .putfield 37, 3), (87, .aload_n 0, 1), (88, .iconst 2, 1), (89, .newarray .boolean, 2), (91, .putfield 40, 3), (94, .aload_n 0, 1), (95, .bipush 6, 2), (97, .newarray .int, 2), (99, .putfield 44, 3), (102, .aload_n 0, 1), (103, .bipush 6, 2), (105, .newarray .int, 2), (107, .putfield 47, 3), (110, .aload_n 0, 1), (111, .bipush 64, 2), (113, .newarray .int, 2), (115, .putfield 50, 3), (118, .aload_n 0, 1), (119, .bipush 16, 2), (121, .newarray .int, 2), (123, .putfield 53, 3), (126, .iconst 0, 1), (127, .istore_n 1, 1), (128, .iload_n 1, 1), (129, .bipush 8, 2), (131, .if_icmp .ge 17, 3), (134, .aload_n 0, 1), (135, .getfield 7, 3), (138, .iload_n 1, 1), (139, .ldc 56, 2), (141, .iastore, 1), (142, .iinc 1 1, 3), (145, .goto (-17), 3), (148, .return_, 1)]
theorem DA_X9_init_0 : DT_X9_init_0.all (dtf cX9_init) = true := by decide +kernel
theorem dX9_init_0 : decode cX9_init 0 = .ok (.aload_n 0, 1) := dt_of DA_X9_init_0 0 rfl
theorem dX9_init_1 : decode cX9_init 1 = .ok (.invokespecial 1, 3) := dt_of DA_X9_init_0 1 rfl
theorem dX9_init_4 : decode cX9_init 4 = .ok (.aload_n 0, 1) := dt_of DA_X9_init_0 2 rfl
theorem dX9_init_5 : decode cX9_init 5 = .ok (.bipush 8, 2) := dt_of DA_X9_init_0 3 rfl
theorem dX9_init_7 : decode cX9_init 7 = .ok (.newarray .int, 2) := dt_of DA_X9_init_0 4 rfl
theorem dX9_init_9 : decode cX9_init 9 = .ok (.putfield 7, 3) := dt_of DA_X9_init_0 5 rfl
theorem dX9_init_12 : decode cX9_init 12 = .ok (.aload_n 0, 1) := dt_of DA_X9_init_0 6 rfl
theorem dX9_init_13 : decode cX9_init 13 = .ok (.bipush 8, 2) := dt_of DA_X9_init_0 7 rfl
theorem dX9_init_15 : decode cX9_init 15 = .ok (.newarray .int, 2) := dt_of DA_X9_init_0 8 rfl
theorem dX9_init_17 : decode cX9_init 17 = .ok (.putfield 13, 3) := dt_of DA_X9_init_0 9 rfl
theorem dX9_init_20 : decode cX9_init 20 = .ok (.aload_n 0, 1) := dt_of DA_X9_init_0 10 rfl
theorem dX9_init_21 : decode cX9_init 21 = .ok (.sipush 320, 3) := dt_of DA_X9_init_0 11 rfl
theorem dX9_init_24 : decode cX9_init 24 = .ok (.newarray .int, 2) := dt_of DA_X9_init_0 12 rfl
theorem dX9_init_26 : decode cX9_init 26 = .ok (.putfield 16, 3) := dt_of DA_X9_init_0 13 rfl
theorem dX9_init_29 : decode cX9_init 29 = .ok (.aload_n 0, 1) := dt_of DA_X9_init_0 14 rfl
theorem dX9_init_30 : decode cX9_init 30 = .ok (.bipush 40, 2) := dt_of DA_X9_init_0 15 rfl
theorem dX9_init_32 : decode cX9_init 32 = .ok (.newarray .int, 2) := dt_of DA_X9_init_0 16 rfl
theorem dX9_init_34 : decode cX9_init 34 = .ok (.putfield 19, 3) := dt_of DA_X9_init_0 17 rfl
theorem dX9_init_37 : decode cX9_init 37 = .ok (.aload_n 0, 1) := dt_of DA_X9_init_0 18 rfl
theorem dX9_init_38 : decode cX9_init 38 = .ok (.sipush 160, 3) := dt_of DA_X9_init_0 19 rfl
theorem dX9_init_41 : decode cX9_init 41 = .ok (.newarray .int, 2) := dt_of DA_X9_init_0 20 rfl
theorem dX9_init_43 : decode cX9_init 43 = .ok (.putfield 22, 3) := dt_of DA_X9_init_0 21 rfl
theorem dX9_init_46 : decode cX9_init 46 = .ok (.aload_n 0, 1) := dt_of DA_X9_init_0 22 rfl
theorem dX9_init_47 : decode cX9_init 47 = .ok (.bipush 63, 2) := dt_of DA_X9_init_0 23 rfl
theorem dX9_init_49 : decode cX9_init 49 = .ok (.newarray .int, 2) := dt_of DA_X9_init_0 24 rfl
theorem dX9_init_51 : decode cX9_init 51 = .ok (.putfield 25, 3) := dt_of DA_X9_init_0 25 rfl
theorem dX9_init_54 : decode cX9_init 54 = .ok (.aload_n 0, 1) := dt_of DA_X9_init_0 26 rfl
theorem dX9_init_55 : decode cX9_init 55 = .ok (.bipush 63, 2) := dt_of DA_X9_init_0 27 rfl
theorem dX9_init_57 : decode cX9_init 57 = .ok (.newarray .int, 2) := dt_of DA_X9_init_0 28 rfl
theorem dX9_init_59 : decode cX9_init 59 = .ok (.putfield 28, 3) := dt_of DA_X9_init_0 29 rfl
theorem dX9_init_62 : decode cX9_init 62 = .ok (.aload_n 0, 1) := dt_of DA_X9_init_0 30 rfl
theorem dX9_init_63 : decode cX9_init 63 = .ok (.bipush 63, 2) := dt_of DA_X9_init_0 31 rfl
theorem dX9_init_65 : decode cX9_init 65 = .ok (.newarray .int, 2) := dt_of DA_X9_init_0 32 rfl
theorem dX9_init_67 : decode cX9_init 67 = .ok (.putfield 31, 3) := dt_of DA_X9_init_0 33 rfl
theorem dX9_init_70 : decode cX9_init 70 = .ok (.aload_n 0, 1) := dt_of DA_X9_init_0 34 rfl
theorem dX9_init_71 : decode cX9_init 71 = .ok (.sipush 1512, 3) := dt_of DA_X9_init_0 35 rfl
theorem dX9_init_74 : decode cX9_init 74 = .ok (.newarray .int, 2) := dt_of DA_X9_init_0 36 rfl
theorem dX9_init_76 : decode cX9_init 76 = .ok (.putfield 34, 3) := dt_of DA_X9_init_0 37 rfl
theorem dX9_init_79 : decode cX9_init 79 = .ok (.aload_n 0, 1) := dt_of DA_X9_init_0 38 rfl
theorem dX9_init_80 : decode cX9_init 80 = .ok (.bipush 126, 2) := dt_of DA_X9_init_0 39 rfl
theorem dX9_init_82 : decode cX9_init 82 = .ok (.newarray .int, 2) := dt_of DA_X9_init_0 40 rfl
theorem dX9_init_84 : decode cX9_init 84 = .ok (.putfield 37, 3) := dt_of DA_X9_init_0 41 rfl
theorem dX9_init_87 : decode cX9_init 87 = .ok (.aload_n 0, 1) := dt_of DA_X9_init_0 42 rfl
theorem dX9_init_88 : decode cX9_init 88 = .ok (.iconst 2, 1) := dt_of DA_X9_init_0 43 rfl
theorem dX9_init_89 : decode cX9_init 89 = .ok (.newarray .boolean, 2) := dt_of DA_X9_init_0 44 rfl
theorem dX9_init_91 : decode cX9_init 91 = .ok (.putfield 40, 3) := dt_of DA_X9_init_0 45 rfl
theorem dX9_init_94 : decode cX9_init 94 = .ok (.aload_n 0, 1) := dt_of DA_X9_init_0 46 rfl
theorem dX9_init_95 : decode cX9_init 95 = .ok (.bipush 6, 2) := dt_of DA_X9_init_0 47 rfl
theorem dX9_init_97 : decode cX9_init 97 = .ok (.newarray .int, 2) := dt_of DA_X9_init_0 48 rfl
theorem dX9_init_99 : decode cX9_init 99 = .ok (.putfield 44, 3) := dt_of DA_X9_init_0 49 rfl
theorem dX9_init_102 : decode cX9_init 102 = .ok (.aload_n 0, 1) := dt_of DA_X9_init_0 50 rfl
theorem dX9_init_103 : decode cX9_init 103 = .ok (.bipush 6, 2) := dt_of DA_X9_init_0 51 rfl
theorem dX9_init_105 : decode cX9_init 105 = .ok (.newarray .int, 2) := dt_of DA_X9_init_0 52 rfl
theorem dX9_init_107 : decode cX9_init 107 = .ok (.putfield 47, 3) := dt_of DA_X9_init_0 53 rfl
theorem dX9_init_110 : decode cX9_init 110 = .ok (.aload_n 0, 1) := dt_of DA_X9_init_0 54 rfl
theorem dX9_init_111 : decode cX9_init 111 = .ok (.bipush 64, 2) := dt_of DA_X9_init_0 55 rfl
theorem dX9_init_113 : decode cX9_init 113 = .ok (.newarray .int, 2) := dt_of DA_X9_init_0 56 rfl
theorem dX9_init_115 : decode cX9_init 115 = .ok (.putfield 50, 3) := dt_of DA_X9_init_0 57 rfl
theorem dX9_init_118 : decode cX9_init 118 = .ok (.aload_n 0, 1) := dt_of DA_X9_init_0 58 rfl
theorem dX9_init_119 : decode cX9_init 119 = .ok (.bipush 16, 2) := dt_of DA_X9_init_0 59 rfl
theorem dX9_init_121 : decode cX9_init 121 = .ok (.newarray .int, 2) := dt_of DA_X9_init_0 60 rfl
theorem dX9_init_123 : decode cX9_init 123 = .ok (.putfield 53, 3) := dt_of DA_X9_init_0 61 rfl
theorem dX9_init_126 : decode cX9_init 126 = .ok (.iconst 0, 1) := dt_of DA_X9_init_0 62 rfl
theorem dX9_init_127 : decode cX9_init 127 = .ok (.istore_n 1, 1) := dt_of DA_X9_init_0 63 rfl
theorem dX9_init_128 : decode cX9_init 128 = .ok (.iload_n 1, 1) := dt_of DA_X9_init_0 64 rfl
theorem dX9_init_129 : decode cX9_init 129 = .ok (.bipush 8, 2) := dt_of DA_X9_init_0 65 rfl
theorem dX9_init_131 : decode cX9_init 131 = .ok (.if_icmp .ge 17, 3) := dt_of DA_X9_init_0 66 rfl
theorem dX9_init_134 : decode cX9_init 134 = .ok (.aload_n 0, 1) := dt_of DA_X9_init_0 67 rfl
theorem dX9_init_135 : decode cX9_init 135 = .ok (.getfield 7, 3) := dt_of DA_X9_init_0 68 rfl
theorem dX9_init_138 : decode cX9_init 138 = .ok (.iload_n 1, 1) := dt_of DA_X9_init_0 69 rfl
theorem dX9_init_139 : decode cX9_init 139 = .ok (.ldc 56, 2) := dt_of DA_X9_init_0 70 rfl
theorem dX9_init_141 : decode cX9_init 141 = .ok (.iastore, 1) := dt_of DA_X9_init_0 71 rfl
theorem dX9_init_142 : decode cX9_init 142 = .ok (.iinc 1 1, 3) := dt_of DA_X9_init_0 72 rfl
theorem dX9_init_145 : decode cX9_init 145 = .ok (.goto (-17), 3) := dt_of DA_X9_init_0 73 rfl
theorem dX9_init_148 : decode cX9_init 148 = .ok (.return_, 1) := dt_of DA_X9_init_0 74 rfl
def DT_X9_in_0 : List (Nat × Instr × Nat) := [(0, .iload_n 0, 1), (1, .iload_n 1, 1), (2, .if_icmp .lt 12, 3), (5, .iload_n 0, 1), (6, .iload_n 2, 1), (7, .if_icmp .gt 7, 3), (10, .iconst 1, 1), (11, .goto 4, 3), (14, .iconst 0, 1), (15, .ireturn, 1)]
theorem DA_X9_in_0 : DT_X9_in_0.all (dtf cX9_in) = true := by decide +kernel
theorem dX9_in_0 : decode cX9_in 0 = .ok (.iload_n 0, 1) := dt_of DA_X9_in_0 0 rfl
theorem dX9_in_1 : decode cX9_in 1 = .ok (.iload_n 1, 1) := dt_of DA_X9_in_0 1 rfl
theorem dX9_in_2 : decode cX9_in 2 = .ok (.if_icmp .lt 12, 3) := dt_of DA_X9_in_0 2 rfl
theorem dX9_in_5 : decode cX9_in 5 = .ok (.iload_n 0, 1) := dt_of DA_X9_in_0 3 rfl
theorem dX9_in_6 : decode cX9_in 6 = .ok (.iload_n 2, 1) := dt_of DA_X9_in_0 4 rfl
theorem dX9_in_7 : decode cX9_in 7 = .ok (.if_icmp .gt 7, 3) := dt_of DA_X9_in_0 5 rfl
theorem dX9_in_10 : decode cX9_in 10 = .ok (.iconst 1, 1) := dt_of DA_X9_in_0 6 rfl
theorem dX9_in_11 : decode cX9_in 11 = .ok (.goto 4, 3) := dt_of DA_X9_in_0 7 rfl
theorem dX9_in_14 : decode cX9_in 14 = .ok (.iconst 0, 1) := dt_of DA_X9_in_0 8 rfl
theorem dX9_in_15 : decode cX9_in 15 = .ok (.ireturn, 1) := dt_of DA_X9_in_0 9 rfl
def DT_X9_has_0 : List (Nat × Instr × Nat) := [(0, .iload_n 0, 1), (1, .iload_n 1, 1), (2, .ishr, 1), (3, .iconst 1, 1), (4, .iand, 1), (5, .iconst 1, 1), (6, .if_icmp .ne 7, 3), (9, .iconst 1, 1), (10, .goto 4, 3), (13, .iconst 0, 1), (14, .ireturn, 1)]
theorem DA_X9_has_0 : DT_X9_has_0.all (dtf cX9_has) = true := by decide +kernel
theorem dX9_has_0 : decode cX9_has 0 = .ok (.iload_n 0, 1) := dt_of DA_X9_has_0 0 rfl
theorem dX9_has_1 : decode cX9_has 1 = .ok (.iload_n 1, 1) := dt_of DA_X9_has_0 1 rfl
theorem dX9_has_2 : decode cX9_has 2 = .ok (.ishr, 1) := dt_of DA_X9_has_0 2 rfl
theorem dX9_has_3 : decode cX9_has 3 = .ok (.iconst 1, 1) := dt_of DA_X9_has_0 3 rfl
theorem dX9_has_4 : decode cX9_has 4 = .ok (.iand, 1) := dt_of DA_X9_has_0 4 rfl
theorem dX9_has_5 : decode cX9_has 5 = .ok (.iconst 1, 1) := dt_of DA_X9_has_0 5 rfl
theorem dX9_has_6 : decode cX9_has 6 = .ok (.if_icmp .ne 7, 3) := dt_of DA_X9_has_0 6 rfl
theorem dX9_has_9 : decode cX9_has 9 = .ok (.iconst 1, 1) := dt_of DA_X9_has_0 7 rfl
theorem dX9_has_10 : decode cX9_has 10 = .ok (.goto 4, 3) := dt_of DA_X9_has_0 8 rfl
theorem dX9_has_13 : decode cX9_has 13 = .ok (.iconst 0, 1) := dt_of DA_X9_has_0 9 rfl
theorem dX9_has_14 : decode cX9_has 14 = .ok (.ireturn, 1) := dt_of DA_X9_has_0 10 rfl
def DT_X9_most_0 : List (Nat × Instr × Nat) := [(0, .iload_n 0, 1), (1, .iload_n 1, 1), (2, .if_icmp .le 7, 3), (5, .iload_n 1, 1), (6, .goto 4, 3), (9, .iload_n 0, 1), (10, .ireturn, 1)]
theorem DA_X9_most_0 : DT_X9_most_0.all (dtf cX9_most) = true := by decide +kernel
theorem dX9_most_0 : decode cX9_most 0 = .ok (.iload_n 0, 1) := dt_of DA_X9_most_0 0 rfl
theorem dX9_most_1 : decode cX9_most 1 = .ok (.iload_n 1, 1) := dt_of DA_X9_most_0 1 rfl
theorem dX9_most_2 : decode cX9_most 2 = .ok (.if_icmp .le 7, 3) := dt_of DA_X9_most_0 2 rfl
theorem dX9_most_5 : decode cX9_most 5 = .ok (.iload_n 1, 1) := dt_of DA_X9_most_0 3 rfl
theorem dX9_most_6 : decode cX9_most 6 = .ok (.goto 4, 3) := dt_of DA_X9_most_0 4 rfl
theorem dX9_most_9 : decode cX9_most 9 = .ok (.iload_n 0, 1) := dt_of DA_X9_most_0 5 rfl
theorem dX9_most_10 : decode cX9_most 10 = .ok (.ireturn, 1) := dt_of DA_X9_most_0 6 rfl
def DT_X9_above_0 : List (Nat × Instr × Nat) := [(0, .iload_n 0, 1), (1, .ifCond .le 7, 3), (4, .iload_n 0, 1), (5, .goto 4, 3), (8, .iconst 0, 1), (9, .ireturn, 1)]
theorem DA_X9_above_0 : DT_X9_above_0.all (dtf cX9_above) = true := by decide +kernel
theorem dX9_above_0 : decode cX9_above 0 = .ok (.iload_n 0, 1) := dt_of DA_X9_above_0 0 rfl
theorem dX9_above_1 : decode cX9_above 1 = .ok (.ifCond .le 7, 3) := dt_of DA_X9_above_0 1 rfl
theorem dX9_above_4 : decode cX9_above 4 = .ok (.iload_n 0, 1) := dt_of DA_X9_above_0 2 rfl
theorem dX9_above_5 : decode cX9_above 5 = .ok (.goto 4, 3) := dt_of DA_X9_above_0 3 rfl
theorem dX9_above_8 : decode cX9_above 8 = .ok (.iconst 0, 1) := dt_of DA_X9_above_0 4 rfl
theorem dX9_above_9 : decode cX9_above 9 = .ok (.ireturn, 1) := dt_of DA_X9_above_0 5 rfl
def DT_X9_found_0 : List (Nat × Instr × Nat) := [(0, .aload_n 0, 1), (1, .iload_n 1, 1), (2, .putfield 57, 3), (5, .ldc 61, 2), (7, .iload_n 1, 1), (8, .isub, 1), (9, .ireturn, 1)]
theorem DA_X9_found_0 : DT_X9_found_0.all (dtf cX9_found) = true := by decide +kernel
theorem dX9_found_0 : decode cX9_found 0 = .ok (.aload_n 0, 1) := dt_of DA_X9_found_0 0 rfl
theorem dX9_found_1 : decode cX9_found 1 = .ok (.iload_n 1, 1) := dt_of DA_X9_found_0 1 rfl
theorem dX9_found_2 : decode cX9_found 2 = .ok (.putfield 57, 3) := dt_of DA_X9_found_0 2 rfl
theorem dX9_found_5 : decode cX9_found 5 = .ok (.ldc 61, 2) := dt_of DA_X9_found_0 3 rfl
theorem dX9_found_7 : decode cX9_found 7 = .ok (.iload_n 1, 1) := dt_of DA_X9_found_0 4 rfl
theorem dX9_found_8 : decode cX9_found 8 = .ok (.isub, 1) := dt_of DA_X9_found_0 5 rfl
theorem dX9_found_9 : decode cX9_found 9 = .ok (.ireturn, 1) := dt_of DA_X9_found_0 6 rfl
def DT_X9_well_0 : List (Nat × Instr × Nat) := [(0, .aload_n 0, 1), (1, .iconst 0, 1), (2, .putfield 57, 3), (5, .iload_n 1, 1), (6, .ireturn, 1)]
theorem DA_X9_well_0 : DT_X9_well_0.all (dtf cX9_well) = true := by decide +kernel
theorem dX9_well_0 : decode cX9_well 0 = .ok (.aload_n 0, 1) := dt_of DA_X9_well_0 0 rfl
theorem dX9_well_1 : decode cX9_well 1 = .ok (.iconst 0, 1) := dt_of DA_X9_well_0 1 rfl
theorem dX9_well_2 : decode cX9_well 2 = .ok (.putfield 57, 3) := dt_of DA_X9_well_0 2 rfl
theorem dX9_well_5 : decode cX9_well 5 = .ok (.iload_n 1, 1) := dt_of DA_X9_well_0 3 rfl
theorem dX9_well_6 : decode cX9_well 6 = .ok (.ireturn, 1) := dt_of DA_X9_well_0 4 rfl
def DT_X9_copies_0 : List (Nat × Instr × Nat) := [(0, .iconst 0, 1), (1, .istore 4, 2), (3, .iload 4, 2), (5, .bipush 63, 2), (7, .if_icmp .ge 21, 3), (10, .aload_n 2, 1), (11, .iload_n 3, 1), (12, .iload 4, 2), (14, .iadd, 1), (15, .aload_n 0, 1), (16, .iload_n 1, 1), (17, .iload 4, 2), (19, .iadd, 1), (20, .iaload, 1), (21, .iastore, 1), (22, .iinc 4 1, 3), (25, .goto (-22), 3), (28, .return_, 1)]
theorem DA_X9_copies_0 : DT_X9_copies_0.all (dtf cX9_copies) = true := by decide +kernel
theorem dX9_copies_0 : decode cX9_copies 0 = .ok (.iconst 0, 1) := dt_of DA_X9_copies_0 0 rfl
theorem dX9_copies_1 : decode cX9_copies 1 = .ok (.istore 4, 2) := dt_of DA_X9_copies_0 1 rfl
theorem dX9_copies_3 : decode cX9_copies 3 = .ok (.iload 4, 2) := dt_of DA_X9_copies_0 2 rfl
theorem dX9_copies_5 : decode cX9_copies 5 = .ok (.bipush 63, 2) := dt_of DA_X9_copies_0 3 rfl
theorem dX9_copies_7 : decode cX9_copies 7 = .ok (.if_icmp .ge 21, 3) := dt_of DA_X9_copies_0 4 rfl
theorem dX9_copies_10 : decode cX9_copies 10 = .ok (.aload_n 2, 1) := dt_of DA_X9_copies_0 5 rfl
theorem dX9_copies_11 : decode cX9_copies 11 = .ok (.iload_n 3, 1) := dt_of DA_X9_copies_0 6 rfl
theorem dX9_copies_12 : decode cX9_copies 12 = .ok (.iload 4, 2) := dt_of DA_X9_copies_0 7 rfl
theorem dX9_copies_14 : decode cX9_copies 14 = .ok (.iadd, 1) := dt_of DA_X9_copies_0 8 rfl
theorem dX9_copies_15 : decode cX9_copies 15 = .ok (.aload_n 0, 1) := dt_of DA_X9_copies_0 9 rfl
theorem dX9_copies_16 : decode cX9_copies 16 = .ok (.iload_n 1, 1) := dt_of DA_X9_copies_0 10 rfl
theorem dX9_copies_17 : decode cX9_copies 17 = .ok (.iload 4, 2) := dt_of DA_X9_copies_0 11 rfl
theorem dX9_copies_19 : decode cX9_copies 19 = .ok (.iadd, 1) := dt_of DA_X9_copies_0 12 rfl
theorem dX9_copies_20 : decode cX9_copies 20 = .ok (.iaload, 1) := dt_of DA_X9_copies_0 13 rfl
theorem dX9_copies_21 : decode cX9_copies 21 = .ok (.iastore, 1) := dt_of DA_X9_copies_0 14 rfl
theorem dX9_copies_22 : decode cX9_copies 22 = .ok (.iinc 4 1, 3) := dt_of DA_X9_copies_0 15 rfl
theorem dX9_copies_25 : decode cX9_copies 25 = .ok (.goto (-22), 3) := dt_of DA_X9_copies_0 16 rfl
theorem dX9_copies_28 : decode cX9_copies 28 = .ok (.return_, 1) := dt_of DA_X9_copies_0 17 rfl
def DT_X9_isRow_0 : List (Nat × Instr × Nat) := [(0, .iload_n 0, 1), (1, .iconst 0, 1), (2, .bipush 7, 2), (4, .invokestatic 62, 3), (7, .ireturn, 1)]
theorem DA_X9_isRow_0 : DT_X9_isRow_0.all (dtf cX9_isRow) = true := by decide +kernel
theorem dX9_isRow_0 : decode cX9_isRow 0 = .ok (.iload_n 0, 1) := dt_of DA_X9_isRow_0 0 rfl
theorem dX9_isRow_1 : decode cX9_isRow 1 = .ok (.iconst 0, 1) := dt_of DA_X9_isRow_0 1 rfl
theorem dX9_isRow_2 : decode cX9_isRow 2 = .ok (.bipush 7, 2) := dt_of DA_X9_isRow_0 2 rfl
theorem dX9_isRow_4 : decode cX9_isRow 4 = .ok (.invokestatic 62, 3) := dt_of DA_X9_isRow_0 3 rfl
theorem dX9_isRow_7 : decode cX9_isRow 7 = .ok (.ireturn, 1) := dt_of DA_X9_isRow_0 4 rfl
def DT_X9_isMissing_0 : List (Nat × Instr × Nat) := [(0, .aload_n 0, 1), (1, .getfield 7, 3), (4, .iload_n 1, 1), (5, .iaload, 1), (6, .ldc 56, 2), (8, .if_icmp .ne 7, 3), (11, .iconst 1, 1), (12, .goto 4, 3), (15, .iconst 0, 1), (16, .ireturn, 1)]
theorem DA_X9_isMissing_0 : DT_X9_isMissing_0.all (dtf cX9_isMissing) = true := by decide +kernel
theorem dX9_isMissing_0 : decode cX9_isMissing 0 = .ok (.aload_n 0, 1) := dt_of DA_X9_isMissing_0 0 rfl
theorem dX9_isMissing_1 : decode cX9_isMissing 1 = .ok (.getfield 7, 3) := dt_of DA_X9_isMissing_0 1 rfl
theorem dX9_isMissing_4 : decode cX9_isMissing 4 = .ok (.iload_n 1, 1) := dt_of DA_X9_isMissing_0 2 rfl
theorem dX9_isMissing_5 : decode cX9_isMissing 5 = .ok (.iaload, 1) := dt_of DA_X9_isMissing_0 3 rfl
theorem dX9_isMissing_6 : decode cX9_isMissing 6 = .ok (.ldc 56, 2) := dt_of DA_X9_isMissing_0 4 rfl
theorem dX9_isMissing_8 : decode cX9_isMissing 8 = .ok (.if_icmp .ne 7, 3) := dt_of DA_X9_isMissing_0 5 rfl
theorem dX9_isMissing_11 : decode cX9_isMissing 11 = .ok (.iconst 1, 1) := dt_of DA_X9_isMissing_0 6 rfl
theorem dX9_isMissing_12 : decode cX9_isMissing 12 = .ok (.goto 4, 3) := dt_of DA_X9_isMissing_0 7 rfl
theorem dX9_isMissing_15 : decode cX9_isMissing 15 = .ok (.iconst 0, 1) := dt_of DA_X9_isMissing_0 8 rfl
theorem dX9_isMissing_16 : decode cX9_isMissing 16 = .ok (.ireturn, 1) := dt_of DA_X9_isMissing_0 9 rfl
def DT_X9_cut_0 : List (Nat × Instr × Nat) := [(0, .iload_n 0, 1), (1, .ifCond .ne 13, 3), (4, .iload_n 1, 1), (5, .bipush 24, 2), (7, .ishl, 1), (8, .bipush 24, 2), (10, .ishr, 1), (11, .goto 19, 3), (14, .iload_n 0, 1), (15, .iconst 1, 1), (16, .if_icmp .ne 13, 3), (19, .iload_n 1, 1), (20, .bipush 16, 2), (22, .ishl, 1), (23, .bipush 16, 2), (25, .ishr, 1), (26, .goto 4, 3), (29, .iload_n 1, 1), (30, .ireturn, 1)]
theorem DA_X9_cut_0 : DT_X9_cut_0.all (dtf cX9_cut) = true := by decide +kernel
theorem dX9_cut_0 : decode cX9_cut 0 = .ok (.iload_n 0, 1) := dt_of DA_X9_cut_0 0 rfl
theorem dX9_cut_1 : decode cX9_cut 1 = .ok (.ifCond .ne 13, 3) := dt_of DA_X9_cut_0 1 rfl
theorem dX9_cut_4 : decode cX9_cut 4 = .ok (.iload_n 1, 1) := dt_of DA_X9_cut_0 2 rfl
theorem dX9_cut_5 : decode cX9_cut 5 = .ok (.bipush 24, 2) := dt_of DA_X9_cut_0 3 rfl
theorem dX9_cut_7 : decode cX9_cut 7 = .ok (.ishl, 1) := dt_of DA_X9_cut_0 4 rfl
theorem dX9_cut_8 : decode cX9_cut 8 = .ok (.bipush 24, 2) := dt_of DA_X9_cut_0 5 rfl
theorem dX9_cut_10 : decode cX9_cut 10 = .ok (.ishr, 1) := dt_of DA_X9_cut_0 6 rfl
theorem dX9_cut_11 : decode cX9_cut 11 = .ok (.goto 19, 3) := dt_of DA_X9_cut_0 7 rfl
theorem dX9_cut_14 : decode cX9_cut 14 = .ok (.iload_n 0, 1) := dt_of DA_X9_cut_0 8 rfl
theorem dX9_cut_15 : decode cX9_cut 15 = .ok (.iconst 1, 1) := dt_of DA_X9_cut_0 9 rfl
theorem dX9_cut_16 : decode cX9_cut 16 = .ok (.if_icmp .ne 13, 3) := dt_of DA_X9_cut_0 10 rfl
theorem dX9_cut_19 : decode cX9_cut 19 = .ok (.iload_n 1, 1) := dt_of DA_X9_cut_0 11 rfl
theorem dX9_cut_20 : decode cX9_cut 20 = .ok (.bipush 16, 2) := dt_of DA_X9_cut_0 12 rfl
theorem dX9_cut_22 : decode cX9_cut 22 = .ok (.ishl, 1) := dt_of DA_X9_cut_0 13 rfl
theorem dX9_cut_23 : decode cX9_cut 23 = .ok (.bipush 16, 2) := dt_of DA_X9_cut_0 14 rfl
theorem dX9_cut_25 : decode cX9_cut 25 = .ok (.ishr, 1) := dt_of DA_X9_cut_0 15 rfl
theorem dX9_cut_26 : decode cX9_cut 26 = .ok (.goto 4, 3) := dt_of DA_X9_cut_0 16 rfl
theorem dX9_cut_29 : decode cX9_cut 29 = .ok (.iload_n 1, 1) := dt_of DA_X9_cut_0 17 rfl
theorem dX9_cut_30 : decode cX9_cut 30 = .ok (.ireturn, 1) := dt_of DA_X9_cut_0 18 rfl
def DT_X9_row_0 : List (Nat × Instr × Nat) := [(0, .iload_n 1, 1), (1, .invokestatic 66, 3), (4, .ifCond .eq 18, 3), (7, .iload_n 2, 1), (8, .iconst 0, 1), (9, .iconst 2, 1), (10, .invokestatic 62, 3), (13, .ifCond .eq 9, 3), (16, .iload_n 3, 1), (17, .bipush 40, 2), (19, .if_icmp .le 6, 3), (22, .ldc 70, 2), (24, .ireturn, 1), (25, .iload_n 3, 1), (26, .ifCond .ge 9, 3), (29, .aload_n 0, 1), (30, .iconst 4, 1), (31, .invokevirtual 71, 3), (34, .ireturn, 1), (35, .aload_n 0, 1), (36, .getfield 7, 3), (39, .iload_n 1, 1), (40, .iload_n 2, 1), (41, .iastore, 1), (42, .aload_n 0, 1), (43, .getfield 13, 3), (46, .iload_n 1, 1), (47, .iload_n 3, 1), (48, .iastore, 1), (49, .iconst 0, 1), (50, .istore 4, 2), (52, .iload 4, 2), (54, .bipush 40, 2), (56, .if_icmp .ge 22, 3), (59, .aload_n 0, 1), (60, .getfield 16, 3), (63, .bipush 40, 2), (65, .iload_n 1, 1), (66, .imul, 1), (67, .iload 4, 2), (69, .iadd, 1), (70, .iconst 0, 1), (71, .iastore, 1), (72, .iinc 4 1, 3), (75, .goto (-23), 3), (78, .aload_n 0, 1), (79, .iload_n 3, 1), (80, .invokevirtual 75, 3), (83, .ireturn, 1)]
theorem DA_X9_row_0 : DT_X9_row_0.all (dtf cX9_row) = true := by decide +kernel
theorem dX9_row_0 : decode cX9_row 0 = .ok (.iload_n 1, 1) := dt_of DA_X9_row_0 0 rfl
theorem dX9_row_1 : decode cX9_row 1 = .ok (.invokestatic 66, 3) := dt_of DA_X9_row_0 1 rfl
theorem dX9_row_4 : decode cX9_row 4 = .ok (.ifCond .eq 18, 3) := dt_of DA_X9_row_0 2 rfl
theorem dX9_row_7 : decode cX9_row 7 = .ok (.iload_n 2, 1) := dt_of DA_X9_row_0 3 rfl
theorem dX9_row_8 : decode cX9_row 8 = .ok (.iconst 0, 1) := dt_of DA_X9_row_0 4 rfl
theorem dX9_row_9 : decode cX9_row 9 = .ok (.iconst 2, 1) := dt_of DA_X9_row_0 5 rfl
theorem dX9_row_10 : decode cX9_row 10 = .ok (.invokestatic 62, 3) := dt_of DA_X9_row_0 6 rfl
theorem dX9_row_13 : decode cX9_row 13 = .ok (.ifCond .eq 9, 3) := dt_of DA_X9_row_0 7 rfl
theorem dX9_row_16 : decode cX9_row 16 = .ok (.iload_n 3, 1) := dt_of DA_X9_row_0 8 rfl
theorem dX9_row_17 : decode cX9_row 17 = .ok (.bipush 40, 2) := dt_of DA_X9_row_0 9 rfl
theorem dX9_row_19 : decode cX9_row 19 = .ok (.if_icmp .le 6, 3) := dt_of DA_X9_row_0 10 rfl
theorem dX9_row_22 : decode cX9_row 22 = .ok (.ldc 70, 2) := dt_of DA_X9_row_0 11 rfl
theorem dX9_row_24 : decode cX9_row 24 = .ok (.ireturn, 1) := dt_of DA_X9_row_0 12 rfl
theorem dX9_row_25 : decode cX9_row 25 = .ok (.iload_n 3, 1) := dt_of DA_X9_row_0 13 rfl
theorem dX9_row_26 : decode cX9_row 26 = .ok (.ifCond .ge 9, 3) := dt_of DA_X9_row_0 14 rfl
theorem dX9_row_29 : decode cX9_row 29 = .ok (.aload_n 0, 1) := dt_of DA_X9_row_0 15 rfl
theorem dX9_row_30 : decode cX9_row 30 = .ok (.iconst 4, 1) := dt_of DA_X9_row_0 16 rfl
theorem dX9_row_31 : decode cX9_row 31 = .ok (.invokevirtual 71, 3) := dt_of DA_X9_row_0 17 rfl
theorem dX9_row_34 : decode cX9_row 34 = .ok (.ireturn, 1) := dt_of DA_X9_row_0 18 rfl
theorem dX9_row_35 : decode cX9_row 35 = .ok (.aload_n 0, 1) := dt_of DA_X9_row_0 19 rfl
theorem dX9_row_36 : decode cX9_row 36 = .ok (.getfield 7, 3) := dt_of DA_X9_row_0 20 rfl
theorem dX9_row_39 : decode cX9_row 39 = .ok (.iload_n 1, 1) := dt_of DA_X9_row_0 21 rfl
theorem dX9_row_40 : decode cX9_row 40 = .ok (.iload_n 2, 1) := dt_of DA_X9_row_0 22 rfl
theorem dX9_row_41 : decode cX9_row 41 = .ok (.iastore, 1) := dt_of DA_X9_row_0 23 rfl
theorem dX9_row_42 : decode cX9_row 42 = .ok (.aload_n 0, 1) := dt_of DA_X9_row_0 24 rfl
theorem dX9_row_43 : decode cX9_row 43 = .ok (.getfield 13, 3) := dt_of DA_X9_row_0 25 rfl
theorem dX9_row_46 : decode cX9_row 46 = .ok (.iload_n 1, 1) := dt_of DA_X9_row_0 26 rfl
theorem dX9_row_47 : decode cX9_row 47 = .ok (.iload_n 3, 1) := dt_of DA_X9_row_0 27 rfl
theorem dX9_row_48 : decode cX9_row 48 = .ok (.iastore, 1) := dt_of DA_X9_row_0 28 rfl
theorem dX9_row_49 : decode cX9_row 49 = .ok (.iconst 0, 1) := dt_of DA_X9_row_0 29 rfl
theorem dX9_row_50 : decode cX9_row 50 = .ok (.istore 4, 2) := dt_of DA_X9_row_0 30 rfl
theorem dX9_row_52 : decode cX9_row 52 = .ok (.iload 4, 2) := dt_of DA_X9_row_0 31 rfl
theorem dX9_row_54 : decode cX9_row 54 = .ok (.bipush 40, 2) := dt_of DA_X9_row_0 32 rfl
theorem dX9_row_56 : decode cX9_row 56 = .ok (.if_icmp .ge 22, 3) := dt_of DA_X9_row_0 33 rfl
theorem dX9_row_59 : decode cX9_row 59 = .ok (.aload_n 0, 1) := dt_of DA_X9_row_0 34 rfl
theorem dX9_row_60 : decode cX9_row 60 = .ok (.getfield 16, 3) := dt_of DA_X9_row_0 35 rfl
theorem dX9_row_63 : decode cX9_row 63 = .ok (.bipush 40, 2) := dt_of DA_X9_row_0 36 rfl
theorem dX9_row_65 : decode cX9_row 65 = .ok (.iload_n 1, 1) := dt_of DA_X9_row_0 37 rfl
theorem dX9_row_66 : decode cX9_row 66 = .ok (.imul, 1) := dt_of DA_X9_row_0 38 rfl
theorem dX9_row_67 : decode cX9_row 67 = .ok (.iload 4, 2) := dt_of DA_X9_row_0 39 rfl
theorem dX9_row_69 : decode cX9_row 69 = .ok (.iadd, 1) := dt_of DA_X9_row_0 40 rfl
theorem dX9_row_70 : decode cX9_row 70 = .ok (.iconst 0, 1) := dt_of DA_X9_row_0 41 rfl
theorem dX9_row_71 : decode cX9_row 71 = .ok (.iastore, 1) := dt_of DA_X9_row_0 42 rfl
theorem dX9_row_72 : decode cX9_row 72 = .ok (.iinc 4 1, 3) := dt_of DA_X9_row_0 43 rfl
theorem dX9_row_75 : decode cX9_row 75 = .ok (.goto (-23), 3) := dt_of DA_X9_row_0 44 rfl
theorem dX9_row_78 : decode cX9_row 78 = .ok (.aload_n 0, 1) := dt_of DA_X9_row_0 45 rfl
theorem dX9_row_79 : decode cX9_row 79 = .ok (.iload_n 3, 1) := dt_of DA_X9_row_0 46 rfl
theorem dX9_row_80 : decode cX9_row 80 = .ok (.invokevirtual 75, 3) := dt_of DA_X9_row_0 47 rfl
theorem dX9_row_83 : decode cX9_row 83 = .ok (.ireturn, 1) := dt_of DA_X9_row_0 48 rfl
def DT_X9_set_0 : List (Nat × Instr × Nat) := [(0, .iload_n 1, 1), (1, .invokestatic 66, 3), (4, .ifCond .ne 6, 3), (7, .ldc 70, 2), (9, .ireturn, 1), (10, .aload_n 0, 1), (11, .iload_n 1, 1), (12, .invokevirtual 78, 3), (15, .ifCond .eq 9, 3), (18, .aload_n 0, 1), (19, .iconst 1, 1), (20, .invokevirtual 71, 3), (23, .ireturn, 1), (24, .iload_n 2, 1), (25, .iconst 0, 1), (26, .aload_n 0, 1), (27, .getfield 13, 3), (30, .iload_n 1, 1), (31, .iaload, 1), (32, .iconst 1, 1), (33, .isub, 1), (34, .invokestatic 62, 3), (37, .ifCond .ne 9, 3), (40, .aload_n 0, 1), (41, .iconst 2, 1), (42, .invokevirtual 71, 3), (45, .ireturn, 1), (46, .aload_n 0, 1), (47, .getfield 16, 3), (50, .bipush 40, 2), (52, .iload_n 1, 1), (53, .imul, 1), (54, .iload_n 2, 1), (55, .iadd, 1), (56, .aload_n 0, 1), (57, .getfield 7, 3), (60, .iload_n 1, 1), (61, .iaload, 1), (62, .iload_n 3, 1), (63, .invokestatic 81, 3), (66, .iastore, 1), (67, .aload_n 0, 1), (68, .aload_n 0, 1), (69, .getfield 16, 3), (72, .bipush 40, 2), (74, .iload_n 1, 1), (75, .imul, 1), (76, .iload_n 2, 1), (77, .iadd, 1), (78, .iaload, 1), (79, .invokevirtual 75, 3), (82, .ireturn, 1)]
theorem DA_X9_set_0 : DT_X9_set_0.all (dtf cX9_set) = true := by decide +kernel
theorem dX9_set_0 : decode cX9_set 0 = .ok (.iload_n 1, 1) := dt_of DA_X9_set_0 0 rfl
theorem dX9_set_1 : decode cX9_set 1 = .ok (.invokestatic 66, 3) := dt_of DA_X9_set_0 1 rfl
theorem dX9_set_4 : decode cX9_set 4 = .ok (.ifCond .ne 6, 3) := dt_of DA_X9_set_0 2 rfl
theorem dX9_set_7 : decode cX9_set 7 = .ok (.ldc 70, 2) := dt_of DA_X9_set_0 3 rfl
theorem dX9_set_9 : decode cX9_set 9 = .ok (.ireturn, 1) := dt_of DA_X9_set_0 4 rfl
theorem dX9_set_10 : decode cX9_set 10 = .ok (.aload_n 0, 1) := dt_of DA_X9_set_0 5 rfl
theorem dX9_set_11 : decode cX9_set 11 = .ok (.iload_n 1, 1) := dt_of DA_X9_set_0 6 rfl
theorem dX9_set_12 : decode cX9_set 12 = .ok (.invokevirtual 78, 3) := dt_of DA_X9_set_0 7 rfl
theorem dX9_set_15 : decode cX9_set 15 = .ok (.ifCond .eq 9, 3) := dt_of DA_X9_set_0 8 rfl
theorem dX9_set_18 : decode cX9_set 18 = .ok (.aload_n 0, 1) := dt_of DA_X9_set_0 9 rfl
theorem dX9_set_19 : decode cX9_set 19 = .ok (.iconst 1, 1) := dt_of DA_X9_set_0 10 rfl
theorem dX9_set_20 : decode cX9_set 20 = .ok (.invokevirtual 71, 3) := dt_of DA_X9_set_0 11 rfl
theorem dX9_set_23 : decode cX9_set 23 = .ok (.ireturn, 1) := dt_of DA_X9_set_0 12 rfl
theorem dX9_set_24 : decode cX9_set 24 = .ok (.iload_n 2, 1) := dt_of DA_X9_set_0 13 rfl
theorem dX9_set_25 : decode cX9_set 25 = .ok (.iconst 0, 1) := dt_of DA_X9_set_0 14 rfl
theorem dX9_set_26 : decode cX9_set 26 = .ok (.aload_n 0, 1) := dt_of DA_X9_set_0 15 rfl
theorem dX9_set_27 : decode cX9_set 27 = .ok (.getfield 13, 3) := dt_of DA_X9_set_0 16 rfl
theorem dX9_set_30 : decode cX9_set 30 = .ok (.iload_n 1, 1) := dt_of DA_X9_set_0 17 rfl
theorem dX9_set_31 : decode cX9_set 31 = .ok (.iaload, 1) := dt_of DA_X9_set_0 18 rfl
theorem dX9_set_32 : decode cX9_set 32 = .ok (.iconst 1, 1) := dt_of DA_X9_set_0 19 rfl
theorem dX9_set_33 : decode cX9_set 33 = .ok (.isub, 1) := dt_of DA_X9_set_0 20 rfl
theorem dX9_set_34 : decode cX9_set 34 = .ok (.invokestatic 62, 3) := dt_of DA_X9_set_0 21 rfl
theorem dX9_set_37 : decode cX9_set 37 = .ok (.ifCond .ne 9, 3) := dt_of DA_X9_set_0 22 rfl
theorem dX9_set_40 : decode cX9_set 40 = .ok (.aload_n 0, 1) := dt_of DA_X9_set_0 23 rfl
theorem dX9_set_41 : decode cX9_set 41 = .ok (.iconst 2, 1) := dt_of DA_X9_set_0 24 rfl
theorem dX9_set_42 : decode cX9_set 42 = .ok (.invokevirtual 71, 3) := dt_of DA_X9_set_0 25 rfl
theorem dX9_set_45 : decode cX9_set 45 = .ok (.ireturn, 1) := dt_of DA_X9_set_0 26 rfl
theorem dX9_set_46 : decode cX9_set 46 = .ok (.aload_n 0, 1) := dt_of DA_X9_set_0 27 rfl
theorem dX9_set_47 : decode cX9_set 47 = .ok (.getfield 16, 3) := dt_of DA_X9_set_0 28 rfl
theorem dX9_set_50 : decode cX9_set 50 = .ok (.bipush 40, 2) := dt_of DA_X9_set_0 29 rfl
theorem dX9_set_52 : decode cX9_set 52 = .ok (.iload_n 1, 1) := dt_of DA_X9_set_0 30 rfl
theorem dX9_set_53 : decode cX9_set 53 = .ok (.imul, 1) := dt_of DA_X9_set_0 31 rfl
theorem dX9_set_54 : decode cX9_set 54 = .ok (.iload_n 2, 1) := dt_of DA_X9_set_0 32 rfl
theorem dX9_set_55 : decode cX9_set 55 = .ok (.iadd, 1) := dt_of DA_X9_set_0 33 rfl
theorem dX9_set_56 : decode cX9_set 56 = .ok (.aload_n 0, 1) := dt_of DA_X9_set_0 34 rfl
theorem dX9_set_57 : decode cX9_set 57 = .ok (.getfield 7, 3) := dt_of DA_X9_set_0 35 rfl
theorem dX9_set_60 : decode cX9_set 60 = .ok (.iload_n 1, 1) := dt_of DA_X9_set_0 36 rfl
theorem dX9_set_61 : decode cX9_set 61 = .ok (.iaload, 1) := dt_of DA_X9_set_0 37 rfl
theorem dX9_set_62 : decode cX9_set 62 = .ok (.iload_n 3, 1) := dt_of DA_X9_set_0 38 rfl
theorem dX9_set_63 : decode cX9_set 63 = .ok (.invokestatic 81, 3) := dt_of DA_X9_set_0 39 rfl
theorem dX9_set_66 : decode cX9_set 66 = .ok (.iastore, 1) := dt_of DA_X9_set_0 40 rfl
theorem dX9_set_67 : decode cX9_set 67 = .ok (.aload_n 0, 1) := dt_of DA_X9_set_0 41 rfl
theorem dX9_set_68 : decode cX9_set 68 = .ok (.aload_n 0, 1) := dt_of DA_X9_set_0 42 rfl
theorem dX9_set_69 : decode cX9_set 69 = .ok (.getfield 16, 3) := dt_of DA_X9_set_0 43 rfl
theorem dX9_set_72 : decode cX9_set 72 = .ok (.bipush 40, 2) := dt_of DA_X9_set_0 44 rfl
theorem dX9_set_74 : decode cX9_set 74 = .ok (.iload_n 1, 1) := dt_of DA_X9_set_0 45 rfl
theorem dX9_set_75 : decode cX9_set 75 = .ok (.imul, 1) := dt_of DA_X9_set_0 46 rfl
theorem dX9_set_76 : decode cX9_set 76 = .ok (.iload_n 2, 1) := dt_of DA_X9_set_0 47 rfl
theorem dX9_set_77 : decode cX9_set 77 = .ok (.iadd, 1) := dt_of DA_X9_set_0 48 rfl
theorem dX9_set_78 : decode cX9_set 78 = .ok (.iaload, 1) := dt_of DA_X9_set_0 49 rfl
theorem dX9_set_79 : decode cX9_set 79 = .ok (.invokevirtual 75, 3) := dt_of DA_X9_set_0 50 rfl
theorem dX9_set_82 : decode cX9_set 82 = .ok (.ireturn, 1) := dt_of DA_X9_set_0 51 rfl
def DT_X9_isPart_0 : List (Nat × Instr × Nat) := [(0, .iload_n 2, 1), (1, .ifCond .lt 33, 3), (4, .iload_n 3, 1), (5, .ifCond .lt 29, 3), (8, .iload_n 2, 1), (9, .aload_n 0, 1), (10, .getfield 13, 3), (13, .iload_n 1, 1), (14, .iaload, 1), (15, .if_icmp .gt 19, 3), (18, .iload_n 3, 1), (19, .aload_n 0, 1), (20, .getfield 13, 3), (23, .iload_n 1, 1), (24, .iaload, 1), (25, .iload_n 2, 1), (26, .isub, 1), (27, .if_icmp .gt 7, 3), (30, .iconst 1, 1), (31, .goto 4, 3), (34, .iconst 0, 1), (35, .ireturn, 1)]
theorem DA_X9_isPart_0 : DT_X9_isPart_0.all (dtf cX9_isPart) = true := by decide +kernel
theorem dX9_isPart_0 : decode cX9_isPart 0 = .ok (.iload_n 2, 1) := dt_of DA_X9_isPart_0 0 rfl
theorem dX9_isPart_1 : decode cX9_isPart 1 = .ok (.ifCond .lt 33, 3) := dt_of DA_X9_isPart_0 1 rfl
theorem dX9_isPart_4 : decode cX9_isPart 4 = .ok (.iload_n 3, 1) := dt_of DA_X9_isPart_0 2 rfl
theorem dX9_isPart_5 : decode cX9_isPart 5 = .ok (.ifCond .lt 29, 3) := dt_of DA_X9_isPart_0 3 rfl
theorem dX9_isPart_8 : decode cX9_isPart 8 = .ok (.iload_n 2, 1) := dt_of DA_X9_isPart_0 4 rfl
theorem dX9_isPart_9 : decode cX9_isPart 9 = .ok (.aload_n 0, 1) := dt_of DA_X9_isPart_0 5 rfl
theorem dX9_isPart_10 : decode cX9_isPart 10 = .ok (.getfield 13, 3) := dt_of DA_X9_isPart_0 6 rfl
theorem dX9_isPart_13 : decode cX9_isPart 13 = .ok (.iload_n 1, 1) := dt_of DA_X9_isPart_0 7 rfl
theorem dX9_isPart_14 : decode cX9_isPart 14 = .ok (.iaload, 1) := dt_of DA_X9_isPart_0 8 rfl
theorem dX9_isPart_15 : decode cX9_isPart 15 = .ok (.if_icmp .gt 19, 3) := dt_of DA_X9_isPart_0 9 rfl
theorem dX9_isPart_18 : decode cX9_isPart 18 = .ok (.iload_n 3, 1) := dt_of DA_X9_isPart_0 10 rfl
theorem dX9_isPart_19 : decode cX9_isPart 19 = .ok (.aload_n 0, 1) := dt_of DA_X9_isPart_0 11 rfl
theorem dX9_isPart_20 : decode cX9_isPart 20 = .ok (.getfield 13, 3) := dt_of DA_X9_isPart_0 12 rfl
theorem dX9_isPart_23 : decode cX9_isPart 23 = .ok (.iload_n 1, 1) := dt_of DA_X9_isPart_0 13 rfl
theorem dX9_isPart_24 : decode cX9_isPart 24 = .ok (.iaload, 1) := dt_of DA_X9_isPart_0 14 rfl
theorem dX9_isPart_25 : decode cX9_isPart 25 = .ok (.iload_n 2, 1) := dt_of DA_X9_isPart_0 15 rfl
theorem dX9_isPart_26 : decode cX9_isPart 26 = .ok (.isub, 1) := dt_of DA_X9_isPart_0 16 rfl
theorem dX9_isPart_27 : decode cX9_isPart 27 = .ok (.if_icmp .gt 7, 3) := dt_of DA_X9_isPart_0 17 rfl
theorem dX9_isPart_30 : decode cX9_isPart 30 = .ok (.iconst 1, 1) := dt_of DA_X9_isPart_0 18 rfl
theorem dX9_isPart_31 : decode cX9_isPart 31 = .ok (.goto 4, 3) := dt_of DA_X9_isPart_0 19 rfl
theorem dX9_isPart_34 : decode cX9_isPart 34 = .ok (.iconst 0, 1) := dt_of DA_X9_isPart_0 20 rfl
theorem dX9_isPart_35 : decode cX9_isPart 35 = .ok (.ireturn, 1) := dt_of DA_X9_isPart_0 21 rfl
def DT_X9_copy_0 : List (Nat × Instr × Nat) := [(0, .iload_n 1, 1), (1, .invokestatic 66, 3), (4, .ifCond .eq 10, 3), (7, .iload_n 3, 1), (8, .invokestatic 66, 3), (11, .ifCond .ne 6, 3), (14, .ldc 70, 2), (16, .ireturn, 1), (17, .aload_n 0, 1), (18, .iload_n 1, 1), (19, .invokevirtual 78, 3), (22, .ifCond .ne 11, 3), (25, .aload_n 0, 1), (26, .iload_n 3, 1), (27, .invokevirtual 78, 3), (30, .ifCond .eq 9, 3), (33, .aload_n 0, 1), (34, .iconst 1, 1), (35, .invokevirtual 71, 3), (38, .ireturn, 1), (39, .aload_n 0, 1), (40, .getfield 7, 3), (43, .iload_n 1, 1), (44, .iaload, 1), (45, .aload_n 0, 1), (46, .getfield 7, 3), (49, .iload_n 3, 1), (50, .iaload, 1), (51, .if_icmp .eq 9, 3), (54, .aload_n 0, 1), (55, .iconst 5, 1), (56, .invokevirtual 71, 3), (59, .ireturn, 1), (60, .aload_n 0, 1), (61, .iload_n 1, 1), (62, .iload_n 2, 1), (63, .iload 5, 2), (65, .invokevirtual 85, 3), (68, .ifCond .eq 15, 3), (71, .aload_n 0, 1), (72, .iload_n 3, 1), (73, .iload 4, 2), (75, .iload 5, 2), (77, .invokevirtual 85, 3), (80, .ifCond .ne 9, 3), (83, .aload_n 0, 1), (84, .iconst 2, 1), (85, .invokevirtual 71, 3), (88, .ireturn, 1), (89, .iconst 0, 1), (90, .istore 6, 2), (92, .iload 6, 2), (94, .iload 5, 2), (96, .if_icmp .ge 30, 3), (99, .aload_n 0, 1), (100, .getfield 19, 3), (103, .iload 6, 2), (105, .aload_n 0, 1), (106, .getfield 16, 3), (109, .bipush 40, 2), (111, .iload_n 1, 1), (112, .imul, 1), (113, .iload_n 2, 1), (114, .iadd, 1), (115, .iload 6, 2), (117, .iadd, 1), (118, .iaload, 1), (119, .iastore, 1), (120, .iinc 6 1, 3), (123, .goto (-31), 3), (126, .iconst 0, 1), (127, .istore 6, 2), (129, .iload 6, 2), (131, .iload 5, 2), (133, .if_icmp .ge 31, 3), (136, .aload_n 0, 1), (137, .getfield 16, 3), (140, .bipush 40, 2), (142, .iload_n 3, 1), (143, .imul, 1), (144, .iload 4, 2), (146, .iadd, 1), (147, .iload 6, 2), (149, .iadd, 1), (150, .aload_n 0, 1), (151, .getfield 19, 3), (154, .iload 6, 2), (156, .iaload, 1), (157, .iastore, 1), (158, .iinc 6 1, 3), (161, .goto (-32), 3), (164, .aload_n 0, 1), (165, .iload 5, 2), (167, .invokevirtual 75, 3), (170, .ireturn, 1)]
theorem DA_X9_copy_0 : DT_X9_copy_0.all (dtf cX9_copy) = true := by decide +kernel
theorem dX9_copy_0 : decode cX9_copy 0 = .ok (.iload_n 1, 1) := dt_of DA_X9_copy_0 0 rfl
theorem dX9_copy_1 : decode cX9_copy 1 = .ok (.invokestatic 66, 3) := dt_of DA_X9_copy_0 1 rfl
theorem dX9_copy_4 : decode cX9_copy 4 = .ok (.ifCond .eq 10, 3) := dt_of DA_X9_copy_0 2 rfl
theorem dX9_copy_7 : decode cX9_copy 7 = .ok (.iload_n 3, 1) := dt_of DA_X9_copy_0 3 rfl
theorem dX9_copy_8 : decode cX9_copy 8 = .ok (.invokestatic 66, 3) := dt_of DA_X9_copy_0 4 rfl
theorem dX9_copy_11 : decode cX9_copy 11 = .ok (.ifCond .ne 6, 3) := dt_of DA_X9_copy_0 5 rfl
theorem dX9_copy_14 : decode cX9_copy 14 = .ok (.ldc 70, 2) := dt_of DA_X9_copy_0 6 rfl
theorem dX9_copy_16 : decode cX9_copy 16 = .ok (.ireturn, 1) := dt_of DA_X9_copy_0 7 rfl
theorem dX9_copy_17 : decode cX9_copy 17 = .ok (.aload_n 0, 1) := dt_of DA_X9_copy_0 8 rfl
theorem dX9_copy_18 : decode cX9_copy 18 = .ok (.iload_n 1, 1) := dt_of DA_X9_copy_0 9 rfl
theorem dX9_copy_19 : decode cX9_copy 19 = .ok (.invokevirtual 78, 3) := dt_of DA_X9_copy_0 10 rfl
theorem dX9_copy_22 : decode cX9_copy 22 = .ok (.ifCond .ne 11, 3) := dt_of DA_X9_copy_0 11 rfl
theorem dX9_copy_25 : decode cX9_copy 25 = .ok (.aload_n 0, 1) := dt_of DA_X9_copy_0 12 rfl
theorem dX9_copy_26 : decode cX9_copy 26 = .ok (.iload_n 3, 1) := dt_of DA_X9_copy_0 13 rfl
theorem dX9_copy_27 : decode cX9_copy 27 = .ok (.invokevirtual 78, 3) := dt_of DA_X9_copy_0 14 rfl
theorem dX9_copy_30 : decode cX9_copy 30 = .ok (.ifCond .eq 9, 3) := dt_of DA_X9_copy_0 15 rfl
theorem dX9_copy_33 : decode cX9_copy 33 = .ok (.aload_n 0, 1) := dt_of DA_X9_copy_0 16 rfl
theorem dX9_copy_34 : decode cX9_copy 34 = .ok (.iconst 1, 1) := dt_of DA_X9_copy_0 17 rfl
theorem dX9_copy_35 : decode cX9_copy 35 = .ok (.invokevirtual 71, 3) := dt_of DA_X9_copy_0 18 rfl
theorem dX9_copy_38 : decode cX9_copy 38 = .ok (.ireturn, 1) := dt_of DA_X9_copy_0 19 rfl
theorem dX9_copy_39 : decode cX9_copy 39 = .ok (.aload_n 0, 1) := dt_of DA_X9_copy_0 20 rfl
theorem dX9_copy_40 : decode cX9_copy 40 = .ok (.getfield 7, 3) := dt_of DA_X9_copy_0 21 rfl
theorem dX9_copy_43 : decode cX9_copy 43 = .ok (.iload_n 1, 1) := dt_of DA_X9_copy_0 22 rfl
theorem dX9_copy_44 : decode cX9_copy 44 = .ok (.iaload, 1) := dt_of DA_X9_copy_0 23 rfl
theorem dX9_copy_45 : decode cX9_copy 45 = .ok (.aload_n 0, 1) := dt_of DA_X9_copy_0 24 rfl
theorem dX9_copy_46 : decode cX9_copy 46 = .ok (.getfield 7, 3) := dt_of DA_X9_copy_0 25 rfl
theorem dX9_copy_49 : decode cX9_copy 49 = .ok (.iload_n 3, 1) := dt_of DA_X9_copy_0 26 rfl
theorem dX9_copy_50 : decode cX9_copy 50 = .ok (.iaload, 1) := dt_of DA_X9_copy_0 27 rfl
theorem dX9_copy_51 : decode cX9_copy 51 = .ok (.if_icmp .eq 9, 3) := dt_of DA_X9_copy_0 28 rfl
theorem dX9_copy_54 : decode cX9_copy 54 = .ok (.aload_n 0, 1) := dt_of DA_X9_copy_0 29 rfl
theorem dX9_copy_55 : decode cX9_copy 55 = .ok (.iconst 5, 1) := dt_of DA_X9_copy_0 30 rfl
theorem dX9_copy_56 : decode cX9_copy 56 = .ok (.invokevirtual 71, 3) := dt_of DA_X9_copy_0 31 rfl
theorem dX9_copy_59 : decode cX9_copy 59 = .ok (.ireturn, 1) := dt_of DA_X9_copy_0 32 rfl
theorem dX9_copy_60 : decode cX9_copy 60 = .ok (.aload_n 0, 1) := dt_of DA_X9_copy_0 33 rfl
theorem dX9_copy_61 : decode cX9_copy 61 = .ok (.iload_n 1, 1) := dt_of DA_X9_copy_0 34 rfl
theorem dX9_copy_62 : decode cX9_copy 62 = .ok (.iload_n 2, 1) := dt_of DA_X9_copy_0 35 rfl
theorem dX9_copy_63 : decode cX9_copy 63 = .ok (.iload 5, 2) := dt_of DA_X9_copy_0 36 rfl
theorem dX9_copy_65 : decode cX9_copy 65 = .ok (.invokevirtual 85, 3) := dt_of DA_X9_copy_0 37 rfl
theorem dX9_copy_68 : decode cX9_copy 68 = .ok (.ifCond .eq 15, 3) := dt_of DA_X9_copy_0 38 rfl
theorem dX9_copy_71 : decode cX9_copy 71 = .ok (.aload_n 0, 1) := dt_of DA_X9_copy_0 39 rfl
theorem dX9_copy_72 : decode cX9_copy 72 = .ok (.iload_n 3, 1) := dt_of DA_X9_copy_0 40 rfl
theorem dX9_copy_73 : decode cX9_copy 73 = .ok (.iload 4, 2) := dt_of DA_X9_copy_0 41 rfl
theorem dX9_copy_75 : decode cX9_copy 75 = .ok (.iload 5, 2) := dt_of DA_X9_copy_0 42 rfl
theorem dX9_copy_77 : decode cX9_copy 77 = .ok (.invokevirtual 85, 3) := dt_of DA_X9_copy_0 43 rfl
theorem dX9_copy_80 : decode cX9_copy 80 = .ok (.ifCond .ne 9, 3) := dt_of DA_X9_copy_0 44 rfl
theorem dX9_copy_83 : decode cX9_copy 83 = .ok (.aload_n 0, 1) := dt_of DA_X9_copy_0 45 rfl
theorem dX9_copy_84 : decode cX9_copy 84 = .ok (.iconst 2, 1) := dt_of DA_X9_copy_0 46 rfl
theorem dX9_copy_85 : decode cX9_copy 85 = .ok (.invokevirtual 71, 3) := dt_of DA_X9_copy_0 47 rfl
theorem dX9_copy_88 : decode cX9_copy 88 = .ok (.ireturn, 1) := dt_of DA_X9_copy_0 48 rfl
theorem dX9_copy_89 : decode cX9_copy 89 = .ok (.iconst 0, 1) := dt_of DA_X9_copy_0 49 rfl
theorem dX9_copy_90 : decode cX9_copy 90 = .ok (.istore 6, 2) := dt_of DA_X9_copy_0 50 rfl
theorem dX9_copy_92 : decode cX9_copy 92 = .ok (.iload 6, 2) := dt_of DA_X9_copy_0 51 rfl
theorem dX9_copy_94 : decode cX9_copy 94 = .ok (.iload 5, 2) := dt_of DA_X9_copy_0 52 rfl
theorem dX9_copy_96 : decode cX9_copy 96 = .ok (.if_icmp .ge 30, 3) := dt_of DA_X9_copy_0 53 rfl
theorem dX9_copy_99 : decode cX9_copy 99 = .ok (.aload_n 0, 1) := dt_of DA_X9_copy_0 54 rfl
theorem dX9_copy_100 : decode cX9_copy 100 = .ok (.getfield 19, 3) := dt_of DA_X9_copy_0 55 rfl
theorem dX9_copy_103 : decode cX9_copy 103 = .ok (.iload 6, 2) := dt_of DA_X9_copy_0 56 rfl
theorem dX9_copy_105 : decode cX9_copy 105 = .ok (.aload_n 0, 1) := dt_of DA_X9_copy_0 57 rfl
theorem dX9_copy_106 : decode cX9_copy 106 = .ok (.getfield 16, 3) := dt_of DA_X9_copy_0 58 rfl
theorem dX9_copy_109 : decode cX9_copy 109 = .ok (.bipush 40, 2) := dt_of DA_X9_copy_0 59 rfl
theorem dX9_copy_111 : decode cX9_copy 111 = .ok (.iload_n 1, 1) := dt_of DA_X9_copy_0 60 rfl
theorem dX9_copy_112 : decode cX9_copy 112 = .ok (.imul, 1) := dt_of DA_X9_copy_0 61 rfl
theorem dX9_copy_113 : decode cX9_copy 113 = .ok (.iload_n 2, 1) := dt_of DA_X9_copy_0 62 rfl
theorem dX9_copy_114 : decode cX9_copy 114 = .ok (.iadd, 1) := dt_of DA_X9_copy_0 63 rfl
theorem dX9_copy_115 : decode cX9_copy 115 = .ok (.iload 6, 2) := dt_of DA_X9_copy_0 64 rfl
theorem dX9_copy_117 : decode cX9_copy 117 = .ok (.iadd, 1) := dt_of DA_X9_copy_0 65 rfl
theorem dX9_copy_118 : decode cX9_copy 118 = .ok (.iaload, 1) := dt_of DA_X9_copy_0 66 rfl
theorem dX9_copy_119 : decode cX9_copy 119 = .ok (.iastore, 1) := dt_of DA_X9_copy_0 67 rfl
theorem dX9_copy_120 : decode cX9_copy 120 = .ok (.iinc 6 1, 3) := dt_of DA_X9_copy_0 68 rfl
theorem dX9_copy_123 : decode cX9_copy 123 = .ok (.goto (-31), 3) := dt_of DA_X9_copy_0 69 rfl
theorem dX9_copy_126 : decode cX9_copy 126 = .ok (.iconst 0, 1) := dt_of DA_X9_copy_0 70 rfl
theorem dX9_copy_127 : decode cX9_copy 127 = .ok (.istore 6, 2) := dt_of DA_X9_copy_0 71 rfl
theorem dX9_copy_129 : decode cX9_copy 129 = .ok (.iload 6, 2) := dt_of DA_X9_copy_0 72 rfl
theorem dX9_copy_131 : decode cX9_copy 131 = .ok (.iload 5, 2) := dt_of DA_X9_copy_0 73 rfl
theorem dX9_copy_133 : decode cX9_copy 133 = .ok (.if_icmp .ge 31, 3) := dt_of DA_X9_copy_0 74 rfl
theorem dX9_copy_136 : decode cX9_copy 136 = .ok (.aload_n 0, 1) := dt_of DA_X9_copy_0 75 rfl
theorem dX9_copy_137 : decode cX9_copy 137 = .ok (.getfield 16, 3) := dt_of DA_X9_copy_0 76 rfl
theorem dX9_copy_140 : decode cX9_copy 140 = .ok (.bipush 40, 2) := dt_of DA_X9_copy_0 77 rfl
theorem dX9_copy_142 : decode cX9_copy 142 = .ok (.iload_n 3, 1) := dt_of DA_X9_copy_0 78 rfl
theorem dX9_copy_143 : decode cX9_copy 143 = .ok (.imul, 1) := dt_of DA_X9_copy_0 79 rfl
theorem dX9_copy_144 : decode cX9_copy 144 = .ok (.iload 4, 2) := dt_of DA_X9_copy_0 80 rfl
theorem dX9_copy_146 : decode cX9_copy 146 = .ok (.iadd, 1) := dt_of DA_X9_copy_0 81 rfl
theorem dX9_copy_147 : decode cX9_copy 147 = .ok (.iload 6, 2) := dt_of DA_X9_copy_0 82 rfl
theorem dX9_copy_149 : decode cX9_copy 149 = .ok (.iadd, 1) := dt_of DA_X9_copy_0 83 rfl
theorem dX9_copy_150 : decode cX9_copy 150 = .ok (.aload_n 0, 1) := dt_of DA_X9_copy_0 84 rfl
theorem dX9_copy_151 : decode cX9_copy 151 = .ok (.getfield 19, 3) := dt_of DA_X9_copy_0 85 rfl
theorem dX9_copy_154 : decode cX9_copy 154 = .ok (.iload 6, 2) := dt_of DA_X9_copy_0 86 rfl
theorem dX9_copy_156 : decode cX9_copy 156 = .ok (.iaload, 1) := dt_of DA_X9_copy_0 87 rfl
theorem dX9_copy_157 : decode cX9_copy 157 = .ok (.iastore, 1) := dt_of DA_X9_copy_0 88 rfl
theorem dX9_copy_158 : decode cX9_copy 158 = .ok (.iinc 6 1, 3) := dt_of DA_X9_copy_0 89 rfl
theorem dX9_copy_161 : decode cX9_copy 161 = .ok (.goto (-32), 3) := dt_of DA_X9_copy_0 90 rfl
theorem dX9_copy_164 : decode cX9_copy 164 = .ok (.aload_n 0, 1) := dt_of DA_X9_copy_0 91 rfl
theorem dX9_copy_165 : decode cX9_copy 165 = .ok (.iload 5, 2) := dt_of DA_X9_copy_0 92 rfl
theorem dX9_copy_167 : decode cX9_copy 167 = .ok (.invokevirtual 75, 3) := dt_of DA_X9_copy_0 93 rfl
theorem dX9_copy_170 : decode cX9_copy 170 = .ok (.ireturn, 1) := dt_of DA_X9_copy_0 94 rfl
def DT_X9_drop_0 : List (Nat × Instr × Nat) := [(0, .iload_n 1, 1), (1, .invokestatic 66, 3), (4, .ifCond .ne 6, 3), (7, .ldc 70, 2), (9, .ireturn, 1), (10, .aload_n 0, 1), (11, .iload_n 1, 1), (12, .invokevirtual 78, 3), (15, .ifCond .eq 9, 3), (18, .aload_n 0, 1), (19, .iconst 1, 1), (20, .invokevirtual 71, 3), (23, .ireturn, 1), (24, .aload_n 0, 1), (25, .getfield 7, 3), (28, .iload_n 1, 1), (29, .ldc 56, 2), (31, .iastore, 1), (32, .aload_n 0, 1), (33, .aload_n 0, 1), (34, .getfield 13, 3), (37, .iload_n 1, 1), (38, .iaload, 1), (39, .invokevirtual 75, 3), (42, .ireturn, 1)]
theorem DA_X9_drop_0 : DT_X9_drop_0.all (dtf cX9_drop) = true := by decide +kernel
theorem dX9_drop_0 : decode cX9_drop 0 = .ok (.iload_n 1, 1) := dt_of DA_X9_drop_0 0 rfl
theorem dX9_drop_1 : decode cX9_drop 1 = .ok (.invokestatic 66, 3) := dt_of DA_X9_drop_0 1 rfl
theorem dX9_drop_4 : decode cX9_drop 4 = .ok (.ifCond .ne 6, 3) := dt_of DA_X9_drop_0 2 rfl
theorem dX9_drop_7 : decode cX9_drop 7 = .ok (.ldc 70, 2) := dt_of DA_X9_drop_0 3 rfl
theorem dX9_drop_9 : decode cX9_drop 9 = .ok (.ireturn, 1) := dt_of DA_X9_drop_0 4 rfl
theorem dX9_drop_10 : decode cX9_drop 10 = .ok (.aload_n 0, 1) := dt_of DA_X9_drop_0 5 rfl
theorem dX9_drop_11 : decode cX9_drop 11 = .ok (.iload_n 1, 1) := dt_of DA_X9_drop_0 6 rfl
theorem dX9_drop_12 : decode cX9_drop 12 = .ok (.invokevirtual 78, 3) := dt_of DA_X9_drop_0 7 rfl
theorem dX9_drop_15 : decode cX9_drop 15 = .ok (.ifCond .eq 9, 3) := dt_of DA_X9_drop_0 8 rfl
theorem dX9_drop_18 : decode cX9_drop 18 = .ok (.aload_n 0, 1) := dt_of DA_X9_drop_0 9 rfl
theorem dX9_drop_19 : decode cX9_drop 19 = .ok (.iconst 1, 1) := dt_of DA_X9_drop_0 10 rfl
theorem dX9_drop_20 : decode cX9_drop 20 = .ok (.invokevirtual 71, 3) := dt_of DA_X9_drop_0 11 rfl
theorem dX9_drop_23 : decode cX9_drop 23 = .ok (.ireturn, 1) := dt_of DA_X9_drop_0 12 rfl
theorem dX9_drop_24 : decode cX9_drop 24 = .ok (.aload_n 0, 1) := dt_of DA_X9_drop_0 13 rfl
theorem dX9_drop_25 : decode cX9_drop 25 = .ok (.getfield 7, 3) := dt_of DA_X9_drop_0 14 rfl
theorem dX9_drop_28 : decode cX9_drop 28 = .ok (.iload_n 1, 1) := dt_of DA_X9_drop_0 15 rfl
theorem dX9_drop_29 : decode cX9_drop 29 = .ok (.ldc 56, 2) := dt_of DA_X9_drop_0 16 rfl
theorem dX9_drop_31 : decode cX9_drop 31 = .ok (.iastore, 1) := dt_of DA_X9_drop_0 17 rfl
theorem dX9_drop_32 : decode cX9_drop 32 = .ok (.aload_n 0, 1) := dt_of DA_X9_drop_0 18 rfl
theorem dX9_drop_33 : decode cX9_drop 33 = .ok (.aload_n 0, 1) := dt_of DA_X9_drop_0 19 rfl
theorem dX9_drop_34 : decode cX9_drop 34 = .ok (.getfield 13, 3) := dt_of DA_X9_drop_0 20 rfl
theorem dX9_drop_37 : decode cX9_drop 37 = .ok (.iload_n 1, 1) := dt_of DA_X9_drop_0 21 rfl
theorem dX9_drop_38 : decode cX9_drop 38 = .ok (.iaload, 1) := dt_of DA_X9_drop_0 22 rfl
theorem dX9_drop_39 : decode cX9_drop 39 = .ok (.invokevirtual 75, 3) := dt_of DA_X9_drop_0 23 rfl
theorem dX9_drop_42 : decode cX9_drop 42 = .ok (.ireturn, 1) := dt_of DA_X9_drop_0 24 rfl
def DT_X9_feed_0 : List (Nat × Instr × Nat) := [(0, .iload_n 1, 1), (1, .iconst 0, 1), (2, .sipush 255, 3), (5, .invokestatic 62, 3), (8, .ifCond .ne 6, 3), (11, .ldc 70, 2), (13, .ireturn, 1), (14, .aload_n 0, 1), (15, .getfield 88, 3), (18, .sipush 160, 3), (21, .if_icmp .ne 6, 3), (24, .ldc 91, 2), (26, .ireturn, 1), (27, .aload_n 0, 1), (28, .getfield 22, 3), (31, .aload_n 0, 1), (32, .getfield 88, 3), (35, .iload_n 1, 1), (36, .iastore, 1), (37, .aload_n 0, 1), (38, .dup, 1), (39, .getfield 88, 3), (42, .iconst 1, 1), (43, .iadd, 1), (44, .putfield 88, 3), (47, .aload_n 0, 1), (48, .getfield 88, 3), (51, .ireturn, 1)]
theorem DA_X9_feed_0 : DT_X9_feed_0.all (dtf cX9_feed) = true := by decide +kernel
theorem dX9_feed_0 : decode cX9_feed 0 = .ok (.iload_n 1, 1) := dt_of DA_X9_feed_0 0 rfl
theorem dX9_feed_1 : decode cX9_feed 1 = .ok (.iconst 0, 1) := dt_of DA_X9_feed_0 1 rfl
theorem dX9_feed_2 : decode cX9_feed 2 = .ok (.sipush 255, 3) := dt_of DA_X9_feed_0 2 rfl
theorem dX9_feed_5 : decode cX9_feed 5 = .ok (.invokestatic 62, 3) := dt_of DA_X9_feed_0 3 rfl
theorem dX9_feed_8 : decode cX9_feed 8 = .ok (.ifCond .ne 6, 3) := dt_of DA_X9_feed_0 4 rfl
theorem dX9_feed_11 : decode cX9_feed 11 = .ok (.ldc 70, 2) := dt_of DA_X9_feed_0 5 rfl
theorem dX9_feed_13 : decode cX9_feed 13 = .ok (.ireturn, 1) := dt_of DA_X9_feed_0 6 rfl
theorem dX9_feed_14 : decode cX9_feed 14 = .ok (.aload_n 0, 1) := dt_of DA_X9_feed_0 7 rfl
theorem dX9_feed_15 : decode cX9_feed 15 = .ok (.getfield 88, 3) := dt_of DA_X9_feed_0 8 rfl
theorem dX9_feed_18 : decode cX9_feed 18 = .ok (.sipush 160, 3) := dt_of DA_X9_feed_0 9 rfl
theorem dX9_feed_21 : decode cX9_feed 21 = .ok (.if_icmp .ne 6, 3) := dt_of DA_X9_feed_0 10 rfl
theorem dX9_feed_24 : decode cX9_feed 24 = .ok (.ldc 91, 2) := dt_of DA_X9_feed_0 11 rfl
theorem dX9_feed_26 : decode cX9_feed 26 = .ok (.ireturn, 1) := dt_of DA_X9_feed_0 12 rfl
theorem dX9_feed_27 : decode cX9_feed 27 = .ok (.aload_n 0, 1) := dt_of DA_X9_feed_0 13 rfl
theorem dX9_feed_28 : decode cX9_feed 28 = .ok (.getfield 22, 3) := dt_of DA_X9_feed_0 14 rfl
theorem dX9_feed_31 : decode cX9_feed 31 = .ok (.aload_n 0, 1) := dt_of DA_X9_feed_0 15 rfl
theorem dX9_feed_32 : decode cX9_feed 32 = .ok (.getfield 88, 3) := dt_of DA_X9_feed_0 16 rfl
theorem dX9_feed_35 : decode cX9_feed 35 = .ok (.iload_n 1, 1) := dt_of DA_X9_feed_0 17 rfl
theorem dX9_feed_36 : decode cX9_feed 36 = .ok (.iastore, 1) := dt_of DA_X9_feed_0 18 rfl
theorem dX9_feed_37 : decode cX9_feed 37 = .ok (.aload_n 0, 1) := dt_of DA_X9_feed_0 19 rfl
theorem dX9_feed_38 : decode cX9_feed 38 = .ok (.dup, 1) := dt_of DA_X9_feed_0 20 rfl
theorem dX9_feed_39 : decode cX9_feed 39 = .ok (.getfield 88, 3) := dt_of DA_X9_feed_0 21 rfl
theorem dX9_feed_42 : decode cX9_feed 42 = .ok (.iconst 1, 1) := dt_of DA_X9_feed_0 22 rfl
theorem dX9_feed_43 : decode cX9_feed 43 = .ok (.iadd, 1) := dt_of DA_X9_feed_0 23 rfl
theorem dX9_feed_44 : decode cX9_feed 44 = .ok (.putfield 88, 3) := dt_of DA_X9_feed_0 24 rfl
theorem dX9_feed_47 : decode cX9_feed 47 = .ok (.aload_n 0, 1) := dt_of DA_X9_feed_0 25 rfl
theorem dX9_feed_48 : decode cX9_feed 48 = .ok (.getfield 88, 3) := dt_of DA_X9_feed_0 26 rfl
theorem dX9_feed_51 : decode cX9_feed 51 = .ok (.ireturn, 1) := dt_of DA_X9_feed_0 27 rfl
def DT_X9_byteAt_0 : List (Nat × Instr × Nat) := [(0, .iload_n 1, 1), (1, .aload_n 0, 1), (2, .getfield 88, 3), (5, .if_icmp .ge 12, 3), (8, .aload_n 0, 1), (9, .getfield 22, 3), (12, .iload_n 1, 1), (13, .iaload, 1), (14, .goto 4, 3), (17, .iconst (-1), 1), (18, .ireturn, 1)]
theorem DA_X9_byteAt_0 : DT_X9_byteAt_0.all (dtf cX9_byteAt) = true := by decide +kernel
theorem dX9_byteAt_0 : decode cX9_byteAt 0 = .ok (.iload_n 1, 1) := dt_of DA_X9_byteAt_0 0 rfl
theorem dX9_byteAt_1 : decode cX9_byteAt 1 = .ok (.aload_n 0, 1) := dt_of DA_X9_byteAt_0 1 rfl
theorem dX9_byteAt_2 : decode cX9_byteAt 2 = .ok (.getfield 88, 3) := dt_of DA_X9_byteAt_0 2 rfl
theorem dX9_byteAt_5 : decode cX9_byteAt 5 = .ok (.if_icmp .ge 12, 3) := dt_of DA_X9_byteAt_0 3 rfl
theorem dX9_byteAt_8 : decode cX9_byteAt 8 = .ok (.aload_n 0, 1) := dt_of DA_X9_byteAt_0 4 rfl
theorem dX9_byteAt_9 : decode cX9_byteAt 9 = .ok (.getfield 22, 3) := dt_of DA_X9_byteAt_0 5 rfl
theorem dX9_byteAt_12 : decode cX9_byteAt 12 = .ok (.iload_n 1, 1) := dt_of DA_X9_byteAt_0 6 rfl
theorem dX9_byteAt_13 : decode cX9_byteAt 13 = .ok (.iaload, 1) := dt_of DA_X9_byteAt_0 7 rfl
theorem dX9_byteAt_14 : decode cX9_byteAt 14 = .ok (.goto 4, 3) := dt_of DA_X9_byteAt_0 8 rfl
theorem dX9_byteAt_17 : decode cX9_byteAt 17 = .ok (.iconst (-1), 1) := dt_of DA_X9_byteAt_0 9 rfl
theorem dX9_byteAt_18 : decode cX9_byteAt 18 = .ok (.ireturn, 1) := dt_of DA_X9_byteAt_0 10 rfl
def DT_X9_advances_0 : List (Nat × Instr × Nat) := [(0, .aload_n 0, 1), (1, .aload_n 0, 1), (2, .getfield 92, 3), (5, .putfield 95, 3), (8, .aload_n 0, 1), (9, .aload_n 0, 1), (10, .getfield 92, 3), (13, .invokevirtual 98, 3), (16, .istore_n 1, 1), (17, .aload_n 0, 1), (18, .iload_n 1, 1), (19, .putfield 101, 3), (22, .iload_n 1, 1), (23, .bipush 48, 2), (25, .bipush 57, 2), (27, .invokestatic 62, 3), (30, .ifCond .eq 105, 3), (33, .aload_n 0, 1), (34, .iconst 0, 1), (35, .putfield 101, 3), (38, .aload_n 0, 1), (39, .aload_n 0, 1), (40, .getfield 92, 3), (43, .invokevirtual 98, 3), (46, .bipush 48, 2), (48, .bipush 57, 2), (50, .invokestatic 62, 3), (53, .ifCond .eq 59, 3), (56, .aload_n 0, 1), (57, .aload_n 0, 1), (58, .getfield 92, 3), (61, .aload_n 0, 1), (62, .getfield 95, 3), (65, .isub, 1), (66, .iconst 2, 1), (67, .if_icmp .ge 25, 3), (70, .bipush 10, 2), (72, .aload_n 0, 1), (73, .getfield 101, 3), (76, .imul, 1), (77, .aload_n 0, 1), (78, .aload_n 0, 1), (79, .getfield 92, 3), (82, .invokevirtual 98, 3), (85, .iadd, 1), (86, .bipush 48, 2), (88, .isub, 1), (89, .goto 7, 3), (92, .aload_n 0, 1), (93, .getfield 101, 3), (96, .putfield 101, 3), (99, .aload_n 0, 1), (100, .dup, 1), (101, .getfield 92, 3), (104, .iconst 1, 1), (105, .iadd, 1), (106, .putfield 92, 3), (109, .goto (-71), 3), (112, .aload_n 0, 1), (113, .aload_n 0, 1), (114, .getfield 92, 3), (117, .aload_n 0, 1), (118, .getfield 95, 3), (121, .isub, 1), (122, .iconst 3, 1), (123, .if_icmp .ge 7, 3), (126, .iconst 2, 1), (127, .goto 4, 3), (130, .iconst 5, 1), (131, .putfield 104, 3), (134, .return_, 1), (135, .aload_n 0, 1), (136, .iload_n 1, 1), (137, .ifCond .ge 7, 3), (140, .iconst 0, 1), (141, .goto 39, 3), (144, .iload_n 1, 1), (145, .bipush 97, 2), (147, .bipush 122, 2), (149, .invokestatic 62, 3), (152, .ifCond .eq 7, 3), (155, .iconst 1, 1), (156, .goto 24, 3), (159, .iload_n 1, 1), (160, .bipush 44, 2), (162, .if_icmp .ne 7, 3), (165, .iconst 3, 1), (166, .goto 14, 3), (169, .iload_n 1, 1), (170, .bipush 59, 2), (172, .if_icmp .ne 7, 3), (175, .iconst 4, 1), (176, .goto 4, 3), (179, .iconst 5, 1), (180, .putfield 104, 3), (183, .aload_n 0, 1), (184, .dup, 1), (185, .getfield 92, 3), (188, .aload_n 0, 1), (189, .getfield 104, 3)]
theorem DA_X9_advances_0 : DT_X9_advances_0.all (dtf cX9_advances) = true := by decide +kernel
theorem dX9_advances_0 : decode cX9_advances 0 = .ok (.aload_n 0, 1) := dt_of DA_X9_advances_0 0 rfl
theorem dX9_advances_1 : decode cX9_advances 1 = .ok (.aload_n 0, 1) := dt_of DA_X9_advances_0 1 rfl
theorem dX9_advances_2 : decode cX9_advances 2 = .ok (.getfield 92, 3) := dt_of DA_X9_advances_0 2 rfl
theorem dX9_advances_5 : decode cX9_advances 5 = .ok (.putfield 95, 3) := dt_of DA_X9_advances_0 3 rfl
theorem dX9_advances_8 : decode cX9_advances 8 = .ok (.aload_n 0, 1) := dt_of DA_X9_advances_0 4 rfl
theorem dX9_advances_9 : decode cX9_advances 9 = .ok (.aload_n 0, 1) := dt_of DA_X9_advances_0 5 rfl
theorem dX9_advances_10 : decode cX9_advances 10 = .ok (.getfield 92, 3) := dt_of DA_X9_advances_0 6 rfl
theorem dX9_advances_13 : decode cX9_advances 13 = .ok (.invokevirtual 98, 3) := dt_of DA_X9_advances_0 7 rfl
theorem dX9_advances_16 : decode cX9_advances 16 = .ok (.istore_n 1, 1) := dt_of DA_X9_advances_0 8 rfl
theorem dX9_advances_17 : decode cX9_advances 17 = .ok (.aload_n 0, 1) := dt_of DA_X9_advances_0 9 rfl
theorem dX9_advances_18 : decode cX9_advances 18 = .ok (.iload_n 1, 1) := dt_of DA_X9_advances_0 10 rfl
theorem dX9_advances_19 : decode cX9_advances 19 = .ok (.putfield 101, 3) := dt_of DA_X9_advances_0 11 rfl
theorem dX9_advances_22 : decode cX9_advances 22 = .ok (.iload_n 1, 1) := dt_of DA_X9_advances_0 12 rfl
theorem dX9_advances_23 : decode cX9_advances 23 = .ok (.bipush 48, 2) := dt_of DA_X9_advances_0 13 rfl
theorem dX9_advances_25 : decode cX9_advances 25 = .ok (.bipush 57, 2) := dt_of DA_X9_advances_0 14 rfl
theorem dX9_advances_27 : decode cX9_advances 27 = .ok (.invokestatic 62, 3) := dt_of DA_X9_advances_0 15 rfl
theorem dX9_advances_30 : decode cX9_advances 30 = .ok (.ifCond .eq 105, 3) := dt_of DA_X9_advances_0 16 rfl
theorem dX9_advances_33 : decode cX9_advances 33 = .ok (.aload_n 0, 1) := dt_of DA_X9_advances_0 17 rfl
theorem dX9_advances_34 : decode cX9_advances 34 = .ok (.iconst 0, 1) := dt_of DA_X9_advances_0 18 rfl
theorem dX9_advances_35 : decode cX9_advances 35 = .ok (.putfield 101, 3) := dt_of DA_X9_advances_0 19 rfl
theorem dX9_advances_38 : decode cX9_advances 38 = .ok (.aload_n 0, 1) := dt_of DA_X9_advances_0 20 rfl
theorem dX9_advances_39 : decode cX9_advances 39 = .ok (.aload_n 0, 1) := dt_of DA_X9_advances_0 21 rfl
theorem dX9_advances_40 : decode cX9_advances 40 = .ok (.getfield 92, 3) := dt_of DA_X9_advances_0 22 rfl
theorem dX9_advances_43 : decode cX9_advances 43 = .ok (.invokevirtual 98, 3) := dt_of DA_X9_advances_0 23 rfl
theorem dX9_advances_46 : decode cX9_advances 46 = .ok (.bipush 48, 2) := dt_of DA_X9_advances_0 24 rfl
theorem dX9_advances_48 : decode cX9_advances 48 = .ok (.bipush 57, 2) := dt_of DA_X9_advances_0 25 rfl
theorem dX9_advances_50 : decode cX9_advances 50 = .ok (.invokestatic 62, 3) := dt_of DA_X9_advances_0 26 rfl
theorem dX9_advances_53 : decode cX9_advances 53 = .ok (.ifCond .eq 59, 3) := dt_of DA_X9_advances_0 27 rfl
theorem dX9_advances_56 : decode cX9_advances 56 = .ok (.aload_n 0, 1) := dt_of DA_X9_advances_0 28 rfl
theorem dX9_advances_57 : decode cX9_advances 57 = .ok (.aload_n 0, 1) := dt_of DA_X9_advances_0 29 rfl
theorem dX9_advances_58 : decode cX9_advances 58 = .ok (.getfield 92, 3) := dt_of DA_X9_advances_0 30 rfl
theorem dX9_advances_61 : decode cX9_advances 61 = .ok (.aload_n 0, 1) := dt_of DA_X9_advances_0 31 rfl
theorem dX9_advances_62 : decode cX9_advances 62 = .ok (.getfield 95, 3) := dt_of DA_X9_advances_0 32 rfl
theorem dX9_advances_65 : decode cX9_advances 65 = .ok (.isub, 1) := dt_of DA_X9_advances_0 33 rfl
theorem dX9_advances_66 : decode cX9_advances 66 = .ok (.iconst 2, 1) := dt_of DA_X9_advances_0 34 rfl
theorem dX9_advances_67 : decode cX9_advances 67 = .ok (.if_icmp .ge 25, 3) := dt_of DA_X9_advances_0 35 rfl
theorem dX9_advances_70 : decode cX9_advances 70 = .ok (.bipush 10, 2) := dt_of DA_X9_advances_0 36 rfl
theorem dX9_advances_72 : decode cX9_advances 72 = .ok (.aload_n 0, 1) := dt_of DA_X9_advances_0 37 rfl
theorem dX9_advances_73 : decode cX9_advances 73 = .ok (.getfield 101, 3) := dt_of DA_X9_advances_0 38 rfl
theorem dX9_advances_76 : decode cX9_advances 76 = .ok (.imul, 1) := dt_of DA_X9_advances_0 39 rfl
theorem dX9_advances_77 : decode cX9_advances 77 = .ok (.aload_n 0, 1) := dt_of DA_X9_advances_0 40 rfl
theorem dX9_advances_78 : decode cX9_advances 78 = .ok (.aload_n 0, 1) := dt_of DA_X9_advances_0 41 rfl
theorem dX9_advances_79 : decode cX9_advances 79 = .ok (.getfield 92, 3) := dt_of DA_X9_advances_0 42 rfl
theorem dX9_advances_82 : decode cX9_advances 82 = .ok (.invokevirtual 98, 3) := dt_of DA_X9_advances_0 43 rfl
theorem dX9_advances_85 : decode cX9_advances 85 = .ok (.iadd, 1) := dt_of DA_X9_advances_0 44 rfl
theorem dX9_advances_86 : decode cX9_advances 86 = .ok (.bipush 48, 2) := dt_of DA_X9_advances_0 45 rfl
theorem dX9_advances_88 : decode cX9_advances 88 = .ok (.isub, 1) := dt_of DA_X9_advances_0 46 rfl
theorem dX9_advances_89 : decode cX9_advances 89 = .ok (.goto 7, 3) := dt_of DA_X9_advances_0 47 rfl
theorem dX9_advances_92 : decode cX9_advances 92 = .ok (.aload_n 0, 1) := dt_of DA_X9_advances_0 48 rfl
theorem dX9_advances_93 : decode cX9_advances 93 = .ok (.getfield 101, 3) := dt_of DA_X9_advances_0 49 rfl
theorem dX9_advances_96 : decode cX9_advances 96 = .ok (.putfield 101, 3) := dt_of DA_X9_advances_0 50 rfl
theorem dX9_advances_99 : decode cX9_advances 99 = .ok (.aload_n 0, 1) := dt_of DA_X9_advances_0 51 rfl
theorem dX9_advances_100 : decode cX9_advances 100 = .ok (.dup, 1) := dt_of DA_X9_advances_0 52 rfl
theorem dX9_advances_101 : decode cX9_advances 101 = .ok (.getfield 92, 3) := dt_of DA_X9_advances_0 53 rfl
theorem dX9_advances_104 : decode cX9_advances 104 = .ok (.iconst 1, 1) := dt_of DA_X9_advances_0 54 rfl
theorem dX9_advances_105 : decode cX9_advances 105 = .ok (.iadd, 1) := dt_of DA_X9_advances_0 55 rfl
theorem dX9_advances_106 : decode cX9_advances 106 = .ok (.putfield 92, 3) := dt_of DA_X9_advances_0 56 rfl
theorem dX9_advances_109 : decode cX9_advances 109 = .ok (.goto (-71), 3) := dt_of DA_X9_advances_0 57 rfl
theorem dX9_advances_112 : decode cX9_advances 112 = .ok (.aload_n 0, 1) := dt_of DA_X9_advances_0 58 rfl
theorem dX9_advances_113 : decode cX9_advances 113 = .ok (.aload_n 0, 1) := dt_of DA_X9_advances_0 59 rfl
theorem dX9_advances_114 : decode cX9_advances 114 = .ok (.getfield 92, 3) := dt_of DA_X9_advances_0 60 rfl
theorem dX9_advances_117 : decode cX9_advances 117 = .ok (.aload_n 0, 1) := dt_of DA_X9_advances_0 61 rfl
theorem dX9_advances_118 : decode cX9_advances 118 = .ok (.getfield 95, 3) := dt_of DA_X9_advances_0 62 rfl
theorem dX9_advances_121 : decode cX9_advances 121 = .ok (.isub, 1) := dt_of DA_X9_advances_0 63 rfl
theorem dX9_advances_122 : decode cX9_advances 122 = .ok (.iconst 3, 1) := dt_of DA_X9_advances_0 64 rfl
theorem dX9_advances_123 : decode cX9_advances 123 = .ok (.if_icmp .ge 7, 3) := dt_of DA_X9_advances_0 65 rfl
theorem dX9_advances_126 : decode cX9_advances 126 = .ok (.iconst 2, 1) := dt_of DA_X9_advances_0 66 rfl
theorem dX9_advances_127 : decode cX9_advances 127 = .ok (.goto 4, 3) := dt_of DA_X9_advances_0 67 rfl
theorem dX9_advances_130 : decode cX9_advances 130 = .ok (.iconst 5, 1) := dt_of DA_X9_advances_0 68 rfl
theorem dX9_advances_131 : decode cX9_advances 131 = .ok (.putfield 104, 3) := dt_of DA_X9_advances_0 69 rfl
theorem dX9_advances_134 : decode cX9_advances 134 = .ok (.return_, 1) := dt_of DA_X9_advances_0 70 rfl
theorem dX9_advances_135 : decode cX9_advances 135 = .ok (.aload_n 0, 1) := dt_of DA_X9_advances_0 71 rfl
theorem dX9_advances_136 : decode cX9_advances 136 = .ok (.iload_n 1, 1) := dt_of DA_X9_advances_0 72 rfl
theorem dX9_advances_137 : decode cX9_advances 137 = .ok (.ifCond .ge 7, 3) := dt_of DA_X9_advances_0 73 rfl
theorem dX9_advances_140 : decode cX9_advances 140 = .ok (.iconst 0, 1) := dt_of DA_X9_advances_0 74 rfl
theorem dX9_advances_141 : decode cX9_advances 141 = .ok (.goto 39, 3) := dt_of DA_X9_advances_0 75 rfl
theorem dX9_advances_144 : decode cX9_advances 144 = .ok (.iload_n 1, 1) := dt_of DA_X9_advances_0 76 rfl
theorem dX9_advances_145 : decode cX9_advances 145 = .ok (.bipush 97, 2) := dt_of DA_X9_advances_0 77 rfl
theorem dX9_advances_147 : decode cX9_advances 147 = .ok (.bipush 122, 2) := dt_of DA_X9_advances_0 78 rfl
theorem dX9_advances_149 : decode cX9_advances 149 = .ok (.invokestatic 62, 3) := dt_of DA_X9_advances_0 79 rfl
theorem dX9_advances_152 : decode cX9_advances 152 = .ok (.ifCond .eq 7, 3) := dt_of DA_X9_advances_0 80 rfl
theorem dX9_advances_155 : decode cX9_advances 155 = .ok (.iconst 1, 1) := dt_of DA_X9_advances_0 81 rfl
theorem dX9_advances_156 : decode cX9_advances 156 = .ok (.goto 24, 3) := dt_of DA_X9_advances_0 82 rfl
theorem dX9_advances_159 : decode cX9_advances 159 = .ok (.iload_n 1, 1) := dt_of DA_X9_advances_0 83 rfl
theorem dX9_advances_160 : decode cX9_advances 160 = .ok (.bipush 44, 2) := dt_of DA_X9_advances_0 84 rfl
theorem dX9_advances_162 : decode cX9_advances 162 = .ok (.if_icmp .ne 7, 3) := dt_of DA_X9_advances_0 85 rfl
theorem dX9_advances_165 : decode cX9_advances 165 = .ok (.iconst 3, 1) := dt_of DA_X9_advances_0 86 rfl
theorem dX9_advances_166 : decode cX9_advances 166 = .ok (.goto 14, 3) := dt_of DA_X9_advances_0 87 rfl
theorem dX9_advances_169 : decode cX9_advances 169 = .ok (.iload_n 1, 1) := dt_of DA_X9_advances_0 88 rfl
theorem dX9_advances_170 : decode cX9_advances 170 = .ok (.bipush 59, 2) := dt_of DA_X9_advances_0 89 rfl
theorem dX9_advances_172 : decode cX9_advances 172 = .ok (.if_icmp .ne 7, 3) := dt_of DA_X9_advances_0 90 rfl
theorem dX9_advances_175 : decode cX9_advances 175 = .ok (.iconst 4, 1) := dt_of DA_X9_advances_0 91 rfl
theorem dX9_advances_176 : decode cX9_advances 176 = .ok (.goto 4, 3) := dt_of DA_X9_advances_0 92 rfl
theorem dX9_advances_179 : decode cX9_advances 179 = .ok (.iconst 5, 1) := dt_of DA_X9_advances_0 93 rfl
theorem dX9_advances_180 : decode cX9_advances 180 = .ok (.putfield 104, 3) := dt_of DA_X9_advances_0 94 rfl
theorem dX9_advances_183 : decode cX9_advances 183 = .ok (.aload_n 0, 1) := dt_of DA_X9_advances_0 95 rfl
theorem dX9_advances_184 : decode cX9_advances 184 = .ok (.dup, 1) := dt_of DA_X9_advances_0 96 rfl
theorem dX9_advances_185 : decode cX9_advances 185 = .ok (.getfield 92, 3) := dt_of DA_X9_advances_0 97 rfl
theorem dX9_advances_188 : decode cX9_advances 188 = .ok (.aload_n 0, 1) := dt_of DA_X9_advances_0 98 rfl
theorem dX9_advances_189 : decode cX9_advances 189 = .ok (.getfield 104, 3) := dt_of DA_X9_advances_0 99 rfl
def DT_X9_advances_1 : List (Nat × Instr × Nat) := [(192, .ifCond .ne 7, 3), (195, .iconst 0, 1), (196, .goto 4, 3), (199, .iconst 1, 1), (200, .iadd, 1), (201, .putfield 92, 3), (204, .return_, 1)]
theorem DA_X9_advances_1 : DT_X9_advances_1.all (dtf cX9_advances) = true := by decide +kernel
theorem dX9_advances_192 : decode cX9_advances 192 = .ok (.ifCond .ne 7, 3) := dt_of DA_X9_advances_1 0 rfl
theorem dX9_advances_195 : decode cX9_advances 195 = .ok (.iconst 0, 1) := dt_of DA_X9_advances_1 1 rfl
theorem dX9_advances_196 : decode cX9_advances 196 = .ok (.goto 4, 3) := dt_of DA_X9_advances_1 2 rfl
theorem dX9_advances_199 : decode cX9_advances 199 = .ok (.iconst 1, 1) := dt_of DA_X9_advances_1 3 rfl
theorem dX9_advances_200 : decode cX9_advances 200 = .ok (.iadd, 1) := dt_of DA_X9_advances_1 4 rfl
theorem dX9_advances_201 : decode cX9_advances 201 = .ok (.putfield 92, 3) := dt_of DA_X9_advances_1 5 rfl
theorem dX9_advances_204 : decode cX9_advances 204 = .ok (.return_, 1) := dt_of DA_X9_advances_1 6 rfl
def DT_X9_isWell_0 : List (Nat × Instr × Nat) := [(0, .aload_n 0, 1), (1, .getfield 107, 3), (4, .ifCond .ge 7, 3), (7, .iconst 1, 1), (8, .goto 4, 3), (11, .iconst 0, 1), (12, .ireturn, 1)]
theorem DA_X9_isWell_0 : DT_X9_isWell_0.all (dtf cX9_isWell) = true := by decide +kernel
theorem dX9_isWell_0 : decode cX9_isWell 0 = .ok (.aload_n 0, 1) := dt_of DA_X9_isWell_0 0 rfl
theorem dX9_isWell_1 : decode cX9_isWell 1 = .ok (.getfield 107, 3) := dt_of DA_X9_isWell_0 1 rfl
theorem dX9_isWell_4 : decode cX9_isWell 4 = .ok (.ifCond .ge 7, 3) := dt_of DA_X9_isWell_0 2 rfl
theorem dX9_isWell_7 : decode cX9_isWell 7 = .ok (.iconst 1, 1) := dt_of DA_X9_isWell_0 3 rfl
theorem dX9_isWell_8 : decode cX9_isWell 8 = .ok (.goto 4, 3) := dt_of DA_X9_isWell_0 4 rfl
theorem dX9_isWell_11 : decode cX9_isWell 11 = .ok (.iconst 0, 1) := dt_of DA_X9_isWell_0 5 rfl
theorem dX9_isWell_12 : decode cX9_isWell 12 = .ok (.ireturn, 1) := dt_of DA_X9_isWell_0 6 rfl
def DT_X9_takes_0 : List (Nat × Instr × Nat) := [(0, .aload_n 0, 1), (1, .invokevirtual 110, 3), (4, .ifCond .ne 5, 3), (7, .iconst 0, 1), (8, .ireturn, 1), (9, .iload_n 1, 1), (10, .ifCond .ne 18, 3), (13, .aload_n 0, 1), (14, .aload_n 0, 1), (15, .getfield 95, 3), (18, .putfield 107, 3), (21, .aload_n 0, 1), (22, .iload_n 2, 1), (23, .putfield 114, 3), (26, .iconst 0, 1), (27, .ireturn, 1), (28, .aload_n 0, 1), (29, .getfield 101, 3), (32, .istore_n 3, 1), (33, .aload_n 0, 1), (34, .invokevirtual 117, 3), (37, .iload_n 3, 1), (38, .ireturn, 1)]
theorem DA_X9_takes_0 : DT_X9_takes_0.all (dtf cX9_takes) = true := by decide +kernel
theorem dX9_takes_0 : decode cX9_takes 0 = .ok (.aload_n 0, 1) := dt_of DA_X9_takes_0 0 rfl
theorem dX9_takes_1 : decode cX9_takes 1 = .ok (.invokevirtual 110, 3) := dt_of DA_X9_takes_0 1 rfl
theorem dX9_takes_4 : decode cX9_takes 4 = .ok (.ifCond .ne 5, 3) := dt_of DA_X9_takes_0 2 rfl
theorem dX9_takes_7 : decode cX9_takes 7 = .ok (.iconst 0, 1) := dt_of DA_X9_takes_0 3 rfl
theorem dX9_takes_8 : decode cX9_takes 8 = .ok (.ireturn, 1) := dt_of DA_X9_takes_0 4 rfl
theorem dX9_takes_9 : decode cX9_takes 9 = .ok (.iload_n 1, 1) := dt_of DA_X9_takes_0 5 rfl
theorem dX9_takes_10 : decode cX9_takes 10 = .ok (.ifCond .ne 18, 3) := dt_of DA_X9_takes_0 6 rfl
theorem dX9_takes_13 : decode cX9_takes 13 = .ok (.aload_n 0, 1) := dt_of DA_X9_takes_0 7 rfl
theorem dX9_takes_14 : decode cX9_takes 14 = .ok (.aload_n 0, 1) := dt_of DA_X9_takes_0 8 rfl
theorem dX9_takes_15 : decode cX9_takes 15 = .ok (.getfield 95, 3) := dt_of DA_X9_takes_0 9 rfl
theorem dX9_takes_18 : decode cX9_takes 18 = .ok (.putfield 107, 3) := dt_of DA_X9_takes_0 10 rfl
theorem dX9_takes_21 : decode cX9_takes 21 = .ok (.aload_n 0, 1) := dt_of DA_X9_takes_0 11 rfl
theorem dX9_takes_22 : decode cX9_takes 22 = .ok (.iload_n 2, 1) := dt_of DA_X9_takes_0 12 rfl
theorem dX9_takes_23 : decode cX9_takes 23 = .ok (.putfield 114, 3) := dt_of DA_X9_takes_0 13 rfl
theorem dX9_takes_26 : decode cX9_takes 26 = .ok (.iconst 0, 1) := dt_of DA_X9_takes_0 14 rfl
theorem dX9_takes_27 : decode cX9_takes 27 = .ok (.ireturn, 1) := dt_of DA_X9_takes_0 15 rfl
theorem dX9_takes_28 : decode cX9_takes 28 = .ok (.aload_n 0, 1) := dt_of DA_X9_takes_0 16 rfl
theorem dX9_takes_29 : decode cX9_takes 29 = .ok (.getfield 101, 3) := dt_of DA_X9_takes_0 17 rfl
theorem dX9_takes_32 : decode cX9_takes 32 = .ok (.istore_n 3, 1) := dt_of DA_X9_takes_0 18 rfl
theorem dX9_takes_33 : decode cX9_takes 33 = .ok (.aload_n 0, 1) := dt_of DA_X9_takes_0 19 rfl
theorem dX9_takes_34 : decode cX9_takes 34 = .ok (.invokevirtual 117, 3) := dt_of DA_X9_takes_0 20 rfl
theorem dX9_takes_37 : decode cX9_takes 37 = .ok (.iload_n 3, 1) := dt_of DA_X9_takes_0 21 rfl
theorem dX9_takes_38 : decode cX9_takes 38 = .ok (.ireturn, 1) := dt_of DA_X9_takes_0 22 rfl
def DT_X9_figure_0 : List (Nat × Instr × Nat) := [(0, .aload_n 0, 1), (1, .invokevirtual 110, 3), (4, .ifCond .eq 18, 3), (7, .aload_n 0, 1), (8, .getfield 104, 3), (11, .iconst 2, 1), (12, .if_icmp .eq 10, 3), (15, .aload_n 0, 1), (16, .iconst 0, 1), (17, .iconst 1, 1), (18, .invokevirtual 120, 3), (21, .ireturn, 1), (22, .aload_n 0, 1), (23, .aload_n 0, 1), (24, .getfield 101, 3), (27, .iload_n 1, 1), (28, .iload_n 2, 1), (29, .invokestatic 62, 3), (32, .iconst 2, 1), (33, .invokevirtual 120, 3), (36, .ireturn, 1)]
theorem DA_X9_figure_0 : DT_X9_figure_0.all (dtf cX9_figure) = true := by decide +kernel
theorem dX9_figure_0 : decode cX9_figure 0 = .ok (.aload_n 0, 1) := dt_of DA_X9_figure_0 0 rfl
theorem dX9_figure_1 : decode cX9_figure 1 = .ok (.invokevirtual 110, 3) := dt_of DA_X9_figure_0 1 rfl
theorem dX9_figure_4 : decode cX9_figure 4 = .ok (.ifCond .eq 18, 3) := dt_of DA_X9_figure_0 2 rfl
theorem dX9_figure_7 : decode cX9_figure 7 = .ok (.aload_n 0, 1) := dt_of DA_X9_figure_0 3 rfl
theorem dX9_figure_8 : decode cX9_figure 8 = .ok (.getfield 104, 3) := dt_of DA_X9_figure_0 4 rfl
theorem dX9_figure_11 : decode cX9_figure 11 = .ok (.iconst 2, 1) := dt_of DA_X9_figure_0 5 rfl
theorem dX9_figure_12 : decode cX9_figure 12 = .ok (.if_icmp .eq 10, 3) := dt_of DA_X9_figure_0 6 rfl
theorem dX9_figure_15 : decode cX9_figure 15 = .ok (.aload_n 0, 1) := dt_of DA_X9_figure_0 7 rfl
theorem dX9_figure_16 : decode cX9_figure 16 = .ok (.iconst 0, 1) := dt_of DA_X9_figure_0 8 rfl
theorem dX9_figure_17 : decode cX9_figure 17 = .ok (.iconst 1, 1) := dt_of DA_X9_figure_0 9 rfl
theorem dX9_figure_18 : decode cX9_figure 18 = .ok (.invokevirtual 120, 3) := dt_of DA_X9_figure_0 10 rfl
theorem dX9_figure_21 : decode cX9_figure 21 = .ok (.ireturn, 1) := dt_of DA_X9_figure_0 11 rfl
theorem dX9_figure_22 : decode cX9_figure 22 = .ok (.aload_n 0, 1) := dt_of DA_X9_figure_0 12 rfl
theorem dX9_figure_23 : decode cX9_figure 23 = .ok (.aload_n 0, 1) := dt_of DA_X9_figure_0 13 rfl
theorem dX9_figure_24 : decode cX9_figure 24 = .ok (.getfield 101, 3) := dt_of DA_X9_figure_0 14 rfl
theorem dX9_figure_27 : decode cX9_figure 27 = .ok (.iload_n 1, 1) := dt_of DA_X9_figure_0 15 rfl
theorem dX9_figure_28 : decode cX9_figure 28 = .ok (.iload_n 2, 1) := dt_of DA_X9_figure_0 16 rfl
theorem dX9_figure_29 : decode cX9_figure 29 = .ok (.invokestatic 62, 3) := dt_of DA_X9_figure_0 17 rfl
theorem dX9_figure_32 : decode cX9_figure 32 = .ok (.iconst 2, 1) := dt_of DA_X9_figure_0 18 rfl
theorem dX9_figure_33 : decode cX9_figure 33 = .ok (.invokevirtual 120, 3) := dt_of DA_X9_figure_0 19 rfl
theorem dX9_figure_36 : decode cX9_figure 36 = .ok (.ireturn, 1) := dt_of DA_X9_figure_0 20 rfl
def DT_X9_kindOf_0 : List (Nat × Instr × Nat) := [(0, .iload_n 0, 1), (1, .bipush 112, 2), (3, .if_icmp .ne 7, 3), (6, .iconst 1, 1), (7, .goto 44, 3), (10, .iload_n 0, 1), (11, .bipush 100, 2), (13, .if_icmp .ne 7, 3), (16, .iconst 2, 1), (17, .goto 34, 3), (20, .iload_n 0, 1), (21, .bipush 102, 2), (23, .if_icmp .ne 7, 3), (26, .iconst 3, 1), (27, .goto 24, 3), (30, .iload_n 0, 1), (31, .bipush 99, 2), (33, .if_icmp .ne 7, 3), (36, .iconst 4, 1), (37, .goto 14, 3), (40, .iload_n 0, 1), (41, .bipush 119, 2), (43, .if_icmp .ne 7, 3), (46, .iconst 5, 1), (47, .goto 4, 3), (50, .iconst 0, 1), (51, .ireturn, 1)]
theorem DA_X9_kindOf_0 : DT_X9_kindOf_0.all (dtf cX9_kindOf) = true := by decide +kernel
theorem dX9_kindOf_0 : decode cX9_kindOf 0 = .ok (.iload_n 0, 1) := dt_of DA_X9_kindOf_0 0 rfl
theorem dX9_kindOf_1 : decode cX9_kindOf 1 = .ok (.bipush 112, 2) := dt_of DA_X9_kindOf_0 1 rfl
theorem dX9_kindOf_3 : decode cX9_kindOf 3 = .ok (.if_icmp .ne 7, 3) := dt_of DA_X9_kindOf_0 2 rfl
theorem dX9_kindOf_6 : decode cX9_kindOf 6 = .ok (.iconst 1, 1) := dt_of DA_X9_kindOf_0 3 rfl
theorem dX9_kindOf_7 : decode cX9_kindOf 7 = .ok (.goto 44, 3) := dt_of DA_X9_kindOf_0 4 rfl
theorem dX9_kindOf_10 : decode cX9_kindOf 10 = .ok (.iload_n 0, 1) := dt_of DA_X9_kindOf_0 5 rfl
theorem dX9_kindOf_11 : decode cX9_kindOf 11 = .ok (.bipush 100, 2) := dt_of DA_X9_kindOf_0 6 rfl
theorem dX9_kindOf_13 : decode cX9_kindOf 13 = .ok (.if_icmp .ne 7, 3) := dt_of DA_X9_kindOf_0 7 rfl
theorem dX9_kindOf_16 : decode cX9_kindOf 16 = .ok (.iconst 2, 1) := dt_of DA_X9_kindOf_0 8 rfl
theorem dX9_kindOf_17 : decode cX9_kindOf 17 = .ok (.goto 34, 3) := dt_of DA_X9_kindOf_0 9 rfl
theorem dX9_kindOf_20 : decode cX9_kindOf 20 = .ok (.iload_n 0, 1) := dt_of DA_X9_kindOf_0 10 rfl
theorem dX9_kindOf_21 : decode cX9_kindOf 21 = .ok (.bipush 102, 2) := dt_of DA_X9_kindOf_0 11 rfl
theorem dX9_kindOf_23 : decode cX9_kindOf 23 = .ok (.if_icmp .ne 7, 3) := dt_of DA_X9_kindOf_0 12 rfl
theorem dX9_kindOf_26 : decode cX9_kindOf 26 = .ok (.iconst 3, 1) := dt_of DA_X9_kindOf_0 13 rfl
theorem dX9_kindOf_27 : decode cX9_kindOf 27 = .ok (.goto 24, 3) := dt_of DA_X9_kindOf_0 14 rfl
theorem dX9_kindOf_30 : decode cX9_kindOf 30 = .ok (.iload_n 0, 1) := dt_of DA_X9_kindOf_0 15 rfl
theorem dX9_kindOf_31 : decode cX9_kindOf 31 = .ok (.bipush 99, 2) := dt_of DA_X9_kindOf_0 16 rfl
theorem dX9_kindOf_33 : decode cX9_kindOf 33 = .ok (.if_icmp .ne 7, 3) := dt_of DA_X9_kindOf_0 17 rfl
theorem dX9_kindOf_36 : decode cX9_kindOf 36 = .ok (.iconst 4, 1) := dt_of DA_X9_kindOf_0 18 rfl
theorem dX9_kindOf_37 : decode cX9_kindOf 37 = .ok (.goto 14, 3) := dt_of DA_X9_kindOf_0 19 rfl
theorem dX9_kindOf_40 : decode cX9_kindOf 40 = .ok (.iload_n 0, 1) := dt_of DA_X9_kindOf_0 20 rfl
theorem dX9_kindOf_41 : decode cX9_kindOf 41 = .ok (.bipush 119, 2) := dt_of DA_X9_kindOf_0 21 rfl
theorem dX9_kindOf_43 : decode cX9_kindOf 43 = .ok (.if_icmp .ne 7, 3) := dt_of DA_X9_kindOf_0 22 rfl
theorem dX9_kindOf_46 : decode cX9_kindOf 46 = .ok (.iconst 5, 1) := dt_of DA_X9_kindOf_0 23 rfl
theorem dX9_kindOf_47 : decode cX9_kindOf 47 = .ok (.goto 4, 3) := dt_of DA_X9_kindOf_0 24 rfl
theorem dX9_kindOf_50 : decode cX9_kindOf 50 = .ok (.iconst 0, 1) := dt_of DA_X9_kindOf_0 25 rfl
theorem dX9_kindOf_51 : decode cX9_kindOf 51 = .ok (.ireturn, 1) := dt_of DA_X9_kindOf_0 26 rfl
def DT_X9_follows_0 : List (Nat × Instr × Nat) := [(0, .aload_n 0, 1), (1, .aload_n 0, 1), (2, .getfield 104, 3), (5, .iconst 3, 1), (6, .if_icmp .ne 7, 3), (9, .iconst 1, 1), (10, .goto 4, 3), (13, .iconst 0, 1), (14, .iconst 1, 1), (15, .invokevirtual 120, 3), (18, .pop, 1), (19, .aload_n 0, 1), (20, .iload_n 1, 1), (21, .iload_n 2, 1), (22, .invokevirtual 124, 3), (25, .ireturn, 1)]
theorem DA_X9_follows_0 : DT_X9_follows_0.all (dtf cX9_follows) = true := by decide +kernel
theorem dX9_follows_0 : decode cX9_follows 0 = .ok (.aload_n 0, 1) := dt_of DA_X9_follows_0 0 rfl
theorem dX9_follows_1 : decode cX9_follows 1 = .ok (.aload_n 0, 1) := dt_of DA_X9_follows_0 1 rfl
theorem dX9_follows_2 : decode cX9_follows 2 = .ok (.getfield 104, 3) := dt_of DA_X9_follows_0 2 rfl
theorem dX9_follows_5 : decode cX9_follows 5 = .ok (.iconst 3, 1) := dt_of DA_X9_follows_0 3 rfl
theorem dX9_follows_6 : decode cX9_follows 6 = .ok (.if_icmp .ne 7, 3) := dt_of DA_X9_follows_0 4 rfl
theorem dX9_follows_9 : decode cX9_follows 9 = .ok (.iconst 1, 1) := dt_of DA_X9_follows_0 5 rfl
theorem dX9_follows_10 : decode cX9_follows 10 = .ok (.goto 4, 3) := dt_of DA_X9_follows_0 6 rfl
theorem dX9_follows_13 : decode cX9_follows 13 = .ok (.iconst 0, 1) := dt_of DA_X9_follows_0 7 rfl
theorem dX9_follows_14 : decode cX9_follows 14 = .ok (.iconst 1, 1) := dt_of DA_X9_follows_0 8 rfl
theorem dX9_follows_15 : decode cX9_follows 15 = .ok (.invokevirtual 120, 3) := dt_of DA_X9_follows_0 9 rfl
theorem dX9_follows_18 : decode cX9_follows 18 = .ok (.pop, 1) := dt_of DA_X9_follows_0 10 rfl
theorem dX9_follows_19 : decode cX9_follows 19 = .ok (.aload_n 0, 1) := dt_of DA_X9_follows_0 11 rfl
theorem dX9_follows_20 : decode cX9_follows 20 = .ok (.iload_n 1, 1) := dt_of DA_X9_follows_0 12 rfl
theorem dX9_follows_21 : decode cX9_follows 21 = .ok (.iload_n 2, 1) := dt_of DA_X9_follows_0 13 rfl
theorem dX9_follows_22 : decode cX9_follows 22 = .ok (.invokevirtual 124, 3) := dt_of DA_X9_follows_0 14 rfl
theorem dX9_follows_25 : decode cX9_follows 25 = .ok (.ireturn, 1) := dt_of DA_X9_follows_0 15 rfl
def DT_X9_readsBell_0 : List (Nat × Instr × Nat) := [(0, .aload_n 0, 1), (1, .getfield 101, 3), (4, .invokestatic 127, 3), (7, .istore_n 1, 1), (8, .aload_n 0, 1), (9, .aload_n 0, 1), (10, .getfield 28, 3), (13, .iconst 1, 1), (14, .iaload, 1), (15, .bipush 6, 2), (17, .if_icmp .ge 7, 3), (20, .iconst 1, 1), (21, .goto 4, 3), (24, .iconst 0, 1), (25, .iconst 3, 1), (26, .invokevirtual 120, 3), (29, .pop, 1), (30, .iconst 3, 1), (31, .iconst 4, 1), (32, .aload_n 0, 1), (33, .getfield 28, 3), (36, .iconst 1, 1), (37, .iaload, 1), (38, .bipush 6, 2), (40, .if_icmp .ge 12, 3), (43, .aload_n 0, 1), (44, .getfield 28, 3), (47, .iconst 1, 1), (48, .iaload, 1), (49, .goto 4, 3), (52, .iconst 0, 1), (53, .imul, 1), (54, .iadd, 1), (55, .istore_n 2, 1), (56, .aload_n 0, 1), (57, .iconst 0, 1), (58, .bipush 9, 2), (60, .invokevirtual 124, 3), (63, .istore_n 3, 1), (64, .aload_n 0, 1), (65, .iconst 0, 1), (66, .bipush 9, 2), (68, .invokevirtual 130, 3), (71, .istore 4, 2), (73, .aload_n 0, 1), (74, .aload_n 0, 1), (75, .getfield 104, 3), (78, .iconst 4, 1), (79, .if_icmp .ne 7, 3), (82, .iconst 1, 1), (83, .goto 4, 3), (86, .iconst 0, 1), (87, .iconst 1, 1), (88, .invokevirtual 120, 3), (91, .pop, 1), (92, .aload_n 0, 1), (93, .invokevirtual 110, 3), (96, .ifCond .eq 39, 3), (99, .aload_n 0, 1), (100, .getfield 28, 3), (103, .iload_n 2, 1), (104, .iload_n 1, 1), (105, .iastore, 1), (106, .aload_n 0, 1), (107, .getfield 28, 3), (110, .iload_n 2, 1), (111, .iconst 1, 1), (112, .iadd, 1), (113, .iload_n 3, 1), (114, .iastore, 1), (115, .aload_n 0, 1), (116, .getfield 28, 3), (119, .iload_n 2, 1), (120, .iconst 2, 1), (121, .iadd, 1), (122, .iload 4, 2), (124, .iastore, 1), (125, .aload_n 0, 1), (126, .getfield 28, 3), (129, .iconst 1, 1), (130, .dup2, 1), (131, .iaload, 1), (132, .iconst 1, 1), (133, .iadd, 1), (134, .iastore, 1), (135, .return_, 1)]
theorem DA_X9_readsBell_0 : DT_X9_readsBell_0.all (dtf cX9_readsBell) = true := by decide +kernel
theorem dX9_readsBell_0 : decode cX9_readsBell 0 = .ok (.aload_n 0, 1) := dt_of DA_X9_readsBell_0 0 rfl
theorem dX9_readsBell_1 : decode cX9_readsBell 1 = .ok (.getfield 101, 3) := dt_of DA_X9_readsBell_0 1 rfl
theorem dX9_readsBell_4 : decode cX9_readsBell 4 = .ok (.invokestatic 127, 3) := dt_of DA_X9_readsBell_0 2 rfl
theorem dX9_readsBell_7 : decode cX9_readsBell 7 = .ok (.istore_n 1, 1) := dt_of DA_X9_readsBell_0 3 rfl
theorem dX9_readsBell_8 : decode cX9_readsBell 8 = .ok (.aload_n 0, 1) := dt_of DA_X9_readsBell_0 4 rfl
theorem dX9_readsBell_9 : decode cX9_readsBell 9 = .ok (.aload_n 0, 1) := dt_of DA_X9_readsBell_0 5 rfl
theorem dX9_readsBell_10 : decode cX9_readsBell 10 = .ok (.getfield 28, 3) := dt_of DA_X9_readsBell_0 6 rfl
theorem dX9_readsBell_13 : decode cX9_readsBell 13 = .ok (.iconst 1, 1) := dt_of DA_X9_readsBell_0 7 rfl
theorem dX9_readsBell_14 : decode cX9_readsBell 14 = .ok (.iaload, 1) := dt_of DA_X9_readsBell_0 8 rfl
theorem dX9_readsBell_15 : decode cX9_readsBell 15 = .ok (.bipush 6, 2) := dt_of DA_X9_readsBell_0 9 rfl
theorem dX9_readsBell_17 : decode cX9_readsBell 17 = .ok (.if_icmp .ge 7, 3) := dt_of DA_X9_readsBell_0 10 rfl
theorem dX9_readsBell_20 : decode cX9_readsBell 20 = .ok (.iconst 1, 1) := dt_of DA_X9_readsBell_0 11 rfl
theorem dX9_readsBell_21 : decode cX9_readsBell 21 = .ok (.goto 4, 3) := dt_of DA_X9_readsBell_0 12 rfl
theorem dX9_readsBell_24 : decode cX9_readsBell 24 = .ok (.iconst 0, 1) := dt_of DA_X9_readsBell_0 13 rfl
theorem dX9_readsBell_25 : decode cX9_readsBell 25 = .ok (.iconst 3, 1) := dt_of DA_X9_readsBell_0 14 rfl
theorem dX9_readsBell_26 : decode cX9_readsBell 26 = .ok (.invokevirtual 120, 3) := dt_of DA_X9_readsBell_0 15 rfl
theorem dX9_readsBell_29 : decode cX9_readsBell 29 = .ok (.pop, 1) := dt_of DA_X9_readsBell_0 16 rfl
theorem dX9_readsBell_30 : decode cX9_readsBell 30 = .ok (.iconst 3, 1) := dt_of DA_X9_readsBell_0 17 rfl
theorem dX9_readsBell_31 : decode cX9_readsBell 31 = .ok (.iconst 4, 1) := dt_of DA_X9_readsBell_0 18 rfl
theorem dX9_readsBell_32 : decode cX9_readsBell 32 = .ok (.aload_n 0, 1) := dt_of DA_X9_readsBell_0 19 rfl
theorem dX9_readsBell_33 : decode cX9_readsBell 33 = .ok (.getfield 28, 3) := dt_of DA_X9_readsBell_0 20 rfl
theorem dX9_readsBell_36 : decode cX9_readsBell 36 = .ok (.iconst 1, 1) := dt_of DA_X9_readsBell_0 21 rfl
theorem dX9_readsBell_37 : decode cX9_readsBell 37 = .ok (.iaload, 1) := dt_of DA_X9_readsBell_0 22 rfl
theorem dX9_readsBell_38 : decode cX9_readsBell 38 = .ok (.bipush 6, 2) := dt_of DA_X9_readsBell_0 23 rfl
theorem dX9_readsBell_40 : decode cX9_readsBell 40 = .ok (.if_icmp .ge 12, 3) := dt_of DA_X9_readsBell_0 24 rfl
theorem dX9_readsBell_43 : decode cX9_readsBell 43 = .ok (.aload_n 0, 1) := dt_of DA_X9_readsBell_0 25 rfl
theorem dX9_readsBell_44 : decode cX9_readsBell 44 = .ok (.getfield 28, 3) := dt_of DA_X9_readsBell_0 26 rfl
theorem dX9_readsBell_47 : decode cX9_readsBell 47 = .ok (.iconst 1, 1) := dt_of DA_X9_readsBell_0 27 rfl
theorem dX9_readsBell_48 : decode cX9_readsBell 48 = .ok (.iaload, 1) := dt_of DA_X9_readsBell_0 28 rfl
theorem dX9_readsBell_49 : decode cX9_readsBell 49 = .ok (.goto 4, 3) := dt_of DA_X9_readsBell_0 29 rfl
theorem dX9_readsBell_52 : decode cX9_readsBell 52 = .ok (.iconst 0, 1) := dt_of DA_X9_readsBell_0 30 rfl
theorem dX9_readsBell_53 : decode cX9_readsBell 53 = .ok (.imul, 1) := dt_of DA_X9_readsBell_0 31 rfl
theorem dX9_readsBell_54 : decode cX9_readsBell 54 = .ok (.iadd, 1) := dt_of DA_X9_readsBell_0 32 rfl
theorem dX9_readsBell_55 : decode cX9_readsBell 55 = .ok (.istore_n 2, 1) := dt_of DA_X9_readsBell_0 33 rfl
theorem dX9_readsBell_56 : decode cX9_readsBell 56 = .ok (.aload_n 0, 1) := dt_of DA_X9_readsBell_0 34 rfl
theorem dX9_readsBell_57 : decode cX9_readsBell 57 = .ok (.iconst 0, 1) := dt_of DA_X9_readsBell_0 35 rfl
theorem dX9_readsBell_58 : decode cX9_readsBell 58 = .ok (.bipush 9, 2) := dt_of DA_X9_readsBell_0 36 rfl
theorem dX9_readsBell_60 : decode cX9_readsBell 60 = .ok (.invokevirtual 124, 3) := dt_of DA_X9_readsBell_0 37 rfl
theorem dX9_readsBell_63 : decode cX9_readsBell 63 = .ok (.istore_n 3, 1) := dt_of DA_X9_readsBell_0 38 rfl
theorem dX9_readsBell_64 : decode cX9_readsBell 64 = .ok (.aload_n 0, 1) := dt_of DA_X9_readsBell_0 39 rfl
theorem dX9_readsBell_65 : decode cX9_readsBell 65 = .ok (.iconst 0, 1) := dt_of DA_X9_readsBell_0 40 rfl
theorem dX9_readsBell_66 : decode cX9_readsBell 66 = .ok (.bipush 9, 2) := dt_of DA_X9_readsBell_0 41 rfl
theorem dX9_readsBell_68 : decode cX9_readsBell 68 = .ok (.invokevirtual 130, 3) := dt_of DA_X9_readsBell_0 42 rfl
theorem dX9_readsBell_71 : decode cX9_readsBell 71 = .ok (.istore 4, 2) := dt_of DA_X9_readsBell_0 43 rfl
theorem dX9_readsBell_73 : decode cX9_readsBell 73 = .ok (.aload_n 0, 1) := dt_of DA_X9_readsBell_0 44 rfl
theorem dX9_readsBell_74 : decode cX9_readsBell 74 = .ok (.aload_n 0, 1) := dt_of DA_X9_readsBell_0 45 rfl
theorem dX9_readsBell_75 : decode cX9_readsBell 75 = .ok (.getfield 104, 3) := dt_of DA_X9_readsBell_0 46 rfl
theorem dX9_readsBell_78 : decode cX9_readsBell 78 = .ok (.iconst 4, 1) := dt_of DA_X9_readsBell_0 47 rfl
theorem dX9_readsBell_79 : decode cX9_readsBell 79 = .ok (.if_icmp .ne 7, 3) := dt_of DA_X9_readsBell_0 48 rfl
theorem dX9_readsBell_82 : decode cX9_readsBell 82 = .ok (.iconst 1, 1) := dt_of DA_X9_readsBell_0 49 rfl
theorem dX9_readsBell_83 : decode cX9_readsBell 83 = .ok (.goto 4, 3) := dt_of DA_X9_readsBell_0 50 rfl
theorem dX9_readsBell_86 : decode cX9_readsBell 86 = .ok (.iconst 0, 1) := dt_of DA_X9_readsBell_0 51 rfl
theorem dX9_readsBell_87 : decode cX9_readsBell 87 = .ok (.iconst 1, 1) := dt_of DA_X9_readsBell_0 52 rfl
theorem dX9_readsBell_88 : decode cX9_readsBell 88 = .ok (.invokevirtual 120, 3) := dt_of DA_X9_readsBell_0 53 rfl
theorem dX9_readsBell_91 : decode cX9_readsBell 91 = .ok (.pop, 1) := dt_of DA_X9_readsBell_0 54 rfl
theorem dX9_readsBell_92 : decode cX9_readsBell 92 = .ok (.aload_n 0, 1) := dt_of DA_X9_readsBell_0 55 rfl
theorem dX9_readsBell_93 : decode cX9_readsBell 93 = .ok (.invokevirtual 110, 3) := dt_of DA_X9_readsBell_0 56 rfl
theorem dX9_readsBell_96 : decode cX9_readsBell 96 = .ok (.ifCond .eq 39, 3) := dt_of DA_X9_readsBell_0 57 rfl
theorem dX9_readsBell_99 : decode cX9_readsBell 99 = .ok (.aload_n 0, 1) := dt_of DA_X9_readsBell_0 58 rfl
theorem dX9_readsBell_100 : decode cX9_readsBell 100 = .ok (.getfield 28, 3) := dt_of DA_X9_readsBell_0 59 rfl
theorem dX9_readsBell_103 : decode cX9_readsBell 103 = .ok (.iload_n 2, 1) := dt_of DA_X9_readsBell_0 60 rfl
theorem dX9_readsBell_104 : decode cX9_readsBell 104 = .ok (.iload_n 1, 1) := dt_of DA_X9_readsBell_0 61 rfl
theorem dX9_readsBell_105 : decode cX9_readsBell 105 = .ok (.iastore, 1) := dt_of DA_X9_readsBell_0 62 rfl
theorem dX9_readsBell_106 : decode cX9_readsBell 106 = .ok (.aload_n 0, 1) := dt_of DA_X9_readsBell_0 63 rfl
theorem dX9_readsBell_107 : decode cX9_readsBell 107 = .ok (.getfield 28, 3) := dt_of DA_X9_readsBell_0 64 rfl
theorem dX9_readsBell_110 : decode cX9_readsBell 110 = .ok (.iload_n 2, 1) := dt_of DA_X9_readsBell_0 65 rfl
theorem dX9_readsBell_111 : decode cX9_readsBell 111 = .ok (.iconst 1, 1) := dt_of DA_X9_readsBell_0 66 rfl
theorem dX9_readsBell_112 : decode cX9_readsBell 112 = .ok (.iadd, 1) := dt_of DA_X9_readsBell_0 67 rfl
theorem dX9_readsBell_113 : decode cX9_readsBell 113 = .ok (.iload_n 3, 1) := dt_of DA_X9_readsBell_0 68 rfl
theorem dX9_readsBell_114 : decode cX9_readsBell 114 = .ok (.iastore, 1) := dt_of DA_X9_readsBell_0 69 rfl
theorem dX9_readsBell_115 : decode cX9_readsBell 115 = .ok (.aload_n 0, 1) := dt_of DA_X9_readsBell_0 70 rfl
theorem dX9_readsBell_116 : decode cX9_readsBell 116 = .ok (.getfield 28, 3) := dt_of DA_X9_readsBell_0 71 rfl
theorem dX9_readsBell_119 : decode cX9_readsBell 119 = .ok (.iload_n 2, 1) := dt_of DA_X9_readsBell_0 72 rfl
theorem dX9_readsBell_120 : decode cX9_readsBell 120 = .ok (.iconst 2, 1) := dt_of DA_X9_readsBell_0 73 rfl
theorem dX9_readsBell_121 : decode cX9_readsBell 121 = .ok (.iadd, 1) := dt_of DA_X9_readsBell_0 74 rfl
theorem dX9_readsBell_122 : decode cX9_readsBell 122 = .ok (.iload 4, 2) := dt_of DA_X9_readsBell_0 75 rfl
theorem dX9_readsBell_124 : decode cX9_readsBell 124 = .ok (.iastore, 1) := dt_of DA_X9_readsBell_0 76 rfl
theorem dX9_readsBell_125 : decode cX9_readsBell 125 = .ok (.aload_n 0, 1) := dt_of DA_X9_readsBell_0 77 rfl
theorem dX9_readsBell_126 : decode cX9_readsBell 126 = .ok (.getfield 28, 3) := dt_of DA_X9_readsBell_0 78 rfl
theorem dX9_readsBell_129 : decode cX9_readsBell 129 = .ok (.iconst 1, 1) := dt_of DA_X9_readsBell_0 79 rfl
theorem dX9_readsBell_130 : decode cX9_readsBell 130 = .ok (.dup2, 1) := dt_of DA_X9_readsBell_0 80 rfl
theorem dX9_readsBell_131 : decode cX9_readsBell 131 = .ok (.iaload, 1) := dt_of DA_X9_readsBell_0 81 rfl
theorem dX9_readsBell_132 : decode cX9_readsBell 132 = .ok (.iconst 1, 1) := dt_of DA_X9_readsBell_0 82 rfl
theorem dX9_readsBell_133 : decode cX9_readsBell 133 = .ok (.iadd, 1) := dt_of DA_X9_readsBell_0 83 rfl
theorem dX9_readsBell_134 : decode cX9_readsBell 134 = .ok (.iastore, 1) := dt_of DA_X9_readsBell_0 84 rfl
theorem dX9_readsBell_135 : decode cX9_readsBell 135 = .ok (.return_, 1) := dt_of DA_X9_readsBell_0 85 rfl
def DT_X9_debt_0 : List (Nat × Instr × Nat) := [(0, .bipush 27, 2), (2, .bipush 6, 2), (4, .iload_n 0, 1), (5, .imul, 1), (6, .iadd, 1), (7, .iload_n 1, 1), (8, .iadd, 1), (9, .ireturn, 1)]
theorem DA_X9_debt_0 : DT_X9_debt_0.all (dtf cX9_debt) = true := by decide +kernel
theorem dX9_debt_0 : decode cX9_debt 0 = .ok (.bipush 27, 2) := dt_of DA_X9_debt_0 0 rfl
theorem dX9_debt_2 : decode cX9_debt 2 = .ok (.bipush 6, 2) := dt_of DA_X9_debt_0 1 rfl
theorem dX9_debt_4 : decode cX9_debt 4 = .ok (.iload_n 0, 1) := dt_of DA_X9_debt_0 2 rfl
theorem dX9_debt_5 : decode cX9_debt 5 = .ok (.imul, 1) := dt_of DA_X9_debt_0 3 rfl
theorem dX9_debt_6 : decode cX9_debt 6 = .ok (.iadd, 1) := dt_of DA_X9_debt_0 4 rfl
theorem dX9_debt_7 : decode cX9_debt 7 = .ok (.iload_n 1, 1) := dt_of DA_X9_debt_0 5 rfl
theorem dX9_debt_8 : decode cX9_debt 8 = .ok (.iadd, 1) := dt_of DA_X9_debt_0 6 rfl
theorem dX9_debt_9 : decode cX9_debt 9 = .ok (.ireturn, 1) := dt_of DA_X9_debt_0 7 rfl
def DT_X9_readsOther_0 : List (Nat × Instr × Nat) := [(0, .aload_n 0, 1), (1, .aload_n 0, 1), (2, .getfield 104, 3), (5, .iconst 3, 1), (6, .if_icmp .ne 7, 3), (9, .iconst 1, 1), (10, .goto 4, 3), (13, .iconst 0, 1), (14, .iconst 1, 1), (15, .invokevirtual 120, 3), (18, .pop, 1), (19, .aload_n 0, 1), (20, .getfield 104, 3), (23, .iconst 2, 1), (24, .if_icmp .ne 56, 3), (27, .aload_n 0, 1), (28, .getfield 101, 3), (31, .aload_n 0, 1), (32, .getfield 28, 3), (35, .iconst 1, 1), (36, .iaload, 1), (37, .if_icmp .ge 47, 3), (40, .aload_n 0, 1), (41, .getfield 101, 3), (44, .iload_n 1, 1), (45, .if_icmp .eq 39, 3), (48, .aload_n 0, 1), (49, .getfield 28, 3), (52, .iload_n 1, 1), (53, .aload_n 0, 1), (54, .getfield 101, 3), (57, .invokestatic 133, 3), (60, .iaload, 1), (61, .ifCond .ne 23, 3), (64, .aload_n 0, 1), (65, .getfield 28, 3), (68, .aload_n 0, 1), (69, .getfield 101, 3), (72, .iload_n 1, 1), (73, .invokestatic 133, 3), (76, .iaload, 1), (77, .ifCond .ne 7, 3), (80, .iconst 1, 1), (81, .goto 4, 3), (84, .iconst 0, 1), (85, .istore_n 2, 1), (86, .aload_n 0, 1), (87, .iload_n 2, 1), (88, .invokevirtual 136, 3), (91, .aload_n 0, 1), (92, .iconst 0, 1), (93, .aload_n 0, 1), (94, .getfield 28, 3), (97, .iconst 1, 1), (98, .iaload, 1), (99, .iconst 1, 1), (100, .isub, 1), (101, .invokevirtual 124, 3), (104, .ireturn, 1)]
theorem DA_X9_readsOther_0 : DT_X9_readsOther_0.all (dtf cX9_readsOther) = true := by decide +kernel
theorem dX9_readsOther_0 : decode cX9_readsOther 0 = .ok (.aload_n 0, 1) := dt_of DA_X9_readsOther_0 0 rfl
theorem dX9_readsOther_1 : decode cX9_readsOther 1 = .ok (.aload_n 0, 1) := dt_of DA_X9_readsOther_0 1 rfl
theorem dX9_readsOther_2 : decode cX9_readsOther 2 = .ok (.getfield 104, 3) := dt_of DA_X9_readsOther_0 2 rfl
theorem dX9_readsOther_5 : decode cX9_readsOther 5 = .ok (.iconst 3, 1) := dt_of DA_X9_readsOther_0 3 rfl
theorem dX9_readsOther_6 : decode cX9_readsOther 6 = .ok (.if_icmp .ne 7, 3) := dt_of DA_X9_readsOther_0 4 rfl
theorem dX9_readsOther_9 : decode cX9_readsOther 9 = .ok (.iconst 1, 1) := dt_of DA_X9_readsOther_0 5 rfl
theorem dX9_readsOther_10 : decode cX9_readsOther 10 = .ok (.goto 4, 3) := dt_of DA_X9_readsOther_0 6 rfl
theorem dX9_readsOther_13 : decode cX9_readsOther 13 = .ok (.iconst 0, 1) := dt_of DA_X9_readsOther_0 7 rfl
theorem dX9_readsOther_14 : decode cX9_readsOther 14 = .ok (.iconst 1, 1) := dt_of DA_X9_readsOther_0 8 rfl
theorem dX9_readsOther_15 : decode cX9_readsOther 15 = .ok (.invokevirtual 120, 3) := dt_of DA_X9_readsOther_0 9 rfl
theorem dX9_readsOther_18 : decode cX9_readsOther 18 = .ok (.pop, 1) := dt_of DA_X9_readsOther_0 10 rfl
theorem dX9_readsOther_19 : decode cX9_readsOther 19 = .ok (.aload_n 0, 1) := dt_of DA_X9_readsOther_0 11 rfl
theorem dX9_readsOther_20 : decode cX9_readsOther 20 = .ok (.getfield 104, 3) := dt_of DA_X9_readsOther_0 12 rfl
theorem dX9_readsOther_23 : decode cX9_readsOther 23 = .ok (.iconst 2, 1) := dt_of DA_X9_readsOther_0 13 rfl
theorem dX9_readsOther_24 : decode cX9_readsOther 24 = .ok (.if_icmp .ne 56, 3) := dt_of DA_X9_readsOther_0 14 rfl
theorem dX9_readsOther_27 : decode cX9_readsOther 27 = .ok (.aload_n 0, 1) := dt_of DA_X9_readsOther_0 15 rfl
theorem dX9_readsOther_28 : decode cX9_readsOther 28 = .ok (.getfield 101, 3) := dt_of DA_X9_readsOther_0 16 rfl
theorem dX9_readsOther_31 : decode cX9_readsOther 31 = .ok (.aload_n 0, 1) := dt_of DA_X9_readsOther_0 17 rfl
theorem dX9_readsOther_32 : decode cX9_readsOther 32 = .ok (.getfield 28, 3) := dt_of DA_X9_readsOther_0 18 rfl
theorem dX9_readsOther_35 : decode cX9_readsOther 35 = .ok (.iconst 1, 1) := dt_of DA_X9_readsOther_0 19 rfl
theorem dX9_readsOther_36 : decode cX9_readsOther 36 = .ok (.iaload, 1) := dt_of DA_X9_readsOther_0 20 rfl
theorem dX9_readsOther_37 : decode cX9_readsOther 37 = .ok (.if_icmp .ge 47, 3) := dt_of DA_X9_readsOther_0 21 rfl
theorem dX9_readsOther_40 : decode cX9_readsOther 40 = .ok (.aload_n 0, 1) := dt_of DA_X9_readsOther_0 22 rfl
theorem dX9_readsOther_41 : decode cX9_readsOther 41 = .ok (.getfield 101, 3) := dt_of DA_X9_readsOther_0 23 rfl
theorem dX9_readsOther_44 : decode cX9_readsOther 44 = .ok (.iload_n 1, 1) := dt_of DA_X9_readsOther_0 24 rfl
theorem dX9_readsOther_45 : decode cX9_readsOther 45 = .ok (.if_icmp .eq 39, 3) := dt_of DA_X9_readsOther_0 25 rfl
theorem dX9_readsOther_48 : decode cX9_readsOther 48 = .ok (.aload_n 0, 1) := dt_of DA_X9_readsOther_0 26 rfl
theorem dX9_readsOther_49 : decode cX9_readsOther 49 = .ok (.getfield 28, 3) := dt_of DA_X9_readsOther_0 27 rfl
theorem dX9_readsOther_52 : decode cX9_readsOther 52 = .ok (.iload_n 1, 1) := dt_of DA_X9_readsOther_0 28 rfl
theorem dX9_readsOther_53 : decode cX9_readsOther 53 = .ok (.aload_n 0, 1) := dt_of DA_X9_readsOther_0 29 rfl
theorem dX9_readsOther_54 : decode cX9_readsOther 54 = .ok (.getfield 101, 3) := dt_of DA_X9_readsOther_0 30 rfl
theorem dX9_readsOther_57 : decode cX9_readsOther 57 = .ok (.invokestatic 133, 3) := dt_of DA_X9_readsOther_0 31 rfl
theorem dX9_readsOther_60 : decode cX9_readsOther 60 = .ok (.iaload, 1) := dt_of DA_X9_readsOther_0 32 rfl
theorem dX9_readsOther_61 : decode cX9_readsOther 61 = .ok (.ifCond .ne 23, 3) := dt_of DA_X9_readsOther_0 33 rfl
theorem dX9_readsOther_64 : decode cX9_readsOther 64 = .ok (.aload_n 0, 1) := dt_of DA_X9_readsOther_0 34 rfl
theorem dX9_readsOther_65 : decode cX9_readsOther 65 = .ok (.getfield 28, 3) := dt_of DA_X9_readsOther_0 35 rfl
theorem dX9_readsOther_68 : decode cX9_readsOther 68 = .ok (.aload_n 0, 1) := dt_of DA_X9_readsOther_0 36 rfl
theorem dX9_readsOther_69 : decode cX9_readsOther 69 = .ok (.getfield 101, 3) := dt_of DA_X9_readsOther_0 37 rfl
theorem dX9_readsOther_72 : decode cX9_readsOther 72 = .ok (.iload_n 1, 1) := dt_of DA_X9_readsOther_0 38 rfl
theorem dX9_readsOther_73 : decode cX9_readsOther 73 = .ok (.invokestatic 133, 3) := dt_of DA_X9_readsOther_0 39 rfl
theorem dX9_readsOther_76 : decode cX9_readsOther 76 = .ok (.iaload, 1) := dt_of DA_X9_readsOther_0 40 rfl
theorem dX9_readsOther_77 : decode cX9_readsOther 77 = .ok (.ifCond .ne 7, 3) := dt_of DA_X9_readsOther_0 41 rfl
theorem dX9_readsOther_80 : decode cX9_readsOther 80 = .ok (.iconst 1, 1) := dt_of DA_X9_readsOther_0 42 rfl
theorem dX9_readsOther_81 : decode cX9_readsOther 81 = .ok (.goto 4, 3) := dt_of DA_X9_readsOther_0 43 rfl
theorem dX9_readsOther_84 : decode cX9_readsOther 84 = .ok (.iconst 0, 1) := dt_of DA_X9_readsOther_0 44 rfl
theorem dX9_readsOther_85 : decode cX9_readsOther 85 = .ok (.istore_n 2, 1) := dt_of DA_X9_readsOther_0 45 rfl
theorem dX9_readsOther_86 : decode cX9_readsOther 86 = .ok (.aload_n 0, 1) := dt_of DA_X9_readsOther_0 46 rfl
theorem dX9_readsOther_87 : decode cX9_readsOther 87 = .ok (.iload_n 2, 1) := dt_of DA_X9_readsOther_0 47 rfl
theorem dX9_readsOther_88 : decode cX9_readsOther 88 = .ok (.invokevirtual 136, 3) := dt_of DA_X9_readsOther_0 48 rfl
theorem dX9_readsOther_91 : decode cX9_readsOther 91 = .ok (.aload_n 0, 1) := dt_of DA_X9_readsOther_0 49 rfl
theorem dX9_readsOther_92 : decode cX9_readsOther 92 = .ok (.iconst 0, 1) := dt_of DA_X9_readsOther_0 50 rfl
theorem dX9_readsOther_93 : decode cX9_readsOther 93 = .ok (.aload_n 0, 1) := dt_of DA_X9_readsOther_0 51 rfl
theorem dX9_readsOther_94 : decode cX9_readsOther 94 = .ok (.getfield 28, 3) := dt_of DA_X9_readsOther_0 52 rfl
theorem dX9_readsOther_97 : decode cX9_readsOther 97 = .ok (.iconst 1, 1) := dt_of DA_X9_readsOther_0 53 rfl
theorem dX9_readsOther_98 : decode cX9_readsOther 98 = .ok (.iaload, 1) := dt_of DA_X9_readsOther_0 54 rfl
theorem dX9_readsOther_99 : decode cX9_readsOther 99 = .ok (.iconst 1, 1) := dt_of DA_X9_readsOther_0 55 rfl
theorem dX9_readsOther_100 : decode cX9_readsOther 100 = .ok (.isub, 1) := dt_of DA_X9_readsOther_0 56 rfl
theorem dX9_readsOther_101 : decode cX9_readsOther 101 = .ok (.invokevirtual 124, 3) := dt_of DA_X9_readsOther_0 57 rfl
theorem dX9_readsOther_104 : decode cX9_readsOther 104 = .ok (.ireturn, 1) := dt_of DA_X9_readsOther_0 58 rfl
def DT_X9_takes2_0 : List (Nat × Instr × Nat) := [(0, .aload_n 0, 1), (1, .invokevirtual 110, 3), (4, .ifCond .eq 14, 3), (7, .iload_n 1, 1), (8, .ifCond .ne 10, 3), (11, .aload_n 0, 1), (12, .iconst 0, 1), (13, .iconst 2, 1), (14, .invokevirtual 120, 3), (17, .pop, 1), (18, .return_, 1)]
theorem DA_X9_takes2_0 : DT_X9_takes2_0.all (dtf cX9_takes2) = true := by decide +kernel
theorem dX9_takes2_0 : decode cX9_takes2 0 = .ok (.aload_n 0, 1) := dt_of DA_X9_takes2_0 0 rfl
theorem dX9_takes2_1 : decode cX9_takes2 1 = .ok (.invokevirtual 110, 3) := dt_of DA_X9_takes2_0 1 rfl
theorem dX9_takes2_4 : decode cX9_takes2 4 = .ok (.ifCond .eq 14, 3) := dt_of DA_X9_takes2_0 2 rfl
theorem dX9_takes2_7 : decode cX9_takes2 7 = .ok (.iload_n 1, 1) := dt_of DA_X9_takes2_0 3 rfl
theorem dX9_takes2_8 : decode cX9_takes2 8 = .ok (.ifCond .ne 10, 3) := dt_of DA_X9_takes2_0 4 rfl
theorem dX9_takes2_11 : decode cX9_takes2 11 = .ok (.aload_n 0, 1) := dt_of DA_X9_takes2_0 5 rfl
theorem dX9_takes2_12 : decode cX9_takes2 12 = .ok (.iconst 0, 1) := dt_of DA_X9_takes2_0 6 rfl
theorem dX9_takes2_13 : decode cX9_takes2 13 = .ok (.iconst 2, 1) := dt_of DA_X9_takes2_0 7 rfl
theorem dX9_takes2_14 : decode cX9_takes2 14 = .ok (.invokevirtual 120, 3) := dt_of DA_X9_takes2_0 8 rfl
theorem dX9_takes2_17 : decode cX9_takes2 17 = .ok (.pop, 1) := dt_of DA_X9_takes2_0 9 rfl
theorem dX9_takes2_18 : decode cX9_takes2 18 = .ok (.return_, 1) := dt_of DA_X9_takes2_0 10 rfl
def DT_X9_readsDebt_0 : List (Nat × Instr × Nat) := [(0, .aload_n 0, 1), (1, .aload_n 0, 1), (2, .getfield 104, 3), (5, .iconst 1, 1), (6, .if_icmp .ne 7, 3), (9, .iconst 1, 1), (10, .goto 4, 3), (13, .iconst 0, 1), (14, .iconst 1, 1), (15, .invokevirtual 120, 3), (18, .pop, 1), (19, .aload_n 0, 1), (20, .iconst 0, 1), (21, .aload_n 0, 1), (22, .getfield 28, 3), (25, .iconst 1, 1), (26, .iaload, 1), (27, .iconst 1, 1), (28, .isub, 1), (29, .invokevirtual 124, 3), (32, .istore_n 1, 1), (33, .aload_n 0, 1), (34, .aload_n 0, 1), (35, .invokevirtual 110, 3), (38, .ifCond .eq 7, 3), (41, .iload_n 1, 1), (42, .goto 4, 3), (45, .iconst 0, 1), (46, .invokevirtual 140, 3), (49, .istore_n 2, 1), (50, .aload_n 0, 1), (51, .iconst 1, 1), (52, .bipush 99, 2), (54, .invokevirtual 130, 3), (57, .istore_n 3, 1), (58, .aload_n 0, 1), (59, .aload_n 0, 1), (60, .getfield 104, 3), (63, .iconst 4, 1), (64, .if_icmp .ne 7, 3), (67, .iconst 1, 1), (68, .goto 4, 3), (71, .iconst 0, 1), (72, .iconst 1, 1), (73, .invokevirtual 120, 3), (76, .pop, 1), (77, .aload_n 0, 1), (78, .invokevirtual 110, 3), (81, .ifCond .eq 14, 3), (84, .aload_n 0, 1), (85, .getfield 28, 3), (88, .iload_n 1, 1), (89, .iload_n 2, 1), (90, .invokestatic 133, 3), (93, .iload_n 3, 1), (94, .iastore, 1), (95, .return_, 1)]
theorem DA_X9_readsDebt_0 : DT_X9_readsDebt_0.all (dtf cX9_readsDebt) = true := by decide +kernel
theorem dX9_readsDebt_0 : decode cX9_readsDebt 0 = .ok (.aload_n 0, 1) := dt_of DA_X9_readsDebt_0 0 rfl
theorem dX9_readsDebt_1 : decode cX9_readsDebt 1 = .ok (.aload_n 0, 1) := dt_of DA_X9_readsDebt_0 1 rfl
theorem dX9_readsDebt_2 : decode cX9_readsDebt 2 = .ok (.getfield 104, 3) := dt_of DA_X9_readsDebt_0 2 rfl
theorem dX9_readsDebt_5 : decode cX9_readsDebt 5 = .ok (.iconst 1, 1) := dt_of DA_X9_readsDebt_0 3 rfl
theorem dX9_readsDebt_6 : decode cX9_readsDebt 6 = .ok (.if_icmp .ne 7, 3) := dt_of DA_X9_readsDebt_0 4 rfl
theorem dX9_readsDebt_9 : decode cX9_readsDebt 9 = .ok (.iconst 1, 1) := dt_of DA_X9_readsDebt_0 5 rfl
theorem dX9_readsDebt_10 : decode cX9_readsDebt 10 = .ok (.goto 4, 3) := dt_of DA_X9_readsDebt_0 6 rfl
theorem dX9_readsDebt_13 : decode cX9_readsDebt 13 = .ok (.iconst 0, 1) := dt_of DA_X9_readsDebt_0 7 rfl
theorem dX9_readsDebt_14 : decode cX9_readsDebt 14 = .ok (.iconst 1, 1) := dt_of DA_X9_readsDebt_0 8 rfl
theorem dX9_readsDebt_15 : decode cX9_readsDebt 15 = .ok (.invokevirtual 120, 3) := dt_of DA_X9_readsDebt_0 9 rfl
theorem dX9_readsDebt_18 : decode cX9_readsDebt 18 = .ok (.pop, 1) := dt_of DA_X9_readsDebt_0 10 rfl
theorem dX9_readsDebt_19 : decode cX9_readsDebt 19 = .ok (.aload_n 0, 1) := dt_of DA_X9_readsDebt_0 11 rfl
theorem dX9_readsDebt_20 : decode cX9_readsDebt 20 = .ok (.iconst 0, 1) := dt_of DA_X9_readsDebt_0 12 rfl
theorem dX9_readsDebt_21 : decode cX9_readsDebt 21 = .ok (.aload_n 0, 1) := dt_of DA_X9_readsDebt_0 13 rfl
theorem dX9_readsDebt_22 : decode cX9_readsDebt 22 = .ok (.getfield 28, 3) := dt_of DA_X9_readsDebt_0 14 rfl
theorem dX9_readsDebt_25 : decode cX9_readsDebt 25 = .ok (.iconst 1, 1) := dt_of DA_X9_readsDebt_0 15 rfl
theorem dX9_readsDebt_26 : decode cX9_readsDebt 26 = .ok (.iaload, 1) := dt_of DA_X9_readsDebt_0 16 rfl
theorem dX9_readsDebt_27 : decode cX9_readsDebt 27 = .ok (.iconst 1, 1) := dt_of DA_X9_readsDebt_0 17 rfl
theorem dX9_readsDebt_28 : decode cX9_readsDebt 28 = .ok (.isub, 1) := dt_of DA_X9_readsDebt_0 18 rfl
theorem dX9_readsDebt_29 : decode cX9_readsDebt 29 = .ok (.invokevirtual 124, 3) := dt_of DA_X9_readsDebt_0 19 rfl
theorem dX9_readsDebt_32 : decode cX9_readsDebt 32 = .ok (.istore_n 1, 1) := dt_of DA_X9_readsDebt_0 20 rfl
theorem dX9_readsDebt_33 : decode cX9_readsDebt 33 = .ok (.aload_n 0, 1) := dt_of DA_X9_readsDebt_0 21 rfl
theorem dX9_readsDebt_34 : decode cX9_readsDebt 34 = .ok (.aload_n 0, 1) := dt_of DA_X9_readsDebt_0 22 rfl
theorem dX9_readsDebt_35 : decode cX9_readsDebt 35 = .ok (.invokevirtual 110, 3) := dt_of DA_X9_readsDebt_0 23 rfl
theorem dX9_readsDebt_38 : decode cX9_readsDebt 38 = .ok (.ifCond .eq 7, 3) := dt_of DA_X9_readsDebt_0 24 rfl
theorem dX9_readsDebt_41 : decode cX9_readsDebt 41 = .ok (.iload_n 1, 1) := dt_of DA_X9_readsDebt_0 25 rfl
theorem dX9_readsDebt_42 : decode cX9_readsDebt 42 = .ok (.goto 4, 3) := dt_of DA_X9_readsDebt_0 26 rfl
theorem dX9_readsDebt_45 : decode cX9_readsDebt 45 = .ok (.iconst 0, 1) := dt_of DA_X9_readsDebt_0 27 rfl
theorem dX9_readsDebt_46 : decode cX9_readsDebt 46 = .ok (.invokevirtual 140, 3) := dt_of DA_X9_readsDebt_0 28 rfl
theorem dX9_readsDebt_49 : decode cX9_readsDebt 49 = .ok (.istore_n 2, 1) := dt_of DA_X9_readsDebt_0 29 rfl
theorem dX9_readsDebt_50 : decode cX9_readsDebt 50 = .ok (.aload_n 0, 1) := dt_of DA_X9_readsDebt_0 30 rfl
theorem dX9_readsDebt_51 : decode cX9_readsDebt 51 = .ok (.iconst 1, 1) := dt_of DA_X9_readsDebt_0 31 rfl
theorem dX9_readsDebt_52 : decode cX9_readsDebt 52 = .ok (.bipush 99, 2) := dt_of DA_X9_readsDebt_0 32 rfl
theorem dX9_readsDebt_54 : decode cX9_readsDebt 54 = .ok (.invokevirtual 130, 3) := dt_of DA_X9_readsDebt_0 33 rfl
theorem dX9_readsDebt_57 : decode cX9_readsDebt 57 = .ok (.istore_n 3, 1) := dt_of DA_X9_readsDebt_0 34 rfl
theorem dX9_readsDebt_58 : decode cX9_readsDebt 58 = .ok (.aload_n 0, 1) := dt_of DA_X9_readsDebt_0 35 rfl
theorem dX9_readsDebt_59 : decode cX9_readsDebt 59 = .ok (.aload_n 0, 1) := dt_of DA_X9_readsDebt_0 36 rfl
theorem dX9_readsDebt_60 : decode cX9_readsDebt 60 = .ok (.getfield 104, 3) := dt_of DA_X9_readsDebt_0 37 rfl
theorem dX9_readsDebt_63 : decode cX9_readsDebt 63 = .ok (.iconst 4, 1) := dt_of DA_X9_readsDebt_0 38 rfl
theorem dX9_readsDebt_64 : decode cX9_readsDebt 64 = .ok (.if_icmp .ne 7, 3) := dt_of DA_X9_readsDebt_0 39 rfl
theorem dX9_readsDebt_67 : decode cX9_readsDebt 67 = .ok (.iconst 1, 1) := dt_of DA_X9_readsDebt_0 40 rfl
theorem dX9_readsDebt_68 : decode cX9_readsDebt 68 = .ok (.goto 4, 3) := dt_of DA_X9_readsDebt_0 41 rfl
theorem dX9_readsDebt_71 : decode cX9_readsDebt 71 = .ok (.iconst 0, 1) := dt_of DA_X9_readsDebt_0 42 rfl
theorem dX9_readsDebt_72 : decode cX9_readsDebt 72 = .ok (.iconst 1, 1) := dt_of DA_X9_readsDebt_0 43 rfl
theorem dX9_readsDebt_73 : decode cX9_readsDebt 73 = .ok (.invokevirtual 120, 3) := dt_of DA_X9_readsDebt_0 44 rfl
theorem dX9_readsDebt_76 : decode cX9_readsDebt 76 = .ok (.pop, 1) := dt_of DA_X9_readsDebt_0 45 rfl
theorem dX9_readsDebt_77 : decode cX9_readsDebt 77 = .ok (.aload_n 0, 1) := dt_of DA_X9_readsDebt_0 46 rfl
theorem dX9_readsDebt_78 : decode cX9_readsDebt 78 = .ok (.invokevirtual 110, 3) := dt_of DA_X9_readsDebt_0 47 rfl
theorem dX9_readsDebt_81 : decode cX9_readsDebt 81 = .ok (.ifCond .eq 14, 3) := dt_of DA_X9_readsDebt_0 48 rfl
theorem dX9_readsDebt_84 : decode cX9_readsDebt 84 = .ok (.aload_n 0, 1) := dt_of DA_X9_readsDebt_0 49 rfl
theorem dX9_readsDebt_85 : decode cX9_readsDebt 85 = .ok (.getfield 28, 3) := dt_of DA_X9_readsDebt_0 50 rfl
theorem dX9_readsDebt_88 : decode cX9_readsDebt 88 = .ok (.iload_n 1, 1) := dt_of DA_X9_readsDebt_0 51 rfl
theorem dX9_readsDebt_89 : decode cX9_readsDebt 89 = .ok (.iload_n 2, 1) := dt_of DA_X9_readsDebt_0 52 rfl
theorem dX9_readsDebt_90 : decode cX9_readsDebt 90 = .ok (.invokestatic 133, 3) := dt_of DA_X9_readsDebt_0 53 rfl
theorem dX9_readsDebt_93 : decode cX9_readsDebt 93 = .ok (.iload_n 3, 1) := dt_of DA_X9_readsDebt_0 54 rfl
theorem dX9_readsDebt_94 : decode cX9_readsDebt 94 = .ok (.iastore, 1) := dt_of DA_X9_readsDebt_0 55 rfl
theorem dX9_readsDebt_95 : decode cX9_readsDebt 95 = .ok (.return_, 1) := dt_of DA_X9_readsDebt_0 56 rfl
def DT_X9_must_0 : List (Nat × Instr × Nat) := [(0, .aload_n 0, 1), (1, .invokevirtual 110, 3), (4, .ifCond .eq 14, 3), (7, .iload_n 1, 1), (8, .ifCond .ne 10, 3), (11, .aload_n 0, 1), (12, .iconst 0, 1), (13, .iconst 1, 1), (14, .invokevirtual 120, 3), (17, .pop, 1), (18, .return_, 1)]
theorem DA_X9_must_0 : DT_X9_must_0.all (dtf cX9_must) = true := by decide +kernel
theorem dX9_must_0 : decode cX9_must 0 = .ok (.aload_n 0, 1) := dt_of DA_X9_must_0 0 rfl
theorem dX9_must_1 : decode cX9_must 1 = .ok (.invokevirtual 110, 3) := dt_of DA_X9_must_0 1 rfl
theorem dX9_must_4 : decode cX9_must 4 = .ok (.ifCond .eq 14, 3) := dt_of DA_X9_must_0 2 rfl
theorem dX9_must_7 : decode cX9_must 7 = .ok (.iload_n 1, 1) := dt_of DA_X9_must_0 3 rfl
theorem dX9_must_8 : decode cX9_must 8 = .ok (.ifCond .ne 10, 3) := dt_of DA_X9_must_0 4 rfl
theorem dX9_must_11 : decode cX9_must 11 = .ok (.aload_n 0, 1) := dt_of DA_X9_must_0 5 rfl
theorem dX9_must_12 : decode cX9_must 12 = .ok (.iconst 0, 1) := dt_of DA_X9_must_0 6 rfl
theorem dX9_must_13 : decode cX9_must 13 = .ok (.iconst 1, 1) := dt_of DA_X9_must_0 7 rfl
theorem dX9_must_14 : decode cX9_must 14 = .ok (.invokevirtual 120, 3) := dt_of DA_X9_must_0 8 rfl
theorem dX9_must_17 : decode cX9_must 17 = .ok (.pop, 1) := dt_of DA_X9_must_0 9 rfl
theorem dX9_must_18 : decode cX9_must 18 = .ok (.return_, 1) := dt_of DA_X9_must_0 10 rfl
def DT_X9_valley_0 : List (Nat × Instr × Nat) := [(0, .iconst 0, 1), (1, .istore_n 1, 1), (2, .iload_n 1, 1), (3, .bipush 63, 2), (5, .if_icmp .ge 16, 3), (8, .aload_n 0, 1), (9, .getfield 28, 3), (12, .iload_n 1, 1), (13, .iconst 0, 1), (14, .iastore, 1), (15, .iinc 1 1, 3), (18, .goto (-16), 3), (21, .aload_n 0, 1), (22, .iconst 0, 1), (23, .putfield 92, 3), (26, .aload_n 0, 1), (27, .iconst (-1), 1), (28, .putfield 107, 3), (31, .aload_n 0, 1), (32, .invokevirtual 117, 3), (35, .aload_n 0, 1), (36, .aload_n 0, 1), (37, .getfield 104, 3), (40, .iconst 1, 1), (41, .if_icmp .ne 16, 3), (44, .aload_n 0, 1), (45, .getfield 101, 3), (48, .bipush 118, 2), (50, .if_icmp .ne 7, 3), (53, .iconst 1, 1), (54, .goto 4, 3), (57, .iconst 0, 1), (58, .iconst 1, 1), (59, .invokevirtual 120, 3), (62, .pop, 1), (63, .aload_n 0, 1), (64, .getfield 28, 3), (67, .iconst 0, 1), (68, .aload_n 0, 1), (69, .iconst 0, 1), (70, .bipush 15, 2), (72, .invokevirtual 124, 3), (75, .iastore, 1), (76, .aload_n 0, 1), (77, .aload_n 0, 1), (78, .getfield 104, 3), (81, .iconst 4, 1), (82, .if_icmp .ne 7, 3), (85, .iconst 1, 1), (86, .goto 4, 3), (89, .iconst 0, 1), (90, .iconst 1, 1), (91, .invokevirtual 120, 3), (94, .pop, 1), (95, .aload_n 0, 1), (96, .invokevirtual 110, 3), (99, .ifCond .eq 28, 3), (102, .aload_n 0, 1), (103, .getfield 104, 3), (106, .iconst 1, 1), (107, .if_icmp .ne 20, 3), (110, .aload_n 0, 1), (111, .getfield 101, 3), (114, .invokestatic 127, 3), (117, .ifCond .le 10, 3), (120, .aload_n 0, 1), (121, .invokevirtual 143, 3), (124, .goto (-29), 3), (127, .aload_n 0, 1), (128, .aload_n 0, 1), (129, .getfield 28, 3), (132, .iconst 1, 1), (133, .iaload, 1), (134, .iconst 1, 1), (135, .if_icmp .le 7, 3), (138, .iconst 1, 1), (139, .goto 4, 3), (142, .iconst 0, 1), (143, .invokevirtual 146, 3), (146, .aload_n 0, 1), (147, .invokevirtual 110, 3), (150, .ifCond .eq 27, 3), (153, .aload_n 0, 1), (154, .getfield 104, 3), (157, .iconst 1, 1), (158, .if_icmp .ne 19, 3), (161, .aload_n 0, 1), (162, .getfield 101, 3), (165, .bipush 111, 2), (167, .if_icmp .ne 10, 3), (170, .aload_n 0, 1), (171, .invokevirtual 149, 3), (174, .goto (-28), 3), (177, .aload_n 0, 1), (178, .aload_n 0, 1), (179, .getfield 104, 3), (182, .ifCond .ne 7, 3), (185, .iconst 1, 1), (186, .goto 4, 3), (189, .iconst 0, 1)]
theorem DA_X9_valley_0 : DT_X9_valley_0.all (dtf cX9_valley) = true := by decide +kernel
theorem dX9_valley_0 : decode cX9_valley 0 = .ok (.iconst 0, 1) := dt_of DA_X9_valley_0 0 rfl
theorem dX9_valley_1 : decode cX9_valley 1 = .ok (.istore_n 1, 1) := dt_of DA_X9_valley_0 1 rfl
theorem dX9_valley_2 : decode cX9_valley 2 = .ok (.iload_n 1, 1) := dt_of DA_X9_valley_0 2 rfl
theorem dX9_valley_3 : decode cX9_valley 3 = .ok (.bipush 63, 2) := dt_of DA_X9_valley_0 3 rfl
theorem dX9_valley_5 : decode cX9_valley 5 = .ok (.if_icmp .ge 16, 3) := dt_of DA_X9_valley_0 4 rfl
theorem dX9_valley_8 : decode cX9_valley 8 = .ok (.aload_n 0, 1) := dt_of DA_X9_valley_0 5 rfl
theorem dX9_valley_9 : decode cX9_valley 9 = .ok (.getfield 28, 3) := dt_of DA_X9_valley_0 6 rfl
theorem dX9_valley_12 : decode cX9_valley 12 = .ok (.iload_n 1, 1) := dt_of DA_X9_valley_0 7 rfl
theorem dX9_valley_13 : decode cX9_valley 13 = .ok (.iconst 0, 1) := dt_of DA_X9_valley_0 8 rfl
theorem dX9_valley_14 : decode cX9_valley 14 = .ok (.iastore, 1) := dt_of DA_X9_valley_0 9 rfl
theorem dX9_valley_15 : decode cX9_valley 15 = .ok (.iinc 1 1, 3) := dt_of DA_X9_valley_0 10 rfl
theorem dX9_valley_18 : decode cX9_valley 18 = .ok (.goto (-16), 3) := dt_of DA_X9_valley_0 11 rfl
theorem dX9_valley_21 : decode cX9_valley 21 = .ok (.aload_n 0, 1) := dt_of DA_X9_valley_0 12 rfl
theorem dX9_valley_22 : decode cX9_valley 22 = .ok (.iconst 0, 1) := dt_of DA_X9_valley_0 13 rfl
theorem dX9_valley_23 : decode cX9_valley 23 = .ok (.putfield 92, 3) := dt_of DA_X9_valley_0 14 rfl
theorem dX9_valley_26 : decode cX9_valley 26 = .ok (.aload_n 0, 1) := dt_of DA_X9_valley_0 15 rfl
theorem dX9_valley_27 : decode cX9_valley 27 = .ok (.iconst (-1), 1) := dt_of DA_X9_valley_0 16 rfl
theorem dX9_valley_28 : decode cX9_valley 28 = .ok (.putfield 107, 3) := dt_of DA_X9_valley_0 17 rfl
theorem dX9_valley_31 : decode cX9_valley 31 = .ok (.aload_n 0, 1) := dt_of DA_X9_valley_0 18 rfl
theorem dX9_valley_32 : decode cX9_valley 32 = .ok (.invokevirtual 117, 3) := dt_of DA_X9_valley_0 19 rfl
theorem dX9_valley_35 : decode cX9_valley 35 = .ok (.aload_n 0, 1) := dt_of DA_X9_valley_0 20 rfl
theorem dX9_valley_36 : decode cX9_valley 36 = .ok (.aload_n 0, 1) := dt_of DA_X9_valley_0 21 rfl
theorem dX9_valley_37 : decode cX9_valley 37 = .ok (.getfield 104, 3) := dt_of DA_X9_valley_0 22 rfl
theorem dX9_valley_40 : decode cX9_valley 40 = .ok (.iconst 1, 1) := dt_of DA_X9_valley_0 23 rfl
theorem dX9_valley_41 : decode cX9_valley 41 = .ok (.if_icmp .ne 16, 3) := dt_of DA_X9_valley_0 24 rfl
theorem dX9_valley_44 : decode cX9_valley 44 = .ok (.aload_n 0, 1) := dt_of DA_X9_valley_0 25 rfl
theorem dX9_valley_45 : decode cX9_valley 45 = .ok (.getfield 101, 3) := dt_of DA_X9_valley_0 26 rfl
theorem dX9_valley_48 : decode cX9_valley 48 = .ok (.bipush 118, 2) := dt_of DA_X9_valley_0 27 rfl
theorem dX9_valley_50 : decode cX9_valley 50 = .ok (.if_icmp .ne 7, 3) := dt_of DA_X9_valley_0 28 rfl
theorem dX9_valley_53 : decode cX9_valley 53 = .ok (.iconst 1, 1) := dt_of DA_X9_valley_0 29 rfl
theorem dX9_valley_54 : decode cX9_valley 54 = .ok (.goto 4, 3) := dt_of DA_X9_valley_0 30 rfl
theorem dX9_valley_57 : decode cX9_valley 57 = .ok (.iconst 0, 1) := dt_of DA_X9_valley_0 31 rfl
theorem dX9_valley_58 : decode cX9_valley 58 = .ok (.iconst 1, 1) := dt_of DA_X9_valley_0 32 rfl
theorem dX9_valley_59 : decode cX9_valley 59 = .ok (.invokevirtual 120, 3) := dt_of DA_X9_valley_0 33 rfl
theorem dX9_valley_62 : decode cX9_valley 62 = .ok (.pop, 1) := dt_of DA_X9_valley_0 34 rfl
theorem dX9_valley_63 : decode cX9_valley 63 = .ok (.aload_n 0, 1) := dt_of DA_X9_valley_0 35 rfl
theorem dX9_valley_64 : decode cX9_valley 64 = .ok (.getfield 28, 3) := dt_of DA_X9_valley_0 36 rfl
theorem dX9_valley_67 : decode cX9_valley 67 = .ok (.iconst 0, 1) := dt_of DA_X9_valley_0 37 rfl
theorem dX9_valley_68 : decode cX9_valley 68 = .ok (.aload_n 0, 1) := dt_of DA_X9_valley_0 38 rfl
theorem dX9_valley_69 : decode cX9_valley 69 = .ok (.iconst 0, 1) := dt_of DA_X9_valley_0 39 rfl
theorem dX9_valley_70 : decode cX9_valley 70 = .ok (.bipush 15, 2) := dt_of DA_X9_valley_0 40 rfl
theorem dX9_valley_72 : decode cX9_valley 72 = .ok (.invokevirtual 124, 3) := dt_of DA_X9_valley_0 41 rfl
theorem dX9_valley_75 : decode cX9_valley 75 = .ok (.iastore, 1) := dt_of DA_X9_valley_0 42 rfl
theorem dX9_valley_76 : decode cX9_valley 76 = .ok (.aload_n 0, 1) := dt_of DA_X9_valley_0 43 rfl
theorem dX9_valley_77 : decode cX9_valley 77 = .ok (.aload_n 0, 1) := dt_of DA_X9_valley_0 44 rfl
theorem dX9_valley_78 : decode cX9_valley 78 = .ok (.getfield 104, 3) := dt_of DA_X9_valley_0 45 rfl
theorem dX9_valley_81 : decode cX9_valley 81 = .ok (.iconst 4, 1) := dt_of DA_X9_valley_0 46 rfl
theorem dX9_valley_82 : decode cX9_valley 82 = .ok (.if_icmp .ne 7, 3) := dt_of DA_X9_valley_0 47 rfl
theorem dX9_valley_85 : decode cX9_valley 85 = .ok (.iconst 1, 1) := dt_of DA_X9_valley_0 48 rfl
theorem dX9_valley_86 : decode cX9_valley 86 = .ok (.goto 4, 3) := dt_of DA_X9_valley_0 49 rfl
theorem dX9_valley_89 : decode cX9_valley 89 = .ok (.iconst 0, 1) := dt_of DA_X9_valley_0 50 rfl
theorem dX9_valley_90 : decode cX9_valley 90 = .ok (.iconst 1, 1) := dt_of DA_X9_valley_0 51 rfl
theorem dX9_valley_91 : decode cX9_valley 91 = .ok (.invokevirtual 120, 3) := dt_of DA_X9_valley_0 52 rfl
theorem dX9_valley_94 : decode cX9_valley 94 = .ok (.pop, 1) := dt_of DA_X9_valley_0 53 rfl
theorem dX9_valley_95 : decode cX9_valley 95 = .ok (.aload_n 0, 1) := dt_of DA_X9_valley_0 54 rfl
theorem dX9_valley_96 : decode cX9_valley 96 = .ok (.invokevirtual 110, 3) := dt_of DA_X9_valley_0 55 rfl
theorem dX9_valley_99 : decode cX9_valley 99 = .ok (.ifCond .eq 28, 3) := dt_of DA_X9_valley_0 56 rfl
theorem dX9_valley_102 : decode cX9_valley 102 = .ok (.aload_n 0, 1) := dt_of DA_X9_valley_0 57 rfl
theorem dX9_valley_103 : decode cX9_valley 103 = .ok (.getfield 104, 3) := dt_of DA_X9_valley_0 58 rfl
theorem dX9_valley_106 : decode cX9_valley 106 = .ok (.iconst 1, 1) := dt_of DA_X9_valley_0 59 rfl
theorem dX9_valley_107 : decode cX9_valley 107 = .ok (.if_icmp .ne 20, 3) := dt_of DA_X9_valley_0 60 rfl
theorem dX9_valley_110 : decode cX9_valley 110 = .ok (.aload_n 0, 1) := dt_of DA_X9_valley_0 61 rfl
theorem dX9_valley_111 : decode cX9_valley 111 = .ok (.getfield 101, 3) := dt_of DA_X9_valley_0 62 rfl
theorem dX9_valley_114 : decode cX9_valley 114 = .ok (.invokestatic 127, 3) := dt_of DA_X9_valley_0 63 rfl
theorem dX9_valley_117 : decode cX9_valley 117 = .ok (.ifCond .le 10, 3) := dt_of DA_X9_valley_0 64 rfl
theorem dX9_valley_120 : decode cX9_valley 120 = .ok (.aload_n 0, 1) := dt_of DA_X9_valley_0 65 rfl
theorem dX9_valley_121 : decode cX9_valley 121 = .ok (.invokevirtual 143, 3) := dt_of DA_X9_valley_0 66 rfl
theorem dX9_valley_124 : decode cX9_valley 124 = .ok (.goto (-29), 3) := dt_of DA_X9_valley_0 67 rfl
theorem dX9_valley_127 : decode cX9_valley 127 = .ok (.aload_n 0, 1) := dt_of DA_X9_valley_0 68 rfl
theorem dX9_valley_128 : decode cX9_valley 128 = .ok (.aload_n 0, 1) := dt_of DA_X9_valley_0 69 rfl
theorem dX9_valley_129 : decode cX9_valley 129 = .ok (.getfield 28, 3) := dt_of DA_X9_valley_0 70 rfl
theorem dX9_valley_132 : decode cX9_valley 132 = .ok (.iconst 1, 1) := dt_of DA_X9_valley_0 71 rfl
theorem dX9_valley_133 : decode cX9_valley 133 = .ok (.iaload, 1) := dt_of DA_X9_valley_0 72 rfl
theorem dX9_valley_134 : decode cX9_valley 134 = .ok (.iconst 1, 1) := dt_of DA_X9_valley_0 73 rfl
theorem dX9_valley_135 : decode cX9_valley 135 = .ok (.if_icmp .le 7, 3) := dt_of DA_X9_valley_0 74 rfl
theorem dX9_valley_138 : decode cX9_valley 138 = .ok (.iconst 1, 1) := dt_of DA_X9_valley_0 75 rfl
theorem dX9_valley_139 : decode cX9_valley 139 = .ok (.goto 4, 3) := dt_of DA_X9_valley_0 76 rfl
theorem dX9_valley_142 : decode cX9_valley 142 = .ok (.iconst 0, 1) := dt_of DA_X9_valley_0 77 rfl
theorem dX9_valley_143 : decode cX9_valley 143 = .ok (.invokevirtual 146, 3) := dt_of DA_X9_valley_0 78 rfl
theorem dX9_valley_146 : decode cX9_valley 146 = .ok (.aload_n 0, 1) := dt_of DA_X9_valley_0 79 rfl
theorem dX9_valley_147 : decode cX9_valley 147 = .ok (.invokevirtual 110, 3) := dt_of DA_X9_valley_0 80 rfl
theorem dX9_valley_150 : decode cX9_valley 150 = .ok (.ifCond .eq 27, 3) := dt_of DA_X9_valley_0 81 rfl
theorem dX9_valley_153 : decode cX9_valley 153 = .ok (.aload_n 0, 1) := dt_of DA_X9_valley_0 82 rfl
theorem dX9_valley_154 : decode cX9_valley 154 = .ok (.getfield 104, 3) := dt_of DA_X9_valley_0 83 rfl
theorem dX9_valley_157 : decode cX9_valley 157 = .ok (.iconst 1, 1) := dt_of DA_X9_valley_0 84 rfl
theorem dX9_valley_158 : decode cX9_valley 158 = .ok (.if_icmp .ne 19, 3) := dt_of DA_X9_valley_0 85 rfl
theorem dX9_valley_161 : decode cX9_valley 161 = .ok (.aload_n 0, 1) := dt_of DA_X9_valley_0 86 rfl
theorem dX9_valley_162 : decode cX9_valley 162 = .ok (.getfield 101, 3) := dt_of DA_X9_valley_0 87 rfl
theorem dX9_valley_165 : decode cX9_valley 165 = .ok (.bipush 111, 2) := dt_of DA_X9_valley_0 88 rfl
theorem dX9_valley_167 : decode cX9_valley 167 = .ok (.if_icmp .ne 10, 3) := dt_of DA_X9_valley_0 89 rfl
theorem dX9_valley_170 : decode cX9_valley 170 = .ok (.aload_n 0, 1) := dt_of DA_X9_valley_0 90 rfl
theorem dX9_valley_171 : decode cX9_valley 171 = .ok (.invokevirtual 149, 3) := dt_of DA_X9_valley_0 91 rfl
theorem dX9_valley_174 : decode cX9_valley 174 = .ok (.goto (-28), 3) := dt_of DA_X9_valley_0 92 rfl
theorem dX9_valley_177 : decode cX9_valley 177 = .ok (.aload_n 0, 1) := dt_of DA_X9_valley_0 93 rfl
theorem dX9_valley_178 : decode cX9_valley 178 = .ok (.aload_n 0, 1) := dt_of DA_X9_valley_0 94 rfl
theorem dX9_valley_179 : decode cX9_valley 179 = .ok (.getfield 104, 3) := dt_of DA_X9_valley_0 95 rfl
theorem dX9_valley_182 : decode cX9_valley 182 = .ok (.ifCond .ne 7, 3) := dt_of DA_X9_valley_0 96 rfl
theorem dX9_valley_185 : decode cX9_valley 185 = .ok (.iconst 1, 1) := dt_of DA_X9_valley_0 97 rfl
theorem dX9_valley_186 : decode cX9_valley 186 = .ok (.goto 4, 3) := dt_of DA_X9_valley_0 98 rfl
theorem dX9_valley_189 : decode cX9_valley 189 = .ok (.iconst 0, 1) := dt_of DA_X9_valley_0 99 rfl
def DT_X9_valley_1 : List (Nat × Instr × Nat) := [(190, .invokevirtual 146, 3), (193, .aload_n 0, 1), (194, .iconst 0, 1), (195, .putfield 88, 3), (198, .aload_n 0, 1), (199, .invokevirtual 110, 3), (202, .ifCond .ne 11, 3), (205, .ldc 152, 2), (207, .aload_n 0, 1), (208, .getfield 107, 3), (211, .isub, 1), (212, .ireturn, 1), (213, .aload_n 0, 1), (214, .getfield 28, 3), (217, .iconst 0, 1), (218, .aload_n 0, 1), (219, .getfield 25, 3), (222, .iconst 0, 1), (223, .invokestatic 153, 3), (226, .aload_n 0, 1), (227, .iconst 0, 1), (228, .putfield 157, 3), (231, .aload_n 0, 1), (232, .getfield 25, 3), (235, .iconst 1, 1), (236, .iaload, 1), (237, .ireturn, 1)]
theorem DA_X9_valley_1 : DT_X9_valley_1.all (dtf cX9_valley) = true := by decide +kernel
theorem dX9_valley_190 : decode cX9_valley 190 = .ok (.invokevirtual 146, 3) := dt_of DA_X9_valley_1 0 rfl
theorem dX9_valley_193 : decode cX9_valley 193 = .ok (.aload_n 0, 1) := dt_of DA_X9_valley_1 1 rfl
theorem dX9_valley_194 : decode cX9_valley 194 = .ok (.iconst 0, 1) := dt_of DA_X9_valley_1 2 rfl
theorem dX9_valley_195 : decode cX9_valley 195 = .ok (.putfield 88, 3) := dt_of DA_X9_valley_1 3 rfl
theorem dX9_valley_198 : decode cX9_valley 198 = .ok (.aload_n 0, 1) := dt_of DA_X9_valley_1 4 rfl
theorem dX9_valley_199 : decode cX9_valley 199 = .ok (.invokevirtual 110, 3) := dt_of DA_X9_valley_1 5 rfl
theorem dX9_valley_202 : decode cX9_valley 202 = .ok (.ifCond .ne 11, 3) := dt_of DA_X9_valley_1 6 rfl
theorem dX9_valley_205 : decode cX9_valley 205 = .ok (.ldc 152, 2) := dt_of DA_X9_valley_1 7 rfl
theorem dX9_valley_207 : decode cX9_valley 207 = .ok (.aload_n 0, 1) := dt_of DA_X9_valley_1 8 rfl
theorem dX9_valley_208 : decode cX9_valley 208 = .ok (.getfield 107, 3) := dt_of DA_X9_valley_1 9 rfl
theorem dX9_valley_211 : decode cX9_valley 211 = .ok (.isub, 1) := dt_of DA_X9_valley_1 10 rfl
theorem dX9_valley_212 : decode cX9_valley 212 = .ok (.ireturn, 1) := dt_of DA_X9_valley_1 11 rfl
theorem dX9_valley_213 : decode cX9_valley 213 = .ok (.aload_n 0, 1) := dt_of DA_X9_valley_1 12 rfl
theorem dX9_valley_214 : decode cX9_valley 214 = .ok (.getfield 28, 3) := dt_of DA_X9_valley_1 13 rfl
theorem dX9_valley_217 : decode cX9_valley 217 = .ok (.iconst 0, 1) := dt_of DA_X9_valley_1 14 rfl
theorem dX9_valley_218 : decode cX9_valley 218 = .ok (.aload_n 0, 1) := dt_of DA_X9_valley_1 15 rfl
theorem dX9_valley_219 : decode cX9_valley 219 = .ok (.getfield 25, 3) := dt_of DA_X9_valley_1 16 rfl
theorem dX9_valley_222 : decode cX9_valley 222 = .ok (.iconst 0, 1) := dt_of DA_X9_valley_1 17 rfl
theorem dX9_valley_223 : decode cX9_valley 223 = .ok (.invokestatic 153, 3) := dt_of DA_X9_valley_1 18 rfl
theorem dX9_valley_226 : decode cX9_valley 226 = .ok (.aload_n 0, 1) := dt_of DA_X9_valley_1 19 rfl
theorem dX9_valley_227 : decode cX9_valley 227 = .ok (.iconst 0, 1) := dt_of DA_X9_valley_1 20 rfl
theorem dX9_valley_228 : decode cX9_valley 228 = .ok (.putfield 157, 3) := dt_of DA_X9_valley_1 21 rfl
theorem dX9_valley_231 : decode cX9_valley 231 = .ok (.aload_n 0, 1) := dt_of DA_X9_valley_1 22 rfl
theorem dX9_valley_232 : decode cX9_valley 232 = .ok (.getfield 25, 3) := dt_of DA_X9_valley_1 23 rfl
theorem dX9_valley_235 : decode cX9_valley 235 = .ok (.iconst 1, 1) := dt_of DA_X9_valley_1 24 rfl
theorem dX9_valley_236 : decode cX9_valley 236 = .ok (.iaload, 1) := dt_of DA_X9_valley_1 25 rfl
theorem dX9_valley_237 : decode cX9_valley 237 = .ok (.ireturn, 1) := dt_of DA_X9_valley_1 26 rfl
def DT_X9_fault_0 : List (Nat × Instr × Nat) := [(0, .aload_n 0, 1), (1, .getfield 114, 3), (4, .ireturn, 1)]
theorem DA_X9_fault_0 : DT_X9_fault_0.all (dtf cX9_fault) = true := by decide +kernel
theorem dX9_fault_0 : decode cX9_fault 0 = .ok (.aload_n 0, 1) := dt_of DA_X9_fault_0 0 rfl
theorem dX9_fault_1 : decode cX9_fault 1 = .ok (.getfield 114, 3) := dt_of DA_X9_fault_0 1 rfl
theorem dX9_fault_4 : decode cX9_fault 4 = .ok (.ireturn, 1) := dt_of DA_X9_fault_0 2 rfl
def DT_X9_isValley_0 : List (Nat × Instr × Nat) := [(0, .aload_n 0, 1), (1, .getfield 25, 3), (4, .iconst 1, 1), (5, .iaload, 1), (6, .ifCond .le 7, 3), (9, .iconst 1, 1), (10, .goto 4, 3), (13, .iconst 0, 1), (14, .ireturn, 1)]
theorem DA_X9_isValley_0 : DT_X9_isValley_0.all (dtf cX9_isValley) = true := by decide +kernel
theorem dX9_isValley_0 : decode cX9_isValley 0 = .ok (.aload_n 0, 1) := dt_of DA_X9_isValley_0 0 rfl
theorem dX9_isValley_1 : decode cX9_isValley 1 = .ok (.getfield 25, 3) := dt_of DA_X9_isValley_0 1 rfl
theorem dX9_isValley_4 : decode cX9_isValley 4 = .ok (.iconst 1, 1) := dt_of DA_X9_isValley_0 2 rfl
theorem dX9_isValley_5 : decode cX9_isValley 5 = .ok (.iaload, 1) := dt_of DA_X9_isValley_0 3 rfl
theorem dX9_isValley_6 : decode cX9_isValley 6 = .ok (.ifCond .le 7, 3) := dt_of DA_X9_isValley_0 4 rfl
theorem dX9_isValley_9 : decode cX9_isValley 9 = .ok (.iconst 1, 1) := dt_of DA_X9_isValley_0 5 rfl
theorem dX9_isValley_10 : decode cX9_isValley 10 = .ok (.goto 4, 3) := dt_of DA_X9_isValley_0 6 rfl
theorem dX9_isValley_13 : decode cX9_isValley 13 = .ok (.iconst 0, 1) := dt_of DA_X9_isValley_0 7 rfl
theorem dX9_isValley_14 : decode cX9_isValley 14 = .ok (.ireturn, 1) := dt_of DA_X9_isValley_0 8 rfl
def DT_X9_isBell_0 : List (Nat × Instr × Nat) := [(0, .iload_n 1, 1), (1, .iconst 0, 1), (2, .aload_n 0, 1), (3, .getfield 25, 3), (6, .iconst 1, 1), (7, .iaload, 1), (8, .iconst 1, 1), (9, .isub, 1), (10, .invokestatic 62, 3), (13, .ireturn, 1)]
theorem DA_X9_isBell_0 : DT_X9_isBell_0.all (dtf cX9_isBell) = true := by decide +kernel
theorem dX9_isBell_0 : decode cX9_isBell 0 = .ok (.iload_n 1, 1) := dt_of DA_X9_isBell_0 0 rfl
theorem dX9_isBell_1 : decode cX9_isBell 1 = .ok (.iconst 0, 1) := dt_of DA_X9_isBell_0 1 rfl
theorem dX9_isBell_2 : decode cX9_isBell 2 = .ok (.aload_n 0, 1) := dt_of DA_X9_isBell_0 2 rfl
theorem dX9_isBell_3 : decode cX9_isBell 3 = .ok (.getfield 25, 3) := dt_of DA_X9_isBell_0 3 rfl
theorem dX9_isBell_6 : decode cX9_isBell 6 = .ok (.iconst 1, 1) := dt_of DA_X9_isBell_0 4 rfl
theorem dX9_isBell_7 : decode cX9_isBell 7 = .ok (.iaload, 1) := dt_of DA_X9_isBell_0 5 rfl
theorem dX9_isBell_8 : decode cX9_isBell 8 = .ok (.iconst 1, 1) := dt_of DA_X9_isBell_0 6 rfl
theorem dX9_isBell_9 : decode cX9_isBell 9 = .ok (.isub, 1) := dt_of DA_X9_isBell_0 7 rfl
theorem dX9_isBell_10 : decode cX9_isBell 10 = .ok (.invokestatic 62, 3) := dt_of DA_X9_isBell_0 8 rfl
theorem dX9_isBell_13 : decode cX9_isBell 13 = .ok (.ireturn, 1) := dt_of DA_X9_isBell_0 9 rfl
def DT_X9_areTwo_0 : List (Nat × Instr × Nat) := [(0, .aload_n 0, 1), (1, .iload_n 1, 1), (2, .invokevirtual 160, 3), (5, .ifCond .eq 20, 3), (8, .aload_n 0, 1), (9, .iload_n 2, 1), (10, .invokevirtual 160, 3), (13, .ifCond .eq 12, 3), (16, .iload_n 1, 1), (17, .iload_n 2, 1), (18, .if_icmp .eq 7, 3), (21, .iconst 1, 1), (22, .goto 4, 3), (25, .iconst 0, 1), (26, .ireturn, 1)]
theorem DA_X9_areTwo_0 : DT_X9_areTwo_0.all (dtf cX9_areTwo) = true := by decide +kernel
theorem dX9_areTwo_0 : decode cX9_areTwo 0 = .ok (.aload_n 0, 1) := dt_of DA_X9_areTwo_0 0 rfl
theorem dX9_areTwo_1 : decode cX9_areTwo 1 = .ok (.iload_n 1, 1) := dt_of DA_X9_areTwo_0 1 rfl
theorem dX9_areTwo_2 : decode cX9_areTwo 2 = .ok (.invokevirtual 160, 3) := dt_of DA_X9_areTwo_0 2 rfl
theorem dX9_areTwo_5 : decode cX9_areTwo 5 = .ok (.ifCond .eq 20, 3) := dt_of DA_X9_areTwo_0 3 rfl
theorem dX9_areTwo_8 : decode cX9_areTwo 8 = .ok (.aload_n 0, 1) := dt_of DA_X9_areTwo_0 4 rfl
theorem dX9_areTwo_9 : decode cX9_areTwo 9 = .ok (.iload_n 2, 1) := dt_of DA_X9_areTwo_0 5 rfl
theorem dX9_areTwo_10 : decode cX9_areTwo 10 = .ok (.invokevirtual 160, 3) := dt_of DA_X9_areTwo_0 6 rfl
theorem dX9_areTwo_13 : decode cX9_areTwo 13 = .ok (.ifCond .eq 12, 3) := dt_of DA_X9_areTwo_0 7 rfl
theorem dX9_areTwo_16 : decode cX9_areTwo 16 = .ok (.iload_n 1, 1) := dt_of DA_X9_areTwo_0 8 rfl
theorem dX9_areTwo_17 : decode cX9_areTwo 17 = .ok (.iload_n 2, 1) := dt_of DA_X9_areTwo_0 9 rfl
theorem dX9_areTwo_18 : decode cX9_areTwo 18 = .ok (.if_icmp .eq 7, 3) := dt_of DA_X9_areTwo_0 10 rfl
theorem dX9_areTwo_21 : decode cX9_areTwo 21 = .ok (.iconst 1, 1) := dt_of DA_X9_areTwo_0 11 rfl
theorem dX9_areTwo_22 : decode cX9_areTwo 22 = .ok (.goto 4, 3) := dt_of DA_X9_areTwo_0 12 rfl
theorem dX9_areTwo_25 : decode cX9_areTwo 25 = .ok (.iconst 0, 1) := dt_of DA_X9_areTwo_0 13 rfl
theorem dX9_areTwo_26 : decode cX9_areTwo 26 = .ok (.ireturn, 1) := dt_of DA_X9_areTwo_0 14 rfl
def DT_X9_comesToOwe_0 : List (Nat × Instr × Nat) := [(0, .aload_n 0, 1), (1, .iload_n 2, 1), (2, .iload_n 1, 1), (3, .invokestatic 133, 3), (6, .iaload, 1), (7, .iload_n 3, 1), (8, .invokestatic 163, 3), (11, .istore 4, 2), (13, .aload_n 0, 1), (14, .iload_n 2, 1), (15, .iload_n 1, 1), (16, .invokestatic 133, 3), (19, .dup2, 1), (20, .iaload, 1), (21, .iload 4, 2), (23, .isub, 1), (24, .iastore, 1), (25, .aload_n 0, 1), (26, .iload_n 1, 1), (27, .iload_n 2, 1), (28, .invokestatic 133, 3), (31, .dup2, 1), (32, .iaload, 1), (33, .iload_n 3, 1), (34, .iload 4, 2), (36, .isub, 1), (37, .iadd, 1), (38, .iastore, 1), (39, .return_, 1)]
theorem DA_X9_comesToOwe_0 : DT_X9_comesToOwe_0.all (dtf cX9_comesToOwe) = true := by decide +kernel
theorem dX9_comesToOwe_0 : decode cX9_comesToOwe 0 = .ok (.aload_n 0, 1) := dt_of DA_X9_comesToOwe_0 0 rfl
theorem dX9_comesToOwe_1 : decode cX9_comesToOwe 1 = .ok (.iload_n 2, 1) := dt_of DA_X9_comesToOwe_0 1 rfl
theorem dX9_comesToOwe_2 : decode cX9_comesToOwe 2 = .ok (.iload_n 1, 1) := dt_of DA_X9_comesToOwe_0 2 rfl
theorem dX9_comesToOwe_3 : decode cX9_comesToOwe 3 = .ok (.invokestatic 133, 3) := dt_of DA_X9_comesToOwe_0 3 rfl
theorem dX9_comesToOwe_6 : decode cX9_comesToOwe 6 = .ok (.iaload, 1) := dt_of DA_X9_comesToOwe_0 4 rfl
theorem dX9_comesToOwe_7 : decode cX9_comesToOwe 7 = .ok (.iload_n 3, 1) := dt_of DA_X9_comesToOwe_0 5 rfl
theorem dX9_comesToOwe_8 : decode cX9_comesToOwe 8 = .ok (.invokestatic 163, 3) := dt_of DA_X9_comesToOwe_0 6 rfl
theorem dX9_comesToOwe_11 : decode cX9_comesToOwe 11 = .ok (.istore 4, 2) := dt_of DA_X9_comesToOwe_0 7 rfl
theorem dX9_comesToOwe_13 : decode cX9_comesToOwe 13 = .ok (.aload_n 0, 1) := dt_of DA_X9_comesToOwe_0 8 rfl
theorem dX9_comesToOwe_14 : decode cX9_comesToOwe 14 = .ok (.iload_n 2, 1) := dt_of DA_X9_comesToOwe_0 9 rfl
theorem dX9_comesToOwe_15 : decode cX9_comesToOwe 15 = .ok (.iload_n 1, 1) := dt_of DA_X9_comesToOwe_0 10 rfl
theorem dX9_comesToOwe_16 : decode cX9_comesToOwe 16 = .ok (.invokestatic 133, 3) := dt_of DA_X9_comesToOwe_0 11 rfl
theorem dX9_comesToOwe_19 : decode cX9_comesToOwe 19 = .ok (.dup2, 1) := dt_of DA_X9_comesToOwe_0 12 rfl
theorem dX9_comesToOwe_20 : decode cX9_comesToOwe 20 = .ok (.iaload, 1) := dt_of DA_X9_comesToOwe_0 13 rfl
theorem dX9_comesToOwe_21 : decode cX9_comesToOwe 21 = .ok (.iload 4, 2) := dt_of DA_X9_comesToOwe_0 14 rfl
theorem dX9_comesToOwe_23 : decode cX9_comesToOwe 23 = .ok (.isub, 1) := dt_of DA_X9_comesToOwe_0 15 rfl
theorem dX9_comesToOwe_24 : decode cX9_comesToOwe 24 = .ok (.iastore, 1) := dt_of DA_X9_comesToOwe_0 16 rfl
theorem dX9_comesToOwe_25 : decode cX9_comesToOwe 25 = .ok (.aload_n 0, 1) := dt_of DA_X9_comesToOwe_0 17 rfl
theorem dX9_comesToOwe_26 : decode cX9_comesToOwe 26 = .ok (.iload_n 1, 1) := dt_of DA_X9_comesToOwe_0 18 rfl
theorem dX9_comesToOwe_27 : decode cX9_comesToOwe 27 = .ok (.iload_n 2, 1) := dt_of DA_X9_comesToOwe_0 19 rfl
theorem dX9_comesToOwe_28 : decode cX9_comesToOwe 28 = .ok (.invokestatic 133, 3) := dt_of DA_X9_comesToOwe_0 20 rfl
theorem dX9_comesToOwe_31 : decode cX9_comesToOwe 31 = .ok (.dup2, 1) := dt_of DA_X9_comesToOwe_0 21 rfl
theorem dX9_comesToOwe_32 : decode cX9_comesToOwe 32 = .ok (.iaload, 1) := dt_of DA_X9_comesToOwe_0 22 rfl
theorem dX9_comesToOwe_33 : decode cX9_comesToOwe 33 = .ok (.iload_n 3, 1) := dt_of DA_X9_comesToOwe_0 23 rfl
theorem dX9_comesToOwe_34 : decode cX9_comesToOwe 34 = .ok (.iload 4, 2) := dt_of DA_X9_comesToOwe_0 24 rfl
theorem dX9_comesToOwe_36 : decode cX9_comesToOwe 36 = .ok (.isub, 1) := dt_of DA_X9_comesToOwe_0 25 rfl
theorem dX9_comesToOwe_37 : decode cX9_comesToOwe 37 = .ok (.iadd, 1) := dt_of DA_X9_comesToOwe_0 26 rfl
theorem dX9_comesToOwe_38 : decode cX9_comesToOwe 38 = .ok (.iastore, 1) := dt_of DA_X9_comesToOwe_0 27 rfl
theorem dX9_comesToOwe_39 : decode cX9_comesToOwe 39 = .ok (.return_, 1) := dt_of DA_X9_comesToOwe_0 28 rfl
def DT_X9_price_0 : List (Nat × Instr × Nat) := [(0, .iload_n 0, 1), (1, .tableswitch 47 1 3 #[27, 31, 33], 27), (28, .iconst 5, 1), (29, .iload_n 1, 1), (30, .imul, 1), (31, .ireturn, 1), (32, .iconst 0, 1), (33, .ireturn, 1), (34, .iload_n 1, 1), (35, .ifCond .le 11, 3), (38, .iconst 4, 1), (39, .iload_n 1, 1), (40, .imul, 1), (41, .iconst 4, 1), (42, .iadd, 1), (43, .goto 4, 3), (46, .iconst 0, 1), (47, .ireturn, 1), (48, .iconst 4, 1), (49, .iload_n 1, 1), (50, .imul, 1), (51, .ireturn, 1)]
theorem DA_X9_price_0 : DT_X9_price_0.all (dtf cX9_price) = true := by decide +kernel
theorem dX9_price_0 : decode cX9_price 0 = .ok (.iload_n 0, 1) := dt_of DA_X9_price_0 0 rfl
theorem dX9_price_1 : decode cX9_price 1 = .ok (.tableswitch 47 1 3 #[27, 31, 33], 27) := dt_of DA_X9_price_0 1 rfl
theorem dX9_price_28 : decode cX9_price 28 = .ok (.iconst 5, 1) := dt_of DA_X9_price_0 2 rfl
theorem dX9_price_29 : decode cX9_price 29 = .ok (.iload_n 1, 1) := dt_of DA_X9_price_0 3 rfl
theorem dX9_price_30 : decode cX9_price 30 = .ok (.imul, 1) := dt_of DA_X9_price_0 4 rfl
theorem dX9_price_31 : decode cX9_price 31 = .ok (.ireturn, 1) := dt_of DA_X9_price_0 5 rfl
theorem dX9_price_32 : decode cX9_price 32 = .ok (.iconst 0, 1) := dt_of DA_X9_price_0 6 rfl
theorem dX9_price_33 : decode cX9_price 33 = .ok (.ireturn, 1) := dt_of DA_X9_price_0 7 rfl
theorem dX9_price_34 : decode cX9_price 34 = .ok (.iload_n 1, 1) := dt_of DA_X9_price_0 8 rfl
theorem dX9_price_35 : decode cX9_price 35 = .ok (.ifCond .le 11, 3) := dt_of DA_X9_price_0 9 rfl
theorem dX9_price_38 : decode cX9_price 38 = .ok (.iconst 4, 1) := dt_of DA_X9_price_0 10 rfl
theorem dX9_price_39 : decode cX9_price 39 = .ok (.iload_n 1, 1) := dt_of DA_X9_price_0 11 rfl
theorem dX9_price_40 : decode cX9_price 40 = .ok (.imul, 1) := dt_of DA_X9_price_0 12 rfl
theorem dX9_price_41 : decode cX9_price 41 = .ok (.iconst 4, 1) := dt_of DA_X9_price_0 13 rfl
theorem dX9_price_42 : decode cX9_price 42 = .ok (.iadd, 1) := dt_of DA_X9_price_0 14 rfl
theorem dX9_price_43 : decode cX9_price 43 = .ok (.goto 4, 3) := dt_of DA_X9_price_0 15 rfl
theorem dX9_price_46 : decode cX9_price 46 = .ok (.iconst 0, 1) := dt_of DA_X9_price_0 16 rfl
theorem dX9_price_47 : decode cX9_price 47 = .ok (.ireturn, 1) := dt_of DA_X9_price_0 17 rfl
theorem dX9_price_48 : decode cX9_price 48 = .ok (.iconst 4, 1) := dt_of DA_X9_price_0 18 rfl
theorem dX9_price_49 : decode cX9_price 49 = .ok (.iload_n 1, 1) := dt_of DA_X9_price_0 19 rfl
theorem dX9_price_50 : decode cX9_price 50 = .ok (.imul, 1) := dt_of DA_X9_price_0 20 rfl
theorem dX9_price_51 : decode cX9_price 51 = .ok (.ireturn, 1) := dt_of DA_X9_price_0 21 rfl
def DT_X9_over_0 : List (Nat × Instr × Nat) := [(0, .iconst 3, 1), (1, .iconst 4, 1), (2, .iload_n 1, 1), (3, .imul, 1), (4, .iadd, 1), (5, .istore_n 2, 1), (6, .aload_n 0, 1), (7, .iconst 0, 1), (8, .iaload, 1), (9, .aload_n 0, 1), (10, .iconst 2, 1), (11, .iaload, 1), (12, .iconst 4, 1), (13, .irem, 1), (14, .invokestatic 166, 3), (17, .ifCond .eq 16, 3), (20, .aload_n 0, 1), (21, .iload_n 2, 1), (22, .iconst 1, 1), (23, .iadd, 1), (24, .iaload, 1), (25, .iconst 1, 1), (26, .isub, 1), (27, .invokestatic 170, 3), (30, .goto 8, 3), (33, .aload_n 0, 1), (34, .iload_n 2, 1), (35, .iconst 1, 1), (36, .iadd, 1), (37, .iaload, 1), (38, .istore_n 3, 1), (39, .aload_n 0, 1), (40, .iload_n 2, 1), (41, .iaload, 1), (42, .iconst 5, 1), (43, .if_icmp .ne 22, 3), (46, .aload_n 0, 1), (47, .iconst 2, 1), (48, .iaload, 1), (49, .iconst 2, 1), (50, .irem, 1), (51, .iconst 1, 1), (52, .if_icmp .ne 13, 3), (55, .aload_n 0, 1), (56, .iload_n 2, 1), (57, .iconst 2, 1), (58, .iadd, 1), (59, .iaload, 1), (60, .iconst 1, 1), (61, .iadd, 1), (62, .goto 8, 3), (65, .aload_n 0, 1), (66, .iload_n 2, 1), (67, .iconst 2, 1), (68, .iadd, 1), (69, .iaload, 1), (70, .istore 4, 2), (72, .iload_n 3, 1), (73, .iload 4, 2), (75, .isub, 1), (76, .ireturn, 1)]
theorem DA_X9_over_0 : DT_X9_over_0.all (dtf cX9_over) = true := by decide +kernel
theorem dX9_over_0 : decode cX9_over 0 = .ok (.iconst 3, 1) := dt_of DA_X9_over_0 0 rfl
theorem dX9_over_1 : decode cX9_over 1 = .ok (.iconst 4, 1) := dt_of DA_X9_over_0 1 rfl
theorem dX9_over_2 : decode cX9_over 2 = .ok (.iload_n 1, 1) := dt_of DA_X9_over_0 2 rfl
theorem dX9_over_3 : decode cX9_over 3 = .ok (.imul, 1) := dt_of DA_X9_over_0 3 rfl
theorem dX9_over_4 : decode cX9_over 4 = .ok (.iadd, 1) := dt_of DA_X9_over_0 4 rfl
theorem dX9_over_5 : decode cX9_over 5 = .ok (.istore_n 2, 1) := dt_of DA_X9_over_0 5 rfl
theorem dX9_over_6 : decode cX9_over 6 = .ok (.aload_n 0, 1) := dt_of DA_X9_over_0 6 rfl
theorem dX9_over_7 : decode cX9_over 7 = .ok (.iconst 0, 1) := dt_of DA_X9_over_0 7 rfl
theorem dX9_over_8 : decode cX9_over 8 = .ok (.iaload, 1) := dt_of DA_X9_over_0 8 rfl
theorem dX9_over_9 : decode cX9_over 9 = .ok (.aload_n 0, 1) := dt_of DA_X9_over_0 9 rfl
theorem dX9_over_10 : decode cX9_over 10 = .ok (.iconst 2, 1) := dt_of DA_X9_over_0 10 rfl
theorem dX9_over_11 : decode cX9_over 11 = .ok (.iaload, 1) := dt_of DA_X9_over_0 11 rfl
theorem dX9_over_12 : decode cX9_over 12 = .ok (.iconst 4, 1) := dt_of DA_X9_over_0 12 rfl
theorem dX9_over_13 : decode cX9_over 13 = .ok (.irem, 1) := dt_of DA_X9_over_0 13 rfl
theorem dX9_over_14 : decode cX9_over 14 = .ok (.invokestatic 166, 3) := dt_of DA_X9_over_0 14 rfl
theorem dX9_over_17 : decode cX9_over 17 = .ok (.ifCond .eq 16, 3) := dt_of DA_X9_over_0 15 rfl
theorem dX9_over_20 : decode cX9_over 20 = .ok (.aload_n 0, 1) := dt_of DA_X9_over_0 16 rfl
theorem dX9_over_21 : decode cX9_over 21 = .ok (.iload_n 2, 1) := dt_of DA_X9_over_0 17 rfl
theorem dX9_over_22 : decode cX9_over 22 = .ok (.iconst 1, 1) := dt_of DA_X9_over_0 18 rfl
theorem dX9_over_23 : decode cX9_over 23 = .ok (.iadd, 1) := dt_of DA_X9_over_0 19 rfl
theorem dX9_over_24 : decode cX9_over 24 = .ok (.iaload, 1) := dt_of DA_X9_over_0 20 rfl
theorem dX9_over_25 : decode cX9_over 25 = .ok (.iconst 1, 1) := dt_of DA_X9_over_0 21 rfl
theorem dX9_over_26 : decode cX9_over 26 = .ok (.isub, 1) := dt_of DA_X9_over_0 22 rfl
theorem dX9_over_27 : decode cX9_over 27 = .ok (.invokestatic 170, 3) := dt_of DA_X9_over_0 23 rfl
theorem dX9_over_30 : decode cX9_over 30 = .ok (.goto 8, 3) := dt_of DA_X9_over_0 24 rfl
theorem dX9_over_33 : decode cX9_over 33 = .ok (.aload_n 0, 1) := dt_of DA_X9_over_0 25 rfl
theorem dX9_over_34 : decode cX9_over 34 = .ok (.iload_n 2, 1) := dt_of DA_X9_over_0 26 rfl
theorem dX9_over_35 : decode cX9_over 35 = .ok (.iconst 1, 1) := dt_of DA_X9_over_0 27 rfl
theorem dX9_over_36 : decode cX9_over 36 = .ok (.iadd, 1) := dt_of DA_X9_over_0 28 rfl
theorem dX9_over_37 : decode cX9_over 37 = .ok (.iaload, 1) := dt_of DA_X9_over_0 29 rfl
theorem dX9_over_38 : decode cX9_over 38 = .ok (.istore_n 3, 1) := dt_of DA_X9_over_0 30 rfl
theorem dX9_over_39 : decode cX9_over 39 = .ok (.aload_n 0, 1) := dt_of DA_X9_over_0 31 rfl
theorem dX9_over_40 : decode cX9_over 40 = .ok (.iload_n 2, 1) := dt_of DA_X9_over_0 32 rfl
theorem dX9_over_41 : decode cX9_over 41 = .ok (.iaload, 1) := dt_of DA_X9_over_0 33 rfl
theorem dX9_over_42 : decode cX9_over 42 = .ok (.iconst 5, 1) := dt_of DA_X9_over_0 34 rfl
theorem dX9_over_43 : decode cX9_over 43 = .ok (.if_icmp .ne 22, 3) := dt_of DA_X9_over_0 35 rfl
theorem dX9_over_46 : decode cX9_over 46 = .ok (.aload_n 0, 1) := dt_of DA_X9_over_0 36 rfl
theorem dX9_over_47 : decode cX9_over 47 = .ok (.iconst 2, 1) := dt_of DA_X9_over_0 37 rfl
theorem dX9_over_48 : decode cX9_over 48 = .ok (.iaload, 1) := dt_of DA_X9_over_0 38 rfl
theorem dX9_over_49 : decode cX9_over 49 = .ok (.iconst 2, 1) := dt_of DA_X9_over_0 39 rfl
theorem dX9_over_50 : decode cX9_over 50 = .ok (.irem, 1) := dt_of DA_X9_over_0 40 rfl
theorem dX9_over_51 : decode cX9_over 51 = .ok (.iconst 1, 1) := dt_of DA_X9_over_0 41 rfl
theorem dX9_over_52 : decode cX9_over 52 = .ok (.if_icmp .ne 13, 3) := dt_of DA_X9_over_0 42 rfl
theorem dX9_over_55 : decode cX9_over 55 = .ok (.aload_n 0, 1) := dt_of DA_X9_over_0 43 rfl
theorem dX9_over_56 : decode cX9_over 56 = .ok (.iload_n 2, 1) := dt_of DA_X9_over_0 44 rfl
theorem dX9_over_57 : decode cX9_over 57 = .ok (.iconst 2, 1) := dt_of DA_X9_over_0 45 rfl
theorem dX9_over_58 : decode cX9_over 58 = .ok (.iadd, 1) := dt_of DA_X9_over_0 46 rfl
theorem dX9_over_59 : decode cX9_over 59 = .ok (.iaload, 1) := dt_of DA_X9_over_0 47 rfl
theorem dX9_over_60 : decode cX9_over 60 = .ok (.iconst 1, 1) := dt_of DA_X9_over_0 48 rfl
theorem dX9_over_61 : decode cX9_over 61 = .ok (.iadd, 1) := dt_of DA_X9_over_0 49 rfl
theorem dX9_over_62 : decode cX9_over 62 = .ok (.goto 8, 3) := dt_of DA_X9_over_0 50 rfl
theorem dX9_over_65 : decode cX9_over 65 = .ok (.aload_n 0, 1) := dt_of DA_X9_over_0 51 rfl
theorem dX9_over_66 : decode cX9_over 66 = .ok (.iload_n 2, 1) := dt_of DA_X9_over_0 52 rfl
theorem dX9_over_67 : decode cX9_over 67 = .ok (.iconst 2, 1) := dt_of DA_X9_over_0 53 rfl
theorem dX9_over_68 : decode cX9_over 68 = .ok (.iadd, 1) := dt_of DA_X9_over_0 54 rfl
theorem dX9_over_69 : decode cX9_over 69 = .ok (.iaload, 1) := dt_of DA_X9_over_0 55 rfl
theorem dX9_over_70 : decode cX9_over 70 = .ok (.istore 4, 2) := dt_of DA_X9_over_0 56 rfl
theorem dX9_over_72 : decode cX9_over 72 = .ok (.iload_n 3, 1) := dt_of DA_X9_over_0 57 rfl
theorem dX9_over_73 : decode cX9_over 73 = .ok (.iload 4, 2) := dt_of DA_X9_over_0 58 rfl
theorem dX9_over_75 : decode cX9_over 75 = .ok (.isub, 1) := dt_of DA_X9_over_0 59 rfl
theorem dX9_over_76 : decode cX9_over 76 = .ok (.ireturn, 1) := dt_of DA_X9_over_0 60 rfl
def DT_X9_lends_0 : List (Nat × Instr × Nat) := [(0, .iconst 1, 1), (1, .istore_n 3, 1), (2, .iload_n 3, 1), (3, .aload_n 1, 1), (4, .iconst 1, 1), (5, .iaload, 1), (6, .if_icmp .ge 93, 3), (9, .iload_n 2, 1), (10, .iload_n 3, 1), (11, .iadd, 1), (12, .aload_n 1, 1), (13, .iconst 1, 1), (14, .iaload, 1), (15, .irem, 1), (16, .istore 4, 2), (18, .aload_n 1, 1), (19, .iconst 3, 1), (20, .iconst 4, 1), (21, .iload 4, 2), (23, .imul, 1), (24, .iadd, 1), (25, .iaload, 1), (26, .istore 5, 2), (28, .iload 5, 2), (30, .iconst 4, 1), (31, .if_icmp .ge 22, 3), (34, .aload_n 0, 1), (35, .getfield 44, 3), (38, .iload 4, 2), (40, .iaload, 1), (41, .aload_n 0, 1), (42, .getfield 47, 3), (45, .iload_n 2, 1), (46, .iaload, 1), (47, .invokestatic 163, 3), (50, .goto 4, 3), (53, .iconst 0, 1), (54, .istore 6, 2), (56, .aload_n 0, 1), (57, .getfield 44, 3), (60, .iload 4, 2), (62, .dup2, 1), (63, .iaload, 1), (64, .iload 6, 2), (66, .isub, 1), (67, .iastore, 1), (68, .aload_n 0, 1), (69, .getfield 47, 3), (72, .iload_n 2, 1), (73, .dup2, 1), (74, .iaload, 1), (75, .iload 6, 2), (77, .isub, 1), (78, .iastore, 1), (79, .aload_n 1, 1), (80, .iload_n 2, 1), (81, .iload 4, 2), (83, .iload 5, 2), (85, .iload 6, 2), (87, .invokestatic 173, 3), (90, .invokestatic 176, 3), (93, .iinc 3 1, 3), (96, .goto (-94), 3), (99, .return_, 1)]
theorem DA_X9_lends_0 : DT_X9_lends_0.all (dtf cX9_lends) = true := by decide +kernel
theorem dX9_lends_0 : decode cX9_lends 0 = .ok (.iconst 1, 1) := dt_of DA_X9_lends_0 0 rfl
theorem dX9_lends_1 : decode cX9_lends 1 = .ok (.istore_n 3, 1) := dt_of DA_X9_lends_0 1 rfl
theorem dX9_lends_2 : decode cX9_lends 2 = .ok (.iload_n 3, 1) := dt_of DA_X9_lends_0 2 rfl
theorem dX9_lends_3 : decode cX9_lends 3 = .ok (.aload_n 1, 1) := dt_of DA_X9_lends_0 3 rfl
theorem dX9_lends_4 : decode cX9_lends 4 = .ok (.iconst 1, 1) := dt_of DA_X9_lends_0 4 rfl
theorem dX9_lends_5 : decode cX9_lends 5 = .ok (.iaload, 1) := dt_of DA_X9_lends_0 5 rfl
theorem dX9_lends_6 : decode cX9_lends 6 = .ok (.if_icmp .ge 93, 3) := dt_of DA_X9_lends_0 6 rfl
theorem dX9_lends_9 : decode cX9_lends 9 = .ok (.iload_n 2, 1) := dt_of DA_X9_lends_0 7 rfl
theorem dX9_lends_10 : decode cX9_lends 10 = .ok (.iload_n 3, 1) := dt_of DA_X9_lends_0 8 rfl
theorem dX9_lends_11 : decode cX9_lends 11 = .ok (.iadd, 1) := dt_of DA_X9_lends_0 9 rfl
theorem dX9_lends_12 : decode cX9_lends 12 = .ok (.aload_n 1, 1) := dt_of DA_X9_lends_0 10 rfl
theorem dX9_lends_13 : decode cX9_lends 13 = .ok (.iconst 1, 1) := dt_of DA_X9_lends_0 11 rfl
theorem dX9_lends_14 : decode cX9_lends 14 = .ok (.iaload, 1) := dt_of DA_X9_lends_0 12 rfl
theorem dX9_lends_15 : decode cX9_lends 15 = .ok (.irem, 1) := dt_of DA_X9_lends_0 13 rfl
theorem dX9_lends_16 : decode cX9_lends 16 = .ok (.istore 4, 2) := dt_of DA_X9_lends_0 14 rfl
theorem dX9_lends_18 : decode cX9_lends 18 = .ok (.aload_n 1, 1) := dt_of DA_X9_lends_0 15 rfl
theorem dX9_lends_19 : decode cX9_lends 19 = .ok (.iconst 3, 1) := dt_of DA_X9_lends_0 16 rfl
theorem dX9_lends_20 : decode cX9_lends 20 = .ok (.iconst 4, 1) := dt_of DA_X9_lends_0 17 rfl
theorem dX9_lends_21 : decode cX9_lends 21 = .ok (.iload 4, 2) := dt_of DA_X9_lends_0 18 rfl
theorem dX9_lends_23 : decode cX9_lends 23 = .ok (.imul, 1) := dt_of DA_X9_lends_0 19 rfl
theorem dX9_lends_24 : decode cX9_lends 24 = .ok (.iadd, 1) := dt_of DA_X9_lends_0 20 rfl
theorem dX9_lends_25 : decode cX9_lends 25 = .ok (.iaload, 1) := dt_of DA_X9_lends_0 21 rfl
theorem dX9_lends_26 : decode cX9_lends 26 = .ok (.istore 5, 2) := dt_of DA_X9_lends_0 22 rfl
theorem dX9_lends_28 : decode cX9_lends 28 = .ok (.iload 5, 2) := dt_of DA_X9_lends_0 23 rfl
theorem dX9_lends_30 : decode cX9_lends 30 = .ok (.iconst 4, 1) := dt_of DA_X9_lends_0 24 rfl
theorem dX9_lends_31 : decode cX9_lends 31 = .ok (.if_icmp .ge 22, 3) := dt_of DA_X9_lends_0 25 rfl
theorem dX9_lends_34 : decode cX9_lends 34 = .ok (.aload_n 0, 1) := dt_of DA_X9_lends_0 26 rfl
theorem dX9_lends_35 : decode cX9_lends 35 = .ok (.getfield 44, 3) := dt_of DA_X9_lends_0 27 rfl
theorem dX9_lends_38 : decode cX9_lends 38 = .ok (.iload 4, 2) := dt_of DA_X9_lends_0 28 rfl
theorem dX9_lends_40 : decode cX9_lends 40 = .ok (.iaload, 1) := dt_of DA_X9_lends_0 29 rfl
theorem dX9_lends_41 : decode cX9_lends 41 = .ok (.aload_n 0, 1) := dt_of DA_X9_lends_0 30 rfl
theorem dX9_lends_42 : decode cX9_lends 42 = .ok (.getfield 47, 3) := dt_of DA_X9_lends_0 31 rfl
theorem dX9_lends_45 : decode cX9_lends 45 = .ok (.iload_n 2, 1) := dt_of DA_X9_lends_0 32 rfl
theorem dX9_lends_46 : decode cX9_lends 46 = .ok (.iaload, 1) := dt_of DA_X9_lends_0 33 rfl
theorem dX9_lends_47 : decode cX9_lends 47 = .ok (.invokestatic 163, 3) := dt_of DA_X9_lends_0 34 rfl
theorem dX9_lends_50 : decode cX9_lends 50 = .ok (.goto 4, 3) := dt_of DA_X9_lends_0 35 rfl
theorem dX9_lends_53 : decode cX9_lends 53 = .ok (.iconst 0, 1) := dt_of DA_X9_lends_0 36 rfl
theorem dX9_lends_54 : decode cX9_lends 54 = .ok (.istore 6, 2) := dt_of DA_X9_lends_0 37 rfl
theorem dX9_lends_56 : decode cX9_lends 56 = .ok (.aload_n 0, 1) := dt_of DA_X9_lends_0 38 rfl
theorem dX9_lends_57 : decode cX9_lends 57 = .ok (.getfield 44, 3) := dt_of DA_X9_lends_0 39 rfl
theorem dX9_lends_60 : decode cX9_lends 60 = .ok (.iload 4, 2) := dt_of DA_X9_lends_0 40 rfl
theorem dX9_lends_62 : decode cX9_lends 62 = .ok (.dup2, 1) := dt_of DA_X9_lends_0 41 rfl
theorem dX9_lends_63 : decode cX9_lends 63 = .ok (.iaload, 1) := dt_of DA_X9_lends_0 42 rfl
theorem dX9_lends_64 : decode cX9_lends 64 = .ok (.iload 6, 2) := dt_of DA_X9_lends_0 43 rfl
theorem dX9_lends_66 : decode cX9_lends 66 = .ok (.isub, 1) := dt_of DA_X9_lends_0 44 rfl
theorem dX9_lends_67 : decode cX9_lends 67 = .ok (.iastore, 1) := dt_of DA_X9_lends_0 45 rfl
theorem dX9_lends_68 : decode cX9_lends 68 = .ok (.aload_n 0, 1) := dt_of DA_X9_lends_0 46 rfl
theorem dX9_lends_69 : decode cX9_lends 69 = .ok (.getfield 47, 3) := dt_of DA_X9_lends_0 47 rfl
theorem dX9_lends_72 : decode cX9_lends 72 = .ok (.iload_n 2, 1) := dt_of DA_X9_lends_0 48 rfl
theorem dX9_lends_73 : decode cX9_lends 73 = .ok (.dup2, 1) := dt_of DA_X9_lends_0 49 rfl
theorem dX9_lends_74 : decode cX9_lends 74 = .ok (.iaload, 1) := dt_of DA_X9_lends_0 50 rfl
theorem dX9_lends_75 : decode cX9_lends 75 = .ok (.iload 6, 2) := dt_of DA_X9_lends_0 51 rfl
theorem dX9_lends_77 : decode cX9_lends 77 = .ok (.isub, 1) := dt_of DA_X9_lends_0 52 rfl
theorem dX9_lends_78 : decode cX9_lends 78 = .ok (.iastore, 1) := dt_of DA_X9_lends_0 53 rfl
theorem dX9_lends_79 : decode cX9_lends 79 = .ok (.aload_n 1, 1) := dt_of DA_X9_lends_0 54 rfl
theorem dX9_lends_80 : decode cX9_lends 80 = .ok (.iload_n 2, 1) := dt_of DA_X9_lends_0 55 rfl
theorem dX9_lends_81 : decode cX9_lends 81 = .ok (.iload 4, 2) := dt_of DA_X9_lends_0 56 rfl
theorem dX9_lends_83 : decode cX9_lends 83 = .ok (.iload 5, 2) := dt_of DA_X9_lends_0 57 rfl
theorem dX9_lends_85 : decode cX9_lends 85 = .ok (.iload 6, 2) := dt_of DA_X9_lends_0 58 rfl
theorem dX9_lends_87 : decode cX9_lends 87 = .ok (.invokestatic 173, 3) := dt_of DA_X9_lends_0 59 rfl
theorem dX9_lends_90 : decode cX9_lends 90 = .ok (.invokestatic 176, 3) := dt_of DA_X9_lends_0 60 rfl
theorem dX9_lends_93 : decode cX9_lends 93 = .ok (.iinc 3 1, 3) := dt_of DA_X9_lends_0 61 rfl
theorem dX9_lends_96 : decode cX9_lends 96 = .ok (.goto (-94), 3) := dt_of DA_X9_lends_0 62 rfl
theorem dX9_lends_99 : decode cX9_lends 99 = .ok (.return_, 1) := dt_of DA_X9_lends_0 63 rfl
def DT_X9_pays_0 : List (Nat × Instr × Nat) := [(0, .iconst 0, 1), (1, .istore_n 3, 1), (2, .iload_n 3, 1), (3, .aload_n 1, 1), (4, .iconst 1, 1), (5, .iaload, 1), (6, .if_icmp .ge 64, 3), (9, .aload_n 1, 1), (10, .iload_n 2, 1), (11, .iload_n 3, 1), (12, .invokestatic 133, 3), (15, .iaload, 1), (16, .iconst 3, 1), (17, .iadd, 1), (18, .iconst 4, 1), (19, .idiv, 1), (20, .aload_n 0, 1), (21, .getfield 44, 3), (24, .iload_n 2, 1), (25, .iaload, 1), (26, .invokestatic 163, 3), (29, .istore 4, 2), (31, .aload_n 0, 1), (32, .getfield 44, 3), (35, .iload_n 2, 1), (36, .dup2, 1), (37, .iaload, 1), (38, .iload 4, 2), (40, .isub, 1), (41, .iastore, 1), (42, .aload_n 1, 1), (43, .iload_n 2, 1), (44, .iload_n 3, 1), (45, .invokestatic 133, 3), (48, .aload_n 1, 1), (49, .iload_n 2, 1), (50, .iload_n 3, 1), (51, .invokestatic 133, 3), (54, .iaload, 1), (55, .iconst 4, 1), (56, .iload 4, 2), (58, .imul, 1), (59, .isub, 1), (60, .invokestatic 170, 3), (63, .iastore, 1), (64, .iinc 3 1, 3), (67, .goto (-65), 3), (70, .return_, 1)]
theorem DA_X9_pays_0 : DT_X9_pays_0.all (dtf cX9_pays) = true := by decide +kernel
theorem dX9_pays_0 : decode cX9_pays 0 = .ok (.iconst 0, 1) := dt_of DA_X9_pays_0 0 rfl
theorem dX9_pays_1 : decode cX9_pays 1 = .ok (.istore_n 3, 1) := dt_of DA_X9_pays_0 1 rfl
theorem dX9_pays_2 : decode cX9_pays 2 = .ok (.iload_n 3, 1) := dt_of DA_X9_pays_0 2 rfl
theorem dX9_pays_3 : decode cX9_pays 3 = .ok (.aload_n 1, 1) := dt_of DA_X9_pays_0 3 rfl
theorem dX9_pays_4 : decode cX9_pays 4 = .ok (.iconst 1, 1) := dt_of DA_X9_pays_0 4 rfl
theorem dX9_pays_5 : decode cX9_pays 5 = .ok (.iaload, 1) := dt_of DA_X9_pays_0 5 rfl
theorem dX9_pays_6 : decode cX9_pays 6 = .ok (.if_icmp .ge 64, 3) := dt_of DA_X9_pays_0 6 rfl
theorem dX9_pays_9 : decode cX9_pays 9 = .ok (.aload_n 1, 1) := dt_of DA_X9_pays_0 7 rfl
theorem dX9_pays_10 : decode cX9_pays 10 = .ok (.iload_n 2, 1) := dt_of DA_X9_pays_0 8 rfl
theorem dX9_pays_11 : decode cX9_pays 11 = .ok (.iload_n 3, 1) := dt_of DA_X9_pays_0 9 rfl
theorem dX9_pays_12 : decode cX9_pays 12 = .ok (.invokestatic 133, 3) := dt_of DA_X9_pays_0 10 rfl
theorem dX9_pays_15 : decode cX9_pays 15 = .ok (.iaload, 1) := dt_of DA_X9_pays_0 11 rfl
theorem dX9_pays_16 : decode cX9_pays 16 = .ok (.iconst 3, 1) := dt_of DA_X9_pays_0 12 rfl
theorem dX9_pays_17 : decode cX9_pays 17 = .ok (.iadd, 1) := dt_of DA_X9_pays_0 13 rfl
theorem dX9_pays_18 : decode cX9_pays 18 = .ok (.iconst 4, 1) := dt_of DA_X9_pays_0 14 rfl
theorem dX9_pays_19 : decode cX9_pays 19 = .ok (.idiv, 1) := dt_of DA_X9_pays_0 15 rfl
theorem dX9_pays_20 : decode cX9_pays 20 = .ok (.aload_n 0, 1) := dt_of DA_X9_pays_0 16 rfl
theorem dX9_pays_21 : decode cX9_pays 21 = .ok (.getfield 44, 3) := dt_of DA_X9_pays_0 17 rfl
theorem dX9_pays_24 : decode cX9_pays 24 = .ok (.iload_n 2, 1) := dt_of DA_X9_pays_0 18 rfl
theorem dX9_pays_25 : decode cX9_pays 25 = .ok (.iaload, 1) := dt_of DA_X9_pays_0 19 rfl
theorem dX9_pays_26 : decode cX9_pays 26 = .ok (.invokestatic 163, 3) := dt_of DA_X9_pays_0 20 rfl
theorem dX9_pays_29 : decode cX9_pays 29 = .ok (.istore 4, 2) := dt_of DA_X9_pays_0 21 rfl
theorem dX9_pays_31 : decode cX9_pays 31 = .ok (.aload_n 0, 1) := dt_of DA_X9_pays_0 22 rfl
theorem dX9_pays_32 : decode cX9_pays 32 = .ok (.getfield 44, 3) := dt_of DA_X9_pays_0 23 rfl
theorem dX9_pays_35 : decode cX9_pays 35 = .ok (.iload_n 2, 1) := dt_of DA_X9_pays_0 24 rfl
theorem dX9_pays_36 : decode cX9_pays 36 = .ok (.dup2, 1) := dt_of DA_X9_pays_0 25 rfl
theorem dX9_pays_37 : decode cX9_pays 37 = .ok (.iaload, 1) := dt_of DA_X9_pays_0 26 rfl
theorem dX9_pays_38 : decode cX9_pays 38 = .ok (.iload 4, 2) := dt_of DA_X9_pays_0 27 rfl
theorem dX9_pays_40 : decode cX9_pays 40 = .ok (.isub, 1) := dt_of DA_X9_pays_0 28 rfl
theorem dX9_pays_41 : decode cX9_pays 41 = .ok (.iastore, 1) := dt_of DA_X9_pays_0 29 rfl
theorem dX9_pays_42 : decode cX9_pays 42 = .ok (.aload_n 1, 1) := dt_of DA_X9_pays_0 30 rfl
theorem dX9_pays_43 : decode cX9_pays 43 = .ok (.iload_n 2, 1) := dt_of DA_X9_pays_0 31 rfl
theorem dX9_pays_44 : decode cX9_pays 44 = .ok (.iload_n 3, 1) := dt_of DA_X9_pays_0 32 rfl
theorem dX9_pays_45 : decode cX9_pays 45 = .ok (.invokestatic 133, 3) := dt_of DA_X9_pays_0 33 rfl
theorem dX9_pays_48 : decode cX9_pays 48 = .ok (.aload_n 1, 1) := dt_of DA_X9_pays_0 34 rfl
theorem dX9_pays_49 : decode cX9_pays 49 = .ok (.iload_n 2, 1) := dt_of DA_X9_pays_0 35 rfl
theorem dX9_pays_50 : decode cX9_pays 50 = .ok (.iload_n 3, 1) := dt_of DA_X9_pays_0 36 rfl
theorem dX9_pays_51 : decode cX9_pays 51 = .ok (.invokestatic 133, 3) := dt_of DA_X9_pays_0 37 rfl
theorem dX9_pays_54 : decode cX9_pays 54 = .ok (.iaload, 1) := dt_of DA_X9_pays_0 38 rfl
theorem dX9_pays_55 : decode cX9_pays 55 = .ok (.iconst 4, 1) := dt_of DA_X9_pays_0 39 rfl
theorem dX9_pays_56 : decode cX9_pays 56 = .ok (.iload 4, 2) := dt_of DA_X9_pays_0 40 rfl
theorem dX9_pays_58 : decode cX9_pays 58 = .ok (.imul, 1) := dt_of DA_X9_pays_0 41 rfl
theorem dX9_pays_59 : decode cX9_pays 59 = .ok (.isub, 1) := dt_of DA_X9_pays_0 42 rfl
theorem dX9_pays_60 : decode cX9_pays 60 = .ok (.invokestatic 170, 3) := dt_of DA_X9_pays_0 43 rfl
theorem dX9_pays_63 : decode cX9_pays 63 = .ok (.iastore, 1) := dt_of DA_X9_pays_0 44 rfl
theorem dX9_pays_64 : decode cX9_pays 64 = .ok (.iinc 3 1, 3) := dt_of DA_X9_pays_0 45 rfl
theorem dX9_pays_67 : decode cX9_pays 67 = .ok (.goto (-65), 3) := dt_of DA_X9_pays_0 46 rfl
theorem dX9_pays_70 : decode cX9_pays 70 = .ok (.return_, 1) := dt_of DA_X9_pays_0 47 rfl
def DT_X9_passes_0 : List (Nat × Instr × Nat) := [(0, .iconst 0, 1), (1, .istore_n 2, 1), (2, .iload_n 2, 1), (3, .aload_n 1, 1), (4, .iconst 1, 1), (5, .iaload, 1), (6, .if_icmp .ge 38, 3), (9, .aload_n 0, 1), (10, .getfield 44, 3), (13, .iload_n 2, 1), (14, .aload_n 1, 1), (15, .iload_n 2, 1), (16, .invokestatic 180, 3), (19, .invokestatic 170, 3), (22, .iastore, 1), (23, .aload_n 0, 1), (24, .getfield 47, 3), (27, .iload_n 2, 1), (28, .aload_n 1, 1), (29, .iload_n 2, 1), (30, .invokestatic 180, 3), (33, .ineg, 1), (34, .invokestatic 170, 3), (37, .iastore, 1), (38, .iinc 2 1, 3), (41, .goto (-39), 3), (44, .iconst 0, 1), (45, .istore_n 2, 1), (46, .iload_n 2, 1), (47, .aload_n 1, 1), (48, .iconst 1, 1), (49, .iaload, 1), (50, .if_icmp .ge 15, 3), (53, .aload_n 0, 1), (54, .aload_n 1, 1), (55, .iload_n 2, 1), (56, .invokevirtual 184, 3), (59, .iinc 2 1, 3), (62, .goto (-16), 3), (65, .iconst 0, 1), (66, .istore_n 2, 1), (67, .iload_n 2, 1), (68, .aload_n 1, 1), (69, .iconst 1, 1), (70, .iaload, 1), (71, .if_icmp .ge 40, 3), (74, .aload_n 1, 1), (75, .iconst 3, 1), (76, .iconst 4, 1), (77, .iload_n 2, 1), (78, .imul, 1), (79, .iadd, 1), (80, .iconst 3, 1), (81, .iadd, 1), (82, .aload_n 1, 1), (83, .iconst 3, 1), (84, .iconst 4, 1), (85, .iload_n 2, 1), (86, .imul, 1), (87, .iadd, 1), (88, .iconst 3, 1), (89, .iadd, 1), (90, .iaload, 1), (91, .aload_n 0, 1), (92, .getfield 47, 3), (95, .iload_n 2, 1), (96, .iaload, 1), (97, .iadd, 1), (98, .sipush 9999, 3), (101, .invokestatic 163, 3), (104, .iastore, 1), (105, .iinc 2 1, 3), (108, .goto (-41), 3), (111, .iconst 0, 1), (112, .istore_n 2, 1), (113, .iload_n 2, 1), (114, .aload_n 1, 1), (115, .iconst 1, 1), (116, .iaload, 1), (117, .if_icmp .ge 15, 3), (120, .aload_n 0, 1), (121, .aload_n 1, 1), (122, .iload_n 2, 1), (123, .invokevirtual 188, 3), (126, .iinc 2 1, 3), (129, .goto (-16), 3), (132, .aload_n 1, 1), (133, .iconst 2, 1), (134, .dup2, 1), (135, .iaload, 1), (136, .iconst 1, 1), (137, .iadd, 1), (138, .iastore, 1), (139, .return_, 1)]
theorem DA_X9_passes_0 : DT_X9_passes_0.all (dtf cX9_passes) = true := by decide +kernel
theorem dX9_passes_0 : decode cX9_passes 0 = .ok (.iconst 0, 1) := dt_of DA_X9_passes_0 0 rfl
theorem dX9_passes_1 : decode cX9_passes 1 = .ok (.istore_n 2, 1) := dt_of DA_X9_passes_0 1 rfl
theorem dX9_passes_2 : decode cX9_passes 2 = .ok (.iload_n 2, 1) := dt_of DA_X9_passes_0 2 rfl
theorem dX9_passes_3 : decode cX9_passes 3 = .ok (.aload_n 1, 1) := dt_of DA_X9_passes_0 3 rfl
theorem dX9_passes_4 : decode cX9_passes 4 = .ok (.iconst 1, 1) := dt_of DA_X9_passes_0 4 rfl
theorem dX9_passes_5 : decode cX9_passes 5 = .ok (.iaload, 1) := dt_of DA_X9_passes_0 5 rfl
theorem dX9_passes_6 : decode cX9_passes 6 = .ok (.if_icmp .ge 38, 3) := dt_of DA_X9_passes_0 6 rfl
theorem dX9_passes_9 : decode cX9_passes 9 = .ok (.aload_n 0, 1) := dt_of DA_X9_passes_0 7 rfl
theorem dX9_passes_10 : decode cX9_passes 10 = .ok (.getfield 44, 3) := dt_of DA_X9_passes_0 8 rfl
theorem dX9_passes_13 : decode cX9_passes 13 = .ok (.iload_n 2, 1) := dt_of DA_X9_passes_0 9 rfl
theorem dX9_passes_14 : decode cX9_passes 14 = .ok (.aload_n 1, 1) := dt_of DA_X9_passes_0 10 rfl
theorem dX9_passes_15 : decode cX9_passes 15 = .ok (.iload_n 2, 1) := dt_of DA_X9_passes_0 11 rfl
theorem dX9_passes_16 : decode cX9_passes 16 = .ok (.invokestatic 180, 3) := dt_of DA_X9_passes_0 12 rfl
theorem dX9_passes_19 : decode cX9_passes 19 = .ok (.invokestatic 170, 3) := dt_of DA_X9_passes_0 13 rfl
theorem dX9_passes_22 : decode cX9_passes 22 = .ok (.iastore, 1) := dt_of DA_X9_passes_0 14 rfl
theorem dX9_passes_23 : decode cX9_passes 23 = .ok (.aload_n 0, 1) := dt_of DA_X9_passes_0 15 rfl
theorem dX9_passes_24 : decode cX9_passes 24 = .ok (.getfield 47, 3) := dt_of DA_X9_passes_0 16 rfl
theorem dX9_passes_27 : decode cX9_passes 27 = .ok (.iload_n 2, 1) := dt_of DA_X9_passes_0 17 rfl
theorem dX9_passes_28 : decode cX9_passes 28 = .ok (.aload_n 1, 1) := dt_of DA_X9_passes_0 18 rfl
theorem dX9_passes_29 : decode cX9_passes 29 = .ok (.iload_n 2, 1) := dt_of DA_X9_passes_0 19 rfl
theorem dX9_passes_30 : decode cX9_passes 30 = .ok (.invokestatic 180, 3) := dt_of DA_X9_passes_0 20 rfl
theorem dX9_passes_33 : decode cX9_passes 33 = .ok (.ineg, 1) := dt_of DA_X9_passes_0 21 rfl
theorem dX9_passes_34 : decode cX9_passes 34 = .ok (.invokestatic 170, 3) := dt_of DA_X9_passes_0 22 rfl
theorem dX9_passes_37 : decode cX9_passes 37 = .ok (.iastore, 1) := dt_of DA_X9_passes_0 23 rfl
theorem dX9_passes_38 : decode cX9_passes 38 = .ok (.iinc 2 1, 3) := dt_of DA_X9_passes_0 24 rfl
theorem dX9_passes_41 : decode cX9_passes 41 = .ok (.goto (-39), 3) := dt_of DA_X9_passes_0 25 rfl
theorem dX9_passes_44 : decode cX9_passes 44 = .ok (.iconst 0, 1) := dt_of DA_X9_passes_0 26 rfl
theorem dX9_passes_45 : decode cX9_passes 45 = .ok (.istore_n 2, 1) := dt_of DA_X9_passes_0 27 rfl
theorem dX9_passes_46 : decode cX9_passes 46 = .ok (.iload_n 2, 1) := dt_of DA_X9_passes_0 28 rfl
theorem dX9_passes_47 : decode cX9_passes 47 = .ok (.aload_n 1, 1) := dt_of DA_X9_passes_0 29 rfl
theorem dX9_passes_48 : decode cX9_passes 48 = .ok (.iconst 1, 1) := dt_of DA_X9_passes_0 30 rfl
theorem dX9_passes_49 : decode cX9_passes 49 = .ok (.iaload, 1) := dt_of DA_X9_passes_0 31 rfl
theorem dX9_passes_50 : decode cX9_passes 50 = .ok (.if_icmp .ge 15, 3) := dt_of DA_X9_passes_0 32 rfl
theorem dX9_passes_53 : decode cX9_passes 53 = .ok (.aload_n 0, 1) := dt_of DA_X9_passes_0 33 rfl
theorem dX9_passes_54 : decode cX9_passes 54 = .ok (.aload_n 1, 1) := dt_of DA_X9_passes_0 34 rfl
theorem dX9_passes_55 : decode cX9_passes 55 = .ok (.iload_n 2, 1) := dt_of DA_X9_passes_0 35 rfl
theorem dX9_passes_56 : decode cX9_passes 56 = .ok (.invokevirtual 184, 3) := dt_of DA_X9_passes_0 36 rfl
theorem dX9_passes_59 : decode cX9_passes 59 = .ok (.iinc 2 1, 3) := dt_of DA_X9_passes_0 37 rfl
theorem dX9_passes_62 : decode cX9_passes 62 = .ok (.goto (-16), 3) := dt_of DA_X9_passes_0 38 rfl
theorem dX9_passes_65 : decode cX9_passes 65 = .ok (.iconst 0, 1) := dt_of DA_X9_passes_0 39 rfl
theorem dX9_passes_66 : decode cX9_passes 66 = .ok (.istore_n 2, 1) := dt_of DA_X9_passes_0 40 rfl
theorem dX9_passes_67 : decode cX9_passes 67 = .ok (.iload_n 2, 1) := dt_of DA_X9_passes_0 41 rfl
theorem dX9_passes_68 : decode cX9_passes 68 = .ok (.aload_n 1, 1) := dt_of DA_X9_passes_0 42 rfl
theorem dX9_passes_69 : decode cX9_passes 69 = .ok (.iconst 1, 1) := dt_of DA_X9_passes_0 43 rfl
theorem dX9_passes_70 : decode cX9_passes 70 = .ok (.iaload, 1) := dt_of DA_X9_passes_0 44 rfl
theorem dX9_passes_71 : decode cX9_passes 71 = .ok (.if_icmp .ge 40, 3) := dt_of DA_X9_passes_0 45 rfl
theorem dX9_passes_74 : decode cX9_passes 74 = .ok (.aload_n 1, 1) := dt_of DA_X9_passes_0 46 rfl
theorem dX9_passes_75 : decode cX9_passes 75 = .ok (.iconst 3, 1) := dt_of DA_X9_passes_0 47 rfl
theorem dX9_passes_76 : decode cX9_passes 76 = .ok (.iconst 4, 1) := dt_of DA_X9_passes_0 48 rfl
theorem dX9_passes_77 : decode cX9_passes 77 = .ok (.iload_n 2, 1) := dt_of DA_X9_passes_0 49 rfl
theorem dX9_passes_78 : decode cX9_passes 78 = .ok (.imul, 1) := dt_of DA_X9_passes_0 50 rfl
theorem dX9_passes_79 : decode cX9_passes 79 = .ok (.iadd, 1) := dt_of DA_X9_passes_0 51 rfl
theorem dX9_passes_80 : decode cX9_passes 80 = .ok (.iconst 3, 1) := dt_of DA_X9_passes_0 52 rfl
theorem dX9_passes_81 : decode cX9_passes 81 = .ok (.iadd, 1) := dt_of DA_X9_passes_0 53 rfl
theorem dX9_passes_82 : decode cX9_passes 82 = .ok (.aload_n 1, 1) := dt_of DA_X9_passes_0 54 rfl
theorem dX9_passes_83 : decode cX9_passes 83 = .ok (.iconst 3, 1) := dt_of DA_X9_passes_0 55 rfl
theorem dX9_passes_84 : decode cX9_passes 84 = .ok (.iconst 4, 1) := dt_of DA_X9_passes_0 56 rfl
theorem dX9_passes_85 : decode cX9_passes 85 = .ok (.iload_n 2, 1) := dt_of DA_X9_passes_0 57 rfl
theorem dX9_passes_86 : decode cX9_passes 86 = .ok (.imul, 1) := dt_of DA_X9_passes_0 58 rfl
theorem dX9_passes_87 : decode cX9_passes 87 = .ok (.iadd, 1) := dt_of DA_X9_passes_0 59 rfl
theorem dX9_passes_88 : decode cX9_passes 88 = .ok (.iconst 3, 1) := dt_of DA_X9_passes_0 60 rfl
theorem dX9_passes_89 : decode cX9_passes 89 = .ok (.iadd, 1) := dt_of DA_X9_passes_0 61 rfl
theorem dX9_passes_90 : decode cX9_passes 90 = .ok (.iaload, 1) := dt_of DA_X9_passes_0 62 rfl
theorem dX9_passes_91 : decode cX9_passes 91 = .ok (.aload_n 0, 1) := dt_of DA_X9_passes_0 63 rfl
theorem dX9_passes_92 : decode cX9_passes 92 = .ok (.getfield 47, 3) := dt_of DA_X9_passes_0 64 rfl
theorem dX9_passes_95 : decode cX9_passes 95 = .ok (.iload_n 2, 1) := dt_of DA_X9_passes_0 65 rfl
theorem dX9_passes_96 : decode cX9_passes 96 = .ok (.iaload, 1) := dt_of DA_X9_passes_0 66 rfl
theorem dX9_passes_97 : decode cX9_passes 97 = .ok (.iadd, 1) := dt_of DA_X9_passes_0 67 rfl
theorem dX9_passes_98 : decode cX9_passes 98 = .ok (.sipush 9999, 3) := dt_of DA_X9_passes_0 68 rfl
theorem dX9_passes_101 : decode cX9_passes 101 = .ok (.invokestatic 163, 3) := dt_of DA_X9_passes_0 69 rfl
theorem dX9_passes_104 : decode cX9_passes 104 = .ok (.iastore, 1) := dt_of DA_X9_passes_0 70 rfl
theorem dX9_passes_105 : decode cX9_passes 105 = .ok (.iinc 2 1, 3) := dt_of DA_X9_passes_0 71 rfl
theorem dX9_passes_108 : decode cX9_passes 108 = .ok (.goto (-41), 3) := dt_of DA_X9_passes_0 72 rfl
theorem dX9_passes_111 : decode cX9_passes 111 = .ok (.iconst 0, 1) := dt_of DA_X9_passes_0 73 rfl
theorem dX9_passes_112 : decode cX9_passes 112 = .ok (.istore_n 2, 1) := dt_of DA_X9_passes_0 74 rfl
theorem dX9_passes_113 : decode cX9_passes 113 = .ok (.iload_n 2, 1) := dt_of DA_X9_passes_0 75 rfl
theorem dX9_passes_114 : decode cX9_passes 114 = .ok (.aload_n 1, 1) := dt_of DA_X9_passes_0 76 rfl
theorem dX9_passes_115 : decode cX9_passes 115 = .ok (.iconst 1, 1) := dt_of DA_X9_passes_0 77 rfl
theorem dX9_passes_116 : decode cX9_passes 116 = .ok (.iaload, 1) := dt_of DA_X9_passes_0 78 rfl
theorem dX9_passes_117 : decode cX9_passes 117 = .ok (.if_icmp .ge 15, 3) := dt_of DA_X9_passes_0 79 rfl
theorem dX9_passes_120 : decode cX9_passes 120 = .ok (.aload_n 0, 1) := dt_of DA_X9_passes_0 80 rfl
theorem dX9_passes_121 : decode cX9_passes 121 = .ok (.aload_n 1, 1) := dt_of DA_X9_passes_0 81 rfl
theorem dX9_passes_122 : decode cX9_passes 122 = .ok (.iload_n 2, 1) := dt_of DA_X9_passes_0 82 rfl
theorem dX9_passes_123 : decode cX9_passes 123 = .ok (.invokevirtual 188, 3) := dt_of DA_X9_passes_0 83 rfl
theorem dX9_passes_126 : decode cX9_passes 126 = .ok (.iinc 2 1, 3) := dt_of DA_X9_passes_0 84 rfl
theorem dX9_passes_129 : decode cX9_passes 129 = .ok (.goto (-16), 3) := dt_of DA_X9_passes_0 85 rfl
theorem dX9_passes_132 : decode cX9_passes 132 = .ok (.aload_n 1, 1) := dt_of DA_X9_passes_0 86 rfl
theorem dX9_passes_133 : decode cX9_passes 133 = .ok (.iconst 2, 1) := dt_of DA_X9_passes_0 87 rfl
theorem dX9_passes_134 : decode cX9_passes 134 = .ok (.dup2, 1) := dt_of DA_X9_passes_0 88 rfl
theorem dX9_passes_135 : decode cX9_passes 135 = .ok (.iaload, 1) := dt_of DA_X9_passes_0 89 rfl
theorem dX9_passes_136 : decode cX9_passes 136 = .ok (.iconst 1, 1) := dt_of DA_X9_passes_0 90 rfl
theorem dX9_passes_137 : decode cX9_passes 137 = .ok (.iadd, 1) := dt_of DA_X9_passes_0 91 rfl
theorem dX9_passes_138 : decode cX9_passes 138 = .ok (.iastore, 1) := dt_of DA_X9_passes_0 92 rfl
theorem dX9_passes_139 : decode cX9_passes 139 = .ok (.return_, 1) := dt_of DA_X9_passes_0 93 rfl
def DT_X9_net_0 : List (Nat × Instr × Nat) := [(0, .iconst 0, 1), (1, .istore_n 2, 1), (2, .iconst 0, 1), (3, .istore_n 3, 1), (4, .iload_n 3, 1), (5, .aload_n 0, 1), (6, .iconst 1, 1), (7, .iaload, 1), (8, .if_icmp .ge 27, 3), (11, .iload_n 2, 1), (12, .aload_n 0, 1), (13, .iload_n 3, 1), (14, .iload_n 1, 1), (15, .invokestatic 133, 3), (18, .iaload, 1), (19, .aload_n 0, 1), (20, .iload_n 1, 1), (21, .iload_n 3, 1), (22, .invokestatic 133, 3), (25, .iaload, 1), (26, .isub, 1), (27, .iadd, 1), (28, .istore_n 2, 1), (29, .iinc 3 1, 3), (32, .goto (-28), 3), (35, .iload_n 2, 1), (36, .ireturn, 1)]
theorem DA_X9_net_0 : DT_X9_net_0.all (dtf cX9_net) = true := by decide +kernel
theorem dX9_net_0 : decode cX9_net 0 = .ok (.iconst 0, 1) := dt_of DA_X9_net_0 0 rfl
theorem dX9_net_1 : decode cX9_net 1 = .ok (.istore_n 2, 1) := dt_of DA_X9_net_0 1 rfl
theorem dX9_net_2 : decode cX9_net 2 = .ok (.iconst 0, 1) := dt_of DA_X9_net_0 2 rfl
theorem dX9_net_3 : decode cX9_net 3 = .ok (.istore_n 3, 1) := dt_of DA_X9_net_0 3 rfl
theorem dX9_net_4 : decode cX9_net 4 = .ok (.iload_n 3, 1) := dt_of DA_X9_net_0 4 rfl
theorem dX9_net_5 : decode cX9_net 5 = .ok (.aload_n 0, 1) := dt_of DA_X9_net_0 5 rfl
theorem dX9_net_6 : decode cX9_net 6 = .ok (.iconst 1, 1) := dt_of DA_X9_net_0 6 rfl
theorem dX9_net_7 : decode cX9_net 7 = .ok (.iaload, 1) := dt_of DA_X9_net_0 7 rfl
theorem dX9_net_8 : decode cX9_net 8 = .ok (.if_icmp .ge 27, 3) := dt_of DA_X9_net_0 8 rfl
theorem dX9_net_11 : decode cX9_net 11 = .ok (.iload_n 2, 1) := dt_of DA_X9_net_0 9 rfl
theorem dX9_net_12 : decode cX9_net 12 = .ok (.aload_n 0, 1) := dt_of DA_X9_net_0 10 rfl
theorem dX9_net_13 : decode cX9_net 13 = .ok (.iload_n 3, 1) := dt_of DA_X9_net_0 11 rfl
theorem dX9_net_14 : decode cX9_net 14 = .ok (.iload_n 1, 1) := dt_of DA_X9_net_0 12 rfl
theorem dX9_net_15 : decode cX9_net 15 = .ok (.invokestatic 133, 3) := dt_of DA_X9_net_0 13 rfl
theorem dX9_net_18 : decode cX9_net 18 = .ok (.iaload, 1) := dt_of DA_X9_net_0 14 rfl
theorem dX9_net_19 : decode cX9_net 19 = .ok (.aload_n 0, 1) := dt_of DA_X9_net_0 15 rfl
theorem dX9_net_20 : decode cX9_net 20 = .ok (.iload_n 1, 1) := dt_of DA_X9_net_0 16 rfl
theorem dX9_net_21 : decode cX9_net 21 = .ok (.iload_n 3, 1) := dt_of DA_X9_net_0 17 rfl
theorem dX9_net_22 : decode cX9_net 22 = .ok (.invokestatic 133, 3) := dt_of DA_X9_net_0 18 rfl
theorem dX9_net_25 : decode cX9_net 25 = .ok (.iaload, 1) := dt_of DA_X9_net_0 19 rfl
theorem dX9_net_26 : decode cX9_net 26 = .ok (.isub, 1) := dt_of DA_X9_net_0 20 rfl
theorem dX9_net_27 : decode cX9_net 27 = .ok (.iadd, 1) := dt_of DA_X9_net_0 21 rfl
theorem dX9_net_28 : decode cX9_net 28 = .ok (.istore_n 2, 1) := dt_of DA_X9_net_0 22 rfl
theorem dX9_net_29 : decode cX9_net 29 = .ok (.iinc 3 1, 3) := dt_of DA_X9_net_0 23 rfl
theorem dX9_net_32 : decode cX9_net 32 = .ok (.goto (-28), 3) := dt_of DA_X9_net_0 24 rfl
theorem dX9_net_35 : decode cX9_net 35 = .ok (.iload_n 2, 1) := dt_of DA_X9_net_0 25 rfl
theorem dX9_net_36 : decode cX9_net 36 = .ok (.ireturn, 1) := dt_of DA_X9_net_0 26 rfl
def DT_X9_allOwe_0 : List (Nat × Instr × Nat) := [(0, .iconst 0, 1), (1, .istore_n 1, 1), (2, .iconst 0, 1), (3, .istore_n 2, 1), (4, .iload_n 2, 1), (5, .bipush 36, 2), (7, .if_icmp .ge 18, 3), (10, .iload_n 1, 1), (11, .aload_n 0, 1), (12, .bipush 27, 2), (14, .iload_n 2, 1), (15, .iadd, 1), (16, .iaload, 1), (17, .iadd, 1), (18, .istore_n 1, 1), (19, .iinc 2 1, 3), (22, .goto (-18), 3), (25, .iload_n 1, 1), (26, .ireturn, 1)]
theorem DA_X9_allOwe_0 : DT_X9_allOwe_0.all (dtf cX9_allOwe) = true := by decide +kernel
theorem dX9_allOwe_0 : decode cX9_allOwe 0 = .ok (.iconst 0, 1) := dt_of DA_X9_allOwe_0 0 rfl
theorem dX9_allOwe_1 : decode cX9_allOwe 1 = .ok (.istore_n 1, 1) := dt_of DA_X9_allOwe_0 1 rfl
theorem dX9_allOwe_2 : decode cX9_allOwe 2 = .ok (.iconst 0, 1) := dt_of DA_X9_allOwe_0 2 rfl
theorem dX9_allOwe_3 : decode cX9_allOwe 3 = .ok (.istore_n 2, 1) := dt_of DA_X9_allOwe_0 3 rfl
theorem dX9_allOwe_4 : decode cX9_allOwe 4 = .ok (.iload_n 2, 1) := dt_of DA_X9_allOwe_0 4 rfl
theorem dX9_allOwe_5 : decode cX9_allOwe 5 = .ok (.bipush 36, 2) := dt_of DA_X9_allOwe_0 5 rfl
theorem dX9_allOwe_7 : decode cX9_allOwe 7 = .ok (.if_icmp .ge 18, 3) := dt_of DA_X9_allOwe_0 6 rfl
theorem dX9_allOwe_10 : decode cX9_allOwe 10 = .ok (.iload_n 1, 1) := dt_of DA_X9_allOwe_0 7 rfl
theorem dX9_allOwe_11 : decode cX9_allOwe 11 = .ok (.aload_n 0, 1) := dt_of DA_X9_allOwe_0 8 rfl
theorem dX9_allOwe_12 : decode cX9_allOwe 12 = .ok (.bipush 27, 2) := dt_of DA_X9_allOwe_0 9 rfl
theorem dX9_allOwe_14 : decode cX9_allOwe 14 = .ok (.iload_n 2, 1) := dt_of DA_X9_allOwe_0 10 rfl
theorem dX9_allOwe_15 : decode cX9_allOwe 15 = .ok (.iadd, 1) := dt_of DA_X9_allOwe_0 11 rfl
theorem dX9_allOwe_16 : decode cX9_allOwe 16 = .ok (.iaload, 1) := dt_of DA_X9_allOwe_0 12 rfl
theorem dX9_allOwe_17 : decode cX9_allOwe 17 = .ok (.iadd, 1) := dt_of DA_X9_allOwe_0 13 rfl
theorem dX9_allOwe_18 : decode cX9_allOwe 18 = .ok (.istore_n 1, 1) := dt_of DA_X9_allOwe_0 14 rfl
theorem dX9_allOwe_19 : decode cX9_allOwe 19 = .ok (.iinc 2 1, 3) := dt_of DA_X9_allOwe_0 15 rfl
theorem dX9_allOwe_22 : decode cX9_allOwe 22 = .ok (.goto (-18), 3) := dt_of DA_X9_allOwe_0 16 rfl
theorem dX9_allOwe_25 : decode cX9_allOwe 25 = .ok (.iload_n 1, 1) := dt_of DA_X9_allOwe_0 17 rfl
theorem dX9_allOwe_26 : decode cX9_allOwe 26 = .ok (.ireturn, 1) := dt_of DA_X9_allOwe_0 18 rfl
def DT_X9_silence_0 : List (Nat × Instr × Nat) := [(0, .iconst 0, 1), (1, .istore_n 1, 1), (2, .iconst 0, 1), (3, .istore_n 2, 1), (4, .iload_n 2, 1), (5, .aload_n 0, 1), (6, .iconst 1, 1), (7, .iaload, 1), (8, .if_icmp .ge 21, 3), (11, .iload_n 1, 1), (12, .aload_n 0, 1), (13, .iconst 3, 1), (14, .iconst 4, 1), (15, .iload_n 2, 1), (16, .imul, 1), (17, .iadd, 1), (18, .iconst 3, 1), (19, .iadd, 1), (20, .iaload, 1), (21, .iadd, 1), (22, .istore_n 1, 1), (23, .iinc 2 1, 3), (26, .goto (-22), 3), (29, .iload_n 1, 1), (30, .ireturn, 1)]
theorem DA_X9_silence_0 : DT_X9_silence_0.all (dtf cX9_silence) = true := by decide +kernel
theorem dX9_silence_0 : decode cX9_silence 0 = .ok (.iconst 0, 1) := dt_of DA_X9_silence_0 0 rfl
theorem dX9_silence_1 : decode cX9_silence 1 = .ok (.istore_n 1, 1) := dt_of DA_X9_silence_0 1 rfl
theorem dX9_silence_2 : decode cX9_silence 2 = .ok (.iconst 0, 1) := dt_of DA_X9_silence_0 2 rfl
theorem dX9_silence_3 : decode cX9_silence 3 = .ok (.istore_n 2, 1) := dt_of DA_X9_silence_0 3 rfl
theorem dX9_silence_4 : decode cX9_silence 4 = .ok (.iload_n 2, 1) := dt_of DA_X9_silence_0 4 rfl
theorem dX9_silence_5 : decode cX9_silence 5 = .ok (.aload_n 0, 1) := dt_of DA_X9_silence_0 5 rfl
theorem dX9_silence_6 : decode cX9_silence 6 = .ok (.iconst 1, 1) := dt_of DA_X9_silence_0 6 rfl
theorem dX9_silence_7 : decode cX9_silence 7 = .ok (.iaload, 1) := dt_of DA_X9_silence_0 7 rfl
theorem dX9_silence_8 : decode cX9_silence 8 = .ok (.if_icmp .ge 21, 3) := dt_of DA_X9_silence_0 8 rfl
theorem dX9_silence_11 : decode cX9_silence 11 = .ok (.iload_n 1, 1) := dt_of DA_X9_silence_0 9 rfl
theorem dX9_silence_12 : decode cX9_silence 12 = .ok (.aload_n 0, 1) := dt_of DA_X9_silence_0 10 rfl
theorem dX9_silence_13 : decode cX9_silence 13 = .ok (.iconst 3, 1) := dt_of DA_X9_silence_0 11 rfl
theorem dX9_silence_14 : decode cX9_silence 14 = .ok (.iconst 4, 1) := dt_of DA_X9_silence_0 12 rfl
theorem dX9_silence_15 : decode cX9_silence 15 = .ok (.iload_n 2, 1) := dt_of DA_X9_silence_0 13 rfl
theorem dX9_silence_16 : decode cX9_silence 16 = .ok (.imul, 1) := dt_of DA_X9_silence_0 14 rfl
theorem dX9_silence_17 : decode cX9_silence 17 = .ok (.iadd, 1) := dt_of DA_X9_silence_0 15 rfl
theorem dX9_silence_18 : decode cX9_silence 18 = .ok (.iconst 3, 1) := dt_of DA_X9_silence_0 16 rfl
theorem dX9_silence_19 : decode cX9_silence 19 = .ok (.iadd, 1) := dt_of DA_X9_silence_0 17 rfl
theorem dX9_silence_20 : decode cX9_silence 20 = .ok (.iaload, 1) := dt_of DA_X9_silence_0 18 rfl
theorem dX9_silence_21 : decode cX9_silence 21 = .ok (.iadd, 1) := dt_of DA_X9_silence_0 19 rfl
theorem dX9_silence_22 : decode cX9_silence 22 = .ok (.istore_n 1, 1) := dt_of DA_X9_silence_0 20 rfl
theorem dX9_silence_23 : decode cX9_silence 23 = .ok (.iinc 2 1, 3) := dt_of DA_X9_silence_0 21 rfl
theorem dX9_silence_26 : decode cX9_silence 26 = .ok (.goto (-22), 3) := dt_of DA_X9_silence_0 22 rfl
theorem dX9_silence_29 : decode cX9_silence 29 = .ok (.iload_n 1, 1) := dt_of DA_X9_silence_0 23 rfl
theorem dX9_silence_30 : decode cX9_silence 30 = .ok (.ireturn, 1) := dt_of DA_X9_silence_0 24 rfl
def DT_X9_notes_0 : List (Nat × Instr × Nat) := [(0, .aload_n 0, 1), (1, .getfield 157, 3), (4, .bipush 24, 2), (6, .if_icmp .ne 43, 3), (9, .iconst 0, 1), (10, .istore_n 1, 1), (11, .iload_n 1, 1), (12, .sipush 1449, 3), (15, .if_icmp .ge 24, 3), (18, .aload_n 0, 1), (19, .getfield 34, 3), (22, .iload_n 1, 1), (23, .aload_n 0, 1), (24, .getfield 34, 3), (27, .iload_n 1, 1), (28, .bipush 63, 2), (30, .iadd, 1), (31, .iaload, 1), (32, .iastore, 1), (33, .iinc 1 1, 3), (36, .goto (-25), 3), (39, .aload_n 0, 1), (40, .dup, 1), (41, .getfield 157, 3), (44, .iconst 1, 1), (45, .isub, 1), (46, .putfield 157, 3), (49, .aload_n 0, 1), (50, .getfield 25, 3), (53, .iconst 0, 1), (54, .aload_n 0, 1), (55, .getfield 34, 3), (58, .bipush 63, 2), (60, .aload_n 0, 1), (61, .getfield 157, 3), (64, .imul, 1), (65, .invokestatic 153, 3), (68, .aload_n 0, 1), (69, .dup, 1), (70, .getfield 157, 3), (73, .iconst 1, 1), (74, .iadd, 1), (75, .putfield 157, 3), (78, .return_, 1)]
theorem DA_X9_notes_0 : DT_X9_notes_0.all (dtf cX9_notes) = true := by decide +kernel
theorem dX9_notes_0 : decode cX9_notes 0 = .ok (.aload_n 0, 1) := dt_of DA_X9_notes_0 0 rfl
theorem dX9_notes_1 : decode cX9_notes 1 = .ok (.getfield 157, 3) := dt_of DA_X9_notes_0 1 rfl
theorem dX9_notes_4 : decode cX9_notes 4 = .ok (.bipush 24, 2) := dt_of DA_X9_notes_0 2 rfl
theorem dX9_notes_6 : decode cX9_notes 6 = .ok (.if_icmp .ne 43, 3) := dt_of DA_X9_notes_0 3 rfl
theorem dX9_notes_9 : decode cX9_notes 9 = .ok (.iconst 0, 1) := dt_of DA_X9_notes_0 4 rfl
theorem dX9_notes_10 : decode cX9_notes 10 = .ok (.istore_n 1, 1) := dt_of DA_X9_notes_0 5 rfl
theorem dX9_notes_11 : decode cX9_notes 11 = .ok (.iload_n 1, 1) := dt_of DA_X9_notes_0 6 rfl
theorem dX9_notes_12 : decode cX9_notes 12 = .ok (.sipush 1449, 3) := dt_of DA_X9_notes_0 7 rfl
theorem dX9_notes_15 : decode cX9_notes 15 = .ok (.if_icmp .ge 24, 3) := dt_of DA_X9_notes_0 8 rfl
theorem dX9_notes_18 : decode cX9_notes 18 = .ok (.aload_n 0, 1) := dt_of DA_X9_notes_0 9 rfl
theorem dX9_notes_19 : decode cX9_notes 19 = .ok (.getfield 34, 3) := dt_of DA_X9_notes_0 10 rfl
theorem dX9_notes_22 : decode cX9_notes 22 = .ok (.iload_n 1, 1) := dt_of DA_X9_notes_0 11 rfl
theorem dX9_notes_23 : decode cX9_notes 23 = .ok (.aload_n 0, 1) := dt_of DA_X9_notes_0 12 rfl
theorem dX9_notes_24 : decode cX9_notes 24 = .ok (.getfield 34, 3) := dt_of DA_X9_notes_0 13 rfl
theorem dX9_notes_27 : decode cX9_notes 27 = .ok (.iload_n 1, 1) := dt_of DA_X9_notes_0 14 rfl
theorem dX9_notes_28 : decode cX9_notes 28 = .ok (.bipush 63, 2) := dt_of DA_X9_notes_0 15 rfl
theorem dX9_notes_30 : decode cX9_notes 30 = .ok (.iadd, 1) := dt_of DA_X9_notes_0 16 rfl
theorem dX9_notes_31 : decode cX9_notes 31 = .ok (.iaload, 1) := dt_of DA_X9_notes_0 17 rfl
theorem dX9_notes_32 : decode cX9_notes 32 = .ok (.iastore, 1) := dt_of DA_X9_notes_0 18 rfl
theorem dX9_notes_33 : decode cX9_notes 33 = .ok (.iinc 1 1, 3) := dt_of DA_X9_notes_0 19 rfl
theorem dX9_notes_36 : decode cX9_notes 36 = .ok (.goto (-25), 3) := dt_of DA_X9_notes_0 20 rfl
theorem dX9_notes_39 : decode cX9_notes 39 = .ok (.aload_n 0, 1) := dt_of DA_X9_notes_0 21 rfl
theorem dX9_notes_40 : decode cX9_notes 40 = .ok (.dup, 1) := dt_of DA_X9_notes_0 22 rfl
theorem dX9_notes_41 : decode cX9_notes 41 = .ok (.getfield 157, 3) := dt_of DA_X9_notes_0 23 rfl
theorem dX9_notes_44 : decode cX9_notes 44 = .ok (.iconst 1, 1) := dt_of DA_X9_notes_0 24 rfl
theorem dX9_notes_45 : decode cX9_notes 45 = .ok (.isub, 1) := dt_of DA_X9_notes_0 25 rfl
theorem dX9_notes_46 : decode cX9_notes 46 = .ok (.putfield 157, 3) := dt_of DA_X9_notes_0 26 rfl
theorem dX9_notes_49 : decode cX9_notes 49 = .ok (.aload_n 0, 1) := dt_of DA_X9_notes_0 27 rfl
theorem dX9_notes_50 : decode cX9_notes 50 = .ok (.getfield 25, 3) := dt_of DA_X9_notes_0 28 rfl
theorem dX9_notes_53 : decode cX9_notes 53 = .ok (.iconst 0, 1) := dt_of DA_X9_notes_0 29 rfl
theorem dX9_notes_54 : decode cX9_notes 54 = .ok (.aload_n 0, 1) := dt_of DA_X9_notes_0 30 rfl
theorem dX9_notes_55 : decode cX9_notes 55 = .ok (.getfield 34, 3) := dt_of DA_X9_notes_0 31 rfl
theorem dX9_notes_58 : decode cX9_notes 58 = .ok (.bipush 63, 2) := dt_of DA_X9_notes_0 32 rfl
theorem dX9_notes_60 : decode cX9_notes 60 = .ok (.aload_n 0, 1) := dt_of DA_X9_notes_0 33 rfl
theorem dX9_notes_61 : decode cX9_notes 61 = .ok (.getfield 157, 3) := dt_of DA_X9_notes_0 34 rfl
theorem dX9_notes_64 : decode cX9_notes 64 = .ok (.imul, 1) := dt_of DA_X9_notes_0 35 rfl
theorem dX9_notes_65 : decode cX9_notes 65 = .ok (.invokestatic 153, 3) := dt_of DA_X9_notes_0 36 rfl
theorem dX9_notes_68 : decode cX9_notes 68 = .ok (.aload_n 0, 1) := dt_of DA_X9_notes_0 37 rfl
theorem dX9_notes_69 : decode cX9_notes 69 = .ok (.dup, 1) := dt_of DA_X9_notes_0 38 rfl
theorem dX9_notes_70 : decode cX9_notes 70 = .ok (.getfield 157, 3) := dt_of DA_X9_notes_0 39 rfl
theorem dX9_notes_73 : decode cX9_notes 73 = .ok (.iconst 1, 1) := dt_of DA_X9_notes_0 40 rfl
theorem dX9_notes_74 : decode cX9_notes 74 = .ok (.iadd, 1) := dt_of DA_X9_notes_0 41 rfl
theorem dX9_notes_75 : decode cX9_notes 75 = .ok (.putfield 157, 3) := dt_of DA_X9_notes_0 42 rfl
theorem dX9_notes_78 : decode cX9_notes 78 = .ok (.return_, 1) := dt_of DA_X9_notes_0 43 rfl
def DT_X9_days_0 : List (Nat × Instr × Nat) := [(0, .aload_n 0, 1), (1, .invokevirtual 191, 3), (4, .ifCond .ne 6, 3), (7, .ldc 194, 2), (9, .ireturn, 1), (10, .iload_n 1, 1), (11, .iconst 1, 1), (12, .bipush 24, 2), (14, .invokestatic 62, 3), (17, .ifCond .ne 6, 3), (20, .ldc 70, 2), (22, .ireturn, 1), (23, .aload_n 0, 1), (24, .getfield 25, 3), (27, .iconst 2, 1), (28, .iaload, 1), (29, .iload_n 1, 1), (30, .iadd, 1), (31, .sipush 999, 3), (34, .if_icmp .le 6, 3), (37, .ldc 91, 2), (39, .ireturn, 1), (40, .iconst 0, 1), (41, .istore_n 2, 1), (42, .iload_n 2, 1), (43, .iload_n 1, 1), (44, .if_icmp .ge 21, 3), (47, .aload_n 0, 1), (48, .invokevirtual 195, 3), (51, .aload_n 0, 1), (52, .aload_n 0, 1), (53, .getfield 25, 3), (56, .invokevirtual 198, 3), (59, .iinc 2 1, 3), (62, .goto (-20), 3), (65, .aload_n 0, 1), (66, .getfield 25, 3), (69, .invokestatic 202, 3), (72, .ireturn, 1)]
theorem DA_X9_days_0 : DT_X9_days_0.all (dtf cX9_days) = true := by decide +kernel
theorem dX9_days_0 : decode cX9_days 0 = .ok (.aload_n 0, 1) := dt_of DA_X9_days_0 0 rfl
theorem dX9_days_1 : decode cX9_days 1 = .ok (.invokevirtual 191, 3) := dt_of DA_X9_days_0 1 rfl
theorem dX9_days_4 : decode cX9_days 4 = .ok (.ifCond .ne 6, 3) := dt_of DA_X9_days_0 2 rfl
theorem dX9_days_7 : decode cX9_days 7 = .ok (.ldc 194, 2) := dt_of DA_X9_days_0 3 rfl
theorem dX9_days_9 : decode cX9_days 9 = .ok (.ireturn, 1) := dt_of DA_X9_days_0 4 rfl
theorem dX9_days_10 : decode cX9_days 10 = .ok (.iload_n 1, 1) := dt_of DA_X9_days_0 5 rfl
theorem dX9_days_11 : decode cX9_days 11 = .ok (.iconst 1, 1) := dt_of DA_X9_days_0 6 rfl
theorem dX9_days_12 : decode cX9_days 12 = .ok (.bipush 24, 2) := dt_of DA_X9_days_0 7 rfl
theorem dX9_days_14 : decode cX9_days 14 = .ok (.invokestatic 62, 3) := dt_of DA_X9_days_0 8 rfl
theorem dX9_days_17 : decode cX9_days 17 = .ok (.ifCond .ne 6, 3) := dt_of DA_X9_days_0 9 rfl
theorem dX9_days_20 : decode cX9_days 20 = .ok (.ldc 70, 2) := dt_of DA_X9_days_0 10 rfl
theorem dX9_days_22 : decode cX9_days 22 = .ok (.ireturn, 1) := dt_of DA_X9_days_0 11 rfl
theorem dX9_days_23 : decode cX9_days 23 = .ok (.aload_n 0, 1) := dt_of DA_X9_days_0 12 rfl
theorem dX9_days_24 : decode cX9_days 24 = .ok (.getfield 25, 3) := dt_of DA_X9_days_0 13 rfl
theorem dX9_days_27 : decode cX9_days 27 = .ok (.iconst 2, 1) := dt_of DA_X9_days_0 14 rfl
theorem dX9_days_28 : decode cX9_days 28 = .ok (.iaload, 1) := dt_of DA_X9_days_0 15 rfl
theorem dX9_days_29 : decode cX9_days 29 = .ok (.iload_n 1, 1) := dt_of DA_X9_days_0 16 rfl
theorem dX9_days_30 : decode cX9_days 30 = .ok (.iadd, 1) := dt_of DA_X9_days_0 17 rfl
theorem dX9_days_31 : decode cX9_days 31 = .ok (.sipush 999, 3) := dt_of DA_X9_days_0 18 rfl
theorem dX9_days_34 : decode cX9_days 34 = .ok (.if_icmp .le 6, 3) := dt_of DA_X9_days_0 19 rfl
theorem dX9_days_37 : decode cX9_days 37 = .ok (.ldc 91, 2) := dt_of DA_X9_days_0 20 rfl
theorem dX9_days_39 : decode cX9_days 39 = .ok (.ireturn, 1) := dt_of DA_X9_days_0 21 rfl
theorem dX9_days_40 : decode cX9_days 40 = .ok (.iconst 0, 1) := dt_of DA_X9_days_0 22 rfl
theorem dX9_days_41 : decode cX9_days 41 = .ok (.istore_n 2, 1) := dt_of DA_X9_days_0 23 rfl
theorem dX9_days_42 : decode cX9_days 42 = .ok (.iload_n 2, 1) := dt_of DA_X9_days_0 24 rfl
theorem dX9_days_43 : decode cX9_days 43 = .ok (.iload_n 1, 1) := dt_of DA_X9_days_0 25 rfl
theorem dX9_days_44 : decode cX9_days 44 = .ok (.if_icmp .ge 21, 3) := dt_of DA_X9_days_0 26 rfl
theorem dX9_days_47 : decode cX9_days 47 = .ok (.aload_n 0, 1) := dt_of DA_X9_days_0 27 rfl
theorem dX9_days_48 : decode cX9_days 48 = .ok (.invokevirtual 195, 3) := dt_of DA_X9_days_0 28 rfl
theorem dX9_days_51 : decode cX9_days 51 = .ok (.aload_n 0, 1) := dt_of DA_X9_days_0 29 rfl
theorem dX9_days_52 : decode cX9_days 52 = .ok (.aload_n 0, 1) := dt_of DA_X9_days_0 30 rfl
theorem dX9_days_53 : decode cX9_days 53 = .ok (.getfield 25, 3) := dt_of DA_X9_days_0 31 rfl
theorem dX9_days_56 : decode cX9_days 56 = .ok (.invokevirtual 198, 3) := dt_of DA_X9_days_0 32 rfl
theorem dX9_days_59 : decode cX9_days 59 = .ok (.iinc 2 1, 3) := dt_of DA_X9_days_0 33 rfl
theorem dX9_days_62 : decode cX9_days 62 = .ok (.goto (-20), 3) := dt_of DA_X9_days_0 34 rfl
theorem dX9_days_65 : decode cX9_days 65 = .ok (.aload_n 0, 1) := dt_of DA_X9_days_0 35 rfl
theorem dX9_days_66 : decode cX9_days 66 = .ok (.getfield 25, 3) := dt_of DA_X9_days_0 36 rfl
theorem dX9_days_69 : decode cX9_days 69 = .ok (.invokestatic 202, 3) := dt_of DA_X9_days_0 37 rfl
theorem dX9_days_72 : decode cX9_days 72 = .ok (.ireturn, 1) := dt_of DA_X9_days_0 38 rfl
def DT_X9_lend_0 : List (Nat × Instr × Nat) := [(0, .aload_n 0, 1), (1, .iload_n 1, 1), (2, .iload_n 2, 1), (3, .invokevirtual 206, 3), (6, .ifCond .eq 13, 3), (9, .iload_n 3, 1), (10, .iconst 1, 1), (11, .bipush 9, 2), (13, .invokestatic 62, 3), (16, .ifCond .ne 6, 3), (19, .ldc 70, 2), (21, .ireturn, 1), (22, .aload_n 0, 1), (23, .invokevirtual 195, 3), (26, .aload_n 0, 1), (27, .getfield 25, 3), (30, .iload_n 1, 1), (31, .iload_n 2, 1), (32, .aload_n 0, 1), (33, .getfield 25, 3), (36, .iconst 3, 1), (37, .iconst 4, 1), (38, .iload_n 2, 1), (39, .imul, 1), (40, .iadd, 1), (41, .iaload, 1), (42, .iload_n 3, 1), (43, .invokestatic 173, 3), (46, .invokestatic 176, 3), (49, .aload_n 0, 1), (50, .getfield 25, 3), (53, .iload_n 1, 1), (54, .iload_n 2, 1), (55, .invokestatic 133, 3), (58, .iaload, 1), (59, .ireturn, 1)]
theorem DA_X9_lend_0 : DT_X9_lend_0.all (dtf cX9_lend) = true := by decide +kernel
theorem dX9_lend_0 : decode cX9_lend 0 = .ok (.aload_n 0, 1) := dt_of DA_X9_lend_0 0 rfl
theorem dX9_lend_1 : decode cX9_lend 1 = .ok (.iload_n 1, 1) := dt_of DA_X9_lend_0 1 rfl
theorem dX9_lend_2 : decode cX9_lend 2 = .ok (.iload_n 2, 1) := dt_of DA_X9_lend_0 2 rfl
theorem dX9_lend_3 : decode cX9_lend 3 = .ok (.invokevirtual 206, 3) := dt_of DA_X9_lend_0 3 rfl
theorem dX9_lend_6 : decode cX9_lend 6 = .ok (.ifCond .eq 13, 3) := dt_of DA_X9_lend_0 4 rfl
theorem dX9_lend_9 : decode cX9_lend 9 = .ok (.iload_n 3, 1) := dt_of DA_X9_lend_0 5 rfl
theorem dX9_lend_10 : decode cX9_lend 10 = .ok (.iconst 1, 1) := dt_of DA_X9_lend_0 6 rfl
theorem dX9_lend_11 : decode cX9_lend 11 = .ok (.bipush 9, 2) := dt_of DA_X9_lend_0 7 rfl
theorem dX9_lend_13 : decode cX9_lend 13 = .ok (.invokestatic 62, 3) := dt_of DA_X9_lend_0 8 rfl
theorem dX9_lend_16 : decode cX9_lend 16 = .ok (.ifCond .ne 6, 3) := dt_of DA_X9_lend_0 9 rfl
theorem dX9_lend_19 : decode cX9_lend 19 = .ok (.ldc 70, 2) := dt_of DA_X9_lend_0 10 rfl
theorem dX9_lend_21 : decode cX9_lend 21 = .ok (.ireturn, 1) := dt_of DA_X9_lend_0 11 rfl
theorem dX9_lend_22 : decode cX9_lend 22 = .ok (.aload_n 0, 1) := dt_of DA_X9_lend_0 12 rfl
theorem dX9_lend_23 : decode cX9_lend 23 = .ok (.invokevirtual 195, 3) := dt_of DA_X9_lend_0 13 rfl
theorem dX9_lend_26 : decode cX9_lend 26 = .ok (.aload_n 0, 1) := dt_of DA_X9_lend_0 14 rfl
theorem dX9_lend_27 : decode cX9_lend 27 = .ok (.getfield 25, 3) := dt_of DA_X9_lend_0 15 rfl
theorem dX9_lend_30 : decode cX9_lend 30 = .ok (.iload_n 1, 1) := dt_of DA_X9_lend_0 16 rfl
theorem dX9_lend_31 : decode cX9_lend 31 = .ok (.iload_n 2, 1) := dt_of DA_X9_lend_0 17 rfl
theorem dX9_lend_32 : decode cX9_lend 32 = .ok (.aload_n 0, 1) := dt_of DA_X9_lend_0 18 rfl
theorem dX9_lend_33 : decode cX9_lend 33 = .ok (.getfield 25, 3) := dt_of DA_X9_lend_0 19 rfl
theorem dX9_lend_36 : decode cX9_lend 36 = .ok (.iconst 3, 1) := dt_of DA_X9_lend_0 20 rfl
theorem dX9_lend_37 : decode cX9_lend 37 = .ok (.iconst 4, 1) := dt_of DA_X9_lend_0 21 rfl
theorem dX9_lend_38 : decode cX9_lend 38 = .ok (.iload_n 2, 1) := dt_of DA_X9_lend_0 22 rfl
theorem dX9_lend_39 : decode cX9_lend 39 = .ok (.imul, 1) := dt_of DA_X9_lend_0 23 rfl
theorem dX9_lend_40 : decode cX9_lend 40 = .ok (.iadd, 1) := dt_of DA_X9_lend_0 24 rfl
theorem dX9_lend_41 : decode cX9_lend 41 = .ok (.iaload, 1) := dt_of DA_X9_lend_0 25 rfl
theorem dX9_lend_42 : decode cX9_lend 42 = .ok (.iload_n 3, 1) := dt_of DA_X9_lend_0 26 rfl
theorem dX9_lend_43 : decode cX9_lend 43 = .ok (.invokestatic 173, 3) := dt_of DA_X9_lend_0 27 rfl
theorem dX9_lend_46 : decode cX9_lend 46 = .ok (.invokestatic 176, 3) := dt_of DA_X9_lend_0 28 rfl
theorem dX9_lend_49 : decode cX9_lend 49 = .ok (.aload_n 0, 1) := dt_of DA_X9_lend_0 29 rfl
theorem dX9_lend_50 : decode cX9_lend 50 = .ok (.getfield 25, 3) := dt_of DA_X9_lend_0 30 rfl
theorem dX9_lend_53 : decode cX9_lend 53 = .ok (.iload_n 1, 1) := dt_of DA_X9_lend_0 31 rfl
theorem dX9_lend_54 : decode cX9_lend 54 = .ok (.iload_n 2, 1) := dt_of DA_X9_lend_0 32 rfl
theorem dX9_lend_55 : decode cX9_lend 55 = .ok (.invokestatic 133, 3) := dt_of DA_X9_lend_0 33 rfl
theorem dX9_lend_58 : decode cX9_lend 58 = .ok (.iaload, 1) := dt_of DA_X9_lend_0 34 rfl
theorem dX9_lend_59 : decode cX9_lend 59 = .ok (.ireturn, 1) := dt_of DA_X9_lend_0 35 rfl
