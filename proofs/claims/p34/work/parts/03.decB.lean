def DT_X8_init_0 : List (Nat × Instr × Nat) := [(0, .aload_n 0, 1), (1, .invokespecial 1, 3), (4, .aload_n 0, 1), (5, .new 7, 3), (8, .dup, 1), (9, .invokespecial 9, 3), (12, .putfield 10, 3), (15, .aload_n 0, 1), (16, .new 16, 3), (19, .dup, 1), (20, .invokespecial 18, 3), (23, .putfield 19, 3), (26, .aload_n 0, 1), (27, .new 23, 3), (30, .dup, 1), (31, .invokespecial 25, 3), (34, .putfield 26, 3), (37, .aload_n 0, 1), (38, .new 23, 3), (41, .dup, 1), (42, .invokespecial 25, 3), (45, .putfield 30, 3), (48, .aload_n 0, 1), (49, .new 33, 3), (52, .dup, 1), (53, .invokespecial 35, 3), (56, .putfield 36, 3), (59, .aload_n 0, 1), (60, .new 40, 3), (63, .dup, 1), (64, .invokespecial 42, 3), (67, .putfield 43, 3), (70, .aload_n 0, 1), (71, .iconst 2, 1), (72, .anewarray 23, 3), (75, .putfield 47, 3), (78, .aload_n 0, 1), (79, .iconst 2, 1), (80, .newarray .boolean, 2), (82, .putfield 51, 3), (85, .aload_n 0, 1), (86, .new 55, 3), (89, .dup, 1), (90, .aload_n 0, 1), (91, .getfield 26, 3), (94, .aload_n 0, 1), (95, .getfield 36, 3), (98, .invokespecial 57, 3), (101, .putfield 60, 3), (104, .aload_n 0, 1), (105, .new 64, 3), (108, .dup, 1), (109, .invokespecial 66, 3), (112, .putfield 67, 3), (115, .aload_n 0, 1), (116, .new 71, 3), (119, .dup, 1), (120, .aload_n 0, 1), (121, .getfield 26, 3), (124, .invokespecial 73, 3), (127, .putfield 76, 3), (130, .iconst 0, 1), (131, .istore_n 1, 1), (132, .iload_n 1, 1), (133, .iconst 2, 1), (134, .if_icmp .ge 22, 3), (137, .aload_n 0, 1), (138, .getfield 47, 3), (141, .iload_n 1, 1), (142, .new 23, 3), (145, .dup, 1), (146, .invokespecial 25, 3), (149, .aastore, 1), (150, .iinc 1 1, 3), (153, .goto (-21), 3), (156, .return_, 1)]
theorem DA_X8_init_0 : DT_X8_init_0.all (dtf cX8_init) = true := by decide +kernel
theorem dX8_init_0 : decode cX8_init 0 = .ok (.aload_n 0, 1) := dt_of DA_X8_init_0 0 rfl
theorem dX8_init_1 : decode cX8_init 1 = .ok (.invokespecial 1, 3) := dt_of DA_X8_init_0 1 rfl
theorem dX8_init_4 : decode cX8_init 4 = .ok (.aload_n 0, 1) := dt_of DA_X8_init_0 2 rfl
theorem dX8_init_5 : decode cX8_init 5 = .ok (.new 7, 3) := dt_of DA_X8_init_0 3 rfl
theorem dX8_init_8 : decode cX8_init 8 = .ok (.dup, 1) := dt_of DA_X8_init_0 4 rfl
theorem dX8_init_9 : decode cX8_init 9 = .ok (.invokespecial 9, 3) := dt_of DA_X8_init_0 5 rfl
theorem dX8_init_12 : decode cX8_init 12 = .ok (.putfield 10, 3) := dt_of DA_X8_init_0 6 rfl
theorem dX8_init_15 : decode cX8_init 15 = .ok (.aload_n 0, 1) := dt_of DA_X8_init_0 7 rfl
theorem dX8_init_16 : decode cX8_init 16 = .ok (.new 16, 3) := dt_of DA_X8_init_0 8 rfl
theorem dX8_init_19 : decode cX8_init 19 = .ok (.dup, 1) := dt_of DA_X8_init_0 9 rfl
theorem dX8_init_20 : decode cX8_init 20 = .ok (.invokespecial 18, 3) := dt_of DA_X8_init_0 10 rfl
theorem dX8_init_23 : decode cX8_init 23 = .ok (.putfield 19, 3) := dt_of DA_X8_init_0 11 rfl
theorem dX8_init_26 : decode cX8_init 26 = .ok (.aload_n 0, 1) := dt_of DA_X8_init_0 12 rfl
theorem dX8_init_27 : decode cX8_init 27 = .ok (.new 23, 3) := dt_of DA_X8_init_0 13 rfl
theorem dX8_init_30 : decode cX8_init 30 = .ok (.dup, 1) := dt_of DA_X8_init_0 14 rfl
theorem dX8_init_31 : decode cX8_init 31 = .ok (.invokespecial 25, 3) := dt_of DA_X8_init_0 15 rfl
theorem dX8_init_34 : decode cX8_init 34 = .ok (.putfield 26, 3) := dt_of DA_X8_init_0 16 rfl
theorem dX8_init_37 : decode cX8_init 37 = .ok (.aload_n 0, 1) := dt_of DA_X8_init_0 17 rfl
theorem dX8_init_38 : decode cX8_init 38 = .ok (.new 23, 3) := dt_of DA_X8_init_0 18 rfl
theorem dX8_init_41 : decode cX8_init 41 = .ok (.dup, 1) := dt_of DA_X8_init_0 19 rfl
theorem dX8_init_42 : decode cX8_init 42 = .ok (.invokespecial 25, 3) := dt_of DA_X8_init_0 20 rfl
theorem dX8_init_45 : decode cX8_init 45 = .ok (.putfield 30, 3) := dt_of DA_X8_init_0 21 rfl
theorem dX8_init_48 : decode cX8_init 48 = .ok (.aload_n 0, 1) := dt_of DA_X8_init_0 22 rfl
theorem dX8_init_49 : decode cX8_init 49 = .ok (.new 33, 3) := dt_of DA_X8_init_0 23 rfl
theorem dX8_init_52 : decode cX8_init 52 = .ok (.dup, 1) := dt_of DA_X8_init_0 24 rfl
theorem dX8_init_53 : decode cX8_init 53 = .ok (.invokespecial 35, 3) := dt_of DA_X8_init_0 25 rfl
theorem dX8_init_56 : decode cX8_init 56 = .ok (.putfield 36, 3) := dt_of DA_X8_init_0 26 rfl
theorem dX8_init_59 : decode cX8_init 59 = .ok (.aload_n 0, 1) := dt_of DA_X8_init_0 27 rfl
theorem dX8_init_60 : decode cX8_init 60 = .ok (.new 40, 3) := dt_of DA_X8_init_0 28 rfl
theorem dX8_init_63 : decode cX8_init 63 = .ok (.dup, 1) := dt_of DA_X8_init_0 29 rfl
theorem dX8_init_64 : decode cX8_init 64 = .ok (.invokespecial 42, 3) := dt_of DA_X8_init_0 30 rfl
theorem dX8_init_67 : decode cX8_init 67 = .ok (.putfield 43, 3) := dt_of DA_X8_init_0 31 rfl
theorem dX8_init_70 : decode cX8_init 70 = .ok (.aload_n 0, 1) := dt_of DA_X8_init_0 32 rfl
theorem dX8_init_71 : decode cX8_init 71 = .ok (.iconst 2, 1) := dt_of DA_X8_init_0 33 rfl
theorem dX8_init_72 : decode cX8_init 72 = .ok (.anewarray 23, 3) := dt_of DA_X8_init_0 34 rfl
theorem dX8_init_75 : decode cX8_init 75 = .ok (.putfield 47, 3) := dt_of DA_X8_init_0 35 rfl
theorem dX8_init_78 : decode cX8_init 78 = .ok (.aload_n 0, 1) := dt_of DA_X8_init_0 36 rfl
theorem dX8_init_79 : decode cX8_init 79 = .ok (.iconst 2, 1) := dt_of DA_X8_init_0 37 rfl
theorem dX8_init_80 : decode cX8_init 80 = .ok (.newarray .boolean, 2) := dt_of DA_X8_init_0 38 rfl
theorem dX8_init_82 : decode cX8_init 82 = .ok (.putfield 51, 3) := dt_of DA_X8_init_0 39 rfl
theorem dX8_init_85 : decode cX8_init 85 = .ok (.aload_n 0, 1) := dt_of DA_X8_init_0 40 rfl
theorem dX8_init_86 : decode cX8_init 86 = .ok (.new 55, 3) := dt_of DA_X8_init_0 41 rfl
theorem dX8_init_89 : decode cX8_init 89 = .ok (.dup, 1) := dt_of DA_X8_init_0 42 rfl
theorem dX8_init_90 : decode cX8_init 90 = .ok (.aload_n 0, 1) := dt_of DA_X8_init_0 43 rfl
theorem dX8_init_91 : decode cX8_init 91 = .ok (.getfield 26, 3) := dt_of DA_X8_init_0 44 rfl
theorem dX8_init_94 : decode cX8_init 94 = .ok (.aload_n 0, 1) := dt_of DA_X8_init_0 45 rfl
theorem dX8_init_95 : decode cX8_init 95 = .ok (.getfield 36, 3) := dt_of DA_X8_init_0 46 rfl
theorem dX8_init_98 : decode cX8_init 98 = .ok (.invokespecial 57, 3) := dt_of DA_X8_init_0 47 rfl
theorem dX8_init_101 : decode cX8_init 101 = .ok (.putfield 60, 3) := dt_of DA_X8_init_0 48 rfl
theorem dX8_init_104 : decode cX8_init 104 = .ok (.aload_n 0, 1) := dt_of DA_X8_init_0 49 rfl
theorem dX8_init_105 : decode cX8_init 105 = .ok (.new 64, 3) := dt_of DA_X8_init_0 50 rfl
theorem dX8_init_108 : decode cX8_init 108 = .ok (.dup, 1) := dt_of DA_X8_init_0 51 rfl
theorem dX8_init_109 : decode cX8_init 109 = .ok (.invokespecial 66, 3) := dt_of DA_X8_init_0 52 rfl
theorem dX8_init_112 : decode cX8_init 112 = .ok (.putfield 67, 3) := dt_of DA_X8_init_0 53 rfl
theorem dX8_init_115 : decode cX8_init 115 = .ok (.aload_n 0, 1) := dt_of DA_X8_init_0 54 rfl
theorem dX8_init_116 : decode cX8_init 116 = .ok (.new 71, 3) := dt_of DA_X8_init_0 55 rfl
theorem dX8_init_119 : decode cX8_init 119 = .ok (.dup, 1) := dt_of DA_X8_init_0 56 rfl
theorem dX8_init_120 : decode cX8_init 120 = .ok (.aload_n 0, 1) := dt_of DA_X8_init_0 57 rfl
theorem dX8_init_121 : decode cX8_init 121 = .ok (.getfield 26, 3) := dt_of DA_X8_init_0 58 rfl
theorem dX8_init_124 : decode cX8_init 124 = .ok (.invokespecial 73, 3) := dt_of DA_X8_init_0 59 rfl
theorem dX8_init_127 : decode cX8_init 127 = .ok (.putfield 76, 3) := dt_of DA_X8_init_0 60 rfl
theorem dX8_init_130 : decode cX8_init 130 = .ok (.iconst 0, 1) := dt_of DA_X8_init_0 61 rfl
theorem dX8_init_131 : decode cX8_init 131 = .ok (.istore_n 1, 1) := dt_of DA_X8_init_0 62 rfl
theorem dX8_init_132 : decode cX8_init 132 = .ok (.iload_n 1, 1) := dt_of DA_X8_init_0 63 rfl
theorem dX8_init_133 : decode cX8_init 133 = .ok (.iconst 2, 1) := dt_of DA_X8_init_0 64 rfl
theorem dX8_init_134 : decode cX8_init 134 = .ok (.if_icmp .ge 22, 3) := dt_of DA_X8_init_0 65 rfl
theorem dX8_init_137 : decode cX8_init 137 = .ok (.aload_n 0, 1) := dt_of DA_X8_init_0 66 rfl
theorem dX8_init_138 : decode cX8_init 138 = .ok (.getfield 47, 3) := dt_of DA_X8_init_0 67 rfl
theorem dX8_init_141 : decode cX8_init 141 = .ok (.iload_n 1, 1) := dt_of DA_X8_init_0 68 rfl
theorem dX8_init_142 : decode cX8_init 142 = .ok (.new 23, 3) := dt_of DA_X8_init_0 69 rfl
theorem dX8_init_145 : decode cX8_init 145 = .ok (.dup, 1) := dt_of DA_X8_init_0 70 rfl
theorem dX8_init_146 : decode cX8_init 146 = .ok (.invokespecial 25, 3) := dt_of DA_X8_init_0 71 rfl
theorem dX8_init_149 : decode cX8_init 149 = .ok (.aastore, 1) := dt_of DA_X8_init_0 72 rfl
theorem dX8_init_150 : decode cX8_init 150 = .ok (.iinc 1 1, 3) := dt_of DA_X8_init_0 73 rfl
theorem dX8_init_153 : decode cX8_init 153 = .ok (.goto (-21), 3) := dt_of DA_X8_init_0 74 rfl
theorem dX8_init_156 : decode cX8_init 156 = .ok (.return_, 1) := dt_of DA_X8_init_0 75 rfl
def DT_X8_row_0 : List (Nat × Instr × Nat) := [(0, .iload_n 1, 1), (1, .invokestatic 80, 3), (4, .ifCond .eq 18, 3), (7, .iload_n 2, 1), (8, .iconst 0, 1), (9, .iconst 2, 1), (10, .invokestatic 84, 3), (13, .ifCond .eq 9, 3), (16, .iload_n 3, 1), (17, .bipush 40, 2), (19, .if_icmp .le 6, 3), (22, .ldc 88, 2), (24, .ireturn, 1), (25, .iload_n 3, 1), (26, .ifCond .ge 9, 3), (29, .aload_n 0, 1), (30, .iconst 4, 1), (31, .invokevirtual 89, 3), (34, .ireturn, 1), (35, .aload_n 0, 1), (36, .getfield 10, 3), (39, .iload_n 1, 1), (40, .iload_n 2, 1), (41, .iload_n 3, 1), (42, .invokevirtual 93, 3), (45, .aload_n 0, 1), (46, .iload_n 3, 1), (47, .invokevirtual 97, 3), (50, .ireturn, 1)]
theorem DA_X8_row_0 : DT_X8_row_0.all (dtf cX8_row) = true := by decide +kernel
theorem dX8_row_0 : decode cX8_row 0 = .ok (.iload_n 1, 1) := dt_of DA_X8_row_0 0 rfl
theorem dX8_row_1 : decode cX8_row 1 = .ok (.invokestatic 80, 3) := dt_of DA_X8_row_0 1 rfl
theorem dX8_row_4 : decode cX8_row 4 = .ok (.ifCond .eq 18, 3) := dt_of DA_X8_row_0 2 rfl
theorem dX8_row_7 : decode cX8_row 7 = .ok (.iload_n 2, 1) := dt_of DA_X8_row_0 3 rfl
theorem dX8_row_8 : decode cX8_row 8 = .ok (.iconst 0, 1) := dt_of DA_X8_row_0 4 rfl
theorem dX8_row_9 : decode cX8_row 9 = .ok (.iconst 2, 1) := dt_of DA_X8_row_0 5 rfl
theorem dX8_row_10 : decode cX8_row 10 = .ok (.invokestatic 84, 3) := dt_of DA_X8_row_0 6 rfl
theorem dX8_row_13 : decode cX8_row 13 = .ok (.ifCond .eq 9, 3) := dt_of DA_X8_row_0 7 rfl
theorem dX8_row_16 : decode cX8_row 16 = .ok (.iload_n 3, 1) := dt_of DA_X8_row_0 8 rfl
theorem dX8_row_17 : decode cX8_row 17 = .ok (.bipush 40, 2) := dt_of DA_X8_row_0 9 rfl
theorem dX8_row_19 : decode cX8_row 19 = .ok (.if_icmp .le 6, 3) := dt_of DA_X8_row_0 10 rfl
theorem dX8_row_22 : decode cX8_row 22 = .ok (.ldc 88, 2) := dt_of DA_X8_row_0 11 rfl
theorem dX8_row_24 : decode cX8_row 24 = .ok (.ireturn, 1) := dt_of DA_X8_row_0 12 rfl
theorem dX8_row_25 : decode cX8_row 25 = .ok (.iload_n 3, 1) := dt_of DA_X8_row_0 13 rfl
theorem dX8_row_26 : decode cX8_row 26 = .ok (.ifCond .ge 9, 3) := dt_of DA_X8_row_0 14 rfl
theorem dX8_row_29 : decode cX8_row 29 = .ok (.aload_n 0, 1) := dt_of DA_X8_row_0 15 rfl
theorem dX8_row_30 : decode cX8_row 30 = .ok (.iconst 4, 1) := dt_of DA_X8_row_0 16 rfl
theorem dX8_row_31 : decode cX8_row 31 = .ok (.invokevirtual 89, 3) := dt_of DA_X8_row_0 17 rfl
theorem dX8_row_34 : decode cX8_row 34 = .ok (.ireturn, 1) := dt_of DA_X8_row_0 18 rfl
theorem dX8_row_35 : decode cX8_row 35 = .ok (.aload_n 0, 1) := dt_of DA_X8_row_0 19 rfl
theorem dX8_row_36 : decode cX8_row 36 = .ok (.getfield 10, 3) := dt_of DA_X8_row_0 20 rfl
theorem dX8_row_39 : decode cX8_row 39 = .ok (.iload_n 1, 1) := dt_of DA_X8_row_0 21 rfl
theorem dX8_row_40 : decode cX8_row 40 = .ok (.iload_n 2, 1) := dt_of DA_X8_row_0 22 rfl
theorem dX8_row_41 : decode cX8_row 41 = .ok (.iload_n 3, 1) := dt_of DA_X8_row_0 23 rfl
theorem dX8_row_42 : decode cX8_row 42 = .ok (.invokevirtual 93, 3) := dt_of DA_X8_row_0 24 rfl
theorem dX8_row_45 : decode cX8_row 45 = .ok (.aload_n 0, 1) := dt_of DA_X8_row_0 25 rfl
theorem dX8_row_46 : decode cX8_row 46 = .ok (.iload_n 3, 1) := dt_of DA_X8_row_0 26 rfl
theorem dX8_row_47 : decode cX8_row 47 = .ok (.invokevirtual 97, 3) := dt_of DA_X8_row_0 27 rfl
theorem dX8_row_50 : decode cX8_row 50 = .ok (.ireturn, 1) := dt_of DA_X8_row_0 28 rfl
def DT_X8_set_0 : List (Nat × Instr × Nat) := [(0, .iload_n 1, 1), (1, .invokestatic 80, 3), (4, .ifCond .ne 6, 3), (7, .ldc 88, 2), (9, .ireturn, 1), (10, .aload_n 0, 1), (11, .getfield 10, 3), (14, .getfield 100, 3), (17, .iload_n 1, 1), (18, .baload, 1), (19, .ifCond .ne 9, 3), (22, .aload_n 0, 1), (23, .iconst 1, 1), (24, .invokevirtual 89, 3), (27, .ireturn, 1), (28, .aload_n 0, 1), (29, .getfield 10, 3), (32, .iload_n 1, 1), (33, .iload_n 2, 1), (34, .iconst 1, 1), (35, .invokevirtual 103, 3), (38, .ifCond .ne 9, 3), (41, .aload_n 0, 1), (42, .iconst 2, 1), (43, .invokevirtual 89, 3), (46, .ireturn, 1), (47, .aload_n 0, 1), (48, .aload_n 0, 1), (49, .getfield 10, 3), (52, .iload_n 1, 1), (53, .iload_n 2, 1), (54, .iload_n 3, 1), (55, .invokevirtual 106, 3), (58, .invokevirtual 97, 3), (61, .ireturn, 1)]
theorem DA_X8_set_0 : DT_X8_set_0.all (dtf cX8_set) = true := by decide +kernel
theorem dX8_set_0 : decode cX8_set 0 = .ok (.iload_n 1, 1) := dt_of DA_X8_set_0 0 rfl
theorem dX8_set_1 : decode cX8_set 1 = .ok (.invokestatic 80, 3) := dt_of DA_X8_set_0 1 rfl
theorem dX8_set_4 : decode cX8_set 4 = .ok (.ifCond .ne 6, 3) := dt_of DA_X8_set_0 2 rfl
theorem dX8_set_7 : decode cX8_set 7 = .ok (.ldc 88, 2) := dt_of DA_X8_set_0 3 rfl
theorem dX8_set_9 : decode cX8_set 9 = .ok (.ireturn, 1) := dt_of DA_X8_set_0 4 rfl
theorem dX8_set_10 : decode cX8_set 10 = .ok (.aload_n 0, 1) := dt_of DA_X8_set_0 5 rfl
theorem dX8_set_11 : decode cX8_set 11 = .ok (.getfield 10, 3) := dt_of DA_X8_set_0 6 rfl
theorem dX8_set_14 : decode cX8_set 14 = .ok (.getfield 100, 3) := dt_of DA_X8_set_0 7 rfl
theorem dX8_set_17 : decode cX8_set 17 = .ok (.iload_n 1, 1) := dt_of DA_X8_set_0 8 rfl
theorem dX8_set_18 : decode cX8_set 18 = .ok (.baload, 1) := dt_of DA_X8_set_0 9 rfl
theorem dX8_set_19 : decode cX8_set 19 = .ok (.ifCond .ne 9, 3) := dt_of DA_X8_set_0 10 rfl
theorem dX8_set_22 : decode cX8_set 22 = .ok (.aload_n 0, 1) := dt_of DA_X8_set_0 11 rfl
theorem dX8_set_23 : decode cX8_set 23 = .ok (.iconst 1, 1) := dt_of DA_X8_set_0 12 rfl
theorem dX8_set_24 : decode cX8_set 24 = .ok (.invokevirtual 89, 3) := dt_of DA_X8_set_0 13 rfl
theorem dX8_set_27 : decode cX8_set 27 = .ok (.ireturn, 1) := dt_of DA_X8_set_0 14 rfl
theorem dX8_set_28 : decode cX8_set 28 = .ok (.aload_n 0, 1) := dt_of DA_X8_set_0 15 rfl
theorem dX8_set_29 : decode cX8_set 29 = .ok (.getfield 10, 3) := dt_of DA_X8_set_0 16 rfl
theorem dX8_set_32 : decode cX8_set 32 = .ok (.iload_n 1, 1) := dt_of DA_X8_set_0 17 rfl
theorem dX8_set_33 : decode cX8_set 33 = .ok (.iload_n 2, 1) := dt_of DA_X8_set_0 18 rfl
theorem dX8_set_34 : decode cX8_set 34 = .ok (.iconst 1, 1) := dt_of DA_X8_set_0 19 rfl
theorem dX8_set_35 : decode cX8_set 35 = .ok (.invokevirtual 103, 3) := dt_of DA_X8_set_0 20 rfl
theorem dX8_set_38 : decode cX8_set 38 = .ok (.ifCond .ne 9, 3) := dt_of DA_X8_set_0 21 rfl
theorem dX8_set_41 : decode cX8_set 41 = .ok (.aload_n 0, 1) := dt_of DA_X8_set_0 22 rfl
theorem dX8_set_42 : decode cX8_set 42 = .ok (.iconst 2, 1) := dt_of DA_X8_set_0 23 rfl
theorem dX8_set_43 : decode cX8_set 43 = .ok (.invokevirtual 89, 3) := dt_of DA_X8_set_0 24 rfl
theorem dX8_set_46 : decode cX8_set 46 = .ok (.ireturn, 1) := dt_of DA_X8_set_0 25 rfl
theorem dX8_set_47 : decode cX8_set 47 = .ok (.aload_n 0, 1) := dt_of DA_X8_set_0 26 rfl
theorem dX8_set_48 : decode cX8_set 48 = .ok (.aload_n 0, 1) := dt_of DA_X8_set_0 27 rfl
theorem dX8_set_49 : decode cX8_set 49 = .ok (.getfield 10, 3) := dt_of DA_X8_set_0 28 rfl
theorem dX8_set_52 : decode cX8_set 52 = .ok (.iload_n 1, 1) := dt_of DA_X8_set_0 29 rfl
theorem dX8_set_53 : decode cX8_set 53 = .ok (.iload_n 2, 1) := dt_of DA_X8_set_0 30 rfl
theorem dX8_set_54 : decode cX8_set 54 = .ok (.iload_n 3, 1) := dt_of DA_X8_set_0 31 rfl
theorem dX8_set_55 : decode cX8_set 55 = .ok (.invokevirtual 106, 3) := dt_of DA_X8_set_0 32 rfl
theorem dX8_set_58 : decode cX8_set 58 = .ok (.invokevirtual 97, 3) := dt_of DA_X8_set_0 33 rfl
theorem dX8_set_61 : decode cX8_set 61 = .ok (.ireturn, 1) := dt_of DA_X8_set_0 34 rfl
def DT_X8_copy_0 : List (Nat × Instr × Nat) := [(0, .iload_n 1, 1), (1, .invokestatic 80, 3), (4, .ifCond .eq 10, 3), (7, .iload_n 3, 1), (8, .invokestatic 80, 3), (11, .ifCond .ne 6, 3), (14, .ldc 88, 2), (16, .ireturn, 1), (17, .aload_n 0, 1), (18, .getfield 10, 3), (21, .getfield 100, 3), (24, .iload_n 1, 1), (25, .baload, 1), (26, .ifCond .eq 15, 3), (29, .aload_n 0, 1), (30, .getfield 10, 3), (33, .getfield 100, 3), (36, .iload_n 3, 1), (37, .baload, 1), (38, .ifCond .ne 9, 3), (41, .aload_n 0, 1), (42, .iconst 1, 1), (43, .invokevirtual 89, 3), (46, .ireturn, 1), (47, .aload_n 0, 1), (48, .getfield 10, 3), (51, .getfield 110, 3), (54, .iload_n 1, 1), (55, .iaload, 1), (56, .aload_n 0, 1), (57, .getfield 10, 3), (60, .getfield 110, 3), (63, .iload_n 3, 1), (64, .iaload, 1), (65, .if_icmp .eq 9, 3), (68, .aload_n 0, 1), (69, .iconst 5, 1), (70, .invokevirtual 89, 3), (73, .ireturn, 1), (74, .aload_n 0, 1), (75, .getfield 10, 3), (78, .iload_n 1, 1), (79, .iload_n 2, 1), (80, .iload 5, 2), (82, .invokevirtual 103, 3), (85, .ifCond .eq 18, 3), (88, .aload_n 0, 1), (89, .getfield 10, 3), (92, .iload_n 3, 1), (93, .iload 4, 2), (95, .iload 5, 2), (97, .invokevirtual 103, 3), (100, .ifCond .ne 9, 3), (103, .aload_n 0, 1), (104, .iconst 2, 1), (105, .invokevirtual 89, 3), (108, .ireturn, 1), (109, .aload_n 0, 1), (110, .getfield 10, 3), (113, .getfield 114, 3), (116, .iload_n 1, 1), (117, .aaload, 1), (118, .iload_n 2, 1), (119, .aload_n 0, 1), (120, .getfield 10, 3), (123, .getfield 114, 3), (126, .iload_n 3, 1), (127, .aaload, 1), (128, .iload 4, 2), (130, .iload 5, 2), (132, .invokestatic 118, 3), (135, .aload_n 0, 1), (136, .iload 5, 2), (138, .invokevirtual 97, 3), (141, .ireturn, 1)]
theorem DA_X8_copy_0 : DT_X8_copy_0.all (dtf cX8_copy) = true := by decide +kernel
theorem dX8_copy_0 : decode cX8_copy 0 = .ok (.iload_n 1, 1) := dt_of DA_X8_copy_0 0 rfl
theorem dX8_copy_1 : decode cX8_copy 1 = .ok (.invokestatic 80, 3) := dt_of DA_X8_copy_0 1 rfl
theorem dX8_copy_4 : decode cX8_copy 4 = .ok (.ifCond .eq 10, 3) := dt_of DA_X8_copy_0 2 rfl
theorem dX8_copy_7 : decode cX8_copy 7 = .ok (.iload_n 3, 1) := dt_of DA_X8_copy_0 3 rfl
theorem dX8_copy_8 : decode cX8_copy 8 = .ok (.invokestatic 80, 3) := dt_of DA_X8_copy_0 4 rfl
theorem dX8_copy_11 : decode cX8_copy 11 = .ok (.ifCond .ne 6, 3) := dt_of DA_X8_copy_0 5 rfl
theorem dX8_copy_14 : decode cX8_copy 14 = .ok (.ldc 88, 2) := dt_of DA_X8_copy_0 6 rfl
theorem dX8_copy_16 : decode cX8_copy 16 = .ok (.ireturn, 1) := dt_of DA_X8_copy_0 7 rfl
theorem dX8_copy_17 : decode cX8_copy 17 = .ok (.aload_n 0, 1) := dt_of DA_X8_copy_0 8 rfl
theorem dX8_copy_18 : decode cX8_copy 18 = .ok (.getfield 10, 3) := dt_of DA_X8_copy_0 9 rfl
theorem dX8_copy_21 : decode cX8_copy 21 = .ok (.getfield 100, 3) := dt_of DA_X8_copy_0 10 rfl
theorem dX8_copy_24 : decode cX8_copy 24 = .ok (.iload_n 1, 1) := dt_of DA_X8_copy_0 11 rfl
theorem dX8_copy_25 : decode cX8_copy 25 = .ok (.baload, 1) := dt_of DA_X8_copy_0 12 rfl
theorem dX8_copy_26 : decode cX8_copy 26 = .ok (.ifCond .eq 15, 3) := dt_of DA_X8_copy_0 13 rfl
theorem dX8_copy_29 : decode cX8_copy 29 = .ok (.aload_n 0, 1) := dt_of DA_X8_copy_0 14 rfl
theorem dX8_copy_30 : decode cX8_copy 30 = .ok (.getfield 10, 3) := dt_of DA_X8_copy_0 15 rfl
theorem dX8_copy_33 : decode cX8_copy 33 = .ok (.getfield 100, 3) := dt_of DA_X8_copy_0 16 rfl
theorem dX8_copy_36 : decode cX8_copy 36 = .ok (.iload_n 3, 1) := dt_of DA_X8_copy_0 17 rfl
theorem dX8_copy_37 : decode cX8_copy 37 = .ok (.baload, 1) := dt_of DA_X8_copy_0 18 rfl
theorem dX8_copy_38 : decode cX8_copy 38 = .ok (.ifCond .ne 9, 3) := dt_of DA_X8_copy_0 19 rfl
theorem dX8_copy_41 : decode cX8_copy 41 = .ok (.aload_n 0, 1) := dt_of DA_X8_copy_0 20 rfl
theorem dX8_copy_42 : decode cX8_copy 42 = .ok (.iconst 1, 1) := dt_of DA_X8_copy_0 21 rfl
theorem dX8_copy_43 : decode cX8_copy 43 = .ok (.invokevirtual 89, 3) := dt_of DA_X8_copy_0 22 rfl
theorem dX8_copy_46 : decode cX8_copy 46 = .ok (.ireturn, 1) := dt_of DA_X8_copy_0 23 rfl
theorem dX8_copy_47 : decode cX8_copy 47 = .ok (.aload_n 0, 1) := dt_of DA_X8_copy_0 24 rfl
theorem dX8_copy_48 : decode cX8_copy 48 = .ok (.getfield 10, 3) := dt_of DA_X8_copy_0 25 rfl
theorem dX8_copy_51 : decode cX8_copy 51 = .ok (.getfield 110, 3) := dt_of DA_X8_copy_0 26 rfl
theorem dX8_copy_54 : decode cX8_copy 54 = .ok (.iload_n 1, 1) := dt_of DA_X8_copy_0 27 rfl
theorem dX8_copy_55 : decode cX8_copy 55 = .ok (.iaload, 1) := dt_of DA_X8_copy_0 28 rfl
theorem dX8_copy_56 : decode cX8_copy 56 = .ok (.aload_n 0, 1) := dt_of DA_X8_copy_0 29 rfl
theorem dX8_copy_57 : decode cX8_copy 57 = .ok (.getfield 10, 3) := dt_of DA_X8_copy_0 30 rfl
theorem dX8_copy_60 : decode cX8_copy 60 = .ok (.getfield 110, 3) := dt_of DA_X8_copy_0 31 rfl
theorem dX8_copy_63 : decode cX8_copy 63 = .ok (.iload_n 3, 1) := dt_of DA_X8_copy_0 32 rfl
theorem dX8_copy_64 : decode cX8_copy 64 = .ok (.iaload, 1) := dt_of DA_X8_copy_0 33 rfl
theorem dX8_copy_65 : decode cX8_copy 65 = .ok (.if_icmp .eq 9, 3) := dt_of DA_X8_copy_0 34 rfl
theorem dX8_copy_68 : decode cX8_copy 68 = .ok (.aload_n 0, 1) := dt_of DA_X8_copy_0 35 rfl
theorem dX8_copy_69 : decode cX8_copy 69 = .ok (.iconst 5, 1) := dt_of DA_X8_copy_0 36 rfl
theorem dX8_copy_70 : decode cX8_copy 70 = .ok (.invokevirtual 89, 3) := dt_of DA_X8_copy_0 37 rfl
theorem dX8_copy_73 : decode cX8_copy 73 = .ok (.ireturn, 1) := dt_of DA_X8_copy_0 38 rfl
theorem dX8_copy_74 : decode cX8_copy 74 = .ok (.aload_n 0, 1) := dt_of DA_X8_copy_0 39 rfl
theorem dX8_copy_75 : decode cX8_copy 75 = .ok (.getfield 10, 3) := dt_of DA_X8_copy_0 40 rfl
theorem dX8_copy_78 : decode cX8_copy 78 = .ok (.iload_n 1, 1) := dt_of DA_X8_copy_0 41 rfl
theorem dX8_copy_79 : decode cX8_copy 79 = .ok (.iload_n 2, 1) := dt_of DA_X8_copy_0 42 rfl
theorem dX8_copy_80 : decode cX8_copy 80 = .ok (.iload 5, 2) := dt_of DA_X8_copy_0 43 rfl
theorem dX8_copy_82 : decode cX8_copy 82 = .ok (.invokevirtual 103, 3) := dt_of DA_X8_copy_0 44 rfl
theorem dX8_copy_85 : decode cX8_copy 85 = .ok (.ifCond .eq 18, 3) := dt_of DA_X8_copy_0 45 rfl
theorem dX8_copy_88 : decode cX8_copy 88 = .ok (.aload_n 0, 1) := dt_of DA_X8_copy_0 46 rfl
theorem dX8_copy_89 : decode cX8_copy 89 = .ok (.getfield 10, 3) := dt_of DA_X8_copy_0 47 rfl
theorem dX8_copy_92 : decode cX8_copy 92 = .ok (.iload_n 3, 1) := dt_of DA_X8_copy_0 48 rfl
theorem dX8_copy_93 : decode cX8_copy 93 = .ok (.iload 4, 2) := dt_of DA_X8_copy_0 49 rfl
theorem dX8_copy_95 : decode cX8_copy 95 = .ok (.iload 5, 2) := dt_of DA_X8_copy_0 50 rfl
theorem dX8_copy_97 : decode cX8_copy 97 = .ok (.invokevirtual 103, 3) := dt_of DA_X8_copy_0 51 rfl
theorem dX8_copy_100 : decode cX8_copy 100 = .ok (.ifCond .ne 9, 3) := dt_of DA_X8_copy_0 52 rfl
theorem dX8_copy_103 : decode cX8_copy 103 = .ok (.aload_n 0, 1) := dt_of DA_X8_copy_0 53 rfl
theorem dX8_copy_104 : decode cX8_copy 104 = .ok (.iconst 2, 1) := dt_of DA_X8_copy_0 54 rfl
theorem dX8_copy_105 : decode cX8_copy 105 = .ok (.invokevirtual 89, 3) := dt_of DA_X8_copy_0 55 rfl
theorem dX8_copy_108 : decode cX8_copy 108 = .ok (.ireturn, 1) := dt_of DA_X8_copy_0 56 rfl
theorem dX8_copy_109 : decode cX8_copy 109 = .ok (.aload_n 0, 1) := dt_of DA_X8_copy_0 57 rfl
theorem dX8_copy_110 : decode cX8_copy 110 = .ok (.getfield 10, 3) := dt_of DA_X8_copy_0 58 rfl
theorem dX8_copy_113 : decode cX8_copy 113 = .ok (.getfield 114, 3) := dt_of DA_X8_copy_0 59 rfl
theorem dX8_copy_116 : decode cX8_copy 116 = .ok (.iload_n 1, 1) := dt_of DA_X8_copy_0 60 rfl
theorem dX8_copy_117 : decode cX8_copy 117 = .ok (.aaload, 1) := dt_of DA_X8_copy_0 61 rfl
theorem dX8_copy_118 : decode cX8_copy 118 = .ok (.iload_n 2, 1) := dt_of DA_X8_copy_0 62 rfl
theorem dX8_copy_119 : decode cX8_copy 119 = .ok (.aload_n 0, 1) := dt_of DA_X8_copy_0 63 rfl
theorem dX8_copy_120 : decode cX8_copy 120 = .ok (.getfield 10, 3) := dt_of DA_X8_copy_0 64 rfl
theorem dX8_copy_123 : decode cX8_copy 123 = .ok (.getfield 114, 3) := dt_of DA_X8_copy_0 65 rfl
theorem dX8_copy_126 : decode cX8_copy 126 = .ok (.iload_n 3, 1) := dt_of DA_X8_copy_0 66 rfl
theorem dX8_copy_127 : decode cX8_copy 127 = .ok (.aaload, 1) := dt_of DA_X8_copy_0 67 rfl
theorem dX8_copy_128 : decode cX8_copy 128 = .ok (.iload 4, 2) := dt_of DA_X8_copy_0 68 rfl
theorem dX8_copy_130 : decode cX8_copy 130 = .ok (.iload 5, 2) := dt_of DA_X8_copy_0 69 rfl
theorem dX8_copy_132 : decode cX8_copy 132 = .ok (.invokestatic 118, 3) := dt_of DA_X8_copy_0 70 rfl
theorem dX8_copy_135 : decode cX8_copy 135 = .ok (.aload_n 0, 1) := dt_of DA_X8_copy_0 71 rfl
theorem dX8_copy_136 : decode cX8_copy 136 = .ok (.iload 5, 2) := dt_of DA_X8_copy_0 72 rfl
theorem dX8_copy_138 : decode cX8_copy 138 = .ok (.invokevirtual 97, 3) := dt_of DA_X8_copy_0 73 rfl
theorem dX8_copy_141 : decode cX8_copy 141 = .ok (.ireturn, 1) := dt_of DA_X8_copy_0 74 rfl
def DT_X8_drop_0 : List (Nat × Instr × Nat) := [(0, .iload_n 1, 1), (1, .invokestatic 80, 3), (4, .ifCond .ne 6, 3), (7, .ldc 88, 2), (9, .ireturn, 1), (10, .aload_n 0, 1), (11, .getfield 10, 3), (14, .getfield 100, 3), (17, .iload_n 1, 1), (18, .baload, 1), (19, .ifCond .ne 9, 3), (22, .aload_n 0, 1), (23, .iconst 1, 1), (24, .invokevirtual 89, 3), (27, .ireturn, 1), (28, .aload_n 0, 1), (29, .getfield 10, 3), (32, .getfield 100, 3), (35, .iload_n 1, 1), (36, .iconst 0, 1), (37, .bastore, 1), (38, .aload_n 0, 1), (39, .aload_n 0, 1), (40, .getfield 10, 3), (43, .getfield 124, 3), (46, .iload_n 1, 1), (47, .iaload, 1), (48, .invokevirtual 97, 3), (51, .ireturn, 1)]
theorem DA_X8_drop_0 : DT_X8_drop_0.all (dtf cX8_drop) = true := by decide +kernel
theorem dX8_drop_0 : decode cX8_drop 0 = .ok (.iload_n 1, 1) := dt_of DA_X8_drop_0 0 rfl
theorem dX8_drop_1 : decode cX8_drop 1 = .ok (.invokestatic 80, 3) := dt_of DA_X8_drop_0 1 rfl
theorem dX8_drop_4 : decode cX8_drop 4 = .ok (.ifCond .ne 6, 3) := dt_of DA_X8_drop_0 2 rfl
theorem dX8_drop_7 : decode cX8_drop 7 = .ok (.ldc 88, 2) := dt_of DA_X8_drop_0 3 rfl
theorem dX8_drop_9 : decode cX8_drop 9 = .ok (.ireturn, 1) := dt_of DA_X8_drop_0 4 rfl
theorem dX8_drop_10 : decode cX8_drop 10 = .ok (.aload_n 0, 1) := dt_of DA_X8_drop_0 5 rfl
theorem dX8_drop_11 : decode cX8_drop 11 = .ok (.getfield 10, 3) := dt_of DA_X8_drop_0 6 rfl
theorem dX8_drop_14 : decode cX8_drop 14 = .ok (.getfield 100, 3) := dt_of DA_X8_drop_0 7 rfl
theorem dX8_drop_17 : decode cX8_drop 17 = .ok (.iload_n 1, 1) := dt_of DA_X8_drop_0 8 rfl
theorem dX8_drop_18 : decode cX8_drop 18 = .ok (.baload, 1) := dt_of DA_X8_drop_0 9 rfl
theorem dX8_drop_19 : decode cX8_drop 19 = .ok (.ifCond .ne 9, 3) := dt_of DA_X8_drop_0 10 rfl
theorem dX8_drop_22 : decode cX8_drop 22 = .ok (.aload_n 0, 1) := dt_of DA_X8_drop_0 11 rfl
theorem dX8_drop_23 : decode cX8_drop 23 = .ok (.iconst 1, 1) := dt_of DA_X8_drop_0 12 rfl
theorem dX8_drop_24 : decode cX8_drop 24 = .ok (.invokevirtual 89, 3) := dt_of DA_X8_drop_0 13 rfl
theorem dX8_drop_27 : decode cX8_drop 27 = .ok (.ireturn, 1) := dt_of DA_X8_drop_0 14 rfl
theorem dX8_drop_28 : decode cX8_drop 28 = .ok (.aload_n 0, 1) := dt_of DA_X8_drop_0 15 rfl
theorem dX8_drop_29 : decode cX8_drop 29 = .ok (.getfield 10, 3) := dt_of DA_X8_drop_0 16 rfl
theorem dX8_drop_32 : decode cX8_drop 32 = .ok (.getfield 100, 3) := dt_of DA_X8_drop_0 17 rfl
theorem dX8_drop_35 : decode cX8_drop 35 = .ok (.iload_n 1, 1) := dt_of DA_X8_drop_0 18 rfl
theorem dX8_drop_36 : decode cX8_drop 36 = .ok (.iconst 0, 1) := dt_of DA_X8_drop_0 19 rfl
theorem dX8_drop_37 : decode cX8_drop 37 = .ok (.bastore, 1) := dt_of DA_X8_drop_0 20 rfl
theorem dX8_drop_38 : decode cX8_drop 38 = .ok (.aload_n 0, 1) := dt_of DA_X8_drop_0 21 rfl
theorem dX8_drop_39 : decode cX8_drop 39 = .ok (.aload_n 0, 1) := dt_of DA_X8_drop_0 22 rfl
theorem dX8_drop_40 : decode cX8_drop 40 = .ok (.getfield 10, 3) := dt_of DA_X8_drop_0 23 rfl
theorem dX8_drop_43 : decode cX8_drop 43 = .ok (.getfield 124, 3) := dt_of DA_X8_drop_0 24 rfl
theorem dX8_drop_46 : decode cX8_drop 46 = .ok (.iload_n 1, 1) := dt_of DA_X8_drop_0 25 rfl
theorem dX8_drop_47 : decode cX8_drop 47 = .ok (.iaload, 1) := dt_of DA_X8_drop_0 26 rfl
theorem dX8_drop_48 : decode cX8_drop 48 = .ok (.invokevirtual 97, 3) := dt_of DA_X8_drop_0 27 rfl
theorem dX8_drop_51 : decode cX8_drop 51 = .ok (.ireturn, 1) := dt_of DA_X8_drop_0 28 rfl
def DT_X8_feed_0 : List (Nat × Instr × Nat) := [(0, .iload_n 1, 1), (1, .iconst 0, 1), (2, .sipush 255, 3), (5, .invokestatic 84, 3), (8, .ifCond .ne 6, 3), (11, .ldc 88, 2), (13, .ireturn, 1), (14, .aload_n 0, 1), (15, .getfield 19, 3), (18, .iload_n 1, 1), (19, .invokevirtual 127, 3), (22, .ifCond .eq 13, 3), (25, .aload_n 0, 1), (26, .getfield 19, 3), (29, .getfield 130, 3), (32, .goto 5, 3), (35, .ldc 134, 2), (37, .ireturn, 1)]
theorem DA_X8_feed_0 : DT_X8_feed_0.all (dtf cX8_feed) = true := by decide +kernel
theorem dX8_feed_0 : decode cX8_feed 0 = .ok (.iload_n 1, 1) := dt_of DA_X8_feed_0 0 rfl
theorem dX8_feed_1 : decode cX8_feed 1 = .ok (.iconst 0, 1) := dt_of DA_X8_feed_0 1 rfl
theorem dX8_feed_2 : decode cX8_feed 2 = .ok (.sipush 255, 3) := dt_of DA_X8_feed_0 2 rfl
theorem dX8_feed_5 : decode cX8_feed 5 = .ok (.invokestatic 84, 3) := dt_of DA_X8_feed_0 3 rfl
theorem dX8_feed_8 : decode cX8_feed 8 = .ok (.ifCond .ne 6, 3) := dt_of DA_X8_feed_0 4 rfl
theorem dX8_feed_11 : decode cX8_feed 11 = .ok (.ldc 88, 2) := dt_of DA_X8_feed_0 5 rfl
theorem dX8_feed_13 : decode cX8_feed 13 = .ok (.ireturn, 1) := dt_of DA_X8_feed_0 6 rfl
theorem dX8_feed_14 : decode cX8_feed 14 = .ok (.aload_n 0, 1) := dt_of DA_X8_feed_0 7 rfl
theorem dX8_feed_15 : decode cX8_feed 15 = .ok (.getfield 19, 3) := dt_of DA_X8_feed_0 8 rfl
theorem dX8_feed_18 : decode cX8_feed 18 = .ok (.iload_n 1, 1) := dt_of DA_X8_feed_0 9 rfl
theorem dX8_feed_19 : decode cX8_feed 19 = .ok (.invokevirtual 127, 3) := dt_of DA_X8_feed_0 10 rfl
theorem dX8_feed_22 : decode cX8_feed 22 = .ok (.ifCond .eq 13, 3) := dt_of DA_X8_feed_0 11 rfl
theorem dX8_feed_25 : decode cX8_feed 25 = .ok (.aload_n 0, 1) := dt_of DA_X8_feed_0 12 rfl
theorem dX8_feed_26 : decode cX8_feed 26 = .ok (.getfield 19, 3) := dt_of DA_X8_feed_0 13 rfl
theorem dX8_feed_29 : decode cX8_feed 29 = .ok (.getfield 130, 3) := dt_of DA_X8_feed_0 14 rfl
theorem dX8_feed_32 : decode cX8_feed 32 = .ok (.goto 5, 3) := dt_of DA_X8_feed_0 15 rfl
theorem dX8_feed_35 : decode cX8_feed 35 = .ok (.ldc 134, 2) := dt_of DA_X8_feed_0 16 rfl
theorem dX8_feed_37 : decode cX8_feed 37 = .ok (.ireturn, 1) := dt_of DA_X8_feed_0 17 rfl
def DT_X8_valley_0 : List (Nat × Instr × Nat) := [(0, .aload_n 0, 1), (1, .getfield 19, 3), (4, .aload_n 0, 1), (5, .getfield 30, 3), (8, .invokevirtual 135, 3), (11, .ifCond .ne 14, 3), (14, .ldc 139, 2), (16, .aload_n 0, 1), (17, .getfield 19, 3), (20, .getfield 140, 3), (23, .isub, 1), (24, .ireturn, 1), (25, .aload_n 0, 1), (26, .getfield 26, 3), (29, .aload_n 0, 1), (30, .getfield 30, 3), (33, .invokevirtual 143, 3), (36, .aload_n 0, 1), (37, .getfield 43, 3), (40, .invokevirtual 146, 3), (43, .aload_n 0, 1), (44, .getfield 26, 3), (47, .getfield 149, 3), (50, .ireturn, 1)]
theorem DA_X8_valley_0 : DT_X8_valley_0.all (dtf cX8_valley) = true := by decide +kernel
theorem dX8_valley_0 : decode cX8_valley 0 = .ok (.aload_n 0, 1) := dt_of DA_X8_valley_0 0 rfl
theorem dX8_valley_1 : decode cX8_valley 1 = .ok (.getfield 19, 3) := dt_of DA_X8_valley_0 1 rfl
theorem dX8_valley_4 : decode cX8_valley 4 = .ok (.aload_n 0, 1) := dt_of DA_X8_valley_0 2 rfl
theorem dX8_valley_5 : decode cX8_valley 5 = .ok (.getfield 30, 3) := dt_of DA_X8_valley_0 3 rfl
theorem dX8_valley_8 : decode cX8_valley 8 = .ok (.invokevirtual 135, 3) := dt_of DA_X8_valley_0 4 rfl
theorem dX8_valley_11 : decode cX8_valley 11 = .ok (.ifCond .ne 14, 3) := dt_of DA_X8_valley_0 5 rfl
theorem dX8_valley_14 : decode cX8_valley 14 = .ok (.ldc 139, 2) := dt_of DA_X8_valley_0 6 rfl
theorem dX8_valley_16 : decode cX8_valley 16 = .ok (.aload_n 0, 1) := dt_of DA_X8_valley_0 7 rfl
theorem dX8_valley_17 : decode cX8_valley 17 = .ok (.getfield 19, 3) := dt_of DA_X8_valley_0 8 rfl
theorem dX8_valley_20 : decode cX8_valley 20 = .ok (.getfield 140, 3) := dt_of DA_X8_valley_0 9 rfl
theorem dX8_valley_23 : decode cX8_valley 23 = .ok (.isub, 1) := dt_of DA_X8_valley_0 10 rfl
theorem dX8_valley_24 : decode cX8_valley 24 = .ok (.ireturn, 1) := dt_of DA_X8_valley_0 11 rfl
theorem dX8_valley_25 : decode cX8_valley 25 = .ok (.aload_n 0, 1) := dt_of DA_X8_valley_0 12 rfl
theorem dX8_valley_26 : decode cX8_valley 26 = .ok (.getfield 26, 3) := dt_of DA_X8_valley_0 13 rfl
theorem dX8_valley_29 : decode cX8_valley 29 = .ok (.aload_n 0, 1) := dt_of DA_X8_valley_0 14 rfl
theorem dX8_valley_30 : decode cX8_valley 30 = .ok (.getfield 30, 3) := dt_of DA_X8_valley_0 15 rfl
theorem dX8_valley_33 : decode cX8_valley 33 = .ok (.invokevirtual 143, 3) := dt_of DA_X8_valley_0 16 rfl
theorem dX8_valley_36 : decode cX8_valley 36 = .ok (.aload_n 0, 1) := dt_of DA_X8_valley_0 17 rfl
theorem dX8_valley_37 : decode cX8_valley 37 = .ok (.getfield 43, 3) := dt_of DA_X8_valley_0 18 rfl
theorem dX8_valley_40 : decode cX8_valley 40 = .ok (.invokevirtual 146, 3) := dt_of DA_X8_valley_0 19 rfl
theorem dX8_valley_43 : decode cX8_valley 43 = .ok (.aload_n 0, 1) := dt_of DA_X8_valley_0 20 rfl
theorem dX8_valley_44 : decode cX8_valley 44 = .ok (.getfield 26, 3) := dt_of DA_X8_valley_0 21 rfl
theorem dX8_valley_47 : decode cX8_valley 47 = .ok (.getfield 149, 3) := dt_of DA_X8_valley_0 22 rfl
theorem dX8_valley_50 : decode cX8_valley 50 = .ok (.ireturn, 1) := dt_of DA_X8_valley_0 23 rfl
def DT_X8_fault_0 : List (Nat × Instr × Nat) := [(0, .aload_n 0, 1), (1, .getfield 19, 3), (4, .getfield 152, 3), (7, .ireturn, 1)]
theorem DA_X8_fault_0 : DT_X8_fault_0.all (dtf cX8_fault) = true := by decide +kernel
theorem dX8_fault_0 : decode cX8_fault 0 = .ok (.aload_n 0, 1) := dt_of DA_X8_fault_0 0 rfl
theorem dX8_fault_1 : decode cX8_fault 1 = .ok (.getfield 19, 3) := dt_of DA_X8_fault_0 1 rfl
theorem dX8_fault_4 : decode cX8_fault 4 = .ok (.getfield 152, 3) := dt_of DA_X8_fault_0 2 rfl
theorem dX8_fault_7 : decode cX8_fault 7 = .ok (.ireturn, 1) := dt_of DA_X8_fault_0 3 rfl
def DT_X8_days_0 : List (Nat × Instr × Nat) := [(0, .aload_n 0, 1), (1, .invokevirtual 155, 3), (4, .ifCond .eq 6, 3), (7, .ldc 159, 2), (9, .ireturn, 1), (10, .iload_n 1, 1), (11, .iconst 1, 1), (12, .bipush 24, 2), (14, .invokestatic 84, 3), (17, .ifCond .ne 6, 3), (20, .ldc 88, 2), (22, .ireturn, 1), (23, .aload_n 0, 1), (24, .getfield 26, 3), (27, .getfield 160, 3), (30, .iload_n 1, 1), (31, .iadd, 1), (32, .sipush 999, 3), (35, .if_icmp .le 6, 3), (38, .ldc 134, 2), (40, .ireturn, 1), (41, .iconst 0, 1), (42, .istore_n 2, 1), (43, .iload_n 2, 1), (44, .iload_n 1, 1), (45, .if_icmp .ge 32, 3), (48, .aload_n 0, 1), (49, .getfield 43, 3), (52, .aload_n 0, 1), (53, .getfield 26, 3), (56, .invokevirtual 163, 3), (59, .aload_n 0, 1), (60, .getfield 36, 3), (63, .aload_n 0, 1), (64, .getfield 26, 3), (67, .iconst 0, 1), (68, .invokevirtual 166, 3), (71, .iinc 2 1, 3), (74, .goto (-31), 3), (77, .aload_n 0, 1), (78, .getfield 26, 3), (81, .invokevirtual 170, 3), (84, .ireturn, 1)]
theorem DA_X8_days_0 : DT_X8_days_0.all (dtf cX8_days) = true := by decide +kernel
theorem dX8_days_0 : decode cX8_days 0 = .ok (.aload_n 0, 1) := dt_of DA_X8_days_0 0 rfl
theorem dX8_days_1 : decode cX8_days 1 = .ok (.invokevirtual 155, 3) := dt_of DA_X8_days_0 1 rfl
theorem dX8_days_4 : decode cX8_days 4 = .ok (.ifCond .eq 6, 3) := dt_of DA_X8_days_0 2 rfl
theorem dX8_days_7 : decode cX8_days 7 = .ok (.ldc 159, 2) := dt_of DA_X8_days_0 3 rfl
theorem dX8_days_9 : decode cX8_days 9 = .ok (.ireturn, 1) := dt_of DA_X8_days_0 4 rfl
theorem dX8_days_10 : decode cX8_days 10 = .ok (.iload_n 1, 1) := dt_of DA_X8_days_0 5 rfl
theorem dX8_days_11 : decode cX8_days 11 = .ok (.iconst 1, 1) := dt_of DA_X8_days_0 6 rfl
theorem dX8_days_12 : decode cX8_days 12 = .ok (.bipush 24, 2) := dt_of DA_X8_days_0 7 rfl
theorem dX8_days_14 : decode cX8_days 14 = .ok (.invokestatic 84, 3) := dt_of DA_X8_days_0 8 rfl
theorem dX8_days_17 : decode cX8_days 17 = .ok (.ifCond .ne 6, 3) := dt_of DA_X8_days_0 9 rfl
theorem dX8_days_20 : decode cX8_days 20 = .ok (.ldc 88, 2) := dt_of DA_X8_days_0 10 rfl
theorem dX8_days_22 : decode cX8_days 22 = .ok (.ireturn, 1) := dt_of DA_X8_days_0 11 rfl
theorem dX8_days_23 : decode cX8_days 23 = .ok (.aload_n 0, 1) := dt_of DA_X8_days_0 12 rfl
theorem dX8_days_24 : decode cX8_days 24 = .ok (.getfield 26, 3) := dt_of DA_X8_days_0 13 rfl
theorem dX8_days_27 : decode cX8_days 27 = .ok (.getfield 160, 3) := dt_of DA_X8_days_0 14 rfl
theorem dX8_days_30 : decode cX8_days 30 = .ok (.iload_n 1, 1) := dt_of DA_X8_days_0 15 rfl
theorem dX8_days_31 : decode cX8_days 31 = .ok (.iadd, 1) := dt_of DA_X8_days_0 16 rfl
theorem dX8_days_32 : decode cX8_days 32 = .ok (.sipush 999, 3) := dt_of DA_X8_days_0 17 rfl
theorem dX8_days_35 : decode cX8_days 35 = .ok (.if_icmp .le 6, 3) := dt_of DA_X8_days_0 18 rfl
theorem dX8_days_38 : decode cX8_days 38 = .ok (.ldc 134, 2) := dt_of DA_X8_days_0 19 rfl
theorem dX8_days_40 : decode cX8_days 40 = .ok (.ireturn, 1) := dt_of DA_X8_days_0 20 rfl
theorem dX8_days_41 : decode cX8_days 41 = .ok (.iconst 0, 1) := dt_of DA_X8_days_0 21 rfl
theorem dX8_days_42 : decode cX8_days 42 = .ok (.istore_n 2, 1) := dt_of DA_X8_days_0 22 rfl
theorem dX8_days_43 : decode cX8_days 43 = .ok (.iload_n 2, 1) := dt_of DA_X8_days_0 23 rfl
theorem dX8_days_44 : decode cX8_days 44 = .ok (.iload_n 1, 1) := dt_of DA_X8_days_0 24 rfl
theorem dX8_days_45 : decode cX8_days 45 = .ok (.if_icmp .ge 32, 3) := dt_of DA_X8_days_0 25 rfl
theorem dX8_days_48 : decode cX8_days 48 = .ok (.aload_n 0, 1) := dt_of DA_X8_days_0 26 rfl
theorem dX8_days_49 : decode cX8_days 49 = .ok (.getfield 43, 3) := dt_of DA_X8_days_0 27 rfl
theorem dX8_days_52 : decode cX8_days 52 = .ok (.aload_n 0, 1) := dt_of DA_X8_days_0 28 rfl
theorem dX8_days_53 : decode cX8_days 53 = .ok (.getfield 26, 3) := dt_of DA_X8_days_0 29 rfl
theorem dX8_days_56 : decode cX8_days 56 = .ok (.invokevirtual 163, 3) := dt_of DA_X8_days_0 30 rfl
theorem dX8_days_59 : decode cX8_days 59 = .ok (.aload_n 0, 1) := dt_of DA_X8_days_0 31 rfl
theorem dX8_days_60 : decode cX8_days 60 = .ok (.getfield 36, 3) := dt_of DA_X8_days_0 32 rfl
theorem dX8_days_63 : decode cX8_days 63 = .ok (.aload_n 0, 1) := dt_of DA_X8_days_0 33 rfl
theorem dX8_days_64 : decode cX8_days 64 = .ok (.getfield 26, 3) := dt_of DA_X8_days_0 34 rfl
theorem dX8_days_67 : decode cX8_days 67 = .ok (.iconst 0, 1) := dt_of DA_X8_days_0 35 rfl
theorem dX8_days_68 : decode cX8_days 68 = .ok (.invokevirtual 166, 3) := dt_of DA_X8_days_0 36 rfl
theorem dX8_days_71 : decode cX8_days 71 = .ok (.iinc 2 1, 3) := dt_of DA_X8_days_0 37 rfl
theorem dX8_days_74 : decode cX8_days 74 = .ok (.goto (-31), 3) := dt_of DA_X8_days_0 38 rfl
theorem dX8_days_77 : decode cX8_days 77 = .ok (.aload_n 0, 1) := dt_of DA_X8_days_0 39 rfl
theorem dX8_days_78 : decode cX8_days 78 = .ok (.getfield 26, 3) := dt_of DA_X8_days_0 40 rfl
theorem dX8_days_81 : decode cX8_days 81 = .ok (.invokevirtual 170, 3) := dt_of DA_X8_days_0 41 rfl
theorem dX8_days_84 : decode cX8_days 84 = .ok (.ireturn, 1) := dt_of DA_X8_days_0 42 rfl
def DT_X8_lend_0 : List (Nat × Instr × Nat) := [(0, .aload_n 0, 1), (1, .iload_n 1, 1), (2, .iload_n 2, 1), (3, .invokevirtual 174, 3), (6, .ifCond .eq 13, 3), (9, .iload_n 3, 1), (10, .iconst 1, 1), (11, .bipush 9, 2), (13, .invokestatic 84, 3), (16, .ifCond .ne 6, 3), (19, .ldc 88, 2), (21, .ireturn, 1), (22, .aload_n 0, 1), (23, .getfield 43, 3), (26, .aload_n 0, 1), (27, .getfield 26, 3), (30, .invokevirtual 163, 3), (33, .aload_n 0, 1), (34, .getfield 26, 3), (37, .iload_n 1, 1), (38, .iload_n 2, 1), (39, .aload_n 0, 1), (40, .getfield 26, 3), (43, .getfield 178, 3), (46, .iload_n 2, 1), (47, .iaload, 1), (48, .iload_n 3, 1), (49, .invokestatic 181, 3), (52, .invokevirtual 185, 3), (55, .aload_n 0, 1), (56, .getfield 26, 3), (59, .iload_n 1, 1), (60, .iload_n 2, 1), (61, .invokevirtual 188, 3), (64, .ireturn, 1)]
theorem DA_X8_lend_0 : DT_X8_lend_0.all (dtf cX8_lend) = true := by decide +kernel
theorem dX8_lend_0 : decode cX8_lend 0 = .ok (.aload_n 0, 1) := dt_of DA_X8_lend_0 0 rfl
theorem dX8_lend_1 : decode cX8_lend 1 = .ok (.iload_n 1, 1) := dt_of DA_X8_lend_0 1 rfl
theorem dX8_lend_2 : decode cX8_lend 2 = .ok (.iload_n 2, 1) := dt_of DA_X8_lend_0 2 rfl
theorem dX8_lend_3 : decode cX8_lend 3 = .ok (.invokevirtual 174, 3) := dt_of DA_X8_lend_0 3 rfl
theorem dX8_lend_6 : decode cX8_lend 6 = .ok (.ifCond .eq 13, 3) := dt_of DA_X8_lend_0 4 rfl
theorem dX8_lend_9 : decode cX8_lend 9 = .ok (.iload_n 3, 1) := dt_of DA_X8_lend_0 5 rfl
theorem dX8_lend_10 : decode cX8_lend 10 = .ok (.iconst 1, 1) := dt_of DA_X8_lend_0 6 rfl
theorem dX8_lend_11 : decode cX8_lend 11 = .ok (.bipush 9, 2) := dt_of DA_X8_lend_0 7 rfl
theorem dX8_lend_13 : decode cX8_lend 13 = .ok (.invokestatic 84, 3) := dt_of DA_X8_lend_0 8 rfl
theorem dX8_lend_16 : decode cX8_lend 16 = .ok (.ifCond .ne 6, 3) := dt_of DA_X8_lend_0 9 rfl
theorem dX8_lend_19 : decode cX8_lend 19 = .ok (.ldc 88, 2) := dt_of DA_X8_lend_0 10 rfl
theorem dX8_lend_21 : decode cX8_lend 21 = .ok (.ireturn, 1) := dt_of DA_X8_lend_0 11 rfl
theorem dX8_lend_22 : decode cX8_lend 22 = .ok (.aload_n 0, 1) := dt_of DA_X8_lend_0 12 rfl
theorem dX8_lend_23 : decode cX8_lend 23 = .ok (.getfield 43, 3) := dt_of DA_X8_lend_0 13 rfl
theorem dX8_lend_26 : decode cX8_lend 26 = .ok (.aload_n 0, 1) := dt_of DA_X8_lend_0 14 rfl
theorem dX8_lend_27 : decode cX8_lend 27 = .ok (.getfield 26, 3) := dt_of DA_X8_lend_0 15 rfl
theorem dX8_lend_30 : decode cX8_lend 30 = .ok (.invokevirtual 163, 3) := dt_of DA_X8_lend_0 16 rfl
theorem dX8_lend_33 : decode cX8_lend 33 = .ok (.aload_n 0, 1) := dt_of DA_X8_lend_0 17 rfl
theorem dX8_lend_34 : decode cX8_lend 34 = .ok (.getfield 26, 3) := dt_of DA_X8_lend_0 18 rfl
theorem dX8_lend_37 : decode cX8_lend 37 = .ok (.iload_n 1, 1) := dt_of DA_X8_lend_0 19 rfl
theorem dX8_lend_38 : decode cX8_lend 38 = .ok (.iload_n 2, 1) := dt_of DA_X8_lend_0 20 rfl
theorem dX8_lend_39 : decode cX8_lend 39 = .ok (.aload_n 0, 1) := dt_of DA_X8_lend_0 21 rfl
theorem dX8_lend_40 : decode cX8_lend 40 = .ok (.getfield 26, 3) := dt_of DA_X8_lend_0 22 rfl
theorem dX8_lend_43 : decode cX8_lend 43 = .ok (.getfield 178, 3) := dt_of DA_X8_lend_0 23 rfl
theorem dX8_lend_46 : decode cX8_lend 46 = .ok (.iload_n 2, 1) := dt_of DA_X8_lend_0 24 rfl
theorem dX8_lend_47 : decode cX8_lend 47 = .ok (.iaload, 1) := dt_of DA_X8_lend_0 25 rfl
theorem dX8_lend_48 : decode cX8_lend 48 = .ok (.iload_n 3, 1) := dt_of DA_X8_lend_0 26 rfl
theorem dX8_lend_49 : decode cX8_lend 49 = .ok (.invokestatic 181, 3) := dt_of DA_X8_lend_0 27 rfl
theorem dX8_lend_52 : decode cX8_lend 52 = .ok (.invokevirtual 185, 3) := dt_of DA_X8_lend_0 28 rfl
theorem dX8_lend_55 : decode cX8_lend 55 = .ok (.aload_n 0, 1) := dt_of DA_X8_lend_0 29 rfl
theorem dX8_lend_56 : decode cX8_lend 56 = .ok (.getfield 26, 3) := dt_of DA_X8_lend_0 30 rfl
theorem dX8_lend_59 : decode cX8_lend 59 = .ok (.iload_n 1, 1) := dt_of DA_X8_lend_0 31 rfl
theorem dX8_lend_60 : decode cX8_lend 60 = .ok (.iload_n 2, 1) := dt_of DA_X8_lend_0 32 rfl
theorem dX8_lend_61 : decode cX8_lend 61 = .ok (.invokevirtual 188, 3) := dt_of DA_X8_lend_0 33 rfl
theorem dX8_lend_64 : decode cX8_lend 64 = .ok (.ireturn, 1) := dt_of DA_X8_lend_0 34 rfl
def DT_X8_pay_0 : List (Nat × Instr × Nat) := [(0, .aload_n 0, 1), (1, .iload_n 1, 1), (2, .iload_n 2, 1), (3, .invokevirtual 174, 3), (6, .ifCond .eq 14, 3), (9, .iload_n 3, 1), (10, .iconst 1, 1), (11, .sipush 999, 3), (14, .invokestatic 84, 3), (17, .ifCond .ne 6, 3), (20, .ldc 88, 2), (22, .ireturn, 1), (23, .aload_n 0, 1), (24, .getfield 26, 3), (27, .iload_n 1, 1), (28, .iload_n 2, 1), (29, .invokevirtual 188, 3), (32, .ifCond .ne 6, 3), (35, .ldc 159, 2), (37, .ireturn, 1), (38, .aload_n 0, 1), (39, .getfield 43, 3), (42, .aload_n 0, 1), (43, .getfield 26, 3), (46, .invokevirtual 163, 3), (49, .aload_n 0, 1), (50, .getfield 26, 3), (53, .iload_n 1, 1), (54, .iload_n 2, 1), (55, .iload_n 3, 1), (56, .invokevirtual 191, 3), (59, .aload_n 0, 1), (60, .getfield 26, 3), (63, .iload_n 1, 1), (64, .iload_n 2, 1), (65, .invokevirtual 188, 3), (68, .ireturn, 1)]
theorem DA_X8_pay_0 : DT_X8_pay_0.all (dtf cX8_pay) = true := by decide +kernel
theorem dX8_pay_0 : decode cX8_pay 0 = .ok (.aload_n 0, 1) := dt_of DA_X8_pay_0 0 rfl
theorem dX8_pay_1 : decode cX8_pay 1 = .ok (.iload_n 1, 1) := dt_of DA_X8_pay_0 1 rfl
theorem dX8_pay_2 : decode cX8_pay 2 = .ok (.iload_n 2, 1) := dt_of DA_X8_pay_0 2 rfl
theorem dX8_pay_3 : decode cX8_pay 3 = .ok (.invokevirtual 174, 3) := dt_of DA_X8_pay_0 3 rfl
theorem dX8_pay_6 : decode cX8_pay 6 = .ok (.ifCond .eq 14, 3) := dt_of DA_X8_pay_0 4 rfl
theorem dX8_pay_9 : decode cX8_pay 9 = .ok (.iload_n 3, 1) := dt_of DA_X8_pay_0 5 rfl
theorem dX8_pay_10 : decode cX8_pay 10 = .ok (.iconst 1, 1) := dt_of DA_X8_pay_0 6 rfl
theorem dX8_pay_11 : decode cX8_pay 11 = .ok (.sipush 999, 3) := dt_of DA_X8_pay_0 7 rfl
theorem dX8_pay_14 : decode cX8_pay 14 = .ok (.invokestatic 84, 3) := dt_of DA_X8_pay_0 8 rfl
theorem dX8_pay_17 : decode cX8_pay 17 = .ok (.ifCond .ne 6, 3) := dt_of DA_X8_pay_0 9 rfl
theorem dX8_pay_20 : decode cX8_pay 20 = .ok (.ldc 88, 2) := dt_of DA_X8_pay_0 10 rfl
theorem dX8_pay_22 : decode cX8_pay 22 = .ok (.ireturn, 1) := dt_of DA_X8_pay_0 11 rfl
theorem dX8_pay_23 : decode cX8_pay 23 = .ok (.aload_n 0, 1) := dt_of DA_X8_pay_0 12 rfl
theorem dX8_pay_24 : decode cX8_pay 24 = .ok (.getfield 26, 3) := dt_of DA_X8_pay_0 13 rfl
theorem dX8_pay_27 : decode cX8_pay 27 = .ok (.iload_n 1, 1) := dt_of DA_X8_pay_0 14 rfl
theorem dX8_pay_28 : decode cX8_pay 28 = .ok (.iload_n 2, 1) := dt_of DA_X8_pay_0 15 rfl
theorem dX8_pay_29 : decode cX8_pay 29 = .ok (.invokevirtual 188, 3) := dt_of DA_X8_pay_0 16 rfl
theorem dX8_pay_32 : decode cX8_pay 32 = .ok (.ifCond .ne 6, 3) := dt_of DA_X8_pay_0 17 rfl
theorem dX8_pay_35 : decode cX8_pay 35 = .ok (.ldc 159, 2) := dt_of DA_X8_pay_0 18 rfl
theorem dX8_pay_37 : decode cX8_pay 37 = .ok (.ireturn, 1) := dt_of DA_X8_pay_0 19 rfl
theorem dX8_pay_38 : decode cX8_pay 38 = .ok (.aload_n 0, 1) := dt_of DA_X8_pay_0 20 rfl
theorem dX8_pay_39 : decode cX8_pay 39 = .ok (.getfield 43, 3) := dt_of DA_X8_pay_0 21 rfl
theorem dX8_pay_42 : decode cX8_pay 42 = .ok (.aload_n 0, 1) := dt_of DA_X8_pay_0 22 rfl
theorem dX8_pay_43 : decode cX8_pay 43 = .ok (.getfield 26, 3) := dt_of DA_X8_pay_0 23 rfl
theorem dX8_pay_46 : decode cX8_pay 46 = .ok (.invokevirtual 163, 3) := dt_of DA_X8_pay_0 24 rfl
theorem dX8_pay_49 : decode cX8_pay 49 = .ok (.aload_n 0, 1) := dt_of DA_X8_pay_0 25 rfl
theorem dX8_pay_50 : decode cX8_pay 50 = .ok (.getfield 26, 3) := dt_of DA_X8_pay_0 26 rfl
theorem dX8_pay_53 : decode cX8_pay 53 = .ok (.iload_n 1, 1) := dt_of DA_X8_pay_0 27 rfl
theorem dX8_pay_54 : decode cX8_pay 54 = .ok (.iload_n 2, 1) := dt_of DA_X8_pay_0 28 rfl
theorem dX8_pay_55 : decode cX8_pay 55 = .ok (.iload_n 3, 1) := dt_of DA_X8_pay_0 29 rfl
theorem dX8_pay_56 : decode cX8_pay 56 = .ok (.invokevirtual 191, 3) := dt_of DA_X8_pay_0 30 rfl
theorem dX8_pay_59 : decode cX8_pay 59 = .ok (.aload_n 0, 1) := dt_of DA_X8_pay_0 31 rfl
theorem dX8_pay_60 : decode cX8_pay 60 = .ok (.getfield 26, 3) := dt_of DA_X8_pay_0 32 rfl
theorem dX8_pay_63 : decode cX8_pay 63 = .ok (.iload_n 1, 1) := dt_of DA_X8_pay_0 33 rfl
theorem dX8_pay_64 : decode cX8_pay 64 = .ok (.iload_n 2, 1) := dt_of DA_X8_pay_0 34 rfl
theorem dX8_pay_65 : decode cX8_pay 65 = .ok (.invokevirtual 188, 3) := dt_of DA_X8_pay_0 35 rfl
theorem dX8_pay_68 : decode cX8_pay 68 = .ok (.ireturn, 1) := dt_of DA_X8_pay_0 36 rfl
def DT_X8_forgive_0 : List (Nat × Instr × Nat) := [(0, .aload_n 0, 1), (1, .iload_n 1, 1), (2, .iload_n 2, 1), (3, .invokevirtual 174, 3), (6, .ifCond .ne 6, 3), (9, .ldc 88, 2), (11, .ireturn, 1), (12, .aload_n 0, 1), (13, .getfield 26, 3), (16, .iload_n 1, 1), (17, .iload_n 2, 1), (18, .invokevirtual 188, 3), (21, .istore_n 3, 1), (22, .iload_n 3, 1), (23, .ifCond .ne 6, 3), (26, .ldc 159, 2), (28, .ireturn, 1), (29, .aload_n 0, 1), (30, .getfield 43, 3), (33, .aload_n 0, 1), (34, .getfield 26, 3), (37, .invokevirtual 163, 3), (40, .aload_n 0, 1), (41, .getfield 26, 3), (44, .iload_n 1, 1), (45, .iload_n 2, 1), (46, .iload_n 3, 1), (47, .invokevirtual 191, 3), (50, .iload_n 3, 1), (51, .ireturn, 1)]
theorem DA_X8_forgive_0 : DT_X8_forgive_0.all (dtf cX8_forgive) = true := by decide +kernel
theorem dX8_forgive_0 : decode cX8_forgive 0 = .ok (.aload_n 0, 1) := dt_of DA_X8_forgive_0 0 rfl
theorem dX8_forgive_1 : decode cX8_forgive 1 = .ok (.iload_n 1, 1) := dt_of DA_X8_forgive_0 1 rfl
theorem dX8_forgive_2 : decode cX8_forgive 2 = .ok (.iload_n 2, 1) := dt_of DA_X8_forgive_0 2 rfl
theorem dX8_forgive_3 : decode cX8_forgive 3 = .ok (.invokevirtual 174, 3) := dt_of DA_X8_forgive_0 3 rfl
theorem dX8_forgive_6 : decode cX8_forgive 6 = .ok (.ifCond .ne 6, 3) := dt_of DA_X8_forgive_0 4 rfl
theorem dX8_forgive_9 : decode cX8_forgive 9 = .ok (.ldc 88, 2) := dt_of DA_X8_forgive_0 5 rfl
theorem dX8_forgive_11 : decode cX8_forgive 11 = .ok (.ireturn, 1) := dt_of DA_X8_forgive_0 6 rfl
theorem dX8_forgive_12 : decode cX8_forgive 12 = .ok (.aload_n 0, 1) := dt_of DA_X8_forgive_0 7 rfl
theorem dX8_forgive_13 : decode cX8_forgive 13 = .ok (.getfield 26, 3) := dt_of DA_X8_forgive_0 8 rfl
theorem dX8_forgive_16 : decode cX8_forgive 16 = .ok (.iload_n 1, 1) := dt_of DA_X8_forgive_0 9 rfl
theorem dX8_forgive_17 : decode cX8_forgive 17 = .ok (.iload_n 2, 1) := dt_of DA_X8_forgive_0 10 rfl
theorem dX8_forgive_18 : decode cX8_forgive 18 = .ok (.invokevirtual 188, 3) := dt_of DA_X8_forgive_0 11 rfl
theorem dX8_forgive_21 : decode cX8_forgive 21 = .ok (.istore_n 3, 1) := dt_of DA_X8_forgive_0 12 rfl
theorem dX8_forgive_22 : decode cX8_forgive 22 = .ok (.iload_n 3, 1) := dt_of DA_X8_forgive_0 13 rfl
theorem dX8_forgive_23 : decode cX8_forgive 23 = .ok (.ifCond .ne 6, 3) := dt_of DA_X8_forgive_0 14 rfl
theorem dX8_forgive_26 : decode cX8_forgive 26 = .ok (.ldc 159, 2) := dt_of DA_X8_forgive_0 15 rfl
theorem dX8_forgive_28 : decode cX8_forgive 28 = .ok (.ireturn, 1) := dt_of DA_X8_forgive_0 16 rfl
theorem dX8_forgive_29 : decode cX8_forgive 29 = .ok (.aload_n 0, 1) := dt_of DA_X8_forgive_0 17 rfl
theorem dX8_forgive_30 : decode cX8_forgive 30 = .ok (.getfield 43, 3) := dt_of DA_X8_forgive_0 18 rfl
theorem dX8_forgive_33 : decode cX8_forgive 33 = .ok (.aload_n 0, 1) := dt_of DA_X8_forgive_0 19 rfl
theorem dX8_forgive_34 : decode cX8_forgive 34 = .ok (.getfield 26, 3) := dt_of DA_X8_forgive_0 20 rfl
theorem dX8_forgive_37 : decode cX8_forgive 37 = .ok (.invokevirtual 163, 3) := dt_of DA_X8_forgive_0 21 rfl
theorem dX8_forgive_40 : decode cX8_forgive 40 = .ok (.aload_n 0, 1) := dt_of DA_X8_forgive_0 22 rfl
theorem dX8_forgive_41 : decode cX8_forgive 41 = .ok (.getfield 26, 3) := dt_of DA_X8_forgive_0 23 rfl
theorem dX8_forgive_44 : decode cX8_forgive 44 = .ok (.iload_n 1, 1) := dt_of DA_X8_forgive_0 24 rfl
theorem dX8_forgive_45 : decode cX8_forgive 45 = .ok (.iload_n 2, 1) := dt_of DA_X8_forgive_0 25 rfl
theorem dX8_forgive_46 : decode cX8_forgive 46 = .ok (.iload_n 3, 1) := dt_of DA_X8_forgive_0 26 rfl
theorem dX8_forgive_47 : decode cX8_forgive 47 = .ok (.invokevirtual 191, 3) := dt_of DA_X8_forgive_0 27 rfl
theorem dX8_forgive_50 : decode cX8_forgive 50 = .ok (.iload_n 3, 1) := dt_of DA_X8_forgive_0 28 rfl
theorem dX8_forgive_51 : decode cX8_forgive 51 = .ok (.ireturn, 1) := dt_of DA_X8_forgive_0 29 rfl
def DT_X8_mend_0 : List (Nat × Instr × Nat) := [(0, .aload_n 0, 1), (1, .iload_n 1, 1), (2, .invokevirtual 194, 3), (5, .ifCond .eq 13, 3), (8, .iload_n 2, 1), (9, .iconst 0, 1), (10, .bipush 99, 2), (12, .invokestatic 84, 3), (15, .ifCond .ne 6, 3), (18, .ldc 88, 2), (20, .ireturn, 1), (21, .aload_n 0, 1), (22, .getfield 43, 3), (25, .aload_n 0, 1), (26, .getfield 26, 3), (29, .invokevirtual 163, 3), (32, .aload_n 0, 1), (33, .getfield 26, 3), (36, .getfield 197, 3), (39, .iload_n 1, 1), (40, .iaload, 1), (41, .istore_n 3, 1), (42, .aload_n 0, 1), (43, .getfield 26, 3), (46, .getfield 197, 3), (49, .iload_n 1, 1), (50, .iload_n 2, 1), (51, .iastore, 1), (52, .iload_n 3, 1), (53, .ireturn, 1)]
theorem DA_X8_mend_0 : DT_X8_mend_0.all (dtf cX8_mend) = true := by decide +kernel
theorem dX8_mend_0 : decode cX8_mend 0 = .ok (.aload_n 0, 1) := dt_of DA_X8_mend_0 0 rfl
theorem dX8_mend_1 : decode cX8_mend 1 = .ok (.iload_n 1, 1) := dt_of DA_X8_mend_0 1 rfl
theorem dX8_mend_2 : decode cX8_mend 2 = .ok (.invokevirtual 194, 3) := dt_of DA_X8_mend_0 2 rfl
theorem dX8_mend_5 : decode cX8_mend 5 = .ok (.ifCond .eq 13, 3) := dt_of DA_X8_mend_0 3 rfl
theorem dX8_mend_8 : decode cX8_mend 8 = .ok (.iload_n 2, 1) := dt_of DA_X8_mend_0 4 rfl
theorem dX8_mend_9 : decode cX8_mend 9 = .ok (.iconst 0, 1) := dt_of DA_X8_mend_0 5 rfl
theorem dX8_mend_10 : decode cX8_mend 10 = .ok (.bipush 99, 2) := dt_of DA_X8_mend_0 6 rfl
theorem dX8_mend_12 : decode cX8_mend 12 = .ok (.invokestatic 84, 3) := dt_of DA_X8_mend_0 7 rfl
theorem dX8_mend_15 : decode cX8_mend 15 = .ok (.ifCond .ne 6, 3) := dt_of DA_X8_mend_0 8 rfl
theorem dX8_mend_18 : decode cX8_mend 18 = .ok (.ldc 88, 2) := dt_of DA_X8_mend_0 9 rfl
theorem dX8_mend_20 : decode cX8_mend 20 = .ok (.ireturn, 1) := dt_of DA_X8_mend_0 10 rfl
theorem dX8_mend_21 : decode cX8_mend 21 = .ok (.aload_n 0, 1) := dt_of DA_X8_mend_0 11 rfl
theorem dX8_mend_22 : decode cX8_mend 22 = .ok (.getfield 43, 3) := dt_of DA_X8_mend_0 12 rfl
theorem dX8_mend_25 : decode cX8_mend 25 = .ok (.aload_n 0, 1) := dt_of DA_X8_mend_0 13 rfl
theorem dX8_mend_26 : decode cX8_mend 26 = .ok (.getfield 26, 3) := dt_of DA_X8_mend_0 14 rfl
theorem dX8_mend_29 : decode cX8_mend 29 = .ok (.invokevirtual 163, 3) := dt_of DA_X8_mend_0 15 rfl
theorem dX8_mend_32 : decode cX8_mend 32 = .ok (.aload_n 0, 1) := dt_of DA_X8_mend_0 16 rfl
theorem dX8_mend_33 : decode cX8_mend 33 = .ok (.getfield 26, 3) := dt_of DA_X8_mend_0 17 rfl
theorem dX8_mend_36 : decode cX8_mend 36 = .ok (.getfield 197, 3) := dt_of DA_X8_mend_0 18 rfl
theorem dX8_mend_39 : decode cX8_mend 39 = .ok (.iload_n 1, 1) := dt_of DA_X8_mend_0 19 rfl
theorem dX8_mend_40 : decode cX8_mend 40 = .ok (.iaload, 1) := dt_of DA_X8_mend_0 20 rfl
theorem dX8_mend_41 : decode cX8_mend 41 = .ok (.istore_n 3, 1) := dt_of DA_X8_mend_0 21 rfl
theorem dX8_mend_42 : decode cX8_mend 42 = .ok (.aload_n 0, 1) := dt_of DA_X8_mend_0 22 rfl
theorem dX8_mend_43 : decode cX8_mend 43 = .ok (.getfield 26, 3) := dt_of DA_X8_mend_0 23 rfl
theorem dX8_mend_46 : decode cX8_mend 46 = .ok (.getfield 197, 3) := dt_of DA_X8_mend_0 24 rfl
theorem dX8_mend_49 : decode cX8_mend 49 = .ok (.iload_n 1, 1) := dt_of DA_X8_mend_0 25 rfl
theorem dX8_mend_50 : decode cX8_mend 50 = .ok (.iload_n 2, 1) := dt_of DA_X8_mend_0 26 rfl
theorem dX8_mend_51 : decode cX8_mend 51 = .ok (.iastore, 1) := dt_of DA_X8_mend_0 27 rfl
theorem dX8_mend_52 : decode cX8_mend 52 = .ok (.iload_n 3, 1) := dt_of DA_X8_mend_0 28 rfl
theorem dX8_mend_53 : decode cX8_mend 53 = .ok (.ireturn, 1) := dt_of DA_X8_mend_0 29 rfl
def DT_X8_undo_0 : List (Nat × Instr × Nat) := [(0, .aload_n 0, 1), (1, .getfield 43, 3), (4, .getfield 200, 3), (7, .ifCond .ne 6, 3), (10, .ldc 159, 2), (12, .ireturn, 1), (13, .aload_n 0, 1), (14, .getfield 43, 3), (17, .aload_n 0, 1), (18, .getfield 26, 3), (21, .invokevirtual 203, 3), (24, .aload_n 0, 1), (25, .getfield 43, 3), (28, .getfield 200, 3), (31, .ireturn, 1)]
theorem DA_X8_undo_0 : DT_X8_undo_0.all (dtf cX8_undo) = true := by decide +kernel
theorem dX8_undo_0 : decode cX8_undo 0 = .ok (.aload_n 0, 1) := dt_of DA_X8_undo_0 0 rfl
theorem dX8_undo_1 : decode cX8_undo 1 = .ok (.getfield 43, 3) := dt_of DA_X8_undo_0 1 rfl
theorem dX8_undo_4 : decode cX8_undo 4 = .ok (.getfield 200, 3) := dt_of DA_X8_undo_0 2 rfl
theorem dX8_undo_7 : decode cX8_undo 7 = .ok (.ifCond .ne 6, 3) := dt_of DA_X8_undo_0 3 rfl
theorem dX8_undo_10 : decode cX8_undo 10 = .ok (.ldc 159, 2) := dt_of DA_X8_undo_0 4 rfl
theorem dX8_undo_12 : decode cX8_undo 12 = .ok (.ireturn, 1) := dt_of DA_X8_undo_0 5 rfl
theorem dX8_undo_13 : decode cX8_undo 13 = .ok (.aload_n 0, 1) := dt_of DA_X8_undo_0 6 rfl
theorem dX8_undo_14 : decode cX8_undo 14 = .ok (.getfield 43, 3) := dt_of DA_X8_undo_0 7 rfl
theorem dX8_undo_17 : decode cX8_undo 17 = .ok (.aload_n 0, 1) := dt_of DA_X8_undo_0 8 rfl
theorem dX8_undo_18 : decode cX8_undo 18 = .ok (.getfield 26, 3) := dt_of DA_X8_undo_0 9 rfl
theorem dX8_undo_21 : decode cX8_undo 21 = .ok (.invokevirtual 203, 3) := dt_of DA_X8_undo_0 10 rfl
theorem dX8_undo_24 : decode cX8_undo 24 = .ok (.aload_n 0, 1) := dt_of DA_X8_undo_0 11 rfl
theorem dX8_undo_25 : decode cX8_undo 25 = .ok (.getfield 43, 3) := dt_of DA_X8_undo_0 12 rfl
theorem dX8_undo_28 : decode cX8_undo 28 = .ok (.getfield 200, 3) := dt_of DA_X8_undo_0 13 rfl
theorem dX8_undo_31 : decode cX8_undo 31 = .ok (.ireturn, 1) := dt_of DA_X8_undo_0 14 rfl
def DT_X8_bell_0 : List (Nat × Instr × Nat) := [(0, .aload_n 0, 1), (1, .iload_n 1, 1), (2, .invokevirtual 194, 3), (5, .ifCond .ne 6, 3), (8, .ldc 88, 2), (10, .ireturn, 1), (11, .iload_n 2, 1), (12, .tableswitch 123 0 5 #[40, 50, 60, 70, 79, 101], 40), (52, .aload_n 0, 1), (53, .getfield 26, 3), (56, .getfield 197, 3), (59, .iload_n 1, 1), (60, .iaload, 1), (61, .ireturn, 1), (62, .aload_n 0, 1), (63, .getfield 26, 3), (66, .getfield 206, 3), (69, .iload_n 1, 1), (70, .iaload, 1), (71, .ireturn, 1), (72, .aload_n 0, 1), (73, .getfield 26, 3), (76, .getfield 209, 3), (79, .iload_n 1, 1), (80, .iaload, 1), (81, .ireturn, 1), (82, .aload_n 0, 1), (83, .getfield 26, 3), (86, .iload_n 1, 1), (87, .invokevirtual 212, 3), (90, .ireturn, 1), (91, .iconst 0, 1), (92, .aload_n 0, 1), (93, .getfield 26, 3), (96, .iload_n 1, 1), (97, .invokevirtual 215, 3), (100, .aload_n 0, 1), (101, .getfield 26, 3), (104, .iload_n 1, 1), (105, .invokevirtual 218, 3), (108, .isub, 1), (109, .invokestatic 221, 3), (112, .ireturn, 1), (113, .iconst 0, 1), (114, .aload_n 0, 1), (115, .getfield 26, 3), (118, .iload_n 1, 1), (119, .invokevirtual 218, 3), (122, .aload_n 0, 1), (123, .getfield 26, 3), (126, .iload_n 1, 1), (127, .invokevirtual 215, 3), (130, .isub, 1), (131, .invokestatic 221, 3), (134, .ireturn, 1), (135, .ldc 88, 2), (137, .ireturn, 1)]
theorem DA_X8_bell_0 : DT_X8_bell_0.all (dtf cX8_bell) = true := by decide +kernel
theorem dX8_bell_0 : decode cX8_bell 0 = .ok (.aload_n 0, 1) := dt_of DA_X8_bell_0 0 rfl
theorem dX8_bell_1 : decode cX8_bell 1 = .ok (.iload_n 1, 1) := dt_of DA_X8_bell_0 1 rfl
theorem dX8_bell_2 : decode cX8_bell 2 = .ok (.invokevirtual 194, 3) := dt_of DA_X8_bell_0 2 rfl
theorem dX8_bell_5 : decode cX8_bell 5 = .ok (.ifCond .ne 6, 3) := dt_of DA_X8_bell_0 3 rfl
theorem dX8_bell_8 : decode cX8_bell 8 = .ok (.ldc 88, 2) := dt_of DA_X8_bell_0 4 rfl
theorem dX8_bell_10 : decode cX8_bell 10 = .ok (.ireturn, 1) := dt_of DA_X8_bell_0 5 rfl
theorem dX8_bell_11 : decode cX8_bell 11 = .ok (.iload_n 2, 1) := dt_of DA_X8_bell_0 6 rfl
theorem dX8_bell_12 : decode cX8_bell 12 = .ok (.tableswitch 123 0 5 #[40, 50, 60, 70, 79, 101], 40) := dt_of DA_X8_bell_0 7 rfl
theorem dX8_bell_52 : decode cX8_bell 52 = .ok (.aload_n 0, 1) := dt_of DA_X8_bell_0 8 rfl
theorem dX8_bell_53 : decode cX8_bell 53 = .ok (.getfield 26, 3) := dt_of DA_X8_bell_0 9 rfl
theorem dX8_bell_56 : decode cX8_bell 56 = .ok (.getfield 197, 3) := dt_of DA_X8_bell_0 10 rfl
theorem dX8_bell_59 : decode cX8_bell 59 = .ok (.iload_n 1, 1) := dt_of DA_X8_bell_0 11 rfl
theorem dX8_bell_60 : decode cX8_bell 60 = .ok (.iaload, 1) := dt_of DA_X8_bell_0 12 rfl
theorem dX8_bell_61 : decode cX8_bell 61 = .ok (.ireturn, 1) := dt_of DA_X8_bell_0 13 rfl
theorem dX8_bell_62 : decode cX8_bell 62 = .ok (.aload_n 0, 1) := dt_of DA_X8_bell_0 14 rfl
theorem dX8_bell_63 : decode cX8_bell 63 = .ok (.getfield 26, 3) := dt_of DA_X8_bell_0 15 rfl
theorem dX8_bell_66 : decode cX8_bell 66 = .ok (.getfield 206, 3) := dt_of DA_X8_bell_0 16 rfl
theorem dX8_bell_69 : decode cX8_bell 69 = .ok (.iload_n 1, 1) := dt_of DA_X8_bell_0 17 rfl
theorem dX8_bell_70 : decode cX8_bell 70 = .ok (.iaload, 1) := dt_of DA_X8_bell_0 18 rfl
theorem dX8_bell_71 : decode cX8_bell 71 = .ok (.ireturn, 1) := dt_of DA_X8_bell_0 19 rfl
theorem dX8_bell_72 : decode cX8_bell 72 = .ok (.aload_n 0, 1) := dt_of DA_X8_bell_0 20 rfl
theorem dX8_bell_73 : decode cX8_bell 73 = .ok (.getfield 26, 3) := dt_of DA_X8_bell_0 21 rfl
theorem dX8_bell_76 : decode cX8_bell 76 = .ok (.getfield 209, 3) := dt_of DA_X8_bell_0 22 rfl
theorem dX8_bell_79 : decode cX8_bell 79 = .ok (.iload_n 1, 1) := dt_of DA_X8_bell_0 23 rfl
theorem dX8_bell_80 : decode cX8_bell 80 = .ok (.iaload, 1) := dt_of DA_X8_bell_0 24 rfl
theorem dX8_bell_81 : decode cX8_bell 81 = .ok (.ireturn, 1) := dt_of DA_X8_bell_0 25 rfl
theorem dX8_bell_82 : decode cX8_bell 82 = .ok (.aload_n 0, 1) := dt_of DA_X8_bell_0 26 rfl
theorem dX8_bell_83 : decode cX8_bell 83 = .ok (.getfield 26, 3) := dt_of DA_X8_bell_0 27 rfl
theorem dX8_bell_86 : decode cX8_bell 86 = .ok (.iload_n 1, 1) := dt_of DA_X8_bell_0 28 rfl
theorem dX8_bell_87 : decode cX8_bell 87 = .ok (.invokevirtual 212, 3) := dt_of DA_X8_bell_0 29 rfl
theorem dX8_bell_90 : decode cX8_bell 90 = .ok (.ireturn, 1) := dt_of DA_X8_bell_0 30 rfl
theorem dX8_bell_91 : decode cX8_bell 91 = .ok (.iconst 0, 1) := dt_of DA_X8_bell_0 31 rfl
theorem dX8_bell_92 : decode cX8_bell 92 = .ok (.aload_n 0, 1) := dt_of DA_X8_bell_0 32 rfl
theorem dX8_bell_93 : decode cX8_bell 93 = .ok (.getfield 26, 3) := dt_of DA_X8_bell_0 33 rfl
theorem dX8_bell_96 : decode cX8_bell 96 = .ok (.iload_n 1, 1) := dt_of DA_X8_bell_0 34 rfl
theorem dX8_bell_97 : decode cX8_bell 97 = .ok (.invokevirtual 215, 3) := dt_of DA_X8_bell_0 35 rfl
theorem dX8_bell_100 : decode cX8_bell 100 = .ok (.aload_n 0, 1) := dt_of DA_X8_bell_0 36 rfl
theorem dX8_bell_101 : decode cX8_bell 101 = .ok (.getfield 26, 3) := dt_of DA_X8_bell_0 37 rfl
theorem dX8_bell_104 : decode cX8_bell 104 = .ok (.iload_n 1, 1) := dt_of DA_X8_bell_0 38 rfl
theorem dX8_bell_105 : decode cX8_bell 105 = .ok (.invokevirtual 218, 3) := dt_of DA_X8_bell_0 39 rfl
theorem dX8_bell_108 : decode cX8_bell 108 = .ok (.isub, 1) := dt_of DA_X8_bell_0 40 rfl
theorem dX8_bell_109 : decode cX8_bell 109 = .ok (.invokestatic 221, 3) := dt_of DA_X8_bell_0 41 rfl
theorem dX8_bell_112 : decode cX8_bell 112 = .ok (.ireturn, 1) := dt_of DA_X8_bell_0 42 rfl
theorem dX8_bell_113 : decode cX8_bell 113 = .ok (.iconst 0, 1) := dt_of DA_X8_bell_0 43 rfl
theorem dX8_bell_114 : decode cX8_bell 114 = .ok (.aload_n 0, 1) := dt_of DA_X8_bell_0 44 rfl
theorem dX8_bell_115 : decode cX8_bell 115 = .ok (.getfield 26, 3) := dt_of DA_X8_bell_0 45 rfl
theorem dX8_bell_118 : decode cX8_bell 118 = .ok (.iload_n 1, 1) := dt_of DA_X8_bell_0 46 rfl
theorem dX8_bell_119 : decode cX8_bell 119 = .ok (.invokevirtual 218, 3) := dt_of DA_X8_bell_0 47 rfl
theorem dX8_bell_122 : decode cX8_bell 122 = .ok (.aload_n 0, 1) := dt_of DA_X8_bell_0 48 rfl
theorem dX8_bell_123 : decode cX8_bell 123 = .ok (.getfield 26, 3) := dt_of DA_X8_bell_0 49 rfl
theorem dX8_bell_126 : decode cX8_bell 126 = .ok (.iload_n 1, 1) := dt_of DA_X8_bell_0 50 rfl
theorem dX8_bell_127 : decode cX8_bell 127 = .ok (.invokevirtual 215, 3) := dt_of DA_X8_bell_0 51 rfl
theorem dX8_bell_130 : decode cX8_bell 130 = .ok (.isub, 1) := dt_of DA_X8_bell_0 52 rfl
theorem dX8_bell_131 : decode cX8_bell 131 = .ok (.invokestatic 221, 3) := dt_of DA_X8_bell_0 53 rfl
theorem dX8_bell_134 : decode cX8_bell 134 = .ok (.ireturn, 1) := dt_of DA_X8_bell_0 54 rfl
theorem dX8_bell_135 : decode cX8_bell 135 = .ok (.ldc 88, 2) := dt_of DA_X8_bell_0 55 rfl
theorem dX8_bell_137 : decode cX8_bell 137 = .ok (.ireturn, 1) := dt_of DA_X8_bell_0 56 rfl
def DT_X8_owes_0 : List (Nat × Instr × Nat) := [(0, .aload_n 0, 1), (1, .iload_n 1, 1), (2, .iload_n 2, 1), (3, .invokevirtual 174, 3), (6, .ifCond .eq 15, 3), (9, .aload_n 0, 1), (10, .getfield 26, 3), (13, .iload_n 1, 1), (14, .iload_n 2, 1), (15, .invokevirtual 188, 3), (18, .goto 5, 3), (21, .ldc 88, 2), (23, .ireturn, 1)]
theorem DA_X8_owes_0 : DT_X8_owes_0.all (dtf cX8_owes) = true := by decide +kernel
theorem dX8_owes_0 : decode cX8_owes 0 = .ok (.aload_n 0, 1) := dt_of DA_X8_owes_0 0 rfl
theorem dX8_owes_1 : decode cX8_owes 1 = .ok (.iload_n 1, 1) := dt_of DA_X8_owes_0 1 rfl
theorem dX8_owes_2 : decode cX8_owes 2 = .ok (.iload_n 2, 1) := dt_of DA_X8_owes_0 2 rfl
theorem dX8_owes_3 : decode cX8_owes 3 = .ok (.invokevirtual 174, 3) := dt_of DA_X8_owes_0 3 rfl
theorem dX8_owes_6 : decode cX8_owes 6 = .ok (.ifCond .eq 15, 3) := dt_of DA_X8_owes_0 4 rfl
theorem dX8_owes_9 : decode cX8_owes 9 = .ok (.aload_n 0, 1) := dt_of DA_X8_owes_0 5 rfl
theorem dX8_owes_10 : decode cX8_owes 10 = .ok (.getfield 26, 3) := dt_of DA_X8_owes_0 6 rfl
theorem dX8_owes_13 : decode cX8_owes 13 = .ok (.iload_n 1, 1) := dt_of DA_X8_owes_0 7 rfl
theorem dX8_owes_14 : decode cX8_owes 14 = .ok (.iload_n 2, 1) := dt_of DA_X8_owes_0 8 rfl
theorem dX8_owes_15 : decode cX8_owes 15 = .ok (.invokevirtual 188, 3) := dt_of DA_X8_owes_0 9 rfl
theorem dX8_owes_18 : decode cX8_owes 18 = .ok (.goto 5, 3) := dt_of DA_X8_owes_0 10 rfl
theorem dX8_owes_21 : decode cX8_owes 21 = .ok (.ldc 88, 2) := dt_of DA_X8_owes_0 11 rfl
theorem dX8_owes_23 : decode cX8_owes 23 = .ok (.ireturn, 1) := dt_of DA_X8_owes_0 12 rfl
def DT_X8_ahead_0 : List (Nat × Instr × Nat) := [(0, .aload_n 0, 1), (1, .iload_n 1, 1), (2, .iload_n 2, 1), (3, .invokevirtual 174, 3), (6, .ifCond .eq 13, 3), (9, .iload_n 3, 1), (10, .iconst 0, 1), (11, .bipush 60, 2), (13, .invokestatic 84, 3), (16, .ifCond .ne 6, 3), (19, .ldc 88, 2), (21, .ireturn, 1), (22, .aload_n 0, 1), (23, .getfield 60, 3), (26, .iload_n 3, 1), (27, .invokevirtual 226, 3), (30, .iload_n 1, 1), (31, .iload_n 2, 1), (32, .invokevirtual 188, 3), (35, .ireturn, 1)]
theorem DA_X8_ahead_0 : DT_X8_ahead_0.all (dtf cX8_ahead) = true := by decide +kernel
theorem dX8_ahead_0 : decode cX8_ahead 0 = .ok (.aload_n 0, 1) := dt_of DA_X8_ahead_0 0 rfl
theorem dX8_ahead_1 : decode cX8_ahead 1 = .ok (.iload_n 1, 1) := dt_of DA_X8_ahead_0 1 rfl
theorem dX8_ahead_2 : decode cX8_ahead 2 = .ok (.iload_n 2, 1) := dt_of DA_X8_ahead_0 2 rfl
theorem dX8_ahead_3 : decode cX8_ahead 3 = .ok (.invokevirtual 174, 3) := dt_of DA_X8_ahead_0 3 rfl
theorem dX8_ahead_6 : decode cX8_ahead 6 = .ok (.ifCond .eq 13, 3) := dt_of DA_X8_ahead_0 4 rfl
theorem dX8_ahead_9 : decode cX8_ahead 9 = .ok (.iload_n 3, 1) := dt_of DA_X8_ahead_0 5 rfl
theorem dX8_ahead_10 : decode cX8_ahead 10 = .ok (.iconst 0, 1) := dt_of DA_X8_ahead_0 6 rfl
theorem dX8_ahead_11 : decode cX8_ahead 11 = .ok (.bipush 60, 2) := dt_of DA_X8_ahead_0 7 rfl
theorem dX8_ahead_13 : decode cX8_ahead 13 = .ok (.invokestatic 84, 3) := dt_of DA_X8_ahead_0 8 rfl
theorem dX8_ahead_16 : decode cX8_ahead 16 = .ok (.ifCond .ne 6, 3) := dt_of DA_X8_ahead_0 9 rfl
theorem dX8_ahead_19 : decode cX8_ahead 19 = .ok (.ldc 88, 2) := dt_of DA_X8_ahead_0 10 rfl
theorem dX8_ahead_21 : decode cX8_ahead 21 = .ok (.ireturn, 1) := dt_of DA_X8_ahead_0 11 rfl
theorem dX8_ahead_22 : decode cX8_ahead 22 = .ok (.aload_n 0, 1) := dt_of DA_X8_ahead_0 12 rfl
theorem dX8_ahead_23 : decode cX8_ahead 23 = .ok (.getfield 60, 3) := dt_of DA_X8_ahead_0 13 rfl
theorem dX8_ahead_26 : decode cX8_ahead 26 = .ok (.iload_n 3, 1) := dt_of DA_X8_ahead_0 14 rfl
theorem dX8_ahead_27 : decode cX8_ahead 27 = .ok (.invokevirtual 226, 3) := dt_of DA_X8_ahead_0 15 rfl
theorem dX8_ahead_30 : decode cX8_ahead 30 = .ok (.iload_n 1, 1) := dt_of DA_X8_ahead_0 16 rfl
theorem dX8_ahead_31 : decode cX8_ahead 31 = .ok (.iload_n 2, 1) := dt_of DA_X8_ahead_0 17 rfl
theorem dX8_ahead_32 : decode cX8_ahead 32 = .ok (.invokevirtual 188, 3) := dt_of DA_X8_ahead_0 18 rfl
theorem dX8_ahead_35 : decode cX8_ahead 35 = .ok (.ireturn, 1) := dt_of DA_X8_ahead_0 19 rfl
def DT_X8_later_0 : List (Nat × Instr × Nat) := [(0, .aload_n 0, 1), (1, .iload_n 1, 1), (2, .invokevirtual 194, 3), (5, .ifCond .eq 22, 3), (8, .iload_n 2, 1), (9, .iconst 0, 1), (10, .bipush 60, 2), (12, .invokestatic 84, 3), (15, .ifCond .eq 12, 3), (18, .iload_n 3, 1), (19, .iconst 0, 1), (20, .iconst 1, 1), (21, .invokestatic 84, 3), (24, .ifCond .ne 6, 3), (27, .ldc 88, 2), (29, .ireturn, 1), (30, .aload_n 0, 1), (31, .getfield 60, 3), (34, .iload_n 2, 1), (35, .invokevirtual 226, 3), (38, .astore 4, 2), (40, .iload_n 3, 1), (41, .ifCond .ne 13, 3), (44, .aload 4, 2), (46, .getfield 209, 3), (49, .iload_n 1, 1), (50, .iaload, 1), (51, .goto 9, 3), (54, .aload 4, 2), (56, .iload_n 1, 1), (57, .invokevirtual 212, 3), (60, .ireturn, 1)]
theorem DA_X8_later_0 : DT_X8_later_0.all (dtf cX8_later) = true := by decide +kernel
theorem dX8_later_0 : decode cX8_later 0 = .ok (.aload_n 0, 1) := dt_of DA_X8_later_0 0 rfl
theorem dX8_later_1 : decode cX8_later 1 = .ok (.iload_n 1, 1) := dt_of DA_X8_later_0 1 rfl
theorem dX8_later_2 : decode cX8_later 2 = .ok (.invokevirtual 194, 3) := dt_of DA_X8_later_0 2 rfl
theorem dX8_later_5 : decode cX8_later 5 = .ok (.ifCond .eq 22, 3) := dt_of DA_X8_later_0 3 rfl
theorem dX8_later_8 : decode cX8_later 8 = .ok (.iload_n 2, 1) := dt_of DA_X8_later_0 4 rfl
theorem dX8_later_9 : decode cX8_later 9 = .ok (.iconst 0, 1) := dt_of DA_X8_later_0 5 rfl
theorem dX8_later_10 : decode cX8_later 10 = .ok (.bipush 60, 2) := dt_of DA_X8_later_0 6 rfl
theorem dX8_later_12 : decode cX8_later 12 = .ok (.invokestatic 84, 3) := dt_of DA_X8_later_0 7 rfl
theorem dX8_later_15 : decode cX8_later 15 = .ok (.ifCond .eq 12, 3) := dt_of DA_X8_later_0 8 rfl
theorem dX8_later_18 : decode cX8_later 18 = .ok (.iload_n 3, 1) := dt_of DA_X8_later_0 9 rfl
theorem dX8_later_19 : decode cX8_later 19 = .ok (.iconst 0, 1) := dt_of DA_X8_later_0 10 rfl
theorem dX8_later_20 : decode cX8_later 20 = .ok (.iconst 1, 1) := dt_of DA_X8_later_0 11 rfl
theorem dX8_later_21 : decode cX8_later 21 = .ok (.invokestatic 84, 3) := dt_of DA_X8_later_0 12 rfl
theorem dX8_later_24 : decode cX8_later 24 = .ok (.ifCond .ne 6, 3) := dt_of DA_X8_later_0 13 rfl
theorem dX8_later_27 : decode cX8_later 27 = .ok (.ldc 88, 2) := dt_of DA_X8_later_0 14 rfl
theorem dX8_later_29 : decode cX8_later 29 = .ok (.ireturn, 1) := dt_of DA_X8_later_0 15 rfl
theorem dX8_later_30 : decode cX8_later 30 = .ok (.aload_n 0, 1) := dt_of DA_X8_later_0 16 rfl
theorem dX8_later_31 : decode cX8_later 31 = .ok (.getfield 60, 3) := dt_of DA_X8_later_0 17 rfl
theorem dX8_later_34 : decode cX8_later 34 = .ok (.iload_n 2, 1) := dt_of DA_X8_later_0 18 rfl
theorem dX8_later_35 : decode cX8_later 35 = .ok (.invokevirtual 226, 3) := dt_of DA_X8_later_0 19 rfl
theorem dX8_later_38 : decode cX8_later 38 = .ok (.astore 4, 2) := dt_of DA_X8_later_0 20 rfl
theorem dX8_later_40 : decode cX8_later 40 = .ok (.iload_n 3, 1) := dt_of DA_X8_later_0 21 rfl
theorem dX8_later_41 : decode cX8_later 41 = .ok (.ifCond .ne 13, 3) := dt_of DA_X8_later_0 22 rfl
theorem dX8_later_44 : decode cX8_later 44 = .ok (.aload 4, 2) := dt_of DA_X8_later_0 23 rfl
theorem dX8_later_46 : decode cX8_later 46 = .ok (.getfield 209, 3) := dt_of DA_X8_later_0 24 rfl
theorem dX8_later_49 : decode cX8_later 49 = .ok (.iload_n 1, 1) := dt_of DA_X8_later_0 25 rfl
theorem dX8_later_50 : decode cX8_later 50 = .ok (.iaload, 1) := dt_of DA_X8_later_0 26 rfl
theorem dX8_later_51 : decode cX8_later 51 = .ok (.goto 9, 3) := dt_of DA_X8_later_0 27 rfl
theorem dX8_later_54 : decode cX8_later 54 = .ok (.aload 4, 2) := dt_of DA_X8_later_0 28 rfl
theorem dX8_later_56 : decode cX8_later 56 = .ok (.iload_n 1, 1) := dt_of DA_X8_later_0 29 rfl
theorem dX8_later_57 : decode cX8_later 57 = .ok (.invokevirtual 212, 3) := dt_of DA_X8_later_0 30 rfl
theorem dX8_later_60 : decode cX8_later 60 = .ok (.ireturn, 1) := dt_of DA_X8_later_0 31 rfl
def DT_X8_even_0 : List (Nat × Instr × Nat) := [(0, .aload_n 0, 1), (1, .invokevirtual 155, 3), (4, .ifCond .eq 8, 3), (7, .ldc 159, 2), (9, .goto 10, 3), (12, .aload_n 0, 1), (13, .getfield 60, 3), (16, .invokevirtual 230, 3), (19, .ireturn, 1)]
theorem DA_X8_even_0 : DT_X8_even_0.all (dtf cX8_even) = true := by decide +kernel
theorem dX8_even_0 : decode cX8_even 0 = .ok (.aload_n 0, 1) := dt_of DA_X8_even_0 0 rfl
theorem dX8_even_1 : decode cX8_even 1 = .ok (.invokevirtual 155, 3) := dt_of DA_X8_even_0 1 rfl
theorem dX8_even_4 : decode cX8_even 4 = .ok (.ifCond .eq 8, 3) := dt_of DA_X8_even_0 2 rfl
theorem dX8_even_7 : decode cX8_even 7 = .ok (.ldc 159, 2) := dt_of DA_X8_even_0 3 rfl
theorem dX8_even_9 : decode cX8_even 9 = .ok (.goto 10, 3) := dt_of DA_X8_even_0 4 rfl
theorem dX8_even_12 : decode cX8_even 12 = .ok (.aload_n 0, 1) := dt_of DA_X8_even_0 5 rfl
theorem dX8_even_13 : decode cX8_even 13 = .ok (.getfield 60, 3) := dt_of DA_X8_even_0 6 rfl
theorem dX8_even_16 : decode cX8_even 16 = .ok (.invokevirtual 230, 3) := dt_of DA_X8_even_0 7 rfl
theorem dX8_even_19 : decode cX8_even 19 = .ok (.ireturn, 1) := dt_of DA_X8_even_0 8 rfl
def DT_X8_first_0 : List (Nat × Instr × Nat) := [(0, .aload_n 0, 1), (1, .invokevirtual 155, 3), (4, .ifCond .eq 6, 3), (7, .ldc 159, 2), (9, .ireturn, 1), (10, .iload_n 1, 1), (11, .iconst 0, 1), (12, .iconst 1, 1), (13, .invokestatic 84, 3), (16, .ifCond .eq 14, 3), (19, .aload_n 0, 1), (20, .getfield 60, 3), (23, .iload_n 1, 1), (24, .invokevirtual 233, 3), (27, .goto 5, 3), (30, .ldc 88, 2), (32, .ireturn, 1)]
theorem DA_X8_first_0 : DT_X8_first_0.all (dtf cX8_first) = true := by decide +kernel
theorem dX8_first_0 : decode cX8_first 0 = .ok (.aload_n 0, 1) := dt_of DA_X8_first_0 0 rfl
theorem dX8_first_1 : decode cX8_first 1 = .ok (.invokevirtual 155, 3) := dt_of DA_X8_first_0 1 rfl
theorem dX8_first_4 : decode cX8_first 4 = .ok (.ifCond .eq 6, 3) := dt_of DA_X8_first_0 2 rfl
theorem dX8_first_7 : decode cX8_first 7 = .ok (.ldc 159, 2) := dt_of DA_X8_first_0 3 rfl
theorem dX8_first_9 : decode cX8_first 9 = .ok (.ireturn, 1) := dt_of DA_X8_first_0 4 rfl
theorem dX8_first_10 : decode cX8_first 10 = .ok (.iload_n 1, 1) := dt_of DA_X8_first_0 5 rfl
theorem dX8_first_11 : decode cX8_first 11 = .ok (.iconst 0, 1) := dt_of DA_X8_first_0 6 rfl
theorem dX8_first_12 : decode cX8_first 12 = .ok (.iconst 1, 1) := dt_of DA_X8_first_0 7 rfl
theorem dX8_first_13 : decode cX8_first 13 = .ok (.invokestatic 84, 3) := dt_of DA_X8_first_0 8 rfl
theorem dX8_first_16 : decode cX8_first 16 = .ok (.ifCond .eq 14, 3) := dt_of DA_X8_first_0 9 rfl
theorem dX8_first_19 : decode cX8_first 19 = .ok (.aload_n 0, 1) := dt_of DA_X8_first_0 10 rfl
theorem dX8_first_20 : decode cX8_first 20 = .ok (.getfield 60, 3) := dt_of DA_X8_first_0 11 rfl
theorem dX8_first_23 : decode cX8_first 23 = .ok (.iload_n 1, 1) := dt_of DA_X8_first_0 12 rfl
theorem dX8_first_24 : decode cX8_first 24 = .ok (.invokevirtual 233, 3) := dt_of DA_X8_first_0 13 rfl
theorem dX8_first_27 : decode cX8_first 27 = .ok (.goto 5, 3) := dt_of DA_X8_first_0 14 rfl
theorem dX8_first_30 : decode cX8_first 30 = .ok (.ldc 88, 2) := dt_of DA_X8_first_0 15 rfl
theorem dX8_first_32 : decode cX8_first 32 = .ok (.ireturn, 1) := dt_of DA_X8_first_0 16 rfl
def DT_X8_payments_0 : List (Nat × Instr × Nat) := [(0, .aload_n 0, 1), (1, .invokevirtual 155, 3), (4, .ifCond .eq 6, 3), (7, .ldc 159, 2), (9, .ireturn, 1), (10, .iload_n 1, 1), (11, .iconst 0, 1), (12, .iconst 1, 1), (13, .invokestatic 84, 3), (16, .ifCond .ne 6, 3), (19, .ldc 88, 2), (21, .ireturn, 1), (22, .iload_n 1, 1), (23, .ifCond .ne 17, 3), (26, .aload_n 0, 1), (27, .getfield 67, 3), (30, .aload_n 0, 1), (31, .getfield 26, 3), (34, .invokevirtual 236, 3), (37, .goto 14, 3), (40, .aload_n 0, 1), (41, .getfield 67, 3), (44, .aload_n 0, 1), (45, .getfield 26, 3), (48, .invokevirtual 240, 3), (51, .ireturn, 1)]
theorem DA_X8_payments_0 : DT_X8_payments_0.all (dtf cX8_payments) = true := by decide +kernel
theorem dX8_payments_0 : decode cX8_payments 0 = .ok (.aload_n 0, 1) := dt_of DA_X8_payments_0 0 rfl
theorem dX8_payments_1 : decode cX8_payments 1 = .ok (.invokevirtual 155, 3) := dt_of DA_X8_payments_0 1 rfl
theorem dX8_payments_4 : decode cX8_payments 4 = .ok (.ifCond .eq 6, 3) := dt_of DA_X8_payments_0 2 rfl
theorem dX8_payments_7 : decode cX8_payments 7 = .ok (.ldc 159, 2) := dt_of DA_X8_payments_0 3 rfl
theorem dX8_payments_9 : decode cX8_payments 9 = .ok (.ireturn, 1) := dt_of DA_X8_payments_0 4 rfl
theorem dX8_payments_10 : decode cX8_payments 10 = .ok (.iload_n 1, 1) := dt_of DA_X8_payments_0 5 rfl
theorem dX8_payments_11 : decode cX8_payments 11 = .ok (.iconst 0, 1) := dt_of DA_X8_payments_0 6 rfl
theorem dX8_payments_12 : decode cX8_payments 12 = .ok (.iconst 1, 1) := dt_of DA_X8_payments_0 7 rfl
theorem dX8_payments_13 : decode cX8_payments 13 = .ok (.invokestatic 84, 3) := dt_of DA_X8_payments_0 8 rfl
theorem dX8_payments_16 : decode cX8_payments 16 = .ok (.ifCond .ne 6, 3) := dt_of DA_X8_payments_0 9 rfl
theorem dX8_payments_19 : decode cX8_payments 19 = .ok (.ldc 88, 2) := dt_of DA_X8_payments_0 10 rfl
theorem dX8_payments_21 : decode cX8_payments 21 = .ok (.ireturn, 1) := dt_of DA_X8_payments_0 11 rfl
theorem dX8_payments_22 : decode cX8_payments 22 = .ok (.iload_n 1, 1) := dt_of DA_X8_payments_0 12 rfl
theorem dX8_payments_23 : decode cX8_payments 23 = .ok (.ifCond .ne 17, 3) := dt_of DA_X8_payments_0 13 rfl
theorem dX8_payments_26 : decode cX8_payments 26 = .ok (.aload_n 0, 1) := dt_of DA_X8_payments_0 14 rfl
theorem dX8_payments_27 : decode cX8_payments 27 = .ok (.getfield 67, 3) := dt_of DA_X8_payments_0 15 rfl
theorem dX8_payments_30 : decode cX8_payments 30 = .ok (.aload_n 0, 1) := dt_of DA_X8_payments_0 16 rfl
theorem dX8_payments_31 : decode cX8_payments 31 = .ok (.getfield 26, 3) := dt_of DA_X8_payments_0 17 rfl
theorem dX8_payments_34 : decode cX8_payments 34 = .ok (.invokevirtual 236, 3) := dt_of DA_X8_payments_0 18 rfl
theorem dX8_payments_37 : decode cX8_payments 37 = .ok (.goto 14, 3) := dt_of DA_X8_payments_0 19 rfl
theorem dX8_payments_40 : decode cX8_payments 40 = .ok (.aload_n 0, 1) := dt_of DA_X8_payments_0 20 rfl
theorem dX8_payments_41 : decode cX8_payments 41 = .ok (.getfield 67, 3) := dt_of DA_X8_payments_0 21 rfl
theorem dX8_payments_44 : decode cX8_payments 44 = .ok (.aload_n 0, 1) := dt_of DA_X8_payments_0 22 rfl
theorem dX8_payments_45 : decode cX8_payments 45 = .ok (.getfield 26, 3) := dt_of DA_X8_payments_0 23 rfl
theorem dX8_payments_48 : decode cX8_payments 48 = .ok (.invokevirtual 240, 3) := dt_of DA_X8_payments_0 24 rfl
theorem dX8_payments_51 : decode cX8_payments 51 = .ok (.ireturn, 1) := dt_of DA_X8_payments_0 25 rfl
def DT_X8_circle_0 : List (Nat × Instr × Nat) := [(0, .aload_n 0, 1), (1, .invokevirtual 155, 3), (4, .ifCond .eq 6, 3), (7, .ldc 159, 2), (9, .ireturn, 1), (10, .iload_n 1, 1), (11, .iconst 0, 1), (12, .iconst 1, 1), (13, .invokestatic 84, 3), (16, .ifCond .eq 14, 3), (19, .aload_n 0, 1), (20, .getfield 26, 3), (23, .iload_n 1, 1), (24, .invokevirtual 243, 3), (27, .goto 5, 3), (30, .ldc 88, 2), (32, .ireturn, 1)]
theorem DA_X8_circle_0 : DT_X8_circle_0.all (dtf cX8_circle) = true := by decide +kernel
theorem dX8_circle_0 : decode cX8_circle 0 = .ok (.aload_n 0, 1) := dt_of DA_X8_circle_0 0 rfl
theorem dX8_circle_1 : decode cX8_circle 1 = .ok (.invokevirtual 155, 3) := dt_of DA_X8_circle_0 1 rfl
theorem dX8_circle_4 : decode cX8_circle 4 = .ok (.ifCond .eq 6, 3) := dt_of DA_X8_circle_0 2 rfl
theorem dX8_circle_7 : decode cX8_circle 7 = .ok (.ldc 159, 2) := dt_of DA_X8_circle_0 3 rfl
theorem dX8_circle_9 : decode cX8_circle 9 = .ok (.ireturn, 1) := dt_of DA_X8_circle_0 4 rfl
theorem dX8_circle_10 : decode cX8_circle 10 = .ok (.iload_n 1, 1) := dt_of DA_X8_circle_0 5 rfl
theorem dX8_circle_11 : decode cX8_circle 11 = .ok (.iconst 0, 1) := dt_of DA_X8_circle_0 6 rfl
theorem dX8_circle_12 : decode cX8_circle 12 = .ok (.iconst 1, 1) := dt_of DA_X8_circle_0 7 rfl
theorem dX8_circle_13 : decode cX8_circle 13 = .ok (.invokestatic 84, 3) := dt_of DA_X8_circle_0 8 rfl
theorem dX8_circle_16 : decode cX8_circle 16 = .ok (.ifCond .eq 14, 3) := dt_of DA_X8_circle_0 9 rfl
theorem dX8_circle_19 : decode cX8_circle 19 = .ok (.aload_n 0, 1) := dt_of DA_X8_circle_0 10 rfl
theorem dX8_circle_20 : decode cX8_circle 20 = .ok (.getfield 26, 3) := dt_of DA_X8_circle_0 11 rfl
theorem dX8_circle_23 : decode cX8_circle 23 = .ok (.iload_n 1, 1) := dt_of DA_X8_circle_0 12 rfl
theorem dX8_circle_24 : decode cX8_circle 24 = .ok (.invokevirtual 243, 3) := dt_of DA_X8_circle_0 13 rfl
theorem dX8_circle_27 : decode cX8_circle 27 = .ok (.goto 5, 3) := dt_of DA_X8_circle_0 14 rfl
theorem dX8_circle_30 : decode cX8_circle 30 = .ok (.ldc 88, 2) := dt_of DA_X8_circle_0 15 rfl
theorem dX8_circle_32 : decode cX8_circle 32 = .ok (.ireturn, 1) := dt_of DA_X8_circle_0 16 rfl
def DT_X8_more_0 : List (Nat × Instr × Nat) := [(0, .aload_n 0, 1), (1, .iload_n 1, 1), (2, .invokevirtual 194, 3), (5, .ifCond .eq 13, 3), (8, .iload_n 2, 1), (9, .iconst 1, 1), (10, .bipush 30, 2), (12, .invokestatic 84, 3), (15, .ifCond .ne 6, 3), (18, .ldc 88, 2), (20, .ireturn, 1), (21, .aload_n 0, 1), (22, .getfield 60, 3), (25, .iload_n 1, 1), (26, .iload_n 2, 1), (27, .invokevirtual 246, 3), (30, .ireturn, 1)]
theorem DA_X8_more_0 : DT_X8_more_0.all (dtf cX8_more) = true := by decide +kernel
theorem dX8_more_0 : decode cX8_more 0 = .ok (.aload_n 0, 1) := dt_of DA_X8_more_0 0 rfl
theorem dX8_more_1 : decode cX8_more 1 = .ok (.iload_n 1, 1) := dt_of DA_X8_more_0 1 rfl
theorem dX8_more_2 : decode cX8_more 2 = .ok (.invokevirtual 194, 3) := dt_of DA_X8_more_0 2 rfl
theorem dX8_more_5 : decode cX8_more 5 = .ok (.ifCond .eq 13, 3) := dt_of DA_X8_more_0 3 rfl
theorem dX8_more_8 : decode cX8_more 8 = .ok (.iload_n 2, 1) := dt_of DA_X8_more_0 4 rfl
theorem dX8_more_9 : decode cX8_more 9 = .ok (.iconst 1, 1) := dt_of DA_X8_more_0 5 rfl
theorem dX8_more_10 : decode cX8_more 10 = .ok (.bipush 30, 2) := dt_of DA_X8_more_0 6 rfl
theorem dX8_more_12 : decode cX8_more 12 = .ok (.invokestatic 84, 3) := dt_of DA_X8_more_0 7 rfl
theorem dX8_more_15 : decode cX8_more 15 = .ok (.ifCond .ne 6, 3) := dt_of DA_X8_more_0 8 rfl
theorem dX8_more_18 : decode cX8_more 18 = .ok (.ldc 88, 2) := dt_of DA_X8_more_0 9 rfl
theorem dX8_more_20 : decode cX8_more 20 = .ok (.ireturn, 1) := dt_of DA_X8_more_0 10 rfl
theorem dX8_more_21 : decode cX8_more 21 = .ok (.aload_n 0, 1) := dt_of DA_X8_more_0 11 rfl
theorem dX8_more_22 : decode cX8_more 22 = .ok (.getfield 60, 3) := dt_of DA_X8_more_0 12 rfl
theorem dX8_more_25 : decode cX8_more 25 = .ok (.iload_n 1, 1) := dt_of DA_X8_more_0 13 rfl
theorem dX8_more_26 : decode cX8_more 26 = .ok (.iload_n 2, 1) := dt_of DA_X8_more_0 14 rfl
theorem dX8_more_27 : decode cX8_more 27 = .ok (.invokevirtual 246, 3) := dt_of DA_X8_more_0 15 rfl
theorem dX8_more_30 : decode cX8_more 30 = .ok (.ireturn, 1) := dt_of DA_X8_more_0 16 rfl
def DT_X8_fits_0 : List (Nat × Instr × Nat) := [(0, .aload_n 0, 1), (1, .iload_n 1, 1), (2, .iload_n 2, 1), (3, .invokevirtual 174, 3), (6, .ifCond .eq 31, 3), (9, .iload_n 3, 1), (10, .invokestatic 80, 3), (13, .ifCond .eq 24, 3), (16, .iload 5, 2), (18, .iconst 1, 1), (19, .bipush 12, 2), (21, .invokestatic 84, 3), (24, .ifCond .eq 13, 3), (27, .iload 6, 2), (29, .iconst 0, 1), (30, .iconst 3, 1), (31, .invokestatic 84, 3), (34, .ifCond .ne 6, 3), (37, .ldc 88, 2), (39, .ireturn, 1), (40, .aload_n 0, 1), (41, .getfield 10, 3), (44, .getfield 100, 3), (47, .iload_n 3, 1), (48, .baload, 1), (49, .ifCond .ne 9, 3), (52, .aload_n 0, 1), (53, .iconst 1, 1), (54, .invokevirtual 89, 3), (57, .ireturn, 1), (58, .aload_n 0, 1), (59, .getfield 10, 3), (62, .iload_n 3, 1), (63, .iload 4, 2), (65, .iload 5, 2), (67, .invokevirtual 103, 3), (70, .ifCond .ne 9, 3), (73, .aload_n 0, 1), (74, .iconst 2, 1), (75, .invokevirtual 89, 3), (78, .ireturn, 1), (79, .aload_n 0, 1), (80, .aload_n 0, 1), (81, .getfield 60, 3), (84, .iload_n 1, 1), (85, .iload_n 2, 1), (86, .aload_n 0, 1), (87, .getfield 10, 3), (90, .getfield 114, 3), (93, .iload_n 3, 1), (94, .aaload, 1), (95, .iload 4, 2), (97, .iload 5, 2), (99, .iload 6, 2), (101, .invokevirtual 249, 3), (104, .invokevirtual 97, 3), (107, .ireturn, 1)]
theorem DA_X8_fits_0 : DT_X8_fits_0.all (dtf cX8_fits) = true := by decide +kernel
theorem dX8_fits_0 : decode cX8_fits 0 = .ok (.aload_n 0, 1) := dt_of DA_X8_fits_0 0 rfl
theorem dX8_fits_1 : decode cX8_fits 1 = .ok (.iload_n 1, 1) := dt_of DA_X8_fits_0 1 rfl
theorem dX8_fits_2 : decode cX8_fits 2 = .ok (.iload_n 2, 1) := dt_of DA_X8_fits_0 2 rfl
theorem dX8_fits_3 : decode cX8_fits 3 = .ok (.invokevirtual 174, 3) := dt_of DA_X8_fits_0 3 rfl
theorem dX8_fits_6 : decode cX8_fits 6 = .ok (.ifCond .eq 31, 3) := dt_of DA_X8_fits_0 4 rfl
theorem dX8_fits_9 : decode cX8_fits 9 = .ok (.iload_n 3, 1) := dt_of DA_X8_fits_0 5 rfl
theorem dX8_fits_10 : decode cX8_fits 10 = .ok (.invokestatic 80, 3) := dt_of DA_X8_fits_0 6 rfl
theorem dX8_fits_13 : decode cX8_fits 13 = .ok (.ifCond .eq 24, 3) := dt_of DA_X8_fits_0 7 rfl
theorem dX8_fits_16 : decode cX8_fits 16 = .ok (.iload 5, 2) := dt_of DA_X8_fits_0 8 rfl
theorem dX8_fits_18 : decode cX8_fits 18 = .ok (.iconst 1, 1) := dt_of DA_X8_fits_0 9 rfl
theorem dX8_fits_19 : decode cX8_fits 19 = .ok (.bipush 12, 2) := dt_of DA_X8_fits_0 10 rfl
theorem dX8_fits_21 : decode cX8_fits 21 = .ok (.invokestatic 84, 3) := dt_of DA_X8_fits_0 11 rfl
theorem dX8_fits_24 : decode cX8_fits 24 = .ok (.ifCond .eq 13, 3) := dt_of DA_X8_fits_0 12 rfl
theorem dX8_fits_27 : decode cX8_fits 27 = .ok (.iload 6, 2) := dt_of DA_X8_fits_0 13 rfl
theorem dX8_fits_29 : decode cX8_fits 29 = .ok (.iconst 0, 1) := dt_of DA_X8_fits_0 14 rfl
theorem dX8_fits_30 : decode cX8_fits 30 = .ok (.iconst 3, 1) := dt_of DA_X8_fits_0 15 rfl
theorem dX8_fits_31 : decode cX8_fits 31 = .ok (.invokestatic 84, 3) := dt_of DA_X8_fits_0 16 rfl
theorem dX8_fits_34 : decode cX8_fits 34 = .ok (.ifCond .ne 6, 3) := dt_of DA_X8_fits_0 17 rfl
theorem dX8_fits_37 : decode cX8_fits 37 = .ok (.ldc 88, 2) := dt_of DA_X8_fits_0 18 rfl
theorem dX8_fits_39 : decode cX8_fits 39 = .ok (.ireturn, 1) := dt_of DA_X8_fits_0 19 rfl
theorem dX8_fits_40 : decode cX8_fits 40 = .ok (.aload_n 0, 1) := dt_of DA_X8_fits_0 20 rfl
theorem dX8_fits_41 : decode cX8_fits 41 = .ok (.getfield 10, 3) := dt_of DA_X8_fits_0 21 rfl
theorem dX8_fits_44 : decode cX8_fits 44 = .ok (.getfield 100, 3) := dt_of DA_X8_fits_0 22 rfl
theorem dX8_fits_47 : decode cX8_fits 47 = .ok (.iload_n 3, 1) := dt_of DA_X8_fits_0 23 rfl
theorem dX8_fits_48 : decode cX8_fits 48 = .ok (.baload, 1) := dt_of DA_X8_fits_0 24 rfl
theorem dX8_fits_49 : decode cX8_fits 49 = .ok (.ifCond .ne 9, 3) := dt_of DA_X8_fits_0 25 rfl
theorem dX8_fits_52 : decode cX8_fits 52 = .ok (.aload_n 0, 1) := dt_of DA_X8_fits_0 26 rfl
theorem dX8_fits_53 : decode cX8_fits 53 = .ok (.iconst 1, 1) := dt_of DA_X8_fits_0 27 rfl
theorem dX8_fits_54 : decode cX8_fits 54 = .ok (.invokevirtual 89, 3) := dt_of DA_X8_fits_0 28 rfl
theorem dX8_fits_57 : decode cX8_fits 57 = .ok (.ireturn, 1) := dt_of DA_X8_fits_0 29 rfl
theorem dX8_fits_58 : decode cX8_fits 58 = .ok (.aload_n 0, 1) := dt_of DA_X8_fits_0 30 rfl
theorem dX8_fits_59 : decode cX8_fits 59 = .ok (.getfield 10, 3) := dt_of DA_X8_fits_0 31 rfl
theorem dX8_fits_62 : decode cX8_fits 62 = .ok (.iload_n 3, 1) := dt_of DA_X8_fits_0 32 rfl
theorem dX8_fits_63 : decode cX8_fits 63 = .ok (.iload 4, 2) := dt_of DA_X8_fits_0 33 rfl
theorem dX8_fits_65 : decode cX8_fits 65 = .ok (.iload 5, 2) := dt_of DA_X8_fits_0 34 rfl
theorem dX8_fits_67 : decode cX8_fits 67 = .ok (.invokevirtual 103, 3) := dt_of DA_X8_fits_0 35 rfl
theorem dX8_fits_70 : decode cX8_fits 70 = .ok (.ifCond .ne 9, 3) := dt_of DA_X8_fits_0 36 rfl
theorem dX8_fits_73 : decode cX8_fits 73 = .ok (.aload_n 0, 1) := dt_of DA_X8_fits_0 37 rfl
theorem dX8_fits_74 : decode cX8_fits 74 = .ok (.iconst 2, 1) := dt_of DA_X8_fits_0 38 rfl
theorem dX8_fits_75 : decode cX8_fits 75 = .ok (.invokevirtual 89, 3) := dt_of DA_X8_fits_0 39 rfl
theorem dX8_fits_78 : decode cX8_fits 78 = .ok (.ireturn, 1) := dt_of DA_X8_fits_0 40 rfl
theorem dX8_fits_79 : decode cX8_fits 79 = .ok (.aload_n 0, 1) := dt_of DA_X8_fits_0 41 rfl
theorem dX8_fits_80 : decode cX8_fits 80 = .ok (.aload_n 0, 1) := dt_of DA_X8_fits_0 42 rfl
theorem dX8_fits_81 : decode cX8_fits 81 = .ok (.getfield 60, 3) := dt_of DA_X8_fits_0 43 rfl
theorem dX8_fits_84 : decode cX8_fits 84 = .ok (.iload_n 1, 1) := dt_of DA_X8_fits_0 44 rfl
theorem dX8_fits_85 : decode cX8_fits 85 = .ok (.iload_n 2, 1) := dt_of DA_X8_fits_0 45 rfl
theorem dX8_fits_86 : decode cX8_fits 86 = .ok (.aload_n 0, 1) := dt_of DA_X8_fits_0 46 rfl
theorem dX8_fits_87 : decode cX8_fits 87 = .ok (.getfield 10, 3) := dt_of DA_X8_fits_0 47 rfl
theorem dX8_fits_90 : decode cX8_fits 90 = .ok (.getfield 114, 3) := dt_of DA_X8_fits_0 48 rfl
theorem dX8_fits_93 : decode cX8_fits 93 = .ok (.iload_n 3, 1) := dt_of DA_X8_fits_0 49 rfl
theorem dX8_fits_94 : decode cX8_fits 94 = .ok (.aaload, 1) := dt_of DA_X8_fits_0 50 rfl
theorem dX8_fits_95 : decode cX8_fits 95 = .ok (.iload 4, 2) := dt_of DA_X8_fits_0 51 rfl
theorem dX8_fits_97 : decode cX8_fits 97 = .ok (.iload 5, 2) := dt_of DA_X8_fits_0 52 rfl
theorem dX8_fits_99 : decode cX8_fits 99 = .ok (.iload 6, 2) := dt_of DA_X8_fits_0 53 rfl
theorem dX8_fits_101 : decode cX8_fits 101 = .ok (.invokevirtual 249, 3) := dt_of DA_X8_fits_0 54 rfl
theorem dX8_fits_104 : decode cX8_fits 104 = .ok (.invokevirtual 97, 3) := dt_of DA_X8_fits_0 55 rfl
theorem dX8_fits_107 : decode cX8_fits 107 = .ok (.ireturn, 1) := dt_of DA_X8_fits_0 56 rfl
def DT_X8_stones_0 : List (Nat × Instr × Nat) := [(0, .aload_n 0, 1), (1, .iload_n 1, 1), (2, .invokevirtual 194, 3), (5, .ifCond .eq 22, 3), (8, .iload_n 2, 1), (9, .iconst 0, 1), (10, .bipush 10, 2), (12, .invokestatic 84, 3), (15, .ifCond .eq 12, 3), (18, .iload_n 3, 1), (19, .iconst 0, 1), (20, .iconst 1, 1), (21, .invokestatic 84, 3), (24, .ifCond .ne 6, 3), (27, .ldc 88, 2), (29, .ireturn, 1), (30, .aload_n 0, 1), (31, .getfield 60, 3), (34, .iload_n 1, 1), (35, .iload_n 2, 1), (36, .invokevirtual 253, 3), (39, .istore 4, 2), (41, .bipush 10, 2), (43, .aload_n 0, 1), (44, .getfield 26, 3), (47, .getfield 149, 3), (50, .invokestatic 256, 3), (53, .istore 5, 2), (55, .iload 4, 2), (57, .iload 5, 2), (59, .invokestatic 259, 3), (62, .istore 6, 2), (64, .iload_n 3, 1), (65, .ifCond .ne 8, 3), (68, .iload 4, 2), (70, .goto 5, 3), (73, .iload 5, 2), (75, .iconst 1, 1), (76, .iload 6, 2), (78, .invokestatic 221, 3), (81, .idiv, 1), (82, .ireturn, 1)]
theorem DA_X8_stones_0 : DT_X8_stones_0.all (dtf cX8_stones) = true := by decide +kernel
theorem dX8_stones_0 : decode cX8_stones 0 = .ok (.aload_n 0, 1) := dt_of DA_X8_stones_0 0 rfl
theorem dX8_stones_1 : decode cX8_stones 1 = .ok (.iload_n 1, 1) := dt_of DA_X8_stones_0 1 rfl
theorem dX8_stones_2 : decode cX8_stones 2 = .ok (.invokevirtual 194, 3) := dt_of DA_X8_stones_0 2 rfl
theorem dX8_stones_5 : decode cX8_stones 5 = .ok (.ifCond .eq 22, 3) := dt_of DA_X8_stones_0 3 rfl
theorem dX8_stones_8 : decode cX8_stones 8 = .ok (.iload_n 2, 1) := dt_of DA_X8_stones_0 4 rfl
theorem dX8_stones_9 : decode cX8_stones 9 = .ok (.iconst 0, 1) := dt_of DA_X8_stones_0 5 rfl
theorem dX8_stones_10 : decode cX8_stones 10 = .ok (.bipush 10, 2) := dt_of DA_X8_stones_0 6 rfl
theorem dX8_stones_12 : decode cX8_stones 12 = .ok (.invokestatic 84, 3) := dt_of DA_X8_stones_0 7 rfl
theorem dX8_stones_15 : decode cX8_stones 15 = .ok (.ifCond .eq 12, 3) := dt_of DA_X8_stones_0 8 rfl
theorem dX8_stones_18 : decode cX8_stones 18 = .ok (.iload_n 3, 1) := dt_of DA_X8_stones_0 9 rfl
theorem dX8_stones_19 : decode cX8_stones 19 = .ok (.iconst 0, 1) := dt_of DA_X8_stones_0 10 rfl
theorem dX8_stones_20 : decode cX8_stones 20 = .ok (.iconst 1, 1) := dt_of DA_X8_stones_0 11 rfl
theorem dX8_stones_21 : decode cX8_stones 21 = .ok (.invokestatic 84, 3) := dt_of DA_X8_stones_0 12 rfl
theorem dX8_stones_24 : decode cX8_stones 24 = .ok (.ifCond .ne 6, 3) := dt_of DA_X8_stones_0 13 rfl
theorem dX8_stones_27 : decode cX8_stones 27 = .ok (.ldc 88, 2) := dt_of DA_X8_stones_0 14 rfl
theorem dX8_stones_29 : decode cX8_stones 29 = .ok (.ireturn, 1) := dt_of DA_X8_stones_0 15 rfl
theorem dX8_stones_30 : decode cX8_stones 30 = .ok (.aload_n 0, 1) := dt_of DA_X8_stones_0 16 rfl
theorem dX8_stones_31 : decode cX8_stones 31 = .ok (.getfield 60, 3) := dt_of DA_X8_stones_0 17 rfl
theorem dX8_stones_34 : decode cX8_stones 34 = .ok (.iload_n 1, 1) := dt_of DA_X8_stones_0 18 rfl
theorem dX8_stones_35 : decode cX8_stones 35 = .ok (.iload_n 2, 1) := dt_of DA_X8_stones_0 19 rfl
theorem dX8_stones_36 : decode cX8_stones 36 = .ok (.invokevirtual 253, 3) := dt_of DA_X8_stones_0 20 rfl
theorem dX8_stones_39 : decode cX8_stones 39 = .ok (.istore 4, 2) := dt_of DA_X8_stones_0 21 rfl
theorem dX8_stones_41 : decode cX8_stones 41 = .ok (.bipush 10, 2) := dt_of DA_X8_stones_0 22 rfl
theorem dX8_stones_43 : decode cX8_stones 43 = .ok (.aload_n 0, 1) := dt_of DA_X8_stones_0 23 rfl
theorem dX8_stones_44 : decode cX8_stones 44 = .ok (.getfield 26, 3) := dt_of DA_X8_stones_0 24 rfl
theorem dX8_stones_47 : decode cX8_stones 47 = .ok (.getfield 149, 3) := dt_of DA_X8_stones_0 25 rfl
theorem dX8_stones_50 : decode cX8_stones 50 = .ok (.invokestatic 256, 3) := dt_of DA_X8_stones_0 26 rfl
theorem dX8_stones_53 : decode cX8_stones 53 = .ok (.istore 5, 2) := dt_of DA_X8_stones_0 27 rfl
theorem dX8_stones_55 : decode cX8_stones 55 = .ok (.iload 4, 2) := dt_of DA_X8_stones_0 28 rfl
theorem dX8_stones_57 : decode cX8_stones 57 = .ok (.iload 5, 2) := dt_of DA_X8_stones_0 29 rfl
theorem dX8_stones_59 : decode cX8_stones 59 = .ok (.invokestatic 259, 3) := dt_of DA_X8_stones_0 30 rfl
theorem dX8_stones_62 : decode cX8_stones 62 = .ok (.istore 6, 2) := dt_of DA_X8_stones_0 31 rfl
theorem dX8_stones_64 : decode cX8_stones 64 = .ok (.iload_n 3, 1) := dt_of DA_X8_stones_0 32 rfl
theorem dX8_stones_65 : decode cX8_stones 65 = .ok (.ifCond .ne 8, 3) := dt_of DA_X8_stones_0 33 rfl
theorem dX8_stones_68 : decode cX8_stones 68 = .ok (.iload 4, 2) := dt_of DA_X8_stones_0 34 rfl
theorem dX8_stones_70 : decode cX8_stones 70 = .ok (.goto 5, 3) := dt_of DA_X8_stones_0 35 rfl
theorem dX8_stones_73 : decode cX8_stones 73 = .ok (.iload 5, 2) := dt_of DA_X8_stones_0 36 rfl
theorem dX8_stones_75 : decode cX8_stones 75 = .ok (.iconst 1, 1) := dt_of DA_X8_stones_0 37 rfl
theorem dX8_stones_76 : decode cX8_stones 76 = .ok (.iload 6, 2) := dt_of DA_X8_stones_0 38 rfl
theorem dX8_stones_78 : decode cX8_stones 78 = .ok (.invokestatic 221, 3) := dt_of DA_X8_stones_0 39 rfl
theorem dX8_stones_81 : decode cX8_stones 81 = .ok (.idiv, 1) := dt_of DA_X8_stones_0 40 rfl
theorem dX8_stones_82 : decode cX8_stones 82 = .ok (.ireturn, 1) := dt_of DA_X8_stones_0 41 rfl
def DT_X8_drawn_0 : List (Nat × Instr × Nat) := [(0, .aload_n 0, 1), (1, .invokevirtual 155, 3), (4, .ifCond .eq 6, 3), (7, .ldc 159, 2), (9, .ireturn, 1), (10, .iload_n 1, 1), (11, .iconst 0, 1), (12, .bipush 60, 2), (14, .invokestatic 84, 3), (17, .ifCond .eq 23, 3), (20, .iload_n 2, 1), (21, .iconst 1, 1), (22, .ldc_w 262, 3), (25, .invokestatic 84, 3), (28, .ifCond .eq 12, 3), (31, .iload_n 3, 1), (32, .iconst 0, 1), (33, .iconst 1, 1), (34, .invokestatic 84, 3), (37, .ifCond .ne 6, 3), (40, .ldc 88, 2), (42, .ireturn, 1), (43, .aload_n 0, 1), (44, .getfield 60, 3), (47, .iload_n 1, 1), (48, .iload_n 2, 1), (49, .invokevirtual 263, 3), (52, .astore 4, 2), (54, .iload_n 3, 1), (55, .ifCond .ne 19, 3), (58, .aload 4, 2), (60, .invokevirtual 267, 3), (63, .aload_n 0, 1), (64, .getfield 26, 3), (67, .invokevirtual 267, 3), (70, .isub, 1), (71, .goto 8, 3), (74, .aload 4, 2), (76, .invokevirtual 170, 3), (79, .ireturn, 1)]
theorem DA_X8_drawn_0 : DT_X8_drawn_0.all (dtf cX8_drawn) = true := by decide +kernel
theorem dX8_drawn_0 : decode cX8_drawn 0 = .ok (.aload_n 0, 1) := dt_of DA_X8_drawn_0 0 rfl
theorem dX8_drawn_1 : decode cX8_drawn 1 = .ok (.invokevirtual 155, 3) := dt_of DA_X8_drawn_0 1 rfl
theorem dX8_drawn_4 : decode cX8_drawn 4 = .ok (.ifCond .eq 6, 3) := dt_of DA_X8_drawn_0 2 rfl
theorem dX8_drawn_7 : decode cX8_drawn 7 = .ok (.ldc 159, 2) := dt_of DA_X8_drawn_0 3 rfl
theorem dX8_drawn_9 : decode cX8_drawn 9 = .ok (.ireturn, 1) := dt_of DA_X8_drawn_0 4 rfl
theorem dX8_drawn_10 : decode cX8_drawn 10 = .ok (.iload_n 1, 1) := dt_of DA_X8_drawn_0 5 rfl
theorem dX8_drawn_11 : decode cX8_drawn 11 = .ok (.iconst 0, 1) := dt_of DA_X8_drawn_0 6 rfl
theorem dX8_drawn_12 : decode cX8_drawn 12 = .ok (.bipush 60, 2) := dt_of DA_X8_drawn_0 7 rfl
theorem dX8_drawn_14 : decode cX8_drawn 14 = .ok (.invokestatic 84, 3) := dt_of DA_X8_drawn_0 8 rfl
theorem dX8_drawn_17 : decode cX8_drawn 17 = .ok (.ifCond .eq 23, 3) := dt_of DA_X8_drawn_0 9 rfl
theorem dX8_drawn_20 : decode cX8_drawn 20 = .ok (.iload_n 2, 1) := dt_of DA_X8_drawn_0 10 rfl
theorem dX8_drawn_21 : decode cX8_drawn 21 = .ok (.iconst 1, 1) := dt_of DA_X8_drawn_0 11 rfl
theorem dX8_drawn_22 : decode cX8_drawn 22 = .ok (.ldc_w 262, 3) := dt_of DA_X8_drawn_0 12 rfl
theorem dX8_drawn_25 : decode cX8_drawn 25 = .ok (.invokestatic 84, 3) := dt_of DA_X8_drawn_0 13 rfl
theorem dX8_drawn_28 : decode cX8_drawn 28 = .ok (.ifCond .eq 12, 3) := dt_of DA_X8_drawn_0 14 rfl
theorem dX8_drawn_31 : decode cX8_drawn 31 = .ok (.iload_n 3, 1) := dt_of DA_X8_drawn_0 15 rfl
theorem dX8_drawn_32 : decode cX8_drawn 32 = .ok (.iconst 0, 1) := dt_of DA_X8_drawn_0 16 rfl
theorem dX8_drawn_33 : decode cX8_drawn 33 = .ok (.iconst 1, 1) := dt_of DA_X8_drawn_0 17 rfl
theorem dX8_drawn_34 : decode cX8_drawn 34 = .ok (.invokestatic 84, 3) := dt_of DA_X8_drawn_0 18 rfl
theorem dX8_drawn_37 : decode cX8_drawn 37 = .ok (.ifCond .ne 6, 3) := dt_of DA_X8_drawn_0 19 rfl
theorem dX8_drawn_40 : decode cX8_drawn 40 = .ok (.ldc 88, 2) := dt_of DA_X8_drawn_0 20 rfl
theorem dX8_drawn_42 : decode cX8_drawn 42 = .ok (.ireturn, 1) := dt_of DA_X8_drawn_0 21 rfl
theorem dX8_drawn_43 : decode cX8_drawn 43 = .ok (.aload_n 0, 1) := dt_of DA_X8_drawn_0 22 rfl
theorem dX8_drawn_44 : decode cX8_drawn 44 = .ok (.getfield 60, 3) := dt_of DA_X8_drawn_0 23 rfl
theorem dX8_drawn_47 : decode cX8_drawn 47 = .ok (.iload_n 1, 1) := dt_of DA_X8_drawn_0 24 rfl
theorem dX8_drawn_48 : decode cX8_drawn 48 = .ok (.iload_n 2, 1) := dt_of DA_X8_drawn_0 25 rfl
theorem dX8_drawn_49 : decode cX8_drawn 49 = .ok (.invokevirtual 263, 3) := dt_of DA_X8_drawn_0 26 rfl
theorem dX8_drawn_52 : decode cX8_drawn 52 = .ok (.astore 4, 2) := dt_of DA_X8_drawn_0 27 rfl
theorem dX8_drawn_54 : decode cX8_drawn 54 = .ok (.iload_n 3, 1) := dt_of DA_X8_drawn_0 28 rfl
theorem dX8_drawn_55 : decode cX8_drawn 55 = .ok (.ifCond .ne 19, 3) := dt_of DA_X8_drawn_0 29 rfl
theorem dX8_drawn_58 : decode cX8_drawn 58 = .ok (.aload 4, 2) := dt_of DA_X8_drawn_0 30 rfl
theorem dX8_drawn_60 : decode cX8_drawn 60 = .ok (.invokevirtual 267, 3) := dt_of DA_X8_drawn_0 31 rfl
theorem dX8_drawn_63 : decode cX8_drawn 63 = .ok (.aload_n 0, 1) := dt_of DA_X8_drawn_0 32 rfl
theorem dX8_drawn_64 : decode cX8_drawn 64 = .ok (.getfield 26, 3) := dt_of DA_X8_drawn_0 33 rfl
theorem dX8_drawn_67 : decode cX8_drawn 67 = .ok (.invokevirtual 267, 3) := dt_of DA_X8_drawn_0 34 rfl
theorem dX8_drawn_70 : decode cX8_drawn 70 = .ok (.isub, 1) := dt_of DA_X8_drawn_0 35 rfl
theorem dX8_drawn_71 : decode cX8_drawn 71 = .ok (.goto 8, 3) := dt_of DA_X8_drawn_0 36 rfl
theorem dX8_drawn_74 : decode cX8_drawn 74 = .ok (.aload 4, 2) := dt_of DA_X8_drawn_0 37 rfl
theorem dX8_drawn_76 : decode cX8_drawn 76 = .ok (.invokevirtual 170, 3) := dt_of DA_X8_drawn_0 38 rfl
theorem dX8_drawn_79 : decode cX8_drawn 79 = .ok (.ireturn, 1) := dt_of DA_X8_drawn_0 39 rfl
def DT_X8_image_0 : List (Nat × Instr × Nat) := [(0, .iload_n 1, 1), (1, .iconst 0, 1), (2, .iconst 1, 1), (3, .invokestatic 84, 3), (6, .ifCond .ne 6, 3), (9, .ldc 88, 2), (11, .ireturn, 1), (12, .aload_n 0, 1), (13, .invokevirtual 155, 3), (16, .ifCond .eq 6, 3), (19, .ldc 159, 2), (21, .ireturn, 1), (22, .aload_n 0, 1), (23, .getfield 47, 3), (26, .iload_n 1, 1), (27, .aaload, 1), (28, .aload_n 0, 1), (29, .getfield 26, 3), (32, .invokevirtual 143, 3), (35, .aload_n 0, 1), (36, .getfield 51, 3), (39, .iload_n 1, 1), (40, .iconst 1, 1), (41, .bastore, 1), (42, .iconst 1, 1), (43, .ireturn, 1)]
theorem DA_X8_image_0 : DT_X8_image_0.all (dtf cX8_image) = true := by decide +kernel
theorem dX8_image_0 : decode cX8_image 0 = .ok (.iload_n 1, 1) := dt_of DA_X8_image_0 0 rfl
theorem dX8_image_1 : decode cX8_image 1 = .ok (.iconst 0, 1) := dt_of DA_X8_image_0 1 rfl
theorem dX8_image_2 : decode cX8_image 2 = .ok (.iconst 1, 1) := dt_of DA_X8_image_0 2 rfl
theorem dX8_image_3 : decode cX8_image 3 = .ok (.invokestatic 84, 3) := dt_of DA_X8_image_0 3 rfl
theorem dX8_image_6 : decode cX8_image 6 = .ok (.ifCond .ne 6, 3) := dt_of DA_X8_image_0 4 rfl
theorem dX8_image_9 : decode cX8_image 9 = .ok (.ldc 88, 2) := dt_of DA_X8_image_0 5 rfl
theorem dX8_image_11 : decode cX8_image 11 = .ok (.ireturn, 1) := dt_of DA_X8_image_0 6 rfl
theorem dX8_image_12 : decode cX8_image 12 = .ok (.aload_n 0, 1) := dt_of DA_X8_image_0 7 rfl
theorem dX8_image_13 : decode cX8_image 13 = .ok (.invokevirtual 155, 3) := dt_of DA_X8_image_0 8 rfl
theorem dX8_image_16 : decode cX8_image 16 = .ok (.ifCond .eq 6, 3) := dt_of DA_X8_image_0 9 rfl
theorem dX8_image_19 : decode cX8_image 19 = .ok (.ldc 159, 2) := dt_of DA_X8_image_0 10 rfl
theorem dX8_image_21 : decode cX8_image 21 = .ok (.ireturn, 1) := dt_of DA_X8_image_0 11 rfl
theorem dX8_image_22 : decode cX8_image 22 = .ok (.aload_n 0, 1) := dt_of DA_X8_image_0 12 rfl
theorem dX8_image_23 : decode cX8_image 23 = .ok (.getfield 47, 3) := dt_of DA_X8_image_0 13 rfl
theorem dX8_image_26 : decode cX8_image 26 = .ok (.iload_n 1, 1) := dt_of DA_X8_image_0 14 rfl
theorem dX8_image_27 : decode cX8_image 27 = .ok (.aaload, 1) := dt_of DA_X8_image_0 15 rfl
theorem dX8_image_28 : decode cX8_image 28 = .ok (.aload_n 0, 1) := dt_of DA_X8_image_0 16 rfl
theorem dX8_image_29 : decode cX8_image 29 = .ok (.getfield 26, 3) := dt_of DA_X8_image_0 17 rfl
theorem dX8_image_32 : decode cX8_image 32 = .ok (.invokevirtual 143, 3) := dt_of DA_X8_image_0 18 rfl
theorem dX8_image_35 : decode cX8_image 35 = .ok (.aload_n 0, 1) := dt_of DA_X8_image_0 19 rfl
theorem dX8_image_36 : decode cX8_image 36 = .ok (.getfield 51, 3) := dt_of DA_X8_image_0 20 rfl
theorem dX8_image_39 : decode cX8_image 39 = .ok (.iload_n 1, 1) := dt_of DA_X8_image_0 21 rfl
theorem dX8_image_40 : decode cX8_image 40 = .ok (.iconst 1, 1) := dt_of DA_X8_image_0 22 rfl
theorem dX8_image_41 : decode cX8_image 41 = .ok (.bastore, 1) := dt_of DA_X8_image_0 23 rfl
theorem dX8_image_42 : decode cX8_image 42 = .ok (.iconst 1, 1) := dt_of DA_X8_image_0 24 rfl
theorem dX8_image_43 : decode cX8_image 43 = .ok (.ireturn, 1) := dt_of DA_X8_image_0 25 rfl
def DT_X8_restore_0 : List (Nat × Instr × Nat) := [(0, .iload_n 1, 1), (1, .iconst 0, 1), (2, .iconst 1, 1), (3, .invokestatic 84, 3), (6, .ifCond .ne 6, 3), (9, .ldc 88, 2), (11, .ireturn, 1), (12, .aload_n 0, 1), (13, .getfield 51, 3), (16, .iload_n 1, 1), (17, .baload, 1), (18, .ifCond .ne 6, 3), (21, .ldc 159, 2), (23, .ireturn, 1), (24, .aload_n 0, 1), (25, .getfield 26, 3), (28, .aload_n 0, 1), (29, .getfield 47, 3), (32, .iload_n 1, 1), (33, .aaload, 1), (34, .invokevirtual 143, 3), (37, .aload_n 0, 1), (38, .getfield 43, 3), (41, .invokevirtual 146, 3), (44, .iconst 1, 1), (45, .ireturn, 1)]
theorem DA_X8_restore_0 : DT_X8_restore_0.all (dtf cX8_restore) = true := by decide +kernel
theorem dX8_restore_0 : decode cX8_restore 0 = .ok (.iload_n 1, 1) := dt_of DA_X8_restore_0 0 rfl
theorem dX8_restore_1 : decode cX8_restore 1 = .ok (.iconst 0, 1) := dt_of DA_X8_restore_0 1 rfl
theorem dX8_restore_2 : decode cX8_restore 2 = .ok (.iconst 1, 1) := dt_of DA_X8_restore_0 2 rfl
theorem dX8_restore_3 : decode cX8_restore 3 = .ok (.invokestatic 84, 3) := dt_of DA_X8_restore_0 3 rfl
theorem dX8_restore_6 : decode cX8_restore 6 = .ok (.ifCond .ne 6, 3) := dt_of DA_X8_restore_0 4 rfl
theorem dX8_restore_9 : decode cX8_restore 9 = .ok (.ldc 88, 2) := dt_of DA_X8_restore_0 5 rfl
theorem dX8_restore_11 : decode cX8_restore 11 = .ok (.ireturn, 1) := dt_of DA_X8_restore_0 6 rfl
theorem dX8_restore_12 : decode cX8_restore 12 = .ok (.aload_n 0, 1) := dt_of DA_X8_restore_0 7 rfl
theorem dX8_restore_13 : decode cX8_restore 13 = .ok (.getfield 51, 3) := dt_of DA_X8_restore_0 8 rfl
theorem dX8_restore_16 : decode cX8_restore 16 = .ok (.iload_n 1, 1) := dt_of DA_X8_restore_0 9 rfl
theorem dX8_restore_17 : decode cX8_restore 17 = .ok (.baload, 1) := dt_of DA_X8_restore_0 10 rfl
theorem dX8_restore_18 : decode cX8_restore 18 = .ok (.ifCond .ne 6, 3) := dt_of DA_X8_restore_0 11 rfl
theorem dX8_restore_21 : decode cX8_restore 21 = .ok (.ldc 159, 2) := dt_of DA_X8_restore_0 12 rfl
theorem dX8_restore_23 : decode cX8_restore 23 = .ok (.ireturn, 1) := dt_of DA_X8_restore_0 13 rfl
theorem dX8_restore_24 : decode cX8_restore 24 = .ok (.aload_n 0, 1) := dt_of DA_X8_restore_0 14 rfl
theorem dX8_restore_25 : decode cX8_restore 25 = .ok (.getfield 26, 3) := dt_of DA_X8_restore_0 15 rfl
theorem dX8_restore_28 : decode cX8_restore 28 = .ok (.aload_n 0, 1) := dt_of DA_X8_restore_0 16 rfl
theorem dX8_restore_29 : decode cX8_restore 29 = .ok (.getfield 47, 3) := dt_of DA_X8_restore_0 17 rfl
theorem dX8_restore_32 : decode cX8_restore 32 = .ok (.iload_n 1, 1) := dt_of DA_X8_restore_0 18 rfl
theorem dX8_restore_33 : decode cX8_restore 33 = .ok (.aaload, 1) := dt_of DA_X8_restore_0 19 rfl
theorem dX8_restore_34 : decode cX8_restore 34 = .ok (.invokevirtual 143, 3) := dt_of DA_X8_restore_0 20 rfl
theorem dX8_restore_37 : decode cX8_restore 37 = .ok (.aload_n 0, 1) := dt_of DA_X8_restore_0 21 rfl
theorem dX8_restore_38 : decode cX8_restore 38 = .ok (.getfield 43, 3) := dt_of DA_X8_restore_0 22 rfl
theorem dX8_restore_41 : decode cX8_restore 41 = .ok (.invokevirtual 146, 3) := dt_of DA_X8_restore_0 23 rfl
theorem dX8_restore_44 : decode cX8_restore 44 = .ok (.iconst 1, 1) := dt_of DA_X8_restore_0 24 rfl
theorem dX8_restore_45 : decode cX8_restore 45 = .ok (.ireturn, 1) := dt_of DA_X8_restore_0 25 rfl
def DT_X8_kind_0 : List (Nat × Instr × Nat) := [(0, .aload_n 0, 1), (1, .iload_n 1, 1), (2, .invokevirtual 194, 3), (5, .ifCond .eq 15, 3), (8, .aload_n 0, 1), (9, .getfield 26, 3), (12, .getfield 178, 3), (15, .iload_n 1, 1), (16, .iaload, 1), (17, .goto 5, 3), (20, .ldc 88, 2), (22, .ireturn, 1)]
theorem DA_X8_kind_0 : DT_X8_kind_0.all (dtf cX8_kind) = true := by decide +kernel
theorem dX8_kind_0 : decode cX8_kind 0 = .ok (.aload_n 0, 1) := dt_of DA_X8_kind_0 0 rfl
theorem dX8_kind_1 : decode cX8_kind 1 = .ok (.iload_n 1, 1) := dt_of DA_X8_kind_0 1 rfl
theorem dX8_kind_2 : decode cX8_kind 2 = .ok (.invokevirtual 194, 3) := dt_of DA_X8_kind_0 2 rfl
theorem dX8_kind_5 : decode cX8_kind 5 = .ok (.ifCond .eq 15, 3) := dt_of DA_X8_kind_0 3 rfl
theorem dX8_kind_8 : decode cX8_kind 8 = .ok (.aload_n 0, 1) := dt_of DA_X8_kind_0 4 rfl
theorem dX8_kind_9 : decode cX8_kind 9 = .ok (.getfield 26, 3) := dt_of DA_X8_kind_0 5 rfl
theorem dX8_kind_12 : decode cX8_kind 12 = .ok (.getfield 178, 3) := dt_of DA_X8_kind_0 6 rfl
theorem dX8_kind_15 : decode cX8_kind 15 = .ok (.iload_n 1, 1) := dt_of DA_X8_kind_0 7 rfl
theorem dX8_kind_16 : decode cX8_kind 16 = .ok (.iaload, 1) := dt_of DA_X8_kind_0 8 rfl
theorem dX8_kind_17 : decode cX8_kind 17 = .ok (.goto 5, 3) := dt_of DA_X8_kind_0 9 rfl
theorem dX8_kind_20 : decode cX8_kind 20 = .ok (.ldc 88, 2) := dt_of DA_X8_kind_0 10 rfl
theorem dX8_kind_22 : decode cX8_kind 22 = .ok (.ireturn, 1) := dt_of DA_X8_kind_0 11 rfl
def DT_X8_as_0 : List (Nat × Instr × Nat) := [(0, .aload_n 0, 1), (1, .iload_n 1, 1), (2, .invokevirtual 194, 3), (5, .ifCond .eq 12, 3), (8, .iload_n 2, 1), (9, .iconst 0, 1), (10, .iconst 5, 1), (11, .invokestatic 84, 3), (14, .ifCond .ne 6, 3), (17, .ldc 88, 2), (19, .ireturn, 1), (20, .aload_n 0, 1), (21, .getfield 26, 3), (24, .getfield 178, 3), (27, .iload_n 1, 1), (28, .iaload, 1), (29, .iload_n 2, 1), (30, .invokestatic 270, 3), (33, .ifCond .eq 11, 3), (36, .aload_n 0, 1), (37, .iload_n 1, 1), (38, .invokevirtual 97, 3), (41, .goto 8, 3), (44, .aload_n 0, 1), (45, .iconst 3, 1), (46, .invokevirtual 89, 3), (49, .ireturn, 1)]
theorem DA_X8_as_0 : DT_X8_as_0.all (dtf cX8_as) = true := by decide +kernel
theorem dX8_as_0 : decode cX8_as 0 = .ok (.aload_n 0, 1) := dt_of DA_X8_as_0 0 rfl
theorem dX8_as_1 : decode cX8_as 1 = .ok (.iload_n 1, 1) := dt_of DA_X8_as_0 1 rfl
theorem dX8_as_2 : decode cX8_as 2 = .ok (.invokevirtual 194, 3) := dt_of DA_X8_as_0 2 rfl
theorem dX8_as_5 : decode cX8_as 5 = .ok (.ifCond .eq 12, 3) := dt_of DA_X8_as_0 3 rfl
theorem dX8_as_8 : decode cX8_as 8 = .ok (.iload_n 2, 1) := dt_of DA_X8_as_0 4 rfl
theorem dX8_as_9 : decode cX8_as 9 = .ok (.iconst 0, 1) := dt_of DA_X8_as_0 5 rfl
theorem dX8_as_10 : decode cX8_as 10 = .ok (.iconst 5, 1) := dt_of DA_X8_as_0 6 rfl
theorem dX8_as_11 : decode cX8_as 11 = .ok (.invokestatic 84, 3) := dt_of DA_X8_as_0 7 rfl
theorem dX8_as_14 : decode cX8_as 14 = .ok (.ifCond .ne 6, 3) := dt_of DA_X8_as_0 8 rfl
theorem dX8_as_17 : decode cX8_as 17 = .ok (.ldc 88, 2) := dt_of DA_X8_as_0 9 rfl
theorem dX8_as_19 : decode cX8_as 19 = .ok (.ireturn, 1) := dt_of DA_X8_as_0 10 rfl
theorem dX8_as_20 : decode cX8_as 20 = .ok (.aload_n 0, 1) := dt_of DA_X8_as_0 11 rfl
theorem dX8_as_21 : decode cX8_as 21 = .ok (.getfield 26, 3) := dt_of DA_X8_as_0 12 rfl
theorem dX8_as_24 : decode cX8_as 24 = .ok (.getfield 178, 3) := dt_of DA_X8_as_0 13 rfl
theorem dX8_as_27 : decode cX8_as 27 = .ok (.iload_n 1, 1) := dt_of DA_X8_as_0 14 rfl
theorem dX8_as_28 : decode cX8_as 28 = .ok (.iaload, 1) := dt_of DA_X8_as_0 15 rfl
theorem dX8_as_29 : decode cX8_as 29 = .ok (.iload_n 2, 1) := dt_of DA_X8_as_0 16 rfl
theorem dX8_as_30 : decode cX8_as 30 = .ok (.invokestatic 270, 3) := dt_of DA_X8_as_0 17 rfl
theorem dX8_as_33 : decode cX8_as 33 = .ok (.ifCond .eq 11, 3) := dt_of DA_X8_as_0 18 rfl
theorem dX8_as_36 : decode cX8_as 36 = .ok (.aload_n 0, 1) := dt_of DA_X8_as_0 19 rfl
theorem dX8_as_37 : decode cX8_as 37 = .ok (.iload_n 1, 1) := dt_of DA_X8_as_0 20 rfl
theorem dX8_as_38 : decode cX8_as 38 = .ok (.invokevirtual 97, 3) := dt_of DA_X8_as_0 21 rfl
theorem dX8_as_41 : decode cX8_as 41 = .ok (.goto 8, 3) := dt_of DA_X8_as_0 22 rfl
theorem dX8_as_44 : decode cX8_as 44 = .ok (.aload_n 0, 1) := dt_of DA_X8_as_0 23 rfl
theorem dX8_as_45 : decode cX8_as 45 = .ok (.iconst 3, 1) := dt_of DA_X8_as_0 24 rfl
theorem dX8_as_46 : decode cX8_as 46 = .ok (.invokevirtual 89, 3) := dt_of DA_X8_as_0 25 rfl
theorem dX8_as_49 : decode cX8_as 49 = .ok (.ireturn, 1) := dt_of DA_X8_as_0 26 rfl
def DT_X8_ask_0 : List (Nat × Instr × Nat) := [(0, .aload_n 0, 1), (1, .iload_n 1, 1), (2, .invokevirtual 194, 3), (5, .ifCond .eq 12, 3), (8, .iload_n 2, 1), (9, .iconst 0, 1), (10, .iconst 1, 1), (11, .invokestatic 84, 3), (14, .ifCond .ne 6, 3), (17, .ldc 88, 2), (19, .ireturn, 1), (20, .aload_n 0, 1), (21, .getfield 76, 3), (24, .iconst 0, 1), (25, .putfield 273, 3), (28, .iload_n 2, 1), (29, .ifCond .ne 14, 3), (32, .aload_n 0, 1), (33, .getfield 76, 3), (36, .iload_n 1, 1), (37, .invokevirtual 276, 3), (40, .goto 11, 3), (43, .aload_n 0, 1), (44, .getfield 76, 3), (47, .iload_n 1, 1), (48, .invokevirtual 279, 3), (51, .ireturn, 1)]
theorem DA_X8_ask_0 : DT_X8_ask_0.all (dtf cX8_ask) = true := by decide +kernel
theorem dX8_ask_0 : decode cX8_ask 0 = .ok (.aload_n 0, 1) := dt_of DA_X8_ask_0 0 rfl
theorem dX8_ask_1 : decode cX8_ask 1 = .ok (.iload_n 1, 1) := dt_of DA_X8_ask_0 1 rfl
theorem dX8_ask_2 : decode cX8_ask 2 = .ok (.invokevirtual 194, 3) := dt_of DA_X8_ask_0 2 rfl
theorem dX8_ask_5 : decode cX8_ask 5 = .ok (.ifCond .eq 12, 3) := dt_of DA_X8_ask_0 3 rfl
theorem dX8_ask_8 : decode cX8_ask 8 = .ok (.iload_n 2, 1) := dt_of DA_X8_ask_0 4 rfl
theorem dX8_ask_9 : decode cX8_ask 9 = .ok (.iconst 0, 1) := dt_of DA_X8_ask_0 5 rfl
theorem dX8_ask_10 : decode cX8_ask 10 = .ok (.iconst 1, 1) := dt_of DA_X8_ask_0 6 rfl
theorem dX8_ask_11 : decode cX8_ask 11 = .ok (.invokestatic 84, 3) := dt_of DA_X8_ask_0 7 rfl
theorem dX8_ask_14 : decode cX8_ask 14 = .ok (.ifCond .ne 6, 3) := dt_of DA_X8_ask_0 8 rfl
theorem dX8_ask_17 : decode cX8_ask 17 = .ok (.ldc 88, 2) := dt_of DA_X8_ask_0 9 rfl
theorem dX8_ask_19 : decode cX8_ask 19 = .ok (.ireturn, 1) := dt_of DA_X8_ask_0 10 rfl
theorem dX8_ask_20 : decode cX8_ask 20 = .ok (.aload_n 0, 1) := dt_of DA_X8_ask_0 11 rfl
theorem dX8_ask_21 : decode cX8_ask 21 = .ok (.getfield 76, 3) := dt_of DA_X8_ask_0 12 rfl
theorem dX8_ask_24 : decode cX8_ask 24 = .ok (.iconst 0, 1) := dt_of DA_X8_ask_0 13 rfl
theorem dX8_ask_25 : decode cX8_ask 25 = .ok (.putfield 273, 3) := dt_of DA_X8_ask_0 14 rfl
theorem dX8_ask_28 : decode cX8_ask 28 = .ok (.iload_n 2, 1) := dt_of DA_X8_ask_0 15 rfl
theorem dX8_ask_29 : decode cX8_ask 29 = .ok (.ifCond .ne 14, 3) := dt_of DA_X8_ask_0 16 rfl
theorem dX8_ask_32 : decode cX8_ask 32 = .ok (.aload_n 0, 1) := dt_of DA_X8_ask_0 17 rfl
theorem dX8_ask_33 : decode cX8_ask 33 = .ok (.getfield 76, 3) := dt_of DA_X8_ask_0 18 rfl
theorem dX8_ask_36 : decode cX8_ask 36 = .ok (.iload_n 1, 1) := dt_of DA_X8_ask_0 19 rfl
theorem dX8_ask_37 : decode cX8_ask 37 = .ok (.invokevirtual 276, 3) := dt_of DA_X8_ask_0 20 rfl
theorem dX8_ask_40 : decode cX8_ask 40 = .ok (.goto 11, 3) := dt_of DA_X8_ask_0 21 rfl
theorem dX8_ask_43 : decode cX8_ask 43 = .ok (.aload_n 0, 1) := dt_of DA_X8_ask_0 22 rfl
theorem dX8_ask_44 : decode cX8_ask 44 = .ok (.getfield 76, 3) := dt_of DA_X8_ask_0 23 rfl
theorem dX8_ask_47 : decode cX8_ask 47 = .ok (.iload_n 1, 1) := dt_of DA_X8_ask_0 24 rfl
theorem dX8_ask_48 : decode cX8_ask 48 = .ok (.invokevirtual 279, 3) := dt_of DA_X8_ask_0 25 rfl
theorem dX8_ask_51 : decode cX8_ask 51 = .ok (.ireturn, 1) := dt_of DA_X8_ask_0 26 rfl
def DT_X8_trace_0 : List (Nat × Instr × Nat) := [(0, .iload_n 1, 1), (1, .iconst 0, 1), (2, .aload_n 0, 1), (3, .getfield 76, 3), (6, .getfield 273, 3), (9, .iconst 1, 1), (10, .isub, 1), (11, .invokestatic 84, 3), (14, .ifCond .eq 15, 3), (17, .aload_n 0, 1), (18, .getfield 76, 3), (21, .getfield 282, 3), (24, .iload_n 1, 1), (25, .iaload, 1), (26, .goto 6, 3), (29, .ldc_w 285, 3), (32, .ireturn, 1)]
theorem DA_X8_trace_0 : DT_X8_trace_0.all (dtf cX8_trace) = true := by decide +kernel
theorem dX8_trace_0 : decode cX8_trace 0 = .ok (.iload_n 1, 1) := dt_of DA_X8_trace_0 0 rfl
theorem dX8_trace_1 : decode cX8_trace 1 = .ok (.iconst 0, 1) := dt_of DA_X8_trace_0 1 rfl
theorem dX8_trace_2 : decode cX8_trace 2 = .ok (.aload_n 0, 1) := dt_of DA_X8_trace_0 2 rfl
theorem dX8_trace_3 : decode cX8_trace 3 = .ok (.getfield 76, 3) := dt_of DA_X8_trace_0 3 rfl
theorem dX8_trace_6 : decode cX8_trace 6 = .ok (.getfield 273, 3) := dt_of DA_X8_trace_0 4 rfl
theorem dX8_trace_9 : decode cX8_trace 9 = .ok (.iconst 1, 1) := dt_of DA_X8_trace_0 5 rfl
theorem dX8_trace_10 : decode cX8_trace 10 = .ok (.isub, 1) := dt_of DA_X8_trace_0 6 rfl
theorem dX8_trace_11 : decode cX8_trace 11 = .ok (.invokestatic 84, 3) := dt_of DA_X8_trace_0 7 rfl
theorem dX8_trace_14 : decode cX8_trace 14 = .ok (.ifCond .eq 15, 3) := dt_of DA_X8_trace_0 8 rfl
theorem dX8_trace_17 : decode cX8_trace 17 = .ok (.aload_n 0, 1) := dt_of DA_X8_trace_0 9 rfl
theorem dX8_trace_18 : decode cX8_trace 18 = .ok (.getfield 76, 3) := dt_of DA_X8_trace_0 10 rfl
theorem dX8_trace_21 : decode cX8_trace 21 = .ok (.getfield 282, 3) := dt_of DA_X8_trace_0 11 rfl
theorem dX8_trace_24 : decode cX8_trace 24 = .ok (.iload_n 1, 1) := dt_of DA_X8_trace_0 12 rfl
theorem dX8_trace_25 : decode cX8_trace 25 = .ok (.iaload, 1) := dt_of DA_X8_trace_0 13 rfl
theorem dX8_trace_26 : decode cX8_trace 26 = .ok (.goto 6, 3) := dt_of DA_X8_trace_0 14 rfl
theorem dX8_trace_29 : decode cX8_trace 29 = .ok (.ldc_w 285, 3) := dt_of DA_X8_trace_0 15 rfl
theorem dX8_trace_32 : decode cX8_trace 32 = .ok (.ireturn, 1) := dt_of DA_X8_trace_0 16 rfl
def DT_X8_count_0 : List (Nat × Instr × Nat) := [(0, .iload_n 1, 1), (1, .tableswitch 111 0 7 #[47, 55, 63, 71, 79, 87, 95, 103], 47), (48, .aload_n 0, 1), (49, .getfield 10, 3), (52, .invokevirtual 286, 3), (55, .ireturn, 1), (56, .aload_n 0, 1), (57, .getfield 26, 3), (60, .getfield 149, 3), (63, .ireturn, 1), (64, .aload_n 0, 1), (65, .getfield 26, 3), (68, .getfield 160, 3), (71, .ireturn, 1), (72, .aload_n 0, 1), (73, .getfield 26, 3), (76, .getfield 289, 3), (79, .ireturn, 1), (80, .aload_n 0, 1), (81, .getfield 26, 3), (84, .invokevirtual 170, 3), (87, .ireturn, 1), (88, .aload_n 0, 1), (89, .getfield 26, 3), (92, .invokevirtual 267, 3), (95, .ireturn, 1), (96, .aload_n 0, 1), (97, .getfield 43, 3), (100, .getfield 200, 3), (103, .ireturn, 1), (104, .aload_n 0, 1), (105, .getfield 19, 3), (108, .getfield 130, 3), (111, .ireturn, 1), (112, .ldc 88, 2), (114, .ireturn, 1)]
theorem DA_X8_count_0 : DT_X8_count_0.all (dtf cX8_count) = true := by decide +kernel
theorem dX8_count_0 : decode cX8_count 0 = .ok (.iload_n 1, 1) := dt_of DA_X8_count_0 0 rfl
theorem dX8_count_1 : decode cX8_count 1 = .ok (.tableswitch 111 0 7 #[47, 55, 63, 71, 79, 87, 95, 103], 47) := dt_of DA_X8_count_0 1 rfl
theorem dX8_count_48 : decode cX8_count 48 = .ok (.aload_n 0, 1) := dt_of DA_X8_count_0 2 rfl
theorem dX8_count_49 : decode cX8_count 49 = .ok (.getfield 10, 3) := dt_of DA_X8_count_0 3 rfl
theorem dX8_count_52 : decode cX8_count 52 = .ok (.invokevirtual 286, 3) := dt_of DA_X8_count_0 4 rfl
theorem dX8_count_55 : decode cX8_count 55 = .ok (.ireturn, 1) := dt_of DA_X8_count_0 5 rfl
theorem dX8_count_56 : decode cX8_count 56 = .ok (.aload_n 0, 1) := dt_of DA_X8_count_0 6 rfl
theorem dX8_count_57 : decode cX8_count 57 = .ok (.getfield 26, 3) := dt_of DA_X8_count_0 7 rfl
theorem dX8_count_60 : decode cX8_count 60 = .ok (.getfield 149, 3) := dt_of DA_X8_count_0 8 rfl
theorem dX8_count_63 : decode cX8_count 63 = .ok (.ireturn, 1) := dt_of DA_X8_count_0 9 rfl
theorem dX8_count_64 : decode cX8_count 64 = .ok (.aload_n 0, 1) := dt_of DA_X8_count_0 10 rfl
theorem dX8_count_65 : decode cX8_count 65 = .ok (.getfield 26, 3) := dt_of DA_X8_count_0 11 rfl
theorem dX8_count_68 : decode cX8_count 68 = .ok (.getfield 160, 3) := dt_of DA_X8_count_0 12 rfl
theorem dX8_count_71 : decode cX8_count 71 = .ok (.ireturn, 1) := dt_of DA_X8_count_0 13 rfl
theorem dX8_count_72 : decode cX8_count 72 = .ok (.aload_n 0, 1) := dt_of DA_X8_count_0 14 rfl
theorem dX8_count_73 : decode cX8_count 73 = .ok (.getfield 26, 3) := dt_of DA_X8_count_0 15 rfl
theorem dX8_count_76 : decode cX8_count 76 = .ok (.getfield 289, 3) := dt_of DA_X8_count_0 16 rfl
theorem dX8_count_79 : decode cX8_count 79 = .ok (.ireturn, 1) := dt_of DA_X8_count_0 17 rfl
theorem dX8_count_80 : decode cX8_count 80 = .ok (.aload_n 0, 1) := dt_of DA_X8_count_0 18 rfl
theorem dX8_count_81 : decode cX8_count 81 = .ok (.getfield 26, 3) := dt_of DA_X8_count_0 19 rfl
theorem dX8_count_84 : decode cX8_count 84 = .ok (.invokevirtual 170, 3) := dt_of DA_X8_count_0 20 rfl
theorem dX8_count_87 : decode cX8_count 87 = .ok (.ireturn, 1) := dt_of DA_X8_count_0 21 rfl
theorem dX8_count_88 : decode cX8_count 88 = .ok (.aload_n 0, 1) := dt_of DA_X8_count_0 22 rfl
theorem dX8_count_89 : decode cX8_count 89 = .ok (.getfield 26, 3) := dt_of DA_X8_count_0 23 rfl
theorem dX8_count_92 : decode cX8_count 92 = .ok (.invokevirtual 267, 3) := dt_of DA_X8_count_0 24 rfl
theorem dX8_count_95 : decode cX8_count 95 = .ok (.ireturn, 1) := dt_of DA_X8_count_0 25 rfl
theorem dX8_count_96 : decode cX8_count 96 = .ok (.aload_n 0, 1) := dt_of DA_X8_count_0 26 rfl
theorem dX8_count_97 : decode cX8_count 97 = .ok (.getfield 43, 3) := dt_of DA_X8_count_0 27 rfl
theorem dX8_count_100 : decode cX8_count 100 = .ok (.getfield 200, 3) := dt_of DA_X8_count_0 28 rfl
theorem dX8_count_103 : decode cX8_count 103 = .ok (.ireturn, 1) := dt_of DA_X8_count_0 29 rfl
theorem dX8_count_104 : decode cX8_count 104 = .ok (.aload_n 0, 1) := dt_of DA_X8_count_0 30 rfl
theorem dX8_count_105 : decode cX8_count 105 = .ok (.getfield 19, 3) := dt_of DA_X8_count_0 31 rfl
theorem dX8_count_108 : decode cX8_count 108 = .ok (.getfield 130, 3) := dt_of DA_X8_count_0 32 rfl
theorem dX8_count_111 : decode cX8_count 111 = .ok (.ireturn, 1) := dt_of DA_X8_count_0 33 rfl
theorem dX8_count_112 : decode cX8_count 112 = .ok (.ldc 88, 2) := dt_of DA_X8_count_0 34 rfl
theorem dX8_count_114 : decode cX8_count 114 = .ok (.ireturn, 1) := dt_of DA_X8_count_0 35 rfl
def DT_X8_status_0 : List (Nat × Instr × Nat) := [(0, .aload_n 0, 1), (1, .getfield 292, 3), (4, .ireturn, 1)]
theorem DA_X8_status_0 : DT_X8_status_0.all (dtf cX8_status) = true := by decide +kernel
theorem dX8_status_0 : decode cX8_status 0 = .ok (.aload_n 0, 1) := dt_of DA_X8_status_0 0 rfl
theorem dX8_status_1 : decode cX8_status 1 = .ok (.getfield 292, 3) := dt_of DA_X8_status_0 1 rfl
theorem dX8_status_4 : decode cX8_status 4 = .ok (.ireturn, 1) := dt_of DA_X8_status_0 2 rfl
def DT_X8_noValley_0 : List (Nat × Instr × Nat) := [(0, .aload_n 0, 1), (1, .getfield 26, 3), (4, .getfield 149, 3), (7, .ifCond .ne 7, 3), (10, .iconst 1, 1), (11, .goto 4, 3), (14, .iconst 0, 1), (15, .ireturn, 1)]
theorem DA_X8_noValley_0 : DT_X8_noValley_0.all (dtf cX8_noValley) = true := by decide +kernel
theorem dX8_noValley_0 : decode cX8_noValley 0 = .ok (.aload_n 0, 1) := dt_of DA_X8_noValley_0 0 rfl
theorem dX8_noValley_1 : decode cX8_noValley 1 = .ok (.getfield 26, 3) := dt_of DA_X8_noValley_0 1 rfl
theorem dX8_noValley_4 : decode cX8_noValley 4 = .ok (.getfield 149, 3) := dt_of DA_X8_noValley_0 2 rfl
theorem dX8_noValley_7 : decode cX8_noValley 7 = .ok (.ifCond .ne 7, 3) := dt_of DA_X8_noValley_0 3 rfl
theorem dX8_noValley_10 : decode cX8_noValley 10 = .ok (.iconst 1, 1) := dt_of DA_X8_noValley_0 4 rfl
theorem dX8_noValley_11 : decode cX8_noValley 11 = .ok (.goto 4, 3) := dt_of DA_X8_noValley_0 5 rfl
theorem dX8_noValley_14 : decode cX8_noValley 14 = .ok (.iconst 0, 1) := dt_of DA_X8_noValley_0 6 rfl
theorem dX8_noValley_15 : decode cX8_noValley 15 = .ok (.ireturn, 1) := dt_of DA_X8_noValley_0 7 rfl
def DT_X8_isBell_0 : List (Nat × Instr × Nat) := [(0, .iload_n 1, 1), (1, .iconst 0, 1), (2, .aload_n 0, 1), (3, .getfield 26, 3), (6, .getfield 149, 3), (9, .iconst 1, 1), (10, .isub, 1), (11, .invokestatic 84, 3), (14, .ireturn, 1)]
theorem DA_X8_isBell_0 : DT_X8_isBell_0.all (dtf cX8_isBell) = true := by decide +kernel
theorem dX8_isBell_0 : decode cX8_isBell 0 = .ok (.iload_n 1, 1) := dt_of DA_X8_isBell_0 0 rfl
theorem dX8_isBell_1 : decode cX8_isBell 1 = .ok (.iconst 0, 1) := dt_of DA_X8_isBell_0 1 rfl
theorem dX8_isBell_2 : decode cX8_isBell 2 = .ok (.aload_n 0, 1) := dt_of DA_X8_isBell_0 2 rfl
theorem dX8_isBell_3 : decode cX8_isBell 3 = .ok (.getfield 26, 3) := dt_of DA_X8_isBell_0 3 rfl
theorem dX8_isBell_6 : decode cX8_isBell 6 = .ok (.getfield 149, 3) := dt_of DA_X8_isBell_0 4 rfl
theorem dX8_isBell_9 : decode cX8_isBell 9 = .ok (.iconst 1, 1) := dt_of DA_X8_isBell_0 5 rfl
theorem dX8_isBell_10 : decode cX8_isBell 10 = .ok (.isub, 1) := dt_of DA_X8_isBell_0 6 rfl
theorem dX8_isBell_11 : decode cX8_isBell 11 = .ok (.invokestatic 84, 3) := dt_of DA_X8_isBell_0 7 rfl
theorem dX8_isBell_14 : decode cX8_isBell 14 = .ok (.ireturn, 1) := dt_of DA_X8_isBell_0 8 rfl
def DT_X8_isPair_0 : List (Nat × Instr × Nat) := [(0, .aload_n 0, 1), (1, .iload_n 1, 1), (2, .invokevirtual 194, 3), (5, .ifCond .eq 20, 3), (8, .aload_n 0, 1), (9, .iload_n 2, 1), (10, .invokevirtual 194, 3), (13, .ifCond .eq 12, 3), (16, .iload_n 1, 1), (17, .iload_n 2, 1), (18, .if_icmp .eq 7, 3), (21, .iconst 1, 1), (22, .goto 4, 3), (25, .iconst 0, 1), (26, .ireturn, 1)]
theorem DA_X8_isPair_0 : DT_X8_isPair_0.all (dtf cX8_isPair) = true := by decide +kernel
theorem dX8_isPair_0 : decode cX8_isPair 0 = .ok (.aload_n 0, 1) := dt_of DA_X8_isPair_0 0 rfl
theorem dX8_isPair_1 : decode cX8_isPair 1 = .ok (.iload_n 1, 1) := dt_of DA_X8_isPair_0 1 rfl
theorem dX8_isPair_2 : decode cX8_isPair 2 = .ok (.invokevirtual 194, 3) := dt_of DA_X8_isPair_0 2 rfl
theorem dX8_isPair_5 : decode cX8_isPair 5 = .ok (.ifCond .eq 20, 3) := dt_of DA_X8_isPair_0 3 rfl
theorem dX8_isPair_8 : decode cX8_isPair 8 = .ok (.aload_n 0, 1) := dt_of DA_X8_isPair_0 4 rfl
theorem dX8_isPair_9 : decode cX8_isPair 9 = .ok (.iload_n 2, 1) := dt_of DA_X8_isPair_0 5 rfl
theorem dX8_isPair_10 : decode cX8_isPair 10 = .ok (.invokevirtual 194, 3) := dt_of DA_X8_isPair_0 6 rfl
theorem dX8_isPair_13 : decode cX8_isPair 13 = .ok (.ifCond .eq 12, 3) := dt_of DA_X8_isPair_0 7 rfl
theorem dX8_isPair_16 : decode cX8_isPair 16 = .ok (.iload_n 1, 1) := dt_of DA_X8_isPair_0 8 rfl
theorem dX8_isPair_17 : decode cX8_isPair 17 = .ok (.iload_n 2, 1) := dt_of DA_X8_isPair_0 9 rfl
theorem dX8_isPair_18 : decode cX8_isPair 18 = .ok (.if_icmp .eq 7, 3) := dt_of DA_X8_isPair_0 10 rfl
theorem dX8_isPair_21 : decode cX8_isPair 21 = .ok (.iconst 1, 1) := dt_of DA_X8_isPair_0 11 rfl
theorem dX8_isPair_22 : decode cX8_isPair 22 = .ok (.goto 4, 3) := dt_of DA_X8_isPair_0 12 rfl
theorem dX8_isPair_25 : decode cX8_isPair 25 = .ok (.iconst 0, 1) := dt_of DA_X8_isPair_0 13 rfl
theorem dX8_isPair_26 : decode cX8_isPair 26 = .ok (.ireturn, 1) := dt_of DA_X8_isPair_0 14 rfl
def DT_X8_isRow_0 : List (Nat × Instr × Nat) := [(0, .iload_n 0, 1), (1, .iconst 0, 1), (2, .bipush 7, 2), (4, .invokestatic 84, 3), (7, .ireturn, 1)]
theorem DA_X8_isRow_0 : DT_X8_isRow_0.all (dtf cX8_isRow) = true := by decide +kernel
theorem dX8_isRow_0 : decode cX8_isRow 0 = .ok (.iload_n 0, 1) := dt_of DA_X8_isRow_0 0 rfl
theorem dX8_isRow_1 : decode cX8_isRow 1 = .ok (.iconst 0, 1) := dt_of DA_X8_isRow_0 1 rfl
theorem dX8_isRow_2 : decode cX8_isRow 2 = .ok (.bipush 7, 2) := dt_of DA_X8_isRow_0 2 rfl
theorem dX8_isRow_4 : decode cX8_isRow 4 = .ok (.invokestatic 84, 3) := dt_of DA_X8_isRow_0 3 rfl
theorem dX8_isRow_7 : decode cX8_isRow 7 = .ok (.ireturn, 1) := dt_of DA_X8_isRow_0 4 rfl
def DT_X8_isWithin_0 : List (Nat × Instr × Nat) := [(0, .iload_n 0, 1), (1, .iload_n 1, 1), (2, .if_icmp .lt 12, 3), (5, .iload_n 0, 1), (6, .iload_n 2, 1), (7, .if_icmp .gt 7, 3), (10, .iconst 1, 1), (11, .goto 4, 3), (14, .iconst 0, 1), (15, .ireturn, 1)]
theorem DA_X8_isWithin_0 : DT_X8_isWithin_0.all (dtf cX8_isWithin) = true := by decide +kernel
theorem dX8_isWithin_0 : decode cX8_isWithin 0 = .ok (.iload_n 0, 1) := dt_of DA_X8_isWithin_0 0 rfl
theorem dX8_isWithin_1 : decode cX8_isWithin 1 = .ok (.iload_n 1, 1) := dt_of DA_X8_isWithin_0 1 rfl
theorem dX8_isWithin_2 : decode cX8_isWithin 2 = .ok (.if_icmp .lt 12, 3) := dt_of DA_X8_isWithin_0 2 rfl
theorem dX8_isWithin_5 : decode cX8_isWithin 5 = .ok (.iload_n 0, 1) := dt_of DA_X8_isWithin_0 3 rfl
theorem dX8_isWithin_6 : decode cX8_isWithin 6 = .ok (.iload_n 2, 1) := dt_of DA_X8_isWithin_0 4 rfl
theorem dX8_isWithin_7 : decode cX8_isWithin 7 = .ok (.if_icmp .gt 7, 3) := dt_of DA_X8_isWithin_0 5 rfl
theorem dX8_isWithin_10 : decode cX8_isWithin 10 = .ok (.iconst 1, 1) := dt_of DA_X8_isWithin_0 6 rfl
theorem dX8_isWithin_11 : decode cX8_isWithin 11 = .ok (.goto 4, 3) := dt_of DA_X8_isWithin_0 7 rfl
theorem dX8_isWithin_14 : decode cX8_isWithin 14 = .ok (.iconst 0, 1) := dt_of DA_X8_isWithin_0 8 rfl
theorem dX8_isWithin_15 : decode cX8_isWithin 15 = .ok (.ireturn, 1) := dt_of DA_X8_isWithin_0 9 rfl
def DT_X8_found_0 : List (Nat × Instr × Nat) := [(0, .aload_n 0, 1), (1, .iload_n 1, 1), (2, .putfield 292, 3), (5, .ldc_w 295, 3), (8, .iload_n 1, 1), (9, .isub, 1), (10, .ireturn, 1)]
theorem DA_X8_found_0 : DT_X8_found_0.all (dtf cX8_found) = true := by decide +kernel
theorem dX8_found_0 : decode cX8_found 0 = .ok (.aload_n 0, 1) := dt_of DA_X8_found_0 0 rfl
theorem dX8_found_1 : decode cX8_found 1 = .ok (.iload_n 1, 1) := dt_of DA_X8_found_0 1 rfl
theorem dX8_found_2 : decode cX8_found 2 = .ok (.putfield 292, 3) := dt_of DA_X8_found_0 2 rfl
theorem dX8_found_5 : decode cX8_found 5 = .ok (.ldc_w 295, 3) := dt_of DA_X8_found_0 3 rfl
theorem dX8_found_8 : decode cX8_found 8 = .ok (.iload_n 1, 1) := dt_of DA_X8_found_0 4 rfl
theorem dX8_found_9 : decode cX8_found 9 = .ok (.isub, 1) := dt_of DA_X8_found_0 5 rfl
theorem dX8_found_10 : decode cX8_found 10 = .ok (.ireturn, 1) := dt_of DA_X8_found_0 6 rfl
def DT_X8_foundNothing_0 : List (Nat × Instr × Nat) := [(0, .aload_n 0, 1), (1, .iconst 0, 1), (2, .putfield 292, 3), (5, .iload_n 1, 1), (6, .ireturn, 1)]
theorem DA_X8_foundNothing_0 : DT_X8_foundNothing_0.all (dtf cX8_foundNothing) = true := by decide +kernel
theorem dX8_foundNothing_0 : decode cX8_foundNothing 0 = .ok (.aload_n 0, 1) := dt_of DA_X8_foundNothing_0 0 rfl
theorem dX8_foundNothing_1 : decode cX8_foundNothing 1 = .ok (.iconst 0, 1) := dt_of DA_X8_foundNothing_0 1 rfl
theorem dX8_foundNothing_2 : decode cX8_foundNothing 2 = .ok (.putfield 292, 3) := dt_of DA_X8_foundNothing_0 2 rfl
theorem dX8_foundNothing_5 : decode cX8_foundNothing 5 = .ok (.iload_n 1, 1) := dt_of DA_X8_foundNothing_0 3 rfl
theorem dX8_foundNothing_6 : decode cX8_foundNothing 6 = .ok (.ireturn, 1) := dt_of DA_X8_foundNothing_0 4 rfl
def DT_X8_isOfKind_0 : List (Nat × Instr × Nat) := [(0, .iload_n 1, 1), (1, .tableswitch 74 0 4 #[35, 37, 74, 74, 58], 35), (36, .iconst 1, 1), (37, .ireturn, 1), (38, .iload_n 0, 1), (39, .iconst 1, 1), (40, .if_icmp .eq 13, 3), (43, .iload_n 0, 1), (44, .iconst 2, 1), (45, .if_icmp .eq 8, 3), (48, .iload_n 0, 1), (49, .iconst 3, 1), (50, .if_icmp .ne 7, 3), (53, .iconst 1, 1), (54, .goto 4, 3), (57, .iconst 0, 1), (58, .ireturn, 1), (59, .iload_n 0, 1), (60, .iconst 4, 1), (61, .if_icmp .eq 8, 3), (64, .iload_n 0, 1), (65, .iconst 5, 1), (66, .if_icmp .ne 7, 3), (69, .iconst 1, 1), (70, .goto 4, 3), (73, .iconst 0, 1), (74, .ireturn, 1), (75, .iload_n 0, 1), (76, .iload_n 1, 1), (77, .if_icmp .ne 7, 3), (80, .iconst 1, 1), (81, .goto 4, 3), (84, .iconst 0, 1), (85, .ireturn, 1)]
theorem DA_X8_isOfKind_0 : DT_X8_isOfKind_0.all (dtf cX8_isOfKind) = true := by decide +kernel
theorem dX8_isOfKind_0 : decode cX8_isOfKind 0 = .ok (.iload_n 1, 1) := dt_of DA_X8_isOfKind_0 0 rfl
theorem dX8_isOfKind_1 : decode cX8_isOfKind 1 = .ok (.tableswitch 74 0 4 #[35, 37, 74, 74, 58], 35) := dt_of DA_X8_isOfKind_0 1 rfl
theorem dX8_isOfKind_36 : decode cX8_isOfKind 36 = .ok (.iconst 1, 1) := dt_of DA_X8_isOfKind_0 2 rfl
theorem dX8_isOfKind_37 : decode cX8_isOfKind 37 = .ok (.ireturn, 1) := dt_of DA_X8_isOfKind_0 3 rfl
theorem dX8_isOfKind_38 : decode cX8_isOfKind 38 = .ok (.iload_n 0, 1) := dt_of DA_X8_isOfKind_0 4 rfl
theorem dX8_isOfKind_39 : decode cX8_isOfKind 39 = .ok (.iconst 1, 1) := dt_of DA_X8_isOfKind_0 5 rfl
theorem dX8_isOfKind_40 : decode cX8_isOfKind 40 = .ok (.if_icmp .eq 13, 3) := dt_of DA_X8_isOfKind_0 6 rfl
theorem dX8_isOfKind_43 : decode cX8_isOfKind 43 = .ok (.iload_n 0, 1) := dt_of DA_X8_isOfKind_0 7 rfl
theorem dX8_isOfKind_44 : decode cX8_isOfKind 44 = .ok (.iconst 2, 1) := dt_of DA_X8_isOfKind_0 8 rfl
theorem dX8_isOfKind_45 : decode cX8_isOfKind 45 = .ok (.if_icmp .eq 8, 3) := dt_of DA_X8_isOfKind_0 9 rfl
theorem dX8_isOfKind_48 : decode cX8_isOfKind 48 = .ok (.iload_n 0, 1) := dt_of DA_X8_isOfKind_0 10 rfl
theorem dX8_isOfKind_49 : decode cX8_isOfKind 49 = .ok (.iconst 3, 1) := dt_of DA_X8_isOfKind_0 11 rfl
theorem dX8_isOfKind_50 : decode cX8_isOfKind 50 = .ok (.if_icmp .ne 7, 3) := dt_of DA_X8_isOfKind_0 12 rfl
theorem dX8_isOfKind_53 : decode cX8_isOfKind 53 = .ok (.iconst 1, 1) := dt_of DA_X8_isOfKind_0 13 rfl
theorem dX8_isOfKind_54 : decode cX8_isOfKind 54 = .ok (.goto 4, 3) := dt_of DA_X8_isOfKind_0 14 rfl
theorem dX8_isOfKind_57 : decode cX8_isOfKind 57 = .ok (.iconst 0, 1) := dt_of DA_X8_isOfKind_0 15 rfl
theorem dX8_isOfKind_58 : decode cX8_isOfKind 58 = .ok (.ireturn, 1) := dt_of DA_X8_isOfKind_0 16 rfl
theorem dX8_isOfKind_59 : decode cX8_isOfKind 59 = .ok (.iload_n 0, 1) := dt_of DA_X8_isOfKind_0 17 rfl
theorem dX8_isOfKind_60 : decode cX8_isOfKind 60 = .ok (.iconst 4, 1) := dt_of DA_X8_isOfKind_0 18 rfl
theorem dX8_isOfKind_61 : decode cX8_isOfKind 61 = .ok (.if_icmp .eq 8, 3) := dt_of DA_X8_isOfKind_0 19 rfl
theorem dX8_isOfKind_64 : decode cX8_isOfKind 64 = .ok (.iload_n 0, 1) := dt_of DA_X8_isOfKind_0 20 rfl
theorem dX8_isOfKind_65 : decode cX8_isOfKind 65 = .ok (.iconst 5, 1) := dt_of DA_X8_isOfKind_0 21 rfl
theorem dX8_isOfKind_66 : decode cX8_isOfKind 66 = .ok (.if_icmp .ne 7, 3) := dt_of DA_X8_isOfKind_0 22 rfl
theorem dX8_isOfKind_69 : decode cX8_isOfKind 69 = .ok (.iconst 1, 1) := dt_of DA_X8_isOfKind_0 23 rfl
theorem dX8_isOfKind_70 : decode cX8_isOfKind 70 = .ok (.goto 4, 3) := dt_of DA_X8_isOfKind_0 24 rfl
theorem dX8_isOfKind_73 : decode cX8_isOfKind 73 = .ok (.iconst 0, 1) := dt_of DA_X8_isOfKind_0 25 rfl
theorem dX8_isOfKind_74 : decode cX8_isOfKind 74 = .ok (.ireturn, 1) := dt_of DA_X8_isOfKind_0 26 rfl
theorem dX8_isOfKind_75 : decode cX8_isOfKind 75 = .ok (.iload_n 0, 1) := dt_of DA_X8_isOfKind_0 27 rfl
theorem dX8_isOfKind_76 : decode cX8_isOfKind 76 = .ok (.iload_n 1, 1) := dt_of DA_X8_isOfKind_0 28 rfl
theorem dX8_isOfKind_77 : decode cX8_isOfKind 77 = .ok (.if_icmp .ne 7, 3) := dt_of DA_X8_isOfKind_0 29 rfl
theorem dX8_isOfKind_80 : decode cX8_isOfKind 80 = .ok (.iconst 1, 1) := dt_of DA_X8_isOfKind_0 30 rfl
theorem dX8_isOfKind_81 : decode cX8_isOfKind 81 = .ok (.goto 4, 3) := dt_of DA_X8_isOfKind_0 31 rfl
theorem dX8_isOfKind_84 : decode cX8_isOfKind 84 = .ok (.iconst 0, 1) := dt_of DA_X8_isOfKind_0 32 rfl
theorem dX8_isOfKind_85 : decode cX8_isOfKind 85 = .ok (.ireturn, 1) := dt_of DA_X8_isOfKind_0 33 rfl
def DT_X8_price_0 : List (Nat × Instr × Nat) := [(0, .iload_n 0, 1), (1, .tableswitch 47 1 3 #[27, 31, 33], 27), (28, .iconst 5, 1), (29, .iload_n 1, 1), (30, .imul, 1), (31, .ireturn, 1), (32, .iconst 0, 1), (33, .ireturn, 1), (34, .iload_n 1, 1), (35, .ifCond .ne 7, 3), (38, .iconst 0, 1), (39, .goto 8, 3), (42, .iconst 4, 1), (43, .iload_n 1, 1), (44, .imul, 1), (45, .iconst 4, 1), (46, .iadd, 1), (47, .ireturn, 1), (48, .iconst 4, 1), (49, .iload_n 1, 1), (50, .imul, 1), (51, .ireturn, 1)]
theorem DA_X8_price_0 : DT_X8_price_0.all (dtf cX8_price) = true := by decide +kernel
theorem dX8_price_0 : decode cX8_price 0 = .ok (.iload_n 0, 1) := dt_of DA_X8_price_0 0 rfl
theorem dX8_price_1 : decode cX8_price 1 = .ok (.tableswitch 47 1 3 #[27, 31, 33], 27) := dt_of DA_X8_price_0 1 rfl
theorem dX8_price_28 : decode cX8_price 28 = .ok (.iconst 5, 1) := dt_of DA_X8_price_0 2 rfl
theorem dX8_price_29 : decode cX8_price 29 = .ok (.iload_n 1, 1) := dt_of DA_X8_price_0 3 rfl
theorem dX8_price_30 : decode cX8_price 30 = .ok (.imul, 1) := dt_of DA_X8_price_0 4 rfl
theorem dX8_price_31 : decode cX8_price 31 = .ok (.ireturn, 1) := dt_of DA_X8_price_0 5 rfl
theorem dX8_price_32 : decode cX8_price 32 = .ok (.iconst 0, 1) := dt_of DA_X8_price_0 6 rfl
theorem dX8_price_33 : decode cX8_price 33 = .ok (.ireturn, 1) := dt_of DA_X8_price_0 7 rfl
theorem dX8_price_34 : decode cX8_price 34 = .ok (.iload_n 1, 1) := dt_of DA_X8_price_0 8 rfl
theorem dX8_price_35 : decode cX8_price 35 = .ok (.ifCond .ne 7, 3) := dt_of DA_X8_price_0 9 rfl
theorem dX8_price_38 : decode cX8_price 38 = .ok (.iconst 0, 1) := dt_of DA_X8_price_0 10 rfl
theorem dX8_price_39 : decode cX8_price 39 = .ok (.goto 8, 3) := dt_of DA_X8_price_0 11 rfl
theorem dX8_price_42 : decode cX8_price 42 = .ok (.iconst 4, 1) := dt_of DA_X8_price_0 12 rfl
theorem dX8_price_43 : decode cX8_price 43 = .ok (.iload_n 1, 1) := dt_of DA_X8_price_0 13 rfl
theorem dX8_price_44 : decode cX8_price 44 = .ok (.imul, 1) := dt_of DA_X8_price_0 14 rfl
theorem dX8_price_45 : decode cX8_price 45 = .ok (.iconst 4, 1) := dt_of DA_X8_price_0 15 rfl
theorem dX8_price_46 : decode cX8_price 46 = .ok (.iadd, 1) := dt_of DA_X8_price_0 16 rfl
theorem dX8_price_47 : decode cX8_price 47 = .ok (.ireturn, 1) := dt_of DA_X8_price_0 17 rfl
theorem dX8_price_48 : decode cX8_price 48 = .ok (.iconst 4, 1) := dt_of DA_X8_price_0 18 rfl
theorem dX8_price_49 : decode cX8_price 49 = .ok (.iload_n 1, 1) := dt_of DA_X8_price_0 19 rfl
theorem dX8_price_50 : decode cX8_price 50 = .ok (.imul, 1) := dt_of DA_X8_price_0 20 rfl
theorem dX8_price_51 : decode cX8_price 51 = .ok (.ireturn, 1) := dt_of DA_X8_price_0 21 rfl
def DT_X8_power_0 : List (Nat × Instr × Nat) := [(0, .iconst 1, 1), (1, .istore_n 2, 1), (2, .iconst 0, 1), (3, .istore_n 3, 1), (4, .iload_n 3, 1), (5, .iload_n 1, 1), (6, .if_icmp .ge 13, 3), (9, .iload_n 2, 1), (10, .iload_n 0, 1), (11, .imul, 1), (12, .istore_n 2, 1), (13, .iinc 3 1, 3), (16, .goto (-12), 3), (19, .iload_n 2, 1), (20, .ireturn, 1)]
theorem DA_X8_power_0 : DT_X8_power_0.all (dtf cX8_power) = true := by decide +kernel
theorem dX8_power_0 : decode cX8_power 0 = .ok (.iconst 1, 1) := dt_of DA_X8_power_0 0 rfl
theorem dX8_power_1 : decode cX8_power 1 = .ok (.istore_n 2, 1) := dt_of DA_X8_power_0 1 rfl
theorem dX8_power_2 : decode cX8_power 2 = .ok (.iconst 0, 1) := dt_of DA_X8_power_0 2 rfl
theorem dX8_power_3 : decode cX8_power 3 = .ok (.istore_n 3, 1) := dt_of DA_X8_power_0 3 rfl
theorem dX8_power_4 : decode cX8_power 4 = .ok (.iload_n 3, 1) := dt_of DA_X8_power_0 4 rfl
theorem dX8_power_5 : decode cX8_power 5 = .ok (.iload_n 1, 1) := dt_of DA_X8_power_0 5 rfl
theorem dX8_power_6 : decode cX8_power 6 = .ok (.if_icmp .ge 13, 3) := dt_of DA_X8_power_0 6 rfl
theorem dX8_power_9 : decode cX8_power 9 = .ok (.iload_n 2, 1) := dt_of DA_X8_power_0 7 rfl
theorem dX8_power_10 : decode cX8_power 10 = .ok (.iload_n 0, 1) := dt_of DA_X8_power_0 8 rfl
theorem dX8_power_11 : decode cX8_power 11 = .ok (.imul, 1) := dt_of DA_X8_power_0 9 rfl
theorem dX8_power_12 : decode cX8_power 12 = .ok (.istore_n 2, 1) := dt_of DA_X8_power_0 10 rfl
theorem dX8_power_13 : decode cX8_power 13 = .ok (.iinc 3 1, 3) := dt_of DA_X8_power_0 11 rfl
theorem dX8_power_16 : decode cX8_power 16 = .ok (.goto (-12), 3) := dt_of DA_X8_power_0 12 rfl
theorem dX8_power_19 : decode cX8_power 19 = .ok (.iload_n 2, 1) := dt_of DA_X8_power_0 13 rfl
theorem dX8_power_20 : decode cX8_power 20 = .ok (.ireturn, 1) := dt_of DA_X8_power_0 14 rfl
def DT_X8_greatestDivisor_0 : List (Nat × Instr × Nat) := [(0, .iload_n 0, 1), (1, .istore_n 2, 1), (2, .iload_n 1, 1), (3, .istore_n 3, 1), (4, .iconst 0, 1), (5, .istore 4, 2), (7, .iload 4, 2), (9, .bipush 100, 2), (11, .if_icmp .ge 23, 3), (14, .iload_n 3, 1), (15, .ifCond .eq 19, 3), (18, .iload_n 2, 1), (19, .iload_n 3, 1), (20, .irem, 1), (21, .istore 5, 2), (23, .iload_n 3, 1), (24, .istore_n 2, 1), (25, .iload 5, 2), (27, .istore_n 3, 1), (28, .iinc 4 1, 3), (31, .goto (-24), 3), (34, .iload_n 2, 1), (35, .ireturn, 1)]
theorem DA_X8_greatestDivisor_0 : DT_X8_greatestDivisor_0.all (dtf cX8_greatestDivisor) = true := by decide +kernel
theorem dX8_greatestDivisor_0 : decode cX8_greatestDivisor 0 = .ok (.iload_n 0, 1) := dt_of DA_X8_greatestDivisor_0 0 rfl
theorem dX8_greatestDivisor_1 : decode cX8_greatestDivisor 1 = .ok (.istore_n 2, 1) := dt_of DA_X8_greatestDivisor_0 1 rfl
theorem dX8_greatestDivisor_2 : decode cX8_greatestDivisor 2 = .ok (.iload_n 1, 1) := dt_of DA_X8_greatestDivisor_0 2 rfl
theorem dX8_greatestDivisor_3 : decode cX8_greatestDivisor 3 = .ok (.istore_n 3, 1) := dt_of DA_X8_greatestDivisor_0 3 rfl
theorem dX8_greatestDivisor_4 : decode cX8_greatestDivisor 4 = .ok (.iconst 0, 1) := dt_of DA_X8_greatestDivisor_0 4 rfl
theorem dX8_greatestDivisor_5 : decode cX8_greatestDivisor 5 = .ok (.istore 4, 2) := dt_of DA_X8_greatestDivisor_0 5 rfl
theorem dX8_greatestDivisor_7 : decode cX8_greatestDivisor 7 = .ok (.iload 4, 2) := dt_of DA_X8_greatestDivisor_0 6 rfl
theorem dX8_greatestDivisor_9 : decode cX8_greatestDivisor 9 = .ok (.bipush 100, 2) := dt_of DA_X8_greatestDivisor_0 7 rfl
theorem dX8_greatestDivisor_11 : decode cX8_greatestDivisor 11 = .ok (.if_icmp .ge 23, 3) := dt_of DA_X8_greatestDivisor_0 8 rfl
theorem dX8_greatestDivisor_14 : decode cX8_greatestDivisor 14 = .ok (.iload_n 3, 1) := dt_of DA_X8_greatestDivisor_0 9 rfl
theorem dX8_greatestDivisor_15 : decode cX8_greatestDivisor 15 = .ok (.ifCond .eq 19, 3) := dt_of DA_X8_greatestDivisor_0 10 rfl
theorem dX8_greatestDivisor_18 : decode cX8_greatestDivisor 18 = .ok (.iload_n 2, 1) := dt_of DA_X8_greatestDivisor_0 11 rfl
theorem dX8_greatestDivisor_19 : decode cX8_greatestDivisor 19 = .ok (.iload_n 3, 1) := dt_of DA_X8_greatestDivisor_0 12 rfl
theorem dX8_greatestDivisor_20 : decode cX8_greatestDivisor 20 = .ok (.irem, 1) := dt_of DA_X8_greatestDivisor_0 13 rfl
theorem dX8_greatestDivisor_21 : decode cX8_greatestDivisor 21 = .ok (.istore 5, 2) := dt_of DA_X8_greatestDivisor_0 14 rfl
theorem dX8_greatestDivisor_23 : decode cX8_greatestDivisor 23 = .ok (.iload_n 3, 1) := dt_of DA_X8_greatestDivisor_0 15 rfl
theorem dX8_greatestDivisor_24 : decode cX8_greatestDivisor 24 = .ok (.istore_n 2, 1) := dt_of DA_X8_greatestDivisor_0 16 rfl
theorem dX8_greatestDivisor_25 : decode cX8_greatestDivisor 25 = .ok (.iload 5, 2) := dt_of DA_X8_greatestDivisor_0 17 rfl
theorem dX8_greatestDivisor_27 : decode cX8_greatestDivisor 27 = .ok (.istore_n 3, 1) := dt_of DA_X8_greatestDivisor_0 18 rfl
theorem dX8_greatestDivisor_28 : decode cX8_greatestDivisor 28 = .ok (.iinc 4 1, 3) := dt_of DA_X8_greatestDivisor_0 19 rfl
theorem dX8_greatestDivisor_31 : decode cX8_greatestDivisor 31 = .ok (.goto (-24), 3) := dt_of DA_X8_greatestDivisor_0 20 rfl
theorem dX8_greatestDivisor_34 : decode cX8_greatestDivisor 34 = .ok (.iload_n 2, 1) := dt_of DA_X8_greatestDivisor_0 21 rfl
theorem dX8_greatestDivisor_35 : decode cX8_greatestDivisor 35 = .ok (.ireturn, 1) := dt_of DA_X8_greatestDivisor_0 22 rfl
