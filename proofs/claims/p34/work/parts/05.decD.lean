def DT_X9_pay_0 : List (Nat × Instr × Nat) := [(0, .aload_n 0, 1), (1, .iload_n 1, 1), (2, .iload_n 2, 1), (3, .invokevirtual 206, 3), (6, .ifCond .eq 14, 3), (9, .iload_n 3, 1), (10, .iconst 1, 1), (11, .sipush 999, 3), (14, .invokestatic 62, 3), (17, .ifCond .ne 6, 3), (20, .ldc 70, 2), (22, .ireturn, 1), (23, .aload_n 0, 1), (24, .getfield 25, 3), (27, .iload_n 1, 1), (28, .iload_n 2, 1), (29, .invokestatic 133, 3), (32, .iaload, 1), (33, .ifCond .ne 6, 3), (36, .ldc 194, 2), (38, .ireturn, 1), (39, .aload_n 0, 1), (40, .invokevirtual 195, 3), (43, .aload_n 0, 1), (44, .getfield 25, 3), (47, .iload_n 1, 1), (48, .iload_n 2, 1), (49, .invokestatic 133, 3), (52, .aload_n 0, 1), (53, .getfield 25, 3), (56, .iload_n 1, 1), (57, .iload_n 2, 1), (58, .invokestatic 133, 3), (61, .iaload, 1), (62, .iload_n 3, 1), (63, .isub, 1), (64, .invokestatic 170, 3), (67, .iastore, 1), (68, .aload_n 0, 1), (69, .getfield 25, 3), (72, .iload_n 1, 1), (73, .iload_n 2, 1), (74, .invokestatic 133, 3), (77, .iaload, 1), (78, .ireturn, 1)]
theorem DA_X9_pay_0 : DT_X9_pay_0.all (dtf cX9_pay) = true := by decide +kernel
theorem dX9_pay_0 : decode cX9_pay 0 = .ok (.aload_n 0, 1) := dt_of DA_X9_pay_0 0 rfl
theorem dX9_pay_1 : decode cX9_pay 1 = .ok (.iload_n 1, 1) := dt_of DA_X9_pay_0 1 rfl
theorem dX9_pay_2 : decode cX9_pay 2 = .ok (.iload_n 2, 1) := dt_of DA_X9_pay_0 2 rfl
theorem dX9_pay_3 : decode cX9_pay 3 = .ok (.invokevirtual 206, 3) := dt_of DA_X9_pay_0 3 rfl
theorem dX9_pay_6 : decode cX9_pay 6 = .ok (.ifCond .eq 14, 3) := dt_of DA_X9_pay_0 4 rfl
theorem dX9_pay_9 : decode cX9_pay 9 = .ok (.iload_n 3, 1) := dt_of DA_X9_pay_0 5 rfl
theorem dX9_pay_10 : decode cX9_pay 10 = .ok (.iconst 1, 1) := dt_of DA_X9_pay_0 6 rfl
theorem dX9_pay_11 : decode cX9_pay 11 = .ok (.sipush 999, 3) := dt_of DA_X9_pay_0 7 rfl
theorem dX9_pay_14 : decode cX9_pay 14 = .ok (.invokestatic 62, 3) := dt_of DA_X9_pay_0 8 rfl
theorem dX9_pay_17 : decode cX9_pay 17 = .ok (.ifCond .ne 6, 3) := dt_of DA_X9_pay_0 9 rfl
theorem dX9_pay_20 : decode cX9_pay 20 = .ok (.ldc 70, 2) := dt_of DA_X9_pay_0 10 rfl
theorem dX9_pay_22 : decode cX9_pay 22 = .ok (.ireturn, 1) := dt_of DA_X9_pay_0 11 rfl
theorem dX9_pay_23 : decode cX9_pay 23 = .ok (.aload_n 0, 1) := dt_of DA_X9_pay_0 12 rfl
theorem dX9_pay_24 : decode cX9_pay 24 = .ok (.getfield 25, 3) := dt_of DA_X9_pay_0 13 rfl
theorem dX9_pay_27 : decode cX9_pay 27 = .ok (.iload_n 1, 1) := dt_of DA_X9_pay_0 14 rfl
theorem dX9_pay_28 : decode cX9_pay 28 = .ok (.iload_n 2, 1) := dt_of DA_X9_pay_0 15 rfl
theorem dX9_pay_29 : decode cX9_pay 29 = .ok (.invokestatic 133, 3) := dt_of DA_X9_pay_0 16 rfl
theorem dX9_pay_32 : decode cX9_pay 32 = .ok (.iaload, 1) := dt_of DA_X9_pay_0 17 rfl
theorem dX9_pay_33 : decode cX9_pay 33 = .ok (.ifCond .ne 6, 3) := dt_of DA_X9_pay_0 18 rfl
theorem dX9_pay_36 : decode cX9_pay 36 = .ok (.ldc 194, 2) := dt_of DA_X9_pay_0 19 rfl
theorem dX9_pay_38 : decode cX9_pay 38 = .ok (.ireturn, 1) := dt_of DA_X9_pay_0 20 rfl
theorem dX9_pay_39 : decode cX9_pay 39 = .ok (.aload_n 0, 1) := dt_of DA_X9_pay_0 21 rfl
theorem dX9_pay_40 : decode cX9_pay 40 = .ok (.invokevirtual 195, 3) := dt_of DA_X9_pay_0 22 rfl
theorem dX9_pay_43 : decode cX9_pay 43 = .ok (.aload_n 0, 1) := dt_of DA_X9_pay_0 23 rfl
theorem dX9_pay_44 : decode cX9_pay 44 = .ok (.getfield 25, 3) := dt_of DA_X9_pay_0 24 rfl
theorem dX9_pay_47 : decode cX9_pay 47 = .ok (.iload_n 1, 1) := dt_of DA_X9_pay_0 25 rfl
theorem dX9_pay_48 : decode cX9_pay 48 = .ok (.iload_n 2, 1) := dt_of DA_X9_pay_0 26 rfl
theorem dX9_pay_49 : decode cX9_pay 49 = .ok (.invokestatic 133, 3) := dt_of DA_X9_pay_0 27 rfl
theorem dX9_pay_52 : decode cX9_pay 52 = .ok (.aload_n 0, 1) := dt_of DA_X9_pay_0 28 rfl
theorem dX9_pay_53 : decode cX9_pay 53 = .ok (.getfield 25, 3) := dt_of DA_X9_pay_0 29 rfl
theorem dX9_pay_56 : decode cX9_pay 56 = .ok (.iload_n 1, 1) := dt_of DA_X9_pay_0 30 rfl
theorem dX9_pay_57 : decode cX9_pay 57 = .ok (.iload_n 2, 1) := dt_of DA_X9_pay_0 31 rfl
theorem dX9_pay_58 : decode cX9_pay 58 = .ok (.invokestatic 133, 3) := dt_of DA_X9_pay_0 32 rfl
theorem dX9_pay_61 : decode cX9_pay 61 = .ok (.iaload, 1) := dt_of DA_X9_pay_0 33 rfl
theorem dX9_pay_62 : decode cX9_pay 62 = .ok (.iload_n 3, 1) := dt_of DA_X9_pay_0 34 rfl
theorem dX9_pay_63 : decode cX9_pay 63 = .ok (.isub, 1) := dt_of DA_X9_pay_0 35 rfl
theorem dX9_pay_64 : decode cX9_pay 64 = .ok (.invokestatic 170, 3) := dt_of DA_X9_pay_0 36 rfl
theorem dX9_pay_67 : decode cX9_pay 67 = .ok (.iastore, 1) := dt_of DA_X9_pay_0 37 rfl
theorem dX9_pay_68 : decode cX9_pay 68 = .ok (.aload_n 0, 1) := dt_of DA_X9_pay_0 38 rfl
theorem dX9_pay_69 : decode cX9_pay 69 = .ok (.getfield 25, 3) := dt_of DA_X9_pay_0 39 rfl
theorem dX9_pay_72 : decode cX9_pay 72 = .ok (.iload_n 1, 1) := dt_of DA_X9_pay_0 40 rfl
theorem dX9_pay_73 : decode cX9_pay 73 = .ok (.iload_n 2, 1) := dt_of DA_X9_pay_0 41 rfl
theorem dX9_pay_74 : decode cX9_pay 74 = .ok (.invokestatic 133, 3) := dt_of DA_X9_pay_0 42 rfl
theorem dX9_pay_77 : decode cX9_pay 77 = .ok (.iaload, 1) := dt_of DA_X9_pay_0 43 rfl
theorem dX9_pay_78 : decode cX9_pay 78 = .ok (.ireturn, 1) := dt_of DA_X9_pay_0 44 rfl
def DT_X9_forgive_0 : List (Nat × Instr × Nat) := [(0, .aload_n 0, 1), (1, .iload_n 1, 1), (2, .iload_n 2, 1), (3, .invokevirtual 206, 3), (6, .ifCond .ne 6, 3), (9, .ldc 70, 2), (11, .ireturn, 1), (12, .aload_n 0, 1), (13, .getfield 25, 3), (16, .iload_n 1, 1), (17, .iload_n 2, 1), (18, .invokestatic 133, 3), (21, .iaload, 1), (22, .istore_n 3, 1), (23, .iload_n 3, 1), (24, .ifCond .ne 6, 3), (27, .ldc 194, 2), (29, .ireturn, 1), (30, .aload_n 0, 1), (31, .invokevirtual 195, 3), (34, .aload_n 0, 1), (35, .getfield 25, 3), (38, .iload_n 1, 1), (39, .iload_n 2, 1), (40, .invokestatic 133, 3), (43, .iconst 0, 1), (44, .iastore, 1), (45, .iload_n 3, 1), (46, .ireturn, 1)]
theorem DA_X9_forgive_0 : DT_X9_forgive_0.all (dtf cX9_forgive) = true := by decide +kernel
theorem dX9_forgive_0 : decode cX9_forgive 0 = .ok (.aload_n 0, 1) := dt_of DA_X9_forgive_0 0 rfl
theorem dX9_forgive_1 : decode cX9_forgive 1 = .ok (.iload_n 1, 1) := dt_of DA_X9_forgive_0 1 rfl
theorem dX9_forgive_2 : decode cX9_forgive 2 = .ok (.iload_n 2, 1) := dt_of DA_X9_forgive_0 2 rfl
theorem dX9_forgive_3 : decode cX9_forgive 3 = .ok (.invokevirtual 206, 3) := dt_of DA_X9_forgive_0 3 rfl
theorem dX9_forgive_6 : decode cX9_forgive 6 = .ok (.ifCond .ne 6, 3) := dt_of DA_X9_forgive_0 4 rfl
theorem dX9_forgive_9 : decode cX9_forgive 9 = .ok (.ldc 70, 2) := dt_of DA_X9_forgive_0 5 rfl
theorem dX9_forgive_11 : decode cX9_forgive 11 = .ok (.ireturn, 1) := dt_of DA_X9_forgive_0 6 rfl
theorem dX9_forgive_12 : decode cX9_forgive 12 = .ok (.aload_n 0, 1) := dt_of DA_X9_forgive_0 7 rfl
theorem dX9_forgive_13 : decode cX9_forgive 13 = .ok (.getfield 25, 3) := dt_of DA_X9_forgive_0 8 rfl
theorem dX9_forgive_16 : decode cX9_forgive 16 = .ok (.iload_n 1, 1) := dt_of DA_X9_forgive_0 9 rfl
theorem dX9_forgive_17 : decode cX9_forgive 17 = .ok (.iload_n 2, 1) := dt_of DA_X9_forgive_0 10 rfl
theorem dX9_forgive_18 : decode cX9_forgive 18 = .ok (.invokestatic 133, 3) := dt_of DA_X9_forgive_0 11 rfl
theorem dX9_forgive_21 : decode cX9_forgive 21 = .ok (.iaload, 1) := dt_of DA_X9_forgive_0 12 rfl
theorem dX9_forgive_22 : decode cX9_forgive 22 = .ok (.istore_n 3, 1) := dt_of DA_X9_forgive_0 13 rfl
theorem dX9_forgive_23 : decode cX9_forgive 23 = .ok (.iload_n 3, 1) := dt_of DA_X9_forgive_0 14 rfl
theorem dX9_forgive_24 : decode cX9_forgive 24 = .ok (.ifCond .ne 6, 3) := dt_of DA_X9_forgive_0 15 rfl
theorem dX9_forgive_27 : decode cX9_forgive 27 = .ok (.ldc 194, 2) := dt_of DA_X9_forgive_0 16 rfl
theorem dX9_forgive_29 : decode cX9_forgive 29 = .ok (.ireturn, 1) := dt_of DA_X9_forgive_0 17 rfl
theorem dX9_forgive_30 : decode cX9_forgive 30 = .ok (.aload_n 0, 1) := dt_of DA_X9_forgive_0 18 rfl
theorem dX9_forgive_31 : decode cX9_forgive 31 = .ok (.invokevirtual 195, 3) := dt_of DA_X9_forgive_0 19 rfl
theorem dX9_forgive_34 : decode cX9_forgive 34 = .ok (.aload_n 0, 1) := dt_of DA_X9_forgive_0 20 rfl
theorem dX9_forgive_35 : decode cX9_forgive 35 = .ok (.getfield 25, 3) := dt_of DA_X9_forgive_0 21 rfl
theorem dX9_forgive_38 : decode cX9_forgive 38 = .ok (.iload_n 1, 1) := dt_of DA_X9_forgive_0 22 rfl
theorem dX9_forgive_39 : decode cX9_forgive 39 = .ok (.iload_n 2, 1) := dt_of DA_X9_forgive_0 23 rfl
theorem dX9_forgive_40 : decode cX9_forgive 40 = .ok (.invokestatic 133, 3) := dt_of DA_X9_forgive_0 24 rfl
theorem dX9_forgive_43 : decode cX9_forgive 43 = .ok (.iconst 0, 1) := dt_of DA_X9_forgive_0 25 rfl
theorem dX9_forgive_44 : decode cX9_forgive 44 = .ok (.iastore, 1) := dt_of DA_X9_forgive_0 26 rfl
theorem dX9_forgive_45 : decode cX9_forgive 45 = .ok (.iload_n 3, 1) := dt_of DA_X9_forgive_0 27 rfl
theorem dX9_forgive_46 : decode cX9_forgive 46 = .ok (.ireturn, 1) := dt_of DA_X9_forgive_0 28 rfl
def DT_X9_mend_0 : List (Nat × Instr × Nat) := [(0, .aload_n 0, 1), (1, .iload_n 1, 1), (2, .invokevirtual 160, 3), (5, .ifCond .eq 13, 3), (8, .iload_n 2, 1), (9, .iconst 0, 1), (10, .bipush 99, 2), (12, .invokestatic 62, 3), (15, .ifCond .ne 6, 3), (18, .ldc 70, 2), (20, .ireturn, 1), (21, .aload_n 0, 1), (22, .invokevirtual 195, 3), (25, .aload_n 0, 1), (26, .getfield 25, 3), (29, .iconst 3, 1), (30, .iconst 4, 1), (31, .iload_n 1, 1), (32, .imul, 1), (33, .iadd, 1), (34, .iconst 1, 1), (35, .iadd, 1), (36, .iaload, 1), (37, .istore_n 3, 1), (38, .aload_n 0, 1), (39, .getfield 25, 3), (42, .iconst 3, 1), (43, .iconst 4, 1), (44, .iload_n 1, 1), (45, .imul, 1), (46, .iadd, 1), (47, .iconst 1, 1), (48, .iadd, 1), (49, .iload_n 2, 1), (50, .iastore, 1), (51, .iload_n 3, 1), (52, .ireturn, 1)]
theorem DA_X9_mend_0 : DT_X9_mend_0.all (dtf cX9_mend) = true := by decide +kernel
theorem dX9_mend_0 : decode cX9_mend 0 = .ok (.aload_n 0, 1) := dt_of DA_X9_mend_0 0 rfl
theorem dX9_mend_1 : decode cX9_mend 1 = .ok (.iload_n 1, 1) := dt_of DA_X9_mend_0 1 rfl
theorem dX9_mend_2 : decode cX9_mend 2 = .ok (.invokevirtual 160, 3) := dt_of DA_X9_mend_0 2 rfl
theorem dX9_mend_5 : decode cX9_mend 5 = .ok (.ifCond .eq 13, 3) := dt_of DA_X9_mend_0 3 rfl
theorem dX9_mend_8 : decode cX9_mend 8 = .ok (.iload_n 2, 1) := dt_of DA_X9_mend_0 4 rfl
theorem dX9_mend_9 : decode cX9_mend 9 = .ok (.iconst 0, 1) := dt_of DA_X9_mend_0 5 rfl
theorem dX9_mend_10 : decode cX9_mend 10 = .ok (.bipush 99, 2) := dt_of DA_X9_mend_0 6 rfl
theorem dX9_mend_12 : decode cX9_mend 12 = .ok (.invokestatic 62, 3) := dt_of DA_X9_mend_0 7 rfl
theorem dX9_mend_15 : decode cX9_mend 15 = .ok (.ifCond .ne 6, 3) := dt_of DA_X9_mend_0 8 rfl
theorem dX9_mend_18 : decode cX9_mend 18 = .ok (.ldc 70, 2) := dt_of DA_X9_mend_0 9 rfl
theorem dX9_mend_20 : decode cX9_mend 20 = .ok (.ireturn, 1) := dt_of DA_X9_mend_0 10 rfl
theorem dX9_mend_21 : decode cX9_mend 21 = .ok (.aload_n 0, 1) := dt_of DA_X9_mend_0 11 rfl
theorem dX9_mend_22 : decode cX9_mend 22 = .ok (.invokevirtual 195, 3) := dt_of DA_X9_mend_0 12 rfl
theorem dX9_mend_25 : decode cX9_mend 25 = .ok (.aload_n 0, 1) := dt_of DA_X9_mend_0 13 rfl
theorem dX9_mend_26 : decode cX9_mend 26 = .ok (.getfield 25, 3) := dt_of DA_X9_mend_0 14 rfl
theorem dX9_mend_29 : decode cX9_mend 29 = .ok (.iconst 3, 1) := dt_of DA_X9_mend_0 15 rfl
theorem dX9_mend_30 : decode cX9_mend 30 = .ok (.iconst 4, 1) := dt_of DA_X9_mend_0 16 rfl
theorem dX9_mend_31 : decode cX9_mend 31 = .ok (.iload_n 1, 1) := dt_of DA_X9_mend_0 17 rfl
theorem dX9_mend_32 : decode cX9_mend 32 = .ok (.imul, 1) := dt_of DA_X9_mend_0 18 rfl
theorem dX9_mend_33 : decode cX9_mend 33 = .ok (.iadd, 1) := dt_of DA_X9_mend_0 19 rfl
theorem dX9_mend_34 : decode cX9_mend 34 = .ok (.iconst 1, 1) := dt_of DA_X9_mend_0 20 rfl
theorem dX9_mend_35 : decode cX9_mend 35 = .ok (.iadd, 1) := dt_of DA_X9_mend_0 21 rfl
theorem dX9_mend_36 : decode cX9_mend 36 = .ok (.iaload, 1) := dt_of DA_X9_mend_0 22 rfl
theorem dX9_mend_37 : decode cX9_mend 37 = .ok (.istore_n 3, 1) := dt_of DA_X9_mend_0 23 rfl
theorem dX9_mend_38 : decode cX9_mend 38 = .ok (.aload_n 0, 1) := dt_of DA_X9_mend_0 24 rfl
theorem dX9_mend_39 : decode cX9_mend 39 = .ok (.getfield 25, 3) := dt_of DA_X9_mend_0 25 rfl
theorem dX9_mend_42 : decode cX9_mend 42 = .ok (.iconst 3, 1) := dt_of DA_X9_mend_0 26 rfl
theorem dX9_mend_43 : decode cX9_mend 43 = .ok (.iconst 4, 1) := dt_of DA_X9_mend_0 27 rfl
theorem dX9_mend_44 : decode cX9_mend 44 = .ok (.iload_n 1, 1) := dt_of DA_X9_mend_0 28 rfl
theorem dX9_mend_45 : decode cX9_mend 45 = .ok (.imul, 1) := dt_of DA_X9_mend_0 29 rfl
theorem dX9_mend_46 : decode cX9_mend 46 = .ok (.iadd, 1) := dt_of DA_X9_mend_0 30 rfl
theorem dX9_mend_47 : decode cX9_mend 47 = .ok (.iconst 1, 1) := dt_of DA_X9_mend_0 31 rfl
theorem dX9_mend_48 : decode cX9_mend 48 = .ok (.iadd, 1) := dt_of DA_X9_mend_0 32 rfl
theorem dX9_mend_49 : decode cX9_mend 49 = .ok (.iload_n 2, 1) := dt_of DA_X9_mend_0 33 rfl
theorem dX9_mend_50 : decode cX9_mend 50 = .ok (.iastore, 1) := dt_of DA_X9_mend_0 34 rfl
theorem dX9_mend_51 : decode cX9_mend 51 = .ok (.iload_n 3, 1) := dt_of DA_X9_mend_0 35 rfl
theorem dX9_mend_52 : decode cX9_mend 52 = .ok (.ireturn, 1) := dt_of DA_X9_mend_0 36 rfl
def DT_X9_undo_0 : List (Nat × Instr × Nat) := [(0, .aload_n 0, 1), (1, .getfield 157, 3), (4, .ifCond .ne 6, 3), (7, .ldc 194, 2), (9, .ireturn, 1), (10, .aload_n 0, 1), (11, .dup, 1), (12, .getfield 157, 3), (15, .iconst 1, 1), (16, .isub, 1), (17, .putfield 157, 3), (20, .aload_n 0, 1), (21, .getfield 34, 3), (24, .bipush 63, 2), (26, .aload_n 0, 1), (27, .getfield 157, 3), (30, .imul, 1), (31, .aload_n 0, 1), (32, .getfield 25, 3), (35, .iconst 0, 1), (36, .invokestatic 153, 3), (39, .aload_n 0, 1), (40, .getfield 157, 3), (43, .ireturn, 1)]
theorem DA_X9_undo_0 : DT_X9_undo_0.all (dtf cX9_undo) = true := by decide +kernel
theorem dX9_undo_0 : decode cX9_undo 0 = .ok (.aload_n 0, 1) := dt_of DA_X9_undo_0 0 rfl
theorem dX9_undo_1 : decode cX9_undo 1 = .ok (.getfield 157, 3) := dt_of DA_X9_undo_0 1 rfl
theorem dX9_undo_4 : decode cX9_undo 4 = .ok (.ifCond .ne 6, 3) := dt_of DA_X9_undo_0 2 rfl
theorem dX9_undo_7 : decode cX9_undo 7 = .ok (.ldc 194, 2) := dt_of DA_X9_undo_0 3 rfl
theorem dX9_undo_9 : decode cX9_undo 9 = .ok (.ireturn, 1) := dt_of DA_X9_undo_0 4 rfl
theorem dX9_undo_10 : decode cX9_undo 10 = .ok (.aload_n 0, 1) := dt_of DA_X9_undo_0 5 rfl
theorem dX9_undo_11 : decode cX9_undo 11 = .ok (.dup, 1) := dt_of DA_X9_undo_0 6 rfl
theorem dX9_undo_12 : decode cX9_undo 12 = .ok (.getfield 157, 3) := dt_of DA_X9_undo_0 7 rfl
theorem dX9_undo_15 : decode cX9_undo 15 = .ok (.iconst 1, 1) := dt_of DA_X9_undo_0 8 rfl
theorem dX9_undo_16 : decode cX9_undo 16 = .ok (.isub, 1) := dt_of DA_X9_undo_0 9 rfl
theorem dX9_undo_17 : decode cX9_undo 17 = .ok (.putfield 157, 3) := dt_of DA_X9_undo_0 10 rfl
theorem dX9_undo_20 : decode cX9_undo 20 = .ok (.aload_n 0, 1) := dt_of DA_X9_undo_0 11 rfl
theorem dX9_undo_21 : decode cX9_undo 21 = .ok (.getfield 34, 3) := dt_of DA_X9_undo_0 12 rfl
theorem dX9_undo_24 : decode cX9_undo 24 = .ok (.bipush 63, 2) := dt_of DA_X9_undo_0 13 rfl
theorem dX9_undo_26 : decode cX9_undo 26 = .ok (.aload_n 0, 1) := dt_of DA_X9_undo_0 14 rfl
theorem dX9_undo_27 : decode cX9_undo 27 = .ok (.getfield 157, 3) := dt_of DA_X9_undo_0 15 rfl
theorem dX9_undo_30 : decode cX9_undo 30 = .ok (.imul, 1) := dt_of DA_X9_undo_0 16 rfl
theorem dX9_undo_31 : decode cX9_undo 31 = .ok (.aload_n 0, 1) := dt_of DA_X9_undo_0 17 rfl
theorem dX9_undo_32 : decode cX9_undo 32 = .ok (.getfield 25, 3) := dt_of DA_X9_undo_0 18 rfl
theorem dX9_undo_35 : decode cX9_undo 35 = .ok (.iconst 0, 1) := dt_of DA_X9_undo_0 19 rfl
theorem dX9_undo_36 : decode cX9_undo 36 = .ok (.invokestatic 153, 3) := dt_of DA_X9_undo_0 20 rfl
theorem dX9_undo_39 : decode cX9_undo 39 = .ok (.aload_n 0, 1) := dt_of DA_X9_undo_0 21 rfl
theorem dX9_undo_40 : decode cX9_undo 40 = .ok (.getfield 157, 3) := dt_of DA_X9_undo_0 22 rfl
theorem dX9_undo_43 : decode cX9_undo 43 = .ok (.ireturn, 1) := dt_of DA_X9_undo_0 23 rfl
def DT_X9_bell_0 : List (Nat × Instr × Nat) := [(0, .aload_n 0, 1), (1, .iload_n 1, 1), (2, .invokevirtual 160, 3), (5, .ifCond .ne 6, 3), (8, .ldc 70, 2), (10, .ireturn, 1), (11, .iload_n 2, 1), (12, .tableswitch 89 0 5 #[40, 40, 40, 55, 64, 76], 40), (52, .aload_n 0, 1), (53, .getfield 25, 3), (56, .iconst 3, 1), (57, .iconst 4, 1), (58, .iload_n 1, 1), (59, .imul, 1), (60, .iadd, 1), (61, .iconst 1, 1), (62, .iadd, 1), (63, .iload_n 2, 1), (64, .iadd, 1), (65, .iaload, 1), (66, .ireturn, 1), (67, .aload_n 0, 1), (68, .getfield 25, 3), (71, .iload_n 1, 1), (72, .invokestatic 209, 3), (75, .ireturn, 1), (76, .aload_n 0, 1), (77, .getfield 25, 3), (80, .iload_n 1, 1), (81, .invokestatic 180, 3), (84, .invokestatic 170, 3), (87, .ireturn, 1), (88, .aload_n 0, 1), (89, .getfield 25, 3), (92, .iload_n 1, 1), (93, .invokestatic 180, 3), (96, .ineg, 1), (97, .invokestatic 170, 3), (100, .ireturn, 1), (101, .ldc 70, 2), (103, .ireturn, 1)]
theorem DA_X9_bell_0 : DT_X9_bell_0.all (dtf cX9_bell) = true := by decide +kernel
theorem dX9_bell_0 : decode cX9_bell 0 = .ok (.aload_n 0, 1) := dt_of DA_X9_bell_0 0 rfl
theorem dX9_bell_1 : decode cX9_bell 1 = .ok (.iload_n 1, 1) := dt_of DA_X9_bell_0 1 rfl
theorem dX9_bell_2 : decode cX9_bell 2 = .ok (.invokevirtual 160, 3) := dt_of DA_X9_bell_0 2 rfl
theorem dX9_bell_5 : decode cX9_bell 5 = .ok (.ifCond .ne 6, 3) := dt_of DA_X9_bell_0 3 rfl
theorem dX9_bell_8 : decode cX9_bell 8 = .ok (.ldc 70, 2) := dt_of DA_X9_bell_0 4 rfl
theorem dX9_bell_10 : decode cX9_bell 10 = .ok (.ireturn, 1) := dt_of DA_X9_bell_0 5 rfl
theorem dX9_bell_11 : decode cX9_bell 11 = .ok (.iload_n 2, 1) := dt_of DA_X9_bell_0 6 rfl
theorem dX9_bell_12 : decode cX9_bell 12 = .ok (.tableswitch 89 0 5 #[40, 40, 40, 55, 64, 76], 40) := dt_of DA_X9_bell_0 7 rfl
theorem dX9_bell_52 : decode cX9_bell 52 = .ok (.aload_n 0, 1) := dt_of DA_X9_bell_0 8 rfl
theorem dX9_bell_53 : decode cX9_bell 53 = .ok (.getfield 25, 3) := dt_of DA_X9_bell_0 9 rfl
theorem dX9_bell_56 : decode cX9_bell 56 = .ok (.iconst 3, 1) := dt_of DA_X9_bell_0 10 rfl
theorem dX9_bell_57 : decode cX9_bell 57 = .ok (.iconst 4, 1) := dt_of DA_X9_bell_0 11 rfl
theorem dX9_bell_58 : decode cX9_bell 58 = .ok (.iload_n 1, 1) := dt_of DA_X9_bell_0 12 rfl
theorem dX9_bell_59 : decode cX9_bell 59 = .ok (.imul, 1) := dt_of DA_X9_bell_0 13 rfl
theorem dX9_bell_60 : decode cX9_bell 60 = .ok (.iadd, 1) := dt_of DA_X9_bell_0 14 rfl
theorem dX9_bell_61 : decode cX9_bell 61 = .ok (.iconst 1, 1) := dt_of DA_X9_bell_0 15 rfl
theorem dX9_bell_62 : decode cX9_bell 62 = .ok (.iadd, 1) := dt_of DA_X9_bell_0 16 rfl
theorem dX9_bell_63 : decode cX9_bell 63 = .ok (.iload_n 2, 1) := dt_of DA_X9_bell_0 17 rfl
theorem dX9_bell_64 : decode cX9_bell 64 = .ok (.iadd, 1) := dt_of DA_X9_bell_0 18 rfl
theorem dX9_bell_65 : decode cX9_bell 65 = .ok (.iaload, 1) := dt_of DA_X9_bell_0 19 rfl
theorem dX9_bell_66 : decode cX9_bell 66 = .ok (.ireturn, 1) := dt_of DA_X9_bell_0 20 rfl
theorem dX9_bell_67 : decode cX9_bell 67 = .ok (.aload_n 0, 1) := dt_of DA_X9_bell_0 21 rfl
theorem dX9_bell_68 : decode cX9_bell 68 = .ok (.getfield 25, 3) := dt_of DA_X9_bell_0 22 rfl
theorem dX9_bell_71 : decode cX9_bell 71 = .ok (.iload_n 1, 1) := dt_of DA_X9_bell_0 23 rfl
theorem dX9_bell_72 : decode cX9_bell 72 = .ok (.invokestatic 209, 3) := dt_of DA_X9_bell_0 24 rfl
theorem dX9_bell_75 : decode cX9_bell 75 = .ok (.ireturn, 1) := dt_of DA_X9_bell_0 25 rfl
theorem dX9_bell_76 : decode cX9_bell 76 = .ok (.aload_n 0, 1) := dt_of DA_X9_bell_0 26 rfl
theorem dX9_bell_77 : decode cX9_bell 77 = .ok (.getfield 25, 3) := dt_of DA_X9_bell_0 27 rfl
theorem dX9_bell_80 : decode cX9_bell 80 = .ok (.iload_n 1, 1) := dt_of DA_X9_bell_0 28 rfl
theorem dX9_bell_81 : decode cX9_bell 81 = .ok (.invokestatic 180, 3) := dt_of DA_X9_bell_0 29 rfl
theorem dX9_bell_84 : decode cX9_bell 84 = .ok (.invokestatic 170, 3) := dt_of DA_X9_bell_0 30 rfl
theorem dX9_bell_87 : decode cX9_bell 87 = .ok (.ireturn, 1) := dt_of DA_X9_bell_0 31 rfl
theorem dX9_bell_88 : decode cX9_bell 88 = .ok (.aload_n 0, 1) := dt_of DA_X9_bell_0 32 rfl
theorem dX9_bell_89 : decode cX9_bell 89 = .ok (.getfield 25, 3) := dt_of DA_X9_bell_0 33 rfl
theorem dX9_bell_92 : decode cX9_bell 92 = .ok (.iload_n 1, 1) := dt_of DA_X9_bell_0 34 rfl
theorem dX9_bell_93 : decode cX9_bell 93 = .ok (.invokestatic 180, 3) := dt_of DA_X9_bell_0 35 rfl
theorem dX9_bell_96 : decode cX9_bell 96 = .ok (.ineg, 1) := dt_of DA_X9_bell_0 36 rfl
theorem dX9_bell_97 : decode cX9_bell 97 = .ok (.invokestatic 170, 3) := dt_of DA_X9_bell_0 37 rfl
theorem dX9_bell_100 : decode cX9_bell 100 = .ok (.ireturn, 1) := dt_of DA_X9_bell_0 38 rfl
theorem dX9_bell_101 : decode cX9_bell 101 = .ok (.ldc 70, 2) := dt_of DA_X9_bell_0 39 rfl
theorem dX9_bell_103 : decode cX9_bell 103 = .ok (.ireturn, 1) := dt_of DA_X9_bell_0 40 rfl
def DT_X9_owes_0 : List (Nat × Instr × Nat) := [(0, .aload_n 0, 1), (1, .iload_n 1, 1), (2, .iload_n 2, 1), (3, .invokevirtual 206, 3), (6, .ifCond .eq 16, 3), (9, .aload_n 0, 1), (10, .getfield 25, 3), (13, .iload_n 1, 1), (14, .iload_n 2, 1), (15, .invokestatic 133, 3), (18, .iaload, 1), (19, .goto 5, 3), (22, .ldc 70, 2), (24, .ireturn, 1)]
theorem DA_X9_owes_0 : DT_X9_owes_0.all (dtf cX9_owes) = true := by decide +kernel
theorem dX9_owes_0 : decode cX9_owes 0 = .ok (.aload_n 0, 1) := dt_of DA_X9_owes_0 0 rfl
theorem dX9_owes_1 : decode cX9_owes 1 = .ok (.iload_n 1, 1) := dt_of DA_X9_owes_0 1 rfl
theorem dX9_owes_2 : decode cX9_owes 2 = .ok (.iload_n 2, 1) := dt_of DA_X9_owes_0 2 rfl
theorem dX9_owes_3 : decode cX9_owes 3 = .ok (.invokevirtual 206, 3) := dt_of DA_X9_owes_0 3 rfl
theorem dX9_owes_6 : decode cX9_owes 6 = .ok (.ifCond .eq 16, 3) := dt_of DA_X9_owes_0 4 rfl
theorem dX9_owes_9 : decode cX9_owes 9 = .ok (.aload_n 0, 1) := dt_of DA_X9_owes_0 5 rfl
theorem dX9_owes_10 : decode cX9_owes 10 = .ok (.getfield 25, 3) := dt_of DA_X9_owes_0 6 rfl
theorem dX9_owes_13 : decode cX9_owes 13 = .ok (.iload_n 1, 1) := dt_of DA_X9_owes_0 7 rfl
theorem dX9_owes_14 : decode cX9_owes 14 = .ok (.iload_n 2, 1) := dt_of DA_X9_owes_0 8 rfl
theorem dX9_owes_15 : decode cX9_owes 15 = .ok (.invokestatic 133, 3) := dt_of DA_X9_owes_0 9 rfl
theorem dX9_owes_18 : decode cX9_owes 18 = .ok (.iaload, 1) := dt_of DA_X9_owes_0 10 rfl
theorem dX9_owes_19 : decode cX9_owes 19 = .ok (.goto 5, 3) := dt_of DA_X9_owes_0 11 rfl
theorem dX9_owes_22 : decode cX9_owes 22 = .ok (.ldc 70, 2) := dt_of DA_X9_owes_0 12 rfl
theorem dX9_owes_24 : decode cX9_owes 24 = .ok (.ireturn, 1) := dt_of DA_X9_owes_0 13 rfl
def DT_X9_goesOn_0 : List (Nat × Instr × Nat) := [(0, .iconst 0, 1), (1, .istore_n 2, 1), (2, .iload_n 2, 1), (3, .iload_n 1, 1), (4, .if_icmp .ge 17, 3), (7, .aload_n 0, 1), (8, .aload_n 0, 1), (9, .getfield 31, 3), (12, .invokevirtual 198, 3), (15, .iinc 2 1, 3), (18, .goto (-16), 3), (21, .return_, 1)]
theorem DA_X9_goesOn_0 : DT_X9_goesOn_0.all (dtf cX9_goesOn) = true := by decide +kernel
theorem dX9_goesOn_0 : decode cX9_goesOn 0 = .ok (.iconst 0, 1) := dt_of DA_X9_goesOn_0 0 rfl
theorem dX9_goesOn_1 : decode cX9_goesOn 1 = .ok (.istore_n 2, 1) := dt_of DA_X9_goesOn_0 1 rfl
theorem dX9_goesOn_2 : decode cX9_goesOn 2 = .ok (.iload_n 2, 1) := dt_of DA_X9_goesOn_0 2 rfl
theorem dX9_goesOn_3 : decode cX9_goesOn 3 = .ok (.iload_n 1, 1) := dt_of DA_X9_goesOn_0 3 rfl
theorem dX9_goesOn_4 : decode cX9_goesOn 4 = .ok (.if_icmp .ge 17, 3) := dt_of DA_X9_goesOn_0 4 rfl
theorem dX9_goesOn_7 : decode cX9_goesOn 7 = .ok (.aload_n 0, 1) := dt_of DA_X9_goesOn_0 5 rfl
theorem dX9_goesOn_8 : decode cX9_goesOn 8 = .ok (.aload_n 0, 1) := dt_of DA_X9_goesOn_0 6 rfl
theorem dX9_goesOn_9 : decode cX9_goesOn 9 = .ok (.getfield 31, 3) := dt_of DA_X9_goesOn_0 7 rfl
theorem dX9_goesOn_12 : decode cX9_goesOn 12 = .ok (.invokevirtual 198, 3) := dt_of DA_X9_goesOn_0 8 rfl
theorem dX9_goesOn_15 : decode cX9_goesOn 15 = .ok (.iinc 2 1, 3) := dt_of DA_X9_goesOn_0 9 rfl
theorem dX9_goesOn_18 : decode cX9_goesOn 18 = .ok (.goto (-16), 3) := dt_of DA_X9_goesOn_0 10 rfl
theorem dX9_goesOn_21 : decode cX9_goesOn 21 = .ok (.return_, 1) := dt_of DA_X9_goesOn_0 11 rfl
def DT_X9_ahead_0 : List (Nat × Instr × Nat) := [(0, .aload_n 0, 1), (1, .iload_n 1, 1), (2, .iload_n 2, 1), (3, .invokevirtual 206, 3), (6, .ifCond .eq 13, 3), (9, .iload_n 3, 1), (10, .iconst 0, 1), (11, .bipush 60, 2), (13, .invokestatic 62, 3), (16, .ifCond .ne 6, 3), (19, .ldc 70, 2), (21, .ireturn, 1), (22, .aload_n 0, 1), (23, .getfield 25, 3), (26, .iconst 0, 1), (27, .aload_n 0, 1), (28, .getfield 31, 3), (31, .iconst 0, 1), (32, .invokestatic 153, 3), (35, .aload_n 0, 1), (36, .iload_n 3, 1), (37, .invokevirtual 212, 3), (40, .aload_n 0, 1), (41, .getfield 31, 3), (44, .iload_n 1, 1), (45, .iload_n 2, 1), (46, .invokestatic 133, 3), (49, .iaload, 1), (50, .ireturn, 1)]
theorem DA_X9_ahead_0 : DT_X9_ahead_0.all (dtf cX9_ahead) = true := by decide +kernel
theorem dX9_ahead_0 : decode cX9_ahead 0 = .ok (.aload_n 0, 1) := dt_of DA_X9_ahead_0 0 rfl
theorem dX9_ahead_1 : decode cX9_ahead 1 = .ok (.iload_n 1, 1) := dt_of DA_X9_ahead_0 1 rfl
theorem dX9_ahead_2 : decode cX9_ahead 2 = .ok (.iload_n 2, 1) := dt_of DA_X9_ahead_0 2 rfl
theorem dX9_ahead_3 : decode cX9_ahead 3 = .ok (.invokevirtual 206, 3) := dt_of DA_X9_ahead_0 3 rfl
theorem dX9_ahead_6 : decode cX9_ahead 6 = .ok (.ifCond .eq 13, 3) := dt_of DA_X9_ahead_0 4 rfl
theorem dX9_ahead_9 : decode cX9_ahead 9 = .ok (.iload_n 3, 1) := dt_of DA_X9_ahead_0 5 rfl
theorem dX9_ahead_10 : decode cX9_ahead 10 = .ok (.iconst 0, 1) := dt_of DA_X9_ahead_0 6 rfl
theorem dX9_ahead_11 : decode cX9_ahead 11 = .ok (.bipush 60, 2) := dt_of DA_X9_ahead_0 7 rfl
theorem dX9_ahead_13 : decode cX9_ahead 13 = .ok (.invokestatic 62, 3) := dt_of DA_X9_ahead_0 8 rfl
theorem dX9_ahead_16 : decode cX9_ahead 16 = .ok (.ifCond .ne 6, 3) := dt_of DA_X9_ahead_0 9 rfl
theorem dX9_ahead_19 : decode cX9_ahead 19 = .ok (.ldc 70, 2) := dt_of DA_X9_ahead_0 10 rfl
theorem dX9_ahead_21 : decode cX9_ahead 21 = .ok (.ireturn, 1) := dt_of DA_X9_ahead_0 11 rfl
theorem dX9_ahead_22 : decode cX9_ahead 22 = .ok (.aload_n 0, 1) := dt_of DA_X9_ahead_0 12 rfl
theorem dX9_ahead_23 : decode cX9_ahead 23 = .ok (.getfield 25, 3) := dt_of DA_X9_ahead_0 13 rfl
theorem dX9_ahead_26 : decode cX9_ahead 26 = .ok (.iconst 0, 1) := dt_of DA_X9_ahead_0 14 rfl
theorem dX9_ahead_27 : decode cX9_ahead 27 = .ok (.aload_n 0, 1) := dt_of DA_X9_ahead_0 15 rfl
theorem dX9_ahead_28 : decode cX9_ahead 28 = .ok (.getfield 31, 3) := dt_of DA_X9_ahead_0 16 rfl
theorem dX9_ahead_31 : decode cX9_ahead 31 = .ok (.iconst 0, 1) := dt_of DA_X9_ahead_0 17 rfl
theorem dX9_ahead_32 : decode cX9_ahead 32 = .ok (.invokestatic 153, 3) := dt_of DA_X9_ahead_0 18 rfl
theorem dX9_ahead_35 : decode cX9_ahead 35 = .ok (.aload_n 0, 1) := dt_of DA_X9_ahead_0 19 rfl
theorem dX9_ahead_36 : decode cX9_ahead 36 = .ok (.iload_n 3, 1) := dt_of DA_X9_ahead_0 20 rfl
theorem dX9_ahead_37 : decode cX9_ahead 37 = .ok (.invokevirtual 212, 3) := dt_of DA_X9_ahead_0 21 rfl
theorem dX9_ahead_40 : decode cX9_ahead 40 = .ok (.aload_n 0, 1) := dt_of DA_X9_ahead_0 22 rfl
theorem dX9_ahead_41 : decode cX9_ahead 41 = .ok (.getfield 31, 3) := dt_of DA_X9_ahead_0 23 rfl
theorem dX9_ahead_44 : decode cX9_ahead 44 = .ok (.iload_n 1, 1) := dt_of DA_X9_ahead_0 24 rfl
theorem dX9_ahead_45 : decode cX9_ahead 45 = .ok (.iload_n 2, 1) := dt_of DA_X9_ahead_0 25 rfl
theorem dX9_ahead_46 : decode cX9_ahead 46 = .ok (.invokestatic 133, 3) := dt_of DA_X9_ahead_0 26 rfl
theorem dX9_ahead_49 : decode cX9_ahead 49 = .ok (.iaload, 1) := dt_of DA_X9_ahead_0 27 rfl
theorem dX9_ahead_50 : decode cX9_ahead 50 = .ok (.ireturn, 1) := dt_of DA_X9_ahead_0 28 rfl
def DT_X9_later_0 : List (Nat × Instr × Nat) := [(0, .aload_n 0, 1), (1, .iload_n 1, 1), (2, .invokevirtual 160, 3), (5, .ifCond .eq 22, 3), (8, .iload_n 2, 1), (9, .iconst 0, 1), (10, .bipush 60, 2), (12, .invokestatic 62, 3), (15, .ifCond .eq 12, 3), (18, .iload_n 3, 1), (19, .iconst 0, 1), (20, .iconst 1, 1), (21, .invokestatic 62, 3), (24, .ifCond .ne 6, 3), (27, .ldc 70, 2), (29, .ireturn, 1), (30, .aload_n 0, 1), (31, .getfield 25, 3), (34, .iconst 0, 1), (35, .aload_n 0, 1), (36, .getfield 31, 3), (39, .iconst 0, 1), (40, .invokestatic 153, 3), (43, .aload_n 0, 1), (44, .iload_n 2, 1), (45, .invokevirtual 212, 3), (48, .iload_n 3, 1), (49, .ifCond .ne 18, 3), (52, .aload_n 0, 1), (53, .getfield 31, 3), (56, .iconst 3, 1), (57, .iconst 4, 1), (58, .iload_n 1, 1), (59, .imul, 1), (60, .iadd, 1), (61, .iconst 3, 1), (62, .iadd, 1), (63, .iaload, 1), (64, .goto 11, 3), (67, .aload_n 0, 1), (68, .getfield 31, 3), (71, .iload_n 1, 1), (72, .invokestatic 209, 3), (75, .ireturn, 1)]
theorem DA_X9_later_0 : DT_X9_later_0.all (dtf cX9_later) = true := by decide +kernel
theorem dX9_later_0 : decode cX9_later 0 = .ok (.aload_n 0, 1) := dt_of DA_X9_later_0 0 rfl
theorem dX9_later_1 : decode cX9_later 1 = .ok (.iload_n 1, 1) := dt_of DA_X9_later_0 1 rfl
theorem dX9_later_2 : decode cX9_later 2 = .ok (.invokevirtual 160, 3) := dt_of DA_X9_later_0 2 rfl
theorem dX9_later_5 : decode cX9_later 5 = .ok (.ifCond .eq 22, 3) := dt_of DA_X9_later_0 3 rfl
theorem dX9_later_8 : decode cX9_later 8 = .ok (.iload_n 2, 1) := dt_of DA_X9_later_0 4 rfl
theorem dX9_later_9 : decode cX9_later 9 = .ok (.iconst 0, 1) := dt_of DA_X9_later_0 5 rfl
theorem dX9_later_10 : decode cX9_later 10 = .ok (.bipush 60, 2) := dt_of DA_X9_later_0 6 rfl
theorem dX9_later_12 : decode cX9_later 12 = .ok (.invokestatic 62, 3) := dt_of DA_X9_later_0 7 rfl
theorem dX9_later_15 : decode cX9_later 15 = .ok (.ifCond .eq 12, 3) := dt_of DA_X9_later_0 8 rfl
theorem dX9_later_18 : decode cX9_later 18 = .ok (.iload_n 3, 1) := dt_of DA_X9_later_0 9 rfl
theorem dX9_later_19 : decode cX9_later 19 = .ok (.iconst 0, 1) := dt_of DA_X9_later_0 10 rfl
theorem dX9_later_20 : decode cX9_later 20 = .ok (.iconst 1, 1) := dt_of DA_X9_later_0 11 rfl
theorem dX9_later_21 : decode cX9_later 21 = .ok (.invokestatic 62, 3) := dt_of DA_X9_later_0 12 rfl
theorem dX9_later_24 : decode cX9_later 24 = .ok (.ifCond .ne 6, 3) := dt_of DA_X9_later_0 13 rfl
theorem dX9_later_27 : decode cX9_later 27 = .ok (.ldc 70, 2) := dt_of DA_X9_later_0 14 rfl
theorem dX9_later_29 : decode cX9_later 29 = .ok (.ireturn, 1) := dt_of DA_X9_later_0 15 rfl
theorem dX9_later_30 : decode cX9_later 30 = .ok (.aload_n 0, 1) := dt_of DA_X9_later_0 16 rfl
theorem dX9_later_31 : decode cX9_later 31 = .ok (.getfield 25, 3) := dt_of DA_X9_later_0 17 rfl
theorem dX9_later_34 : decode cX9_later 34 = .ok (.iconst 0, 1) := dt_of DA_X9_later_0 18 rfl
theorem dX9_later_35 : decode cX9_later 35 = .ok (.aload_n 0, 1) := dt_of DA_X9_later_0 19 rfl
theorem dX9_later_36 : decode cX9_later 36 = .ok (.getfield 31, 3) := dt_of DA_X9_later_0 20 rfl
theorem dX9_later_39 : decode cX9_later 39 = .ok (.iconst 0, 1) := dt_of DA_X9_later_0 21 rfl
theorem dX9_later_40 : decode cX9_later 40 = .ok (.invokestatic 153, 3) := dt_of DA_X9_later_0 22 rfl
theorem dX9_later_43 : decode cX9_later 43 = .ok (.aload_n 0, 1) := dt_of DA_X9_later_0 23 rfl
theorem dX9_later_44 : decode cX9_later 44 = .ok (.iload_n 2, 1) := dt_of DA_X9_later_0 24 rfl
theorem dX9_later_45 : decode cX9_later 45 = .ok (.invokevirtual 212, 3) := dt_of DA_X9_later_0 25 rfl
theorem dX9_later_48 : decode cX9_later 48 = .ok (.iload_n 3, 1) := dt_of DA_X9_later_0 26 rfl
theorem dX9_later_49 : decode cX9_later 49 = .ok (.ifCond .ne 18, 3) := dt_of DA_X9_later_0 27 rfl
theorem dX9_later_52 : decode cX9_later 52 = .ok (.aload_n 0, 1) := dt_of DA_X9_later_0 28 rfl
theorem dX9_later_53 : decode cX9_later 53 = .ok (.getfield 31, 3) := dt_of DA_X9_later_0 29 rfl
theorem dX9_later_56 : decode cX9_later 56 = .ok (.iconst 3, 1) := dt_of DA_X9_later_0 30 rfl
theorem dX9_later_57 : decode cX9_later 57 = .ok (.iconst 4, 1) := dt_of DA_X9_later_0 31 rfl
theorem dX9_later_58 : decode cX9_later 58 = .ok (.iload_n 1, 1) := dt_of DA_X9_later_0 32 rfl
theorem dX9_later_59 : decode cX9_later 59 = .ok (.imul, 1) := dt_of DA_X9_later_0 33 rfl
theorem dX9_later_60 : decode cX9_later 60 = .ok (.iadd, 1) := dt_of DA_X9_later_0 34 rfl
theorem dX9_later_61 : decode cX9_later 61 = .ok (.iconst 3, 1) := dt_of DA_X9_later_0 35 rfl
theorem dX9_later_62 : decode cX9_later 62 = .ok (.iadd, 1) := dt_of DA_X9_later_0 36 rfl
theorem dX9_later_63 : decode cX9_later 63 = .ok (.iaload, 1) := dt_of DA_X9_later_0 37 rfl
theorem dX9_later_64 : decode cX9_later 64 = .ok (.goto 11, 3) := dt_of DA_X9_later_0 38 rfl
theorem dX9_later_67 : decode cX9_later 67 = .ok (.aload_n 0, 1) := dt_of DA_X9_later_0 39 rfl
theorem dX9_later_68 : decode cX9_later 68 = .ok (.getfield 31, 3) := dt_of DA_X9_later_0 40 rfl
theorem dX9_later_71 : decode cX9_later 71 = .ok (.iload_n 1, 1) := dt_of DA_X9_later_0 41 rfl
theorem dX9_later_72 : decode cX9_later 72 = .ok (.invokestatic 209, 3) := dt_of DA_X9_later_0 42 rfl
theorem dX9_later_75 : decode cX9_later 75 = .ok (.ireturn, 1) := dt_of DA_X9_later_0 43 rfl
def DT_X9_even_0 : List (Nat × Instr × Nat) := [(0, .aload_n 0, 1), (1, .invokevirtual 191, 3), (4, .ifCond .ne 6, 3), (7, .ldc 194, 2), (9, .ireturn, 1), (10, .aload_n 0, 1), (11, .getfield 25, 3), (14, .iconst 0, 1), (15, .aload_n 0, 1), (16, .getfield 31, 3), (19, .iconst 0, 1), (20, .invokestatic 153, 3), (23, .iconst 0, 1), (24, .istore_n 1, 1), (25, .iload_n 1, 1), (26, .bipush 61, 2), (28, .if_icmp .ge 29, 3), (31, .aload_n 0, 1), (32, .getfield 31, 3), (35, .invokestatic 202, 3), (38, .ifCond .ne 5, 3), (41, .iload_n 1, 1), (42, .ireturn, 1), (43, .aload_n 0, 1), (44, .aload_n 0, 1), (45, .getfield 31, 3), (48, .invokevirtual 198, 3), (51, .iinc 1 1, 3), (54, .goto (-29), 3), (57, .ldc 56, 2), (59, .ireturn, 1)]
theorem DA_X9_even_0 : DT_X9_even_0.all (dtf cX9_even) = true := by decide +kernel
theorem dX9_even_0 : decode cX9_even 0 = .ok (.aload_n 0, 1) := dt_of DA_X9_even_0 0 rfl
theorem dX9_even_1 : decode cX9_even 1 = .ok (.invokevirtual 191, 3) := dt_of DA_X9_even_0 1 rfl
theorem dX9_even_4 : decode cX9_even 4 = .ok (.ifCond .ne 6, 3) := dt_of DA_X9_even_0 2 rfl
theorem dX9_even_7 : decode cX9_even 7 = .ok (.ldc 194, 2) := dt_of DA_X9_even_0 3 rfl
theorem dX9_even_9 : decode cX9_even 9 = .ok (.ireturn, 1) := dt_of DA_X9_even_0 4 rfl
theorem dX9_even_10 : decode cX9_even 10 = .ok (.aload_n 0, 1) := dt_of DA_X9_even_0 5 rfl
theorem dX9_even_11 : decode cX9_even 11 = .ok (.getfield 25, 3) := dt_of DA_X9_even_0 6 rfl
theorem dX9_even_14 : decode cX9_even 14 = .ok (.iconst 0, 1) := dt_of DA_X9_even_0 7 rfl
theorem dX9_even_15 : decode cX9_even 15 = .ok (.aload_n 0, 1) := dt_of DA_X9_even_0 8 rfl
theorem dX9_even_16 : decode cX9_even 16 = .ok (.getfield 31, 3) := dt_of DA_X9_even_0 9 rfl
theorem dX9_even_19 : decode cX9_even 19 = .ok (.iconst 0, 1) := dt_of DA_X9_even_0 10 rfl
theorem dX9_even_20 : decode cX9_even 20 = .ok (.invokestatic 153, 3) := dt_of DA_X9_even_0 11 rfl
theorem dX9_even_23 : decode cX9_even 23 = .ok (.iconst 0, 1) := dt_of DA_X9_even_0 12 rfl
theorem dX9_even_24 : decode cX9_even 24 = .ok (.istore_n 1, 1) := dt_of DA_X9_even_0 13 rfl
theorem dX9_even_25 : decode cX9_even 25 = .ok (.iload_n 1, 1) := dt_of DA_X9_even_0 14 rfl
theorem dX9_even_26 : decode cX9_even 26 = .ok (.bipush 61, 2) := dt_of DA_X9_even_0 15 rfl
theorem dX9_even_28 : decode cX9_even 28 = .ok (.if_icmp .ge 29, 3) := dt_of DA_X9_even_0 16 rfl
theorem dX9_even_31 : decode cX9_even 31 = .ok (.aload_n 0, 1) := dt_of DA_X9_even_0 17 rfl
theorem dX9_even_32 : decode cX9_even 32 = .ok (.getfield 31, 3) := dt_of DA_X9_even_0 18 rfl
theorem dX9_even_35 : decode cX9_even 35 = .ok (.invokestatic 202, 3) := dt_of DA_X9_even_0 19 rfl
theorem dX9_even_38 : decode cX9_even 38 = .ok (.ifCond .ne 5, 3) := dt_of DA_X9_even_0 20 rfl
theorem dX9_even_41 : decode cX9_even 41 = .ok (.iload_n 1, 1) := dt_of DA_X9_even_0 21 rfl
theorem dX9_even_42 : decode cX9_even 42 = .ok (.ireturn, 1) := dt_of DA_X9_even_0 22 rfl
theorem dX9_even_43 : decode cX9_even 43 = .ok (.aload_n 0, 1) := dt_of DA_X9_even_0 23 rfl
theorem dX9_even_44 : decode cX9_even 44 = .ok (.aload_n 0, 1) := dt_of DA_X9_even_0 24 rfl
theorem dX9_even_45 : decode cX9_even 45 = .ok (.getfield 31, 3) := dt_of DA_X9_even_0 25 rfl
theorem dX9_even_48 : decode cX9_even 48 = .ok (.invokevirtual 198, 3) := dt_of DA_X9_even_0 26 rfl
theorem dX9_even_51 : decode cX9_even 51 = .ok (.iinc 1 1, 3) := dt_of DA_X9_even_0 27 rfl
theorem dX9_even_54 : decode cX9_even 54 = .ok (.goto (-29), 3) := dt_of DA_X9_even_0 28 rfl
theorem dX9_even_57 : decode cX9_even 57 = .ok (.ldc 56, 2) := dt_of DA_X9_even_0 29 rfl
theorem dX9_even_59 : decode cX9_even 59 = .ok (.ireturn, 1) := dt_of DA_X9_even_0 30 rfl
def DT_X9_isSilenced_0 : List (Nat × Instr × Nat) := [(0, .aload_n 0, 1), (1, .getfield 31, 3), (4, .iconst 3, 1), (5, .iconst 4, 1), (6, .iload_n 1, 1), (7, .imul, 1), (8, .iadd, 1), (9, .iconst 3, 1), (10, .iadd, 1), (11, .iaload, 1), (12, .aload_n 0, 1), (13, .getfield 25, 3), (16, .iconst 3, 1), (17, .iconst 4, 1), (18, .iload_n 1, 1), (19, .imul, 1), (20, .iadd, 1), (21, .iconst 3, 1), (22, .iadd, 1), (23, .iaload, 1), (24, .if_icmp .le 7, 3), (27, .iconst 1, 1), (28, .goto 4, 3), (31, .iconst 0, 1), (32, .ireturn, 1)]
theorem DA_X9_isSilenced_0 : DT_X9_isSilenced_0.all (dtf cX9_isSilenced) = true := by decide +kernel
theorem dX9_isSilenced_0 : decode cX9_isSilenced 0 = .ok (.aload_n 0, 1) := dt_of DA_X9_isSilenced_0 0 rfl
theorem dX9_isSilenced_1 : decode cX9_isSilenced 1 = .ok (.getfield 31, 3) := dt_of DA_X9_isSilenced_0 1 rfl
theorem dX9_isSilenced_4 : decode cX9_isSilenced 4 = .ok (.iconst 3, 1) := dt_of DA_X9_isSilenced_0 2 rfl
theorem dX9_isSilenced_5 : decode cX9_isSilenced 5 = .ok (.iconst 4, 1) := dt_of DA_X9_isSilenced_0 3 rfl
theorem dX9_isSilenced_6 : decode cX9_isSilenced 6 = .ok (.iload_n 1, 1) := dt_of DA_X9_isSilenced_0 4 rfl
theorem dX9_isSilenced_7 : decode cX9_isSilenced 7 = .ok (.imul, 1) := dt_of DA_X9_isSilenced_0 5 rfl
theorem dX9_isSilenced_8 : decode cX9_isSilenced 8 = .ok (.iadd, 1) := dt_of DA_X9_isSilenced_0 6 rfl
theorem dX9_isSilenced_9 : decode cX9_isSilenced 9 = .ok (.iconst 3, 1) := dt_of DA_X9_isSilenced_0 7 rfl
theorem dX9_isSilenced_10 : decode cX9_isSilenced 10 = .ok (.iadd, 1) := dt_of DA_X9_isSilenced_0 8 rfl
theorem dX9_isSilenced_11 : decode cX9_isSilenced 11 = .ok (.iaload, 1) := dt_of DA_X9_isSilenced_0 9 rfl
theorem dX9_isSilenced_12 : decode cX9_isSilenced 12 = .ok (.aload_n 0, 1) := dt_of DA_X9_isSilenced_0 10 rfl
theorem dX9_isSilenced_13 : decode cX9_isSilenced 13 = .ok (.getfield 25, 3) := dt_of DA_X9_isSilenced_0 11 rfl
theorem dX9_isSilenced_16 : decode cX9_isSilenced 16 = .ok (.iconst 3, 1) := dt_of DA_X9_isSilenced_0 12 rfl
theorem dX9_isSilenced_17 : decode cX9_isSilenced 17 = .ok (.iconst 4, 1) := dt_of DA_X9_isSilenced_0 13 rfl
theorem dX9_isSilenced_18 : decode cX9_isSilenced 18 = .ok (.iload_n 1, 1) := dt_of DA_X9_isSilenced_0 14 rfl
theorem dX9_isSilenced_19 : decode cX9_isSilenced 19 = .ok (.imul, 1) := dt_of DA_X9_isSilenced_0 15 rfl
theorem dX9_isSilenced_20 : decode cX9_isSilenced 20 = .ok (.iadd, 1) := dt_of DA_X9_isSilenced_0 16 rfl
theorem dX9_isSilenced_21 : decode cX9_isSilenced 21 = .ok (.iconst 3, 1) := dt_of DA_X9_isSilenced_0 17 rfl
theorem dX9_isSilenced_22 : decode cX9_isSilenced 22 = .ok (.iadd, 1) := dt_of DA_X9_isSilenced_0 18 rfl
theorem dX9_isSilenced_23 : decode cX9_isSilenced 23 = .ok (.iaload, 1) := dt_of DA_X9_isSilenced_0 19 rfl
theorem dX9_isSilenced_24 : decode cX9_isSilenced 24 = .ok (.if_icmp .le 7, 3) := dt_of DA_X9_isSilenced_0 20 rfl
theorem dX9_isSilenced_27 : decode cX9_isSilenced 27 = .ok (.iconst 1, 1) := dt_of DA_X9_isSilenced_0 21 rfl
theorem dX9_isSilenced_28 : decode cX9_isSilenced 28 = .ok (.goto 4, 3) := dt_of DA_X9_isSilenced_0 22 rfl
theorem dX9_isSilenced_31 : decode cX9_isSilenced 31 = .ok (.iconst 0, 1) := dt_of DA_X9_isSilenced_0 23 rfl
theorem dX9_isSilenced_32 : decode cX9_isSilenced 32 = .ok (.ireturn, 1) := dt_of DA_X9_isSilenced_0 24 rfl
def DT_X9_first_0 : List (Nat × Instr × Nat) := [(0, .aload_n 0, 1), (1, .invokevirtual 191, 3), (4, .ifCond .ne 6, 3), (7, .ldc 194, 2), (9, .ireturn, 1), (10, .iload_n 1, 1), (11, .iconst 0, 1), (12, .iconst 1, 1), (13, .invokestatic 62, 3), (16, .ifCond .ne 6, 3), (19, .ldc 70, 2), (21, .ireturn, 1), (22, .aload_n 0, 1), (23, .getfield 25, 3), (26, .iconst 0, 1), (27, .aload_n 0, 1), (28, .getfield 31, 3), (31, .iconst 0, 1), (32, .invokestatic 153, 3), (35, .iconst 1, 1), (36, .istore_n 2, 1), (37, .iload_n 2, 1), (38, .bipush 61, 2), (40, .if_icmp .ge 53, 3), (43, .aload_n 0, 1), (44, .aload_n 0, 1), (45, .getfield 31, 3), (48, .invokevirtual 198, 3), (51, .iconst 0, 1), (52, .istore_n 3, 1), (53, .iload_n 3, 1), (54, .aload_n 0, 1), (55, .getfield 25, 3), (58, .iconst 1, 1), (59, .iaload, 1), (60, .if_icmp .ge 27, 3), (63, .aload_n 0, 1), (64, .iload_n 3, 1), (65, .invokevirtual 216, 3), (68, .ifCond .eq 13, 3), (71, .iload_n 1, 1), (72, .ifCond .ne 7, 3), (75, .iload_n 3, 1), (76, .goto 4, 3), (79, .iload_n 2, 1), (80, .ireturn, 1), (81, .iinc 3 1, 3), (84, .goto (-31), 3), (87, .iinc 2 1, 3), (90, .goto (-53), 3), (93, .ldc 56, 2), (95, .ireturn, 1)]
theorem DA_X9_first_0 : DT_X9_first_0.all (dtf cX9_first) = true := by decide +kernel
theorem dX9_first_0 : decode cX9_first 0 = .ok (.aload_n 0, 1) := dt_of DA_X9_first_0 0 rfl
theorem dX9_first_1 : decode cX9_first 1 = .ok (.invokevirtual 191, 3) := dt_of DA_X9_first_0 1 rfl
theorem dX9_first_4 : decode cX9_first 4 = .ok (.ifCond .ne 6, 3) := dt_of DA_X9_first_0 2 rfl
theorem dX9_first_7 : decode cX9_first 7 = .ok (.ldc 194, 2) := dt_of DA_X9_first_0 3 rfl
theorem dX9_first_9 : decode cX9_first 9 = .ok (.ireturn, 1) := dt_of DA_X9_first_0 4 rfl
theorem dX9_first_10 : decode cX9_first 10 = .ok (.iload_n 1, 1) := dt_of DA_X9_first_0 5 rfl
theorem dX9_first_11 : decode cX9_first 11 = .ok (.iconst 0, 1) := dt_of DA_X9_first_0 6 rfl
theorem dX9_first_12 : decode cX9_first 12 = .ok (.iconst 1, 1) := dt_of DA_X9_first_0 7 rfl
theorem dX9_first_13 : decode cX9_first 13 = .ok (.invokestatic 62, 3) := dt_of DA_X9_first_0 8 rfl
theorem dX9_first_16 : decode cX9_first 16 = .ok (.ifCond .ne 6, 3) := dt_of DA_X9_first_0 9 rfl
theorem dX9_first_19 : decode cX9_first 19 = .ok (.ldc 70, 2) := dt_of DA_X9_first_0 10 rfl
theorem dX9_first_21 : decode cX9_first 21 = .ok (.ireturn, 1) := dt_of DA_X9_first_0 11 rfl
theorem dX9_first_22 : decode cX9_first 22 = .ok (.aload_n 0, 1) := dt_of DA_X9_first_0 12 rfl
theorem dX9_first_23 : decode cX9_first 23 = .ok (.getfield 25, 3) := dt_of DA_X9_first_0 13 rfl
theorem dX9_first_26 : decode cX9_first 26 = .ok (.iconst 0, 1) := dt_of DA_X9_first_0 14 rfl
theorem dX9_first_27 : decode cX9_first 27 = .ok (.aload_n 0, 1) := dt_of DA_X9_first_0 15 rfl
theorem dX9_first_28 : decode cX9_first 28 = .ok (.getfield 31, 3) := dt_of DA_X9_first_0 16 rfl
theorem dX9_first_31 : decode cX9_first 31 = .ok (.iconst 0, 1) := dt_of DA_X9_first_0 17 rfl
theorem dX9_first_32 : decode cX9_first 32 = .ok (.invokestatic 153, 3) := dt_of DA_X9_first_0 18 rfl
theorem dX9_first_35 : decode cX9_first 35 = .ok (.iconst 1, 1) := dt_of DA_X9_first_0 19 rfl
theorem dX9_first_36 : decode cX9_first 36 = .ok (.istore_n 2, 1) := dt_of DA_X9_first_0 20 rfl
theorem dX9_first_37 : decode cX9_first 37 = .ok (.iload_n 2, 1) := dt_of DA_X9_first_0 21 rfl
theorem dX9_first_38 : decode cX9_first 38 = .ok (.bipush 61, 2) := dt_of DA_X9_first_0 22 rfl
theorem dX9_first_40 : decode cX9_first 40 = .ok (.if_icmp .ge 53, 3) := dt_of DA_X9_first_0 23 rfl
theorem dX9_first_43 : decode cX9_first 43 = .ok (.aload_n 0, 1) := dt_of DA_X9_first_0 24 rfl
theorem dX9_first_44 : decode cX9_first 44 = .ok (.aload_n 0, 1) := dt_of DA_X9_first_0 25 rfl
theorem dX9_first_45 : decode cX9_first 45 = .ok (.getfield 31, 3) := dt_of DA_X9_first_0 26 rfl
theorem dX9_first_48 : decode cX9_first 48 = .ok (.invokevirtual 198, 3) := dt_of DA_X9_first_0 27 rfl
theorem dX9_first_51 : decode cX9_first 51 = .ok (.iconst 0, 1) := dt_of DA_X9_first_0 28 rfl
theorem dX9_first_52 : decode cX9_first 52 = .ok (.istore_n 3, 1) := dt_of DA_X9_first_0 29 rfl
theorem dX9_first_53 : decode cX9_first 53 = .ok (.iload_n 3, 1) := dt_of DA_X9_first_0 30 rfl
theorem dX9_first_54 : decode cX9_first 54 = .ok (.aload_n 0, 1) := dt_of DA_X9_first_0 31 rfl
theorem dX9_first_55 : decode cX9_first 55 = .ok (.getfield 25, 3) := dt_of DA_X9_first_0 32 rfl
theorem dX9_first_58 : decode cX9_first 58 = .ok (.iconst 1, 1) := dt_of DA_X9_first_0 33 rfl
theorem dX9_first_59 : decode cX9_first 59 = .ok (.iaload, 1) := dt_of DA_X9_first_0 34 rfl
theorem dX9_first_60 : decode cX9_first 60 = .ok (.if_icmp .ge 27, 3) := dt_of DA_X9_first_0 35 rfl
theorem dX9_first_63 : decode cX9_first 63 = .ok (.aload_n 0, 1) := dt_of DA_X9_first_0 36 rfl
theorem dX9_first_64 : decode cX9_first 64 = .ok (.iload_n 3, 1) := dt_of DA_X9_first_0 37 rfl
theorem dX9_first_65 : decode cX9_first 65 = .ok (.invokevirtual 216, 3) := dt_of DA_X9_first_0 38 rfl
theorem dX9_first_68 : decode cX9_first 68 = .ok (.ifCond .eq 13, 3) := dt_of DA_X9_first_0 39 rfl
theorem dX9_first_71 : decode cX9_first 71 = .ok (.iload_n 1, 1) := dt_of DA_X9_first_0 40 rfl
theorem dX9_first_72 : decode cX9_first 72 = .ok (.ifCond .ne 7, 3) := dt_of DA_X9_first_0 41 rfl
theorem dX9_first_75 : decode cX9_first 75 = .ok (.iload_n 3, 1) := dt_of DA_X9_first_0 42 rfl
theorem dX9_first_76 : decode cX9_first 76 = .ok (.goto 4, 3) := dt_of DA_X9_first_0 43 rfl
theorem dX9_first_79 : decode cX9_first 79 = .ok (.iload_n 2, 1) := dt_of DA_X9_first_0 44 rfl
theorem dX9_first_80 : decode cX9_first 80 = .ok (.ireturn, 1) := dt_of DA_X9_first_0 45 rfl
theorem dX9_first_81 : decode cX9_first 81 = .ok (.iinc 3 1, 3) := dt_of DA_X9_first_0 46 rfl
theorem dX9_first_84 : decode cX9_first 84 = .ok (.goto (-31), 3) := dt_of DA_X9_first_0 47 rfl
theorem dX9_first_87 : decode cX9_first 87 = .ok (.iinc 2 1, 3) := dt_of DA_X9_first_0 48 rfl
theorem dX9_first_90 : decode cX9_first 90 = .ok (.goto (-53), 3) := dt_of DA_X9_first_0 49 rfl
theorem dX9_first_93 : decode cX9_first 93 = .ok (.ldc 56, 2) := dt_of DA_X9_first_0 50 rfl
theorem dX9_first_95 : decode cX9_first 95 = .ok (.ireturn, 1) := dt_of DA_X9_first_0 51 rfl
def DT_X9_netOf_0 : List (Nat × Instr × Nat) := [(0, .iconst 0, 1), (1, .istore_n 2, 1), (2, .iconst 0, 1), (3, .istore_n 3, 1), (4, .iload_n 3, 1), (5, .aload_n 0, 1), (6, .getfield 25, 3), (9, .iconst 1, 1), (10, .iaload, 1), (11, .if_icmp .ge 32, 3), (14, .iload_n 2, 1), (15, .iload_n 1, 1), (16, .iload_n 3, 1), (17, .invokestatic 166, 3), (20, .ifCond .eq 14, 3), (23, .aload_n 0, 1), (24, .getfield 25, 3), (27, .iload_n 3, 1), (28, .invokestatic 209, 3), (31, .goto 4, 3), (34, .iconst 0, 1), (35, .iadd, 1), (36, .istore_n 2, 1), (37, .iinc 3 1, 3), (40, .goto (-36), 3), (43, .iload_n 2, 1), (44, .ireturn, 1)]
theorem DA_X9_netOf_0 : DT_X9_netOf_0.all (dtf cX9_netOf) = true := by decide +kernel
theorem dX9_netOf_0 : decode cX9_netOf 0 = .ok (.iconst 0, 1) := dt_of DA_X9_netOf_0 0 rfl
theorem dX9_netOf_1 : decode cX9_netOf 1 = .ok (.istore_n 2, 1) := dt_of DA_X9_netOf_0 1 rfl
theorem dX9_netOf_2 : decode cX9_netOf 2 = .ok (.iconst 0, 1) := dt_of DA_X9_netOf_0 2 rfl
theorem dX9_netOf_3 : decode cX9_netOf 3 = .ok (.istore_n 3, 1) := dt_of DA_X9_netOf_0 3 rfl
theorem dX9_netOf_4 : decode cX9_netOf 4 = .ok (.iload_n 3, 1) := dt_of DA_X9_netOf_0 4 rfl
theorem dX9_netOf_5 : decode cX9_netOf 5 = .ok (.aload_n 0, 1) := dt_of DA_X9_netOf_0 5 rfl
theorem dX9_netOf_6 : decode cX9_netOf 6 = .ok (.getfield 25, 3) := dt_of DA_X9_netOf_0 6 rfl
theorem dX9_netOf_9 : decode cX9_netOf 9 = .ok (.iconst 1, 1) := dt_of DA_X9_netOf_0 7 rfl
theorem dX9_netOf_10 : decode cX9_netOf 10 = .ok (.iaload, 1) := dt_of DA_X9_netOf_0 8 rfl
theorem dX9_netOf_11 : decode cX9_netOf 11 = .ok (.if_icmp .ge 32, 3) := dt_of DA_X9_netOf_0 9 rfl
theorem dX9_netOf_14 : decode cX9_netOf 14 = .ok (.iload_n 2, 1) := dt_of DA_X9_netOf_0 10 rfl
theorem dX9_netOf_15 : decode cX9_netOf 15 = .ok (.iload_n 1, 1) := dt_of DA_X9_netOf_0 11 rfl
theorem dX9_netOf_16 : decode cX9_netOf 16 = .ok (.iload_n 3, 1) := dt_of DA_X9_netOf_0 12 rfl
theorem dX9_netOf_17 : decode cX9_netOf 17 = .ok (.invokestatic 166, 3) := dt_of DA_X9_netOf_0 13 rfl
theorem dX9_netOf_20 : decode cX9_netOf 20 = .ok (.ifCond .eq 14, 3) := dt_of DA_X9_netOf_0 14 rfl
theorem dX9_netOf_23 : decode cX9_netOf 23 = .ok (.aload_n 0, 1) := dt_of DA_X9_netOf_0 15 rfl
theorem dX9_netOf_24 : decode cX9_netOf 24 = .ok (.getfield 25, 3) := dt_of DA_X9_netOf_0 16 rfl
theorem dX9_netOf_27 : decode cX9_netOf 27 = .ok (.iload_n 3, 1) := dt_of DA_X9_netOf_0 17 rfl
theorem dX9_netOf_28 : decode cX9_netOf 28 = .ok (.invokestatic 209, 3) := dt_of DA_X9_netOf_0 18 rfl
theorem dX9_netOf_31 : decode cX9_netOf 31 = .ok (.goto 4, 3) := dt_of DA_X9_netOf_0 19 rfl
theorem dX9_netOf_34 : decode cX9_netOf 34 = .ok (.iconst 0, 1) := dt_of DA_X9_netOf_0 20 rfl
theorem dX9_netOf_35 : decode cX9_netOf 35 = .ok (.iadd, 1) := dt_of DA_X9_netOf_0 21 rfl
theorem dX9_netOf_36 : decode cX9_netOf 36 = .ok (.istore_n 2, 1) := dt_of DA_X9_netOf_0 22 rfl
theorem dX9_netOf_37 : decode cX9_netOf 37 = .ok (.iinc 3 1, 3) := dt_of DA_X9_netOf_0 23 rfl
theorem dX9_netOf_40 : decode cX9_netOf 40 = .ok (.goto (-36), 3) := dt_of DA_X9_netOf_0 24 rfl
theorem dX9_netOf_43 : decode cX9_netOf 43 = .ok (.iload_n 2, 1) := dt_of DA_X9_netOf_0 25 rfl
theorem dX9_netOf_44 : decode cX9_netOf 44 = .ok (.ireturn, 1) := dt_of DA_X9_netOf_0 26 rfl
def DT_X9_evenParts_0 : List (Nat × Instr × Nat) := [(0, .iconst 1, 1), (1, .aload_n 0, 1), (2, .getfield 25, 3), (5, .iconst 1, 1), (6, .iaload, 1), (7, .ishl, 1), (8, .istore_n 1, 1), (9, .aload_n 0, 1), (10, .getfield 50, 3), (13, .iconst 0, 1), (14, .iconst 0, 1), (15, .iastore, 1), (16, .iconst 1, 1), (17, .istore_n 2, 1), (18, .iload_n 2, 1), (19, .iload_n 1, 1), (20, .if_icmp .ge 82, 3), (23, .aload_n 0, 1), (24, .getfield 50, 3), (27, .iload_n 2, 1), (28, .ldc 56, 2), (30, .iastore, 1), (31, .iload_n 2, 1), (32, .istore_n 3, 1), (33, .iload_n 3, 1), (34, .ifCond .le 62, 3), (37, .aload_n 0, 1), (38, .getfield 50, 3), (41, .iload_n 2, 1), (42, .iload_n 3, 1), (43, .iconst (-1), 1), (44, .ixor, 1), (45, .iand, 1), (46, .iaload, 1), (47, .istore 4, 2), (49, .aload_n 0, 1), (50, .iload_n 3, 1), (51, .invokevirtual 219, 3), (54, .ifCond .ne 33, 3), (57, .iload 4, 2), (59, .ldc 56, 2), (61, .if_icmp .eq 26, 3), (64, .iload 4, 2), (66, .iconst 1, 1), (67, .iadd, 1), (68, .aload_n 0, 1), (69, .getfield 50, 3), (72, .iload_n 2, 1), (73, .iaload, 1), (74, .if_icmp .le 13, 3), (77, .aload_n 0, 1), (78, .getfield 50, 3), (81, .iload_n 2, 1), (82, .iload 4, 2), (84, .iconst 1, 1), (85, .iadd, 1), (86, .iastore, 1), (87, .iload_n 3, 1), (88, .iconst 1, 1), (89, .isub, 1), (90, .iload_n 2, 1), (91, .iand, 1), (92, .istore_n 3, 1), (93, .goto (-60), 3), (96, .iinc 2 1, 3), (99, .goto (-81), 3), (102, .aload_n 0, 1), (103, .getfield 50, 3), (106, .iload_n 1, 1), (107, .iconst 1, 1), (108, .isub, 1), (109, .iaload, 1), (110, .ireturn, 1)]
theorem DA_X9_evenParts_0 : DT_X9_evenParts_0.all (dtf cX9_evenParts) = true := by decide +kernel
theorem dX9_evenParts_0 : decode cX9_evenParts 0 = .ok (.iconst 1, 1) := dt_of DA_X9_evenParts_0 0 rfl
theorem dX9_evenParts_1 : decode cX9_evenParts 1 = .ok (.aload_n 0, 1) := dt_of DA_X9_evenParts_0 1 rfl
theorem dX9_evenParts_2 : decode cX9_evenParts 2 = .ok (.getfield 25, 3) := dt_of DA_X9_evenParts_0 2 rfl
theorem dX9_evenParts_5 : decode cX9_evenParts 5 = .ok (.iconst 1, 1) := dt_of DA_X9_evenParts_0 3 rfl
theorem dX9_evenParts_6 : decode cX9_evenParts 6 = .ok (.iaload, 1) := dt_of DA_X9_evenParts_0 4 rfl
theorem dX9_evenParts_7 : decode cX9_evenParts 7 = .ok (.ishl, 1) := dt_of DA_X9_evenParts_0 5 rfl
theorem dX9_evenParts_8 : decode cX9_evenParts 8 = .ok (.istore_n 1, 1) := dt_of DA_X9_evenParts_0 6 rfl
theorem dX9_evenParts_9 : decode cX9_evenParts 9 = .ok (.aload_n 0, 1) := dt_of DA_X9_evenParts_0 7 rfl
theorem dX9_evenParts_10 : decode cX9_evenParts 10 = .ok (.getfield 50, 3) := dt_of DA_X9_evenParts_0 8 rfl
theorem dX9_evenParts_13 : decode cX9_evenParts 13 = .ok (.iconst 0, 1) := dt_of DA_X9_evenParts_0 9 rfl
theorem dX9_evenParts_14 : decode cX9_evenParts 14 = .ok (.iconst 0, 1) := dt_of DA_X9_evenParts_0 10 rfl
theorem dX9_evenParts_15 : decode cX9_evenParts 15 = .ok (.iastore, 1) := dt_of DA_X9_evenParts_0 11 rfl
theorem dX9_evenParts_16 : decode cX9_evenParts 16 = .ok (.iconst 1, 1) := dt_of DA_X9_evenParts_0 12 rfl
theorem dX9_evenParts_17 : decode cX9_evenParts 17 = .ok (.istore_n 2, 1) := dt_of DA_X9_evenParts_0 13 rfl
theorem dX9_evenParts_18 : decode cX9_evenParts 18 = .ok (.iload_n 2, 1) := dt_of DA_X9_evenParts_0 14 rfl
theorem dX9_evenParts_19 : decode cX9_evenParts 19 = .ok (.iload_n 1, 1) := dt_of DA_X9_evenParts_0 15 rfl
theorem dX9_evenParts_20 : decode cX9_evenParts 20 = .ok (.if_icmp .ge 82, 3) := dt_of DA_X9_evenParts_0 16 rfl
theorem dX9_evenParts_23 : decode cX9_evenParts 23 = .ok (.aload_n 0, 1) := dt_of DA_X9_evenParts_0 17 rfl
theorem dX9_evenParts_24 : decode cX9_evenParts 24 = .ok (.getfield 50, 3) := dt_of DA_X9_evenParts_0 18 rfl
theorem dX9_evenParts_27 : decode cX9_evenParts 27 = .ok (.iload_n 2, 1) := dt_of DA_X9_evenParts_0 19 rfl
theorem dX9_evenParts_28 : decode cX9_evenParts 28 = .ok (.ldc 56, 2) := dt_of DA_X9_evenParts_0 20 rfl
theorem dX9_evenParts_30 : decode cX9_evenParts 30 = .ok (.iastore, 1) := dt_of DA_X9_evenParts_0 21 rfl
theorem dX9_evenParts_31 : decode cX9_evenParts 31 = .ok (.iload_n 2, 1) := dt_of DA_X9_evenParts_0 22 rfl
theorem dX9_evenParts_32 : decode cX9_evenParts 32 = .ok (.istore_n 3, 1) := dt_of DA_X9_evenParts_0 23 rfl
theorem dX9_evenParts_33 : decode cX9_evenParts 33 = .ok (.iload_n 3, 1) := dt_of DA_X9_evenParts_0 24 rfl
theorem dX9_evenParts_34 : decode cX9_evenParts 34 = .ok (.ifCond .le 62, 3) := dt_of DA_X9_evenParts_0 25 rfl
theorem dX9_evenParts_37 : decode cX9_evenParts 37 = .ok (.aload_n 0, 1) := dt_of DA_X9_evenParts_0 26 rfl
theorem dX9_evenParts_38 : decode cX9_evenParts 38 = .ok (.getfield 50, 3) := dt_of DA_X9_evenParts_0 27 rfl
theorem dX9_evenParts_41 : decode cX9_evenParts 41 = .ok (.iload_n 2, 1) := dt_of DA_X9_evenParts_0 28 rfl
theorem dX9_evenParts_42 : decode cX9_evenParts 42 = .ok (.iload_n 3, 1) := dt_of DA_X9_evenParts_0 29 rfl
theorem dX9_evenParts_43 : decode cX9_evenParts 43 = .ok (.iconst (-1), 1) := dt_of DA_X9_evenParts_0 30 rfl
theorem dX9_evenParts_44 : decode cX9_evenParts 44 = .ok (.ixor, 1) := dt_of DA_X9_evenParts_0 31 rfl
theorem dX9_evenParts_45 : decode cX9_evenParts 45 = .ok (.iand, 1) := dt_of DA_X9_evenParts_0 32 rfl
theorem dX9_evenParts_46 : decode cX9_evenParts 46 = .ok (.iaload, 1) := dt_of DA_X9_evenParts_0 33 rfl
theorem dX9_evenParts_47 : decode cX9_evenParts 47 = .ok (.istore 4, 2) := dt_of DA_X9_evenParts_0 34 rfl
theorem dX9_evenParts_49 : decode cX9_evenParts 49 = .ok (.aload_n 0, 1) := dt_of DA_X9_evenParts_0 35 rfl
theorem dX9_evenParts_50 : decode cX9_evenParts 50 = .ok (.iload_n 3, 1) := dt_of DA_X9_evenParts_0 36 rfl
theorem dX9_evenParts_51 : decode cX9_evenParts 51 = .ok (.invokevirtual 219, 3) := dt_of DA_X9_evenParts_0 37 rfl
theorem dX9_evenParts_54 : decode cX9_evenParts 54 = .ok (.ifCond .ne 33, 3) := dt_of DA_X9_evenParts_0 38 rfl
theorem dX9_evenParts_57 : decode cX9_evenParts 57 = .ok (.iload 4, 2) := dt_of DA_X9_evenParts_0 39 rfl
theorem dX9_evenParts_59 : decode cX9_evenParts 59 = .ok (.ldc 56, 2) := dt_of DA_X9_evenParts_0 40 rfl
theorem dX9_evenParts_61 : decode cX9_evenParts 61 = .ok (.if_icmp .eq 26, 3) := dt_of DA_X9_evenParts_0 41 rfl
theorem dX9_evenParts_64 : decode cX9_evenParts 64 = .ok (.iload 4, 2) := dt_of DA_X9_evenParts_0 42 rfl
theorem dX9_evenParts_66 : decode cX9_evenParts 66 = .ok (.iconst 1, 1) := dt_of DA_X9_evenParts_0 43 rfl
theorem dX9_evenParts_67 : decode cX9_evenParts 67 = .ok (.iadd, 1) := dt_of DA_X9_evenParts_0 44 rfl
theorem dX9_evenParts_68 : decode cX9_evenParts 68 = .ok (.aload_n 0, 1) := dt_of DA_X9_evenParts_0 45 rfl
theorem dX9_evenParts_69 : decode cX9_evenParts 69 = .ok (.getfield 50, 3) := dt_of DA_X9_evenParts_0 46 rfl
theorem dX9_evenParts_72 : decode cX9_evenParts 72 = .ok (.iload_n 2, 1) := dt_of DA_X9_evenParts_0 47 rfl
theorem dX9_evenParts_73 : decode cX9_evenParts 73 = .ok (.iaload, 1) := dt_of DA_X9_evenParts_0 48 rfl
theorem dX9_evenParts_74 : decode cX9_evenParts 74 = .ok (.if_icmp .le 13, 3) := dt_of DA_X9_evenParts_0 49 rfl
theorem dX9_evenParts_77 : decode cX9_evenParts 77 = .ok (.aload_n 0, 1) := dt_of DA_X9_evenParts_0 50 rfl
theorem dX9_evenParts_78 : decode cX9_evenParts 78 = .ok (.getfield 50, 3) := dt_of DA_X9_evenParts_0 51 rfl
theorem dX9_evenParts_81 : decode cX9_evenParts 81 = .ok (.iload_n 2, 1) := dt_of DA_X9_evenParts_0 52 rfl
theorem dX9_evenParts_82 : decode cX9_evenParts 82 = .ok (.iload 4, 2) := dt_of DA_X9_evenParts_0 53 rfl
theorem dX9_evenParts_84 : decode cX9_evenParts 84 = .ok (.iconst 1, 1) := dt_of DA_X9_evenParts_0 54 rfl
theorem dX9_evenParts_85 : decode cX9_evenParts 85 = .ok (.iadd, 1) := dt_of DA_X9_evenParts_0 55 rfl
theorem dX9_evenParts_86 : decode cX9_evenParts 86 = .ok (.iastore, 1) := dt_of DA_X9_evenParts_0 56 rfl
theorem dX9_evenParts_87 : decode cX9_evenParts 87 = .ok (.iload_n 3, 1) := dt_of DA_X9_evenParts_0 57 rfl
theorem dX9_evenParts_88 : decode cX9_evenParts 88 = .ok (.iconst 1, 1) := dt_of DA_X9_evenParts_0 58 rfl
theorem dX9_evenParts_89 : decode cX9_evenParts 89 = .ok (.isub, 1) := dt_of DA_X9_evenParts_0 59 rfl
theorem dX9_evenParts_90 : decode cX9_evenParts 90 = .ok (.iload_n 2, 1) := dt_of DA_X9_evenParts_0 60 rfl
theorem dX9_evenParts_91 : decode cX9_evenParts 91 = .ok (.iand, 1) := dt_of DA_X9_evenParts_0 61 rfl
theorem dX9_evenParts_92 : decode cX9_evenParts 92 = .ok (.istore_n 3, 1) := dt_of DA_X9_evenParts_0 62 rfl
theorem dX9_evenParts_93 : decode cX9_evenParts 93 = .ok (.goto (-60), 3) := dt_of DA_X9_evenParts_0 63 rfl
theorem dX9_evenParts_96 : decode cX9_evenParts 96 = .ok (.iinc 2 1, 3) := dt_of DA_X9_evenParts_0 64 rfl
theorem dX9_evenParts_99 : decode cX9_evenParts 99 = .ok (.goto (-81), 3) := dt_of DA_X9_evenParts_0 65 rfl
theorem dX9_evenParts_102 : decode cX9_evenParts 102 = .ok (.aload_n 0, 1) := dt_of DA_X9_evenParts_0 66 rfl
theorem dX9_evenParts_103 : decode cX9_evenParts 103 = .ok (.getfield 50, 3) := dt_of DA_X9_evenParts_0 67 rfl
theorem dX9_evenParts_106 : decode cX9_evenParts 106 = .ok (.iload_n 1, 1) := dt_of DA_X9_evenParts_0 68 rfl
theorem dX9_evenParts_107 : decode cX9_evenParts 107 = .ok (.iconst 1, 1) := dt_of DA_X9_evenParts_0 69 rfl
theorem dX9_evenParts_108 : decode cX9_evenParts 108 = .ok (.isub, 1) := dt_of DA_X9_evenParts_0 70 rfl
theorem dX9_evenParts_109 : decode cX9_evenParts 109 = .ok (.iaload, 1) := dt_of DA_X9_evenParts_0 71 rfl
theorem dX9_evenParts_110 : decode cX9_evenParts 110 = .ok (.ireturn, 1) := dt_of DA_X9_evenParts_0 72 rfl
def DT_X9_payments_0 : List (Nat × Instr × Nat) := [(0, .aload_n 0, 1), (1, .invokevirtual 191, 3), (4, .ifCond .ne 6, 3), (7, .ldc 194, 2), (9, .ireturn, 1), (10, .iload_n 1, 1), (11, .iconst 0, 1), (12, .iconst 1, 1), (13, .invokestatic 62, 3), (16, .ifCond .ne 6, 3), (19, .ldc 70, 2), (21, .ireturn, 1), (22, .iload_n 1, 1), (23, .ifCond .ne 15, 3), (26, .aload_n 0, 1), (27, .getfield 25, 3), (30, .iconst 1, 1), (31, .iaload, 1), (32, .aload_n 0, 1), (33, .invokevirtual 222, 3), (36, .isub, 1), (37, .ireturn, 1), (38, .iconst 0, 1), (39, .istore_n 2, 1), (40, .iconst 0, 1), (41, .istore_n 3, 1), (42, .iload_n 3, 1), (43, .aload_n 0, 1), (44, .getfield 25, 3), (47, .iconst 1, 1), (48, .iaload, 1), (49, .if_icmp .ge 23, 3), (52, .iload_n 2, 1), (53, .aload_n 0, 1), (54, .getfield 25, 3), (57, .iload_n 3, 1), (58, .invokestatic 209, 3), (61, .invokestatic 170, 3), (64, .iadd, 1), (65, .istore_n 2, 1), (66, .iinc 3 1, 3), (69, .goto (-27), 3), (72, .iload_n 2, 1), (73, .ireturn, 1)]
theorem DA_X9_payments_0 : DT_X9_payments_0.all (dtf cX9_payments) = true := by decide +kernel
theorem dX9_payments_0 : decode cX9_payments 0 = .ok (.aload_n 0, 1) := dt_of DA_X9_payments_0 0 rfl
theorem dX9_payments_1 : decode cX9_payments 1 = .ok (.invokevirtual 191, 3) := dt_of DA_X9_payments_0 1 rfl
theorem dX9_payments_4 : decode cX9_payments 4 = .ok (.ifCond .ne 6, 3) := dt_of DA_X9_payments_0 2 rfl
theorem dX9_payments_7 : decode cX9_payments 7 = .ok (.ldc 194, 2) := dt_of DA_X9_payments_0 3 rfl
theorem dX9_payments_9 : decode cX9_payments 9 = .ok (.ireturn, 1) := dt_of DA_X9_payments_0 4 rfl
theorem dX9_payments_10 : decode cX9_payments 10 = .ok (.iload_n 1, 1) := dt_of DA_X9_payments_0 5 rfl
theorem dX9_payments_11 : decode cX9_payments 11 = .ok (.iconst 0, 1) := dt_of DA_X9_payments_0 6 rfl
theorem dX9_payments_12 : decode cX9_payments 12 = .ok (.iconst 1, 1) := dt_of DA_X9_payments_0 7 rfl
theorem dX9_payments_13 : decode cX9_payments 13 = .ok (.invokestatic 62, 3) := dt_of DA_X9_payments_0 8 rfl
theorem dX9_payments_16 : decode cX9_payments 16 = .ok (.ifCond .ne 6, 3) := dt_of DA_X9_payments_0 9 rfl
theorem dX9_payments_19 : decode cX9_payments 19 = .ok (.ldc 70, 2) := dt_of DA_X9_payments_0 10 rfl
theorem dX9_payments_21 : decode cX9_payments 21 = .ok (.ireturn, 1) := dt_of DA_X9_payments_0 11 rfl
theorem dX9_payments_22 : decode cX9_payments 22 = .ok (.iload_n 1, 1) := dt_of DA_X9_payments_0 12 rfl
theorem dX9_payments_23 : decode cX9_payments 23 = .ok (.ifCond .ne 15, 3) := dt_of DA_X9_payments_0 13 rfl
theorem dX9_payments_26 : decode cX9_payments 26 = .ok (.aload_n 0, 1) := dt_of DA_X9_payments_0 14 rfl
theorem dX9_payments_27 : decode cX9_payments 27 = .ok (.getfield 25, 3) := dt_of DA_X9_payments_0 15 rfl
theorem dX9_payments_30 : decode cX9_payments 30 = .ok (.iconst 1, 1) := dt_of DA_X9_payments_0 16 rfl
theorem dX9_payments_31 : decode cX9_payments 31 = .ok (.iaload, 1) := dt_of DA_X9_payments_0 17 rfl
theorem dX9_payments_32 : decode cX9_payments 32 = .ok (.aload_n 0, 1) := dt_of DA_X9_payments_0 18 rfl
theorem dX9_payments_33 : decode cX9_payments 33 = .ok (.invokevirtual 222, 3) := dt_of DA_X9_payments_0 19 rfl
theorem dX9_payments_36 : decode cX9_payments 36 = .ok (.isub, 1) := dt_of DA_X9_payments_0 20 rfl
theorem dX9_payments_37 : decode cX9_payments 37 = .ok (.ireturn, 1) := dt_of DA_X9_payments_0 21 rfl
theorem dX9_payments_38 : decode cX9_payments 38 = .ok (.iconst 0, 1) := dt_of DA_X9_payments_0 22 rfl
theorem dX9_payments_39 : decode cX9_payments 39 = .ok (.istore_n 2, 1) := dt_of DA_X9_payments_0 23 rfl
theorem dX9_payments_40 : decode cX9_payments 40 = .ok (.iconst 0, 1) := dt_of DA_X9_payments_0 24 rfl
theorem dX9_payments_41 : decode cX9_payments 41 = .ok (.istore_n 3, 1) := dt_of DA_X9_payments_0 25 rfl
theorem dX9_payments_42 : decode cX9_payments 42 = .ok (.iload_n 3, 1) := dt_of DA_X9_payments_0 26 rfl
theorem dX9_payments_43 : decode cX9_payments 43 = .ok (.aload_n 0, 1) := dt_of DA_X9_payments_0 27 rfl
theorem dX9_payments_44 : decode cX9_payments 44 = .ok (.getfield 25, 3) := dt_of DA_X9_payments_0 28 rfl
theorem dX9_payments_47 : decode cX9_payments 47 = .ok (.iconst 1, 1) := dt_of DA_X9_payments_0 29 rfl
theorem dX9_payments_48 : decode cX9_payments 48 = .ok (.iaload, 1) := dt_of DA_X9_payments_0 30 rfl
theorem dX9_payments_49 : decode cX9_payments 49 = .ok (.if_icmp .ge 23, 3) := dt_of DA_X9_payments_0 31 rfl
theorem dX9_payments_52 : decode cX9_payments 52 = .ok (.iload_n 2, 1) := dt_of DA_X9_payments_0 32 rfl
theorem dX9_payments_53 : decode cX9_payments 53 = .ok (.aload_n 0, 1) := dt_of DA_X9_payments_0 33 rfl
theorem dX9_payments_54 : decode cX9_payments 54 = .ok (.getfield 25, 3) := dt_of DA_X9_payments_0 34 rfl
theorem dX9_payments_57 : decode cX9_payments 57 = .ok (.iload_n 3, 1) := dt_of DA_X9_payments_0 35 rfl
theorem dX9_payments_58 : decode cX9_payments 58 = .ok (.invokestatic 209, 3) := dt_of DA_X9_payments_0 36 rfl
theorem dX9_payments_61 : decode cX9_payments 61 = .ok (.invokestatic 170, 3) := dt_of DA_X9_payments_0 37 rfl
theorem dX9_payments_64 : decode cX9_payments 64 = .ok (.iadd, 1) := dt_of DA_X9_payments_0 38 rfl
theorem dX9_payments_65 : decode cX9_payments 65 = .ok (.istore_n 2, 1) := dt_of DA_X9_payments_0 39 rfl
theorem dX9_payments_66 : decode cX9_payments 66 = .ok (.iinc 3 1, 3) := dt_of DA_X9_payments_0 40 rfl
theorem dX9_payments_69 : decode cX9_payments 69 = .ok (.goto (-27), 3) := dt_of DA_X9_payments_0 41 rfl
theorem dX9_payments_72 : decode cX9_payments 72 = .ok (.iload_n 2, 1) := dt_of DA_X9_payments_0 42 rfl
theorem dX9_payments_73 : decode cX9_payments 73 = .ok (.ireturn, 1) := dt_of DA_X9_payments_0 43 rfl
def DT_X9_circle_0 : List (Nat × Instr × Nat) := [(0, .aload_n 0, 1), (1, .invokevirtual 191, 3), (4, .ifCond .ne 6, 3), (7, .ldc 194, 2), (9, .ireturn, 1), (10, .iload_n 1, 1), (11, .iconst 0, 1), (12, .iconst 1, 1), (13, .invokestatic 62, 3), (16, .ifCond .ne 6, 3), (19, .ldc 70, 2), (21, .ireturn, 1), (22, .aload_n 0, 1), (23, .getfield 25, 3), (26, .iconst 1, 1), (27, .iaload, 1), (28, .istore_n 2, 1), (29, .iconst 0, 1), (30, .istore_n 3, 1), (31, .iload_n 3, 1), (32, .iload_n 2, 1), (33, .iload_n 2, 1), (34, .imul, 1), (35, .iload_n 2, 1), (36, .imul, 1), (37, .if_icmp .ge 122, 3), (40, .iload_n 3, 1), (41, .iload_n 2, 1), (42, .idiv, 1), (43, .iload_n 2, 1), (44, .idiv, 1), (45, .istore 4, 2), (47, .iload_n 3, 1), (48, .iload_n 2, 1), (49, .idiv, 1), (50, .iload_n 2, 1), (51, .irem, 1), (52, .istore 5, 2), (54, .iload_n 3, 1), (55, .iload_n 2, 1), (56, .irem, 1), (57, .istore 6, 2), (59, .iload 4, 2), (61, .iload 5, 2), (63, .if_icmp .ge 90, 3), (66, .iload 4, 2), (68, .iload 6, 2), (70, .if_icmp .ge 83, 3), (73, .iload 5, 2), (75, .iload 6, 2), (77, .if_icmp .eq 76, 3), (80, .aload_n 0, 1), (81, .getfield 25, 3), (84, .iload 4, 2), (86, .iload 5, 2), (88, .invokestatic 133, 3), (91, .iaload, 1), (92, .aload_n 0, 1), (93, .getfield 25, 3), (96, .iload 5, 2), (98, .iload 6, 2), (100, .invokestatic 133, 3), (103, .iaload, 1), (104, .aload_n 0, 1), (105, .getfield 25, 3), (108, .iload 6, 2), (110, .iload 4, 2), (112, .invokestatic 133, 3), (115, .iaload, 1), (116, .invokestatic 163, 3), (119, .invokestatic 163, 3), (122, .istore 7, 2), (124, .iload 7, 2), (126, .ifCond .le 27, 3), (129, .iload_n 1, 1), (130, .ifCond .ne 20, 3), (133, .bipush 100, 2), (135, .iload 4, 2), (137, .imul, 1), (138, .bipush 10, 2), (140, .iload 5, 2), (142, .imul, 1), (143, .iadd, 1), (144, .iload 6, 2), (146, .iadd, 1), (147, .goto 5, 3), (150, .iload 7, 2), (152, .ireturn, 1), (153, .iinc 3 1, 3), (156, .goto (-125), 3), (159, .ldc 56, 2), (161, .ireturn, 1)]
theorem DA_X9_circle_0 : DT_X9_circle_0.all (dtf cX9_circle) = true := by decide +kernel
theorem dX9_circle_0 : decode cX9_circle 0 = .ok (.aload_n 0, 1) := dt_of DA_X9_circle_0 0 rfl
theorem dX9_circle_1 : decode cX9_circle 1 = .ok (.invokevirtual 191, 3) := dt_of DA_X9_circle_0 1 rfl
theorem dX9_circle_4 : decode cX9_circle 4 = .ok (.ifCond .ne 6, 3) := dt_of DA_X9_circle_0 2 rfl
theorem dX9_circle_7 : decode cX9_circle 7 = .ok (.ldc 194, 2) := dt_of DA_X9_circle_0 3 rfl
theorem dX9_circle_9 : decode cX9_circle 9 = .ok (.ireturn, 1) := dt_of DA_X9_circle_0 4 rfl
theorem dX9_circle_10 : decode cX9_circle 10 = .ok (.iload_n 1, 1) := dt_of DA_X9_circle_0 5 rfl
theorem dX9_circle_11 : decode cX9_circle 11 = .ok (.iconst 0, 1) := dt_of DA_X9_circle_0 6 rfl
theorem dX9_circle_12 : decode cX9_circle 12 = .ok (.iconst 1, 1) := dt_of DA_X9_circle_0 7 rfl
theorem dX9_circle_13 : decode cX9_circle 13 = .ok (.invokestatic 62, 3) := dt_of DA_X9_circle_0 8 rfl
theorem dX9_circle_16 : decode cX9_circle 16 = .ok (.ifCond .ne 6, 3) := dt_of DA_X9_circle_0 9 rfl
theorem dX9_circle_19 : decode cX9_circle 19 = .ok (.ldc 70, 2) := dt_of DA_X9_circle_0 10 rfl
theorem dX9_circle_21 : decode cX9_circle 21 = .ok (.ireturn, 1) := dt_of DA_X9_circle_0 11 rfl
theorem dX9_circle_22 : decode cX9_circle 22 = .ok (.aload_n 0, 1) := dt_of DA_X9_circle_0 12 rfl
theorem dX9_circle_23 : decode cX9_circle 23 = .ok (.getfield 25, 3) := dt_of DA_X9_circle_0 13 rfl
theorem dX9_circle_26 : decode cX9_circle 26 = .ok (.iconst 1, 1) := dt_of DA_X9_circle_0 14 rfl
theorem dX9_circle_27 : decode cX9_circle 27 = .ok (.iaload, 1) := dt_of DA_X9_circle_0 15 rfl
theorem dX9_circle_28 : decode cX9_circle 28 = .ok (.istore_n 2, 1) := dt_of DA_X9_circle_0 16 rfl
theorem dX9_circle_29 : decode cX9_circle 29 = .ok (.iconst 0, 1) := dt_of DA_X9_circle_0 17 rfl
theorem dX9_circle_30 : decode cX9_circle 30 = .ok (.istore_n 3, 1) := dt_of DA_X9_circle_0 18 rfl
theorem dX9_circle_31 : decode cX9_circle 31 = .ok (.iload_n 3, 1) := dt_of DA_X9_circle_0 19 rfl
theorem dX9_circle_32 : decode cX9_circle 32 = .ok (.iload_n 2, 1) := dt_of DA_X9_circle_0 20 rfl
theorem dX9_circle_33 : decode cX9_circle 33 = .ok (.iload_n 2, 1) := dt_of DA_X9_circle_0 21 rfl
theorem dX9_circle_34 : decode cX9_circle 34 = .ok (.imul, 1) := dt_of DA_X9_circle_0 22 rfl
theorem dX9_circle_35 : decode cX9_circle 35 = .ok (.iload_n 2, 1) := dt_of DA_X9_circle_0 23 rfl
theorem dX9_circle_36 : decode cX9_circle 36 = .ok (.imul, 1) := dt_of DA_X9_circle_0 24 rfl
theorem dX9_circle_37 : decode cX9_circle 37 = .ok (.if_icmp .ge 122, 3) := dt_of DA_X9_circle_0 25 rfl
theorem dX9_circle_40 : decode cX9_circle 40 = .ok (.iload_n 3, 1) := dt_of DA_X9_circle_0 26 rfl
theorem dX9_circle_41 : decode cX9_circle 41 = .ok (.iload_n 2, 1) := dt_of DA_X9_circle_0 27 rfl
theorem dX9_circle_42 : decode cX9_circle 42 = .ok (.idiv, 1) := dt_of DA_X9_circle_0 28 rfl
theorem dX9_circle_43 : decode cX9_circle 43 = .ok (.iload_n 2, 1) := dt_of DA_X9_circle_0 29 rfl
theorem dX9_circle_44 : decode cX9_circle 44 = .ok (.idiv, 1) := dt_of DA_X9_circle_0 30 rfl
theorem dX9_circle_45 : decode cX9_circle 45 = .ok (.istore 4, 2) := dt_of DA_X9_circle_0 31 rfl
theorem dX9_circle_47 : decode cX9_circle 47 = .ok (.iload_n 3, 1) := dt_of DA_X9_circle_0 32 rfl
theorem dX9_circle_48 : decode cX9_circle 48 = .ok (.iload_n 2, 1) := dt_of DA_X9_circle_0 33 rfl
theorem dX9_circle_49 : decode cX9_circle 49 = .ok (.idiv, 1) := dt_of DA_X9_circle_0 34 rfl
theorem dX9_circle_50 : decode cX9_circle 50 = .ok (.iload_n 2, 1) := dt_of DA_X9_circle_0 35 rfl
theorem dX9_circle_51 : decode cX9_circle 51 = .ok (.irem, 1) := dt_of DA_X9_circle_0 36 rfl
theorem dX9_circle_52 : decode cX9_circle 52 = .ok (.istore 5, 2) := dt_of DA_X9_circle_0 37 rfl
theorem dX9_circle_54 : decode cX9_circle 54 = .ok (.iload_n 3, 1) := dt_of DA_X9_circle_0 38 rfl
theorem dX9_circle_55 : decode cX9_circle 55 = .ok (.iload_n 2, 1) := dt_of DA_X9_circle_0 39 rfl
theorem dX9_circle_56 : decode cX9_circle 56 = .ok (.irem, 1) := dt_of DA_X9_circle_0 40 rfl
theorem dX9_circle_57 : decode cX9_circle 57 = .ok (.istore 6, 2) := dt_of DA_X9_circle_0 41 rfl
theorem dX9_circle_59 : decode cX9_circle 59 = .ok (.iload 4, 2) := dt_of DA_X9_circle_0 42 rfl
theorem dX9_circle_61 : decode cX9_circle 61 = .ok (.iload 5, 2) := dt_of DA_X9_circle_0 43 rfl
theorem dX9_circle_63 : decode cX9_circle 63 = .ok (.if_icmp .ge 90, 3) := dt_of DA_X9_circle_0 44 rfl
theorem dX9_circle_66 : decode cX9_circle 66 = .ok (.iload 4, 2) := dt_of DA_X9_circle_0 45 rfl
theorem dX9_circle_68 : decode cX9_circle 68 = .ok (.iload 6, 2) := dt_of DA_X9_circle_0 46 rfl
theorem dX9_circle_70 : decode cX9_circle 70 = .ok (.if_icmp .ge 83, 3) := dt_of DA_X9_circle_0 47 rfl
theorem dX9_circle_73 : decode cX9_circle 73 = .ok (.iload 5, 2) := dt_of DA_X9_circle_0 48 rfl
theorem dX9_circle_75 : decode cX9_circle 75 = .ok (.iload 6, 2) := dt_of DA_X9_circle_0 49 rfl
theorem dX9_circle_77 : decode cX9_circle 77 = .ok (.if_icmp .eq 76, 3) := dt_of DA_X9_circle_0 50 rfl
theorem dX9_circle_80 : decode cX9_circle 80 = .ok (.aload_n 0, 1) := dt_of DA_X9_circle_0 51 rfl
theorem dX9_circle_81 : decode cX9_circle 81 = .ok (.getfield 25, 3) := dt_of DA_X9_circle_0 52 rfl
theorem dX9_circle_84 : decode cX9_circle 84 = .ok (.iload 4, 2) := dt_of DA_X9_circle_0 53 rfl
theorem dX9_circle_86 : decode cX9_circle 86 = .ok (.iload 5, 2) := dt_of DA_X9_circle_0 54 rfl
theorem dX9_circle_88 : decode cX9_circle 88 = .ok (.invokestatic 133, 3) := dt_of DA_X9_circle_0 55 rfl
theorem dX9_circle_91 : decode cX9_circle 91 = .ok (.iaload, 1) := dt_of DA_X9_circle_0 56 rfl
theorem dX9_circle_92 : decode cX9_circle 92 = .ok (.aload_n 0, 1) := dt_of DA_X9_circle_0 57 rfl
theorem dX9_circle_93 : decode cX9_circle 93 = .ok (.getfield 25, 3) := dt_of DA_X9_circle_0 58 rfl
theorem dX9_circle_96 : decode cX9_circle 96 = .ok (.iload 5, 2) := dt_of DA_X9_circle_0 59 rfl
theorem dX9_circle_98 : decode cX9_circle 98 = .ok (.iload 6, 2) := dt_of DA_X9_circle_0 60 rfl
theorem dX9_circle_100 : decode cX9_circle 100 = .ok (.invokestatic 133, 3) := dt_of DA_X9_circle_0 61 rfl
theorem dX9_circle_103 : decode cX9_circle 103 = .ok (.iaload, 1) := dt_of DA_X9_circle_0 62 rfl
theorem dX9_circle_104 : decode cX9_circle 104 = .ok (.aload_n 0, 1) := dt_of DA_X9_circle_0 63 rfl
theorem dX9_circle_105 : decode cX9_circle 105 = .ok (.getfield 25, 3) := dt_of DA_X9_circle_0 64 rfl
theorem dX9_circle_108 : decode cX9_circle 108 = .ok (.iload 6, 2) := dt_of DA_X9_circle_0 65 rfl
theorem dX9_circle_110 : decode cX9_circle 110 = .ok (.iload 4, 2) := dt_of DA_X9_circle_0 66 rfl
theorem dX9_circle_112 : decode cX9_circle 112 = .ok (.invokestatic 133, 3) := dt_of DA_X9_circle_0 67 rfl
theorem dX9_circle_115 : decode cX9_circle 115 = .ok (.iaload, 1) := dt_of DA_X9_circle_0 68 rfl
theorem dX9_circle_116 : decode cX9_circle 116 = .ok (.invokestatic 163, 3) := dt_of DA_X9_circle_0 69 rfl
theorem dX9_circle_119 : decode cX9_circle 119 = .ok (.invokestatic 163, 3) := dt_of DA_X9_circle_0 70 rfl
theorem dX9_circle_122 : decode cX9_circle 122 = .ok (.istore 7, 2) := dt_of DA_X9_circle_0 71 rfl
theorem dX9_circle_124 : decode cX9_circle 124 = .ok (.iload 7, 2) := dt_of DA_X9_circle_0 72 rfl
theorem dX9_circle_126 : decode cX9_circle 126 = .ok (.ifCond .le 27, 3) := dt_of DA_X9_circle_0 73 rfl
theorem dX9_circle_129 : decode cX9_circle 129 = .ok (.iload_n 1, 1) := dt_of DA_X9_circle_0 74 rfl
theorem dX9_circle_130 : decode cX9_circle 130 = .ok (.ifCond .ne 20, 3) := dt_of DA_X9_circle_0 75 rfl
theorem dX9_circle_133 : decode cX9_circle 133 = .ok (.bipush 100, 2) := dt_of DA_X9_circle_0 76 rfl
theorem dX9_circle_135 : decode cX9_circle 135 = .ok (.iload 4, 2) := dt_of DA_X9_circle_0 77 rfl
theorem dX9_circle_137 : decode cX9_circle 137 = .ok (.imul, 1) := dt_of DA_X9_circle_0 78 rfl
theorem dX9_circle_138 : decode cX9_circle 138 = .ok (.bipush 10, 2) := dt_of DA_X9_circle_0 79 rfl
theorem dX9_circle_140 : decode cX9_circle 140 = .ok (.iload 5, 2) := dt_of DA_X9_circle_0 80 rfl
theorem dX9_circle_142 : decode cX9_circle 142 = .ok (.imul, 1) := dt_of DA_X9_circle_0 81 rfl
theorem dX9_circle_143 : decode cX9_circle 143 = .ok (.iadd, 1) := dt_of DA_X9_circle_0 82 rfl
theorem dX9_circle_144 : decode cX9_circle 144 = .ok (.iload 6, 2) := dt_of DA_X9_circle_0 83 rfl
theorem dX9_circle_146 : decode cX9_circle 146 = .ok (.iadd, 1) := dt_of DA_X9_circle_0 84 rfl
theorem dX9_circle_147 : decode cX9_circle 147 = .ok (.goto 5, 3) := dt_of DA_X9_circle_0 85 rfl
theorem dX9_circle_150 : decode cX9_circle 150 = .ok (.iload 7, 2) := dt_of DA_X9_circle_0 86 rfl
theorem dX9_circle_152 : decode cX9_circle 152 = .ok (.ireturn, 1) := dt_of DA_X9_circle_0 87 rfl
theorem dX9_circle_153 : decode cX9_circle 153 = .ok (.iinc 3 1, 3) := dt_of DA_X9_circle_0 88 rfl
theorem dX9_circle_156 : decode cX9_circle 156 = .ok (.goto (-125), 3) := dt_of DA_X9_circle_0 89 rfl
theorem dX9_circle_159 : decode cX9_circle 159 = .ok (.ldc 56, 2) := dt_of DA_X9_circle_0 90 rfl
theorem dX9_circle_161 : decode cX9_circle 161 = .ok (.ireturn, 1) := dt_of DA_X9_circle_0 91 rfl
def DT_X9_more_0 : List (Nat × Instr × Nat) := [(0, .aload_n 0, 1), (1, .iload_n 1, 1), (2, .invokevirtual 160, 3), (5, .ifCond .eq 13, 3), (8, .iload_n 2, 1), (9, .iconst 1, 1), (10, .bipush 30, 2), (12, .invokestatic 62, 3), (15, .ifCond .ne 6, 3), (18, .ldc 70, 2), (20, .ireturn, 1), (21, .iconst 0, 1), (22, .istore_n 3, 1), (23, .iload_n 3, 1), (24, .bipush 10, 2), (26, .if_icmp .ge 68, 3), (29, .aload_n 0, 1), (30, .getfield 25, 3), (33, .iconst 0, 1), (34, .aload_n 0, 1), (35, .getfield 31, 3), (38, .iconst 0, 1), (39, .invokestatic 153, 3), (42, .aload_n 0, 1), (43, .getfield 31, 3), (46, .iconst 3, 1), (47, .iconst 4, 1), (48, .iload_n 1, 1), (49, .imul, 1), (50, .iadd, 1), (51, .iconst 1, 1), (52, .iadd, 1), (53, .aload_n 0, 1), (54, .getfield 25, 3), (57, .iconst 3, 1), (58, .iconst 4, 1), (59, .iload_n 1, 1), (60, .imul, 1), (61, .iadd, 1), (62, .iconst 1, 1), (63, .iadd, 1), (64, .iaload, 1), (65, .iload_n 3, 1), (66, .iadd, 1), (67, .bipush 99, 2), (69, .invokestatic 163, 3), (72, .iastore, 1), (73, .aload_n 0, 1), (74, .iload_n 2, 1), (75, .invokevirtual 212, 3), (78, .aload_n 0, 1), (79, .iload_n 1, 1), (80, .invokevirtual 216, 3), (83, .ifCond .ne 5, 3), (86, .iload_n 3, 1), (87, .ireturn, 1), (88, .iinc 3 1, 3), (91, .goto (-68), 3), (94, .ldc 56, 2), (96, .ireturn, 1)]
theorem DA_X9_more_0 : DT_X9_more_0.all (dtf cX9_more) = true := by decide +kernel
theorem dX9_more_0 : decode cX9_more 0 = .ok (.aload_n 0, 1) := dt_of DA_X9_more_0 0 rfl
theorem dX9_more_1 : decode cX9_more 1 = .ok (.iload_n 1, 1) := dt_of DA_X9_more_0 1 rfl
theorem dX9_more_2 : decode cX9_more 2 = .ok (.invokevirtual 160, 3) := dt_of DA_X9_more_0 2 rfl
theorem dX9_more_5 : decode cX9_more 5 = .ok (.ifCond .eq 13, 3) := dt_of DA_X9_more_0 3 rfl
theorem dX9_more_8 : decode cX9_more 8 = .ok (.iload_n 2, 1) := dt_of DA_X9_more_0 4 rfl
theorem dX9_more_9 : decode cX9_more 9 = .ok (.iconst 1, 1) := dt_of DA_X9_more_0 5 rfl
theorem dX9_more_10 : decode cX9_more 10 = .ok (.bipush 30, 2) := dt_of DA_X9_more_0 6 rfl
theorem dX9_more_12 : decode cX9_more 12 = .ok (.invokestatic 62, 3) := dt_of DA_X9_more_0 7 rfl
theorem dX9_more_15 : decode cX9_more 15 = .ok (.ifCond .ne 6, 3) := dt_of DA_X9_more_0 8 rfl
theorem dX9_more_18 : decode cX9_more 18 = .ok (.ldc 70, 2) := dt_of DA_X9_more_0 9 rfl
theorem dX9_more_20 : decode cX9_more 20 = .ok (.ireturn, 1) := dt_of DA_X9_more_0 10 rfl
theorem dX9_more_21 : decode cX9_more 21 = .ok (.iconst 0, 1) := dt_of DA_X9_more_0 11 rfl
theorem dX9_more_22 : decode cX9_more 22 = .ok (.istore_n 3, 1) := dt_of DA_X9_more_0 12 rfl
theorem dX9_more_23 : decode cX9_more 23 = .ok (.iload_n 3, 1) := dt_of DA_X9_more_0 13 rfl
theorem dX9_more_24 : decode cX9_more 24 = .ok (.bipush 10, 2) := dt_of DA_X9_more_0 14 rfl
theorem dX9_more_26 : decode cX9_more 26 = .ok (.if_icmp .ge 68, 3) := dt_of DA_X9_more_0 15 rfl
theorem dX9_more_29 : decode cX9_more 29 = .ok (.aload_n 0, 1) := dt_of DA_X9_more_0 16 rfl
theorem dX9_more_30 : decode cX9_more 30 = .ok (.getfield 25, 3) := dt_of DA_X9_more_0 17 rfl
theorem dX9_more_33 : decode cX9_more 33 = .ok (.iconst 0, 1) := dt_of DA_X9_more_0 18 rfl
theorem dX9_more_34 : decode cX9_more 34 = .ok (.aload_n 0, 1) := dt_of DA_X9_more_0 19 rfl
theorem dX9_more_35 : decode cX9_more 35 = .ok (.getfield 31, 3) := dt_of DA_X9_more_0 20 rfl
theorem dX9_more_38 : decode cX9_more 38 = .ok (.iconst 0, 1) := dt_of DA_X9_more_0 21 rfl
theorem dX9_more_39 : decode cX9_more 39 = .ok (.invokestatic 153, 3) := dt_of DA_X9_more_0 22 rfl
theorem dX9_more_42 : decode cX9_more 42 = .ok (.aload_n 0, 1) := dt_of DA_X9_more_0 23 rfl
theorem dX9_more_43 : decode cX9_more 43 = .ok (.getfield 31, 3) := dt_of DA_X9_more_0 24 rfl
theorem dX9_more_46 : decode cX9_more 46 = .ok (.iconst 3, 1) := dt_of DA_X9_more_0 25 rfl
theorem dX9_more_47 : decode cX9_more 47 = .ok (.iconst 4, 1) := dt_of DA_X9_more_0 26 rfl
theorem dX9_more_48 : decode cX9_more 48 = .ok (.iload_n 1, 1) := dt_of DA_X9_more_0 27 rfl
theorem dX9_more_49 : decode cX9_more 49 = .ok (.imul, 1) := dt_of DA_X9_more_0 28 rfl
theorem dX9_more_50 : decode cX9_more 50 = .ok (.iadd, 1) := dt_of DA_X9_more_0 29 rfl
theorem dX9_more_51 : decode cX9_more 51 = .ok (.iconst 1, 1) := dt_of DA_X9_more_0 30 rfl
theorem dX9_more_52 : decode cX9_more 52 = .ok (.iadd, 1) := dt_of DA_X9_more_0 31 rfl
theorem dX9_more_53 : decode cX9_more 53 = .ok (.aload_n 0, 1) := dt_of DA_X9_more_0 32 rfl
theorem dX9_more_54 : decode cX9_more 54 = .ok (.getfield 25, 3) := dt_of DA_X9_more_0 33 rfl
theorem dX9_more_57 : decode cX9_more 57 = .ok (.iconst 3, 1) := dt_of DA_X9_more_0 34 rfl
theorem dX9_more_58 : decode cX9_more 58 = .ok (.iconst 4, 1) := dt_of DA_X9_more_0 35 rfl
theorem dX9_more_59 : decode cX9_more 59 = .ok (.iload_n 1, 1) := dt_of DA_X9_more_0 36 rfl
theorem dX9_more_60 : decode cX9_more 60 = .ok (.imul, 1) := dt_of DA_X9_more_0 37 rfl
theorem dX9_more_61 : decode cX9_more 61 = .ok (.iadd, 1) := dt_of DA_X9_more_0 38 rfl
theorem dX9_more_62 : decode cX9_more 62 = .ok (.iconst 1, 1) := dt_of DA_X9_more_0 39 rfl
theorem dX9_more_63 : decode cX9_more 63 = .ok (.iadd, 1) := dt_of DA_X9_more_0 40 rfl
theorem dX9_more_64 : decode cX9_more 64 = .ok (.iaload, 1) := dt_of DA_X9_more_0 41 rfl
theorem dX9_more_65 : decode cX9_more 65 = .ok (.iload_n 3, 1) := dt_of DA_X9_more_0 42 rfl
theorem dX9_more_66 : decode cX9_more 66 = .ok (.iadd, 1) := dt_of DA_X9_more_0 43 rfl
theorem dX9_more_67 : decode cX9_more 67 = .ok (.bipush 99, 2) := dt_of DA_X9_more_0 44 rfl
theorem dX9_more_69 : decode cX9_more 69 = .ok (.invokestatic 163, 3) := dt_of DA_X9_more_0 45 rfl
theorem dX9_more_72 : decode cX9_more 72 = .ok (.iastore, 1) := dt_of DA_X9_more_0 46 rfl
theorem dX9_more_73 : decode cX9_more 73 = .ok (.aload_n 0, 1) := dt_of DA_X9_more_0 47 rfl
theorem dX9_more_74 : decode cX9_more 74 = .ok (.iload_n 2, 1) := dt_of DA_X9_more_0 48 rfl
theorem dX9_more_75 : decode cX9_more 75 = .ok (.invokevirtual 212, 3) := dt_of DA_X9_more_0 49 rfl
theorem dX9_more_78 : decode cX9_more 78 = .ok (.aload_n 0, 1) := dt_of DA_X9_more_0 50 rfl
theorem dX9_more_79 : decode cX9_more 79 = .ok (.iload_n 1, 1) := dt_of DA_X9_more_0 51 rfl
theorem dX9_more_80 : decode cX9_more 80 = .ok (.invokevirtual 216, 3) := dt_of DA_X9_more_0 52 rfl
theorem dX9_more_83 : decode cX9_more 83 = .ok (.ifCond .ne 5, 3) := dt_of DA_X9_more_0 53 rfl
theorem dX9_more_86 : decode cX9_more 86 = .ok (.iload_n 3, 1) := dt_of DA_X9_more_0 54 rfl
theorem dX9_more_87 : decode cX9_more 87 = .ok (.ireturn, 1) := dt_of DA_X9_more_0 55 rfl
theorem dX9_more_88 : decode cX9_more 88 = .ok (.iinc 3 1, 3) := dt_of DA_X9_more_0 56 rfl
theorem dX9_more_91 : decode cX9_more 91 = .ok (.goto (-68), 3) := dt_of DA_X9_more_0 57 rfl
theorem dX9_more_94 : decode cX9_more 94 = .ok (.ldc 56, 2) := dt_of DA_X9_more_0 58 rfl
theorem dX9_more_96 : decode cX9_more 96 = .ok (.ireturn, 1) := dt_of DA_X9_more_0 59 rfl
def DT_X9_owesSo_0 : List (Nat × Instr × Nat) := [(0, .aload_n 0, 1), (1, .getfield 25, 3), (4, .iconst 0, 1), (5, .aload_n 0, 1), (6, .getfield 31, 3), (9, .iconst 0, 1), (10, .invokestatic 153, 3), (13, .aload_n 0, 1), (14, .getfield 31, 3), (17, .iload 4, 2), (19, .iload 5, 2), (21, .iastore, 1), (22, .iconst 1, 1), (23, .istore 6, 2), (25, .iconst 0, 1), (26, .istore 7, 2), (28, .iload 7, 2), (30, .iload_n 3, 1), (31, .if_icmp .ge 47, 3), (34, .aload_n 0, 1), (35, .aload_n 0, 1), (36, .getfield 31, 3), (39, .invokevirtual 198, 3), (42, .iload 6, 2), (44, .ifCond .eq 25, 3), (47, .aload_n 0, 1), (48, .getfield 31, 3), (51, .iload_n 1, 1), (52, .iaload, 1), (53, .aload_n 0, 1), (54, .getfield 16, 3), (57, .iload_n 2, 1), (58, .iload 7, 2), (60, .iadd, 1), (61, .iaload, 1), (62, .if_icmp .ne 7, 3), (65, .iconst 1, 1), (66, .goto 4, 3), (69, .iconst 0, 1), (70, .istore 6, 2), (72, .iinc 7 1, 3), (75, .goto (-47), 3), (78, .iload 6, 2), (80, .ireturn, 1)]
theorem DA_X9_owesSo_0 : DT_X9_owesSo_0.all (dtf cX9_owesSo) = true := by decide +kernel
theorem dX9_owesSo_0 : decode cX9_owesSo 0 = .ok (.aload_n 0, 1) := dt_of DA_X9_owesSo_0 0 rfl
theorem dX9_owesSo_1 : decode cX9_owesSo 1 = .ok (.getfield 25, 3) := dt_of DA_X9_owesSo_0 1 rfl
theorem dX9_owesSo_4 : decode cX9_owesSo 4 = .ok (.iconst 0, 1) := dt_of DA_X9_owesSo_0 2 rfl
theorem dX9_owesSo_5 : decode cX9_owesSo 5 = .ok (.aload_n 0, 1) := dt_of DA_X9_owesSo_0 3 rfl
theorem dX9_owesSo_6 : decode cX9_owesSo 6 = .ok (.getfield 31, 3) := dt_of DA_X9_owesSo_0 4 rfl
theorem dX9_owesSo_9 : decode cX9_owesSo 9 = .ok (.iconst 0, 1) := dt_of DA_X9_owesSo_0 5 rfl
theorem dX9_owesSo_10 : decode cX9_owesSo 10 = .ok (.invokestatic 153, 3) := dt_of DA_X9_owesSo_0 6 rfl
theorem dX9_owesSo_13 : decode cX9_owesSo 13 = .ok (.aload_n 0, 1) := dt_of DA_X9_owesSo_0 7 rfl
theorem dX9_owesSo_14 : decode cX9_owesSo 14 = .ok (.getfield 31, 3) := dt_of DA_X9_owesSo_0 8 rfl
theorem dX9_owesSo_17 : decode cX9_owesSo 17 = .ok (.iload 4, 2) := dt_of DA_X9_owesSo_0 9 rfl
theorem dX9_owesSo_19 : decode cX9_owesSo 19 = .ok (.iload 5, 2) := dt_of DA_X9_owesSo_0 10 rfl
theorem dX9_owesSo_21 : decode cX9_owesSo 21 = .ok (.iastore, 1) := dt_of DA_X9_owesSo_0 11 rfl
theorem dX9_owesSo_22 : decode cX9_owesSo 22 = .ok (.iconst 1, 1) := dt_of DA_X9_owesSo_0 12 rfl
theorem dX9_owesSo_23 : decode cX9_owesSo 23 = .ok (.istore 6, 2) := dt_of DA_X9_owesSo_0 13 rfl
theorem dX9_owesSo_25 : decode cX9_owesSo 25 = .ok (.iconst 0, 1) := dt_of DA_X9_owesSo_0 14 rfl
theorem dX9_owesSo_26 : decode cX9_owesSo 26 = .ok (.istore 7, 2) := dt_of DA_X9_owesSo_0 15 rfl
theorem dX9_owesSo_28 : decode cX9_owesSo 28 = .ok (.iload 7, 2) := dt_of DA_X9_owesSo_0 16 rfl
theorem dX9_owesSo_30 : decode cX9_owesSo 30 = .ok (.iload_n 3, 1) := dt_of DA_X9_owesSo_0 17 rfl
theorem dX9_owesSo_31 : decode cX9_owesSo 31 = .ok (.if_icmp .ge 47, 3) := dt_of DA_X9_owesSo_0 18 rfl
theorem dX9_owesSo_34 : decode cX9_owesSo 34 = .ok (.aload_n 0, 1) := dt_of DA_X9_owesSo_0 19 rfl
theorem dX9_owesSo_35 : decode cX9_owesSo 35 = .ok (.aload_n 0, 1) := dt_of DA_X9_owesSo_0 20 rfl
theorem dX9_owesSo_36 : decode cX9_owesSo 36 = .ok (.getfield 31, 3) := dt_of DA_X9_owesSo_0 21 rfl
theorem dX9_owesSo_39 : decode cX9_owesSo 39 = .ok (.invokevirtual 198, 3) := dt_of DA_X9_owesSo_0 22 rfl
theorem dX9_owesSo_42 : decode cX9_owesSo 42 = .ok (.iload 6, 2) := dt_of DA_X9_owesSo_0 23 rfl
theorem dX9_owesSo_44 : decode cX9_owesSo 44 = .ok (.ifCond .eq 25, 3) := dt_of DA_X9_owesSo_0 24 rfl
theorem dX9_owesSo_47 : decode cX9_owesSo 47 = .ok (.aload_n 0, 1) := dt_of DA_X9_owesSo_0 25 rfl
theorem dX9_owesSo_48 : decode cX9_owesSo 48 = .ok (.getfield 31, 3) := dt_of DA_X9_owesSo_0 26 rfl
theorem dX9_owesSo_51 : decode cX9_owesSo 51 = .ok (.iload_n 1, 1) := dt_of DA_X9_owesSo_0 27 rfl
theorem dX9_owesSo_52 : decode cX9_owesSo 52 = .ok (.iaload, 1) := dt_of DA_X9_owesSo_0 28 rfl
theorem dX9_owesSo_53 : decode cX9_owesSo 53 = .ok (.aload_n 0, 1) := dt_of DA_X9_owesSo_0 29 rfl
theorem dX9_owesSo_54 : decode cX9_owesSo 54 = .ok (.getfield 16, 3) := dt_of DA_X9_owesSo_0 30 rfl
theorem dX9_owesSo_57 : decode cX9_owesSo 57 = .ok (.iload_n 2, 1) := dt_of DA_X9_owesSo_0 31 rfl
theorem dX9_owesSo_58 : decode cX9_owesSo 58 = .ok (.iload 7, 2) := dt_of DA_X9_owesSo_0 32 rfl
theorem dX9_owesSo_60 : decode cX9_owesSo 60 = .ok (.iadd, 1) := dt_of DA_X9_owesSo_0 33 rfl
theorem dX9_owesSo_61 : decode cX9_owesSo 61 = .ok (.iaload, 1) := dt_of DA_X9_owesSo_0 34 rfl
theorem dX9_owesSo_62 : decode cX9_owesSo 62 = .ok (.if_icmp .ne 7, 3) := dt_of DA_X9_owesSo_0 35 rfl
theorem dX9_owesSo_65 : decode cX9_owesSo 65 = .ok (.iconst 1, 1) := dt_of DA_X9_owesSo_0 36 rfl
theorem dX9_owesSo_66 : decode cX9_owesSo 66 = .ok (.goto 4, 3) := dt_of DA_X9_owesSo_0 37 rfl
theorem dX9_owesSo_69 : decode cX9_owesSo 69 = .ok (.iconst 0, 1) := dt_of DA_X9_owesSo_0 38 rfl
theorem dX9_owesSo_70 : decode cX9_owesSo 70 = .ok (.istore 6, 2) := dt_of DA_X9_owesSo_0 39 rfl
theorem dX9_owesSo_72 : decode cX9_owesSo 72 = .ok (.iinc 7 1, 3) := dt_of DA_X9_owesSo_0 40 rfl
theorem dX9_owesSo_75 : decode cX9_owesSo 75 = .ok (.goto (-47), 3) := dt_of DA_X9_owesSo_0 41 rfl
theorem dX9_owesSo_78 : decode cX9_owesSo 78 = .ok (.iload 6, 2) := dt_of DA_X9_owesSo_0 42 rfl
theorem dX9_owesSo_80 : decode cX9_owesSo 80 = .ok (.ireturn, 1) := dt_of DA_X9_owesSo_0 43 rfl
def DT_X9_fits_0 : List (Nat × Instr × Nat) := [(0, .aload_n 0, 1), (1, .iload_n 1, 1), (2, .iload_n 2, 1), (3, .invokevirtual 206, 3), (6, .ifCond .eq 31, 3), (9, .iload_n 3, 1), (10, .invokestatic 66, 3), (13, .ifCond .eq 24, 3), (16, .iload 5, 2), (18, .iconst 1, 1), (19, .bipush 12, 2), (21, .invokestatic 62, 3), (24, .ifCond .eq 13, 3), (27, .iload 6, 2), (29, .iconst 0, 1), (30, .iconst 3, 1), (31, .invokestatic 62, 3), (34, .ifCond .ne 6, 3), (37, .ldc 70, 2), (39, .ireturn, 1), (40, .aload_n 0, 1), (41, .iload_n 3, 1), (42, .invokevirtual 78, 3), (45, .ifCond .eq 9, 3), (48, .aload_n 0, 1), (49, .iconst 1, 1), (50, .invokevirtual 71, 3), (53, .ireturn, 1), (54, .aload_n 0, 1), (55, .iload_n 3, 1), (56, .iload 4, 2), (58, .iload 5, 2), (60, .invokevirtual 85, 3), (63, .ifCond .ne 9, 3), (66, .aload_n 0, 1), (67, .iconst 2, 1), (68, .invokevirtual 71, 3), (71, .ireturn, 1), (72, .iload 6, 2), (74, .ifCond .ne 11, 3), (77, .iconst 3, 1), (78, .iconst 4, 1), (79, .iload_n 2, 1), (80, .imul, 1), (81, .iadd, 1), (82, .goto 21, 3), (85, .iload 6, 2), (87, .iconst 3, 1), (88, .if_icmp .ne 7, 3), (91, .iconst 0, 1), (92, .goto 11, 3), (95, .iconst 3, 1), (96, .iconst 4, 1), (97, .iload_n 1, 1), (98, .imul, 1), (99, .iadd, 1), (100, .iload 6, 2), (102, .iadd, 1), (103, .istore 7, 2), (105, .iconst 0, 1), (106, .istore 8, 2), (108, .iload 6, 2), (110, .ifCond .ne 7, 3), (113, .iconst 1, 1), (114, .goto 4, 3), (117, .iconst 0, 1), (118, .istore 9, 2), (120, .iload 9, 2), (122, .iload 6, 2), (124, .ifCond .ne 7, 3), (127, .iconst 5, 1), (128, .goto 16, 3), (131, .iload 6, 2), (133, .iconst 3, 1), (134, .if_icmp .ne 8, 3), (137, .bipush 15, 2), (139, .goto 5, 3), (142, .bipush 9, 2), (144, .if_icmp .gt 47, 3), (147, .iload 8, 2), (149, .aload_n 0, 1), (150, .iload_n 1, 1), (151, .iload_n 2, 1), (152, .invokestatic 133, 3), (155, .bipush 40, 2), (157, .iload_n 3, 1), (158, .imul, 1), (159, .iload 4, 2), (161, .iadd, 1), (162, .iload 5, 2), (164, .iload 7, 2), (166, .iload 9, 2), (168, .invokevirtual 226, 3), (171, .ifCond .eq 10, 3), (174, .iconst 1, 1), (175, .iload 9, 2), (177, .ishl, 1), (178, .goto 4, 3), (181, .iconst 0, 1), (182, .ior, 1)]
theorem DA_X9_fits_0 : DT_X9_fits_0.all (dtf cX9_fits) = true := by decide +kernel
theorem dX9_fits_0 : decode cX9_fits 0 = .ok (.aload_n 0, 1) := dt_of DA_X9_fits_0 0 rfl
theorem dX9_fits_1 : decode cX9_fits 1 = .ok (.iload_n 1, 1) := dt_of DA_X9_fits_0 1 rfl
theorem dX9_fits_2 : decode cX9_fits 2 = .ok (.iload_n 2, 1) := dt_of DA_X9_fits_0 2 rfl
theorem dX9_fits_3 : decode cX9_fits 3 = .ok (.invokevirtual 206, 3) := dt_of DA_X9_fits_0 3 rfl
theorem dX9_fits_6 : decode cX9_fits 6 = .ok (.ifCond .eq 31, 3) := dt_of DA_X9_fits_0 4 rfl
theorem dX9_fits_9 : decode cX9_fits 9 = .ok (.iload_n 3, 1) := dt_of DA_X9_fits_0 5 rfl
theorem dX9_fits_10 : decode cX9_fits 10 = .ok (.invokestatic 66, 3) := dt_of DA_X9_fits_0 6 rfl
theorem dX9_fits_13 : decode cX9_fits 13 = .ok (.ifCond .eq 24, 3) := dt_of DA_X9_fits_0 7 rfl
theorem dX9_fits_16 : decode cX9_fits 16 = .ok (.iload 5, 2) := dt_of DA_X9_fits_0 8 rfl
theorem dX9_fits_18 : decode cX9_fits 18 = .ok (.iconst 1, 1) := dt_of DA_X9_fits_0 9 rfl
theorem dX9_fits_19 : decode cX9_fits 19 = .ok (.bipush 12, 2) := dt_of DA_X9_fits_0 10 rfl
theorem dX9_fits_21 : decode cX9_fits 21 = .ok (.invokestatic 62, 3) := dt_of DA_X9_fits_0 11 rfl
theorem dX9_fits_24 : decode cX9_fits 24 = .ok (.ifCond .eq 13, 3) := dt_of DA_X9_fits_0 12 rfl
theorem dX9_fits_27 : decode cX9_fits 27 = .ok (.iload 6, 2) := dt_of DA_X9_fits_0 13 rfl
theorem dX9_fits_29 : decode cX9_fits 29 = .ok (.iconst 0, 1) := dt_of DA_X9_fits_0 14 rfl
theorem dX9_fits_30 : decode cX9_fits 30 = .ok (.iconst 3, 1) := dt_of DA_X9_fits_0 15 rfl
theorem dX9_fits_31 : decode cX9_fits 31 = .ok (.invokestatic 62, 3) := dt_of DA_X9_fits_0 16 rfl
theorem dX9_fits_34 : decode cX9_fits 34 = .ok (.ifCond .ne 6, 3) := dt_of DA_X9_fits_0 17 rfl
theorem dX9_fits_37 : decode cX9_fits 37 = .ok (.ldc 70, 2) := dt_of DA_X9_fits_0 18 rfl
theorem dX9_fits_39 : decode cX9_fits 39 = .ok (.ireturn, 1) := dt_of DA_X9_fits_0 19 rfl
theorem dX9_fits_40 : decode cX9_fits 40 = .ok (.aload_n 0, 1) := dt_of DA_X9_fits_0 20 rfl
theorem dX9_fits_41 : decode cX9_fits 41 = .ok (.iload_n 3, 1) := dt_of DA_X9_fits_0 21 rfl
theorem dX9_fits_42 : decode cX9_fits 42 = .ok (.invokevirtual 78, 3) := dt_of DA_X9_fits_0 22 rfl
theorem dX9_fits_45 : decode cX9_fits 45 = .ok (.ifCond .eq 9, 3) := dt_of DA_X9_fits_0 23 rfl
theorem dX9_fits_48 : decode cX9_fits 48 = .ok (.aload_n 0, 1) := dt_of DA_X9_fits_0 24 rfl
theorem dX9_fits_49 : decode cX9_fits 49 = .ok (.iconst 1, 1) := dt_of DA_X9_fits_0 25 rfl
theorem dX9_fits_50 : decode cX9_fits 50 = .ok (.invokevirtual 71, 3) := dt_of DA_X9_fits_0 26 rfl
theorem dX9_fits_53 : decode cX9_fits 53 = .ok (.ireturn, 1) := dt_of DA_X9_fits_0 27 rfl
theorem dX9_fits_54 : decode cX9_fits 54 = .ok (.aload_n 0, 1) := dt_of DA_X9_fits_0 28 rfl
theorem dX9_fits_55 : decode cX9_fits 55 = .ok (.iload_n 3, 1) := dt_of DA_X9_fits_0 29 rfl
theorem dX9_fits_56 : decode cX9_fits 56 = .ok (.iload 4, 2) := dt_of DA_X9_fits_0 30 rfl
theorem dX9_fits_58 : decode cX9_fits 58 = .ok (.iload 5, 2) := dt_of DA_X9_fits_0 31 rfl
theorem dX9_fits_60 : decode cX9_fits 60 = .ok (.invokevirtual 85, 3) := dt_of DA_X9_fits_0 32 rfl
theorem dX9_fits_63 : decode cX9_fits 63 = .ok (.ifCond .ne 9, 3) := dt_of DA_X9_fits_0 33 rfl
theorem dX9_fits_66 : decode cX9_fits 66 = .ok (.aload_n 0, 1) := dt_of DA_X9_fits_0 34 rfl
theorem dX9_fits_67 : decode cX9_fits 67 = .ok (.iconst 2, 1) := dt_of DA_X9_fits_0 35 rfl
theorem dX9_fits_68 : decode cX9_fits 68 = .ok (.invokevirtual 71, 3) := dt_of DA_X9_fits_0 36 rfl
theorem dX9_fits_71 : decode cX9_fits 71 = .ok (.ireturn, 1) := dt_of DA_X9_fits_0 37 rfl
theorem dX9_fits_72 : decode cX9_fits 72 = .ok (.iload 6, 2) := dt_of DA_X9_fits_0 38 rfl
theorem dX9_fits_74 : decode cX9_fits 74 = .ok (.ifCond .ne 11, 3) := dt_of DA_X9_fits_0 39 rfl
theorem dX9_fits_77 : decode cX9_fits 77 = .ok (.iconst 3, 1) := dt_of DA_X9_fits_0 40 rfl
theorem dX9_fits_78 : decode cX9_fits 78 = .ok (.iconst 4, 1) := dt_of DA_X9_fits_0 41 rfl
theorem dX9_fits_79 : decode cX9_fits 79 = .ok (.iload_n 2, 1) := dt_of DA_X9_fits_0 42 rfl
theorem dX9_fits_80 : decode cX9_fits 80 = .ok (.imul, 1) := dt_of DA_X9_fits_0 43 rfl
theorem dX9_fits_81 : decode cX9_fits 81 = .ok (.iadd, 1) := dt_of DA_X9_fits_0 44 rfl
theorem dX9_fits_82 : decode cX9_fits 82 = .ok (.goto 21, 3) := dt_of DA_X9_fits_0 45 rfl
theorem dX9_fits_85 : decode cX9_fits 85 = .ok (.iload 6, 2) := dt_of DA_X9_fits_0 46 rfl
theorem dX9_fits_87 : decode cX9_fits 87 = .ok (.iconst 3, 1) := dt_of DA_X9_fits_0 47 rfl
theorem dX9_fits_88 : decode cX9_fits 88 = .ok (.if_icmp .ne 7, 3) := dt_of DA_X9_fits_0 48 rfl
theorem dX9_fits_91 : decode cX9_fits 91 = .ok (.iconst 0, 1) := dt_of DA_X9_fits_0 49 rfl
theorem dX9_fits_92 : decode cX9_fits 92 = .ok (.goto 11, 3) := dt_of DA_X9_fits_0 50 rfl
theorem dX9_fits_95 : decode cX9_fits 95 = .ok (.iconst 3, 1) := dt_of DA_X9_fits_0 51 rfl
theorem dX9_fits_96 : decode cX9_fits 96 = .ok (.iconst 4, 1) := dt_of DA_X9_fits_0 52 rfl
theorem dX9_fits_97 : decode cX9_fits 97 = .ok (.iload_n 1, 1) := dt_of DA_X9_fits_0 53 rfl
theorem dX9_fits_98 : decode cX9_fits 98 = .ok (.imul, 1) := dt_of DA_X9_fits_0 54 rfl
theorem dX9_fits_99 : decode cX9_fits 99 = .ok (.iadd, 1) := dt_of DA_X9_fits_0 55 rfl
theorem dX9_fits_100 : decode cX9_fits 100 = .ok (.iload 6, 2) := dt_of DA_X9_fits_0 56 rfl
theorem dX9_fits_102 : decode cX9_fits 102 = .ok (.iadd, 1) := dt_of DA_X9_fits_0 57 rfl
theorem dX9_fits_103 : decode cX9_fits 103 = .ok (.istore 7, 2) := dt_of DA_X9_fits_0 58 rfl
theorem dX9_fits_105 : decode cX9_fits 105 = .ok (.iconst 0, 1) := dt_of DA_X9_fits_0 59 rfl
theorem dX9_fits_106 : decode cX9_fits 106 = .ok (.istore 8, 2) := dt_of DA_X9_fits_0 60 rfl
theorem dX9_fits_108 : decode cX9_fits 108 = .ok (.iload 6, 2) := dt_of DA_X9_fits_0 61 rfl
theorem dX9_fits_110 : decode cX9_fits 110 = .ok (.ifCond .ne 7, 3) := dt_of DA_X9_fits_0 62 rfl
theorem dX9_fits_113 : decode cX9_fits 113 = .ok (.iconst 1, 1) := dt_of DA_X9_fits_0 63 rfl
theorem dX9_fits_114 : decode cX9_fits 114 = .ok (.goto 4, 3) := dt_of DA_X9_fits_0 64 rfl
theorem dX9_fits_117 : decode cX9_fits 117 = .ok (.iconst 0, 1) := dt_of DA_X9_fits_0 65 rfl
theorem dX9_fits_118 : decode cX9_fits 118 = .ok (.istore 9, 2) := dt_of DA_X9_fits_0 66 rfl
theorem dX9_fits_120 : decode cX9_fits 120 = .ok (.iload 9, 2) := dt_of DA_X9_fits_0 67 rfl
theorem dX9_fits_122 : decode cX9_fits 122 = .ok (.iload 6, 2) := dt_of DA_X9_fits_0 68 rfl
theorem dX9_fits_124 : decode cX9_fits 124 = .ok (.ifCond .ne 7, 3) := dt_of DA_X9_fits_0 69 rfl
theorem dX9_fits_127 : decode cX9_fits 127 = .ok (.iconst 5, 1) := dt_of DA_X9_fits_0 70 rfl
theorem dX9_fits_128 : decode cX9_fits 128 = .ok (.goto 16, 3) := dt_of DA_X9_fits_0 71 rfl
theorem dX9_fits_131 : decode cX9_fits 131 = .ok (.iload 6, 2) := dt_of DA_X9_fits_0 72 rfl
theorem dX9_fits_133 : decode cX9_fits 133 = .ok (.iconst 3, 1) := dt_of DA_X9_fits_0 73 rfl
theorem dX9_fits_134 : decode cX9_fits 134 = .ok (.if_icmp .ne 8, 3) := dt_of DA_X9_fits_0 74 rfl
theorem dX9_fits_137 : decode cX9_fits 137 = .ok (.bipush 15, 2) := dt_of DA_X9_fits_0 75 rfl
theorem dX9_fits_139 : decode cX9_fits 139 = .ok (.goto 5, 3) := dt_of DA_X9_fits_0 76 rfl
theorem dX9_fits_142 : decode cX9_fits 142 = .ok (.bipush 9, 2) := dt_of DA_X9_fits_0 77 rfl
theorem dX9_fits_144 : decode cX9_fits 144 = .ok (.if_icmp .gt 47, 3) := dt_of DA_X9_fits_0 78 rfl
theorem dX9_fits_147 : decode cX9_fits 147 = .ok (.iload 8, 2) := dt_of DA_X9_fits_0 79 rfl
theorem dX9_fits_149 : decode cX9_fits 149 = .ok (.aload_n 0, 1) := dt_of DA_X9_fits_0 80 rfl
theorem dX9_fits_150 : decode cX9_fits 150 = .ok (.iload_n 1, 1) := dt_of DA_X9_fits_0 81 rfl
theorem dX9_fits_151 : decode cX9_fits 151 = .ok (.iload_n 2, 1) := dt_of DA_X9_fits_0 82 rfl
theorem dX9_fits_152 : decode cX9_fits 152 = .ok (.invokestatic 133, 3) := dt_of DA_X9_fits_0 83 rfl
theorem dX9_fits_155 : decode cX9_fits 155 = .ok (.bipush 40, 2) := dt_of DA_X9_fits_0 84 rfl
theorem dX9_fits_157 : decode cX9_fits 157 = .ok (.iload_n 3, 1) := dt_of DA_X9_fits_0 85 rfl
theorem dX9_fits_158 : decode cX9_fits 158 = .ok (.imul, 1) := dt_of DA_X9_fits_0 86 rfl
theorem dX9_fits_159 : decode cX9_fits 159 = .ok (.iload 4, 2) := dt_of DA_X9_fits_0 87 rfl
theorem dX9_fits_161 : decode cX9_fits 161 = .ok (.iadd, 1) := dt_of DA_X9_fits_0 88 rfl
theorem dX9_fits_162 : decode cX9_fits 162 = .ok (.iload 5, 2) := dt_of DA_X9_fits_0 89 rfl
theorem dX9_fits_164 : decode cX9_fits 164 = .ok (.iload 7, 2) := dt_of DA_X9_fits_0 90 rfl
theorem dX9_fits_166 : decode cX9_fits 166 = .ok (.iload 9, 2) := dt_of DA_X9_fits_0 91 rfl
theorem dX9_fits_168 : decode cX9_fits 168 = .ok (.invokevirtual 226, 3) := dt_of DA_X9_fits_0 92 rfl
theorem dX9_fits_171 : decode cX9_fits 171 = .ok (.ifCond .eq 10, 3) := dt_of DA_X9_fits_0 93 rfl
theorem dX9_fits_174 : decode cX9_fits 174 = .ok (.iconst 1, 1) := dt_of DA_X9_fits_0 94 rfl
theorem dX9_fits_175 : decode cX9_fits 175 = .ok (.iload 9, 2) := dt_of DA_X9_fits_0 95 rfl
theorem dX9_fits_177 : decode cX9_fits 177 = .ok (.ishl, 1) := dt_of DA_X9_fits_0 96 rfl
theorem dX9_fits_178 : decode cX9_fits 178 = .ok (.goto 4, 3) := dt_of DA_X9_fits_0 97 rfl
theorem dX9_fits_181 : decode cX9_fits 181 = .ok (.iconst 0, 1) := dt_of DA_X9_fits_0 98 rfl
theorem dX9_fits_182 : decode cX9_fits 182 = .ok (.ior, 1) := dt_of DA_X9_fits_0 99 rfl
def DT_X9_fits_1 : List (Nat × Instr × Nat) := [(183, .istore 8, 2), (185, .iinc 9 1, 3), (188, .goto (-68), 3), (191, .aload_n 0, 1), (192, .iload 8, 2), (194, .invokevirtual 75, 3), (197, .ireturn, 1)]
theorem DA_X9_fits_1 : DT_X9_fits_1.all (dtf cX9_fits) = true := by decide +kernel
theorem dX9_fits_183 : decode cX9_fits 183 = .ok (.istore 8, 2) := dt_of DA_X9_fits_1 0 rfl
theorem dX9_fits_185 : decode cX9_fits 185 = .ok (.iinc 9 1, 3) := dt_of DA_X9_fits_1 1 rfl
theorem dX9_fits_188 : decode cX9_fits 188 = .ok (.goto (-68), 3) := dt_of DA_X9_fits_1 2 rfl
theorem dX9_fits_191 : decode cX9_fits 191 = .ok (.aload_n 0, 1) := dt_of DA_X9_fits_1 3 rfl
theorem dX9_fits_192 : decode cX9_fits 192 = .ok (.iload 8, 2) := dt_of DA_X9_fits_1 4 rfl
theorem dX9_fits_194 : decode cX9_fits 194 = .ok (.invokevirtual 75, 3) := dt_of DA_X9_fits_1 5 rfl
theorem dX9_fits_197 : decode cX9_fits 197 = .ok (.ireturn, 1) := dt_of DA_X9_fits_1 6 rfl
def DT_X9_stones_0 : List (Nat × Instr × Nat) := [(0, .aload_n 0, 1), (1, .iload_n 1, 1), (2, .invokevirtual 160, 3), (5, .ifCond .eq 22, 3), (8, .iload_n 2, 1), (9, .iconst 0, 1), (10, .bipush 10, 2), (12, .invokestatic 62, 3), (15, .ifCond .eq 12, 3), (18, .iload_n 3, 1), (19, .iconst 0, 1), (20, .iconst 1, 1), (21, .invokestatic 62, 3), (24, .ifCond .ne 6, 3), (27, .ldc 70, 2), (29, .ireturn, 1), (30, .iconst 0, 1), (31, .istore 4, 2), (33, .iconst 1, 1), (34, .istore 5, 2), (36, .iconst 0, 1), (37, .istore 6, 2), (39, .iload 6, 2), (41, .aload_n 0, 1), (42, .getfield 25, 3), (45, .iconst 1, 1), (46, .iaload, 1), (47, .if_icmp .ge 16, 3), (50, .iload 5, 2), (52, .bipush 10, 2), (54, .imul, 1), (55, .istore 5, 2), (57, .iinc 6 1, 3), (60, .goto (-21), 3), (63, .iconst 0, 1), (64, .istore 6, 2), (66, .iload 6, 2), (68, .iconst 1, 1), (69, .aload_n 0, 1), (70, .getfield 25, 3), (73, .iconst 1, 1), (74, .iaload, 1), (75, .ishl, 1), (76, .if_icmp .ge 135, 3), (79, .iconst 1, 1), (80, .istore 7, 2), (82, .aload_n 0, 1), (83, .getfield 25, 3), (86, .iconst 0, 1), (87, .aload_n 0, 1), (88, .getfield 31, 3), (91, .iconst 0, 1), (92, .invokestatic 153, 3), (95, .iconst 0, 1), (96, .istore 8, 2), (98, .iload 8, 2), (100, .aload_n 0, 1), (101, .getfield 25, 3), (104, .iconst 1, 1), (105, .iaload, 1), (106, .if_icmp .ge 72, 3), (109, .iload 7, 2), (111, .iload 6, 2), (113, .iload 8, 2), (115, .invokestatic 166, 3), (118, .ifCond .eq 7, 3), (121, .iload_n 2, 1), (122, .goto 7, 3), (125, .bipush 10, 2), (127, .iload_n 2, 1), (128, .isub, 1), (129, .imul, 1), (130, .istore 7, 2), (132, .aload_n 0, 1), (133, .getfield 31, 3), (136, .iconst 3, 1), (137, .iconst 4, 1), (138, .iload 8, 2), (140, .imul, 1), (141, .iadd, 1), (142, .iconst 1, 1), (143, .iadd, 1), (144, .iload 6, 2), (146, .iload 8, 2), (148, .invokestatic 166, 3), (151, .ifCond .eq 7, 3), (154, .iconst 0, 1), (155, .goto 16, 3), (158, .aload_n 0, 1), (159, .getfield 25, 3), (162, .iconst 3, 1), (163, .iconst 4, 1), (164, .iload 8, 2), (166, .imul, 1), (167, .iadd, 1), (168, .iconst 1, 1), (169, .iadd, 1), (170, .iaload, 1), (171, .iastore, 1), (172, .iinc 8 1, 3)]
theorem DA_X9_stones_0 : DT_X9_stones_0.all (dtf cX9_stones) = true := by decide +kernel
theorem dX9_stones_0 : decode cX9_stones 0 = .ok (.aload_n 0, 1) := dt_of DA_X9_stones_0 0 rfl
theorem dX9_stones_1 : decode cX9_stones 1 = .ok (.iload_n 1, 1) := dt_of DA_X9_stones_0 1 rfl
theorem dX9_stones_2 : decode cX9_stones 2 = .ok (.invokevirtual 160, 3) := dt_of DA_X9_stones_0 2 rfl
theorem dX9_stones_5 : decode cX9_stones 5 = .ok (.ifCond .eq 22, 3) := dt_of DA_X9_stones_0 3 rfl
theorem dX9_stones_8 : decode cX9_stones 8 = .ok (.iload_n 2, 1) := dt_of DA_X9_stones_0 4 rfl
theorem dX9_stones_9 : decode cX9_stones 9 = .ok (.iconst 0, 1) := dt_of DA_X9_stones_0 5 rfl
theorem dX9_stones_10 : decode cX9_stones 10 = .ok (.bipush 10, 2) := dt_of DA_X9_stones_0 6 rfl
theorem dX9_stones_12 : decode cX9_stones 12 = .ok (.invokestatic 62, 3) := dt_of DA_X9_stones_0 7 rfl
theorem dX9_stones_15 : decode cX9_stones 15 = .ok (.ifCond .eq 12, 3) := dt_of DA_X9_stones_0 8 rfl
theorem dX9_stones_18 : decode cX9_stones 18 = .ok (.iload_n 3, 1) := dt_of DA_X9_stones_0 9 rfl
theorem dX9_stones_19 : decode cX9_stones 19 = .ok (.iconst 0, 1) := dt_of DA_X9_stones_0 10 rfl
theorem dX9_stones_20 : decode cX9_stones 20 = .ok (.iconst 1, 1) := dt_of DA_X9_stones_0 11 rfl
theorem dX9_stones_21 : decode cX9_stones 21 = .ok (.invokestatic 62, 3) := dt_of DA_X9_stones_0 12 rfl
theorem dX9_stones_24 : decode cX9_stones 24 = .ok (.ifCond .ne 6, 3) := dt_of DA_X9_stones_0 13 rfl
theorem dX9_stones_27 : decode cX9_stones 27 = .ok (.ldc 70, 2) := dt_of DA_X9_stones_0 14 rfl
theorem dX9_stones_29 : decode cX9_stones 29 = .ok (.ireturn, 1) := dt_of DA_X9_stones_0 15 rfl
theorem dX9_stones_30 : decode cX9_stones 30 = .ok (.iconst 0, 1) := dt_of DA_X9_stones_0 16 rfl
theorem dX9_stones_31 : decode cX9_stones 31 = .ok (.istore 4, 2) := dt_of DA_X9_stones_0 17 rfl
theorem dX9_stones_33 : decode cX9_stones 33 = .ok (.iconst 1, 1) := dt_of DA_X9_stones_0 18 rfl
theorem dX9_stones_34 : decode cX9_stones 34 = .ok (.istore 5, 2) := dt_of DA_X9_stones_0 19 rfl
theorem dX9_stones_36 : decode cX9_stones 36 = .ok (.iconst 0, 1) := dt_of DA_X9_stones_0 20 rfl
theorem dX9_stones_37 : decode cX9_stones 37 = .ok (.istore 6, 2) := dt_of DA_X9_stones_0 21 rfl
theorem dX9_stones_39 : decode cX9_stones 39 = .ok (.iload 6, 2) := dt_of DA_X9_stones_0 22 rfl
theorem dX9_stones_41 : decode cX9_stones 41 = .ok (.aload_n 0, 1) := dt_of DA_X9_stones_0 23 rfl
theorem dX9_stones_42 : decode cX9_stones 42 = .ok (.getfield 25, 3) := dt_of DA_X9_stones_0 24 rfl
theorem dX9_stones_45 : decode cX9_stones 45 = .ok (.iconst 1, 1) := dt_of DA_X9_stones_0 25 rfl
theorem dX9_stones_46 : decode cX9_stones 46 = .ok (.iaload, 1) := dt_of DA_X9_stones_0 26 rfl
theorem dX9_stones_47 : decode cX9_stones 47 = .ok (.if_icmp .ge 16, 3) := dt_of DA_X9_stones_0 27 rfl
theorem dX9_stones_50 : decode cX9_stones 50 = .ok (.iload 5, 2) := dt_of DA_X9_stones_0 28 rfl
theorem dX9_stones_52 : decode cX9_stones 52 = .ok (.bipush 10, 2) := dt_of DA_X9_stones_0 29 rfl
theorem dX9_stones_54 : decode cX9_stones 54 = .ok (.imul, 1) := dt_of DA_X9_stones_0 30 rfl
theorem dX9_stones_55 : decode cX9_stones 55 = .ok (.istore 5, 2) := dt_of DA_X9_stones_0 31 rfl
theorem dX9_stones_57 : decode cX9_stones 57 = .ok (.iinc 6 1, 3) := dt_of DA_X9_stones_0 32 rfl
theorem dX9_stones_60 : decode cX9_stones 60 = .ok (.goto (-21), 3) := dt_of DA_X9_stones_0 33 rfl
theorem dX9_stones_63 : decode cX9_stones 63 = .ok (.iconst 0, 1) := dt_of DA_X9_stones_0 34 rfl
theorem dX9_stones_64 : decode cX9_stones 64 = .ok (.istore 6, 2) := dt_of DA_X9_stones_0 35 rfl
theorem dX9_stones_66 : decode cX9_stones 66 = .ok (.iload 6, 2) := dt_of DA_X9_stones_0 36 rfl
theorem dX9_stones_68 : decode cX9_stones 68 = .ok (.iconst 1, 1) := dt_of DA_X9_stones_0 37 rfl
theorem dX9_stones_69 : decode cX9_stones 69 = .ok (.aload_n 0, 1) := dt_of DA_X9_stones_0 38 rfl
theorem dX9_stones_70 : decode cX9_stones 70 = .ok (.getfield 25, 3) := dt_of DA_X9_stones_0 39 rfl
theorem dX9_stones_73 : decode cX9_stones 73 = .ok (.iconst 1, 1) := dt_of DA_X9_stones_0 40 rfl
theorem dX9_stones_74 : decode cX9_stones 74 = .ok (.iaload, 1) := dt_of DA_X9_stones_0 41 rfl
theorem dX9_stones_75 : decode cX9_stones 75 = .ok (.ishl, 1) := dt_of DA_X9_stones_0 42 rfl
theorem dX9_stones_76 : decode cX9_stones 76 = .ok (.if_icmp .ge 135, 3) := dt_of DA_X9_stones_0 43 rfl
theorem dX9_stones_79 : decode cX9_stones 79 = .ok (.iconst 1, 1) := dt_of DA_X9_stones_0 44 rfl
theorem dX9_stones_80 : decode cX9_stones 80 = .ok (.istore 7, 2) := dt_of DA_X9_stones_0 45 rfl
theorem dX9_stones_82 : decode cX9_stones 82 = .ok (.aload_n 0, 1) := dt_of DA_X9_stones_0 46 rfl
theorem dX9_stones_83 : decode cX9_stones 83 = .ok (.getfield 25, 3) := dt_of DA_X9_stones_0 47 rfl
theorem dX9_stones_86 : decode cX9_stones 86 = .ok (.iconst 0, 1) := dt_of DA_X9_stones_0 48 rfl
theorem dX9_stones_87 : decode cX9_stones 87 = .ok (.aload_n 0, 1) := dt_of DA_X9_stones_0 49 rfl
theorem dX9_stones_88 : decode cX9_stones 88 = .ok (.getfield 31, 3) := dt_of DA_X9_stones_0 50 rfl
theorem dX9_stones_91 : decode cX9_stones 91 = .ok (.iconst 0, 1) := dt_of DA_X9_stones_0 51 rfl
theorem dX9_stones_92 : decode cX9_stones 92 = .ok (.invokestatic 153, 3) := dt_of DA_X9_stones_0 52 rfl
theorem dX9_stones_95 : decode cX9_stones 95 = .ok (.iconst 0, 1) := dt_of DA_X9_stones_0 53 rfl
theorem dX9_stones_96 : decode cX9_stones 96 = .ok (.istore 8, 2) := dt_of DA_X9_stones_0 54 rfl
theorem dX9_stones_98 : decode cX9_stones 98 = .ok (.iload 8, 2) := dt_of DA_X9_stones_0 55 rfl
theorem dX9_stones_100 : decode cX9_stones 100 = .ok (.aload_n 0, 1) := dt_of DA_X9_stones_0 56 rfl
theorem dX9_stones_101 : decode cX9_stones 101 = .ok (.getfield 25, 3) := dt_of DA_X9_stones_0 57 rfl
theorem dX9_stones_104 : decode cX9_stones 104 = .ok (.iconst 1, 1) := dt_of DA_X9_stones_0 58 rfl
theorem dX9_stones_105 : decode cX9_stones 105 = .ok (.iaload, 1) := dt_of DA_X9_stones_0 59 rfl
theorem dX9_stones_106 : decode cX9_stones 106 = .ok (.if_icmp .ge 72, 3) := dt_of DA_X9_stones_0 60 rfl
theorem dX9_stones_109 : decode cX9_stones 109 = .ok (.iload 7, 2) := dt_of DA_X9_stones_0 61 rfl
theorem dX9_stones_111 : decode cX9_stones 111 = .ok (.iload 6, 2) := dt_of DA_X9_stones_0 62 rfl
theorem dX9_stones_113 : decode cX9_stones 113 = .ok (.iload 8, 2) := dt_of DA_X9_stones_0 63 rfl
theorem dX9_stones_115 : decode cX9_stones 115 = .ok (.invokestatic 166, 3) := dt_of DA_X9_stones_0 64 rfl
theorem dX9_stones_118 : decode cX9_stones 118 = .ok (.ifCond .eq 7, 3) := dt_of DA_X9_stones_0 65 rfl
theorem dX9_stones_121 : decode cX9_stones 121 = .ok (.iload_n 2, 1) := dt_of DA_X9_stones_0 66 rfl
theorem dX9_stones_122 : decode cX9_stones 122 = .ok (.goto 7, 3) := dt_of DA_X9_stones_0 67 rfl
theorem dX9_stones_125 : decode cX9_stones 125 = .ok (.bipush 10, 2) := dt_of DA_X9_stones_0 68 rfl
theorem dX9_stones_127 : decode cX9_stones 127 = .ok (.iload_n 2, 1) := dt_of DA_X9_stones_0 69 rfl
theorem dX9_stones_128 : decode cX9_stones 128 = .ok (.isub, 1) := dt_of DA_X9_stones_0 70 rfl
theorem dX9_stones_129 : decode cX9_stones 129 = .ok (.imul, 1) := dt_of DA_X9_stones_0 71 rfl
theorem dX9_stones_130 : decode cX9_stones 130 = .ok (.istore 7, 2) := dt_of DA_X9_stones_0 72 rfl
theorem dX9_stones_132 : decode cX9_stones 132 = .ok (.aload_n 0, 1) := dt_of DA_X9_stones_0 73 rfl
theorem dX9_stones_133 : decode cX9_stones 133 = .ok (.getfield 31, 3) := dt_of DA_X9_stones_0 74 rfl
theorem dX9_stones_136 : decode cX9_stones 136 = .ok (.iconst 3, 1) := dt_of DA_X9_stones_0 75 rfl
theorem dX9_stones_137 : decode cX9_stones 137 = .ok (.iconst 4, 1) := dt_of DA_X9_stones_0 76 rfl
theorem dX9_stones_138 : decode cX9_stones 138 = .ok (.iload 8, 2) := dt_of DA_X9_stones_0 77 rfl
theorem dX9_stones_140 : decode cX9_stones 140 = .ok (.imul, 1) := dt_of DA_X9_stones_0 78 rfl
theorem dX9_stones_141 : decode cX9_stones 141 = .ok (.iadd, 1) := dt_of DA_X9_stones_0 79 rfl
theorem dX9_stones_142 : decode cX9_stones 142 = .ok (.iconst 1, 1) := dt_of DA_X9_stones_0 80 rfl
theorem dX9_stones_143 : decode cX9_stones 143 = .ok (.iadd, 1) := dt_of DA_X9_stones_0 81 rfl
theorem dX9_stones_144 : decode cX9_stones 144 = .ok (.iload 6, 2) := dt_of DA_X9_stones_0 82 rfl
theorem dX9_stones_146 : decode cX9_stones 146 = .ok (.iload 8, 2) := dt_of DA_X9_stones_0 83 rfl
theorem dX9_stones_148 : decode cX9_stones 148 = .ok (.invokestatic 166, 3) := dt_of DA_X9_stones_0 84 rfl
theorem dX9_stones_151 : decode cX9_stones 151 = .ok (.ifCond .eq 7, 3) := dt_of DA_X9_stones_0 85 rfl
theorem dX9_stones_154 : decode cX9_stones 154 = .ok (.iconst 0, 1) := dt_of DA_X9_stones_0 86 rfl
theorem dX9_stones_155 : decode cX9_stones 155 = .ok (.goto 16, 3) := dt_of DA_X9_stones_0 87 rfl
theorem dX9_stones_158 : decode cX9_stones 158 = .ok (.aload_n 0, 1) := dt_of DA_X9_stones_0 88 rfl
theorem dX9_stones_159 : decode cX9_stones 159 = .ok (.getfield 25, 3) := dt_of DA_X9_stones_0 89 rfl
theorem dX9_stones_162 : decode cX9_stones 162 = .ok (.iconst 3, 1) := dt_of DA_X9_stones_0 90 rfl
theorem dX9_stones_163 : decode cX9_stones 163 = .ok (.iconst 4, 1) := dt_of DA_X9_stones_0 91 rfl
theorem dX9_stones_164 : decode cX9_stones 164 = .ok (.iload 8, 2) := dt_of DA_X9_stones_0 92 rfl
theorem dX9_stones_166 : decode cX9_stones 166 = .ok (.imul, 1) := dt_of DA_X9_stones_0 93 rfl
theorem dX9_stones_167 : decode cX9_stones 167 = .ok (.iadd, 1) := dt_of DA_X9_stones_0 94 rfl
theorem dX9_stones_168 : decode cX9_stones 168 = .ok (.iconst 1, 1) := dt_of DA_X9_stones_0 95 rfl
theorem dX9_stones_169 : decode cX9_stones 169 = .ok (.iadd, 1) := dt_of DA_X9_stones_0 96 rfl
theorem dX9_stones_170 : decode cX9_stones 170 = .ok (.iaload, 1) := dt_of DA_X9_stones_0 97 rfl
theorem dX9_stones_171 : decode cX9_stones 171 = .ok (.iastore, 1) := dt_of DA_X9_stones_0 98 rfl
theorem dX9_stones_172 : decode cX9_stones 172 = .ok (.iinc 8 1, 3) := dt_of DA_X9_stones_0 99 rfl
def DT_X9_stones_1 : List (Nat × Instr × Nat) := [(175, .goto (-77), 3), (178, .aload_n 0, 1), (179, .aload_n 0, 1), (180, .getfield 31, 3), (183, .invokevirtual 198, 3), (186, .iload 4, 2), (188, .aload_n 0, 1), (189, .iload_n 1, 1), (190, .invokevirtual 216, 3), (193, .ifCond .eq 8, 3), (196, .iload 7, 2), (198, .goto 4, 3), (201, .iconst 0, 1), (202, .iadd, 1), (203, .istore 4, 2), (205, .iinc 6 1, 3), (208, .goto (-142), 3), (211, .iload 4, 2), (213, .istore 6, 2), (215, .iload 5, 2), (217, .istore 7, 2), (219, .iload 7, 2), (221, .ifCond .eq 21, 3), (224, .iload 6, 2), (226, .iload 7, 2), (228, .irem, 1), (229, .istore 8, 2), (231, .iload 7, 2), (233, .istore 6, 2), (235, .iload 8, 2), (237, .istore 7, 2), (239, .goto (-20), 3), (242, .iload_n 3, 1), (243, .ifCond .ne 8, 3), (246, .iload 4, 2), (248, .goto 5, 3), (251, .iload 5, 2), (253, .iload 6, 2), (255, .idiv, 1), (256, .ireturn, 1)]
theorem DA_X9_stones_1 : DT_X9_stones_1.all (dtf cX9_stones) = true := by decide +kernel
theorem dX9_stones_175 : decode cX9_stones 175 = .ok (.goto (-77), 3) := dt_of DA_X9_stones_1 0 rfl
theorem dX9_stones_178 : decode cX9_stones 178 = .ok (.aload_n 0, 1) := dt_of DA_X9_stones_1 1 rfl
theorem dX9_stones_179 : decode cX9_stones 179 = .ok (.aload_n 0, 1) := dt_of DA_X9_stones_1 2 rfl
theorem dX9_stones_180 : decode cX9_stones 180 = .ok (.getfield 31, 3) := dt_of DA_X9_stones_1 3 rfl
theorem dX9_stones_183 : decode cX9_stones 183 = .ok (.invokevirtual 198, 3) := dt_of DA_X9_stones_1 4 rfl
theorem dX9_stones_186 : decode cX9_stones 186 = .ok (.iload 4, 2) := dt_of DA_X9_stones_1 5 rfl
theorem dX9_stones_188 : decode cX9_stones 188 = .ok (.aload_n 0, 1) := dt_of DA_X9_stones_1 6 rfl
theorem dX9_stones_189 : decode cX9_stones 189 = .ok (.iload_n 1, 1) := dt_of DA_X9_stones_1 7 rfl
theorem dX9_stones_190 : decode cX9_stones 190 = .ok (.invokevirtual 216, 3) := dt_of DA_X9_stones_1 8 rfl
theorem dX9_stones_193 : decode cX9_stones 193 = .ok (.ifCond .eq 8, 3) := dt_of DA_X9_stones_1 9 rfl
theorem dX9_stones_196 : decode cX9_stones 196 = .ok (.iload 7, 2) := dt_of DA_X9_stones_1 10 rfl
theorem dX9_stones_198 : decode cX9_stones 198 = .ok (.goto 4, 3) := dt_of DA_X9_stones_1 11 rfl
theorem dX9_stones_201 : decode cX9_stones 201 = .ok (.iconst 0, 1) := dt_of DA_X9_stones_1 12 rfl
theorem dX9_stones_202 : decode cX9_stones 202 = .ok (.iadd, 1) := dt_of DA_X9_stones_1 13 rfl
theorem dX9_stones_203 : decode cX9_stones 203 = .ok (.istore 4, 2) := dt_of DA_X9_stones_1 14 rfl
theorem dX9_stones_205 : decode cX9_stones 205 = .ok (.iinc 6 1, 3) := dt_of DA_X9_stones_1 15 rfl
theorem dX9_stones_208 : decode cX9_stones 208 = .ok (.goto (-142), 3) := dt_of DA_X9_stones_1 16 rfl
theorem dX9_stones_211 : decode cX9_stones 211 = .ok (.iload 4, 2) := dt_of DA_X9_stones_1 17 rfl
theorem dX9_stones_213 : decode cX9_stones 213 = .ok (.istore 6, 2) := dt_of DA_X9_stones_1 18 rfl
theorem dX9_stones_215 : decode cX9_stones 215 = .ok (.iload 5, 2) := dt_of DA_X9_stones_1 19 rfl
theorem dX9_stones_217 : decode cX9_stones 217 = .ok (.istore 7, 2) := dt_of DA_X9_stones_1 20 rfl
theorem dX9_stones_219 : decode cX9_stones 219 = .ok (.iload 7, 2) := dt_of DA_X9_stones_1 21 rfl
theorem dX9_stones_221 : decode cX9_stones 221 = .ok (.ifCond .eq 21, 3) := dt_of DA_X9_stones_1 22 rfl
theorem dX9_stones_224 : decode cX9_stones 224 = .ok (.iload 6, 2) := dt_of DA_X9_stones_1 23 rfl
theorem dX9_stones_226 : decode cX9_stones 226 = .ok (.iload 7, 2) := dt_of DA_X9_stones_1 24 rfl
theorem dX9_stones_228 : decode cX9_stones 228 = .ok (.irem, 1) := dt_of DA_X9_stones_1 25 rfl
theorem dX9_stones_229 : decode cX9_stones 229 = .ok (.istore 8, 2) := dt_of DA_X9_stones_1 26 rfl
theorem dX9_stones_231 : decode cX9_stones 231 = .ok (.iload 7, 2) := dt_of DA_X9_stones_1 27 rfl
theorem dX9_stones_233 : decode cX9_stones 233 = .ok (.istore 6, 2) := dt_of DA_X9_stones_1 28 rfl
theorem dX9_stones_235 : decode cX9_stones 235 = .ok (.iload 8, 2) := dt_of DA_X9_stones_1 29 rfl
theorem dX9_stones_237 : decode cX9_stones 237 = .ok (.istore 7, 2) := dt_of DA_X9_stones_1 30 rfl
theorem dX9_stones_239 : decode cX9_stones 239 = .ok (.goto (-20), 3) := dt_of DA_X9_stones_1 31 rfl
theorem dX9_stones_242 : decode cX9_stones 242 = .ok (.iload_n 3, 1) := dt_of DA_X9_stones_1 32 rfl
theorem dX9_stones_243 : decode cX9_stones 243 = .ok (.ifCond .ne 8, 3) := dt_of DA_X9_stones_1 33 rfl
theorem dX9_stones_246 : decode cX9_stones 246 = .ok (.iload 4, 2) := dt_of DA_X9_stones_1 34 rfl
theorem dX9_stones_248 : decode cX9_stones 248 = .ok (.goto 5, 3) := dt_of DA_X9_stones_1 35 rfl
theorem dX9_stones_251 : decode cX9_stones 251 = .ok (.iload 5, 2) := dt_of DA_X9_stones_1 36 rfl
theorem dX9_stones_253 : decode cX9_stones 253 = .ok (.iload 6, 2) := dt_of DA_X9_stones_1 37 rfl
theorem dX9_stones_255 : decode cX9_stones 255 = .ok (.idiv, 1) := dt_of DA_X9_stones_1 38 rfl
theorem dX9_stones_256 : decode cX9_stones 256 = .ok (.ireturn, 1) := dt_of DA_X9_stones_1 39 rfl
def DT_X9_drawn_0 : List (Nat × Instr × Nat) := [(0, .aload_n 0, 1), (1, .invokevirtual 191, 3), (4, .ifCond .ne 6, 3), (7, .ldc 194, 2), (9, .ireturn, 1), (10, .iload_n 1, 1), (11, .iconst 0, 1), (12, .bipush 60, 2), (14, .invokestatic 62, 3), (17, .ifCond .eq 22, 3), (20, .iload_n 2, 1), (21, .iconst 1, 1), (22, .ldc 230, 2), (24, .invokestatic 62, 3), (27, .ifCond .eq 12, 3), (30, .iload_n 3, 1), (31, .iconst 0, 1), (32, .iconst 1, 1), (33, .invokestatic 62, 3), (36, .ifCond .ne 6, 3), (39, .ldc 70, 2), (41, .ireturn, 1), (42, .aload_n 0, 1), (43, .getfield 25, 3), (46, .iconst 0, 1), (47, .aload_n 0, 1), (48, .getfield 31, 3), (51, .iconst 0, 1), (52, .invokestatic 153, 3), (55, .iconst 0, 1), (56, .istore 4, 2), (58, .iload 4, 2), (60, .aload_n 0, 1), (61, .getfield 25, 3), (64, .iconst 1, 1), (65, .iaload, 1), (66, .if_icmp .ge 23, 3), (69, .aload_n 0, 1), (70, .getfield 31, 3), (73, .iconst 3, 1), (74, .iconst 4, 1), (75, .iload 4, 2), (77, .imul, 1), (78, .iadd, 1), (79, .iconst 3, 1), (80, .iadd, 1), (81, .iconst 0, 1), (82, .iastore, 1), (83, .iinc 4 1, 3), (86, .goto (-28), 3), (89, .iload_n 2, 1), (90, .i2l, 1), (91, .lstore 4, 2), (93, .iconst 0, 1), (94, .istore 6, 2), (96, .iload 6, 2), (98, .iload_n 1, 1), (99, .if_icmp .ge 58, 3), (102, .lload 4, 2), (104, .ldc2_w 231, 3), (107, .lmul, 1), (108, .ldc2_w 233, 3), (111, .lrem, 1), (112, .lstore 4, 2), (114, .aload_n 0, 1), (115, .getfield 31, 3), (118, .iconst 3, 1), (119, .iconst 4, 1), (120, .lload 4, 2), (122, .aload_n 0, 1), (123, .getfield 25, 3), (126, .iconst 1, 1), (127, .iaload, 1), (128, .i2l, 1), (129, .lrem, 1), (130, .l2i, 1), (131, .imul, 1), (132, .iadd, 1), (133, .iconst 2, 1), (134, .iadd, 1), (135, .lload 4, 2), (137, .ldc2_w 235, 3), (140, .lrem, 1), (141, .l2i, 1), (142, .iastore, 1), (143, .aload_n 0, 1), (144, .aload_n 0, 1), (145, .getfield 31, 3), (148, .invokevirtual 198, 3), (151, .iinc 6 1, 3), (154, .goto (-58), 3), (157, .iload_n 3, 1), (158, .ifCond .ne 13, 3), (161, .aload_n 0, 1), (162, .getfield 31, 3), (165, .invokestatic 237, 3), (168, .goto 10, 3), (171, .aload_n 0, 1), (172, .getfield 31, 3), (175, .invokestatic 202, 3)]
theorem DA_X9_drawn_0 : DT_X9_drawn_0.all (dtf cX9_drawn) = true := by decide +kernel
theorem dX9_drawn_0 : decode cX9_drawn 0 = .ok (.aload_n 0, 1) := dt_of DA_X9_drawn_0 0 rfl
theorem dX9_drawn_1 : decode cX9_drawn 1 = .ok (.invokevirtual 191, 3) := dt_of DA_X9_drawn_0 1 rfl
theorem dX9_drawn_4 : decode cX9_drawn 4 = .ok (.ifCond .ne 6, 3) := dt_of DA_X9_drawn_0 2 rfl
theorem dX9_drawn_7 : decode cX9_drawn 7 = .ok (.ldc 194, 2) := dt_of DA_X9_drawn_0 3 rfl
theorem dX9_drawn_9 : decode cX9_drawn 9 = .ok (.ireturn, 1) := dt_of DA_X9_drawn_0 4 rfl
theorem dX9_drawn_10 : decode cX9_drawn 10 = .ok (.iload_n 1, 1) := dt_of DA_X9_drawn_0 5 rfl
theorem dX9_drawn_11 : decode cX9_drawn 11 = .ok (.iconst 0, 1) := dt_of DA_X9_drawn_0 6 rfl
theorem dX9_drawn_12 : decode cX9_drawn 12 = .ok (.bipush 60, 2) := dt_of DA_X9_drawn_0 7 rfl
theorem dX9_drawn_14 : decode cX9_drawn 14 = .ok (.invokestatic 62, 3) := dt_of DA_X9_drawn_0 8 rfl
theorem dX9_drawn_17 : decode cX9_drawn 17 = .ok (.ifCond .eq 22, 3) := dt_of DA_X9_drawn_0 9 rfl
theorem dX9_drawn_20 : decode cX9_drawn 20 = .ok (.iload_n 2, 1) := dt_of DA_X9_drawn_0 10 rfl
theorem dX9_drawn_21 : decode cX9_drawn 21 = .ok (.iconst 1, 1) := dt_of DA_X9_drawn_0 11 rfl
theorem dX9_drawn_22 : decode cX9_drawn 22 = .ok (.ldc 230, 2) := dt_of DA_X9_drawn_0 12 rfl
theorem dX9_drawn_24 : decode cX9_drawn 24 = .ok (.invokestatic 62, 3) := dt_of DA_X9_drawn_0 13 rfl
theorem dX9_drawn_27 : decode cX9_drawn 27 = .ok (.ifCond .eq 12, 3) := dt_of DA_X9_drawn_0 14 rfl
theorem dX9_drawn_30 : decode cX9_drawn 30 = .ok (.iload_n 3, 1) := dt_of DA_X9_drawn_0 15 rfl
theorem dX9_drawn_31 : decode cX9_drawn 31 = .ok (.iconst 0, 1) := dt_of DA_X9_drawn_0 16 rfl
theorem dX9_drawn_32 : decode cX9_drawn 32 = .ok (.iconst 1, 1) := dt_of DA_X9_drawn_0 17 rfl
theorem dX9_drawn_33 : decode cX9_drawn 33 = .ok (.invokestatic 62, 3) := dt_of DA_X9_drawn_0 18 rfl
theorem dX9_drawn_36 : decode cX9_drawn 36 = .ok (.ifCond .ne 6, 3) := dt_of DA_X9_drawn_0 19 rfl
theorem dX9_drawn_39 : decode cX9_drawn 39 = .ok (.ldc 70, 2) := dt_of DA_X9_drawn_0 20 rfl
theorem dX9_drawn_41 : decode cX9_drawn 41 = .ok (.ireturn, 1) := dt_of DA_X9_drawn_0 21 rfl
theorem dX9_drawn_42 : decode cX9_drawn 42 = .ok (.aload_n 0, 1) := dt_of DA_X9_drawn_0 22 rfl
theorem dX9_drawn_43 : decode cX9_drawn 43 = .ok (.getfield 25, 3) := dt_of DA_X9_drawn_0 23 rfl
theorem dX9_drawn_46 : decode cX9_drawn 46 = .ok (.iconst 0, 1) := dt_of DA_X9_drawn_0 24 rfl
theorem dX9_drawn_47 : decode cX9_drawn 47 = .ok (.aload_n 0, 1) := dt_of DA_X9_drawn_0 25 rfl
theorem dX9_drawn_48 : decode cX9_drawn 48 = .ok (.getfield 31, 3) := dt_of DA_X9_drawn_0 26 rfl
theorem dX9_drawn_51 : decode cX9_drawn 51 = .ok (.iconst 0, 1) := dt_of DA_X9_drawn_0 27 rfl
theorem dX9_drawn_52 : decode cX9_drawn 52 = .ok (.invokestatic 153, 3) := dt_of DA_X9_drawn_0 28 rfl
theorem dX9_drawn_55 : decode cX9_drawn 55 = .ok (.iconst 0, 1) := dt_of DA_X9_drawn_0 29 rfl
theorem dX9_drawn_56 : decode cX9_drawn 56 = .ok (.istore 4, 2) := dt_of DA_X9_drawn_0 30 rfl
theorem dX9_drawn_58 : decode cX9_drawn 58 = .ok (.iload 4, 2) := dt_of DA_X9_drawn_0 31 rfl
theorem dX9_drawn_60 : decode cX9_drawn 60 = .ok (.aload_n 0, 1) := dt_of DA_X9_drawn_0 32 rfl
theorem dX9_drawn_61 : decode cX9_drawn 61 = .ok (.getfield 25, 3) := dt_of DA_X9_drawn_0 33 rfl
theorem dX9_drawn_64 : decode cX9_drawn 64 = .ok (.iconst 1, 1) := dt_of DA_X9_drawn_0 34 rfl
theorem dX9_drawn_65 : decode cX9_drawn 65 = .ok (.iaload, 1) := dt_of DA_X9_drawn_0 35 rfl
theorem dX9_drawn_66 : decode cX9_drawn 66 = .ok (.if_icmp .ge 23, 3) := dt_of DA_X9_drawn_0 36 rfl
theorem dX9_drawn_69 : decode cX9_drawn 69 = .ok (.aload_n 0, 1) := dt_of DA_X9_drawn_0 37 rfl
theorem dX9_drawn_70 : decode cX9_drawn 70 = .ok (.getfield 31, 3) := dt_of DA_X9_drawn_0 38 rfl
theorem dX9_drawn_73 : decode cX9_drawn 73 = .ok (.iconst 3, 1) := dt_of DA_X9_drawn_0 39 rfl
theorem dX9_drawn_74 : decode cX9_drawn 74 = .ok (.iconst 4, 1) := dt_of DA_X9_drawn_0 40 rfl
theorem dX9_drawn_75 : decode cX9_drawn 75 = .ok (.iload 4, 2) := dt_of DA_X9_drawn_0 41 rfl
theorem dX9_drawn_77 : decode cX9_drawn 77 = .ok (.imul, 1) := dt_of DA_X9_drawn_0 42 rfl
theorem dX9_drawn_78 : decode cX9_drawn 78 = .ok (.iadd, 1) := dt_of DA_X9_drawn_0 43 rfl
theorem dX9_drawn_79 : decode cX9_drawn 79 = .ok (.iconst 3, 1) := dt_of DA_X9_drawn_0 44 rfl
theorem dX9_drawn_80 : decode cX9_drawn 80 = .ok (.iadd, 1) := dt_of DA_X9_drawn_0 45 rfl
theorem dX9_drawn_81 : decode cX9_drawn 81 = .ok (.iconst 0, 1) := dt_of DA_X9_drawn_0 46 rfl
theorem dX9_drawn_82 : decode cX9_drawn 82 = .ok (.iastore, 1) := dt_of DA_X9_drawn_0 47 rfl
theorem dX9_drawn_83 : decode cX9_drawn 83 = .ok (.iinc 4 1, 3) := dt_of DA_X9_drawn_0 48 rfl
theorem dX9_drawn_86 : decode cX9_drawn 86 = .ok (.goto (-28), 3) := dt_of DA_X9_drawn_0 49 rfl
theorem dX9_drawn_89 : decode cX9_drawn 89 = .ok (.iload_n 2, 1) := dt_of DA_X9_drawn_0 50 rfl
theorem dX9_drawn_90 : decode cX9_drawn 90 = .ok (.i2l, 1) := dt_of DA_X9_drawn_0 51 rfl
theorem dX9_drawn_91 : decode cX9_drawn 91 = .ok (.lstore 4, 2) := dt_of DA_X9_drawn_0 52 rfl
theorem dX9_drawn_93 : decode cX9_drawn 93 = .ok (.iconst 0, 1) := dt_of DA_X9_drawn_0 53 rfl
theorem dX9_drawn_94 : decode cX9_drawn 94 = .ok (.istore 6, 2) := dt_of DA_X9_drawn_0 54 rfl
theorem dX9_drawn_96 : decode cX9_drawn 96 = .ok (.iload 6, 2) := dt_of DA_X9_drawn_0 55 rfl
theorem dX9_drawn_98 : decode cX9_drawn 98 = .ok (.iload_n 1, 1) := dt_of DA_X9_drawn_0 56 rfl
theorem dX9_drawn_99 : decode cX9_drawn 99 = .ok (.if_icmp .ge 58, 3) := dt_of DA_X9_drawn_0 57 rfl
theorem dX9_drawn_102 : decode cX9_drawn 102 = .ok (.lload 4, 2) := dt_of DA_X9_drawn_0 58 rfl
theorem dX9_drawn_104 : decode cX9_drawn 104 = .ok (.ldc2_w 231, 3) := dt_of DA_X9_drawn_0 59 rfl
theorem dX9_drawn_107 : decode cX9_drawn 107 = .ok (.lmul, 1) := dt_of DA_X9_drawn_0 60 rfl
theorem dX9_drawn_108 : decode cX9_drawn 108 = .ok (.ldc2_w 233, 3) := dt_of DA_X9_drawn_0 61 rfl
theorem dX9_drawn_111 : decode cX9_drawn 111 = .ok (.lrem, 1) := dt_of DA_X9_drawn_0 62 rfl
theorem dX9_drawn_112 : decode cX9_drawn 112 = .ok (.lstore 4, 2) := dt_of DA_X9_drawn_0 63 rfl
theorem dX9_drawn_114 : decode cX9_drawn 114 = .ok (.aload_n 0, 1) := dt_of DA_X9_drawn_0 64 rfl
theorem dX9_drawn_115 : decode cX9_drawn 115 = .ok (.getfield 31, 3) := dt_of DA_X9_drawn_0 65 rfl
theorem dX9_drawn_118 : decode cX9_drawn 118 = .ok (.iconst 3, 1) := dt_of DA_X9_drawn_0 66 rfl
theorem dX9_drawn_119 : decode cX9_drawn 119 = .ok (.iconst 4, 1) := dt_of DA_X9_drawn_0 67 rfl
theorem dX9_drawn_120 : decode cX9_drawn 120 = .ok (.lload 4, 2) := dt_of DA_X9_drawn_0 68 rfl
theorem dX9_drawn_122 : decode cX9_drawn 122 = .ok (.aload_n 0, 1) := dt_of DA_X9_drawn_0 69 rfl
theorem dX9_drawn_123 : decode cX9_drawn 123 = .ok (.getfield 25, 3) := dt_of DA_X9_drawn_0 70 rfl
theorem dX9_drawn_126 : decode cX9_drawn 126 = .ok (.iconst 1, 1) := dt_of DA_X9_drawn_0 71 rfl
theorem dX9_drawn_127 : decode cX9_drawn 127 = .ok (.iaload, 1) := dt_of DA_X9_drawn_0 72 rfl
theorem dX9_drawn_128 : decode cX9_drawn 128 = .ok (.i2l, 1) := dt_of DA_X9_drawn_0 73 rfl
theorem dX9_drawn_129 : decode cX9_drawn 129 = .ok (.lrem, 1) := dt_of DA_X9_drawn_0 74 rfl
theorem dX9_drawn_130 : decode cX9_drawn 130 = .ok (.l2i, 1) := dt_of DA_X9_drawn_0 75 rfl
theorem dX9_drawn_131 : decode cX9_drawn 131 = .ok (.imul, 1) := dt_of DA_X9_drawn_0 76 rfl
theorem dX9_drawn_132 : decode cX9_drawn 132 = .ok (.iadd, 1) := dt_of DA_X9_drawn_0 77 rfl
theorem dX9_drawn_133 : decode cX9_drawn 133 = .ok (.iconst 2, 1) := dt_of DA_X9_drawn_0 78 rfl
theorem dX9_drawn_134 : decode cX9_drawn 134 = .ok (.iadd, 1) := dt_of DA_X9_drawn_0 79 rfl
theorem dX9_drawn_135 : decode cX9_drawn 135 = .ok (.lload 4, 2) := dt_of DA_X9_drawn_0 80 rfl
theorem dX9_drawn_137 : decode cX9_drawn 137 = .ok (.ldc2_w 235, 3) := dt_of DA_X9_drawn_0 81 rfl
theorem dX9_drawn_140 : decode cX9_drawn 140 = .ok (.lrem, 1) := dt_of DA_X9_drawn_0 82 rfl
theorem dX9_drawn_141 : decode cX9_drawn 141 = .ok (.l2i, 1) := dt_of DA_X9_drawn_0 83 rfl
theorem dX9_drawn_142 : decode cX9_drawn 142 = .ok (.iastore, 1) := dt_of DA_X9_drawn_0 84 rfl
theorem dX9_drawn_143 : decode cX9_drawn 143 = .ok (.aload_n 0, 1) := dt_of DA_X9_drawn_0 85 rfl
theorem dX9_drawn_144 : decode cX9_drawn 144 = .ok (.aload_n 0, 1) := dt_of DA_X9_drawn_0 86 rfl
theorem dX9_drawn_145 : decode cX9_drawn 145 = .ok (.getfield 31, 3) := dt_of DA_X9_drawn_0 87 rfl
theorem dX9_drawn_148 : decode cX9_drawn 148 = .ok (.invokevirtual 198, 3) := dt_of DA_X9_drawn_0 88 rfl
theorem dX9_drawn_151 : decode cX9_drawn 151 = .ok (.iinc 6 1, 3) := dt_of DA_X9_drawn_0 89 rfl
theorem dX9_drawn_154 : decode cX9_drawn 154 = .ok (.goto (-58), 3) := dt_of DA_X9_drawn_0 90 rfl
theorem dX9_drawn_157 : decode cX9_drawn 157 = .ok (.iload_n 3, 1) := dt_of DA_X9_drawn_0 91 rfl
theorem dX9_drawn_158 : decode cX9_drawn 158 = .ok (.ifCond .ne 13, 3) := dt_of DA_X9_drawn_0 92 rfl
theorem dX9_drawn_161 : decode cX9_drawn 161 = .ok (.aload_n 0, 1) := dt_of DA_X9_drawn_0 93 rfl
theorem dX9_drawn_162 : decode cX9_drawn 162 = .ok (.getfield 31, 3) := dt_of DA_X9_drawn_0 94 rfl
theorem dX9_drawn_165 : decode cX9_drawn 165 = .ok (.invokestatic 237, 3) := dt_of DA_X9_drawn_0 95 rfl
theorem dX9_drawn_168 : decode cX9_drawn 168 = .ok (.goto 10, 3) := dt_of DA_X9_drawn_0 96 rfl
theorem dX9_drawn_171 : decode cX9_drawn 171 = .ok (.aload_n 0, 1) := dt_of DA_X9_drawn_0 97 rfl
theorem dX9_drawn_172 : decode cX9_drawn 172 = .ok (.getfield 31, 3) := dt_of DA_X9_drawn_0 98 rfl
theorem dX9_drawn_175 : decode cX9_drawn 175 = .ok (.invokestatic 202, 3) := dt_of DA_X9_drawn_0 99 rfl
def DT_X9_drawn_1 : List (Nat × Instr × Nat) := [(178, .ireturn, 1)]
theorem DA_X9_drawn_1 : DT_X9_drawn_1.all (dtf cX9_drawn) = true := by decide +kernel
theorem dX9_drawn_178 : decode cX9_drawn 178 = .ok (.ireturn, 1) := dt_of DA_X9_drawn_1 0 rfl
def DT_X9_image_0 : List (Nat × Instr × Nat) := [(0, .iload_n 1, 1), (1, .iconst 0, 1), (2, .iconst 1, 1), (3, .invokestatic 62, 3), (6, .ifCond .ne 6, 3), (9, .ldc 70, 2), (11, .ireturn, 1), (12, .aload_n 0, 1), (13, .invokevirtual 191, 3), (16, .ifCond .ne 6, 3), (19, .ldc 194, 2), (21, .ireturn, 1), (22, .aload_n 0, 1), (23, .getfield 25, 3), (26, .iconst 0, 1), (27, .aload_n 0, 1), (28, .getfield 37, 3), (31, .bipush 63, 2), (33, .iload_n 1, 1), (34, .imul, 1), (35, .invokestatic 153, 3), (38, .aload_n 0, 1), (39, .getfield 40, 3), (42, .iload_n 1, 1), (43, .iconst 1, 1), (44, .bastore, 1), (45, .iconst 1, 1), (46, .ireturn, 1)]
theorem DA_X9_image_0 : DT_X9_image_0.all (dtf cX9_image) = true := by decide +kernel
theorem dX9_image_0 : decode cX9_image 0 = .ok (.iload_n 1, 1) := dt_of DA_X9_image_0 0 rfl
theorem dX9_image_1 : decode cX9_image 1 = .ok (.iconst 0, 1) := dt_of DA_X9_image_0 1 rfl
theorem dX9_image_2 : decode cX9_image 2 = .ok (.iconst 1, 1) := dt_of DA_X9_image_0 2 rfl
theorem dX9_image_3 : decode cX9_image 3 = .ok (.invokestatic 62, 3) := dt_of DA_X9_image_0 3 rfl
theorem dX9_image_6 : decode cX9_image 6 = .ok (.ifCond .ne 6, 3) := dt_of DA_X9_image_0 4 rfl
theorem dX9_image_9 : decode cX9_image 9 = .ok (.ldc 70, 2) := dt_of DA_X9_image_0 5 rfl
theorem dX9_image_11 : decode cX9_image 11 = .ok (.ireturn, 1) := dt_of DA_X9_image_0 6 rfl
theorem dX9_image_12 : decode cX9_image 12 = .ok (.aload_n 0, 1) := dt_of DA_X9_image_0 7 rfl
theorem dX9_image_13 : decode cX9_image 13 = .ok (.invokevirtual 191, 3) := dt_of DA_X9_image_0 8 rfl
theorem dX9_image_16 : decode cX9_image 16 = .ok (.ifCond .ne 6, 3) := dt_of DA_X9_image_0 9 rfl
theorem dX9_image_19 : decode cX9_image 19 = .ok (.ldc 194, 2) := dt_of DA_X9_image_0 10 rfl
theorem dX9_image_21 : decode cX9_image 21 = .ok (.ireturn, 1) := dt_of DA_X9_image_0 11 rfl
theorem dX9_image_22 : decode cX9_image 22 = .ok (.aload_n 0, 1) := dt_of DA_X9_image_0 12 rfl
theorem dX9_image_23 : decode cX9_image 23 = .ok (.getfield 25, 3) := dt_of DA_X9_image_0 13 rfl
theorem dX9_image_26 : decode cX9_image 26 = .ok (.iconst 0, 1) := dt_of DA_X9_image_0 14 rfl
theorem dX9_image_27 : decode cX9_image 27 = .ok (.aload_n 0, 1) := dt_of DA_X9_image_0 15 rfl
theorem dX9_image_28 : decode cX9_image 28 = .ok (.getfield 37, 3) := dt_of DA_X9_image_0 16 rfl
theorem dX9_image_31 : decode cX9_image 31 = .ok (.bipush 63, 2) := dt_of DA_X9_image_0 17 rfl
theorem dX9_image_33 : decode cX9_image 33 = .ok (.iload_n 1, 1) := dt_of DA_X9_image_0 18 rfl
theorem dX9_image_34 : decode cX9_image 34 = .ok (.imul, 1) := dt_of DA_X9_image_0 19 rfl
theorem dX9_image_35 : decode cX9_image 35 = .ok (.invokestatic 153, 3) := dt_of DA_X9_image_0 20 rfl
theorem dX9_image_38 : decode cX9_image 38 = .ok (.aload_n 0, 1) := dt_of DA_X9_image_0 21 rfl
theorem dX9_image_39 : decode cX9_image 39 = .ok (.getfield 40, 3) := dt_of DA_X9_image_0 22 rfl
theorem dX9_image_42 : decode cX9_image 42 = .ok (.iload_n 1, 1) := dt_of DA_X9_image_0 23 rfl
theorem dX9_image_43 : decode cX9_image 43 = .ok (.iconst 1, 1) := dt_of DA_X9_image_0 24 rfl
theorem dX9_image_44 : decode cX9_image 44 = .ok (.bastore, 1) := dt_of DA_X9_image_0 25 rfl
theorem dX9_image_45 : decode cX9_image 45 = .ok (.iconst 1, 1) := dt_of DA_X9_image_0 26 rfl
theorem dX9_image_46 : decode cX9_image 46 = .ok (.ireturn, 1) := dt_of DA_X9_image_0 27 rfl
def DT_X9_restore_0 : List (Nat × Instr × Nat) := [(0, .iload_n 1, 1), (1, .iconst 0, 1), (2, .iconst 1, 1), (3, .invokestatic 62, 3), (6, .ifCond .ne 6, 3), (9, .ldc 70, 2), (11, .ireturn, 1), (12, .aload_n 0, 1), (13, .getfield 40, 3), (16, .iload_n 1, 1), (17, .baload, 1), (18, .ifCond .ne 6, 3), (21, .ldc 194, 2), (23, .ireturn, 1), (24, .aload_n 0, 1), (25, .getfield 37, 3), (28, .bipush 63, 2), (30, .iload_n 1, 1), (31, .imul, 1), (32, .aload_n 0, 1), (33, .getfield 25, 3), (36, .iconst 0, 1), (37, .invokestatic 153, 3), (40, .aload_n 0, 1), (41, .iconst 0, 1), (42, .putfield 157, 3), (45, .iconst 1, 1), (46, .ireturn, 1)]
theorem DA_X9_restore_0 : DT_X9_restore_0.all (dtf cX9_restore) = true := by decide +kernel
theorem dX9_restore_0 : decode cX9_restore 0 = .ok (.iload_n 1, 1) := dt_of DA_X9_restore_0 0 rfl
theorem dX9_restore_1 : decode cX9_restore 1 = .ok (.iconst 0, 1) := dt_of DA_X9_restore_0 1 rfl
theorem dX9_restore_2 : decode cX9_restore 2 = .ok (.iconst 1, 1) := dt_of DA_X9_restore_0 2 rfl
theorem dX9_restore_3 : decode cX9_restore 3 = .ok (.invokestatic 62, 3) := dt_of DA_X9_restore_0 3 rfl
theorem dX9_restore_6 : decode cX9_restore 6 = .ok (.ifCond .ne 6, 3) := dt_of DA_X9_restore_0 4 rfl
theorem dX9_restore_9 : decode cX9_restore 9 = .ok (.ldc 70, 2) := dt_of DA_X9_restore_0 5 rfl
theorem dX9_restore_11 : decode cX9_restore 11 = .ok (.ireturn, 1) := dt_of DA_X9_restore_0 6 rfl
theorem dX9_restore_12 : decode cX9_restore 12 = .ok (.aload_n 0, 1) := dt_of DA_X9_restore_0 7 rfl
theorem dX9_restore_13 : decode cX9_restore 13 = .ok (.getfield 40, 3) := dt_of DA_X9_restore_0 8 rfl
theorem dX9_restore_16 : decode cX9_restore 16 = .ok (.iload_n 1, 1) := dt_of DA_X9_restore_0 9 rfl
theorem dX9_restore_17 : decode cX9_restore 17 = .ok (.baload, 1) := dt_of DA_X9_restore_0 10 rfl
theorem dX9_restore_18 : decode cX9_restore 18 = .ok (.ifCond .ne 6, 3) := dt_of DA_X9_restore_0 11 rfl
theorem dX9_restore_21 : decode cX9_restore 21 = .ok (.ldc 194, 2) := dt_of DA_X9_restore_0 12 rfl
theorem dX9_restore_23 : decode cX9_restore 23 = .ok (.ireturn, 1) := dt_of DA_X9_restore_0 13 rfl
theorem dX9_restore_24 : decode cX9_restore 24 = .ok (.aload_n 0, 1) := dt_of DA_X9_restore_0 14 rfl
theorem dX9_restore_25 : decode cX9_restore 25 = .ok (.getfield 37, 3) := dt_of DA_X9_restore_0 15 rfl
theorem dX9_restore_28 : decode cX9_restore 28 = .ok (.bipush 63, 2) := dt_of DA_X9_restore_0 16 rfl
theorem dX9_restore_30 : decode cX9_restore 30 = .ok (.iload_n 1, 1) := dt_of DA_X9_restore_0 17 rfl
theorem dX9_restore_31 : decode cX9_restore 31 = .ok (.imul, 1) := dt_of DA_X9_restore_0 18 rfl
theorem dX9_restore_32 : decode cX9_restore 32 = .ok (.aload_n 0, 1) := dt_of DA_X9_restore_0 19 rfl
theorem dX9_restore_33 : decode cX9_restore 33 = .ok (.getfield 25, 3) := dt_of DA_X9_restore_0 20 rfl
theorem dX9_restore_36 : decode cX9_restore 36 = .ok (.iconst 0, 1) := dt_of DA_X9_restore_0 21 rfl
theorem dX9_restore_37 : decode cX9_restore 37 = .ok (.invokestatic 153, 3) := dt_of DA_X9_restore_0 22 rfl
theorem dX9_restore_40 : decode cX9_restore 40 = .ok (.aload_n 0, 1) := dt_of DA_X9_restore_0 23 rfl
theorem dX9_restore_41 : decode cX9_restore 41 = .ok (.iconst 0, 1) := dt_of DA_X9_restore_0 24 rfl
theorem dX9_restore_42 : decode cX9_restore 42 = .ok (.putfield 157, 3) := dt_of DA_X9_restore_0 25 rfl
theorem dX9_restore_45 : decode cX9_restore 45 = .ok (.iconst 1, 1) := dt_of DA_X9_restore_0 26 rfl
theorem dX9_restore_46 : decode cX9_restore 46 = .ok (.ireturn, 1) := dt_of DA_X9_restore_0 27 rfl
def DT_X9_kindIn_0 : List (Nat × Instr × Nat) := [(0, .aload_n 0, 1), (1, .getfield 25, 3), (4, .iconst 3, 1), (5, .iconst 4, 1), (6, .iload_n 1, 1), (7, .imul, 1), (8, .iadd, 1), (9, .iaload, 1), (10, .ireturn, 1)]
theorem DA_X9_kindIn_0 : DT_X9_kindIn_0.all (dtf cX9_kindIn) = true := by decide +kernel
theorem dX9_kindIn_0 : decode cX9_kindIn 0 = .ok (.aload_n 0, 1) := dt_of DA_X9_kindIn_0 0 rfl
theorem dX9_kindIn_1 : decode cX9_kindIn 1 = .ok (.getfield 25, 3) := dt_of DA_X9_kindIn_0 1 rfl
theorem dX9_kindIn_4 : decode cX9_kindIn 4 = .ok (.iconst 3, 1) := dt_of DA_X9_kindIn_0 2 rfl
theorem dX9_kindIn_5 : decode cX9_kindIn 5 = .ok (.iconst 4, 1) := dt_of DA_X9_kindIn_0 3 rfl
theorem dX9_kindIn_6 : decode cX9_kindIn 6 = .ok (.iload_n 1, 1) := dt_of DA_X9_kindIn_0 4 rfl
theorem dX9_kindIn_7 : decode cX9_kindIn 7 = .ok (.imul, 1) := dt_of DA_X9_kindIn_0 5 rfl
theorem dX9_kindIn_8 : decode cX9_kindIn 8 = .ok (.iadd, 1) := dt_of DA_X9_kindIn_0 6 rfl
theorem dX9_kindIn_9 : decode cX9_kindIn 9 = .ok (.iaload, 1) := dt_of DA_X9_kindIn_0 7 rfl
theorem dX9_kindIn_10 : decode cX9_kindIn 10 = .ok (.ireturn, 1) := dt_of DA_X9_kindIn_0 8 rfl
def DT_X9_kind_0 : List (Nat × Instr × Nat) := [(0, .aload_n 0, 1), (1, .iload_n 1, 1), (2, .invokevirtual 160, 3), (5, .ifCond .eq 11, 3), (8, .aload_n 0, 1), (9, .iload_n 1, 1), (10, .invokevirtual 240, 3), (13, .goto 5, 3), (16, .ldc 70, 2), (18, .ireturn, 1)]
theorem DA_X9_kind_0 : DT_X9_kind_0.all (dtf cX9_kind) = true := by decide +kernel
theorem dX9_kind_0 : decode cX9_kind 0 = .ok (.aload_n 0, 1) := dt_of DA_X9_kind_0 0 rfl
theorem dX9_kind_1 : decode cX9_kind 1 = .ok (.iload_n 1, 1) := dt_of DA_X9_kind_0 1 rfl
theorem dX9_kind_2 : decode cX9_kind 2 = .ok (.invokevirtual 160, 3) := dt_of DA_X9_kind_0 2 rfl
theorem dX9_kind_5 : decode cX9_kind 5 = .ok (.ifCond .eq 11, 3) := dt_of DA_X9_kind_0 3 rfl
theorem dX9_kind_8 : decode cX9_kind 8 = .ok (.aload_n 0, 1) := dt_of DA_X9_kind_0 4 rfl
theorem dX9_kind_9 : decode cX9_kind 9 = .ok (.iload_n 1, 1) := dt_of DA_X9_kind_0 5 rfl
theorem dX9_kind_10 : decode cX9_kind 10 = .ok (.invokevirtual 240, 3) := dt_of DA_X9_kind_0 6 rfl
theorem dX9_kind_13 : decode cX9_kind 13 = .ok (.goto 5, 3) := dt_of DA_X9_kind_0 7 rfl
theorem dX9_kind_16 : decode cX9_kind 16 = .ok (.ldc 70, 2) := dt_of DA_X9_kind_0 8 rfl
theorem dX9_kind_18 : decode cX9_kind 18 = .ok (.ireturn, 1) := dt_of DA_X9_kind_0 9 rfl
def DT_X9_as_0 : List (Nat × Instr × Nat) := [(0, .aload_n 0, 1), (1, .iload_n 1, 1), (2, .invokevirtual 160, 3), (5, .ifCond .eq 12, 3), (8, .iload_n 2, 1), (9, .iconst 0, 1), (10, .iconst 5, 1), (11, .invokestatic 62, 3), (14, .ifCond .ne 6, 3), (17, .ldc 70, 2), (19, .ireturn, 1), (20, .aload_n 0, 1), (21, .iload_n 1, 1), (22, .invokevirtual 240, 3), (25, .istore_n 3, 1), (26, .iload_n 2, 1), (27, .ifCond .eq 28, 3), (30, .iload_n 2, 1), (31, .iload_n 3, 1), (32, .if_icmp .eq 23, 3), (35, .iload_n 2, 1), (36, .iconst 1, 1), (37, .if_icmp .ne 8, 3), (40, .iload_n 3, 1), (41, .iconst 4, 1), (42, .if_icmp .lt 13, 3), (45, .iload_n 2, 1), (46, .iconst 4, 1), (47, .if_icmp .ne 12, 3), (50, .iload_n 3, 1), (51, .iconst 5, 1), (52, .if_icmp .ne 7, 3), (55, .iconst 1, 1), (56, .goto 4, 3), (59, .iconst 0, 1), (60, .istore 4, 2), (62, .iload 4, 2), (64, .ifCond .eq 11, 3), (67, .aload_n 0, 1), (68, .iload_n 1, 1), (69, .invokevirtual 75, 3), (72, .goto 8, 3), (75, .aload_n 0, 1), (76, .iconst 3, 1), (77, .invokevirtual 71, 3), (80, .ireturn, 1)]
theorem DA_X9_as_0 : DT_X9_as_0.all (dtf cX9_as) = true := by decide +kernel
theorem dX9_as_0 : decode cX9_as 0 = .ok (.aload_n 0, 1) := dt_of DA_X9_as_0 0 rfl
theorem dX9_as_1 : decode cX9_as 1 = .ok (.iload_n 1, 1) := dt_of DA_X9_as_0 1 rfl
theorem dX9_as_2 : decode cX9_as 2 = .ok (.invokevirtual 160, 3) := dt_of DA_X9_as_0 2 rfl
theorem dX9_as_5 : decode cX9_as 5 = .ok (.ifCond .eq 12, 3) := dt_of DA_X9_as_0 3 rfl
theorem dX9_as_8 : decode cX9_as 8 = .ok (.iload_n 2, 1) := dt_of DA_X9_as_0 4 rfl
theorem dX9_as_9 : decode cX9_as 9 = .ok (.iconst 0, 1) := dt_of DA_X9_as_0 5 rfl
theorem dX9_as_10 : decode cX9_as 10 = .ok (.iconst 5, 1) := dt_of DA_X9_as_0 6 rfl
theorem dX9_as_11 : decode cX9_as 11 = .ok (.invokestatic 62, 3) := dt_of DA_X9_as_0 7 rfl
theorem dX9_as_14 : decode cX9_as 14 = .ok (.ifCond .ne 6, 3) := dt_of DA_X9_as_0 8 rfl
theorem dX9_as_17 : decode cX9_as 17 = .ok (.ldc 70, 2) := dt_of DA_X9_as_0 9 rfl
theorem dX9_as_19 : decode cX9_as 19 = .ok (.ireturn, 1) := dt_of DA_X9_as_0 10 rfl
theorem dX9_as_20 : decode cX9_as 20 = .ok (.aload_n 0, 1) := dt_of DA_X9_as_0 11 rfl
theorem dX9_as_21 : decode cX9_as 21 = .ok (.iload_n 1, 1) := dt_of DA_X9_as_0 12 rfl
theorem dX9_as_22 : decode cX9_as 22 = .ok (.invokevirtual 240, 3) := dt_of DA_X9_as_0 13 rfl
theorem dX9_as_25 : decode cX9_as 25 = .ok (.istore_n 3, 1) := dt_of DA_X9_as_0 14 rfl
theorem dX9_as_26 : decode cX9_as 26 = .ok (.iload_n 2, 1) := dt_of DA_X9_as_0 15 rfl
theorem dX9_as_27 : decode cX9_as 27 = .ok (.ifCond .eq 28, 3) := dt_of DA_X9_as_0 16 rfl
theorem dX9_as_30 : decode cX9_as 30 = .ok (.iload_n 2, 1) := dt_of DA_X9_as_0 17 rfl
theorem dX9_as_31 : decode cX9_as 31 = .ok (.iload_n 3, 1) := dt_of DA_X9_as_0 18 rfl
theorem dX9_as_32 : decode cX9_as 32 = .ok (.if_icmp .eq 23, 3) := dt_of DA_X9_as_0 19 rfl
theorem dX9_as_35 : decode cX9_as 35 = .ok (.iload_n 2, 1) := dt_of DA_X9_as_0 20 rfl
theorem dX9_as_36 : decode cX9_as 36 = .ok (.iconst 1, 1) := dt_of DA_X9_as_0 21 rfl
theorem dX9_as_37 : decode cX9_as 37 = .ok (.if_icmp .ne 8, 3) := dt_of DA_X9_as_0 22 rfl
theorem dX9_as_40 : decode cX9_as 40 = .ok (.iload_n 3, 1) := dt_of DA_X9_as_0 23 rfl
theorem dX9_as_41 : decode cX9_as 41 = .ok (.iconst 4, 1) := dt_of DA_X9_as_0 24 rfl
theorem dX9_as_42 : decode cX9_as 42 = .ok (.if_icmp .lt 13, 3) := dt_of DA_X9_as_0 25 rfl
theorem dX9_as_45 : decode cX9_as 45 = .ok (.iload_n 2, 1) := dt_of DA_X9_as_0 26 rfl
theorem dX9_as_46 : decode cX9_as 46 = .ok (.iconst 4, 1) := dt_of DA_X9_as_0 27 rfl
theorem dX9_as_47 : decode cX9_as 47 = .ok (.if_icmp .ne 12, 3) := dt_of DA_X9_as_0 28 rfl
theorem dX9_as_50 : decode cX9_as 50 = .ok (.iload_n 3, 1) := dt_of DA_X9_as_0 29 rfl
theorem dX9_as_51 : decode cX9_as 51 = .ok (.iconst 5, 1) := dt_of DA_X9_as_0 30 rfl
theorem dX9_as_52 : decode cX9_as 52 = .ok (.if_icmp .ne 7, 3) := dt_of DA_X9_as_0 31 rfl
theorem dX9_as_55 : decode cX9_as 55 = .ok (.iconst 1, 1) := dt_of DA_X9_as_0 32 rfl
theorem dX9_as_56 : decode cX9_as 56 = .ok (.goto 4, 3) := dt_of DA_X9_as_0 33 rfl
theorem dX9_as_59 : decode cX9_as 59 = .ok (.iconst 0, 1) := dt_of DA_X9_as_0 34 rfl
theorem dX9_as_60 : decode cX9_as 60 = .ok (.istore 4, 2) := dt_of DA_X9_as_0 35 rfl
theorem dX9_as_62 : decode cX9_as 62 = .ok (.iload 4, 2) := dt_of DA_X9_as_0 36 rfl
theorem dX9_as_64 : decode cX9_as 64 = .ok (.ifCond .eq 11, 3) := dt_of DA_X9_as_0 37 rfl
theorem dX9_as_67 : decode cX9_as 67 = .ok (.aload_n 0, 1) := dt_of DA_X9_as_0 38 rfl
theorem dX9_as_68 : decode cX9_as 68 = .ok (.iload_n 1, 1) := dt_of DA_X9_as_0 39 rfl
theorem dX9_as_69 : decode cX9_as 69 = .ok (.invokevirtual 75, 3) := dt_of DA_X9_as_0 40 rfl
theorem dX9_as_72 : decode cX9_as 72 = .ok (.goto 8, 3) := dt_of DA_X9_as_0 41 rfl
theorem dX9_as_75 : decode cX9_as 75 = .ok (.aload_n 0, 1) := dt_of DA_X9_as_0 42 rfl
theorem dX9_as_76 : decode cX9_as 76 = .ok (.iconst 3, 1) := dt_of DA_X9_as_0 43 rfl
theorem dX9_as_77 : decode cX9_as 77 = .ok (.invokevirtual 71, 3) := dt_of DA_X9_as_0 44 rfl
theorem dX9_as_80 : decode cX9_as 80 = .ok (.ireturn, 1) := dt_of DA_X9_as_0 45 rfl
def DT_X9_begins_0 : List (Nat × Instr × Nat) := [(0, .aload_n 0, 1), (1, .getfield 243, 3), (4, .bipush 16, 2), (6, .if_icmp .ge 23, 3), (9, .aload_n 0, 1), (10, .getfield 53, 3), (13, .aload_n 0, 1), (14, .getfield 243, 3), (17, .iload_n 1, 1), (18, .iastore, 1), (19, .aload_n 0, 1), (20, .dup, 1), (21, .getfield 243, 3), (24, .iconst 1, 1), (25, .iadd, 1), (26, .putfield 243, 3), (29, .return_, 1)]
theorem DA_X9_begins_0 : DT_X9_begins_0.all (dtf cX9_begins) = true := by decide +kernel
theorem dX9_begins_0 : decode cX9_begins 0 = .ok (.aload_n 0, 1) := dt_of DA_X9_begins_0 0 rfl
theorem dX9_begins_1 : decode cX9_begins 1 = .ok (.getfield 243, 3) := dt_of DA_X9_begins_0 1 rfl
theorem dX9_begins_4 : decode cX9_begins 4 = .ok (.bipush 16, 2) := dt_of DA_X9_begins_0 2 rfl
theorem dX9_begins_6 : decode cX9_begins 6 = .ok (.if_icmp .ge 23, 3) := dt_of DA_X9_begins_0 3 rfl
theorem dX9_begins_9 : decode cX9_begins 9 = .ok (.aload_n 0, 1) := dt_of DA_X9_begins_0 4 rfl
theorem dX9_begins_10 : decode cX9_begins 10 = .ok (.getfield 53, 3) := dt_of DA_X9_begins_0 5 rfl
theorem dX9_begins_13 : decode cX9_begins 13 = .ok (.aload_n 0, 1) := dt_of DA_X9_begins_0 6 rfl
theorem dX9_begins_14 : decode cX9_begins 14 = .ok (.getfield 243, 3) := dt_of DA_X9_begins_0 7 rfl
theorem dX9_begins_17 : decode cX9_begins 17 = .ok (.iload_n 1, 1) := dt_of DA_X9_begins_0 8 rfl
theorem dX9_begins_18 : decode cX9_begins 18 = .ok (.iastore, 1) := dt_of DA_X9_begins_0 9 rfl
theorem dX9_begins_19 : decode cX9_begins 19 = .ok (.aload_n 0, 1) := dt_of DA_X9_begins_0 10 rfl
theorem dX9_begins_20 : decode cX9_begins 20 = .ok (.dup, 1) := dt_of DA_X9_begins_0 11 rfl
theorem dX9_begins_21 : decode cX9_begins 21 = .ok (.getfield 243, 3) := dt_of DA_X9_begins_0 12 rfl
theorem dX9_begins_24 : decode cX9_begins 24 = .ok (.iconst 1, 1) := dt_of DA_X9_begins_0 13 rfl
theorem dX9_begins_25 : decode cX9_begins 25 = .ok (.iadd, 1) := dt_of DA_X9_begins_0 14 rfl
theorem dX9_begins_26 : decode cX9_begins 26 = .ok (.putfield 243, 3) := dt_of DA_X9_begins_0 15 rfl
theorem dX9_begins_29 : decode cX9_begins 29 = .ok (.return_, 1) := dt_of DA_X9_begins_0 16 rfl
def DT_X9_parishMark_0 : List (Nat × Instr × Nat) := [(0, .aload_n 0, 1), (1, .iload_n 1, 1), (2, .invokevirtual 240, 3), (5, .istore_n 2, 1), (6, .iload_n 2, 1), (7, .iconst 1, 1), (8, .if_icmp .eq 19, 3), (11, .aload_n 0, 1), (12, .iload_n 2, 1), (13, .iconst 2, 1), (14, .if_icmp .ne 8, 3), (17, .bipush 24, 2), (19, .goto 5, 3), (22, .bipush 22, 2), (24, .invokevirtual 246, 3), (27, .aload_n 0, 1), (28, .bipush 21, 2), (30, .invokevirtual 246, 3), (33, .aload_n 0, 1), (34, .bipush 20, 2), (36, .invokevirtual 246, 3), (39, .iload_n 1, 1), (40, .aload_n 0, 1), (41, .getfield 25, 3), (44, .iload_n 1, 1), (45, .invokestatic 209, 3), (48, .iadd, 1), (49, .istore_n 3, 1), (50, .iload_n 2, 1), (51, .iconst 2, 1), (52, .if_icmp .ne 9, 3), (55, .iconst 2, 1), (56, .iload_n 3, 1), (57, .imul, 1), (58, .goto 17, 3), (61, .iload_n 2, 1), (62, .iconst 3, 1), (63, .if_icmp .ne 11, 3), (66, .iload_n 3, 1), (67, .sipush 1000, 3), (70, .isub, 1), (71, .goto 4, 3), (74, .iload_n 3, 1), (75, .ireturn, 1)]
theorem DA_X9_parishMark_0 : DT_X9_parishMark_0.all (dtf cX9_parishMark) = true := by decide +kernel
theorem dX9_parishMark_0 : decode cX9_parishMark 0 = .ok (.aload_n 0, 1) := dt_of DA_X9_parishMark_0 0 rfl
theorem dX9_parishMark_1 : decode cX9_parishMark 1 = .ok (.iload_n 1, 1) := dt_of DA_X9_parishMark_0 1 rfl
theorem dX9_parishMark_2 : decode cX9_parishMark 2 = .ok (.invokevirtual 240, 3) := dt_of DA_X9_parishMark_0 2 rfl
theorem dX9_parishMark_5 : decode cX9_parishMark 5 = .ok (.istore_n 2, 1) := dt_of DA_X9_parishMark_0 3 rfl
theorem dX9_parishMark_6 : decode cX9_parishMark 6 = .ok (.iload_n 2, 1) := dt_of DA_X9_parishMark_0 4 rfl
theorem dX9_parishMark_7 : decode cX9_parishMark 7 = .ok (.iconst 1, 1) := dt_of DA_X9_parishMark_0 5 rfl
theorem dX9_parishMark_8 : decode cX9_parishMark 8 = .ok (.if_icmp .eq 19, 3) := dt_of DA_X9_parishMark_0 6 rfl
theorem dX9_parishMark_11 : decode cX9_parishMark 11 = .ok (.aload_n 0, 1) := dt_of DA_X9_parishMark_0 7 rfl
theorem dX9_parishMark_12 : decode cX9_parishMark 12 = .ok (.iload_n 2, 1) := dt_of DA_X9_parishMark_0 8 rfl
theorem dX9_parishMark_13 : decode cX9_parishMark 13 = .ok (.iconst 2, 1) := dt_of DA_X9_parishMark_0 9 rfl
theorem dX9_parishMark_14 : decode cX9_parishMark 14 = .ok (.if_icmp .ne 8, 3) := dt_of DA_X9_parishMark_0 10 rfl
theorem dX9_parishMark_17 : decode cX9_parishMark 17 = .ok (.bipush 24, 2) := dt_of DA_X9_parishMark_0 11 rfl
theorem dX9_parishMark_19 : decode cX9_parishMark 19 = .ok (.goto 5, 3) := dt_of DA_X9_parishMark_0 12 rfl
theorem dX9_parishMark_22 : decode cX9_parishMark 22 = .ok (.bipush 22, 2) := dt_of DA_X9_parishMark_0 13 rfl
theorem dX9_parishMark_24 : decode cX9_parishMark 24 = .ok (.invokevirtual 246, 3) := dt_of DA_X9_parishMark_0 14 rfl
theorem dX9_parishMark_27 : decode cX9_parishMark 27 = .ok (.aload_n 0, 1) := dt_of DA_X9_parishMark_0 15 rfl
theorem dX9_parishMark_28 : decode cX9_parishMark 28 = .ok (.bipush 21, 2) := dt_of DA_X9_parishMark_0 16 rfl
theorem dX9_parishMark_30 : decode cX9_parishMark 30 = .ok (.invokevirtual 246, 3) := dt_of DA_X9_parishMark_0 17 rfl
theorem dX9_parishMark_33 : decode cX9_parishMark 33 = .ok (.aload_n 0, 1) := dt_of DA_X9_parishMark_0 18 rfl
theorem dX9_parishMark_34 : decode cX9_parishMark 34 = .ok (.bipush 20, 2) := dt_of DA_X9_parishMark_0 19 rfl
theorem dX9_parishMark_36 : decode cX9_parishMark 36 = .ok (.invokevirtual 246, 3) := dt_of DA_X9_parishMark_0 20 rfl
theorem dX9_parishMark_39 : decode cX9_parishMark 39 = .ok (.iload_n 1, 1) := dt_of DA_X9_parishMark_0 21 rfl
theorem dX9_parishMark_40 : decode cX9_parishMark 40 = .ok (.aload_n 0, 1) := dt_of DA_X9_parishMark_0 22 rfl
theorem dX9_parishMark_41 : decode cX9_parishMark 41 = .ok (.getfield 25, 3) := dt_of DA_X9_parishMark_0 23 rfl
theorem dX9_parishMark_44 : decode cX9_parishMark 44 = .ok (.iload_n 1, 1) := dt_of DA_X9_parishMark_0 24 rfl
theorem dX9_parishMark_45 : decode cX9_parishMark 45 = .ok (.invokestatic 209, 3) := dt_of DA_X9_parishMark_0 25 rfl
theorem dX9_parishMark_48 : decode cX9_parishMark 48 = .ok (.iadd, 1) := dt_of DA_X9_parishMark_0 26 rfl
theorem dX9_parishMark_49 : decode cX9_parishMark 49 = .ok (.istore_n 3, 1) := dt_of DA_X9_parishMark_0 27 rfl
theorem dX9_parishMark_50 : decode cX9_parishMark 50 = .ok (.iload_n 2, 1) := dt_of DA_X9_parishMark_0 28 rfl
theorem dX9_parishMark_51 : decode cX9_parishMark 51 = .ok (.iconst 2, 1) := dt_of DA_X9_parishMark_0 29 rfl
theorem dX9_parishMark_52 : decode cX9_parishMark 52 = .ok (.if_icmp .ne 9, 3) := dt_of DA_X9_parishMark_0 30 rfl
theorem dX9_parishMark_55 : decode cX9_parishMark 55 = .ok (.iconst 2, 1) := dt_of DA_X9_parishMark_0 31 rfl
theorem dX9_parishMark_56 : decode cX9_parishMark 56 = .ok (.iload_n 3, 1) := dt_of DA_X9_parishMark_0 32 rfl
theorem dX9_parishMark_57 : decode cX9_parishMark 57 = .ok (.imul, 1) := dt_of DA_X9_parishMark_0 33 rfl
theorem dX9_parishMark_58 : decode cX9_parishMark 58 = .ok (.goto 17, 3) := dt_of DA_X9_parishMark_0 34 rfl
theorem dX9_parishMark_61 : decode cX9_parishMark 61 = .ok (.iload_n 2, 1) := dt_of DA_X9_parishMark_0 35 rfl
theorem dX9_parishMark_62 : decode cX9_parishMark 62 = .ok (.iconst 3, 1) := dt_of DA_X9_parishMark_0 36 rfl
theorem dX9_parishMark_63 : decode cX9_parishMark 63 = .ok (.if_icmp .ne 11, 3) := dt_of DA_X9_parishMark_0 37 rfl
theorem dX9_parishMark_66 : decode cX9_parishMark 66 = .ok (.iload_n 3, 1) := dt_of DA_X9_parishMark_0 38 rfl
theorem dX9_parishMark_67 : decode cX9_parishMark 67 = .ok (.sipush 1000, 3) := dt_of DA_X9_parishMark_0 39 rfl
theorem dX9_parishMark_70 : decode cX9_parishMark 70 = .ok (.isub, 1) := dt_of DA_X9_parishMark_0 40 rfl
theorem dX9_parishMark_71 : decode cX9_parishMark 71 = .ok (.goto 4, 3) := dt_of DA_X9_parishMark_0 41 rfl
theorem dX9_parishMark_74 : decode cX9_parishMark 74 = .ok (.iload_n 3, 1) := dt_of DA_X9_parishMark_0 42 rfl
theorem dX9_parishMark_75 : decode cX9_parishMark 75 = .ok (.ireturn, 1) := dt_of DA_X9_parishMark_0 43 rfl
def DT_X9_churchSize_0 : List (Nat × Instr × Nat) := [(0, .aload_n 0, 1), (1, .iload_n 1, 1), (2, .invokevirtual 240, 3), (5, .iconst 5, 1), (6, .if_icmp .ne 7, 3), (9, .iconst 1, 1), (10, .goto 4, 3), (13, .iconst 0, 1), (14, .istore_n 2, 1), (15, .iload_n 2, 1), (16, .ifCond .eq 9, 3), (19, .aload_n 0, 1), (20, .bipush 14, 2), (22, .invokevirtual 246, 3), (25, .aload_n 0, 1), (26, .bipush 13, 2), (28, .invokevirtual 246, 3), (31, .aload_n 0, 1), (32, .bipush 10, 2), (34, .invokevirtual 246, 3), (37, .aload_n 0, 1), (38, .getfield 25, 3), (41, .iconst 3, 1), (42, .iconst 4, 1), (43, .iload_n 1, 1), (44, .imul, 1), (45, .iadd, 1), (46, .iconst 1, 1), (47, .iadd, 1), (48, .iaload, 1), (49, .bipush 100, 2), (51, .isub, 1), (52, .istore_n 3, 1), (53, .iload_n 2, 1), (54, .ifCond .eq 9, 3), (57, .iconst 2, 1), (58, .iload_n 3, 1), (59, .imul, 1), (60, .goto 4, 3), (63, .iload_n 3, 1), (64, .ireturn, 1)]
theorem DA_X9_churchSize_0 : DT_X9_churchSize_0.all (dtf cX9_churchSize) = true := by decide +kernel
theorem dX9_churchSize_0 : decode cX9_churchSize 0 = .ok (.aload_n 0, 1) := dt_of DA_X9_churchSize_0 0 rfl
theorem dX9_churchSize_1 : decode cX9_churchSize 1 = .ok (.iload_n 1, 1) := dt_of DA_X9_churchSize_0 1 rfl
theorem dX9_churchSize_2 : decode cX9_churchSize 2 = .ok (.invokevirtual 240, 3) := dt_of DA_X9_churchSize_0 2 rfl
theorem dX9_churchSize_5 : decode cX9_churchSize 5 = .ok (.iconst 5, 1) := dt_of DA_X9_churchSize_0 3 rfl
theorem dX9_churchSize_6 : decode cX9_churchSize 6 = .ok (.if_icmp .ne 7, 3) := dt_of DA_X9_churchSize_0 4 rfl
theorem dX9_churchSize_9 : decode cX9_churchSize 9 = .ok (.iconst 1, 1) := dt_of DA_X9_churchSize_0 5 rfl
theorem dX9_churchSize_10 : decode cX9_churchSize 10 = .ok (.goto 4, 3) := dt_of DA_X9_churchSize_0 6 rfl
theorem dX9_churchSize_13 : decode cX9_churchSize 13 = .ok (.iconst 0, 1) := dt_of DA_X9_churchSize_0 7 rfl
theorem dX9_churchSize_14 : decode cX9_churchSize 14 = .ok (.istore_n 2, 1) := dt_of DA_X9_churchSize_0 8 rfl
theorem dX9_churchSize_15 : decode cX9_churchSize 15 = .ok (.iload_n 2, 1) := dt_of DA_X9_churchSize_0 9 rfl
theorem dX9_churchSize_16 : decode cX9_churchSize 16 = .ok (.ifCond .eq 9, 3) := dt_of DA_X9_churchSize_0 10 rfl
theorem dX9_churchSize_19 : decode cX9_churchSize 19 = .ok (.aload_n 0, 1) := dt_of DA_X9_churchSize_0 11 rfl
theorem dX9_churchSize_20 : decode cX9_churchSize 20 = .ok (.bipush 14, 2) := dt_of DA_X9_churchSize_0 12 rfl
theorem dX9_churchSize_22 : decode cX9_churchSize 22 = .ok (.invokevirtual 246, 3) := dt_of DA_X9_churchSize_0 13 rfl
theorem dX9_churchSize_25 : decode cX9_churchSize 25 = .ok (.aload_n 0, 1) := dt_of DA_X9_churchSize_0 14 rfl
theorem dX9_churchSize_26 : decode cX9_churchSize 26 = .ok (.bipush 13, 2) := dt_of DA_X9_churchSize_0 15 rfl
theorem dX9_churchSize_28 : decode cX9_churchSize 28 = .ok (.invokevirtual 246, 3) := dt_of DA_X9_churchSize_0 16 rfl
theorem dX9_churchSize_31 : decode cX9_churchSize 31 = .ok (.aload_n 0, 1) := dt_of DA_X9_churchSize_0 17 rfl
theorem dX9_churchSize_32 : decode cX9_churchSize 32 = .ok (.bipush 10, 2) := dt_of DA_X9_churchSize_0 18 rfl
theorem dX9_churchSize_34 : decode cX9_churchSize 34 = .ok (.invokevirtual 246, 3) := dt_of DA_X9_churchSize_0 19 rfl
theorem dX9_churchSize_37 : decode cX9_churchSize 37 = .ok (.aload_n 0, 1) := dt_of DA_X9_churchSize_0 20 rfl
theorem dX9_churchSize_38 : decode cX9_churchSize 38 = .ok (.getfield 25, 3) := dt_of DA_X9_churchSize_0 21 rfl
theorem dX9_churchSize_41 : decode cX9_churchSize 41 = .ok (.iconst 3, 1) := dt_of DA_X9_churchSize_0 22 rfl
theorem dX9_churchSize_42 : decode cX9_churchSize 42 = .ok (.iconst 4, 1) := dt_of DA_X9_churchSize_0 23 rfl
theorem dX9_churchSize_43 : decode cX9_churchSize 43 = .ok (.iload_n 1, 1) := dt_of DA_X9_churchSize_0 24 rfl
theorem dX9_churchSize_44 : decode cX9_churchSize 44 = .ok (.imul, 1) := dt_of DA_X9_churchSize_0 25 rfl
theorem dX9_churchSize_45 : decode cX9_churchSize 45 = .ok (.iadd, 1) := dt_of DA_X9_churchSize_0 26 rfl
theorem dX9_churchSize_46 : decode cX9_churchSize 46 = .ok (.iconst 1, 1) := dt_of DA_X9_churchSize_0 27 rfl
theorem dX9_churchSize_47 : decode cX9_churchSize 47 = .ok (.iadd, 1) := dt_of DA_X9_churchSize_0 28 rfl
theorem dX9_churchSize_48 : decode cX9_churchSize 48 = .ok (.iaload, 1) := dt_of DA_X9_churchSize_0 29 rfl
theorem dX9_churchSize_49 : decode cX9_churchSize 49 = .ok (.bipush 100, 2) := dt_of DA_X9_churchSize_0 30 rfl
theorem dX9_churchSize_51 : decode cX9_churchSize 51 = .ok (.isub, 1) := dt_of DA_X9_churchSize_0 31 rfl
theorem dX9_churchSize_52 : decode cX9_churchSize 52 = .ok (.istore_n 3, 1) := dt_of DA_X9_churchSize_0 32 rfl
theorem dX9_churchSize_53 : decode cX9_churchSize 53 = .ok (.iload_n 2, 1) := dt_of DA_X9_churchSize_0 33 rfl
theorem dX9_churchSize_54 : decode cX9_churchSize 54 = .ok (.ifCond .eq 9, 3) := dt_of DA_X9_churchSize_0 34 rfl
theorem dX9_churchSize_57 : decode cX9_churchSize 57 = .ok (.iconst 2, 1) := dt_of DA_X9_churchSize_0 35 rfl
theorem dX9_churchSize_58 : decode cX9_churchSize 58 = .ok (.iload_n 3, 1) := dt_of DA_X9_churchSize_0 36 rfl
theorem dX9_churchSize_59 : decode cX9_churchSize 59 = .ok (.imul, 1) := dt_of DA_X9_churchSize_0 37 rfl
theorem dX9_churchSize_60 : decode cX9_churchSize 60 = .ok (.goto 4, 3) := dt_of DA_X9_churchSize_0 38 rfl
theorem dX9_churchSize_63 : decode cX9_churchSize 63 = .ok (.iload_n 3, 1) := dt_of DA_X9_churchSize_0 39 rfl
theorem dX9_churchSize_64 : decode cX9_churchSize 64 = .ok (.ireturn, 1) := dt_of DA_X9_churchSize_0 40 rfl
def DT_X9_parishSize_0 : List (Nat × Instr × Nat) := [(0, .aload_n 0, 1), (1, .iload_n 1, 1), (2, .invokevirtual 240, 3), (5, .iconst 2, 1), (6, .if_icmp .ne 7, 3), (9, .iconst 1, 1), (10, .goto 4, 3), (13, .iconst 0, 1), (14, .istore_n 2, 1), (15, .iload_n 2, 1), (16, .ifCond .eq 9, 3), (19, .aload_n 0, 1), (20, .bipush 12, 2), (22, .invokevirtual 246, 3), (25, .aload_n 0, 1), (26, .bipush 11, 2), (28, .invokevirtual 246, 3), (31, .aload_n 0, 1), (32, .bipush 10, 2), (34, .invokevirtual 246, 3), (37, .aload_n 0, 1), (38, .getfield 25, 3), (41, .iconst 3, 1), (42, .iconst 4, 1), (43, .iload_n 1, 1), (44, .imul, 1), (45, .iadd, 1), (46, .iconst 1, 1), (47, .iadd, 1), (48, .iaload, 1), (49, .aload_n 0, 1), (50, .iload_n 1, 1), (51, .invokevirtual 249, 3), (54, .iadd, 1), (55, .istore_n 3, 1), (56, .iload_n 2, 1), (57, .ifCond .eq 8, 3), (60, .iload_n 3, 1), (61, .ineg, 1), (62, .goto 4, 3), (65, .iload_n 3, 1), (66, .ireturn, 1)]
theorem DA_X9_parishSize_0 : DT_X9_parishSize_0.all (dtf cX9_parishSize) = true := by decide +kernel
theorem dX9_parishSize_0 : decode cX9_parishSize 0 = .ok (.aload_n 0, 1) := dt_of DA_X9_parishSize_0 0 rfl
theorem dX9_parishSize_1 : decode cX9_parishSize 1 = .ok (.iload_n 1, 1) := dt_of DA_X9_parishSize_0 1 rfl
theorem dX9_parishSize_2 : decode cX9_parishSize 2 = .ok (.invokevirtual 240, 3) := dt_of DA_X9_parishSize_0 2 rfl
theorem dX9_parishSize_5 : decode cX9_parishSize 5 = .ok (.iconst 2, 1) := dt_of DA_X9_parishSize_0 3 rfl
theorem dX9_parishSize_6 : decode cX9_parishSize 6 = .ok (.if_icmp .ne 7, 3) := dt_of DA_X9_parishSize_0 4 rfl
theorem dX9_parishSize_9 : decode cX9_parishSize 9 = .ok (.iconst 1, 1) := dt_of DA_X9_parishSize_0 5 rfl
theorem dX9_parishSize_10 : decode cX9_parishSize 10 = .ok (.goto 4, 3) := dt_of DA_X9_parishSize_0 6 rfl
theorem dX9_parishSize_13 : decode cX9_parishSize 13 = .ok (.iconst 0, 1) := dt_of DA_X9_parishSize_0 7 rfl
theorem dX9_parishSize_14 : decode cX9_parishSize 14 = .ok (.istore_n 2, 1) := dt_of DA_X9_parishSize_0 8 rfl
theorem dX9_parishSize_15 : decode cX9_parishSize 15 = .ok (.iload_n 2, 1) := dt_of DA_X9_parishSize_0 9 rfl
theorem dX9_parishSize_16 : decode cX9_parishSize 16 = .ok (.ifCond .eq 9, 3) := dt_of DA_X9_parishSize_0 10 rfl
theorem dX9_parishSize_19 : decode cX9_parishSize 19 = .ok (.aload_n 0, 1) := dt_of DA_X9_parishSize_0 11 rfl
theorem dX9_parishSize_20 : decode cX9_parishSize 20 = .ok (.bipush 12, 2) := dt_of DA_X9_parishSize_0 12 rfl
theorem dX9_parishSize_22 : decode cX9_parishSize 22 = .ok (.invokevirtual 246, 3) := dt_of DA_X9_parishSize_0 13 rfl
theorem dX9_parishSize_25 : decode cX9_parishSize 25 = .ok (.aload_n 0, 1) := dt_of DA_X9_parishSize_0 14 rfl
theorem dX9_parishSize_26 : decode cX9_parishSize 26 = .ok (.bipush 11, 2) := dt_of DA_X9_parishSize_0 15 rfl
theorem dX9_parishSize_28 : decode cX9_parishSize 28 = .ok (.invokevirtual 246, 3) := dt_of DA_X9_parishSize_0 16 rfl
theorem dX9_parishSize_31 : decode cX9_parishSize 31 = .ok (.aload_n 0, 1) := dt_of DA_X9_parishSize_0 17 rfl
theorem dX9_parishSize_32 : decode cX9_parishSize 32 = .ok (.bipush 10, 2) := dt_of DA_X9_parishSize_0 18 rfl
theorem dX9_parishSize_34 : decode cX9_parishSize 34 = .ok (.invokevirtual 246, 3) := dt_of DA_X9_parishSize_0 19 rfl
theorem dX9_parishSize_37 : decode cX9_parishSize 37 = .ok (.aload_n 0, 1) := dt_of DA_X9_parishSize_0 20 rfl
theorem dX9_parishSize_38 : decode cX9_parishSize 38 = .ok (.getfield 25, 3) := dt_of DA_X9_parishSize_0 21 rfl
theorem dX9_parishSize_41 : decode cX9_parishSize 41 = .ok (.iconst 3, 1) := dt_of DA_X9_parishSize_0 22 rfl
theorem dX9_parishSize_42 : decode cX9_parishSize 42 = .ok (.iconst 4, 1) := dt_of DA_X9_parishSize_0 23 rfl
theorem dX9_parishSize_43 : decode cX9_parishSize 43 = .ok (.iload_n 1, 1) := dt_of DA_X9_parishSize_0 24 rfl
theorem dX9_parishSize_44 : decode cX9_parishSize 44 = .ok (.imul, 1) := dt_of DA_X9_parishSize_0 25 rfl
theorem dX9_parishSize_45 : decode cX9_parishSize 45 = .ok (.iadd, 1) := dt_of DA_X9_parishSize_0 26 rfl
theorem dX9_parishSize_46 : decode cX9_parishSize 46 = .ok (.iconst 1, 1) := dt_of DA_X9_parishSize_0 27 rfl
theorem dX9_parishSize_47 : decode cX9_parishSize 47 = .ok (.iadd, 1) := dt_of DA_X9_parishSize_0 28 rfl
theorem dX9_parishSize_48 : decode cX9_parishSize 48 = .ok (.iaload, 1) := dt_of DA_X9_parishSize_0 29 rfl
theorem dX9_parishSize_49 : decode cX9_parishSize 49 = .ok (.aload_n 0, 1) := dt_of DA_X9_parishSize_0 30 rfl
theorem dX9_parishSize_50 : decode cX9_parishSize 50 = .ok (.iload_n 1, 1) := dt_of DA_X9_parishSize_0 31 rfl
theorem dX9_parishSize_51 : decode cX9_parishSize 51 = .ok (.invokevirtual 249, 3) := dt_of DA_X9_parishSize_0 32 rfl
theorem dX9_parishSize_54 : decode cX9_parishSize 54 = .ok (.iadd, 1) := dt_of DA_X9_parishSize_0 33 rfl
theorem dX9_parishSize_55 : decode cX9_parishSize 55 = .ok (.istore_n 3, 1) := dt_of DA_X9_parishSize_0 34 rfl
theorem dX9_parishSize_56 : decode cX9_parishSize 56 = .ok (.iload_n 2, 1) := dt_of DA_X9_parishSize_0 35 rfl
theorem dX9_parishSize_57 : decode cX9_parishSize 57 = .ok (.ifCond .eq 8, 3) := dt_of DA_X9_parishSize_0 36 rfl
theorem dX9_parishSize_60 : decode cX9_parishSize 60 = .ok (.iload_n 3, 1) := dt_of DA_X9_parishSize_0 37 rfl
theorem dX9_parishSize_61 : decode cX9_parishSize 61 = .ok (.ineg, 1) := dt_of DA_X9_parishSize_0 38 rfl
theorem dX9_parishSize_62 : decode cX9_parishSize 62 = .ok (.goto 4, 3) := dt_of DA_X9_parishSize_0 39 rfl
theorem dX9_parishSize_65 : decode cX9_parishSize 65 = .ok (.iload_n 3, 1) := dt_of DA_X9_parishSize_0 40 rfl
theorem dX9_parishSize_66 : decode cX9_parishSize 66 = .ok (.ireturn, 1) := dt_of DA_X9_parishSize_0 41 rfl
def DT_X9_churchMark_0 : List (Nat × Instr × Nat) := [(0, .aload_n 0, 1), (1, .bipush 23, 2), (3, .invokevirtual 246, 3), (6, .aload_n 0, 1), (7, .bipush 20, 2), (9, .invokevirtual 246, 3), (12, .iload_n 1, 1), (13, .aload_n 0, 1), (14, .iload_n 1, 1), (15, .invokevirtual 252, 3), (18, .isub, 1), (19, .ireturn, 1)]
theorem DA_X9_churchMark_0 : DT_X9_churchMark_0.all (dtf cX9_churchMark) = true := by decide +kernel
theorem dX9_churchMark_0 : decode cX9_churchMark 0 = .ok (.aload_n 0, 1) := dt_of DA_X9_churchMark_0 0 rfl
theorem dX9_churchMark_1 : decode cX9_churchMark 1 = .ok (.bipush 23, 2) := dt_of DA_X9_churchMark_0 1 rfl
theorem dX9_churchMark_3 : decode cX9_churchMark 3 = .ok (.invokevirtual 246, 3) := dt_of DA_X9_churchMark_0 2 rfl
theorem dX9_churchMark_6 : decode cX9_churchMark 6 = .ok (.aload_n 0, 1) := dt_of DA_X9_churchMark_0 3 rfl
theorem dX9_churchMark_7 : decode cX9_churchMark 7 = .ok (.bipush 20, 2) := dt_of DA_X9_churchMark_0 4 rfl
theorem dX9_churchMark_9 : decode cX9_churchMark 9 = .ok (.invokevirtual 246, 3) := dt_of DA_X9_churchMark_0 5 rfl
theorem dX9_churchMark_12 : decode cX9_churchMark 12 = .ok (.iload_n 1, 1) := dt_of DA_X9_churchMark_0 6 rfl
theorem dX9_churchMark_13 : decode cX9_churchMark 13 = .ok (.aload_n 0, 1) := dt_of DA_X9_churchMark_0 7 rfl
theorem dX9_churchMark_14 : decode cX9_churchMark 14 = .ok (.iload_n 1, 1) := dt_of DA_X9_churchMark_0 8 rfl
theorem dX9_churchMark_15 : decode cX9_churchMark 15 = .ok (.invokevirtual 252, 3) := dt_of DA_X9_churchMark_0 9 rfl
theorem dX9_churchMark_18 : decode cX9_churchMark 18 = .ok (.isub, 1) := dt_of DA_X9_churchMark_0 10 rfl
theorem dX9_churchMark_19 : decode cX9_churchMark 19 = .ok (.ireturn, 1) := dt_of DA_X9_churchMark_0 11 rfl
def DT_X9_ask_0 : List (Nat × Instr × Nat) := [(0, .aload_n 0, 1), (1, .iload_n 1, 1), (2, .invokevirtual 160, 3), (5, .ifCond .eq 12, 3), (8, .iload_n 2, 1), (9, .iconst 0, 1), (10, .iconst 1, 1), (11, .invokestatic 62, 3), (14, .ifCond .ne 6, 3), (17, .ldc 70, 2), (19, .ireturn, 1), (20, .aload_n 0, 1), (21, .iconst 0, 1), (22, .putfield 243, 3), (25, .aload_n 0, 1), (26, .iload_n 1, 1), (27, .invokevirtual 240, 3), (30, .iconst 4, 1), (31, .if_icmp .lt 7, 3), (34, .iconst 1, 1), (35, .goto 4, 3), (38, .iconst 0, 1), (39, .istore_n 3, 1), (40, .iload_n 2, 1), (41, .ifCond .ne 21, 3), (44, .iload_n 3, 1), (45, .ifCond .eq 11, 3), (48, .aload_n 0, 1), (49, .iload_n 1, 1), (50, .invokevirtual 252, 3), (53, .goto 8, 3), (56, .aload_n 0, 1), (57, .iload_n 1, 1), (58, .invokevirtual 255, 3), (61, .ireturn, 1), (62, .iload_n 3, 1), (63, .ifCond .eq 11, 3), (66, .aload_n 0, 1), (67, .iload_n 1, 1), (68, .invokevirtual 258, 3), (71, .goto 8, 3), (74, .aload_n 0, 1), (75, .iload_n 1, 1), (76, .invokevirtual 249, 3), (79, .ireturn, 1)]
theorem DA_X9_ask_0 : DT_X9_ask_0.all (dtf cX9_ask) = true := by decide +kernel
theorem dX9_ask_0 : decode cX9_ask 0 = .ok (.aload_n 0, 1) := dt_of DA_X9_ask_0 0 rfl
theorem dX9_ask_1 : decode cX9_ask 1 = .ok (.iload_n 1, 1) := dt_of DA_X9_ask_0 1 rfl
theorem dX9_ask_2 : decode cX9_ask 2 = .ok (.invokevirtual 160, 3) := dt_of DA_X9_ask_0 2 rfl
theorem dX9_ask_5 : decode cX9_ask 5 = .ok (.ifCond .eq 12, 3) := dt_of DA_X9_ask_0 3 rfl
theorem dX9_ask_8 : decode cX9_ask 8 = .ok (.iload_n 2, 1) := dt_of DA_X9_ask_0 4 rfl
theorem dX9_ask_9 : decode cX9_ask 9 = .ok (.iconst 0, 1) := dt_of DA_X9_ask_0 5 rfl
theorem dX9_ask_10 : decode cX9_ask 10 = .ok (.iconst 1, 1) := dt_of DA_X9_ask_0 6 rfl
theorem dX9_ask_11 : decode cX9_ask 11 = .ok (.invokestatic 62, 3) := dt_of DA_X9_ask_0 7 rfl
theorem dX9_ask_14 : decode cX9_ask 14 = .ok (.ifCond .ne 6, 3) := dt_of DA_X9_ask_0 8 rfl
theorem dX9_ask_17 : decode cX9_ask 17 = .ok (.ldc 70, 2) := dt_of DA_X9_ask_0 9 rfl
theorem dX9_ask_19 : decode cX9_ask 19 = .ok (.ireturn, 1) := dt_of DA_X9_ask_0 10 rfl
theorem dX9_ask_20 : decode cX9_ask 20 = .ok (.aload_n 0, 1) := dt_of DA_X9_ask_0 11 rfl
theorem dX9_ask_21 : decode cX9_ask 21 = .ok (.iconst 0, 1) := dt_of DA_X9_ask_0 12 rfl
theorem dX9_ask_22 : decode cX9_ask 22 = .ok (.putfield 243, 3) := dt_of DA_X9_ask_0 13 rfl
theorem dX9_ask_25 : decode cX9_ask 25 = .ok (.aload_n 0, 1) := dt_of DA_X9_ask_0 14 rfl
theorem dX9_ask_26 : decode cX9_ask 26 = .ok (.iload_n 1, 1) := dt_of DA_X9_ask_0 15 rfl
theorem dX9_ask_27 : decode cX9_ask 27 = .ok (.invokevirtual 240, 3) := dt_of DA_X9_ask_0 16 rfl
theorem dX9_ask_30 : decode cX9_ask 30 = .ok (.iconst 4, 1) := dt_of DA_X9_ask_0 17 rfl
theorem dX9_ask_31 : decode cX9_ask 31 = .ok (.if_icmp .lt 7, 3) := dt_of DA_X9_ask_0 18 rfl
theorem dX9_ask_34 : decode cX9_ask 34 = .ok (.iconst 1, 1) := dt_of DA_X9_ask_0 19 rfl
theorem dX9_ask_35 : decode cX9_ask 35 = .ok (.goto 4, 3) := dt_of DA_X9_ask_0 20 rfl
theorem dX9_ask_38 : decode cX9_ask 38 = .ok (.iconst 0, 1) := dt_of DA_X9_ask_0 21 rfl
theorem dX9_ask_39 : decode cX9_ask 39 = .ok (.istore_n 3, 1) := dt_of DA_X9_ask_0 22 rfl
theorem dX9_ask_40 : decode cX9_ask 40 = .ok (.iload_n 2, 1) := dt_of DA_X9_ask_0 23 rfl
theorem dX9_ask_41 : decode cX9_ask 41 = .ok (.ifCond .ne 21, 3) := dt_of DA_X9_ask_0 24 rfl
theorem dX9_ask_44 : decode cX9_ask 44 = .ok (.iload_n 3, 1) := dt_of DA_X9_ask_0 25 rfl
theorem dX9_ask_45 : decode cX9_ask 45 = .ok (.ifCond .eq 11, 3) := dt_of DA_X9_ask_0 26 rfl
theorem dX9_ask_48 : decode cX9_ask 48 = .ok (.aload_n 0, 1) := dt_of DA_X9_ask_0 27 rfl
theorem dX9_ask_49 : decode cX9_ask 49 = .ok (.iload_n 1, 1) := dt_of DA_X9_ask_0 28 rfl
theorem dX9_ask_50 : decode cX9_ask 50 = .ok (.invokevirtual 252, 3) := dt_of DA_X9_ask_0 29 rfl
theorem dX9_ask_53 : decode cX9_ask 53 = .ok (.goto 8, 3) := dt_of DA_X9_ask_0 30 rfl
theorem dX9_ask_56 : decode cX9_ask 56 = .ok (.aload_n 0, 1) := dt_of DA_X9_ask_0 31 rfl
theorem dX9_ask_57 : decode cX9_ask 57 = .ok (.iload_n 1, 1) := dt_of DA_X9_ask_0 32 rfl
theorem dX9_ask_58 : decode cX9_ask 58 = .ok (.invokevirtual 255, 3) := dt_of DA_X9_ask_0 33 rfl
theorem dX9_ask_61 : decode cX9_ask 61 = .ok (.ireturn, 1) := dt_of DA_X9_ask_0 34 rfl
theorem dX9_ask_62 : decode cX9_ask 62 = .ok (.iload_n 3, 1) := dt_of DA_X9_ask_0 35 rfl
theorem dX9_ask_63 : decode cX9_ask 63 = .ok (.ifCond .eq 11, 3) := dt_of DA_X9_ask_0 36 rfl
theorem dX9_ask_66 : decode cX9_ask 66 = .ok (.aload_n 0, 1) := dt_of DA_X9_ask_0 37 rfl
theorem dX9_ask_67 : decode cX9_ask 67 = .ok (.iload_n 1, 1) := dt_of DA_X9_ask_0 38 rfl
theorem dX9_ask_68 : decode cX9_ask 68 = .ok (.invokevirtual 258, 3) := dt_of DA_X9_ask_0 39 rfl
theorem dX9_ask_71 : decode cX9_ask 71 = .ok (.goto 8, 3) := dt_of DA_X9_ask_0 40 rfl
theorem dX9_ask_74 : decode cX9_ask 74 = .ok (.aload_n 0, 1) := dt_of DA_X9_ask_0 41 rfl
theorem dX9_ask_75 : decode cX9_ask 75 = .ok (.iload_n 1, 1) := dt_of DA_X9_ask_0 42 rfl
theorem dX9_ask_76 : decode cX9_ask 76 = .ok (.invokevirtual 249, 3) := dt_of DA_X9_ask_0 43 rfl
theorem dX9_ask_79 : decode cX9_ask 79 = .ok (.ireturn, 1) := dt_of DA_X9_ask_0 44 rfl
def DT_X9_trace_0 : List (Nat × Instr × Nat) := [(0, .iload_n 1, 1), (1, .iconst 0, 1), (2, .aload_n 0, 1), (3, .getfield 243, 3), (6, .iconst 1, 1), (7, .isub, 1), (8, .invokestatic 62, 3), (11, .ifCond .eq 12, 3), (14, .aload_n 0, 1), (15, .getfield 53, 3), (18, .iload_n 1, 1), (19, .iaload, 1), (20, .goto 5, 3), (23, .ldc 56, 2), (25, .ireturn, 1)]
theorem DA_X9_trace_0 : DT_X9_trace_0.all (dtf cX9_trace) = true := by decide +kernel
theorem dX9_trace_0 : decode cX9_trace 0 = .ok (.iload_n 1, 1) := dt_of DA_X9_trace_0 0 rfl
theorem dX9_trace_1 : decode cX9_trace 1 = .ok (.iconst 0, 1) := dt_of DA_X9_trace_0 1 rfl
theorem dX9_trace_2 : decode cX9_trace 2 = .ok (.aload_n 0, 1) := dt_of DA_X9_trace_0 2 rfl
theorem dX9_trace_3 : decode cX9_trace 3 = .ok (.getfield 243, 3) := dt_of DA_X9_trace_0 3 rfl
theorem dX9_trace_6 : decode cX9_trace 6 = .ok (.iconst 1, 1) := dt_of DA_X9_trace_0 4 rfl
theorem dX9_trace_7 : decode cX9_trace 7 = .ok (.isub, 1) := dt_of DA_X9_trace_0 5 rfl
theorem dX9_trace_8 : decode cX9_trace 8 = .ok (.invokestatic 62, 3) := dt_of DA_X9_trace_0 6 rfl
theorem dX9_trace_11 : decode cX9_trace 11 = .ok (.ifCond .eq 12, 3) := dt_of DA_X9_trace_0 7 rfl
theorem dX9_trace_14 : decode cX9_trace 14 = .ok (.aload_n 0, 1) := dt_of DA_X9_trace_0 8 rfl
theorem dX9_trace_15 : decode cX9_trace 15 = .ok (.getfield 53, 3) := dt_of DA_X9_trace_0 9 rfl
theorem dX9_trace_18 : decode cX9_trace 18 = .ok (.iload_n 1, 1) := dt_of DA_X9_trace_0 10 rfl
theorem dX9_trace_19 : decode cX9_trace 19 = .ok (.iaload, 1) := dt_of DA_X9_trace_0 11 rfl
theorem dX9_trace_20 : decode cX9_trace 20 = .ok (.goto 5, 3) := dt_of DA_X9_trace_0 12 rfl
theorem dX9_trace_23 : decode cX9_trace 23 = .ok (.ldc 56, 2) := dt_of DA_X9_trace_0 13 rfl
theorem dX9_trace_25 : decode cX9_trace 25 = .ok (.ireturn, 1) := dt_of DA_X9_trace_0 14 rfl
def DT_X9_count_0 : List (Nat × Instr × Nat) := [(0, .iconst 0, 1), (1, .istore_n 2, 1), (2, .iload_n 1, 1), (3, .tableswitch 124 0 7 #[45, 77, 84, 91, 98, 106, 114, 119], 45), (48, .iconst 0, 1), (49, .istore_n 3, 1), (50, .iload_n 3, 1), (51, .bipush 8, 2), (53, .if_icmp .ge 25, 3), (56, .iload_n 2, 1), (57, .aload_n 0, 1), (58, .iload_n 3, 1), (59, .invokevirtual 78, 3), (62, .ifCond .eq 7, 3), (65, .iconst 0, 1), (66, .goto 4, 3), (69, .iconst 1, 1), (70, .iadd, 1), (71, .istore_n 2, 1), (72, .iinc 3 1, 3), (75, .goto (-25), 3), (78, .iload_n 2, 1), (79, .ireturn, 1), (80, .aload_n 0, 1), (81, .getfield 25, 3), (84, .iconst 1, 1), (85, .iaload, 1), (86, .ireturn, 1), (87, .aload_n 0, 1), (88, .getfield 25, 3), (91, .iconst 2, 1), (92, .iaload, 1), (93, .ireturn, 1), (94, .aload_n 0, 1), (95, .getfield 25, 3), (98, .iconst 0, 1), (99, .iaload, 1), (100, .ireturn, 1), (101, .aload_n 0, 1), (102, .getfield 25, 3), (105, .invokestatic 202, 3), (108, .ireturn, 1), (109, .aload_n 0, 1), (110, .getfield 25, 3), (113, .invokestatic 237, 3), (116, .ireturn, 1), (117, .aload_n 0, 1), (118, .getfield 157, 3), (121, .ireturn, 1), (122, .aload_n 0, 1), (123, .getfield 88, 3), (126, .ireturn, 1), (127, .ldc 70, 2), (129, .ireturn, 1)]
theorem DA_X9_count_0 : DT_X9_count_0.all (dtf cX9_count) = true := by decide +kernel
theorem dX9_count_0 : decode cX9_count 0 = .ok (.iconst 0, 1) := dt_of DA_X9_count_0 0 rfl
theorem dX9_count_1 : decode cX9_count 1 = .ok (.istore_n 2, 1) := dt_of DA_X9_count_0 1 rfl
theorem dX9_count_2 : decode cX9_count 2 = .ok (.iload_n 1, 1) := dt_of DA_X9_count_0 2 rfl
theorem dX9_count_3 : decode cX9_count 3 = .ok (.tableswitch 124 0 7 #[45, 77, 84, 91, 98, 106, 114, 119], 45) := dt_of DA_X9_count_0 3 rfl
theorem dX9_count_48 : decode cX9_count 48 = .ok (.iconst 0, 1) := dt_of DA_X9_count_0 4 rfl
theorem dX9_count_49 : decode cX9_count 49 = .ok (.istore_n 3, 1) := dt_of DA_X9_count_0 5 rfl
theorem dX9_count_50 : decode cX9_count 50 = .ok (.iload_n 3, 1) := dt_of DA_X9_count_0 6 rfl
theorem dX9_count_51 : decode cX9_count 51 = .ok (.bipush 8, 2) := dt_of DA_X9_count_0 7 rfl
theorem dX9_count_53 : decode cX9_count 53 = .ok (.if_icmp .ge 25, 3) := dt_of DA_X9_count_0 8 rfl
theorem dX9_count_56 : decode cX9_count 56 = .ok (.iload_n 2, 1) := dt_of DA_X9_count_0 9 rfl
theorem dX9_count_57 : decode cX9_count 57 = .ok (.aload_n 0, 1) := dt_of DA_X9_count_0 10 rfl
theorem dX9_count_58 : decode cX9_count 58 = .ok (.iload_n 3, 1) := dt_of DA_X9_count_0 11 rfl
theorem dX9_count_59 : decode cX9_count 59 = .ok (.invokevirtual 78, 3) := dt_of DA_X9_count_0 12 rfl
theorem dX9_count_62 : decode cX9_count 62 = .ok (.ifCond .eq 7, 3) := dt_of DA_X9_count_0 13 rfl
theorem dX9_count_65 : decode cX9_count 65 = .ok (.iconst 0, 1) := dt_of DA_X9_count_0 14 rfl
theorem dX9_count_66 : decode cX9_count 66 = .ok (.goto 4, 3) := dt_of DA_X9_count_0 15 rfl
theorem dX9_count_69 : decode cX9_count 69 = .ok (.iconst 1, 1) := dt_of DA_X9_count_0 16 rfl
theorem dX9_count_70 : decode cX9_count 70 = .ok (.iadd, 1) := dt_of DA_X9_count_0 17 rfl
theorem dX9_count_71 : decode cX9_count 71 = .ok (.istore_n 2, 1) := dt_of DA_X9_count_0 18 rfl
theorem dX9_count_72 : decode cX9_count 72 = .ok (.iinc 3 1, 3) := dt_of DA_X9_count_0 19 rfl
theorem dX9_count_75 : decode cX9_count 75 = .ok (.goto (-25), 3) := dt_of DA_X9_count_0 20 rfl
theorem dX9_count_78 : decode cX9_count 78 = .ok (.iload_n 2, 1) := dt_of DA_X9_count_0 21 rfl
theorem dX9_count_79 : decode cX9_count 79 = .ok (.ireturn, 1) := dt_of DA_X9_count_0 22 rfl
theorem dX9_count_80 : decode cX9_count 80 = .ok (.aload_n 0, 1) := dt_of DA_X9_count_0 23 rfl
theorem dX9_count_81 : decode cX9_count 81 = .ok (.getfield 25, 3) := dt_of DA_X9_count_0 24 rfl
theorem dX9_count_84 : decode cX9_count 84 = .ok (.iconst 1, 1) := dt_of DA_X9_count_0 25 rfl
theorem dX9_count_85 : decode cX9_count 85 = .ok (.iaload, 1) := dt_of DA_X9_count_0 26 rfl
theorem dX9_count_86 : decode cX9_count 86 = .ok (.ireturn, 1) := dt_of DA_X9_count_0 27 rfl
theorem dX9_count_87 : decode cX9_count 87 = .ok (.aload_n 0, 1) := dt_of DA_X9_count_0 28 rfl
theorem dX9_count_88 : decode cX9_count 88 = .ok (.getfield 25, 3) := dt_of DA_X9_count_0 29 rfl
theorem dX9_count_91 : decode cX9_count 91 = .ok (.iconst 2, 1) := dt_of DA_X9_count_0 30 rfl
theorem dX9_count_92 : decode cX9_count 92 = .ok (.iaload, 1) := dt_of DA_X9_count_0 31 rfl
theorem dX9_count_93 : decode cX9_count 93 = .ok (.ireturn, 1) := dt_of DA_X9_count_0 32 rfl
theorem dX9_count_94 : decode cX9_count 94 = .ok (.aload_n 0, 1) := dt_of DA_X9_count_0 33 rfl
theorem dX9_count_95 : decode cX9_count 95 = .ok (.getfield 25, 3) := dt_of DA_X9_count_0 34 rfl
theorem dX9_count_98 : decode cX9_count 98 = .ok (.iconst 0, 1) := dt_of DA_X9_count_0 35 rfl
theorem dX9_count_99 : decode cX9_count 99 = .ok (.iaload, 1) := dt_of DA_X9_count_0 36 rfl
theorem dX9_count_100 : decode cX9_count 100 = .ok (.ireturn, 1) := dt_of DA_X9_count_0 37 rfl
theorem dX9_count_101 : decode cX9_count 101 = .ok (.aload_n 0, 1) := dt_of DA_X9_count_0 38 rfl
theorem dX9_count_102 : decode cX9_count 102 = .ok (.getfield 25, 3) := dt_of DA_X9_count_0 39 rfl
theorem dX9_count_105 : decode cX9_count 105 = .ok (.invokestatic 202, 3) := dt_of DA_X9_count_0 40 rfl
theorem dX9_count_108 : decode cX9_count 108 = .ok (.ireturn, 1) := dt_of DA_X9_count_0 41 rfl
theorem dX9_count_109 : decode cX9_count 109 = .ok (.aload_n 0, 1) := dt_of DA_X9_count_0 42 rfl
theorem dX9_count_110 : decode cX9_count 110 = .ok (.getfield 25, 3) := dt_of DA_X9_count_0 43 rfl
theorem dX9_count_113 : decode cX9_count 113 = .ok (.invokestatic 237, 3) := dt_of DA_X9_count_0 44 rfl
theorem dX9_count_116 : decode cX9_count 116 = .ok (.ireturn, 1) := dt_of DA_X9_count_0 45 rfl
theorem dX9_count_117 : decode cX9_count 117 = .ok (.aload_n 0, 1) := dt_of DA_X9_count_0 46 rfl
theorem dX9_count_118 : decode cX9_count 118 = .ok (.getfield 157, 3) := dt_of DA_X9_count_0 47 rfl
theorem dX9_count_121 : decode cX9_count 121 = .ok (.ireturn, 1) := dt_of DA_X9_count_0 48 rfl
theorem dX9_count_122 : decode cX9_count 122 = .ok (.aload_n 0, 1) := dt_of DA_X9_count_0 49 rfl
theorem dX9_count_123 : decode cX9_count 123 = .ok (.getfield 88, 3) := dt_of DA_X9_count_0 50 rfl
theorem dX9_count_126 : decode cX9_count 126 = .ok (.ireturn, 1) := dt_of DA_X9_count_0 51 rfl
theorem dX9_count_127 : decode cX9_count 127 = .ok (.ldc 70, 2) := dt_of DA_X9_count_0 52 rfl
theorem dX9_count_129 : decode cX9_count 129 = .ok (.ireturn, 1) := dt_of DA_X9_count_0 53 rfl
def DT_X9_status_0 : List (Nat × Instr × Nat) := [(0, .aload_n 0, 1), (1, .getfield 57, 3), (4, .ireturn, 1)]
theorem DA_X9_status_0 : DT_X9_status_0.all (dtf cX9_status) = true := by decide +kernel
theorem dX9_status_0 : decode cX9_status 0 = .ok (.aload_n 0, 1) := dt_of DA_X9_status_0 0 rfl
theorem dX9_status_1 : decode cX9_status 1 = .ok (.getfield 57, 3) := dt_of DA_X9_status_0 1 rfl
theorem dX9_status_4 : decode cX9_status 4 = .ok (.ireturn, 1) := dt_of DA_X9_status_0 2 rfl
