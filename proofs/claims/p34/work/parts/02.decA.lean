def dtf (c : ByteArray) (q : Nat × Instr × Nat) : Bool := decide (decode c q.1 = .ok (q.2.1, q.2.2))
theorem dt_of {c : ByteArray} {t : List (Nat × Instr × Nat)} (h : t.all (dtf c) = true) (i : Nat) {pc : Nat} {x : Instr} {n : Nat} (hi : t[i]? = some (pc, x, n)) : decode c pc = .ok (x, n) := by
  have h1 : dtf c (pc, x, n) = true := List.all_eq_true.mp h _ (List.mem_of_getElem? hi)
  simpa only [dtf, decide_eq_true_eq] using h1
def DT_X0_init_0 : List (Nat × Instr × Nat) := [(0, .aload_n 0, 1), (1, .invokespecial 3, 3), (4, .aload_n 0, 1), (5, .bipush 24, 2), (7, .anewarray 9, 3), (10, .putfield 11, 3), (13, .iconst 0, 1), (14, .istore_n 1, 1), (15, .iload_n 1, 1), (16, .bipush 24, 2), (18, .if_icmp .ge 22, 3), (21, .aload_n 0, 1), (22, .getfield 11, 3), (25, .iload_n 1, 1), (26, .new 9, 3), (29, .dup, 1), (30, .invokespecial 17, 3), (33, .aastore, 1), (34, .iinc 1 1, 3), (37, .goto (-22), 3), (40, .return_, 1)]
theorem DA_X0_init_0 : DT_X0_init_0.all (dtf cX0_init) = true := by decide +kernel
theorem dX0_init_0 : decode cX0_init 0 = .ok (.aload_n 0, 1) := dt_of DA_X0_init_0 0 rfl
theorem dX0_init_1 : decode cX0_init 1 = .ok (.invokespecial 3, 3) := dt_of DA_X0_init_0 1 rfl
theorem dX0_init_4 : decode cX0_init 4 = .ok (.aload_n 0, 1) := dt_of DA_X0_init_0 2 rfl
theorem dX0_init_5 : decode cX0_init 5 = .ok (.bipush 24, 2) := dt_of DA_X0_init_0 3 rfl
theorem dX0_init_7 : decode cX0_init 7 = .ok (.anewarray 9, 3) := dt_of DA_X0_init_0 4 rfl
theorem dX0_init_10 : decode cX0_init 10 = .ok (.putfield 11, 3) := dt_of DA_X0_init_0 5 rfl
theorem dX0_init_13 : decode cX0_init 13 = .ok (.iconst 0, 1) := dt_of DA_X0_init_0 6 rfl
theorem dX0_init_14 : decode cX0_init 14 = .ok (.istore_n 1, 1) := dt_of DA_X0_init_0 7 rfl
theorem dX0_init_15 : decode cX0_init 15 = .ok (.iload_n 1, 1) := dt_of DA_X0_init_0 8 rfl
theorem dX0_init_16 : decode cX0_init 16 = .ok (.bipush 24, 2) := dt_of DA_X0_init_0 9 rfl
theorem dX0_init_18 : decode cX0_init 18 = .ok (.if_icmp .ge 22, 3) := dt_of DA_X0_init_0 10 rfl
theorem dX0_init_21 : decode cX0_init 21 = .ok (.aload_n 0, 1) := dt_of DA_X0_init_0 11 rfl
theorem dX0_init_22 : decode cX0_init 22 = .ok (.getfield 11, 3) := dt_of DA_X0_init_0 12 rfl
theorem dX0_init_25 : decode cX0_init 25 = .ok (.iload_n 1, 1) := dt_of DA_X0_init_0 13 rfl
theorem dX0_init_26 : decode cX0_init 26 = .ok (.new 9, 3) := dt_of DA_X0_init_0 14 rfl
theorem dX0_init_29 : decode cX0_init 29 = .ok (.dup, 1) := dt_of DA_X0_init_0 15 rfl
theorem dX0_init_30 : decode cX0_init 30 = .ok (.invokespecial 17, 3) := dt_of DA_X0_init_0 16 rfl
theorem dX0_init_33 : decode cX0_init 33 = .ok (.aastore, 1) := dt_of DA_X0_init_0 17 rfl
theorem dX0_init_34 : decode cX0_init 34 = .ok (.iinc 1 1, 3) := dt_of DA_X0_init_0 18 rfl
theorem dX0_init_37 : decode cX0_init 37 = .ok (.goto (-22), 3) := dt_of DA_X0_init_0 19 rfl
theorem dX0_init_40 : decode cX0_init 40 = .ok (.return_, 1) := dt_of DA_X0_init_0 20 rfl
def DT_X0_keep_0 : List (Nat × Instr × Nat) := [(0, .aload_n 0, 1), (1, .getfield 11, 3), (4, .aload_n 0, 1), (5, .getfield 18, 3), (8, .aaload, 1), (9, .aload_n 1, 1), (10, .invokevirtual 22, 3), (13, .aload_n 0, 1), (14, .aload_n 0, 1), (15, .getfield 18, 3), (18, .iconst 1, 1), (19, .iadd, 1), (20, .bipush 24, 2), (22, .irem, 1), (23, .putfield 18, 3), (26, .aload_n 0, 1), (27, .bipush 24, 2), (29, .aload_n 0, 1), (30, .getfield 26, 3), (33, .iconst 1, 1), (34, .iadd, 1), (35, .invokestatic 29, 3), (38, .putfield 26, 3), (41, .return_, 1)]
theorem DA_X0_keep_0 : DT_X0_keep_0.all (dtf cX0_keep) = true := by decide +kernel
theorem dX0_keep_0 : decode cX0_keep 0 = .ok (.aload_n 0, 1) := dt_of DA_X0_keep_0 0 rfl
theorem dX0_keep_1 : decode cX0_keep 1 = .ok (.getfield 11, 3) := dt_of DA_X0_keep_0 1 rfl
theorem dX0_keep_4 : decode cX0_keep 4 = .ok (.aload_n 0, 1) := dt_of DA_X0_keep_0 2 rfl
theorem dX0_keep_5 : decode cX0_keep 5 = .ok (.getfield 18, 3) := dt_of DA_X0_keep_0 3 rfl
theorem dX0_keep_8 : decode cX0_keep 8 = .ok (.aaload, 1) := dt_of DA_X0_keep_0 4 rfl
theorem dX0_keep_9 : decode cX0_keep 9 = .ok (.aload_n 1, 1) := dt_of DA_X0_keep_0 5 rfl
theorem dX0_keep_10 : decode cX0_keep 10 = .ok (.invokevirtual 22, 3) := dt_of DA_X0_keep_0 6 rfl
theorem dX0_keep_13 : decode cX0_keep 13 = .ok (.aload_n 0, 1) := dt_of DA_X0_keep_0 7 rfl
theorem dX0_keep_14 : decode cX0_keep 14 = .ok (.aload_n 0, 1) := dt_of DA_X0_keep_0 8 rfl
theorem dX0_keep_15 : decode cX0_keep 15 = .ok (.getfield 18, 3) := dt_of DA_X0_keep_0 9 rfl
theorem dX0_keep_18 : decode cX0_keep 18 = .ok (.iconst 1, 1) := dt_of DA_X0_keep_0 10 rfl
theorem dX0_keep_19 : decode cX0_keep 19 = .ok (.iadd, 1) := dt_of DA_X0_keep_0 11 rfl
theorem dX0_keep_20 : decode cX0_keep 20 = .ok (.bipush 24, 2) := dt_of DA_X0_keep_0 12 rfl
theorem dX0_keep_22 : decode cX0_keep 22 = .ok (.irem, 1) := dt_of DA_X0_keep_0 13 rfl
theorem dX0_keep_23 : decode cX0_keep 23 = .ok (.putfield 18, 3) := dt_of DA_X0_keep_0 14 rfl
theorem dX0_keep_26 : decode cX0_keep 26 = .ok (.aload_n 0, 1) := dt_of DA_X0_keep_0 15 rfl
theorem dX0_keep_27 : decode cX0_keep 27 = .ok (.bipush 24, 2) := dt_of DA_X0_keep_0 16 rfl
theorem dX0_keep_29 : decode cX0_keep 29 = .ok (.aload_n 0, 1) := dt_of DA_X0_keep_0 17 rfl
theorem dX0_keep_30 : decode cX0_keep 30 = .ok (.getfield 26, 3) := dt_of DA_X0_keep_0 18 rfl
theorem dX0_keep_33 : decode cX0_keep 33 = .ok (.iconst 1, 1) := dt_of DA_X0_keep_0 19 rfl
theorem dX0_keep_34 : decode cX0_keep 34 = .ok (.iadd, 1) := dt_of DA_X0_keep_0 20 rfl
theorem dX0_keep_35 : decode cX0_keep 35 = .ok (.invokestatic 29, 3) := dt_of DA_X0_keep_0 21 rfl
theorem dX0_keep_38 : decode cX0_keep 38 = .ok (.putfield 26, 3) := dt_of DA_X0_keep_0 22 rfl
theorem dX0_keep_41 : decode cX0_keep 41 = .ok (.return_, 1) := dt_of DA_X0_keep_0 23 rfl
def DT_X0_takeBack_0 : List (Nat × Instr × Nat) := [(0, .aload_n 0, 1), (1, .getfield 26, 3), (4, .ifCond .ne 4, 3), (7, .return_, 1), (8, .aload_n 0, 1), (9, .aload_n 0, 1), (10, .getfield 18, 3), (13, .bipush 24, 2), (15, .iadd, 1), (16, .iconst 1, 1), (17, .isub, 1), (18, .bipush 24, 2), (20, .irem, 1), (21, .putfield 18, 3), (24, .aload_n 0, 1), (25, .dup, 1), (26, .getfield 26, 3), (29, .iconst 1, 1), (30, .isub, 1), (31, .putfield 26, 3), (34, .aload_n 1, 1), (35, .aload_n 0, 1), (36, .getfield 11, 3), (39, .aload_n 0, 1), (40, .getfield 18, 3), (43, .aaload, 1), (44, .invokevirtual 22, 3), (47, .return_, 1)]
theorem DA_X0_takeBack_0 : DT_X0_takeBack_0.all (dtf cX0_takeBack) = true := by decide +kernel
theorem dX0_takeBack_0 : decode cX0_takeBack 0 = .ok (.aload_n 0, 1) := dt_of DA_X0_takeBack_0 0 rfl
theorem dX0_takeBack_1 : decode cX0_takeBack 1 = .ok (.getfield 26, 3) := dt_of DA_X0_takeBack_0 1 rfl
theorem dX0_takeBack_4 : decode cX0_takeBack 4 = .ok (.ifCond .ne 4, 3) := dt_of DA_X0_takeBack_0 2 rfl
theorem dX0_takeBack_7 : decode cX0_takeBack 7 = .ok (.return_, 1) := dt_of DA_X0_takeBack_0 3 rfl
theorem dX0_takeBack_8 : decode cX0_takeBack 8 = .ok (.aload_n 0, 1) := dt_of DA_X0_takeBack_0 4 rfl
theorem dX0_takeBack_9 : decode cX0_takeBack 9 = .ok (.aload_n 0, 1) := dt_of DA_X0_takeBack_0 5 rfl
theorem dX0_takeBack_10 : decode cX0_takeBack 10 = .ok (.getfield 18, 3) := dt_of DA_X0_takeBack_0 6 rfl
theorem dX0_takeBack_13 : decode cX0_takeBack 13 = .ok (.bipush 24, 2) := dt_of DA_X0_takeBack_0 7 rfl
theorem dX0_takeBack_15 : decode cX0_takeBack 15 = .ok (.iadd, 1) := dt_of DA_X0_takeBack_0 8 rfl
theorem dX0_takeBack_16 : decode cX0_takeBack 16 = .ok (.iconst 1, 1) := dt_of DA_X0_takeBack_0 9 rfl
theorem dX0_takeBack_17 : decode cX0_takeBack 17 = .ok (.isub, 1) := dt_of DA_X0_takeBack_0 10 rfl
theorem dX0_takeBack_18 : decode cX0_takeBack 18 = .ok (.bipush 24, 2) := dt_of DA_X0_takeBack_0 11 rfl
theorem dX0_takeBack_20 : decode cX0_takeBack 20 = .ok (.irem, 1) := dt_of DA_X0_takeBack_0 12 rfl
theorem dX0_takeBack_21 : decode cX0_takeBack 21 = .ok (.putfield 18, 3) := dt_of DA_X0_takeBack_0 13 rfl
theorem dX0_takeBack_24 : decode cX0_takeBack 24 = .ok (.aload_n 0, 1) := dt_of DA_X0_takeBack_0 14 rfl
theorem dX0_takeBack_25 : decode cX0_takeBack 25 = .ok (.dup, 1) := dt_of DA_X0_takeBack_0 15 rfl
theorem dX0_takeBack_26 : decode cX0_takeBack 26 = .ok (.getfield 26, 3) := dt_of DA_X0_takeBack_0 16 rfl
theorem dX0_takeBack_29 : decode cX0_takeBack 29 = .ok (.iconst 1, 1) := dt_of DA_X0_takeBack_0 17 rfl
theorem dX0_takeBack_30 : decode cX0_takeBack 30 = .ok (.isub, 1) := dt_of DA_X0_takeBack_0 18 rfl
theorem dX0_takeBack_31 : decode cX0_takeBack 31 = .ok (.putfield 26, 3) := dt_of DA_X0_takeBack_0 19 rfl
theorem dX0_takeBack_34 : decode cX0_takeBack 34 = .ok (.aload_n 1, 1) := dt_of DA_X0_takeBack_0 20 rfl
theorem dX0_takeBack_35 : decode cX0_takeBack 35 = .ok (.aload_n 0, 1) := dt_of DA_X0_takeBack_0 21 rfl
theorem dX0_takeBack_36 : decode cX0_takeBack 36 = .ok (.getfield 11, 3) := dt_of DA_X0_takeBack_0 22 rfl
theorem dX0_takeBack_39 : decode cX0_takeBack 39 = .ok (.aload_n 0, 1) := dt_of DA_X0_takeBack_0 23 rfl
theorem dX0_takeBack_40 : decode cX0_takeBack 40 = .ok (.getfield 18, 3) := dt_of DA_X0_takeBack_0 24 rfl
theorem dX0_takeBack_43 : decode cX0_takeBack 43 = .ok (.aaload, 1) := dt_of DA_X0_takeBack_0 25 rfl
theorem dX0_takeBack_44 : decode cX0_takeBack 44 = .ok (.invokevirtual 22, 3) := dt_of DA_X0_takeBack_0 26 rfl
theorem dX0_takeBack_47 : decode cX0_takeBack 47 = .ok (.return_, 1) := dt_of DA_X0_takeBack_0 27 rfl
def DT_X0_forgetAll_0 : List (Nat × Instr × Nat) := [(0, .aload_n 0, 1), (1, .iconst 0, 1), (2, .putfield 26, 3), (5, .return_, 1)]
theorem DA_X0_forgetAll_0 : DT_X0_forgetAll_0.all (dtf cX0_forgetAll) = true := by decide +kernel
theorem dX0_forgetAll_0 : decode cX0_forgetAll 0 = .ok (.aload_n 0, 1) := dt_of DA_X0_forgetAll_0 0 rfl
theorem dX0_forgetAll_1 : decode cX0_forgetAll 1 = .ok (.iconst 0, 1) := dt_of DA_X0_forgetAll_0 1 rfl
theorem dX0_forgetAll_2 : decode cX0_forgetAll 2 = .ok (.putfield 26, 3) := dt_of DA_X0_forgetAll_0 2 rfl
theorem dX0_forgetAll_5 : decode cX0_forgetAll 5 = .ok (.return_, 1) := dt_of DA_X0_forgetAll_0 3 rfl
def DT_X1_init_0 : List (Nat × Instr × Nat) := [(0, .aload_n 0, 1), (1, .invokespecial 3, 3), (4, .aload_n 0, 1), (5, .bipush 16, 2), (7, .newarray .int, 2), (9, .putfield 9, 3), (12, .aload_n 0, 1), (13, .aload_n 1, 1), (14, .putfield 15, 3), (17, .return_, 1)]
theorem DA_X1_init_0 : DT_X1_init_0.all (dtf cX1_init) = true := by decide +kernel
theorem dX1_init_0 : decode cX1_init 0 = .ok (.aload_n 0, 1) := dt_of DA_X1_init_0 0 rfl
theorem dX1_init_1 : decode cX1_init 1 = .ok (.invokespecial 3, 3) := dt_of DA_X1_init_0 1 rfl
theorem dX1_init_4 : decode cX1_init 4 = .ok (.aload_n 0, 1) := dt_of DA_X1_init_0 2 rfl
theorem dX1_init_5 : decode cX1_init 5 = .ok (.bipush 16, 2) := dt_of DA_X1_init_0 3 rfl
theorem dX1_init_7 : decode cX1_init 7 = .ok (.newarray .int, 2) := dt_of DA_X1_init_0 4 rfl
theorem dX1_init_9 : decode cX1_init 9 = .ok (.putfield 9, 3) := dt_of DA_X1_init_0 5 rfl
theorem dX1_init_12 : decode cX1_init 12 = .ok (.aload_n 0, 1) := dt_of DA_X1_init_0 6 rfl
theorem dX1_init_13 : decode cX1_init 13 = .ok (.aload_n 1, 1) := dt_of DA_X1_init_0 7 rfl
theorem dX1_init_14 : decode cX1_init 14 = .ok (.putfield 15, 3) := dt_of DA_X1_init_0 8 rfl
theorem dX1_init_17 : decode cX1_init 17 = .ok (.return_, 1) := dt_of DA_X1_init_0 9 rfl
def DT_X1_sizeOf_0 : List (Nat × Instr × Nat) := [(0, .aload_n 0, 1), (1, .getfield 15, 3), (4, .getfield 19, 3), (7, .iload_n 1, 1), (8, .iaload, 1), (9, .iconst 1, 1), (10, .invokestatic 24, 3), (13, .ifCond .eq 9, 3), (16, .aload_n 0, 1), (17, .iload_n 1, 1), (18, .invokevirtual 28, 3), (21, .ireturn, 1), (22, .aload_n 0, 1), (23, .getfield 15, 3), (26, .getfield 19, 3), (29, .iload_n 1, 1), (30, .iaload, 1), (31, .iconst 4, 1), (32, .invokestatic 24, 3), (35, .ifCond .eq 11, 3), (38, .aload_n 0, 1), (39, .iload_n 1, 1), (40, .invokevirtual 32, 3), (43, .goto 8, 3), (46, .aload_n 0, 1), (47, .iload_n 1, 1), (48, .invokevirtual 35, 3), (51, .ireturn, 1)]
theorem DA_X1_sizeOf_0 : DT_X1_sizeOf_0.all (dtf cX1_sizeOf) = true := by decide +kernel
theorem dX1_sizeOf_0 : decode cX1_sizeOf 0 = .ok (.aload_n 0, 1) := dt_of DA_X1_sizeOf_0 0 rfl
theorem dX1_sizeOf_1 : decode cX1_sizeOf 1 = .ok (.getfield 15, 3) := dt_of DA_X1_sizeOf_0 1 rfl
theorem dX1_sizeOf_4 : decode cX1_sizeOf 4 = .ok (.getfield 19, 3) := dt_of DA_X1_sizeOf_0 2 rfl
theorem dX1_sizeOf_7 : decode cX1_sizeOf 7 = .ok (.iload_n 1, 1) := dt_of DA_X1_sizeOf_0 3 rfl
theorem dX1_sizeOf_8 : decode cX1_sizeOf 8 = .ok (.iaload, 1) := dt_of DA_X1_sizeOf_0 4 rfl
theorem dX1_sizeOf_9 : decode cX1_sizeOf 9 = .ok (.iconst 1, 1) := dt_of DA_X1_sizeOf_0 5 rfl
theorem dX1_sizeOf_10 : decode cX1_sizeOf 10 = .ok (.invokestatic 24, 3) := dt_of DA_X1_sizeOf_0 6 rfl
theorem dX1_sizeOf_13 : decode cX1_sizeOf 13 = .ok (.ifCond .eq 9, 3) := dt_of DA_X1_sizeOf_0 7 rfl
theorem dX1_sizeOf_16 : decode cX1_sizeOf 16 = .ok (.aload_n 0, 1) := dt_of DA_X1_sizeOf_0 8 rfl
theorem dX1_sizeOf_17 : decode cX1_sizeOf 17 = .ok (.iload_n 1, 1) := dt_of DA_X1_sizeOf_0 9 rfl
theorem dX1_sizeOf_18 : decode cX1_sizeOf 18 = .ok (.invokevirtual 28, 3) := dt_of DA_X1_sizeOf_0 10 rfl
theorem dX1_sizeOf_21 : decode cX1_sizeOf 21 = .ok (.ireturn, 1) := dt_of DA_X1_sizeOf_0 11 rfl
theorem dX1_sizeOf_22 : decode cX1_sizeOf 22 = .ok (.aload_n 0, 1) := dt_of DA_X1_sizeOf_0 12 rfl
theorem dX1_sizeOf_23 : decode cX1_sizeOf 23 = .ok (.getfield 15, 3) := dt_of DA_X1_sizeOf_0 13 rfl
theorem dX1_sizeOf_26 : decode cX1_sizeOf 26 = .ok (.getfield 19, 3) := dt_of DA_X1_sizeOf_0 14 rfl
theorem dX1_sizeOf_29 : decode cX1_sizeOf 29 = .ok (.iload_n 1, 1) := dt_of DA_X1_sizeOf_0 15 rfl
theorem dX1_sizeOf_30 : decode cX1_sizeOf 30 = .ok (.iaload, 1) := dt_of DA_X1_sizeOf_0 16 rfl
theorem dX1_sizeOf_31 : decode cX1_sizeOf 31 = .ok (.iconst 4, 1) := dt_of DA_X1_sizeOf_0 17 rfl
theorem dX1_sizeOf_32 : decode cX1_sizeOf 32 = .ok (.invokestatic 24, 3) := dt_of DA_X1_sizeOf_0 18 rfl
theorem dX1_sizeOf_35 : decode cX1_sizeOf 35 = .ok (.ifCond .eq 11, 3) := dt_of DA_X1_sizeOf_0 19 rfl
theorem dX1_sizeOf_38 : decode cX1_sizeOf 38 = .ok (.aload_n 0, 1) := dt_of DA_X1_sizeOf_0 20 rfl
theorem dX1_sizeOf_39 : decode cX1_sizeOf 39 = .ok (.iload_n 1, 1) := dt_of DA_X1_sizeOf_0 21 rfl
theorem dX1_sizeOf_40 : decode cX1_sizeOf 40 = .ok (.invokevirtual 32, 3) := dt_of DA_X1_sizeOf_0 22 rfl
theorem dX1_sizeOf_43 : decode cX1_sizeOf 43 = .ok (.goto 8, 3) := dt_of DA_X1_sizeOf_0 23 rfl
theorem dX1_sizeOf_46 : decode cX1_sizeOf 46 = .ok (.aload_n 0, 1) := dt_of DA_X1_sizeOf_0 24 rfl
theorem dX1_sizeOf_47 : decode cX1_sizeOf 47 = .ok (.iload_n 1, 1) := dt_of DA_X1_sizeOf_0 25 rfl
theorem dX1_sizeOf_48 : decode cX1_sizeOf 48 = .ok (.invokevirtual 35, 3) := dt_of DA_X1_sizeOf_0 26 rfl
theorem dX1_sizeOf_51 : decode cX1_sizeOf 51 = .ok (.ireturn, 1) := dt_of DA_X1_sizeOf_0 27 rfl
def DT_X1_markOf_0 : List (Nat × Instr × Nat) := [(0, .aload_n 0, 1), (1, .getfield 15, 3), (4, .getfield 19, 3), (7, .iload_n 1, 1), (8, .iaload, 1), (9, .iconst 1, 1), (10, .invokestatic 24, 3), (13, .ifCond .eq 9, 3), (16, .aload_n 0, 1), (17, .iload_n 1, 1), (18, .invokevirtual 38, 3), (21, .ireturn, 1), (22, .aload_n 0, 1), (23, .getfield 15, 3), (26, .getfield 19, 3), (29, .iload_n 1, 1), (30, .iaload, 1), (31, .iconst 4, 1), (32, .invokestatic 24, 3), (35, .ifCond .eq 11, 3), (38, .aload_n 0, 1), (39, .iload_n 1, 1), (40, .invokevirtual 41, 3), (43, .goto 8, 3), (46, .aload_n 0, 1), (47, .iload_n 1, 1), (48, .invokevirtual 44, 3), (51, .ireturn, 1)]
theorem DA_X1_markOf_0 : DT_X1_markOf_0.all (dtf cX1_markOf) = true := by decide +kernel
theorem dX1_markOf_0 : decode cX1_markOf 0 = .ok (.aload_n 0, 1) := dt_of DA_X1_markOf_0 0 rfl
theorem dX1_markOf_1 : decode cX1_markOf 1 = .ok (.getfield 15, 3) := dt_of DA_X1_markOf_0 1 rfl
theorem dX1_markOf_4 : decode cX1_markOf 4 = .ok (.getfield 19, 3) := dt_of DA_X1_markOf_0 2 rfl
theorem dX1_markOf_7 : decode cX1_markOf 7 = .ok (.iload_n 1, 1) := dt_of DA_X1_markOf_0 3 rfl
theorem dX1_markOf_8 : decode cX1_markOf 8 = .ok (.iaload, 1) := dt_of DA_X1_markOf_0 4 rfl
theorem dX1_markOf_9 : decode cX1_markOf 9 = .ok (.iconst 1, 1) := dt_of DA_X1_markOf_0 5 rfl
theorem dX1_markOf_10 : decode cX1_markOf 10 = .ok (.invokestatic 24, 3) := dt_of DA_X1_markOf_0 6 rfl
theorem dX1_markOf_13 : decode cX1_markOf 13 = .ok (.ifCond .eq 9, 3) := dt_of DA_X1_markOf_0 7 rfl
theorem dX1_markOf_16 : decode cX1_markOf 16 = .ok (.aload_n 0, 1) := dt_of DA_X1_markOf_0 8 rfl
theorem dX1_markOf_17 : decode cX1_markOf 17 = .ok (.iload_n 1, 1) := dt_of DA_X1_markOf_0 9 rfl
theorem dX1_markOf_18 : decode cX1_markOf 18 = .ok (.invokevirtual 38, 3) := dt_of DA_X1_markOf_0 10 rfl
theorem dX1_markOf_21 : decode cX1_markOf 21 = .ok (.ireturn, 1) := dt_of DA_X1_markOf_0 11 rfl
theorem dX1_markOf_22 : decode cX1_markOf 22 = .ok (.aload_n 0, 1) := dt_of DA_X1_markOf_0 12 rfl
theorem dX1_markOf_23 : decode cX1_markOf 23 = .ok (.getfield 15, 3) := dt_of DA_X1_markOf_0 13 rfl
theorem dX1_markOf_26 : decode cX1_markOf 26 = .ok (.getfield 19, 3) := dt_of DA_X1_markOf_0 14 rfl
theorem dX1_markOf_29 : decode cX1_markOf 29 = .ok (.iload_n 1, 1) := dt_of DA_X1_markOf_0 15 rfl
theorem dX1_markOf_30 : decode cX1_markOf 30 = .ok (.iaload, 1) := dt_of DA_X1_markOf_0 16 rfl
theorem dX1_markOf_31 : decode cX1_markOf 31 = .ok (.iconst 4, 1) := dt_of DA_X1_markOf_0 17 rfl
theorem dX1_markOf_32 : decode cX1_markOf 32 = .ok (.invokestatic 24, 3) := dt_of DA_X1_markOf_0 18 rfl
theorem dX1_markOf_35 : decode cX1_markOf 35 = .ok (.ifCond .eq 11, 3) := dt_of DA_X1_markOf_0 19 rfl
theorem dX1_markOf_38 : decode cX1_markOf 38 = .ok (.aload_n 0, 1) := dt_of DA_X1_markOf_0 20 rfl
theorem dX1_markOf_39 : decode cX1_markOf 39 = .ok (.iload_n 1, 1) := dt_of DA_X1_markOf_0 21 rfl
theorem dX1_markOf_40 : decode cX1_markOf 40 = .ok (.invokevirtual 41, 3) := dt_of DA_X1_markOf_0 22 rfl
theorem dX1_markOf_43 : decode cX1_markOf 43 = .ok (.goto 8, 3) := dt_of DA_X1_markOf_0 23 rfl
theorem dX1_markOf_46 : decode cX1_markOf 46 = .ok (.aload_n 0, 1) := dt_of DA_X1_markOf_0 24 rfl
theorem dX1_markOf_47 : decode cX1_markOf 47 = .ok (.iload_n 1, 1) := dt_of DA_X1_markOf_0 25 rfl
theorem dX1_markOf_48 : decode cX1_markOf 48 = .ok (.invokevirtual 44, 3) := dt_of DA_X1_markOf_0 26 rfl
theorem dX1_markOf_51 : decode cX1_markOf 51 = .ok (.ireturn, 1) := dt_of DA_X1_markOf_0 27 rfl
def DT_X1_sizeInParishes_0 : List (Nat × Instr × Nat) := [(0, .aload_n 0, 1), (1, .getfield 15, 3), (4, .getfield 19, 3), (7, .iload_n 1, 1), (8, .iaload, 1), (9, .iconst 2, 1), (10, .if_icmp .ne 17, 3), (13, .aload_n 0, 1), (14, .bipush 12, 2), (16, .invokevirtual 47, 3), (19, .iconst 0, 1), (20, .aload_n 0, 1), (21, .iload_n 1, 1), (22, .invokevirtual 51, 3), (25, .isub, 1), (26, .ireturn, 1), (27, .aload_n 0, 1), (28, .iload_n 1, 1), (29, .invokevirtual 51, 3), (32, .ireturn, 1)]
theorem DA_X1_sizeInParishes_0 : DT_X1_sizeInParishes_0.all (dtf cX1_sizeInParishes) = true := by decide +kernel
theorem dX1_sizeInParishes_0 : decode cX1_sizeInParishes 0 = .ok (.aload_n 0, 1) := dt_of DA_X1_sizeInParishes_0 0 rfl
theorem dX1_sizeInParishes_1 : decode cX1_sizeInParishes 1 = .ok (.getfield 15, 3) := dt_of DA_X1_sizeInParishes_0 1 rfl
theorem dX1_sizeInParishes_4 : decode cX1_sizeInParishes 4 = .ok (.getfield 19, 3) := dt_of DA_X1_sizeInParishes_0 2 rfl
theorem dX1_sizeInParishes_7 : decode cX1_sizeInParishes 7 = .ok (.iload_n 1, 1) := dt_of DA_X1_sizeInParishes_0 3 rfl
theorem dX1_sizeInParishes_8 : decode cX1_sizeInParishes 8 = .ok (.iaload, 1) := dt_of DA_X1_sizeInParishes_0 4 rfl
theorem dX1_sizeInParishes_9 : decode cX1_sizeInParishes 9 = .ok (.iconst 2, 1) := dt_of DA_X1_sizeInParishes_0 5 rfl
theorem dX1_sizeInParishes_10 : decode cX1_sizeInParishes 10 = .ok (.if_icmp .ne 17, 3) := dt_of DA_X1_sizeInParishes_0 6 rfl
theorem dX1_sizeInParishes_13 : decode cX1_sizeInParishes 13 = .ok (.aload_n 0, 1) := dt_of DA_X1_sizeInParishes_0 7 rfl
theorem dX1_sizeInParishes_14 : decode cX1_sizeInParishes 14 = .ok (.bipush 12, 2) := dt_of DA_X1_sizeInParishes_0 8 rfl
theorem dX1_sizeInParishes_16 : decode cX1_sizeInParishes 16 = .ok (.invokevirtual 47, 3) := dt_of DA_X1_sizeInParishes_0 9 rfl
theorem dX1_sizeInParishes_19 : decode cX1_sizeInParishes 19 = .ok (.iconst 0, 1) := dt_of DA_X1_sizeInParishes_0 10 rfl
theorem dX1_sizeInParishes_20 : decode cX1_sizeInParishes 20 = .ok (.aload_n 0, 1) := dt_of DA_X1_sizeInParishes_0 11 rfl
theorem dX1_sizeInParishes_21 : decode cX1_sizeInParishes 21 = .ok (.iload_n 1, 1) := dt_of DA_X1_sizeInParishes_0 12 rfl
theorem dX1_sizeInParishes_22 : decode cX1_sizeInParishes 22 = .ok (.invokevirtual 51, 3) := dt_of DA_X1_sizeInParishes_0 13 rfl
theorem dX1_sizeInParishes_25 : decode cX1_sizeInParishes 25 = .ok (.isub, 1) := dt_of DA_X1_sizeInParishes_0 14 rfl
theorem dX1_sizeInParishes_26 : decode cX1_sizeInParishes 26 = .ok (.ireturn, 1) := dt_of DA_X1_sizeInParishes_0 15 rfl
theorem dX1_sizeInParishes_27 : decode cX1_sizeInParishes 27 = .ok (.aload_n 0, 1) := dt_of DA_X1_sizeInParishes_0 16 rfl
theorem dX1_sizeInParishes_28 : decode cX1_sizeInParishes 28 = .ok (.iload_n 1, 1) := dt_of DA_X1_sizeInParishes_0 17 rfl
theorem dX1_sizeInParishes_29 : decode cX1_sizeInParishes 29 = .ok (.invokevirtual 51, 3) := dt_of DA_X1_sizeInParishes_0 18 rfl
theorem dX1_sizeInParishes_32 : decode cX1_sizeInParishes 32 = .ok (.ireturn, 1) := dt_of DA_X1_sizeInParishes_0 19 rfl
def DT_X1_parishSize_0 : List (Nat × Instr × Nat) := [(0, .aload_n 0, 1), (1, .bipush 11, 2), (3, .invokevirtual 47, 3), (6, .aload_n 0, 1), (7, .iload_n 1, 1), (8, .invokevirtual 35, 3), (11, .istore_n 2, 1), (12, .iload_n 2, 1), (13, .aload_n 0, 1), (14, .iload_n 1, 1), (15, .invokevirtual 38, 3), (18, .iadd, 1), (19, .ireturn, 1)]
theorem DA_X1_parishSize_0 : DT_X1_parishSize_0.all (dtf cX1_parishSize) = true := by decide +kernel
theorem dX1_parishSize_0 : decode cX1_parishSize 0 = .ok (.aload_n 0, 1) := dt_of DA_X1_parishSize_0 0 rfl
theorem dX1_parishSize_1 : decode cX1_parishSize 1 = .ok (.bipush 11, 2) := dt_of DA_X1_parishSize_0 1 rfl
theorem dX1_parishSize_3 : decode cX1_parishSize 3 = .ok (.invokevirtual 47, 3) := dt_of DA_X1_parishSize_0 2 rfl
theorem dX1_parishSize_6 : decode cX1_parishSize 6 = .ok (.aload_n 0, 1) := dt_of DA_X1_parishSize_0 3 rfl
theorem dX1_parishSize_7 : decode cX1_parishSize 7 = .ok (.iload_n 1, 1) := dt_of DA_X1_parishSize_0 4 rfl
theorem dX1_parishSize_8 : decode cX1_parishSize 8 = .ok (.invokevirtual 35, 3) := dt_of DA_X1_parishSize_0 5 rfl
theorem dX1_parishSize_11 : decode cX1_parishSize 11 = .ok (.istore_n 2, 1) := dt_of DA_X1_parishSize_0 6 rfl
theorem dX1_parishSize_12 : decode cX1_parishSize 12 = .ok (.iload_n 2, 1) := dt_of DA_X1_parishSize_0 7 rfl
theorem dX1_parishSize_13 : decode cX1_parishSize 13 = .ok (.aload_n 0, 1) := dt_of DA_X1_parishSize_0 8 rfl
theorem dX1_parishSize_14 : decode cX1_parishSize 14 = .ok (.iload_n 1, 1) := dt_of DA_X1_parishSize_0 9 rfl
theorem dX1_parishSize_15 : decode cX1_parishSize 15 = .ok (.invokevirtual 38, 3) := dt_of DA_X1_parishSize_0 10 rfl
theorem dX1_parishSize_18 : decode cX1_parishSize 18 = .ok (.iadd, 1) := dt_of DA_X1_parishSize_0 11 rfl
theorem dX1_parishSize_19 : decode cX1_parishSize 19 = .ok (.ireturn, 1) := dt_of DA_X1_parishSize_0 12 rfl
def DT_X1_sizeInCathedrals_0 : List (Nat × Instr × Nat) := [(0, .aload_n 0, 1), (1, .getfield 15, 3), (4, .getfield 19, 3), (7, .iload_n 1, 1), (8, .iaload, 1), (9, .iconst 5, 1), (10, .if_icmp .ne 17, 3), (13, .aload_n 0, 1), (14, .bipush 14, 2), (16, .invokevirtual 47, 3), (19, .iconst 2, 1), (20, .aload_n 0, 1), (21, .iload_n 1, 1), (22, .invokevirtual 54, 3), (25, .imul, 1), (26, .ireturn, 1), (27, .aload_n 0, 1), (28, .iload_n 1, 1), (29, .invokevirtual 54, 3), (32, .ireturn, 1)]
theorem DA_X1_sizeInCathedrals_0 : DT_X1_sizeInCathedrals_0.all (dtf cX1_sizeInCathedrals) = true := by decide +kernel
theorem dX1_sizeInCathedrals_0 : decode cX1_sizeInCathedrals 0 = .ok (.aload_n 0, 1) := dt_of DA_X1_sizeInCathedrals_0 0 rfl
theorem dX1_sizeInCathedrals_1 : decode cX1_sizeInCathedrals 1 = .ok (.getfield 15, 3) := dt_of DA_X1_sizeInCathedrals_0 1 rfl
theorem dX1_sizeInCathedrals_4 : decode cX1_sizeInCathedrals 4 = .ok (.getfield 19, 3) := dt_of DA_X1_sizeInCathedrals_0 2 rfl
theorem dX1_sizeInCathedrals_7 : decode cX1_sizeInCathedrals 7 = .ok (.iload_n 1, 1) := dt_of DA_X1_sizeInCathedrals_0 3 rfl
theorem dX1_sizeInCathedrals_8 : decode cX1_sizeInCathedrals 8 = .ok (.iaload, 1) := dt_of DA_X1_sizeInCathedrals_0 4 rfl
theorem dX1_sizeInCathedrals_9 : decode cX1_sizeInCathedrals 9 = .ok (.iconst 5, 1) := dt_of DA_X1_sizeInCathedrals_0 5 rfl
theorem dX1_sizeInCathedrals_10 : decode cX1_sizeInCathedrals 10 = .ok (.if_icmp .ne 17, 3) := dt_of DA_X1_sizeInCathedrals_0 6 rfl
theorem dX1_sizeInCathedrals_13 : decode cX1_sizeInCathedrals 13 = .ok (.aload_n 0, 1) := dt_of DA_X1_sizeInCathedrals_0 7 rfl
theorem dX1_sizeInCathedrals_14 : decode cX1_sizeInCathedrals 14 = .ok (.bipush 14, 2) := dt_of DA_X1_sizeInCathedrals_0 8 rfl
theorem dX1_sizeInCathedrals_16 : decode cX1_sizeInCathedrals 16 = .ok (.invokevirtual 47, 3) := dt_of DA_X1_sizeInCathedrals_0 9 rfl
theorem dX1_sizeInCathedrals_19 : decode cX1_sizeInCathedrals 19 = .ok (.iconst 2, 1) := dt_of DA_X1_sizeInCathedrals_0 10 rfl
theorem dX1_sizeInCathedrals_20 : decode cX1_sizeInCathedrals 20 = .ok (.aload_n 0, 1) := dt_of DA_X1_sizeInCathedrals_0 11 rfl
theorem dX1_sizeInCathedrals_21 : decode cX1_sizeInCathedrals 21 = .ok (.iload_n 1, 1) := dt_of DA_X1_sizeInCathedrals_0 12 rfl
theorem dX1_sizeInCathedrals_22 : decode cX1_sizeInCathedrals 22 = .ok (.invokevirtual 54, 3) := dt_of DA_X1_sizeInCathedrals_0 13 rfl
theorem dX1_sizeInCathedrals_25 : decode cX1_sizeInCathedrals 25 = .ok (.imul, 1) := dt_of DA_X1_sizeInCathedrals_0 14 rfl
theorem dX1_sizeInCathedrals_26 : decode cX1_sizeInCathedrals 26 = .ok (.ireturn, 1) := dt_of DA_X1_sizeInCathedrals_0 15 rfl
theorem dX1_sizeInCathedrals_27 : decode cX1_sizeInCathedrals 27 = .ok (.aload_n 0, 1) := dt_of DA_X1_sizeInCathedrals_0 16 rfl
theorem dX1_sizeInCathedrals_28 : decode cX1_sizeInCathedrals 28 = .ok (.iload_n 1, 1) := dt_of DA_X1_sizeInCathedrals_0 17 rfl
theorem dX1_sizeInCathedrals_29 : decode cX1_sizeInCathedrals 29 = .ok (.invokevirtual 54, 3) := dt_of DA_X1_sizeInCathedrals_0 18 rfl
theorem dX1_sizeInCathedrals_32 : decode cX1_sizeInCathedrals 32 = .ok (.ireturn, 1) := dt_of DA_X1_sizeInCathedrals_0 19 rfl
def DT_X1_cathedralSize_0 : List (Nat × Instr × Nat) := [(0, .aload_n 0, 1), (1, .bipush 13, 2), (3, .invokevirtual 47, 3), (6, .aload_n 0, 1), (7, .iload_n 1, 1), (8, .invokevirtual 35, 3), (11, .bipush 100, 2), (13, .isub, 1), (14, .ireturn, 1)]
theorem DA_X1_cathedralSize_0 : DT_X1_cathedralSize_0.all (dtf cX1_cathedralSize) = true := by decide +kernel
theorem dX1_cathedralSize_0 : decode cX1_cathedralSize 0 = .ok (.aload_n 0, 1) := dt_of DA_X1_cathedralSize_0 0 rfl
theorem dX1_cathedralSize_1 : decode cX1_cathedralSize 1 = .ok (.bipush 13, 2) := dt_of DA_X1_cathedralSize_0 1 rfl
theorem dX1_cathedralSize_3 : decode cX1_cathedralSize 3 = .ok (.invokevirtual 47, 3) := dt_of DA_X1_cathedralSize_0 2 rfl
theorem dX1_cathedralSize_6 : decode cX1_cathedralSize 6 = .ok (.aload_n 0, 1) := dt_of DA_X1_cathedralSize_0 3 rfl
theorem dX1_cathedralSize_7 : decode cX1_cathedralSize 7 = .ok (.iload_n 1, 1) := dt_of DA_X1_cathedralSize_0 4 rfl
theorem dX1_cathedralSize_8 : decode cX1_cathedralSize 8 = .ok (.invokevirtual 35, 3) := dt_of DA_X1_cathedralSize_0 5 rfl
theorem dX1_cathedralSize_11 : decode cX1_cathedralSize 11 = .ok (.bipush 100, 2) := dt_of DA_X1_cathedralSize_0 6 rfl
theorem dX1_cathedralSize_13 : decode cX1_cathedralSize 13 = .ok (.isub, 1) := dt_of DA_X1_cathedralSize_0 7 rfl
theorem dX1_cathedralSize_14 : decode cX1_cathedralSize 14 = .ok (.ireturn, 1) := dt_of DA_X1_cathedralSize_0 8 rfl
def DT_X1_lentSize_0 : List (Nat × Instr × Nat) := [(0, .aload_n 0, 1), (1, .bipush 10, 2), (3, .invokevirtual 47, 3), (6, .aload_n 0, 1), (7, .getfield 15, 3), (10, .getfield 57, 3), (13, .iload_n 1, 1), (14, .iaload, 1), (15, .ireturn, 1)]
theorem DA_X1_lentSize_0 : DT_X1_lentSize_0.all (dtf cX1_lentSize) = true := by decide +kernel
theorem dX1_lentSize_0 : decode cX1_lentSize 0 = .ok (.aload_n 0, 1) := dt_of DA_X1_lentSize_0 0 rfl
theorem dX1_lentSize_1 : decode cX1_lentSize 1 = .ok (.bipush 10, 2) := dt_of DA_X1_lentSize_0 1 rfl
theorem dX1_lentSize_3 : decode cX1_lentSize 3 = .ok (.invokevirtual 47, 3) := dt_of DA_X1_lentSize_0 2 rfl
theorem dX1_lentSize_6 : decode cX1_lentSize 6 = .ok (.aload_n 0, 1) := dt_of DA_X1_lentSize_0 3 rfl
theorem dX1_lentSize_7 : decode cX1_lentSize 7 = .ok (.getfield 15, 3) := dt_of DA_X1_lentSize_0 4 rfl
theorem dX1_lentSize_10 : decode cX1_lentSize 10 = .ok (.getfield 57, 3) := dt_of DA_X1_lentSize_0 5 rfl
theorem dX1_lentSize_13 : decode cX1_lentSize 13 = .ok (.iload_n 1, 1) := dt_of DA_X1_lentSize_0 6 rfl
theorem dX1_lentSize_14 : decode cX1_lentSize 14 = .ok (.iaload, 1) := dt_of DA_X1_lentSize_0 7 rfl
theorem dX1_lentSize_15 : decode cX1_lentSize 15 = .ok (.ireturn, 1) := dt_of DA_X1_lentSize_0 8 rfl
def DT_X1_markInParishes_0 : List (Nat × Instr × Nat) := [(0, .aload_n 0, 1), (1, .getfield 15, 3), (4, .getfield 19, 3), (7, .iload_n 1, 1), (8, .iaload, 1), (9, .iconst 3, 1), (10, .if_icmp .ne 19, 3), (13, .aload_n 0, 1), (14, .bipush 22, 2), (16, .invokevirtual 47, 3), (19, .aload_n 0, 1), (20, .iload_n 1, 1), (21, .invokevirtual 60, 3), (24, .sipush 1000, 3), (27, .isub, 1), (28, .ireturn, 1), (29, .aload_n 0, 1), (30, .getfield 15, 3), (33, .getfield 19, 3), (36, .iload_n 1, 1), (37, .iaload, 1), (38, .iconst 2, 1), (39, .if_icmp .ne 17, 3), (42, .aload_n 0, 1), (43, .bipush 24, 2), (45, .invokevirtual 47, 3), (48, .iconst 2, 1), (49, .aload_n 0, 1), (50, .iload_n 1, 1), (51, .invokevirtual 60, 3), (54, .imul, 1), (55, .ireturn, 1), (56, .aload_n 0, 1), (57, .iload_n 1, 1), (58, .invokevirtual 60, 3), (61, .ireturn, 1)]
theorem DA_X1_markInParishes_0 : DT_X1_markInParishes_0.all (dtf cX1_markInParishes) = true := by decide +kernel
theorem dX1_markInParishes_0 : decode cX1_markInParishes 0 = .ok (.aload_n 0, 1) := dt_of DA_X1_markInParishes_0 0 rfl
theorem dX1_markInParishes_1 : decode cX1_markInParishes 1 = .ok (.getfield 15, 3) := dt_of DA_X1_markInParishes_0 1 rfl
theorem dX1_markInParishes_4 : decode cX1_markInParishes 4 = .ok (.getfield 19, 3) := dt_of DA_X1_markInParishes_0 2 rfl
theorem dX1_markInParishes_7 : decode cX1_markInParishes 7 = .ok (.iload_n 1, 1) := dt_of DA_X1_markInParishes_0 3 rfl
theorem dX1_markInParishes_8 : decode cX1_markInParishes 8 = .ok (.iaload, 1) := dt_of DA_X1_markInParishes_0 4 rfl
theorem dX1_markInParishes_9 : decode cX1_markInParishes 9 = .ok (.iconst 3, 1) := dt_of DA_X1_markInParishes_0 5 rfl
theorem dX1_markInParishes_10 : decode cX1_markInParishes 10 = .ok (.if_icmp .ne 19, 3) := dt_of DA_X1_markInParishes_0 6 rfl
theorem dX1_markInParishes_13 : decode cX1_markInParishes 13 = .ok (.aload_n 0, 1) := dt_of DA_X1_markInParishes_0 7 rfl
theorem dX1_markInParishes_14 : decode cX1_markInParishes 14 = .ok (.bipush 22, 2) := dt_of DA_X1_markInParishes_0 8 rfl
theorem dX1_markInParishes_16 : decode cX1_markInParishes 16 = .ok (.invokevirtual 47, 3) := dt_of DA_X1_markInParishes_0 9 rfl
theorem dX1_markInParishes_19 : decode cX1_markInParishes 19 = .ok (.aload_n 0, 1) := dt_of DA_X1_markInParishes_0 10 rfl
theorem dX1_markInParishes_20 : decode cX1_markInParishes 20 = .ok (.iload_n 1, 1) := dt_of DA_X1_markInParishes_0 11 rfl
theorem dX1_markInParishes_21 : decode cX1_markInParishes 21 = .ok (.invokevirtual 60, 3) := dt_of DA_X1_markInParishes_0 12 rfl
theorem dX1_markInParishes_24 : decode cX1_markInParishes 24 = .ok (.sipush 1000, 3) := dt_of DA_X1_markInParishes_0 13 rfl
theorem dX1_markInParishes_27 : decode cX1_markInParishes 27 = .ok (.isub, 1) := dt_of DA_X1_markInParishes_0 14 rfl
theorem dX1_markInParishes_28 : decode cX1_markInParishes 28 = .ok (.ireturn, 1) := dt_of DA_X1_markInParishes_0 15 rfl
theorem dX1_markInParishes_29 : decode cX1_markInParishes 29 = .ok (.aload_n 0, 1) := dt_of DA_X1_markInParishes_0 16 rfl
theorem dX1_markInParishes_30 : decode cX1_markInParishes 30 = .ok (.getfield 15, 3) := dt_of DA_X1_markInParishes_0 17 rfl
theorem dX1_markInParishes_33 : decode cX1_markInParishes 33 = .ok (.getfield 19, 3) := dt_of DA_X1_markInParishes_0 18 rfl
theorem dX1_markInParishes_36 : decode cX1_markInParishes 36 = .ok (.iload_n 1, 1) := dt_of DA_X1_markInParishes_0 19 rfl
theorem dX1_markInParishes_37 : decode cX1_markInParishes 37 = .ok (.iaload, 1) := dt_of DA_X1_markInParishes_0 20 rfl
theorem dX1_markInParishes_38 : decode cX1_markInParishes 38 = .ok (.iconst 2, 1) := dt_of DA_X1_markInParishes_0 21 rfl
theorem dX1_markInParishes_39 : decode cX1_markInParishes 39 = .ok (.if_icmp .ne 17, 3) := dt_of DA_X1_markInParishes_0 22 rfl
theorem dX1_markInParishes_42 : decode cX1_markInParishes 42 = .ok (.aload_n 0, 1) := dt_of DA_X1_markInParishes_0 23 rfl
theorem dX1_markInParishes_43 : decode cX1_markInParishes 43 = .ok (.bipush 24, 2) := dt_of DA_X1_markInParishes_0 24 rfl
theorem dX1_markInParishes_45 : decode cX1_markInParishes 45 = .ok (.invokevirtual 47, 3) := dt_of DA_X1_markInParishes_0 25 rfl
theorem dX1_markInParishes_48 : decode cX1_markInParishes 48 = .ok (.iconst 2, 1) := dt_of DA_X1_markInParishes_0 26 rfl
theorem dX1_markInParishes_49 : decode cX1_markInParishes 49 = .ok (.aload_n 0, 1) := dt_of DA_X1_markInParishes_0 27 rfl
theorem dX1_markInParishes_50 : decode cX1_markInParishes 50 = .ok (.iload_n 1, 1) := dt_of DA_X1_markInParishes_0 28 rfl
theorem dX1_markInParishes_51 : decode cX1_markInParishes 51 = .ok (.invokevirtual 60, 3) := dt_of DA_X1_markInParishes_0 29 rfl
theorem dX1_markInParishes_54 : decode cX1_markInParishes 54 = .ok (.imul, 1) := dt_of DA_X1_markInParishes_0 30 rfl
theorem dX1_markInParishes_55 : decode cX1_markInParishes 55 = .ok (.ireturn, 1) := dt_of DA_X1_markInParishes_0 31 rfl
theorem dX1_markInParishes_56 : decode cX1_markInParishes 56 = .ok (.aload_n 0, 1) := dt_of DA_X1_markInParishes_0 32 rfl
theorem dX1_markInParishes_57 : decode cX1_markInParishes 57 = .ok (.iload_n 1, 1) := dt_of DA_X1_markInParishes_0 33 rfl
theorem dX1_markInParishes_58 : decode cX1_markInParishes 58 = .ok (.invokevirtual 60, 3) := dt_of DA_X1_markInParishes_0 34 rfl
theorem dX1_markInParishes_61 : decode cX1_markInParishes 61 = .ok (.ireturn, 1) := dt_of DA_X1_markInParishes_0 35 rfl
def DT_X1_parishMark_0 : List (Nat × Instr × Nat) := [(0, .aload_n 0, 1), (1, .bipush 21, 2), (3, .invokevirtual 47, 3), (6, .aload_n 0, 1), (7, .iload_n 1, 1), (8, .invokevirtual 44, 3), (11, .aload_n 0, 1), (12, .getfield 15, 3), (15, .iload_n 1, 1), (16, .invokevirtual 63, 3), (19, .iadd, 1), (20, .ireturn, 1)]
theorem DA_X1_parishMark_0 : DT_X1_parishMark_0.all (dtf cX1_parishMark) = true := by decide +kernel
theorem dX1_parishMark_0 : decode cX1_parishMark 0 = .ok (.aload_n 0, 1) := dt_of DA_X1_parishMark_0 0 rfl
theorem dX1_parishMark_1 : decode cX1_parishMark 1 = .ok (.bipush 21, 2) := dt_of DA_X1_parishMark_0 1 rfl
theorem dX1_parishMark_3 : decode cX1_parishMark 3 = .ok (.invokevirtual 47, 3) := dt_of DA_X1_parishMark_0 2 rfl
theorem dX1_parishMark_6 : decode cX1_parishMark 6 = .ok (.aload_n 0, 1) := dt_of DA_X1_parishMark_0 3 rfl
theorem dX1_parishMark_7 : decode cX1_parishMark 7 = .ok (.iload_n 1, 1) := dt_of DA_X1_parishMark_0 4 rfl
theorem dX1_parishMark_8 : decode cX1_parishMark 8 = .ok (.invokevirtual 44, 3) := dt_of DA_X1_parishMark_0 5 rfl
theorem dX1_parishMark_11 : decode cX1_parishMark 11 = .ok (.aload_n 0, 1) := dt_of DA_X1_parishMark_0 6 rfl
theorem dX1_parishMark_12 : decode cX1_parishMark 12 = .ok (.getfield 15, 3) := dt_of DA_X1_parishMark_0 7 rfl
theorem dX1_parishMark_15 : decode cX1_parishMark 15 = .ok (.iload_n 1, 1) := dt_of DA_X1_parishMark_0 8 rfl
theorem dX1_parishMark_16 : decode cX1_parishMark 16 = .ok (.invokevirtual 63, 3) := dt_of DA_X1_parishMark_0 9 rfl
theorem dX1_parishMark_19 : decode cX1_parishMark 19 = .ok (.iadd, 1) := dt_of DA_X1_parishMark_0 10 rfl
theorem dX1_parishMark_20 : decode cX1_parishMark 20 = .ok (.ireturn, 1) := dt_of DA_X1_parishMark_0 11 rfl
def DT_X1_cathedralMark_0 : List (Nat × Instr × Nat) := [(0, .aload_n 0, 1), (1, .bipush 23, 2), (3, .invokevirtual 47, 3), (6, .aload_n 0, 1), (7, .iload_n 1, 1), (8, .invokevirtual 44, 3), (11, .istore_n 2, 1), (12, .iload_n 2, 1), (13, .aload_n 0, 1), (14, .iload_n 1, 1), (15, .invokevirtual 32, 3), (18, .isub, 1), (19, .ireturn, 1)]
theorem DA_X1_cathedralMark_0 : DT_X1_cathedralMark_0.all (dtf cX1_cathedralMark) = true := by decide +kernel
theorem dX1_cathedralMark_0 : decode cX1_cathedralMark 0 = .ok (.aload_n 0, 1) := dt_of DA_X1_cathedralMark_0 0 rfl
theorem dX1_cathedralMark_1 : decode cX1_cathedralMark 1 = .ok (.bipush 23, 2) := dt_of DA_X1_cathedralMark_0 1 rfl
theorem dX1_cathedralMark_3 : decode cX1_cathedralMark 3 = .ok (.invokevirtual 47, 3) := dt_of DA_X1_cathedralMark_0 2 rfl
theorem dX1_cathedralMark_6 : decode cX1_cathedralMark 6 = .ok (.aload_n 0, 1) := dt_of DA_X1_cathedralMark_0 3 rfl
theorem dX1_cathedralMark_7 : decode cX1_cathedralMark 7 = .ok (.iload_n 1, 1) := dt_of DA_X1_cathedralMark_0 4 rfl
theorem dX1_cathedralMark_8 : decode cX1_cathedralMark 8 = .ok (.invokevirtual 44, 3) := dt_of DA_X1_cathedralMark_0 5 rfl
theorem dX1_cathedralMark_11 : decode cX1_cathedralMark 11 = .ok (.istore_n 2, 1) := dt_of DA_X1_cathedralMark_0 6 rfl
theorem dX1_cathedralMark_12 : decode cX1_cathedralMark 12 = .ok (.iload_n 2, 1) := dt_of DA_X1_cathedralMark_0 7 rfl
theorem dX1_cathedralMark_13 : decode cX1_cathedralMark 13 = .ok (.aload_n 0, 1) := dt_of DA_X1_cathedralMark_0 8 rfl
theorem dX1_cathedralMark_14 : decode cX1_cathedralMark 14 = .ok (.iload_n 1, 1) := dt_of DA_X1_cathedralMark_0 9 rfl
theorem dX1_cathedralMark_15 : decode cX1_cathedralMark 15 = .ok (.invokevirtual 32, 3) := dt_of DA_X1_cathedralMark_0 10 rfl
theorem dX1_cathedralMark_18 : decode cX1_cathedralMark 18 = .ok (.isub, 1) := dt_of DA_X1_cathedralMark_0 11 rfl
theorem dX1_cathedralMark_19 : decode cX1_cathedralMark 19 = .ok (.ireturn, 1) := dt_of DA_X1_cathedralMark_0 12 rfl
def DT_X1_lentMark_0 : List (Nat × Instr × Nat) := [(0, .aload_n 0, 1), (1, .bipush 20, 2), (3, .invokevirtual 47, 3), (6, .iload_n 1, 1), (7, .ireturn, 1)]
theorem DA_X1_lentMark_0 : DT_X1_lentMark_0.all (dtf cX1_lentMark) = true := by decide +kernel
theorem dX1_lentMark_0 : decode cX1_lentMark 0 = .ok (.aload_n 0, 1) := dt_of DA_X1_lentMark_0 0 rfl
theorem dX1_lentMark_1 : decode cX1_lentMark 1 = .ok (.bipush 20, 2) := dt_of DA_X1_lentMark_0 1 rfl
theorem dX1_lentMark_3 : decode cX1_lentMark 3 = .ok (.invokevirtual 47, 3) := dt_of DA_X1_lentMark_0 2 rfl
theorem dX1_lentMark_6 : decode cX1_lentMark 6 = .ok (.iload_n 1, 1) := dt_of DA_X1_lentMark_0 3 rfl
theorem dX1_lentMark_7 : decode cX1_lentMark 7 = .ok (.ireturn, 1) := dt_of DA_X1_lentMark_0 4 rfl
def DT_X1_begin_0 : List (Nat × Instr × Nat) := [(0, .aload_n 0, 1), (1, .getfield 66, 3), (4, .bipush 16, 2), (6, .if_icmp .ge 23, 3), (9, .aload_n 0, 1), (10, .getfield 9, 3), (13, .aload_n 0, 1), (14, .getfield 66, 3), (17, .iload_n 1, 1), (18, .iastore, 1), (19, .aload_n 0, 1), (20, .dup, 1), (21, .getfield 66, 3), (24, .iconst 1, 1), (25, .iadd, 1), (26, .putfield 66, 3), (29, .return_, 1)]
theorem DA_X1_begin_0 : DT_X1_begin_0.all (dtf cX1_begin) = true := by decide +kernel
theorem dX1_begin_0 : decode cX1_begin 0 = .ok (.aload_n 0, 1) := dt_of DA_X1_begin_0 0 rfl
theorem dX1_begin_1 : decode cX1_begin 1 = .ok (.getfield 66, 3) := dt_of DA_X1_begin_0 1 rfl
theorem dX1_begin_4 : decode cX1_begin 4 = .ok (.bipush 16, 2) := dt_of DA_X1_begin_0 2 rfl
theorem dX1_begin_6 : decode cX1_begin 6 = .ok (.if_icmp .ge 23, 3) := dt_of DA_X1_begin_0 3 rfl
theorem dX1_begin_9 : decode cX1_begin 9 = .ok (.aload_n 0, 1) := dt_of DA_X1_begin_0 4 rfl
theorem dX1_begin_10 : decode cX1_begin 10 = .ok (.getfield 9, 3) := dt_of DA_X1_begin_0 5 rfl
theorem dX1_begin_13 : decode cX1_begin 13 = .ok (.aload_n 0, 1) := dt_of DA_X1_begin_0 6 rfl
theorem dX1_begin_14 : decode cX1_begin 14 = .ok (.getfield 66, 3) := dt_of DA_X1_begin_0 7 rfl
theorem dX1_begin_17 : decode cX1_begin 17 = .ok (.iload_n 1, 1) := dt_of DA_X1_begin_0 8 rfl
theorem dX1_begin_18 : decode cX1_begin 18 = .ok (.iastore, 1) := dt_of DA_X1_begin_0 9 rfl
theorem dX1_begin_19 : decode cX1_begin 19 = .ok (.aload_n 0, 1) := dt_of DA_X1_begin_0 10 rfl
theorem dX1_begin_20 : decode cX1_begin 20 = .ok (.dup, 1) := dt_of DA_X1_begin_0 11 rfl
theorem dX1_begin_21 : decode cX1_begin 21 = .ok (.getfield 66, 3) := dt_of DA_X1_begin_0 12 rfl
theorem dX1_begin_24 : decode cX1_begin 24 = .ok (.iconst 1, 1) := dt_of DA_X1_begin_0 13 rfl
theorem dX1_begin_25 : decode cX1_begin 25 = .ok (.iadd, 1) := dt_of DA_X1_begin_0 14 rfl
theorem dX1_begin_26 : decode cX1_begin 26 = .ok (.putfield 66, 3) := dt_of DA_X1_begin_0 15 rfl
theorem dX1_begin_29 : decode cX1_begin 29 = .ok (.return_, 1) := dt_of DA_X1_begin_0 16 rfl
def DT_X2_init_0 : List (Nat × Instr × Nat) := [(0, .aload_n 0, 1), (1, .invokespecial 3, 3), (4, .aload_n 0, 1), (5, .bipush 6, 2), (7, .newarray .int, 2), (9, .putfield 9, 3), (12, .aload_n 0, 1), (13, .bipush 6, 2), (15, .newarray .int, 2), (17, .putfield 15, 3), (20, .return_, 1)]
theorem DA_X2_init_0 : DT_X2_init_0.all (dtf cX2_init) = true := by decide +kernel
theorem dX2_init_0 : decode cX2_init 0 = .ok (.aload_n 0, 1) := dt_of DA_X2_init_0 0 rfl
theorem dX2_init_1 : decode cX2_init 1 = .ok (.invokespecial 3, 3) := dt_of DA_X2_init_0 1 rfl
theorem dX2_init_4 : decode cX2_init 4 = .ok (.aload_n 0, 1) := dt_of DA_X2_init_0 2 rfl
theorem dX2_init_5 : decode cX2_init 5 = .ok (.bipush 6, 2) := dt_of DA_X2_init_0 3 rfl
theorem dX2_init_7 : decode cX2_init 7 = .ok (.newarray .int, 2) := dt_of DA_X2_init_0 4 rfl
theorem dX2_init_9 : decode cX2_init 9 = .ok (.putfield 9, 3) := dt_of DA_X2_init_0 5 rfl
theorem dX2_init_12 : decode cX2_init 12 = .ok (.aload_n 0, 1) := dt_of DA_X2_init_0 6 rfl
theorem dX2_init_13 : decode cX2_init 13 = .ok (.bipush 6, 2) := dt_of DA_X2_init_0 7 rfl
theorem dX2_init_15 : decode cX2_init 15 = .ok (.newarray .int, 2) := dt_of DA_X2_init_0 8 rfl
theorem dX2_init_17 : decode cX2_init 17 = .ok (.putfield 15, 3) := dt_of DA_X2_init_0 9 rfl
theorem dX2_init_20 : decode cX2_init 20 = .ok (.return_, 1) := dt_of DA_X2_init_0 10 rfl
def DT_X2_pass_0 : List (Nat × Instr × Nat) := [(0, .aload_n 0, 1), (1, .aload_n 1, 1), (2, .iload_n 2, 1), (3, .invokevirtual 18, 3), (6, .iconst 0, 1), (7, .istore_n 3, 1), (8, .iload_n 3, 1), (9, .aload_n 1, 1), (10, .getfield 22, 3), (13, .if_icmp .ge 15, 3), (16, .aload_n 0, 1), (17, .aload_n 1, 1), (18, .iload_n 3, 1), (19, .invokevirtual 28, 3), (22, .iinc 3 1, 3), (25, .goto (-17), 3), (28, .iconst 0, 1), (29, .istore_n 3, 1), (30, .iload_n 3, 1), (31, .aload_n 1, 1), (32, .getfield 22, 3), (35, .if_icmp .ge 34, 3), (38, .aload_n 1, 1), (39, .getfield 31, 3), (42, .iload_n 3, 1), (43, .sipush 9999, 3), (46, .aload_n 1, 1), (47, .getfield 31, 3), (50, .iload_n 3, 1), (51, .iaload, 1), (52, .aload_n 0, 1), (53, .getfield 15, 3), (56, .iload_n 3, 1), (57, .iaload, 1), (58, .iadd, 1), (59, .invokestatic 34, 3), (62, .iastore, 1), (63, .iinc 3 1, 3), (66, .goto (-36), 3), (69, .iconst 0, 1), (70, .istore_n 3, 1), (71, .iload_n 3, 1), (72, .aload_n 1, 1), (73, .getfield 22, 3), (76, .if_icmp .ge 15, 3), (79, .aload_n 0, 1), (80, .aload_n 1, 1), (81, .iload_n 3, 1), (82, .invokevirtual 40, 3), (85, .iinc 3 1, 3), (88, .goto (-17), 3), (91, .aload_n 1, 1), (92, .dup, 1), (93, .getfield 43, 3), (96, .iconst 1, 1), (97, .iadd, 1), (98, .putfield 43, 3), (101, .return_, 1)]
theorem DA_X2_pass_0 : DT_X2_pass_0.all (dtf cX2_pass) = true := by decide +kernel
theorem dX2_pass_0 : decode cX2_pass 0 = .ok (.aload_n 0, 1) := dt_of DA_X2_pass_0 0 rfl
theorem dX2_pass_1 : decode cX2_pass 1 = .ok (.aload_n 1, 1) := dt_of DA_X2_pass_0 1 rfl
theorem dX2_pass_2 : decode cX2_pass 2 = .ok (.iload_n 2, 1) := dt_of DA_X2_pass_0 2 rfl
theorem dX2_pass_3 : decode cX2_pass 3 = .ok (.invokevirtual 18, 3) := dt_of DA_X2_pass_0 3 rfl
theorem dX2_pass_6 : decode cX2_pass 6 = .ok (.iconst 0, 1) := dt_of DA_X2_pass_0 4 rfl
theorem dX2_pass_7 : decode cX2_pass 7 = .ok (.istore_n 3, 1) := dt_of DA_X2_pass_0 5 rfl
theorem dX2_pass_8 : decode cX2_pass 8 = .ok (.iload_n 3, 1) := dt_of DA_X2_pass_0 6 rfl
theorem dX2_pass_9 : decode cX2_pass 9 = .ok (.aload_n 1, 1) := dt_of DA_X2_pass_0 7 rfl
theorem dX2_pass_10 : decode cX2_pass 10 = .ok (.getfield 22, 3) := dt_of DA_X2_pass_0 8 rfl
theorem dX2_pass_13 : decode cX2_pass 13 = .ok (.if_icmp .ge 15, 3) := dt_of DA_X2_pass_0 9 rfl
theorem dX2_pass_16 : decode cX2_pass 16 = .ok (.aload_n 0, 1) := dt_of DA_X2_pass_0 10 rfl
theorem dX2_pass_17 : decode cX2_pass 17 = .ok (.aload_n 1, 1) := dt_of DA_X2_pass_0 11 rfl
theorem dX2_pass_18 : decode cX2_pass 18 = .ok (.iload_n 3, 1) := dt_of DA_X2_pass_0 12 rfl
theorem dX2_pass_19 : decode cX2_pass 19 = .ok (.invokevirtual 28, 3) := dt_of DA_X2_pass_0 13 rfl
theorem dX2_pass_22 : decode cX2_pass 22 = .ok (.iinc 3 1, 3) := dt_of DA_X2_pass_0 14 rfl
theorem dX2_pass_25 : decode cX2_pass 25 = .ok (.goto (-17), 3) := dt_of DA_X2_pass_0 15 rfl
theorem dX2_pass_28 : decode cX2_pass 28 = .ok (.iconst 0, 1) := dt_of DA_X2_pass_0 16 rfl
theorem dX2_pass_29 : decode cX2_pass 29 = .ok (.istore_n 3, 1) := dt_of DA_X2_pass_0 17 rfl
theorem dX2_pass_30 : decode cX2_pass 30 = .ok (.iload_n 3, 1) := dt_of DA_X2_pass_0 18 rfl
theorem dX2_pass_31 : decode cX2_pass 31 = .ok (.aload_n 1, 1) := dt_of DA_X2_pass_0 19 rfl
theorem dX2_pass_32 : decode cX2_pass 32 = .ok (.getfield 22, 3) := dt_of DA_X2_pass_0 20 rfl
theorem dX2_pass_35 : decode cX2_pass 35 = .ok (.if_icmp .ge 34, 3) := dt_of DA_X2_pass_0 21 rfl
theorem dX2_pass_38 : decode cX2_pass 38 = .ok (.aload_n 1, 1) := dt_of DA_X2_pass_0 22 rfl
theorem dX2_pass_39 : decode cX2_pass 39 = .ok (.getfield 31, 3) := dt_of DA_X2_pass_0 23 rfl
theorem dX2_pass_42 : decode cX2_pass 42 = .ok (.iload_n 3, 1) := dt_of DA_X2_pass_0 24 rfl
theorem dX2_pass_43 : decode cX2_pass 43 = .ok (.sipush 9999, 3) := dt_of DA_X2_pass_0 25 rfl
theorem dX2_pass_46 : decode cX2_pass 46 = .ok (.aload_n 1, 1) := dt_of DA_X2_pass_0 26 rfl
theorem dX2_pass_47 : decode cX2_pass 47 = .ok (.getfield 31, 3) := dt_of DA_X2_pass_0 27 rfl
theorem dX2_pass_50 : decode cX2_pass 50 = .ok (.iload_n 3, 1) := dt_of DA_X2_pass_0 28 rfl
theorem dX2_pass_51 : decode cX2_pass 51 = .ok (.iaload, 1) := dt_of DA_X2_pass_0 29 rfl
theorem dX2_pass_52 : decode cX2_pass 52 = .ok (.aload_n 0, 1) := dt_of DA_X2_pass_0 30 rfl
theorem dX2_pass_53 : decode cX2_pass 53 = .ok (.getfield 15, 3) := dt_of DA_X2_pass_0 31 rfl
theorem dX2_pass_56 : decode cX2_pass 56 = .ok (.iload_n 3, 1) := dt_of DA_X2_pass_0 32 rfl
theorem dX2_pass_57 : decode cX2_pass 57 = .ok (.iaload, 1) := dt_of DA_X2_pass_0 33 rfl
theorem dX2_pass_58 : decode cX2_pass 58 = .ok (.iadd, 1) := dt_of DA_X2_pass_0 34 rfl
theorem dX2_pass_59 : decode cX2_pass 59 = .ok (.invokestatic 34, 3) := dt_of DA_X2_pass_0 35 rfl
theorem dX2_pass_62 : decode cX2_pass 62 = .ok (.iastore, 1) := dt_of DA_X2_pass_0 36 rfl
theorem dX2_pass_63 : decode cX2_pass 63 = .ok (.iinc 3 1, 3) := dt_of DA_X2_pass_0 37 rfl
theorem dX2_pass_66 : decode cX2_pass 66 = .ok (.goto (-36), 3) := dt_of DA_X2_pass_0 38 rfl
theorem dX2_pass_69 : decode cX2_pass 69 = .ok (.iconst 0, 1) := dt_of DA_X2_pass_0 39 rfl
theorem dX2_pass_70 : decode cX2_pass 70 = .ok (.istore_n 3, 1) := dt_of DA_X2_pass_0 40 rfl
theorem dX2_pass_71 : decode cX2_pass 71 = .ok (.iload_n 3, 1) := dt_of DA_X2_pass_0 41 rfl
theorem dX2_pass_72 : decode cX2_pass 72 = .ok (.aload_n 1, 1) := dt_of DA_X2_pass_0 42 rfl
theorem dX2_pass_73 : decode cX2_pass 73 = .ok (.getfield 22, 3) := dt_of DA_X2_pass_0 43 rfl
theorem dX2_pass_76 : decode cX2_pass 76 = .ok (.if_icmp .ge 15, 3) := dt_of DA_X2_pass_0 44 rfl
theorem dX2_pass_79 : decode cX2_pass 79 = .ok (.aload_n 0, 1) := dt_of DA_X2_pass_0 45 rfl
theorem dX2_pass_80 : decode cX2_pass 80 = .ok (.aload_n 1, 1) := dt_of DA_X2_pass_0 46 rfl
theorem dX2_pass_81 : decode cX2_pass 81 = .ok (.iload_n 3, 1) := dt_of DA_X2_pass_0 47 rfl
theorem dX2_pass_82 : decode cX2_pass 82 = .ok (.invokevirtual 40, 3) := dt_of DA_X2_pass_0 48 rfl
theorem dX2_pass_85 : decode cX2_pass 85 = .ok (.iinc 3 1, 3) := dt_of DA_X2_pass_0 49 rfl
theorem dX2_pass_88 : decode cX2_pass 88 = .ok (.goto (-17), 3) := dt_of DA_X2_pass_0 50 rfl
theorem dX2_pass_91 : decode cX2_pass 91 = .ok (.aload_n 1, 1) := dt_of DA_X2_pass_0 51 rfl
theorem dX2_pass_92 : decode cX2_pass 92 = .ok (.dup, 1) := dt_of DA_X2_pass_0 52 rfl
theorem dX2_pass_93 : decode cX2_pass 93 = .ok (.getfield 43, 3) := dt_of DA_X2_pass_0 53 rfl
theorem dX2_pass_96 : decode cX2_pass 96 = .ok (.iconst 1, 1) := dt_of DA_X2_pass_0 54 rfl
theorem dX2_pass_97 : decode cX2_pass 97 = .ok (.iadd, 1) := dt_of DA_X2_pass_0 55 rfl
theorem dX2_pass_98 : decode cX2_pass 98 = .ok (.putfield 43, 3) := dt_of DA_X2_pass_0 56 rfl
theorem dX2_pass_101 : decode cX2_pass 101 = .ok (.return_, 1) := dt_of DA_X2_pass_0 57 rfl
def DT_X2_measure_0 : List (Nat × Instr × Nat) := [(0, .iconst 0, 1), (1, .istore_n 3, 1), (2, .iload_n 3, 1), (3, .aload_n 1, 1), (4, .getfield 22, 3), (7, .if_icmp .ge 66, 3), (10, .iload_n 2, 1), (11, .iload_n 3, 1), (12, .ishr, 1), (13, .iconst 1, 1), (14, .iand, 1), (15, .iconst 1, 1), (16, .if_icmp .ne 7, 3), (19, .iconst 0, 1), (20, .goto 8, 3), (23, .aload_n 1, 1), (24, .iload_n 3, 1), (25, .invokevirtual 46, 3), (28, .istore 4, 2), (30, .aload_n 1, 1), (31, .iload_n 3, 1), (32, .invokevirtual 50, 3), (35, .istore 5, 2), (37, .aload_n 0, 1), (38, .getfield 9, 3), (41, .iload_n 3, 1), (42, .iconst 0, 1), (43, .iload 4, 2), (45, .iload 5, 2), (47, .isub, 1), (48, .invokestatic 53, 3), (51, .iastore, 1), (52, .aload_n 0, 1), (53, .getfield 15, 3), (56, .iload_n 3, 1), (57, .iconst 0, 1), (58, .iload 5, 2), (60, .iload 4, 2), (62, .isub, 1), (63, .invokestatic 53, 3), (66, .iastore, 1), (67, .iinc 3 1, 3), (70, .goto (-68), 3), (73, .return_, 1)]
theorem DA_X2_measure_0 : DT_X2_measure_0.all (dtf cX2_measure) = true := by decide +kernel
theorem dX2_measure_0 : decode cX2_measure 0 = .ok (.iconst 0, 1) := dt_of DA_X2_measure_0 0 rfl
theorem dX2_measure_1 : decode cX2_measure 1 = .ok (.istore_n 3, 1) := dt_of DA_X2_measure_0 1 rfl
theorem dX2_measure_2 : decode cX2_measure 2 = .ok (.iload_n 3, 1) := dt_of DA_X2_measure_0 2 rfl
theorem dX2_measure_3 : decode cX2_measure 3 = .ok (.aload_n 1, 1) := dt_of DA_X2_measure_0 3 rfl
theorem dX2_measure_4 : decode cX2_measure 4 = .ok (.getfield 22, 3) := dt_of DA_X2_measure_0 4 rfl
theorem dX2_measure_7 : decode cX2_measure 7 = .ok (.if_icmp .ge 66, 3) := dt_of DA_X2_measure_0 5 rfl
theorem dX2_measure_10 : decode cX2_measure 10 = .ok (.iload_n 2, 1) := dt_of DA_X2_measure_0 6 rfl
theorem dX2_measure_11 : decode cX2_measure 11 = .ok (.iload_n 3, 1) := dt_of DA_X2_measure_0 7 rfl
theorem dX2_measure_12 : decode cX2_measure 12 = .ok (.ishr, 1) := dt_of DA_X2_measure_0 8 rfl
theorem dX2_measure_13 : decode cX2_measure 13 = .ok (.iconst 1, 1) := dt_of DA_X2_measure_0 9 rfl
theorem dX2_measure_14 : decode cX2_measure 14 = .ok (.iand, 1) := dt_of DA_X2_measure_0 10 rfl
theorem dX2_measure_15 : decode cX2_measure 15 = .ok (.iconst 1, 1) := dt_of DA_X2_measure_0 11 rfl
theorem dX2_measure_16 : decode cX2_measure 16 = .ok (.if_icmp .ne 7, 3) := dt_of DA_X2_measure_0 12 rfl
theorem dX2_measure_19 : decode cX2_measure 19 = .ok (.iconst 0, 1) := dt_of DA_X2_measure_0 13 rfl
theorem dX2_measure_20 : decode cX2_measure 20 = .ok (.goto 8, 3) := dt_of DA_X2_measure_0 14 rfl
theorem dX2_measure_23 : decode cX2_measure 23 = .ok (.aload_n 1, 1) := dt_of DA_X2_measure_0 15 rfl
theorem dX2_measure_24 : decode cX2_measure 24 = .ok (.iload_n 3, 1) := dt_of DA_X2_measure_0 16 rfl
theorem dX2_measure_25 : decode cX2_measure 25 = .ok (.invokevirtual 46, 3) := dt_of DA_X2_measure_0 17 rfl
theorem dX2_measure_28 : decode cX2_measure 28 = .ok (.istore 4, 2) := dt_of DA_X2_measure_0 18 rfl
theorem dX2_measure_30 : decode cX2_measure 30 = .ok (.aload_n 1, 1) := dt_of DA_X2_measure_0 19 rfl
theorem dX2_measure_31 : decode cX2_measure 31 = .ok (.iload_n 3, 1) := dt_of DA_X2_measure_0 20 rfl
theorem dX2_measure_32 : decode cX2_measure 32 = .ok (.invokevirtual 50, 3) := dt_of DA_X2_measure_0 21 rfl
theorem dX2_measure_35 : decode cX2_measure 35 = .ok (.istore 5, 2) := dt_of DA_X2_measure_0 22 rfl
theorem dX2_measure_37 : decode cX2_measure 37 = .ok (.aload_n 0, 1) := dt_of DA_X2_measure_0 23 rfl
theorem dX2_measure_38 : decode cX2_measure 38 = .ok (.getfield 9, 3) := dt_of DA_X2_measure_0 24 rfl
theorem dX2_measure_41 : decode cX2_measure 41 = .ok (.iload_n 3, 1) := dt_of DA_X2_measure_0 25 rfl
theorem dX2_measure_42 : decode cX2_measure 42 = .ok (.iconst 0, 1) := dt_of DA_X2_measure_0 26 rfl
theorem dX2_measure_43 : decode cX2_measure 43 = .ok (.iload 4, 2) := dt_of DA_X2_measure_0 27 rfl
theorem dX2_measure_45 : decode cX2_measure 45 = .ok (.iload 5, 2) := dt_of DA_X2_measure_0 28 rfl
theorem dX2_measure_47 : decode cX2_measure 47 = .ok (.isub, 1) := dt_of DA_X2_measure_0 29 rfl
theorem dX2_measure_48 : decode cX2_measure 48 = .ok (.invokestatic 53, 3) := dt_of DA_X2_measure_0 30 rfl
theorem dX2_measure_51 : decode cX2_measure 51 = .ok (.iastore, 1) := dt_of DA_X2_measure_0 31 rfl
theorem dX2_measure_52 : decode cX2_measure 52 = .ok (.aload_n 0, 1) := dt_of DA_X2_measure_0 32 rfl
theorem dX2_measure_53 : decode cX2_measure 53 = .ok (.getfield 15, 3) := dt_of DA_X2_measure_0 33 rfl
theorem dX2_measure_56 : decode cX2_measure 56 = .ok (.iload_n 3, 1) := dt_of DA_X2_measure_0 34 rfl
theorem dX2_measure_57 : decode cX2_measure 57 = .ok (.iconst 0, 1) := dt_of DA_X2_measure_0 35 rfl
theorem dX2_measure_58 : decode cX2_measure 58 = .ok (.iload 5, 2) := dt_of DA_X2_measure_0 36 rfl
theorem dX2_measure_60 : decode cX2_measure 60 = .ok (.iload 4, 2) := dt_of DA_X2_measure_0 37 rfl
theorem dX2_measure_62 : decode cX2_measure 62 = .ok (.isub, 1) := dt_of DA_X2_measure_0 38 rfl
theorem dX2_measure_63 : decode cX2_measure 63 = .ok (.invokestatic 53, 3) := dt_of DA_X2_measure_0 39 rfl
theorem dX2_measure_66 : decode cX2_measure 66 = .ok (.iastore, 1) := dt_of DA_X2_measure_0 40 rfl
theorem dX2_measure_67 : decode cX2_measure 67 = .ok (.iinc 3 1, 3) := dt_of DA_X2_measure_0 41 rfl
theorem dX2_measure_70 : decode cX2_measure 70 = .ok (.goto (-68), 3) := dt_of DA_X2_measure_0 42 rfl
theorem dX2_measure_73 : decode cX2_measure 73 = .ok (.return_, 1) := dt_of DA_X2_measure_0 43 rfl
def DT_X2_borrow_0 : List (Nat × Instr × Nat) := [(0, .iconst 1, 1), (1, .istore_n 3, 1), (2, .iload_n 3, 1), (3, .aload_n 1, 1), (4, .getfield 22, 3), (7, .if_icmp .ge 119, 3), (10, .aload_n 0, 1), (11, .getfield 15, 3), (14, .iload_n 2, 1), (15, .iaload, 1), (16, .ifCond .le 110, 3), (19, .iload_n 2, 1), (20, .iload_n 3, 1), (21, .iadd, 1), (22, .istore 4, 2), (24, .iload 4, 2), (26, .aload_n 1, 1), (27, .getfield 22, 3), (30, .if_icmp .ge 8, 3), (33, .iload 4, 2), (35, .goto 10, 3), (38, .iload 4, 2), (40, .aload_n 1, 1), (41, .getfield 22, 3), (44, .isub, 1), (45, .istore 5, 2), (47, .aload_n 1, 1), (48, .getfield 56, 3), (51, .iload 5, 2), (53, .iaload, 1), (54, .istore 6, 2), (56, .iload 6, 2), (58, .iconst 4, 1), (59, .invokestatic 59, 3), (62, .ifCond .ne 58, 3), (65, .aload_n 0, 1), (66, .getfield 15, 3), (69, .iload_n 2, 1), (70, .iaload, 1), (71, .aload_n 0, 1), (72, .getfield 9, 3), (75, .iload 5, 2), (77, .iaload, 1), (78, .invokestatic 34, 3), (81, .istore 7, 2), (83, .aload_n 0, 1), (84, .getfield 9, 3), (87, .iload 5, 2), (89, .dup2, 1), (90, .iaload, 1), (91, .iload 7, 2), (93, .isub, 1), (94, .iastore, 1), (95, .aload_n 0, 1), (96, .getfield 15, 3), (99, .iload_n 2, 1), (100, .dup2, 1), (101, .iaload, 1), (102, .iload 7, 2), (104, .isub, 1), (105, .iastore, 1), (106, .aload_n 1, 1), (107, .iload_n 2, 1), (108, .iload 5, 2), (110, .iload 6, 2), (112, .iload 7, 2), (114, .invokestatic 63, 3), (117, .invokevirtual 66, 3), (120, .iinc 3 1, 3), (123, .goto (-121), 3), (126, .return_, 1)]
theorem DA_X2_borrow_0 : DT_X2_borrow_0.all (dtf cX2_borrow) = true := by decide +kernel
theorem dX2_borrow_0 : decode cX2_borrow 0 = .ok (.iconst 1, 1) := dt_of DA_X2_borrow_0 0 rfl
theorem dX2_borrow_1 : decode cX2_borrow 1 = .ok (.istore_n 3, 1) := dt_of DA_X2_borrow_0 1 rfl
theorem dX2_borrow_2 : decode cX2_borrow 2 = .ok (.iload_n 3, 1) := dt_of DA_X2_borrow_0 2 rfl
theorem dX2_borrow_3 : decode cX2_borrow 3 = .ok (.aload_n 1, 1) := dt_of DA_X2_borrow_0 3 rfl
theorem dX2_borrow_4 : decode cX2_borrow 4 = .ok (.getfield 22, 3) := dt_of DA_X2_borrow_0 4 rfl
theorem dX2_borrow_7 : decode cX2_borrow 7 = .ok (.if_icmp .ge 119, 3) := dt_of DA_X2_borrow_0 5 rfl
theorem dX2_borrow_10 : decode cX2_borrow 10 = .ok (.aload_n 0, 1) := dt_of DA_X2_borrow_0 6 rfl
theorem dX2_borrow_11 : decode cX2_borrow 11 = .ok (.getfield 15, 3) := dt_of DA_X2_borrow_0 7 rfl
theorem dX2_borrow_14 : decode cX2_borrow 14 = .ok (.iload_n 2, 1) := dt_of DA_X2_borrow_0 8 rfl
theorem dX2_borrow_15 : decode cX2_borrow 15 = .ok (.iaload, 1) := dt_of DA_X2_borrow_0 9 rfl
theorem dX2_borrow_16 : decode cX2_borrow 16 = .ok (.ifCond .le 110, 3) := dt_of DA_X2_borrow_0 10 rfl
theorem dX2_borrow_19 : decode cX2_borrow 19 = .ok (.iload_n 2, 1) := dt_of DA_X2_borrow_0 11 rfl
theorem dX2_borrow_20 : decode cX2_borrow 20 = .ok (.iload_n 3, 1) := dt_of DA_X2_borrow_0 12 rfl
theorem dX2_borrow_21 : decode cX2_borrow 21 = .ok (.iadd, 1) := dt_of DA_X2_borrow_0 13 rfl
theorem dX2_borrow_22 : decode cX2_borrow 22 = .ok (.istore 4, 2) := dt_of DA_X2_borrow_0 14 rfl
theorem dX2_borrow_24 : decode cX2_borrow 24 = .ok (.iload 4, 2) := dt_of DA_X2_borrow_0 15 rfl
theorem dX2_borrow_26 : decode cX2_borrow 26 = .ok (.aload_n 1, 1) := dt_of DA_X2_borrow_0 16 rfl
theorem dX2_borrow_27 : decode cX2_borrow 27 = .ok (.getfield 22, 3) := dt_of DA_X2_borrow_0 17 rfl
theorem dX2_borrow_30 : decode cX2_borrow 30 = .ok (.if_icmp .ge 8, 3) := dt_of DA_X2_borrow_0 18 rfl
theorem dX2_borrow_33 : decode cX2_borrow 33 = .ok (.iload 4, 2) := dt_of DA_X2_borrow_0 19 rfl
theorem dX2_borrow_35 : decode cX2_borrow 35 = .ok (.goto 10, 3) := dt_of DA_X2_borrow_0 20 rfl
theorem dX2_borrow_38 : decode cX2_borrow 38 = .ok (.iload 4, 2) := dt_of DA_X2_borrow_0 21 rfl
theorem dX2_borrow_40 : decode cX2_borrow 40 = .ok (.aload_n 1, 1) := dt_of DA_X2_borrow_0 22 rfl
theorem dX2_borrow_41 : decode cX2_borrow 41 = .ok (.getfield 22, 3) := dt_of DA_X2_borrow_0 23 rfl
theorem dX2_borrow_44 : decode cX2_borrow 44 = .ok (.isub, 1) := dt_of DA_X2_borrow_0 24 rfl
theorem dX2_borrow_45 : decode cX2_borrow 45 = .ok (.istore 5, 2) := dt_of DA_X2_borrow_0 25 rfl
theorem dX2_borrow_47 : decode cX2_borrow 47 = .ok (.aload_n 1, 1) := dt_of DA_X2_borrow_0 26 rfl
theorem dX2_borrow_48 : decode cX2_borrow 48 = .ok (.getfield 56, 3) := dt_of DA_X2_borrow_0 27 rfl
theorem dX2_borrow_51 : decode cX2_borrow 51 = .ok (.iload 5, 2) := dt_of DA_X2_borrow_0 28 rfl
theorem dX2_borrow_53 : decode cX2_borrow 53 = .ok (.iaload, 1) := dt_of DA_X2_borrow_0 29 rfl
theorem dX2_borrow_54 : decode cX2_borrow 54 = .ok (.istore 6, 2) := dt_of DA_X2_borrow_0 30 rfl
theorem dX2_borrow_56 : decode cX2_borrow 56 = .ok (.iload 6, 2) := dt_of DA_X2_borrow_0 31 rfl
theorem dX2_borrow_58 : decode cX2_borrow 58 = .ok (.iconst 4, 1) := dt_of DA_X2_borrow_0 32 rfl
theorem dX2_borrow_59 : decode cX2_borrow 59 = .ok (.invokestatic 59, 3) := dt_of DA_X2_borrow_0 33 rfl
theorem dX2_borrow_62 : decode cX2_borrow 62 = .ok (.ifCond .ne 58, 3) := dt_of DA_X2_borrow_0 34 rfl
theorem dX2_borrow_65 : decode cX2_borrow 65 = .ok (.aload_n 0, 1) := dt_of DA_X2_borrow_0 35 rfl
theorem dX2_borrow_66 : decode cX2_borrow 66 = .ok (.getfield 15, 3) := dt_of DA_X2_borrow_0 36 rfl
theorem dX2_borrow_69 : decode cX2_borrow 69 = .ok (.iload_n 2, 1) := dt_of DA_X2_borrow_0 37 rfl
theorem dX2_borrow_70 : decode cX2_borrow 70 = .ok (.iaload, 1) := dt_of DA_X2_borrow_0 38 rfl
theorem dX2_borrow_71 : decode cX2_borrow 71 = .ok (.aload_n 0, 1) := dt_of DA_X2_borrow_0 39 rfl
theorem dX2_borrow_72 : decode cX2_borrow 72 = .ok (.getfield 9, 3) := dt_of DA_X2_borrow_0 40 rfl
theorem dX2_borrow_75 : decode cX2_borrow 75 = .ok (.iload 5, 2) := dt_of DA_X2_borrow_0 41 rfl
theorem dX2_borrow_77 : decode cX2_borrow 77 = .ok (.iaload, 1) := dt_of DA_X2_borrow_0 42 rfl
theorem dX2_borrow_78 : decode cX2_borrow 78 = .ok (.invokestatic 34, 3) := dt_of DA_X2_borrow_0 43 rfl
theorem dX2_borrow_81 : decode cX2_borrow 81 = .ok (.istore 7, 2) := dt_of DA_X2_borrow_0 44 rfl
theorem dX2_borrow_83 : decode cX2_borrow 83 = .ok (.aload_n 0, 1) := dt_of DA_X2_borrow_0 45 rfl
theorem dX2_borrow_84 : decode cX2_borrow 84 = .ok (.getfield 9, 3) := dt_of DA_X2_borrow_0 46 rfl
theorem dX2_borrow_87 : decode cX2_borrow 87 = .ok (.iload 5, 2) := dt_of DA_X2_borrow_0 47 rfl
theorem dX2_borrow_89 : decode cX2_borrow 89 = .ok (.dup2, 1) := dt_of DA_X2_borrow_0 48 rfl
theorem dX2_borrow_90 : decode cX2_borrow 90 = .ok (.iaload, 1) := dt_of DA_X2_borrow_0 49 rfl
theorem dX2_borrow_91 : decode cX2_borrow 91 = .ok (.iload 7, 2) := dt_of DA_X2_borrow_0 50 rfl
theorem dX2_borrow_93 : decode cX2_borrow 93 = .ok (.isub, 1) := dt_of DA_X2_borrow_0 51 rfl
theorem dX2_borrow_94 : decode cX2_borrow 94 = .ok (.iastore, 1) := dt_of DA_X2_borrow_0 52 rfl
theorem dX2_borrow_95 : decode cX2_borrow 95 = .ok (.aload_n 0, 1) := dt_of DA_X2_borrow_0 53 rfl
theorem dX2_borrow_96 : decode cX2_borrow 96 = .ok (.getfield 15, 3) := dt_of DA_X2_borrow_0 54 rfl
theorem dX2_borrow_99 : decode cX2_borrow 99 = .ok (.iload_n 2, 1) := dt_of DA_X2_borrow_0 55 rfl
theorem dX2_borrow_100 : decode cX2_borrow 100 = .ok (.dup2, 1) := dt_of DA_X2_borrow_0 56 rfl
theorem dX2_borrow_101 : decode cX2_borrow 101 = .ok (.iaload, 1) := dt_of DA_X2_borrow_0 57 rfl
theorem dX2_borrow_102 : decode cX2_borrow 102 = .ok (.iload 7, 2) := dt_of DA_X2_borrow_0 58 rfl
theorem dX2_borrow_104 : decode cX2_borrow 104 = .ok (.isub, 1) := dt_of DA_X2_borrow_0 59 rfl
theorem dX2_borrow_105 : decode cX2_borrow 105 = .ok (.iastore, 1) := dt_of DA_X2_borrow_0 60 rfl
theorem dX2_borrow_106 : decode cX2_borrow 106 = .ok (.aload_n 1, 1) := dt_of DA_X2_borrow_0 61 rfl
theorem dX2_borrow_107 : decode cX2_borrow 107 = .ok (.iload_n 2, 1) := dt_of DA_X2_borrow_0 62 rfl
theorem dX2_borrow_108 : decode cX2_borrow 108 = .ok (.iload 5, 2) := dt_of DA_X2_borrow_0 63 rfl
theorem dX2_borrow_110 : decode cX2_borrow 110 = .ok (.iload 6, 2) := dt_of DA_X2_borrow_0 64 rfl
theorem dX2_borrow_112 : decode cX2_borrow 112 = .ok (.iload 7, 2) := dt_of DA_X2_borrow_0 65 rfl
theorem dX2_borrow_114 : decode cX2_borrow 114 = .ok (.invokestatic 63, 3) := dt_of DA_X2_borrow_0 66 rfl
theorem dX2_borrow_117 : decode cX2_borrow 117 = .ok (.invokevirtual 66, 3) := dt_of DA_X2_borrow_0 67 rfl
theorem dX2_borrow_120 : decode cX2_borrow 120 = .ok (.iinc 3 1, 3) := dt_of DA_X2_borrow_0 68 rfl
theorem dX2_borrow_123 : decode cX2_borrow 123 = .ok (.goto (-121), 3) := dt_of DA_X2_borrow_0 69 rfl
theorem dX2_borrow_126 : decode cX2_borrow 126 = .ok (.return_, 1) := dt_of DA_X2_borrow_0 70 rfl
def DT_X2_payBack_0 : List (Nat × Instr × Nat) := [(0, .iconst 0, 1), (1, .istore_n 3, 1), (2, .iload_n 3, 1), (3, .aload_n 1, 1), (4, .getfield 22, 3), (7, .if_icmp .ge 60, 3), (10, .aload_n 0, 1), (11, .getfield 9, 3), (14, .iload_n 2, 1), (15, .iaload, 1), (16, .ifCond .le 51, 3), (19, .aload_n 0, 1), (20, .getfield 9, 3), (23, .iload_n 2, 1), (24, .iaload, 1), (25, .aload_n 1, 1), (26, .iload_n 2, 1), (27, .iload_n 3, 1), (28, .invokevirtual 70, 3), (31, .iconst 3, 1), (32, .iadd, 1), (33, .iconst 4, 1), (34, .idiv, 1), (35, .invokestatic 34, 3), (38, .istore 4, 2), (40, .aload_n 0, 1), (41, .getfield 9, 3), (44, .iload_n 2, 1), (45, .dup2, 1), (46, .iaload, 1), (47, .iload 4, 2), (49, .isub, 1), (50, .iastore, 1), (51, .aload_n 1, 1), (52, .iload_n 2, 1), (53, .iload_n 3, 1), (54, .iconst 4, 1), (55, .iload 4, 2), (57, .imul, 1), (58, .invokevirtual 73, 3), (61, .iinc 3 1, 3), (64, .goto (-62), 3), (67, .return_, 1)]
theorem DA_X2_payBack_0 : DT_X2_payBack_0.all (dtf cX2_payBack) = true := by decide +kernel
theorem dX2_payBack_0 : decode cX2_payBack 0 = .ok (.iconst 0, 1) := dt_of DA_X2_payBack_0 0 rfl
theorem dX2_payBack_1 : decode cX2_payBack 1 = .ok (.istore_n 3, 1) := dt_of DA_X2_payBack_0 1 rfl
theorem dX2_payBack_2 : decode cX2_payBack 2 = .ok (.iload_n 3, 1) := dt_of DA_X2_payBack_0 2 rfl
theorem dX2_payBack_3 : decode cX2_payBack 3 = .ok (.aload_n 1, 1) := dt_of DA_X2_payBack_0 3 rfl
theorem dX2_payBack_4 : decode cX2_payBack 4 = .ok (.getfield 22, 3) := dt_of DA_X2_payBack_0 4 rfl
theorem dX2_payBack_7 : decode cX2_payBack 7 = .ok (.if_icmp .ge 60, 3) := dt_of DA_X2_payBack_0 5 rfl
theorem dX2_payBack_10 : decode cX2_payBack 10 = .ok (.aload_n 0, 1) := dt_of DA_X2_payBack_0 6 rfl
theorem dX2_payBack_11 : decode cX2_payBack 11 = .ok (.getfield 9, 3) := dt_of DA_X2_payBack_0 7 rfl
theorem dX2_payBack_14 : decode cX2_payBack 14 = .ok (.iload_n 2, 1) := dt_of DA_X2_payBack_0 8 rfl
theorem dX2_payBack_15 : decode cX2_payBack 15 = .ok (.iaload, 1) := dt_of DA_X2_payBack_0 9 rfl
theorem dX2_payBack_16 : decode cX2_payBack 16 = .ok (.ifCond .le 51, 3) := dt_of DA_X2_payBack_0 10 rfl
theorem dX2_payBack_19 : decode cX2_payBack 19 = .ok (.aload_n 0, 1) := dt_of DA_X2_payBack_0 11 rfl
theorem dX2_payBack_20 : decode cX2_payBack 20 = .ok (.getfield 9, 3) := dt_of DA_X2_payBack_0 12 rfl
theorem dX2_payBack_23 : decode cX2_payBack 23 = .ok (.iload_n 2, 1) := dt_of DA_X2_payBack_0 13 rfl
theorem dX2_payBack_24 : decode cX2_payBack 24 = .ok (.iaload, 1) := dt_of DA_X2_payBack_0 14 rfl
theorem dX2_payBack_25 : decode cX2_payBack 25 = .ok (.aload_n 1, 1) := dt_of DA_X2_payBack_0 15 rfl
theorem dX2_payBack_26 : decode cX2_payBack 26 = .ok (.iload_n 2, 1) := dt_of DA_X2_payBack_0 16 rfl
theorem dX2_payBack_27 : decode cX2_payBack 27 = .ok (.iload_n 3, 1) := dt_of DA_X2_payBack_0 17 rfl
theorem dX2_payBack_28 : decode cX2_payBack 28 = .ok (.invokevirtual 70, 3) := dt_of DA_X2_payBack_0 18 rfl
theorem dX2_payBack_31 : decode cX2_payBack 31 = .ok (.iconst 3, 1) := dt_of DA_X2_payBack_0 19 rfl
theorem dX2_payBack_32 : decode cX2_payBack 32 = .ok (.iadd, 1) := dt_of DA_X2_payBack_0 20 rfl
theorem dX2_payBack_33 : decode cX2_payBack 33 = .ok (.iconst 4, 1) := dt_of DA_X2_payBack_0 21 rfl
theorem dX2_payBack_34 : decode cX2_payBack 34 = .ok (.idiv, 1) := dt_of DA_X2_payBack_0 22 rfl
theorem dX2_payBack_35 : decode cX2_payBack 35 = .ok (.invokestatic 34, 3) := dt_of DA_X2_payBack_0 23 rfl
theorem dX2_payBack_38 : decode cX2_payBack 38 = .ok (.istore 4, 2) := dt_of DA_X2_payBack_0 24 rfl
theorem dX2_payBack_40 : decode cX2_payBack 40 = .ok (.aload_n 0, 1) := dt_of DA_X2_payBack_0 25 rfl
theorem dX2_payBack_41 : decode cX2_payBack 41 = .ok (.getfield 9, 3) := dt_of DA_X2_payBack_0 26 rfl
theorem dX2_payBack_44 : decode cX2_payBack 44 = .ok (.iload_n 2, 1) := dt_of DA_X2_payBack_0 27 rfl
theorem dX2_payBack_45 : decode cX2_payBack 45 = .ok (.dup2, 1) := dt_of DA_X2_payBack_0 28 rfl
theorem dX2_payBack_46 : decode cX2_payBack 46 = .ok (.iaload, 1) := dt_of DA_X2_payBack_0 29 rfl
theorem dX2_payBack_47 : decode cX2_payBack 47 = .ok (.iload 4, 2) := dt_of DA_X2_payBack_0 30 rfl
theorem dX2_payBack_49 : decode cX2_payBack 49 = .ok (.isub, 1) := dt_of DA_X2_payBack_0 31 rfl
theorem dX2_payBack_50 : decode cX2_payBack 50 = .ok (.iastore, 1) := dt_of DA_X2_payBack_0 32 rfl
theorem dX2_payBack_51 : decode cX2_payBack 51 = .ok (.aload_n 1, 1) := dt_of DA_X2_payBack_0 33 rfl
theorem dX2_payBack_52 : decode cX2_payBack 52 = .ok (.iload_n 2, 1) := dt_of DA_X2_payBack_0 34 rfl
theorem dX2_payBack_53 : decode cX2_payBack 53 = .ok (.iload_n 3, 1) := dt_of DA_X2_payBack_0 35 rfl
theorem dX2_payBack_54 : decode cX2_payBack 54 = .ok (.iconst 4, 1) := dt_of DA_X2_payBack_0 36 rfl
theorem dX2_payBack_55 : decode cX2_payBack 55 = .ok (.iload 4, 2) := dt_of DA_X2_payBack_0 37 rfl
theorem dX2_payBack_57 : decode cX2_payBack 57 = .ok (.imul, 1) := dt_of DA_X2_payBack_0 38 rfl
theorem dX2_payBack_58 : decode cX2_payBack 58 = .ok (.invokevirtual 73, 3) := dt_of DA_X2_payBack_0 39 rfl
theorem dX2_payBack_61 : decode cX2_payBack 61 = .ok (.iinc 3 1, 3) := dt_of DA_X2_payBack_0 40 rfl
theorem dX2_payBack_64 : decode cX2_payBack 64 = .ok (.goto (-62), 3) := dt_of DA_X2_payBack_0 41 rfl
theorem dX2_payBack_67 : decode cX2_payBack 67 = .ok (.return_, 1) := dt_of DA_X2_payBack_0 42 rfl
def DT_X3_init_0 : List (Nat × Instr × Nat) := [(0, .aload_n 0, 1), (1, .invokespecial 3, 3), (4, .aload_n 0, 1), (5, .new 9, 3), (8, .dup, 1), (9, .invokespecial 11, 3), (12, .putfield 12, 3), (15, .aload_n 0, 1), (16, .aload_n 1, 1), (17, .putfield 18, 3), (20, .aload_n 0, 1), (21, .aload_n 2, 1), (22, .putfield 21, 3), (25, .return_, 1)]
theorem DA_X3_init_0 : DT_X3_init_0.all (dtf cX3_init) = true := by decide +kernel
theorem dX3_init_0 : decode cX3_init 0 = .ok (.aload_n 0, 1) := dt_of DA_X3_init_0 0 rfl
theorem dX3_init_1 : decode cX3_init 1 = .ok (.invokespecial 3, 3) := dt_of DA_X3_init_0 1 rfl
theorem dX3_init_4 : decode cX3_init 4 = .ok (.aload_n 0, 1) := dt_of DA_X3_init_0 2 rfl
theorem dX3_init_5 : decode cX3_init 5 = .ok (.new 9, 3) := dt_of DA_X3_init_0 3 rfl
theorem dX3_init_8 : decode cX3_init 8 = .ok (.dup, 1) := dt_of DA_X3_init_0 4 rfl
theorem dX3_init_9 : decode cX3_init 9 = .ok (.invokespecial 11, 3) := dt_of DA_X3_init_0 5 rfl
theorem dX3_init_12 : decode cX3_init 12 = .ok (.putfield 12, 3) := dt_of DA_X3_init_0 6 rfl
theorem dX3_init_15 : decode cX3_init 15 = .ok (.aload_n 0, 1) := dt_of DA_X3_init_0 7 rfl
theorem dX3_init_16 : decode cX3_init 16 = .ok (.aload_n 1, 1) := dt_of DA_X3_init_0 8 rfl
theorem dX3_init_17 : decode cX3_init 17 = .ok (.putfield 18, 3) := dt_of DA_X3_init_0 9 rfl
theorem dX3_init_20 : decode cX3_init 20 = .ok (.aload_n 0, 1) := dt_of DA_X3_init_0 10 rfl
theorem dX3_init_21 : decode cX3_init 21 = .ok (.aload_n 2, 1) := dt_of DA_X3_init_0 11 rfl
theorem dX3_init_22 : decode cX3_init 22 = .ok (.putfield 21, 3) := dt_of DA_X3_init_0 12 rfl
theorem dX3_init_25 : decode cX3_init 25 = .ok (.return_, 1) := dt_of DA_X3_init_0 13 rfl
def DT_X3_behindDays_0 : List (Nat × Instr × Nat) := [(0, .aload_n 0, 1), (1, .getfield 12, 3), (4, .aload_n 0, 1), (5, .getfield 18, 3), (8, .invokevirtual 25, 3), (11, .iconst 0, 1), (12, .istore_n 2, 1), (13, .iload_n 2, 1), (14, .iload_n 1, 1), (15, .if_icmp .ge 21, 3), (18, .aload_n 0, 1), (19, .getfield 21, 3), (22, .aload_n 0, 1), (23, .getfield 12, 3), (26, .iconst 0, 1), (27, .invokevirtual 29, 3), (30, .iinc 2 1, 3), (33, .goto (-20), 3), (36, .aload_n 0, 1), (37, .getfield 12, 3), (40, .areturn, 1)]
theorem DA_X3_behindDays_0 : DT_X3_behindDays_0.all (dtf cX3_behindDays) = true := by decide +kernel
theorem dX3_behindDays_0 : decode cX3_behindDays 0 = .ok (.aload_n 0, 1) := dt_of DA_X3_behindDays_0 0 rfl
theorem dX3_behindDays_1 : decode cX3_behindDays 1 = .ok (.getfield 12, 3) := dt_of DA_X3_behindDays_0 1 rfl
theorem dX3_behindDays_4 : decode cX3_behindDays 4 = .ok (.aload_n 0, 1) := dt_of DA_X3_behindDays_0 2 rfl
theorem dX3_behindDays_5 : decode cX3_behindDays 5 = .ok (.getfield 18, 3) := dt_of DA_X3_behindDays_0 3 rfl
theorem dX3_behindDays_8 : decode cX3_behindDays 8 = .ok (.invokevirtual 25, 3) := dt_of DA_X3_behindDays_0 4 rfl
theorem dX3_behindDays_11 : decode cX3_behindDays 11 = .ok (.iconst 0, 1) := dt_of DA_X3_behindDays_0 5 rfl
theorem dX3_behindDays_12 : decode cX3_behindDays 12 = .ok (.istore_n 2, 1) := dt_of DA_X3_behindDays_0 6 rfl
theorem dX3_behindDays_13 : decode cX3_behindDays 13 = .ok (.iload_n 2, 1) := dt_of DA_X3_behindDays_0 7 rfl
theorem dX3_behindDays_14 : decode cX3_behindDays 14 = .ok (.iload_n 1, 1) := dt_of DA_X3_behindDays_0 8 rfl
theorem dX3_behindDays_15 : decode cX3_behindDays 15 = .ok (.if_icmp .ge 21, 3) := dt_of DA_X3_behindDays_0 9 rfl
theorem dX3_behindDays_18 : decode cX3_behindDays 18 = .ok (.aload_n 0, 1) := dt_of DA_X3_behindDays_0 10 rfl
theorem dX3_behindDays_19 : decode cX3_behindDays 19 = .ok (.getfield 21, 3) := dt_of DA_X3_behindDays_0 11 rfl
theorem dX3_behindDays_22 : decode cX3_behindDays 22 = .ok (.aload_n 0, 1) := dt_of DA_X3_behindDays_0 12 rfl
theorem dX3_behindDays_23 : decode cX3_behindDays 23 = .ok (.getfield 12, 3) := dt_of DA_X3_behindDays_0 13 rfl
theorem dX3_behindDays_26 : decode cX3_behindDays 26 = .ok (.iconst 0, 1) := dt_of DA_X3_behindDays_0 14 rfl
theorem dX3_behindDays_27 : decode cX3_behindDays 27 = .ok (.invokevirtual 29, 3) := dt_of DA_X3_behindDays_0 15 rfl
theorem dX3_behindDays_30 : decode cX3_behindDays 30 = .ok (.iinc 2 1, 3) := dt_of DA_X3_behindDays_0 16 rfl
theorem dX3_behindDays_33 : decode cX3_behindDays 33 = .ok (.goto (-20), 3) := dt_of DA_X3_behindDays_0 17 rfl
theorem dX3_behindDays_36 : decode cX3_behindDays 36 = .ok (.aload_n 0, 1) := dt_of DA_X3_behindDays_0 18 rfl
theorem dX3_behindDays_37 : decode cX3_behindDays 37 = .ok (.getfield 12, 3) := dt_of DA_X3_behindDays_0 19 rfl
theorem dX3_behindDays_40 : decode cX3_behindDays 40 = .ok (.areturn, 1) := dt_of DA_X3_behindDays_0 20 rfl
def DT_X3_daysUntilEven_0 : List (Nat × Instr × Nat) := [(0, .aload_n 0, 1), (1, .getfield 12, 3), (4, .aload_n 0, 1), (5, .getfield 18, 3), (8, .invokevirtual 25, 3), (11, .iconst 0, 1), (12, .istore_n 1, 1), (13, .iload_n 1, 1), (14, .bipush 60, 2), (16, .if_icmp .ge 33, 3), (19, .aload_n 0, 1), (20, .getfield 12, 3), (23, .invokevirtual 35, 3), (26, .ifCond .ne 5, 3), (29, .iload_n 1, 1), (30, .ireturn, 1), (31, .aload_n 0, 1), (32, .getfield 21, 3), (35, .aload_n 0, 1), (36, .getfield 12, 3), (39, .iconst 0, 1), (40, .invokevirtual 29, 3), (43, .iinc 1 1, 3), (46, .goto (-33), 3), (49, .aload_n 0, 1), (50, .getfield 12, 3), (53, .invokevirtual 35, 3), (56, .ifCond .ne 8, 3), (59, .bipush 60, 2), (61, .goto 5, 3), (64, .ldc 39, 2), (66, .ireturn, 1)]
theorem DA_X3_daysUntilEven_0 : DT_X3_daysUntilEven_0.all (dtf cX3_daysUntilEven) = true := by decide +kernel
theorem dX3_daysUntilEven_0 : decode cX3_daysUntilEven 0 = .ok (.aload_n 0, 1) := dt_of DA_X3_daysUntilEven_0 0 rfl
theorem dX3_daysUntilEven_1 : decode cX3_daysUntilEven 1 = .ok (.getfield 12, 3) := dt_of DA_X3_daysUntilEven_0 1 rfl
theorem dX3_daysUntilEven_4 : decode cX3_daysUntilEven 4 = .ok (.aload_n 0, 1) := dt_of DA_X3_daysUntilEven_0 2 rfl
theorem dX3_daysUntilEven_5 : decode cX3_daysUntilEven 5 = .ok (.getfield 18, 3) := dt_of DA_X3_daysUntilEven_0 3 rfl
theorem dX3_daysUntilEven_8 : decode cX3_daysUntilEven 8 = .ok (.invokevirtual 25, 3) := dt_of DA_X3_daysUntilEven_0 4 rfl
theorem dX3_daysUntilEven_11 : decode cX3_daysUntilEven 11 = .ok (.iconst 0, 1) := dt_of DA_X3_daysUntilEven_0 5 rfl
theorem dX3_daysUntilEven_12 : decode cX3_daysUntilEven 12 = .ok (.istore_n 1, 1) := dt_of DA_X3_daysUntilEven_0 6 rfl
theorem dX3_daysUntilEven_13 : decode cX3_daysUntilEven 13 = .ok (.iload_n 1, 1) := dt_of DA_X3_daysUntilEven_0 7 rfl
theorem dX3_daysUntilEven_14 : decode cX3_daysUntilEven 14 = .ok (.bipush 60, 2) := dt_of DA_X3_daysUntilEven_0 8 rfl
theorem dX3_daysUntilEven_16 : decode cX3_daysUntilEven 16 = .ok (.if_icmp .ge 33, 3) := dt_of DA_X3_daysUntilEven_0 9 rfl
theorem dX3_daysUntilEven_19 : decode cX3_daysUntilEven 19 = .ok (.aload_n 0, 1) := dt_of DA_X3_daysUntilEven_0 10 rfl
theorem dX3_daysUntilEven_20 : decode cX3_daysUntilEven 20 = .ok (.getfield 12, 3) := dt_of DA_X3_daysUntilEven_0 11 rfl
theorem dX3_daysUntilEven_23 : decode cX3_daysUntilEven 23 = .ok (.invokevirtual 35, 3) := dt_of DA_X3_daysUntilEven_0 12 rfl
theorem dX3_daysUntilEven_26 : decode cX3_daysUntilEven 26 = .ok (.ifCond .ne 5, 3) := dt_of DA_X3_daysUntilEven_0 13 rfl
theorem dX3_daysUntilEven_29 : decode cX3_daysUntilEven 29 = .ok (.iload_n 1, 1) := dt_of DA_X3_daysUntilEven_0 14 rfl
theorem dX3_daysUntilEven_30 : decode cX3_daysUntilEven 30 = .ok (.ireturn, 1) := dt_of DA_X3_daysUntilEven_0 15 rfl
theorem dX3_daysUntilEven_31 : decode cX3_daysUntilEven 31 = .ok (.aload_n 0, 1) := dt_of DA_X3_daysUntilEven_0 16 rfl
theorem dX3_daysUntilEven_32 : decode cX3_daysUntilEven 32 = .ok (.getfield 21, 3) := dt_of DA_X3_daysUntilEven_0 17 rfl
theorem dX3_daysUntilEven_35 : decode cX3_daysUntilEven 35 = .ok (.aload_n 0, 1) := dt_of DA_X3_daysUntilEven_0 18 rfl
theorem dX3_daysUntilEven_36 : decode cX3_daysUntilEven 36 = .ok (.getfield 12, 3) := dt_of DA_X3_daysUntilEven_0 19 rfl
theorem dX3_daysUntilEven_39 : decode cX3_daysUntilEven 39 = .ok (.iconst 0, 1) := dt_of DA_X3_daysUntilEven_0 20 rfl
theorem dX3_daysUntilEven_40 : decode cX3_daysUntilEven 40 = .ok (.invokevirtual 29, 3) := dt_of DA_X3_daysUntilEven_0 21 rfl
theorem dX3_daysUntilEven_43 : decode cX3_daysUntilEven 43 = .ok (.iinc 1 1, 3) := dt_of DA_X3_daysUntilEven_0 22 rfl
theorem dX3_daysUntilEven_46 : decode cX3_daysUntilEven 46 = .ok (.goto (-33), 3) := dt_of DA_X3_daysUntilEven_0 23 rfl
theorem dX3_daysUntilEven_49 : decode cX3_daysUntilEven 49 = .ok (.aload_n 0, 1) := dt_of DA_X3_daysUntilEven_0 24 rfl
theorem dX3_daysUntilEven_50 : decode cX3_daysUntilEven 50 = .ok (.getfield 12, 3) := dt_of DA_X3_daysUntilEven_0 25 rfl
theorem dX3_daysUntilEven_53 : decode cX3_daysUntilEven 53 = .ok (.invokevirtual 35, 3) := dt_of DA_X3_daysUntilEven_0 26 rfl
theorem dX3_daysUntilEven_56 : decode cX3_daysUntilEven 56 = .ok (.ifCond .ne 8, 3) := dt_of DA_X3_daysUntilEven_0 27 rfl
theorem dX3_daysUntilEven_59 : decode cX3_daysUntilEven 59 = .ok (.bipush 60, 2) := dt_of DA_X3_daysUntilEven_0 28 rfl
theorem dX3_daysUntilEven_61 : decode cX3_daysUntilEven 61 = .ok (.goto 5, 3) := dt_of DA_X3_daysUntilEven_0 29 rfl
theorem dX3_daysUntilEven_64 : decode cX3_daysUntilEven 64 = .ok (.ldc 39, 2) := dt_of DA_X3_daysUntilEven_0 30 rfl
theorem dX3_daysUntilEven_66 : decode cX3_daysUntilEven 66 = .ok (.ireturn, 1) := dt_of DA_X3_daysUntilEven_0 31 rfl
def DT_X3_firstSilent_0 : List (Nat × Instr × Nat) := [(0, .aload_n 0, 1), (1, .getfield 12, 3), (4, .aload_n 0, 1), (5, .getfield 18, 3), (8, .invokevirtual 25, 3), (11, .iconst 1, 1), (12, .istore_n 2, 1), (13, .iload_n 2, 1), (14, .bipush 60, 2), (16, .if_icmp .gt 65, 3), (19, .aload_n 0, 1), (20, .getfield 21, 3), (23, .aload_n 0, 1), (24, .getfield 12, 3), (27, .iconst 0, 1), (28, .invokevirtual 29, 3), (31, .iconst 0, 1), (32, .istore_n 3, 1), (33, .iload_n 3, 1), (34, .aload_n 0, 1), (35, .getfield 12, 3), (38, .getfield 40, 3), (41, .if_icmp .ge 34, 3), (44, .aload_n 0, 1), (45, .getfield 12, 3), (48, .aload_n 0, 1), (49, .getfield 18, 3), (52, .iload_n 3, 1), (53, .invokevirtual 44, 3), (56, .ifCond .eq 13, 3), (59, .iload_n 1, 1), (60, .ifCond .ne 7, 3), (63, .iload_n 3, 1), (64, .goto 4, 3), (67, .iload_n 2, 1), (68, .ireturn, 1), (69, .iinc 3 1, 3), (72, .goto (-39), 3), (75, .iinc 2 1, 3), (78, .goto (-65), 3), (81, .ldc 39, 2), (83, .ireturn, 1)]
theorem DA_X3_firstSilent_0 : DT_X3_firstSilent_0.all (dtf cX3_firstSilent) = true := by decide +kernel
theorem dX3_firstSilent_0 : decode cX3_firstSilent 0 = .ok (.aload_n 0, 1) := dt_of DA_X3_firstSilent_0 0 rfl
theorem dX3_firstSilent_1 : decode cX3_firstSilent 1 = .ok (.getfield 12, 3) := dt_of DA_X3_firstSilent_0 1 rfl
theorem dX3_firstSilent_4 : decode cX3_firstSilent 4 = .ok (.aload_n 0, 1) := dt_of DA_X3_firstSilent_0 2 rfl
theorem dX3_firstSilent_5 : decode cX3_firstSilent 5 = .ok (.getfield 18, 3) := dt_of DA_X3_firstSilent_0 3 rfl
theorem dX3_firstSilent_8 : decode cX3_firstSilent 8 = .ok (.invokevirtual 25, 3) := dt_of DA_X3_firstSilent_0 4 rfl
theorem dX3_firstSilent_11 : decode cX3_firstSilent 11 = .ok (.iconst 1, 1) := dt_of DA_X3_firstSilent_0 5 rfl
theorem dX3_firstSilent_12 : decode cX3_firstSilent 12 = .ok (.istore_n 2, 1) := dt_of DA_X3_firstSilent_0 6 rfl
theorem dX3_firstSilent_13 : decode cX3_firstSilent 13 = .ok (.iload_n 2, 1) := dt_of DA_X3_firstSilent_0 7 rfl
theorem dX3_firstSilent_14 : decode cX3_firstSilent 14 = .ok (.bipush 60, 2) := dt_of DA_X3_firstSilent_0 8 rfl
theorem dX3_firstSilent_16 : decode cX3_firstSilent 16 = .ok (.if_icmp .gt 65, 3) := dt_of DA_X3_firstSilent_0 9 rfl
theorem dX3_firstSilent_19 : decode cX3_firstSilent 19 = .ok (.aload_n 0, 1) := dt_of DA_X3_firstSilent_0 10 rfl
theorem dX3_firstSilent_20 : decode cX3_firstSilent 20 = .ok (.getfield 21, 3) := dt_of DA_X3_firstSilent_0 11 rfl
theorem dX3_firstSilent_23 : decode cX3_firstSilent 23 = .ok (.aload_n 0, 1) := dt_of DA_X3_firstSilent_0 12 rfl
theorem dX3_firstSilent_24 : decode cX3_firstSilent 24 = .ok (.getfield 12, 3) := dt_of DA_X3_firstSilent_0 13 rfl
theorem dX3_firstSilent_27 : decode cX3_firstSilent 27 = .ok (.iconst 0, 1) := dt_of DA_X3_firstSilent_0 14 rfl
theorem dX3_firstSilent_28 : decode cX3_firstSilent 28 = .ok (.invokevirtual 29, 3) := dt_of DA_X3_firstSilent_0 15 rfl
theorem dX3_firstSilent_31 : decode cX3_firstSilent 31 = .ok (.iconst 0, 1) := dt_of DA_X3_firstSilent_0 16 rfl
theorem dX3_firstSilent_32 : decode cX3_firstSilent 32 = .ok (.istore_n 3, 1) := dt_of DA_X3_firstSilent_0 17 rfl
theorem dX3_firstSilent_33 : decode cX3_firstSilent 33 = .ok (.iload_n 3, 1) := dt_of DA_X3_firstSilent_0 18 rfl
theorem dX3_firstSilent_34 : decode cX3_firstSilent 34 = .ok (.aload_n 0, 1) := dt_of DA_X3_firstSilent_0 19 rfl
theorem dX3_firstSilent_35 : decode cX3_firstSilent 35 = .ok (.getfield 12, 3) := dt_of DA_X3_firstSilent_0 20 rfl
theorem dX3_firstSilent_38 : decode cX3_firstSilent 38 = .ok (.getfield 40, 3) := dt_of DA_X3_firstSilent_0 21 rfl
theorem dX3_firstSilent_41 : decode cX3_firstSilent 41 = .ok (.if_icmp .ge 34, 3) := dt_of DA_X3_firstSilent_0 22 rfl
theorem dX3_firstSilent_44 : decode cX3_firstSilent 44 = .ok (.aload_n 0, 1) := dt_of DA_X3_firstSilent_0 23 rfl
theorem dX3_firstSilent_45 : decode cX3_firstSilent 45 = .ok (.getfield 12, 3) := dt_of DA_X3_firstSilent_0 24 rfl
theorem dX3_firstSilent_48 : decode cX3_firstSilent 48 = .ok (.aload_n 0, 1) := dt_of DA_X3_firstSilent_0 25 rfl
theorem dX3_firstSilent_49 : decode cX3_firstSilent 49 = .ok (.getfield 18, 3) := dt_of DA_X3_firstSilent_0 26 rfl
theorem dX3_firstSilent_52 : decode cX3_firstSilent 52 = .ok (.iload_n 3, 1) := dt_of DA_X3_firstSilent_0 27 rfl
theorem dX3_firstSilent_53 : decode cX3_firstSilent 53 = .ok (.invokevirtual 44, 3) := dt_of DA_X3_firstSilent_0 28 rfl
theorem dX3_firstSilent_56 : decode cX3_firstSilent 56 = .ok (.ifCond .eq 13, 3) := dt_of DA_X3_firstSilent_0 29 rfl
theorem dX3_firstSilent_59 : decode cX3_firstSilent 59 = .ok (.iload_n 1, 1) := dt_of DA_X3_firstSilent_0 30 rfl
theorem dX3_firstSilent_60 : decode cX3_firstSilent 60 = .ok (.ifCond .ne 7, 3) := dt_of DA_X3_firstSilent_0 31 rfl
theorem dX3_firstSilent_63 : decode cX3_firstSilent 63 = .ok (.iload_n 3, 1) := dt_of DA_X3_firstSilent_0 32 rfl
theorem dX3_firstSilent_64 : decode cX3_firstSilent 64 = .ok (.goto 4, 3) := dt_of DA_X3_firstSilent_0 33 rfl
theorem dX3_firstSilent_67 : decode cX3_firstSilent 67 = .ok (.iload_n 2, 1) := dt_of DA_X3_firstSilent_0 34 rfl
theorem dX3_firstSilent_68 : decode cX3_firstSilent 68 = .ok (.ireturn, 1) := dt_of DA_X3_firstSilent_0 35 rfl
theorem dX3_firstSilent_69 : decode cX3_firstSilent 69 = .ok (.iinc 3 1, 3) := dt_of DA_X3_firstSilent_0 36 rfl
theorem dX3_firstSilent_72 : decode cX3_firstSilent 72 = .ok (.goto (-39), 3) := dt_of DA_X3_firstSilent_0 37 rfl
theorem dX3_firstSilent_75 : decode cX3_firstSilent 75 = .ok (.iinc 2 1, 3) := dt_of DA_X3_firstSilent_0 38 rfl
theorem dX3_firstSilent_78 : decode cX3_firstSilent 78 = .ok (.goto (-65), 3) := dt_of DA_X3_firstSilent_0 39 rfl
theorem dX3_firstSilent_81 : decode cX3_firstSilent 81 = .ok (.ldc 39, 2) := dt_of DA_X3_firstSilent_0 40 rfl
theorem dX3_firstSilent_83 : decode cX3_firstSilent 83 = .ok (.ireturn, 1) := dt_of DA_X3_firstSilent_0 41 rfl
def DT_X3_strokesMissing_0 : List (Nat × Instr × Nat) := [(0, .iconst 0, 1), (1, .istore_n 3, 1), (2, .iload_n 3, 1), (3, .bipush 9, 2), (5, .if_icmp .gt 56, 3), (8, .aload_n 0, 1), (9, .getfield 12, 3), (12, .aload_n 0, 1), (13, .getfield 18, 3), (16, .invokevirtual 25, 3), (19, .aload_n 0, 1), (20, .getfield 12, 3), (23, .getfield 48, 3), (26, .iload_n 1, 1), (27, .bipush 99, 2), (29, .aload_n 0, 1), (30, .getfield 18, 3), (33, .getfield 48, 3), (36, .iload_n 1, 1), (37, .iaload, 1), (38, .iload_n 3, 1), (39, .iadd, 1), (40, .invokestatic 52, 3), (43, .iastore, 1), (44, .aload_n 0, 1), (45, .iload_n 1, 1), (46, .iload_n 2, 1), (47, .invokevirtual 58, 3), (50, .ifCond .eq 5, 3), (53, .iload_n 3, 1), (54, .ireturn, 1), (55, .iinc 3 1, 3), (58, .goto (-56), 3), (61, .ldc 39, 2), (63, .ireturn, 1)]
theorem DA_X3_strokesMissing_0 : DT_X3_strokesMissing_0.all (dtf cX3_strokesMissing) = true := by decide +kernel
theorem dX3_strokesMissing_0 : decode cX3_strokesMissing 0 = .ok (.iconst 0, 1) := dt_of DA_X3_strokesMissing_0 0 rfl
theorem dX3_strokesMissing_1 : decode cX3_strokesMissing 1 = .ok (.istore_n 3, 1) := dt_of DA_X3_strokesMissing_0 1 rfl
theorem dX3_strokesMissing_2 : decode cX3_strokesMissing 2 = .ok (.iload_n 3, 1) := dt_of DA_X3_strokesMissing_0 2 rfl
theorem dX3_strokesMissing_3 : decode cX3_strokesMissing 3 = .ok (.bipush 9, 2) := dt_of DA_X3_strokesMissing_0 3 rfl
theorem dX3_strokesMissing_5 : decode cX3_strokesMissing 5 = .ok (.if_icmp .gt 56, 3) := dt_of DA_X3_strokesMissing_0 4 rfl
theorem dX3_strokesMissing_8 : decode cX3_strokesMissing 8 = .ok (.aload_n 0, 1) := dt_of DA_X3_strokesMissing_0 5 rfl
theorem dX3_strokesMissing_9 : decode cX3_strokesMissing 9 = .ok (.getfield 12, 3) := dt_of DA_X3_strokesMissing_0 6 rfl
theorem dX3_strokesMissing_12 : decode cX3_strokesMissing 12 = .ok (.aload_n 0, 1) := dt_of DA_X3_strokesMissing_0 7 rfl
theorem dX3_strokesMissing_13 : decode cX3_strokesMissing 13 = .ok (.getfield 18, 3) := dt_of DA_X3_strokesMissing_0 8 rfl
theorem dX3_strokesMissing_16 : decode cX3_strokesMissing 16 = .ok (.invokevirtual 25, 3) := dt_of DA_X3_strokesMissing_0 9 rfl
theorem dX3_strokesMissing_19 : decode cX3_strokesMissing 19 = .ok (.aload_n 0, 1) := dt_of DA_X3_strokesMissing_0 10 rfl
theorem dX3_strokesMissing_20 : decode cX3_strokesMissing 20 = .ok (.getfield 12, 3) := dt_of DA_X3_strokesMissing_0 11 rfl
theorem dX3_strokesMissing_23 : decode cX3_strokesMissing 23 = .ok (.getfield 48, 3) := dt_of DA_X3_strokesMissing_0 12 rfl
theorem dX3_strokesMissing_26 : decode cX3_strokesMissing 26 = .ok (.iload_n 1, 1) := dt_of DA_X3_strokesMissing_0 13 rfl
theorem dX3_strokesMissing_27 : decode cX3_strokesMissing 27 = .ok (.bipush 99, 2) := dt_of DA_X3_strokesMissing_0 14 rfl
theorem dX3_strokesMissing_29 : decode cX3_strokesMissing 29 = .ok (.aload_n 0, 1) := dt_of DA_X3_strokesMissing_0 15 rfl
theorem dX3_strokesMissing_30 : decode cX3_strokesMissing 30 = .ok (.getfield 18, 3) := dt_of DA_X3_strokesMissing_0 16 rfl
theorem dX3_strokesMissing_33 : decode cX3_strokesMissing 33 = .ok (.getfield 48, 3) := dt_of DA_X3_strokesMissing_0 17 rfl
theorem dX3_strokesMissing_36 : decode cX3_strokesMissing 36 = .ok (.iload_n 1, 1) := dt_of DA_X3_strokesMissing_0 18 rfl
theorem dX3_strokesMissing_37 : decode cX3_strokesMissing 37 = .ok (.iaload, 1) := dt_of DA_X3_strokesMissing_0 19 rfl
theorem dX3_strokesMissing_38 : decode cX3_strokesMissing 38 = .ok (.iload_n 3, 1) := dt_of DA_X3_strokesMissing_0 20 rfl
theorem dX3_strokesMissing_39 : decode cX3_strokesMissing 39 = .ok (.iadd, 1) := dt_of DA_X3_strokesMissing_0 21 rfl
theorem dX3_strokesMissing_40 : decode cX3_strokesMissing 40 = .ok (.invokestatic 52, 3) := dt_of DA_X3_strokesMissing_0 22 rfl
theorem dX3_strokesMissing_43 : decode cX3_strokesMissing 43 = .ok (.iastore, 1) := dt_of DA_X3_strokesMissing_0 23 rfl
theorem dX3_strokesMissing_44 : decode cX3_strokesMissing 44 = .ok (.aload_n 0, 1) := dt_of DA_X3_strokesMissing_0 24 rfl
theorem dX3_strokesMissing_45 : decode cX3_strokesMissing 45 = .ok (.iload_n 1, 1) := dt_of DA_X3_strokesMissing_0 25 rfl
theorem dX3_strokesMissing_46 : decode cX3_strokesMissing 46 = .ok (.iload_n 2, 1) := dt_of DA_X3_strokesMissing_0 26 rfl
theorem dX3_strokesMissing_47 : decode cX3_strokesMissing 47 = .ok (.invokevirtual 58, 3) := dt_of DA_X3_strokesMissing_0 27 rfl
theorem dX3_strokesMissing_50 : decode cX3_strokesMissing 50 = .ok (.ifCond .eq 5, 3) := dt_of DA_X3_strokesMissing_0 28 rfl
theorem dX3_strokesMissing_53 : decode cX3_strokesMissing 53 = .ok (.iload_n 3, 1) := dt_of DA_X3_strokesMissing_0 29 rfl
theorem dX3_strokesMissing_54 : decode cX3_strokesMissing 54 = .ok (.ireturn, 1) := dt_of DA_X3_strokesMissing_0 30 rfl
theorem dX3_strokesMissing_55 : decode cX3_strokesMissing 55 = .ok (.iinc 3 1, 3) := dt_of DA_X3_strokesMissing_0 31 rfl
theorem dX3_strokesMissing_58 : decode cX3_strokesMissing 58 = .ok (.goto (-56), 3) := dt_of DA_X3_strokesMissing_0 32 rfl
theorem dX3_strokesMissing_61 : decode cX3_strokesMissing 61 = .ok (.ldc 39, 2) := dt_of DA_X3_strokesMissing_0 33 rfl
theorem dX3_strokesMissing_63 : decode cX3_strokesMissing 63 = .ok (.ireturn, 1) := dt_of DA_X3_strokesMissing_0 34 rfl
def DT_X3_isNeverSilent_0 : List (Nat × Instr × Nat) := [(0, .iconst 0, 1), (1, .istore_n 3, 1), (2, .iload_n 3, 1), (3, .iload_n 2, 1), (4, .if_icmp .ge 38, 3), (7, .aload_n 0, 1), (8, .getfield 21, 3), (11, .aload_n 0, 1), (12, .getfield 12, 3), (15, .iconst 0, 1), (16, .invokevirtual 29, 3), (19, .aload_n 0, 1), (20, .getfield 12, 3), (23, .aload_n 0, 1), (24, .getfield 18, 3), (27, .iload_n 1, 1), (28, .invokevirtual 44, 3), (31, .ifCond .eq 5, 3), (34, .iconst 0, 1), (35, .ireturn, 1), (36, .iinc 3 1, 3), (39, .goto (-37), 3), (42, .iconst 1, 1), (43, .ireturn, 1)]
theorem DA_X3_isNeverSilent_0 : DT_X3_isNeverSilent_0.all (dtf cX3_isNeverSilent) = true := by decide +kernel
theorem dX3_isNeverSilent_0 : decode cX3_isNeverSilent 0 = .ok (.iconst 0, 1) := dt_of DA_X3_isNeverSilent_0 0 rfl
theorem dX3_isNeverSilent_1 : decode cX3_isNeverSilent 1 = .ok (.istore_n 3, 1) := dt_of DA_X3_isNeverSilent_0 1 rfl
theorem dX3_isNeverSilent_2 : decode cX3_isNeverSilent 2 = .ok (.iload_n 3, 1) := dt_of DA_X3_isNeverSilent_0 2 rfl
theorem dX3_isNeverSilent_3 : decode cX3_isNeverSilent 3 = .ok (.iload_n 2, 1) := dt_of DA_X3_isNeverSilent_0 3 rfl
theorem dX3_isNeverSilent_4 : decode cX3_isNeverSilent 4 = .ok (.if_icmp .ge 38, 3) := dt_of DA_X3_isNeverSilent_0 4 rfl
theorem dX3_isNeverSilent_7 : decode cX3_isNeverSilent 7 = .ok (.aload_n 0, 1) := dt_of DA_X3_isNeverSilent_0 5 rfl
theorem dX3_isNeverSilent_8 : decode cX3_isNeverSilent 8 = .ok (.getfield 21, 3) := dt_of DA_X3_isNeverSilent_0 6 rfl
theorem dX3_isNeverSilent_11 : decode cX3_isNeverSilent 11 = .ok (.aload_n 0, 1) := dt_of DA_X3_isNeverSilent_0 7 rfl
theorem dX3_isNeverSilent_12 : decode cX3_isNeverSilent 12 = .ok (.getfield 12, 3) := dt_of DA_X3_isNeverSilent_0 8 rfl
theorem dX3_isNeverSilent_15 : decode cX3_isNeverSilent 15 = .ok (.iconst 0, 1) := dt_of DA_X3_isNeverSilent_0 9 rfl
theorem dX3_isNeverSilent_16 : decode cX3_isNeverSilent 16 = .ok (.invokevirtual 29, 3) := dt_of DA_X3_isNeverSilent_0 10 rfl
theorem dX3_isNeverSilent_19 : decode cX3_isNeverSilent 19 = .ok (.aload_n 0, 1) := dt_of DA_X3_isNeverSilent_0 11 rfl
theorem dX3_isNeverSilent_20 : decode cX3_isNeverSilent 20 = .ok (.getfield 12, 3) := dt_of DA_X3_isNeverSilent_0 12 rfl
theorem dX3_isNeverSilent_23 : decode cX3_isNeverSilent 23 = .ok (.aload_n 0, 1) := dt_of DA_X3_isNeverSilent_0 13 rfl
theorem dX3_isNeverSilent_24 : decode cX3_isNeverSilent 24 = .ok (.getfield 18, 3) := dt_of DA_X3_isNeverSilent_0 14 rfl
theorem dX3_isNeverSilent_27 : decode cX3_isNeverSilent 27 = .ok (.iload_n 1, 1) := dt_of DA_X3_isNeverSilent_0 15 rfl
theorem dX3_isNeverSilent_28 : decode cX3_isNeverSilent 28 = .ok (.invokevirtual 44, 3) := dt_of DA_X3_isNeverSilent_0 16 rfl
theorem dX3_isNeverSilent_31 : decode cX3_isNeverSilent 31 = .ok (.ifCond .eq 5, 3) := dt_of DA_X3_isNeverSilent_0 17 rfl
theorem dX3_isNeverSilent_34 : decode cX3_isNeverSilent 34 = .ok (.iconst 0, 1) := dt_of DA_X3_isNeverSilent_0 18 rfl
theorem dX3_isNeverSilent_35 : decode cX3_isNeverSilent 35 = .ok (.ireturn, 1) := dt_of DA_X3_isNeverSilent_0 19 rfl
theorem dX3_isNeverSilent_36 : decode cX3_isNeverSilent 36 = .ok (.iinc 3 1, 3) := dt_of DA_X3_isNeverSilent_0 20 rfl
theorem dX3_isNeverSilent_39 : decode cX3_isNeverSilent 39 = .ok (.goto (-37), 3) := dt_of DA_X3_isNeverSilent_0 21 rfl
theorem dX3_isNeverSilent_42 : decode cX3_isNeverSilent 42 = .ok (.iconst 1, 1) := dt_of DA_X3_isNeverSilent_0 22 rfl
theorem dX3_isNeverSilent_43 : decode cX3_isNeverSilent 43 = .ok (.ireturn, 1) := dt_of DA_X3_isNeverSilent_0 23 rfl
def DT_X3_fittingValues_0 : List (Nat × Instr × Nat) := [(0, .iload 6, 2), (2, .ifCond .ne 7, 3), (5, .iconst 1, 1), (6, .goto 4, 3), (9, .iconst 0, 1), (10, .istore 7, 2), (12, .iload 6, 2), (14, .ifCond .ne 7, 3), (17, .iconst 5, 1), (18, .goto 16, 3), (21, .iload 6, 2), (23, .iconst 3, 1), (24, .if_icmp .ne 8, 3), (27, .bipush 15, 2), (29, .goto 5, 3), (32, .bipush 9, 2), (34, .istore 8, 2), (36, .iconst 0, 1), (37, .istore 9, 2), (39, .iload 7, 2), (41, .istore 10, 2), (43, .iload 10, 2), (45, .iload 8, 2), (47, .if_icmp .gt 53, 3), (50, .aload_n 0, 1), (51, .getfield 12, 3), (54, .aload_n 0, 1), (55, .getfield 18, 3), (58, .invokevirtual 25, 3), (61, .aload_n 0, 1), (62, .iload_n 1, 1), (63, .iload_n 2, 1), (64, .iload 6, 2), (66, .iload 10, 2), (68, .invokevirtual 62, 3), (71, .aload_n 0, 1), (72, .iload_n 1, 1), (73, .iload_n 2, 1), (74, .aload_n 3, 1), (75, .iload 4, 2), (77, .iload 5, 2), (79, .invokevirtual 66, 3), (82, .ifCond .eq 12, 3), (85, .iload 9, 2), (87, .iconst 1, 1), (88, .iload 10, 2), (90, .ishl, 1), (91, .ior, 1), (92, .istore 9, 2), (94, .iinc 10 1, 3), (97, .goto (-54), 3), (100, .iload 9, 2), (102, .ireturn, 1)]
theorem DA_X3_fittingValues_0 : DT_X3_fittingValues_0.all (dtf cX3_fittingValues) = true := by decide +kernel
theorem dX3_fittingValues_0 : decode cX3_fittingValues 0 = .ok (.iload 6, 2) := dt_of DA_X3_fittingValues_0 0 rfl
theorem dX3_fittingValues_2 : decode cX3_fittingValues 2 = .ok (.ifCond .ne 7, 3) := dt_of DA_X3_fittingValues_0 1 rfl
theorem dX3_fittingValues_5 : decode cX3_fittingValues 5 = .ok (.iconst 1, 1) := dt_of DA_X3_fittingValues_0 2 rfl
theorem dX3_fittingValues_6 : decode cX3_fittingValues 6 = .ok (.goto 4, 3) := dt_of DA_X3_fittingValues_0 3 rfl
theorem dX3_fittingValues_9 : decode cX3_fittingValues 9 = .ok (.iconst 0, 1) := dt_of DA_X3_fittingValues_0 4 rfl
theorem dX3_fittingValues_10 : decode cX3_fittingValues 10 = .ok (.istore 7, 2) := dt_of DA_X3_fittingValues_0 5 rfl
theorem dX3_fittingValues_12 : decode cX3_fittingValues 12 = .ok (.iload 6, 2) := dt_of DA_X3_fittingValues_0 6 rfl
theorem dX3_fittingValues_14 : decode cX3_fittingValues 14 = .ok (.ifCond .ne 7, 3) := dt_of DA_X3_fittingValues_0 7 rfl
theorem dX3_fittingValues_17 : decode cX3_fittingValues 17 = .ok (.iconst 5, 1) := dt_of DA_X3_fittingValues_0 8 rfl
theorem dX3_fittingValues_18 : decode cX3_fittingValues 18 = .ok (.goto 16, 3) := dt_of DA_X3_fittingValues_0 9 rfl
theorem dX3_fittingValues_21 : decode cX3_fittingValues 21 = .ok (.iload 6, 2) := dt_of DA_X3_fittingValues_0 10 rfl
theorem dX3_fittingValues_23 : decode cX3_fittingValues 23 = .ok (.iconst 3, 1) := dt_of DA_X3_fittingValues_0 11 rfl
theorem dX3_fittingValues_24 : decode cX3_fittingValues 24 = .ok (.if_icmp .ne 8, 3) := dt_of DA_X3_fittingValues_0 12 rfl
theorem dX3_fittingValues_27 : decode cX3_fittingValues 27 = .ok (.bipush 15, 2) := dt_of DA_X3_fittingValues_0 13 rfl
theorem dX3_fittingValues_29 : decode cX3_fittingValues 29 = .ok (.goto 5, 3) := dt_of DA_X3_fittingValues_0 14 rfl
theorem dX3_fittingValues_32 : decode cX3_fittingValues 32 = .ok (.bipush 9, 2) := dt_of DA_X3_fittingValues_0 15 rfl
theorem dX3_fittingValues_34 : decode cX3_fittingValues 34 = .ok (.istore 8, 2) := dt_of DA_X3_fittingValues_0 16 rfl
theorem dX3_fittingValues_36 : decode cX3_fittingValues 36 = .ok (.iconst 0, 1) := dt_of DA_X3_fittingValues_0 17 rfl
theorem dX3_fittingValues_37 : decode cX3_fittingValues 37 = .ok (.istore 9, 2) := dt_of DA_X3_fittingValues_0 18 rfl
theorem dX3_fittingValues_39 : decode cX3_fittingValues 39 = .ok (.iload 7, 2) := dt_of DA_X3_fittingValues_0 19 rfl
theorem dX3_fittingValues_41 : decode cX3_fittingValues 41 = .ok (.istore 10, 2) := dt_of DA_X3_fittingValues_0 20 rfl
theorem dX3_fittingValues_43 : decode cX3_fittingValues 43 = .ok (.iload 10, 2) := dt_of DA_X3_fittingValues_0 21 rfl
theorem dX3_fittingValues_45 : decode cX3_fittingValues 45 = .ok (.iload 8, 2) := dt_of DA_X3_fittingValues_0 22 rfl
theorem dX3_fittingValues_47 : decode cX3_fittingValues 47 = .ok (.if_icmp .gt 53, 3) := dt_of DA_X3_fittingValues_0 23 rfl
theorem dX3_fittingValues_50 : decode cX3_fittingValues 50 = .ok (.aload_n 0, 1) := dt_of DA_X3_fittingValues_0 24 rfl
theorem dX3_fittingValues_51 : decode cX3_fittingValues 51 = .ok (.getfield 12, 3) := dt_of DA_X3_fittingValues_0 25 rfl
theorem dX3_fittingValues_54 : decode cX3_fittingValues 54 = .ok (.aload_n 0, 1) := dt_of DA_X3_fittingValues_0 26 rfl
theorem dX3_fittingValues_55 : decode cX3_fittingValues 55 = .ok (.getfield 18, 3) := dt_of DA_X3_fittingValues_0 27 rfl
theorem dX3_fittingValues_58 : decode cX3_fittingValues 58 = .ok (.invokevirtual 25, 3) := dt_of DA_X3_fittingValues_0 28 rfl
theorem dX3_fittingValues_61 : decode cX3_fittingValues 61 = .ok (.aload_n 0, 1) := dt_of DA_X3_fittingValues_0 29 rfl
theorem dX3_fittingValues_62 : decode cX3_fittingValues 62 = .ok (.iload_n 1, 1) := dt_of DA_X3_fittingValues_0 30 rfl
theorem dX3_fittingValues_63 : decode cX3_fittingValues 63 = .ok (.iload_n 2, 1) := dt_of DA_X3_fittingValues_0 31 rfl
theorem dX3_fittingValues_64 : decode cX3_fittingValues 64 = .ok (.iload 6, 2) := dt_of DA_X3_fittingValues_0 32 rfl
theorem dX3_fittingValues_66 : decode cX3_fittingValues 66 = .ok (.iload 10, 2) := dt_of DA_X3_fittingValues_0 33 rfl
theorem dX3_fittingValues_68 : decode cX3_fittingValues 68 = .ok (.invokevirtual 62, 3) := dt_of DA_X3_fittingValues_0 34 rfl
theorem dX3_fittingValues_71 : decode cX3_fittingValues 71 = .ok (.aload_n 0, 1) := dt_of DA_X3_fittingValues_0 35 rfl
theorem dX3_fittingValues_72 : decode cX3_fittingValues 72 = .ok (.iload_n 1, 1) := dt_of DA_X3_fittingValues_0 36 rfl
theorem dX3_fittingValues_73 : decode cX3_fittingValues 73 = .ok (.iload_n 2, 1) := dt_of DA_X3_fittingValues_0 37 rfl
theorem dX3_fittingValues_74 : decode cX3_fittingValues 74 = .ok (.aload_n 3, 1) := dt_of DA_X3_fittingValues_0 38 rfl
theorem dX3_fittingValues_75 : decode cX3_fittingValues 75 = .ok (.iload 4, 2) := dt_of DA_X3_fittingValues_0 39 rfl
theorem dX3_fittingValues_77 : decode cX3_fittingValues 77 = .ok (.iload 5, 2) := dt_of DA_X3_fittingValues_0 40 rfl
theorem dX3_fittingValues_79 : decode cX3_fittingValues 79 = .ok (.invokevirtual 66, 3) := dt_of DA_X3_fittingValues_0 41 rfl
theorem dX3_fittingValues_82 : decode cX3_fittingValues 82 = .ok (.ifCond .eq 12, 3) := dt_of DA_X3_fittingValues_0 42 rfl
theorem dX3_fittingValues_85 : decode cX3_fittingValues 85 = .ok (.iload 9, 2) := dt_of DA_X3_fittingValues_0 43 rfl
theorem dX3_fittingValues_87 : decode cX3_fittingValues 87 = .ok (.iconst 1, 1) := dt_of DA_X3_fittingValues_0 44 rfl
theorem dX3_fittingValues_88 : decode cX3_fittingValues 88 = .ok (.iload 10, 2) := dt_of DA_X3_fittingValues_0 45 rfl
theorem dX3_fittingValues_90 : decode cX3_fittingValues 90 = .ok (.ishl, 1) := dt_of DA_X3_fittingValues_0 46 rfl
theorem dX3_fittingValues_91 : decode cX3_fittingValues 91 = .ok (.ior, 1) := dt_of DA_X3_fittingValues_0 47 rfl
theorem dX3_fittingValues_92 : decode cX3_fittingValues 92 = .ok (.istore 9, 2) := dt_of DA_X3_fittingValues_0 48 rfl
theorem dX3_fittingValues_94 : decode cX3_fittingValues 94 = .ok (.iinc 10 1, 3) := dt_of DA_X3_fittingValues_0 49 rfl
theorem dX3_fittingValues_97 : decode cX3_fittingValues 97 = .ok (.goto (-54), 3) := dt_of DA_X3_fittingValues_0 50 rfl
theorem dX3_fittingValues_100 : decode cX3_fittingValues 100 = .ok (.iload 9, 2) := dt_of DA_X3_fittingValues_0 51 rfl
theorem dX3_fittingValues_102 : decode cX3_fittingValues 102 = .ok (.ireturn, 1) := dt_of DA_X3_fittingValues_0 52 rfl
def DT_X3_suppose_0 : List (Nat × Instr × Nat) := [(0, .iload_n 3, 1), (1, .tableswitch 69 0 2 #[27, 41, 55], 27), (28, .aload_n 0, 1), (29, .getfield 12, 3), (32, .getfield 70, 3), (35, .iload_n 2, 1), (36, .iload 4, 2), (38, .iastore, 1), (39, .goto 40, 3), (42, .aload_n 0, 1), (43, .getfield 12, 3), (46, .getfield 48, 3), (49, .iload_n 1, 1), (50, .iload 4, 2), (52, .iastore, 1), (53, .goto 26, 3), (56, .aload_n 0, 1), (57, .getfield 12, 3), (60, .getfield 73, 3), (63, .iload_n 1, 1), (64, .iload 4, 2), (66, .iastore, 1), (67, .goto 12, 3), (70, .aload_n 0, 1), (71, .getfield 12, 3), (74, .iload 4, 2), (76, .putfield 76, 3), (79, .return_, 1)]
theorem DA_X3_suppose_0 : DT_X3_suppose_0.all (dtf cX3_suppose) = true := by decide +kernel
theorem dX3_suppose_0 : decode cX3_suppose 0 = .ok (.iload_n 3, 1) := dt_of DA_X3_suppose_0 0 rfl
theorem dX3_suppose_1 : decode cX3_suppose 1 = .ok (.tableswitch 69 0 2 #[27, 41, 55], 27) := dt_of DA_X3_suppose_0 1 rfl
theorem dX3_suppose_28 : decode cX3_suppose 28 = .ok (.aload_n 0, 1) := dt_of DA_X3_suppose_0 2 rfl
theorem dX3_suppose_29 : decode cX3_suppose 29 = .ok (.getfield 12, 3) := dt_of DA_X3_suppose_0 3 rfl
theorem dX3_suppose_32 : decode cX3_suppose 32 = .ok (.getfield 70, 3) := dt_of DA_X3_suppose_0 4 rfl
theorem dX3_suppose_35 : decode cX3_suppose 35 = .ok (.iload_n 2, 1) := dt_of DA_X3_suppose_0 5 rfl
theorem dX3_suppose_36 : decode cX3_suppose 36 = .ok (.iload 4, 2) := dt_of DA_X3_suppose_0 6 rfl
theorem dX3_suppose_38 : decode cX3_suppose 38 = .ok (.iastore, 1) := dt_of DA_X3_suppose_0 7 rfl
theorem dX3_suppose_39 : decode cX3_suppose 39 = .ok (.goto 40, 3) := dt_of DA_X3_suppose_0 8 rfl
theorem dX3_suppose_42 : decode cX3_suppose 42 = .ok (.aload_n 0, 1) := dt_of DA_X3_suppose_0 9 rfl
theorem dX3_suppose_43 : decode cX3_suppose 43 = .ok (.getfield 12, 3) := dt_of DA_X3_suppose_0 10 rfl
theorem dX3_suppose_46 : decode cX3_suppose 46 = .ok (.getfield 48, 3) := dt_of DA_X3_suppose_0 11 rfl
theorem dX3_suppose_49 : decode cX3_suppose 49 = .ok (.iload_n 1, 1) := dt_of DA_X3_suppose_0 12 rfl
theorem dX3_suppose_50 : decode cX3_suppose 50 = .ok (.iload 4, 2) := dt_of DA_X3_suppose_0 13 rfl
theorem dX3_suppose_52 : decode cX3_suppose 52 = .ok (.iastore, 1) := dt_of DA_X3_suppose_0 14 rfl
theorem dX3_suppose_53 : decode cX3_suppose 53 = .ok (.goto 26, 3) := dt_of DA_X3_suppose_0 15 rfl
theorem dX3_suppose_56 : decode cX3_suppose 56 = .ok (.aload_n 0, 1) := dt_of DA_X3_suppose_0 16 rfl
theorem dX3_suppose_57 : decode cX3_suppose 57 = .ok (.getfield 12, 3) := dt_of DA_X3_suppose_0 17 rfl
theorem dX3_suppose_60 : decode cX3_suppose 60 = .ok (.getfield 73, 3) := dt_of DA_X3_suppose_0 18 rfl
theorem dX3_suppose_63 : decode cX3_suppose 63 = .ok (.iload_n 1, 1) := dt_of DA_X3_suppose_0 19 rfl
theorem dX3_suppose_64 : decode cX3_suppose 64 = .ok (.iload 4, 2) := dt_of DA_X3_suppose_0 20 rfl
theorem dX3_suppose_66 : decode cX3_suppose 66 = .ok (.iastore, 1) := dt_of DA_X3_suppose_0 21 rfl
theorem dX3_suppose_67 : decode cX3_suppose 67 = .ok (.goto 12, 3) := dt_of DA_X3_suppose_0 22 rfl
theorem dX3_suppose_70 : decode cX3_suppose 70 = .ok (.aload_n 0, 1) := dt_of DA_X3_suppose_0 23 rfl
theorem dX3_suppose_71 : decode cX3_suppose 71 = .ok (.getfield 12, 3) := dt_of DA_X3_suppose_0 24 rfl
theorem dX3_suppose_74 : decode cX3_suppose 74 = .ok (.iload 4, 2) := dt_of DA_X3_suppose_0 25 rfl
theorem dX3_suppose_76 : decode cX3_suppose 76 = .ok (.putfield 76, 3) := dt_of DA_X3_suppose_0 26 rfl
theorem dX3_suppose_79 : decode cX3_suppose 79 = .ok (.return_, 1) := dt_of DA_X3_suppose_0 27 rfl
def DT_X3_comesAsTold_0 : List (Nat × Instr × Nat) := [(0, .iload 4, 2), (2, .istore 6, 2), (4, .iload 6, 2), (6, .iload 4, 2), (8, .iload 5, 2), (10, .iadd, 1), (11, .if_icmp .ge 39, 3), (14, .aload_n 0, 1), (15, .getfield 21, 3), (18, .aload_n 0, 1), (19, .getfield 12, 3), (22, .iconst 0, 1), (23, .invokevirtual 29, 3), (26, .aload_n 0, 1), (27, .getfield 12, 3), (30, .iload_n 1, 1), (31, .iload_n 2, 1), (32, .invokevirtual 79, 3), (35, .aload_n 3, 1), (36, .iload 6, 2), (38, .iaload, 1), (39, .if_icmp .eq 5, 3), (42, .iconst 0, 1), (43, .ireturn, 1), (44, .iinc 6 1, 3), (47, .goto (-43), 3), (50, .iconst 1, 1), (51, .ireturn, 1)]
theorem DA_X3_comesAsTold_0 : DT_X3_comesAsTold_0.all (dtf cX3_comesAsTold) = true := by decide +kernel
theorem dX3_comesAsTold_0 : decode cX3_comesAsTold 0 = .ok (.iload 4, 2) := dt_of DA_X3_comesAsTold_0 0 rfl
theorem dX3_comesAsTold_2 : decode cX3_comesAsTold 2 = .ok (.istore 6, 2) := dt_of DA_X3_comesAsTold_0 1 rfl
theorem dX3_comesAsTold_4 : decode cX3_comesAsTold 4 = .ok (.iload 6, 2) := dt_of DA_X3_comesAsTold_0 2 rfl
theorem dX3_comesAsTold_6 : decode cX3_comesAsTold 6 = .ok (.iload 4, 2) := dt_of DA_X3_comesAsTold_0 3 rfl
theorem dX3_comesAsTold_8 : decode cX3_comesAsTold 8 = .ok (.iload 5, 2) := dt_of DA_X3_comesAsTold_0 4 rfl
theorem dX3_comesAsTold_10 : decode cX3_comesAsTold 10 = .ok (.iadd, 1) := dt_of DA_X3_comesAsTold_0 5 rfl
theorem dX3_comesAsTold_11 : decode cX3_comesAsTold 11 = .ok (.if_icmp .ge 39, 3) := dt_of DA_X3_comesAsTold_0 6 rfl
theorem dX3_comesAsTold_14 : decode cX3_comesAsTold 14 = .ok (.aload_n 0, 1) := dt_of DA_X3_comesAsTold_0 7 rfl
theorem dX3_comesAsTold_15 : decode cX3_comesAsTold 15 = .ok (.getfield 21, 3) := dt_of DA_X3_comesAsTold_0 8 rfl
theorem dX3_comesAsTold_18 : decode cX3_comesAsTold 18 = .ok (.aload_n 0, 1) := dt_of DA_X3_comesAsTold_0 9 rfl
theorem dX3_comesAsTold_19 : decode cX3_comesAsTold 19 = .ok (.getfield 12, 3) := dt_of DA_X3_comesAsTold_0 10 rfl
theorem dX3_comesAsTold_22 : decode cX3_comesAsTold 22 = .ok (.iconst 0, 1) := dt_of DA_X3_comesAsTold_0 11 rfl
theorem dX3_comesAsTold_23 : decode cX3_comesAsTold 23 = .ok (.invokevirtual 29, 3) := dt_of DA_X3_comesAsTold_0 12 rfl
theorem dX3_comesAsTold_26 : decode cX3_comesAsTold 26 = .ok (.aload_n 0, 1) := dt_of DA_X3_comesAsTold_0 13 rfl
theorem dX3_comesAsTold_27 : decode cX3_comesAsTold 27 = .ok (.getfield 12, 3) := dt_of DA_X3_comesAsTold_0 14 rfl
theorem dX3_comesAsTold_30 : decode cX3_comesAsTold 30 = .ok (.iload_n 1, 1) := dt_of DA_X3_comesAsTold_0 15 rfl
theorem dX3_comesAsTold_31 : decode cX3_comesAsTold 31 = .ok (.iload_n 2, 1) := dt_of DA_X3_comesAsTold_0 16 rfl
theorem dX3_comesAsTold_32 : decode cX3_comesAsTold 32 = .ok (.invokevirtual 79, 3) := dt_of DA_X3_comesAsTold_0 17 rfl
theorem dX3_comesAsTold_35 : decode cX3_comesAsTold 35 = .ok (.aload_n 3, 1) := dt_of DA_X3_comesAsTold_0 18 rfl
theorem dX3_comesAsTold_36 : decode cX3_comesAsTold 36 = .ok (.iload 6, 2) := dt_of DA_X3_comesAsTold_0 19 rfl
theorem dX3_comesAsTold_38 : decode cX3_comesAsTold 38 = .ok (.iaload, 1) := dt_of DA_X3_comesAsTold_0 20 rfl
theorem dX3_comesAsTold_39 : decode cX3_comesAsTold 39 = .ok (.if_icmp .eq 5, 3) := dt_of DA_X3_comesAsTold_0 21 rfl
theorem dX3_comesAsTold_42 : decode cX3_comesAsTold 42 = .ok (.iconst 0, 1) := dt_of DA_X3_comesAsTold_0 22 rfl
theorem dX3_comesAsTold_43 : decode cX3_comesAsTold 43 = .ok (.ireturn, 1) := dt_of DA_X3_comesAsTold_0 23 rfl
theorem dX3_comesAsTold_44 : decode cX3_comesAsTold 44 = .ok (.iinc 6 1, 3) := dt_of DA_X3_comesAsTold_0 24 rfl
theorem dX3_comesAsTold_47 : decode cX3_comesAsTold 47 = .ok (.goto (-43), 3) := dt_of DA_X3_comesAsTold_0 25 rfl
theorem dX3_comesAsTold_50 : decode cX3_comesAsTold 50 = .ok (.iconst 1, 1) := dt_of DA_X3_comesAsTold_0 26 rfl
theorem dX3_comesAsTold_51 : decode cX3_comesAsTold 51 = .ok (.ireturn, 1) := dt_of DA_X3_comesAsTold_0 27 rfl
def DT_X3_silentBySome_0 : List (Nat × Instr × Nat) := [(0, .iconst 0, 1), (1, .istore_n 3, 1), (2, .iconst 0, 1), (3, .istore 4, 2), (5, .iload 4, 2), (7, .iconst 1, 1), (8, .aload_n 0, 1), (9, .getfield 18, 3), (12, .getfield 40, 3), (15, .ishl, 1), (16, .if_icmp .ge 62, 3), (19, .iload 4, 2), (21, .invokestatic 82, 3), (24, .istore 5, 2), (26, .iload_n 2, 1), (27, .iload 5, 2), (29, .invokestatic 88, 3), (32, .bipush 10, 2), (34, .iload_n 2, 1), (35, .isub, 1), (36, .aload_n 0, 1), (37, .getfield 18, 3), (40, .getfield 40, 3), (43, .iload 5, 2), (45, .isub, 1), (46, .invokestatic 88, 3), (49, .imul, 1), (50, .istore 6, 2), (52, .iload 6, 2), (54, .ifCond .le 18, 3), (57, .aload_n 0, 1), (58, .iload_n 1, 1), (59, .iload 4, 2), (61, .invokevirtual 91, 3), (64, .ifCond .eq 8, 3), (67, .iload_n 3, 1), (68, .iload 6, 2), (70, .iadd, 1), (71, .istore_n 3, 1), (72, .iinc 4 1, 3), (75, .goto (-70), 3), (78, .iload_n 3, 1), (79, .ireturn, 1)]
theorem DA_X3_silentBySome_0 : DT_X3_silentBySome_0.all (dtf cX3_silentBySome) = true := by decide +kernel
theorem dX3_silentBySome_0 : decode cX3_silentBySome 0 = .ok (.iconst 0, 1) := dt_of DA_X3_silentBySome_0 0 rfl
theorem dX3_silentBySome_1 : decode cX3_silentBySome 1 = .ok (.istore_n 3, 1) := dt_of DA_X3_silentBySome_0 1 rfl
theorem dX3_silentBySome_2 : decode cX3_silentBySome 2 = .ok (.iconst 0, 1) := dt_of DA_X3_silentBySome_0 2 rfl
theorem dX3_silentBySome_3 : decode cX3_silentBySome 3 = .ok (.istore 4, 2) := dt_of DA_X3_silentBySome_0 3 rfl
theorem dX3_silentBySome_5 : decode cX3_silentBySome 5 = .ok (.iload 4, 2) := dt_of DA_X3_silentBySome_0 4 rfl
theorem dX3_silentBySome_7 : decode cX3_silentBySome 7 = .ok (.iconst 1, 1) := dt_of DA_X3_silentBySome_0 5 rfl
theorem dX3_silentBySome_8 : decode cX3_silentBySome 8 = .ok (.aload_n 0, 1) := dt_of DA_X3_silentBySome_0 6 rfl
theorem dX3_silentBySome_9 : decode cX3_silentBySome 9 = .ok (.getfield 18, 3) := dt_of DA_X3_silentBySome_0 7 rfl
theorem dX3_silentBySome_12 : decode cX3_silentBySome 12 = .ok (.getfield 40, 3) := dt_of DA_X3_silentBySome_0 8 rfl
theorem dX3_silentBySome_15 : decode cX3_silentBySome 15 = .ok (.ishl, 1) := dt_of DA_X3_silentBySome_0 9 rfl
theorem dX3_silentBySome_16 : decode cX3_silentBySome 16 = .ok (.if_icmp .ge 62, 3) := dt_of DA_X3_silentBySome_0 10 rfl
theorem dX3_silentBySome_19 : decode cX3_silentBySome 19 = .ok (.iload 4, 2) := dt_of DA_X3_silentBySome_0 11 rfl
theorem dX3_silentBySome_21 : decode cX3_silentBySome 21 = .ok (.invokestatic 82, 3) := dt_of DA_X3_silentBySome_0 12 rfl
theorem dX3_silentBySome_24 : decode cX3_silentBySome 24 = .ok (.istore 5, 2) := dt_of DA_X3_silentBySome_0 13 rfl
theorem dX3_silentBySome_26 : decode cX3_silentBySome 26 = .ok (.iload_n 2, 1) := dt_of DA_X3_silentBySome_0 14 rfl
theorem dX3_silentBySome_27 : decode cX3_silentBySome 27 = .ok (.iload 5, 2) := dt_of DA_X3_silentBySome_0 15 rfl
theorem dX3_silentBySome_29 : decode cX3_silentBySome 29 = .ok (.invokestatic 88, 3) := dt_of DA_X3_silentBySome_0 16 rfl
theorem dX3_silentBySome_32 : decode cX3_silentBySome 32 = .ok (.bipush 10, 2) := dt_of DA_X3_silentBySome_0 17 rfl
theorem dX3_silentBySome_34 : decode cX3_silentBySome 34 = .ok (.iload_n 2, 1) := dt_of DA_X3_silentBySome_0 18 rfl
theorem dX3_silentBySome_35 : decode cX3_silentBySome 35 = .ok (.isub, 1) := dt_of DA_X3_silentBySome_0 19 rfl
theorem dX3_silentBySome_36 : decode cX3_silentBySome 36 = .ok (.aload_n 0, 1) := dt_of DA_X3_silentBySome_0 20 rfl
theorem dX3_silentBySome_37 : decode cX3_silentBySome 37 = .ok (.getfield 18, 3) := dt_of DA_X3_silentBySome_0 21 rfl
theorem dX3_silentBySome_40 : decode cX3_silentBySome 40 = .ok (.getfield 40, 3) := dt_of DA_X3_silentBySome_0 22 rfl
theorem dX3_silentBySome_43 : decode cX3_silentBySome 43 = .ok (.iload 5, 2) := dt_of DA_X3_silentBySome_0 23 rfl
theorem dX3_silentBySome_45 : decode cX3_silentBySome 45 = .ok (.isub, 1) := dt_of DA_X3_silentBySome_0 24 rfl
theorem dX3_silentBySome_46 : decode cX3_silentBySome 46 = .ok (.invokestatic 88, 3) := dt_of DA_X3_silentBySome_0 25 rfl
theorem dX3_silentBySome_49 : decode cX3_silentBySome 49 = .ok (.imul, 1) := dt_of DA_X3_silentBySome_0 26 rfl
theorem dX3_silentBySome_50 : decode cX3_silentBySome 50 = .ok (.istore 6, 2) := dt_of DA_X3_silentBySome_0 27 rfl
theorem dX3_silentBySome_52 : decode cX3_silentBySome 52 = .ok (.iload 6, 2) := dt_of DA_X3_silentBySome_0 28 rfl
theorem dX3_silentBySome_54 : decode cX3_silentBySome 54 = .ok (.ifCond .le 18, 3) := dt_of DA_X3_silentBySome_0 29 rfl
theorem dX3_silentBySome_57 : decode cX3_silentBySome 57 = .ok (.aload_n 0, 1) := dt_of DA_X3_silentBySome_0 30 rfl
theorem dX3_silentBySome_58 : decode cX3_silentBySome 58 = .ok (.iload_n 1, 1) := dt_of DA_X3_silentBySome_0 31 rfl
theorem dX3_silentBySome_59 : decode cX3_silentBySome 59 = .ok (.iload 4, 2) := dt_of DA_X3_silentBySome_0 32 rfl
theorem dX3_silentBySome_61 : decode cX3_silentBySome 61 = .ok (.invokevirtual 91, 3) := dt_of DA_X3_silentBySome_0 33 rfl
theorem dX3_silentBySome_64 : decode cX3_silentBySome 64 = .ok (.ifCond .eq 8, 3) := dt_of DA_X3_silentBySome_0 34 rfl
theorem dX3_silentBySome_67 : decode cX3_silentBySome 67 = .ok (.iload_n 3, 1) := dt_of DA_X3_silentBySome_0 35 rfl
theorem dX3_silentBySome_68 : decode cX3_silentBySome 68 = .ok (.iload 6, 2) := dt_of DA_X3_silentBySome_0 36 rfl
theorem dX3_silentBySome_70 : decode cX3_silentBySome 70 = .ok (.iadd, 1) := dt_of DA_X3_silentBySome_0 37 rfl
theorem dX3_silentBySome_71 : decode cX3_silentBySome 71 = .ok (.istore_n 3, 1) := dt_of DA_X3_silentBySome_0 38 rfl
theorem dX3_silentBySome_72 : decode cX3_silentBySome 72 = .ok (.iinc 4 1, 3) := dt_of DA_X3_silentBySome_0 39 rfl
theorem dX3_silentBySome_75 : decode cX3_silentBySome 75 = .ok (.goto (-70), 3) := dt_of DA_X3_silentBySome_0 40 rfl
theorem dX3_silentBySome_78 : decode cX3_silentBySome 78 = .ok (.iload_n 3, 1) := dt_of DA_X3_silentBySome_0 41 rfl
theorem dX3_silentBySome_79 : decode cX3_silentBySome 79 = .ok (.ireturn, 1) := dt_of DA_X3_silentBySome_0 42 rfl
def DT_X3_isSilentWhen_0 : List (Nat × Instr × Nat) := [(0, .aload_n 0, 1), (1, .getfield 12, 3), (4, .aload_n 0, 1), (5, .getfield 18, 3), (8, .invokevirtual 25, 3), (11, .aload_n 0, 1), (12, .getfield 21, 3), (15, .aload_n 0, 1), (16, .getfield 12, 3), (19, .iload_n 2, 1), (20, .invokevirtual 29, 3), (23, .aload_n 0, 1), (24, .getfield 12, 3), (27, .aload_n 0, 1), (28, .getfield 18, 3), (31, .iload_n 1, 1), (32, .invokevirtual 44, 3), (35, .ireturn, 1)]
theorem DA_X3_isSilentWhen_0 : DT_X3_isSilentWhen_0.all (dtf cX3_isSilentWhen) = true := by decide +kernel
theorem dX3_isSilentWhen_0 : decode cX3_isSilentWhen 0 = .ok (.aload_n 0, 1) := dt_of DA_X3_isSilentWhen_0 0 rfl
theorem dX3_isSilentWhen_1 : decode cX3_isSilentWhen 1 = .ok (.getfield 12, 3) := dt_of DA_X3_isSilentWhen_0 1 rfl
theorem dX3_isSilentWhen_4 : decode cX3_isSilentWhen 4 = .ok (.aload_n 0, 1) := dt_of DA_X3_isSilentWhen_0 2 rfl
theorem dX3_isSilentWhen_5 : decode cX3_isSilentWhen 5 = .ok (.getfield 18, 3) := dt_of DA_X3_isSilentWhen_0 3 rfl
theorem dX3_isSilentWhen_8 : decode cX3_isSilentWhen 8 = .ok (.invokevirtual 25, 3) := dt_of DA_X3_isSilentWhen_0 4 rfl
theorem dX3_isSilentWhen_11 : decode cX3_isSilentWhen 11 = .ok (.aload_n 0, 1) := dt_of DA_X3_isSilentWhen_0 5 rfl
theorem dX3_isSilentWhen_12 : decode cX3_isSilentWhen 12 = .ok (.getfield 21, 3) := dt_of DA_X3_isSilentWhen_0 6 rfl
theorem dX3_isSilentWhen_15 : decode cX3_isSilentWhen 15 = .ok (.aload_n 0, 1) := dt_of DA_X3_isSilentWhen_0 7 rfl
theorem dX3_isSilentWhen_16 : decode cX3_isSilentWhen 16 = .ok (.getfield 12, 3) := dt_of DA_X3_isSilentWhen_0 8 rfl
theorem dX3_isSilentWhen_19 : decode cX3_isSilentWhen 19 = .ok (.iload_n 2, 1) := dt_of DA_X3_isSilentWhen_0 9 rfl
theorem dX3_isSilentWhen_20 : decode cX3_isSilentWhen 20 = .ok (.invokevirtual 29, 3) := dt_of DA_X3_isSilentWhen_0 10 rfl
theorem dX3_isSilentWhen_23 : decode cX3_isSilentWhen 23 = .ok (.aload_n 0, 1) := dt_of DA_X3_isSilentWhen_0 11 rfl
theorem dX3_isSilentWhen_24 : decode cX3_isSilentWhen 24 = .ok (.getfield 12, 3) := dt_of DA_X3_isSilentWhen_0 12 rfl
theorem dX3_isSilentWhen_27 : decode cX3_isSilentWhen 27 = .ok (.aload_n 0, 1) := dt_of DA_X3_isSilentWhen_0 13 rfl
theorem dX3_isSilentWhen_28 : decode cX3_isSilentWhen 28 = .ok (.getfield 18, 3) := dt_of DA_X3_isSilentWhen_0 14 rfl
theorem dX3_isSilentWhen_31 : decode cX3_isSilentWhen 31 = .ok (.iload_n 1, 1) := dt_of DA_X3_isSilentWhen_0 15 rfl
theorem dX3_isSilentWhen_32 : decode cX3_isSilentWhen 32 = .ok (.invokevirtual 44, 3) := dt_of DA_X3_isSilentWhen_0 16 rfl
theorem dX3_isSilentWhen_35 : decode cX3_isSilentWhen 35 = .ok (.ireturn, 1) := dt_of DA_X3_isSilentWhen_0 17 rfl
def DT_X3_behindDrawnDays_0 : List (Nat × Instr × Nat) := [(0, .aload_n 0, 1), (1, .getfield 12, 3), (4, .aload_n 0, 1), (5, .getfield 18, 3), (8, .invokevirtual 25, 3), (11, .iload_n 2, 1), (12, .i2l, 1), (13, .lstore_n 3, 1), (14, .iconst 0, 1), (15, .istore 5, 2), (17, .iload 5, 2), (19, .iload_n 1, 1), (20, .if_icmp .ge 60, 3), (23, .lload_n 3, 1), (24, .ldc2_w 94, 3), (27, .lmul, 1), (28, .ldc2_w 96, 3), (31, .lrem, 1), (32, .lstore_n 3, 1), (33, .aload_n 0, 1), (34, .getfield 12, 3), (37, .getfield 73, 3), (40, .lload_n 3, 1), (41, .iconst 1, 1), (42, .aload_n 0, 1), (43, .getfield 12, 3), (46, .getfield 40, 3), (49, .invokestatic 98, 3), (52, .i2l, 1), (53, .lrem, 1), (54, .l2i, 1), (55, .lload_n 3, 1), (56, .ldc2_w 101, 3), (59, .lrem, 1), (60, .l2i, 1), (61, .iastore, 1), (62, .aload_n 0, 1), (63, .getfield 21, 3), (66, .aload_n 0, 1), (67, .getfield 12, 3), (70, .iconst 0, 1), (71, .invokevirtual 29, 3), (74, .iinc 5 1, 3), (77, .goto (-60), 3), (80, .aload_n 0, 1), (81, .getfield 12, 3), (84, .areturn, 1)]
theorem DA_X3_behindDrawnDays_0 : DT_X3_behindDrawnDays_0.all (dtf cX3_behindDrawnDays) = true := by decide +kernel
theorem dX3_behindDrawnDays_0 : decode cX3_behindDrawnDays 0 = .ok (.aload_n 0, 1) := dt_of DA_X3_behindDrawnDays_0 0 rfl
theorem dX3_behindDrawnDays_1 : decode cX3_behindDrawnDays 1 = .ok (.getfield 12, 3) := dt_of DA_X3_behindDrawnDays_0 1 rfl
theorem dX3_behindDrawnDays_4 : decode cX3_behindDrawnDays 4 = .ok (.aload_n 0, 1) := dt_of DA_X3_behindDrawnDays_0 2 rfl
theorem dX3_behindDrawnDays_5 : decode cX3_behindDrawnDays 5 = .ok (.getfield 18, 3) := dt_of DA_X3_behindDrawnDays_0 3 rfl
theorem dX3_behindDrawnDays_8 : decode cX3_behindDrawnDays 8 = .ok (.invokevirtual 25, 3) := dt_of DA_X3_behindDrawnDays_0 4 rfl
theorem dX3_behindDrawnDays_11 : decode cX3_behindDrawnDays 11 = .ok (.iload_n 2, 1) := dt_of DA_X3_behindDrawnDays_0 5 rfl
theorem dX3_behindDrawnDays_12 : decode cX3_behindDrawnDays 12 = .ok (.i2l, 1) := dt_of DA_X3_behindDrawnDays_0 6 rfl
theorem dX3_behindDrawnDays_13 : decode cX3_behindDrawnDays 13 = .ok (.lstore_n 3, 1) := dt_of DA_X3_behindDrawnDays_0 7 rfl
theorem dX3_behindDrawnDays_14 : decode cX3_behindDrawnDays 14 = .ok (.iconst 0, 1) := dt_of DA_X3_behindDrawnDays_0 8 rfl
theorem dX3_behindDrawnDays_15 : decode cX3_behindDrawnDays 15 = .ok (.istore 5, 2) := dt_of DA_X3_behindDrawnDays_0 9 rfl
theorem dX3_behindDrawnDays_17 : decode cX3_behindDrawnDays 17 = .ok (.iload 5, 2) := dt_of DA_X3_behindDrawnDays_0 10 rfl
theorem dX3_behindDrawnDays_19 : decode cX3_behindDrawnDays 19 = .ok (.iload_n 1, 1) := dt_of DA_X3_behindDrawnDays_0 11 rfl
theorem dX3_behindDrawnDays_20 : decode cX3_behindDrawnDays 20 = .ok (.if_icmp .ge 60, 3) := dt_of DA_X3_behindDrawnDays_0 12 rfl
theorem dX3_behindDrawnDays_23 : decode cX3_behindDrawnDays 23 = .ok (.lload_n 3, 1) := dt_of DA_X3_behindDrawnDays_0 13 rfl
theorem dX3_behindDrawnDays_24 : decode cX3_behindDrawnDays 24 = .ok (.ldc2_w 94, 3) := dt_of DA_X3_behindDrawnDays_0 14 rfl
theorem dX3_behindDrawnDays_27 : decode cX3_behindDrawnDays 27 = .ok (.lmul, 1) := dt_of DA_X3_behindDrawnDays_0 15 rfl
theorem dX3_behindDrawnDays_28 : decode cX3_behindDrawnDays 28 = .ok (.ldc2_w 96, 3) := dt_of DA_X3_behindDrawnDays_0 16 rfl
theorem dX3_behindDrawnDays_31 : decode cX3_behindDrawnDays 31 = .ok (.lrem, 1) := dt_of DA_X3_behindDrawnDays_0 17 rfl
theorem dX3_behindDrawnDays_32 : decode cX3_behindDrawnDays 32 = .ok (.lstore_n 3, 1) := dt_of DA_X3_behindDrawnDays_0 18 rfl
theorem dX3_behindDrawnDays_33 : decode cX3_behindDrawnDays 33 = .ok (.aload_n 0, 1) := dt_of DA_X3_behindDrawnDays_0 19 rfl
theorem dX3_behindDrawnDays_34 : decode cX3_behindDrawnDays 34 = .ok (.getfield 12, 3) := dt_of DA_X3_behindDrawnDays_0 20 rfl
theorem dX3_behindDrawnDays_37 : decode cX3_behindDrawnDays 37 = .ok (.getfield 73, 3) := dt_of DA_X3_behindDrawnDays_0 21 rfl
theorem dX3_behindDrawnDays_40 : decode cX3_behindDrawnDays 40 = .ok (.lload_n 3, 1) := dt_of DA_X3_behindDrawnDays_0 22 rfl
theorem dX3_behindDrawnDays_41 : decode cX3_behindDrawnDays 41 = .ok (.iconst 1, 1) := dt_of DA_X3_behindDrawnDays_0 23 rfl
theorem dX3_behindDrawnDays_42 : decode cX3_behindDrawnDays 42 = .ok (.aload_n 0, 1) := dt_of DA_X3_behindDrawnDays_0 24 rfl
theorem dX3_behindDrawnDays_43 : decode cX3_behindDrawnDays 43 = .ok (.getfield 12, 3) := dt_of DA_X3_behindDrawnDays_0 25 rfl
theorem dX3_behindDrawnDays_46 : decode cX3_behindDrawnDays 46 = .ok (.getfield 40, 3) := dt_of DA_X3_behindDrawnDays_0 26 rfl
theorem dX3_behindDrawnDays_49 : decode cX3_behindDrawnDays 49 = .ok (.invokestatic 98, 3) := dt_of DA_X3_behindDrawnDays_0 27 rfl
theorem dX3_behindDrawnDays_52 : decode cX3_behindDrawnDays 52 = .ok (.i2l, 1) := dt_of DA_X3_behindDrawnDays_0 28 rfl
theorem dX3_behindDrawnDays_53 : decode cX3_behindDrawnDays 53 = .ok (.lrem, 1) := dt_of DA_X3_behindDrawnDays_0 29 rfl
theorem dX3_behindDrawnDays_54 : decode cX3_behindDrawnDays 54 = .ok (.l2i, 1) := dt_of DA_X3_behindDrawnDays_0 30 rfl
theorem dX3_behindDrawnDays_55 : decode cX3_behindDrawnDays 55 = .ok (.lload_n 3, 1) := dt_of DA_X3_behindDrawnDays_0 31 rfl
theorem dX3_behindDrawnDays_56 : decode cX3_behindDrawnDays 56 = .ok (.ldc2_w 101, 3) := dt_of DA_X3_behindDrawnDays_0 32 rfl
theorem dX3_behindDrawnDays_59 : decode cX3_behindDrawnDays 59 = .ok (.lrem, 1) := dt_of DA_X3_behindDrawnDays_0 33 rfl
theorem dX3_behindDrawnDays_60 : decode cX3_behindDrawnDays 60 = .ok (.l2i, 1) := dt_of DA_X3_behindDrawnDays_0 34 rfl
theorem dX3_behindDrawnDays_61 : decode cX3_behindDrawnDays 61 = .ok (.iastore, 1) := dt_of DA_X3_behindDrawnDays_0 35 rfl
theorem dX3_behindDrawnDays_62 : decode cX3_behindDrawnDays 62 = .ok (.aload_n 0, 1) := dt_of DA_X3_behindDrawnDays_0 36 rfl
theorem dX3_behindDrawnDays_63 : decode cX3_behindDrawnDays 63 = .ok (.getfield 21, 3) := dt_of DA_X3_behindDrawnDays_0 37 rfl
theorem dX3_behindDrawnDays_66 : decode cX3_behindDrawnDays 66 = .ok (.aload_n 0, 1) := dt_of DA_X3_behindDrawnDays_0 38 rfl
theorem dX3_behindDrawnDays_67 : decode cX3_behindDrawnDays 67 = .ok (.getfield 12, 3) := dt_of DA_X3_behindDrawnDays_0 39 rfl
theorem dX3_behindDrawnDays_70 : decode cX3_behindDrawnDays 70 = .ok (.iconst 0, 1) := dt_of DA_X3_behindDrawnDays_0 40 rfl
theorem dX3_behindDrawnDays_71 : decode cX3_behindDrawnDays 71 = .ok (.invokevirtual 29, 3) := dt_of DA_X3_behindDrawnDays_0 41 rfl
theorem dX3_behindDrawnDays_74 : decode cX3_behindDrawnDays 74 = .ok (.iinc 5 1, 3) := dt_of DA_X3_behindDrawnDays_0 42 rfl
theorem dX3_behindDrawnDays_77 : decode cX3_behindDrawnDays 77 = .ok (.goto (-60), 3) := dt_of DA_X3_behindDrawnDays_0 43 rfl
theorem dX3_behindDrawnDays_80 : decode cX3_behindDrawnDays 80 = .ok (.aload_n 0, 1) := dt_of DA_X3_behindDrawnDays_0 44 rfl
theorem dX3_behindDrawnDays_81 : decode cX3_behindDrawnDays 81 = .ok (.getfield 12, 3) := dt_of DA_X3_behindDrawnDays_0 45 rfl
theorem dX3_behindDrawnDays_84 : decode cX3_behindDrawnDays 84 = .ok (.areturn, 1) := dt_of DA_X3_behindDrawnDays_0 46 rfl
def DT_X4_init_0 : List (Nat × Instr × Nat) := [(0, .aload_n 0, 1), (1, .invokespecial 3, 3), (4, .aload_n 0, 1), (5, .bipush 8, 2), (7, .bipush 40, 2), (9, .multianewarray 9 2, 4), (13, .putfield 11, 3), (16, .aload_n 0, 1), (17, .bipush 8, 2), (19, .newarray .int, 2), (21, .putfield 16, 3), (24, .aload_n 0, 1), (25, .bipush 8, 2), (27, .newarray .int, 2), (29, .putfield 20, 3), (32, .aload_n 0, 1), (33, .bipush 8, 2), (35, .newarray .boolean, 2), (37, .putfield 23, 3), (40, .return_, 1)]
theorem DA_X4_init_0 : DT_X4_init_0.all (dtf cX4_init) = true := by decide +kernel
theorem dX4_init_0 : decode cX4_init 0 = .ok (.aload_n 0, 1) := dt_of DA_X4_init_0 0 rfl
theorem dX4_init_1 : decode cX4_init 1 = .ok (.invokespecial 3, 3) := dt_of DA_X4_init_0 1 rfl
theorem dX4_init_4 : decode cX4_init 4 = .ok (.aload_n 0, 1) := dt_of DA_X4_init_0 2 rfl
theorem dX4_init_5 : decode cX4_init 5 = .ok (.bipush 8, 2) := dt_of DA_X4_init_0 3 rfl
theorem dX4_init_7 : decode cX4_init 7 = .ok (.bipush 40, 2) := dt_of DA_X4_init_0 4 rfl
theorem dX4_init_9 : decode cX4_init 9 = .ok (.multianewarray 9 2, 4) := dt_of DA_X4_init_0 5 rfl
theorem dX4_init_13 : decode cX4_init 13 = .ok (.putfield 11, 3) := dt_of DA_X4_init_0 6 rfl
theorem dX4_init_16 : decode cX4_init 16 = .ok (.aload_n 0, 1) := dt_of DA_X4_init_0 7 rfl
theorem dX4_init_17 : decode cX4_init 17 = .ok (.bipush 8, 2) := dt_of DA_X4_init_0 8 rfl
theorem dX4_init_19 : decode cX4_init 19 = .ok (.newarray .int, 2) := dt_of DA_X4_init_0 9 rfl
theorem dX4_init_21 : decode cX4_init 21 = .ok (.putfield 16, 3) := dt_of DA_X4_init_0 10 rfl
theorem dX4_init_24 : decode cX4_init 24 = .ok (.aload_n 0, 1) := dt_of DA_X4_init_0 11 rfl
theorem dX4_init_25 : decode cX4_init 25 = .ok (.bipush 8, 2) := dt_of DA_X4_init_0 12 rfl
theorem dX4_init_27 : decode cX4_init 27 = .ok (.newarray .int, 2) := dt_of DA_X4_init_0 13 rfl
theorem dX4_init_29 : decode cX4_init 29 = .ok (.putfield 20, 3) := dt_of DA_X4_init_0 14 rfl
theorem dX4_init_32 : decode cX4_init 32 = .ok (.aload_n 0, 1) := dt_of DA_X4_init_0 15 rfl
theorem dX4_init_33 : decode cX4_init 33 = .ok (.bipush 8, 2) := dt_of DA_X4_init_0 16 rfl
theorem dX4_init_35 : decode cX4_init 35 = .ok (.newarray .boolean, 2) := dt_of DA_X4_init_0 17 rfl
theorem dX4_init_37 : decode cX4_init 37 = .ok (.putfield 23, 3) := dt_of DA_X4_init_0 18 rfl
theorem dX4_init_40 : decode cX4_init 40 = .ok (.return_, 1) := dt_of DA_X4_init_0 19 rfl
def DT_X4_make_0 : List (Nat × Instr × Nat) := [(0, .iconst 0, 1), (1, .istore 4, 2), (3, .iload 4, 2), (5, .bipush 40, 2), (7, .if_icmp .ge 19, 3), (10, .aload_n 0, 1), (11, .getfield 11, 3), (14, .iload_n 1, 1), (15, .aaload, 1), (16, .iload 4, 2), (18, .iconst 0, 1), (19, .iastore, 1), (20, .iinc 4 1, 3), (23, .goto (-20), 3), (26, .aload_n 0, 1), (27, .getfield 16, 3), (30, .iload_n 1, 1), (31, .iload_n 2, 1), (32, .iastore, 1), (33, .aload_n 0, 1), (34, .getfield 20, 3), (37, .iload_n 1, 1), (38, .iload_n 3, 1), (39, .iastore, 1), (40, .aload_n 0, 1), (41, .getfield 23, 3), (44, .iload_n 1, 1), (45, .iconst 1, 1), (46, .bastore, 1), (47, .return_, 1)]
theorem DA_X4_make_0 : DT_X4_make_0.all (dtf cX4_make) = true := by decide +kernel
theorem dX4_make_0 : decode cX4_make 0 = .ok (.iconst 0, 1) := dt_of DA_X4_make_0 0 rfl
theorem dX4_make_1 : decode cX4_make 1 = .ok (.istore 4, 2) := dt_of DA_X4_make_0 1 rfl
theorem dX4_make_3 : decode cX4_make 3 = .ok (.iload 4, 2) := dt_of DA_X4_make_0 2 rfl
theorem dX4_make_5 : decode cX4_make 5 = .ok (.bipush 40, 2) := dt_of DA_X4_make_0 3 rfl
theorem dX4_make_7 : decode cX4_make 7 = .ok (.if_icmp .ge 19, 3) := dt_of DA_X4_make_0 4 rfl
theorem dX4_make_10 : decode cX4_make 10 = .ok (.aload_n 0, 1) := dt_of DA_X4_make_0 5 rfl
theorem dX4_make_11 : decode cX4_make 11 = .ok (.getfield 11, 3) := dt_of DA_X4_make_0 6 rfl
theorem dX4_make_14 : decode cX4_make 14 = .ok (.iload_n 1, 1) := dt_of DA_X4_make_0 7 rfl
theorem dX4_make_15 : decode cX4_make 15 = .ok (.aaload, 1) := dt_of DA_X4_make_0 8 rfl
theorem dX4_make_16 : decode cX4_make 16 = .ok (.iload 4, 2) := dt_of DA_X4_make_0 9 rfl
theorem dX4_make_18 : decode cX4_make 18 = .ok (.iconst 0, 1) := dt_of DA_X4_make_0 10 rfl
theorem dX4_make_19 : decode cX4_make 19 = .ok (.iastore, 1) := dt_of DA_X4_make_0 11 rfl
theorem dX4_make_20 : decode cX4_make 20 = .ok (.iinc 4 1, 3) := dt_of DA_X4_make_0 12 rfl
theorem dX4_make_23 : decode cX4_make 23 = .ok (.goto (-20), 3) := dt_of DA_X4_make_0 13 rfl
theorem dX4_make_26 : decode cX4_make 26 = .ok (.aload_n 0, 1) := dt_of DA_X4_make_0 14 rfl
theorem dX4_make_27 : decode cX4_make 27 = .ok (.getfield 16, 3) := dt_of DA_X4_make_0 15 rfl
theorem dX4_make_30 : decode cX4_make 30 = .ok (.iload_n 1, 1) := dt_of DA_X4_make_0 16 rfl
theorem dX4_make_31 : decode cX4_make 31 = .ok (.iload_n 2, 1) := dt_of DA_X4_make_0 17 rfl
theorem dX4_make_32 : decode cX4_make 32 = .ok (.iastore, 1) := dt_of DA_X4_make_0 18 rfl
theorem dX4_make_33 : decode cX4_make 33 = .ok (.aload_n 0, 1) := dt_of DA_X4_make_0 19 rfl
theorem dX4_make_34 : decode cX4_make 34 = .ok (.getfield 20, 3) := dt_of DA_X4_make_0 20 rfl
theorem dX4_make_37 : decode cX4_make 37 = .ok (.iload_n 1, 1) := dt_of DA_X4_make_0 21 rfl
theorem dX4_make_38 : decode cX4_make 38 = .ok (.iload_n 3, 1) := dt_of DA_X4_make_0 22 rfl
theorem dX4_make_39 : decode cX4_make 39 = .ok (.iastore, 1) := dt_of DA_X4_make_0 23 rfl
theorem dX4_make_40 : decode cX4_make 40 = .ok (.aload_n 0, 1) := dt_of DA_X4_make_0 24 rfl
theorem dX4_make_41 : decode cX4_make 41 = .ok (.getfield 23, 3) := dt_of DA_X4_make_0 25 rfl
theorem dX4_make_44 : decode cX4_make 44 = .ok (.iload_n 1, 1) := dt_of DA_X4_make_0 26 rfl
theorem dX4_make_45 : decode cX4_make 45 = .ok (.iconst 1, 1) := dt_of DA_X4_make_0 27 rfl
theorem dX4_make_46 : decode cX4_make 46 = .ok (.bastore, 1) := dt_of DA_X4_make_0 28 rfl
theorem dX4_make_47 : decode cX4_make 47 = .ok (.return_, 1) := dt_of DA_X4_make_0 29 rfl
def DT_X4_hasPlaces_0 : List (Nat × Instr × Nat) := [(0, .iload_n 2, 1), (1, .ifCond .lt 33, 3), (4, .iload_n 3, 1), (5, .ifCond .lt 29, 3), (8, .iload_n 2, 1), (9, .aload_n 0, 1), (10, .getfield 20, 3), (13, .iload_n 1, 1), (14, .iaload, 1), (15, .if_icmp .gt 19, 3), (18, .iload_n 3, 1), (19, .aload_n 0, 1), (20, .getfield 20, 3), (23, .iload_n 1, 1), (24, .iaload, 1), (25, .iload_n 2, 1), (26, .isub, 1), (27, .if_icmp .gt 7, 3), (30, .iconst 1, 1), (31, .goto 4, 3), (34, .iconst 0, 1), (35, .ireturn, 1)]
theorem DA_X4_hasPlaces_0 : DT_X4_hasPlaces_0.all (dtf cX4_hasPlaces) = true := by decide +kernel
theorem dX4_hasPlaces_0 : decode cX4_hasPlaces 0 = .ok (.iload_n 2, 1) := dt_of DA_X4_hasPlaces_0 0 rfl
theorem dX4_hasPlaces_1 : decode cX4_hasPlaces 1 = .ok (.ifCond .lt 33, 3) := dt_of DA_X4_hasPlaces_0 1 rfl
theorem dX4_hasPlaces_4 : decode cX4_hasPlaces 4 = .ok (.iload_n 3, 1) := dt_of DA_X4_hasPlaces_0 2 rfl
theorem dX4_hasPlaces_5 : decode cX4_hasPlaces 5 = .ok (.ifCond .lt 29, 3) := dt_of DA_X4_hasPlaces_0 3 rfl
theorem dX4_hasPlaces_8 : decode cX4_hasPlaces 8 = .ok (.iload_n 2, 1) := dt_of DA_X4_hasPlaces_0 4 rfl
theorem dX4_hasPlaces_9 : decode cX4_hasPlaces 9 = .ok (.aload_n 0, 1) := dt_of DA_X4_hasPlaces_0 5 rfl
theorem dX4_hasPlaces_10 : decode cX4_hasPlaces 10 = .ok (.getfield 20, 3) := dt_of DA_X4_hasPlaces_0 6 rfl
theorem dX4_hasPlaces_13 : decode cX4_hasPlaces 13 = .ok (.iload_n 1, 1) := dt_of DA_X4_hasPlaces_0 7 rfl
theorem dX4_hasPlaces_14 : decode cX4_hasPlaces 14 = .ok (.iaload, 1) := dt_of DA_X4_hasPlaces_0 8 rfl
theorem dX4_hasPlaces_15 : decode cX4_hasPlaces 15 = .ok (.if_icmp .gt 19, 3) := dt_of DA_X4_hasPlaces_0 9 rfl
theorem dX4_hasPlaces_18 : decode cX4_hasPlaces 18 = .ok (.iload_n 3, 1) := dt_of DA_X4_hasPlaces_0 10 rfl
theorem dX4_hasPlaces_19 : decode cX4_hasPlaces 19 = .ok (.aload_n 0, 1) := dt_of DA_X4_hasPlaces_0 11 rfl
theorem dX4_hasPlaces_20 : decode cX4_hasPlaces 20 = .ok (.getfield 20, 3) := dt_of DA_X4_hasPlaces_0 12 rfl
theorem dX4_hasPlaces_23 : decode cX4_hasPlaces 23 = .ok (.iload_n 1, 1) := dt_of DA_X4_hasPlaces_0 13 rfl
theorem dX4_hasPlaces_24 : decode cX4_hasPlaces 24 = .ok (.iaload, 1) := dt_of DA_X4_hasPlaces_0 14 rfl
theorem dX4_hasPlaces_25 : decode cX4_hasPlaces 25 = .ok (.iload_n 2, 1) := dt_of DA_X4_hasPlaces_0 15 rfl
theorem dX4_hasPlaces_26 : decode cX4_hasPlaces 26 = .ok (.isub, 1) := dt_of DA_X4_hasPlaces_0 16 rfl
theorem dX4_hasPlaces_27 : decode cX4_hasPlaces 27 = .ok (.if_icmp .gt 7, 3) := dt_of DA_X4_hasPlaces_0 17 rfl
theorem dX4_hasPlaces_30 : decode cX4_hasPlaces 30 = .ok (.iconst 1, 1) := dt_of DA_X4_hasPlaces_0 18 rfl
theorem dX4_hasPlaces_31 : decode cX4_hasPlaces 31 = .ok (.goto 4, 3) := dt_of DA_X4_hasPlaces_0 19 rfl
theorem dX4_hasPlaces_34 : decode cX4_hasPlaces 34 = .ok (.iconst 0, 1) := dt_of DA_X4_hasPlaces_0 20 rfl
theorem dX4_hasPlaces_35 : decode cX4_hasPlaces 35 = .ok (.ireturn, 1) := dt_of DA_X4_hasPlaces_0 21 rfl
def DT_X4_put_0 : List (Nat × Instr × Nat) := [(0, .aload_n 0, 1), (1, .getfield 11, 3), (4, .iload_n 1, 1), (5, .aaload, 1), (6, .iload_n 2, 1), (7, .aload_n 0, 1), (8, .getfield 16, 3), (11, .iload_n 1, 1), (12, .iaload, 1), (13, .ifCond .ne 8, 3), (16, .iload_n 3, 1), (17, .i2b, 1), (18, .goto 19, 3), (21, .aload_n 0, 1), (22, .getfield 16, 3), (25, .iload_n 1, 1), (26, .iaload, 1), (27, .iconst 1, 1), (28, .if_icmp .ne 8, 3), (31, .iload_n 3, 1), (32, .i2s, 1), (33, .goto 4, 3), (36, .iload_n 3, 1), (37, .iastore, 1), (38, .aload_n 0, 1), (39, .getfield 11, 3), (42, .iload_n 1, 1), (43, .aaload, 1), (44, .iload_n 2, 1), (45, .iaload, 1), (46, .ireturn, 1)]
theorem DA_X4_put_0 : DT_X4_put_0.all (dtf cX4_put) = true := by decide +kernel
theorem dX4_put_0 : decode cX4_put 0 = .ok (.aload_n 0, 1) := dt_of DA_X4_put_0 0 rfl
theorem dX4_put_1 : decode cX4_put 1 = .ok (.getfield 11, 3) := dt_of DA_X4_put_0 1 rfl
theorem dX4_put_4 : decode cX4_put 4 = .ok (.iload_n 1, 1) := dt_of DA_X4_put_0 2 rfl
theorem dX4_put_5 : decode cX4_put 5 = .ok (.aaload, 1) := dt_of DA_X4_put_0 3 rfl
theorem dX4_put_6 : decode cX4_put 6 = .ok (.iload_n 2, 1) := dt_of DA_X4_put_0 4 rfl
theorem dX4_put_7 : decode cX4_put 7 = .ok (.aload_n 0, 1) := dt_of DA_X4_put_0 5 rfl
theorem dX4_put_8 : decode cX4_put 8 = .ok (.getfield 16, 3) := dt_of DA_X4_put_0 6 rfl
theorem dX4_put_11 : decode cX4_put 11 = .ok (.iload_n 1, 1) := dt_of DA_X4_put_0 7 rfl
theorem dX4_put_12 : decode cX4_put 12 = .ok (.iaload, 1) := dt_of DA_X4_put_0 8 rfl
theorem dX4_put_13 : decode cX4_put 13 = .ok (.ifCond .ne 8, 3) := dt_of DA_X4_put_0 9 rfl
theorem dX4_put_16 : decode cX4_put 16 = .ok (.iload_n 3, 1) := dt_of DA_X4_put_0 10 rfl
theorem dX4_put_17 : decode cX4_put 17 = .ok (.i2b, 1) := dt_of DA_X4_put_0 11 rfl
theorem dX4_put_18 : decode cX4_put 18 = .ok (.goto 19, 3) := dt_of DA_X4_put_0 12 rfl
theorem dX4_put_21 : decode cX4_put 21 = .ok (.aload_n 0, 1) := dt_of DA_X4_put_0 13 rfl
theorem dX4_put_22 : decode cX4_put 22 = .ok (.getfield 16, 3) := dt_of DA_X4_put_0 14 rfl
theorem dX4_put_25 : decode cX4_put 25 = .ok (.iload_n 1, 1) := dt_of DA_X4_put_0 15 rfl
theorem dX4_put_26 : decode cX4_put 26 = .ok (.iaload, 1) := dt_of DA_X4_put_0 16 rfl
theorem dX4_put_27 : decode cX4_put 27 = .ok (.iconst 1, 1) := dt_of DA_X4_put_0 17 rfl
theorem dX4_put_28 : decode cX4_put 28 = .ok (.if_icmp .ne 8, 3) := dt_of DA_X4_put_0 18 rfl
theorem dX4_put_31 : decode cX4_put 31 = .ok (.iload_n 3, 1) := dt_of DA_X4_put_0 19 rfl
theorem dX4_put_32 : decode cX4_put 32 = .ok (.i2s, 1) := dt_of DA_X4_put_0 20 rfl
theorem dX4_put_33 : decode cX4_put 33 = .ok (.goto 4, 3) := dt_of DA_X4_put_0 21 rfl
theorem dX4_put_36 : decode cX4_put 36 = .ok (.iload_n 3, 1) := dt_of DA_X4_put_0 22 rfl
theorem dX4_put_37 : decode cX4_put 37 = .ok (.iastore, 1) := dt_of DA_X4_put_0 23 rfl
theorem dX4_put_38 : decode cX4_put 38 = .ok (.aload_n 0, 1) := dt_of DA_X4_put_0 24 rfl
theorem dX4_put_39 : decode cX4_put 39 = .ok (.getfield 11, 3) := dt_of DA_X4_put_0 25 rfl
theorem dX4_put_42 : decode cX4_put 42 = .ok (.iload_n 1, 1) := dt_of DA_X4_put_0 26 rfl
theorem dX4_put_43 : decode cX4_put 43 = .ok (.aaload, 1) := dt_of DA_X4_put_0 27 rfl
theorem dX4_put_44 : decode cX4_put 44 = .ok (.iload_n 2, 1) := dt_of DA_X4_put_0 28 rfl
theorem dX4_put_45 : decode cX4_put 45 = .ok (.iaload, 1) := dt_of DA_X4_put_0 29 rfl
theorem dX4_put_46 : decode cX4_put 46 = .ok (.ireturn, 1) := dt_of DA_X4_put_0 30 rfl
def DT_X4_howMany_0 : List (Nat × Instr × Nat) := [(0, .iconst 0, 1), (1, .istore_n 1, 1), (2, .iconst 0, 1), (3, .istore_n 2, 1), (4, .iload_n 2, 1), (5, .bipush 8, 2), (7, .if_icmp .ge 26, 3), (10, .iload_n 1, 1), (11, .aload_n 0, 1), (12, .getfield 23, 3), (15, .iload_n 2, 1), (16, .baload, 1), (17, .ifCond .eq 7, 3), (20, .iconst 1, 1), (21, .goto 4, 3), (24, .iconst 0, 1), (25, .iadd, 1), (26, .istore_n 1, 1), (27, .iinc 2 1, 3), (30, .goto (-26), 3), (33, .iload_n 1, 1), (34, .ireturn, 1)]
theorem DA_X4_howMany_0 : DT_X4_howMany_0.all (dtf cX4_howMany) = true := by decide +kernel
theorem dX4_howMany_0 : decode cX4_howMany 0 = .ok (.iconst 0, 1) := dt_of DA_X4_howMany_0 0 rfl
theorem dX4_howMany_1 : decode cX4_howMany 1 = .ok (.istore_n 1, 1) := dt_of DA_X4_howMany_0 1 rfl
theorem dX4_howMany_2 : decode cX4_howMany 2 = .ok (.iconst 0, 1) := dt_of DA_X4_howMany_0 2 rfl
theorem dX4_howMany_3 : decode cX4_howMany 3 = .ok (.istore_n 2, 1) := dt_of DA_X4_howMany_0 3 rfl
theorem dX4_howMany_4 : decode cX4_howMany 4 = .ok (.iload_n 2, 1) := dt_of DA_X4_howMany_0 4 rfl
theorem dX4_howMany_5 : decode cX4_howMany 5 = .ok (.bipush 8, 2) := dt_of DA_X4_howMany_0 5 rfl
theorem dX4_howMany_7 : decode cX4_howMany 7 = .ok (.if_icmp .ge 26, 3) := dt_of DA_X4_howMany_0 6 rfl
theorem dX4_howMany_10 : decode cX4_howMany 10 = .ok (.iload_n 1, 1) := dt_of DA_X4_howMany_0 7 rfl
theorem dX4_howMany_11 : decode cX4_howMany 11 = .ok (.aload_n 0, 1) := dt_of DA_X4_howMany_0 8 rfl
theorem dX4_howMany_12 : decode cX4_howMany 12 = .ok (.getfield 23, 3) := dt_of DA_X4_howMany_0 9 rfl
theorem dX4_howMany_15 : decode cX4_howMany 15 = .ok (.iload_n 2, 1) := dt_of DA_X4_howMany_0 10 rfl
theorem dX4_howMany_16 : decode cX4_howMany 16 = .ok (.baload, 1) := dt_of DA_X4_howMany_0 11 rfl
theorem dX4_howMany_17 : decode cX4_howMany 17 = .ok (.ifCond .eq 7, 3) := dt_of DA_X4_howMany_0 12 rfl
theorem dX4_howMany_20 : decode cX4_howMany 20 = .ok (.iconst 1, 1) := dt_of DA_X4_howMany_0 13 rfl
theorem dX4_howMany_21 : decode cX4_howMany 21 = .ok (.goto 4, 3) := dt_of DA_X4_howMany_0 14 rfl
theorem dX4_howMany_24 : decode cX4_howMany 24 = .ok (.iconst 0, 1) := dt_of DA_X4_howMany_0 15 rfl
theorem dX4_howMany_25 : decode cX4_howMany 25 = .ok (.iadd, 1) := dt_of DA_X4_howMany_0 16 rfl
theorem dX4_howMany_26 : decode cX4_howMany 26 = .ok (.istore_n 1, 1) := dt_of DA_X4_howMany_0 17 rfl
theorem dX4_howMany_27 : decode cX4_howMany 27 = .ok (.iinc 2 1, 3) := dt_of DA_X4_howMany_0 18 rfl
theorem dX4_howMany_30 : decode cX4_howMany 30 = .ok (.goto (-26), 3) := dt_of DA_X4_howMany_0 19 rfl
theorem dX4_howMany_33 : decode cX4_howMany 33 = .ok (.iload_n 1, 1) := dt_of DA_X4_howMany_0 20 rfl
theorem dX4_howMany_34 : decode cX4_howMany 34 = .ok (.ireturn, 1) := dt_of DA_X4_howMany_0 21 rfl
def DT_X5_init_0 : List (Nat × Instr × Nat) := [(0, .aload_n 0, 1), (1, .invokespecial 3, 3), (4, .aload_n 0, 1), (5, .bipush 64, 2), (7, .newarray .int, 2), (9, .putfield 9, 3), (12, .aload_n 0, 1), (13, .bipush 64, 2), (15, .newarray .int, 2), (17, .putfield 15, 3), (20, .return_, 1)]
theorem DA_X5_init_0 : DT_X5_init_0.all (dtf cX5_init) = true := by decide +kernel
theorem dX5_init_0 : decode cX5_init 0 = .ok (.aload_n 0, 1) := dt_of DA_X5_init_0 0 rfl
theorem dX5_init_1 : decode cX5_init 1 = .ok (.invokespecial 3, 3) := dt_of DA_X5_init_0 1 rfl
theorem dX5_init_4 : decode cX5_init 4 = .ok (.aload_n 0, 1) := dt_of DA_X5_init_0 2 rfl
theorem dX5_init_5 : decode cX5_init 5 = .ok (.bipush 64, 2) := dt_of DA_X5_init_0 3 rfl
theorem dX5_init_7 : decode cX5_init 7 = .ok (.newarray .int, 2) := dt_of DA_X5_init_0 4 rfl
theorem dX5_init_9 : decode cX5_init 9 = .ok (.putfield 9, 3) := dt_of DA_X5_init_0 5 rfl
theorem dX5_init_12 : decode cX5_init 12 = .ok (.aload_n 0, 1) := dt_of DA_X5_init_0 6 rfl
theorem dX5_init_13 : decode cX5_init 13 = .ok (.bipush 64, 2) := dt_of DA_X5_init_0 7 rfl
theorem dX5_init_15 : decode cX5_init 15 = .ok (.newarray .int, 2) := dt_of DA_X5_init_0 8 rfl
theorem dX5_init_17 : decode cX5_init 17 = .ok (.putfield 15, 3) := dt_of DA_X5_init_0 9 rfl
theorem dX5_init_20 : decode cX5_init 20 = .ok (.return_, 1) := dt_of DA_X5_init_0 10 rfl
def DT_X5_fewestPayments_0 : List (Nat × Instr × Nat) := [(0, .iconst 1, 1), (1, .aload_n 1, 1), (2, .getfield 18, 3), (5, .ishl, 1), (6, .iconst 1, 1), (7, .isub, 1), (8, .istore_n 2, 1), (9, .aload_n 0, 1), (10, .aload_n 1, 1), (11, .invokevirtual 24, 3), (14, .aload_n 0, 1), (15, .getfield 15, 3), (18, .iconst 0, 1), (19, .iconst 0, 1), (20, .iastore, 1), (21, .iconst 1, 1), (22, .istore_n 3, 1), (23, .iload_n 3, 1), (24, .iload_n 2, 1), (25, .if_icmp .gt 36, 3), (28, .aload_n 0, 1), (29, .getfield 15, 3), (32, .iload_n 3, 1), (33, .aload_n 0, 1), (34, .aload_n 1, 1), (35, .iload_n 3, 1), (36, .invokevirtual 28, 3), (39, .aload_n 0, 1), (40, .getfield 9, 3), (43, .iload_n 3, 1), (44, .iaload, 1), (45, .ifCond .ne 7, 3), (48, .iconst 1, 1), (49, .goto 4, 3), (52, .iconst 0, 1), (53, .iadd, 1), (54, .iastore, 1), (55, .iinc 3 1, 3), (58, .goto (-35), 3), (61, .aload_n 1, 1), (62, .getfield 18, 3), (65, .aload_n 0, 1), (66, .getfield 15, 3), (69, .iload_n 2, 1), (70, .iaload, 1), (71, .isub, 1), (72, .ireturn, 1)]
theorem DA_X5_fewestPayments_0 : DT_X5_fewestPayments_0.all (dtf cX5_fewestPayments) = true := by decide +kernel
theorem dX5_fewestPayments_0 : decode cX5_fewestPayments 0 = .ok (.iconst 1, 1) := dt_of DA_X5_fewestPayments_0 0 rfl
theorem dX5_fewestPayments_1 : decode cX5_fewestPayments 1 = .ok (.aload_n 1, 1) := dt_of DA_X5_fewestPayments_0 1 rfl
theorem dX5_fewestPayments_2 : decode cX5_fewestPayments 2 = .ok (.getfield 18, 3) := dt_of DA_X5_fewestPayments_0 2 rfl
theorem dX5_fewestPayments_5 : decode cX5_fewestPayments 5 = .ok (.ishl, 1) := dt_of DA_X5_fewestPayments_0 3 rfl
theorem dX5_fewestPayments_6 : decode cX5_fewestPayments 6 = .ok (.iconst 1, 1) := dt_of DA_X5_fewestPayments_0 4 rfl
theorem dX5_fewestPayments_7 : decode cX5_fewestPayments 7 = .ok (.isub, 1) := dt_of DA_X5_fewestPayments_0 5 rfl
theorem dX5_fewestPayments_8 : decode cX5_fewestPayments 8 = .ok (.istore_n 2, 1) := dt_of DA_X5_fewestPayments_0 6 rfl
theorem dX5_fewestPayments_9 : decode cX5_fewestPayments 9 = .ok (.aload_n 0, 1) := dt_of DA_X5_fewestPayments_0 7 rfl
theorem dX5_fewestPayments_10 : decode cX5_fewestPayments 10 = .ok (.aload_n 1, 1) := dt_of DA_X5_fewestPayments_0 8 rfl
theorem dX5_fewestPayments_11 : decode cX5_fewestPayments 11 = .ok (.invokevirtual 24, 3) := dt_of DA_X5_fewestPayments_0 9 rfl
theorem dX5_fewestPayments_14 : decode cX5_fewestPayments 14 = .ok (.aload_n 0, 1) := dt_of DA_X5_fewestPayments_0 10 rfl
theorem dX5_fewestPayments_15 : decode cX5_fewestPayments 15 = .ok (.getfield 15, 3) := dt_of DA_X5_fewestPayments_0 11 rfl
theorem dX5_fewestPayments_18 : decode cX5_fewestPayments 18 = .ok (.iconst 0, 1) := dt_of DA_X5_fewestPayments_0 12 rfl
theorem dX5_fewestPayments_19 : decode cX5_fewestPayments 19 = .ok (.iconst 0, 1) := dt_of DA_X5_fewestPayments_0 13 rfl
theorem dX5_fewestPayments_20 : decode cX5_fewestPayments 20 = .ok (.iastore, 1) := dt_of DA_X5_fewestPayments_0 14 rfl
theorem dX5_fewestPayments_21 : decode cX5_fewestPayments 21 = .ok (.iconst 1, 1) := dt_of DA_X5_fewestPayments_0 15 rfl
theorem dX5_fewestPayments_22 : decode cX5_fewestPayments 22 = .ok (.istore_n 3, 1) := dt_of DA_X5_fewestPayments_0 16 rfl
theorem dX5_fewestPayments_23 : decode cX5_fewestPayments 23 = .ok (.iload_n 3, 1) := dt_of DA_X5_fewestPayments_0 17 rfl
theorem dX5_fewestPayments_24 : decode cX5_fewestPayments 24 = .ok (.iload_n 2, 1) := dt_of DA_X5_fewestPayments_0 18 rfl
theorem dX5_fewestPayments_25 : decode cX5_fewestPayments 25 = .ok (.if_icmp .gt 36, 3) := dt_of DA_X5_fewestPayments_0 19 rfl
theorem dX5_fewestPayments_28 : decode cX5_fewestPayments 28 = .ok (.aload_n 0, 1) := dt_of DA_X5_fewestPayments_0 20 rfl
theorem dX5_fewestPayments_29 : decode cX5_fewestPayments 29 = .ok (.getfield 15, 3) := dt_of DA_X5_fewestPayments_0 21 rfl
theorem dX5_fewestPayments_32 : decode cX5_fewestPayments 32 = .ok (.iload_n 3, 1) := dt_of DA_X5_fewestPayments_0 22 rfl
theorem dX5_fewestPayments_33 : decode cX5_fewestPayments 33 = .ok (.aload_n 0, 1) := dt_of DA_X5_fewestPayments_0 23 rfl
theorem dX5_fewestPayments_34 : decode cX5_fewestPayments 34 = .ok (.aload_n 1, 1) := dt_of DA_X5_fewestPayments_0 24 rfl
theorem dX5_fewestPayments_35 : decode cX5_fewestPayments 35 = .ok (.iload_n 3, 1) := dt_of DA_X5_fewestPayments_0 25 rfl
theorem dX5_fewestPayments_36 : decode cX5_fewestPayments 36 = .ok (.invokevirtual 28, 3) := dt_of DA_X5_fewestPayments_0 26 rfl
theorem dX5_fewestPayments_39 : decode cX5_fewestPayments 39 = .ok (.aload_n 0, 1) := dt_of DA_X5_fewestPayments_0 27 rfl
theorem dX5_fewestPayments_40 : decode cX5_fewestPayments 40 = .ok (.getfield 9, 3) := dt_of DA_X5_fewestPayments_0 28 rfl
theorem dX5_fewestPayments_43 : decode cX5_fewestPayments 43 = .ok (.iload_n 3, 1) := dt_of DA_X5_fewestPayments_0 29 rfl
theorem dX5_fewestPayments_44 : decode cX5_fewestPayments 44 = .ok (.iaload, 1) := dt_of DA_X5_fewestPayments_0 30 rfl
theorem dX5_fewestPayments_45 : decode cX5_fewestPayments 45 = .ok (.ifCond .ne 7, 3) := dt_of DA_X5_fewestPayments_0 31 rfl
theorem dX5_fewestPayments_48 : decode cX5_fewestPayments 48 = .ok (.iconst 1, 1) := dt_of DA_X5_fewestPayments_0 32 rfl
theorem dX5_fewestPayments_49 : decode cX5_fewestPayments 49 = .ok (.goto 4, 3) := dt_of DA_X5_fewestPayments_0 33 rfl
theorem dX5_fewestPayments_52 : decode cX5_fewestPayments 52 = .ok (.iconst 0, 1) := dt_of DA_X5_fewestPayments_0 34 rfl
theorem dX5_fewestPayments_53 : decode cX5_fewestPayments 53 = .ok (.iadd, 1) := dt_of DA_X5_fewestPayments_0 35 rfl
theorem dX5_fewestPayments_54 : decode cX5_fewestPayments 54 = .ok (.iastore, 1) := dt_of DA_X5_fewestPayments_0 36 rfl
theorem dX5_fewestPayments_55 : decode cX5_fewestPayments 55 = .ok (.iinc 3 1, 3) := dt_of DA_X5_fewestPayments_0 37 rfl
theorem dX5_fewestPayments_58 : decode cX5_fewestPayments 58 = .ok (.goto (-35), 3) := dt_of DA_X5_fewestPayments_0 38 rfl
theorem dX5_fewestPayments_61 : decode cX5_fewestPayments 61 = .ok (.aload_n 1, 1) := dt_of DA_X5_fewestPayments_0 39 rfl
theorem dX5_fewestPayments_62 : decode cX5_fewestPayments 62 = .ok (.getfield 18, 3) := dt_of DA_X5_fewestPayments_0 40 rfl
theorem dX5_fewestPayments_65 : decode cX5_fewestPayments 65 = .ok (.aload_n 0, 1) := dt_of DA_X5_fewestPayments_0 41 rfl
theorem dX5_fewestPayments_66 : decode cX5_fewestPayments 66 = .ok (.getfield 15, 3) := dt_of DA_X5_fewestPayments_0 42 rfl
theorem dX5_fewestPayments_69 : decode cX5_fewestPayments 69 = .ok (.iload_n 2, 1) := dt_of DA_X5_fewestPayments_0 43 rfl
theorem dX5_fewestPayments_70 : decode cX5_fewestPayments 70 = .ok (.iaload, 1) := dt_of DA_X5_fewestPayments_0 44 rfl
theorem dX5_fewestPayments_71 : decode cX5_fewestPayments 71 = .ok (.isub, 1) := dt_of DA_X5_fewestPayments_0 45 rfl
theorem dX5_fewestPayments_72 : decode cX5_fewestPayments 72 = .ok (.ireturn, 1) := dt_of DA_X5_fewestPayments_0 46 rfl
def DT_X5_sumNets_0 : List (Nat × Instr × Nat) := [(0, .aload_n 0, 1), (1, .getfield 9, 3), (4, .iconst 0, 1), (5, .iconst 0, 1), (6, .iastore, 1), (7, .iconst 0, 1), (8, .istore_n 2, 1), (9, .iload_n 2, 1), (10, .aload_n 1, 1), (11, .getfield 18, 3), (14, .if_icmp .ge 52, 3), (17, .aload_n 1, 1), (18, .iload_n 2, 1), (19, .invokevirtual 32, 3), (22, .istore_n 3, 1), (23, .iconst 0, 1), (24, .istore 4, 2), (26, .iload 4, 2), (28, .iconst 1, 1), (29, .iload_n 2, 1), (30, .ishl, 1), (31, .if_icmp .ge 29, 3), (34, .aload_n 0, 1), (35, .getfield 9, 3), (38, .iload 4, 2), (40, .iconst 1, 1), (41, .iload_n 2, 1), (42, .ishl, 1), (43, .ior, 1), (44, .aload_n 0, 1), (45, .getfield 9, 3), (48, .iload 4, 2), (50, .iaload, 1), (51, .iload_n 3, 1), (52, .iadd, 1), (53, .iastore, 1), (54, .iinc 4 1, 3), (57, .goto (-31), 3), (60, .iinc 2 1, 3), (63, .goto (-54), 3), (66, .return_, 1)]
theorem DA_X5_sumNets_0 : DT_X5_sumNets_0.all (dtf cX5_sumNets) = true := by decide +kernel
theorem dX5_sumNets_0 : decode cX5_sumNets 0 = .ok (.aload_n 0, 1) := dt_of DA_X5_sumNets_0 0 rfl
theorem dX5_sumNets_1 : decode cX5_sumNets 1 = .ok (.getfield 9, 3) := dt_of DA_X5_sumNets_0 1 rfl
theorem dX5_sumNets_4 : decode cX5_sumNets 4 = .ok (.iconst 0, 1) := dt_of DA_X5_sumNets_0 2 rfl
theorem dX5_sumNets_5 : decode cX5_sumNets 5 = .ok (.iconst 0, 1) := dt_of DA_X5_sumNets_0 3 rfl
theorem dX5_sumNets_6 : decode cX5_sumNets 6 = .ok (.iastore, 1) := dt_of DA_X5_sumNets_0 4 rfl
theorem dX5_sumNets_7 : decode cX5_sumNets 7 = .ok (.iconst 0, 1) := dt_of DA_X5_sumNets_0 5 rfl
theorem dX5_sumNets_8 : decode cX5_sumNets 8 = .ok (.istore_n 2, 1) := dt_of DA_X5_sumNets_0 6 rfl
theorem dX5_sumNets_9 : decode cX5_sumNets 9 = .ok (.iload_n 2, 1) := dt_of DA_X5_sumNets_0 7 rfl
theorem dX5_sumNets_10 : decode cX5_sumNets 10 = .ok (.aload_n 1, 1) := dt_of DA_X5_sumNets_0 8 rfl
theorem dX5_sumNets_11 : decode cX5_sumNets 11 = .ok (.getfield 18, 3) := dt_of DA_X5_sumNets_0 9 rfl
theorem dX5_sumNets_14 : decode cX5_sumNets 14 = .ok (.if_icmp .ge 52, 3) := dt_of DA_X5_sumNets_0 10 rfl
theorem dX5_sumNets_17 : decode cX5_sumNets 17 = .ok (.aload_n 1, 1) := dt_of DA_X5_sumNets_0 11 rfl
theorem dX5_sumNets_18 : decode cX5_sumNets 18 = .ok (.iload_n 2, 1) := dt_of DA_X5_sumNets_0 12 rfl
theorem dX5_sumNets_19 : decode cX5_sumNets 19 = .ok (.invokevirtual 32, 3) := dt_of DA_X5_sumNets_0 13 rfl
theorem dX5_sumNets_22 : decode cX5_sumNets 22 = .ok (.istore_n 3, 1) := dt_of DA_X5_sumNets_0 14 rfl
theorem dX5_sumNets_23 : decode cX5_sumNets 23 = .ok (.iconst 0, 1) := dt_of DA_X5_sumNets_0 15 rfl
theorem dX5_sumNets_24 : decode cX5_sumNets 24 = .ok (.istore 4, 2) := dt_of DA_X5_sumNets_0 16 rfl
theorem dX5_sumNets_26 : decode cX5_sumNets 26 = .ok (.iload 4, 2) := dt_of DA_X5_sumNets_0 17 rfl
theorem dX5_sumNets_28 : decode cX5_sumNets 28 = .ok (.iconst 1, 1) := dt_of DA_X5_sumNets_0 18 rfl
theorem dX5_sumNets_29 : decode cX5_sumNets 29 = .ok (.iload_n 2, 1) := dt_of DA_X5_sumNets_0 19 rfl
theorem dX5_sumNets_30 : decode cX5_sumNets 30 = .ok (.ishl, 1) := dt_of DA_X5_sumNets_0 20 rfl
theorem dX5_sumNets_31 : decode cX5_sumNets 31 = .ok (.if_icmp .ge 29, 3) := dt_of DA_X5_sumNets_0 21 rfl
theorem dX5_sumNets_34 : decode cX5_sumNets 34 = .ok (.aload_n 0, 1) := dt_of DA_X5_sumNets_0 22 rfl
theorem dX5_sumNets_35 : decode cX5_sumNets 35 = .ok (.getfield 9, 3) := dt_of DA_X5_sumNets_0 23 rfl
theorem dX5_sumNets_38 : decode cX5_sumNets 38 = .ok (.iload 4, 2) := dt_of DA_X5_sumNets_0 24 rfl
theorem dX5_sumNets_40 : decode cX5_sumNets 40 = .ok (.iconst 1, 1) := dt_of DA_X5_sumNets_0 25 rfl
theorem dX5_sumNets_41 : decode cX5_sumNets 41 = .ok (.iload_n 2, 1) := dt_of DA_X5_sumNets_0 26 rfl
theorem dX5_sumNets_42 : decode cX5_sumNets 42 = .ok (.ishl, 1) := dt_of DA_X5_sumNets_0 27 rfl
theorem dX5_sumNets_43 : decode cX5_sumNets 43 = .ok (.ior, 1) := dt_of DA_X5_sumNets_0 28 rfl
theorem dX5_sumNets_44 : decode cX5_sumNets 44 = .ok (.aload_n 0, 1) := dt_of DA_X5_sumNets_0 29 rfl
theorem dX5_sumNets_45 : decode cX5_sumNets 45 = .ok (.getfield 9, 3) := dt_of DA_X5_sumNets_0 30 rfl
theorem dX5_sumNets_48 : decode cX5_sumNets 48 = .ok (.iload 4, 2) := dt_of DA_X5_sumNets_0 31 rfl
theorem dX5_sumNets_50 : decode cX5_sumNets 50 = .ok (.iaload, 1) := dt_of DA_X5_sumNets_0 32 rfl
theorem dX5_sumNets_51 : decode cX5_sumNets 51 = .ok (.iload_n 3, 1) := dt_of DA_X5_sumNets_0 33 rfl
theorem dX5_sumNets_52 : decode cX5_sumNets 52 = .ok (.iadd, 1) := dt_of DA_X5_sumNets_0 34 rfl
theorem dX5_sumNets_53 : decode cX5_sumNets 53 = .ok (.iastore, 1) := dt_of DA_X5_sumNets_0 35 rfl
theorem dX5_sumNets_54 : decode cX5_sumNets 54 = .ok (.iinc 4 1, 3) := dt_of DA_X5_sumNets_0 36 rfl
theorem dX5_sumNets_57 : decode cX5_sumNets 57 = .ok (.goto (-31), 3) := dt_of DA_X5_sumNets_0 37 rfl
theorem dX5_sumNets_60 : decode cX5_sumNets 60 = .ok (.iinc 2 1, 3) := dt_of DA_X5_sumNets_0 38 rfl
theorem dX5_sumNets_63 : decode cX5_sumNets 63 = .ok (.goto (-54), 3) := dt_of DA_X5_sumNets_0 39 rfl
theorem dX5_sumNets_66 : decode cX5_sumNets 66 = .ok (.return_, 1) := dt_of DA_X5_sumNets_0 40 rfl
def DT_X5_mostGroups_0 : List (Nat × Instr × Nat) := [(0, .iconst 0, 1), (1, .istore_n 3, 1), (2, .iconst 0, 1), (3, .istore 4, 2), (5, .iload 4, 2), (7, .aload_n 1, 1), (8, .getfield 18, 3), (11, .if_icmp .ge 35, 3), (14, .iload_n 2, 1), (15, .iload 4, 2), (17, .ishr, 1), (18, .iconst 1, 1), (19, .iand, 1), (20, .iconst 1, 1), (21, .if_icmp .ne 19, 3), (24, .iload_n 3, 1), (25, .aload_n 0, 1), (26, .getfield 15, 3), (29, .iload_n 2, 1), (30, .iconst 1, 1), (31, .iload 4, 2), (33, .ishl, 1), (34, .ixor, 1), (35, .iaload, 1), (36, .invokestatic 36, 3), (39, .istore_n 3, 1), (40, .iinc 4 1, 3), (43, .goto (-38), 3), (46, .iload_n 3, 1), (47, .ireturn, 1)]
theorem DA_X5_mostGroups_0 : DT_X5_mostGroups_0.all (dtf cX5_mostGroups) = true := by decide +kernel
theorem dX5_mostGroups_0 : decode cX5_mostGroups 0 = .ok (.iconst 0, 1) := dt_of DA_X5_mostGroups_0 0 rfl
theorem dX5_mostGroups_1 : decode cX5_mostGroups 1 = .ok (.istore_n 3, 1) := dt_of DA_X5_mostGroups_0 1 rfl
theorem dX5_mostGroups_2 : decode cX5_mostGroups 2 = .ok (.iconst 0, 1) := dt_of DA_X5_mostGroups_0 2 rfl
theorem dX5_mostGroups_3 : decode cX5_mostGroups 3 = .ok (.istore 4, 2) := dt_of DA_X5_mostGroups_0 3 rfl
theorem dX5_mostGroups_5 : decode cX5_mostGroups 5 = .ok (.iload 4, 2) := dt_of DA_X5_mostGroups_0 4 rfl
theorem dX5_mostGroups_7 : decode cX5_mostGroups 7 = .ok (.aload_n 1, 1) := dt_of DA_X5_mostGroups_0 5 rfl
theorem dX5_mostGroups_8 : decode cX5_mostGroups 8 = .ok (.getfield 18, 3) := dt_of DA_X5_mostGroups_0 6 rfl
theorem dX5_mostGroups_11 : decode cX5_mostGroups 11 = .ok (.if_icmp .ge 35, 3) := dt_of DA_X5_mostGroups_0 7 rfl
theorem dX5_mostGroups_14 : decode cX5_mostGroups 14 = .ok (.iload_n 2, 1) := dt_of DA_X5_mostGroups_0 8 rfl
theorem dX5_mostGroups_15 : decode cX5_mostGroups 15 = .ok (.iload 4, 2) := dt_of DA_X5_mostGroups_0 9 rfl
theorem dX5_mostGroups_17 : decode cX5_mostGroups 17 = .ok (.ishr, 1) := dt_of DA_X5_mostGroups_0 10 rfl
theorem dX5_mostGroups_18 : decode cX5_mostGroups 18 = .ok (.iconst 1, 1) := dt_of DA_X5_mostGroups_0 11 rfl
theorem dX5_mostGroups_19 : decode cX5_mostGroups 19 = .ok (.iand, 1) := dt_of DA_X5_mostGroups_0 12 rfl
theorem dX5_mostGroups_20 : decode cX5_mostGroups 20 = .ok (.iconst 1, 1) := dt_of DA_X5_mostGroups_0 13 rfl
theorem dX5_mostGroups_21 : decode cX5_mostGroups 21 = .ok (.if_icmp .ne 19, 3) := dt_of DA_X5_mostGroups_0 14 rfl
theorem dX5_mostGroups_24 : decode cX5_mostGroups 24 = .ok (.iload_n 3, 1) := dt_of DA_X5_mostGroups_0 15 rfl
theorem dX5_mostGroups_25 : decode cX5_mostGroups 25 = .ok (.aload_n 0, 1) := dt_of DA_X5_mostGroups_0 16 rfl
theorem dX5_mostGroups_26 : decode cX5_mostGroups 26 = .ok (.getfield 15, 3) := dt_of DA_X5_mostGroups_0 17 rfl
theorem dX5_mostGroups_29 : decode cX5_mostGroups 29 = .ok (.iload_n 2, 1) := dt_of DA_X5_mostGroups_0 18 rfl
theorem dX5_mostGroups_30 : decode cX5_mostGroups 30 = .ok (.iconst 1, 1) := dt_of DA_X5_mostGroups_0 19 rfl
theorem dX5_mostGroups_31 : decode cX5_mostGroups 31 = .ok (.iload 4, 2) := dt_of DA_X5_mostGroups_0 20 rfl
theorem dX5_mostGroups_33 : decode cX5_mostGroups 33 = .ok (.ishl, 1) := dt_of DA_X5_mostGroups_0 21 rfl
theorem dX5_mostGroups_34 : decode cX5_mostGroups 34 = .ok (.ixor, 1) := dt_of DA_X5_mostGroups_0 22 rfl
theorem dX5_mostGroups_35 : decode cX5_mostGroups 35 = .ok (.iaload, 1) := dt_of DA_X5_mostGroups_0 23 rfl
theorem dX5_mostGroups_36 : decode cX5_mostGroups 36 = .ok (.invokestatic 36, 3) := dt_of DA_X5_mostGroups_0 24 rfl
theorem dX5_mostGroups_39 : decode cX5_mostGroups 39 = .ok (.istore_n 3, 1) := dt_of DA_X5_mostGroups_0 25 rfl
theorem dX5_mostGroups_40 : decode cX5_mostGroups 40 = .ok (.iinc 4 1, 3) := dt_of DA_X5_mostGroups_0 26 rfl
theorem dX5_mostGroups_43 : decode cX5_mostGroups 43 = .ok (.goto (-38), 3) := dt_of DA_X5_mostGroups_0 27 rfl
theorem dX5_mostGroups_46 : decode cX5_mostGroups 46 = .ok (.iload_n 3, 1) := dt_of DA_X5_mostGroups_0 28 rfl
theorem dX5_mostGroups_47 : decode cX5_mostGroups 47 = .ok (.ireturn, 1) := dt_of DA_X5_mostGroups_0 29 rfl
def DT_X5_leastQuarters_0 : List (Nat × Instr × Nat) := [(0, .iconst 0, 1), (1, .istore_n 2, 1), (2, .iconst 0, 1), (3, .istore_n 3, 1), (4, .iload_n 3, 1), (5, .aload_n 1, 1), (6, .getfield 18, 3), (9, .if_icmp .ge 21, 3), (12, .iload_n 2, 1), (13, .iconst 0, 1), (14, .aload_n 1, 1), (15, .iload_n 3, 1), (16, .invokevirtual 32, 3), (19, .invokestatic 36, 3), (22, .iadd, 1), (23, .istore_n 2, 1), (24, .iinc 3 1, 3), (27, .goto (-23), 3), (30, .iload_n 2, 1), (31, .ireturn, 1)]
theorem DA_X5_leastQuarters_0 : DT_X5_leastQuarters_0.all (dtf cX5_leastQuarters) = true := by decide +kernel
theorem dX5_leastQuarters_0 : decode cX5_leastQuarters 0 = .ok (.iconst 0, 1) := dt_of DA_X5_leastQuarters_0 0 rfl
theorem dX5_leastQuarters_1 : decode cX5_leastQuarters 1 = .ok (.istore_n 2, 1) := dt_of DA_X5_leastQuarters_0 1 rfl
theorem dX5_leastQuarters_2 : decode cX5_leastQuarters 2 = .ok (.iconst 0, 1) := dt_of DA_X5_leastQuarters_0 2 rfl
theorem dX5_leastQuarters_3 : decode cX5_leastQuarters 3 = .ok (.istore_n 3, 1) := dt_of DA_X5_leastQuarters_0 3 rfl
theorem dX5_leastQuarters_4 : decode cX5_leastQuarters 4 = .ok (.iload_n 3, 1) := dt_of DA_X5_leastQuarters_0 4 rfl
theorem dX5_leastQuarters_5 : decode cX5_leastQuarters 5 = .ok (.aload_n 1, 1) := dt_of DA_X5_leastQuarters_0 5 rfl
theorem dX5_leastQuarters_6 : decode cX5_leastQuarters 6 = .ok (.getfield 18, 3) := dt_of DA_X5_leastQuarters_0 6 rfl
theorem dX5_leastQuarters_9 : decode cX5_leastQuarters 9 = .ok (.if_icmp .ge 21, 3) := dt_of DA_X5_leastQuarters_0 7 rfl
theorem dX5_leastQuarters_12 : decode cX5_leastQuarters 12 = .ok (.iload_n 2, 1) := dt_of DA_X5_leastQuarters_0 8 rfl
theorem dX5_leastQuarters_13 : decode cX5_leastQuarters 13 = .ok (.iconst 0, 1) := dt_of DA_X5_leastQuarters_0 9 rfl
theorem dX5_leastQuarters_14 : decode cX5_leastQuarters 14 = .ok (.aload_n 1, 1) := dt_of DA_X5_leastQuarters_0 10 rfl
theorem dX5_leastQuarters_15 : decode cX5_leastQuarters 15 = .ok (.iload_n 3, 1) := dt_of DA_X5_leastQuarters_0 11 rfl
theorem dX5_leastQuarters_16 : decode cX5_leastQuarters 16 = .ok (.invokevirtual 32, 3) := dt_of DA_X5_leastQuarters_0 12 rfl
theorem dX5_leastQuarters_19 : decode cX5_leastQuarters 19 = .ok (.invokestatic 36, 3) := dt_of DA_X5_leastQuarters_0 13 rfl
theorem dX5_leastQuarters_22 : decode cX5_leastQuarters 22 = .ok (.iadd, 1) := dt_of DA_X5_leastQuarters_0 14 rfl
theorem dX5_leastQuarters_23 : decode cX5_leastQuarters 23 = .ok (.istore_n 2, 1) := dt_of DA_X5_leastQuarters_0 15 rfl
theorem dX5_leastQuarters_24 : decode cX5_leastQuarters 24 = .ok (.iinc 3 1, 3) := dt_of DA_X5_leastQuarters_0 16 rfl
theorem dX5_leastQuarters_27 : decode cX5_leastQuarters 27 = .ok (.goto (-23), 3) := dt_of DA_X5_leastQuarters_0 17 rfl
theorem dX5_leastQuarters_30 : decode cX5_leastQuarters 30 = .ok (.iload_n 2, 1) := dt_of DA_X5_leastQuarters_0 18 rfl
theorem dX5_leastQuarters_31 : decode cX5_leastQuarters 31 = .ok (.ireturn, 1) := dt_of DA_X5_leastQuarters_0 19 rfl
def DT_X6_init_0 : List (Nat × Instr × Nat) := [(0, .aload_n 0, 1), (1, .invokespecial 3, 3), (4, .aload_n 0, 1), (5, .sipush 160, 3), (8, .newarray .int, 2), (10, .putfield 9, 3), (13, .return_, 1)]
theorem DA_X6_init_0 : DT_X6_init_0.all (dtf cX6_init) = true := by decide +kernel
theorem dX6_init_0 : decode cX6_init 0 = .ok (.aload_n 0, 1) := dt_of DA_X6_init_0 0 rfl
theorem dX6_init_1 : decode cX6_init 1 = .ok (.invokespecial 3, 3) := dt_of DA_X6_init_0 1 rfl
theorem dX6_init_4 : decode cX6_init 4 = .ok (.aload_n 0, 1) := dt_of DA_X6_init_0 2 rfl
theorem dX6_init_5 : decode cX6_init 5 = .ok (.sipush 160, 3) := dt_of DA_X6_init_0 3 rfl
theorem dX6_init_8 : decode cX6_init 8 = .ok (.newarray .int, 2) := dt_of DA_X6_init_0 4 rfl
theorem dX6_init_10 : decode cX6_init 10 = .ok (.putfield 9, 3) := dt_of DA_X6_init_0 5 rfl
theorem dX6_init_13 : decode cX6_init 13 = .ok (.return_, 1) := dt_of DA_X6_init_0 6 rfl
def DT_X6_takeByte_0 : List (Nat × Instr × Nat) := [(0, .aload_n 0, 1), (1, .getfield 15, 3), (4, .sipush 160, 3), (7, .if_icmp .lt 5, 3), (10, .iconst 0, 1), (11, .ireturn, 1), (12, .aload_n 0, 1), (13, .getfield 9, 3), (16, .aload_n 0, 1), (17, .getfield 15, 3), (20, .iload_n 1, 1), (21, .iastore, 1), (22, .aload_n 0, 1), (23, .dup, 1), (24, .getfield 15, 3), (27, .iconst 1, 1), (28, .iadd, 1), (29, .putfield 15, 3), (32, .iconst 1, 1), (33, .ireturn, 1)]
theorem DA_X6_takeByte_0 : DT_X6_takeByte_0.all (dtf cX6_takeByte) = true := by decide +kernel
theorem dX6_takeByte_0 : decode cX6_takeByte 0 = .ok (.aload_n 0, 1) := dt_of DA_X6_takeByte_0 0 rfl
theorem dX6_takeByte_1 : decode cX6_takeByte 1 = .ok (.getfield 15, 3) := dt_of DA_X6_takeByte_0 1 rfl
theorem dX6_takeByte_4 : decode cX6_takeByte 4 = .ok (.sipush 160, 3) := dt_of DA_X6_takeByte_0 2 rfl
theorem dX6_takeByte_7 : decode cX6_takeByte 7 = .ok (.if_icmp .lt 5, 3) := dt_of DA_X6_takeByte_0 3 rfl
theorem dX6_takeByte_10 : decode cX6_takeByte 10 = .ok (.iconst 0, 1) := dt_of DA_X6_takeByte_0 4 rfl
theorem dX6_takeByte_11 : decode cX6_takeByte 11 = .ok (.ireturn, 1) := dt_of DA_X6_takeByte_0 5 rfl
theorem dX6_takeByte_12 : decode cX6_takeByte 12 = .ok (.aload_n 0, 1) := dt_of DA_X6_takeByte_0 6 rfl
theorem dX6_takeByte_13 : decode cX6_takeByte 13 = .ok (.getfield 9, 3) := dt_of DA_X6_takeByte_0 7 rfl
theorem dX6_takeByte_16 : decode cX6_takeByte 16 = .ok (.aload_n 0, 1) := dt_of DA_X6_takeByte_0 8 rfl
theorem dX6_takeByte_17 : decode cX6_takeByte 17 = .ok (.getfield 15, 3) := dt_of DA_X6_takeByte_0 9 rfl
theorem dX6_takeByte_20 : decode cX6_takeByte 20 = .ok (.iload_n 1, 1) := dt_of DA_X6_takeByte_0 10 rfl
theorem dX6_takeByte_21 : decode cX6_takeByte 21 = .ok (.iastore, 1) := dt_of DA_X6_takeByte_0 11 rfl
theorem dX6_takeByte_22 : decode cX6_takeByte 22 = .ok (.aload_n 0, 1) := dt_of DA_X6_takeByte_0 12 rfl
theorem dX6_takeByte_23 : decode cX6_takeByte 23 = .ok (.dup, 1) := dt_of DA_X6_takeByte_0 13 rfl
theorem dX6_takeByte_24 : decode cX6_takeByte 24 = .ok (.getfield 15, 3) := dt_of DA_X6_takeByte_0 14 rfl
theorem dX6_takeByte_27 : decode cX6_takeByte 27 = .ok (.iconst 1, 1) := dt_of DA_X6_takeByte_0 15 rfl
theorem dX6_takeByte_28 : decode cX6_takeByte 28 = .ok (.iadd, 1) := dt_of DA_X6_takeByte_0 16 rfl
theorem dX6_takeByte_29 : decode cX6_takeByte 29 = .ok (.putfield 15, 3) := dt_of DA_X6_takeByte_0 17 rfl
theorem dX6_takeByte_32 : decode cX6_takeByte 32 = .ok (.iconst 1, 1) := dt_of DA_X6_takeByte_0 18 rfl
theorem dX6_takeByte_33 : decode cX6_takeByte 33 = .ok (.ireturn, 1) := dt_of DA_X6_takeByte_0 19 rfl
def DT_X6_readWhole_0 : List (Nat × Instr × Nat) := [(0, .aload_n 0, 1), (1, .iconst 0, 1), (2, .putfield 19, 3), (5, .aload_n 1, 1), (6, .invokevirtual 22, 3), (9, .aload_n 0, 1), (10, .aload_n 1, 1), (11, .invokevirtual 27, 3), (14, .ifCond .eq 23, 3), (17, .aload_n 0, 1), (18, .aload_n 1, 1), (19, .invokevirtual 31, 3), (22, .ifCond .eq 15, 3), (25, .aload_n 0, 1), (26, .aload_n 1, 1), (27, .invokevirtual 34, 3), (30, .ifCond .eq 7, 3), (33, .iconst 1, 1), (34, .goto 4, 3), (37, .iconst 0, 1), (38, .istore_n 2, 1), (39, .aload_n 0, 1), (40, .iconst 0, 1), (41, .putfield 15, 3), (44, .iload_n 2, 1), (45, .ireturn, 1)]
theorem DA_X6_readWhole_0 : DT_X6_readWhole_0.all (dtf cX6_readWhole) = true := by decide +kernel
theorem dX6_readWhole_0 : decode cX6_readWhole 0 = .ok (.aload_n 0, 1) := dt_of DA_X6_readWhole_0 0 rfl
theorem dX6_readWhole_1 : decode cX6_readWhole 1 = .ok (.iconst 0, 1) := dt_of DA_X6_readWhole_0 1 rfl
theorem dX6_readWhole_2 : decode cX6_readWhole 2 = .ok (.putfield 19, 3) := dt_of DA_X6_readWhole_0 2 rfl
theorem dX6_readWhole_5 : decode cX6_readWhole 5 = .ok (.aload_n 1, 1) := dt_of DA_X6_readWhole_0 3 rfl
theorem dX6_readWhole_6 : decode cX6_readWhole 6 = .ok (.invokevirtual 22, 3) := dt_of DA_X6_readWhole_0 4 rfl
theorem dX6_readWhole_9 : decode cX6_readWhole 9 = .ok (.aload_n 0, 1) := dt_of DA_X6_readWhole_0 5 rfl
theorem dX6_readWhole_10 : decode cX6_readWhole 10 = .ok (.aload_n 1, 1) := dt_of DA_X6_readWhole_0 6 rfl
theorem dX6_readWhole_11 : decode cX6_readWhole 11 = .ok (.invokevirtual 27, 3) := dt_of DA_X6_readWhole_0 7 rfl
theorem dX6_readWhole_14 : decode cX6_readWhole 14 = .ok (.ifCond .eq 23, 3) := dt_of DA_X6_readWhole_0 8 rfl
theorem dX6_readWhole_17 : decode cX6_readWhole 17 = .ok (.aload_n 0, 1) := dt_of DA_X6_readWhole_0 9 rfl
theorem dX6_readWhole_18 : decode cX6_readWhole 18 = .ok (.aload_n 1, 1) := dt_of DA_X6_readWhole_0 10 rfl
theorem dX6_readWhole_19 : decode cX6_readWhole 19 = .ok (.invokevirtual 31, 3) := dt_of DA_X6_readWhole_0 11 rfl
theorem dX6_readWhole_22 : decode cX6_readWhole 22 = .ok (.ifCond .eq 15, 3) := dt_of DA_X6_readWhole_0 12 rfl
theorem dX6_readWhole_25 : decode cX6_readWhole 25 = .ok (.aload_n 0, 1) := dt_of DA_X6_readWhole_0 13 rfl
theorem dX6_readWhole_26 : decode cX6_readWhole 26 = .ok (.aload_n 1, 1) := dt_of DA_X6_readWhole_0 14 rfl
theorem dX6_readWhole_27 : decode cX6_readWhole 27 = .ok (.invokevirtual 34, 3) := dt_of DA_X6_readWhole_0 15 rfl
theorem dX6_readWhole_30 : decode cX6_readWhole 30 = .ok (.ifCond .eq 7, 3) := dt_of DA_X6_readWhole_0 16 rfl
theorem dX6_readWhole_33 : decode cX6_readWhole 33 = .ok (.iconst 1, 1) := dt_of DA_X6_readWhole_0 17 rfl
theorem dX6_readWhole_34 : decode cX6_readWhole 34 = .ok (.goto 4, 3) := dt_of DA_X6_readWhole_0 18 rfl
theorem dX6_readWhole_37 : decode cX6_readWhole 37 = .ok (.iconst 0, 1) := dt_of DA_X6_readWhole_0 19 rfl
theorem dX6_readWhole_38 : decode cX6_readWhole 38 = .ok (.istore_n 2, 1) := dt_of DA_X6_readWhole_0 20 rfl
theorem dX6_readWhole_39 : decode cX6_readWhole 39 = .ok (.aload_n 0, 1) := dt_of DA_X6_readWhole_0 21 rfl
theorem dX6_readWhole_40 : decode cX6_readWhole 40 = .ok (.iconst 0, 1) := dt_of DA_X6_readWhole_0 22 rfl
theorem dX6_readWhole_41 : decode cX6_readWhole 41 = .ok (.putfield 15, 3) := dt_of DA_X6_readWhole_0 23 rfl
theorem dX6_readWhole_44 : decode cX6_readWhole 44 = .ok (.iload_n 2, 1) := dt_of DA_X6_readWhole_0 24 rfl
theorem dX6_readWhole_45 : decode cX6_readWhole 45 = .ok (.ireturn, 1) := dt_of DA_X6_readWhole_0 25 rfl
def DT_X6_readLaw_0 : List (Nat × Instr × Nat) := [(0, .aload_n 0, 1), (1, .bipush 118, 2), (3, .invokevirtual 37, 3), (6, .ifCond .ne 5, 3), (9, .iconst 0, 1), (10, .ireturn, 1), (11, .aload_n 1, 1), (12, .aload_n 0, 1), (13, .iconst 0, 1), (14, .bipush 15, 2), (16, .invokevirtual 41, 3), (19, .putfield 45, 3), (22, .aload_n 1, 1), (23, .getfield 45, 3), (26, .ifCond .lt 16, 3), (29, .aload_n 0, 1), (30, .bipush 59, 2), (32, .invokevirtual 37, 3), (35, .ifCond .eq 7, 3), (38, .iconst 1, 1), (39, .goto 4, 3), (42, .iconst 0, 1), (43, .ireturn, 1)]
theorem DA_X6_readLaw_0 : DT_X6_readLaw_0.all (dtf cX6_readLaw) = true := by decide +kernel
theorem dX6_readLaw_0 : decode cX6_readLaw 0 = .ok (.aload_n 0, 1) := dt_of DA_X6_readLaw_0 0 rfl
theorem dX6_readLaw_1 : decode cX6_readLaw 1 = .ok (.bipush 118, 2) := dt_of DA_X6_readLaw_0 1 rfl
theorem dX6_readLaw_3 : decode cX6_readLaw 3 = .ok (.invokevirtual 37, 3) := dt_of DA_X6_readLaw_0 2 rfl
theorem dX6_readLaw_6 : decode cX6_readLaw 6 = .ok (.ifCond .ne 5, 3) := dt_of DA_X6_readLaw_0 3 rfl
theorem dX6_readLaw_9 : decode cX6_readLaw 9 = .ok (.iconst 0, 1) := dt_of DA_X6_readLaw_0 4 rfl
theorem dX6_readLaw_10 : decode cX6_readLaw 10 = .ok (.ireturn, 1) := dt_of DA_X6_readLaw_0 5 rfl
theorem dX6_readLaw_11 : decode cX6_readLaw 11 = .ok (.aload_n 1, 1) := dt_of DA_X6_readLaw_0 6 rfl
theorem dX6_readLaw_12 : decode cX6_readLaw 12 = .ok (.aload_n 0, 1) := dt_of DA_X6_readLaw_0 7 rfl
theorem dX6_readLaw_13 : decode cX6_readLaw 13 = .ok (.iconst 0, 1) := dt_of DA_X6_readLaw_0 8 rfl
theorem dX6_readLaw_14 : decode cX6_readLaw 14 = .ok (.bipush 15, 2) := dt_of DA_X6_readLaw_0 9 rfl
theorem dX6_readLaw_16 : decode cX6_readLaw 16 = .ok (.invokevirtual 41, 3) := dt_of DA_X6_readLaw_0 10 rfl
theorem dX6_readLaw_19 : decode cX6_readLaw 19 = .ok (.putfield 45, 3) := dt_of DA_X6_readLaw_0 11 rfl
theorem dX6_readLaw_22 : decode cX6_readLaw 22 = .ok (.aload_n 1, 1) := dt_of DA_X6_readLaw_0 12 rfl
theorem dX6_readLaw_23 : decode cX6_readLaw 23 = .ok (.getfield 45, 3) := dt_of DA_X6_readLaw_0 13 rfl
theorem dX6_readLaw_26 : decode cX6_readLaw 26 = .ok (.ifCond .lt 16, 3) := dt_of DA_X6_readLaw_0 14 rfl
theorem dX6_readLaw_29 : decode cX6_readLaw 29 = .ok (.aload_n 0, 1) := dt_of DA_X6_readLaw_0 15 rfl
theorem dX6_readLaw_30 : decode cX6_readLaw 30 = .ok (.bipush 59, 2) := dt_of DA_X6_readLaw_0 16 rfl
theorem dX6_readLaw_32 : decode cX6_readLaw 32 = .ok (.invokevirtual 37, 3) := dt_of DA_X6_readLaw_0 17 rfl
theorem dX6_readLaw_35 : decode cX6_readLaw 35 = .ok (.ifCond .eq 7, 3) := dt_of DA_X6_readLaw_0 18 rfl
theorem dX6_readLaw_38 : decode cX6_readLaw 38 = .ok (.iconst 1, 1) := dt_of DA_X6_readLaw_0 19 rfl
theorem dX6_readLaw_39 : decode cX6_readLaw 39 = .ok (.goto 4, 3) := dt_of DA_X6_readLaw_0 20 rfl
theorem dX6_readLaw_42 : decode cX6_readLaw 42 = .ok (.iconst 0, 1) := dt_of DA_X6_readLaw_0 21 rfl
theorem dX6_readLaw_43 : decode cX6_readLaw 43 = .ok (.ireturn, 1) := dt_of DA_X6_readLaw_0 22 rfl
def DT_X6_readBells_0 : List (Nat × Instr × Nat) := [(0, .iconst 0, 1), (1, .istore_n 2, 1), (2, .iload_n 2, 1), (3, .bipush 6, 2), (5, .if_icmp .ge 62, 3), (8, .aload_n 0, 1), (9, .invokevirtual 48, 3), (12, .istore_n 3, 1), (13, .iload_n 3, 1), (14, .ifCond .ne 26, 3), (17, .iload_n 2, 1), (18, .iconst 2, 1), (19, .if_icmp .ge 15, 3), (22, .aload_n 0, 1), (23, .iconst 1, 1), (24, .aload_n 0, 1), (25, .getfield 19, 3), (28, .invokevirtual 52, 3), (31, .ifCond .eq 7, 3), (34, .iconst 1, 1), (35, .goto 4, 3), (38, .iconst 0, 1), (39, .ireturn, 1), (40, .aload_n 0, 1), (41, .dup, 1), (42, .getfield 19, 3), (45, .iconst 1, 1), (46, .iadd, 1), (47, .putfield 19, 3), (50, .aload_n 0, 1), (51, .aload_n 1, 1), (52, .iload_n 3, 1), (53, .invokevirtual 56, 3), (56, .ifCond .ne 5, 3), (59, .iconst 0, 1), (60, .ireturn, 1), (61, .iinc 2 1, 3), (64, .goto (-62), 3), (67, .aload_n 0, 1), (68, .invokevirtual 48, 3), (71, .ifCond .eq 15, 3), (74, .aload_n 0, 1), (75, .iconst 3, 1), (76, .aload_n 0, 1), (77, .getfield 19, 3), (80, .invokevirtual 52, 3), (83, .ifCond .eq 7, 3), (86, .iconst 1, 1), (87, .goto 4, 3), (90, .iconst 0, 1), (91, .ireturn, 1)]
theorem DA_X6_readBells_0 : DT_X6_readBells_0.all (dtf cX6_readBells) = true := by decide +kernel
theorem dX6_readBells_0 : decode cX6_readBells 0 = .ok (.iconst 0, 1) := dt_of DA_X6_readBells_0 0 rfl
theorem dX6_readBells_1 : decode cX6_readBells 1 = .ok (.istore_n 2, 1) := dt_of DA_X6_readBells_0 1 rfl
theorem dX6_readBells_2 : decode cX6_readBells 2 = .ok (.iload_n 2, 1) := dt_of DA_X6_readBells_0 2 rfl
theorem dX6_readBells_3 : decode cX6_readBells 3 = .ok (.bipush 6, 2) := dt_of DA_X6_readBells_0 3 rfl
theorem dX6_readBells_5 : decode cX6_readBells 5 = .ok (.if_icmp .ge 62, 3) := dt_of DA_X6_readBells_0 4 rfl
theorem dX6_readBells_8 : decode cX6_readBells 8 = .ok (.aload_n 0, 1) := dt_of DA_X6_readBells_0 5 rfl
theorem dX6_readBells_9 : decode cX6_readBells 9 = .ok (.invokevirtual 48, 3) := dt_of DA_X6_readBells_0 6 rfl
theorem dX6_readBells_12 : decode cX6_readBells 12 = .ok (.istore_n 3, 1) := dt_of DA_X6_readBells_0 7 rfl
theorem dX6_readBells_13 : decode cX6_readBells 13 = .ok (.iload_n 3, 1) := dt_of DA_X6_readBells_0 8 rfl
theorem dX6_readBells_14 : decode cX6_readBells 14 = .ok (.ifCond .ne 26, 3) := dt_of DA_X6_readBells_0 9 rfl
theorem dX6_readBells_17 : decode cX6_readBells 17 = .ok (.iload_n 2, 1) := dt_of DA_X6_readBells_0 10 rfl
theorem dX6_readBells_18 : decode cX6_readBells 18 = .ok (.iconst 2, 1) := dt_of DA_X6_readBells_0 11 rfl
theorem dX6_readBells_19 : decode cX6_readBells 19 = .ok (.if_icmp .ge 15, 3) := dt_of DA_X6_readBells_0 12 rfl
theorem dX6_readBells_22 : decode cX6_readBells 22 = .ok (.aload_n 0, 1) := dt_of DA_X6_readBells_0 13 rfl
theorem dX6_readBells_23 : decode cX6_readBells 23 = .ok (.iconst 1, 1) := dt_of DA_X6_readBells_0 14 rfl
theorem dX6_readBells_24 : decode cX6_readBells 24 = .ok (.aload_n 0, 1) := dt_of DA_X6_readBells_0 15 rfl
theorem dX6_readBells_25 : decode cX6_readBells 25 = .ok (.getfield 19, 3) := dt_of DA_X6_readBells_0 16 rfl
theorem dX6_readBells_28 : decode cX6_readBells 28 = .ok (.invokevirtual 52, 3) := dt_of DA_X6_readBells_0 17 rfl
theorem dX6_readBells_31 : decode cX6_readBells 31 = .ok (.ifCond .eq 7, 3) := dt_of DA_X6_readBells_0 18 rfl
theorem dX6_readBells_34 : decode cX6_readBells 34 = .ok (.iconst 1, 1) := dt_of DA_X6_readBells_0 19 rfl
theorem dX6_readBells_35 : decode cX6_readBells 35 = .ok (.goto 4, 3) := dt_of DA_X6_readBells_0 20 rfl
theorem dX6_readBells_38 : decode cX6_readBells 38 = .ok (.iconst 0, 1) := dt_of DA_X6_readBells_0 21 rfl
theorem dX6_readBells_39 : decode cX6_readBells 39 = .ok (.ireturn, 1) := dt_of DA_X6_readBells_0 22 rfl
theorem dX6_readBells_40 : decode cX6_readBells 40 = .ok (.aload_n 0, 1) := dt_of DA_X6_readBells_0 23 rfl
theorem dX6_readBells_41 : decode cX6_readBells 41 = .ok (.dup, 1) := dt_of DA_X6_readBells_0 24 rfl
theorem dX6_readBells_42 : decode cX6_readBells 42 = .ok (.getfield 19, 3) := dt_of DA_X6_readBells_0 25 rfl
theorem dX6_readBells_45 : decode cX6_readBells 45 = .ok (.iconst 1, 1) := dt_of DA_X6_readBells_0 26 rfl
theorem dX6_readBells_46 : decode cX6_readBells 46 = .ok (.iadd, 1) := dt_of DA_X6_readBells_0 27 rfl
theorem dX6_readBells_47 : decode cX6_readBells 47 = .ok (.putfield 19, 3) := dt_of DA_X6_readBells_0 28 rfl
theorem dX6_readBells_50 : decode cX6_readBells 50 = .ok (.aload_n 0, 1) := dt_of DA_X6_readBells_0 29 rfl
theorem dX6_readBells_51 : decode cX6_readBells 51 = .ok (.aload_n 1, 1) := dt_of DA_X6_readBells_0 30 rfl
theorem dX6_readBells_52 : decode cX6_readBells 52 = .ok (.iload_n 3, 1) := dt_of DA_X6_readBells_0 31 rfl
theorem dX6_readBells_53 : decode cX6_readBells 53 = .ok (.invokevirtual 56, 3) := dt_of DA_X6_readBells_0 32 rfl
theorem dX6_readBells_56 : decode cX6_readBells 56 = .ok (.ifCond .ne 5, 3) := dt_of DA_X6_readBells_0 33 rfl
theorem dX6_readBells_59 : decode cX6_readBells 59 = .ok (.iconst 0, 1) := dt_of DA_X6_readBells_0 34 rfl
theorem dX6_readBells_60 : decode cX6_readBells 60 = .ok (.ireturn, 1) := dt_of DA_X6_readBells_0 35 rfl
theorem dX6_readBells_61 : decode cX6_readBells 61 = .ok (.iinc 2 1, 3) := dt_of DA_X6_readBells_0 36 rfl
theorem dX6_readBells_64 : decode cX6_readBells 64 = .ok (.goto (-62), 3) := dt_of DA_X6_readBells_0 37 rfl
theorem dX6_readBells_67 : decode cX6_readBells 67 = .ok (.aload_n 0, 1) := dt_of DA_X6_readBells_0 38 rfl
theorem dX6_readBells_68 : decode cX6_readBells 68 = .ok (.invokevirtual 48, 3) := dt_of DA_X6_readBells_0 39 rfl
theorem dX6_readBells_71 : decode cX6_readBells 71 = .ok (.ifCond .eq 15, 3) := dt_of DA_X6_readBells_0 40 rfl
theorem dX6_readBells_74 : decode cX6_readBells 74 = .ok (.aload_n 0, 1) := dt_of DA_X6_readBells_0 41 rfl
theorem dX6_readBells_75 : decode cX6_readBells 75 = .ok (.iconst 3, 1) := dt_of DA_X6_readBells_0 42 rfl
theorem dX6_readBells_76 : decode cX6_readBells 76 = .ok (.aload_n 0, 1) := dt_of DA_X6_readBells_0 43 rfl
theorem dX6_readBells_77 : decode cX6_readBells 77 = .ok (.getfield 19, 3) := dt_of DA_X6_readBells_0 44 rfl
theorem dX6_readBells_80 : decode cX6_readBells 80 = .ok (.invokevirtual 52, 3) := dt_of DA_X6_readBells_0 45 rfl
theorem dX6_readBells_83 : decode cX6_readBells 83 = .ok (.ifCond .eq 7, 3) := dt_of DA_X6_readBells_0 46 rfl
theorem dX6_readBells_86 : decode cX6_readBells 86 = .ok (.iconst 1, 1) := dt_of DA_X6_readBells_0 47 rfl
theorem dX6_readBells_87 : decode cX6_readBells 87 = .ok (.goto 4, 3) := dt_of DA_X6_readBells_0 48 rfl
theorem dX6_readBells_90 : decode cX6_readBells 90 = .ok (.iconst 0, 1) := dt_of DA_X6_readBells_0 49 rfl
theorem dX6_readBells_91 : decode cX6_readBells 91 = .ok (.ireturn, 1) := dt_of DA_X6_readBells_0 50 rfl
def DT_X6_readOneBell_0 : List (Nat × Instr × Nat) := [(0, .aload_n 0, 1), (1, .iconst 0, 1), (2, .bipush 9, 2), (4, .invokevirtual 41, 3), (7, .istore_n 3, 1), (8, .iload_n 3, 1), (9, .ifCond .lt 12, 3), (12, .aload_n 0, 1), (13, .bipush 44, 2), (15, .invokevirtual 37, 3), (18, .ifCond .ne 5, 3), (21, .iconst 0, 1), (22, .ireturn, 1), (23, .aload_n 0, 1), (24, .iconst 0, 1), (25, .bipush 9, 2), (27, .invokevirtual 41, 3), (30, .istore 4, 2), (32, .iload 4, 2), (34, .ifCond .lt 12, 3), (37, .aload_n 0, 1), (38, .bipush 59, 2), (40, .invokevirtual 37, 3), (43, .ifCond .ne 5, 3), (46, .iconst 0, 1), (47, .ireturn, 1), (48, .aload_n 1, 1), (49, .iload_n 2, 1), (50, .iload_n 3, 1), (51, .iload 4, 2), (53, .invokevirtual 60, 3), (56, .iconst 1, 1), (57, .ireturn, 1)]
theorem DA_X6_readOneBell_0 : DT_X6_readOneBell_0.all (dtf cX6_readOneBell) = true := by decide +kernel
theorem dX6_readOneBell_0 : decode cX6_readOneBell 0 = .ok (.aload_n 0, 1) := dt_of DA_X6_readOneBell_0 0 rfl
theorem dX6_readOneBell_1 : decode cX6_readOneBell 1 = .ok (.iconst 0, 1) := dt_of DA_X6_readOneBell_0 1 rfl
theorem dX6_readOneBell_2 : decode cX6_readOneBell 2 = .ok (.bipush 9, 2) := dt_of DA_X6_readOneBell_0 2 rfl
theorem dX6_readOneBell_4 : decode cX6_readOneBell 4 = .ok (.invokevirtual 41, 3) := dt_of DA_X6_readOneBell_0 3 rfl
theorem dX6_readOneBell_7 : decode cX6_readOneBell 7 = .ok (.istore_n 3, 1) := dt_of DA_X6_readOneBell_0 4 rfl
theorem dX6_readOneBell_8 : decode cX6_readOneBell 8 = .ok (.iload_n 3, 1) := dt_of DA_X6_readOneBell_0 5 rfl
theorem dX6_readOneBell_9 : decode cX6_readOneBell 9 = .ok (.ifCond .lt 12, 3) := dt_of DA_X6_readOneBell_0 6 rfl
theorem dX6_readOneBell_12 : decode cX6_readOneBell 12 = .ok (.aload_n 0, 1) := dt_of DA_X6_readOneBell_0 7 rfl
theorem dX6_readOneBell_13 : decode cX6_readOneBell 13 = .ok (.bipush 44, 2) := dt_of DA_X6_readOneBell_0 8 rfl
theorem dX6_readOneBell_15 : decode cX6_readOneBell 15 = .ok (.invokevirtual 37, 3) := dt_of DA_X6_readOneBell_0 9 rfl
theorem dX6_readOneBell_18 : decode cX6_readOneBell 18 = .ok (.ifCond .ne 5, 3) := dt_of DA_X6_readOneBell_0 10 rfl
theorem dX6_readOneBell_21 : decode cX6_readOneBell 21 = .ok (.iconst 0, 1) := dt_of DA_X6_readOneBell_0 11 rfl
theorem dX6_readOneBell_22 : decode cX6_readOneBell 22 = .ok (.ireturn, 1) := dt_of DA_X6_readOneBell_0 12 rfl
theorem dX6_readOneBell_23 : decode cX6_readOneBell 23 = .ok (.aload_n 0, 1) := dt_of DA_X6_readOneBell_0 13 rfl
theorem dX6_readOneBell_24 : decode cX6_readOneBell 24 = .ok (.iconst 0, 1) := dt_of DA_X6_readOneBell_0 14 rfl
theorem dX6_readOneBell_25 : decode cX6_readOneBell 25 = .ok (.bipush 9, 2) := dt_of DA_X6_readOneBell_0 15 rfl
theorem dX6_readOneBell_27 : decode cX6_readOneBell 27 = .ok (.invokevirtual 41, 3) := dt_of DA_X6_readOneBell_0 16 rfl
theorem dX6_readOneBell_30 : decode cX6_readOneBell 30 = .ok (.istore 4, 2) := dt_of DA_X6_readOneBell_0 17 rfl
theorem dX6_readOneBell_32 : decode cX6_readOneBell 32 = .ok (.iload 4, 2) := dt_of DA_X6_readOneBell_0 18 rfl
theorem dX6_readOneBell_34 : decode cX6_readOneBell 34 = .ok (.ifCond .lt 12, 3) := dt_of DA_X6_readOneBell_0 19 rfl
theorem dX6_readOneBell_37 : decode cX6_readOneBell 37 = .ok (.aload_n 0, 1) := dt_of DA_X6_readOneBell_0 20 rfl
theorem dX6_readOneBell_38 : decode cX6_readOneBell 38 = .ok (.bipush 59, 2) := dt_of DA_X6_readOneBell_0 21 rfl
theorem dX6_readOneBell_40 : decode cX6_readOneBell 40 = .ok (.invokevirtual 37, 3) := dt_of DA_X6_readOneBell_0 22 rfl
theorem dX6_readOneBell_43 : decode cX6_readOneBell 43 = .ok (.ifCond .ne 5, 3) := dt_of DA_X6_readOneBell_0 23 rfl
theorem dX6_readOneBell_46 : decode cX6_readOneBell 46 = .ok (.iconst 0, 1) := dt_of DA_X6_readOneBell_0 24 rfl
theorem dX6_readOneBell_47 : decode cX6_readOneBell 47 = .ok (.ireturn, 1) := dt_of DA_X6_readOneBell_0 25 rfl
theorem dX6_readOneBell_48 : decode cX6_readOneBell 48 = .ok (.aload_n 1, 1) := dt_of DA_X6_readOneBell_0 26 rfl
theorem dX6_readOneBell_49 : decode cX6_readOneBell 49 = .ok (.iload_n 2, 1) := dt_of DA_X6_readOneBell_0 27 rfl
theorem dX6_readOneBell_50 : decode cX6_readOneBell 50 = .ok (.iload_n 3, 1) := dt_of DA_X6_readOneBell_0 28 rfl
theorem dX6_readOneBell_51 : decode cX6_readOneBell 51 = .ok (.iload 4, 2) := dt_of DA_X6_readOneBell_0 29 rfl
theorem dX6_readOneBell_53 : decode cX6_readOneBell 53 = .ok (.invokevirtual 60, 3) := dt_of DA_X6_readOneBell_0 30 rfl
theorem dX6_readOneBell_56 : decode cX6_readOneBell 56 = .ok (.iconst 1, 1) := dt_of DA_X6_readOneBell_0 31 rfl
theorem dX6_readOneBell_57 : decode cX6_readOneBell 57 = .ok (.ireturn, 1) := dt_of DA_X6_readOneBell_0 32 rfl
def DT_X6_readDebts_0 : List (Nat × Instr × Nat) := [(0, .iconst 0, 1), (1, .istore_n 2, 1), (2, .iload_n 2, 1), (3, .sipush 160, 3), (6, .if_icmp .ge 30, 3), (9, .aload_n 0, 1), (10, .getfield 19, 3), (13, .aload_n 0, 1), (14, .getfield 15, 3), (17, .if_icmp .ge 19, 3), (20, .aload_n 0, 1), (21, .aload_n 1, 1), (22, .invokevirtual 64, 3), (25, .ifCond .ne 5, 3), (28, .iconst 0, 1), (29, .ireturn, 1), (30, .iinc 2 1, 3), (33, .goto (-31), 3), (36, .iconst 1, 1), (37, .ireturn, 1)]
theorem DA_X6_readDebts_0 : DT_X6_readDebts_0.all (dtf cX6_readDebts) = true := by decide +kernel
theorem dX6_readDebts_0 : decode cX6_readDebts 0 = .ok (.iconst 0, 1) := dt_of DA_X6_readDebts_0 0 rfl
theorem dX6_readDebts_1 : decode cX6_readDebts 1 = .ok (.istore_n 2, 1) := dt_of DA_X6_readDebts_0 1 rfl
theorem dX6_readDebts_2 : decode cX6_readDebts 2 = .ok (.iload_n 2, 1) := dt_of DA_X6_readDebts_0 2 rfl
theorem dX6_readDebts_3 : decode cX6_readDebts 3 = .ok (.sipush 160, 3) := dt_of DA_X6_readDebts_0 3 rfl
theorem dX6_readDebts_6 : decode cX6_readDebts 6 = .ok (.if_icmp .ge 30, 3) := dt_of DA_X6_readDebts_0 4 rfl
theorem dX6_readDebts_9 : decode cX6_readDebts 9 = .ok (.aload_n 0, 1) := dt_of DA_X6_readDebts_0 5 rfl
theorem dX6_readDebts_10 : decode cX6_readDebts 10 = .ok (.getfield 19, 3) := dt_of DA_X6_readDebts_0 6 rfl
theorem dX6_readDebts_13 : decode cX6_readDebts 13 = .ok (.aload_n 0, 1) := dt_of DA_X6_readDebts_0 7 rfl
theorem dX6_readDebts_14 : decode cX6_readDebts 14 = .ok (.getfield 15, 3) := dt_of DA_X6_readDebts_0 8 rfl
theorem dX6_readDebts_17 : decode cX6_readDebts 17 = .ok (.if_icmp .ge 19, 3) := dt_of DA_X6_readDebts_0 9 rfl
theorem dX6_readDebts_20 : decode cX6_readDebts 20 = .ok (.aload_n 0, 1) := dt_of DA_X6_readDebts_0 10 rfl
theorem dX6_readDebts_21 : decode cX6_readDebts 21 = .ok (.aload_n 1, 1) := dt_of DA_X6_readDebts_0 11 rfl
theorem dX6_readDebts_22 : decode cX6_readDebts 22 = .ok (.invokevirtual 64, 3) := dt_of DA_X6_readDebts_0 12 rfl
theorem dX6_readDebts_25 : decode cX6_readDebts 25 = .ok (.ifCond .ne 5, 3) := dt_of DA_X6_readDebts_0 13 rfl
theorem dX6_readDebts_28 : decode cX6_readDebts 28 = .ok (.iconst 0, 1) := dt_of DA_X6_readDebts_0 14 rfl
theorem dX6_readDebts_29 : decode cX6_readDebts 29 = .ok (.ireturn, 1) := dt_of DA_X6_readDebts_0 15 rfl
theorem dX6_readDebts_30 : decode cX6_readDebts 30 = .ok (.iinc 2 1, 3) := dt_of DA_X6_readDebts_0 16 rfl
theorem dX6_readDebts_33 : decode cX6_readDebts 33 = .ok (.goto (-31), 3) := dt_of DA_X6_readDebts_0 17 rfl
theorem dX6_readDebts_36 : decode cX6_readDebts 36 = .ok (.iconst 1, 1) := dt_of DA_X6_readDebts_0 18 rfl
theorem dX6_readDebts_37 : decode cX6_readDebts 37 = .ok (.ireturn, 1) := dt_of DA_X6_readDebts_0 19 rfl
def DT_X6_readOneDebt_0 : List (Nat × Instr × Nat) := [(0, .aload_n 0, 1), (1, .bipush 111, 2), (3, .invokevirtual 37, 3), (6, .ifCond .ne 5, 3), (9, .iconst 0, 1), (10, .ireturn, 1), (11, .aload_n 0, 1), (12, .iconst 0, 1), (13, .aload_n 1, 1), (14, .getfield 67, 3), (17, .iconst 1, 1), (18, .isub, 1), (19, .invokevirtual 41, 3), (22, .istore_n 2, 1), (23, .iload_n 2, 1), (24, .ifCond .lt 12, 3), (27, .aload_n 0, 1), (28, .bipush 44, 2), (30, .invokevirtual 37, 3), (33, .ifCond .ne 5, 3), (36, .iconst 0, 1), (37, .ireturn, 1), (38, .aload_n 0, 1), (39, .aload_n 1, 1), (40, .iload_n 2, 1), (41, .invokevirtual 70, 3), (44, .istore_n 3, 1), (45, .iload_n 3, 1), (46, .ifCond .lt 12, 3), (49, .aload_n 0, 1), (50, .bipush 44, 2), (52, .invokevirtual 37, 3), (55, .ifCond .ne 5, 3), (58, .iconst 0, 1), (59, .ireturn, 1), (60, .aload_n 0, 1), (61, .iconst 1, 1), (62, .bipush 99, 2), (64, .invokevirtual 41, 3), (67, .istore 4, 2), (69, .iload 4, 2), (71, .ifCond .lt 12, 3), (74, .aload_n 0, 1), (75, .bipush 59, 2), (77, .invokevirtual 37, 3), (80, .ifCond .ne 5, 3), (83, .iconst 0, 1), (84, .ireturn, 1), (85, .aload_n 1, 1), (86, .iload_n 2, 1), (87, .iload_n 3, 1), (88, .iload 4, 2), (90, .invokevirtual 74, 3), (93, .iconst 1, 1), (94, .ireturn, 1)]
theorem DA_X6_readOneDebt_0 : DT_X6_readOneDebt_0.all (dtf cX6_readOneDebt) = true := by decide +kernel
theorem dX6_readOneDebt_0 : decode cX6_readOneDebt 0 = .ok (.aload_n 0, 1) := dt_of DA_X6_readOneDebt_0 0 rfl
theorem dX6_readOneDebt_1 : decode cX6_readOneDebt 1 = .ok (.bipush 111, 2) := dt_of DA_X6_readOneDebt_0 1 rfl
theorem dX6_readOneDebt_3 : decode cX6_readOneDebt 3 = .ok (.invokevirtual 37, 3) := dt_of DA_X6_readOneDebt_0 2 rfl
theorem dX6_readOneDebt_6 : decode cX6_readOneDebt 6 = .ok (.ifCond .ne 5, 3) := dt_of DA_X6_readOneDebt_0 3 rfl
theorem dX6_readOneDebt_9 : decode cX6_readOneDebt 9 = .ok (.iconst 0, 1) := dt_of DA_X6_readOneDebt_0 4 rfl
theorem dX6_readOneDebt_10 : decode cX6_readOneDebt 10 = .ok (.ireturn, 1) := dt_of DA_X6_readOneDebt_0 5 rfl
theorem dX6_readOneDebt_11 : decode cX6_readOneDebt 11 = .ok (.aload_n 0, 1) := dt_of DA_X6_readOneDebt_0 6 rfl
theorem dX6_readOneDebt_12 : decode cX6_readOneDebt 12 = .ok (.iconst 0, 1) := dt_of DA_X6_readOneDebt_0 7 rfl
theorem dX6_readOneDebt_13 : decode cX6_readOneDebt 13 = .ok (.aload_n 1, 1) := dt_of DA_X6_readOneDebt_0 8 rfl
theorem dX6_readOneDebt_14 : decode cX6_readOneDebt 14 = .ok (.getfield 67, 3) := dt_of DA_X6_readOneDebt_0 9 rfl
theorem dX6_readOneDebt_17 : decode cX6_readOneDebt 17 = .ok (.iconst 1, 1) := dt_of DA_X6_readOneDebt_0 10 rfl
theorem dX6_readOneDebt_18 : decode cX6_readOneDebt 18 = .ok (.isub, 1) := dt_of DA_X6_readOneDebt_0 11 rfl
theorem dX6_readOneDebt_19 : decode cX6_readOneDebt 19 = .ok (.invokevirtual 41, 3) := dt_of DA_X6_readOneDebt_0 12 rfl
theorem dX6_readOneDebt_22 : decode cX6_readOneDebt 22 = .ok (.istore_n 2, 1) := dt_of DA_X6_readOneDebt_0 13 rfl
theorem dX6_readOneDebt_23 : decode cX6_readOneDebt 23 = .ok (.iload_n 2, 1) := dt_of DA_X6_readOneDebt_0 14 rfl
theorem dX6_readOneDebt_24 : decode cX6_readOneDebt 24 = .ok (.ifCond .lt 12, 3) := dt_of DA_X6_readOneDebt_0 15 rfl
theorem dX6_readOneDebt_27 : decode cX6_readOneDebt 27 = .ok (.aload_n 0, 1) := dt_of DA_X6_readOneDebt_0 16 rfl
theorem dX6_readOneDebt_28 : decode cX6_readOneDebt 28 = .ok (.bipush 44, 2) := dt_of DA_X6_readOneDebt_0 17 rfl
theorem dX6_readOneDebt_30 : decode cX6_readOneDebt 30 = .ok (.invokevirtual 37, 3) := dt_of DA_X6_readOneDebt_0 18 rfl
theorem dX6_readOneDebt_33 : decode cX6_readOneDebt 33 = .ok (.ifCond .ne 5, 3) := dt_of DA_X6_readOneDebt_0 19 rfl
theorem dX6_readOneDebt_36 : decode cX6_readOneDebt 36 = .ok (.iconst 0, 1) := dt_of DA_X6_readOneDebt_0 20 rfl
theorem dX6_readOneDebt_37 : decode cX6_readOneDebt 37 = .ok (.ireturn, 1) := dt_of DA_X6_readOneDebt_0 21 rfl
theorem dX6_readOneDebt_38 : decode cX6_readOneDebt 38 = .ok (.aload_n 0, 1) := dt_of DA_X6_readOneDebt_0 22 rfl
theorem dX6_readOneDebt_39 : decode cX6_readOneDebt 39 = .ok (.aload_n 1, 1) := dt_of DA_X6_readOneDebt_0 23 rfl
theorem dX6_readOneDebt_40 : decode cX6_readOneDebt 40 = .ok (.iload_n 2, 1) := dt_of DA_X6_readOneDebt_0 24 rfl
theorem dX6_readOneDebt_41 : decode cX6_readOneDebt 41 = .ok (.invokevirtual 70, 3) := dt_of DA_X6_readOneDebt_0 25 rfl
theorem dX6_readOneDebt_44 : decode cX6_readOneDebt 44 = .ok (.istore_n 3, 1) := dt_of DA_X6_readOneDebt_0 26 rfl
theorem dX6_readOneDebt_45 : decode cX6_readOneDebt 45 = .ok (.iload_n 3, 1) := dt_of DA_X6_readOneDebt_0 27 rfl
theorem dX6_readOneDebt_46 : decode cX6_readOneDebt 46 = .ok (.ifCond .lt 12, 3) := dt_of DA_X6_readOneDebt_0 28 rfl
theorem dX6_readOneDebt_49 : decode cX6_readOneDebt 49 = .ok (.aload_n 0, 1) := dt_of DA_X6_readOneDebt_0 29 rfl
theorem dX6_readOneDebt_50 : decode cX6_readOneDebt 50 = .ok (.bipush 44, 2) := dt_of DA_X6_readOneDebt_0 30 rfl
theorem dX6_readOneDebt_52 : decode cX6_readOneDebt 52 = .ok (.invokevirtual 37, 3) := dt_of DA_X6_readOneDebt_0 31 rfl
theorem dX6_readOneDebt_55 : decode cX6_readOneDebt 55 = .ok (.ifCond .ne 5, 3) := dt_of DA_X6_readOneDebt_0 32 rfl
theorem dX6_readOneDebt_58 : decode cX6_readOneDebt 58 = .ok (.iconst 0, 1) := dt_of DA_X6_readOneDebt_0 33 rfl
theorem dX6_readOneDebt_59 : decode cX6_readOneDebt 59 = .ok (.ireturn, 1) := dt_of DA_X6_readOneDebt_0 34 rfl
theorem dX6_readOneDebt_60 : decode cX6_readOneDebt 60 = .ok (.aload_n 0, 1) := dt_of DA_X6_readOneDebt_0 35 rfl
theorem dX6_readOneDebt_61 : decode cX6_readOneDebt 61 = .ok (.iconst 1, 1) := dt_of DA_X6_readOneDebt_0 36 rfl
theorem dX6_readOneDebt_62 : decode cX6_readOneDebt 62 = .ok (.bipush 99, 2) := dt_of DA_X6_readOneDebt_0 37 rfl
theorem dX6_readOneDebt_64 : decode cX6_readOneDebt 64 = .ok (.invokevirtual 41, 3) := dt_of DA_X6_readOneDebt_0 38 rfl
theorem dX6_readOneDebt_67 : decode cX6_readOneDebt 67 = .ok (.istore 4, 2) := dt_of DA_X6_readOneDebt_0 39 rfl
theorem dX6_readOneDebt_69 : decode cX6_readOneDebt 69 = .ok (.iload 4, 2) := dt_of DA_X6_readOneDebt_0 40 rfl
theorem dX6_readOneDebt_71 : decode cX6_readOneDebt 71 = .ok (.ifCond .lt 12, 3) := dt_of DA_X6_readOneDebt_0 41 rfl
theorem dX6_readOneDebt_74 : decode cX6_readOneDebt 74 = .ok (.aload_n 0, 1) := dt_of DA_X6_readOneDebt_0 42 rfl
theorem dX6_readOneDebt_75 : decode cX6_readOneDebt 75 = .ok (.bipush 59, 2) := dt_of DA_X6_readOneDebt_0 43 rfl
theorem dX6_readOneDebt_77 : decode cX6_readOneDebt 77 = .ok (.invokevirtual 37, 3) := dt_of DA_X6_readOneDebt_0 44 rfl
theorem dX6_readOneDebt_80 : decode cX6_readOneDebt 80 = .ok (.ifCond .ne 5, 3) := dt_of DA_X6_readOneDebt_0 45 rfl
theorem dX6_readOneDebt_83 : decode cX6_readOneDebt 83 = .ok (.iconst 0, 1) := dt_of DA_X6_readOneDebt_0 46 rfl
theorem dX6_readOneDebt_84 : decode cX6_readOneDebt 84 = .ok (.ireturn, 1) := dt_of DA_X6_readOneDebt_0 47 rfl
theorem dX6_readOneDebt_85 : decode cX6_readOneDebt 85 = .ok (.aload_n 1, 1) := dt_of DA_X6_readOneDebt_0 48 rfl
theorem dX6_readOneDebt_86 : decode cX6_readOneDebt 86 = .ok (.iload_n 2, 1) := dt_of DA_X6_readOneDebt_0 49 rfl
theorem dX6_readOneDebt_87 : decode cX6_readOneDebt 87 = .ok (.iload_n 3, 1) := dt_of DA_X6_readOneDebt_0 50 rfl
theorem dX6_readOneDebt_88 : decode cX6_readOneDebt 88 = .ok (.iload 4, 2) := dt_of DA_X6_readOneDebt_0 51 rfl
theorem dX6_readOneDebt_90 : decode cX6_readOneDebt 90 = .ok (.invokevirtual 74, 3) := dt_of DA_X6_readOneDebt_0 52 rfl
theorem dX6_readOneDebt_93 : decode cX6_readOneDebt 93 = .ok (.iconst 1, 1) := dt_of DA_X6_readOneDebt_0 53 rfl
theorem dX6_readOneDebt_94 : decode cX6_readOneDebt 94 = .ok (.ireturn, 1) := dt_of DA_X6_readOneDebt_0 54 rfl
def DT_X6_readOther_0 : List (Nat × Instr × Nat) := [(0, .aload_n 0, 1), (1, .getfield 19, 3), (4, .istore_n 3, 1), (5, .aload_n 0, 1), (6, .iconst 0, 1), (7, .aload_n 1, 1), (8, .getfield 67, 3), (11, .iconst 1, 1), (12, .isub, 1), (13, .invokevirtual 41, 3), (16, .istore 4, 2), (18, .iload 4, 2), (20, .ifCond .ge 5, 3), (23, .iconst (-1), 1), (24, .ireturn, 1), (25, .iload 4, 2), (27, .iload_n 2, 1), (28, .if_icmp .eq 23, 3), (31, .aload_n 1, 1), (32, .iload_n 2, 1), (33, .iload 4, 2), (35, .invokevirtual 77, 3), (38, .ifCond .gt 13, 3), (41, .aload_n 1, 1), (42, .iload 4, 2), (44, .iload_n 2, 1), (45, .invokevirtual 77, 3), (48, .ifCond .le 12, 3), (51, .aload_n 0, 1), (52, .iconst 2, 1), (53, .iload_n 3, 1), (54, .invokevirtual 52, 3), (57, .pop, 1), (58, .iconst (-1), 1), (59, .ireturn, 1), (60, .iload 4, 2), (62, .ireturn, 1)]
theorem DA_X6_readOther_0 : DT_X6_readOther_0.all (dtf cX6_readOther) = true := by decide +kernel
theorem dX6_readOther_0 : decode cX6_readOther 0 = .ok (.aload_n 0, 1) := dt_of DA_X6_readOther_0 0 rfl
theorem dX6_readOther_1 : decode cX6_readOther 1 = .ok (.getfield 19, 3) := dt_of DA_X6_readOther_0 1 rfl
theorem dX6_readOther_4 : decode cX6_readOther 4 = .ok (.istore_n 3, 1) := dt_of DA_X6_readOther_0 2 rfl
theorem dX6_readOther_5 : decode cX6_readOther 5 = .ok (.aload_n 0, 1) := dt_of DA_X6_readOther_0 3 rfl
theorem dX6_readOther_6 : decode cX6_readOther 6 = .ok (.iconst 0, 1) := dt_of DA_X6_readOther_0 4 rfl
theorem dX6_readOther_7 : decode cX6_readOther 7 = .ok (.aload_n 1, 1) := dt_of DA_X6_readOther_0 5 rfl
theorem dX6_readOther_8 : decode cX6_readOther 8 = .ok (.getfield 67, 3) := dt_of DA_X6_readOther_0 6 rfl
theorem dX6_readOther_11 : decode cX6_readOther 11 = .ok (.iconst 1, 1) := dt_of DA_X6_readOther_0 7 rfl
theorem dX6_readOther_12 : decode cX6_readOther 12 = .ok (.isub, 1) := dt_of DA_X6_readOther_0 8 rfl
theorem dX6_readOther_13 : decode cX6_readOther 13 = .ok (.invokevirtual 41, 3) := dt_of DA_X6_readOther_0 9 rfl
theorem dX6_readOther_16 : decode cX6_readOther 16 = .ok (.istore 4, 2) := dt_of DA_X6_readOther_0 10 rfl
theorem dX6_readOther_18 : decode cX6_readOther 18 = .ok (.iload 4, 2) := dt_of DA_X6_readOther_0 11 rfl
theorem dX6_readOther_20 : decode cX6_readOther 20 = .ok (.ifCond .ge 5, 3) := dt_of DA_X6_readOther_0 12 rfl
theorem dX6_readOther_23 : decode cX6_readOther 23 = .ok (.iconst (-1), 1) := dt_of DA_X6_readOther_0 13 rfl
theorem dX6_readOther_24 : decode cX6_readOther 24 = .ok (.ireturn, 1) := dt_of DA_X6_readOther_0 14 rfl
theorem dX6_readOther_25 : decode cX6_readOther 25 = .ok (.iload 4, 2) := dt_of DA_X6_readOther_0 15 rfl
theorem dX6_readOther_27 : decode cX6_readOther 27 = .ok (.iload_n 2, 1) := dt_of DA_X6_readOther_0 16 rfl
theorem dX6_readOther_28 : decode cX6_readOther 28 = .ok (.if_icmp .eq 23, 3) := dt_of DA_X6_readOther_0 17 rfl
theorem dX6_readOther_31 : decode cX6_readOther 31 = .ok (.aload_n 1, 1) := dt_of DA_X6_readOther_0 18 rfl
theorem dX6_readOther_32 : decode cX6_readOther 32 = .ok (.iload_n 2, 1) := dt_of DA_X6_readOther_0 19 rfl
theorem dX6_readOther_33 : decode cX6_readOther 33 = .ok (.iload 4, 2) := dt_of DA_X6_readOther_0 20 rfl
theorem dX6_readOther_35 : decode cX6_readOther 35 = .ok (.invokevirtual 77, 3) := dt_of DA_X6_readOther_0 21 rfl
theorem dX6_readOther_38 : decode cX6_readOther 38 = .ok (.ifCond .gt 13, 3) := dt_of DA_X6_readOther_0 22 rfl
theorem dX6_readOther_41 : decode cX6_readOther 41 = .ok (.aload_n 1, 1) := dt_of DA_X6_readOther_0 23 rfl
theorem dX6_readOther_42 : decode cX6_readOther 42 = .ok (.iload 4, 2) := dt_of DA_X6_readOther_0 24 rfl
theorem dX6_readOther_44 : decode cX6_readOther 44 = .ok (.iload_n 2, 1) := dt_of DA_X6_readOther_0 25 rfl
theorem dX6_readOther_45 : decode cX6_readOther 45 = .ok (.invokevirtual 77, 3) := dt_of DA_X6_readOther_0 26 rfl
theorem dX6_readOther_48 : decode cX6_readOther 48 = .ok (.ifCond .le 12, 3) := dt_of DA_X6_readOther_0 27 rfl
theorem dX6_readOther_51 : decode cX6_readOther 51 = .ok (.aload_n 0, 1) := dt_of DA_X6_readOther_0 28 rfl
theorem dX6_readOther_52 : decode cX6_readOther 52 = .ok (.iconst 2, 1) := dt_of DA_X6_readOther_0 29 rfl
theorem dX6_readOther_53 : decode cX6_readOther 53 = .ok (.iload_n 3, 1) := dt_of DA_X6_readOther_0 30 rfl
theorem dX6_readOther_54 : decode cX6_readOther 54 = .ok (.invokevirtual 52, 3) := dt_of DA_X6_readOther_0 31 rfl
theorem dX6_readOther_57 : decode cX6_readOther 57 = .ok (.pop, 1) := dt_of DA_X6_readOther_0 32 rfl
theorem dX6_readOther_58 : decode cX6_readOther 58 = .ok (.iconst (-1), 1) := dt_of DA_X6_readOther_0 33 rfl
theorem dX6_readOther_59 : decode cX6_readOther 59 = .ok (.ireturn, 1) := dt_of DA_X6_readOther_0 34 rfl
theorem dX6_readOther_60 : decode cX6_readOther 60 = .ok (.iload 4, 2) := dt_of DA_X6_readOther_0 35 rfl
theorem dX6_readOther_62 : decode cX6_readOther 62 = .ok (.ireturn, 1) := dt_of DA_X6_readOther_0 36 rfl
def DT_X6_readSign_0 : List (Nat × Instr × Nat) := [(0, .aload_n 0, 1), (1, .aload_n 0, 1), (2, .getfield 19, 3), (5, .invokevirtual 80, 3), (8, .iload_n 1, 1), (9, .if_icmp .eq 13, 3), (12, .aload_n 0, 1), (13, .iconst 1, 1), (14, .aload_n 0, 1), (15, .getfield 19, 3), (18, .invokevirtual 52, 3), (21, .ireturn, 1), (22, .aload_n 0, 1), (23, .dup, 1), (24, .getfield 19, 3), (27, .iconst 1, 1), (28, .iadd, 1), (29, .putfield 19, 3), (32, .iconst 1, 1), (33, .ireturn, 1)]
theorem DA_X6_readSign_0 : DT_X6_readSign_0.all (dtf cX6_readSign) = true := by decide +kernel
theorem dX6_readSign_0 : decode cX6_readSign 0 = .ok (.aload_n 0, 1) := dt_of DA_X6_readSign_0 0 rfl
theorem dX6_readSign_1 : decode cX6_readSign 1 = .ok (.aload_n 0, 1) := dt_of DA_X6_readSign_0 1 rfl
theorem dX6_readSign_2 : decode cX6_readSign 2 = .ok (.getfield 19, 3) := dt_of DA_X6_readSign_0 2 rfl
theorem dX6_readSign_5 : decode cX6_readSign 5 = .ok (.invokevirtual 80, 3) := dt_of DA_X6_readSign_0 3 rfl
theorem dX6_readSign_8 : decode cX6_readSign 8 = .ok (.iload_n 1, 1) := dt_of DA_X6_readSign_0 4 rfl
theorem dX6_readSign_9 : decode cX6_readSign 9 = .ok (.if_icmp .eq 13, 3) := dt_of DA_X6_readSign_0 5 rfl
theorem dX6_readSign_12 : decode cX6_readSign 12 = .ok (.aload_n 0, 1) := dt_of DA_X6_readSign_0 6 rfl
theorem dX6_readSign_13 : decode cX6_readSign 13 = .ok (.iconst 1, 1) := dt_of DA_X6_readSign_0 7 rfl
theorem dX6_readSign_14 : decode cX6_readSign 14 = .ok (.aload_n 0, 1) := dt_of DA_X6_readSign_0 8 rfl
theorem dX6_readSign_15 : decode cX6_readSign 15 = .ok (.getfield 19, 3) := dt_of DA_X6_readSign_0 9 rfl
theorem dX6_readSign_18 : decode cX6_readSign 18 = .ok (.invokevirtual 52, 3) := dt_of DA_X6_readSign_0 10 rfl
theorem dX6_readSign_21 : decode cX6_readSign 21 = .ok (.ireturn, 1) := dt_of DA_X6_readSign_0 11 rfl
theorem dX6_readSign_22 : decode cX6_readSign 22 = .ok (.aload_n 0, 1) := dt_of DA_X6_readSign_0 12 rfl
theorem dX6_readSign_23 : decode cX6_readSign 23 = .ok (.dup, 1) := dt_of DA_X6_readSign_0 13 rfl
theorem dX6_readSign_24 : decode cX6_readSign 24 = .ok (.getfield 19, 3) := dt_of DA_X6_readSign_0 14 rfl
theorem dX6_readSign_27 : decode cX6_readSign 27 = .ok (.iconst 1, 1) := dt_of DA_X6_readSign_0 15 rfl
theorem dX6_readSign_28 : decode cX6_readSign 28 = .ok (.iadd, 1) := dt_of DA_X6_readSign_0 16 rfl
theorem dX6_readSign_29 : decode cX6_readSign 29 = .ok (.putfield 19, 3) := dt_of DA_X6_readSign_0 17 rfl
theorem dX6_readSign_32 : decode cX6_readSign 32 = .ok (.iconst 1, 1) := dt_of DA_X6_readSign_0 18 rfl
theorem dX6_readSign_33 : decode cX6_readSign 33 = .ok (.ireturn, 1) := dt_of DA_X6_readSign_0 19 rfl
def DT_X6_readNumber_0 : List (Nat × Instr × Nat) := [(0, .aload_n 0, 1), (1, .getfield 19, 3), (4, .istore_n 3, 1), (5, .iconst 0, 1), (6, .istore 4, 2), (8, .iload_n 3, 1), (9, .istore 5, 2), (11, .iload 5, 2), (13, .aload_n 0, 1), (14, .getfield 15, 3), (17, .if_icmp .ge 53, 3), (20, .aload_n 0, 1), (21, .getfield 9, 3), (24, .iload 5, 2), (26, .iaload, 1), (27, .invokestatic 84, 3), (30, .ifCond .eq 40, 3), (33, .iload 5, 2), (35, .iload_n 3, 1), (36, .isub, 1), (37, .iconst 2, 1), (38, .if_icmp .ge 22, 3), (41, .iload 4, 2), (43, .bipush 10, 2), (45, .imul, 1), (46, .aload_n 0, 1), (47, .getfield 9, 3), (50, .iload 5, 2), (52, .iaload, 1), (53, .iadd, 1), (54, .bipush 48, 2), (56, .isub, 1), (57, .goto 5, 3), (60, .iload 4, 2), (62, .istore 4, 2), (64, .iinc 5 1, 3), (67, .goto (-56), 3), (70, .iload 5, 2), (72, .iload_n 3, 1), (73, .isub, 1), (74, .istore 6, 2), (76, .iload 6, 2), (78, .ifCond .eq 9, 3), (81, .iload 6, 2), (83, .iconst 2, 1), (84, .if_icmp .le 12, 3), (87, .aload_n 0, 1), (88, .iconst 1, 1), (89, .iload_n 3, 1), (90, .invokevirtual 52, 3), (93, .pop, 1), (94, .iconst (-1), 1), (95, .ireturn, 1), (96, .iload 4, 2), (98, .iload_n 1, 1), (99, .if_icmp .lt 9, 3), (102, .iload 4, 2), (104, .iload_n 2, 1), (105, .if_icmp .le 12, 3), (108, .aload_n 0, 1), (109, .iconst 2, 1), (110, .iload_n 3, 1), (111, .invokevirtual 52, 3), (114, .pop, 1), (115, .iconst (-1), 1), (116, .ireturn, 1), (117, .aload_n 0, 1), (118, .iload 5, 2), (120, .putfield 19, 3), (123, .iload 4, 2), (125, .ireturn, 1)]
theorem DA_X6_readNumber_0 : DT_X6_readNumber_0.all (dtf cX6_readNumber) = true := by decide +kernel
theorem dX6_readNumber_0 : decode cX6_readNumber 0 = .ok (.aload_n 0, 1) := dt_of DA_X6_readNumber_0 0 rfl
theorem dX6_readNumber_1 : decode cX6_readNumber 1 = .ok (.getfield 19, 3) := dt_of DA_X6_readNumber_0 1 rfl
theorem dX6_readNumber_4 : decode cX6_readNumber 4 = .ok (.istore_n 3, 1) := dt_of DA_X6_readNumber_0 2 rfl
theorem dX6_readNumber_5 : decode cX6_readNumber 5 = .ok (.iconst 0, 1) := dt_of DA_X6_readNumber_0 3 rfl
theorem dX6_readNumber_6 : decode cX6_readNumber 6 = .ok (.istore 4, 2) := dt_of DA_X6_readNumber_0 4 rfl
theorem dX6_readNumber_8 : decode cX6_readNumber 8 = .ok (.iload_n 3, 1) := dt_of DA_X6_readNumber_0 5 rfl
theorem dX6_readNumber_9 : decode cX6_readNumber 9 = .ok (.istore 5, 2) := dt_of DA_X6_readNumber_0 6 rfl
theorem dX6_readNumber_11 : decode cX6_readNumber 11 = .ok (.iload 5, 2) := dt_of DA_X6_readNumber_0 7 rfl
theorem dX6_readNumber_13 : decode cX6_readNumber 13 = .ok (.aload_n 0, 1) := dt_of DA_X6_readNumber_0 8 rfl
theorem dX6_readNumber_14 : decode cX6_readNumber 14 = .ok (.getfield 15, 3) := dt_of DA_X6_readNumber_0 9 rfl
theorem dX6_readNumber_17 : decode cX6_readNumber 17 = .ok (.if_icmp .ge 53, 3) := dt_of DA_X6_readNumber_0 10 rfl
theorem dX6_readNumber_20 : decode cX6_readNumber 20 = .ok (.aload_n 0, 1) := dt_of DA_X6_readNumber_0 11 rfl
theorem dX6_readNumber_21 : decode cX6_readNumber 21 = .ok (.getfield 9, 3) := dt_of DA_X6_readNumber_0 12 rfl
theorem dX6_readNumber_24 : decode cX6_readNumber 24 = .ok (.iload 5, 2) := dt_of DA_X6_readNumber_0 13 rfl
theorem dX6_readNumber_26 : decode cX6_readNumber 26 = .ok (.iaload, 1) := dt_of DA_X6_readNumber_0 14 rfl
theorem dX6_readNumber_27 : decode cX6_readNumber 27 = .ok (.invokestatic 84, 3) := dt_of DA_X6_readNumber_0 15 rfl
theorem dX6_readNumber_30 : decode cX6_readNumber 30 = .ok (.ifCond .eq 40, 3) := dt_of DA_X6_readNumber_0 16 rfl
theorem dX6_readNumber_33 : decode cX6_readNumber 33 = .ok (.iload 5, 2) := dt_of DA_X6_readNumber_0 17 rfl
theorem dX6_readNumber_35 : decode cX6_readNumber 35 = .ok (.iload_n 3, 1) := dt_of DA_X6_readNumber_0 18 rfl
theorem dX6_readNumber_36 : decode cX6_readNumber 36 = .ok (.isub, 1) := dt_of DA_X6_readNumber_0 19 rfl
theorem dX6_readNumber_37 : decode cX6_readNumber 37 = .ok (.iconst 2, 1) := dt_of DA_X6_readNumber_0 20 rfl
theorem dX6_readNumber_38 : decode cX6_readNumber 38 = .ok (.if_icmp .ge 22, 3) := dt_of DA_X6_readNumber_0 21 rfl
theorem dX6_readNumber_41 : decode cX6_readNumber 41 = .ok (.iload 4, 2) := dt_of DA_X6_readNumber_0 22 rfl
theorem dX6_readNumber_43 : decode cX6_readNumber 43 = .ok (.bipush 10, 2) := dt_of DA_X6_readNumber_0 23 rfl
theorem dX6_readNumber_45 : decode cX6_readNumber 45 = .ok (.imul, 1) := dt_of DA_X6_readNumber_0 24 rfl
theorem dX6_readNumber_46 : decode cX6_readNumber 46 = .ok (.aload_n 0, 1) := dt_of DA_X6_readNumber_0 25 rfl
theorem dX6_readNumber_47 : decode cX6_readNumber 47 = .ok (.getfield 9, 3) := dt_of DA_X6_readNumber_0 26 rfl
theorem dX6_readNumber_50 : decode cX6_readNumber 50 = .ok (.iload 5, 2) := dt_of DA_X6_readNumber_0 27 rfl
theorem dX6_readNumber_52 : decode cX6_readNumber 52 = .ok (.iaload, 1) := dt_of DA_X6_readNumber_0 28 rfl
theorem dX6_readNumber_53 : decode cX6_readNumber 53 = .ok (.iadd, 1) := dt_of DA_X6_readNumber_0 29 rfl
theorem dX6_readNumber_54 : decode cX6_readNumber 54 = .ok (.bipush 48, 2) := dt_of DA_X6_readNumber_0 30 rfl
theorem dX6_readNumber_56 : decode cX6_readNumber 56 = .ok (.isub, 1) := dt_of DA_X6_readNumber_0 31 rfl
theorem dX6_readNumber_57 : decode cX6_readNumber 57 = .ok (.goto 5, 3) := dt_of DA_X6_readNumber_0 32 rfl
theorem dX6_readNumber_60 : decode cX6_readNumber 60 = .ok (.iload 4, 2) := dt_of DA_X6_readNumber_0 33 rfl
theorem dX6_readNumber_62 : decode cX6_readNumber 62 = .ok (.istore 4, 2) := dt_of DA_X6_readNumber_0 34 rfl
theorem dX6_readNumber_64 : decode cX6_readNumber 64 = .ok (.iinc 5 1, 3) := dt_of DA_X6_readNumber_0 35 rfl
theorem dX6_readNumber_67 : decode cX6_readNumber 67 = .ok (.goto (-56), 3) := dt_of DA_X6_readNumber_0 36 rfl
theorem dX6_readNumber_70 : decode cX6_readNumber 70 = .ok (.iload 5, 2) := dt_of DA_X6_readNumber_0 37 rfl
theorem dX6_readNumber_72 : decode cX6_readNumber 72 = .ok (.iload_n 3, 1) := dt_of DA_X6_readNumber_0 38 rfl
theorem dX6_readNumber_73 : decode cX6_readNumber 73 = .ok (.isub, 1) := dt_of DA_X6_readNumber_0 39 rfl
theorem dX6_readNumber_74 : decode cX6_readNumber 74 = .ok (.istore 6, 2) := dt_of DA_X6_readNumber_0 40 rfl
theorem dX6_readNumber_76 : decode cX6_readNumber 76 = .ok (.iload 6, 2) := dt_of DA_X6_readNumber_0 41 rfl
theorem dX6_readNumber_78 : decode cX6_readNumber 78 = .ok (.ifCond .eq 9, 3) := dt_of DA_X6_readNumber_0 42 rfl
theorem dX6_readNumber_81 : decode cX6_readNumber 81 = .ok (.iload 6, 2) := dt_of DA_X6_readNumber_0 43 rfl
theorem dX6_readNumber_83 : decode cX6_readNumber 83 = .ok (.iconst 2, 1) := dt_of DA_X6_readNumber_0 44 rfl
theorem dX6_readNumber_84 : decode cX6_readNumber 84 = .ok (.if_icmp .le 12, 3) := dt_of DA_X6_readNumber_0 45 rfl
theorem dX6_readNumber_87 : decode cX6_readNumber 87 = .ok (.aload_n 0, 1) := dt_of DA_X6_readNumber_0 46 rfl
theorem dX6_readNumber_88 : decode cX6_readNumber 88 = .ok (.iconst 1, 1) := dt_of DA_X6_readNumber_0 47 rfl
theorem dX6_readNumber_89 : decode cX6_readNumber 89 = .ok (.iload_n 3, 1) := dt_of DA_X6_readNumber_0 48 rfl
theorem dX6_readNumber_90 : decode cX6_readNumber 90 = .ok (.invokevirtual 52, 3) := dt_of DA_X6_readNumber_0 49 rfl
theorem dX6_readNumber_93 : decode cX6_readNumber 93 = .ok (.pop, 1) := dt_of DA_X6_readNumber_0 50 rfl
theorem dX6_readNumber_94 : decode cX6_readNumber 94 = .ok (.iconst (-1), 1) := dt_of DA_X6_readNumber_0 51 rfl
theorem dX6_readNumber_95 : decode cX6_readNumber 95 = .ok (.ireturn, 1) := dt_of DA_X6_readNumber_0 52 rfl
theorem dX6_readNumber_96 : decode cX6_readNumber 96 = .ok (.iload 4, 2) := dt_of DA_X6_readNumber_0 53 rfl
theorem dX6_readNumber_98 : decode cX6_readNumber 98 = .ok (.iload_n 1, 1) := dt_of DA_X6_readNumber_0 54 rfl
theorem dX6_readNumber_99 : decode cX6_readNumber 99 = .ok (.if_icmp .lt 9, 3) := dt_of DA_X6_readNumber_0 55 rfl
theorem dX6_readNumber_102 : decode cX6_readNumber 102 = .ok (.iload 4, 2) := dt_of DA_X6_readNumber_0 56 rfl
theorem dX6_readNumber_104 : decode cX6_readNumber 104 = .ok (.iload_n 2, 1) := dt_of DA_X6_readNumber_0 57 rfl
theorem dX6_readNumber_105 : decode cX6_readNumber 105 = .ok (.if_icmp .le 12, 3) := dt_of DA_X6_readNumber_0 58 rfl
theorem dX6_readNumber_108 : decode cX6_readNumber 108 = .ok (.aload_n 0, 1) := dt_of DA_X6_readNumber_0 59 rfl
theorem dX6_readNumber_109 : decode cX6_readNumber 109 = .ok (.iconst 2, 1) := dt_of DA_X6_readNumber_0 60 rfl
theorem dX6_readNumber_110 : decode cX6_readNumber 110 = .ok (.iload_n 3, 1) := dt_of DA_X6_readNumber_0 61 rfl
theorem dX6_readNumber_111 : decode cX6_readNumber 111 = .ok (.invokevirtual 52, 3) := dt_of DA_X6_readNumber_0 62 rfl
theorem dX6_readNumber_114 : decode cX6_readNumber 114 = .ok (.pop, 1) := dt_of DA_X6_readNumber_0 63 rfl
theorem dX6_readNumber_115 : decode cX6_readNumber 115 = .ok (.iconst (-1), 1) := dt_of DA_X6_readNumber_0 64 rfl
theorem dX6_readNumber_116 : decode cX6_readNumber 116 = .ok (.ireturn, 1) := dt_of DA_X6_readNumber_0 65 rfl
theorem dX6_readNumber_117 : decode cX6_readNumber 117 = .ok (.aload_n 0, 1) := dt_of DA_X6_readNumber_0 66 rfl
theorem dX6_readNumber_118 : decode cX6_readNumber 118 = .ok (.iload 5, 2) := dt_of DA_X6_readNumber_0 67 rfl
theorem dX6_readNumber_120 : decode cX6_readNumber 120 = .ok (.putfield 19, 3) := dt_of DA_X6_readNumber_0 68 rfl
theorem dX6_readNumber_123 : decode cX6_readNumber 123 = .ok (.iload 4, 2) := dt_of DA_X6_readNumber_0 69 rfl
theorem dX6_readNumber_125 : decode cX6_readNumber 125 = .ok (.ireturn, 1) := dt_of DA_X6_readNumber_0 70 rfl
def DT_X6_kindHere_0 : List (Nat × Instr × Nat) := [(0, .aload_n 0, 1), (1, .aload_n 0, 1), (2, .getfield 19, 3), (5, .invokevirtual 80, 3), (8, .lookupswitch 62 #[(99, 58), (100, 54), (102, 56), (112, 52), (119, 60)], 52), (60, .iconst 1, 1), (61, .ireturn, 1), (62, .iconst 2, 1), (63, .ireturn, 1), (64, .iconst 3, 1), (65, .ireturn, 1), (66, .iconst 4, 1), (67, .ireturn, 1), (68, .iconst 5, 1), (69, .ireturn, 1), (70, .iconst 0, 1), (71, .ireturn, 1)]
theorem DA_X6_kindHere_0 : DT_X6_kindHere_0.all (dtf cX6_kindHere) = true := by decide +kernel
theorem dX6_kindHere_0 : decode cX6_kindHere 0 = .ok (.aload_n 0, 1) := dt_of DA_X6_kindHere_0 0 rfl
theorem dX6_kindHere_1 : decode cX6_kindHere 1 = .ok (.aload_n 0, 1) := dt_of DA_X6_kindHere_0 1 rfl
theorem dX6_kindHere_2 : decode cX6_kindHere 2 = .ok (.getfield 19, 3) := dt_of DA_X6_kindHere_0 2 rfl
theorem dX6_kindHere_5 : decode cX6_kindHere 5 = .ok (.invokevirtual 80, 3) := dt_of DA_X6_kindHere_0 3 rfl
theorem dX6_kindHere_8 : decode cX6_kindHere 8 = .ok (.lookupswitch 62 #[(99, 58), (100, 54), (102, 56), (112, 52), (119, 60)], 52) := dt_of DA_X6_kindHere_0 4 rfl
theorem dX6_kindHere_60 : decode cX6_kindHere 60 = .ok (.iconst 1, 1) := dt_of DA_X6_kindHere_0 5 rfl
theorem dX6_kindHere_61 : decode cX6_kindHere 61 = .ok (.ireturn, 1) := dt_of DA_X6_kindHere_0 6 rfl
theorem dX6_kindHere_62 : decode cX6_kindHere 62 = .ok (.iconst 2, 1) := dt_of DA_X6_kindHere_0 7 rfl
theorem dX6_kindHere_63 : decode cX6_kindHere 63 = .ok (.ireturn, 1) := dt_of DA_X6_kindHere_0 8 rfl
theorem dX6_kindHere_64 : decode cX6_kindHere 64 = .ok (.iconst 3, 1) := dt_of DA_X6_kindHere_0 9 rfl
theorem dX6_kindHere_65 : decode cX6_kindHere 65 = .ok (.ireturn, 1) := dt_of DA_X6_kindHere_0 10 rfl
theorem dX6_kindHere_66 : decode cX6_kindHere 66 = .ok (.iconst 4, 1) := dt_of DA_X6_kindHere_0 11 rfl
theorem dX6_kindHere_67 : decode cX6_kindHere 67 = .ok (.ireturn, 1) := dt_of DA_X6_kindHere_0 12 rfl
theorem dX6_kindHere_68 : decode cX6_kindHere 68 = .ok (.iconst 5, 1) := dt_of DA_X6_kindHere_0 13 rfl
theorem dX6_kindHere_69 : decode cX6_kindHere 69 = .ok (.ireturn, 1) := dt_of DA_X6_kindHere_0 14 rfl
theorem dX6_kindHere_70 : decode cX6_kindHere 70 = .ok (.iconst 0, 1) := dt_of DA_X6_kindHere_0 15 rfl
theorem dX6_kindHere_71 : decode cX6_kindHere 71 = .ok (.ireturn, 1) := dt_of DA_X6_kindHere_0 16 rfl
def DT_X6_byteAt_0 : List (Nat × Instr × Nat) := [(0, .iload_n 1, 1), (1, .ifCond .lt 20, 3), (4, .iload_n 1, 1), (5, .aload_n 0, 1), (6, .getfield 15, 3), (9, .if_icmp .ge 12, 3), (12, .aload_n 0, 1), (13, .getfield 9, 3), (16, .iload_n 1, 1), (17, .iaload, 1), (18, .goto 4, 3), (21, .iconst (-1), 1), (22, .ireturn, 1)]
theorem DA_X6_byteAt_0 : DT_X6_byteAt_0.all (dtf cX6_byteAt) = true := by decide +kernel
theorem dX6_byteAt_0 : decode cX6_byteAt 0 = .ok (.iload_n 1, 1) := dt_of DA_X6_byteAt_0 0 rfl
theorem dX6_byteAt_1 : decode cX6_byteAt 1 = .ok (.ifCond .lt 20, 3) := dt_of DA_X6_byteAt_0 1 rfl
theorem dX6_byteAt_4 : decode cX6_byteAt 4 = .ok (.iload_n 1, 1) := dt_of DA_X6_byteAt_0 2 rfl
theorem dX6_byteAt_5 : decode cX6_byteAt 5 = .ok (.aload_n 0, 1) := dt_of DA_X6_byteAt_0 3 rfl
theorem dX6_byteAt_6 : decode cX6_byteAt 6 = .ok (.getfield 15, 3) := dt_of DA_X6_byteAt_0 4 rfl
theorem dX6_byteAt_9 : decode cX6_byteAt 9 = .ok (.if_icmp .ge 12, 3) := dt_of DA_X6_byteAt_0 5 rfl
theorem dX6_byteAt_12 : decode cX6_byteAt 12 = .ok (.aload_n 0, 1) := dt_of DA_X6_byteAt_0 6 rfl
theorem dX6_byteAt_13 : decode cX6_byteAt 13 = .ok (.getfield 9, 3) := dt_of DA_X6_byteAt_0 7 rfl
theorem dX6_byteAt_16 : decode cX6_byteAt 16 = .ok (.iload_n 1, 1) := dt_of DA_X6_byteAt_0 8 rfl
theorem dX6_byteAt_17 : decode cX6_byteAt 17 = .ok (.iaload, 1) := dt_of DA_X6_byteAt_0 9 rfl
theorem dX6_byteAt_18 : decode cX6_byteAt 18 = .ok (.goto 4, 3) := dt_of DA_X6_byteAt_0 10 rfl
theorem dX6_byteAt_21 : decode cX6_byteAt 21 = .ok (.iconst (-1), 1) := dt_of DA_X6_byteAt_0 11 rfl
theorem dX6_byteAt_22 : decode cX6_byteAt 22 = .ok (.ireturn, 1) := dt_of DA_X6_byteAt_0 12 rfl
def DT_X6_isFigure_0 : List (Nat × Instr × Nat) := [(0, .iload_n 0, 1), (1, .bipush 48, 2), (3, .if_icmp .lt 13, 3), (6, .iload_n 0, 1), (7, .bipush 57, 2), (9, .if_icmp .gt 7, 3), (12, .iconst 1, 1), (13, .goto 4, 3), (16, .iconst 0, 1), (17, .ireturn, 1)]
theorem DA_X6_isFigure_0 : DT_X6_isFigure_0.all (dtf cX6_isFigure) = true := by decide +kernel
theorem dX6_isFigure_0 : decode cX6_isFigure 0 = .ok (.iload_n 0, 1) := dt_of DA_X6_isFigure_0 0 rfl
theorem dX6_isFigure_1 : decode cX6_isFigure 1 = .ok (.bipush 48, 2) := dt_of DA_X6_isFigure_0 1 rfl
theorem dX6_isFigure_3 : decode cX6_isFigure 3 = .ok (.if_icmp .lt 13, 3) := dt_of DA_X6_isFigure_0 2 rfl
theorem dX6_isFigure_6 : decode cX6_isFigure 6 = .ok (.iload_n 0, 1) := dt_of DA_X6_isFigure_0 3 rfl
theorem dX6_isFigure_7 : decode cX6_isFigure 7 = .ok (.bipush 57, 2) := dt_of DA_X6_isFigure_0 4 rfl
theorem dX6_isFigure_9 : decode cX6_isFigure 9 = .ok (.if_icmp .gt 7, 3) := dt_of DA_X6_isFigure_0 5 rfl
theorem dX6_isFigure_12 : decode cX6_isFigure 12 = .ok (.iconst 1, 1) := dt_of DA_X6_isFigure_0 6 rfl
theorem dX6_isFigure_13 : decode cX6_isFigure 13 = .ok (.goto 4, 3) := dt_of DA_X6_isFigure_0 7 rfl
theorem dX6_isFigure_16 : decode cX6_isFigure 16 = .ok (.iconst 0, 1) := dt_of DA_X6_isFigure_0 8 rfl
theorem dX6_isFigure_17 : decode cX6_isFigure 17 = .ok (.ireturn, 1) := dt_of DA_X6_isFigure_0 9 rfl
def DT_X6_failed_0 : List (Nat × Instr × Nat) := [(0, .aload_n 0, 1), (1, .iload_n 1, 1), (2, .putfield 87, 3), (5, .aload_n 0, 1), (6, .iload_n 2, 1), (7, .putfield 90, 3), (10, .iconst 0, 1), (11, .ireturn, 1)]
theorem DA_X6_failed_0 : DT_X6_failed_0.all (dtf cX6_failed) = true := by decide +kernel
theorem dX6_failed_0 : decode cX6_failed 0 = .ok (.aload_n 0, 1) := dt_of DA_X6_failed_0 0 rfl
theorem dX6_failed_1 : decode cX6_failed 1 = .ok (.iload_n 1, 1) := dt_of DA_X6_failed_0 1 rfl
theorem dX6_failed_2 : decode cX6_failed 2 = .ok (.putfield 87, 3) := dt_of DA_X6_failed_0 2 rfl
theorem dX6_failed_5 : decode cX6_failed 5 = .ok (.aload_n 0, 1) := dt_of DA_X6_failed_0 3 rfl
theorem dX6_failed_6 : decode cX6_failed 6 = .ok (.iload_n 2, 1) := dt_of DA_X6_failed_0 4 rfl
theorem dX6_failed_7 : decode cX6_failed 7 = .ok (.putfield 90, 3) := dt_of DA_X6_failed_0 5 rfl
theorem dX6_failed_10 : decode cX6_failed 10 = .ok (.iconst 0, 1) := dt_of DA_X6_failed_0 6 rfl
theorem dX6_failed_11 : decode cX6_failed 11 = .ok (.ireturn, 1) := dt_of DA_X6_failed_0 7 rfl
def DT_X7_init_0 : List (Nat × Instr × Nat) := [(0, .aload_n 0, 1), (1, .invokespecial 3, 3), (4, .aload_n 0, 1), (5, .bipush 6, 2), (7, .newarray .int, 2), (9, .putfield 9, 3), (12, .aload_n 0, 1), (13, .bipush 6, 2), (15, .newarray .int, 2), (17, .putfield 15, 3), (20, .aload_n 0, 1), (21, .bipush 6, 2), (23, .newarray .int, 2), (25, .putfield 18, 3), (28, .aload_n 0, 1), (29, .bipush 6, 2), (31, .newarray .int, 2), (33, .putfield 21, 3), (36, .aload_n 0, 1), (37, .bipush 36, 2), (39, .newarray .int, 2), (41, .putfield 24, 3), (44, .return_, 1)]
theorem DA_X7_init_0 : DT_X7_init_0.all (dtf cX7_init) = true := by decide +kernel
theorem dX7_init_0 : decode cX7_init 0 = .ok (.aload_n 0, 1) := dt_of DA_X7_init_0 0 rfl
theorem dX7_init_1 : decode cX7_init 1 = .ok (.invokespecial 3, 3) := dt_of DA_X7_init_0 1 rfl
theorem dX7_init_4 : decode cX7_init 4 = .ok (.aload_n 0, 1) := dt_of DA_X7_init_0 2 rfl
theorem dX7_init_5 : decode cX7_init 5 = .ok (.bipush 6, 2) := dt_of DA_X7_init_0 3 rfl
theorem dX7_init_7 : decode cX7_init 7 = .ok (.newarray .int, 2) := dt_of DA_X7_init_0 4 rfl
theorem dX7_init_9 : decode cX7_init 9 = .ok (.putfield 9, 3) := dt_of DA_X7_init_0 5 rfl
theorem dX7_init_12 : decode cX7_init 12 = .ok (.aload_n 0, 1) := dt_of DA_X7_init_0 6 rfl
theorem dX7_init_13 : decode cX7_init 13 = .ok (.bipush 6, 2) := dt_of DA_X7_init_0 7 rfl
theorem dX7_init_15 : decode cX7_init 15 = .ok (.newarray .int, 2) := dt_of DA_X7_init_0 8 rfl
theorem dX7_init_17 : decode cX7_init 17 = .ok (.putfield 15, 3) := dt_of DA_X7_init_0 9 rfl
theorem dX7_init_20 : decode cX7_init 20 = .ok (.aload_n 0, 1) := dt_of DA_X7_init_0 10 rfl
theorem dX7_init_21 : decode cX7_init 21 = .ok (.bipush 6, 2) := dt_of DA_X7_init_0 11 rfl
theorem dX7_init_23 : decode cX7_init 23 = .ok (.newarray .int, 2) := dt_of DA_X7_init_0 12 rfl
theorem dX7_init_25 : decode cX7_init 25 = .ok (.putfield 18, 3) := dt_of DA_X7_init_0 13 rfl
theorem dX7_init_28 : decode cX7_init 28 = .ok (.aload_n 0, 1) := dt_of DA_X7_init_0 14 rfl
theorem dX7_init_29 : decode cX7_init 29 = .ok (.bipush 6, 2) := dt_of DA_X7_init_0 15 rfl
theorem dX7_init_31 : decode cX7_init 31 = .ok (.newarray .int, 2) := dt_of DA_X7_init_0 16 rfl
theorem dX7_init_33 : decode cX7_init 33 = .ok (.putfield 21, 3) := dt_of DA_X7_init_0 17 rfl
theorem dX7_init_36 : decode cX7_init 36 = .ok (.aload_n 0, 1) := dt_of DA_X7_init_0 18 rfl
theorem dX7_init_37 : decode cX7_init 37 = .ok (.bipush 36, 2) := dt_of DA_X7_init_0 19 rfl
theorem dX7_init_39 : decode cX7_init 39 = .ok (.newarray .int, 2) := dt_of DA_X7_init_0 20 rfl
theorem dX7_init_41 : decode cX7_init 41 = .ok (.putfield 24, 3) := dt_of DA_X7_init_0 21 rfl
theorem dX7_init_44 : decode cX7_init 44 = .ok (.return_, 1) := dt_of DA_X7_init_0 22 rfl
def DT_X7_clear_0 : List (Nat × Instr × Nat) := [(0, .aload_n 0, 1), (1, .iconst 0, 1), (2, .putfield 27, 3), (5, .aload_n 0, 1), (6, .iconst 0, 1), (7, .putfield 31, 3), (10, .aload_n 0, 1), (11, .iconst 0, 1), (12, .putfield 34, 3), (15, .iconst 0, 1), (16, .istore_n 1, 1), (17, .iload_n 1, 1), (18, .aload_n 0, 1), (19, .getfield 24, 3), (22, .arraylength, 1), (23, .if_icmp .ge 16, 3), (26, .aload_n 0, 1), (27, .getfield 24, 3), (30, .iload_n 1, 1), (31, .iconst 0, 1), (32, .iastore, 1), (33, .iinc 1 1, 3), (36, .goto (-19), 3), (39, .return_, 1)]
theorem DA_X7_clear_0 : DT_X7_clear_0.all (dtf cX7_clear) = true := by decide +kernel
theorem dX7_clear_0 : decode cX7_clear 0 = .ok (.aload_n 0, 1) := dt_of DA_X7_clear_0 0 rfl
theorem dX7_clear_1 : decode cX7_clear 1 = .ok (.iconst 0, 1) := dt_of DA_X7_clear_0 1 rfl
theorem dX7_clear_2 : decode cX7_clear 2 = .ok (.putfield 27, 3) := dt_of DA_X7_clear_0 2 rfl
theorem dX7_clear_5 : decode cX7_clear 5 = .ok (.aload_n 0, 1) := dt_of DA_X7_clear_0 3 rfl
theorem dX7_clear_6 : decode cX7_clear 6 = .ok (.iconst 0, 1) := dt_of DA_X7_clear_0 4 rfl
theorem dX7_clear_7 : decode cX7_clear 7 = .ok (.putfield 31, 3) := dt_of DA_X7_clear_0 5 rfl
theorem dX7_clear_10 : decode cX7_clear 10 = .ok (.aload_n 0, 1) := dt_of DA_X7_clear_0 6 rfl
theorem dX7_clear_11 : decode cX7_clear 11 = .ok (.iconst 0, 1) := dt_of DA_X7_clear_0 7 rfl
theorem dX7_clear_12 : decode cX7_clear 12 = .ok (.putfield 34, 3) := dt_of DA_X7_clear_0 8 rfl
theorem dX7_clear_15 : decode cX7_clear 15 = .ok (.iconst 0, 1) := dt_of DA_X7_clear_0 9 rfl
theorem dX7_clear_16 : decode cX7_clear 16 = .ok (.istore_n 1, 1) := dt_of DA_X7_clear_0 10 rfl
theorem dX7_clear_17 : decode cX7_clear 17 = .ok (.iload_n 1, 1) := dt_of DA_X7_clear_0 11 rfl
theorem dX7_clear_18 : decode cX7_clear 18 = .ok (.aload_n 0, 1) := dt_of DA_X7_clear_0 12 rfl
theorem dX7_clear_19 : decode cX7_clear 19 = .ok (.getfield 24, 3) := dt_of DA_X7_clear_0 13 rfl
theorem dX7_clear_22 : decode cX7_clear 22 = .ok (.arraylength, 1) := dt_of DA_X7_clear_0 14 rfl
theorem dX7_clear_23 : decode cX7_clear 23 = .ok (.if_icmp .ge 16, 3) := dt_of DA_X7_clear_0 15 rfl
theorem dX7_clear_26 : decode cX7_clear 26 = .ok (.aload_n 0, 1) := dt_of DA_X7_clear_0 16 rfl
theorem dX7_clear_27 : decode cX7_clear 27 = .ok (.getfield 24, 3) := dt_of DA_X7_clear_0 17 rfl
theorem dX7_clear_30 : decode cX7_clear 30 = .ok (.iload_n 1, 1) := dt_of DA_X7_clear_0 18 rfl
theorem dX7_clear_31 : decode cX7_clear 31 = .ok (.iconst 0, 1) := dt_of DA_X7_clear_0 19 rfl
theorem dX7_clear_32 : decode cX7_clear 32 = .ok (.iastore, 1) := dt_of DA_X7_clear_0 20 rfl
theorem dX7_clear_33 : decode cX7_clear 33 = .ok (.iinc 1 1, 3) := dt_of DA_X7_clear_0 21 rfl
theorem dX7_clear_36 : decode cX7_clear 36 = .ok (.goto (-19), 3) := dt_of DA_X7_clear_0 22 rfl
theorem dX7_clear_39 : decode cX7_clear 39 = .ok (.return_, 1) := dt_of DA_X7_clear_0 23 rfl
def DT_X7_takeFrom_0 : List (Nat × Instr × Nat) := [(0, .aload_n 0, 1), (1, .aload_n 1, 1), (2, .getfield 27, 3), (5, .putfield 27, 3), (8, .aload_n 0, 1), (9, .aload_n 1, 1), (10, .getfield 31, 3), (13, .putfield 31, 3), (16, .aload_n 0, 1), (17, .aload_n 1, 1), (18, .getfield 34, 3), (21, .putfield 34, 3), (24, .aload_n 1, 1), (25, .getfield 9, 3), (28, .iconst 0, 1), (29, .aload_n 0, 1), (30, .getfield 9, 3), (33, .iconst 0, 1), (34, .bipush 6, 2), (36, .invokestatic 37, 3), (39, .aload_n 1, 1), (40, .getfield 15, 3), (43, .iconst 0, 1), (44, .aload_n 0, 1), (45, .getfield 15, 3), (48, .iconst 0, 1), (49, .bipush 6, 2), (51, .invokestatic 37, 3), (54, .aload_n 1, 1), (55, .getfield 18, 3), (58, .iconst 0, 1), (59, .aload_n 0, 1), (60, .getfield 18, 3), (63, .iconst 0, 1), (64, .bipush 6, 2), (66, .invokestatic 37, 3), (69, .aload_n 1, 1), (70, .getfield 21, 3), (73, .iconst 0, 1), (74, .aload_n 0, 1), (75, .getfield 21, 3), (78, .iconst 0, 1), (79, .bipush 6, 2), (81, .invokestatic 37, 3), (84, .aload_n 1, 1), (85, .getfield 24, 3), (88, .iconst 0, 1), (89, .aload_n 0, 1), (90, .getfield 24, 3), (93, .iconst 0, 1), (94, .bipush 36, 2), (96, .invokestatic 37, 3), (99, .return_, 1)]
theorem DA_X7_takeFrom_0 : DT_X7_takeFrom_0.all (dtf cX7_takeFrom) = true := by decide +kernel
theorem dX7_takeFrom_0 : decode cX7_takeFrom 0 = .ok (.aload_n 0, 1) := dt_of DA_X7_takeFrom_0 0 rfl
theorem dX7_takeFrom_1 : decode cX7_takeFrom 1 = .ok (.aload_n 1, 1) := dt_of DA_X7_takeFrom_0 1 rfl
theorem dX7_takeFrom_2 : decode cX7_takeFrom 2 = .ok (.getfield 27, 3) := dt_of DA_X7_takeFrom_0 2 rfl
theorem dX7_takeFrom_5 : decode cX7_takeFrom 5 = .ok (.putfield 27, 3) := dt_of DA_X7_takeFrom_0 3 rfl
theorem dX7_takeFrom_8 : decode cX7_takeFrom 8 = .ok (.aload_n 0, 1) := dt_of DA_X7_takeFrom_0 4 rfl
theorem dX7_takeFrom_9 : decode cX7_takeFrom 9 = .ok (.aload_n 1, 1) := dt_of DA_X7_takeFrom_0 5 rfl
theorem dX7_takeFrom_10 : decode cX7_takeFrom 10 = .ok (.getfield 31, 3) := dt_of DA_X7_takeFrom_0 6 rfl
theorem dX7_takeFrom_13 : decode cX7_takeFrom 13 = .ok (.putfield 31, 3) := dt_of DA_X7_takeFrom_0 7 rfl
theorem dX7_takeFrom_16 : decode cX7_takeFrom 16 = .ok (.aload_n 0, 1) := dt_of DA_X7_takeFrom_0 8 rfl
theorem dX7_takeFrom_17 : decode cX7_takeFrom 17 = .ok (.aload_n 1, 1) := dt_of DA_X7_takeFrom_0 9 rfl
theorem dX7_takeFrom_18 : decode cX7_takeFrom 18 = .ok (.getfield 34, 3) := dt_of DA_X7_takeFrom_0 10 rfl
theorem dX7_takeFrom_21 : decode cX7_takeFrom 21 = .ok (.putfield 34, 3) := dt_of DA_X7_takeFrom_0 11 rfl
theorem dX7_takeFrom_24 : decode cX7_takeFrom 24 = .ok (.aload_n 1, 1) := dt_of DA_X7_takeFrom_0 12 rfl
theorem dX7_takeFrom_25 : decode cX7_takeFrom 25 = .ok (.getfield 9, 3) := dt_of DA_X7_takeFrom_0 13 rfl
theorem dX7_takeFrom_28 : decode cX7_takeFrom 28 = .ok (.iconst 0, 1) := dt_of DA_X7_takeFrom_0 14 rfl
theorem dX7_takeFrom_29 : decode cX7_takeFrom 29 = .ok (.aload_n 0, 1) := dt_of DA_X7_takeFrom_0 15 rfl
theorem dX7_takeFrom_30 : decode cX7_takeFrom 30 = .ok (.getfield 9, 3) := dt_of DA_X7_takeFrom_0 16 rfl
theorem dX7_takeFrom_33 : decode cX7_takeFrom 33 = .ok (.iconst 0, 1) := dt_of DA_X7_takeFrom_0 17 rfl
theorem dX7_takeFrom_34 : decode cX7_takeFrom 34 = .ok (.bipush 6, 2) := dt_of DA_X7_takeFrom_0 18 rfl
theorem dX7_takeFrom_36 : decode cX7_takeFrom 36 = .ok (.invokestatic 37, 3) := dt_of DA_X7_takeFrom_0 19 rfl
theorem dX7_takeFrom_39 : decode cX7_takeFrom 39 = .ok (.aload_n 1, 1) := dt_of DA_X7_takeFrom_0 20 rfl
theorem dX7_takeFrom_40 : decode cX7_takeFrom 40 = .ok (.getfield 15, 3) := dt_of DA_X7_takeFrom_0 21 rfl
theorem dX7_takeFrom_43 : decode cX7_takeFrom 43 = .ok (.iconst 0, 1) := dt_of DA_X7_takeFrom_0 22 rfl
theorem dX7_takeFrom_44 : decode cX7_takeFrom 44 = .ok (.aload_n 0, 1) := dt_of DA_X7_takeFrom_0 23 rfl
theorem dX7_takeFrom_45 : decode cX7_takeFrom 45 = .ok (.getfield 15, 3) := dt_of DA_X7_takeFrom_0 24 rfl
theorem dX7_takeFrom_48 : decode cX7_takeFrom 48 = .ok (.iconst 0, 1) := dt_of DA_X7_takeFrom_0 25 rfl
theorem dX7_takeFrom_49 : decode cX7_takeFrom 49 = .ok (.bipush 6, 2) := dt_of DA_X7_takeFrom_0 26 rfl
theorem dX7_takeFrom_51 : decode cX7_takeFrom 51 = .ok (.invokestatic 37, 3) := dt_of DA_X7_takeFrom_0 27 rfl
theorem dX7_takeFrom_54 : decode cX7_takeFrom 54 = .ok (.aload_n 1, 1) := dt_of DA_X7_takeFrom_0 28 rfl
theorem dX7_takeFrom_55 : decode cX7_takeFrom 55 = .ok (.getfield 18, 3) := dt_of DA_X7_takeFrom_0 29 rfl
theorem dX7_takeFrom_58 : decode cX7_takeFrom 58 = .ok (.iconst 0, 1) := dt_of DA_X7_takeFrom_0 30 rfl
theorem dX7_takeFrom_59 : decode cX7_takeFrom 59 = .ok (.aload_n 0, 1) := dt_of DA_X7_takeFrom_0 31 rfl
theorem dX7_takeFrom_60 : decode cX7_takeFrom 60 = .ok (.getfield 18, 3) := dt_of DA_X7_takeFrom_0 32 rfl
theorem dX7_takeFrom_63 : decode cX7_takeFrom 63 = .ok (.iconst 0, 1) := dt_of DA_X7_takeFrom_0 33 rfl
theorem dX7_takeFrom_64 : decode cX7_takeFrom 64 = .ok (.bipush 6, 2) := dt_of DA_X7_takeFrom_0 34 rfl
theorem dX7_takeFrom_66 : decode cX7_takeFrom 66 = .ok (.invokestatic 37, 3) := dt_of DA_X7_takeFrom_0 35 rfl
theorem dX7_takeFrom_69 : decode cX7_takeFrom 69 = .ok (.aload_n 1, 1) := dt_of DA_X7_takeFrom_0 36 rfl
theorem dX7_takeFrom_70 : decode cX7_takeFrom 70 = .ok (.getfield 21, 3) := dt_of DA_X7_takeFrom_0 37 rfl
theorem dX7_takeFrom_73 : decode cX7_takeFrom 73 = .ok (.iconst 0, 1) := dt_of DA_X7_takeFrom_0 38 rfl
theorem dX7_takeFrom_74 : decode cX7_takeFrom 74 = .ok (.aload_n 0, 1) := dt_of DA_X7_takeFrom_0 39 rfl
theorem dX7_takeFrom_75 : decode cX7_takeFrom 75 = .ok (.getfield 21, 3) := dt_of DA_X7_takeFrom_0 40 rfl
theorem dX7_takeFrom_78 : decode cX7_takeFrom 78 = .ok (.iconst 0, 1) := dt_of DA_X7_takeFrom_0 41 rfl
theorem dX7_takeFrom_79 : decode cX7_takeFrom 79 = .ok (.bipush 6, 2) := dt_of DA_X7_takeFrom_0 42 rfl
theorem dX7_takeFrom_81 : decode cX7_takeFrom 81 = .ok (.invokestatic 37, 3) := dt_of DA_X7_takeFrom_0 43 rfl
theorem dX7_takeFrom_84 : decode cX7_takeFrom 84 = .ok (.aload_n 1, 1) := dt_of DA_X7_takeFrom_0 44 rfl
theorem dX7_takeFrom_85 : decode cX7_takeFrom 85 = .ok (.getfield 24, 3) := dt_of DA_X7_takeFrom_0 45 rfl
theorem dX7_takeFrom_88 : decode cX7_takeFrom 88 = .ok (.iconst 0, 1) := dt_of DA_X7_takeFrom_0 46 rfl
theorem dX7_takeFrom_89 : decode cX7_takeFrom 89 = .ok (.aload_n 0, 1) := dt_of DA_X7_takeFrom_0 47 rfl
theorem dX7_takeFrom_90 : decode cX7_takeFrom 90 = .ok (.getfield 24, 3) := dt_of DA_X7_takeFrom_0 48 rfl
theorem dX7_takeFrom_93 : decode cX7_takeFrom 93 = .ok (.iconst 0, 1) := dt_of DA_X7_takeFrom_0 49 rfl
theorem dX7_takeFrom_94 : decode cX7_takeFrom 94 = .ok (.bipush 36, 2) := dt_of DA_X7_takeFrom_0 50 rfl
theorem dX7_takeFrom_96 : decode cX7_takeFrom 96 = .ok (.invokestatic 37, 3) := dt_of DA_X7_takeFrom_0 51 rfl
theorem dX7_takeFrom_99 : decode cX7_takeFrom 99 = .ok (.return_, 1) := dt_of DA_X7_takeFrom_0 52 rfl
def DT_X7_addBell_0 : List (Nat × Instr × Nat) := [(0, .aload_n 0, 1), (1, .getfield 27, 3), (4, .bipush 6, 2), (6, .if_icmp .lt 4, 3), (9, .return_, 1), (10, .aload_n 0, 1), (11, .getfield 9, 3), (14, .aload_n 0, 1), (15, .getfield 27, 3), (18, .iload_n 1, 1), (19, .iastore, 1), (20, .aload_n 0, 1), (21, .getfield 15, 3), (24, .aload_n 0, 1), (25, .getfield 27, 3), (28, .iload_n 2, 1), (29, .iastore, 1), (30, .aload_n 0, 1), (31, .getfield 18, 3), (34, .aload_n 0, 1), (35, .getfield 27, 3), (38, .iload_n 3, 1), (39, .iastore, 1), (40, .aload_n 0, 1), (41, .getfield 21, 3), (44, .aload_n 0, 1), (45, .getfield 27, 3), (48, .iconst 0, 1), (49, .iastore, 1), (50, .aload_n 0, 1), (51, .dup, 1), (52, .getfield 27, 3), (55, .iconst 1, 1), (56, .iadd, 1), (57, .putfield 27, 3), (60, .return_, 1)]
theorem DA_X7_addBell_0 : DT_X7_addBell_0.all (dtf cX7_addBell) = true := by decide +kernel
theorem dX7_addBell_0 : decode cX7_addBell 0 = .ok (.aload_n 0, 1) := dt_of DA_X7_addBell_0 0 rfl
theorem dX7_addBell_1 : decode cX7_addBell 1 = .ok (.getfield 27, 3) := dt_of DA_X7_addBell_0 1 rfl
theorem dX7_addBell_4 : decode cX7_addBell 4 = .ok (.bipush 6, 2) := dt_of DA_X7_addBell_0 2 rfl
theorem dX7_addBell_6 : decode cX7_addBell 6 = .ok (.if_icmp .lt 4, 3) := dt_of DA_X7_addBell_0 3 rfl
theorem dX7_addBell_9 : decode cX7_addBell 9 = .ok (.return_, 1) := dt_of DA_X7_addBell_0 4 rfl
theorem dX7_addBell_10 : decode cX7_addBell 10 = .ok (.aload_n 0, 1) := dt_of DA_X7_addBell_0 5 rfl
theorem dX7_addBell_11 : decode cX7_addBell 11 = .ok (.getfield 9, 3) := dt_of DA_X7_addBell_0 6 rfl
theorem dX7_addBell_14 : decode cX7_addBell 14 = .ok (.aload_n 0, 1) := dt_of DA_X7_addBell_0 7 rfl
theorem dX7_addBell_15 : decode cX7_addBell 15 = .ok (.getfield 27, 3) := dt_of DA_X7_addBell_0 8 rfl
theorem dX7_addBell_18 : decode cX7_addBell 18 = .ok (.iload_n 1, 1) := dt_of DA_X7_addBell_0 9 rfl
theorem dX7_addBell_19 : decode cX7_addBell 19 = .ok (.iastore, 1) := dt_of DA_X7_addBell_0 10 rfl
theorem dX7_addBell_20 : decode cX7_addBell 20 = .ok (.aload_n 0, 1) := dt_of DA_X7_addBell_0 11 rfl
theorem dX7_addBell_21 : decode cX7_addBell 21 = .ok (.getfield 15, 3) := dt_of DA_X7_addBell_0 12 rfl
theorem dX7_addBell_24 : decode cX7_addBell 24 = .ok (.aload_n 0, 1) := dt_of DA_X7_addBell_0 13 rfl
theorem dX7_addBell_25 : decode cX7_addBell 25 = .ok (.getfield 27, 3) := dt_of DA_X7_addBell_0 14 rfl
theorem dX7_addBell_28 : decode cX7_addBell 28 = .ok (.iload_n 2, 1) := dt_of DA_X7_addBell_0 15 rfl
theorem dX7_addBell_29 : decode cX7_addBell 29 = .ok (.iastore, 1) := dt_of DA_X7_addBell_0 16 rfl
theorem dX7_addBell_30 : decode cX7_addBell 30 = .ok (.aload_n 0, 1) := dt_of DA_X7_addBell_0 17 rfl
theorem dX7_addBell_31 : decode cX7_addBell 31 = .ok (.getfield 18, 3) := dt_of DA_X7_addBell_0 18 rfl
theorem dX7_addBell_34 : decode cX7_addBell 34 = .ok (.aload_n 0, 1) := dt_of DA_X7_addBell_0 19 rfl
theorem dX7_addBell_35 : decode cX7_addBell 35 = .ok (.getfield 27, 3) := dt_of DA_X7_addBell_0 20 rfl
theorem dX7_addBell_38 : decode cX7_addBell 38 = .ok (.iload_n 3, 1) := dt_of DA_X7_addBell_0 21 rfl
theorem dX7_addBell_39 : decode cX7_addBell 39 = .ok (.iastore, 1) := dt_of DA_X7_addBell_0 22 rfl
theorem dX7_addBell_40 : decode cX7_addBell 40 = .ok (.aload_n 0, 1) := dt_of DA_X7_addBell_0 23 rfl
theorem dX7_addBell_41 : decode cX7_addBell 41 = .ok (.getfield 21, 3) := dt_of DA_X7_addBell_0 24 rfl
theorem dX7_addBell_44 : decode cX7_addBell 44 = .ok (.aload_n 0, 1) := dt_of DA_X7_addBell_0 25 rfl
theorem dX7_addBell_45 : decode cX7_addBell 45 = .ok (.getfield 27, 3) := dt_of DA_X7_addBell_0 26 rfl
theorem dX7_addBell_48 : decode cX7_addBell 48 = .ok (.iconst 0, 1) := dt_of DA_X7_addBell_0 27 rfl
theorem dX7_addBell_49 : decode cX7_addBell 49 = .ok (.iastore, 1) := dt_of DA_X7_addBell_0 28 rfl
theorem dX7_addBell_50 : decode cX7_addBell 50 = .ok (.aload_n 0, 1) := dt_of DA_X7_addBell_0 29 rfl
theorem dX7_addBell_51 : decode cX7_addBell 51 = .ok (.dup, 1) := dt_of DA_X7_addBell_0 30 rfl
theorem dX7_addBell_52 : decode cX7_addBell 52 = .ok (.getfield 27, 3) := dt_of DA_X7_addBell_0 31 rfl
theorem dX7_addBell_55 : decode cX7_addBell 55 = .ok (.iconst 1, 1) := dt_of DA_X7_addBell_0 32 rfl
theorem dX7_addBell_56 : decode cX7_addBell 56 = .ok (.iadd, 1) := dt_of DA_X7_addBell_0 33 rfl
theorem dX7_addBell_57 : decode cX7_addBell 57 = .ok (.putfield 27, 3) := dt_of DA_X7_addBell_0 34 rfl
theorem dX7_addBell_60 : decode cX7_addBell 60 = .ok (.return_, 1) := dt_of DA_X7_addBell_0 35 rfl
def DT_X7_owedTo_0 : List (Nat × Instr × Nat) := [(0, .aload_n 0, 1), (1, .getfield 24, 3), (4, .iload_n 1, 1), (5, .bipush 6, 2), (7, .imul, 1), (8, .iload_n 2, 1), (9, .iadd, 1), (10, .iaload, 1), (11, .ireturn, 1)]
theorem DA_X7_owedTo_0 : DT_X7_owedTo_0.all (dtf cX7_owedTo) = true := by decide +kernel
theorem dX7_owedTo_0 : decode cX7_owedTo 0 = .ok (.aload_n 0, 1) := dt_of DA_X7_owedTo_0 0 rfl
theorem dX7_owedTo_1 : decode cX7_owedTo 1 = .ok (.getfield 24, 3) := dt_of DA_X7_owedTo_0 1 rfl
theorem dX7_owedTo_4 : decode cX7_owedTo 4 = .ok (.iload_n 1, 1) := dt_of DA_X7_owedTo_0 2 rfl
theorem dX7_owedTo_5 : decode cX7_owedTo 5 = .ok (.bipush 6, 2) := dt_of DA_X7_owedTo_0 3 rfl
theorem dX7_owedTo_7 : decode cX7_owedTo 7 = .ok (.imul, 1) := dt_of DA_X7_owedTo_0 4 rfl
theorem dX7_owedTo_8 : decode cX7_owedTo 8 = .ok (.iload_n 2, 1) := dt_of DA_X7_owedTo_0 5 rfl
theorem dX7_owedTo_9 : decode cX7_owedTo 9 = .ok (.iadd, 1) := dt_of DA_X7_owedTo_0 6 rfl
theorem dX7_owedTo_10 : decode cX7_owedTo 10 = .ok (.iaload, 1) := dt_of DA_X7_owedTo_0 7 rfl
theorem dX7_owedTo_11 : decode cX7_owedTo 11 = .ok (.ireturn, 1) := dt_of DA_X7_owedTo_0 8 rfl
def DT_X7_addDebt_0 : List (Nat × Instr × Nat) := [(0, .iload_n 3, 1), (1, .aload_n 0, 1), (2, .iload_n 2, 1), (3, .iload_n 1, 1), (4, .invokevirtual 43, 3), (7, .invokestatic 47, 3), (10, .istore 4, 2), (12, .aload_n 0, 1), (13, .getfield 24, 3), (16, .iload_n 2, 1), (17, .bipush 6, 2), (19, .imul, 1), (20, .iload_n 1, 1), (21, .iadd, 1), (22, .dup2, 1), (23, .iaload, 1), (24, .iload 4, 2), (26, .isub, 1), (27, .iastore, 1), (28, .aload_n 0, 1), (29, .getfield 24, 3), (32, .iload_n 1, 1), (33, .bipush 6, 2), (35, .imul, 1), (36, .iload_n 2, 1), (37, .iadd, 1), (38, .dup2, 1), (39, .iaload, 1), (40, .iload_n 3, 1), (41, .iload 4, 2), (43, .isub, 1), (44, .iadd, 1), (45, .iastore, 1), (46, .return_, 1)]
theorem DA_X7_addDebt_0 : DT_X7_addDebt_0.all (dtf cX7_addDebt) = true := by decide +kernel
theorem dX7_addDebt_0 : decode cX7_addDebt 0 = .ok (.iload_n 3, 1) := dt_of DA_X7_addDebt_0 0 rfl
theorem dX7_addDebt_1 : decode cX7_addDebt 1 = .ok (.aload_n 0, 1) := dt_of DA_X7_addDebt_0 1 rfl
theorem dX7_addDebt_2 : decode cX7_addDebt 2 = .ok (.iload_n 2, 1) := dt_of DA_X7_addDebt_0 2 rfl
theorem dX7_addDebt_3 : decode cX7_addDebt 3 = .ok (.iload_n 1, 1) := dt_of DA_X7_addDebt_0 3 rfl
theorem dX7_addDebt_4 : decode cX7_addDebt 4 = .ok (.invokevirtual 43, 3) := dt_of DA_X7_addDebt_0 4 rfl
theorem dX7_addDebt_7 : decode cX7_addDebt 7 = .ok (.invokestatic 47, 3) := dt_of DA_X7_addDebt_0 5 rfl
theorem dX7_addDebt_10 : decode cX7_addDebt 10 = .ok (.istore 4, 2) := dt_of DA_X7_addDebt_0 6 rfl
theorem dX7_addDebt_12 : decode cX7_addDebt 12 = .ok (.aload_n 0, 1) := dt_of DA_X7_addDebt_0 7 rfl
theorem dX7_addDebt_13 : decode cX7_addDebt 13 = .ok (.getfield 24, 3) := dt_of DA_X7_addDebt_0 8 rfl
theorem dX7_addDebt_16 : decode cX7_addDebt 16 = .ok (.iload_n 2, 1) := dt_of DA_X7_addDebt_0 9 rfl
theorem dX7_addDebt_17 : decode cX7_addDebt 17 = .ok (.bipush 6, 2) := dt_of DA_X7_addDebt_0 10 rfl
theorem dX7_addDebt_19 : decode cX7_addDebt 19 = .ok (.imul, 1) := dt_of DA_X7_addDebt_0 11 rfl
theorem dX7_addDebt_20 : decode cX7_addDebt 20 = .ok (.iload_n 1, 1) := dt_of DA_X7_addDebt_0 12 rfl
theorem dX7_addDebt_21 : decode cX7_addDebt 21 = .ok (.iadd, 1) := dt_of DA_X7_addDebt_0 13 rfl
theorem dX7_addDebt_22 : decode cX7_addDebt 22 = .ok (.dup2, 1) := dt_of DA_X7_addDebt_0 14 rfl
theorem dX7_addDebt_23 : decode cX7_addDebt 23 = .ok (.iaload, 1) := dt_of DA_X7_addDebt_0 15 rfl
theorem dX7_addDebt_24 : decode cX7_addDebt 24 = .ok (.iload 4, 2) := dt_of DA_X7_addDebt_0 16 rfl
theorem dX7_addDebt_26 : decode cX7_addDebt 26 = .ok (.isub, 1) := dt_of DA_X7_addDebt_0 17 rfl
theorem dX7_addDebt_27 : decode cX7_addDebt 27 = .ok (.iastore, 1) := dt_of DA_X7_addDebt_0 18 rfl
theorem dX7_addDebt_28 : decode cX7_addDebt 28 = .ok (.aload_n 0, 1) := dt_of DA_X7_addDebt_0 19 rfl
theorem dX7_addDebt_29 : decode cX7_addDebt 29 = .ok (.getfield 24, 3) := dt_of DA_X7_addDebt_0 20 rfl
theorem dX7_addDebt_32 : decode cX7_addDebt 32 = .ok (.iload_n 1, 1) := dt_of DA_X7_addDebt_0 21 rfl
theorem dX7_addDebt_33 : decode cX7_addDebt 33 = .ok (.bipush 6, 2) := dt_of DA_X7_addDebt_0 22 rfl
theorem dX7_addDebt_35 : decode cX7_addDebt 35 = .ok (.imul, 1) := dt_of DA_X7_addDebt_0 23 rfl
theorem dX7_addDebt_36 : decode cX7_addDebt 36 = .ok (.iload_n 2, 1) := dt_of DA_X7_addDebt_0 24 rfl
theorem dX7_addDebt_37 : decode cX7_addDebt 37 = .ok (.iadd, 1) := dt_of DA_X7_addDebt_0 25 rfl
theorem dX7_addDebt_38 : decode cX7_addDebt 38 = .ok (.dup2, 1) := dt_of DA_X7_addDebt_0 26 rfl
theorem dX7_addDebt_39 : decode cX7_addDebt 39 = .ok (.iaload, 1) := dt_of DA_X7_addDebt_0 27 rfl
theorem dX7_addDebt_40 : decode cX7_addDebt 40 = .ok (.iload_n 3, 1) := dt_of DA_X7_addDebt_0 28 rfl
theorem dX7_addDebt_41 : decode cX7_addDebt 41 = .ok (.iload 4, 2) := dt_of DA_X7_addDebt_0 29 rfl
theorem dX7_addDebt_43 : decode cX7_addDebt 43 = .ok (.isub, 1) := dt_of DA_X7_addDebt_0 30 rfl
theorem dX7_addDebt_44 : decode cX7_addDebt 44 = .ok (.iadd, 1) := dt_of DA_X7_addDebt_0 31 rfl
theorem dX7_addDebt_45 : decode cX7_addDebt 45 = .ok (.iastore, 1) := dt_of DA_X7_addDebt_0 32 rfl
theorem dX7_addDebt_46 : decode cX7_addDebt 46 = .ok (.return_, 1) := dt_of DA_X7_addDebt_0 33 rfl
def DT_X7_takeOff_0 : List (Nat × Instr × Nat) := [(0, .aload_n 0, 1), (1, .getfield 24, 3), (4, .iload_n 1, 1), (5, .bipush 6, 2), (7, .imul, 1), (8, .iload_n 2, 1), (9, .iadd, 1), (10, .dup2, 1), (11, .iaload, 1), (12, .iload_n 3, 1), (13, .aload_n 0, 1), (14, .iload_n 1, 1), (15, .iload_n 2, 1), (16, .invokevirtual 43, 3), (19, .invokestatic 47, 3), (22, .isub, 1), (23, .iastore, 1), (24, .return_, 1)]
theorem DA_X7_takeOff_0 : DT_X7_takeOff_0.all (dtf cX7_takeOff) = true := by decide +kernel
theorem dX7_takeOff_0 : decode cX7_takeOff 0 = .ok (.aload_n 0, 1) := dt_of DA_X7_takeOff_0 0 rfl
theorem dX7_takeOff_1 : decode cX7_takeOff 1 = .ok (.getfield 24, 3) := dt_of DA_X7_takeOff_0 1 rfl
theorem dX7_takeOff_4 : decode cX7_takeOff 4 = .ok (.iload_n 1, 1) := dt_of DA_X7_takeOff_0 2 rfl
theorem dX7_takeOff_5 : decode cX7_takeOff 5 = .ok (.bipush 6, 2) := dt_of DA_X7_takeOff_0 3 rfl
theorem dX7_takeOff_7 : decode cX7_takeOff 7 = .ok (.imul, 1) := dt_of DA_X7_takeOff_0 4 rfl
theorem dX7_takeOff_8 : decode cX7_takeOff 8 = .ok (.iload_n 2, 1) := dt_of DA_X7_takeOff_0 5 rfl
theorem dX7_takeOff_9 : decode cX7_takeOff 9 = .ok (.iadd, 1) := dt_of DA_X7_takeOff_0 6 rfl
theorem dX7_takeOff_10 : decode cX7_takeOff 10 = .ok (.dup2, 1) := dt_of DA_X7_takeOff_0 7 rfl
theorem dX7_takeOff_11 : decode cX7_takeOff 11 = .ok (.iaload, 1) := dt_of DA_X7_takeOff_0 8 rfl
theorem dX7_takeOff_12 : decode cX7_takeOff 12 = .ok (.iload_n 3, 1) := dt_of DA_X7_takeOff_0 9 rfl
theorem dX7_takeOff_13 : decode cX7_takeOff 13 = .ok (.aload_n 0, 1) := dt_of DA_X7_takeOff_0 10 rfl
theorem dX7_takeOff_14 : decode cX7_takeOff 14 = .ok (.iload_n 1, 1) := dt_of DA_X7_takeOff_0 11 rfl
theorem dX7_takeOff_15 : decode cX7_takeOff 15 = .ok (.iload_n 2, 1) := dt_of DA_X7_takeOff_0 12 rfl
theorem dX7_takeOff_16 : decode cX7_takeOff 16 = .ok (.invokevirtual 43, 3) := dt_of DA_X7_takeOff_0 13 rfl
theorem dX7_takeOff_19 : decode cX7_takeOff 19 = .ok (.invokestatic 47, 3) := dt_of DA_X7_takeOff_0 14 rfl
theorem dX7_takeOff_22 : decode cX7_takeOff 22 = .ok (.isub, 1) := dt_of DA_X7_takeOff_0 15 rfl
theorem dX7_takeOff_23 : decode cX7_takeOff 23 = .ok (.iastore, 1) := dt_of DA_X7_takeOff_0 16 rfl
theorem dX7_takeOff_24 : decode cX7_takeOff 24 = .ok (.return_, 1) := dt_of DA_X7_takeOff_0 17 rfl
def DT_X7_netOf_0 : List (Nat × Instr × Nat) := [(0, .iconst 0, 1), (1, .istore_n 2, 1), (2, .iconst 0, 1), (3, .istore_n 3, 1), (4, .iload_n 3, 1), (5, .aload_n 0, 1), (6, .getfield 27, 3), (9, .if_icmp .ge 25, 3), (12, .iload_n 2, 1), (13, .aload_n 0, 1), (14, .iload_n 3, 1), (15, .iload_n 1, 1), (16, .invokevirtual 43, 3), (19, .aload_n 0, 1), (20, .iload_n 1, 1), (21, .iload_n 3, 1), (22, .invokevirtual 43, 3), (25, .isub, 1), (26, .iadd, 1), (27, .istore_n 2, 1), (28, .iinc 3 1, 3), (31, .goto (-27), 3), (34, .iload_n 2, 1), (35, .ireturn, 1)]
theorem DA_X7_netOf_0 : DT_X7_netOf_0.all (dtf cX7_netOf) = true := by decide +kernel
theorem dX7_netOf_0 : decode cX7_netOf 0 = .ok (.iconst 0, 1) := dt_of DA_X7_netOf_0 0 rfl
theorem dX7_netOf_1 : decode cX7_netOf 1 = .ok (.istore_n 2, 1) := dt_of DA_X7_netOf_0 1 rfl
theorem dX7_netOf_2 : decode cX7_netOf 2 = .ok (.iconst 0, 1) := dt_of DA_X7_netOf_0 2 rfl
theorem dX7_netOf_3 : decode cX7_netOf 3 = .ok (.istore_n 3, 1) := dt_of DA_X7_netOf_0 3 rfl
theorem dX7_netOf_4 : decode cX7_netOf 4 = .ok (.iload_n 3, 1) := dt_of DA_X7_netOf_0 4 rfl
theorem dX7_netOf_5 : decode cX7_netOf 5 = .ok (.aload_n 0, 1) := dt_of DA_X7_netOf_0 5 rfl
theorem dX7_netOf_6 : decode cX7_netOf 6 = .ok (.getfield 27, 3) := dt_of DA_X7_netOf_0 6 rfl
theorem dX7_netOf_9 : decode cX7_netOf 9 = .ok (.if_icmp .ge 25, 3) := dt_of DA_X7_netOf_0 7 rfl
theorem dX7_netOf_12 : decode cX7_netOf 12 = .ok (.iload_n 2, 1) := dt_of DA_X7_netOf_0 8 rfl
theorem dX7_netOf_13 : decode cX7_netOf 13 = .ok (.aload_n 0, 1) := dt_of DA_X7_netOf_0 9 rfl
theorem dX7_netOf_14 : decode cX7_netOf 14 = .ok (.iload_n 3, 1) := dt_of DA_X7_netOf_0 10 rfl
theorem dX7_netOf_15 : decode cX7_netOf 15 = .ok (.iload_n 1, 1) := dt_of DA_X7_netOf_0 11 rfl
theorem dX7_netOf_16 : decode cX7_netOf 16 = .ok (.invokevirtual 43, 3) := dt_of DA_X7_netOf_0 12 rfl
theorem dX7_netOf_19 : decode cX7_netOf 19 = .ok (.aload_n 0, 1) := dt_of DA_X7_netOf_0 13 rfl
theorem dX7_netOf_20 : decode cX7_netOf 20 = .ok (.iload_n 1, 1) := dt_of DA_X7_netOf_0 14 rfl
theorem dX7_netOf_21 : decode cX7_netOf 21 = .ok (.iload_n 3, 1) := dt_of DA_X7_netOf_0 15 rfl
theorem dX7_netOf_22 : decode cX7_netOf 22 = .ok (.invokevirtual 43, 3) := dt_of DA_X7_netOf_0 16 rfl
theorem dX7_netOf_25 : decode cX7_netOf 25 = .ok (.isub, 1) := dt_of DA_X7_netOf_0 17 rfl
theorem dX7_netOf_26 : decode cX7_netOf 26 = .ok (.iadd, 1) := dt_of DA_X7_netOf_0 18 rfl
theorem dX7_netOf_27 : decode cX7_netOf 27 = .ok (.istore_n 2, 1) := dt_of DA_X7_netOf_0 19 rfl
theorem dX7_netOf_28 : decode cX7_netOf 28 = .ok (.iinc 3 1, 3) := dt_of DA_X7_netOf_0 20 rfl
theorem dX7_netOf_31 : decode cX7_netOf 31 = .ok (.goto (-27), 3) := dt_of DA_X7_netOf_0 21 rfl
theorem dX7_netOf_34 : decode cX7_netOf 34 = .ok (.iload_n 2, 1) := dt_of DA_X7_netOf_0 22 rfl
theorem dX7_netOf_35 : decode cX7_netOf 35 = .ok (.ireturn, 1) := dt_of DA_X7_netOf_0 23 rfl
def DT_X7_allOwed_0 : List (Nat × Instr × Nat) := [(0, .iconst 0, 1), (1, .istore_n 1, 1), (2, .iconst 0, 1), (3, .istore_n 2, 1), (4, .iload_n 2, 1), (5, .aload_n 0, 1), (6, .getfield 27, 3), (9, .if_icmp .ge 34, 3), (12, .iconst 0, 1), (13, .istore_n 3, 1), (14, .iload_n 3, 1), (15, .aload_n 0, 1), (16, .getfield 27, 3), (19, .if_icmp .ge 18, 3), (22, .iload_n 1, 1), (23, .aload_n 0, 1), (24, .iload_n 2, 1), (25, .iload_n 3, 1), (26, .invokevirtual 43, 3), (29, .iadd, 1), (30, .istore_n 1, 1), (31, .iinc 3 1, 3), (34, .goto (-20), 3), (37, .iinc 2 1, 3), (40, .goto (-36), 3), (43, .iload_n 1, 1), (44, .ireturn, 1)]
theorem DA_X7_allOwed_0 : DT_X7_allOwed_0.all (dtf cX7_allOwed) = true := by decide +kernel
theorem dX7_allOwed_0 : decode cX7_allOwed 0 = .ok (.iconst 0, 1) := dt_of DA_X7_allOwed_0 0 rfl
theorem dX7_allOwed_1 : decode cX7_allOwed 1 = .ok (.istore_n 1, 1) := dt_of DA_X7_allOwed_0 1 rfl
theorem dX7_allOwed_2 : decode cX7_allOwed 2 = .ok (.iconst 0, 1) := dt_of DA_X7_allOwed_0 2 rfl
theorem dX7_allOwed_3 : decode cX7_allOwed 3 = .ok (.istore_n 2, 1) := dt_of DA_X7_allOwed_0 3 rfl
theorem dX7_allOwed_4 : decode cX7_allOwed 4 = .ok (.iload_n 2, 1) := dt_of DA_X7_allOwed_0 4 rfl
theorem dX7_allOwed_5 : decode cX7_allOwed 5 = .ok (.aload_n 0, 1) := dt_of DA_X7_allOwed_0 5 rfl
theorem dX7_allOwed_6 : decode cX7_allOwed 6 = .ok (.getfield 27, 3) := dt_of DA_X7_allOwed_0 6 rfl
theorem dX7_allOwed_9 : decode cX7_allOwed 9 = .ok (.if_icmp .ge 34, 3) := dt_of DA_X7_allOwed_0 7 rfl
theorem dX7_allOwed_12 : decode cX7_allOwed 12 = .ok (.iconst 0, 1) := dt_of DA_X7_allOwed_0 8 rfl
theorem dX7_allOwed_13 : decode cX7_allOwed 13 = .ok (.istore_n 3, 1) := dt_of DA_X7_allOwed_0 9 rfl
theorem dX7_allOwed_14 : decode cX7_allOwed 14 = .ok (.iload_n 3, 1) := dt_of DA_X7_allOwed_0 10 rfl
theorem dX7_allOwed_15 : decode cX7_allOwed 15 = .ok (.aload_n 0, 1) := dt_of DA_X7_allOwed_0 11 rfl
theorem dX7_allOwed_16 : decode cX7_allOwed 16 = .ok (.getfield 27, 3) := dt_of DA_X7_allOwed_0 12 rfl
theorem dX7_allOwed_19 : decode cX7_allOwed 19 = .ok (.if_icmp .ge 18, 3) := dt_of DA_X7_allOwed_0 13 rfl
theorem dX7_allOwed_22 : decode cX7_allOwed 22 = .ok (.iload_n 1, 1) := dt_of DA_X7_allOwed_0 14 rfl
theorem dX7_allOwed_23 : decode cX7_allOwed 23 = .ok (.aload_n 0, 1) := dt_of DA_X7_allOwed_0 15 rfl
theorem dX7_allOwed_24 : decode cX7_allOwed 24 = .ok (.iload_n 2, 1) := dt_of DA_X7_allOwed_0 16 rfl
theorem dX7_allOwed_25 : decode cX7_allOwed 25 = .ok (.iload_n 3, 1) := dt_of DA_X7_allOwed_0 17 rfl
theorem dX7_allOwed_26 : decode cX7_allOwed 26 = .ok (.invokevirtual 43, 3) := dt_of DA_X7_allOwed_0 18 rfl
theorem dX7_allOwed_29 : decode cX7_allOwed 29 = .ok (.iadd, 1) := dt_of DA_X7_allOwed_0 19 rfl
theorem dX7_allOwed_30 : decode cX7_allOwed 30 = .ok (.istore_n 1, 1) := dt_of DA_X7_allOwed_0 20 rfl
theorem dX7_allOwed_31 : decode cX7_allOwed 31 = .ok (.iinc 3 1, 3) := dt_of DA_X7_allOwed_0 21 rfl
theorem dX7_allOwed_34 : decode cX7_allOwed 34 = .ok (.goto (-20), 3) := dt_of DA_X7_allOwed_0 22 rfl
theorem dX7_allOwed_37 : decode cX7_allOwed 37 = .ok (.iinc 2 1, 3) := dt_of DA_X7_allOwed_0 23 rfl
theorem dX7_allOwed_40 : decode cX7_allOwed 40 = .ok (.goto (-36), 3) := dt_of DA_X7_allOwed_0 24 rfl
theorem dX7_allOwed_43 : decode cX7_allOwed 43 = .ok (.iload_n 1, 1) := dt_of DA_X7_allOwed_0 25 rfl
theorem dX7_allOwed_44 : decode cX7_allOwed 44 = .ok (.ireturn, 1) := dt_of DA_X7_allOwed_0 26 rfl
def DT_X7_allSilent_0 : List (Nat × Instr × Nat) := [(0, .iconst 0, 1), (1, .istore_n 1, 1), (2, .iconst 0, 1), (3, .istore_n 2, 1), (4, .iload_n 2, 1), (5, .aload_n 0, 1), (6, .getfield 27, 3), (9, .if_icmp .ge 18, 3), (12, .iload_n 1, 1), (13, .aload_n 0, 1), (14, .getfield 21, 3), (17, .iload_n 2, 1), (18, .iaload, 1), (19, .iadd, 1), (20, .istore_n 1, 1), (21, .iinc 2 1, 3), (24, .goto (-20), 3), (27, .iload_n 1, 1), (28, .ireturn, 1)]
theorem DA_X7_allSilent_0 : DT_X7_allSilent_0.all (dtf cX7_allSilent) = true := by decide +kernel
theorem dX7_allSilent_0 : decode cX7_allSilent 0 = .ok (.iconst 0, 1) := dt_of DA_X7_allSilent_0 0 rfl
theorem dX7_allSilent_1 : decode cX7_allSilent 1 = .ok (.istore_n 1, 1) := dt_of DA_X7_allSilent_0 1 rfl
theorem dX7_allSilent_2 : decode cX7_allSilent 2 = .ok (.iconst 0, 1) := dt_of DA_X7_allSilent_0 2 rfl
theorem dX7_allSilent_3 : decode cX7_allSilent 3 = .ok (.istore_n 2, 1) := dt_of DA_X7_allSilent_0 3 rfl
theorem dX7_allSilent_4 : decode cX7_allSilent 4 = .ok (.iload_n 2, 1) := dt_of DA_X7_allSilent_0 4 rfl
theorem dX7_allSilent_5 : decode cX7_allSilent 5 = .ok (.aload_n 0, 1) := dt_of DA_X7_allSilent_0 5 rfl
theorem dX7_allSilent_6 : decode cX7_allSilent 6 = .ok (.getfield 27, 3) := dt_of DA_X7_allSilent_0 6 rfl
theorem dX7_allSilent_9 : decode cX7_allSilent 9 = .ok (.if_icmp .ge 18, 3) := dt_of DA_X7_allSilent_0 7 rfl
theorem dX7_allSilent_12 : decode cX7_allSilent 12 = .ok (.iload_n 1, 1) := dt_of DA_X7_allSilent_0 8 rfl
theorem dX7_allSilent_13 : decode cX7_allSilent 13 = .ok (.aload_n 0, 1) := dt_of DA_X7_allSilent_0 9 rfl
theorem dX7_allSilent_14 : decode cX7_allSilent 14 = .ok (.getfield 21, 3) := dt_of DA_X7_allSilent_0 10 rfl
theorem dX7_allSilent_17 : decode cX7_allSilent 17 = .ok (.iload_n 2, 1) := dt_of DA_X7_allSilent_0 11 rfl
theorem dX7_allSilent_18 : decode cX7_allSilent 18 = .ok (.iaload, 1) := dt_of DA_X7_allSilent_0 12 rfl
theorem dX7_allSilent_19 : decode cX7_allSilent 19 = .ok (.iadd, 1) := dt_of DA_X7_allSilent_0 13 rfl
theorem dX7_allSilent_20 : decode cX7_allSilent 20 = .ok (.istore_n 1, 1) := dt_of DA_X7_allSilent_0 14 rfl
theorem dX7_allSilent_21 : decode cX7_allSilent 21 = .ok (.iinc 2 1, 3) := dt_of DA_X7_allSilent_0 15 rfl
theorem dX7_allSilent_24 : decode cX7_allSilent 24 = .ok (.goto (-20), 3) := dt_of DA_X7_allSilent_0 16 rfl
theorem dX7_allSilent_27 : decode cX7_allSilent 27 = .ok (.iload_n 1, 1) := dt_of DA_X7_allSilent_0 17 rfl
theorem dX7_allSilent_28 : decode cX7_allSilent 28 = .ok (.ireturn, 1) := dt_of DA_X7_allSilent_0 18 rfl
def DT_X7_strokesToday_0 : List (Nat × Instr × Nat) := [(0, .aload_n 0, 1), (1, .getfield 31, 3), (4, .aload_n 0, 1), (5, .getfield 34, 3), (8, .iconst 3, 1), (9, .iand, 1), (10, .ishr, 1), (11, .iconst 1, 1), (12, .iand, 1), (13, .iconst 1, 1), (14, .if_icmp .ne 7, 3), (17, .iconst 1, 1), (18, .goto 4, 3), (21, .iconst 0, 1), (22, .istore_n 2, 1), (23, .iload_n 2, 1), (24, .ifCond .eq 18, 3), (27, .iconst 0, 1), (28, .aload_n 0, 1), (29, .getfield 15, 3), (32, .iload_n 1, 1), (33, .iaload, 1), (34, .iconst 1, 1), (35, .isub, 1), (36, .invokestatic 52, 3), (39, .goto 9, 3), (42, .aload_n 0, 1), (43, .getfield 15, 3), (46, .iload_n 1, 1), (47, .iaload, 1), (48, .ireturn, 1)]
theorem DA_X7_strokesToday_0 : DT_X7_strokesToday_0.all (dtf cX7_strokesToday) = true := by decide +kernel
theorem dX7_strokesToday_0 : decode cX7_strokesToday 0 = .ok (.aload_n 0, 1) := dt_of DA_X7_strokesToday_0 0 rfl
theorem dX7_strokesToday_1 : decode cX7_strokesToday 1 = .ok (.getfield 31, 3) := dt_of DA_X7_strokesToday_0 1 rfl
theorem dX7_strokesToday_4 : decode cX7_strokesToday 4 = .ok (.aload_n 0, 1) := dt_of DA_X7_strokesToday_0 2 rfl
theorem dX7_strokesToday_5 : decode cX7_strokesToday 5 = .ok (.getfield 34, 3) := dt_of DA_X7_strokesToday_0 3 rfl
theorem dX7_strokesToday_8 : decode cX7_strokesToday 8 = .ok (.iconst 3, 1) := dt_of DA_X7_strokesToday_0 4 rfl
theorem dX7_strokesToday_9 : decode cX7_strokesToday 9 = .ok (.iand, 1) := dt_of DA_X7_strokesToday_0 5 rfl
theorem dX7_strokesToday_10 : decode cX7_strokesToday 10 = .ok (.ishr, 1) := dt_of DA_X7_strokesToday_0 6 rfl
theorem dX7_strokesToday_11 : decode cX7_strokesToday 11 = .ok (.iconst 1, 1) := dt_of DA_X7_strokesToday_0 7 rfl
theorem dX7_strokesToday_12 : decode cX7_strokesToday 12 = .ok (.iand, 1) := dt_of DA_X7_strokesToday_0 8 rfl
theorem dX7_strokesToday_13 : decode cX7_strokesToday 13 = .ok (.iconst 1, 1) := dt_of DA_X7_strokesToday_0 9 rfl
theorem dX7_strokesToday_14 : decode cX7_strokesToday 14 = .ok (.if_icmp .ne 7, 3) := dt_of DA_X7_strokesToday_0 10 rfl
theorem dX7_strokesToday_17 : decode cX7_strokesToday 17 = .ok (.iconst 1, 1) := dt_of DA_X7_strokesToday_0 11 rfl
theorem dX7_strokesToday_18 : decode cX7_strokesToday 18 = .ok (.goto 4, 3) := dt_of DA_X7_strokesToday_0 12 rfl
theorem dX7_strokesToday_21 : decode cX7_strokesToday 21 = .ok (.iconst 0, 1) := dt_of DA_X7_strokesToday_0 13 rfl
theorem dX7_strokesToday_22 : decode cX7_strokesToday 22 = .ok (.istore_n 2, 1) := dt_of DA_X7_strokesToday_0 14 rfl
theorem dX7_strokesToday_23 : decode cX7_strokesToday 23 = .ok (.iload_n 2, 1) := dt_of DA_X7_strokesToday_0 15 rfl
theorem dX7_strokesToday_24 : decode cX7_strokesToday 24 = .ok (.ifCond .eq 18, 3) := dt_of DA_X7_strokesToday_0 16 rfl
theorem dX7_strokesToday_27 : decode cX7_strokesToday 27 = .ok (.iconst 0, 1) := dt_of DA_X7_strokesToday_0 17 rfl
theorem dX7_strokesToday_28 : decode cX7_strokesToday 28 = .ok (.aload_n 0, 1) := dt_of DA_X7_strokesToday_0 18 rfl
theorem dX7_strokesToday_29 : decode cX7_strokesToday 29 = .ok (.getfield 15, 3) := dt_of DA_X7_strokesToday_0 19 rfl
theorem dX7_strokesToday_32 : decode cX7_strokesToday 32 = .ok (.iload_n 1, 1) := dt_of DA_X7_strokesToday_0 20 rfl
theorem dX7_strokesToday_33 : decode cX7_strokesToday 33 = .ok (.iaload, 1) := dt_of DA_X7_strokesToday_0 21 rfl
theorem dX7_strokesToday_34 : decode cX7_strokesToday 34 = .ok (.iconst 1, 1) := dt_of DA_X7_strokesToday_0 22 rfl
theorem dX7_strokesToday_35 : decode cX7_strokesToday 35 = .ok (.isub, 1) := dt_of DA_X7_strokesToday_0 23 rfl
theorem dX7_strokesToday_36 : decode cX7_strokesToday 36 = .ok (.invokestatic 52, 3) := dt_of DA_X7_strokesToday_0 24 rfl
theorem dX7_strokesToday_39 : decode cX7_strokesToday 39 = .ok (.goto 9, 3) := dt_of DA_X7_strokesToday_0 25 rfl
theorem dX7_strokesToday_42 : decode cX7_strokesToday 42 = .ok (.aload_n 0, 1) := dt_of DA_X7_strokesToday_0 26 rfl
theorem dX7_strokesToday_43 : decode cX7_strokesToday 43 = .ok (.getfield 15, 3) := dt_of DA_X7_strokesToday_0 27 rfl
theorem dX7_strokesToday_46 : decode cX7_strokesToday 46 = .ok (.iload_n 1, 1) := dt_of DA_X7_strokesToday_0 28 rfl
theorem dX7_strokesToday_47 : decode cX7_strokesToday 47 = .ok (.iaload, 1) := dt_of DA_X7_strokesToday_0 29 rfl
theorem dX7_strokesToday_48 : decode cX7_strokesToday 48 = .ok (.ireturn, 1) := dt_of DA_X7_strokesToday_0 30 rfl
def DT_X7_wantsToday_0 : List (Nat × Instr × Nat) := [(0, .aload_n 0, 1), (1, .getfield 9, 3), (4, .iload_n 1, 1), (5, .iaload, 1), (6, .iconst 5, 1), (7, .if_icmp .ne 17, 3), (10, .aload_n 0, 1), (11, .getfield 34, 3), (14, .iconst 1, 1), (15, .iand, 1), (16, .iconst 1, 1), (17, .if_icmp .ne 7, 3), (20, .iconst 1, 1), (21, .goto 4, 3), (24, .iconst 0, 1), (25, .istore_n 2, 1), (26, .iload_n 2, 1), (27, .ifCond .eq 14, 3), (30, .aload_n 0, 1), (31, .getfield 18, 3), (34, .iload_n 1, 1), (35, .iaload, 1), (36, .iconst 1, 1), (37, .iadd, 1), (38, .goto 9, 3), (41, .aload_n 0, 1), (42, .getfield 18, 3), (45, .iload_n 1, 1), (46, .iaload, 1), (47, .ireturn, 1)]
theorem DA_X7_wantsToday_0 : DT_X7_wantsToday_0.all (dtf cX7_wantsToday) = true := by decide +kernel
theorem dX7_wantsToday_0 : decode cX7_wantsToday 0 = .ok (.aload_n 0, 1) := dt_of DA_X7_wantsToday_0 0 rfl
theorem dX7_wantsToday_1 : decode cX7_wantsToday 1 = .ok (.getfield 9, 3) := dt_of DA_X7_wantsToday_0 1 rfl
theorem dX7_wantsToday_4 : decode cX7_wantsToday 4 = .ok (.iload_n 1, 1) := dt_of DA_X7_wantsToday_0 2 rfl
theorem dX7_wantsToday_5 : decode cX7_wantsToday 5 = .ok (.iaload, 1) := dt_of DA_X7_wantsToday_0 3 rfl
theorem dX7_wantsToday_6 : decode cX7_wantsToday 6 = .ok (.iconst 5, 1) := dt_of DA_X7_wantsToday_0 4 rfl
theorem dX7_wantsToday_7 : decode cX7_wantsToday 7 = .ok (.if_icmp .ne 17, 3) := dt_of DA_X7_wantsToday_0 5 rfl
theorem dX7_wantsToday_10 : decode cX7_wantsToday 10 = .ok (.aload_n 0, 1) := dt_of DA_X7_wantsToday_0 6 rfl
theorem dX7_wantsToday_11 : decode cX7_wantsToday 11 = .ok (.getfield 34, 3) := dt_of DA_X7_wantsToday_0 7 rfl
theorem dX7_wantsToday_14 : decode cX7_wantsToday 14 = .ok (.iconst 1, 1) := dt_of DA_X7_wantsToday_0 8 rfl
theorem dX7_wantsToday_15 : decode cX7_wantsToday 15 = .ok (.iand, 1) := dt_of DA_X7_wantsToday_0 9 rfl
theorem dX7_wantsToday_16 : decode cX7_wantsToday 16 = .ok (.iconst 1, 1) := dt_of DA_X7_wantsToday_0 10 rfl
theorem dX7_wantsToday_17 : decode cX7_wantsToday 17 = .ok (.if_icmp .ne 7, 3) := dt_of DA_X7_wantsToday_0 11 rfl
theorem dX7_wantsToday_20 : decode cX7_wantsToday 20 = .ok (.iconst 1, 1) := dt_of DA_X7_wantsToday_0 12 rfl
theorem dX7_wantsToday_21 : decode cX7_wantsToday 21 = .ok (.goto 4, 3) := dt_of DA_X7_wantsToday_0 13 rfl
theorem dX7_wantsToday_24 : decode cX7_wantsToday 24 = .ok (.iconst 0, 1) := dt_of DA_X7_wantsToday_0 14 rfl
theorem dX7_wantsToday_25 : decode cX7_wantsToday 25 = .ok (.istore_n 2, 1) := dt_of DA_X7_wantsToday_0 15 rfl
theorem dX7_wantsToday_26 : decode cX7_wantsToday 26 = .ok (.iload_n 2, 1) := dt_of DA_X7_wantsToday_0 16 rfl
theorem dX7_wantsToday_27 : decode cX7_wantsToday 27 = .ok (.ifCond .eq 14, 3) := dt_of DA_X7_wantsToday_0 17 rfl
theorem dX7_wantsToday_30 : decode cX7_wantsToday 30 = .ok (.aload_n 0, 1) := dt_of DA_X7_wantsToday_0 18 rfl
theorem dX7_wantsToday_31 : decode cX7_wantsToday 31 = .ok (.getfield 18, 3) := dt_of DA_X7_wantsToday_0 19 rfl
theorem dX7_wantsToday_34 : decode cX7_wantsToday 34 = .ok (.iload_n 1, 1) := dt_of DA_X7_wantsToday_0 20 rfl
theorem dX7_wantsToday_35 : decode cX7_wantsToday 35 = .ok (.iaload, 1) := dt_of DA_X7_wantsToday_0 21 rfl
theorem dX7_wantsToday_36 : decode cX7_wantsToday 36 = .ok (.iconst 1, 1) := dt_of DA_X7_wantsToday_0 22 rfl
theorem dX7_wantsToday_37 : decode cX7_wantsToday 37 = .ok (.iadd, 1) := dt_of DA_X7_wantsToday_0 23 rfl
theorem dX7_wantsToday_38 : decode cX7_wantsToday 38 = .ok (.goto 9, 3) := dt_of DA_X7_wantsToday_0 24 rfl
theorem dX7_wantsToday_41 : decode cX7_wantsToday 41 = .ok (.aload_n 0, 1) := dt_of DA_X7_wantsToday_0 25 rfl
theorem dX7_wantsToday_42 : decode cX7_wantsToday 42 = .ok (.getfield 18, 3) := dt_of DA_X7_wantsToday_0 26 rfl
theorem dX7_wantsToday_45 : decode cX7_wantsToday 45 = .ok (.iload_n 1, 1) := dt_of DA_X7_wantsToday_0 27 rfl
theorem dX7_wantsToday_46 : decode cX7_wantsToday 46 = .ok (.iaload, 1) := dt_of DA_X7_wantsToday_0 28 rfl
theorem dX7_wantsToday_47 : decode cX7_wantsToday 47 = .ok (.ireturn, 1) := dt_of DA_X7_wantsToday_0 29 rfl
def DT_X7_isSilentMoreThan_0 : List (Nat × Instr × Nat) := [(0, .aload_n 0, 1), (1, .getfield 21, 3), (4, .iload_n 2, 1), (5, .iaload, 1), (6, .aload_n 1, 1), (7, .getfield 21, 3), (10, .iload_n 2, 1), (11, .iaload, 1), (12, .if_icmp .le 7, 3), (15, .iconst 1, 1), (16, .goto 4, 3), (19, .iconst 0, 1), (20, .ireturn, 1)]
theorem DA_X7_isSilentMoreThan_0 : DT_X7_isSilentMoreThan_0.all (dtf cX7_isSilentMoreThan) = true := by decide +kernel
theorem dX7_isSilentMoreThan_0 : decode cX7_isSilentMoreThan 0 = .ok (.aload_n 0, 1) := dt_of DA_X7_isSilentMoreThan_0 0 rfl
theorem dX7_isSilentMoreThan_1 : decode cX7_isSilentMoreThan 1 = .ok (.getfield 21, 3) := dt_of DA_X7_isSilentMoreThan_0 1 rfl
theorem dX7_isSilentMoreThan_4 : decode cX7_isSilentMoreThan 4 = .ok (.iload_n 2, 1) := dt_of DA_X7_isSilentMoreThan_0 2 rfl
theorem dX7_isSilentMoreThan_5 : decode cX7_isSilentMoreThan 5 = .ok (.iaload, 1) := dt_of DA_X7_isSilentMoreThan_0 3 rfl
theorem dX7_isSilentMoreThan_6 : decode cX7_isSilentMoreThan 6 = .ok (.aload_n 1, 1) := dt_of DA_X7_isSilentMoreThan_0 4 rfl
theorem dX7_isSilentMoreThan_7 : decode cX7_isSilentMoreThan 7 = .ok (.getfield 21, 3) := dt_of DA_X7_isSilentMoreThan_0 5 rfl
theorem dX7_isSilentMoreThan_10 : decode cX7_isSilentMoreThan 10 = .ok (.iload_n 2, 1) := dt_of DA_X7_isSilentMoreThan_0 6 rfl
theorem dX7_isSilentMoreThan_11 : decode cX7_isSilentMoreThan 11 = .ok (.iaload, 1) := dt_of DA_X7_isSilentMoreThan_0 7 rfl
theorem dX7_isSilentMoreThan_12 : decode cX7_isSilentMoreThan 12 = .ok (.if_icmp .le 7, 3) := dt_of DA_X7_isSilentMoreThan_0 8 rfl
theorem dX7_isSilentMoreThan_15 : decode cX7_isSilentMoreThan 15 = .ok (.iconst 1, 1) := dt_of DA_X7_isSilentMoreThan_0 9 rfl
theorem dX7_isSilentMoreThan_16 : decode cX7_isSilentMoreThan 16 = .ok (.goto 4, 3) := dt_of DA_X7_isSilentMoreThan_0 10 rfl
theorem dX7_isSilentMoreThan_19 : decode cX7_isSilentMoreThan 19 = .ok (.iconst 0, 1) := dt_of DA_X7_isSilentMoreThan_0 11 rfl
theorem dX7_isSilentMoreThan_20 : decode cX7_isSilentMoreThan 20 = .ok (.ireturn, 1) := dt_of DA_X7_isSilentMoreThan_0 12 rfl
def DT_X7_firstCircle_0 : List (Nat × Instr × Nat) := [(0, .iconst 0, 1), (1, .istore_n 2, 1), (2, .iload_n 2, 1), (3, .aload_n 0, 1), (4, .getfield 27, 3), (7, .if_icmp .ge 84, 3), (10, .iload_n 2, 1), (11, .iconst 1, 1), (12, .iadd, 1), (13, .istore_n 3, 1), (14, .iload_n 3, 1), (15, .aload_n 0, 1), (16, .getfield 27, 3), (19, .if_icmp .ge 66, 3), (22, .iload_n 2, 1), (23, .iconst 1, 1), (24, .iadd, 1), (25, .istore 4, 2), (27, .iload 4, 2), (29, .aload_n 0, 1), (30, .getfield 27, 3), (33, .if_icmp .ge 46, 3), (36, .aload_n 0, 1), (37, .iload_n 2, 1), (38, .iload_n 3, 1), (39, .iload 4, 2), (41, .invokevirtual 55, 3), (44, .istore 5, 2), (46, .iload 5, 2), (48, .ifCond .le 25, 3), (51, .iload_n 1, 1), (52, .ifCond .ne 18, 3), (55, .bipush 100, 2), (57, .iload_n 2, 1), (58, .imul, 1), (59, .bipush 10, 2), (61, .iload_n 3, 1), (62, .imul, 1), (63, .iadd, 1), (64, .iload 4, 2), (66, .iadd, 1), (67, .goto 5, 3), (70, .iload 5, 2), (72, .ireturn, 1), (73, .iinc 4 1, 3), (76, .goto (-49), 3), (79, .iinc 3 1, 3), (82, .goto (-68), 3), (85, .iinc 2 1, 3), (88, .goto (-86), 3), (91, .ldc 59, 2), (93, .ireturn, 1)]
theorem DA_X7_firstCircle_0 : DT_X7_firstCircle_0.all (dtf cX7_firstCircle) = true := by decide +kernel
theorem dX7_firstCircle_0 : decode cX7_firstCircle 0 = .ok (.iconst 0, 1) := dt_of DA_X7_firstCircle_0 0 rfl
theorem dX7_firstCircle_1 : decode cX7_firstCircle 1 = .ok (.istore_n 2, 1) := dt_of DA_X7_firstCircle_0 1 rfl
theorem dX7_firstCircle_2 : decode cX7_firstCircle 2 = .ok (.iload_n 2, 1) := dt_of DA_X7_firstCircle_0 2 rfl
theorem dX7_firstCircle_3 : decode cX7_firstCircle 3 = .ok (.aload_n 0, 1) := dt_of DA_X7_firstCircle_0 3 rfl
theorem dX7_firstCircle_4 : decode cX7_firstCircle 4 = .ok (.getfield 27, 3) := dt_of DA_X7_firstCircle_0 4 rfl
theorem dX7_firstCircle_7 : decode cX7_firstCircle 7 = .ok (.if_icmp .ge 84, 3) := dt_of DA_X7_firstCircle_0 5 rfl
theorem dX7_firstCircle_10 : decode cX7_firstCircle 10 = .ok (.iload_n 2, 1) := dt_of DA_X7_firstCircle_0 6 rfl
theorem dX7_firstCircle_11 : decode cX7_firstCircle 11 = .ok (.iconst 1, 1) := dt_of DA_X7_firstCircle_0 7 rfl
theorem dX7_firstCircle_12 : decode cX7_firstCircle 12 = .ok (.iadd, 1) := dt_of DA_X7_firstCircle_0 8 rfl
theorem dX7_firstCircle_13 : decode cX7_firstCircle 13 = .ok (.istore_n 3, 1) := dt_of DA_X7_firstCircle_0 9 rfl
theorem dX7_firstCircle_14 : decode cX7_firstCircle 14 = .ok (.iload_n 3, 1) := dt_of DA_X7_firstCircle_0 10 rfl
theorem dX7_firstCircle_15 : decode cX7_firstCircle 15 = .ok (.aload_n 0, 1) := dt_of DA_X7_firstCircle_0 11 rfl
theorem dX7_firstCircle_16 : decode cX7_firstCircle 16 = .ok (.getfield 27, 3) := dt_of DA_X7_firstCircle_0 12 rfl
theorem dX7_firstCircle_19 : decode cX7_firstCircle 19 = .ok (.if_icmp .ge 66, 3) := dt_of DA_X7_firstCircle_0 13 rfl
theorem dX7_firstCircle_22 : decode cX7_firstCircle 22 = .ok (.iload_n 2, 1) := dt_of DA_X7_firstCircle_0 14 rfl
theorem dX7_firstCircle_23 : decode cX7_firstCircle 23 = .ok (.iconst 1, 1) := dt_of DA_X7_firstCircle_0 15 rfl
theorem dX7_firstCircle_24 : decode cX7_firstCircle 24 = .ok (.iadd, 1) := dt_of DA_X7_firstCircle_0 16 rfl
theorem dX7_firstCircle_25 : decode cX7_firstCircle 25 = .ok (.istore 4, 2) := dt_of DA_X7_firstCircle_0 17 rfl
theorem dX7_firstCircle_27 : decode cX7_firstCircle 27 = .ok (.iload 4, 2) := dt_of DA_X7_firstCircle_0 18 rfl
theorem dX7_firstCircle_29 : decode cX7_firstCircle 29 = .ok (.aload_n 0, 1) := dt_of DA_X7_firstCircle_0 19 rfl
theorem dX7_firstCircle_30 : decode cX7_firstCircle 30 = .ok (.getfield 27, 3) := dt_of DA_X7_firstCircle_0 20 rfl
theorem dX7_firstCircle_33 : decode cX7_firstCircle 33 = .ok (.if_icmp .ge 46, 3) := dt_of DA_X7_firstCircle_0 21 rfl
theorem dX7_firstCircle_36 : decode cX7_firstCircle 36 = .ok (.aload_n 0, 1) := dt_of DA_X7_firstCircle_0 22 rfl
theorem dX7_firstCircle_37 : decode cX7_firstCircle 37 = .ok (.iload_n 2, 1) := dt_of DA_X7_firstCircle_0 23 rfl
theorem dX7_firstCircle_38 : decode cX7_firstCircle 38 = .ok (.iload_n 3, 1) := dt_of DA_X7_firstCircle_0 24 rfl
theorem dX7_firstCircle_39 : decode cX7_firstCircle 39 = .ok (.iload 4, 2) := dt_of DA_X7_firstCircle_0 25 rfl
theorem dX7_firstCircle_41 : decode cX7_firstCircle 41 = .ok (.invokevirtual 55, 3) := dt_of DA_X7_firstCircle_0 26 rfl
theorem dX7_firstCircle_44 : decode cX7_firstCircle 44 = .ok (.istore 5, 2) := dt_of DA_X7_firstCircle_0 27 rfl
theorem dX7_firstCircle_46 : decode cX7_firstCircle 46 = .ok (.iload 5, 2) := dt_of DA_X7_firstCircle_0 28 rfl
theorem dX7_firstCircle_48 : decode cX7_firstCircle 48 = .ok (.ifCond .le 25, 3) := dt_of DA_X7_firstCircle_0 29 rfl
theorem dX7_firstCircle_51 : decode cX7_firstCircle 51 = .ok (.iload_n 1, 1) := dt_of DA_X7_firstCircle_0 30 rfl
theorem dX7_firstCircle_52 : decode cX7_firstCircle 52 = .ok (.ifCond .ne 18, 3) := dt_of DA_X7_firstCircle_0 31 rfl
theorem dX7_firstCircle_55 : decode cX7_firstCircle 55 = .ok (.bipush 100, 2) := dt_of DA_X7_firstCircle_0 32 rfl
theorem dX7_firstCircle_57 : decode cX7_firstCircle 57 = .ok (.iload_n 2, 1) := dt_of DA_X7_firstCircle_0 33 rfl
theorem dX7_firstCircle_58 : decode cX7_firstCircle 58 = .ok (.imul, 1) := dt_of DA_X7_firstCircle_0 34 rfl
theorem dX7_firstCircle_59 : decode cX7_firstCircle 59 = .ok (.bipush 10, 2) := dt_of DA_X7_firstCircle_0 35 rfl
theorem dX7_firstCircle_61 : decode cX7_firstCircle 61 = .ok (.iload_n 3, 1) := dt_of DA_X7_firstCircle_0 36 rfl
theorem dX7_firstCircle_62 : decode cX7_firstCircle 62 = .ok (.imul, 1) := dt_of DA_X7_firstCircle_0 37 rfl
theorem dX7_firstCircle_63 : decode cX7_firstCircle 63 = .ok (.iadd, 1) := dt_of DA_X7_firstCircle_0 38 rfl
theorem dX7_firstCircle_64 : decode cX7_firstCircle 64 = .ok (.iload 4, 2) := dt_of DA_X7_firstCircle_0 39 rfl
theorem dX7_firstCircle_66 : decode cX7_firstCircle 66 = .ok (.iadd, 1) := dt_of DA_X7_firstCircle_0 40 rfl
theorem dX7_firstCircle_67 : decode cX7_firstCircle 67 = .ok (.goto 5, 3) := dt_of DA_X7_firstCircle_0 41 rfl
theorem dX7_firstCircle_70 : decode cX7_firstCircle 70 = .ok (.iload 5, 2) := dt_of DA_X7_firstCircle_0 42 rfl
theorem dX7_firstCircle_72 : decode cX7_firstCircle 72 = .ok (.ireturn, 1) := dt_of DA_X7_firstCircle_0 43 rfl
theorem dX7_firstCircle_73 : decode cX7_firstCircle 73 = .ok (.iinc 4 1, 3) := dt_of DA_X7_firstCircle_0 44 rfl
theorem dX7_firstCircle_76 : decode cX7_firstCircle 76 = .ok (.goto (-49), 3) := dt_of DA_X7_firstCircle_0 45 rfl
theorem dX7_firstCircle_79 : decode cX7_firstCircle 79 = .ok (.iinc 3 1, 3) := dt_of DA_X7_firstCircle_0 46 rfl
theorem dX7_firstCircle_82 : decode cX7_firstCircle 82 = .ok (.goto (-68), 3) := dt_of DA_X7_firstCircle_0 47 rfl
theorem dX7_firstCircle_85 : decode cX7_firstCircle 85 = .ok (.iinc 2 1, 3) := dt_of DA_X7_firstCircle_0 48 rfl
theorem dX7_firstCircle_88 : decode cX7_firstCircle 88 = .ok (.goto (-86), 3) := dt_of DA_X7_firstCircle_0 49 rfl
theorem dX7_firstCircle_91 : decode cX7_firstCircle 91 = .ok (.ldc 59, 2) := dt_of DA_X7_firstCircle_0 50 rfl
theorem dX7_firstCircle_93 : decode cX7_firstCircle 93 = .ok (.ireturn, 1) := dt_of DA_X7_firstCircle_0 51 rfl
def DT_X7_leastOfCircle_0 : List (Nat × Instr × Nat) := [(0, .aload_n 0, 1), (1, .iload_n 1, 1), (2, .iload_n 2, 1), (3, .invokevirtual 43, 3), (6, .aload_n 0, 1), (7, .iload_n 2, 1), (8, .iload_n 3, 1), (9, .invokevirtual 43, 3), (12, .aload_n 0, 1), (13, .iload_n 3, 1), (14, .iload_n 1, 1), (15, .invokevirtual 43, 3), (18, .invokestatic 47, 3), (21, .invokestatic 47, 3), (24, .ireturn, 1)]
theorem DA_X7_leastOfCircle_0 : DT_X7_leastOfCircle_0.all (dtf cX7_leastOfCircle) = true := by decide +kernel
theorem dX7_leastOfCircle_0 : decode cX7_leastOfCircle 0 = .ok (.aload_n 0, 1) := dt_of DA_X7_leastOfCircle_0 0 rfl
theorem dX7_leastOfCircle_1 : decode cX7_leastOfCircle 1 = .ok (.iload_n 1, 1) := dt_of DA_X7_leastOfCircle_0 1 rfl
theorem dX7_leastOfCircle_2 : decode cX7_leastOfCircle 2 = .ok (.iload_n 2, 1) := dt_of DA_X7_leastOfCircle_0 2 rfl
theorem dX7_leastOfCircle_3 : decode cX7_leastOfCircle 3 = .ok (.invokevirtual 43, 3) := dt_of DA_X7_leastOfCircle_0 3 rfl
theorem dX7_leastOfCircle_6 : decode cX7_leastOfCircle 6 = .ok (.aload_n 0, 1) := dt_of DA_X7_leastOfCircle_0 4 rfl
theorem dX7_leastOfCircle_7 : decode cX7_leastOfCircle 7 = .ok (.iload_n 2, 1) := dt_of DA_X7_leastOfCircle_0 5 rfl
theorem dX7_leastOfCircle_8 : decode cX7_leastOfCircle 8 = .ok (.iload_n 3, 1) := dt_of DA_X7_leastOfCircle_0 6 rfl
theorem dX7_leastOfCircle_9 : decode cX7_leastOfCircle 9 = .ok (.invokevirtual 43, 3) := dt_of DA_X7_leastOfCircle_0 7 rfl
theorem dX7_leastOfCircle_12 : decode cX7_leastOfCircle 12 = .ok (.aload_n 0, 1) := dt_of DA_X7_leastOfCircle_0 8 rfl
theorem dX7_leastOfCircle_13 : decode cX7_leastOfCircle 13 = .ok (.iload_n 3, 1) := dt_of DA_X7_leastOfCircle_0 9 rfl
theorem dX7_leastOfCircle_14 : decode cX7_leastOfCircle 14 = .ok (.iload_n 1, 1) := dt_of DA_X7_leastOfCircle_0 10 rfl
theorem dX7_leastOfCircle_15 : decode cX7_leastOfCircle 15 = .ok (.invokevirtual 43, 3) := dt_of DA_X7_leastOfCircle_0 11 rfl
theorem dX7_leastOfCircle_18 : decode cX7_leastOfCircle 18 = .ok (.invokestatic 47, 3) := dt_of DA_X7_leastOfCircle_0 12 rfl
theorem dX7_leastOfCircle_21 : decode cX7_leastOfCircle 21 = .ok (.invokestatic 47, 3) := dt_of DA_X7_leastOfCircle_0 13 rfl
theorem dX7_leastOfCircle_24 : decode cX7_leastOfCircle 24 = .ok (.ireturn, 1) := dt_of DA_X7_leastOfCircle_0 14 rfl
def DT_J6_bitCount_0f7a4_0 : List (Nat × Instr × Nat) := [(0, .iload_n 0, 1), (1, .iload_n 0, 1), (2, .iconst 1, 1), (3, .iushr, 1), (4, .ldc_w 265, 3), (7, .iand, 1), (8, .isub, 1), (9, .istore_n 0, 1), (10, .iload_n 0, 1), (11, .ldc_w 266, 3), (14, .iand, 1), (15, .iload_n 0, 1), (16, .iconst 2, 1), (17, .iushr, 1), (18, .ldc_w 266, 3), (21, .iand, 1), (22, .iadd, 1), (23, .istore_n 0, 1), (24, .iload_n 0, 1), (25, .iload_n 0, 1), (26, .iconst 4, 1), (27, .iushr, 1), (28, .iadd, 1), (29, .ldc_w 267, 3), (32, .iand, 1), (33, .istore_n 0, 1), (34, .iload_n 0, 1), (35, .iload_n 0, 1), (36, .bipush 8, 2), (38, .iushr, 1), (39, .iadd, 1), (40, .istore_n 0, 1), (41, .iload_n 0, 1), (42, .iload_n 0, 1), (43, .bipush 16, 2), (45, .iushr, 1), (46, .iadd, 1), (47, .istore_n 0, 1), (48, .iload_n 0, 1), (49, .bipush 63, 2), (51, .iand, 1), (52, .ireturn, 1)]
theorem DA_J6_bitCount_0f7a4_0 : DT_J6_bitCount_0f7a4_0.all (dtf cJ6_bitCount_0f7a4) = true := by decide +kernel
theorem dJ6_bitCount_0f7a4_0 : decode cJ6_bitCount_0f7a4 0 = .ok (.iload_n 0, 1) := dt_of DA_J6_bitCount_0f7a4_0 0 rfl
theorem dJ6_bitCount_0f7a4_1 : decode cJ6_bitCount_0f7a4 1 = .ok (.iload_n 0, 1) := dt_of DA_J6_bitCount_0f7a4_0 1 rfl
theorem dJ6_bitCount_0f7a4_2 : decode cJ6_bitCount_0f7a4 2 = .ok (.iconst 1, 1) := dt_of DA_J6_bitCount_0f7a4_0 2 rfl
theorem dJ6_bitCount_0f7a4_3 : decode cJ6_bitCount_0f7a4 3 = .ok (.iushr, 1) := dt_of DA_J6_bitCount_0f7a4_0 3 rfl
theorem dJ6_bitCount_0f7a4_4 : decode cJ6_bitCount_0f7a4 4 = .ok (.ldc_w 265, 3) := dt_of DA_J6_bitCount_0f7a4_0 4 rfl
theorem dJ6_bitCount_0f7a4_7 : decode cJ6_bitCount_0f7a4 7 = .ok (.iand, 1) := dt_of DA_J6_bitCount_0f7a4_0 5 rfl
theorem dJ6_bitCount_0f7a4_8 : decode cJ6_bitCount_0f7a4 8 = .ok (.isub, 1) := dt_of DA_J6_bitCount_0f7a4_0 6 rfl
theorem dJ6_bitCount_0f7a4_9 : decode cJ6_bitCount_0f7a4 9 = .ok (.istore_n 0, 1) := dt_of DA_J6_bitCount_0f7a4_0 7 rfl
theorem dJ6_bitCount_0f7a4_10 : decode cJ6_bitCount_0f7a4 10 = .ok (.iload_n 0, 1) := dt_of DA_J6_bitCount_0f7a4_0 8 rfl
theorem dJ6_bitCount_0f7a4_11 : decode cJ6_bitCount_0f7a4 11 = .ok (.ldc_w 266, 3) := dt_of DA_J6_bitCount_0f7a4_0 9 rfl
theorem dJ6_bitCount_0f7a4_14 : decode cJ6_bitCount_0f7a4 14 = .ok (.iand, 1) := dt_of DA_J6_bitCount_0f7a4_0 10 rfl
theorem dJ6_bitCount_0f7a4_15 : decode cJ6_bitCount_0f7a4 15 = .ok (.iload_n 0, 1) := dt_of DA_J6_bitCount_0f7a4_0 11 rfl
theorem dJ6_bitCount_0f7a4_16 : decode cJ6_bitCount_0f7a4 16 = .ok (.iconst 2, 1) := dt_of DA_J6_bitCount_0f7a4_0 12 rfl
theorem dJ6_bitCount_0f7a4_17 : decode cJ6_bitCount_0f7a4 17 = .ok (.iushr, 1) := dt_of DA_J6_bitCount_0f7a4_0 13 rfl
theorem dJ6_bitCount_0f7a4_18 : decode cJ6_bitCount_0f7a4 18 = .ok (.ldc_w 266, 3) := dt_of DA_J6_bitCount_0f7a4_0 14 rfl
theorem dJ6_bitCount_0f7a4_21 : decode cJ6_bitCount_0f7a4 21 = .ok (.iand, 1) := dt_of DA_J6_bitCount_0f7a4_0 15 rfl
theorem dJ6_bitCount_0f7a4_22 : decode cJ6_bitCount_0f7a4 22 = .ok (.iadd, 1) := dt_of DA_J6_bitCount_0f7a4_0 16 rfl
theorem dJ6_bitCount_0f7a4_23 : decode cJ6_bitCount_0f7a4 23 = .ok (.istore_n 0, 1) := dt_of DA_J6_bitCount_0f7a4_0 17 rfl
theorem dJ6_bitCount_0f7a4_24 : decode cJ6_bitCount_0f7a4 24 = .ok (.iload_n 0, 1) := dt_of DA_J6_bitCount_0f7a4_0 18 rfl
theorem dJ6_bitCount_0f7a4_25 : decode cJ6_bitCount_0f7a4 25 = .ok (.iload_n 0, 1) := dt_of DA_J6_bitCount_0f7a4_0 19 rfl
theorem dJ6_bitCount_0f7a4_26 : decode cJ6_bitCount_0f7a4 26 = .ok (.iconst 4, 1) := dt_of DA_J6_bitCount_0f7a4_0 20 rfl
theorem dJ6_bitCount_0f7a4_27 : decode cJ6_bitCount_0f7a4 27 = .ok (.iushr, 1) := dt_of DA_J6_bitCount_0f7a4_0 21 rfl
theorem dJ6_bitCount_0f7a4_28 : decode cJ6_bitCount_0f7a4 28 = .ok (.iadd, 1) := dt_of DA_J6_bitCount_0f7a4_0 22 rfl
theorem dJ6_bitCount_0f7a4_29 : decode cJ6_bitCount_0f7a4 29 = .ok (.ldc_w 267, 3) := dt_of DA_J6_bitCount_0f7a4_0 23 rfl
theorem dJ6_bitCount_0f7a4_32 : decode cJ6_bitCount_0f7a4 32 = .ok (.iand, 1) := dt_of DA_J6_bitCount_0f7a4_0 24 rfl
theorem dJ6_bitCount_0f7a4_33 : decode cJ6_bitCount_0f7a4 33 = .ok (.istore_n 0, 1) := dt_of DA_J6_bitCount_0f7a4_0 25 rfl
theorem dJ6_bitCount_0f7a4_34 : decode cJ6_bitCount_0f7a4 34 = .ok (.iload_n 0, 1) := dt_of DA_J6_bitCount_0f7a4_0 26 rfl
theorem dJ6_bitCount_0f7a4_35 : decode cJ6_bitCount_0f7a4 35 = .ok (.iload_n 0, 1) := dt_of DA_J6_bitCount_0f7a4_0 27 rfl
theorem dJ6_bitCount_0f7a4_36 : decode cJ6_bitCount_0f7a4 36 = .ok (.bipush 8, 2) := dt_of DA_J6_bitCount_0f7a4_0 28 rfl
theorem dJ6_bitCount_0f7a4_38 : decode cJ6_bitCount_0f7a4 38 = .ok (.iushr, 1) := dt_of DA_J6_bitCount_0f7a4_0 29 rfl
theorem dJ6_bitCount_0f7a4_39 : decode cJ6_bitCount_0f7a4 39 = .ok (.iadd, 1) := dt_of DA_J6_bitCount_0f7a4_0 30 rfl
theorem dJ6_bitCount_0f7a4_40 : decode cJ6_bitCount_0f7a4 40 = .ok (.istore_n 0, 1) := dt_of DA_J6_bitCount_0f7a4_0 31 rfl
theorem dJ6_bitCount_0f7a4_41 : decode cJ6_bitCount_0f7a4 41 = .ok (.iload_n 0, 1) := dt_of DA_J6_bitCount_0f7a4_0 32 rfl
theorem dJ6_bitCount_0f7a4_42 : decode cJ6_bitCount_0f7a4 42 = .ok (.iload_n 0, 1) := dt_of DA_J6_bitCount_0f7a4_0 33 rfl
theorem dJ6_bitCount_0f7a4_43 : decode cJ6_bitCount_0f7a4 43 = .ok (.bipush 16, 2) := dt_of DA_J6_bitCount_0f7a4_0 34 rfl
theorem dJ6_bitCount_0f7a4_45 : decode cJ6_bitCount_0f7a4 45 = .ok (.iushr, 1) := dt_of DA_J6_bitCount_0f7a4_0 35 rfl
theorem dJ6_bitCount_0f7a4_46 : decode cJ6_bitCount_0f7a4 46 = .ok (.iadd, 1) := dt_of DA_J6_bitCount_0f7a4_0 36 rfl
theorem dJ6_bitCount_0f7a4_47 : decode cJ6_bitCount_0f7a4 47 = .ok (.istore_n 0, 1) := dt_of DA_J6_bitCount_0f7a4_0 37 rfl
theorem dJ6_bitCount_0f7a4_48 : decode cJ6_bitCount_0f7a4 48 = .ok (.iload_n 0, 1) := dt_of DA_J6_bitCount_0f7a4_0 38 rfl
theorem dJ6_bitCount_0f7a4_49 : decode cJ6_bitCount_0f7a4 49 = .ok (.bipush 63, 2) := dt_of DA_J6_bitCount_0f7a4_0 39 rfl
theorem dJ6_bitCount_0f7a4_51 : decode cJ6_bitCount_0f7a4 51 = .ok (.iand, 1) := dt_of DA_J6_bitCount_0f7a4_0 40 rfl
theorem dJ6_bitCount_0f7a4_52 : decode cJ6_bitCount_0f7a4 52 = .ok (.ireturn, 1) := dt_of DA_J6_bitCount_0f7a4_0 41 rfl
def DT_J9_max_7cf53_0 : List (Nat × Instr × Nat) := [(0, .iload_n 0, 1), (1, .iload_n 1, 1), (2, .if_icmp .lt 7, 3), (5, .iload_n 0, 1), (6, .goto 4, 3), (9, .iload_n 1, 1), (10, .ireturn, 1)]
theorem DA_J9_max_7cf53_0 : DT_J9_max_7cf53_0.all (dtf cJ9_max_7cf53) = true := by decide +kernel
theorem dJ9_max_7cf53_0 : decode cJ9_max_7cf53 0 = .ok (.iload_n 0, 1) := dt_of DA_J9_max_7cf53_0 0 rfl
theorem dJ9_max_7cf53_1 : decode cJ9_max_7cf53 1 = .ok (.iload_n 1, 1) := dt_of DA_J9_max_7cf53_0 1 rfl
theorem dJ9_max_7cf53_2 : decode cJ9_max_7cf53 2 = .ok (.if_icmp .lt 7, 3) := dt_of DA_J9_max_7cf53_0 2 rfl
theorem dJ9_max_7cf53_5 : decode cJ9_max_7cf53 5 = .ok (.iload_n 0, 1) := dt_of DA_J9_max_7cf53_0 3 rfl
theorem dJ9_max_7cf53_6 : decode cJ9_max_7cf53 6 = .ok (.goto 4, 3) := dt_of DA_J9_max_7cf53_0 4 rfl
theorem dJ9_max_7cf53_9 : decode cJ9_max_7cf53 9 = .ok (.iload_n 1, 1) := dt_of DA_J9_max_7cf53_0 5 rfl
theorem dJ9_max_7cf53_10 : decode cJ9_max_7cf53 10 = .ok (.ireturn, 1) := dt_of DA_J9_max_7cf53_0 6 rfl
def DT_J9_min_7cf53_0 : List (Nat × Instr × Nat) := [(0, .iload_n 0, 1), (1, .iload_n 1, 1), (2, .if_icmp .gt 7, 3), (5, .iload_n 0, 1), (6, .goto 4, 3), (9, .iload_n 1, 1), (10, .ireturn, 1)]
theorem DA_J9_min_7cf53_0 : DT_J9_min_7cf53_0.all (dtf cJ9_min_7cf53) = true := by decide +kernel
theorem dJ9_min_7cf53_0 : decode cJ9_min_7cf53 0 = .ok (.iload_n 0, 1) := dt_of DA_J9_min_7cf53_0 0 rfl
theorem dJ9_min_7cf53_1 : decode cJ9_min_7cf53 1 = .ok (.iload_n 1, 1) := dt_of DA_J9_min_7cf53_0 1 rfl
theorem dJ9_min_7cf53_2 : decode cJ9_min_7cf53 2 = .ok (.if_icmp .gt 7, 3) := dt_of DA_J9_min_7cf53_0 2 rfl
theorem dJ9_min_7cf53_5 : decode cJ9_min_7cf53 5 = .ok (.iload_n 0, 1) := dt_of DA_J9_min_7cf53_0 3 rfl
theorem dJ9_min_7cf53_6 : decode cJ9_min_7cf53 6 = .ok (.goto 4, 3) := dt_of DA_J9_min_7cf53_0 4 rfl
theorem dJ9_min_7cf53_9 : decode cJ9_min_7cf53 9 = .ok (.iload_n 1, 1) := dt_of DA_J9_min_7cf53_0 5 rfl
theorem dJ9_min_7cf53_10 : decode cJ9_min_7cf53 10 = .ok (.ireturn, 1) := dt_of DA_J9_min_7cf53_0 6 rfl
