theorem dall {c : ByteArray} {L : List (Nat × Instr × Nat)} (h : ∀ q ∈ L, decode c q.1 = .ok (q.2.1, q.2.2)) (k : Nat) {pc n : Nat} {i : Instr} (e : L[k]? = some (pc, i, n)) : decode c pc = .ok (i, n) := h (pc, i, n) (List.mem_of_getElem? e)
def lgX0_init_1 : List (Nat × Instr × Nat) := [(0, .aload_n 0, 1), (1, .invokespecial 3, 3), (4, .aload_n 0, 1), (5, .new 9, 3), (8, .dup, 1), (9, .invokespecial 11, 3), (12, .putfield 12, 3), (15, .aload_n 0, 1), (16, .bipush 9, 2), (18, .newarray .int, 2), (20, .putfield 18, 3), (23, .aload_n 0, 1), (24, .bipush 9, 2), (26, .newarray .int, 2), (28, .putfield 22, 3), (31, .return_, 1)]
theorem dgX0_init_1 : ∀ q ∈ lgX0_init_1, decode cX0_init q.1 = .ok (q.2.1, q.2.2) := by decide +kernel
theorem dX0_init_0 : decode cX0_init 0 = .ok (.aload_n 0, 1) := dall dgX0_init_1 0 rfl
theorem dX0_init_1 : decode cX0_init 1 = .ok (.invokespecial 3, 3) := dall dgX0_init_1 1 rfl
theorem dX0_init_4 : decode cX0_init 4 = .ok (.aload_n 0, 1) := dall dgX0_init_1 2 rfl
theorem dX0_init_5 : decode cX0_init 5 = .ok (.new 9, 3) := dall dgX0_init_1 3 rfl
theorem dX0_init_8 : decode cX0_init 8 = .ok (.dup, 1) := dall dgX0_init_1 4 rfl
theorem dX0_init_9 : decode cX0_init 9 = .ok (.invokespecial 11, 3) := dall dgX0_init_1 5 rfl
theorem dX0_init_12 : decode cX0_init 12 = .ok (.putfield 12, 3) := dall dgX0_init_1 6 rfl
theorem dX0_init_15 : decode cX0_init 15 = .ok (.aload_n 0, 1) := dall dgX0_init_1 7 rfl
theorem dX0_init_16 : decode cX0_init 16 = .ok (.bipush 9, 2) := dall dgX0_init_1 8 rfl
theorem dX0_init_18 : decode cX0_init 18 = .ok (.newarray .int, 2) := dall dgX0_init_1 9 rfl
theorem dX0_init_20 : decode cX0_init 20 = .ok (.putfield 18, 3) := dall dgX0_init_1 10 rfl
theorem dX0_init_23 : decode cX0_init 23 = .ok (.aload_n 0, 1) := dall dgX0_init_1 11 rfl
theorem dX0_init_24 : decode cX0_init 24 = .ok (.bipush 9, 2) := dall dgX0_init_1 12 rfl
theorem dX0_init_26 : decode cX0_init 26 = .ok (.newarray .int, 2) := dall dgX0_init_1 13 rfl
theorem dX0_init_28 : decode cX0_init 28 = .ok (.putfield 22, 3) := dall dgX0_init_1 14 rfl
theorem dX0_init_31 : decode cX0_init 31 = .ok (.return_, 1) := dall dgX0_init_1 15 rfl
def lgX0_findBest_2 : List (Nat × Instr × Nat) := [(0, .aload_n 0, 1), (1, .iconst 0, 1), (2, .putfield 25, 3), (5, .aload_n 0, 1), (6, .getfield 12, 3), (9, .ldc 29, 2), (11, .putfield 30, 3), (14, .aload_n 0, 1), (15, .getfield 22, 3), (18, .iconst 0, 1), (19, .invokestatic 34, 3), (22, .aload_n 0, 1), (23, .aload_n 1, 1), (24, .iconst 0, 1), (25, .iconst 0, 1), (26, .iconst 0, 1), (27, .lconst 0, 1), (28, .invokestatic 40, 3), (31, .return_, 1)]
theorem dgX0_findBest_2 : ∀ q ∈ lgX0_findBest_2, decode cX0_findBest q.1 = .ok (q.2.1, q.2.2) := by decide +kernel
theorem dX0_findBest_0 : decode cX0_findBest 0 = .ok (.aload_n 0, 1) := dall dgX0_findBest_2 0 rfl
theorem dX0_findBest_1 : decode cX0_findBest 1 = .ok (.iconst 0, 1) := dall dgX0_findBest_2 1 rfl
theorem dX0_findBest_2 : decode cX0_findBest 2 = .ok (.putfield 25, 3) := dall dgX0_findBest_2 2 rfl
theorem dX0_findBest_5 : decode cX0_findBest 5 = .ok (.aload_n 0, 1) := dall dgX0_findBest_2 3 rfl
theorem dX0_findBest_6 : decode cX0_findBest 6 = .ok (.getfield 12, 3) := dall dgX0_findBest_2 4 rfl
theorem dX0_findBest_9 : decode cX0_findBest 9 = .ok (.ldc 29, 2) := dall dgX0_findBest_2 5 rfl
theorem dX0_findBest_11 : decode cX0_findBest 11 = .ok (.putfield 30, 3) := dall dgX0_findBest_2 6 rfl
theorem dX0_findBest_14 : decode cX0_findBest 14 = .ok (.aload_n 0, 1) := dall dgX0_findBest_2 7 rfl
theorem dX0_findBest_15 : decode cX0_findBest 15 = .ok (.getfield 22, 3) := dall dgX0_findBest_2 8 rfl
theorem dX0_findBest_18 : decode cX0_findBest 18 = .ok (.iconst 0, 1) := dall dgX0_findBest_2 9 rfl
theorem dX0_findBest_19 : decode cX0_findBest 19 = .ok (.invokestatic 34, 3) := dall dgX0_findBest_2 10 rfl
theorem dX0_findBest_22 : decode cX0_findBest 22 = .ok (.aload_n 0, 1) := dall dgX0_findBest_2 11 rfl
theorem dX0_findBest_23 : decode cX0_findBest 23 = .ok (.aload_n 1, 1) := dall dgX0_findBest_2 12 rfl
theorem dX0_findBest_24 : decode cX0_findBest 24 = .ok (.iconst 0, 1) := dall dgX0_findBest_2 13 rfl
theorem dX0_findBest_25 : decode cX0_findBest 25 = .ok (.iconst 0, 1) := dall dgX0_findBest_2 14 rfl
theorem dX0_findBest_26 : decode cX0_findBest 26 = .ok (.iconst 0, 1) := dall dgX0_findBest_2 15 rfl
theorem dX0_findBest_27 : decode cX0_findBest 27 = .ok (.lconst 0, 1) := dall dgX0_findBest_2 16 rfl
theorem dX0_findBest_28 : decode cX0_findBest 28 = .ok (.invokestatic 40, 3) := dall dgX0_findBest_2 17 rfl
theorem dX0_findBest_31 : decode cX0_findBest 31 = .ok (.return_, 1) := dall dgX0_findBest_2 18 rfl
def lgX0_findNear_3 : List (Nat × Instr × Nat) := [(0, .aload_n 0, 1), (1, .iconst 1, 1), (2, .putfield 25, 3), (5, .aload_n 0, 1), (6, .aload_n 0, 1), (7, .getfield 12, 3), (10, .getfield 30, 3), (13, .iload_n 2, 1), (14, .isub, 1), (15, .putfield 44, 3), (18, .aload_n 0, 1), (19, .iconst 0, 1), (20, .putfield 47, 3), (23, .aload_n 0, 1), (24, .bipush 9, 2), (26, .putfield 50, 3), (29, .aload_n 0, 1), (30, .iconst 0, 1), (31, .putfield 53, 3), (34, .aload_n 0, 1), (35, .ldc2_w 56, 3), (38, .putfield 58, 3), (41, .aload_n 0, 1), (42, .lconst 0, 1), (43, .putfield 62, 3), (46, .aload_n 0, 1), (47, .getfield 22, 3), (50, .iconst 0, 1), (51, .invokestatic 34, 3), (54, .aload_n 0, 1), (55, .aload_n 1, 1), (56, .iconst 0, 1), (57, .iconst 0, 1), (58, .iconst 0, 1), (59, .lconst 0, 1), (60, .invokestatic 40, 3), (63, .return_, 1)]
theorem dgX0_findNear_3 : ∀ q ∈ lgX0_findNear_3, decode cX0_findNear q.1 = .ok (q.2.1, q.2.2) := by decide +kernel
theorem dX0_findNear_0 : decode cX0_findNear 0 = .ok (.aload_n 0, 1) := dall dgX0_findNear_3 0 rfl
theorem dX0_findNear_1 : decode cX0_findNear 1 = .ok (.iconst 1, 1) := dall dgX0_findNear_3 1 rfl
theorem dX0_findNear_2 : decode cX0_findNear 2 = .ok (.putfield 25, 3) := dall dgX0_findNear_3 2 rfl
theorem dX0_findNear_5 : decode cX0_findNear 5 = .ok (.aload_n 0, 1) := dall dgX0_findNear_3 3 rfl
theorem dX0_findNear_6 : decode cX0_findNear 6 = .ok (.aload_n 0, 1) := dall dgX0_findNear_3 4 rfl
theorem dX0_findNear_7 : decode cX0_findNear 7 = .ok (.getfield 12, 3) := dall dgX0_findNear_3 5 rfl
theorem dX0_findNear_10 : decode cX0_findNear 10 = .ok (.getfield 30, 3) := dall dgX0_findNear_3 6 rfl
theorem dX0_findNear_13 : decode cX0_findNear 13 = .ok (.iload_n 2, 1) := dall dgX0_findNear_3 7 rfl
theorem dX0_findNear_14 : decode cX0_findNear 14 = .ok (.isub, 1) := dall dgX0_findNear_3 8 rfl
theorem dX0_findNear_15 : decode cX0_findNear 15 = .ok (.putfield 44, 3) := dall dgX0_findNear_3 9 rfl
theorem dX0_findNear_18 : decode cX0_findNear 18 = .ok (.aload_n 0, 1) := dall dgX0_findNear_3 10 rfl
theorem dX0_findNear_19 : decode cX0_findNear 19 = .ok (.iconst 0, 1) := dall dgX0_findNear_3 11 rfl
theorem dX0_findNear_20 : decode cX0_findNear 20 = .ok (.putfield 47, 3) := dall dgX0_findNear_3 12 rfl
theorem dX0_findNear_23 : decode cX0_findNear 23 = .ok (.aload_n 0, 1) := dall dgX0_findNear_3 13 rfl
theorem dX0_findNear_24 : decode cX0_findNear 24 = .ok (.bipush 9, 2) := dall dgX0_findNear_3 14 rfl
theorem dX0_findNear_26 : decode cX0_findNear 26 = .ok (.putfield 50, 3) := dall dgX0_findNear_3 15 rfl
theorem dX0_findNear_29 : decode cX0_findNear 29 = .ok (.aload_n 0, 1) := dall dgX0_findNear_3 16 rfl
theorem dX0_findNear_30 : decode cX0_findNear 30 = .ok (.iconst 0, 1) := dall dgX0_findNear_3 17 rfl
theorem dX0_findNear_31 : decode cX0_findNear 31 = .ok (.putfield 53, 3) := dall dgX0_findNear_3 18 rfl
theorem dX0_findNear_34 : decode cX0_findNear 34 = .ok (.aload_n 0, 1) := dall dgX0_findNear_3 19 rfl
theorem dX0_findNear_35 : decode cX0_findNear 35 = .ok (.ldc2_w 56, 3) := dall dgX0_findNear_3 20 rfl
theorem dX0_findNear_38 : decode cX0_findNear 38 = .ok (.putfield 58, 3) := dall dgX0_findNear_3 21 rfl
theorem dX0_findNear_41 : decode cX0_findNear 41 = .ok (.aload_n 0, 1) := dall dgX0_findNear_3 22 rfl
theorem dX0_findNear_42 : decode cX0_findNear 42 = .ok (.lconst 0, 1) := dall dgX0_findNear_3 23 rfl
theorem dX0_findNear_43 : decode cX0_findNear 43 = .ok (.putfield 62, 3) := dall dgX0_findNear_3 24 rfl
theorem dX0_findNear_46 : decode cX0_findNear 46 = .ok (.aload_n 0, 1) := dall dgX0_findNear_3 25 rfl
theorem dX0_findNear_47 : decode cX0_findNear 47 = .ok (.getfield 22, 3) := dall dgX0_findNear_3 26 rfl
theorem dX0_findNear_50 : decode cX0_findNear 50 = .ok (.iconst 0, 1) := dall dgX0_findNear_3 27 rfl
theorem dX0_findNear_51 : decode cX0_findNear 51 = .ok (.invokestatic 34, 3) := dall dgX0_findNear_3 28 rfl
theorem dX0_findNear_54 : decode cX0_findNear 54 = .ok (.aload_n 0, 1) := dall dgX0_findNear_3 29 rfl
theorem dX0_findNear_55 : decode cX0_findNear 55 = .ok (.aload_n 1, 1) := dall dgX0_findNear_3 30 rfl
theorem dX0_findNear_56 : decode cX0_findNear 56 = .ok (.iconst 0, 1) := dall dgX0_findNear_3 31 rfl
theorem dX0_findNear_57 : decode cX0_findNear 57 = .ok (.iconst 0, 1) := dall dgX0_findNear_3 32 rfl
theorem dX0_findNear_58 : decode cX0_findNear 58 = .ok (.iconst 0, 1) := dall dgX0_findNear_3 33 rfl
theorem dX0_findNear_59 : decode cX0_findNear 59 = .ok (.lconst 0, 1) := dall dgX0_findNear_3 34 rfl
theorem dX0_findNear_60 : decode cX0_findNear 60 = .ok (.invokestatic 40, 3) := dall dgX0_findNear_3 35 rfl
theorem dX0_findNear_63 : decode cX0_findNear 63 = .ok (.return_, 1) := dall dgX0_findNear_3 36 rfl
def lgX0_deal_4 : List (Nat × Instr × Nat) := [(0, .iload_n 2, 1), (1, .aload_n 1, 1), (2, .getfield 65, 3), (5, .if_icmp .ge 9, 3), (8, .iload_n 2, 1), (9, .bipush 9, 2), (11, .if_icmp .lt 17, 3), (14, .aload_n 0, 1), (15, .aload_n 1, 1), (16, .getfield 65, 3), (19, .iload_n 3, 1), (20, .iload 4, 2), (22, .lload 5, 2), (24, .invokevirtual 70, 3), (27, .return_, 1), (28, .iconst 0, 1), (29, .istore 7, 2), (31, .iload 7, 2), (33, .iload_n 3, 1), (34, .if_icmp .gt 92, 3), (37, .iload 7, 2), (39, .bipush 9, 2), (41, .if_icmp .ge 85, 3), (44, .aload_n 0, 1), (45, .getfield 22, 3), (48, .iload 7, 2), (50, .iaload, 1), (51, .istore 8, 2), (53, .aload_n 0, 1), (54, .getfield 18, 3), (57, .iload_n 2, 1), (58, .iload 7, 2), (60, .iastore, 1), (61, .aload_n 0, 1), (62, .getfield 22, 3), (65, .iload 7, 2), (67, .iload 8, 2), (69, .iconst 1, 1), (70, .iload_n 2, 1), (71, .ishl, 1), (72, .ior, 1), (73, .iastore, 1), (74, .aload_n 0, 1), (75, .aload_n 1, 1), (76, .iload_n 2, 1), (77, .iconst 1, 1), (78, .iadd, 1), (79, .iload_n 3, 1), (80, .iload 7, 2), (82, .iconst 1, 1)]
theorem dgX0_deal_4 : ∀ q ∈ lgX0_deal_4, decode cX0_deal q.1 = .ok (q.2.1, q.2.2) := by decide +kernel
theorem dX0_deal_0 : decode cX0_deal 0 = .ok (.iload_n 2, 1) := dall dgX0_deal_4 0 rfl
theorem dX0_deal_1 : decode cX0_deal 1 = .ok (.aload_n 1, 1) := dall dgX0_deal_4 1 rfl
theorem dX0_deal_2 : decode cX0_deal 2 = .ok (.getfield 65, 3) := dall dgX0_deal_4 2 rfl
theorem dX0_deal_5 : decode cX0_deal 5 = .ok (.if_icmp .ge 9, 3) := dall dgX0_deal_4 3 rfl
theorem dX0_deal_8 : decode cX0_deal 8 = .ok (.iload_n 2, 1) := dall dgX0_deal_4 4 rfl
theorem dX0_deal_9 : decode cX0_deal 9 = .ok (.bipush 9, 2) := dall dgX0_deal_4 5 rfl
theorem dX0_deal_11 : decode cX0_deal 11 = .ok (.if_icmp .lt 17, 3) := dall dgX0_deal_4 6 rfl
theorem dX0_deal_14 : decode cX0_deal 14 = .ok (.aload_n 0, 1) := dall dgX0_deal_4 7 rfl
theorem dX0_deal_15 : decode cX0_deal 15 = .ok (.aload_n 1, 1) := dall dgX0_deal_4 8 rfl
theorem dX0_deal_16 : decode cX0_deal 16 = .ok (.getfield 65, 3) := dall dgX0_deal_4 9 rfl
theorem dX0_deal_19 : decode cX0_deal 19 = .ok (.iload_n 3, 1) := dall dgX0_deal_4 10 rfl
theorem dX0_deal_20 : decode cX0_deal 20 = .ok (.iload 4, 2) := dall dgX0_deal_4 11 rfl
theorem dX0_deal_22 : decode cX0_deal 22 = .ok (.lload 5, 2) := dall dgX0_deal_4 12 rfl
theorem dX0_deal_24 : decode cX0_deal 24 = .ok (.invokevirtual 70, 3) := dall dgX0_deal_4 13 rfl
theorem dX0_deal_27 : decode cX0_deal 27 = .ok (.return_, 1) := dall dgX0_deal_4 14 rfl
theorem dX0_deal_28 : decode cX0_deal 28 = .ok (.iconst 0, 1) := dall dgX0_deal_4 15 rfl
theorem dX0_deal_29 : decode cX0_deal 29 = .ok (.istore 7, 2) := dall dgX0_deal_4 16 rfl
theorem dX0_deal_31 : decode cX0_deal 31 = .ok (.iload 7, 2) := dall dgX0_deal_4 17 rfl
theorem dX0_deal_33 : decode cX0_deal 33 = .ok (.iload_n 3, 1) := dall dgX0_deal_4 18 rfl
theorem dX0_deal_34 : decode cX0_deal 34 = .ok (.if_icmp .gt 92, 3) := dall dgX0_deal_4 19 rfl
theorem dX0_deal_37 : decode cX0_deal 37 = .ok (.iload 7, 2) := dall dgX0_deal_4 20 rfl
theorem dX0_deal_39 : decode cX0_deal 39 = .ok (.bipush 9, 2) := dall dgX0_deal_4 21 rfl
theorem dX0_deal_41 : decode cX0_deal 41 = .ok (.if_icmp .ge 85, 3) := dall dgX0_deal_4 22 rfl
theorem dX0_deal_44 : decode cX0_deal 44 = .ok (.aload_n 0, 1) := dall dgX0_deal_4 23 rfl
theorem dX0_deal_45 : decode cX0_deal 45 = .ok (.getfield 22, 3) := dall dgX0_deal_4 24 rfl
theorem dX0_deal_48 : decode cX0_deal 48 = .ok (.iload 7, 2) := dall dgX0_deal_4 25 rfl
theorem dX0_deal_50 : decode cX0_deal 50 = .ok (.iaload, 1) := dall dgX0_deal_4 26 rfl
theorem dX0_deal_51 : decode cX0_deal 51 = .ok (.istore 8, 2) := dall dgX0_deal_4 27 rfl
theorem dX0_deal_53 : decode cX0_deal 53 = .ok (.aload_n 0, 1) := dall dgX0_deal_4 28 rfl
theorem dX0_deal_54 : decode cX0_deal 54 = .ok (.getfield 18, 3) := dall dgX0_deal_4 29 rfl
theorem dX0_deal_57 : decode cX0_deal 57 = .ok (.iload_n 2, 1) := dall dgX0_deal_4 30 rfl
theorem dX0_deal_58 : decode cX0_deal 58 = .ok (.iload 7, 2) := dall dgX0_deal_4 31 rfl
theorem dX0_deal_60 : decode cX0_deal 60 = .ok (.iastore, 1) := dall dgX0_deal_4 32 rfl
theorem dX0_deal_61 : decode cX0_deal 61 = .ok (.aload_n 0, 1) := dall dgX0_deal_4 33 rfl
theorem dX0_deal_62 : decode cX0_deal 62 = .ok (.getfield 22, 3) := dall dgX0_deal_4 34 rfl
theorem dX0_deal_65 : decode cX0_deal 65 = .ok (.iload 7, 2) := dall dgX0_deal_4 35 rfl
theorem dX0_deal_67 : decode cX0_deal 67 = .ok (.iload 8, 2) := dall dgX0_deal_4 36 rfl
theorem dX0_deal_69 : decode cX0_deal 69 = .ok (.iconst 1, 1) := dall dgX0_deal_4 37 rfl
theorem dX0_deal_70 : decode cX0_deal 70 = .ok (.iload_n 2, 1) := dall dgX0_deal_4 38 rfl
theorem dX0_deal_71 : decode cX0_deal 71 = .ok (.ishl, 1) := dall dgX0_deal_4 39 rfl
theorem dX0_deal_72 : decode cX0_deal 72 = .ok (.ior, 1) := dall dgX0_deal_4 40 rfl
theorem dX0_deal_73 : decode cX0_deal 73 = .ok (.iastore, 1) := dall dgX0_deal_4 41 rfl
theorem dX0_deal_74 : decode cX0_deal 74 = .ok (.aload_n 0, 1) := dall dgX0_deal_4 42 rfl
theorem dX0_deal_75 : decode cX0_deal 75 = .ok (.aload_n 1, 1) := dall dgX0_deal_4 43 rfl
theorem dX0_deal_76 : decode cX0_deal 76 = .ok (.iload_n 2, 1) := dall dgX0_deal_4 44 rfl
theorem dX0_deal_77 : decode cX0_deal 77 = .ok (.iconst 1, 1) := dall dgX0_deal_4 45 rfl
theorem dX0_deal_78 : decode cX0_deal 78 = .ok (.iadd, 1) := dall dgX0_deal_4 46 rfl
theorem dX0_deal_79 : decode cX0_deal 79 = .ok (.iload_n 3, 1) := dall dgX0_deal_4 47 rfl
theorem dX0_deal_80 : decode cX0_deal 80 = .ok (.iload 7, 2) := dall dgX0_deal_4 48 rfl
theorem dX0_deal_82 : decode cX0_deal 82 = .ok (.iconst 1, 1) := dall dgX0_deal_4 49 rfl
def lgX0_deal_5 : List (Nat × Instr × Nat) := [(83, .iadd, 1), (84, .invokestatic 74, 3), (87, .iload 4, 2), (89, .aload_n 1, 1), (90, .iload_n 2, 1), (91, .iload 8, 2), (93, .invokevirtual 80, 3), (96, .iadd, 1), (97, .lload 5, 2), (99, .iload 8, 2), (101, .i2l, 1), (102, .iload_n 2, 1), (103, .invokestatic 83, 3), (106, .lshl, 1), (107, .lor, 1), (108, .invokestatic 40, 3), (111, .aload_n 0, 1), (112, .getfield 22, 3), (115, .iload 7, 2), (117, .iload 8, 2), (119, .iastore, 1), (120, .iinc 7 1, 3), (123, .goto (-92), 3), (126, .return_, 1)]
theorem dgX0_deal_5 : ∀ q ∈ lgX0_deal_5, decode cX0_deal q.1 = .ok (q.2.1, q.2.2) := by decide +kernel
theorem dX0_deal_83 : decode cX0_deal 83 = .ok (.iadd, 1) := dall dgX0_deal_5 0 rfl
theorem dX0_deal_84 : decode cX0_deal 84 = .ok (.invokestatic 74, 3) := dall dgX0_deal_5 1 rfl
theorem dX0_deal_87 : decode cX0_deal 87 = .ok (.iload 4, 2) := dall dgX0_deal_5 2 rfl
theorem dX0_deal_89 : decode cX0_deal 89 = .ok (.aload_n 1, 1) := dall dgX0_deal_5 3 rfl
theorem dX0_deal_90 : decode cX0_deal 90 = .ok (.iload_n 2, 1) := dall dgX0_deal_5 4 rfl
theorem dX0_deal_91 : decode cX0_deal 91 = .ok (.iload 8, 2) := dall dgX0_deal_5 5 rfl
theorem dX0_deal_93 : decode cX0_deal 93 = .ok (.invokevirtual 80, 3) := dall dgX0_deal_5 6 rfl
theorem dX0_deal_96 : decode cX0_deal 96 = .ok (.iadd, 1) := dall dgX0_deal_5 7 rfl
theorem dX0_deal_97 : decode cX0_deal 97 = .ok (.lload 5, 2) := dall dgX0_deal_5 8 rfl
theorem dX0_deal_99 : decode cX0_deal 99 = .ok (.iload 8, 2) := dall dgX0_deal_5 9 rfl
theorem dX0_deal_101 : decode cX0_deal 101 = .ok (.i2l, 1) := dall dgX0_deal_5 10 rfl
theorem dX0_deal_102 : decode cX0_deal 102 = .ok (.iload_n 2, 1) := dall dgX0_deal_5 11 rfl
theorem dX0_deal_103 : decode cX0_deal 103 = .ok (.invokestatic 83, 3) := dall dgX0_deal_5 12 rfl
theorem dX0_deal_106 : decode cX0_deal 106 = .ok (.lshl, 1) := dall dgX0_deal_5 13 rfl
theorem dX0_deal_107 : decode cX0_deal 107 = .ok (.lor, 1) := dall dgX0_deal_5 14 rfl
theorem dX0_deal_108 : decode cX0_deal 108 = .ok (.invokestatic 40, 3) := dall dgX0_deal_5 15 rfl
theorem dX0_deal_111 : decode cX0_deal 111 = .ok (.aload_n 0, 1) := dall dgX0_deal_5 16 rfl
theorem dX0_deal_112 : decode cX0_deal 112 = .ok (.getfield 22, 3) := dall dgX0_deal_5 17 rfl
theorem dX0_deal_115 : decode cX0_deal 115 = .ok (.iload 7, 2) := dall dgX0_deal_5 18 rfl
theorem dX0_deal_117 : decode cX0_deal 117 = .ok (.iload 8, 2) := dall dgX0_deal_5 19 rfl
theorem dX0_deal_119 : decode cX0_deal 119 = .ok (.iastore, 1) := dall dgX0_deal_5 20 rfl
theorem dX0_deal_120 : decode cX0_deal 120 = .ok (.iinc 7 1, 3) := dall dgX0_deal_5 21 rfl
theorem dX0_deal_123 : decode cX0_deal 123 = .ok (.goto (-92), 3) := dall dgX0_deal_5 22 rfl
theorem dX0_deal_126 : decode cX0_deal 126 = .ok (.return_, 1) := dall dgX0_deal_5 23 rfl
def lgX0_meet_6 : List (Nat × Instr × Nat) := [(0, .aload_n 0, 1), (1, .getfield 25, 3), (4, .ifCond .eq 14, 3), (7, .aload_n 0, 1), (8, .iload_n 2, 1), (9, .iload_n 3, 1), (10, .lload 4, 2), (12, .invokevirtual 87, 3), (15, .goto 69, 3), (18, .iload_n 3, 1), (19, .aload_n 0, 1), (20, .getfield 12, 3), (23, .getfield 30, 3), (26, .if_icmp .le 58, 3), (29, .aload_n 0, 1), (30, .getfield 12, 3), (33, .iload_n 3, 1), (34, .putfield 30, 3), (37, .aload_n 0, 1), (38, .getfield 12, 3), (41, .iload_n 2, 1), (42, .putfield 91, 3), (45, .iconst 0, 1), (46, .istore 6, 2), (48, .iload 6, 2), (50, .iload_n 1, 1), (51, .if_icmp .ge 33, 3), (54, .iload 6, 2), (56, .bipush 9, 2), (58, .if_icmp .ge 26, 3), (61, .aload_n 0, 1), (62, .getfield 12, 3), (65, .getfield 94, 3), (68, .iload 6, 2), (70, .aload_n 0, 1), (71, .getfield 18, 3), (74, .iload 6, 2), (76, .iaload, 1), (77, .iastore, 1), (78, .iinc 6 1, 3), (81, .goto (-33), 3), (84, .return_, 1)]
theorem dgX0_meet_6 : ∀ q ∈ lgX0_meet_6, decode cX0_meet q.1 = .ok (q.2.1, q.2.2) := by decide +kernel
theorem dX0_meet_0 : decode cX0_meet 0 = .ok (.aload_n 0, 1) := dall dgX0_meet_6 0 rfl
theorem dX0_meet_1 : decode cX0_meet 1 = .ok (.getfield 25, 3) := dall dgX0_meet_6 1 rfl
theorem dX0_meet_4 : decode cX0_meet 4 = .ok (.ifCond .eq 14, 3) := dall dgX0_meet_6 2 rfl
theorem dX0_meet_7 : decode cX0_meet 7 = .ok (.aload_n 0, 1) := dall dgX0_meet_6 3 rfl
theorem dX0_meet_8 : decode cX0_meet 8 = .ok (.iload_n 2, 1) := dall dgX0_meet_6 4 rfl
theorem dX0_meet_9 : decode cX0_meet 9 = .ok (.iload_n 3, 1) := dall dgX0_meet_6 5 rfl
theorem dX0_meet_10 : decode cX0_meet 10 = .ok (.lload 4, 2) := dall dgX0_meet_6 6 rfl
theorem dX0_meet_12 : decode cX0_meet 12 = .ok (.invokevirtual 87, 3) := dall dgX0_meet_6 7 rfl
theorem dX0_meet_15 : decode cX0_meet 15 = .ok (.goto 69, 3) := dall dgX0_meet_6 8 rfl
theorem dX0_meet_18 : decode cX0_meet 18 = .ok (.iload_n 3, 1) := dall dgX0_meet_6 9 rfl
theorem dX0_meet_19 : decode cX0_meet 19 = .ok (.aload_n 0, 1) := dall dgX0_meet_6 10 rfl
theorem dX0_meet_20 : decode cX0_meet 20 = .ok (.getfield 12, 3) := dall dgX0_meet_6 11 rfl
theorem dX0_meet_23 : decode cX0_meet 23 = .ok (.getfield 30, 3) := dall dgX0_meet_6 12 rfl
theorem dX0_meet_26 : decode cX0_meet 26 = .ok (.if_icmp .le 58, 3) := dall dgX0_meet_6 13 rfl
theorem dX0_meet_29 : decode cX0_meet 29 = .ok (.aload_n 0, 1) := dall dgX0_meet_6 14 rfl
theorem dX0_meet_30 : decode cX0_meet 30 = .ok (.getfield 12, 3) := dall dgX0_meet_6 15 rfl
theorem dX0_meet_33 : decode cX0_meet 33 = .ok (.iload_n 3, 1) := dall dgX0_meet_6 16 rfl
theorem dX0_meet_34 : decode cX0_meet 34 = .ok (.putfield 30, 3) := dall dgX0_meet_6 17 rfl
theorem dX0_meet_37 : decode cX0_meet 37 = .ok (.aload_n 0, 1) := dall dgX0_meet_6 18 rfl
theorem dX0_meet_38 : decode cX0_meet 38 = .ok (.getfield 12, 3) := dall dgX0_meet_6 19 rfl
theorem dX0_meet_41 : decode cX0_meet 41 = .ok (.iload_n 2, 1) := dall dgX0_meet_6 20 rfl
theorem dX0_meet_42 : decode cX0_meet 42 = .ok (.putfield 91, 3) := dall dgX0_meet_6 21 rfl
theorem dX0_meet_45 : decode cX0_meet 45 = .ok (.iconst 0, 1) := dall dgX0_meet_6 22 rfl
theorem dX0_meet_46 : decode cX0_meet 46 = .ok (.istore 6, 2) := dall dgX0_meet_6 23 rfl
theorem dX0_meet_48 : decode cX0_meet 48 = .ok (.iload 6, 2) := dall dgX0_meet_6 24 rfl
theorem dX0_meet_50 : decode cX0_meet 50 = .ok (.iload_n 1, 1) := dall dgX0_meet_6 25 rfl
theorem dX0_meet_51 : decode cX0_meet 51 = .ok (.if_icmp .ge 33, 3) := dall dgX0_meet_6 26 rfl
theorem dX0_meet_54 : decode cX0_meet 54 = .ok (.iload 6, 2) := dall dgX0_meet_6 27 rfl
theorem dX0_meet_56 : decode cX0_meet 56 = .ok (.bipush 9, 2) := dall dgX0_meet_6 28 rfl
theorem dX0_meet_58 : decode cX0_meet 58 = .ok (.if_icmp .ge 26, 3) := dall dgX0_meet_6 29 rfl
theorem dX0_meet_61 : decode cX0_meet 61 = .ok (.aload_n 0, 1) := dall dgX0_meet_6 30 rfl
theorem dX0_meet_62 : decode cX0_meet 62 = .ok (.getfield 12, 3) := dall dgX0_meet_6 31 rfl
theorem dX0_meet_65 : decode cX0_meet 65 = .ok (.getfield 94, 3) := dall dgX0_meet_6 32 rfl
theorem dX0_meet_68 : decode cX0_meet 68 = .ok (.iload 6, 2) := dall dgX0_meet_6 33 rfl
theorem dX0_meet_70 : decode cX0_meet 70 = .ok (.aload_n 0, 1) := dall dgX0_meet_6 34 rfl
theorem dX0_meet_71 : decode cX0_meet 71 = .ok (.getfield 18, 3) := dall dgX0_meet_6 35 rfl
theorem dX0_meet_74 : decode cX0_meet 74 = .ok (.iload 6, 2) := dall dgX0_meet_6 36 rfl
theorem dX0_meet_76 : decode cX0_meet 76 = .ok (.iaload, 1) := dall dgX0_meet_6 37 rfl
theorem dX0_meet_77 : decode cX0_meet 77 = .ok (.iastore, 1) := dall dgX0_meet_6 38 rfl
theorem dX0_meet_78 : decode cX0_meet 78 = .ok (.iinc 6 1, 3) := dall dgX0_meet_6 39 rfl
theorem dX0_meet_81 : decode cX0_meet 81 = .ok (.goto (-33), 3) := dall dgX0_meet_6 40 rfl
theorem dX0_meet_84 : decode cX0_meet 84 = .ok (.return_, 1) := dall dgX0_meet_6 41 rfl
def lgX0_meetNear_7 : List (Nat × Instr × Nat) := [(0, .iload_n 2, 1), (1, .aload_n 0, 1), (2, .getfield 44, 3), (5, .if_icmp .lt 57, 3), (8, .aload_n 0, 1), (9, .dup, 1), (10, .getfield 47, 3), (13, .iconst 1, 1), (14, .iadd, 1), (15, .putfield 47, 3), (18, .aload_n 0, 1), (19, .aload_n 0, 1), (20, .getfield 50, 3), (23, .iload_n 1, 1), (24, .invokestatic 95, 3), (27, .putfield 50, 3), (30, .aload_n 0, 1), (31, .aload_n 0, 1), (32, .getfield 53, 3), (35, .iload_n 1, 1), (36, .invokestatic 74, 3), (39, .putfield 53, 3), (42, .aload_n 0, 1), (43, .dup, 1), (44, .getfield 58, 3), (47, .lload_n 3, 1), (48, .land, 1), (49, .putfield 58, 3), (52, .aload_n 0, 1), (53, .dup, 1), (54, .getfield 62, 3), (57, .lload_n 3, 1), (58, .lor, 1), (59, .putfield 62, 3), (62, .return_, 1)]
theorem dgX0_meetNear_7 : ∀ q ∈ lgX0_meetNear_7, decode cX0_meetNear q.1 = .ok (q.2.1, q.2.2) := by decide +kernel
theorem dX0_meetNear_0 : decode cX0_meetNear 0 = .ok (.iload_n 2, 1) := dall dgX0_meetNear_7 0 rfl
theorem dX0_meetNear_1 : decode cX0_meetNear 1 = .ok (.aload_n 0, 1) := dall dgX0_meetNear_7 1 rfl
theorem dX0_meetNear_2 : decode cX0_meetNear 2 = .ok (.getfield 44, 3) := dall dgX0_meetNear_7 2 rfl
theorem dX0_meetNear_5 : decode cX0_meetNear 5 = .ok (.if_icmp .lt 57, 3) := dall dgX0_meetNear_7 3 rfl
theorem dX0_meetNear_8 : decode cX0_meetNear 8 = .ok (.aload_n 0, 1) := dall dgX0_meetNear_7 4 rfl
theorem dX0_meetNear_9 : decode cX0_meetNear 9 = .ok (.dup, 1) := dall dgX0_meetNear_7 5 rfl
theorem dX0_meetNear_10 : decode cX0_meetNear 10 = .ok (.getfield 47, 3) := dall dgX0_meetNear_7 6 rfl
theorem dX0_meetNear_13 : decode cX0_meetNear 13 = .ok (.iconst 1, 1) := dall dgX0_meetNear_7 7 rfl
theorem dX0_meetNear_14 : decode cX0_meetNear 14 = .ok (.iadd, 1) := dall dgX0_meetNear_7 8 rfl
theorem dX0_meetNear_15 : decode cX0_meetNear 15 = .ok (.putfield 47, 3) := dall dgX0_meetNear_7 9 rfl
theorem dX0_meetNear_18 : decode cX0_meetNear 18 = .ok (.aload_n 0, 1) := dall dgX0_meetNear_7 10 rfl
theorem dX0_meetNear_19 : decode cX0_meetNear 19 = .ok (.aload_n 0, 1) := dall dgX0_meetNear_7 11 rfl
theorem dX0_meetNear_20 : decode cX0_meetNear 20 = .ok (.getfield 50, 3) := dall dgX0_meetNear_7 12 rfl
theorem dX0_meetNear_23 : decode cX0_meetNear 23 = .ok (.iload_n 1, 1) := dall dgX0_meetNear_7 13 rfl
theorem dX0_meetNear_24 : decode cX0_meetNear 24 = .ok (.invokestatic 95, 3) := dall dgX0_meetNear_7 14 rfl
theorem dX0_meetNear_27 : decode cX0_meetNear 27 = .ok (.putfield 50, 3) := dall dgX0_meetNear_7 15 rfl
theorem dX0_meetNear_30 : decode cX0_meetNear 30 = .ok (.aload_n 0, 1) := dall dgX0_meetNear_7 16 rfl
theorem dX0_meetNear_31 : decode cX0_meetNear 31 = .ok (.aload_n 0, 1) := dall dgX0_meetNear_7 17 rfl
theorem dX0_meetNear_32 : decode cX0_meetNear 32 = .ok (.getfield 53, 3) := dall dgX0_meetNear_7 18 rfl
theorem dX0_meetNear_35 : decode cX0_meetNear 35 = .ok (.iload_n 1, 1) := dall dgX0_meetNear_7 19 rfl
theorem dX0_meetNear_36 : decode cX0_meetNear 36 = .ok (.invokestatic 74, 3) := dall dgX0_meetNear_7 20 rfl
theorem dX0_meetNear_39 : decode cX0_meetNear 39 = .ok (.putfield 53, 3) := dall dgX0_meetNear_7 21 rfl
theorem dX0_meetNear_42 : decode cX0_meetNear 42 = .ok (.aload_n 0, 1) := dall dgX0_meetNear_7 22 rfl
theorem dX0_meetNear_43 : decode cX0_meetNear 43 = .ok (.dup, 1) := dall dgX0_meetNear_7 23 rfl
theorem dX0_meetNear_44 : decode cX0_meetNear 44 = .ok (.getfield 58, 3) := dall dgX0_meetNear_7 24 rfl
theorem dX0_meetNear_47 : decode cX0_meetNear 47 = .ok (.lload_n 3, 1) := dall dgX0_meetNear_7 25 rfl
theorem dX0_meetNear_48 : decode cX0_meetNear 48 = .ok (.land, 1) := dall dgX0_meetNear_7 26 rfl
theorem dX0_meetNear_49 : decode cX0_meetNear 49 = .ok (.putfield 58, 3) := dall dgX0_meetNear_7 27 rfl
theorem dX0_meetNear_52 : decode cX0_meetNear 52 = .ok (.aload_n 0, 1) := dall dgX0_meetNear_7 28 rfl
theorem dX0_meetNear_53 : decode cX0_meetNear 53 = .ok (.dup, 1) := dall dgX0_meetNear_7 29 rfl
theorem dX0_meetNear_54 : decode cX0_meetNear 54 = .ok (.getfield 62, 3) := dall dgX0_meetNear_7 30 rfl
theorem dX0_meetNear_57 : decode cX0_meetNear 57 = .ok (.lload_n 3, 1) := dall dgX0_meetNear_7 31 rfl
theorem dX0_meetNear_58 : decode cX0_meetNear 58 = .ok (.lor, 1) := dall dgX0_meetNear_7 32 rfl
theorem dX0_meetNear_59 : decode cX0_meetNear 59 = .ok (.putfield 62, 3) := dall dgX0_meetNear_7 33 rfl
theorem dX0_meetNear_62 : decode cX0_meetNear 62 = .ok (.return_, 1) := dall dgX0_meetNear_7 34 rfl
def lgX0_placeOfPairs_8 : List (Nat × Instr × Nat) := [(0, .iload_n 0, 1), (1, .iload_n 0, 1), (2, .iconst 1, 1), (3, .isub, 1), (4, .imul, 1), (5, .iconst 2, 1), (6, .idiv, 1), (7, .ireturn, 1)]
theorem dgX0_placeOfPairs_8 : ∀ q ∈ lgX0_placeOfPairs_8, decode cX0_placeOfPairs q.1 = .ok (q.2.1, q.2.2) := by decide +kernel
theorem dX0_placeOfPairs_0 : decode cX0_placeOfPairs 0 = .ok (.iload_n 0, 1) := dall dgX0_placeOfPairs_8 0 rfl
theorem dX0_placeOfPairs_1 : decode cX0_placeOfPairs 1 = .ok (.iload_n 0, 1) := dall dgX0_placeOfPairs_8 1 rfl
theorem dX0_placeOfPairs_2 : decode cX0_placeOfPairs 2 = .ok (.iconst 1, 1) := dall dgX0_placeOfPairs_8 2 rfl
theorem dX0_placeOfPairs_3 : decode cX0_placeOfPairs 3 = .ok (.isub, 1) := dall dgX0_placeOfPairs_8 3 rfl
theorem dX0_placeOfPairs_4 : decode cX0_placeOfPairs 4 = .ok (.imul, 1) := dall dgX0_placeOfPairs_8 4 rfl
theorem dX0_placeOfPairs_5 : decode cX0_placeOfPairs 5 = .ok (.iconst 2, 1) := dall dgX0_placeOfPairs_8 5 rfl
theorem dX0_placeOfPairs_6 : decode cX0_placeOfPairs 6 = .ok (.idiv, 1) := dall dgX0_placeOfPairs_8 6 rfl
theorem dX0_placeOfPairs_7 : decode cX0_placeOfPairs 7 = .ok (.ireturn, 1) := dall dgX0_placeOfPairs_8 7 rfl
def lgX0_sureness_9 : List (Nat × Instr × Nat) := [(0, .lconst 1, 1), (1, .iload_n 1, 1), (2, .iload_n 2, 1), (3, .invokestatic 74, 3), (6, .invokestatic 83, 3), (9, .iload_n 1, 1), (10, .iload_n 2, 1), (11, .invokestatic 95, 3), (14, .iadd, 1), (15, .lshl, 1), (16, .lstore_n 3, 1), (17, .aload_n 0, 1), (18, .getfield 58, 3), (21, .lload_n 3, 1), (22, .land, 1), (23, .lconst 0, 1), (24, .lcmp, 1), (25, .ifCond .eq 5, 3), (28, .iconst 1, 1), (29, .ireturn, 1), (30, .aload_n 0, 1), (31, .getfield 62, 3), (34, .lload_n 3, 1), (35, .land, 1), (36, .lconst 0, 1), (37, .lcmp, 1), (38, .ifCond .ne 7, 3), (41, .iconst 0, 1), (42, .goto 4, 3), (45, .iconst 2, 1), (46, .ireturn, 1)]
theorem dgX0_sureness_9 : ∀ q ∈ lgX0_sureness_9, decode cX0_sureness q.1 = .ok (q.2.1, q.2.2) := by decide +kernel
theorem dX0_sureness_0 : decode cX0_sureness 0 = .ok (.lconst 1, 1) := dall dgX0_sureness_9 0 rfl
theorem dX0_sureness_1 : decode cX0_sureness 1 = .ok (.iload_n 1, 1) := dall dgX0_sureness_9 1 rfl
theorem dX0_sureness_2 : decode cX0_sureness 2 = .ok (.iload_n 2, 1) := dall dgX0_sureness_9 2 rfl
theorem dX0_sureness_3 : decode cX0_sureness 3 = .ok (.invokestatic 74, 3) := dall dgX0_sureness_9 3 rfl
theorem dX0_sureness_6 : decode cX0_sureness 6 = .ok (.invokestatic 83, 3) := dall dgX0_sureness_9 4 rfl
theorem dX0_sureness_9 : decode cX0_sureness 9 = .ok (.iload_n 1, 1) := dall dgX0_sureness_9 5 rfl
theorem dX0_sureness_10 : decode cX0_sureness 10 = .ok (.iload_n 2, 1) := dall dgX0_sureness_9 6 rfl
theorem dX0_sureness_11 : decode cX0_sureness 11 = .ok (.invokestatic 95, 3) := dall dgX0_sureness_9 7 rfl
theorem dX0_sureness_14 : decode cX0_sureness 14 = .ok (.iadd, 1) := dall dgX0_sureness_9 8 rfl
theorem dX0_sureness_15 : decode cX0_sureness 15 = .ok (.lshl, 1) := dall dgX0_sureness_9 9 rfl
theorem dX0_sureness_16 : decode cX0_sureness 16 = .ok (.lstore_n 3, 1) := dall dgX0_sureness_9 10 rfl
theorem dX0_sureness_17 : decode cX0_sureness 17 = .ok (.aload_n 0, 1) := dall dgX0_sureness_9 11 rfl
theorem dX0_sureness_18 : decode cX0_sureness 18 = .ok (.getfield 58, 3) := dall dgX0_sureness_9 12 rfl
theorem dX0_sureness_21 : decode cX0_sureness 21 = .ok (.lload_n 3, 1) := dall dgX0_sureness_9 13 rfl
theorem dX0_sureness_22 : decode cX0_sureness 22 = .ok (.land, 1) := dall dgX0_sureness_9 14 rfl
theorem dX0_sureness_23 : decode cX0_sureness 23 = .ok (.lconst 0, 1) := dall dgX0_sureness_9 15 rfl
theorem dX0_sureness_24 : decode cX0_sureness 24 = .ok (.lcmp, 1) := dall dgX0_sureness_9 16 rfl
theorem dX0_sureness_25 : decode cX0_sureness 25 = .ok (.ifCond .eq 5, 3) := dall dgX0_sureness_9 17 rfl
theorem dX0_sureness_28 : decode cX0_sureness 28 = .ok (.iconst 1, 1) := dall dgX0_sureness_9 18 rfl
theorem dX0_sureness_29 : decode cX0_sureness 29 = .ok (.ireturn, 1) := dall dgX0_sureness_9 19 rfl
theorem dX0_sureness_30 : decode cX0_sureness 30 = .ok (.aload_n 0, 1) := dall dgX0_sureness_9 20 rfl
theorem dX0_sureness_31 : decode cX0_sureness 31 = .ok (.getfield 62, 3) := dall dgX0_sureness_9 21 rfl
theorem dX0_sureness_34 : decode cX0_sureness 34 = .ok (.lload_n 3, 1) := dall dgX0_sureness_9 22 rfl
theorem dX0_sureness_35 : decode cX0_sureness 35 = .ok (.land, 1) := dall dgX0_sureness_9 23 rfl
theorem dX0_sureness_36 : decode cX0_sureness 36 = .ok (.lconst 0, 1) := dall dgX0_sureness_9 24 rfl
theorem dX0_sureness_37 : decode cX0_sureness 37 = .ok (.lcmp, 1) := dall dgX0_sureness_9 25 rfl
theorem dX0_sureness_38 : decode cX0_sureness 38 = .ok (.ifCond .ne 7, 3) := dall dgX0_sureness_9 26 rfl
theorem dX0_sureness_41 : decode cX0_sureness 41 = .ok (.iconst 0, 1) := dall dgX0_sureness_9 27 rfl
theorem dX0_sureness_42 : decode cX0_sureness 42 = .ok (.goto 4, 3) := dall dgX0_sureness_9 28 rfl
theorem dX0_sureness_45 : decode cX0_sureness 45 = .ok (.iconst 2, 1) := dall dgX0_sureness_9 29 rfl
theorem dX0_sureness_46 : decode cX0_sureness 46 = .ok (.ireturn, 1) := dall dgX0_sureness_9 30 rfl
def lgX1_init_10 : List (Nat × Instr × Nat) := [(0, .aload_n 0, 1), (1, .invokespecial 3, 3), (4, .aload_n 0, 1), (5, .bipush 9, 2), (7, .bipush 9, 2), (9, .multianewarray 9 2, 4), (13, .putfield 11, 3), (16, .aload_n 0, 1), (17, .bipush 9, 2), (19, .bipush 9, 2), (21, .multianewarray 9 2, 4), (25, .putfield 16, 3), (28, .aload_n 0, 1), (29, .sipush 512, 3), (32, .newarray .int, 2), (34, .putfield 19, 3), (37, .return_, 1)]
theorem dgX1_init_10 : ∀ q ∈ lgX1_init_10, decode cX1_init q.1 = .ok (q.2.1, q.2.2) := by decide +kernel
theorem dX1_init_0 : decode cX1_init 0 = .ok (.aload_n 0, 1) := dall dgX1_init_10 0 rfl
theorem dX1_init_1 : decode cX1_init 1 = .ok (.invokespecial 3, 3) := dall dgX1_init_10 1 rfl
theorem dX1_init_4 : decode cX1_init 4 = .ok (.aload_n 0, 1) := dall dgX1_init_10 2 rfl
theorem dX1_init_5 : decode cX1_init 5 = .ok (.bipush 9, 2) := dall dgX1_init_10 3 rfl
theorem dX1_init_7 : decode cX1_init 7 = .ok (.bipush 9, 2) := dall dgX1_init_10 4 rfl
theorem dX1_init_9 : decode cX1_init 9 = .ok (.multianewarray 9 2, 4) := dall dgX1_init_10 5 rfl
theorem dX1_init_13 : decode cX1_init 13 = .ok (.putfield 11, 3) := dall dgX1_init_10 6 rfl
theorem dX1_init_16 : decode cX1_init 16 = .ok (.aload_n 0, 1) := dall dgX1_init_10 7 rfl
theorem dX1_init_17 : decode cX1_init 17 = .ok (.bipush 9, 2) := dall dgX1_init_10 8 rfl
theorem dX1_init_19 : decode cX1_init 19 = .ok (.bipush 9, 2) := dall dgX1_init_10 9 rfl
theorem dX1_init_21 : decode cX1_init 21 = .ok (.multianewarray 9 2, 4) := dall dgX1_init_10 10 rfl
theorem dX1_init_25 : decode cX1_init 25 = .ok (.putfield 16, 3) := dall dgX1_init_10 11 rfl
theorem dX1_init_28 : decode cX1_init 28 = .ok (.aload_n 0, 1) := dall dgX1_init_10 12 rfl
theorem dX1_init_29 : decode cX1_init 29 = .ok (.sipush 512, 3) := dall dgX1_init_10 13 rfl
theorem dX1_init_32 : decode cX1_init 32 = .ok (.newarray .int, 2) := dall dgX1_init_10 14 rfl
theorem dX1_init_34 : decode cX1_init 34 = .ok (.putfield 19, 3) := dall dgX1_init_10 15 rfl
theorem dX1_init_37 : decode cX1_init 37 = .ok (.return_, 1) := dall dgX1_init_10 16 rfl
def lgX1_tie_11 : List (Nat × Instr × Nat) := [(0, .aload_n 0, 1), (1, .aload_n 1, 1), (2, .getfield 23, 3), (5, .bipush 9, 2), (7, .invokestatic 29, 3), (10, .putfield 35, 3), (13, .iconst 0, 1), (14, .istore 4, 2), (16, .iload 4, 2), (18, .aload_n 0, 1), (19, .getfield 35, 3), (22, .if_icmp .ge 82, 3), (25, .iload 4, 2), (27, .iconst 1, 1), (28, .iadd, 1), (29, .istore 5, 2), (31, .iload 5, 2), (33, .aload_n 0, 1), (34, .getfield 35, 3), (37, .if_icmp .ge 61, 3), (40, .aload_n 1, 1), (41, .iload 4, 2), (43, .iload 5, 2), (45, .iload_n 2, 1), (46, .invokevirtual 36, 3), (49, .aload_n 1, 1), (50, .iload 4, 2), (52, .iload 5, 2), (54, .invokevirtual 40, 3), (57, .ifCond .eq 7, 3), (60, .iload_n 3, 1), (61, .goto 4, 3), (64, .iconst 0, 1), (65, .isub, 1), (66, .istore 6, 2), (68, .aload_n 0, 1), (69, .getfield 11, 3), (72, .iload 4, 2), (74, .aaload, 1), (75, .iload 5, 2), (77, .iload 6, 2), (79, .iastore, 1), (80, .aload_n 0, 1), (81, .getfield 11, 3), (84, .iload 5, 2), (86, .aaload, 1), (87, .iload 4, 2), (89, .iload 6, 2), (91, .iastore, 1), (92, .iinc 5 1, 3)]
theorem dgX1_tie_11 : ∀ q ∈ lgX1_tie_11, decode cX1_tie q.1 = .ok (q.2.1, q.2.2) := by decide +kernel
theorem dX1_tie_0 : decode cX1_tie 0 = .ok (.aload_n 0, 1) := dall dgX1_tie_11 0 rfl
theorem dX1_tie_1 : decode cX1_tie 1 = .ok (.aload_n 1, 1) := dall dgX1_tie_11 1 rfl
theorem dX1_tie_2 : decode cX1_tie 2 = .ok (.getfield 23, 3) := dall dgX1_tie_11 2 rfl
theorem dX1_tie_5 : decode cX1_tie 5 = .ok (.bipush 9, 2) := dall dgX1_tie_11 3 rfl
theorem dX1_tie_7 : decode cX1_tie 7 = .ok (.invokestatic 29, 3) := dall dgX1_tie_11 4 rfl
theorem dX1_tie_10 : decode cX1_tie 10 = .ok (.putfield 35, 3) := dall dgX1_tie_11 5 rfl
theorem dX1_tie_13 : decode cX1_tie 13 = .ok (.iconst 0, 1) := dall dgX1_tie_11 6 rfl
theorem dX1_tie_14 : decode cX1_tie 14 = .ok (.istore 4, 2) := dall dgX1_tie_11 7 rfl
theorem dX1_tie_16 : decode cX1_tie 16 = .ok (.iload 4, 2) := dall dgX1_tie_11 8 rfl
theorem dX1_tie_18 : decode cX1_tie 18 = .ok (.aload_n 0, 1) := dall dgX1_tie_11 9 rfl
theorem dX1_tie_19 : decode cX1_tie 19 = .ok (.getfield 35, 3) := dall dgX1_tie_11 10 rfl
theorem dX1_tie_22 : decode cX1_tie 22 = .ok (.if_icmp .ge 82, 3) := dall dgX1_tie_11 11 rfl
theorem dX1_tie_25 : decode cX1_tie 25 = .ok (.iload 4, 2) := dall dgX1_tie_11 12 rfl
theorem dX1_tie_27 : decode cX1_tie 27 = .ok (.iconst 1, 1) := dall dgX1_tie_11 13 rfl
theorem dX1_tie_28 : decode cX1_tie 28 = .ok (.iadd, 1) := dall dgX1_tie_11 14 rfl
theorem dX1_tie_29 : decode cX1_tie 29 = .ok (.istore 5, 2) := dall dgX1_tie_11 15 rfl
theorem dX1_tie_31 : decode cX1_tie 31 = .ok (.iload 5, 2) := dall dgX1_tie_11 16 rfl
theorem dX1_tie_33 : decode cX1_tie 33 = .ok (.aload_n 0, 1) := dall dgX1_tie_11 17 rfl
theorem dX1_tie_34 : decode cX1_tie 34 = .ok (.getfield 35, 3) := dall dgX1_tie_11 18 rfl
theorem dX1_tie_37 : decode cX1_tie 37 = .ok (.if_icmp .ge 61, 3) := dall dgX1_tie_11 19 rfl
theorem dX1_tie_40 : decode cX1_tie 40 = .ok (.aload_n 1, 1) := dall dgX1_tie_11 20 rfl
theorem dX1_tie_41 : decode cX1_tie 41 = .ok (.iload 4, 2) := dall dgX1_tie_11 21 rfl
theorem dX1_tie_43 : decode cX1_tie 43 = .ok (.iload 5, 2) := dall dgX1_tie_11 22 rfl
theorem dX1_tie_45 : decode cX1_tie 45 = .ok (.iload_n 2, 1) := dall dgX1_tie_11 23 rfl
theorem dX1_tie_46 : decode cX1_tie 46 = .ok (.invokevirtual 36, 3) := dall dgX1_tie_11 24 rfl
theorem dX1_tie_49 : decode cX1_tie 49 = .ok (.aload_n 1, 1) := dall dgX1_tie_11 25 rfl
theorem dX1_tie_50 : decode cX1_tie 50 = .ok (.iload 4, 2) := dall dgX1_tie_11 26 rfl
theorem dX1_tie_52 : decode cX1_tie 52 = .ok (.iload 5, 2) := dall dgX1_tie_11 27 rfl
theorem dX1_tie_54 : decode cX1_tie 54 = .ok (.invokevirtual 40, 3) := dall dgX1_tie_11 28 rfl
theorem dX1_tie_57 : decode cX1_tie 57 = .ok (.ifCond .eq 7, 3) := dall dgX1_tie_11 29 rfl
theorem dX1_tie_60 : decode cX1_tie 60 = .ok (.iload_n 3, 1) := dall dgX1_tie_11 30 rfl
theorem dX1_tie_61 : decode cX1_tie 61 = .ok (.goto 4, 3) := dall dgX1_tie_11 31 rfl
theorem dX1_tie_64 : decode cX1_tie 64 = .ok (.iconst 0, 1) := dall dgX1_tie_11 32 rfl
theorem dX1_tie_65 : decode cX1_tie 65 = .ok (.isub, 1) := dall dgX1_tie_11 33 rfl
theorem dX1_tie_66 : decode cX1_tie 66 = .ok (.istore 6, 2) := dall dgX1_tie_11 34 rfl
theorem dX1_tie_68 : decode cX1_tie 68 = .ok (.aload_n 0, 1) := dall dgX1_tie_11 35 rfl
theorem dX1_tie_69 : decode cX1_tie 69 = .ok (.getfield 11, 3) := dall dgX1_tie_11 36 rfl
theorem dX1_tie_72 : decode cX1_tie 72 = .ok (.iload 4, 2) := dall dgX1_tie_11 37 rfl
theorem dX1_tie_74 : decode cX1_tie 74 = .ok (.aaload, 1) := dall dgX1_tie_11 38 rfl
theorem dX1_tie_75 : decode cX1_tie 75 = .ok (.iload 5, 2) := dall dgX1_tie_11 39 rfl
theorem dX1_tie_77 : decode cX1_tie 77 = .ok (.iload 6, 2) := dall dgX1_tie_11 40 rfl
theorem dX1_tie_79 : decode cX1_tie 79 = .ok (.iastore, 1) := dall dgX1_tie_11 41 rfl
theorem dX1_tie_80 : decode cX1_tie 80 = .ok (.aload_n 0, 1) := dall dgX1_tie_11 42 rfl
theorem dX1_tie_81 : decode cX1_tie 81 = .ok (.getfield 11, 3) := dall dgX1_tie_11 43 rfl
theorem dX1_tie_84 : decode cX1_tie 84 = .ok (.iload 5, 2) := dall dgX1_tie_11 44 rfl
theorem dX1_tie_86 : decode cX1_tie 86 = .ok (.aaload, 1) := dall dgX1_tie_11 45 rfl
theorem dX1_tie_87 : decode cX1_tie 87 = .ok (.iload 4, 2) := dall dgX1_tie_11 46 rfl
theorem dX1_tie_89 : decode cX1_tie 89 = .ok (.iload 6, 2) := dall dgX1_tie_11 47 rfl
theorem dX1_tie_91 : decode cX1_tie 91 = .ok (.iastore, 1) := dall dgX1_tie_11 48 rfl
theorem dX1_tie_92 : decode cX1_tie 92 = .ok (.iinc 5 1, 3) := dall dgX1_tie_11 49 rfl
def lgX1_tie_12 : List (Nat × Instr × Nat) := [(95, .goto (-64), 3), (98, .iinc 4 1, 3), (101, .goto (-85), 3), (104, .iconst 0, 1), (105, .istore 4, 2), (107, .iload 4, 2), (109, .aload_n 0, 1), (110, .getfield 35, 3), (113, .if_icmp .ge 15, 3), (116, .aload_n 0, 1), (117, .iload 4, 2), (119, .invokevirtual 44, 3), (122, .iinc 4 1, 3), (125, .goto (-18), 3), (128, .return_, 1)]
theorem dgX1_tie_12 : ∀ q ∈ lgX1_tie_12, decode cX1_tie q.1 = .ok (q.2.1, q.2.2) := by decide +kernel
theorem dX1_tie_95 : decode cX1_tie 95 = .ok (.goto (-64), 3) := dall dgX1_tie_12 0 rfl
theorem dX1_tie_98 : decode cX1_tie 98 = .ok (.iinc 4 1, 3) := dall dgX1_tie_12 1 rfl
theorem dX1_tie_101 : decode cX1_tie 101 = .ok (.goto (-85), 3) := dall dgX1_tie_12 2 rfl
theorem dX1_tie_104 : decode cX1_tie 104 = .ok (.iconst 0, 1) := dall dgX1_tie_12 3 rfl
theorem dX1_tie_105 : decode cX1_tie 105 = .ok (.istore 4, 2) := dall dgX1_tie_12 4 rfl
theorem dX1_tie_107 : decode cX1_tie 107 = .ok (.iload 4, 2) := dall dgX1_tie_12 5 rfl
theorem dX1_tie_109 : decode cX1_tie 109 = .ok (.aload_n 0, 1) := dall dgX1_tie_12 6 rfl
theorem dX1_tie_110 : decode cX1_tie 110 = .ok (.getfield 35, 3) := dall dgX1_tie_12 7 rfl
theorem dX1_tie_113 : decode cX1_tie 113 = .ok (.if_icmp .ge 15, 3) := dall dgX1_tie_12 8 rfl
theorem dX1_tie_116 : decode cX1_tie 116 = .ok (.aload_n 0, 1) := dall dgX1_tie_12 9 rfl
theorem dX1_tie_117 : decode cX1_tie 117 = .ok (.iload 4, 2) := dall dgX1_tie_12 10 rfl
theorem dX1_tie_119 : decode cX1_tie 119 = .ok (.invokevirtual 44, 3) := dall dgX1_tie_12 11 rfl
theorem dX1_tie_122 : decode cX1_tie 122 = .ok (.iinc 4 1, 3) := dall dgX1_tie_12 12 rfl
theorem dX1_tie_125 : decode cX1_tie 125 = .ok (.goto (-18), 3) := dall dgX1_tie_12 13 rfl
theorem dX1_tie_128 : decode cX1_tie 128 = .ok (.return_, 1) := dall dgX1_tie_12 14 rfl
def lgX1_fillGains_13 : List (Nat × Instr × Nat) := [(0, .iconst 1, 1), (1, .iload_n 1, 1), (2, .ishl, 1), (3, .istore_n 2, 1), (4, .aload_n 0, 1), (5, .getfield 19, 3), (8, .iload_n 2, 1), (9, .iconst 0, 1), (10, .iastore, 1), (11, .iconst 0, 1), (12, .istore_n 3, 1), (13, .iload_n 3, 1), (14, .iload_n 1, 1), (15, .if_icmp .ge 60, 3), (18, .iconst 1, 1), (19, .iload_n 3, 1), (20, .ishl, 1), (21, .istore 4, 2), (23, .iconst 0, 1), (24, .istore 5, 2), (26, .iload 5, 2), (28, .iload 4, 2), (30, .if_icmp .ge 39, 3), (33, .aload_n 0, 1), (34, .getfield 19, 3), (37, .iload_n 2, 1), (38, .iload 4, 2), (40, .ior, 1), (41, .iload 5, 2), (43, .ior, 1), (44, .aload_n 0, 1), (45, .getfield 19, 3), (48, .iload_n 2, 1), (49, .iload 5, 2), (51, .ior, 1), (52, .iaload, 1), (53, .aload_n 0, 1), (54, .getfield 11, 3), (57, .iload_n 3, 1), (58, .aaload, 1), (59, .iload_n 1, 1), (60, .iaload, 1), (61, .iadd, 1), (62, .iastore, 1), (63, .iinc 5 1, 3), (66, .goto (-40), 3), (69, .iinc 3 1, 3), (72, .goto (-59), 3), (75, .return_, 1)]
theorem dgX1_fillGains_13 : ∀ q ∈ lgX1_fillGains_13, decode cX1_fillGains q.1 = .ok (q.2.1, q.2.2) := by decide +kernel
theorem dX1_fillGains_0 : decode cX1_fillGains 0 = .ok (.iconst 1, 1) := dall dgX1_fillGains_13 0 rfl
theorem dX1_fillGains_1 : decode cX1_fillGains 1 = .ok (.iload_n 1, 1) := dall dgX1_fillGains_13 1 rfl
theorem dX1_fillGains_2 : decode cX1_fillGains 2 = .ok (.ishl, 1) := dall dgX1_fillGains_13 2 rfl
theorem dX1_fillGains_3 : decode cX1_fillGains 3 = .ok (.istore_n 2, 1) := dall dgX1_fillGains_13 3 rfl
theorem dX1_fillGains_4 : decode cX1_fillGains 4 = .ok (.aload_n 0, 1) := dall dgX1_fillGains_13 4 rfl
theorem dX1_fillGains_5 : decode cX1_fillGains 5 = .ok (.getfield 19, 3) := dall dgX1_fillGains_13 5 rfl
theorem dX1_fillGains_8 : decode cX1_fillGains 8 = .ok (.iload_n 2, 1) := dall dgX1_fillGains_13 6 rfl
theorem dX1_fillGains_9 : decode cX1_fillGains 9 = .ok (.iconst 0, 1) := dall dgX1_fillGains_13 7 rfl
theorem dX1_fillGains_10 : decode cX1_fillGains 10 = .ok (.iastore, 1) := dall dgX1_fillGains_13 8 rfl
theorem dX1_fillGains_11 : decode cX1_fillGains 11 = .ok (.iconst 0, 1) := dall dgX1_fillGains_13 9 rfl
theorem dX1_fillGains_12 : decode cX1_fillGains 12 = .ok (.istore_n 3, 1) := dall dgX1_fillGains_13 10 rfl
theorem dX1_fillGains_13 : decode cX1_fillGains 13 = .ok (.iload_n 3, 1) := dall dgX1_fillGains_13 11 rfl
theorem dX1_fillGains_14 : decode cX1_fillGains 14 = .ok (.iload_n 1, 1) := dall dgX1_fillGains_13 12 rfl
theorem dX1_fillGains_15 : decode cX1_fillGains 15 = .ok (.if_icmp .ge 60, 3) := dall dgX1_fillGains_13 13 rfl
theorem dX1_fillGains_18 : decode cX1_fillGains 18 = .ok (.iconst 1, 1) := dall dgX1_fillGains_13 14 rfl
theorem dX1_fillGains_19 : decode cX1_fillGains 19 = .ok (.iload_n 3, 1) := dall dgX1_fillGains_13 15 rfl
theorem dX1_fillGains_20 : decode cX1_fillGains 20 = .ok (.ishl, 1) := dall dgX1_fillGains_13 16 rfl
theorem dX1_fillGains_21 : decode cX1_fillGains 21 = .ok (.istore 4, 2) := dall dgX1_fillGains_13 17 rfl
theorem dX1_fillGains_23 : decode cX1_fillGains 23 = .ok (.iconst 0, 1) := dall dgX1_fillGains_13 18 rfl
theorem dX1_fillGains_24 : decode cX1_fillGains 24 = .ok (.istore 5, 2) := dall dgX1_fillGains_13 19 rfl
theorem dX1_fillGains_26 : decode cX1_fillGains 26 = .ok (.iload 5, 2) := dall dgX1_fillGains_13 20 rfl
theorem dX1_fillGains_28 : decode cX1_fillGains 28 = .ok (.iload 4, 2) := dall dgX1_fillGains_13 21 rfl
theorem dX1_fillGains_30 : decode cX1_fillGains 30 = .ok (.if_icmp .ge 39, 3) := dall dgX1_fillGains_13 22 rfl
theorem dX1_fillGains_33 : decode cX1_fillGains 33 = .ok (.aload_n 0, 1) := dall dgX1_fillGains_13 23 rfl
theorem dX1_fillGains_34 : decode cX1_fillGains 34 = .ok (.getfield 19, 3) := dall dgX1_fillGains_13 24 rfl
theorem dX1_fillGains_37 : decode cX1_fillGains 37 = .ok (.iload_n 2, 1) := dall dgX1_fillGains_13 25 rfl
theorem dX1_fillGains_38 : decode cX1_fillGains 38 = .ok (.iload 4, 2) := dall dgX1_fillGains_13 26 rfl
theorem dX1_fillGains_40 : decode cX1_fillGains 40 = .ok (.ior, 1) := dall dgX1_fillGains_13 27 rfl
theorem dX1_fillGains_41 : decode cX1_fillGains 41 = .ok (.iload 5, 2) := dall dgX1_fillGains_13 28 rfl
theorem dX1_fillGains_43 : decode cX1_fillGains 43 = .ok (.ior, 1) := dall dgX1_fillGains_13 29 rfl
theorem dX1_fillGains_44 : decode cX1_fillGains 44 = .ok (.aload_n 0, 1) := dall dgX1_fillGains_13 30 rfl
theorem dX1_fillGains_45 : decode cX1_fillGains 45 = .ok (.getfield 19, 3) := dall dgX1_fillGains_13 31 rfl
theorem dX1_fillGains_48 : decode cX1_fillGains 48 = .ok (.iload_n 2, 1) := dall dgX1_fillGains_13 32 rfl
theorem dX1_fillGains_49 : decode cX1_fillGains 49 = .ok (.iload 5, 2) := dall dgX1_fillGains_13 33 rfl
theorem dX1_fillGains_51 : decode cX1_fillGains 51 = .ok (.ior, 1) := dall dgX1_fillGains_13 34 rfl
theorem dX1_fillGains_52 : decode cX1_fillGains 52 = .ok (.iaload, 1) := dall dgX1_fillGains_13 35 rfl
theorem dX1_fillGains_53 : decode cX1_fillGains 53 = .ok (.aload_n 0, 1) := dall dgX1_fillGains_13 36 rfl
theorem dX1_fillGains_54 : decode cX1_fillGains 54 = .ok (.getfield 11, 3) := dall dgX1_fillGains_13 37 rfl
theorem dX1_fillGains_57 : decode cX1_fillGains 57 = .ok (.iload_n 3, 1) := dall dgX1_fillGains_13 38 rfl
theorem dX1_fillGains_58 : decode cX1_fillGains 58 = .ok (.aaload, 1) := dall dgX1_fillGains_13 39 rfl
theorem dX1_fillGains_59 : decode cX1_fillGains 59 = .ok (.iload_n 1, 1) := dall dgX1_fillGains_13 40 rfl
theorem dX1_fillGains_60 : decode cX1_fillGains 60 = .ok (.iaload, 1) := dall dgX1_fillGains_13 41 rfl
theorem dX1_fillGains_61 : decode cX1_fillGains 61 = .ok (.iadd, 1) := dall dgX1_fillGains_13 42 rfl
theorem dX1_fillGains_62 : decode cX1_fillGains 62 = .ok (.iastore, 1) := dall dgX1_fillGains_13 43 rfl
theorem dX1_fillGains_63 : decode cX1_fillGains 63 = .ok (.iinc 5 1, 3) := dall dgX1_fillGains_13 44 rfl
theorem dX1_fillGains_66 : decode cX1_fillGains 66 = .ok (.goto (-40), 3) := dall dgX1_fillGains_13 45 rfl
theorem dX1_fillGains_69 : decode cX1_fillGains 69 = .ok (.iinc 3 1, 3) := dall dgX1_fillGains_13 46 rfl
theorem dX1_fillGains_72 : decode cX1_fillGains 72 = .ok (.goto (-59), 3) := dall dgX1_fillGains_13 47 rfl
theorem dX1_fillGains_75 : decode cX1_fillGains 75 = .ok (.return_, 1) := dall dgX1_fillGains_13 48 rfl
def lgX1_gainOf_14 : List (Nat × Instr × Nat) := [(0, .iconst 1, 1), (1, .iload_n 1, 1), (2, .ishl, 1), (3, .iload_n 2, 1), (4, .ior, 1), (5, .istore_n 3, 1), (6, .iload_n 3, 1), (7, .ifCond .lt 21, 3), (10, .iload_n 3, 1), (11, .aload_n 0, 1), (12, .getfield 19, 3), (15, .arraylength, 1), (16, .if_icmp .ge 12, 3), (19, .aload_n 0, 1), (20, .getfield 19, 3), (23, .iload_n 3, 1), (24, .iaload, 1), (25, .goto 4, 3), (28, .iconst 0, 1), (29, .ireturn, 1)]
theorem dgX1_gainOf_14 : ∀ q ∈ lgX1_gainOf_14, decode cX1_gainOf q.1 = .ok (q.2.1, q.2.2) := by decide +kernel
theorem dX1_gainOf_0 : decode cX1_gainOf 0 = .ok (.iconst 1, 1) := dall dgX1_gainOf_14 0 rfl
theorem dX1_gainOf_1 : decode cX1_gainOf 1 = .ok (.iload_n 1, 1) := dall dgX1_gainOf_14 1 rfl
theorem dX1_gainOf_2 : decode cX1_gainOf 2 = .ok (.ishl, 1) := dall dgX1_gainOf_14 2 rfl
theorem dX1_gainOf_3 : decode cX1_gainOf 3 = .ok (.iload_n 2, 1) := dall dgX1_gainOf_14 3 rfl
theorem dX1_gainOf_4 : decode cX1_gainOf 4 = .ok (.ior, 1) := dall dgX1_gainOf_14 4 rfl
theorem dX1_gainOf_5 : decode cX1_gainOf 5 = .ok (.istore_n 3, 1) := dall dgX1_gainOf_14 5 rfl
theorem dX1_gainOf_6 : decode cX1_gainOf 6 = .ok (.iload_n 3, 1) := dall dgX1_gainOf_14 6 rfl
theorem dX1_gainOf_7 : decode cX1_gainOf 7 = .ok (.ifCond .lt 21, 3) := dall dgX1_gainOf_14 7 rfl
theorem dX1_gainOf_10 : decode cX1_gainOf 10 = .ok (.iload_n 3, 1) := dall dgX1_gainOf_14 8 rfl
theorem dX1_gainOf_11 : decode cX1_gainOf 11 = .ok (.aload_n 0, 1) := dall dgX1_gainOf_14 9 rfl
theorem dX1_gainOf_12 : decode cX1_gainOf 12 = .ok (.getfield 19, 3) := dall dgX1_gainOf_14 10 rfl
theorem dX1_gainOf_15 : decode cX1_gainOf 15 = .ok (.arraylength, 1) := dall dgX1_gainOf_14 11 rfl
theorem dX1_gainOf_16 : decode cX1_gainOf 16 = .ok (.if_icmp .ge 12, 3) := dall dgX1_gainOf_14 12 rfl
theorem dX1_gainOf_19 : decode cX1_gainOf 19 = .ok (.aload_n 0, 1) := dall dgX1_gainOf_14 13 rfl
theorem dX1_gainOf_20 : decode cX1_gainOf 20 = .ok (.getfield 19, 3) := dall dgX1_gainOf_14 14 rfl
theorem dX1_gainOf_23 : decode cX1_gainOf 23 = .ok (.iload_n 3, 1) := dall dgX1_gainOf_14 15 rfl
theorem dX1_gainOf_24 : decode cX1_gainOf 24 = .ok (.iaload, 1) := dall dgX1_gainOf_14 16 rfl
theorem dX1_gainOf_25 : decode cX1_gainOf 25 = .ok (.goto 4, 3) := dall dgX1_gainOf_14 17 rfl
theorem dX1_gainOf_28 : decode cX1_gainOf 28 = .ok (.iconst 0, 1) := dall dgX1_gainOf_14 18 rfl
theorem dX1_gainOf_29 : decode cX1_gainOf 29 = .ok (.ireturn, 1) := dall dgX1_gainOf_14 19 rfl
def lgX1_join_15 : List (Nat × Instr × Nat) := [(0, .iconst 0, 1), (1, .istore_n 2, 1), (2, .iload_n 2, 1), (3, .aload_n 0, 1), (4, .getfield 35, 3), (7, .if_icmp .ge 48, 3), (10, .aload_n 1, 1), (11, .getfield 48, 3), (14, .iload_n 2, 1), (15, .iload_n 2, 1), (16, .iastore, 1), (17, .iconst 0, 1), (18, .istore_n 3, 1), (19, .iload_n 3, 1), (20, .aload_n 0, 1), (21, .getfield 35, 3), (24, .if_icmp .ge 25, 3), (27, .aload_n 0, 1), (28, .getfield 16, 3), (31, .iload_n 2, 1), (32, .aaload, 1), (33, .iload_n 3, 1), (34, .aload_n 0, 1), (35, .getfield 11, 3), (38, .iload_n 2, 1), (39, .aaload, 1), (40, .iload_n 3, 1), (41, .iaload, 1), (42, .iastore, 1), (43, .iinc 3 1, 3), (46, .goto (-27), 3), (49, .iinc 2 1, 3), (52, .goto (-50), 3), (55, .iconst 1, 1), (56, .istore_n 2, 1), (57, .iconst 0, 1), (58, .istore_n 3, 1), (59, .iload_n 3, 1), (60, .aload_n 0, 1), (61, .getfield 35, 3), (64, .if_icmp .ge 19, 3), (67, .iload_n 2, 1), (68, .ifCond .eq 15, 3), (71, .aload_n 0, 1), (72, .aload_n 1, 1), (73, .invokevirtual 53, 3), (76, .istore_n 2, 1), (77, .iinc 3 1, 3), (80, .goto (-21), 3), (83, .aload_n 1, 1)]
theorem dgX1_join_15 : ∀ q ∈ lgX1_join_15, decode cX1_join q.1 = .ok (q.2.1, q.2.2) := by decide +kernel
theorem dX1_join_0 : decode cX1_join 0 = .ok (.iconst 0, 1) := dall dgX1_join_15 0 rfl
theorem dX1_join_1 : decode cX1_join 1 = .ok (.istore_n 2, 1) := dall dgX1_join_15 1 rfl
theorem dX1_join_2 : decode cX1_join 2 = .ok (.iload_n 2, 1) := dall dgX1_join_15 2 rfl
theorem dX1_join_3 : decode cX1_join 3 = .ok (.aload_n 0, 1) := dall dgX1_join_15 3 rfl
theorem dX1_join_4 : decode cX1_join 4 = .ok (.getfield 35, 3) := dall dgX1_join_15 4 rfl
theorem dX1_join_7 : decode cX1_join 7 = .ok (.if_icmp .ge 48, 3) := dall dgX1_join_15 5 rfl
theorem dX1_join_10 : decode cX1_join 10 = .ok (.aload_n 1, 1) := dall dgX1_join_15 6 rfl
theorem dX1_join_11 : decode cX1_join 11 = .ok (.getfield 48, 3) := dall dgX1_join_15 7 rfl
theorem dX1_join_14 : decode cX1_join 14 = .ok (.iload_n 2, 1) := dall dgX1_join_15 8 rfl
theorem dX1_join_15 : decode cX1_join 15 = .ok (.iload_n 2, 1) := dall dgX1_join_15 9 rfl
theorem dX1_join_16 : decode cX1_join 16 = .ok (.iastore, 1) := dall dgX1_join_15 10 rfl
theorem dX1_join_17 : decode cX1_join 17 = .ok (.iconst 0, 1) := dall dgX1_join_15 11 rfl
theorem dX1_join_18 : decode cX1_join 18 = .ok (.istore_n 3, 1) := dall dgX1_join_15 12 rfl
theorem dX1_join_19 : decode cX1_join 19 = .ok (.iload_n 3, 1) := dall dgX1_join_15 13 rfl
theorem dX1_join_20 : decode cX1_join 20 = .ok (.aload_n 0, 1) := dall dgX1_join_15 14 rfl
theorem dX1_join_21 : decode cX1_join 21 = .ok (.getfield 35, 3) := dall dgX1_join_15 15 rfl
theorem dX1_join_24 : decode cX1_join 24 = .ok (.if_icmp .ge 25, 3) := dall dgX1_join_15 16 rfl
theorem dX1_join_27 : decode cX1_join 27 = .ok (.aload_n 0, 1) := dall dgX1_join_15 17 rfl
theorem dX1_join_28 : decode cX1_join 28 = .ok (.getfield 16, 3) := dall dgX1_join_15 18 rfl
theorem dX1_join_31 : decode cX1_join 31 = .ok (.iload_n 2, 1) := dall dgX1_join_15 19 rfl
theorem dX1_join_32 : decode cX1_join 32 = .ok (.aaload, 1) := dall dgX1_join_15 20 rfl
theorem dX1_join_33 : decode cX1_join 33 = .ok (.iload_n 3, 1) := dall dgX1_join_15 21 rfl
theorem dX1_join_34 : decode cX1_join 34 = .ok (.aload_n 0, 1) := dall dgX1_join_15 22 rfl
theorem dX1_join_35 : decode cX1_join 35 = .ok (.getfield 11, 3) := dall dgX1_join_15 23 rfl
theorem dX1_join_38 : decode cX1_join 38 = .ok (.iload_n 2, 1) := dall dgX1_join_15 24 rfl
theorem dX1_join_39 : decode cX1_join 39 = .ok (.aaload, 1) := dall dgX1_join_15 25 rfl
theorem dX1_join_40 : decode cX1_join 40 = .ok (.iload_n 3, 1) := dall dgX1_join_15 26 rfl
theorem dX1_join_41 : decode cX1_join 41 = .ok (.iaload, 1) := dall dgX1_join_15 27 rfl
theorem dX1_join_42 : decode cX1_join 42 = .ok (.iastore, 1) := dall dgX1_join_15 28 rfl
theorem dX1_join_43 : decode cX1_join 43 = .ok (.iinc 3 1, 3) := dall dgX1_join_15 29 rfl
theorem dX1_join_46 : decode cX1_join 46 = .ok (.goto (-27), 3) := dall dgX1_join_15 30 rfl
theorem dX1_join_49 : decode cX1_join 49 = .ok (.iinc 2 1, 3) := dall dgX1_join_15 31 rfl
theorem dX1_join_52 : decode cX1_join 52 = .ok (.goto (-50), 3) := dall dgX1_join_15 32 rfl
theorem dX1_join_55 : decode cX1_join 55 = .ok (.iconst 1, 1) := dall dgX1_join_15 33 rfl
theorem dX1_join_56 : decode cX1_join 56 = .ok (.istore_n 2, 1) := dall dgX1_join_15 34 rfl
theorem dX1_join_57 : decode cX1_join 57 = .ok (.iconst 0, 1) := dall dgX1_join_15 35 rfl
theorem dX1_join_58 : decode cX1_join 58 = .ok (.istore_n 3, 1) := dall dgX1_join_15 36 rfl
theorem dX1_join_59 : decode cX1_join 59 = .ok (.iload_n 3, 1) := dall dgX1_join_15 37 rfl
theorem dX1_join_60 : decode cX1_join 60 = .ok (.aload_n 0, 1) := dall dgX1_join_15 38 rfl
theorem dX1_join_61 : decode cX1_join 61 = .ok (.getfield 35, 3) := dall dgX1_join_15 39 rfl
theorem dX1_join_64 : decode cX1_join 64 = .ok (.if_icmp .ge 19, 3) := dall dgX1_join_15 40 rfl
theorem dX1_join_67 : decode cX1_join 67 = .ok (.iload_n 2, 1) := dall dgX1_join_15 41 rfl
theorem dX1_join_68 : decode cX1_join 68 = .ok (.ifCond .eq 15, 3) := dall dgX1_join_15 42 rfl
theorem dX1_join_71 : decode cX1_join 71 = .ok (.aload_n 0, 1) := dall dgX1_join_15 43 rfl
theorem dX1_join_72 : decode cX1_join 72 = .ok (.aload_n 1, 1) := dall dgX1_join_15 44 rfl
theorem dX1_join_73 : decode cX1_join 73 = .ok (.invokevirtual 53, 3) := dall dgX1_join_15 45 rfl
theorem dX1_join_76 : decode cX1_join 76 = .ok (.istore_n 2, 1) := dall dgX1_join_15 46 rfl
theorem dX1_join_77 : decode cX1_join 77 = .ok (.iinc 3 1, 3) := dall dgX1_join_15 47 rfl
theorem dX1_join_80 : decode cX1_join 80 = .ok (.goto (-21), 3) := dall dgX1_join_15 48 rfl
theorem dX1_join_83 : decode cX1_join 83 = .ok (.aload_n 1, 1) := dall dgX1_join_15 49 rfl
def lgX1_join_16 : List (Nat × Instr × Nat) := [(84, .aload_n 0, 1), (85, .getfield 35, 3), (88, .invokevirtual 57, 3), (91, .aload_n 1, 1), (92, .aload_n 0, 1), (93, .aload_n 1, 1), (94, .invokevirtual 60, 3), (97, .putfield 64, 3), (100, .return_, 1)]
theorem dgX1_join_16 : ∀ q ∈ lgX1_join_16, decode cX1_join q.1 = .ok (q.2.1, q.2.2) := by decide +kernel
theorem dX1_join_84 : decode cX1_join 84 = .ok (.aload_n 0, 1) := dall dgX1_join_16 0 rfl
theorem dX1_join_85 : decode cX1_join 85 = .ok (.getfield 35, 3) := dall dgX1_join_16 1 rfl
theorem dX1_join_88 : decode cX1_join 88 = .ok (.invokevirtual 57, 3) := dall dgX1_join_16 2 rfl
theorem dX1_join_91 : decode cX1_join 91 = .ok (.aload_n 1, 1) := dall dgX1_join_16 3 rfl
theorem dX1_join_92 : decode cX1_join 92 = .ok (.aload_n 0, 1) := dall dgX1_join_16 4 rfl
theorem dX1_join_93 : decode cX1_join 93 = .ok (.aload_n 1, 1) := dall dgX1_join_16 5 rfl
theorem dX1_join_94 : decode cX1_join 94 = .ok (.invokevirtual 60, 3) := dall dgX1_join_16 6 rfl
theorem dX1_join_97 : decode cX1_join 97 = .ok (.putfield 64, 3) := dall dgX1_join_16 7 rfl
theorem dX1_join_100 : decode cX1_join 100 = .ok (.return_, 1) := dall dgX1_join_16 8 rfl
def lgX1_joinTwo_17 : List (Nat × Instr × Nat) := [(0, .iconst (-1), 1), (1, .istore_n 2, 1), (2, .iconst (-1), 1), (3, .istore_n 3, 1), (4, .iconst 0, 1), (5, .istore 4, 2), (7, .iconst 0, 1), (8, .istore 5, 2), (10, .iload 5, 2), (12, .aload_n 0, 1), (13, .getfield 35, 3), (16, .if_icmp .ge 87, 3), (19, .iload 5, 2), (21, .iconst 1, 1), (22, .iadd, 1), (23, .istore 6, 2), (25, .iload 6, 2), (27, .aload_n 0, 1), (28, .getfield 35, 3), (31, .if_icmp .ge 66, 3), (34, .aload_n 1, 1), (35, .getfield 48, 3), (38, .iload 5, 2), (40, .iaload, 1), (41, .iload 5, 2), (43, .if_icmp .ne 48, 3), (46, .aload_n 1, 1), (47, .getfield 48, 3), (50, .iload 6, 2), (52, .iaload, 1), (53, .iload 6, 2), (55, .if_icmp .ne 36, 3), (58, .aload_n 0, 1), (59, .getfield 16, 3), (62, .iload 5, 2), (64, .aaload, 1), (65, .iload 6, 2), (67, .iaload, 1), (68, .iload 4, 2), (70, .if_icmp .le 21, 3), (73, .aload_n 0, 1), (74, .getfield 16, 3), (77, .iload 5, 2), (79, .aaload, 1), (80, .iload 6, 2), (82, .iaload, 1), (83, .istore 4, 2), (85, .iload 5, 2), (87, .istore_n 2, 1), (88, .iload 6, 2)]
theorem dgX1_joinTwo_17 : ∀ q ∈ lgX1_joinTwo_17, decode cX1_joinTwo q.1 = .ok (q.2.1, q.2.2) := by decide +kernel
theorem dX1_joinTwo_0 : decode cX1_joinTwo 0 = .ok (.iconst (-1), 1) := dall dgX1_joinTwo_17 0 rfl
theorem dX1_joinTwo_1 : decode cX1_joinTwo 1 = .ok (.istore_n 2, 1) := dall dgX1_joinTwo_17 1 rfl
theorem dX1_joinTwo_2 : decode cX1_joinTwo 2 = .ok (.iconst (-1), 1) := dall dgX1_joinTwo_17 2 rfl
theorem dX1_joinTwo_3 : decode cX1_joinTwo 3 = .ok (.istore_n 3, 1) := dall dgX1_joinTwo_17 3 rfl
theorem dX1_joinTwo_4 : decode cX1_joinTwo 4 = .ok (.iconst 0, 1) := dall dgX1_joinTwo_17 4 rfl
theorem dX1_joinTwo_5 : decode cX1_joinTwo 5 = .ok (.istore 4, 2) := dall dgX1_joinTwo_17 5 rfl
theorem dX1_joinTwo_7 : decode cX1_joinTwo 7 = .ok (.iconst 0, 1) := dall dgX1_joinTwo_17 6 rfl
theorem dX1_joinTwo_8 : decode cX1_joinTwo 8 = .ok (.istore 5, 2) := dall dgX1_joinTwo_17 7 rfl
theorem dX1_joinTwo_10 : decode cX1_joinTwo 10 = .ok (.iload 5, 2) := dall dgX1_joinTwo_17 8 rfl
theorem dX1_joinTwo_12 : decode cX1_joinTwo 12 = .ok (.aload_n 0, 1) := dall dgX1_joinTwo_17 9 rfl
theorem dX1_joinTwo_13 : decode cX1_joinTwo 13 = .ok (.getfield 35, 3) := dall dgX1_joinTwo_17 10 rfl
theorem dX1_joinTwo_16 : decode cX1_joinTwo 16 = .ok (.if_icmp .ge 87, 3) := dall dgX1_joinTwo_17 11 rfl
theorem dX1_joinTwo_19 : decode cX1_joinTwo 19 = .ok (.iload 5, 2) := dall dgX1_joinTwo_17 12 rfl
theorem dX1_joinTwo_21 : decode cX1_joinTwo 21 = .ok (.iconst 1, 1) := dall dgX1_joinTwo_17 13 rfl
theorem dX1_joinTwo_22 : decode cX1_joinTwo 22 = .ok (.iadd, 1) := dall dgX1_joinTwo_17 14 rfl
theorem dX1_joinTwo_23 : decode cX1_joinTwo 23 = .ok (.istore 6, 2) := dall dgX1_joinTwo_17 15 rfl
theorem dX1_joinTwo_25 : decode cX1_joinTwo 25 = .ok (.iload 6, 2) := dall dgX1_joinTwo_17 16 rfl
theorem dX1_joinTwo_27 : decode cX1_joinTwo 27 = .ok (.aload_n 0, 1) := dall dgX1_joinTwo_17 17 rfl
theorem dX1_joinTwo_28 : decode cX1_joinTwo 28 = .ok (.getfield 35, 3) := dall dgX1_joinTwo_17 18 rfl
theorem dX1_joinTwo_31 : decode cX1_joinTwo 31 = .ok (.if_icmp .ge 66, 3) := dall dgX1_joinTwo_17 19 rfl
theorem dX1_joinTwo_34 : decode cX1_joinTwo 34 = .ok (.aload_n 1, 1) := dall dgX1_joinTwo_17 20 rfl
theorem dX1_joinTwo_35 : decode cX1_joinTwo 35 = .ok (.getfield 48, 3) := dall dgX1_joinTwo_17 21 rfl
theorem dX1_joinTwo_38 : decode cX1_joinTwo 38 = .ok (.iload 5, 2) := dall dgX1_joinTwo_17 22 rfl
theorem dX1_joinTwo_40 : decode cX1_joinTwo 40 = .ok (.iaload, 1) := dall dgX1_joinTwo_17 23 rfl
theorem dX1_joinTwo_41 : decode cX1_joinTwo 41 = .ok (.iload 5, 2) := dall dgX1_joinTwo_17 24 rfl
theorem dX1_joinTwo_43 : decode cX1_joinTwo 43 = .ok (.if_icmp .ne 48, 3) := dall dgX1_joinTwo_17 25 rfl
theorem dX1_joinTwo_46 : decode cX1_joinTwo 46 = .ok (.aload_n 1, 1) := dall dgX1_joinTwo_17 26 rfl
theorem dX1_joinTwo_47 : decode cX1_joinTwo 47 = .ok (.getfield 48, 3) := dall dgX1_joinTwo_17 27 rfl
theorem dX1_joinTwo_50 : decode cX1_joinTwo 50 = .ok (.iload 6, 2) := dall dgX1_joinTwo_17 28 rfl
theorem dX1_joinTwo_52 : decode cX1_joinTwo 52 = .ok (.iaload, 1) := dall dgX1_joinTwo_17 29 rfl
theorem dX1_joinTwo_53 : decode cX1_joinTwo 53 = .ok (.iload 6, 2) := dall dgX1_joinTwo_17 30 rfl
theorem dX1_joinTwo_55 : decode cX1_joinTwo 55 = .ok (.if_icmp .ne 36, 3) := dall dgX1_joinTwo_17 31 rfl
theorem dX1_joinTwo_58 : decode cX1_joinTwo 58 = .ok (.aload_n 0, 1) := dall dgX1_joinTwo_17 32 rfl
theorem dX1_joinTwo_59 : decode cX1_joinTwo 59 = .ok (.getfield 16, 3) := dall dgX1_joinTwo_17 33 rfl
theorem dX1_joinTwo_62 : decode cX1_joinTwo 62 = .ok (.iload 5, 2) := dall dgX1_joinTwo_17 34 rfl
theorem dX1_joinTwo_64 : decode cX1_joinTwo 64 = .ok (.aaload, 1) := dall dgX1_joinTwo_17 35 rfl
theorem dX1_joinTwo_65 : decode cX1_joinTwo 65 = .ok (.iload 6, 2) := dall dgX1_joinTwo_17 36 rfl
theorem dX1_joinTwo_67 : decode cX1_joinTwo 67 = .ok (.iaload, 1) := dall dgX1_joinTwo_17 37 rfl
theorem dX1_joinTwo_68 : decode cX1_joinTwo 68 = .ok (.iload 4, 2) := dall dgX1_joinTwo_17 38 rfl
theorem dX1_joinTwo_70 : decode cX1_joinTwo 70 = .ok (.if_icmp .le 21, 3) := dall dgX1_joinTwo_17 39 rfl
theorem dX1_joinTwo_73 : decode cX1_joinTwo 73 = .ok (.aload_n 0, 1) := dall dgX1_joinTwo_17 40 rfl
theorem dX1_joinTwo_74 : decode cX1_joinTwo 74 = .ok (.getfield 16, 3) := dall dgX1_joinTwo_17 41 rfl
theorem dX1_joinTwo_77 : decode cX1_joinTwo 77 = .ok (.iload 5, 2) := dall dgX1_joinTwo_17 42 rfl
theorem dX1_joinTwo_79 : decode cX1_joinTwo 79 = .ok (.aaload, 1) := dall dgX1_joinTwo_17 43 rfl
theorem dX1_joinTwo_80 : decode cX1_joinTwo 80 = .ok (.iload 6, 2) := dall dgX1_joinTwo_17 44 rfl
theorem dX1_joinTwo_82 : decode cX1_joinTwo 82 = .ok (.iaload, 1) := dall dgX1_joinTwo_17 45 rfl
theorem dX1_joinTwo_83 : decode cX1_joinTwo 83 = .ok (.istore 4, 2) := dall dgX1_joinTwo_17 46 rfl
theorem dX1_joinTwo_85 : decode cX1_joinTwo 85 = .ok (.iload 5, 2) := dall dgX1_joinTwo_17 47 rfl
theorem dX1_joinTwo_87 : decode cX1_joinTwo 87 = .ok (.istore_n 2, 1) := dall dgX1_joinTwo_17 48 rfl
theorem dX1_joinTwo_88 : decode cX1_joinTwo 88 = .ok (.iload 6, 2) := dall dgX1_joinTwo_17 49 rfl
def lgX1_joinTwo_18 : List (Nat × Instr × Nat) := [(90, .istore_n 3, 1), (91, .iinc 6 1, 3), (94, .goto (-69), 3), (97, .iinc 5 1, 3), (100, .goto (-90), 3), (103, .iload_n 2, 1), (104, .ifCond .lt 7, 3), (107, .iload_n 3, 1), (108, .ifCond .ge 5, 3), (111, .iconst 0, 1), (112, .ireturn, 1), (113, .iconst 0, 1), (114, .istore 5, 2), (116, .iload 5, 2), (118, .aload_n 0, 1), (119, .getfield 35, 3), (122, .if_icmp .ge 67, 3), (125, .aload_n 0, 1), (126, .getfield 16, 3), (129, .iload_n 2, 1), (130, .aaload, 1), (131, .iload 5, 2), (133, .dup2, 1), (134, .iaload, 1), (135, .aload_n 0, 1), (136, .getfield 16, 3), (139, .iload_n 3, 1), (140, .aaload, 1), (141, .iload 5, 2), (143, .iaload, 1), (144, .iadd, 1), (145, .iastore, 1), (146, .aload_n 0, 1), (147, .getfield 16, 3), (150, .iload 5, 2), (152, .aaload, 1), (153, .iload_n 2, 1), (154, .aload_n 0, 1), (155, .getfield 16, 3), (158, .iload_n 2, 1), (159, .aaload, 1), (160, .iload 5, 2), (162, .iaload, 1), (163, .iastore, 1), (164, .aload_n 1, 1), (165, .getfield 48, 3), (168, .iload 5, 2), (170, .iaload, 1), (171, .iload_n 3, 1), (172, .if_icmp .ne 11, 3)]
theorem dgX1_joinTwo_18 : ∀ q ∈ lgX1_joinTwo_18, decode cX1_joinTwo q.1 = .ok (q.2.1, q.2.2) := by decide +kernel
theorem dX1_joinTwo_90 : decode cX1_joinTwo 90 = .ok (.istore_n 3, 1) := dall dgX1_joinTwo_18 0 rfl
theorem dX1_joinTwo_91 : decode cX1_joinTwo 91 = .ok (.iinc 6 1, 3) := dall dgX1_joinTwo_18 1 rfl
theorem dX1_joinTwo_94 : decode cX1_joinTwo 94 = .ok (.goto (-69), 3) := dall dgX1_joinTwo_18 2 rfl
theorem dX1_joinTwo_97 : decode cX1_joinTwo 97 = .ok (.iinc 5 1, 3) := dall dgX1_joinTwo_18 3 rfl
theorem dX1_joinTwo_100 : decode cX1_joinTwo 100 = .ok (.goto (-90), 3) := dall dgX1_joinTwo_18 4 rfl
theorem dX1_joinTwo_103 : decode cX1_joinTwo 103 = .ok (.iload_n 2, 1) := dall dgX1_joinTwo_18 5 rfl
theorem dX1_joinTwo_104 : decode cX1_joinTwo 104 = .ok (.ifCond .lt 7, 3) := dall dgX1_joinTwo_18 6 rfl
theorem dX1_joinTwo_107 : decode cX1_joinTwo 107 = .ok (.iload_n 3, 1) := dall dgX1_joinTwo_18 7 rfl
theorem dX1_joinTwo_108 : decode cX1_joinTwo 108 = .ok (.ifCond .ge 5, 3) := dall dgX1_joinTwo_18 8 rfl
theorem dX1_joinTwo_111 : decode cX1_joinTwo 111 = .ok (.iconst 0, 1) := dall dgX1_joinTwo_18 9 rfl
theorem dX1_joinTwo_112 : decode cX1_joinTwo 112 = .ok (.ireturn, 1) := dall dgX1_joinTwo_18 10 rfl
theorem dX1_joinTwo_113 : decode cX1_joinTwo 113 = .ok (.iconst 0, 1) := dall dgX1_joinTwo_18 11 rfl
theorem dX1_joinTwo_114 : decode cX1_joinTwo 114 = .ok (.istore 5, 2) := dall dgX1_joinTwo_18 12 rfl
theorem dX1_joinTwo_116 : decode cX1_joinTwo 116 = .ok (.iload 5, 2) := dall dgX1_joinTwo_18 13 rfl
theorem dX1_joinTwo_118 : decode cX1_joinTwo 118 = .ok (.aload_n 0, 1) := dall dgX1_joinTwo_18 14 rfl
theorem dX1_joinTwo_119 : decode cX1_joinTwo 119 = .ok (.getfield 35, 3) := dall dgX1_joinTwo_18 15 rfl
theorem dX1_joinTwo_122 : decode cX1_joinTwo 122 = .ok (.if_icmp .ge 67, 3) := dall dgX1_joinTwo_18 16 rfl
theorem dX1_joinTwo_125 : decode cX1_joinTwo 125 = .ok (.aload_n 0, 1) := dall dgX1_joinTwo_18 17 rfl
theorem dX1_joinTwo_126 : decode cX1_joinTwo 126 = .ok (.getfield 16, 3) := dall dgX1_joinTwo_18 18 rfl
theorem dX1_joinTwo_129 : decode cX1_joinTwo 129 = .ok (.iload_n 2, 1) := dall dgX1_joinTwo_18 19 rfl
theorem dX1_joinTwo_130 : decode cX1_joinTwo 130 = .ok (.aaload, 1) := dall dgX1_joinTwo_18 20 rfl
theorem dX1_joinTwo_131 : decode cX1_joinTwo 131 = .ok (.iload 5, 2) := dall dgX1_joinTwo_18 21 rfl
theorem dX1_joinTwo_133 : decode cX1_joinTwo 133 = .ok (.dup2, 1) := dall dgX1_joinTwo_18 22 rfl
theorem dX1_joinTwo_134 : decode cX1_joinTwo 134 = .ok (.iaload, 1) := dall dgX1_joinTwo_18 23 rfl
theorem dX1_joinTwo_135 : decode cX1_joinTwo 135 = .ok (.aload_n 0, 1) := dall dgX1_joinTwo_18 24 rfl
theorem dX1_joinTwo_136 : decode cX1_joinTwo 136 = .ok (.getfield 16, 3) := dall dgX1_joinTwo_18 25 rfl
theorem dX1_joinTwo_139 : decode cX1_joinTwo 139 = .ok (.iload_n 3, 1) := dall dgX1_joinTwo_18 26 rfl
theorem dX1_joinTwo_140 : decode cX1_joinTwo 140 = .ok (.aaload, 1) := dall dgX1_joinTwo_18 27 rfl
theorem dX1_joinTwo_141 : decode cX1_joinTwo 141 = .ok (.iload 5, 2) := dall dgX1_joinTwo_18 28 rfl
theorem dX1_joinTwo_143 : decode cX1_joinTwo 143 = .ok (.iaload, 1) := dall dgX1_joinTwo_18 29 rfl
theorem dX1_joinTwo_144 : decode cX1_joinTwo 144 = .ok (.iadd, 1) := dall dgX1_joinTwo_18 30 rfl
theorem dX1_joinTwo_145 : decode cX1_joinTwo 145 = .ok (.iastore, 1) := dall dgX1_joinTwo_18 31 rfl
theorem dX1_joinTwo_146 : decode cX1_joinTwo 146 = .ok (.aload_n 0, 1) := dall dgX1_joinTwo_18 32 rfl
theorem dX1_joinTwo_147 : decode cX1_joinTwo 147 = .ok (.getfield 16, 3) := dall dgX1_joinTwo_18 33 rfl
theorem dX1_joinTwo_150 : decode cX1_joinTwo 150 = .ok (.iload 5, 2) := dall dgX1_joinTwo_18 34 rfl
theorem dX1_joinTwo_152 : decode cX1_joinTwo 152 = .ok (.aaload, 1) := dall dgX1_joinTwo_18 35 rfl
theorem dX1_joinTwo_153 : decode cX1_joinTwo 153 = .ok (.iload_n 2, 1) := dall dgX1_joinTwo_18 36 rfl
theorem dX1_joinTwo_154 : decode cX1_joinTwo 154 = .ok (.aload_n 0, 1) := dall dgX1_joinTwo_18 37 rfl
theorem dX1_joinTwo_155 : decode cX1_joinTwo 155 = .ok (.getfield 16, 3) := dall dgX1_joinTwo_18 38 rfl
theorem dX1_joinTwo_158 : decode cX1_joinTwo 158 = .ok (.iload_n 2, 1) := dall dgX1_joinTwo_18 39 rfl
theorem dX1_joinTwo_159 : decode cX1_joinTwo 159 = .ok (.aaload, 1) := dall dgX1_joinTwo_18 40 rfl
theorem dX1_joinTwo_160 : decode cX1_joinTwo 160 = .ok (.iload 5, 2) := dall dgX1_joinTwo_18 41 rfl
theorem dX1_joinTwo_162 : decode cX1_joinTwo 162 = .ok (.iaload, 1) := dall dgX1_joinTwo_18 42 rfl
theorem dX1_joinTwo_163 : decode cX1_joinTwo 163 = .ok (.iastore, 1) := dall dgX1_joinTwo_18 43 rfl
theorem dX1_joinTwo_164 : decode cX1_joinTwo 164 = .ok (.aload_n 1, 1) := dall dgX1_joinTwo_18 44 rfl
theorem dX1_joinTwo_165 : decode cX1_joinTwo 165 = .ok (.getfield 48, 3) := dall dgX1_joinTwo_18 45 rfl
theorem dX1_joinTwo_168 : decode cX1_joinTwo 168 = .ok (.iload 5, 2) := dall dgX1_joinTwo_18 46 rfl
theorem dX1_joinTwo_170 : decode cX1_joinTwo 170 = .ok (.iaload, 1) := dall dgX1_joinTwo_18 47 rfl
theorem dX1_joinTwo_171 : decode cX1_joinTwo 171 = .ok (.iload_n 3, 1) := dall dgX1_joinTwo_18 48 rfl
theorem dX1_joinTwo_172 : decode cX1_joinTwo 172 = .ok (.if_icmp .ne 11, 3) := dall dgX1_joinTwo_18 49 rfl
def lgX1_joinTwo_19 : List (Nat × Instr × Nat) := [(175, .aload_n 1, 1), (176, .getfield 48, 3), (179, .iload 5, 2), (181, .iload_n 2, 1), (182, .iastore, 1), (183, .iinc 5 1, 3), (186, .goto (-70), 3), (189, .iconst 1, 1), (190, .ireturn, 1)]
theorem dgX1_joinTwo_19 : ∀ q ∈ lgX1_joinTwo_19, decode cX1_joinTwo q.1 = .ok (q.2.1, q.2.2) := by decide +kernel
theorem dX1_joinTwo_175 : decode cX1_joinTwo 175 = .ok (.aload_n 1, 1) := dall dgX1_joinTwo_19 0 rfl
theorem dX1_joinTwo_176 : decode cX1_joinTwo 176 = .ok (.getfield 48, 3) := dall dgX1_joinTwo_19 1 rfl
theorem dX1_joinTwo_179 : decode cX1_joinTwo 179 = .ok (.iload 5, 2) := dall dgX1_joinTwo_19 2 rfl
theorem dX1_joinTwo_181 : decode cX1_joinTwo 181 = .ok (.iload_n 2, 1) := dall dgX1_joinTwo_19 3 rfl
theorem dX1_joinTwo_182 : decode cX1_joinTwo 182 = .ok (.iastore, 1) := dall dgX1_joinTwo_19 4 rfl
theorem dX1_joinTwo_183 : decode cX1_joinTwo 183 = .ok (.iinc 5 1, 3) := dall dgX1_joinTwo_19 5 rfl
theorem dX1_joinTwo_186 : decode cX1_joinTwo 186 = .ok (.goto (-70), 3) := dall dgX1_joinTwo_19 6 rfl
theorem dX1_joinTwo_189 : decode cX1_joinTwo 189 = .ok (.iconst 1, 1) := dall dgX1_joinTwo_19 7 rfl
theorem dX1_joinTwo_190 : decode cX1_joinTwo 190 = .ok (.ireturn, 1) := dall dgX1_joinTwo_19 8 rfl
def lgX1_worthOf_20 : List (Nat × Instr × Nat) := [(0, .iconst 0, 1), (1, .istore_n 2, 1), (2, .iconst 0, 1), (3, .istore_n 3, 1), (4, .iload_n 3, 1), (5, .aload_n 0, 1), (6, .getfield 35, 3), (9, .if_icmp .ge 61, 3), (12, .iload_n 3, 1), (13, .iconst 1, 1), (14, .iadd, 1), (15, .istore 4, 2), (17, .iload 4, 2), (19, .aload_n 0, 1), (20, .getfield 35, 3), (23, .if_icmp .ge 41, 3), (26, .iload_n 2, 1), (27, .aload_n 1, 1), (28, .getfield 48, 3), (31, .iload_n 3, 1), (32, .iaload, 1), (33, .aload_n 1, 1), (34, .getfield 48, 3), (37, .iload 4, 2), (39, .iaload, 1), (40, .if_icmp .ne 15, 3), (43, .aload_n 0, 1), (44, .getfield 11, 3), (47, .iload_n 3, 1), (48, .aaload, 1), (49, .iload 4, 2), (51, .iaload, 1), (52, .goto 4, 3), (55, .iconst 0, 1), (56, .iadd, 1), (57, .istore_n 2, 1), (58, .iinc 4 1, 3), (61, .goto (-44), 3), (64, .iinc 3 1, 3), (67, .goto (-63), 3), (70, .iload_n 2, 1), (71, .ireturn, 1)]
theorem dgX1_worthOf_20 : ∀ q ∈ lgX1_worthOf_20, decode cX1_worthOf q.1 = .ok (q.2.1, q.2.2) := by decide +kernel
theorem dX1_worthOf_0 : decode cX1_worthOf 0 = .ok (.iconst 0, 1) := dall dgX1_worthOf_20 0 rfl
theorem dX1_worthOf_1 : decode cX1_worthOf 1 = .ok (.istore_n 2, 1) := dall dgX1_worthOf_20 1 rfl
theorem dX1_worthOf_2 : decode cX1_worthOf 2 = .ok (.iconst 0, 1) := dall dgX1_worthOf_20 2 rfl
theorem dX1_worthOf_3 : decode cX1_worthOf 3 = .ok (.istore_n 3, 1) := dall dgX1_worthOf_20 3 rfl
theorem dX1_worthOf_4 : decode cX1_worthOf 4 = .ok (.iload_n 3, 1) := dall dgX1_worthOf_20 4 rfl
theorem dX1_worthOf_5 : decode cX1_worthOf 5 = .ok (.aload_n 0, 1) := dall dgX1_worthOf_20 5 rfl
theorem dX1_worthOf_6 : decode cX1_worthOf 6 = .ok (.getfield 35, 3) := dall dgX1_worthOf_20 6 rfl
theorem dX1_worthOf_9 : decode cX1_worthOf 9 = .ok (.if_icmp .ge 61, 3) := dall dgX1_worthOf_20 7 rfl
theorem dX1_worthOf_12 : decode cX1_worthOf 12 = .ok (.iload_n 3, 1) := dall dgX1_worthOf_20 8 rfl
theorem dX1_worthOf_13 : decode cX1_worthOf 13 = .ok (.iconst 1, 1) := dall dgX1_worthOf_20 9 rfl
theorem dX1_worthOf_14 : decode cX1_worthOf 14 = .ok (.iadd, 1) := dall dgX1_worthOf_20 10 rfl
theorem dX1_worthOf_15 : decode cX1_worthOf 15 = .ok (.istore 4, 2) := dall dgX1_worthOf_20 11 rfl
theorem dX1_worthOf_17 : decode cX1_worthOf 17 = .ok (.iload 4, 2) := dall dgX1_worthOf_20 12 rfl
theorem dX1_worthOf_19 : decode cX1_worthOf 19 = .ok (.aload_n 0, 1) := dall dgX1_worthOf_20 13 rfl
theorem dX1_worthOf_20 : decode cX1_worthOf 20 = .ok (.getfield 35, 3) := dall dgX1_worthOf_20 14 rfl
theorem dX1_worthOf_23 : decode cX1_worthOf 23 = .ok (.if_icmp .ge 41, 3) := dall dgX1_worthOf_20 15 rfl
theorem dX1_worthOf_26 : decode cX1_worthOf 26 = .ok (.iload_n 2, 1) := dall dgX1_worthOf_20 16 rfl
theorem dX1_worthOf_27 : decode cX1_worthOf 27 = .ok (.aload_n 1, 1) := dall dgX1_worthOf_20 17 rfl
theorem dX1_worthOf_28 : decode cX1_worthOf 28 = .ok (.getfield 48, 3) := dall dgX1_worthOf_20 18 rfl
theorem dX1_worthOf_31 : decode cX1_worthOf 31 = .ok (.iload_n 3, 1) := dall dgX1_worthOf_20 19 rfl
theorem dX1_worthOf_32 : decode cX1_worthOf 32 = .ok (.iaload, 1) := dall dgX1_worthOf_20 20 rfl
theorem dX1_worthOf_33 : decode cX1_worthOf 33 = .ok (.aload_n 1, 1) := dall dgX1_worthOf_20 21 rfl
theorem dX1_worthOf_34 : decode cX1_worthOf 34 = .ok (.getfield 48, 3) := dall dgX1_worthOf_20 22 rfl
theorem dX1_worthOf_37 : decode cX1_worthOf 37 = .ok (.iload 4, 2) := dall dgX1_worthOf_20 23 rfl
theorem dX1_worthOf_39 : decode cX1_worthOf 39 = .ok (.iaload, 1) := dall dgX1_worthOf_20 24 rfl
theorem dX1_worthOf_40 : decode cX1_worthOf 40 = .ok (.if_icmp .ne 15, 3) := dall dgX1_worthOf_20 25 rfl
theorem dX1_worthOf_43 : decode cX1_worthOf 43 = .ok (.aload_n 0, 1) := dall dgX1_worthOf_20 26 rfl
theorem dX1_worthOf_44 : decode cX1_worthOf 44 = .ok (.getfield 11, 3) := dall dgX1_worthOf_20 27 rfl
theorem dX1_worthOf_47 : decode cX1_worthOf 47 = .ok (.iload_n 3, 1) := dall dgX1_worthOf_20 28 rfl
theorem dX1_worthOf_48 : decode cX1_worthOf 48 = .ok (.aaload, 1) := dall dgX1_worthOf_20 29 rfl
theorem dX1_worthOf_49 : decode cX1_worthOf 49 = .ok (.iload 4, 2) := dall dgX1_worthOf_20 30 rfl
theorem dX1_worthOf_51 : decode cX1_worthOf 51 = .ok (.iaload, 1) := dall dgX1_worthOf_20 31 rfl
theorem dX1_worthOf_52 : decode cX1_worthOf 52 = .ok (.goto 4, 3) := dall dgX1_worthOf_20 32 rfl
theorem dX1_worthOf_55 : decode cX1_worthOf 55 = .ok (.iconst 0, 1) := dall dgX1_worthOf_20 33 rfl
theorem dX1_worthOf_56 : decode cX1_worthOf 56 = .ok (.iadd, 1) := dall dgX1_worthOf_20 34 rfl
theorem dX1_worthOf_57 : decode cX1_worthOf 57 = .ok (.istore_n 2, 1) := dall dgX1_worthOf_20 35 rfl
theorem dX1_worthOf_58 : decode cX1_worthOf 58 = .ok (.iinc 4 1, 3) := dall dgX1_worthOf_20 36 rfl
theorem dX1_worthOf_61 : decode cX1_worthOf 61 = .ok (.goto (-44), 3) := dall dgX1_worthOf_20 37 rfl
theorem dX1_worthOf_64 : decode cX1_worthOf 64 = .ok (.iinc 3 1, 3) := dall dgX1_worthOf_20 38 rfl
theorem dX1_worthOf_67 : decode cX1_worthOf 67 = .ok (.goto (-63), 3) := dall dgX1_worthOf_20 39 rfl
theorem dX1_worthOf_70 : decode cX1_worthOf 70 = .ok (.iload_n 2, 1) := dall dgX1_worthOf_20 40 rfl
theorem dX1_worthOf_71 : decode cX1_worthOf 71 = .ok (.ireturn, 1) := dall dgX1_worthOf_20 41 rfl
def lgX2_init_21 : List (Nat × Instr × Nat) := [(0, .aload_n 0, 1), (1, .invokespecial 3, 3), (4, .aload_n 0, 1), (5, .bipush 48, 2), (7, .newarray .int, 2), (9, .putfield 9, 3), (12, .aload_n 0, 1), (13, .bipush 48, 2), (15, .newarray .int, 2), (17, .putfield 15, 3), (20, .aload_n 0, 1), (21, .bipush 48, 2), (23, .newarray .int, 2), (25, .putfield 18, 3), (28, .aload_n 0, 1), (29, .sipush 192, 3), (32, .newarray .int, 2), (34, .putfield 21, 3), (37, .aload_n 0, 1), (38, .bipush 48, 2), (40, .newarray .int, 2), (42, .putfield 24, 3), (45, .aload_n 0, 1), (46, .bipush 48, 2), (48, .newarray .int, 2), (50, .putfield 27, 3), (53, .aload_n 0, 1), (54, .bipush 49, 2), (56, .newarray .int, 2), (58, .putfield 30, 3), (61, .aload_n 0, 1), (62, .bipush 48, 2), (64, .newarray .int, 2), (66, .putfield 33, 3), (69, .return_, 1)]
theorem dgX2_init_21 : ∀ q ∈ lgX2_init_21, decode cX2_init q.1 = .ok (q.2.1, q.2.2) := by decide +kernel
theorem dX2_init_0 : decode cX2_init 0 = .ok (.aload_n 0, 1) := dall dgX2_init_21 0 rfl
theorem dX2_init_1 : decode cX2_init 1 = .ok (.invokespecial 3, 3) := dall dgX2_init_21 1 rfl
theorem dX2_init_4 : decode cX2_init 4 = .ok (.aload_n 0, 1) := dall dgX2_init_21 2 rfl
theorem dX2_init_5 : decode cX2_init 5 = .ok (.bipush 48, 2) := dall dgX2_init_21 3 rfl
theorem dX2_init_7 : decode cX2_init 7 = .ok (.newarray .int, 2) := dall dgX2_init_21 4 rfl
theorem dX2_init_9 : decode cX2_init 9 = .ok (.putfield 9, 3) := dall dgX2_init_21 5 rfl
theorem dX2_init_12 : decode cX2_init 12 = .ok (.aload_n 0, 1) := dall dgX2_init_21 6 rfl
theorem dX2_init_13 : decode cX2_init 13 = .ok (.bipush 48, 2) := dall dgX2_init_21 7 rfl
theorem dX2_init_15 : decode cX2_init 15 = .ok (.newarray .int, 2) := dall dgX2_init_21 8 rfl
theorem dX2_init_17 : decode cX2_init 17 = .ok (.putfield 15, 3) := dall dgX2_init_21 9 rfl
theorem dX2_init_20 : decode cX2_init 20 = .ok (.aload_n 0, 1) := dall dgX2_init_21 10 rfl
theorem dX2_init_21 : decode cX2_init 21 = .ok (.bipush 48, 2) := dall dgX2_init_21 11 rfl
theorem dX2_init_23 : decode cX2_init 23 = .ok (.newarray .int, 2) := dall dgX2_init_21 12 rfl
theorem dX2_init_25 : decode cX2_init 25 = .ok (.putfield 18, 3) := dall dgX2_init_21 13 rfl
theorem dX2_init_28 : decode cX2_init 28 = .ok (.aload_n 0, 1) := dall dgX2_init_21 14 rfl
theorem dX2_init_29 : decode cX2_init 29 = .ok (.sipush 192, 3) := dall dgX2_init_21 15 rfl
theorem dX2_init_32 : decode cX2_init 32 = .ok (.newarray .int, 2) := dall dgX2_init_21 16 rfl
theorem dX2_init_34 : decode cX2_init 34 = .ok (.putfield 21, 3) := dall dgX2_init_21 17 rfl
theorem dX2_init_37 : decode cX2_init 37 = .ok (.aload_n 0, 1) := dall dgX2_init_21 18 rfl
theorem dX2_init_38 : decode cX2_init 38 = .ok (.bipush 48, 2) := dall dgX2_init_21 19 rfl
theorem dX2_init_40 : decode cX2_init 40 = .ok (.newarray .int, 2) := dall dgX2_init_21 20 rfl
theorem dX2_init_42 : decode cX2_init 42 = .ok (.putfield 24, 3) := dall dgX2_init_21 21 rfl
theorem dX2_init_45 : decode cX2_init 45 = .ok (.aload_n 0, 1) := dall dgX2_init_21 22 rfl
theorem dX2_init_46 : decode cX2_init 46 = .ok (.bipush 48, 2) := dall dgX2_init_21 23 rfl
theorem dX2_init_48 : decode cX2_init 48 = .ok (.newarray .int, 2) := dall dgX2_init_21 24 rfl
theorem dX2_init_50 : decode cX2_init 50 = .ok (.putfield 27, 3) := dall dgX2_init_21 25 rfl
theorem dX2_init_53 : decode cX2_init 53 = .ok (.aload_n 0, 1) := dall dgX2_init_21 26 rfl
theorem dX2_init_54 : decode cX2_init 54 = .ok (.bipush 49, 2) := dall dgX2_init_21 27 rfl
theorem dX2_init_56 : decode cX2_init 56 = .ok (.newarray .int, 2) := dall dgX2_init_21 28 rfl
theorem dX2_init_58 : decode cX2_init 58 = .ok (.putfield 30, 3) := dall dgX2_init_21 29 rfl
theorem dX2_init_61 : decode cX2_init 61 = .ok (.aload_n 0, 1) := dall dgX2_init_21 30 rfl
theorem dX2_init_62 : decode cX2_init 62 = .ok (.bipush 48, 2) := dall dgX2_init_21 31 rfl
theorem dX2_init_64 : decode cX2_init 64 = .ok (.newarray .int, 2) := dall dgX2_init_21 32 rfl
theorem dX2_init_66 : decode cX2_init 66 = .ok (.putfield 33, 3) := dall dgX2_init_21 33 rfl
theorem dX2_init_69 : decode cX2_init 69 = .ok (.return_, 1) := dall dgX2_init_21 34 rfl
def lgX2_cut_22 : List (Nat × Instr × Nat) := [(0, .aload_n 0, 1), (1, .iconst 0, 1), (2, .putfield 36, 3), (5, .aload_n 0, 1), (6, .iconst 0, 1), (7, .putfield 40, 3), (10, .aload_n 0, 1), (11, .iconst 0, 1), (12, .putfield 43, 3), (15, .aload_n 0, 1), (16, .iconst 0, 1), (17, .putfield 46, 3), (20, .aload_n 0, 1), (21, .getfield 27, 3), (24, .bipush (-9), 2), (26, .invokestatic 49, 3), (29, .iconst 0, 1), (30, .istore 5, 2), (32, .iload 5, 2), (34, .aload_n 1, 1), (35, .getfield 55, 3), (38, .if_icmp .ge 110, 3), (41, .iload 5, 2), (43, .istore 6, 2), (45, .iload 6, 2), (47, .aload_n 1, 1), (48, .getfield 55, 3), (51, .if_icmp .ge 20, 3), (54, .aload_n 1, 1), (55, .iload 6, 2), (57, .iload 4, 2), (59, .invokevirtual 60, 3), (62, .ifCond .eq 9, 3), (65, .iinc 6 1, 3), (68, .goto (-23), 3), (71, .iload 6, 2), (73, .iload 5, 2), (75, .if_icmp .le 64, 3), (78, .aload_n 0, 1), (79, .aload_n 1, 1), (80, .aload_n 2, 1), (81, .iload_n 3, 1), (82, .iload 5, 2), (84, .iload 6, 2), (86, .invokevirtual 64, 3), (89, .aload_n 0, 1), (90, .aload_n 1, 1), (91, .aload_n 2, 1), (92, .iload 5, 2), (94, .iload 6, 2)]
theorem dgX2_cut_22 : ∀ q ∈ lgX2_cut_22, decode cX2_cut q.1 = .ok (q.2.1, q.2.2) := by decide +kernel
theorem dX2_cut_0 : decode cX2_cut 0 = .ok (.aload_n 0, 1) := dall dgX2_cut_22 0 rfl
theorem dX2_cut_1 : decode cX2_cut 1 = .ok (.iconst 0, 1) := dall dgX2_cut_22 1 rfl
theorem dX2_cut_2 : decode cX2_cut 2 = .ok (.putfield 36, 3) := dall dgX2_cut_22 2 rfl
theorem dX2_cut_5 : decode cX2_cut 5 = .ok (.aload_n 0, 1) := dall dgX2_cut_22 3 rfl
theorem dX2_cut_6 : decode cX2_cut 6 = .ok (.iconst 0, 1) := dall dgX2_cut_22 4 rfl
theorem dX2_cut_7 : decode cX2_cut 7 = .ok (.putfield 40, 3) := dall dgX2_cut_22 5 rfl
theorem dX2_cut_10 : decode cX2_cut 10 = .ok (.aload_n 0, 1) := dall dgX2_cut_22 6 rfl
theorem dX2_cut_11 : decode cX2_cut 11 = .ok (.iconst 0, 1) := dall dgX2_cut_22 7 rfl
theorem dX2_cut_12 : decode cX2_cut 12 = .ok (.putfield 43, 3) := dall dgX2_cut_22 8 rfl
theorem dX2_cut_15 : decode cX2_cut 15 = .ok (.aload_n 0, 1) := dall dgX2_cut_22 9 rfl
theorem dX2_cut_16 : decode cX2_cut 16 = .ok (.iconst 0, 1) := dall dgX2_cut_22 10 rfl
theorem dX2_cut_17 : decode cX2_cut 17 = .ok (.putfield 46, 3) := dall dgX2_cut_22 11 rfl
theorem dX2_cut_20 : decode cX2_cut 20 = .ok (.aload_n 0, 1) := dall dgX2_cut_22 12 rfl
theorem dX2_cut_21 : decode cX2_cut 21 = .ok (.getfield 27, 3) := dall dgX2_cut_22 13 rfl
theorem dX2_cut_24 : decode cX2_cut 24 = .ok (.bipush (-9), 2) := dall dgX2_cut_22 14 rfl
theorem dX2_cut_26 : decode cX2_cut 26 = .ok (.invokestatic 49, 3) := dall dgX2_cut_22 15 rfl
theorem dX2_cut_29 : decode cX2_cut 29 = .ok (.iconst 0, 1) := dall dgX2_cut_22 16 rfl
theorem dX2_cut_30 : decode cX2_cut 30 = .ok (.istore 5, 2) := dall dgX2_cut_22 17 rfl
theorem dX2_cut_32 : decode cX2_cut 32 = .ok (.iload 5, 2) := dall dgX2_cut_22 18 rfl
theorem dX2_cut_34 : decode cX2_cut 34 = .ok (.aload_n 1, 1) := dall dgX2_cut_22 19 rfl
theorem dX2_cut_35 : decode cX2_cut 35 = .ok (.getfield 55, 3) := dall dgX2_cut_22 20 rfl
theorem dX2_cut_38 : decode cX2_cut 38 = .ok (.if_icmp .ge 110, 3) := dall dgX2_cut_22 21 rfl
theorem dX2_cut_41 : decode cX2_cut 41 = .ok (.iload 5, 2) := dall dgX2_cut_22 22 rfl
theorem dX2_cut_43 : decode cX2_cut 43 = .ok (.istore 6, 2) := dall dgX2_cut_22 23 rfl
theorem dX2_cut_45 : decode cX2_cut 45 = .ok (.iload 6, 2) := dall dgX2_cut_22 24 rfl
theorem dX2_cut_47 : decode cX2_cut 47 = .ok (.aload_n 1, 1) := dall dgX2_cut_22 25 rfl
theorem dX2_cut_48 : decode cX2_cut 48 = .ok (.getfield 55, 3) := dall dgX2_cut_22 26 rfl
theorem dX2_cut_51 : decode cX2_cut 51 = .ok (.if_icmp .ge 20, 3) := dall dgX2_cut_22 27 rfl
theorem dX2_cut_54 : decode cX2_cut 54 = .ok (.aload_n 1, 1) := dall dgX2_cut_22 28 rfl
theorem dX2_cut_55 : decode cX2_cut 55 = .ok (.iload 6, 2) := dall dgX2_cut_22 29 rfl
theorem dX2_cut_57 : decode cX2_cut 57 = .ok (.iload 4, 2) := dall dgX2_cut_22 30 rfl
theorem dX2_cut_59 : decode cX2_cut 59 = .ok (.invokevirtual 60, 3) := dall dgX2_cut_22 31 rfl
theorem dX2_cut_62 : decode cX2_cut 62 = .ok (.ifCond .eq 9, 3) := dall dgX2_cut_22 32 rfl
theorem dX2_cut_65 : decode cX2_cut 65 = .ok (.iinc 6 1, 3) := dall dgX2_cut_22 33 rfl
theorem dX2_cut_68 : decode cX2_cut 68 = .ok (.goto (-23), 3) := dall dgX2_cut_22 34 rfl
theorem dX2_cut_71 : decode cX2_cut 71 = .ok (.iload 6, 2) := dall dgX2_cut_22 35 rfl
theorem dX2_cut_73 : decode cX2_cut 73 = .ok (.iload 5, 2) := dall dgX2_cut_22 36 rfl
theorem dX2_cut_75 : decode cX2_cut 75 = .ok (.if_icmp .le 64, 3) := dall dgX2_cut_22 37 rfl
theorem dX2_cut_78 : decode cX2_cut 78 = .ok (.aload_n 0, 1) := dall dgX2_cut_22 38 rfl
theorem dX2_cut_79 : decode cX2_cut 79 = .ok (.aload_n 1, 1) := dall dgX2_cut_22 39 rfl
theorem dX2_cut_80 : decode cX2_cut 80 = .ok (.aload_n 2, 1) := dall dgX2_cut_22 40 rfl
theorem dX2_cut_81 : decode cX2_cut 81 = .ok (.iload_n 3, 1) := dall dgX2_cut_22 41 rfl
theorem dX2_cut_82 : decode cX2_cut 82 = .ok (.iload 5, 2) := dall dgX2_cut_22 42 rfl
theorem dX2_cut_84 : decode cX2_cut 84 = .ok (.iload 6, 2) := dall dgX2_cut_22 43 rfl
theorem dX2_cut_86 : decode cX2_cut 86 = .ok (.invokevirtual 64, 3) := dall dgX2_cut_22 44 rfl
theorem dX2_cut_89 : decode cX2_cut 89 = .ok (.aload_n 0, 1) := dall dgX2_cut_22 45 rfl
theorem dX2_cut_90 : decode cX2_cut 90 = .ok (.aload_n 1, 1) := dall dgX2_cut_22 46 rfl
theorem dX2_cut_91 : decode cX2_cut 91 = .ok (.aload_n 2, 1) := dall dgX2_cut_22 47 rfl
theorem dX2_cut_92 : decode cX2_cut 92 = .ok (.iload 5, 2) := dall dgX2_cut_22 48 rfl
theorem dX2_cut_94 : decode cX2_cut 94 = .ok (.iload 6, 2) := dall dgX2_cut_22 49 rfl
def lgX2_cut_23 : List (Nat × Instr × Nat) := [(96, .invokevirtual 68, 3), (99, .aload_n 0, 1), (100, .dup, 1), (101, .getfield 43, 3), (104, .aload_n 0, 1), (105, .getfield 30, 3), (108, .iload 5, 2), (110, .iaload, 1), (111, .iadd, 1), (112, .putfield 43, 3), (115, .aload_n 0, 1), (116, .dup, 1), (117, .getfield 46, 3), (120, .iload 6, 2), (122, .iload 5, 2), (124, .isub, 1), (125, .iadd, 1), (126, .putfield 46, 3), (129, .aload_n 0, 1), (130, .dup, 1), (131, .getfield 40, 3), (134, .iconst 1, 1), (135, .iadd, 1), (136, .putfield 40, 3), (139, .iload 6, 2), (141, .iconst 1, 1), (142, .iadd, 1), (143, .istore 5, 2), (145, .goto (-113), 3), (148, .return_, 1)]
theorem dgX2_cut_23 : ∀ q ∈ lgX2_cut_23, decode cX2_cut q.1 = .ok (q.2.1, q.2.2) := by decide +kernel
theorem dX2_cut_96 : decode cX2_cut 96 = .ok (.invokevirtual 68, 3) := dall dgX2_cut_23 0 rfl
theorem dX2_cut_99 : decode cX2_cut 99 = .ok (.aload_n 0, 1) := dall dgX2_cut_23 1 rfl
theorem dX2_cut_100 : decode cX2_cut 100 = .ok (.dup, 1) := dall dgX2_cut_23 2 rfl
theorem dX2_cut_101 : decode cX2_cut 101 = .ok (.getfield 43, 3) := dall dgX2_cut_23 3 rfl
theorem dX2_cut_104 : decode cX2_cut 104 = .ok (.aload_n 0, 1) := dall dgX2_cut_23 4 rfl
theorem dX2_cut_105 : decode cX2_cut 105 = .ok (.getfield 30, 3) := dall dgX2_cut_23 5 rfl
theorem dX2_cut_108 : decode cX2_cut 108 = .ok (.iload 5, 2) := dall dgX2_cut_23 6 rfl
theorem dX2_cut_110 : decode cX2_cut 110 = .ok (.iaload, 1) := dall dgX2_cut_23 7 rfl
theorem dX2_cut_111 : decode cX2_cut 111 = .ok (.iadd, 1) := dall dgX2_cut_23 8 rfl
theorem dX2_cut_112 : decode cX2_cut 112 = .ok (.putfield 43, 3) := dall dgX2_cut_23 9 rfl
theorem dX2_cut_115 : decode cX2_cut 115 = .ok (.aload_n 0, 1) := dall dgX2_cut_23 10 rfl
theorem dX2_cut_116 : decode cX2_cut 116 = .ok (.dup, 1) := dall dgX2_cut_23 11 rfl
theorem dX2_cut_117 : decode cX2_cut 117 = .ok (.getfield 46, 3) := dall dgX2_cut_23 12 rfl
theorem dX2_cut_120 : decode cX2_cut 120 = .ok (.iload 6, 2) := dall dgX2_cut_23 13 rfl
theorem dX2_cut_122 : decode cX2_cut 122 = .ok (.iload 5, 2) := dall dgX2_cut_23 14 rfl
theorem dX2_cut_124 : decode cX2_cut 124 = .ok (.isub, 1) := dall dgX2_cut_23 15 rfl
theorem dX2_cut_125 : decode cX2_cut 125 = .ok (.iadd, 1) := dall dgX2_cut_23 16 rfl
theorem dX2_cut_126 : decode cX2_cut 126 = .ok (.putfield 46, 3) := dall dgX2_cut_23 17 rfl
theorem dX2_cut_129 : decode cX2_cut 129 = .ok (.aload_n 0, 1) := dall dgX2_cut_23 18 rfl
theorem dX2_cut_130 : decode cX2_cut 130 = .ok (.dup, 1) := dall dgX2_cut_23 19 rfl
theorem dX2_cut_131 : decode cX2_cut 131 = .ok (.getfield 40, 3) := dall dgX2_cut_23 20 rfl
theorem dX2_cut_134 : decode cX2_cut 134 = .ok (.iconst 1, 1) := dall dgX2_cut_23 21 rfl
theorem dX2_cut_135 : decode cX2_cut 135 = .ok (.iadd, 1) := dall dgX2_cut_23 22 rfl
theorem dX2_cut_136 : decode cX2_cut 136 = .ok (.putfield 40, 3) := dall dgX2_cut_23 23 rfl
theorem dX2_cut_139 : decode cX2_cut 139 = .ok (.iload 6, 2) := dall dgX2_cut_23 24 rfl
theorem dX2_cut_141 : decode cX2_cut 141 = .ok (.iconst 1, 1) := dall dgX2_cut_23 25 rfl
theorem dX2_cut_142 : decode cX2_cut 142 = .ok (.iadd, 1) := dall dgX2_cut_23 26 rfl
theorem dX2_cut_143 : decode cX2_cut 143 = .ok (.istore 5, 2) := dall dgX2_cut_23 27 rfl
theorem dX2_cut_145 : decode cX2_cut 145 = .ok (.goto (-113), 3) := dall dgX2_cut_23 28 rfl
theorem dX2_cut_148 : decode cX2_cut 148 = .ok (.return_, 1) := dall dgX2_cut_23 29 rfl
def lgX2_findCosts_24 : List (Nat × Instr × Nat) := [(0, .aload_n 0, 1), (1, .getfield 30, 3), (4, .iload 5, 2), (6, .iconst 0, 1), (7, .iastore, 1), (8, .iload 5, 2), (10, .iconst 1, 1), (11, .isub, 1), (12, .istore 6, 2), (14, .iload 6, 2), (16, .iload 4, 2), (18, .if_icmp .lt 99, 3), (21, .aload_n 2, 1), (22, .invokevirtual 72, 3), (25, .aload_n 0, 1), (26, .getfield 30, 3), (29, .iload 6, 2), (31, .ldc 77, 2), (33, .iastore, 1), (34, .iload 6, 2), (36, .istore 7, 2), (38, .iload 7, 2), (40, .iload 5, 2), (42, .if_icmp .ge 69, 3), (45, .aload_n 2, 1), (46, .aload_n 1, 1), (47, .iload 7, 2), (49, .invokevirtual 78, 3), (52, .aload_n 2, 1), (53, .getfield 82, 3), (56, .iload_n 3, 1), (57, .iadd, 1), (58, .aload_n 0, 1), (59, .getfield 30, 3), (62, .iload 7, 2), (64, .iconst 1, 1), (65, .iadd, 1), (66, .iaload, 1), (67, .iadd, 1), (68, .istore 8, 2), (70, .iload 8, 2), (72, .aload_n 0, 1), (73, .getfield 30, 3), (76, .iload 6, 2), (78, .iaload, 1), (79, .if_icmp .gt 26, 3), (82, .aload_n 0, 1), (83, .getfield 30, 3), (86, .iload 6, 2), (88, .iload 8, 2)]
theorem dgX2_findCosts_24 : ∀ q ∈ lgX2_findCosts_24, decode cX2_findCosts q.1 = .ok (q.2.1, q.2.2) := by decide +kernel
theorem dX2_findCosts_0 : decode cX2_findCosts 0 = .ok (.aload_n 0, 1) := dall dgX2_findCosts_24 0 rfl
theorem dX2_findCosts_1 : decode cX2_findCosts 1 = .ok (.getfield 30, 3) := dall dgX2_findCosts_24 1 rfl
theorem dX2_findCosts_4 : decode cX2_findCosts 4 = .ok (.iload 5, 2) := dall dgX2_findCosts_24 2 rfl
theorem dX2_findCosts_6 : decode cX2_findCosts 6 = .ok (.iconst 0, 1) := dall dgX2_findCosts_24 3 rfl
theorem dX2_findCosts_7 : decode cX2_findCosts 7 = .ok (.iastore, 1) := dall dgX2_findCosts_24 4 rfl
theorem dX2_findCosts_8 : decode cX2_findCosts 8 = .ok (.iload 5, 2) := dall dgX2_findCosts_24 5 rfl
theorem dX2_findCosts_10 : decode cX2_findCosts 10 = .ok (.iconst 1, 1) := dall dgX2_findCosts_24 6 rfl
theorem dX2_findCosts_11 : decode cX2_findCosts 11 = .ok (.isub, 1) := dall dgX2_findCosts_24 7 rfl
theorem dX2_findCosts_12 : decode cX2_findCosts 12 = .ok (.istore 6, 2) := dall dgX2_findCosts_24 8 rfl
theorem dX2_findCosts_14 : decode cX2_findCosts 14 = .ok (.iload 6, 2) := dall dgX2_findCosts_24 9 rfl
theorem dX2_findCosts_16 : decode cX2_findCosts 16 = .ok (.iload 4, 2) := dall dgX2_findCosts_24 10 rfl
theorem dX2_findCosts_18 : decode cX2_findCosts 18 = .ok (.if_icmp .lt 99, 3) := dall dgX2_findCosts_24 11 rfl
theorem dX2_findCosts_21 : decode cX2_findCosts 21 = .ok (.aload_n 2, 1) := dall dgX2_findCosts_24 12 rfl
theorem dX2_findCosts_22 : decode cX2_findCosts 22 = .ok (.invokevirtual 72, 3) := dall dgX2_findCosts_24 13 rfl
theorem dX2_findCosts_25 : decode cX2_findCosts 25 = .ok (.aload_n 0, 1) := dall dgX2_findCosts_24 14 rfl
theorem dX2_findCosts_26 : decode cX2_findCosts 26 = .ok (.getfield 30, 3) := dall dgX2_findCosts_24 15 rfl
theorem dX2_findCosts_29 : decode cX2_findCosts 29 = .ok (.iload 6, 2) := dall dgX2_findCosts_24 16 rfl
theorem dX2_findCosts_31 : decode cX2_findCosts 31 = .ok (.ldc 77, 2) := dall dgX2_findCosts_24 17 rfl
theorem dX2_findCosts_33 : decode cX2_findCosts 33 = .ok (.iastore, 1) := dall dgX2_findCosts_24 18 rfl
theorem dX2_findCosts_34 : decode cX2_findCosts 34 = .ok (.iload 6, 2) := dall dgX2_findCosts_24 19 rfl
theorem dX2_findCosts_36 : decode cX2_findCosts 36 = .ok (.istore 7, 2) := dall dgX2_findCosts_24 20 rfl
theorem dX2_findCosts_38 : decode cX2_findCosts 38 = .ok (.iload 7, 2) := dall dgX2_findCosts_24 21 rfl
theorem dX2_findCosts_40 : decode cX2_findCosts 40 = .ok (.iload 5, 2) := dall dgX2_findCosts_24 22 rfl
theorem dX2_findCosts_42 : decode cX2_findCosts 42 = .ok (.if_icmp .ge 69, 3) := dall dgX2_findCosts_24 23 rfl
theorem dX2_findCosts_45 : decode cX2_findCosts 45 = .ok (.aload_n 2, 1) := dall dgX2_findCosts_24 24 rfl
theorem dX2_findCosts_46 : decode cX2_findCosts 46 = .ok (.aload_n 1, 1) := dall dgX2_findCosts_24 25 rfl
theorem dX2_findCosts_47 : decode cX2_findCosts 47 = .ok (.iload 7, 2) := dall dgX2_findCosts_24 26 rfl
theorem dX2_findCosts_49 : decode cX2_findCosts 49 = .ok (.invokevirtual 78, 3) := dall dgX2_findCosts_24 27 rfl
theorem dX2_findCosts_52 : decode cX2_findCosts 52 = .ok (.aload_n 2, 1) := dall dgX2_findCosts_24 28 rfl
theorem dX2_findCosts_53 : decode cX2_findCosts 53 = .ok (.getfield 82, 3) := dall dgX2_findCosts_24 29 rfl
theorem dX2_findCosts_56 : decode cX2_findCosts 56 = .ok (.iload_n 3, 1) := dall dgX2_findCosts_24 30 rfl
theorem dX2_findCosts_57 : decode cX2_findCosts 57 = .ok (.iadd, 1) := dall dgX2_findCosts_24 31 rfl
theorem dX2_findCosts_58 : decode cX2_findCosts 58 = .ok (.aload_n 0, 1) := dall dgX2_findCosts_24 32 rfl
theorem dX2_findCosts_59 : decode cX2_findCosts 59 = .ok (.getfield 30, 3) := dall dgX2_findCosts_24 33 rfl
theorem dX2_findCosts_62 : decode cX2_findCosts 62 = .ok (.iload 7, 2) := dall dgX2_findCosts_24 34 rfl
theorem dX2_findCosts_64 : decode cX2_findCosts 64 = .ok (.iconst 1, 1) := dall dgX2_findCosts_24 35 rfl
theorem dX2_findCosts_65 : decode cX2_findCosts 65 = .ok (.iadd, 1) := dall dgX2_findCosts_24 36 rfl
theorem dX2_findCosts_66 : decode cX2_findCosts 66 = .ok (.iaload, 1) := dall dgX2_findCosts_24 37 rfl
theorem dX2_findCosts_67 : decode cX2_findCosts 67 = .ok (.iadd, 1) := dall dgX2_findCosts_24 38 rfl
theorem dX2_findCosts_68 : decode cX2_findCosts 68 = .ok (.istore 8, 2) := dall dgX2_findCosts_24 39 rfl
theorem dX2_findCosts_70 : decode cX2_findCosts 70 = .ok (.iload 8, 2) := dall dgX2_findCosts_24 40 rfl
theorem dX2_findCosts_72 : decode cX2_findCosts 72 = .ok (.aload_n 0, 1) := dall dgX2_findCosts_24 41 rfl
theorem dX2_findCosts_73 : decode cX2_findCosts 73 = .ok (.getfield 30, 3) := dall dgX2_findCosts_24 42 rfl
theorem dX2_findCosts_76 : decode cX2_findCosts 76 = .ok (.iload 6, 2) := dall dgX2_findCosts_24 43 rfl
theorem dX2_findCosts_78 : decode cX2_findCosts 78 = .ok (.iaload, 1) := dall dgX2_findCosts_24 44 rfl
theorem dX2_findCosts_79 : decode cX2_findCosts 79 = .ok (.if_icmp .gt 26, 3) := dall dgX2_findCosts_24 45 rfl
theorem dX2_findCosts_82 : decode cX2_findCosts 82 = .ok (.aload_n 0, 1) := dall dgX2_findCosts_24 46 rfl
theorem dX2_findCosts_83 : decode cX2_findCosts 83 = .ok (.getfield 30, 3) := dall dgX2_findCosts_24 47 rfl
theorem dX2_findCosts_86 : decode cX2_findCosts 86 = .ok (.iload 6, 2) := dall dgX2_findCosts_24 48 rfl
theorem dX2_findCosts_88 : decode cX2_findCosts 88 = .ok (.iload 8, 2) := dall dgX2_findCosts_24 49 rfl
def lgX2_findCosts_25 : List (Nat × Instr × Nat) := [(90, .iastore, 1), (91, .aload_n 0, 1), (92, .getfield 33, 3), (95, .iload 6, 2), (97, .iload 7, 2), (99, .iload 6, 2), (101, .isub, 1), (102, .iconst 1, 1), (103, .iadd, 1), (104, .iastore, 1), (105, .iinc 7 1, 3), (108, .goto (-70), 3), (111, .iinc 6 (-1), 3), (114, .goto (-100), 3), (117, .return_, 1)]
theorem dgX2_findCosts_25 : ∀ q ∈ lgX2_findCosts_25, decode cX2_findCosts q.1 = .ok (q.2.1, q.2.2) := by decide +kernel
theorem dX2_findCosts_90 : decode cX2_findCosts 90 = .ok (.iastore, 1) := dall dgX2_findCosts_25 0 rfl
theorem dX2_findCosts_91 : decode cX2_findCosts 91 = .ok (.aload_n 0, 1) := dall dgX2_findCosts_25 1 rfl
theorem dX2_findCosts_92 : decode cX2_findCosts 92 = .ok (.getfield 33, 3) := dall dgX2_findCosts_25 2 rfl
theorem dX2_findCosts_95 : decode cX2_findCosts 95 = .ok (.iload 6, 2) := dall dgX2_findCosts_25 3 rfl
theorem dX2_findCosts_97 : decode cX2_findCosts 97 = .ok (.iload 7, 2) := dall dgX2_findCosts_25 4 rfl
theorem dX2_findCosts_99 : decode cX2_findCosts 99 = .ok (.iload 6, 2) := dall dgX2_findCosts_25 5 rfl
theorem dX2_findCosts_101 : decode cX2_findCosts 101 = .ok (.isub, 1) := dall dgX2_findCosts_25 6 rfl
theorem dX2_findCosts_102 : decode cX2_findCosts 102 = .ok (.iconst 1, 1) := dall dgX2_findCosts_25 7 rfl
theorem dX2_findCosts_103 : decode cX2_findCosts 103 = .ok (.iadd, 1) := dall dgX2_findCosts_25 8 rfl
theorem dX2_findCosts_104 : decode cX2_findCosts 104 = .ok (.iastore, 1) := dall dgX2_findCosts_25 9 rfl
theorem dX2_findCosts_105 : decode cX2_findCosts 105 = .ok (.iinc 7 1, 3) := dall dgX2_findCosts_25 10 rfl
theorem dX2_findCosts_108 : decode cX2_findCosts 108 = .ok (.goto (-70), 3) := dall dgX2_findCosts_25 11 rfl
theorem dX2_findCosts_111 : decode cX2_findCosts 111 = .ok (.iinc 6 (-1), 3) := dall dgX2_findCosts_25 12 rfl
theorem dX2_findCosts_114 : decode cX2_findCosts 114 = .ok (.goto (-100), 3) := dall dgX2_findCosts_25 13 rfl
theorem dX2_findCosts_117 : decode cX2_findCosts 117 = .ok (.return_, 1) := dall dgX2_findCosts_25 14 rfl
def lgX2_addPieces_26 : List (Nat × Instr × Nat) := [(0, .iload_n 3, 1), (1, .istore 5, 2), (3, .iload 5, 2), (5, .iload 4, 2), (7, .if_icmp .ge 154, 3), (10, .aload_n 0, 1), (11, .getfield 36, 3), (14, .bipush 48, 2), (16, .if_icmp .ge 145, 3), (19, .iload 4, 2), (21, .iload 5, 2), (23, .iconst 1, 1), (24, .aload_n 0, 1), (25, .getfield 33, 3), (28, .iload 5, 2), (30, .iaload, 1), (31, .invokestatic 84, 3), (34, .iadd, 1), (35, .invokestatic 90, 3), (38, .istore 6, 2), (40, .aload_n 2, 1), (41, .invokevirtual 72, 3), (44, .iload 5, 2), (46, .istore 7, 2), (48, .iload 7, 2), (50, .iload 6, 2), (52, .if_icmp .ge 27, 3), (55, .aload_n 2, 1), (56, .aload_n 1, 1), (57, .iload 7, 2), (59, .invokevirtual 78, 3), (62, .aload_n 0, 1), (63, .getfield 27, 3), (66, .iload 7, 2), (68, .aload_n 0, 1), (69, .getfield 36, 3), (72, .iastore, 1), (73, .iinc 7 1, 3), (76, .goto (-28), 3), (79, .aload_n 0, 1), (80, .getfield 9, 3), (83, .aload_n 0, 1), (84, .getfield 36, 3), (87, .iload 5, 2), (89, .iastore, 1), (90, .aload_n 0, 1), (91, .getfield 15, 3), (94, .aload_n 0, 1), (95, .getfield 36, 3), (98, .iload 6, 2)]
theorem dgX2_addPieces_26 : ∀ q ∈ lgX2_addPieces_26, decode cX2_addPieces q.1 = .ok (q.2.1, q.2.2) := by decide +kernel
theorem dX2_addPieces_0 : decode cX2_addPieces 0 = .ok (.iload_n 3, 1) := dall dgX2_addPieces_26 0 rfl
theorem dX2_addPieces_1 : decode cX2_addPieces 1 = .ok (.istore 5, 2) := dall dgX2_addPieces_26 1 rfl
theorem dX2_addPieces_3 : decode cX2_addPieces 3 = .ok (.iload 5, 2) := dall dgX2_addPieces_26 2 rfl
theorem dX2_addPieces_5 : decode cX2_addPieces 5 = .ok (.iload 4, 2) := dall dgX2_addPieces_26 3 rfl
theorem dX2_addPieces_7 : decode cX2_addPieces 7 = .ok (.if_icmp .ge 154, 3) := dall dgX2_addPieces_26 4 rfl
theorem dX2_addPieces_10 : decode cX2_addPieces 10 = .ok (.aload_n 0, 1) := dall dgX2_addPieces_26 5 rfl
theorem dX2_addPieces_11 : decode cX2_addPieces 11 = .ok (.getfield 36, 3) := dall dgX2_addPieces_26 6 rfl
theorem dX2_addPieces_14 : decode cX2_addPieces 14 = .ok (.bipush 48, 2) := dall dgX2_addPieces_26 7 rfl
theorem dX2_addPieces_16 : decode cX2_addPieces 16 = .ok (.if_icmp .ge 145, 3) := dall dgX2_addPieces_26 8 rfl
theorem dX2_addPieces_19 : decode cX2_addPieces 19 = .ok (.iload 4, 2) := dall dgX2_addPieces_26 9 rfl
theorem dX2_addPieces_21 : decode cX2_addPieces 21 = .ok (.iload 5, 2) := dall dgX2_addPieces_26 10 rfl
theorem dX2_addPieces_23 : decode cX2_addPieces 23 = .ok (.iconst 1, 1) := dall dgX2_addPieces_26 11 rfl
theorem dX2_addPieces_24 : decode cX2_addPieces 24 = .ok (.aload_n 0, 1) := dall dgX2_addPieces_26 12 rfl
theorem dX2_addPieces_25 : decode cX2_addPieces 25 = .ok (.getfield 33, 3) := dall dgX2_addPieces_26 13 rfl
theorem dX2_addPieces_28 : decode cX2_addPieces 28 = .ok (.iload 5, 2) := dall dgX2_addPieces_26 14 rfl
theorem dX2_addPieces_30 : decode cX2_addPieces 30 = .ok (.iaload, 1) := dall dgX2_addPieces_26 15 rfl
theorem dX2_addPieces_31 : decode cX2_addPieces 31 = .ok (.invokestatic 84, 3) := dall dgX2_addPieces_26 16 rfl
theorem dX2_addPieces_34 : decode cX2_addPieces 34 = .ok (.iadd, 1) := dall dgX2_addPieces_26 17 rfl
theorem dX2_addPieces_35 : decode cX2_addPieces 35 = .ok (.invokestatic 90, 3) := dall dgX2_addPieces_26 18 rfl
theorem dX2_addPieces_38 : decode cX2_addPieces 38 = .ok (.istore 6, 2) := dall dgX2_addPieces_26 19 rfl
theorem dX2_addPieces_40 : decode cX2_addPieces 40 = .ok (.aload_n 2, 1) := dall dgX2_addPieces_26 20 rfl
theorem dX2_addPieces_41 : decode cX2_addPieces 41 = .ok (.invokevirtual 72, 3) := dall dgX2_addPieces_26 21 rfl
theorem dX2_addPieces_44 : decode cX2_addPieces 44 = .ok (.iload 5, 2) := dall dgX2_addPieces_26 22 rfl
theorem dX2_addPieces_46 : decode cX2_addPieces 46 = .ok (.istore 7, 2) := dall dgX2_addPieces_26 23 rfl
theorem dX2_addPieces_48 : decode cX2_addPieces 48 = .ok (.iload 7, 2) := dall dgX2_addPieces_26 24 rfl
theorem dX2_addPieces_50 : decode cX2_addPieces 50 = .ok (.iload 6, 2) := dall dgX2_addPieces_26 25 rfl
theorem dX2_addPieces_52 : decode cX2_addPieces 52 = .ok (.if_icmp .ge 27, 3) := dall dgX2_addPieces_26 26 rfl
theorem dX2_addPieces_55 : decode cX2_addPieces 55 = .ok (.aload_n 2, 1) := dall dgX2_addPieces_26 27 rfl
theorem dX2_addPieces_56 : decode cX2_addPieces 56 = .ok (.aload_n 1, 1) := dall dgX2_addPieces_26 28 rfl
theorem dX2_addPieces_57 : decode cX2_addPieces 57 = .ok (.iload 7, 2) := dall dgX2_addPieces_26 29 rfl
theorem dX2_addPieces_59 : decode cX2_addPieces 59 = .ok (.invokevirtual 78, 3) := dall dgX2_addPieces_26 30 rfl
theorem dX2_addPieces_62 : decode cX2_addPieces 62 = .ok (.aload_n 0, 1) := dall dgX2_addPieces_26 31 rfl
theorem dX2_addPieces_63 : decode cX2_addPieces 63 = .ok (.getfield 27, 3) := dall dgX2_addPieces_26 32 rfl
theorem dX2_addPieces_66 : decode cX2_addPieces 66 = .ok (.iload 7, 2) := dall dgX2_addPieces_26 33 rfl
theorem dX2_addPieces_68 : decode cX2_addPieces 68 = .ok (.aload_n 0, 1) := dall dgX2_addPieces_26 34 rfl
theorem dX2_addPieces_69 : decode cX2_addPieces 69 = .ok (.getfield 36, 3) := dall dgX2_addPieces_26 35 rfl
theorem dX2_addPieces_72 : decode cX2_addPieces 72 = .ok (.iastore, 1) := dall dgX2_addPieces_26 36 rfl
theorem dX2_addPieces_73 : decode cX2_addPieces 73 = .ok (.iinc 7 1, 3) := dall dgX2_addPieces_26 37 rfl
theorem dX2_addPieces_76 : decode cX2_addPieces 76 = .ok (.goto (-28), 3) := dall dgX2_addPieces_26 38 rfl
theorem dX2_addPieces_79 : decode cX2_addPieces 79 = .ok (.aload_n 0, 1) := dall dgX2_addPieces_26 39 rfl
theorem dX2_addPieces_80 : decode cX2_addPieces 80 = .ok (.getfield 9, 3) := dall dgX2_addPieces_26 40 rfl
theorem dX2_addPieces_83 : decode cX2_addPieces 83 = .ok (.aload_n 0, 1) := dall dgX2_addPieces_26 41 rfl
theorem dX2_addPieces_84 : decode cX2_addPieces 84 = .ok (.getfield 36, 3) := dall dgX2_addPieces_26 42 rfl
theorem dX2_addPieces_87 : decode cX2_addPieces 87 = .ok (.iload 5, 2) := dall dgX2_addPieces_26 43 rfl
theorem dX2_addPieces_89 : decode cX2_addPieces 89 = .ok (.iastore, 1) := dall dgX2_addPieces_26 44 rfl
theorem dX2_addPieces_90 : decode cX2_addPieces 90 = .ok (.aload_n 0, 1) := dall dgX2_addPieces_26 45 rfl
theorem dX2_addPieces_91 : decode cX2_addPieces 91 = .ok (.getfield 15, 3) := dall dgX2_addPieces_26 46 rfl
theorem dX2_addPieces_94 : decode cX2_addPieces 94 = .ok (.aload_n 0, 1) := dall dgX2_addPieces_26 47 rfl
theorem dX2_addPieces_95 : decode cX2_addPieces 95 = .ok (.getfield 36, 3) := dall dgX2_addPieces_26 48 rfl
theorem dX2_addPieces_98 : decode cX2_addPieces 98 = .ok (.iload 6, 2) := dall dgX2_addPieces_26 49 rfl
def lgX2_addPieces_27 : List (Nat × Instr × Nat) := [(100, .iload 5, 2), (102, .isub, 1), (103, .iastore, 1), (104, .aload_n 0, 1), (105, .getfield 18, 3), (108, .aload_n 0, 1), (109, .getfield 36, 3), (112, .aload_n 2, 1), (113, .getfield 82, 3), (116, .iastore, 1), (117, .aload_n 0, 1), (118, .getfield 24, 3), (121, .aload_n 0, 1), (122, .getfield 36, 3), (125, .aload_n 0, 1), (126, .getfield 40, 3), (129, .iastore, 1), (130, .aload_n 2, 1), (131, .aload_n 0, 1), (132, .getfield 21, 3), (135, .aload_n 0, 1), (136, .getfield 36, 3), (139, .iconst 4, 1), (140, .imul, 1), (141, .invokevirtual 93, 3), (144, .aload_n 0, 1), (145, .dup, 1), (146, .getfield 36, 3), (149, .iconst 1, 1), (150, .iadd, 1), (151, .putfield 36, 3), (154, .iload 6, 2), (156, .istore 5, 2), (158, .goto (-155), 3), (161, .return_, 1)]
theorem dgX2_addPieces_27 : ∀ q ∈ lgX2_addPieces_27, decode cX2_addPieces q.1 = .ok (q.2.1, q.2.2) := by decide +kernel
theorem dX2_addPieces_100 : decode cX2_addPieces 100 = .ok (.iload 5, 2) := dall dgX2_addPieces_27 0 rfl
theorem dX2_addPieces_102 : decode cX2_addPieces 102 = .ok (.isub, 1) := dall dgX2_addPieces_27 1 rfl
theorem dX2_addPieces_103 : decode cX2_addPieces 103 = .ok (.iastore, 1) := dall dgX2_addPieces_27 2 rfl
theorem dX2_addPieces_104 : decode cX2_addPieces 104 = .ok (.aload_n 0, 1) := dall dgX2_addPieces_27 3 rfl
theorem dX2_addPieces_105 : decode cX2_addPieces 105 = .ok (.getfield 18, 3) := dall dgX2_addPieces_27 4 rfl
theorem dX2_addPieces_108 : decode cX2_addPieces 108 = .ok (.aload_n 0, 1) := dall dgX2_addPieces_27 5 rfl
theorem dX2_addPieces_109 : decode cX2_addPieces 109 = .ok (.getfield 36, 3) := dall dgX2_addPieces_27 6 rfl
theorem dX2_addPieces_112 : decode cX2_addPieces 112 = .ok (.aload_n 2, 1) := dall dgX2_addPieces_27 7 rfl
theorem dX2_addPieces_113 : decode cX2_addPieces 113 = .ok (.getfield 82, 3) := dall dgX2_addPieces_27 8 rfl
theorem dX2_addPieces_116 : decode cX2_addPieces 116 = .ok (.iastore, 1) := dall dgX2_addPieces_27 9 rfl
theorem dX2_addPieces_117 : decode cX2_addPieces 117 = .ok (.aload_n 0, 1) := dall dgX2_addPieces_27 10 rfl
theorem dX2_addPieces_118 : decode cX2_addPieces 118 = .ok (.getfield 24, 3) := dall dgX2_addPieces_27 11 rfl
theorem dX2_addPieces_121 : decode cX2_addPieces 121 = .ok (.aload_n 0, 1) := dall dgX2_addPieces_27 12 rfl
theorem dX2_addPieces_122 : decode cX2_addPieces 122 = .ok (.getfield 36, 3) := dall dgX2_addPieces_27 13 rfl
theorem dX2_addPieces_125 : decode cX2_addPieces 125 = .ok (.aload_n 0, 1) := dall dgX2_addPieces_27 14 rfl
theorem dX2_addPieces_126 : decode cX2_addPieces 126 = .ok (.getfield 40, 3) := dall dgX2_addPieces_27 15 rfl
theorem dX2_addPieces_129 : decode cX2_addPieces 129 = .ok (.iastore, 1) := dall dgX2_addPieces_27 16 rfl
theorem dX2_addPieces_130 : decode cX2_addPieces 130 = .ok (.aload_n 2, 1) := dall dgX2_addPieces_27 17 rfl
theorem dX2_addPieces_131 : decode cX2_addPieces 131 = .ok (.aload_n 0, 1) := dall dgX2_addPieces_27 18 rfl
theorem dX2_addPieces_132 : decode cX2_addPieces 132 = .ok (.getfield 21, 3) := dall dgX2_addPieces_27 19 rfl
theorem dX2_addPieces_135 : decode cX2_addPieces 135 = .ok (.aload_n 0, 1) := dall dgX2_addPieces_27 20 rfl
theorem dX2_addPieces_136 : decode cX2_addPieces 136 = .ok (.getfield 36, 3) := dall dgX2_addPieces_27 21 rfl
theorem dX2_addPieces_139 : decode cX2_addPieces 139 = .ok (.iconst 4, 1) := dall dgX2_addPieces_27 22 rfl
theorem dX2_addPieces_140 : decode cX2_addPieces 140 = .ok (.imul, 1) := dall dgX2_addPieces_27 23 rfl
theorem dX2_addPieces_141 : decode cX2_addPieces 141 = .ok (.invokevirtual 93, 3) := dall dgX2_addPieces_27 24 rfl
theorem dX2_addPieces_144 : decode cX2_addPieces 144 = .ok (.aload_n 0, 1) := dall dgX2_addPieces_27 25 rfl
theorem dX2_addPieces_145 : decode cX2_addPieces 145 = .ok (.dup, 1) := dall dgX2_addPieces_27 26 rfl
theorem dX2_addPieces_146 : decode cX2_addPieces 146 = .ok (.getfield 36, 3) := dall dgX2_addPieces_27 27 rfl
theorem dX2_addPieces_149 : decode cX2_addPieces 149 = .ok (.iconst 1, 1) := dall dgX2_addPieces_27 28 rfl
theorem dX2_addPieces_150 : decode cX2_addPieces 150 = .ok (.iadd, 1) := dall dgX2_addPieces_27 29 rfl
theorem dX2_addPieces_151 : decode cX2_addPieces 151 = .ok (.putfield 36, 3) := dall dgX2_addPieces_27 30 rfl
theorem dX2_addPieces_154 : decode cX2_addPieces 154 = .ok (.iload 6, 2) := dall dgX2_addPieces_27 31 rfl
theorem dX2_addPieces_156 : decode cX2_addPieces 156 = .ok (.istore 5, 2) := dall dgX2_addPieces_27 32 rfl
theorem dX2_addPieces_158 : decode cX2_addPieces 158 = .ok (.goto (-155), 3) := dall dgX2_addPieces_27 33 rfl
theorem dX2_addPieces_161 : decode cX2_addPieces 161 = .ok (.return_, 1) := dall dgX2_addPieces_27 34 rfl
def lgX2_middleOf_28 : List (Nat × Instr × Nat) := [(0, .iload_n 1, 1), (1, .ifCond .lt 33, 3), (4, .iload_n 1, 1), (5, .aload_n 0, 1), (6, .getfield 36, 3), (9, .if_icmp .ge 25, 3), (12, .iload_n 2, 1), (13, .ifCond .lt 21, 3), (16, .iload_n 2, 1), (17, .iconst 4, 1), (18, .if_icmp .ge 16, 3), (21, .aload_n 0, 1), (22, .getfield 21, 3), (25, .iload_n 1, 1), (26, .iconst 4, 1), (27, .imul, 1), (28, .iload_n 2, 1), (29, .iadd, 1), (30, .iaload, 1), (31, .goto 4, 3), (34, .iconst 0, 1), (35, .ireturn, 1)]
theorem dgX2_middleOf_28 : ∀ q ∈ lgX2_middleOf_28, decode cX2_middleOf q.1 = .ok (q.2.1, q.2.2) := by decide +kernel
theorem dX2_middleOf_0 : decode cX2_middleOf 0 = .ok (.iload_n 1, 1) := dall dgX2_middleOf_28 0 rfl
theorem dX2_middleOf_1 : decode cX2_middleOf 1 = .ok (.ifCond .lt 33, 3) := dall dgX2_middleOf_28 1 rfl
theorem dX2_middleOf_4 : decode cX2_middleOf 4 = .ok (.iload_n 1, 1) := dall dgX2_middleOf_28 2 rfl
theorem dX2_middleOf_5 : decode cX2_middleOf 5 = .ok (.aload_n 0, 1) := dall dgX2_middleOf_28 3 rfl
theorem dX2_middleOf_6 : decode cX2_middleOf 6 = .ok (.getfield 36, 3) := dall dgX2_middleOf_28 4 rfl
theorem dX2_middleOf_9 : decode cX2_middleOf 9 = .ok (.if_icmp .ge 25, 3) := dall dgX2_middleOf_28 5 rfl
theorem dX2_middleOf_12 : decode cX2_middleOf 12 = .ok (.iload_n 2, 1) := dall dgX2_middleOf_28 6 rfl
theorem dX2_middleOf_13 : decode cX2_middleOf 13 = .ok (.ifCond .lt 21, 3) := dall dgX2_middleOf_28 7 rfl
theorem dX2_middleOf_16 : decode cX2_middleOf 16 = .ok (.iload_n 2, 1) := dall dgX2_middleOf_28 8 rfl
theorem dX2_middleOf_17 : decode cX2_middleOf 17 = .ok (.iconst 4, 1) := dall dgX2_middleOf_28 9 rfl
theorem dX2_middleOf_18 : decode cX2_middleOf 18 = .ok (.if_icmp .ge 16, 3) := dall dgX2_middleOf_28 10 rfl
theorem dX2_middleOf_21 : decode cX2_middleOf 21 = .ok (.aload_n 0, 1) := dall dgX2_middleOf_28 11 rfl
theorem dX2_middleOf_22 : decode cX2_middleOf 22 = .ok (.getfield 21, 3) := dall dgX2_middleOf_28 12 rfl
theorem dX2_middleOf_25 : decode cX2_middleOf 25 = .ok (.iload_n 1, 1) := dall dgX2_middleOf_28 13 rfl
theorem dX2_middleOf_26 : decode cX2_middleOf 26 = .ok (.iconst 4, 1) := dall dgX2_middleOf_28 14 rfl
theorem dX2_middleOf_27 : decode cX2_middleOf 27 = .ok (.imul, 1) := dall dgX2_middleOf_28 15 rfl
theorem dX2_middleOf_28 : decode cX2_middleOf 28 = .ok (.iload_n 2, 1) := dall dgX2_middleOf_28 16 rfl
theorem dX2_middleOf_29 : decode cX2_middleOf 29 = .ok (.iadd, 1) := dall dgX2_middleOf_28 17 rfl
theorem dX2_middleOf_30 : decode cX2_middleOf 30 = .ok (.iaload, 1) := dall dgX2_middleOf_28 18 rfl
theorem dX2_middleOf_31 : decode cX2_middleOf 31 = .ok (.goto 4, 3) := dall dgX2_middleOf_28 19 rfl
theorem dX2_middleOf_34 : decode cX2_middleOf 34 = .ok (.iconst 0, 1) := dall dgX2_middleOf_28 20 rfl
theorem dX2_middleOf_35 : decode cX2_middleOf 35 = .ok (.ireturn, 1) := dall dgX2_middleOf_28 21 rfl
def lgX2_likeness_29 : List (Nat × Instr × Nat) := [(0, .iload_n 3, 1), (1, .aload_n 0, 1), (2, .getfield 21, 3), (5, .iload_n 1, 1), (6, .iconst 4, 1), (7, .imul, 1), (8, .aload_n 0, 1), (9, .getfield 21, 3), (12, .iload_n 2, 1), (13, .iconst 4, 1), (14, .imul, 1), (15, .invokestatic 96, 3), (18, .isub, 1), (19, .aload_n 0, 1), (20, .getfield 15, 3), (23, .iload_n 1, 1), (24, .iaload, 1), (25, .aload_n 0, 1), (26, .getfield 15, 3), (29, .iload_n 2, 1), (30, .iaload, 1), (31, .invokestatic 90, 3), (34, .imul, 1), (35, .ireturn, 1)]
theorem dgX2_likeness_29 : ∀ q ∈ lgX2_likeness_29, decode cX2_likeness q.1 = .ok (q.2.1, q.2.2) := by decide +kernel
theorem dX2_likeness_0 : decode cX2_likeness 0 = .ok (.iload_n 3, 1) := dall dgX2_likeness_29 0 rfl
theorem dX2_likeness_1 : decode cX2_likeness 1 = .ok (.aload_n 0, 1) := dall dgX2_likeness_29 1 rfl
theorem dX2_likeness_2 : decode cX2_likeness 2 = .ok (.getfield 21, 3) := dall dgX2_likeness_29 2 rfl
theorem dX2_likeness_5 : decode cX2_likeness 5 = .ok (.iload_n 1, 1) := dall dgX2_likeness_29 3 rfl
theorem dX2_likeness_6 : decode cX2_likeness 6 = .ok (.iconst 4, 1) := dall dgX2_likeness_29 4 rfl
theorem dX2_likeness_7 : decode cX2_likeness 7 = .ok (.imul, 1) := dall dgX2_likeness_29 5 rfl
theorem dX2_likeness_8 : decode cX2_likeness 8 = .ok (.aload_n 0, 1) := dall dgX2_likeness_29 6 rfl
theorem dX2_likeness_9 : decode cX2_likeness 9 = .ok (.getfield 21, 3) := dall dgX2_likeness_29 7 rfl
theorem dX2_likeness_12 : decode cX2_likeness 12 = .ok (.iload_n 2, 1) := dall dgX2_likeness_29 8 rfl
theorem dX2_likeness_13 : decode cX2_likeness 13 = .ok (.iconst 4, 1) := dall dgX2_likeness_29 9 rfl
theorem dX2_likeness_14 : decode cX2_likeness 14 = .ok (.imul, 1) := dall dgX2_likeness_29 10 rfl
theorem dX2_likeness_15 : decode cX2_likeness 15 = .ok (.invokestatic 96, 3) := dall dgX2_likeness_29 11 rfl
theorem dX2_likeness_18 : decode cX2_likeness 18 = .ok (.isub, 1) := dall dgX2_likeness_29 12 rfl
theorem dX2_likeness_19 : decode cX2_likeness 19 = .ok (.aload_n 0, 1) := dall dgX2_likeness_29 13 rfl
theorem dX2_likeness_20 : decode cX2_likeness 20 = .ok (.getfield 15, 3) := dall dgX2_likeness_29 14 rfl
theorem dX2_likeness_23 : decode cX2_likeness 23 = .ok (.iload_n 1, 1) := dall dgX2_likeness_29 15 rfl
theorem dX2_likeness_24 : decode cX2_likeness 24 = .ok (.iaload, 1) := dall dgX2_likeness_29 16 rfl
theorem dX2_likeness_25 : decode cX2_likeness 25 = .ok (.aload_n 0, 1) := dall dgX2_likeness_29 17 rfl
theorem dX2_likeness_26 : decode cX2_likeness 26 = .ok (.getfield 15, 3) := dall dgX2_likeness_29 18 rfl
theorem dX2_likeness_29 : decode cX2_likeness 29 = .ok (.iload_n 2, 1) := dall dgX2_likeness_29 19 rfl
theorem dX2_likeness_30 : decode cX2_likeness 30 = .ok (.iaload, 1) := dall dgX2_likeness_29 20 rfl
theorem dX2_likeness_31 : decode cX2_likeness 31 = .ok (.invokestatic 90, 3) := dall dgX2_likeness_29 21 rfl
theorem dX2_likeness_34 : decode cX2_likeness 34 = .ok (.imul, 1) := dall dgX2_likeness_29 22 rfl
theorem dX2_likeness_35 : decode cX2_likeness 35 = .ok (.ireturn, 1) := dall dgX2_likeness_29 23 rfl
def lgX2_doTouch_30 : List (Nat × Instr × Nat) := [(0, .iload_n 1, 1), (1, .iload_n 2, 1), (2, .isub, 1), (3, .invokestatic 100, 3), (6, .iconst 1, 1), (7, .if_icmp .ne 22, 3), (10, .aload_n 0, 1), (11, .getfield 24, 3), (14, .iload_n 1, 1), (15, .iaload, 1), (16, .aload_n 0, 1), (17, .getfield 24, 3), (20, .iload_n 2, 1), (21, .iaload, 1), (22, .if_icmp .ne 7, 3), (25, .iconst 1, 1), (26, .goto 4, 3), (29, .iconst 0, 1), (30, .ireturn, 1)]
theorem dgX2_doTouch_30 : ∀ q ∈ lgX2_doTouch_30, decode cX2_doTouch q.1 = .ok (q.2.1, q.2.2) := by decide +kernel
theorem dX2_doTouch_0 : decode cX2_doTouch 0 = .ok (.iload_n 1, 1) := dall dgX2_doTouch_30 0 rfl
theorem dX2_doTouch_1 : decode cX2_doTouch 1 = .ok (.iload_n 2, 1) := dall dgX2_doTouch_30 1 rfl
theorem dX2_doTouch_2 : decode cX2_doTouch 2 = .ok (.isub, 1) := dall dgX2_doTouch_30 2 rfl
theorem dX2_doTouch_3 : decode cX2_doTouch 3 = .ok (.invokestatic 100, 3) := dall dgX2_doTouch_30 3 rfl
theorem dX2_doTouch_6 : decode cX2_doTouch 6 = .ok (.iconst 1, 1) := dall dgX2_doTouch_30 4 rfl
theorem dX2_doTouch_7 : decode cX2_doTouch 7 = .ok (.if_icmp .ne 22, 3) := dall dgX2_doTouch_30 5 rfl
theorem dX2_doTouch_10 : decode cX2_doTouch 10 = .ok (.aload_n 0, 1) := dall dgX2_doTouch_30 6 rfl
theorem dX2_doTouch_11 : decode cX2_doTouch 11 = .ok (.getfield 24, 3) := dall dgX2_doTouch_30 7 rfl
theorem dX2_doTouch_14 : decode cX2_doTouch 14 = .ok (.iload_n 1, 1) := dall dgX2_doTouch_30 8 rfl
theorem dX2_doTouch_15 : decode cX2_doTouch 15 = .ok (.iaload, 1) := dall dgX2_doTouch_30 9 rfl
theorem dX2_doTouch_16 : decode cX2_doTouch 16 = .ok (.aload_n 0, 1) := dall dgX2_doTouch_30 10 rfl
theorem dX2_doTouch_17 : decode cX2_doTouch 17 = .ok (.getfield 24, 3) := dall dgX2_doTouch_30 11 rfl
theorem dX2_doTouch_20 : decode cX2_doTouch 20 = .ok (.iload_n 2, 1) := dall dgX2_doTouch_30 12 rfl
theorem dX2_doTouch_21 : decode cX2_doTouch 21 = .ok (.iaload, 1) := dall dgX2_doTouch_30 13 rfl
theorem dX2_doTouch_22 : decode cX2_doTouch 22 = .ok (.if_icmp .ne 7, 3) := dall dgX2_doTouch_30 14 rfl
theorem dX2_doTouch_25 : decode cX2_doTouch 25 = .ok (.iconst 1, 1) := dall dgX2_doTouch_30 15 rfl
theorem dX2_doTouch_26 : decode cX2_doTouch 26 = .ok (.goto 4, 3) := dall dgX2_doTouch_30 16 rfl
theorem dX2_doTouch_29 : decode cX2_doTouch 29 = .ok (.iconst 0, 1) := dall dgX2_doTouch_30 17 rfl
theorem dX2_doTouch_30 : decode cX2_doTouch 30 = .ok (.ireturn, 1) := dall dgX2_doTouch_30 18 rfl
def lgX3_init_31 : List (Nat × Instr × Nat) := [(0, .aload_n 0, 1), (1, .invokespecial 3, 3), (4, .aload_n 0, 1), (5, .iconst 4, 1), (6, .bipush 48, 2), (8, .multianewarray 9 2, 4), (12, .putfield 11, 3), (15, .return_, 1)]
theorem dgX3_init_31 : ∀ q ∈ lgX3_init_31, decode cX3_init q.1 = .ok (q.2.1, q.2.2) := by decide +kernel
theorem dX3_init_0 : decode cX3_init 0 = .ok (.aload_n 0, 1) := dall dgX3_init_31 0 rfl
theorem dX3_init_1 : decode cX3_init 1 = .ok (.invokespecial 3, 3) := dall dgX3_init_31 1 rfl
theorem dX3_init_4 : decode cX3_init 4 = .ok (.aload_n 0, 1) := dall dgX3_init_31 2 rfl
theorem dX3_init_5 : decode cX3_init 5 = .ok (.iconst 4, 1) := dall dgX3_init_31 3 rfl
theorem dX3_init_6 : decode cX3_init 6 = .ok (.bipush 48, 2) := dall dgX3_init_31 4 rfl
theorem dX3_init_8 : decode cX3_init 8 = .ok (.multianewarray 9 2, 4) := dall dgX3_init_31 5 rfl
theorem dX3_init_12 : decode cX3_init 12 = .ok (.putfield 11, 3) := dall dgX3_init_31 6 rfl
theorem dX3_init_15 : decode cX3_init 15 = .ok (.return_, 1) := dall dgX3_init_31 7 rfl
def lgX3_empty_32 : List (Nat × Instr × Nat) := [(0, .aload_n 0, 1), (1, .iconst 0, 1), (2, .putfield 16, 3), (5, .aload_n 0, 1), (6, .iconst 0, 1), (7, .putfield 20, 3), (10, .return_, 1)]
theorem dgX3_empty_32 : ∀ q ∈ lgX3_empty_32, decode cX3_empty q.1 = .ok (q.2.1, q.2.2) := by decide +kernel
theorem dX3_empty_0 : decode cX3_empty 0 = .ok (.aload_n 0, 1) := dall dgX3_empty_32 0 rfl
theorem dX3_empty_1 : decode cX3_empty 1 = .ok (.iconst 0, 1) := dall dgX3_empty_32 1 rfl
theorem dX3_empty_2 : decode cX3_empty 2 = .ok (.putfield 16, 3) := dall dgX3_empty_32 2 rfl
theorem dX3_empty_5 : decode cX3_empty 5 = .ok (.aload_n 0, 1) := dall dgX3_empty_32 3 rfl
theorem dX3_empty_6 : decode cX3_empty 6 = .ok (.iconst 0, 1) := dall dgX3_empty_32 4 rfl
theorem dX3_empty_7 : decode cX3_empty 7 = .ok (.putfield 20, 3) := dall dgX3_empty_32 5 rfl
theorem dX3_empty_10 : decode cX3_empty 10 = .ok (.return_, 1) := dall dgX3_empty_32 6 rfl
def lgX3_take_33 : List (Nat × Instr × Nat) := [(0, .aload_n 0, 1), (1, .getfield 16, 3), (4, .bipush 48, 2), (6, .if_icmp .ge 13, 3), (9, .iload_n 2, 1), (10, .ifCond .lt 9, 3), (13, .iload_n 2, 1), (14, .bipush 48, 2), (16, .if_icmp .lt 4, 3), (19, .return_, 1), (20, .iconst 0, 1), (21, .istore_n 3, 1), (22, .iload_n 3, 1), (23, .iconst 4, 1), (24, .if_icmp .ge 126, 3), (27, .aload_n 0, 1), (28, .getfield 11, 3), (31, .iload_n 3, 1), (32, .aaload, 1), (33, .astore 4, 2), (35, .aload_n 1, 1), (36, .getfield 23, 3), (39, .iload_n 2, 1), (40, .iconst 4, 1), (41, .imul, 1), (42, .iload_n 3, 1), (43, .iadd, 1), (44, .iaload, 1), (45, .istore 5, 2), (47, .aload_n 0, 1), (48, .getfield 16, 3), (51, .ifCond .le 45, 3), (54, .aload_n 0, 1), (55, .dup, 1), (56, .getfield 20, 3), (59, .iconst 0, 1), (60, .aload 4, 2), (62, .aload_n 0, 1), (63, .getfield 16, 3), (66, .iconst 1, 1), (67, .isub, 1), (68, .iconst 2, 1), (69, .idiv, 1), (70, .iaload, 1), (71, .iload 5, 2), (73, .isub, 1), (74, .iload 5, 2), (76, .aload 4, 2), (78, .aload_n 0, 1), (79, .getfield 16, 3)]
theorem dgX3_take_33 : ∀ q ∈ lgX3_take_33, decode cX3_take q.1 = .ok (q.2.1, q.2.2) := by decide +kernel
theorem dX3_take_0 : decode cX3_take 0 = .ok (.aload_n 0, 1) := dall dgX3_take_33 0 rfl
theorem dX3_take_1 : decode cX3_take 1 = .ok (.getfield 16, 3) := dall dgX3_take_33 1 rfl
theorem dX3_take_4 : decode cX3_take 4 = .ok (.bipush 48, 2) := dall dgX3_take_33 2 rfl
theorem dX3_take_6 : decode cX3_take 6 = .ok (.if_icmp .ge 13, 3) := dall dgX3_take_33 3 rfl
theorem dX3_take_9 : decode cX3_take 9 = .ok (.iload_n 2, 1) := dall dgX3_take_33 4 rfl
theorem dX3_take_10 : decode cX3_take 10 = .ok (.ifCond .lt 9, 3) := dall dgX3_take_33 5 rfl
theorem dX3_take_13 : decode cX3_take 13 = .ok (.iload_n 2, 1) := dall dgX3_take_33 6 rfl
theorem dX3_take_14 : decode cX3_take 14 = .ok (.bipush 48, 2) := dall dgX3_take_33 7 rfl
theorem dX3_take_16 : decode cX3_take 16 = .ok (.if_icmp .lt 4, 3) := dall dgX3_take_33 8 rfl
theorem dX3_take_19 : decode cX3_take 19 = .ok (.return_, 1) := dall dgX3_take_33 9 rfl
theorem dX3_take_20 : decode cX3_take 20 = .ok (.iconst 0, 1) := dall dgX3_take_33 10 rfl
theorem dX3_take_21 : decode cX3_take 21 = .ok (.istore_n 3, 1) := dall dgX3_take_33 11 rfl
theorem dX3_take_22 : decode cX3_take 22 = .ok (.iload_n 3, 1) := dall dgX3_take_33 12 rfl
theorem dX3_take_23 : decode cX3_take 23 = .ok (.iconst 4, 1) := dall dgX3_take_33 13 rfl
theorem dX3_take_24 : decode cX3_take 24 = .ok (.if_icmp .ge 126, 3) := dall dgX3_take_33 14 rfl
theorem dX3_take_27 : decode cX3_take 27 = .ok (.aload_n 0, 1) := dall dgX3_take_33 15 rfl
theorem dX3_take_28 : decode cX3_take 28 = .ok (.getfield 11, 3) := dall dgX3_take_33 16 rfl
theorem dX3_take_31 : decode cX3_take 31 = .ok (.iload_n 3, 1) := dall dgX3_take_33 17 rfl
theorem dX3_take_32 : decode cX3_take 32 = .ok (.aaload, 1) := dall dgX3_take_33 18 rfl
theorem dX3_take_33 : decode cX3_take 33 = .ok (.astore 4, 2) := dall dgX3_take_33 19 rfl
theorem dX3_take_35 : decode cX3_take 35 = .ok (.aload_n 1, 1) := dall dgX3_take_33 20 rfl
theorem dX3_take_36 : decode cX3_take 36 = .ok (.getfield 23, 3) := dall dgX3_take_33 21 rfl
theorem dX3_take_39 : decode cX3_take 39 = .ok (.iload_n 2, 1) := dall dgX3_take_33 22 rfl
theorem dX3_take_40 : decode cX3_take 40 = .ok (.iconst 4, 1) := dall dgX3_take_33 23 rfl
theorem dX3_take_41 : decode cX3_take 41 = .ok (.imul, 1) := dall dgX3_take_33 24 rfl
theorem dX3_take_42 : decode cX3_take 42 = .ok (.iload_n 3, 1) := dall dgX3_take_33 25 rfl
theorem dX3_take_43 : decode cX3_take 43 = .ok (.iadd, 1) := dall dgX3_take_33 26 rfl
theorem dX3_take_44 : decode cX3_take 44 = .ok (.iaload, 1) := dall dgX3_take_33 27 rfl
theorem dX3_take_45 : decode cX3_take 45 = .ok (.istore 5, 2) := dall dgX3_take_33 28 rfl
theorem dX3_take_47 : decode cX3_take 47 = .ok (.aload_n 0, 1) := dall dgX3_take_33 29 rfl
theorem dX3_take_48 : decode cX3_take 48 = .ok (.getfield 16, 3) := dall dgX3_take_33 30 rfl
theorem dX3_take_51 : decode cX3_take 51 = .ok (.ifCond .le 45, 3) := dall dgX3_take_33 31 rfl
theorem dX3_take_54 : decode cX3_take 54 = .ok (.aload_n 0, 1) := dall dgX3_take_33 32 rfl
theorem dX3_take_55 : decode cX3_take 55 = .ok (.dup, 1) := dall dgX3_take_33 33 rfl
theorem dX3_take_56 : decode cX3_take 56 = .ok (.getfield 20, 3) := dall dgX3_take_33 34 rfl
theorem dX3_take_59 : decode cX3_take 59 = .ok (.iconst 0, 1) := dall dgX3_take_33 35 rfl
theorem dX3_take_60 : decode cX3_take 60 = .ok (.aload 4, 2) := dall dgX3_take_33 36 rfl
theorem dX3_take_62 : decode cX3_take 62 = .ok (.aload_n 0, 1) := dall dgX3_take_33 37 rfl
theorem dX3_take_63 : decode cX3_take 63 = .ok (.getfield 16, 3) := dall dgX3_take_33 38 rfl
theorem dX3_take_66 : decode cX3_take 66 = .ok (.iconst 1, 1) := dall dgX3_take_33 39 rfl
theorem dX3_take_67 : decode cX3_take 67 = .ok (.isub, 1) := dall dgX3_take_33 40 rfl
theorem dX3_take_68 : decode cX3_take 68 = .ok (.iconst 2, 1) := dall dgX3_take_33 41 rfl
theorem dX3_take_69 : decode cX3_take 69 = .ok (.idiv, 1) := dall dgX3_take_33 42 rfl
theorem dX3_take_70 : decode cX3_take 70 = .ok (.iaload, 1) := dall dgX3_take_33 43 rfl
theorem dX3_take_71 : decode cX3_take 71 = .ok (.iload 5, 2) := dall dgX3_take_33 44 rfl
theorem dX3_take_73 : decode cX3_take 73 = .ok (.isub, 1) := dall dgX3_take_33 45 rfl
theorem dX3_take_74 : decode cX3_take 74 = .ok (.iload 5, 2) := dall dgX3_take_33 46 rfl
theorem dX3_take_76 : decode cX3_take 76 = .ok (.aload 4, 2) := dall dgX3_take_33 47 rfl
theorem dX3_take_78 : decode cX3_take 78 = .ok (.aload_n 0, 1) := dall dgX3_take_33 48 rfl
theorem dX3_take_79 : decode cX3_take 79 = .ok (.getfield 16, 3) := dall dgX3_take_33 49 rfl
def lgX3_take_34 : List (Nat × Instr × Nat) := [(82, .iconst 2, 1), (83, .idiv, 1), (84, .iaload, 1), (85, .isub, 1), (86, .invokestatic 29, 3), (89, .invokestatic 29, 3), (92, .iadd, 1), (93, .putfield 20, 3), (96, .aload_n 0, 1), (97, .getfield 16, 3), (100, .istore 6, 2), (102, .iload 6, 2), (104, .ifCond .le 33, 3), (107, .aload 4, 2), (109, .iload 6, 2), (111, .iconst 1, 1), (112, .isub, 1), (113, .iaload, 1), (114, .iload 5, 2), (116, .if_icmp .le 21, 3), (119, .aload 4, 2), (121, .iload 6, 2), (123, .aload 4, 2), (125, .iload 6, 2), (127, .iconst 1, 1), (128, .isub, 1), (129, .iaload, 1), (130, .iastore, 1), (131, .iinc 6 (-1), 3), (134, .goto (-32), 3), (137, .aload 4, 2), (139, .iload 6, 2), (141, .iload 5, 2), (143, .iastore, 1), (144, .iinc 3 1, 3), (147, .goto (-125), 3), (150, .aload_n 0, 1), (151, .dup, 1), (152, .getfield 16, 3), (155, .iconst 1, 1), (156, .iadd, 1), (157, .putfield 16, 3), (160, .return_, 1)]
theorem dgX3_take_34 : ∀ q ∈ lgX3_take_34, decode cX3_take q.1 = .ok (q.2.1, q.2.2) := by decide +kernel
theorem dX3_take_82 : decode cX3_take 82 = .ok (.iconst 2, 1) := dall dgX3_take_34 0 rfl
theorem dX3_take_83 : decode cX3_take 83 = .ok (.idiv, 1) := dall dgX3_take_34 1 rfl
theorem dX3_take_84 : decode cX3_take 84 = .ok (.iaload, 1) := dall dgX3_take_34 2 rfl
theorem dX3_take_85 : decode cX3_take 85 = .ok (.isub, 1) := dall dgX3_take_34 3 rfl
theorem dX3_take_86 : decode cX3_take 86 = .ok (.invokestatic 29, 3) := dall dgX3_take_34 4 rfl
theorem dX3_take_89 : decode cX3_take 89 = .ok (.invokestatic 29, 3) := dall dgX3_take_34 5 rfl
theorem dX3_take_92 : decode cX3_take 92 = .ok (.iadd, 1) := dall dgX3_take_34 6 rfl
theorem dX3_take_93 : decode cX3_take 93 = .ok (.putfield 20, 3) := dall dgX3_take_34 7 rfl
theorem dX3_take_96 : decode cX3_take 96 = .ok (.aload_n 0, 1) := dall dgX3_take_34 8 rfl
theorem dX3_take_97 : decode cX3_take 97 = .ok (.getfield 16, 3) := dall dgX3_take_34 9 rfl
theorem dX3_take_100 : decode cX3_take 100 = .ok (.istore 6, 2) := dall dgX3_take_34 10 rfl
theorem dX3_take_102 : decode cX3_take 102 = .ok (.iload 6, 2) := dall dgX3_take_34 11 rfl
theorem dX3_take_104 : decode cX3_take 104 = .ok (.ifCond .le 33, 3) := dall dgX3_take_34 12 rfl
theorem dX3_take_107 : decode cX3_take 107 = .ok (.aload 4, 2) := dall dgX3_take_34 13 rfl
theorem dX3_take_109 : decode cX3_take 109 = .ok (.iload 6, 2) := dall dgX3_take_34 14 rfl
theorem dX3_take_111 : decode cX3_take 111 = .ok (.iconst 1, 1) := dall dgX3_take_34 15 rfl
theorem dX3_take_112 : decode cX3_take 112 = .ok (.isub, 1) := dall dgX3_take_34 16 rfl
theorem dX3_take_113 : decode cX3_take 113 = .ok (.iaload, 1) := dall dgX3_take_34 17 rfl
theorem dX3_take_114 : decode cX3_take 114 = .ok (.iload 5, 2) := dall dgX3_take_34 18 rfl
theorem dX3_take_116 : decode cX3_take 116 = .ok (.if_icmp .le 21, 3) := dall dgX3_take_34 19 rfl
theorem dX3_take_119 : decode cX3_take 119 = .ok (.aload 4, 2) := dall dgX3_take_34 20 rfl
theorem dX3_take_121 : decode cX3_take 121 = .ok (.iload 6, 2) := dall dgX3_take_34 21 rfl
theorem dX3_take_123 : decode cX3_take 123 = .ok (.aload 4, 2) := dall dgX3_take_34 22 rfl
theorem dX3_take_125 : decode cX3_take 125 = .ok (.iload 6, 2) := dall dgX3_take_34 23 rfl
theorem dX3_take_127 : decode cX3_take 127 = .ok (.iconst 1, 1) := dall dgX3_take_34 24 rfl
theorem dX3_take_128 : decode cX3_take 128 = .ok (.isub, 1) := dall dgX3_take_34 25 rfl
theorem dX3_take_129 : decode cX3_take 129 = .ok (.iaload, 1) := dall dgX3_take_34 26 rfl
theorem dX3_take_130 : decode cX3_take 130 = .ok (.iastore, 1) := dall dgX3_take_34 27 rfl
theorem dX3_take_131 : decode cX3_take 131 = .ok (.iinc 6 (-1), 3) := dall dgX3_take_34 28 rfl
theorem dX3_take_134 : decode cX3_take 134 = .ok (.goto (-32), 3) := dall dgX3_take_34 29 rfl
theorem dX3_take_137 : decode cX3_take 137 = .ok (.aload 4, 2) := dall dgX3_take_34 30 rfl
theorem dX3_take_139 : decode cX3_take 139 = .ok (.iload 6, 2) := dall dgX3_take_34 31 rfl
theorem dX3_take_141 : decode cX3_take 141 = .ok (.iload 5, 2) := dall dgX3_take_34 32 rfl
theorem dX3_take_143 : decode cX3_take 143 = .ok (.iastore, 1) := dall dgX3_take_34 33 rfl
theorem dX3_take_144 : decode cX3_take 144 = .ok (.iinc 3 1, 3) := dall dgX3_take_34 34 rfl
theorem dX3_take_147 : decode cX3_take 147 = .ok (.goto (-125), 3) := dall dgX3_take_34 35 rfl
theorem dX3_take_150 : decode cX3_take 150 = .ok (.aload_n 0, 1) := dall dgX3_take_34 36 rfl
theorem dX3_take_151 : decode cX3_take 151 = .ok (.dup, 1) := dall dgX3_take_34 37 rfl
theorem dX3_take_152 : decode cX3_take 152 = .ok (.getfield 16, 3) := dall dgX3_take_34 38 rfl
theorem dX3_take_155 : decode cX3_take 155 = .ok (.iconst 1, 1) := dall dgX3_take_34 39 rfl
theorem dX3_take_156 : decode cX3_take 156 = .ok (.iadd, 1) := dall dgX3_take_34 40 rfl
theorem dX3_take_157 : decode cX3_take 157 = .ok (.putfield 16, 3) := dall dgX3_take_34 41 rfl
theorem dX3_take_160 : decode cX3_take 160 = .ok (.return_, 1) := dall dgX3_take_34 42 rfl
def lgX3_writeMiddle_35 : List (Nat × Instr × Nat) := [(0, .aload_n 0, 1), (1, .getfield 16, 3), (4, .ifCond .eq 15, 3), (7, .iload_n 2, 1), (8, .ifCond .lt 11, 3), (11, .iload_n 2, 1), (12, .aload_n 1, 1), (13, .arraylength, 1), (14, .iconst 4, 1), (15, .isub, 1), (16, .if_icmp .le 4, 3), (19, .return_, 1), (20, .iconst 0, 1), (21, .istore_n 3, 1), (22, .iload_n 3, 1), (23, .iconst 4, 1), (24, .if_icmp .ge 29, 3), (27, .aload_n 1, 1), (28, .iload_n 2, 1), (29, .iload_n 3, 1), (30, .iadd, 1), (31, .aload_n 0, 1), (32, .getfield 11, 3), (35, .iload_n 3, 1), (36, .aaload, 1), (37, .aload_n 0, 1), (38, .getfield 16, 3), (41, .iconst 1, 1), (42, .isub, 1), (43, .iconst 2, 1), (44, .idiv, 1), (45, .iaload, 1), (46, .iastore, 1), (47, .iinc 3 1, 3), (50, .goto (-28), 3), (53, .return_, 1)]
theorem dgX3_writeMiddle_35 : ∀ q ∈ lgX3_writeMiddle_35, decode cX3_writeMiddle q.1 = .ok (q.2.1, q.2.2) := by decide +kernel
theorem dX3_writeMiddle_0 : decode cX3_writeMiddle 0 = .ok (.aload_n 0, 1) := dall dgX3_writeMiddle_35 0 rfl
theorem dX3_writeMiddle_1 : decode cX3_writeMiddle 1 = .ok (.getfield 16, 3) := dall dgX3_writeMiddle_35 1 rfl
theorem dX3_writeMiddle_4 : decode cX3_writeMiddle 4 = .ok (.ifCond .eq 15, 3) := dall dgX3_writeMiddle_35 2 rfl
theorem dX3_writeMiddle_7 : decode cX3_writeMiddle 7 = .ok (.iload_n 2, 1) := dall dgX3_writeMiddle_35 3 rfl
theorem dX3_writeMiddle_8 : decode cX3_writeMiddle 8 = .ok (.ifCond .lt 11, 3) := dall dgX3_writeMiddle_35 4 rfl
theorem dX3_writeMiddle_11 : decode cX3_writeMiddle 11 = .ok (.iload_n 2, 1) := dall dgX3_writeMiddle_35 5 rfl
theorem dX3_writeMiddle_12 : decode cX3_writeMiddle 12 = .ok (.aload_n 1, 1) := dall dgX3_writeMiddle_35 6 rfl
theorem dX3_writeMiddle_13 : decode cX3_writeMiddle 13 = .ok (.arraylength, 1) := dall dgX3_writeMiddle_35 7 rfl
theorem dX3_writeMiddle_14 : decode cX3_writeMiddle 14 = .ok (.iconst 4, 1) := dall dgX3_writeMiddle_35 8 rfl
theorem dX3_writeMiddle_15 : decode cX3_writeMiddle 15 = .ok (.isub, 1) := dall dgX3_writeMiddle_35 9 rfl
theorem dX3_writeMiddle_16 : decode cX3_writeMiddle 16 = .ok (.if_icmp .le 4, 3) := dall dgX3_writeMiddle_35 10 rfl
theorem dX3_writeMiddle_19 : decode cX3_writeMiddle 19 = .ok (.return_, 1) := dall dgX3_writeMiddle_35 11 rfl
theorem dX3_writeMiddle_20 : decode cX3_writeMiddle 20 = .ok (.iconst 0, 1) := dall dgX3_writeMiddle_35 12 rfl
theorem dX3_writeMiddle_21 : decode cX3_writeMiddle 21 = .ok (.istore_n 3, 1) := dall dgX3_writeMiddle_35 13 rfl
theorem dX3_writeMiddle_22 : decode cX3_writeMiddle 22 = .ok (.iload_n 3, 1) := dall dgX3_writeMiddle_35 14 rfl
theorem dX3_writeMiddle_23 : decode cX3_writeMiddle 23 = .ok (.iconst 4, 1) := dall dgX3_writeMiddle_35 15 rfl
theorem dX3_writeMiddle_24 : decode cX3_writeMiddle 24 = .ok (.if_icmp .ge 29, 3) := dall dgX3_writeMiddle_35 16 rfl
theorem dX3_writeMiddle_27 : decode cX3_writeMiddle 27 = .ok (.aload_n 1, 1) := dall dgX3_writeMiddle_35 17 rfl
theorem dX3_writeMiddle_28 : decode cX3_writeMiddle 28 = .ok (.iload_n 2, 1) := dall dgX3_writeMiddle_35 18 rfl
theorem dX3_writeMiddle_29 : decode cX3_writeMiddle 29 = .ok (.iload_n 3, 1) := dall dgX3_writeMiddle_35 19 rfl
theorem dX3_writeMiddle_30 : decode cX3_writeMiddle 30 = .ok (.iadd, 1) := dall dgX3_writeMiddle_35 20 rfl
theorem dX3_writeMiddle_31 : decode cX3_writeMiddle 31 = .ok (.aload_n 0, 1) := dall dgX3_writeMiddle_35 21 rfl
theorem dX3_writeMiddle_32 : decode cX3_writeMiddle 32 = .ok (.getfield 11, 3) := dall dgX3_writeMiddle_35 22 rfl
theorem dX3_writeMiddle_35 : decode cX3_writeMiddle 35 = .ok (.iload_n 3, 1) := dall dgX3_writeMiddle_35 23 rfl
theorem dX3_writeMiddle_36 : decode cX3_writeMiddle 36 = .ok (.aaload, 1) := dall dgX3_writeMiddle_35 24 rfl
theorem dX3_writeMiddle_37 : decode cX3_writeMiddle 37 = .ok (.aload_n 0, 1) := dall dgX3_writeMiddle_35 25 rfl
theorem dX3_writeMiddle_38 : decode cX3_writeMiddle 38 = .ok (.getfield 16, 3) := dall dgX3_writeMiddle_35 26 rfl
theorem dX3_writeMiddle_41 : decode cX3_writeMiddle 41 = .ok (.iconst 1, 1) := dall dgX3_writeMiddle_35 27 rfl
theorem dX3_writeMiddle_42 : decode cX3_writeMiddle 42 = .ok (.isub, 1) := dall dgX3_writeMiddle_35 28 rfl
theorem dX3_writeMiddle_43 : decode cX3_writeMiddle 43 = .ok (.iconst 2, 1) := dall dgX3_writeMiddle_35 29 rfl
theorem dX3_writeMiddle_44 : decode cX3_writeMiddle 44 = .ok (.idiv, 1) := dall dgX3_writeMiddle_35 30 rfl
theorem dX3_writeMiddle_45 : decode cX3_writeMiddle 45 = .ok (.iaload, 1) := dall dgX3_writeMiddle_35 31 rfl
theorem dX3_writeMiddle_46 : decode cX3_writeMiddle 46 = .ok (.iastore, 1) := dall dgX3_writeMiddle_35 32 rfl
theorem dX3_writeMiddle_47 : decode cX3_writeMiddle 47 = .ok (.iinc 3 1, 3) := dall dgX3_writeMiddle_35 33 rfl
theorem dX3_writeMiddle_50 : decode cX3_writeMiddle 50 = .ok (.goto (-28), 3) := dall dgX3_writeMiddle_35 34 rfl
theorem dX3_writeMiddle_53 : decode cX3_writeMiddle 53 = .ok (.return_, 1) := dall dgX3_writeMiddle_35 35 rfl
def lgX4_init_36 : List (Nat × Instr × Nat) := [(0, .aload_n 0, 1), (1, .invokespecial 3, 3), (4, .aload_n 0, 1), (5, .bipush 9, 2), (7, .newarray .int, 2), (9, .putfield 9, 3), (12, .aload_n 0, 1), (13, .bipush 9, 2), (15, .newarray .int, 2), (17, .putfield 15, 3), (20, .aload_n 0, 1), (21, .bipush 36, 2), (23, .newarray .int, 2), (25, .putfield 18, 3), (28, .return_, 1)]
theorem dgX4_init_36 : ∀ q ∈ lgX4_init_36, decode cX4_init q.1 = .ok (q.2.1, q.2.2) := by decide +kernel
theorem dX4_init_0 : decode cX4_init 0 = .ok (.aload_n 0, 1) := dall dgX4_init_36 0 rfl
theorem dX4_init_1 : decode cX4_init 1 = .ok (.invokespecial 3, 3) := dall dgX4_init_36 1 rfl
theorem dX4_init_4 : decode cX4_init 4 = .ok (.aload_n 0, 1) := dall dgX4_init_36 2 rfl
theorem dX4_init_5 : decode cX4_init 5 = .ok (.bipush 9, 2) := dall dgX4_init_36 3 rfl
theorem dX4_init_7 : decode cX4_init 7 = .ok (.newarray .int, 2) := dall dgX4_init_36 4 rfl
theorem dX4_init_9 : decode cX4_init 9 = .ok (.putfield 9, 3) := dall dgX4_init_36 5 rfl
theorem dX4_init_12 : decode cX4_init 12 = .ok (.aload_n 0, 1) := dall dgX4_init_36 6 rfl
theorem dX4_init_13 : decode cX4_init 13 = .ok (.bipush 9, 2) := dall dgX4_init_36 7 rfl
theorem dX4_init_15 : decode cX4_init 15 = .ok (.newarray .int, 2) := dall dgX4_init_36 8 rfl
theorem dX4_init_17 : decode cX4_init 17 = .ok (.putfield 15, 3) := dall dgX4_init_36 9 rfl
theorem dX4_init_20 : decode cX4_init 20 = .ok (.aload_n 0, 1) := dall dgX4_init_36 10 rfl
theorem dX4_init_21 : decode cX4_init 21 = .ok (.bipush 36, 2) := dall dgX4_init_36 11 rfl
theorem dX4_init_23 : decode cX4_init 23 = .ok (.newarray .int, 2) := dall dgX4_init_36 12 rfl
theorem dX4_init_25 : decode cX4_init 25 = .ok (.putfield 18, 3) := dall dgX4_init_36 13 rfl
theorem dX4_init_28 : decode cX4_init 28 = .ok (.return_, 1) := dall dgX4_init_36 14 rfl
def lgX4_numberHeaps_37 : List (Nat × Instr × Nat) := [(0, .aload_n 0, 1), (1, .getfield 15, 3), (4, .bipush (-9), 2), (6, .invokestatic 21, 3), (9, .aload_n 0, 1), (10, .iconst 0, 1), (11, .putfield 27, 3), (14, .iconst 0, 1), (15, .istore_n 2, 1), (16, .iload_n 2, 1), (17, .iload_n 1, 1), (18, .if_icmp .ge 89, 3), (21, .iload_n 2, 1), (22, .bipush 9, 2), (24, .if_icmp .ge 83, 3), (27, .aload_n 0, 1), (28, .getfield 9, 3), (31, .iload_n 2, 1), (32, .iaload, 1), (33, .istore_n 3, 1), (34, .iload_n 3, 1), (35, .ifCond .lt 40, 3), (38, .iload_n 3, 1), (39, .bipush 9, 2), (41, .if_icmp .ge 34, 3), (44, .aload_n 0, 1), (45, .getfield 15, 3), (48, .iload_n 3, 1), (49, .iaload, 1), (50, .bipush (-9), 2), (52, .if_icmp .ne 23, 3), (55, .aload_n 0, 1), (56, .getfield 15, 3), (59, .iload_n 3, 1), (60, .aload_n 0, 1), (61, .getfield 27, 3), (64, .iastore, 1), (65, .aload_n 0, 1), (66, .dup, 1), (67, .getfield 27, 3), (70, .iconst 1, 1), (71, .iadd, 1), (72, .putfield 27, 3), (75, .aload_n 0, 1), (76, .getfield 9, 3), (79, .iload_n 2, 1), (80, .iload_n 3, 1), (81, .ifCond .lt 18, 3), (84, .iload_n 3, 1), (85, .bipush 9, 2)]
theorem dgX4_numberHeaps_37 : ∀ q ∈ lgX4_numberHeaps_37, decode cX4_numberHeaps q.1 = .ok (q.2.1, q.2.2) := by decide +kernel
theorem dX4_numberHeaps_0 : decode cX4_numberHeaps 0 = .ok (.aload_n 0, 1) := dall dgX4_numberHeaps_37 0 rfl
theorem dX4_numberHeaps_1 : decode cX4_numberHeaps 1 = .ok (.getfield 15, 3) := dall dgX4_numberHeaps_37 1 rfl
theorem dX4_numberHeaps_4 : decode cX4_numberHeaps 4 = .ok (.bipush (-9), 2) := dall dgX4_numberHeaps_37 2 rfl
theorem dX4_numberHeaps_6 : decode cX4_numberHeaps 6 = .ok (.invokestatic 21, 3) := dall dgX4_numberHeaps_37 3 rfl
theorem dX4_numberHeaps_9 : decode cX4_numberHeaps 9 = .ok (.aload_n 0, 1) := dall dgX4_numberHeaps_37 4 rfl
theorem dX4_numberHeaps_10 : decode cX4_numberHeaps 10 = .ok (.iconst 0, 1) := dall dgX4_numberHeaps_37 5 rfl
theorem dX4_numberHeaps_11 : decode cX4_numberHeaps 11 = .ok (.putfield 27, 3) := dall dgX4_numberHeaps_37 6 rfl
theorem dX4_numberHeaps_14 : decode cX4_numberHeaps 14 = .ok (.iconst 0, 1) := dall dgX4_numberHeaps_37 7 rfl
theorem dX4_numberHeaps_15 : decode cX4_numberHeaps 15 = .ok (.istore_n 2, 1) := dall dgX4_numberHeaps_37 8 rfl
theorem dX4_numberHeaps_16 : decode cX4_numberHeaps 16 = .ok (.iload_n 2, 1) := dall dgX4_numberHeaps_37 9 rfl
theorem dX4_numberHeaps_17 : decode cX4_numberHeaps 17 = .ok (.iload_n 1, 1) := dall dgX4_numberHeaps_37 10 rfl
theorem dX4_numberHeaps_18 : decode cX4_numberHeaps 18 = .ok (.if_icmp .ge 89, 3) := dall dgX4_numberHeaps_37 11 rfl
theorem dX4_numberHeaps_21 : decode cX4_numberHeaps 21 = .ok (.iload_n 2, 1) := dall dgX4_numberHeaps_37 12 rfl
theorem dX4_numberHeaps_22 : decode cX4_numberHeaps 22 = .ok (.bipush 9, 2) := dall dgX4_numberHeaps_37 13 rfl
theorem dX4_numberHeaps_24 : decode cX4_numberHeaps 24 = .ok (.if_icmp .ge 83, 3) := dall dgX4_numberHeaps_37 14 rfl
theorem dX4_numberHeaps_27 : decode cX4_numberHeaps 27 = .ok (.aload_n 0, 1) := dall dgX4_numberHeaps_37 15 rfl
theorem dX4_numberHeaps_28 : decode cX4_numberHeaps 28 = .ok (.getfield 9, 3) := dall dgX4_numberHeaps_37 16 rfl
theorem dX4_numberHeaps_31 : decode cX4_numberHeaps 31 = .ok (.iload_n 2, 1) := dall dgX4_numberHeaps_37 17 rfl
theorem dX4_numberHeaps_32 : decode cX4_numberHeaps 32 = .ok (.iaload, 1) := dall dgX4_numberHeaps_37 18 rfl
theorem dX4_numberHeaps_33 : decode cX4_numberHeaps 33 = .ok (.istore_n 3, 1) := dall dgX4_numberHeaps_37 19 rfl
theorem dX4_numberHeaps_34 : decode cX4_numberHeaps 34 = .ok (.iload_n 3, 1) := dall dgX4_numberHeaps_37 20 rfl
theorem dX4_numberHeaps_35 : decode cX4_numberHeaps 35 = .ok (.ifCond .lt 40, 3) := dall dgX4_numberHeaps_37 21 rfl
theorem dX4_numberHeaps_38 : decode cX4_numberHeaps 38 = .ok (.iload_n 3, 1) := dall dgX4_numberHeaps_37 22 rfl
theorem dX4_numberHeaps_39 : decode cX4_numberHeaps 39 = .ok (.bipush 9, 2) := dall dgX4_numberHeaps_37 23 rfl
theorem dX4_numberHeaps_41 : decode cX4_numberHeaps 41 = .ok (.if_icmp .ge 34, 3) := dall dgX4_numberHeaps_37 24 rfl
theorem dX4_numberHeaps_44 : decode cX4_numberHeaps 44 = .ok (.aload_n 0, 1) := dall dgX4_numberHeaps_37 25 rfl
theorem dX4_numberHeaps_45 : decode cX4_numberHeaps 45 = .ok (.getfield 15, 3) := dall dgX4_numberHeaps_37 26 rfl
theorem dX4_numberHeaps_48 : decode cX4_numberHeaps 48 = .ok (.iload_n 3, 1) := dall dgX4_numberHeaps_37 27 rfl
theorem dX4_numberHeaps_49 : decode cX4_numberHeaps 49 = .ok (.iaload, 1) := dall dgX4_numberHeaps_37 28 rfl
theorem dX4_numberHeaps_50 : decode cX4_numberHeaps 50 = .ok (.bipush (-9), 2) := dall dgX4_numberHeaps_37 29 rfl
theorem dX4_numberHeaps_52 : decode cX4_numberHeaps 52 = .ok (.if_icmp .ne 23, 3) := dall dgX4_numberHeaps_37 30 rfl
theorem dX4_numberHeaps_55 : decode cX4_numberHeaps 55 = .ok (.aload_n 0, 1) := dall dgX4_numberHeaps_37 31 rfl
theorem dX4_numberHeaps_56 : decode cX4_numberHeaps 56 = .ok (.getfield 15, 3) := dall dgX4_numberHeaps_37 32 rfl
theorem dX4_numberHeaps_59 : decode cX4_numberHeaps 59 = .ok (.iload_n 3, 1) := dall dgX4_numberHeaps_37 33 rfl
theorem dX4_numberHeaps_60 : decode cX4_numberHeaps 60 = .ok (.aload_n 0, 1) := dall dgX4_numberHeaps_37 34 rfl
theorem dX4_numberHeaps_61 : decode cX4_numberHeaps 61 = .ok (.getfield 27, 3) := dall dgX4_numberHeaps_37 35 rfl
theorem dX4_numberHeaps_64 : decode cX4_numberHeaps 64 = .ok (.iastore, 1) := dall dgX4_numberHeaps_37 36 rfl
theorem dX4_numberHeaps_65 : decode cX4_numberHeaps 65 = .ok (.aload_n 0, 1) := dall dgX4_numberHeaps_37 37 rfl
theorem dX4_numberHeaps_66 : decode cX4_numberHeaps 66 = .ok (.dup, 1) := dall dgX4_numberHeaps_37 38 rfl
theorem dX4_numberHeaps_67 : decode cX4_numberHeaps 67 = .ok (.getfield 27, 3) := dall dgX4_numberHeaps_37 39 rfl
theorem dX4_numberHeaps_70 : decode cX4_numberHeaps 70 = .ok (.iconst 1, 1) := dall dgX4_numberHeaps_37 40 rfl
theorem dX4_numberHeaps_71 : decode cX4_numberHeaps 71 = .ok (.iadd, 1) := dall dgX4_numberHeaps_37 41 rfl
theorem dX4_numberHeaps_72 : decode cX4_numberHeaps 72 = .ok (.putfield 27, 3) := dall dgX4_numberHeaps_37 42 rfl
theorem dX4_numberHeaps_75 : decode cX4_numberHeaps 75 = .ok (.aload_n 0, 1) := dall dgX4_numberHeaps_37 43 rfl
theorem dX4_numberHeaps_76 : decode cX4_numberHeaps 76 = .ok (.getfield 9, 3) := dall dgX4_numberHeaps_37 44 rfl
theorem dX4_numberHeaps_79 : decode cX4_numberHeaps 79 = .ok (.iload_n 2, 1) := dall dgX4_numberHeaps_37 45 rfl
theorem dX4_numberHeaps_80 : decode cX4_numberHeaps 80 = .ok (.iload_n 3, 1) := dall dgX4_numberHeaps_37 46 rfl
theorem dX4_numberHeaps_81 : decode cX4_numberHeaps 81 = .ok (.ifCond .lt 18, 3) := dall dgX4_numberHeaps_37 47 rfl
theorem dX4_numberHeaps_84 : decode cX4_numberHeaps 84 = .ok (.iload_n 3, 1) := dall dgX4_numberHeaps_37 48 rfl
theorem dX4_numberHeaps_85 : decode cX4_numberHeaps 85 = .ok (.bipush 9, 2) := dall dgX4_numberHeaps_37 49 rfl
def lgX4_numberHeaps_38 : List (Nat × Instr × Nat) := [(87, .if_icmp .ge 12, 3), (90, .aload_n 0, 1), (91, .getfield 15, 3), (94, .iload_n 3, 1), (95, .iaload, 1), (96, .goto 4, 3), (99, .iconst 0, 1), (100, .iastore, 1), (101, .iinc 2 1, 3), (104, .goto (-88), 3), (107, .return_, 1)]
theorem dgX4_numberHeaps_38 : ∀ q ∈ lgX4_numberHeaps_38, decode cX4_numberHeaps q.1 = .ok (q.2.1, q.2.2) := by decide +kernel
theorem dX4_numberHeaps_87 : decode cX4_numberHeaps 87 = .ok (.if_icmp .ge 12, 3) := dall dgX4_numberHeaps_38 0 rfl
theorem dX4_numberHeaps_90 : decode cX4_numberHeaps 90 = .ok (.aload_n 0, 1) := dall dgX4_numberHeaps_38 1 rfl
theorem dX4_numberHeaps_91 : decode cX4_numberHeaps 91 = .ok (.getfield 15, 3) := dall dgX4_numberHeaps_38 2 rfl
theorem dX4_numberHeaps_94 : decode cX4_numberHeaps 94 = .ok (.iload_n 3, 1) := dall dgX4_numberHeaps_38 3 rfl
theorem dX4_numberHeaps_95 : decode cX4_numberHeaps 95 = .ok (.iaload, 1) := dall dgX4_numberHeaps_38 4 rfl
theorem dX4_numberHeaps_96 : decode cX4_numberHeaps 96 = .ok (.goto 4, 3) := dall dgX4_numberHeaps_38 5 rfl
theorem dX4_numberHeaps_99 : decode cX4_numberHeaps 99 = .ok (.iconst 0, 1) := dall dgX4_numberHeaps_38 6 rfl
theorem dX4_numberHeaps_100 : decode cX4_numberHeaps 100 = .ok (.iastore, 1) := dall dgX4_numberHeaps_38 7 rfl
theorem dX4_numberHeaps_101 : decode cX4_numberHeaps 101 = .ok (.iinc 2 1, 3) := dall dgX4_numberHeaps_38 8 rfl
theorem dX4_numberHeaps_104 : decode cX4_numberHeaps 104 = .ok (.goto (-88), 3) := dall dgX4_numberHeaps_38 9 rfl
theorem dX4_numberHeaps_107 : decode cX4_numberHeaps 107 = .ok (.return_, 1) := dall dgX4_numberHeaps_38 10 rfl
def lgX4_findMiddles_39 : List (Nat × Instr × Nat) := [(0, .iconst 0, 1), (1, .istore 4, 2), (3, .iload 4, 2), (5, .aload_n 0, 1), (6, .getfield 27, 3), (9, .if_icmp .ge 97, 3), (12, .iload 4, 2), (14, .bipush 9, 2), (16, .if_icmp .ge 90, 3), (19, .aload_n 2, 1), (20, .invokevirtual 31, 3), (23, .iconst 0, 1), (24, .istore 5, 2), (26, .iload 5, 2), (28, .aload_n 1, 1), (29, .getfield 36, 3), (32, .if_icmp .ge 56, 3), (35, .iload 5, 2), (37, .bipush 48, 2), (39, .if_icmp .ge 49, 3), (42, .aload_n 3, 1), (43, .getfield 41, 3), (46, .iload 5, 2), (48, .iaload, 1), (49, .istore 6, 2), (51, .iload 6, 2), (53, .ifCond .lt 29, 3), (56, .iload 6, 2), (58, .bipush 9, 2), (60, .if_icmp .ge 22, 3), (63, .aload_n 0, 1), (64, .getfield 9, 3), (67, .iload 6, 2), (69, .iaload, 1), (70, .iload 4, 2), (72, .if_icmp .ne 10, 3), (75, .aload_n 2, 1), (76, .aload_n 1, 1), (77, .iload 5, 2), (79, .invokevirtual 46, 3), (82, .iinc 5 1, 3), (85, .goto (-59), 3), (88, .aload_n 2, 1), (89, .aload_n 0, 1), (90, .getfield 18, 3), (93, .iload 4, 2), (95, .iconst 4, 1), (96, .imul, 1), (97, .invokevirtual 50, 3), (100, .iinc 4 1, 3)]
theorem dgX4_findMiddles_39 : ∀ q ∈ lgX4_findMiddles_39, decode cX4_findMiddles q.1 = .ok (q.2.1, q.2.2) := by decide +kernel
theorem dX4_findMiddles_0 : decode cX4_findMiddles 0 = .ok (.iconst 0, 1) := dall dgX4_findMiddles_39 0 rfl
theorem dX4_findMiddles_1 : decode cX4_findMiddles 1 = .ok (.istore 4, 2) := dall dgX4_findMiddles_39 1 rfl
theorem dX4_findMiddles_3 : decode cX4_findMiddles 3 = .ok (.iload 4, 2) := dall dgX4_findMiddles_39 2 rfl
theorem dX4_findMiddles_5 : decode cX4_findMiddles 5 = .ok (.aload_n 0, 1) := dall dgX4_findMiddles_39 3 rfl
theorem dX4_findMiddles_6 : decode cX4_findMiddles 6 = .ok (.getfield 27, 3) := dall dgX4_findMiddles_39 4 rfl
theorem dX4_findMiddles_9 : decode cX4_findMiddles 9 = .ok (.if_icmp .ge 97, 3) := dall dgX4_findMiddles_39 5 rfl
theorem dX4_findMiddles_12 : decode cX4_findMiddles 12 = .ok (.iload 4, 2) := dall dgX4_findMiddles_39 6 rfl
theorem dX4_findMiddles_14 : decode cX4_findMiddles 14 = .ok (.bipush 9, 2) := dall dgX4_findMiddles_39 7 rfl
theorem dX4_findMiddles_16 : decode cX4_findMiddles 16 = .ok (.if_icmp .ge 90, 3) := dall dgX4_findMiddles_39 8 rfl
theorem dX4_findMiddles_19 : decode cX4_findMiddles 19 = .ok (.aload_n 2, 1) := dall dgX4_findMiddles_39 9 rfl
theorem dX4_findMiddles_20 : decode cX4_findMiddles 20 = .ok (.invokevirtual 31, 3) := dall dgX4_findMiddles_39 10 rfl
theorem dX4_findMiddles_23 : decode cX4_findMiddles 23 = .ok (.iconst 0, 1) := dall dgX4_findMiddles_39 11 rfl
theorem dX4_findMiddles_24 : decode cX4_findMiddles 24 = .ok (.istore 5, 2) := dall dgX4_findMiddles_39 12 rfl
theorem dX4_findMiddles_26 : decode cX4_findMiddles 26 = .ok (.iload 5, 2) := dall dgX4_findMiddles_39 13 rfl
theorem dX4_findMiddles_28 : decode cX4_findMiddles 28 = .ok (.aload_n 1, 1) := dall dgX4_findMiddles_39 14 rfl
theorem dX4_findMiddles_29 : decode cX4_findMiddles 29 = .ok (.getfield 36, 3) := dall dgX4_findMiddles_39 15 rfl
theorem dX4_findMiddles_32 : decode cX4_findMiddles 32 = .ok (.if_icmp .ge 56, 3) := dall dgX4_findMiddles_39 16 rfl
theorem dX4_findMiddles_35 : decode cX4_findMiddles 35 = .ok (.iload 5, 2) := dall dgX4_findMiddles_39 17 rfl
theorem dX4_findMiddles_37 : decode cX4_findMiddles 37 = .ok (.bipush 48, 2) := dall dgX4_findMiddles_39 18 rfl
theorem dX4_findMiddles_39 : decode cX4_findMiddles 39 = .ok (.if_icmp .ge 49, 3) := dall dgX4_findMiddles_39 19 rfl
theorem dX4_findMiddles_42 : decode cX4_findMiddles 42 = .ok (.aload_n 3, 1) := dall dgX4_findMiddles_39 20 rfl
theorem dX4_findMiddles_43 : decode cX4_findMiddles 43 = .ok (.getfield 41, 3) := dall dgX4_findMiddles_39 21 rfl
theorem dX4_findMiddles_46 : decode cX4_findMiddles 46 = .ok (.iload 5, 2) := dall dgX4_findMiddles_39 22 rfl
theorem dX4_findMiddles_48 : decode cX4_findMiddles 48 = .ok (.iaload, 1) := dall dgX4_findMiddles_39 23 rfl
theorem dX4_findMiddles_49 : decode cX4_findMiddles 49 = .ok (.istore 6, 2) := dall dgX4_findMiddles_39 24 rfl
theorem dX4_findMiddles_51 : decode cX4_findMiddles 51 = .ok (.iload 6, 2) := dall dgX4_findMiddles_39 25 rfl
theorem dX4_findMiddles_53 : decode cX4_findMiddles 53 = .ok (.ifCond .lt 29, 3) := dall dgX4_findMiddles_39 26 rfl
theorem dX4_findMiddles_56 : decode cX4_findMiddles 56 = .ok (.iload 6, 2) := dall dgX4_findMiddles_39 27 rfl
theorem dX4_findMiddles_58 : decode cX4_findMiddles 58 = .ok (.bipush 9, 2) := dall dgX4_findMiddles_39 28 rfl
theorem dX4_findMiddles_60 : decode cX4_findMiddles 60 = .ok (.if_icmp .ge 22, 3) := dall dgX4_findMiddles_39 29 rfl
theorem dX4_findMiddles_63 : decode cX4_findMiddles 63 = .ok (.aload_n 0, 1) := dall dgX4_findMiddles_39 30 rfl
theorem dX4_findMiddles_64 : decode cX4_findMiddles 64 = .ok (.getfield 9, 3) := dall dgX4_findMiddles_39 31 rfl
theorem dX4_findMiddles_67 : decode cX4_findMiddles 67 = .ok (.iload 6, 2) := dall dgX4_findMiddles_39 32 rfl
theorem dX4_findMiddles_69 : decode cX4_findMiddles 69 = .ok (.iaload, 1) := dall dgX4_findMiddles_39 33 rfl
theorem dX4_findMiddles_70 : decode cX4_findMiddles 70 = .ok (.iload 4, 2) := dall dgX4_findMiddles_39 34 rfl
theorem dX4_findMiddles_72 : decode cX4_findMiddles 72 = .ok (.if_icmp .ne 10, 3) := dall dgX4_findMiddles_39 35 rfl
theorem dX4_findMiddles_75 : decode cX4_findMiddles 75 = .ok (.aload_n 2, 1) := dall dgX4_findMiddles_39 36 rfl
theorem dX4_findMiddles_76 : decode cX4_findMiddles 76 = .ok (.aload_n 1, 1) := dall dgX4_findMiddles_39 37 rfl
theorem dX4_findMiddles_77 : decode cX4_findMiddles 77 = .ok (.iload 5, 2) := dall dgX4_findMiddles_39 38 rfl
theorem dX4_findMiddles_79 : decode cX4_findMiddles 79 = .ok (.invokevirtual 46, 3) := dall dgX4_findMiddles_39 39 rfl
theorem dX4_findMiddles_82 : decode cX4_findMiddles 82 = .ok (.iinc 5 1, 3) := dall dgX4_findMiddles_39 40 rfl
theorem dX4_findMiddles_85 : decode cX4_findMiddles 85 = .ok (.goto (-59), 3) := dall dgX4_findMiddles_39 41 rfl
theorem dX4_findMiddles_88 : decode cX4_findMiddles 88 = .ok (.aload_n 2, 1) := dall dgX4_findMiddles_39 42 rfl
theorem dX4_findMiddles_89 : decode cX4_findMiddles 89 = .ok (.aload_n 0, 1) := dall dgX4_findMiddles_39 43 rfl
theorem dX4_findMiddles_90 : decode cX4_findMiddles 90 = .ok (.getfield 18, 3) := dall dgX4_findMiddles_39 44 rfl
theorem dX4_findMiddles_93 : decode cX4_findMiddles 93 = .ok (.iload 4, 2) := dall dgX4_findMiddles_39 45 rfl
theorem dX4_findMiddles_95 : decode cX4_findMiddles 95 = .ok (.iconst 4, 1) := dall dgX4_findMiddles_39 46 rfl
theorem dX4_findMiddles_96 : decode cX4_findMiddles 96 = .ok (.imul, 1) := dall dgX4_findMiddles_39 47 rfl
theorem dX4_findMiddles_97 : decode cX4_findMiddles 97 = .ok (.invokevirtual 50, 3) := dall dgX4_findMiddles_39 48 rfl
theorem dX4_findMiddles_100 : decode cX4_findMiddles 100 = .ok (.iinc 4 1, 3) := dall dgX4_findMiddles_39 49 rfl
def lgX4_findMiddles_40 : List (Nat × Instr × Nat) := [(103, .goto (-100), 3), (106, .return_, 1)]
theorem dgX4_findMiddles_40 : ∀ q ∈ lgX4_findMiddles_40, decode cX4_findMiddles q.1 = .ok (q.2.1, q.2.2) := by decide +kernel
theorem dX4_findMiddles_103 : decode cX4_findMiddles 103 = .ok (.goto (-100), 3) := dall dgX4_findMiddles_40 0 rfl
theorem dX4_findMiddles_106 : decode cX4_findMiddles 106 = .ok (.return_, 1) := dall dgX4_findMiddles_40 1 rfl
def lgX4_middleOf_41 : List (Nat × Instr × Nat) := [(0, .iload_n 1, 1), (1, .ifCond .lt 33, 3), (4, .iload_n 1, 1), (5, .aload_n 0, 1), (6, .getfield 27, 3), (9, .if_icmp .ge 25, 3), (12, .iload_n 2, 1), (13, .ifCond .lt 21, 3), (16, .iload_n 2, 1), (17, .iconst 4, 1), (18, .if_icmp .ge 16, 3), (21, .aload_n 0, 1), (22, .getfield 18, 3), (25, .iload_n 1, 1), (26, .iconst 4, 1), (27, .imul, 1), (28, .iload_n 2, 1), (29, .iadd, 1), (30, .iaload, 1), (31, .goto 4, 3), (34, .iconst 0, 1), (35, .ireturn, 1)]
theorem dgX4_middleOf_41 : ∀ q ∈ lgX4_middleOf_41, decode cX4_middleOf q.1 = .ok (q.2.1, q.2.2) := by decide +kernel
theorem dX4_middleOf_0 : decode cX4_middleOf 0 = .ok (.iload_n 1, 1) := dall dgX4_middleOf_41 0 rfl
theorem dX4_middleOf_1 : decode cX4_middleOf 1 = .ok (.ifCond .lt 33, 3) := dall dgX4_middleOf_41 1 rfl
theorem dX4_middleOf_4 : decode cX4_middleOf 4 = .ok (.iload_n 1, 1) := dall dgX4_middleOf_41 2 rfl
theorem dX4_middleOf_5 : decode cX4_middleOf 5 = .ok (.aload_n 0, 1) := dall dgX4_middleOf_41 3 rfl
theorem dX4_middleOf_6 : decode cX4_middleOf 6 = .ok (.getfield 27, 3) := dall dgX4_middleOf_41 4 rfl
theorem dX4_middleOf_9 : decode cX4_middleOf 9 = .ok (.if_icmp .ge 25, 3) := dall dgX4_middleOf_41 5 rfl
theorem dX4_middleOf_12 : decode cX4_middleOf 12 = .ok (.iload_n 2, 1) := dall dgX4_middleOf_41 6 rfl
theorem dX4_middleOf_13 : decode cX4_middleOf 13 = .ok (.ifCond .lt 21, 3) := dall dgX4_middleOf_41 7 rfl
theorem dX4_middleOf_16 : decode cX4_middleOf 16 = .ok (.iload_n 2, 1) := dall dgX4_middleOf_41 8 rfl
theorem dX4_middleOf_17 : decode cX4_middleOf 17 = .ok (.iconst 4, 1) := dall dgX4_middleOf_41 9 rfl
theorem dX4_middleOf_18 : decode cX4_middleOf 18 = .ok (.if_icmp .ge 16, 3) := dall dgX4_middleOf_41 10 rfl
theorem dX4_middleOf_21 : decode cX4_middleOf 21 = .ok (.aload_n 0, 1) := dall dgX4_middleOf_41 11 rfl
theorem dX4_middleOf_22 : decode cX4_middleOf 22 = .ok (.getfield 18, 3) := dall dgX4_middleOf_41 12 rfl
theorem dX4_middleOf_25 : decode cX4_middleOf 25 = .ok (.iload_n 1, 1) := dall dgX4_middleOf_41 13 rfl
theorem dX4_middleOf_26 : decode cX4_middleOf 26 = .ok (.iconst 4, 1) := dall dgX4_middleOf_41 14 rfl
theorem dX4_middleOf_27 : decode cX4_middleOf 27 = .ok (.imul, 1) := dall dgX4_middleOf_41 15 rfl
theorem dX4_middleOf_28 : decode cX4_middleOf 28 = .ok (.iload_n 2, 1) := dall dgX4_middleOf_41 16 rfl
theorem dX4_middleOf_29 : decode cX4_middleOf 29 = .ok (.iadd, 1) := dall dgX4_middleOf_41 17 rfl
theorem dX4_middleOf_30 : decode cX4_middleOf 30 = .ok (.iaload, 1) := dall dgX4_middleOf_41 18 rfl
theorem dX4_middleOf_31 : decode cX4_middleOf 31 = .ok (.goto 4, 3) := dall dgX4_middleOf_41 19 rfl
theorem dX4_middleOf_34 : decode cX4_middleOf 34 = .ok (.iconst 0, 1) := dall dgX4_middleOf_41 20 rfl
theorem dX4_middleOf_35 : decode cX4_middleOf 35 = .ok (.ireturn, 1) := dall dgX4_middleOf_41 21 rfl
def lgX4_membersOf_42 : List (Nat × Instr × Nat) := [(0, .iconst 0, 1), (1, .istore_n 3, 1), (2, .iconst 0, 1), (3, .istore 4, 2), (5, .iload 4, 2), (7, .iload_n 2, 1), (8, .if_icmp .ge 38, 3), (11, .iload 4, 2), (13, .bipush 9, 2), (15, .if_icmp .ge 31, 3), (18, .iload_n 3, 1), (19, .aload_n 0, 1), (20, .getfield 9, 3), (23, .iload 4, 2), (25, .iaload, 1), (26, .iload_n 1, 1), (27, .if_icmp .ne 10, 3), (30, .iconst 1, 1), (31, .iload 4, 2), (33, .ishl, 1), (34, .goto 4, 3), (37, .iconst 0, 1), (38, .ior, 1), (39, .istore_n 3, 1), (40, .iinc 4 1, 3), (43, .goto (-38), 3), (46, .iload_n 3, 1), (47, .ireturn, 1)]
theorem dgX4_membersOf_42 : ∀ q ∈ lgX4_membersOf_42, decode cX4_membersOf q.1 = .ok (q.2.1, q.2.2) := by decide +kernel
theorem dX4_membersOf_0 : decode cX4_membersOf 0 = .ok (.iconst 0, 1) := dall dgX4_membersOf_42 0 rfl
theorem dX4_membersOf_1 : decode cX4_membersOf 1 = .ok (.istore_n 3, 1) := dall dgX4_membersOf_42 1 rfl
theorem dX4_membersOf_2 : decode cX4_membersOf 2 = .ok (.iconst 0, 1) := dall dgX4_membersOf_42 2 rfl
theorem dX4_membersOf_3 : decode cX4_membersOf 3 = .ok (.istore 4, 2) := dall dgX4_membersOf_42 3 rfl
theorem dX4_membersOf_5 : decode cX4_membersOf 5 = .ok (.iload 4, 2) := dall dgX4_membersOf_42 4 rfl
theorem dX4_membersOf_7 : decode cX4_membersOf 7 = .ok (.iload_n 2, 1) := dall dgX4_membersOf_42 5 rfl
theorem dX4_membersOf_8 : decode cX4_membersOf 8 = .ok (.if_icmp .ge 38, 3) := dall dgX4_membersOf_42 6 rfl
theorem dX4_membersOf_11 : decode cX4_membersOf 11 = .ok (.iload 4, 2) := dall dgX4_membersOf_42 7 rfl
theorem dX4_membersOf_13 : decode cX4_membersOf 13 = .ok (.bipush 9, 2) := dall dgX4_membersOf_42 8 rfl
theorem dX4_membersOf_15 : decode cX4_membersOf 15 = .ok (.if_icmp .ge 31, 3) := dall dgX4_membersOf_42 9 rfl
theorem dX4_membersOf_18 : decode cX4_membersOf 18 = .ok (.iload_n 3, 1) := dall dgX4_membersOf_42 10 rfl
theorem dX4_membersOf_19 : decode cX4_membersOf 19 = .ok (.aload_n 0, 1) := dall dgX4_membersOf_42 11 rfl
theorem dX4_membersOf_20 : decode cX4_membersOf 20 = .ok (.getfield 9, 3) := dall dgX4_membersOf_42 12 rfl
theorem dX4_membersOf_23 : decode cX4_membersOf 23 = .ok (.iload 4, 2) := dall dgX4_membersOf_42 13 rfl
theorem dX4_membersOf_25 : decode cX4_membersOf 25 = .ok (.iaload, 1) := dall dgX4_membersOf_42 14 rfl
theorem dX4_membersOf_26 : decode cX4_membersOf 26 = .ok (.iload_n 1, 1) := dall dgX4_membersOf_42 15 rfl
theorem dX4_membersOf_27 : decode cX4_membersOf 27 = .ok (.if_icmp .ne 10, 3) := dall dgX4_membersOf_42 16 rfl
theorem dX4_membersOf_30 : decode cX4_membersOf 30 = .ok (.iconst 1, 1) := dall dgX4_membersOf_42 17 rfl
theorem dX4_membersOf_31 : decode cX4_membersOf 31 = .ok (.iload 4, 2) := dall dgX4_membersOf_42 18 rfl
theorem dX4_membersOf_33 : decode cX4_membersOf 33 = .ok (.ishl, 1) := dall dgX4_membersOf_42 19 rfl
theorem dX4_membersOf_34 : decode cX4_membersOf 34 = .ok (.goto 4, 3) := dall dgX4_membersOf_42 20 rfl
theorem dX4_membersOf_37 : decode cX4_membersOf 37 = .ok (.iconst 0, 1) := dall dgX4_membersOf_42 21 rfl
theorem dX4_membersOf_38 : decode cX4_membersOf 38 = .ok (.ior, 1) := dall dgX4_membersOf_42 22 rfl
theorem dX4_membersOf_39 : decode cX4_membersOf 39 = .ok (.istore_n 3, 1) := dall dgX4_membersOf_42 23 rfl
theorem dX4_membersOf_40 : decode cX4_membersOf 40 = .ok (.iinc 4 1, 3) := dall dgX4_membersOf_42 24 rfl
theorem dX4_membersOf_43 : decode cX4_membersOf 43 = .ok (.goto (-38), 3) := dall dgX4_membersOf_42 25 rfl
theorem dX4_membersOf_46 : decode cX4_membersOf 46 = .ok (.iload_n 3, 1) := dall dgX4_membersOf_42 26 rfl
theorem dX4_membersOf_47 : decode cX4_membersOf 47 = .ok (.ireturn, 1) := dall dgX4_membersOf_42 27 rfl
def lgX4_twoInOne_43 : List (Nat × Instr × Nat) := [(0, .iload_n 2, 1), (1, .ifCond .lt 9, 3), (4, .iload_n 2, 1), (5, .bipush 9, 2), (7, .if_icmp .lt 6, 3), (10, .bipush (-9), 2), (12, .ireturn, 1), (13, .aload_n 0, 1), (14, .getfield 9, 3), (17, .iload_n 2, 1), (18, .iaload, 1), (19, .istore 4, 2), (21, .bipush (-9), 2), (23, .istore 5, 2), (25, .ldc 53, 2), (27, .istore 6, 2), (29, .iconst 0, 1), (30, .istore 7, 2), (32, .iload 7, 2), (34, .aload_n 0, 1), (35, .getfield 27, 3), (38, .if_icmp .ge 82, 3), (41, .iload 7, 2), (43, .iconst 1, 1), (44, .iadd, 1), (45, .istore 8, 2), (47, .iload 8, 2), (49, .aload_n 0, 1), (50, .getfield 27, 3), (53, .if_icmp .ge 61, 3), (56, .iload 7, 2), (58, .iload 4, 2), (60, .if_icmp .eq 10, 3), (63, .iload 8, 2), (65, .iload 4, 2), (67, .if_icmp .ne 8, 3), (70, .ldc 53, 2), (72, .goto 13, 3), (75, .aload_n 0, 1), (76, .aload_n 1, 1), (77, .iload_n 2, 1), (78, .iload 7, 2), (80, .iload 8, 2), (82, .invokevirtual 54, 3), (85, .istore 9, 2), (87, .iload 9, 2), (89, .iload 6, 2), (91, .if_icmp .ge 17, 3), (94, .iload 9, 2), (96, .istore 6, 2)]
theorem dgX4_twoInOne_43 : ∀ q ∈ lgX4_twoInOne_43, decode cX4_twoInOne q.1 = .ok (q.2.1, q.2.2) := by decide +kernel
theorem dX4_twoInOne_0 : decode cX4_twoInOne 0 = .ok (.iload_n 2, 1) := dall dgX4_twoInOne_43 0 rfl
theorem dX4_twoInOne_1 : decode cX4_twoInOne 1 = .ok (.ifCond .lt 9, 3) := dall dgX4_twoInOne_43 1 rfl
theorem dX4_twoInOne_4 : decode cX4_twoInOne 4 = .ok (.iload_n 2, 1) := dall dgX4_twoInOne_43 2 rfl
theorem dX4_twoInOne_5 : decode cX4_twoInOne 5 = .ok (.bipush 9, 2) := dall dgX4_twoInOne_43 3 rfl
theorem dX4_twoInOne_7 : decode cX4_twoInOne 7 = .ok (.if_icmp .lt 6, 3) := dall dgX4_twoInOne_43 4 rfl
theorem dX4_twoInOne_10 : decode cX4_twoInOne 10 = .ok (.bipush (-9), 2) := dall dgX4_twoInOne_43 5 rfl
theorem dX4_twoInOne_12 : decode cX4_twoInOne 12 = .ok (.ireturn, 1) := dall dgX4_twoInOne_43 6 rfl
theorem dX4_twoInOne_13 : decode cX4_twoInOne 13 = .ok (.aload_n 0, 1) := dall dgX4_twoInOne_43 7 rfl
theorem dX4_twoInOne_14 : decode cX4_twoInOne 14 = .ok (.getfield 9, 3) := dall dgX4_twoInOne_43 8 rfl
theorem dX4_twoInOne_17 : decode cX4_twoInOne 17 = .ok (.iload_n 2, 1) := dall dgX4_twoInOne_43 9 rfl
theorem dX4_twoInOne_18 : decode cX4_twoInOne 18 = .ok (.iaload, 1) := dall dgX4_twoInOne_43 10 rfl
theorem dX4_twoInOne_19 : decode cX4_twoInOne 19 = .ok (.istore 4, 2) := dall dgX4_twoInOne_43 11 rfl
theorem dX4_twoInOne_21 : decode cX4_twoInOne 21 = .ok (.bipush (-9), 2) := dall dgX4_twoInOne_43 12 rfl
theorem dX4_twoInOne_23 : decode cX4_twoInOne 23 = .ok (.istore 5, 2) := dall dgX4_twoInOne_43 13 rfl
theorem dX4_twoInOne_25 : decode cX4_twoInOne 25 = .ok (.ldc 53, 2) := dall dgX4_twoInOne_43 14 rfl
theorem dX4_twoInOne_27 : decode cX4_twoInOne 27 = .ok (.istore 6, 2) := dall dgX4_twoInOne_43 15 rfl
theorem dX4_twoInOne_29 : decode cX4_twoInOne 29 = .ok (.iconst 0, 1) := dall dgX4_twoInOne_43 16 rfl
theorem dX4_twoInOne_30 : decode cX4_twoInOne 30 = .ok (.istore 7, 2) := dall dgX4_twoInOne_43 17 rfl
theorem dX4_twoInOne_32 : decode cX4_twoInOne 32 = .ok (.iload 7, 2) := dall dgX4_twoInOne_43 18 rfl
theorem dX4_twoInOne_34 : decode cX4_twoInOne 34 = .ok (.aload_n 0, 1) := dall dgX4_twoInOne_43 19 rfl
theorem dX4_twoInOne_35 : decode cX4_twoInOne 35 = .ok (.getfield 27, 3) := dall dgX4_twoInOne_43 20 rfl
theorem dX4_twoInOne_38 : decode cX4_twoInOne 38 = .ok (.if_icmp .ge 82, 3) := dall dgX4_twoInOne_43 21 rfl
theorem dX4_twoInOne_41 : decode cX4_twoInOne 41 = .ok (.iload 7, 2) := dall dgX4_twoInOne_43 22 rfl
theorem dX4_twoInOne_43 : decode cX4_twoInOne 43 = .ok (.iconst 1, 1) := dall dgX4_twoInOne_43 23 rfl
theorem dX4_twoInOne_44 : decode cX4_twoInOne 44 = .ok (.iadd, 1) := dall dgX4_twoInOne_43 24 rfl
theorem dX4_twoInOne_45 : decode cX4_twoInOne 45 = .ok (.istore 8, 2) := dall dgX4_twoInOne_43 25 rfl
theorem dX4_twoInOne_47 : decode cX4_twoInOne 47 = .ok (.iload 8, 2) := dall dgX4_twoInOne_43 26 rfl
theorem dX4_twoInOne_49 : decode cX4_twoInOne 49 = .ok (.aload_n 0, 1) := dall dgX4_twoInOne_43 27 rfl
theorem dX4_twoInOne_50 : decode cX4_twoInOne 50 = .ok (.getfield 27, 3) := dall dgX4_twoInOne_43 28 rfl
theorem dX4_twoInOne_53 : decode cX4_twoInOne 53 = .ok (.if_icmp .ge 61, 3) := dall dgX4_twoInOne_43 29 rfl
theorem dX4_twoInOne_56 : decode cX4_twoInOne 56 = .ok (.iload 7, 2) := dall dgX4_twoInOne_43 30 rfl
theorem dX4_twoInOne_58 : decode cX4_twoInOne 58 = .ok (.iload 4, 2) := dall dgX4_twoInOne_43 31 rfl
theorem dX4_twoInOne_60 : decode cX4_twoInOne 60 = .ok (.if_icmp .eq 10, 3) := dall dgX4_twoInOne_43 32 rfl
theorem dX4_twoInOne_63 : decode cX4_twoInOne 63 = .ok (.iload 8, 2) := dall dgX4_twoInOne_43 33 rfl
theorem dX4_twoInOne_65 : decode cX4_twoInOne 65 = .ok (.iload 4, 2) := dall dgX4_twoInOne_43 34 rfl
theorem dX4_twoInOne_67 : decode cX4_twoInOne 67 = .ok (.if_icmp .ne 8, 3) := dall dgX4_twoInOne_43 35 rfl
theorem dX4_twoInOne_70 : decode cX4_twoInOne 70 = .ok (.ldc 53, 2) := dall dgX4_twoInOne_43 36 rfl
theorem dX4_twoInOne_72 : decode cX4_twoInOne 72 = .ok (.goto 13, 3) := dall dgX4_twoInOne_43 37 rfl
theorem dX4_twoInOne_75 : decode cX4_twoInOne 75 = .ok (.aload_n 0, 1) := dall dgX4_twoInOne_43 38 rfl
theorem dX4_twoInOne_76 : decode cX4_twoInOne 76 = .ok (.aload_n 1, 1) := dall dgX4_twoInOne_43 39 rfl
theorem dX4_twoInOne_77 : decode cX4_twoInOne 77 = .ok (.iload_n 2, 1) := dall dgX4_twoInOne_43 40 rfl
theorem dX4_twoInOne_78 : decode cX4_twoInOne 78 = .ok (.iload 7, 2) := dall dgX4_twoInOne_43 41 rfl
theorem dX4_twoInOne_80 : decode cX4_twoInOne 80 = .ok (.iload 8, 2) := dall dgX4_twoInOne_43 42 rfl
theorem dX4_twoInOne_82 : decode cX4_twoInOne 82 = .ok (.invokevirtual 54, 3) := dall dgX4_twoInOne_43 43 rfl
theorem dX4_twoInOne_85 : decode cX4_twoInOne 85 = .ok (.istore 9, 2) := dall dgX4_twoInOne_43 44 rfl
theorem dX4_twoInOne_87 : decode cX4_twoInOne 87 = .ok (.iload 9, 2) := dall dgX4_twoInOne_43 45 rfl
theorem dX4_twoInOne_89 : decode cX4_twoInOne 89 = .ok (.iload 6, 2) := dall dgX4_twoInOne_43 46 rfl
theorem dX4_twoInOne_91 : decode cX4_twoInOne 91 = .ok (.if_icmp .ge 17, 3) := dall dgX4_twoInOne_43 47 rfl
theorem dX4_twoInOne_94 : decode cX4_twoInOne 94 = .ok (.iload 9, 2) := dall dgX4_twoInOne_43 48 rfl
theorem dX4_twoInOne_96 : decode cX4_twoInOne 96 = .ok (.istore 6, 2) := dall dgX4_twoInOne_43 49 rfl
def lgX4_twoInOne_44 : List (Nat × Instr × Nat) := [(98, .iload 7, 2), (100, .bipush 9, 2), (102, .imul, 1), (103, .iload 8, 2), (105, .iadd, 1), (106, .istore 5, 2), (108, .iinc 8 1, 3), (111, .goto (-64), 3), (114, .iinc 7 1, 3), (117, .goto (-85), 3), (120, .aload_n 1, 1), (121, .getfield 58, 3), (124, .iload_n 2, 1), (125, .iconst 4, 1), (126, .imul, 1), (127, .aload_n 0, 1), (128, .getfield 18, 3), (131, .iload 4, 2), (133, .iconst 4, 1), (134, .imul, 1), (135, .invokestatic 59, 3), (138, .istore 7, 2), (140, .iload 5, 2), (142, .bipush (-9), 2), (144, .if_icmp .eq 17, 3), (147, .iload 7, 2), (149, .iload 6, 2), (151, .isub, 1), (152, .iload_n 3, 1), (153, .if_icmp .lt 8, 3), (156, .iload 5, 2), (158, .goto 5, 3), (161, .bipush (-9), 2), (163, .ireturn, 1)]
theorem dgX4_twoInOne_44 : ∀ q ∈ lgX4_twoInOne_44, decode cX4_twoInOne q.1 = .ok (q.2.1, q.2.2) := by decide +kernel
theorem dX4_twoInOne_98 : decode cX4_twoInOne 98 = .ok (.iload 7, 2) := dall dgX4_twoInOne_44 0 rfl
theorem dX4_twoInOne_100 : decode cX4_twoInOne 100 = .ok (.bipush 9, 2) := dall dgX4_twoInOne_44 1 rfl
theorem dX4_twoInOne_102 : decode cX4_twoInOne 102 = .ok (.imul, 1) := dall dgX4_twoInOne_44 2 rfl
theorem dX4_twoInOne_103 : decode cX4_twoInOne 103 = .ok (.iload 8, 2) := dall dgX4_twoInOne_44 3 rfl
theorem dX4_twoInOne_105 : decode cX4_twoInOne 105 = .ok (.iadd, 1) := dall dgX4_twoInOne_44 4 rfl
theorem dX4_twoInOne_106 : decode cX4_twoInOne 106 = .ok (.istore 5, 2) := dall dgX4_twoInOne_44 5 rfl
theorem dX4_twoInOne_108 : decode cX4_twoInOne 108 = .ok (.iinc 8 1, 3) := dall dgX4_twoInOne_44 6 rfl
theorem dX4_twoInOne_111 : decode cX4_twoInOne 111 = .ok (.goto (-64), 3) := dall dgX4_twoInOne_44 7 rfl
theorem dX4_twoInOne_114 : decode cX4_twoInOne 114 = .ok (.iinc 7 1, 3) := dall dgX4_twoInOne_44 8 rfl
theorem dX4_twoInOne_117 : decode cX4_twoInOne 117 = .ok (.goto (-85), 3) := dall dgX4_twoInOne_44 9 rfl
theorem dX4_twoInOne_120 : decode cX4_twoInOne 120 = .ok (.aload_n 1, 1) := dall dgX4_twoInOne_44 10 rfl
theorem dX4_twoInOne_121 : decode cX4_twoInOne 121 = .ok (.getfield 58, 3) := dall dgX4_twoInOne_44 11 rfl
theorem dX4_twoInOne_124 : decode cX4_twoInOne 124 = .ok (.iload_n 2, 1) := dall dgX4_twoInOne_44 12 rfl
theorem dX4_twoInOne_125 : decode cX4_twoInOne 125 = .ok (.iconst 4, 1) := dall dgX4_twoInOne_44 13 rfl
theorem dX4_twoInOne_126 : decode cX4_twoInOne 126 = .ok (.imul, 1) := dall dgX4_twoInOne_44 14 rfl
theorem dX4_twoInOne_127 : decode cX4_twoInOne 127 = .ok (.aload_n 0, 1) := dall dgX4_twoInOne_44 15 rfl
theorem dX4_twoInOne_128 : decode cX4_twoInOne 128 = .ok (.getfield 18, 3) := dall dgX4_twoInOne_44 16 rfl
theorem dX4_twoInOne_131 : decode cX4_twoInOne 131 = .ok (.iload 4, 2) := dall dgX4_twoInOne_44 17 rfl
theorem dX4_twoInOne_133 : decode cX4_twoInOne 133 = .ok (.iconst 4, 1) := dall dgX4_twoInOne_44 18 rfl
theorem dX4_twoInOne_134 : decode cX4_twoInOne 134 = .ok (.imul, 1) := dall dgX4_twoInOne_44 19 rfl
theorem dX4_twoInOne_135 : decode cX4_twoInOne 135 = .ok (.invokestatic 59, 3) := dall dgX4_twoInOne_44 20 rfl
theorem dX4_twoInOne_138 : decode cX4_twoInOne 138 = .ok (.istore 7, 2) := dall dgX4_twoInOne_44 21 rfl
theorem dX4_twoInOne_140 : decode cX4_twoInOne 140 = .ok (.iload 5, 2) := dall dgX4_twoInOne_44 22 rfl
theorem dX4_twoInOne_142 : decode cX4_twoInOne 142 = .ok (.bipush (-9), 2) := dall dgX4_twoInOne_44 23 rfl
theorem dX4_twoInOne_144 : decode cX4_twoInOne 144 = .ok (.if_icmp .eq 17, 3) := dall dgX4_twoInOne_44 24 rfl
theorem dX4_twoInOne_147 : decode cX4_twoInOne 147 = .ok (.iload 7, 2) := dall dgX4_twoInOne_44 25 rfl
theorem dX4_twoInOne_149 : decode cX4_twoInOne 149 = .ok (.iload 6, 2) := dall dgX4_twoInOne_44 26 rfl
theorem dX4_twoInOne_151 : decode cX4_twoInOne 151 = .ok (.isub, 1) := dall dgX4_twoInOne_44 27 rfl
theorem dX4_twoInOne_152 : decode cX4_twoInOne 152 = .ok (.iload_n 3, 1) := dall dgX4_twoInOne_44 28 rfl
theorem dX4_twoInOne_153 : decode cX4_twoInOne 153 = .ok (.if_icmp .lt 8, 3) := dall dgX4_twoInOne_44 29 rfl
theorem dX4_twoInOne_156 : decode cX4_twoInOne 156 = .ok (.iload 5, 2) := dall dgX4_twoInOne_44 30 rfl
theorem dX4_twoInOne_158 : decode cX4_twoInOne 158 = .ok (.goto 5, 3) := dall dgX4_twoInOne_44 31 rfl
theorem dX4_twoInOne_161 : decode cX4_twoInOne 161 = .ok (.bipush (-9), 2) := dall dgX4_twoInOne_44 32 rfl
theorem dX4_twoInOne_163 : decode cX4_twoInOne 163 = .ok (.ireturn, 1) := dall dgX4_twoInOne_44 33 rfl
def lgX4_offOfTwo_45 : List (Nat × Instr × Nat) := [(0, .iconst 0, 1), (1, .istore 5, 2), (3, .iconst 0, 1), (4, .istore 6, 2), (6, .iload 6, 2), (8, .iconst 4, 1), (9, .if_icmp .ge 50, 3), (12, .bipush 99, 2), (14, .aload_n 0, 1), (15, .iload_n 3, 1), (16, .iload 6, 2), (18, .invokevirtual 63, 3), (21, .aload_n 0, 1), (22, .iload 4, 2), (24, .iload 6, 2), (26, .invokevirtual 63, 3), (29, .iadd, 1), (30, .invokestatic 67, 3), (33, .istore 7, 2), (35, .iload 5, 2), (37, .iload 7, 2), (39, .aload_n 1, 1), (40, .iload_n 2, 1), (41, .iload 6, 2), (43, .invokevirtual 72, 3), (46, .isub, 1), (47, .invokestatic 73, 3), (50, .iadd, 1), (51, .istore 5, 2), (53, .iinc 6 1, 3), (56, .goto (-50), 3), (59, .iload 5, 2), (61, .ireturn, 1)]
theorem dgX4_offOfTwo_45 : ∀ q ∈ lgX4_offOfTwo_45, decode cX4_offOfTwo q.1 = .ok (q.2.1, q.2.2) := by decide +kernel
theorem dX4_offOfTwo_0 : decode cX4_offOfTwo 0 = .ok (.iconst 0, 1) := dall dgX4_offOfTwo_45 0 rfl
theorem dX4_offOfTwo_1 : decode cX4_offOfTwo 1 = .ok (.istore 5, 2) := dall dgX4_offOfTwo_45 1 rfl
theorem dX4_offOfTwo_3 : decode cX4_offOfTwo 3 = .ok (.iconst 0, 1) := dall dgX4_offOfTwo_45 2 rfl
theorem dX4_offOfTwo_4 : decode cX4_offOfTwo 4 = .ok (.istore 6, 2) := dall dgX4_offOfTwo_45 3 rfl
theorem dX4_offOfTwo_6 : decode cX4_offOfTwo 6 = .ok (.iload 6, 2) := dall dgX4_offOfTwo_45 4 rfl
theorem dX4_offOfTwo_8 : decode cX4_offOfTwo 8 = .ok (.iconst 4, 1) := dall dgX4_offOfTwo_45 5 rfl
theorem dX4_offOfTwo_9 : decode cX4_offOfTwo 9 = .ok (.if_icmp .ge 50, 3) := dall dgX4_offOfTwo_45 6 rfl
theorem dX4_offOfTwo_12 : decode cX4_offOfTwo 12 = .ok (.bipush 99, 2) := dall dgX4_offOfTwo_45 7 rfl
theorem dX4_offOfTwo_14 : decode cX4_offOfTwo 14 = .ok (.aload_n 0, 1) := dall dgX4_offOfTwo_45 8 rfl
theorem dX4_offOfTwo_15 : decode cX4_offOfTwo 15 = .ok (.iload_n 3, 1) := dall dgX4_offOfTwo_45 9 rfl
theorem dX4_offOfTwo_16 : decode cX4_offOfTwo 16 = .ok (.iload 6, 2) := dall dgX4_offOfTwo_45 10 rfl
theorem dX4_offOfTwo_18 : decode cX4_offOfTwo 18 = .ok (.invokevirtual 63, 3) := dall dgX4_offOfTwo_45 11 rfl
theorem dX4_offOfTwo_21 : decode cX4_offOfTwo 21 = .ok (.aload_n 0, 1) := dall dgX4_offOfTwo_45 12 rfl
theorem dX4_offOfTwo_22 : decode cX4_offOfTwo 22 = .ok (.iload 4, 2) := dall dgX4_offOfTwo_45 13 rfl
theorem dX4_offOfTwo_24 : decode cX4_offOfTwo 24 = .ok (.iload 6, 2) := dall dgX4_offOfTwo_45 14 rfl
theorem dX4_offOfTwo_26 : decode cX4_offOfTwo 26 = .ok (.invokevirtual 63, 3) := dall dgX4_offOfTwo_45 15 rfl
theorem dX4_offOfTwo_29 : decode cX4_offOfTwo 29 = .ok (.iadd, 1) := dall dgX4_offOfTwo_45 16 rfl
theorem dX4_offOfTwo_30 : decode cX4_offOfTwo 30 = .ok (.invokestatic 67, 3) := dall dgX4_offOfTwo_45 17 rfl
theorem dX4_offOfTwo_33 : decode cX4_offOfTwo 33 = .ok (.istore 7, 2) := dall dgX4_offOfTwo_45 18 rfl
theorem dX4_offOfTwo_35 : decode cX4_offOfTwo 35 = .ok (.iload 5, 2) := dall dgX4_offOfTwo_45 19 rfl
theorem dX4_offOfTwo_37 : decode cX4_offOfTwo 37 = .ok (.iload 7, 2) := dall dgX4_offOfTwo_45 20 rfl
theorem dX4_offOfTwo_39 : decode cX4_offOfTwo 39 = .ok (.aload_n 1, 1) := dall dgX4_offOfTwo_45 21 rfl
theorem dX4_offOfTwo_40 : decode cX4_offOfTwo 40 = .ok (.iload_n 2, 1) := dall dgX4_offOfTwo_45 22 rfl
theorem dX4_offOfTwo_41 : decode cX4_offOfTwo 41 = .ok (.iload 6, 2) := dall dgX4_offOfTwo_45 23 rfl
theorem dX4_offOfTwo_43 : decode cX4_offOfTwo 43 = .ok (.invokevirtual 72, 3) := dall dgX4_offOfTwo_45 24 rfl
theorem dX4_offOfTwo_46 : decode cX4_offOfTwo 46 = .ok (.isub, 1) := dall dgX4_offOfTwo_45 25 rfl
theorem dX4_offOfTwo_47 : decode cX4_offOfTwo 47 = .ok (.invokestatic 73, 3) := dall dgX4_offOfTwo_45 26 rfl
theorem dX4_offOfTwo_50 : decode cX4_offOfTwo 50 = .ok (.iadd, 1) := dall dgX4_offOfTwo_45 27 rfl
theorem dX4_offOfTwo_51 : decode cX4_offOfTwo 51 = .ok (.istore 5, 2) := dall dgX4_offOfTwo_45 28 rfl
theorem dX4_offOfTwo_53 : decode cX4_offOfTwo 53 = .ok (.iinc 6 1, 3) := dall dgX4_offOfTwo_45 29 rfl
theorem dX4_offOfTwo_56 : decode cX4_offOfTwo 56 = .ok (.goto (-50), 3) := dall dgX4_offOfTwo_45 30 rfl
theorem dX4_offOfTwo_59 : decode cX4_offOfTwo 59 = .ok (.iload 5, 2) := dall dgX4_offOfTwo_45 31 rfl
theorem dX4_offOfTwo_61 : decode cX4_offOfTwo 61 = .ok (.ireturn, 1) := dall dgX4_offOfTwo_45 32 rfl
def lgX5_init_46 : List (Nat × Instr × Nat) := [(0, .aload_n 0, 1), (1, .invokespecial 3, 3), (4, .aload_n 0, 1), (5, .bipush 6, 2), (7, .newarray .int, 2), (9, .putfield 11, 3), (12, .aload_n 0, 1), (13, .bipush 24, 2), (15, .newarray .int, 2), (17, .putfield 15, 3), (20, .aload_n 0, 1), (21, .sipush 512, 3), (24, .newarray .int, 2), (26, .putfield 18, 3), (29, .return_, 1)]
theorem dgX5_init_46 : ∀ q ∈ lgX5_init_46, decode cX5_init q.1 = .ok (q.2.1, q.2.2) := by decide +kernel
theorem dX5_init_0 : decode cX5_init 0 = .ok (.aload_n 0, 1) := dall dgX5_init_46 0 rfl
theorem dX5_init_1 : decode cX5_init 1 = .ok (.invokespecial 3, 3) := dall dgX5_init_46 1 rfl
theorem dX5_init_4 : decode cX5_init 4 = .ok (.aload_n 0, 1) := dall dgX5_init_46 2 rfl
theorem dX5_init_5 : decode cX5_init 5 = .ok (.bipush 6, 2) := dall dgX5_init_46 3 rfl
theorem dX5_init_7 : decode cX5_init 7 = .ok (.newarray .int, 2) := dall dgX5_init_46 4 rfl
theorem dX5_init_9 : decode cX5_init 9 = .ok (.putfield 11, 3) := dall dgX5_init_46 5 rfl
theorem dX5_init_12 : decode cX5_init 12 = .ok (.aload_n 0, 1) := dall dgX5_init_46 6 rfl
theorem dX5_init_13 : decode cX5_init 13 = .ok (.bipush 24, 2) := dall dgX5_init_46 7 rfl
theorem dX5_init_15 : decode cX5_init 15 = .ok (.newarray .int, 2) := dall dgX5_init_46 8 rfl
theorem dX5_init_17 : decode cX5_init 17 = .ok (.putfield 15, 3) := dall dgX5_init_46 9 rfl
theorem dX5_init_20 : decode cX5_init 20 = .ok (.aload_n 0, 1) := dall dgX5_init_46 10 rfl
theorem dX5_init_21 : decode cX5_init 21 = .ok (.sipush 512, 3) := dall dgX5_init_46 11 rfl
theorem dX5_init_24 : decode cX5_init 24 = .ok (.newarray .int, 2) := dall dgX5_init_46 12 rfl
theorem dX5_init_26 : decode cX5_init 26 = .ok (.putfield 18, 3) := dall dgX5_init_46 13 rfl
theorem dX5_init_29 : decode cX5_init 29 = .ok (.return_, 1) := dall dgX5_init_46 14 rfl
def lgX5_has_47 : List (Nat × Instr × Nat) := [(0, .iload_n 1, 1), (1, .ifCond .lt 21, 3), (4, .iload_n 1, 1), (5, .aload_n 0, 1), (6, .getfield 21, 3), (9, .if_icmp .ge 13, 3), (12, .iload_n 1, 1), (13, .bipush 6, 2), (15, .if_icmp .ge 7, 3), (18, .iconst 1, 1), (19, .goto 4, 3), (22, .iconst 0, 1), (23, .ireturn, 1)]
theorem dgX5_has_47 : ∀ q ∈ lgX5_has_47, decode cX5_has q.1 = .ok (q.2.1, q.2.2) := by decide +kernel
theorem dX5_has_0 : decode cX5_has 0 = .ok (.iload_n 1, 1) := dall dgX5_has_47 0 rfl
theorem dX5_has_1 : decode cX5_has 1 = .ok (.ifCond .lt 21, 3) := dall dgX5_has_47 1 rfl
theorem dX5_has_4 : decode cX5_has 4 = .ok (.iload_n 1, 1) := dall dgX5_has_47 2 rfl
theorem dX5_has_5 : decode cX5_has 5 = .ok (.aload_n 0, 1) := dall dgX5_has_47 3 rfl
theorem dX5_has_6 : decode cX5_has 6 = .ok (.getfield 21, 3) := dall dgX5_has_47 4 rfl
theorem dX5_has_9 : decode cX5_has 9 = .ok (.if_icmp .ge 13, 3) := dall dgX5_has_47 5 rfl
theorem dX5_has_12 : decode cX5_has 12 = .ok (.iload_n 1, 1) := dall dgX5_has_47 6 rfl
theorem dX5_has_13 : decode cX5_has 13 = .ok (.bipush 6, 2) := dall dgX5_has_47 7 rfl
theorem dX5_has_15 : decode cX5_has 15 = .ok (.if_icmp .ge 7, 3) := dall dgX5_has_47 8 rfl
theorem dX5_has_18 : decode cX5_has 18 = .ok (.iconst 1, 1) := dall dgX5_has_47 9 rfl
theorem dX5_has_19 : decode cX5_has 19 = .ok (.goto 4, 3) := dall dgX5_has_47 10 rfl
theorem dX5_has_22 : decode cX5_has 22 = .ok (.iconst 0, 1) := dall dgX5_has_47 11 rfl
theorem dX5_has_23 : decode cX5_has 23 = .ok (.ireturn, 1) := dall dgX5_has_47 12 rfl
def lgX5_add_48 : List (Nat × Instr × Nat) := [(0, .aload_n 0, 1), (1, .getfield 21, 3), (4, .bipush 6, 2), (6, .if_icmp .lt 6, 3), (9, .bipush (-3), 2), (11, .ireturn, 1), (12, .aload_n 0, 1), (13, .getfield 21, 3), (16, .istore 4, 2), (18, .aload_n 0, 1), (19, .getfield 11, 3), (22, .iload 4, 2), (24, .iload_n 3, 1), (25, .iastore, 1), (26, .iconst 0, 1), (27, .istore 5, 2), (29, .iload 5, 2), (31, .iconst 4, 1), (32, .if_icmp .ge 28, 3), (35, .aload_n 0, 1), (36, .getfield 15, 3), (39, .iload 4, 2), (41, .iconst 4, 1), (42, .imul, 1), (43, .iload 5, 2), (45, .iadd, 1), (46, .aload_n 1, 1), (47, .iload_n 2, 1), (48, .iload 5, 2), (50, .invokevirtual 25, 3), (53, .iastore, 1), (54, .iinc 5 1, 3), (57, .goto (-28), 3), (60, .aload_n 0, 1), (61, .dup, 1), (62, .getfield 21, 3), (65, .iconst 1, 1), (66, .iadd, 1), (67, .putfield 21, 3), (70, .iload 4, 2), (72, .ireturn, 1)]
theorem dgX5_add_48 : ∀ q ∈ lgX5_add_48, decode cX5_add q.1 = .ok (q.2.1, q.2.2) := by decide +kernel
theorem dX5_add_0 : decode cX5_add 0 = .ok (.aload_n 0, 1) := dall dgX5_add_48 0 rfl
theorem dX5_add_1 : decode cX5_add 1 = .ok (.getfield 21, 3) := dall dgX5_add_48 1 rfl
theorem dX5_add_4 : decode cX5_add 4 = .ok (.bipush 6, 2) := dall dgX5_add_48 2 rfl
theorem dX5_add_6 : decode cX5_add 6 = .ok (.if_icmp .lt 6, 3) := dall dgX5_add_48 3 rfl
theorem dX5_add_9 : decode cX5_add 9 = .ok (.bipush (-3), 2) := dall dgX5_add_48 4 rfl
theorem dX5_add_11 : decode cX5_add 11 = .ok (.ireturn, 1) := dall dgX5_add_48 5 rfl
theorem dX5_add_12 : decode cX5_add 12 = .ok (.aload_n 0, 1) := dall dgX5_add_48 6 rfl
theorem dX5_add_13 : decode cX5_add 13 = .ok (.getfield 21, 3) := dall dgX5_add_48 7 rfl
theorem dX5_add_16 : decode cX5_add 16 = .ok (.istore 4, 2) := dall dgX5_add_48 8 rfl
theorem dX5_add_18 : decode cX5_add 18 = .ok (.aload_n 0, 1) := dall dgX5_add_48 9 rfl
theorem dX5_add_19 : decode cX5_add 19 = .ok (.getfield 11, 3) := dall dgX5_add_48 10 rfl
theorem dX5_add_22 : decode cX5_add 22 = .ok (.iload 4, 2) := dall dgX5_add_48 11 rfl
theorem dX5_add_24 : decode cX5_add 24 = .ok (.iload_n 3, 1) := dall dgX5_add_48 12 rfl
theorem dX5_add_25 : decode cX5_add 25 = .ok (.iastore, 1) := dall dgX5_add_48 13 rfl
theorem dX5_add_26 : decode cX5_add 26 = .ok (.iconst 0, 1) := dall dgX5_add_48 14 rfl
theorem dX5_add_27 : decode cX5_add 27 = .ok (.istore 5, 2) := dall dgX5_add_48 15 rfl
theorem dX5_add_29 : decode cX5_add 29 = .ok (.iload 5, 2) := dall dgX5_add_48 16 rfl
theorem dX5_add_31 : decode cX5_add 31 = .ok (.iconst 4, 1) := dall dgX5_add_48 17 rfl
theorem dX5_add_32 : decode cX5_add 32 = .ok (.if_icmp .ge 28, 3) := dall dgX5_add_48 18 rfl
theorem dX5_add_35 : decode cX5_add 35 = .ok (.aload_n 0, 1) := dall dgX5_add_48 19 rfl
theorem dX5_add_36 : decode cX5_add 36 = .ok (.getfield 15, 3) := dall dgX5_add_48 20 rfl
theorem dX5_add_39 : decode cX5_add 39 = .ok (.iload 4, 2) := dall dgX5_add_48 21 rfl
theorem dX5_add_41 : decode cX5_add 41 = .ok (.iconst 4, 1) := dall dgX5_add_48 22 rfl
theorem dX5_add_42 : decode cX5_add 42 = .ok (.imul, 1) := dall dgX5_add_48 23 rfl
theorem dX5_add_43 : decode cX5_add 43 = .ok (.iload 5, 2) := dall dgX5_add_48 24 rfl
theorem dX5_add_45 : decode cX5_add 45 = .ok (.iadd, 1) := dall dgX5_add_48 25 rfl
theorem dX5_add_46 : decode cX5_add 46 = .ok (.aload_n 1, 1) := dall dgX5_add_48 26 rfl
theorem dX5_add_47 : decode cX5_add 47 = .ok (.iload_n 2, 1) := dall dgX5_add_48 27 rfl
theorem dX5_add_48 : decode cX5_add 48 = .ok (.iload 5, 2) := dall dgX5_add_48 28 rfl
theorem dX5_add_50 : decode cX5_add 50 = .ok (.invokevirtual 25, 3) := dall dgX5_add_48 29 rfl
theorem dX5_add_53 : decode cX5_add 53 = .ok (.iastore, 1) := dall dgX5_add_48 30 rfl
theorem dX5_add_54 : decode cX5_add 54 = .ok (.iinc 5 1, 3) := dall dgX5_add_48 31 rfl
theorem dX5_add_57 : decode cX5_add 57 = .ok (.goto (-28), 3) := dall dgX5_add_48 32 rfl
theorem dX5_add_60 : decode cX5_add 60 = .ok (.aload_n 0, 1) := dall dgX5_add_48 33 rfl
theorem dX5_add_61 : decode cX5_add 61 = .ok (.dup, 1) := dall dgX5_add_48 34 rfl
theorem dX5_add_62 : decode cX5_add 62 = .ok (.getfield 21, 3) := dall dgX5_add_48 35 rfl
theorem dX5_add_65 : decode cX5_add 65 = .ok (.iconst 1, 1) := dall dgX5_add_48 36 rfl
theorem dX5_add_66 : decode cX5_add 66 = .ok (.iadd, 1) := dall dgX5_add_48 37 rfl
theorem dX5_add_67 : decode cX5_add 67 = .ok (.putfield 21, 3) := dall dgX5_add_48 38 rfl
theorem dX5_add_70 : decode cX5_add 70 = .ok (.iload 4, 2) := dall dgX5_add_48 39 rfl
theorem dX5_add_72 : decode cX5_add 72 = .ok (.ireturn, 1) := dall dgX5_add_48 40 rfl
def lgX5_remove_49 : List (Nat × Instr × Nat) := [(0, .aload_n 0, 1), (1, .iload_n 1, 1), (2, .invokevirtual 31, 3), (5, .ifCond .ne 5, 3), (8, .iconst (-1), 1), (9, .ireturn, 1), (10, .aload_n 0, 1), (11, .getfield 11, 3), (14, .iload_n 1, 1), (15, .iaload, 1), (16, .istore_n 2, 1), (17, .iload_n 1, 1), (18, .istore_n 3, 1), (19, .iload_n 3, 1), (20, .aload_n 0, 1), (21, .getfield 21, 3), (24, .iconst 1, 1), (25, .isub, 1), (26, .if_icmp .ge 62, 3), (29, .aload_n 0, 1), (30, .getfield 11, 3), (33, .iload_n 3, 1), (34, .aload_n 0, 1), (35, .getfield 11, 3), (38, .iload_n 3, 1), (39, .iconst 1, 1), (40, .iadd, 1), (41, .iaload, 1), (42, .iastore, 1), (43, .iconst 0, 1), (44, .istore 4, 2), (46, .iload 4, 2), (48, .iconst 4, 1), (49, .if_icmp .ge 33, 3), (52, .aload_n 0, 1), (53, .getfield 15, 3), (56, .iload_n 3, 1), (57, .iconst 4, 1), (58, .imul, 1), (59, .iload 4, 2), (61, .iadd, 1), (62, .aload_n 0, 1), (63, .getfield 15, 3), (66, .iload_n 3, 1), (67, .iconst 1, 1), (68, .iadd, 1), (69, .iconst 4, 1), (70, .imul, 1), (71, .iload 4, 2), (73, .iadd, 1)]
theorem dgX5_remove_49 : ∀ q ∈ lgX5_remove_49, decode cX5_remove q.1 = .ok (q.2.1, q.2.2) := by decide +kernel
theorem dX5_remove_0 : decode cX5_remove 0 = .ok (.aload_n 0, 1) := dall dgX5_remove_49 0 rfl
theorem dX5_remove_1 : decode cX5_remove 1 = .ok (.iload_n 1, 1) := dall dgX5_remove_49 1 rfl
theorem dX5_remove_2 : decode cX5_remove 2 = .ok (.invokevirtual 31, 3) := dall dgX5_remove_49 2 rfl
theorem dX5_remove_5 : decode cX5_remove 5 = .ok (.ifCond .ne 5, 3) := dall dgX5_remove_49 3 rfl
theorem dX5_remove_8 : decode cX5_remove 8 = .ok (.iconst (-1), 1) := dall dgX5_remove_49 4 rfl
theorem dX5_remove_9 : decode cX5_remove 9 = .ok (.ireturn, 1) := dall dgX5_remove_49 5 rfl
theorem dX5_remove_10 : decode cX5_remove 10 = .ok (.aload_n 0, 1) := dall dgX5_remove_49 6 rfl
theorem dX5_remove_11 : decode cX5_remove 11 = .ok (.getfield 11, 3) := dall dgX5_remove_49 7 rfl
theorem dX5_remove_14 : decode cX5_remove 14 = .ok (.iload_n 1, 1) := dall dgX5_remove_49 8 rfl
theorem dX5_remove_15 : decode cX5_remove 15 = .ok (.iaload, 1) := dall dgX5_remove_49 9 rfl
theorem dX5_remove_16 : decode cX5_remove 16 = .ok (.istore_n 2, 1) := dall dgX5_remove_49 10 rfl
theorem dX5_remove_17 : decode cX5_remove 17 = .ok (.iload_n 1, 1) := dall dgX5_remove_49 11 rfl
theorem dX5_remove_18 : decode cX5_remove 18 = .ok (.istore_n 3, 1) := dall dgX5_remove_49 12 rfl
theorem dX5_remove_19 : decode cX5_remove 19 = .ok (.iload_n 3, 1) := dall dgX5_remove_49 13 rfl
theorem dX5_remove_20 : decode cX5_remove 20 = .ok (.aload_n 0, 1) := dall dgX5_remove_49 14 rfl
theorem dX5_remove_21 : decode cX5_remove 21 = .ok (.getfield 21, 3) := dall dgX5_remove_49 15 rfl
theorem dX5_remove_24 : decode cX5_remove 24 = .ok (.iconst 1, 1) := dall dgX5_remove_49 16 rfl
theorem dX5_remove_25 : decode cX5_remove 25 = .ok (.isub, 1) := dall dgX5_remove_49 17 rfl
theorem dX5_remove_26 : decode cX5_remove 26 = .ok (.if_icmp .ge 62, 3) := dall dgX5_remove_49 18 rfl
theorem dX5_remove_29 : decode cX5_remove 29 = .ok (.aload_n 0, 1) := dall dgX5_remove_49 19 rfl
theorem dX5_remove_30 : decode cX5_remove 30 = .ok (.getfield 11, 3) := dall dgX5_remove_49 20 rfl
theorem dX5_remove_33 : decode cX5_remove 33 = .ok (.iload_n 3, 1) := dall dgX5_remove_49 21 rfl
theorem dX5_remove_34 : decode cX5_remove 34 = .ok (.aload_n 0, 1) := dall dgX5_remove_49 22 rfl
theorem dX5_remove_35 : decode cX5_remove 35 = .ok (.getfield 11, 3) := dall dgX5_remove_49 23 rfl
theorem dX5_remove_38 : decode cX5_remove 38 = .ok (.iload_n 3, 1) := dall dgX5_remove_49 24 rfl
theorem dX5_remove_39 : decode cX5_remove 39 = .ok (.iconst 1, 1) := dall dgX5_remove_49 25 rfl
theorem dX5_remove_40 : decode cX5_remove 40 = .ok (.iadd, 1) := dall dgX5_remove_49 26 rfl
theorem dX5_remove_41 : decode cX5_remove 41 = .ok (.iaload, 1) := dall dgX5_remove_49 27 rfl
theorem dX5_remove_42 : decode cX5_remove 42 = .ok (.iastore, 1) := dall dgX5_remove_49 28 rfl
theorem dX5_remove_43 : decode cX5_remove 43 = .ok (.iconst 0, 1) := dall dgX5_remove_49 29 rfl
theorem dX5_remove_44 : decode cX5_remove 44 = .ok (.istore 4, 2) := dall dgX5_remove_49 30 rfl
theorem dX5_remove_46 : decode cX5_remove 46 = .ok (.iload 4, 2) := dall dgX5_remove_49 31 rfl
theorem dX5_remove_48 : decode cX5_remove 48 = .ok (.iconst 4, 1) := dall dgX5_remove_49 32 rfl
theorem dX5_remove_49 : decode cX5_remove 49 = .ok (.if_icmp .ge 33, 3) := dall dgX5_remove_49 33 rfl
theorem dX5_remove_52 : decode cX5_remove 52 = .ok (.aload_n 0, 1) := dall dgX5_remove_49 34 rfl
theorem dX5_remove_53 : decode cX5_remove 53 = .ok (.getfield 15, 3) := dall dgX5_remove_49 35 rfl
theorem dX5_remove_56 : decode cX5_remove 56 = .ok (.iload_n 3, 1) := dall dgX5_remove_49 36 rfl
theorem dX5_remove_57 : decode cX5_remove 57 = .ok (.iconst 4, 1) := dall dgX5_remove_49 37 rfl
theorem dX5_remove_58 : decode cX5_remove 58 = .ok (.imul, 1) := dall dgX5_remove_49 38 rfl
theorem dX5_remove_59 : decode cX5_remove 59 = .ok (.iload 4, 2) := dall dgX5_remove_49 39 rfl
theorem dX5_remove_61 : decode cX5_remove 61 = .ok (.iadd, 1) := dall dgX5_remove_49 40 rfl
theorem dX5_remove_62 : decode cX5_remove 62 = .ok (.aload_n 0, 1) := dall dgX5_remove_49 41 rfl
theorem dX5_remove_63 : decode cX5_remove 63 = .ok (.getfield 15, 3) := dall dgX5_remove_49 42 rfl
theorem dX5_remove_66 : decode cX5_remove 66 = .ok (.iload_n 3, 1) := dall dgX5_remove_49 43 rfl
theorem dX5_remove_67 : decode cX5_remove 67 = .ok (.iconst 1, 1) := dall dgX5_remove_49 44 rfl
theorem dX5_remove_68 : decode cX5_remove 68 = .ok (.iadd, 1) := dall dgX5_remove_49 45 rfl
theorem dX5_remove_69 : decode cX5_remove 69 = .ok (.iconst 4, 1) := dall dgX5_remove_49 46 rfl
theorem dX5_remove_70 : decode cX5_remove 70 = .ok (.imul, 1) := dall dgX5_remove_49 47 rfl
theorem dX5_remove_71 : decode cX5_remove 71 = .ok (.iload 4, 2) := dall dgX5_remove_49 48 rfl
theorem dX5_remove_73 : decode cX5_remove 73 = .ok (.iadd, 1) := dall dgX5_remove_49 49 rfl
def lgX5_remove_50 : List (Nat × Instr × Nat) := [(74, .iaload, 1), (75, .iastore, 1), (76, .iinc 4 1, 3), (79, .goto (-33), 3), (82, .iinc 3 1, 3), (85, .goto (-66), 3), (88, .aload_n 0, 1), (89, .dup, 1), (90, .getfield 21, 3), (93, .iconst 1, 1), (94, .isub, 1), (95, .putfield 21, 3), (98, .iload_n 2, 1), (99, .ireturn, 1)]
theorem dgX5_remove_50 : ∀ q ∈ lgX5_remove_50, decode cX5_remove q.1 = .ok (q.2.1, q.2.2) := by decide +kernel
theorem dX5_remove_74 : decode cX5_remove 74 = .ok (.iaload, 1) := dall dgX5_remove_50 0 rfl
theorem dX5_remove_75 : decode cX5_remove 75 = .ok (.iastore, 1) := dall dgX5_remove_50 1 rfl
theorem dX5_remove_76 : decode cX5_remove 76 = .ok (.iinc 4 1, 3) := dall dgX5_remove_50 2 rfl
theorem dX5_remove_79 : decode cX5_remove 79 = .ok (.goto (-33), 3) := dall dgX5_remove_50 3 rfl
theorem dX5_remove_82 : decode cX5_remove 82 = .ok (.iinc 3 1, 3) := dall dgX5_remove_50 4 rfl
theorem dX5_remove_85 : decode cX5_remove 85 = .ok (.goto (-66), 3) := dall dgX5_remove_50 5 rfl
theorem dX5_remove_88 : decode cX5_remove 88 = .ok (.aload_n 0, 1) := dall dgX5_remove_50 6 rfl
theorem dX5_remove_89 : decode cX5_remove 89 = .ok (.dup, 1) := dall dgX5_remove_50 7 rfl
theorem dX5_remove_90 : decode cX5_remove 90 = .ok (.getfield 21, 3) := dall dgX5_remove_50 8 rfl
theorem dX5_remove_93 : decode cX5_remove 93 = .ok (.iconst 1, 1) := dall dgX5_remove_50 9 rfl
theorem dX5_remove_94 : decode cX5_remove 94 = .ok (.isub, 1) := dall dgX5_remove_50 10 rfl
theorem dX5_remove_95 : decode cX5_remove 95 = .ok (.putfield 21, 3) := dall dgX5_remove_50 11 rfl
theorem dX5_remove_98 : decode cX5_remove 98 = .ok (.iload_n 2, 1) := dall dgX5_remove_50 12 rfl
theorem dX5_remove_99 : decode cX5_remove 99 = .ok (.ireturn, 1) := dall dgX5_remove_50 13 rfl
def lgX5_nearestTo_51 : List (Nat × Instr × Nat) := [(0, .bipush (-9), 2), (2, .istore 4, 2), (4, .iload_n 3, 1), (5, .istore 5, 2), (7, .aload_n 0, 1), (8, .getfield 21, 3), (11, .iconst 1, 1), (12, .isub, 1), (13, .istore 6, 2), (15, .iload 6, 2), (17, .ifCond .lt 44, 3), (20, .aload_n 0, 1), (21, .getfield 15, 3), (24, .iload 6, 2), (26, .iconst 4, 1), (27, .imul, 1), (28, .aload_n 1, 1), (29, .getfield 35, 3), (32, .iload_n 2, 1), (33, .iconst 4, 1), (34, .imul, 1), (35, .invokestatic 36, 3), (38, .istore 7, 2), (40, .iload 7, 2), (42, .iload 5, 2), (44, .if_icmp .gt 11, 3), (47, .iload 7, 2), (49, .istore 5, 2), (51, .iload 6, 2), (53, .istore 4, 2), (55, .iinc 6 (-1), 3), (58, .goto (-43), 3), (61, .iload 4, 2), (63, .ireturn, 1)]
theorem dgX5_nearestTo_51 : ∀ q ∈ lgX5_nearestTo_51, decode cX5_nearestTo q.1 = .ok (q.2.1, q.2.2) := by decide +kernel
theorem dX5_nearestTo_0 : decode cX5_nearestTo 0 = .ok (.bipush (-9), 2) := dall dgX5_nearestTo_51 0 rfl
theorem dX5_nearestTo_2 : decode cX5_nearestTo 2 = .ok (.istore 4, 2) := dall dgX5_nearestTo_51 1 rfl
theorem dX5_nearestTo_4 : decode cX5_nearestTo 4 = .ok (.iload_n 3, 1) := dall dgX5_nearestTo_51 2 rfl
theorem dX5_nearestTo_5 : decode cX5_nearestTo 5 = .ok (.istore 5, 2) := dall dgX5_nearestTo_51 3 rfl
theorem dX5_nearestTo_7 : decode cX5_nearestTo 7 = .ok (.aload_n 0, 1) := dall dgX5_nearestTo_51 4 rfl
theorem dX5_nearestTo_8 : decode cX5_nearestTo 8 = .ok (.getfield 21, 3) := dall dgX5_nearestTo_51 5 rfl
theorem dX5_nearestTo_11 : decode cX5_nearestTo 11 = .ok (.iconst 1, 1) := dall dgX5_nearestTo_51 6 rfl
theorem dX5_nearestTo_12 : decode cX5_nearestTo 12 = .ok (.isub, 1) := dall dgX5_nearestTo_51 7 rfl
theorem dX5_nearestTo_13 : decode cX5_nearestTo 13 = .ok (.istore 6, 2) := dall dgX5_nearestTo_51 8 rfl
theorem dX5_nearestTo_15 : decode cX5_nearestTo 15 = .ok (.iload 6, 2) := dall dgX5_nearestTo_51 9 rfl
theorem dX5_nearestTo_17 : decode cX5_nearestTo 17 = .ok (.ifCond .lt 44, 3) := dall dgX5_nearestTo_51 10 rfl
theorem dX5_nearestTo_20 : decode cX5_nearestTo 20 = .ok (.aload_n 0, 1) := dall dgX5_nearestTo_51 11 rfl
theorem dX5_nearestTo_21 : decode cX5_nearestTo 21 = .ok (.getfield 15, 3) := dall dgX5_nearestTo_51 12 rfl
theorem dX5_nearestTo_24 : decode cX5_nearestTo 24 = .ok (.iload 6, 2) := dall dgX5_nearestTo_51 13 rfl
theorem dX5_nearestTo_26 : decode cX5_nearestTo 26 = .ok (.iconst 4, 1) := dall dgX5_nearestTo_51 14 rfl
theorem dX5_nearestTo_27 : decode cX5_nearestTo 27 = .ok (.imul, 1) := dall dgX5_nearestTo_51 15 rfl
theorem dX5_nearestTo_28 : decode cX5_nearestTo 28 = .ok (.aload_n 1, 1) := dall dgX5_nearestTo_51 16 rfl
theorem dX5_nearestTo_29 : decode cX5_nearestTo 29 = .ok (.getfield 35, 3) := dall dgX5_nearestTo_51 17 rfl
theorem dX5_nearestTo_32 : decode cX5_nearestTo 32 = .ok (.iload_n 2, 1) := dall dgX5_nearestTo_51 18 rfl
theorem dX5_nearestTo_33 : decode cX5_nearestTo 33 = .ok (.iconst 4, 1) := dall dgX5_nearestTo_51 19 rfl
theorem dX5_nearestTo_34 : decode cX5_nearestTo 34 = .ok (.imul, 1) := dall dgX5_nearestTo_51 20 rfl
theorem dX5_nearestTo_35 : decode cX5_nearestTo 35 = .ok (.invokestatic 36, 3) := dall dgX5_nearestTo_51 21 rfl
theorem dX5_nearestTo_38 : decode cX5_nearestTo 38 = .ok (.istore 7, 2) := dall dgX5_nearestTo_51 22 rfl
theorem dX5_nearestTo_40 : decode cX5_nearestTo 40 = .ok (.iload 7, 2) := dall dgX5_nearestTo_51 23 rfl
theorem dX5_nearestTo_42 : decode cX5_nearestTo 42 = .ok (.iload 5, 2) := dall dgX5_nearestTo_51 24 rfl
theorem dX5_nearestTo_44 : decode cX5_nearestTo 44 = .ok (.if_icmp .gt 11, 3) := dall dgX5_nearestTo_51 25 rfl
theorem dX5_nearestTo_47 : decode cX5_nearestTo 47 = .ok (.iload 7, 2) := dall dgX5_nearestTo_51 26 rfl
theorem dX5_nearestTo_49 : decode cX5_nearestTo 49 = .ok (.istore 5, 2) := dall dgX5_nearestTo_51 27 rfl
theorem dX5_nearestTo_51 : decode cX5_nearestTo 51 = .ok (.iload 6, 2) := dall dgX5_nearestTo_51 28 rfl
theorem dX5_nearestTo_53 : decode cX5_nearestTo 53 = .ok (.istore 4, 2) := dall dgX5_nearestTo_51 29 rfl
theorem dX5_nearestTo_55 : decode cX5_nearestTo 55 = .ok (.iinc 6 (-1), 3) := dall dgX5_nearestTo_51 30 rfl
theorem dX5_nearestTo_58 : decode cX5_nearestTo 58 = .ok (.goto (-43), 3) := dall dgX5_nearestTo_51 31 rfl
theorem dX5_nearestTo_61 : decode cX5_nearestTo 61 = .ok (.iload 4, 2) := dall dgX5_nearestTo_51 32 rfl
theorem dX5_nearestTo_63 : decode cX5_nearestTo 63 = .ok (.ireturn, 1) := dall dgX5_nearestTo_51 33 rfl
def lgX5_dealsOf_52 : List (Nat × Instr × Nat) := [(0, .aload_n 1, 1), (1, .getfield 40, 3), (4, .bipush 9, 2), (6, .invokestatic 45, 3), (9, .istore 5, 2), (11, .aload_n 0, 1), (12, .aload_n 1, 1), (13, .iload 5, 2), (15, .iload_n 3, 1), (16, .invokevirtual 50, 3), (19, .iload_n 2, 1), (20, .ifCond .lt 11, 3), (23, .iload_n 2, 1), (24, .iconst 1, 1), (25, .iload 5, 2), (27, .ishl, 1), (28, .if_icmp .lt 5, 3), (31, .iconst 0, 1), (32, .ireturn, 1), (33, .iload_n 2, 1), (34, .invokestatic 54, 3), (37, .istore 6, 2), (39, .iconst 0, 1), (40, .istore 7, 2), (42, .iconst 0, 1), (43, .istore 8, 2), (45, .iload 8, 2), (47, .iconst 1, 1), (48, .iload 5, 2), (50, .ishl, 1), (51, .if_icmp .ge 43, 3), (54, .iload 8, 2), (56, .invokestatic 54, 3), (59, .iload 6, 2), (61, .if_icmp .ne 27, 3), (64, .iload 4, 2), (66, .ifCond .ne 19, 3), (69, .aload_n 0, 1), (70, .getfield 18, 3), (73, .iload 8, 2), (75, .iaload, 1), (76, .aload_n 0, 1), (77, .getfield 18, 3), (80, .iload_n 2, 1), (81, .iaload, 1), (82, .if_icmp .gt 6, 3), (85, .iinc 7 1, 3), (88, .iinc 8 1, 3), (91, .goto (-46), 3), (94, .iload 7, 2)]
theorem dgX5_dealsOf_52 : ∀ q ∈ lgX5_dealsOf_52, decode cX5_dealsOf q.1 = .ok (q.2.1, q.2.2) := by decide +kernel
theorem dX5_dealsOf_0 : decode cX5_dealsOf 0 = .ok (.aload_n 1, 1) := dall dgX5_dealsOf_52 0 rfl
theorem dX5_dealsOf_1 : decode cX5_dealsOf 1 = .ok (.getfield 40, 3) := dall dgX5_dealsOf_52 1 rfl
theorem dX5_dealsOf_4 : decode cX5_dealsOf 4 = .ok (.bipush 9, 2) := dall dgX5_dealsOf_52 2 rfl
theorem dX5_dealsOf_6 : decode cX5_dealsOf 6 = .ok (.invokestatic 45, 3) := dall dgX5_dealsOf_52 3 rfl
theorem dX5_dealsOf_9 : decode cX5_dealsOf 9 = .ok (.istore 5, 2) := dall dgX5_dealsOf_52 4 rfl
theorem dX5_dealsOf_11 : decode cX5_dealsOf 11 = .ok (.aload_n 0, 1) := dall dgX5_dealsOf_52 5 rfl
theorem dX5_dealsOf_12 : decode cX5_dealsOf 12 = .ok (.aload_n 1, 1) := dall dgX5_dealsOf_52 6 rfl
theorem dX5_dealsOf_13 : decode cX5_dealsOf 13 = .ok (.iload 5, 2) := dall dgX5_dealsOf_52 7 rfl
theorem dX5_dealsOf_15 : decode cX5_dealsOf 15 = .ok (.iload_n 3, 1) := dall dgX5_dealsOf_52 8 rfl
theorem dX5_dealsOf_16 : decode cX5_dealsOf 16 = .ok (.invokevirtual 50, 3) := dall dgX5_dealsOf_52 9 rfl
theorem dX5_dealsOf_19 : decode cX5_dealsOf 19 = .ok (.iload_n 2, 1) := dall dgX5_dealsOf_52 10 rfl
theorem dX5_dealsOf_20 : decode cX5_dealsOf 20 = .ok (.ifCond .lt 11, 3) := dall dgX5_dealsOf_52 11 rfl
theorem dX5_dealsOf_23 : decode cX5_dealsOf 23 = .ok (.iload_n 2, 1) := dall dgX5_dealsOf_52 12 rfl
theorem dX5_dealsOf_24 : decode cX5_dealsOf 24 = .ok (.iconst 1, 1) := dall dgX5_dealsOf_52 13 rfl
theorem dX5_dealsOf_25 : decode cX5_dealsOf 25 = .ok (.iload 5, 2) := dall dgX5_dealsOf_52 14 rfl
theorem dX5_dealsOf_27 : decode cX5_dealsOf 27 = .ok (.ishl, 1) := dall dgX5_dealsOf_52 15 rfl
theorem dX5_dealsOf_28 : decode cX5_dealsOf 28 = .ok (.if_icmp .lt 5, 3) := dall dgX5_dealsOf_52 16 rfl
theorem dX5_dealsOf_31 : decode cX5_dealsOf 31 = .ok (.iconst 0, 1) := dall dgX5_dealsOf_52 17 rfl
theorem dX5_dealsOf_32 : decode cX5_dealsOf 32 = .ok (.ireturn, 1) := dall dgX5_dealsOf_52 18 rfl
theorem dX5_dealsOf_33 : decode cX5_dealsOf 33 = .ok (.iload_n 2, 1) := dall dgX5_dealsOf_52 19 rfl
theorem dX5_dealsOf_34 : decode cX5_dealsOf 34 = .ok (.invokestatic 54, 3) := dall dgX5_dealsOf_52 20 rfl
theorem dX5_dealsOf_37 : decode cX5_dealsOf 37 = .ok (.istore 6, 2) := dall dgX5_dealsOf_52 21 rfl
theorem dX5_dealsOf_39 : decode cX5_dealsOf 39 = .ok (.iconst 0, 1) := dall dgX5_dealsOf_52 22 rfl
theorem dX5_dealsOf_40 : decode cX5_dealsOf 40 = .ok (.istore 7, 2) := dall dgX5_dealsOf_52 23 rfl
theorem dX5_dealsOf_42 : decode cX5_dealsOf 42 = .ok (.iconst 0, 1) := dall dgX5_dealsOf_52 24 rfl
theorem dX5_dealsOf_43 : decode cX5_dealsOf 43 = .ok (.istore 8, 2) := dall dgX5_dealsOf_52 25 rfl
theorem dX5_dealsOf_45 : decode cX5_dealsOf 45 = .ok (.iload 8, 2) := dall dgX5_dealsOf_52 26 rfl
theorem dX5_dealsOf_47 : decode cX5_dealsOf 47 = .ok (.iconst 1, 1) := dall dgX5_dealsOf_52 27 rfl
theorem dX5_dealsOf_48 : decode cX5_dealsOf 48 = .ok (.iload 5, 2) := dall dgX5_dealsOf_52 28 rfl
theorem dX5_dealsOf_50 : decode cX5_dealsOf 50 = .ok (.ishl, 1) := dall dgX5_dealsOf_52 29 rfl
theorem dX5_dealsOf_51 : decode cX5_dealsOf 51 = .ok (.if_icmp .ge 43, 3) := dall dgX5_dealsOf_52 30 rfl
theorem dX5_dealsOf_54 : decode cX5_dealsOf 54 = .ok (.iload 8, 2) := dall dgX5_dealsOf_52 31 rfl
theorem dX5_dealsOf_56 : decode cX5_dealsOf 56 = .ok (.invokestatic 54, 3) := dall dgX5_dealsOf_52 32 rfl
theorem dX5_dealsOf_59 : decode cX5_dealsOf 59 = .ok (.iload 6, 2) := dall dgX5_dealsOf_52 33 rfl
theorem dX5_dealsOf_61 : decode cX5_dealsOf 61 = .ok (.if_icmp .ne 27, 3) := dall dgX5_dealsOf_52 34 rfl
theorem dX5_dealsOf_64 : decode cX5_dealsOf 64 = .ok (.iload 4, 2) := dall dgX5_dealsOf_52 35 rfl
theorem dX5_dealsOf_66 : decode cX5_dealsOf 66 = .ok (.ifCond .ne 19, 3) := dall dgX5_dealsOf_52 36 rfl
theorem dX5_dealsOf_69 : decode cX5_dealsOf 69 = .ok (.aload_n 0, 1) := dall dgX5_dealsOf_52 37 rfl
theorem dX5_dealsOf_70 : decode cX5_dealsOf 70 = .ok (.getfield 18, 3) := dall dgX5_dealsOf_52 38 rfl
theorem dX5_dealsOf_73 : decode cX5_dealsOf 73 = .ok (.iload 8, 2) := dall dgX5_dealsOf_52 39 rfl
theorem dX5_dealsOf_75 : decode cX5_dealsOf 75 = .ok (.iaload, 1) := dall dgX5_dealsOf_52 40 rfl
theorem dX5_dealsOf_76 : decode cX5_dealsOf 76 = .ok (.aload_n 0, 1) := dall dgX5_dealsOf_52 41 rfl
theorem dX5_dealsOf_77 : decode cX5_dealsOf 77 = .ok (.getfield 18, 3) := dall dgX5_dealsOf_52 42 rfl
theorem dX5_dealsOf_80 : decode cX5_dealsOf 80 = .ok (.iload_n 2, 1) := dall dgX5_dealsOf_52 43 rfl
theorem dX5_dealsOf_81 : decode cX5_dealsOf 81 = .ok (.iaload, 1) := dall dgX5_dealsOf_52 44 rfl
theorem dX5_dealsOf_82 : decode cX5_dealsOf 82 = .ok (.if_icmp .gt 6, 3) := dall dgX5_dealsOf_52 45 rfl
theorem dX5_dealsOf_85 : decode cX5_dealsOf 85 = .ok (.iinc 7 1, 3) := dall dgX5_dealsOf_52 46 rfl
theorem dX5_dealsOf_88 : decode cX5_dealsOf 88 = .ok (.iinc 8 1, 3) := dall dgX5_dealsOf_52 47 rfl
theorem dX5_dealsOf_91 : decode cX5_dealsOf 91 = .ok (.goto (-46), 3) := dall dgX5_dealsOf_52 48 rfl
theorem dX5_dealsOf_94 : decode cX5_dealsOf 94 = .ok (.iload 7, 2) := dall dgX5_dealsOf_52 49 rfl
def lgX5_dealsOf_53 : List (Nat × Instr × Nat) := [(96, .ireturn, 1)]
theorem dgX5_dealsOf_53 : ∀ q ∈ lgX5_dealsOf_53, decode cX5_dealsOf q.1 = .ok (q.2.1, q.2.2) := by decide +kernel
theorem dX5_dealsOf_96 : decode cX5_dealsOf 96 = .ok (.ireturn, 1) := dall dgX5_dealsOf_53 0 rfl
def lgX5_fillOffs_54 : List (Nat × Instr × Nat) := [(0, .aload_n 0, 1), (1, .getfield 18, 3), (4, .iconst 0, 1), (5, .iconst 0, 1), (6, .iastore, 1), (7, .iconst 0, 1), (8, .istore 4, 2), (10, .iload 4, 2), (12, .iload_n 2, 1), (13, .if_icmp .ge 71, 3), (16, .aload_n 1, 1), (17, .getfield 60, 3), (20, .iload 4, 2), (22, .iconst 4, 1), (23, .imul, 1), (24, .aload_n 0, 1), (25, .getfield 15, 3), (28, .iload_n 3, 1), (29, .iconst 4, 1), (30, .imul, 1), (31, .invokestatic 36, 3), (34, .istore 5, 2), (36, .iconst 1, 1), (37, .iload 4, 2), (39, .ishl, 1), (40, .istore 6, 2), (42, .iconst 0, 1), (43, .istore 7, 2), (45, .iload 7, 2), (47, .iload 6, 2), (49, .if_icmp .ge 29, 3), (52, .aload_n 0, 1), (53, .getfield 18, 3), (56, .iload 6, 2), (58, .iload 7, 2), (60, .ior, 1), (61, .aload_n 0, 1), (62, .getfield 18, 3), (65, .iload 7, 2), (67, .iaload, 1), (68, .iload 5, 2), (70, .iadd, 1), (71, .iastore, 1), (72, .iinc 7 1, 3), (75, .goto (-30), 3), (78, .iinc 4 1, 3), (81, .goto (-71), 3), (84, .return_, 1)]
theorem dgX5_fillOffs_54 : ∀ q ∈ lgX5_fillOffs_54, decode cX5_fillOffs q.1 = .ok (q.2.1, q.2.2) := by decide +kernel
theorem dX5_fillOffs_0 : decode cX5_fillOffs 0 = .ok (.aload_n 0, 1) := dall dgX5_fillOffs_54 0 rfl
theorem dX5_fillOffs_1 : decode cX5_fillOffs 1 = .ok (.getfield 18, 3) := dall dgX5_fillOffs_54 1 rfl
theorem dX5_fillOffs_4 : decode cX5_fillOffs 4 = .ok (.iconst 0, 1) := dall dgX5_fillOffs_54 2 rfl
theorem dX5_fillOffs_5 : decode cX5_fillOffs 5 = .ok (.iconst 0, 1) := dall dgX5_fillOffs_54 3 rfl
theorem dX5_fillOffs_6 : decode cX5_fillOffs 6 = .ok (.iastore, 1) := dall dgX5_fillOffs_54 4 rfl
theorem dX5_fillOffs_7 : decode cX5_fillOffs 7 = .ok (.iconst 0, 1) := dall dgX5_fillOffs_54 5 rfl
theorem dX5_fillOffs_8 : decode cX5_fillOffs 8 = .ok (.istore 4, 2) := dall dgX5_fillOffs_54 6 rfl
theorem dX5_fillOffs_10 : decode cX5_fillOffs 10 = .ok (.iload 4, 2) := dall dgX5_fillOffs_54 7 rfl
theorem dX5_fillOffs_12 : decode cX5_fillOffs 12 = .ok (.iload_n 2, 1) := dall dgX5_fillOffs_54 8 rfl
theorem dX5_fillOffs_13 : decode cX5_fillOffs 13 = .ok (.if_icmp .ge 71, 3) := dall dgX5_fillOffs_54 9 rfl
theorem dX5_fillOffs_16 : decode cX5_fillOffs 16 = .ok (.aload_n 1, 1) := dall dgX5_fillOffs_54 10 rfl
theorem dX5_fillOffs_17 : decode cX5_fillOffs 17 = .ok (.getfield 60, 3) := dall dgX5_fillOffs_54 11 rfl
theorem dX5_fillOffs_20 : decode cX5_fillOffs 20 = .ok (.iload 4, 2) := dall dgX5_fillOffs_54 12 rfl
theorem dX5_fillOffs_22 : decode cX5_fillOffs 22 = .ok (.iconst 4, 1) := dall dgX5_fillOffs_54 13 rfl
theorem dX5_fillOffs_23 : decode cX5_fillOffs 23 = .ok (.imul, 1) := dall dgX5_fillOffs_54 14 rfl
theorem dX5_fillOffs_24 : decode cX5_fillOffs 24 = .ok (.aload_n 0, 1) := dall dgX5_fillOffs_54 15 rfl
theorem dX5_fillOffs_25 : decode cX5_fillOffs 25 = .ok (.getfield 15, 3) := dall dgX5_fillOffs_54 16 rfl
theorem dX5_fillOffs_28 : decode cX5_fillOffs 28 = .ok (.iload_n 3, 1) := dall dgX5_fillOffs_54 17 rfl
theorem dX5_fillOffs_29 : decode cX5_fillOffs 29 = .ok (.iconst 4, 1) := dall dgX5_fillOffs_54 18 rfl
theorem dX5_fillOffs_30 : decode cX5_fillOffs 30 = .ok (.imul, 1) := dall dgX5_fillOffs_54 19 rfl
theorem dX5_fillOffs_31 : decode cX5_fillOffs 31 = .ok (.invokestatic 36, 3) := dall dgX5_fillOffs_54 20 rfl
theorem dX5_fillOffs_34 : decode cX5_fillOffs 34 = .ok (.istore 5, 2) := dall dgX5_fillOffs_54 21 rfl
theorem dX5_fillOffs_36 : decode cX5_fillOffs 36 = .ok (.iconst 1, 1) := dall dgX5_fillOffs_54 22 rfl
theorem dX5_fillOffs_37 : decode cX5_fillOffs 37 = .ok (.iload 4, 2) := dall dgX5_fillOffs_54 23 rfl
theorem dX5_fillOffs_39 : decode cX5_fillOffs 39 = .ok (.ishl, 1) := dall dgX5_fillOffs_54 24 rfl
theorem dX5_fillOffs_40 : decode cX5_fillOffs 40 = .ok (.istore 6, 2) := dall dgX5_fillOffs_54 25 rfl
theorem dX5_fillOffs_42 : decode cX5_fillOffs 42 = .ok (.iconst 0, 1) := dall dgX5_fillOffs_54 26 rfl
theorem dX5_fillOffs_43 : decode cX5_fillOffs 43 = .ok (.istore 7, 2) := dall dgX5_fillOffs_54 27 rfl
theorem dX5_fillOffs_45 : decode cX5_fillOffs 45 = .ok (.iload 7, 2) := dall dgX5_fillOffs_54 28 rfl
theorem dX5_fillOffs_47 : decode cX5_fillOffs 47 = .ok (.iload 6, 2) := dall dgX5_fillOffs_54 29 rfl
theorem dX5_fillOffs_49 : decode cX5_fillOffs 49 = .ok (.if_icmp .ge 29, 3) := dall dgX5_fillOffs_54 30 rfl
theorem dX5_fillOffs_52 : decode cX5_fillOffs 52 = .ok (.aload_n 0, 1) := dall dgX5_fillOffs_54 31 rfl
theorem dX5_fillOffs_53 : decode cX5_fillOffs 53 = .ok (.getfield 18, 3) := dall dgX5_fillOffs_54 32 rfl
theorem dX5_fillOffs_56 : decode cX5_fillOffs 56 = .ok (.iload 6, 2) := dall dgX5_fillOffs_54 33 rfl
theorem dX5_fillOffs_58 : decode cX5_fillOffs 58 = .ok (.iload 7, 2) := dall dgX5_fillOffs_54 34 rfl
theorem dX5_fillOffs_60 : decode cX5_fillOffs 60 = .ok (.ior, 1) := dall dgX5_fillOffs_54 35 rfl
theorem dX5_fillOffs_61 : decode cX5_fillOffs 61 = .ok (.aload_n 0, 1) := dall dgX5_fillOffs_54 36 rfl
theorem dX5_fillOffs_62 : decode cX5_fillOffs 62 = .ok (.getfield 18, 3) := dall dgX5_fillOffs_54 37 rfl
theorem dX5_fillOffs_65 : decode cX5_fillOffs 65 = .ok (.iload 7, 2) := dall dgX5_fillOffs_54 38 rfl
theorem dX5_fillOffs_67 : decode cX5_fillOffs 67 = .ok (.iaload, 1) := dall dgX5_fillOffs_54 39 rfl
theorem dX5_fillOffs_68 : decode cX5_fillOffs 68 = .ok (.iload 5, 2) := dall dgX5_fillOffs_54 40 rfl
theorem dX5_fillOffs_70 : decode cX5_fillOffs 70 = .ok (.iadd, 1) := dall dgX5_fillOffs_54 41 rfl
theorem dX5_fillOffs_71 : decode cX5_fillOffs 71 = .ok (.iastore, 1) := dall dgX5_fillOffs_54 42 rfl
theorem dX5_fillOffs_72 : decode cX5_fillOffs 72 = .ok (.iinc 7 1, 3) := dall dgX5_fillOffs_54 43 rfl
theorem dX5_fillOffs_75 : decode cX5_fillOffs 75 = .ok (.goto (-30), 3) := dall dgX5_fillOffs_54 44 rfl
theorem dX5_fillOffs_78 : decode cX5_fillOffs 78 = .ok (.iinc 4 1, 3) := dall dgX5_fillOffs_54 45 rfl
theorem dX5_fillOffs_81 : decode cX5_fillOffs 81 = .ok (.goto (-71), 3) := dall dgX5_fillOffs_54 46 rfl
theorem dX5_fillOffs_84 : decode cX5_fillOffs 84 = .ok (.return_, 1) := dall dgX5_fillOffs_54 47 rfl
def lgX6_init_55 : List (Nat × Instr × Nat) := [(0, .aload_n 0, 1), (1, .invokespecial 1, 3), (4, .return_, 1)]
theorem dgX6_init_55 : ∀ q ∈ lgX6_init_55, decode cX6_init q.1 = .ok (q.2.1, q.2.2) := by decide +kernel
theorem dX6_init_0 : decode cX6_init 0 = .ok (.aload_n 0, 1) := dall dgX6_init_55 0 rfl
theorem dX6_init_1 : decode cX6_init 1 = .ok (.invokespecial 1, 3) := dall dgX6_init_55 1 rfl
theorem dX6_init_4 : decode cX6_init 4 = .ok (.return_, 1) := dall dgX6_init_55 2 rfl
def lgX6_weigh_56 : List (Nat × Instr × Nat) := [(0, .iload_n 1, 1), (1, .tableswitch 94 0 6 #[43, 50, 57, 64, 71, 78, 85], 43), (44, .aload_n 0, 1), (45, .aload_n 2, 1), (46, .iload_n 3, 1), (47, .invokevirtual 7, 3), (50, .ireturn, 1), (51, .aload_n 0, 1), (52, .aload_n 2, 1), (53, .iload_n 3, 1), (54, .invokevirtual 13, 3), (57, .ireturn, 1), (58, .aload_n 0, 1), (59, .aload_n 2, 1), (60, .iload_n 3, 1), (61, .invokevirtual 16, 3), (64, .ireturn, 1), (65, .aload_n 0, 1), (66, .aload_n 2, 1), (67, .iload_n 3, 1), (68, .invokevirtual 19, 3), (71, .ireturn, 1), (72, .aload_n 0, 1), (73, .aload_n 2, 1), (74, .iload_n 3, 1), (75, .invokevirtual 22, 3), (78, .ireturn, 1), (79, .aload_n 0, 1), (80, .aload_n 2, 1), (81, .iload_n 3, 1), (82, .invokevirtual 25, 3), (85, .ireturn, 1), (86, .aload_n 0, 1), (87, .aload_n 2, 1), (88, .iload_n 3, 1), (89, .iload 4, 2), (91, .invokevirtual 28, 3), (94, .ireturn, 1), (95, .aload_n 0, 1), (96, .aload_n 2, 1), (97, .iload_n 3, 1), (98, .invokevirtual 32, 3), (101, .ireturn, 1)]
theorem dgX6_weigh_56 : ∀ q ∈ lgX6_weigh_56, decode cX6_weigh q.1 = .ok (q.2.1, q.2.2) := by decide +kernel
theorem dX6_weigh_0 : decode cX6_weigh 0 = .ok (.iload_n 1, 1) := dall dgX6_weigh_56 0 rfl
theorem dX6_weigh_1 : decode cX6_weigh 1 = .ok (.tableswitch 94 0 6 #[43, 50, 57, 64, 71, 78, 85], 43) := dall dgX6_weigh_56 1 rfl
theorem dX6_weigh_44 : decode cX6_weigh 44 = .ok (.aload_n 0, 1) := dall dgX6_weigh_56 2 rfl
theorem dX6_weigh_45 : decode cX6_weigh 45 = .ok (.aload_n 2, 1) := dall dgX6_weigh_56 3 rfl
theorem dX6_weigh_46 : decode cX6_weigh 46 = .ok (.iload_n 3, 1) := dall dgX6_weigh_56 4 rfl
theorem dX6_weigh_47 : decode cX6_weigh 47 = .ok (.invokevirtual 7, 3) := dall dgX6_weigh_56 5 rfl
theorem dX6_weigh_50 : decode cX6_weigh 50 = .ok (.ireturn, 1) := dall dgX6_weigh_56 6 rfl
theorem dX6_weigh_51 : decode cX6_weigh 51 = .ok (.aload_n 0, 1) := dall dgX6_weigh_56 7 rfl
theorem dX6_weigh_52 : decode cX6_weigh 52 = .ok (.aload_n 2, 1) := dall dgX6_weigh_56 8 rfl
theorem dX6_weigh_53 : decode cX6_weigh 53 = .ok (.iload_n 3, 1) := dall dgX6_weigh_56 9 rfl
theorem dX6_weigh_54 : decode cX6_weigh 54 = .ok (.invokevirtual 13, 3) := dall dgX6_weigh_56 10 rfl
theorem dX6_weigh_57 : decode cX6_weigh 57 = .ok (.ireturn, 1) := dall dgX6_weigh_56 11 rfl
theorem dX6_weigh_58 : decode cX6_weigh 58 = .ok (.aload_n 0, 1) := dall dgX6_weigh_56 12 rfl
theorem dX6_weigh_59 : decode cX6_weigh 59 = .ok (.aload_n 2, 1) := dall dgX6_weigh_56 13 rfl
theorem dX6_weigh_60 : decode cX6_weigh 60 = .ok (.iload_n 3, 1) := dall dgX6_weigh_56 14 rfl
theorem dX6_weigh_61 : decode cX6_weigh 61 = .ok (.invokevirtual 16, 3) := dall dgX6_weigh_56 15 rfl
theorem dX6_weigh_64 : decode cX6_weigh 64 = .ok (.ireturn, 1) := dall dgX6_weigh_56 16 rfl
theorem dX6_weigh_65 : decode cX6_weigh 65 = .ok (.aload_n 0, 1) := dall dgX6_weigh_56 17 rfl
theorem dX6_weigh_66 : decode cX6_weigh 66 = .ok (.aload_n 2, 1) := dall dgX6_weigh_56 18 rfl
theorem dX6_weigh_67 : decode cX6_weigh 67 = .ok (.iload_n 3, 1) := dall dgX6_weigh_56 19 rfl
theorem dX6_weigh_68 : decode cX6_weigh 68 = .ok (.invokevirtual 19, 3) := dall dgX6_weigh_56 20 rfl
theorem dX6_weigh_71 : decode cX6_weigh 71 = .ok (.ireturn, 1) := dall dgX6_weigh_56 21 rfl
theorem dX6_weigh_72 : decode cX6_weigh 72 = .ok (.aload_n 0, 1) := dall dgX6_weigh_56 22 rfl
theorem dX6_weigh_73 : decode cX6_weigh 73 = .ok (.aload_n 2, 1) := dall dgX6_weigh_56 23 rfl
theorem dX6_weigh_74 : decode cX6_weigh 74 = .ok (.iload_n 3, 1) := dall dgX6_weigh_56 24 rfl
theorem dX6_weigh_75 : decode cX6_weigh 75 = .ok (.invokevirtual 22, 3) := dall dgX6_weigh_56 25 rfl
theorem dX6_weigh_78 : decode cX6_weigh 78 = .ok (.ireturn, 1) := dall dgX6_weigh_56 26 rfl
theorem dX6_weigh_79 : decode cX6_weigh 79 = .ok (.aload_n 0, 1) := dall dgX6_weigh_56 27 rfl
theorem dX6_weigh_80 : decode cX6_weigh 80 = .ok (.aload_n 2, 1) := dall dgX6_weigh_56 28 rfl
theorem dX6_weigh_81 : decode cX6_weigh 81 = .ok (.iload_n 3, 1) := dall dgX6_weigh_56 29 rfl
theorem dX6_weigh_82 : decode cX6_weigh 82 = .ok (.invokevirtual 25, 3) := dall dgX6_weigh_56 30 rfl
theorem dX6_weigh_85 : decode cX6_weigh 85 = .ok (.ireturn, 1) := dall dgX6_weigh_56 31 rfl
theorem dX6_weigh_86 : decode cX6_weigh 86 = .ok (.aload_n 0, 1) := dall dgX6_weigh_56 32 rfl
theorem dX6_weigh_87 : decode cX6_weigh 87 = .ok (.aload_n 2, 1) := dall dgX6_weigh_56 33 rfl
theorem dX6_weigh_88 : decode cX6_weigh 88 = .ok (.iload_n 3, 1) := dall dgX6_weigh_56 34 rfl
theorem dX6_weigh_89 : decode cX6_weigh 89 = .ok (.iload 4, 2) := dall dgX6_weigh_56 35 rfl
theorem dX6_weigh_91 : decode cX6_weigh 91 = .ok (.invokevirtual 28, 3) := dall dgX6_weigh_56 36 rfl
theorem dX6_weigh_94 : decode cX6_weigh 94 = .ok (.ireturn, 1) := dall dgX6_weigh_56 37 rfl
theorem dX6_weigh_95 : decode cX6_weigh 95 = .ok (.aload_n 0, 1) := dall dgX6_weigh_56 38 rfl
theorem dX6_weigh_96 : decode cX6_weigh 96 = .ok (.aload_n 2, 1) := dall dgX6_weigh_56 39 rfl
theorem dX6_weigh_97 : decode cX6_weigh 97 = .ok (.iload_n 3, 1) := dall dgX6_weigh_56 40 rfl
theorem dX6_weigh_98 : decode cX6_weigh 98 = .ok (.invokevirtual 32, 3) := dall dgX6_weigh_56 41 rfl
theorem dX6_weigh_101 : decode cX6_weigh 101 = .ok (.ireturn, 1) := dall dgX6_weigh_56 42 rfl
def lgX6_span_57 : List (Nat × Instr × Nat) := [(0, .aload_n 0, 1), (1, .dup, 1), (2, .getfield 35, 3), (5, .lconst 1, 1), (6, .ladd, 1), (7, .putfield 35, 3), (10, .aload_n 1, 1), (11, .getfield 39, 3), (14, .iload_n 2, 1), (15, .iaload, 1), (16, .ireturn, 1)]
theorem dgX6_span_57 : ∀ q ∈ lgX6_span_57, decode cX6_span q.1 = .ok (q.2.1, q.2.2) := by decide +kernel
theorem dX6_span_0 : decode cX6_span 0 = .ok (.aload_n 0, 1) := dall dgX6_span_57 0 rfl
theorem dX6_span_1 : decode cX6_span 1 = .ok (.dup, 1) := dall dgX6_span_57 1 rfl
theorem dX6_span_2 : decode cX6_span 2 = .ok (.getfield 35, 3) := dall dgX6_span_57 2 rfl
theorem dX6_span_5 : decode cX6_span 5 = .ok (.lconst 1, 1) := dall dgX6_span_57 3 rfl
theorem dX6_span_6 : decode cX6_span 6 = .ok (.ladd, 1) := dall dgX6_span_57 4 rfl
theorem dX6_span_7 : decode cX6_span 7 = .ok (.putfield 35, 3) := dall dgX6_span_57 5 rfl
theorem dX6_span_10 : decode cX6_span 10 = .ok (.aload_n 1, 1) := dall dgX6_span_57 6 rfl
theorem dX6_span_11 : decode cX6_span 11 = .ok (.getfield 39, 3) := dall dgX6_span_57 7 rfl
theorem dX6_span_14 : decode cX6_span 14 = .ok (.iload_n 2, 1) := dall dgX6_span_57 8 rfl
theorem dX6_span_15 : decode cX6_span 15 = .ok (.iaload, 1) := dall dgX6_span_57 9 rfl
theorem dX6_span_16 : decode cX6_span 16 = .ok (.ireturn, 1) := dall dgX6_span_57 10 rfl
def lgX6_voice_58 : List (Nat × Instr × Nat) := [(0, .aload_n 0, 1), (1, .dup, 1), (2, .getfield 35, 3), (5, .ldc2_w 45, 3), (8, .ladd, 1), (9, .putfield 35, 3), (12, .aload_n 0, 1), (13, .aload_n 1, 1), (14, .iload_n 2, 1), (15, .invokevirtual 7, 3), (18, .aload_n 1, 1), (19, .iload_n 2, 1), (20, .iconst 0, 1), (21, .invokevirtual 47, 3), (24, .iadd, 1), (25, .ireturn, 1)]
theorem dgX6_voice_58 : ∀ q ∈ lgX6_voice_58, decode cX6_voice q.1 = .ok (q.2.1, q.2.2) := by decide +kernel
theorem dX6_voice_0 : decode cX6_voice 0 = .ok (.aload_n 0, 1) := dall dgX6_voice_58 0 rfl
theorem dX6_voice_1 : decode cX6_voice 1 = .ok (.dup, 1) := dall dgX6_voice_58 1 rfl
theorem dX6_voice_2 : decode cX6_voice 2 = .ok (.getfield 35, 3) := dall dgX6_voice_58 2 rfl
theorem dX6_voice_5 : decode cX6_voice 5 = .ok (.ldc2_w 45, 3) := dall dgX6_voice_58 3 rfl
theorem dX6_voice_8 : decode cX6_voice 8 = .ok (.ladd, 1) := dall dgX6_voice_58 4 rfl
theorem dX6_voice_9 : decode cX6_voice 9 = .ok (.putfield 35, 3) := dall dgX6_voice_58 5 rfl
theorem dX6_voice_12 : decode cX6_voice 12 = .ok (.aload_n 0, 1) := dall dgX6_voice_58 6 rfl
theorem dX6_voice_13 : decode cX6_voice 13 = .ok (.aload_n 1, 1) := dall dgX6_voice_58 7 rfl
theorem dX6_voice_14 : decode cX6_voice 14 = .ok (.iload_n 2, 1) := dall dgX6_voice_58 8 rfl
theorem dX6_voice_15 : decode cX6_voice 15 = .ok (.invokevirtual 7, 3) := dall dgX6_voice_58 9 rfl
theorem dX6_voice_18 : decode cX6_voice 18 = .ok (.aload_n 1, 1) := dall dgX6_voice_58 10 rfl
theorem dX6_voice_19 : decode cX6_voice 19 = .ok (.iload_n 2, 1) := dall dgX6_voice_58 11 rfl
theorem dX6_voice_20 : decode cX6_voice 20 = .ok (.iconst 0, 1) := dall dgX6_voice_58 12 rfl
theorem dX6_voice_21 : decode cX6_voice 21 = .ok (.invokevirtual 47, 3) := dall dgX6_voice_58 13 rfl
theorem dX6_voice_24 : decode cX6_voice 24 = .ok (.iadd, 1) := dall dgX6_voice_58 14 rfl
theorem dX6_voice_25 : decode cX6_voice 25 = .ok (.ireturn, 1) := dall dgX6_voice_58 15 rfl
def lgX6_talk_59 : List (Nat × Instr × Nat) := [(0, .aload_n 0, 1), (1, .dup, 1), (2, .getfield 35, 3), (5, .ldc2_w 51, 3), (8, .ladd, 1), (9, .putfield 35, 3), (12, .aload_n 0, 1), (13, .aload_n 1, 1), (14, .iload_n 2, 1), (15, .invokevirtual 13, 3), (18, .aload_n 1, 1), (19, .getfield 53, 3), (22, .iload_n 2, 1), (23, .iaload, 1), (24, .iadd, 1), (25, .ireturn, 1)]
theorem dgX6_talk_59 : ∀ q ∈ lgX6_talk_59, decode cX6_talk q.1 = .ok (q.2.1, q.2.2) := by decide +kernel
theorem dX6_talk_0 : decode cX6_talk 0 = .ok (.aload_n 0, 1) := dall dgX6_talk_59 0 rfl
theorem dX6_talk_1 : decode cX6_talk 1 = .ok (.dup, 1) := dall dgX6_talk_59 1 rfl
theorem dX6_talk_2 : decode cX6_talk 2 = .ok (.getfield 35, 3) := dall dgX6_talk_59 2 rfl
theorem dX6_talk_5 : decode cX6_talk 5 = .ok (.ldc2_w 51, 3) := dall dgX6_talk_59 3 rfl
theorem dX6_talk_8 : decode cX6_talk 8 = .ok (.ladd, 1) := dall dgX6_talk_59 4 rfl
theorem dX6_talk_9 : decode cX6_talk 9 = .ok (.putfield 35, 3) := dall dgX6_talk_59 5 rfl
theorem dX6_talk_12 : decode cX6_talk 12 = .ok (.aload_n 0, 1) := dall dgX6_talk_59 6 rfl
theorem dX6_talk_13 : decode cX6_talk 13 = .ok (.aload_n 1, 1) := dall dgX6_talk_59 7 rfl
theorem dX6_talk_14 : decode cX6_talk 14 = .ok (.iload_n 2, 1) := dall dgX6_talk_59 8 rfl
theorem dX6_talk_15 : decode cX6_talk 15 = .ok (.invokevirtual 13, 3) := dall dgX6_talk_59 9 rfl
theorem dX6_talk_18 : decode cX6_talk 18 = .ok (.aload_n 1, 1) := dall dgX6_talk_59 10 rfl
theorem dX6_talk_19 : decode cX6_talk 19 = .ok (.getfield 53, 3) := dall dgX6_talk_59 11 rfl
theorem dX6_talk_22 : decode cX6_talk 22 = .ok (.iload_n 2, 1) := dall dgX6_talk_59 12 rfl
theorem dX6_talk_23 : decode cX6_talk 23 = .ok (.iaload, 1) := dall dgX6_talk_59 13 rfl
theorem dX6_talk_24 : decode cX6_talk 24 = .ok (.iadd, 1) := dall dgX6_talk_59 14 rfl
theorem dX6_talk_25 : decode cX6_talk 25 = .ok (.ireturn, 1) := dall dgX6_talk_59 15 rfl
def lgX6_two_60 : List (Nat × Instr × Nat) := [(0, .aload_n 0, 1), (1, .dup, 1), (2, .getfield 35, 3), (5, .ldc2_w 56, 3), (8, .ladd, 1), (9, .putfield 35, 3), (12, .aload_n 0, 1), (13, .aload_n 1, 1), (14, .iload_n 2, 1), (15, .invokevirtual 16, 3), (18, .iconst 1, 1), (19, .iadd, 1), (20, .iconst 2, 1), (21, .idiv, 1), (22, .ireturn, 1)]
theorem dgX6_two_60 : ∀ q ∈ lgX6_two_60, decode cX6_two q.1 = .ok (q.2.1, q.2.2) := by decide +kernel
theorem dX6_two_0 : decode cX6_two 0 = .ok (.aload_n 0, 1) := dall dgX6_two_60 0 rfl
theorem dX6_two_1 : decode cX6_two 1 = .ok (.dup, 1) := dall dgX6_two_60 1 rfl
theorem dX6_two_2 : decode cX6_two 2 = .ok (.getfield 35, 3) := dall dgX6_two_60 2 rfl
theorem dX6_two_5 : decode cX6_two 5 = .ok (.ldc2_w 56, 3) := dall dgX6_two_60 3 rfl
theorem dX6_two_8 : decode cX6_two 8 = .ok (.ladd, 1) := dall dgX6_two_60 4 rfl
theorem dX6_two_9 : decode cX6_two 9 = .ok (.putfield 35, 3) := dall dgX6_two_60 5 rfl
theorem dX6_two_12 : decode cX6_two 12 = .ok (.aload_n 0, 1) := dall dgX6_two_60 6 rfl
theorem dX6_two_13 : decode cX6_two 13 = .ok (.aload_n 1, 1) := dall dgX6_two_60 7 rfl
theorem dX6_two_14 : decode cX6_two 14 = .ok (.iload_n 2, 1) := dall dgX6_two_60 8 rfl
theorem dX6_two_15 : decode cX6_two 15 = .ok (.invokevirtual 16, 3) := dall dgX6_two_60 9 rfl
theorem dX6_two_18 : decode cX6_two 18 = .ok (.iconst 1, 1) := dall dgX6_two_60 10 rfl
theorem dX6_two_19 : decode cX6_two 19 = .ok (.iadd, 1) := dall dgX6_two_60 11 rfl
theorem dX6_two_20 : decode cX6_two 20 = .ok (.iconst 2, 1) := dall dgX6_two_60 12 rfl
theorem dX6_two_21 : decode cX6_two 21 = .ok (.idiv, 1) := dall dgX6_two_60 13 rfl
theorem dX6_two_22 : decode cX6_two 22 = .ok (.ireturn, 1) := dall dgX6_two_60 14 rfl
def lgX6_brief_61 : List (Nat × Instr × Nat) := [(0, .aload_n 0, 1), (1, .dup, 1), (2, .getfield 35, 3), (5, .ldc2_w 58, 3), (8, .ladd, 1), (9, .putfield 35, 3), (12, .iconst 0, 1), (13, .aload_n 0, 1), (14, .aload_n 1, 1), (15, .iload_n 2, 1), (16, .invokevirtual 16, 3), (19, .iconst 3, 1), (20, .isub, 1), (21, .invokestatic 60, 3), (24, .ireturn, 1)]
theorem dgX6_brief_61 : ∀ q ∈ lgX6_brief_61, decode cX6_brief q.1 = .ok (q.2.1, q.2.2) := by decide +kernel
theorem dX6_brief_0 : decode cX6_brief 0 = .ok (.aload_n 0, 1) := dall dgX6_brief_61 0 rfl
theorem dX6_brief_1 : decode cX6_brief 1 = .ok (.dup, 1) := dall dgX6_brief_61 1 rfl
theorem dX6_brief_2 : decode cX6_brief 2 = .ok (.getfield 35, 3) := dall dgX6_brief_61 2 rfl
theorem dX6_brief_5 : decode cX6_brief 5 = .ok (.ldc2_w 58, 3) := dall dgX6_brief_61 3 rfl
theorem dX6_brief_8 : decode cX6_brief 8 = .ok (.ladd, 1) := dall dgX6_brief_61 4 rfl
theorem dX6_brief_9 : decode cX6_brief 9 = .ok (.putfield 35, 3) := dall dgX6_brief_61 5 rfl
theorem dX6_brief_12 : decode cX6_brief 12 = .ok (.iconst 0, 1) := dall dgX6_brief_61 6 rfl
theorem dX6_brief_13 : decode cX6_brief 13 = .ok (.aload_n 0, 1) := dall dgX6_brief_61 7 rfl
theorem dX6_brief_14 : decode cX6_brief 14 = .ok (.aload_n 1, 1) := dall dgX6_brief_61 8 rfl
theorem dX6_brief_15 : decode cX6_brief 15 = .ok (.iload_n 2, 1) := dall dgX6_brief_61 9 rfl
theorem dX6_brief_16 : decode cX6_brief 16 = .ok (.invokevirtual 16, 3) := dall dgX6_brief_61 10 rfl
theorem dX6_brief_19 : decode cX6_brief 19 = .ok (.iconst 3, 1) := dall dgX6_brief_61 11 rfl
theorem dX6_brief_20 : decode cX6_brief 20 = .ok (.isub, 1) := dall dgX6_brief_61 12 rfl
theorem dX6_brief_21 : decode cX6_brief 21 = .ok (.invokestatic 60, 3) := dall dgX6_brief_61 13 rfl
theorem dX6_brief_24 : decode cX6_brief 24 = .ok (.ireturn, 1) := dall dgX6_brief_61 14 rfl
def lgX6_far_62 : List (Nat × Instr × Nat) := [(0, .aload_n 0, 1), (1, .dup, 1), (2, .getfield 35, 3), (5, .ldc2_w 65, 3), (8, .ladd, 1), (9, .putfield 35, 3), (12, .aload_n 0, 1), (13, .aload_n 1, 1), (14, .iload_n 2, 1), (15, .invokevirtual 13, 3), (18, .iconst 3, 1), (19, .idiv, 1), (20, .ireturn, 1)]
theorem dgX6_far_62 : ∀ q ∈ lgX6_far_62, decode cX6_far q.1 = .ok (q.2.1, q.2.2) := by decide +kernel
theorem dX6_far_0 : decode cX6_far 0 = .ok (.aload_n 0, 1) := dall dgX6_far_62 0 rfl
theorem dX6_far_1 : decode cX6_far 1 = .ok (.dup, 1) := dall dgX6_far_62 1 rfl
theorem dX6_far_2 : decode cX6_far 2 = .ok (.getfield 35, 3) := dall dgX6_far_62 2 rfl
theorem dX6_far_5 : decode cX6_far 5 = .ok (.ldc2_w 65, 3) := dall dgX6_far_62 3 rfl
theorem dX6_far_8 : decode cX6_far 8 = .ok (.ladd, 1) := dall dgX6_far_62 4 rfl
theorem dX6_far_9 : decode cX6_far 9 = .ok (.putfield 35, 3) := dall dgX6_far_62 5 rfl
theorem dX6_far_12 : decode cX6_far 12 = .ok (.aload_n 0, 1) := dall dgX6_far_62 6 rfl
theorem dX6_far_13 : decode cX6_far 13 = .ok (.aload_n 1, 1) := dall dgX6_far_62 7 rfl
theorem dX6_far_14 : decode cX6_far 14 = .ok (.iload_n 2, 1) := dall dgX6_far_62 8 rfl
theorem dX6_far_15 : decode cX6_far 15 = .ok (.invokevirtual 13, 3) := dall dgX6_far_62 9 rfl
theorem dX6_far_18 : decode cX6_far 18 = .ok (.iconst 3, 1) := dall dgX6_far_62 10 rfl
theorem dX6_far_19 : decode cX6_far 19 = .ok (.idiv, 1) := dall dgX6_far_62 11 rfl
theorem dX6_far_20 : decode cX6_far 20 = .ok (.ireturn, 1) := dall dgX6_far_62 12 rfl
def lgX6_known_63 : List (Nat × Instr × Nat) := [(0, .aload_n 0, 1), (1, .dup, 1), (2, .getfield 35, 3), (5, .ldc2_w 67, 3), (8, .ladd, 1), (9, .putfield 35, 3), (12, .aload_n 0, 1), (13, .aload_n 1, 1), (14, .iload_n 2, 1), (15, .invokevirtual 13, 3), (18, .bipush 7, 2), (20, .iload_n 3, 1), (21, .imul, 1), (22, .iadd, 1), (23, .ireturn, 1)]
theorem dgX6_known_63 : ∀ q ∈ lgX6_known_63, decode cX6_known q.1 = .ok (q.2.1, q.2.2) := by decide +kernel
theorem dX6_known_0 : decode cX6_known 0 = .ok (.aload_n 0, 1) := dall dgX6_known_63 0 rfl
theorem dX6_known_1 : decode cX6_known 1 = .ok (.dup, 1) := dall dgX6_known_63 1 rfl
theorem dX6_known_2 : decode cX6_known 2 = .ok (.getfield 35, 3) := dall dgX6_known_63 2 rfl
theorem dX6_known_5 : decode cX6_known 5 = .ok (.ldc2_w 67, 3) := dall dgX6_known_63 3 rfl
theorem dX6_known_8 : decode cX6_known 8 = .ok (.ladd, 1) := dall dgX6_known_63 4 rfl
theorem dX6_known_9 : decode cX6_known 9 = .ok (.putfield 35, 3) := dall dgX6_known_63 5 rfl
theorem dX6_known_12 : decode cX6_known 12 = .ok (.aload_n 0, 1) := dall dgX6_known_63 6 rfl
theorem dX6_known_13 : decode cX6_known 13 = .ok (.aload_n 1, 1) := dall dgX6_known_63 7 rfl
theorem dX6_known_14 : decode cX6_known 14 = .ok (.iload_n 2, 1) := dall dgX6_known_63 8 rfl
theorem dX6_known_15 : decode cX6_known 15 = .ok (.invokevirtual 13, 3) := dall dgX6_known_63 9 rfl
theorem dX6_known_18 : decode cX6_known 18 = .ok (.bipush 7, 2) := dall dgX6_known_63 10 rfl
theorem dX6_known_20 : decode cX6_known 20 = .ok (.iload_n 3, 1) := dall dgX6_known_63 11 rfl
theorem dX6_known_21 : decode cX6_known 21 = .ok (.imul, 1) := dall dgX6_known_63 12 rfl
theorem dX6_known_22 : decode cX6_known 22 = .ok (.iadd, 1) := dall dgX6_known_63 13 rfl
theorem dX6_known_23 : decode cX6_known 23 = .ok (.ireturn, 1) := dall dgX6_known_63 14 rfl
def lgX6_noise_64 : List (Nat × Instr × Nat) := [(0, .aload_n 0, 1), (1, .dup, 1), (2, .getfield 35, 3), (5, .ldc2_w 69, 3), (8, .ladd, 1), (9, .putfield 35, 3), (12, .aload_n 0, 1), (13, .aload_n 1, 1), (14, .iload_n 2, 1), (15, .invokevirtual 7, 3), (18, .istore_n 3, 1), (19, .iload_n 3, 1), (20, .iload_n 3, 1), (21, .imul, 1), (22, .bipush 89, 2), (24, .irem, 1), (25, .ireturn, 1)]
theorem dgX6_noise_64 : ∀ q ∈ lgX6_noise_64, decode cX6_noise q.1 = .ok (q.2.1, q.2.2) := by decide +kernel
theorem dX6_noise_0 : decode cX6_noise 0 = .ok (.aload_n 0, 1) := dall dgX6_noise_64 0 rfl
theorem dX6_noise_1 : decode cX6_noise 1 = .ok (.dup, 1) := dall dgX6_noise_64 1 rfl
theorem dX6_noise_2 : decode cX6_noise 2 = .ok (.getfield 35, 3) := dall dgX6_noise_64 2 rfl
theorem dX6_noise_5 : decode cX6_noise 5 = .ok (.ldc2_w 69, 3) := dall dgX6_noise_64 3 rfl
theorem dX6_noise_8 : decode cX6_noise 8 = .ok (.ladd, 1) := dall dgX6_noise_64 4 rfl
theorem dX6_noise_9 : decode cX6_noise 9 = .ok (.putfield 35, 3) := dall dgX6_noise_64 5 rfl
theorem dX6_noise_12 : decode cX6_noise 12 = .ok (.aload_n 0, 1) := dall dgX6_noise_64 6 rfl
theorem dX6_noise_13 : decode cX6_noise 13 = .ok (.aload_n 1, 1) := dall dgX6_noise_64 7 rfl
theorem dX6_noise_14 : decode cX6_noise 14 = .ok (.iload_n 2, 1) := dall dgX6_noise_64 8 rfl
theorem dX6_noise_15 : decode cX6_noise 15 = .ok (.invokevirtual 7, 3) := dall dgX6_noise_64 9 rfl
theorem dX6_noise_18 : decode cX6_noise 18 = .ok (.istore_n 3, 1) := dall dgX6_noise_64 10 rfl
theorem dX6_noise_19 : decode cX6_noise 19 = .ok (.iload_n 3, 1) := dall dgX6_noise_64 11 rfl
theorem dX6_noise_20 : decode cX6_noise 20 = .ok (.iload_n 3, 1) := dall dgX6_noise_64 12 rfl
theorem dX6_noise_21 : decode cX6_noise 21 = .ok (.imul, 1) := dall dgX6_noise_64 13 rfl
theorem dX6_noise_22 : decode cX6_noise 22 = .ok (.bipush 89, 2) := dall dgX6_noise_64 14 rfl
theorem dX6_noise_24 : decode cX6_noise 24 = .ok (.irem, 1) := dall dgX6_noise_64 15 rfl
theorem dX6_noise_25 : decode cX6_noise 25 = .ok (.ireturn, 1) := dall dgX6_noise_64 16 rfl
def lgX7_init_65 : List (Nat × Instr × Nat) := [(0, .aload_n 0, 1), (1, .invokespecial 3, 3), (4, .aload_n 0, 1), (5, .sipush 192, 3), (8, .newarray .int, 2), (10, .putfield 9, 3), (13, .aload_n 0, 1), (14, .bipush 48, 2), (16, .newarray .boolean, 2), (18, .putfield 15, 3), (21, .aload_n 0, 1), (22, .bipush 48, 2), (24, .newarray .boolean, 2), (26, .putfield 19, 3), (29, .aload_n 0, 1), (30, .bipush 48, 2), (32, .newarray .int, 2), (34, .putfield 22, 3), (37, .return_, 1)]
theorem dgX7_init_65 : ∀ q ∈ lgX7_init_65, decode cX7_init q.1 = .ok (q.2.1, q.2.2) := by decide +kernel
theorem dX7_init_0 : decode cX7_init 0 = .ok (.aload_n 0, 1) := dall dgX7_init_65 0 rfl
theorem dX7_init_1 : decode cX7_init 1 = .ok (.invokespecial 3, 3) := dall dgX7_init_65 1 rfl
theorem dX7_init_4 : decode cX7_init 4 = .ok (.aload_n 0, 1) := dall dgX7_init_65 2 rfl
theorem dX7_init_5 : decode cX7_init 5 = .ok (.sipush 192, 3) := dall dgX7_init_65 3 rfl
theorem dX7_init_8 : decode cX7_init 8 = .ok (.newarray .int, 2) := dall dgX7_init_65 4 rfl
theorem dX7_init_10 : decode cX7_init 10 = .ok (.putfield 9, 3) := dall dgX7_init_65 5 rfl
theorem dX7_init_13 : decode cX7_init 13 = .ok (.aload_n 0, 1) := dall dgX7_init_65 6 rfl
theorem dX7_init_14 : decode cX7_init 14 = .ok (.bipush 48, 2) := dall dgX7_init_65 7 rfl
theorem dX7_init_16 : decode cX7_init 16 = .ok (.newarray .boolean, 2) := dall dgX7_init_65 8 rfl
theorem dX7_init_18 : decode cX7_init 18 = .ok (.putfield 15, 3) := dall dgX7_init_65 9 rfl
theorem dX7_init_21 : decode cX7_init 21 = .ok (.aload_n 0, 1) := dall dgX7_init_65 10 rfl
theorem dX7_init_22 : decode cX7_init 22 = .ok (.bipush 48, 2) := dall dgX7_init_65 11 rfl
theorem dX7_init_24 : decode cX7_init 24 = .ok (.newarray .boolean, 2) := dall dgX7_init_65 12 rfl
theorem dX7_init_26 : decode cX7_init 26 = .ok (.putfield 19, 3) := dall dgX7_init_65 13 rfl
theorem dX7_init_29 : decode cX7_init 29 = .ok (.aload_n 0, 1) := dall dgX7_init_65 14 rfl
theorem dX7_init_30 : decode cX7_init 30 = .ok (.bipush 48, 2) := dall dgX7_init_65 15 rfl
theorem dX7_init_32 : decode cX7_init 32 = .ok (.newarray .int, 2) := dall dgX7_init_65 16 rfl
theorem dX7_init_34 : decode cX7_init 34 = .ok (.putfield 22, 3) := dall dgX7_init_65 17 rfl
theorem dX7_init_37 : decode cX7_init 37 = .ok (.return_, 1) := dall dgX7_init_65 18 rfl
def lgX7_addRow_66 : List (Nat × Instr × Nat) := [(0, .aload_n 0, 1), (1, .invokevirtual 25, 3), (4, .istore 5, 2), (6, .iload 5, 2), (8, .ifCond .lt 58, 3), (11, .aload_n 0, 1), (12, .getfield 15, 3), (15, .iload 5, 2), (17, .iconst 0, 1), (18, .bastore, 1), (19, .aload_n 0, 1), (20, .getfield 9, 3), (23, .iload 5, 2), (25, .iconst 4, 1), (26, .imul, 1), (27, .iload_n 1, 1), (28, .iastore, 1), (29, .aload_n 0, 1), (30, .getfield 9, 3), (33, .iload 5, 2), (35, .iconst 4, 1), (36, .imul, 1), (37, .iconst 1, 1), (38, .iadd, 1), (39, .iload_n 2, 1), (40, .iastore, 1), (41, .aload_n 0, 1), (42, .getfield 9, 3), (45, .iload 5, 2), (47, .iconst 4, 1), (48, .imul, 1), (49, .iconst 2, 1), (50, .iadd, 1), (51, .iload_n 3, 1), (52, .iastore, 1), (53, .aload_n 0, 1), (54, .getfield 9, 3), (57, .iload 5, 2), (59, .iconst 4, 1), (60, .imul, 1), (61, .iconst 3, 1), (62, .iadd, 1), (63, .iload 4, 2), (65, .iastore, 1), (66, .iload 5, 2), (68, .ireturn, 1)]
theorem dgX7_addRow_66 : ∀ q ∈ lgX7_addRow_66, decode cX7_addRow q.1 = .ok (q.2.1, q.2.2) := by decide +kernel
theorem dX7_addRow_0 : decode cX7_addRow 0 = .ok (.aload_n 0, 1) := dall dgX7_addRow_66 0 rfl
theorem dX7_addRow_1 : decode cX7_addRow 1 = .ok (.invokevirtual 25, 3) := dall dgX7_addRow_66 1 rfl
theorem dX7_addRow_4 : decode cX7_addRow 4 = .ok (.istore 5, 2) := dall dgX7_addRow_66 2 rfl
theorem dX7_addRow_6 : decode cX7_addRow 6 = .ok (.iload 5, 2) := dall dgX7_addRow_66 3 rfl
theorem dX7_addRow_8 : decode cX7_addRow 8 = .ok (.ifCond .lt 58, 3) := dall dgX7_addRow_66 4 rfl
theorem dX7_addRow_11 : decode cX7_addRow 11 = .ok (.aload_n 0, 1) := dall dgX7_addRow_66 5 rfl
theorem dX7_addRow_12 : decode cX7_addRow 12 = .ok (.getfield 15, 3) := dall dgX7_addRow_66 6 rfl
theorem dX7_addRow_15 : decode cX7_addRow 15 = .ok (.iload 5, 2) := dall dgX7_addRow_66 7 rfl
theorem dX7_addRow_17 : decode cX7_addRow 17 = .ok (.iconst 0, 1) := dall dgX7_addRow_66 8 rfl
theorem dX7_addRow_18 : decode cX7_addRow 18 = .ok (.bastore, 1) := dall dgX7_addRow_66 9 rfl
theorem dX7_addRow_19 : decode cX7_addRow 19 = .ok (.aload_n 0, 1) := dall dgX7_addRow_66 10 rfl
theorem dX7_addRow_20 : decode cX7_addRow 20 = .ok (.getfield 9, 3) := dall dgX7_addRow_66 11 rfl
theorem dX7_addRow_23 : decode cX7_addRow 23 = .ok (.iload 5, 2) := dall dgX7_addRow_66 12 rfl
theorem dX7_addRow_25 : decode cX7_addRow 25 = .ok (.iconst 4, 1) := dall dgX7_addRow_66 13 rfl
theorem dX7_addRow_26 : decode cX7_addRow 26 = .ok (.imul, 1) := dall dgX7_addRow_66 14 rfl
theorem dX7_addRow_27 : decode cX7_addRow 27 = .ok (.iload_n 1, 1) := dall dgX7_addRow_66 15 rfl
theorem dX7_addRow_28 : decode cX7_addRow 28 = .ok (.iastore, 1) := dall dgX7_addRow_66 16 rfl
theorem dX7_addRow_29 : decode cX7_addRow 29 = .ok (.aload_n 0, 1) := dall dgX7_addRow_66 17 rfl
theorem dX7_addRow_30 : decode cX7_addRow 30 = .ok (.getfield 9, 3) := dall dgX7_addRow_66 18 rfl
theorem dX7_addRow_33 : decode cX7_addRow 33 = .ok (.iload 5, 2) := dall dgX7_addRow_66 19 rfl
theorem dX7_addRow_35 : decode cX7_addRow 35 = .ok (.iconst 4, 1) := dall dgX7_addRow_66 20 rfl
theorem dX7_addRow_36 : decode cX7_addRow 36 = .ok (.imul, 1) := dall dgX7_addRow_66 21 rfl
theorem dX7_addRow_37 : decode cX7_addRow 37 = .ok (.iconst 1, 1) := dall dgX7_addRow_66 22 rfl
theorem dX7_addRow_38 : decode cX7_addRow 38 = .ok (.iadd, 1) := dall dgX7_addRow_66 23 rfl
theorem dX7_addRow_39 : decode cX7_addRow 39 = .ok (.iload_n 2, 1) := dall dgX7_addRow_66 24 rfl
theorem dX7_addRow_40 : decode cX7_addRow 40 = .ok (.iastore, 1) := dall dgX7_addRow_66 25 rfl
theorem dX7_addRow_41 : decode cX7_addRow 41 = .ok (.aload_n 0, 1) := dall dgX7_addRow_66 26 rfl
theorem dX7_addRow_42 : decode cX7_addRow 42 = .ok (.getfield 9, 3) := dall dgX7_addRow_66 27 rfl
theorem dX7_addRow_45 : decode cX7_addRow 45 = .ok (.iload 5, 2) := dall dgX7_addRow_66 28 rfl
theorem dX7_addRow_47 : decode cX7_addRow 47 = .ok (.iconst 4, 1) := dall dgX7_addRow_66 29 rfl
theorem dX7_addRow_48 : decode cX7_addRow 48 = .ok (.imul, 1) := dall dgX7_addRow_66 30 rfl
theorem dX7_addRow_49 : decode cX7_addRow 49 = .ok (.iconst 2, 1) := dall dgX7_addRow_66 31 rfl
theorem dX7_addRow_50 : decode cX7_addRow 50 = .ok (.iadd, 1) := dall dgX7_addRow_66 32 rfl
theorem dX7_addRow_51 : decode cX7_addRow 51 = .ok (.iload_n 3, 1) := dall dgX7_addRow_66 33 rfl
theorem dX7_addRow_52 : decode cX7_addRow 52 = .ok (.iastore, 1) := dall dgX7_addRow_66 34 rfl
theorem dX7_addRow_53 : decode cX7_addRow 53 = .ok (.aload_n 0, 1) := dall dgX7_addRow_66 35 rfl
theorem dX7_addRow_54 : decode cX7_addRow 54 = .ok (.getfield 9, 3) := dall dgX7_addRow_66 36 rfl
theorem dX7_addRow_57 : decode cX7_addRow 57 = .ok (.iload 5, 2) := dall dgX7_addRow_66 37 rfl
theorem dX7_addRow_59 : decode cX7_addRow 59 = .ok (.iconst 4, 1) := dall dgX7_addRow_66 38 rfl
theorem dX7_addRow_60 : decode cX7_addRow 60 = .ok (.imul, 1) := dall dgX7_addRow_66 39 rfl
theorem dX7_addRow_61 : decode cX7_addRow 61 = .ok (.iconst 3, 1) := dall dgX7_addRow_66 40 rfl
theorem dX7_addRow_62 : decode cX7_addRow 62 = .ok (.iadd, 1) := dall dgX7_addRow_66 41 rfl
theorem dX7_addRow_63 : decode cX7_addRow 63 = .ok (.iload 4, 2) := dall dgX7_addRow_66 42 rfl
theorem dX7_addRow_65 : decode cX7_addRow 65 = .ok (.iastore, 1) := dall dgX7_addRow_66 43 rfl
theorem dX7_addRow_66 : decode cX7_addRow 66 = .ok (.iload 5, 2) := dall dgX7_addRow_66 44 rfl
theorem dX7_addRow_68 : decode cX7_addRow 68 = .ok (.ireturn, 1) := dall dgX7_addRow_66 45 rfl
def lgX7_addDeaf_67 : List (Nat × Instr × Nat) := [(0, .aload_n 0, 1), (1, .getfield 29, 3), (4, .bipush 48, 2), (6, .if_icmp .lt 6, 3), (9, .bipush (-3), 2), (11, .ireturn, 1), (12, .aload_n 0, 1), (13, .getfield 29, 3), (16, .istore_n 1, 1), (17, .aload_n 0, 1), (18, .getfield 15, 3), (21, .iload_n 1, 1), (22, .iconst 1, 1), (23, .bastore, 1), (24, .aload_n 0, 1), (25, .getfield 19, 3), (28, .iload_n 1, 1), (29, .iconst 0, 1), (30, .bastore, 1), (31, .aload_n 0, 1), (32, .getfield 22, 3), (35, .iload_n 1, 1), (36, .iconst 0, 1), (37, .iastore, 1), (38, .aload_n 0, 1), (39, .dup, 1), (40, .getfield 29, 3), (43, .iconst 1, 1), (44, .iadd, 1), (45, .putfield 29, 3), (48, .iload_n 1, 1), (49, .ireturn, 1)]
theorem dgX7_addDeaf_67 : ∀ q ∈ lgX7_addDeaf_67, decode cX7_addDeaf q.1 = .ok (q.2.1, q.2.2) := by decide +kernel
theorem dX7_addDeaf_0 : decode cX7_addDeaf 0 = .ok (.aload_n 0, 1) := dall dgX7_addDeaf_67 0 rfl
theorem dX7_addDeaf_1 : decode cX7_addDeaf 1 = .ok (.getfield 29, 3) := dall dgX7_addDeaf_67 1 rfl
theorem dX7_addDeaf_4 : decode cX7_addDeaf 4 = .ok (.bipush 48, 2) := dall dgX7_addDeaf_67 2 rfl
theorem dX7_addDeaf_6 : decode cX7_addDeaf 6 = .ok (.if_icmp .lt 6, 3) := dall dgX7_addDeaf_67 3 rfl
theorem dX7_addDeaf_9 : decode cX7_addDeaf 9 = .ok (.bipush (-3), 2) := dall dgX7_addDeaf_67 4 rfl
theorem dX7_addDeaf_11 : decode cX7_addDeaf 11 = .ok (.ireturn, 1) := dall dgX7_addDeaf_67 5 rfl
theorem dX7_addDeaf_12 : decode cX7_addDeaf 12 = .ok (.aload_n 0, 1) := dall dgX7_addDeaf_67 6 rfl
theorem dX7_addDeaf_13 : decode cX7_addDeaf 13 = .ok (.getfield 29, 3) := dall dgX7_addDeaf_67 7 rfl
theorem dX7_addDeaf_16 : decode cX7_addDeaf 16 = .ok (.istore_n 1, 1) := dall dgX7_addDeaf_67 8 rfl
theorem dX7_addDeaf_17 : decode cX7_addDeaf 17 = .ok (.aload_n 0, 1) := dall dgX7_addDeaf_67 9 rfl
theorem dX7_addDeaf_18 : decode cX7_addDeaf 18 = .ok (.getfield 15, 3) := dall dgX7_addDeaf_67 10 rfl
theorem dX7_addDeaf_21 : decode cX7_addDeaf 21 = .ok (.iload_n 1, 1) := dall dgX7_addDeaf_67 11 rfl
theorem dX7_addDeaf_22 : decode cX7_addDeaf 22 = .ok (.iconst 1, 1) := dall dgX7_addDeaf_67 12 rfl
theorem dX7_addDeaf_23 : decode cX7_addDeaf 23 = .ok (.bastore, 1) := dall dgX7_addDeaf_67 13 rfl
theorem dX7_addDeaf_24 : decode cX7_addDeaf 24 = .ok (.aload_n 0, 1) := dall dgX7_addDeaf_67 14 rfl
theorem dX7_addDeaf_25 : decode cX7_addDeaf 25 = .ok (.getfield 19, 3) := dall dgX7_addDeaf_67 15 rfl
theorem dX7_addDeaf_28 : decode cX7_addDeaf 28 = .ok (.iload_n 1, 1) := dall dgX7_addDeaf_67 16 rfl
theorem dX7_addDeaf_29 : decode cX7_addDeaf 29 = .ok (.iconst 0, 1) := dall dgX7_addDeaf_67 17 rfl
theorem dX7_addDeaf_30 : decode cX7_addDeaf 30 = .ok (.bastore, 1) := dall dgX7_addDeaf_67 18 rfl
theorem dX7_addDeaf_31 : decode cX7_addDeaf 31 = .ok (.aload_n 0, 1) := dall dgX7_addDeaf_67 19 rfl
theorem dX7_addDeaf_32 : decode cX7_addDeaf 32 = .ok (.getfield 22, 3) := dall dgX7_addDeaf_67 20 rfl
theorem dX7_addDeaf_35 : decode cX7_addDeaf 35 = .ok (.iload_n 1, 1) := dall dgX7_addDeaf_67 21 rfl
theorem dX7_addDeaf_36 : decode cX7_addDeaf 36 = .ok (.iconst 0, 1) := dall dgX7_addDeaf_67 22 rfl
theorem dX7_addDeaf_37 : decode cX7_addDeaf 37 = .ok (.iastore, 1) := dall dgX7_addDeaf_67 23 rfl
theorem dX7_addDeaf_38 : decode cX7_addDeaf 38 = .ok (.aload_n 0, 1) := dall dgX7_addDeaf_67 24 rfl
theorem dX7_addDeaf_39 : decode cX7_addDeaf 39 = .ok (.dup, 1) := dall dgX7_addDeaf_67 25 rfl
theorem dX7_addDeaf_40 : decode cX7_addDeaf 40 = .ok (.getfield 29, 3) := dall dgX7_addDeaf_67 26 rfl
theorem dX7_addDeaf_43 : decode cX7_addDeaf 43 = .ok (.iconst 1, 1) := dall dgX7_addDeaf_67 27 rfl
theorem dX7_addDeaf_44 : decode cX7_addDeaf 44 = .ok (.iadd, 1) := dall dgX7_addDeaf_67 28 rfl
theorem dX7_addDeaf_45 : decode cX7_addDeaf 45 = .ok (.putfield 29, 3) := dall dgX7_addDeaf_67 29 rfl
theorem dX7_addDeaf_48 : decode cX7_addDeaf 48 = .ok (.iload_n 1, 1) := dall dgX7_addDeaf_67 30 rfl
theorem dX7_addDeaf_49 : decode cX7_addDeaf 49 = .ok (.ireturn, 1) := dall dgX7_addDeaf_67 31 rfl
def lgX7_setOut_68 : List (Nat × Instr × Nat) := [(0, .iconst 0, 1), (1, .istore 4, 2), (3, .iload_n 1, 1), (4, .iconst 0, 1), (5, .invokestatic 33, 3), (8, .istore 5, 2), (10, .iload 5, 2), (12, .iload_n 2, 1), (13, .if_icmp .gt 40, 3), (16, .iload 5, 2), (18, .aload_n 0, 1), (19, .getfield 29, 3), (22, .if_icmp .ge 31, 3), (25, .aload_n 0, 1), (26, .getfield 19, 3), (29, .iload 5, 2), (31, .baload, 1), (32, .iload_n 3, 1), (33, .if_icmp .eq 14, 3), (36, .aload_n 0, 1), (37, .getfield 19, 3), (40, .iload 5, 2), (42, .iload_n 3, 1), (43, .bastore, 1), (44, .iinc 4 1, 3), (47, .iinc 5 1, 3), (50, .goto (-40), 3), (53, .iload 4, 2), (55, .ireturn, 1)]
theorem dgX7_setOut_68 : ∀ q ∈ lgX7_setOut_68, decode cX7_setOut q.1 = .ok (q.2.1, q.2.2) := by decide +kernel
theorem dX7_setOut_0 : decode cX7_setOut 0 = .ok (.iconst 0, 1) := dall dgX7_setOut_68 0 rfl
theorem dX7_setOut_1 : decode cX7_setOut 1 = .ok (.istore 4, 2) := dall dgX7_setOut_68 1 rfl
theorem dX7_setOut_3 : decode cX7_setOut 3 = .ok (.iload_n 1, 1) := dall dgX7_setOut_68 2 rfl
theorem dX7_setOut_4 : decode cX7_setOut 4 = .ok (.iconst 0, 1) := dall dgX7_setOut_68 3 rfl
theorem dX7_setOut_5 : decode cX7_setOut 5 = .ok (.invokestatic 33, 3) := dall dgX7_setOut_68 4 rfl
theorem dX7_setOut_8 : decode cX7_setOut 8 = .ok (.istore 5, 2) := dall dgX7_setOut_68 5 rfl
theorem dX7_setOut_10 : decode cX7_setOut 10 = .ok (.iload 5, 2) := dall dgX7_setOut_68 6 rfl
theorem dX7_setOut_12 : decode cX7_setOut 12 = .ok (.iload_n 2, 1) := dall dgX7_setOut_68 7 rfl
theorem dX7_setOut_13 : decode cX7_setOut 13 = .ok (.if_icmp .gt 40, 3) := dall dgX7_setOut_68 8 rfl
theorem dX7_setOut_16 : decode cX7_setOut 16 = .ok (.iload 5, 2) := dall dgX7_setOut_68 9 rfl
theorem dX7_setOut_18 : decode cX7_setOut 18 = .ok (.aload_n 0, 1) := dall dgX7_setOut_68 10 rfl
theorem dX7_setOut_19 : decode cX7_setOut 19 = .ok (.getfield 29, 3) := dall dgX7_setOut_68 11 rfl
theorem dX7_setOut_22 : decode cX7_setOut 22 = .ok (.if_icmp .ge 31, 3) := dall dgX7_setOut_68 12 rfl
theorem dX7_setOut_25 : decode cX7_setOut 25 = .ok (.aload_n 0, 1) := dall dgX7_setOut_68 13 rfl
theorem dX7_setOut_26 : decode cX7_setOut 26 = .ok (.getfield 19, 3) := dall dgX7_setOut_68 14 rfl
theorem dX7_setOut_29 : decode cX7_setOut 29 = .ok (.iload 5, 2) := dall dgX7_setOut_68 15 rfl
theorem dX7_setOut_31 : decode cX7_setOut 31 = .ok (.baload, 1) := dall dgX7_setOut_68 16 rfl
theorem dX7_setOut_32 : decode cX7_setOut 32 = .ok (.iload_n 3, 1) := dall dgX7_setOut_68 17 rfl
theorem dX7_setOut_33 : decode cX7_setOut 33 = .ok (.if_icmp .eq 14, 3) := dall dgX7_setOut_68 18 rfl
theorem dX7_setOut_36 : decode cX7_setOut 36 = .ok (.aload_n 0, 1) := dall dgX7_setOut_68 19 rfl
theorem dX7_setOut_37 : decode cX7_setOut 37 = .ok (.getfield 19, 3) := dall dgX7_setOut_68 20 rfl
theorem dX7_setOut_40 : decode cX7_setOut 40 = .ok (.iload 5, 2) := dall dgX7_setOut_68 21 rfl
theorem dX7_setOut_42 : decode cX7_setOut 42 = .ok (.iload_n 3, 1) := dall dgX7_setOut_68 22 rfl
theorem dX7_setOut_43 : decode cX7_setOut 43 = .ok (.bastore, 1) := dall dgX7_setOut_68 23 rfl
theorem dX7_setOut_44 : decode cX7_setOut 44 = .ok (.iinc 4 1, 3) := dall dgX7_setOut_68 24 rfl
theorem dX7_setOut_47 : decode cX7_setOut 47 = .ok (.iinc 5 1, 3) := dall dgX7_setOut_68 25 rfl
theorem dX7_setOut_50 : decode cX7_setOut 50 = .ok (.goto (-40), 3) := dall dgX7_setOut_68 26 rfl
theorem dX7_setOut_53 : decode cX7_setOut 53 = .ok (.iload 4, 2) := dall dgX7_setOut_68 27 rfl
theorem dX7_setOut_55 : decode cX7_setOut 55 = .ok (.ireturn, 1) := dall dgX7_setOut_68 28 rfl
def lgX7_setTruth_69 : List (Nat × Instr × Nat) := [(0, .iconst 0, 1), (1, .istore 4, 2), (3, .iload_n 1, 1), (4, .iconst 0, 1), (5, .invokestatic 33, 3), (8, .istore 5, 2), (10, .iload 5, 2), (12, .iload_n 2, 1), (13, .if_icmp .gt 40, 3), (16, .iload 5, 2), (18, .aload_n 0, 1), (19, .getfield 29, 3), (22, .if_icmp .ge 31, 3), (25, .aload_n 0, 1), (26, .getfield 22, 3), (29, .iload 5, 2), (31, .iaload, 1), (32, .iload_n 3, 1), (33, .if_icmp .eq 14, 3), (36, .aload_n 0, 1), (37, .getfield 22, 3), (40, .iload 5, 2), (42, .iload_n 3, 1), (43, .iastore, 1), (44, .iinc 4 1, 3), (47, .iinc 5 1, 3), (50, .goto (-40), 3), (53, .iload 4, 2), (55, .ireturn, 1)]
theorem dgX7_setTruth_69 : ∀ q ∈ lgX7_setTruth_69, decode cX7_setTruth q.1 = .ok (q.2.1, q.2.2) := by decide +kernel
theorem dX7_setTruth_0 : decode cX7_setTruth 0 = .ok (.iconst 0, 1) := dall dgX7_setTruth_69 0 rfl
theorem dX7_setTruth_1 : decode cX7_setTruth 1 = .ok (.istore 4, 2) := dall dgX7_setTruth_69 1 rfl
theorem dX7_setTruth_3 : decode cX7_setTruth 3 = .ok (.iload_n 1, 1) := dall dgX7_setTruth_69 2 rfl
theorem dX7_setTruth_4 : decode cX7_setTruth 4 = .ok (.iconst 0, 1) := dall dgX7_setTruth_69 3 rfl
theorem dX7_setTruth_5 : decode cX7_setTruth 5 = .ok (.invokestatic 33, 3) := dall dgX7_setTruth_69 4 rfl
theorem dX7_setTruth_8 : decode cX7_setTruth 8 = .ok (.istore 5, 2) := dall dgX7_setTruth_69 5 rfl
theorem dX7_setTruth_10 : decode cX7_setTruth 10 = .ok (.iload 5, 2) := dall dgX7_setTruth_69 6 rfl
theorem dX7_setTruth_12 : decode cX7_setTruth 12 = .ok (.iload_n 2, 1) := dall dgX7_setTruth_69 7 rfl
theorem dX7_setTruth_13 : decode cX7_setTruth 13 = .ok (.if_icmp .gt 40, 3) := dall dgX7_setTruth_69 8 rfl
theorem dX7_setTruth_16 : decode cX7_setTruth 16 = .ok (.iload 5, 2) := dall dgX7_setTruth_69 9 rfl
theorem dX7_setTruth_18 : decode cX7_setTruth 18 = .ok (.aload_n 0, 1) := dall dgX7_setTruth_69 10 rfl
theorem dX7_setTruth_19 : decode cX7_setTruth 19 = .ok (.getfield 29, 3) := dall dgX7_setTruth_69 11 rfl
theorem dX7_setTruth_22 : decode cX7_setTruth 22 = .ok (.if_icmp .ge 31, 3) := dall dgX7_setTruth_69 12 rfl
theorem dX7_setTruth_25 : decode cX7_setTruth 25 = .ok (.aload_n 0, 1) := dall dgX7_setTruth_69 13 rfl
theorem dX7_setTruth_26 : decode cX7_setTruth 26 = .ok (.getfield 22, 3) := dall dgX7_setTruth_69 14 rfl
theorem dX7_setTruth_29 : decode cX7_setTruth 29 = .ok (.iload 5, 2) := dall dgX7_setTruth_69 15 rfl
theorem dX7_setTruth_31 : decode cX7_setTruth 31 = .ok (.iaload, 1) := dall dgX7_setTruth_69 16 rfl
theorem dX7_setTruth_32 : decode cX7_setTruth 32 = .ok (.iload_n 3, 1) := dall dgX7_setTruth_69 17 rfl
theorem dX7_setTruth_33 : decode cX7_setTruth 33 = .ok (.if_icmp .eq 14, 3) := dall dgX7_setTruth_69 18 rfl
theorem dX7_setTruth_36 : decode cX7_setTruth 36 = .ok (.aload_n 0, 1) := dall dgX7_setTruth_69 19 rfl
theorem dX7_setTruth_37 : decode cX7_setTruth 37 = .ok (.getfield 22, 3) := dall dgX7_setTruth_69 20 rfl
theorem dX7_setTruth_40 : decode cX7_setTruth 40 = .ok (.iload 5, 2) := dall dgX7_setTruth_69 21 rfl
theorem dX7_setTruth_42 : decode cX7_setTruth 42 = .ok (.iload_n 3, 1) := dall dgX7_setTruth_69 22 rfl
theorem dX7_setTruth_43 : decode cX7_setTruth 43 = .ok (.iastore, 1) := dall dgX7_setTruth_69 23 rfl
theorem dX7_setTruth_44 : decode cX7_setTruth 44 = .ok (.iinc 4 1, 3) := dall dgX7_setTruth_69 24 rfl
theorem dX7_setTruth_47 : decode cX7_setTruth 47 = .ok (.iinc 5 1, 3) := dall dgX7_setTruth_69 25 rfl
theorem dX7_setTruth_50 : decode cX7_setTruth 50 = .ok (.goto (-40), 3) := dall dgX7_setTruth_69 26 rfl
theorem dX7_setTruth_53 : decode cX7_setTruth 53 = .ok (.iload 4, 2) := dall dgX7_setTruth_69 27 rfl
theorem dX7_setTruth_55 : decode cX7_setTruth 55 = .ok (.ireturn, 1) := dall dgX7_setTruth_69 28 rfl
def lgX7_isHeard_70 : List (Nat × Instr × Nat) := [(0, .aload_n 0, 1), (1, .getfield 15, 3), (4, .iload_n 1, 1), (5, .baload, 1), (6, .ifCond .ne 12, 3), (9, .aload_n 0, 1), (10, .getfield 19, 3), (13, .iload_n 1, 1), (14, .baload, 1), (15, .ifCond .eq 5, 3), (18, .iconst 0, 1), (19, .ireturn, 1), (20, .iconst 0, 1), (21, .istore_n 3, 1), (22, .iconst 0, 1), (23, .istore 4, 2), (25, .iload 4, 2), (27, .iconst 4, 1), (28, .if_icmp .ge 23, 3), (31, .iload_n 3, 1), (32, .aload_n 0, 1), (33, .getfield 9, 3), (36, .iload_n 1, 1), (37, .iconst 4, 1), (38, .imul, 1), (39, .iload 4, 2), (41, .iadd, 1), (42, .iaload, 1), (43, .iadd, 1), (44, .istore_n 3, 1), (45, .iinc 4 1, 3), (48, .goto (-23), 3), (51, .iload_n 3, 1), (52, .iload_n 2, 1), (53, .if_icmp .lt 7, 3), (56, .iconst 1, 1), (57, .goto 4, 3), (60, .iconst 0, 1), (61, .ireturn, 1)]
theorem dgX7_isHeard_70 : ∀ q ∈ lgX7_isHeard_70, decode cX7_isHeard q.1 = .ok (q.2.1, q.2.2) := by decide +kernel
theorem dX7_isHeard_0 : decode cX7_isHeard 0 = .ok (.aload_n 0, 1) := dall dgX7_isHeard_70 0 rfl
theorem dX7_isHeard_1 : decode cX7_isHeard 1 = .ok (.getfield 15, 3) := dall dgX7_isHeard_70 1 rfl
theorem dX7_isHeard_4 : decode cX7_isHeard 4 = .ok (.iload_n 1, 1) := dall dgX7_isHeard_70 2 rfl
theorem dX7_isHeard_5 : decode cX7_isHeard 5 = .ok (.baload, 1) := dall dgX7_isHeard_70 3 rfl
theorem dX7_isHeard_6 : decode cX7_isHeard 6 = .ok (.ifCond .ne 12, 3) := dall dgX7_isHeard_70 4 rfl
theorem dX7_isHeard_9 : decode cX7_isHeard 9 = .ok (.aload_n 0, 1) := dall dgX7_isHeard_70 5 rfl
theorem dX7_isHeard_10 : decode cX7_isHeard 10 = .ok (.getfield 19, 3) := dall dgX7_isHeard_70 6 rfl
theorem dX7_isHeard_13 : decode cX7_isHeard 13 = .ok (.iload_n 1, 1) := dall dgX7_isHeard_70 7 rfl
theorem dX7_isHeard_14 : decode cX7_isHeard 14 = .ok (.baload, 1) := dall dgX7_isHeard_70 8 rfl
theorem dX7_isHeard_15 : decode cX7_isHeard 15 = .ok (.ifCond .eq 5, 3) := dall dgX7_isHeard_70 9 rfl
theorem dX7_isHeard_18 : decode cX7_isHeard 18 = .ok (.iconst 0, 1) := dall dgX7_isHeard_70 10 rfl
theorem dX7_isHeard_19 : decode cX7_isHeard 19 = .ok (.ireturn, 1) := dall dgX7_isHeard_70 11 rfl
theorem dX7_isHeard_20 : decode cX7_isHeard 20 = .ok (.iconst 0, 1) := dall dgX7_isHeard_70 12 rfl
theorem dX7_isHeard_21 : decode cX7_isHeard 21 = .ok (.istore_n 3, 1) := dall dgX7_isHeard_70 13 rfl
theorem dX7_isHeard_22 : decode cX7_isHeard 22 = .ok (.iconst 0, 1) := dall dgX7_isHeard_70 14 rfl
theorem dX7_isHeard_23 : decode cX7_isHeard 23 = .ok (.istore 4, 2) := dall dgX7_isHeard_70 15 rfl
theorem dX7_isHeard_25 : decode cX7_isHeard 25 = .ok (.iload 4, 2) := dall dgX7_isHeard_70 16 rfl
theorem dX7_isHeard_27 : decode cX7_isHeard 27 = .ok (.iconst 4, 1) := dall dgX7_isHeard_70 17 rfl
theorem dX7_isHeard_28 : decode cX7_isHeard 28 = .ok (.if_icmp .ge 23, 3) := dall dgX7_isHeard_70 18 rfl
theorem dX7_isHeard_31 : decode cX7_isHeard 31 = .ok (.iload_n 3, 1) := dall dgX7_isHeard_70 19 rfl
theorem dX7_isHeard_32 : decode cX7_isHeard 32 = .ok (.aload_n 0, 1) := dall dgX7_isHeard_70 20 rfl
theorem dX7_isHeard_33 : decode cX7_isHeard 33 = .ok (.getfield 9, 3) := dall dgX7_isHeard_70 21 rfl
theorem dX7_isHeard_36 : decode cX7_isHeard 36 = .ok (.iload_n 1, 1) := dall dgX7_isHeard_70 22 rfl
theorem dX7_isHeard_37 : decode cX7_isHeard 37 = .ok (.iconst 4, 1) := dall dgX7_isHeard_70 23 rfl
theorem dX7_isHeard_38 : decode cX7_isHeard 38 = .ok (.imul, 1) := dall dgX7_isHeard_70 24 rfl
theorem dX7_isHeard_39 : decode cX7_isHeard 39 = .ok (.iload 4, 2) := dall dgX7_isHeard_70 25 rfl
theorem dX7_isHeard_41 : decode cX7_isHeard 41 = .ok (.iadd, 1) := dall dgX7_isHeard_70 26 rfl
theorem dX7_isHeard_42 : decode cX7_isHeard 42 = .ok (.iaload, 1) := dall dgX7_isHeard_70 27 rfl
theorem dX7_isHeard_43 : decode cX7_isHeard 43 = .ok (.iadd, 1) := dall dgX7_isHeard_70 28 rfl
theorem dX7_isHeard_44 : decode cX7_isHeard 44 = .ok (.istore_n 3, 1) := dall dgX7_isHeard_70 29 rfl
theorem dX7_isHeard_45 : decode cX7_isHeard 45 = .ok (.iinc 4 1, 3) := dall dgX7_isHeard_70 30 rfl
theorem dX7_isHeard_48 : decode cX7_isHeard 48 = .ok (.goto (-23), 3) := dall dgX7_isHeard_70 31 rfl
theorem dX7_isHeard_51 : decode cX7_isHeard 51 = .ok (.iload_n 3, 1) := dall dgX7_isHeard_70 32 rfl
theorem dX7_isHeard_52 : decode cX7_isHeard 52 = .ok (.iload_n 2, 1) := dall dgX7_isHeard_70 33 rfl
theorem dX7_isHeard_53 : decode cX7_isHeard 53 = .ok (.if_icmp .lt 7, 3) := dall dgX7_isHeard_70 34 rfl
theorem dX7_isHeard_56 : decode cX7_isHeard 56 = .ok (.iconst 1, 1) := dall dgX7_isHeard_70 35 rfl
theorem dX7_isHeard_57 : decode cX7_isHeard 57 = .ok (.goto 4, 3) := dall dgX7_isHeard_70 36 rfl
theorem dX7_isHeard_60 : decode cX7_isHeard 60 = .ok (.iconst 0, 1) := dall dgX7_isHeard_70 37 rfl
theorem dX7_isHeard_61 : decode cX7_isHeard 61 = .ok (.ireturn, 1) := dall dgX7_isHeard_70 38 rfl
def lgX7_deafRows_71 : List (Nat × Instr × Nat) := [(0, .iconst 0, 1), (1, .istore_n 1, 1), (2, .iconst 0, 1), (3, .istore_n 2, 1), (4, .iload_n 2, 1), (5, .aload_n 0, 1), (6, .getfield 29, 3), (9, .if_icmp .ge 26, 3), (12, .iload_n 1, 1), (13, .aload_n 0, 1), (14, .getfield 15, 3), (17, .iload_n 2, 1), (18, .baload, 1), (19, .ifCond .eq 7, 3), (22, .iconst 1, 1), (23, .goto 4, 3), (26, .iconst 0, 1), (27, .iadd, 1), (28, .istore_n 1, 1), (29, .iinc 2 1, 3), (32, .goto (-28), 3), (35, .iload_n 1, 1), (36, .ireturn, 1)]
theorem dgX7_deafRows_71 : ∀ q ∈ lgX7_deafRows_71, decode cX7_deafRows q.1 = .ok (q.2.1, q.2.2) := by decide +kernel
theorem dX7_deafRows_0 : decode cX7_deafRows 0 = .ok (.iconst 0, 1) := dall dgX7_deafRows_71 0 rfl
theorem dX7_deafRows_1 : decode cX7_deafRows 1 = .ok (.istore_n 1, 1) := dall dgX7_deafRows_71 1 rfl
theorem dX7_deafRows_2 : decode cX7_deafRows 2 = .ok (.iconst 0, 1) := dall dgX7_deafRows_71 2 rfl
theorem dX7_deafRows_3 : decode cX7_deafRows 3 = .ok (.istore_n 2, 1) := dall dgX7_deafRows_71 3 rfl
theorem dX7_deafRows_4 : decode cX7_deafRows 4 = .ok (.iload_n 2, 1) := dall dgX7_deafRows_71 4 rfl
theorem dX7_deafRows_5 : decode cX7_deafRows 5 = .ok (.aload_n 0, 1) := dall dgX7_deafRows_71 5 rfl
theorem dX7_deafRows_6 : decode cX7_deafRows 6 = .ok (.getfield 29, 3) := dall dgX7_deafRows_71 6 rfl
theorem dX7_deafRows_9 : decode cX7_deafRows 9 = .ok (.if_icmp .ge 26, 3) := dall dgX7_deafRows_71 7 rfl
theorem dX7_deafRows_12 : decode cX7_deafRows 12 = .ok (.iload_n 1, 1) := dall dgX7_deafRows_71 8 rfl
theorem dX7_deafRows_13 : decode cX7_deafRows 13 = .ok (.aload_n 0, 1) := dall dgX7_deafRows_71 9 rfl
theorem dX7_deafRows_14 : decode cX7_deafRows 14 = .ok (.getfield 15, 3) := dall dgX7_deafRows_71 10 rfl
theorem dX7_deafRows_17 : decode cX7_deafRows 17 = .ok (.iload_n 2, 1) := dall dgX7_deafRows_71 11 rfl
theorem dX7_deafRows_18 : decode cX7_deafRows 18 = .ok (.baload, 1) := dall dgX7_deafRows_71 12 rfl
theorem dX7_deafRows_19 : decode cX7_deafRows 19 = .ok (.ifCond .eq 7, 3) := dall dgX7_deafRows_71 13 rfl
theorem dX7_deafRows_22 : decode cX7_deafRows 22 = .ok (.iconst 1, 1) := dall dgX7_deafRows_71 14 rfl
theorem dX7_deafRows_23 : decode cX7_deafRows 23 = .ok (.goto 4, 3) := dall dgX7_deafRows_71 15 rfl
theorem dX7_deafRows_26 : decode cX7_deafRows 26 = .ok (.iconst 0, 1) := dall dgX7_deafRows_71 16 rfl
theorem dX7_deafRows_27 : decode cX7_deafRows 27 = .ok (.iadd, 1) := dall dgX7_deafRows_71 17 rfl
theorem dX7_deafRows_28 : decode cX7_deafRows 28 = .ok (.istore_n 1, 1) := dall dgX7_deafRows_71 18 rfl
theorem dX7_deafRows_29 : decode cX7_deafRows 29 = .ok (.iinc 2 1, 3) := dall dgX7_deafRows_71 19 rfl
theorem dX7_deafRows_32 : decode cX7_deafRows 32 = .ok (.goto (-28), 3) := dall dgX7_deafRows_71 20 rfl
theorem dX7_deafRows_35 : decode cX7_deafRows 35 = .ok (.iload_n 1, 1) := dall dgX7_deafRows_71 21 rfl
theorem dX7_deafRows_36 : decode cX7_deafRows 36 = .ok (.ireturn, 1) := dall dgX7_deafRows_71 22 rfl
def lgX7_outRows_72 : List (Nat × Instr × Nat) := [(0, .iconst 0, 1), (1, .istore_n 1, 1), (2, .iconst 0, 1), (3, .istore_n 2, 1), (4, .iload_n 2, 1), (5, .aload_n 0, 1), (6, .getfield 29, 3), (9, .if_icmp .ge 26, 3), (12, .iload_n 1, 1), (13, .aload_n 0, 1), (14, .getfield 19, 3), (17, .iload_n 2, 1), (18, .baload, 1), (19, .ifCond .eq 7, 3), (22, .iconst 1, 1), (23, .goto 4, 3), (26, .iconst 0, 1), (27, .iadd, 1), (28, .istore_n 1, 1), (29, .iinc 2 1, 3), (32, .goto (-28), 3), (35, .iload_n 1, 1), (36, .ireturn, 1)]
theorem dgX7_outRows_72 : ∀ q ∈ lgX7_outRows_72, decode cX7_outRows q.1 = .ok (q.2.1, q.2.2) := by decide +kernel
theorem dX7_outRows_0 : decode cX7_outRows 0 = .ok (.iconst 0, 1) := dall dgX7_outRows_72 0 rfl
theorem dX7_outRows_1 : decode cX7_outRows 1 = .ok (.istore_n 1, 1) := dall dgX7_outRows_72 1 rfl
theorem dX7_outRows_2 : decode cX7_outRows 2 = .ok (.iconst 0, 1) := dall dgX7_outRows_72 2 rfl
theorem dX7_outRows_3 : decode cX7_outRows 3 = .ok (.istore_n 2, 1) := dall dgX7_outRows_72 3 rfl
theorem dX7_outRows_4 : decode cX7_outRows 4 = .ok (.iload_n 2, 1) := dall dgX7_outRows_72 4 rfl
theorem dX7_outRows_5 : decode cX7_outRows 5 = .ok (.aload_n 0, 1) := dall dgX7_outRows_72 5 rfl
theorem dX7_outRows_6 : decode cX7_outRows 6 = .ok (.getfield 29, 3) := dall dgX7_outRows_72 6 rfl
theorem dX7_outRows_9 : decode cX7_outRows 9 = .ok (.if_icmp .ge 26, 3) := dall dgX7_outRows_72 7 rfl
theorem dX7_outRows_12 : decode cX7_outRows 12 = .ok (.iload_n 1, 1) := dall dgX7_outRows_72 8 rfl
theorem dX7_outRows_13 : decode cX7_outRows 13 = .ok (.aload_n 0, 1) := dall dgX7_outRows_72 9 rfl
theorem dX7_outRows_14 : decode cX7_outRows 14 = .ok (.getfield 19, 3) := dall dgX7_outRows_72 10 rfl
theorem dX7_outRows_17 : decode cX7_outRows 17 = .ok (.iload_n 2, 1) := dall dgX7_outRows_72 11 rfl
theorem dX7_outRows_18 : decode cX7_outRows 18 = .ok (.baload, 1) := dall dgX7_outRows_72 12 rfl
theorem dX7_outRows_19 : decode cX7_outRows 19 = .ok (.ifCond .eq 7, 3) := dall dgX7_outRows_72 13 rfl
theorem dX7_outRows_22 : decode cX7_outRows 22 = .ok (.iconst 1, 1) := dall dgX7_outRows_72 14 rfl
theorem dX7_outRows_23 : decode cX7_outRows 23 = .ok (.goto 4, 3) := dall dgX7_outRows_72 15 rfl
theorem dX7_outRows_26 : decode cX7_outRows 26 = .ok (.iconst 0, 1) := dall dgX7_outRows_72 16 rfl
theorem dX7_outRows_27 : decode cX7_outRows 27 = .ok (.iadd, 1) := dall dgX7_outRows_72 17 rfl
theorem dX7_outRows_28 : decode cX7_outRows 28 = .ok (.istore_n 1, 1) := dall dgX7_outRows_72 18 rfl
theorem dX7_outRows_29 : decode cX7_outRows 29 = .ok (.iinc 2 1, 3) := dall dgX7_outRows_72 19 rfl
theorem dX7_outRows_32 : decode cX7_outRows 32 = .ok (.goto (-28), 3) := dall dgX7_outRows_72 20 rfl
theorem dX7_outRows_35 : decode cX7_outRows 35 = .ok (.iload_n 1, 1) := dall dgX7_outRows_72 21 rfl
theorem dX7_outRows_36 : decode cX7_outRows 36 = .ok (.ireturn, 1) := dall dgX7_outRows_72 22 rfl
def lgX8_init_73 : List (Nat × Instr × Nat) := [(0, .aload_n 0, 1), (1, .invokespecial 1, 3), (4, .aload_n 0, 1), (5, .sipush 200, 3), (8, .newarray .int, 2), (10, .putfield 9, 3), (13, .aload_n 0, 1), (14, .bipush 6, 2), (16, .newarray .int, 2), (18, .putfield 13, 3), (21, .aload_n 0, 1), (22, .bipush 6, 2), (24, .newarray .int, 2), (26, .putfield 16, 3), (29, .iconst 0, 1), (30, .istore_n 1, 1), (31, .iload_n 1, 1), (32, .bipush 6, 2), (34, .if_icmp .ge 20, 3), (37, .aload_n 0, 1), (38, .getfield 13, 3), (41, .iload_n 1, 1), (42, .getstatic 19, 3), (45, .iload_n 1, 1), (46, .iaload, 1), (47, .iastore, 1), (48, .iinc 1 1, 3), (51, .goto (-20), 3), (54, .return_, 1)]
theorem dgX8_init_73 : ∀ q ∈ lgX8_init_73, decode cX8_init q.1 = .ok (q.2.1, q.2.2) := by decide +kernel
theorem dX8_init_0 : decode cX8_init 0 = .ok (.aload_n 0, 1) := dall dgX8_init_73 0 rfl
theorem dX8_init_1 : decode cX8_init 1 = .ok (.invokespecial 1, 3) := dall dgX8_init_73 1 rfl
theorem dX8_init_4 : decode cX8_init 4 = .ok (.aload_n 0, 1) := dall dgX8_init_73 2 rfl
theorem dX8_init_5 : decode cX8_init 5 = .ok (.sipush 200, 3) := dall dgX8_init_73 3 rfl
theorem dX8_init_8 : decode cX8_init 8 = .ok (.newarray .int, 2) := dall dgX8_init_73 4 rfl
theorem dX8_init_10 : decode cX8_init 10 = .ok (.putfield 9, 3) := dall dgX8_init_73 5 rfl
theorem dX8_init_13 : decode cX8_init 13 = .ok (.aload_n 0, 1) := dall dgX8_init_73 6 rfl
theorem dX8_init_14 : decode cX8_init 14 = .ok (.bipush 6, 2) := dall dgX8_init_73 7 rfl
theorem dX8_init_16 : decode cX8_init 16 = .ok (.newarray .int, 2) := dall dgX8_init_73 8 rfl
theorem dX8_init_18 : decode cX8_init 18 = .ok (.putfield 13, 3) := dall dgX8_init_73 9 rfl
theorem dX8_init_21 : decode cX8_init 21 = .ok (.aload_n 0, 1) := dall dgX8_init_73 10 rfl
theorem dX8_init_22 : decode cX8_init 22 = .ok (.bipush 6, 2) := dall dgX8_init_73 11 rfl
theorem dX8_init_24 : decode cX8_init 24 = .ok (.newarray .int, 2) := dall dgX8_init_73 12 rfl
theorem dX8_init_26 : decode cX8_init 26 = .ok (.putfield 16, 3) := dall dgX8_init_73 13 rfl
theorem dX8_init_29 : decode cX8_init 29 = .ok (.iconst 0, 1) := dall dgX8_init_73 14 rfl
theorem dX8_init_30 : decode cX8_init 30 = .ok (.istore_n 1, 1) := dall dgX8_init_73 15 rfl
theorem dX8_init_31 : decode cX8_init 31 = .ok (.iload_n 1, 1) := dall dgX8_init_73 16 rfl
theorem dX8_init_32 : decode cX8_init 32 = .ok (.bipush 6, 2) := dall dgX8_init_73 17 rfl
theorem dX8_init_34 : decode cX8_init 34 = .ok (.if_icmp .ge 20, 3) := dall dgX8_init_73 18 rfl
theorem dX8_init_37 : decode cX8_init 37 = .ok (.aload_n 0, 1) := dall dgX8_init_73 19 rfl
theorem dX8_init_38 : decode cX8_init 38 = .ok (.getfield 13, 3) := dall dgX8_init_73 20 rfl
theorem dX8_init_41 : decode cX8_init 41 = .ok (.iload_n 1, 1) := dall dgX8_init_73 21 rfl
theorem dX8_init_42 : decode cX8_init 42 = .ok (.getstatic 19, 3) := dall dgX8_init_73 22 rfl
theorem dX8_init_45 : decode cX8_init 45 = .ok (.iload_n 1, 1) := dall dgX8_init_73 23 rfl
theorem dX8_init_46 : decode cX8_init 46 = .ok (.iaload, 1) := dall dgX8_init_73 24 rfl
theorem dX8_init_47 : decode cX8_init 47 = .ok (.iastore, 1) := dall dgX8_init_73 25 rfl
theorem dX8_init_48 : decode cX8_init 48 = .ok (.iinc 1 1, 3) := dall dgX8_init_73 26 rfl
theorem dX8_init_51 : decode cX8_init 51 = .ok (.goto (-20), 3) := dall dgX8_init_73 27 rfl
theorem dX8_init_54 : decode cX8_init 54 = .ok (.return_, 1) := dall dgX8_init_73 28 rfl
def lgX8_ruleNow_74 : List (Nat × Instr × Nat) := [(0, .iload_n 1, 1), (1, .ifCond .lt 18, 3), (4, .iload_n 1, 1), (5, .bipush 6, 2), (7, .if_icmp .ge 12, 3), (10, .aload_n 0, 1), (11, .getfield 13, 3), (14, .iload_n 1, 1), (15, .iaload, 1), (16, .goto 4, 3), (19, .iconst 0, 1), (20, .ireturn, 1)]
theorem dgX8_ruleNow_74 : ∀ q ∈ lgX8_ruleNow_74, decode cX8_ruleNow q.1 = .ok (q.2.1, q.2.2) := by decide +kernel
theorem dX8_ruleNow_0 : decode cX8_ruleNow 0 = .ok (.iload_n 1, 1) := dall dgX8_ruleNow_74 0 rfl
theorem dX8_ruleNow_1 : decode cX8_ruleNow 1 = .ok (.ifCond .lt 18, 3) := dall dgX8_ruleNow_74 1 rfl
theorem dX8_ruleNow_4 : decode cX8_ruleNow 4 = .ok (.iload_n 1, 1) := dall dgX8_ruleNow_74 2 rfl
theorem dX8_ruleNow_5 : decode cX8_ruleNow 5 = .ok (.bipush 6, 2) := dall dgX8_ruleNow_74 3 rfl
theorem dX8_ruleNow_7 : decode cX8_ruleNow 7 = .ok (.if_icmp .ge 12, 3) := dall dgX8_ruleNow_74 4 rfl
theorem dX8_ruleNow_10 : decode cX8_ruleNow 10 = .ok (.aload_n 0, 1) := dall dgX8_ruleNow_74 5 rfl
theorem dX8_ruleNow_11 : decode cX8_ruleNow 11 = .ok (.getfield 13, 3) := dall dgX8_ruleNow_74 6 rfl
theorem dX8_ruleNow_14 : decode cX8_ruleNow 14 = .ok (.iload_n 1, 1) := dall dgX8_ruleNow_74 7 rfl
theorem dX8_ruleNow_15 : decode cX8_ruleNow 15 = .ok (.iaload, 1) := dall dgX8_ruleNow_74 8 rfl
theorem dX8_ruleNow_16 : decode cX8_ruleNow 16 = .ok (.goto 4, 3) := dall dgX8_ruleNow_74 9 rfl
theorem dX8_ruleNow_19 : decode cX8_ruleNow 19 = .ok (.iconst 0, 1) := dall dgX8_ruleNow_74 10 rfl
theorem dX8_ruleNow_20 : decode cX8_ruleNow 20 = .ok (.ireturn, 1) := dall dgX8_ruleNow_74 11 rfl
def lgX8_append_75 : List (Nat × Instr × Nat) := [(0, .iload_n 3, 1), (1, .ifCond .lt 15, 3), (4, .iload_n 3, 1), (5, .sipush 200, 3), (8, .aload_n 0, 1), (9, .getfield 22, 3), (12, .isub, 1), (13, .if_icmp .le 5, 3), (16, .iconst 0, 1), (17, .ireturn, 1), (18, .iload_n 3, 1), (19, .iconst 1, 1), (20, .isub, 1), (21, .istore 4, 2), (23, .iload 4, 2), (25, .ifCond .lt 40, 3), (28, .aload_n 0, 1), (29, .getfield 9, 3), (32, .aload_n 0, 1), (33, .getfield 22, 3), (36, .lload_n 1, 1), (37, .bipush 8, 2), (39, .iload 4, 2), (41, .imul, 1), (42, .lushr, 1), (43, .l2i, 1), (44, .sipush 255, 3), (47, .iand, 1), (48, .iastore, 1), (49, .aload_n 0, 1), (50, .dup, 1), (51, .getfield 22, 3), (54, .iconst 1, 1), (55, .iadd, 1), (56, .putfield 22, 3), (59, .iinc 4 (-1), 3), (62, .goto (-39), 3), (65, .iconst 1, 1), (66, .ireturn, 1)]
theorem dgX8_append_75 : ∀ q ∈ lgX8_append_75, decode cX8_append q.1 = .ok (q.2.1, q.2.2) := by decide +kernel
theorem dX8_append_0 : decode cX8_append 0 = .ok (.iload_n 3, 1) := dall dgX8_append_75 0 rfl
theorem dX8_append_1 : decode cX8_append 1 = .ok (.ifCond .lt 15, 3) := dall dgX8_append_75 1 rfl
theorem dX8_append_4 : decode cX8_append 4 = .ok (.iload_n 3, 1) := dall dgX8_append_75 2 rfl
theorem dX8_append_5 : decode cX8_append 5 = .ok (.sipush 200, 3) := dall dgX8_append_75 3 rfl
theorem dX8_append_8 : decode cX8_append 8 = .ok (.aload_n 0, 1) := dall dgX8_append_75 4 rfl
theorem dX8_append_9 : decode cX8_append 9 = .ok (.getfield 22, 3) := dall dgX8_append_75 5 rfl
theorem dX8_append_12 : decode cX8_append 12 = .ok (.isub, 1) := dall dgX8_append_75 6 rfl
theorem dX8_append_13 : decode cX8_append 13 = .ok (.if_icmp .le 5, 3) := dall dgX8_append_75 7 rfl
theorem dX8_append_16 : decode cX8_append 16 = .ok (.iconst 0, 1) := dall dgX8_append_75 8 rfl
theorem dX8_append_17 : decode cX8_append 17 = .ok (.ireturn, 1) := dall dgX8_append_75 9 rfl
theorem dX8_append_18 : decode cX8_append 18 = .ok (.iload_n 3, 1) := dall dgX8_append_75 10 rfl
theorem dX8_append_19 : decode cX8_append 19 = .ok (.iconst 1, 1) := dall dgX8_append_75 11 rfl
theorem dX8_append_20 : decode cX8_append 20 = .ok (.isub, 1) := dall dgX8_append_75 12 rfl
theorem dX8_append_21 : decode cX8_append 21 = .ok (.istore 4, 2) := dall dgX8_append_75 13 rfl
theorem dX8_append_23 : decode cX8_append 23 = .ok (.iload 4, 2) := dall dgX8_append_75 14 rfl
theorem dX8_append_25 : decode cX8_append 25 = .ok (.ifCond .lt 40, 3) := dall dgX8_append_75 15 rfl
theorem dX8_append_28 : decode cX8_append 28 = .ok (.aload_n 0, 1) := dall dgX8_append_75 16 rfl
theorem dX8_append_29 : decode cX8_append 29 = .ok (.getfield 9, 3) := dall dgX8_append_75 17 rfl
theorem dX8_append_32 : decode cX8_append 32 = .ok (.aload_n 0, 1) := dall dgX8_append_75 18 rfl
theorem dX8_append_33 : decode cX8_append 33 = .ok (.getfield 22, 3) := dall dgX8_append_75 19 rfl
theorem dX8_append_36 : decode cX8_append 36 = .ok (.lload_n 1, 1) := dall dgX8_append_75 20 rfl
theorem dX8_append_37 : decode cX8_append 37 = .ok (.bipush 8, 2) := dall dgX8_append_75 21 rfl
theorem dX8_append_39 : decode cX8_append 39 = .ok (.iload 4, 2) := dall dgX8_append_75 22 rfl
theorem dX8_append_41 : decode cX8_append 41 = .ok (.imul, 1) := dall dgX8_append_75 23 rfl
theorem dX8_append_42 : decode cX8_append 42 = .ok (.lushr, 1) := dall dgX8_append_75 24 rfl
theorem dX8_append_43 : decode cX8_append 43 = .ok (.l2i, 1) := dall dgX8_append_75 25 rfl
theorem dX8_append_44 : decode cX8_append 44 = .ok (.sipush 255, 3) := dall dgX8_append_75 26 rfl
theorem dX8_append_47 : decode cX8_append 47 = .ok (.iand, 1) := dall dgX8_append_75 27 rfl
theorem dX8_append_48 : decode cX8_append 48 = .ok (.iastore, 1) := dall dgX8_append_75 28 rfl
theorem dX8_append_49 : decode cX8_append 49 = .ok (.aload_n 0, 1) := dall dgX8_append_75 29 rfl
theorem dX8_append_50 : decode cX8_append 50 = .ok (.dup, 1) := dall dgX8_append_75 30 rfl
theorem dX8_append_51 : decode cX8_append 51 = .ok (.getfield 22, 3) := dall dgX8_append_75 31 rfl
theorem dX8_append_54 : decode cX8_append 54 = .ok (.iconst 1, 1) := dall dgX8_append_75 32 rfl
theorem dX8_append_55 : decode cX8_append 55 = .ok (.iadd, 1) := dall dgX8_append_75 33 rfl
theorem dX8_append_56 : decode cX8_append 56 = .ok (.putfield 22, 3) := dall dgX8_append_75 34 rfl
theorem dX8_append_59 : decode cX8_append 59 = .ok (.iinc 4 (-1), 3) := dall dgX8_append_75 35 rfl
theorem dX8_append_62 : decode cX8_append 62 = .ok (.goto (-39), 3) := dall dgX8_append_75 36 rfl
theorem dX8_append_65 : decode cX8_append 65 = .ok (.iconst 1, 1) := dall dgX8_append_75 37 rfl
theorem dX8_append_66 : decode cX8_append 66 = .ok (.ireturn, 1) := dall dgX8_append_75 38 rfl
def lgX8_read_76 : List (Nat × Instr × Nat) := [(0, .aload_n 0, 1), (1, .getfield 16, 3), (4, .iconst (-1), 1), (5, .invokestatic 26, 3), (8, .aload_n 0, 1), (9, .iconst 0, 1), (10, .putfield 32, 3), (13, .iconst 0, 1), (14, .istore_n 1, 1), (15, .iload_n 1, 1), (16, .bipush 6, 2), (18, .if_icmp .gt 36, 3), (21, .aload_n 0, 1), (22, .invokevirtual 35, 3), (25, .ifCond .eq 9, 3), (28, .aload_n 0, 1), (29, .invokevirtual 39, 3), (32, .iload_n 1, 1), (33, .ireturn, 1), (34, .aload_n 0, 1), (35, .invokevirtual 42, 3), (38, .istore_n 2, 1), (39, .iload_n 2, 1), (40, .ifCond .lt 8, 3), (43, .bipush (-10), 2), (45, .iload_n 2, 1), (46, .isub, 1), (47, .ireturn, 1), (48, .iinc 1 1, 3), (51, .goto (-36), 3), (54, .bipush (-10), 2), (56, .aload_n 0, 1), (57, .getfield 32, 3), (60, .isub, 1), (61, .ireturn, 1)]
theorem dgX8_read_76 : ∀ q ∈ lgX8_read_76, decode cX8_read q.1 = .ok (q.2.1, q.2.2) := by decide +kernel
theorem dX8_read_0 : decode cX8_read 0 = .ok (.aload_n 0, 1) := dall dgX8_read_76 0 rfl
theorem dX8_read_1 : decode cX8_read 1 = .ok (.getfield 16, 3) := dall dgX8_read_76 1 rfl
theorem dX8_read_4 : decode cX8_read 4 = .ok (.iconst (-1), 1) := dall dgX8_read_76 2 rfl
theorem dX8_read_5 : decode cX8_read 5 = .ok (.invokestatic 26, 3) := dall dgX8_read_76 3 rfl
theorem dX8_read_8 : decode cX8_read 8 = .ok (.aload_n 0, 1) := dall dgX8_read_76 4 rfl
theorem dX8_read_9 : decode cX8_read 9 = .ok (.iconst 0, 1) := dall dgX8_read_76 5 rfl
theorem dX8_read_10 : decode cX8_read 10 = .ok (.putfield 32, 3) := dall dgX8_read_76 6 rfl
theorem dX8_read_13 : decode cX8_read 13 = .ok (.iconst 0, 1) := dall dgX8_read_76 7 rfl
theorem dX8_read_14 : decode cX8_read 14 = .ok (.istore_n 1, 1) := dall dgX8_read_76 8 rfl
theorem dX8_read_15 : decode cX8_read 15 = .ok (.iload_n 1, 1) := dall dgX8_read_76 9 rfl
theorem dX8_read_16 : decode cX8_read 16 = .ok (.bipush 6, 2) := dall dgX8_read_76 10 rfl
theorem dX8_read_18 : decode cX8_read 18 = .ok (.if_icmp .gt 36, 3) := dall dgX8_read_76 11 rfl
theorem dX8_read_21 : decode cX8_read 21 = .ok (.aload_n 0, 1) := dall dgX8_read_76 12 rfl
theorem dX8_read_22 : decode cX8_read 22 = .ok (.invokevirtual 35, 3) := dall dgX8_read_76 13 rfl
theorem dX8_read_25 : decode cX8_read 25 = .ok (.ifCond .eq 9, 3) := dall dgX8_read_76 14 rfl
theorem dX8_read_28 : decode cX8_read 28 = .ok (.aload_n 0, 1) := dall dgX8_read_76 15 rfl
theorem dX8_read_29 : decode cX8_read 29 = .ok (.invokevirtual 39, 3) := dall dgX8_read_76 16 rfl
theorem dX8_read_32 : decode cX8_read 32 = .ok (.iload_n 1, 1) := dall dgX8_read_76 17 rfl
theorem dX8_read_33 : decode cX8_read 33 = .ok (.ireturn, 1) := dall dgX8_read_76 18 rfl
theorem dX8_read_34 : decode cX8_read 34 = .ok (.aload_n 0, 1) := dall dgX8_read_76 19 rfl
theorem dX8_read_35 : decode cX8_read 35 = .ok (.invokevirtual 42, 3) := dall dgX8_read_76 20 rfl
theorem dX8_read_38 : decode cX8_read 38 = .ok (.istore_n 2, 1) := dall dgX8_read_76 21 rfl
theorem dX8_read_39 : decode cX8_read 39 = .ok (.iload_n 2, 1) := dall dgX8_read_76 22 rfl
theorem dX8_read_40 : decode cX8_read 40 = .ok (.ifCond .lt 8, 3) := dall dgX8_read_76 23 rfl
theorem dX8_read_43 : decode cX8_read 43 = .ok (.bipush (-10), 2) := dall dgX8_read_76 24 rfl
theorem dX8_read_45 : decode cX8_read 45 = .ok (.iload_n 2, 1) := dall dgX8_read_76 25 rfl
theorem dX8_read_46 : decode cX8_read 46 = .ok (.isub, 1) := dall dgX8_read_76 26 rfl
theorem dX8_read_47 : decode cX8_read 47 = .ok (.ireturn, 1) := dall dgX8_read_76 27 rfl
theorem dX8_read_48 : decode cX8_read 48 = .ok (.iinc 1 1, 3) := dall dgX8_read_76 28 rfl
theorem dX8_read_51 : decode cX8_read 51 = .ok (.goto (-36), 3) := dall dgX8_read_76 29 rfl
theorem dX8_read_54 : decode cX8_read 54 = .ok (.bipush (-10), 2) := dall dgX8_read_76 30 rfl
theorem dX8_read_56 : decode cX8_read 56 = .ok (.aload_n 0, 1) := dall dgX8_read_76 31 rfl
theorem dX8_read_57 : decode cX8_read 57 = .ok (.getfield 32, 3) := dall dgX8_read_76 32 rfl
theorem dX8_read_60 : decode cX8_read 60 = .ok (.isub, 1) := dall dgX8_read_76 33 rfl
theorem dX8_read_61 : decode cX8_read 61 = .ok (.ireturn, 1) := dall dgX8_read_76 34 rfl
def lgX8_adopt_77 : List (Nat × Instr × Nat) := [(0, .iconst 0, 1), (1, .istore_n 1, 1), (2, .iload_n 1, 1), (3, .bipush 6, 2), (5, .if_icmp .ge 39, 3), (8, .aload_n 0, 1), (9, .getfield 13, 3), (12, .iload_n 1, 1), (13, .aload_n 0, 1), (14, .getfield 16, 3), (17, .iload_n 1, 1), (18, .iaload, 1), (19, .iconst (-1), 1), (20, .if_icmp .ne 11, 3), (23, .getstatic 19, 3), (26, .iload_n 1, 1), (27, .iaload, 1), (28, .goto 9, 3), (31, .aload_n 0, 1), (32, .getfield 16, 3), (35, .iload_n 1, 1), (36, .iaload, 1), (37, .iastore, 1), (38, .iinc 1 1, 3), (41, .goto (-39), 3), (44, .aload_n 0, 1), (45, .iconst 0, 1), (46, .putfield 22, 3), (49, .return_, 1)]
theorem dgX8_adopt_77 : ∀ q ∈ lgX8_adopt_77, decode cX8_adopt q.1 = .ok (q.2.1, q.2.2) := by decide +kernel
theorem dX8_adopt_0 : decode cX8_adopt 0 = .ok (.iconst 0, 1) := dall dgX8_adopt_77 0 rfl
theorem dX8_adopt_1 : decode cX8_adopt 1 = .ok (.istore_n 1, 1) := dall dgX8_adopt_77 1 rfl
theorem dX8_adopt_2 : decode cX8_adopt 2 = .ok (.iload_n 1, 1) := dall dgX8_adopt_77 2 rfl
theorem dX8_adopt_3 : decode cX8_adopt 3 = .ok (.bipush 6, 2) := dall dgX8_adopt_77 3 rfl
theorem dX8_adopt_5 : decode cX8_adopt 5 = .ok (.if_icmp .ge 39, 3) := dall dgX8_adopt_77 4 rfl
theorem dX8_adopt_8 : decode cX8_adopt 8 = .ok (.aload_n 0, 1) := dall dgX8_adopt_77 5 rfl
theorem dX8_adopt_9 : decode cX8_adopt 9 = .ok (.getfield 13, 3) := dall dgX8_adopt_77 6 rfl
theorem dX8_adopt_12 : decode cX8_adopt 12 = .ok (.iload_n 1, 1) := dall dgX8_adopt_77 7 rfl
theorem dX8_adopt_13 : decode cX8_adopt 13 = .ok (.aload_n 0, 1) := dall dgX8_adopt_77 8 rfl
theorem dX8_adopt_14 : decode cX8_adopt 14 = .ok (.getfield 16, 3) := dall dgX8_adopt_77 9 rfl
theorem dX8_adopt_17 : decode cX8_adopt 17 = .ok (.iload_n 1, 1) := dall dgX8_adopt_77 10 rfl
theorem dX8_adopt_18 : decode cX8_adopt 18 = .ok (.iaload, 1) := dall dgX8_adopt_77 11 rfl
theorem dX8_adopt_19 : decode cX8_adopt 19 = .ok (.iconst (-1), 1) := dall dgX8_adopt_77 12 rfl
theorem dX8_adopt_20 : decode cX8_adopt 20 = .ok (.if_icmp .ne 11, 3) := dall dgX8_adopt_77 13 rfl
theorem dX8_adopt_23 : decode cX8_adopt 23 = .ok (.getstatic 19, 3) := dall dgX8_adopt_77 14 rfl
theorem dX8_adopt_26 : decode cX8_adopt 26 = .ok (.iload_n 1, 1) := dall dgX8_adopt_77 15 rfl
theorem dX8_adopt_27 : decode cX8_adopt 27 = .ok (.iaload, 1) := dall dgX8_adopt_77 16 rfl
theorem dX8_adopt_28 : decode cX8_adopt 28 = .ok (.goto 9, 3) := dall dgX8_adopt_77 17 rfl
theorem dX8_adopt_31 : decode cX8_adopt 31 = .ok (.aload_n 0, 1) := dall dgX8_adopt_77 18 rfl
theorem dX8_adopt_32 : decode cX8_adopt 32 = .ok (.getfield 16, 3) := dall dgX8_adopt_77 19 rfl
theorem dX8_adopt_35 : decode cX8_adopt 35 = .ok (.iload_n 1, 1) := dall dgX8_adopt_77 20 rfl
theorem dX8_adopt_36 : decode cX8_adopt 36 = .ok (.iaload, 1) := dall dgX8_adopt_77 21 rfl
theorem dX8_adopt_37 : decode cX8_adopt 37 = .ok (.iastore, 1) := dall dgX8_adopt_77 22 rfl
theorem dX8_adopt_38 : decode cX8_adopt 38 = .ok (.iinc 1 1, 3) := dall dgX8_adopt_77 23 rfl
theorem dX8_adopt_41 : decode cX8_adopt 41 = .ok (.goto (-39), 3) := dall dgX8_adopt_77 24 rfl
theorem dX8_adopt_44 : decode cX8_adopt 44 = .ok (.aload_n 0, 1) := dall dgX8_adopt_77 25 rfl
theorem dX8_adopt_45 : decode cX8_adopt 45 = .ok (.iconst 0, 1) := dall dgX8_adopt_77 26 rfl
theorem dX8_adopt_46 : decode cX8_adopt 46 = .ok (.putfield 22, 3) := dall dgX8_adopt_77 27 rfl
theorem dX8_adopt_49 : decode cX8_adopt 49 = .ok (.return_, 1) := dall dgX8_adopt_77 28 rfl
def lgX8_endsBehindBlanks_78 : List (Nat × Instr × Nat) := [(0, .aload_n 0, 1), (1, .getfield 32, 3), (4, .aload_n 0, 1), (5, .getfield 22, 3), (8, .if_icmp .ge 30, 3), (11, .aload_n 0, 1), (12, .getfield 9, 3), (15, .aload_n 0, 1), (16, .getfield 32, 3), (19, .iaload, 1), (20, .bipush 32, 2), (22, .if_icmp .ne 16, 3), (25, .aload_n 0, 1), (26, .dup, 1), (27, .getfield 32, 3), (30, .iconst 1, 1), (31, .iadd, 1), (32, .putfield 32, 3), (35, .goto (-35), 3), (38, .aload_n 0, 1), (39, .getfield 32, 3), (42, .aload_n 0, 1), (43, .getfield 22, 3), (46, .if_icmp .lt 7, 3), (49, .iconst 1, 1), (50, .goto 4, 3), (53, .iconst 0, 1), (54, .ireturn, 1)]
theorem dgX8_endsBehindBlanks_78 : ∀ q ∈ lgX8_endsBehindBlanks_78, decode cX8_endsBehindBlanks q.1 = .ok (q.2.1, q.2.2) := by decide +kernel
theorem dX8_endsBehindBlanks_0 : decode cX8_endsBehindBlanks 0 = .ok (.aload_n 0, 1) := dall dgX8_endsBehindBlanks_78 0 rfl
theorem dX8_endsBehindBlanks_1 : decode cX8_endsBehindBlanks 1 = .ok (.getfield 32, 3) := dall dgX8_endsBehindBlanks_78 1 rfl
theorem dX8_endsBehindBlanks_4 : decode cX8_endsBehindBlanks 4 = .ok (.aload_n 0, 1) := dall dgX8_endsBehindBlanks_78 2 rfl
theorem dX8_endsBehindBlanks_5 : decode cX8_endsBehindBlanks 5 = .ok (.getfield 22, 3) := dall dgX8_endsBehindBlanks_78 3 rfl
theorem dX8_endsBehindBlanks_8 : decode cX8_endsBehindBlanks 8 = .ok (.if_icmp .ge 30, 3) := dall dgX8_endsBehindBlanks_78 4 rfl
theorem dX8_endsBehindBlanks_11 : decode cX8_endsBehindBlanks 11 = .ok (.aload_n 0, 1) := dall dgX8_endsBehindBlanks_78 5 rfl
theorem dX8_endsBehindBlanks_12 : decode cX8_endsBehindBlanks 12 = .ok (.getfield 9, 3) := dall dgX8_endsBehindBlanks_78 6 rfl
theorem dX8_endsBehindBlanks_15 : decode cX8_endsBehindBlanks 15 = .ok (.aload_n 0, 1) := dall dgX8_endsBehindBlanks_78 7 rfl
theorem dX8_endsBehindBlanks_16 : decode cX8_endsBehindBlanks 16 = .ok (.getfield 32, 3) := dall dgX8_endsBehindBlanks_78 8 rfl
theorem dX8_endsBehindBlanks_19 : decode cX8_endsBehindBlanks 19 = .ok (.iaload, 1) := dall dgX8_endsBehindBlanks_78 9 rfl
theorem dX8_endsBehindBlanks_20 : decode cX8_endsBehindBlanks 20 = .ok (.bipush 32, 2) := dall dgX8_endsBehindBlanks_78 10 rfl
theorem dX8_endsBehindBlanks_22 : decode cX8_endsBehindBlanks 22 = .ok (.if_icmp .ne 16, 3) := dall dgX8_endsBehindBlanks_78 11 rfl
theorem dX8_endsBehindBlanks_25 : decode cX8_endsBehindBlanks 25 = .ok (.aload_n 0, 1) := dall dgX8_endsBehindBlanks_78 12 rfl
theorem dX8_endsBehindBlanks_26 : decode cX8_endsBehindBlanks 26 = .ok (.dup, 1) := dall dgX8_endsBehindBlanks_78 13 rfl
theorem dX8_endsBehindBlanks_27 : decode cX8_endsBehindBlanks 27 = .ok (.getfield 32, 3) := dall dgX8_endsBehindBlanks_78 14 rfl
theorem dX8_endsBehindBlanks_30 : decode cX8_endsBehindBlanks 30 = .ok (.iconst 1, 1) := dall dgX8_endsBehindBlanks_78 15 rfl
theorem dX8_endsBehindBlanks_31 : decode cX8_endsBehindBlanks 31 = .ok (.iadd, 1) := dall dgX8_endsBehindBlanks_78 16 rfl
theorem dX8_endsBehindBlanks_32 : decode cX8_endsBehindBlanks 32 = .ok (.putfield 32, 3) := dall dgX8_endsBehindBlanks_78 17 rfl
theorem dX8_endsBehindBlanks_35 : decode cX8_endsBehindBlanks 35 = .ok (.goto (-35), 3) := dall dgX8_endsBehindBlanks_78 18 rfl
theorem dX8_endsBehindBlanks_38 : decode cX8_endsBehindBlanks 38 = .ok (.aload_n 0, 1) := dall dgX8_endsBehindBlanks_78 19 rfl
theorem dX8_endsBehindBlanks_39 : decode cX8_endsBehindBlanks 39 = .ok (.getfield 32, 3) := dall dgX8_endsBehindBlanks_78 20 rfl
theorem dX8_endsBehindBlanks_42 : decode cX8_endsBehindBlanks 42 = .ok (.aload_n 0, 1) := dall dgX8_endsBehindBlanks_78 21 rfl
theorem dX8_endsBehindBlanks_43 : decode cX8_endsBehindBlanks 43 = .ok (.getfield 22, 3) := dall dgX8_endsBehindBlanks_78 22 rfl
theorem dX8_endsBehindBlanks_46 : decode cX8_endsBehindBlanks 46 = .ok (.if_icmp .lt 7, 3) := dall dgX8_endsBehindBlanks_78 23 rfl
theorem dX8_endsBehindBlanks_49 : decode cX8_endsBehindBlanks 49 = .ok (.iconst 1, 1) := dall dgX8_endsBehindBlanks_78 24 rfl
theorem dX8_endsBehindBlanks_50 : decode cX8_endsBehindBlanks 50 = .ok (.goto 4, 3) := dall dgX8_endsBehindBlanks_78 25 rfl
theorem dX8_endsBehindBlanks_53 : decode cX8_endsBehindBlanks 53 = .ok (.iconst 0, 1) := dall dgX8_endsBehindBlanks_78 26 rfl
theorem dX8_endsBehindBlanks_54 : decode cX8_endsBehindBlanks 54 = .ok (.ireturn, 1) := dall dgX8_endsBehindBlanks_78 27 rfl
def lgX8_readItem_79 : List (Nat × Instr × Nat) := [(0, .aload_n 0, 1), (1, .getfield 32, 3), (4, .istore_n 1, 1), (5, .aload_n 0, 1), (6, .invokevirtual 46, 3), (9, .istore_n 2, 1), (10, .iload_n 2, 1), (11, .iconst (-1), 1), (12, .if_icmp .eq 13, 3), (15, .aload_n 0, 1), (16, .getfield 16, 3), (19, .iload_n 2, 1), (20, .iaload, 1), (21, .iconst (-1), 1), (22, .if_icmp .eq 5, 3), (25, .iload_n 1, 1), (26, .ireturn, 1), (27, .aload_n 0, 1), (28, .invokevirtual 35, 3), (31, .ifCond .eq 8, 3), (34, .aload_n 0, 1), (35, .getfield 22, 3), (38, .ireturn, 1), (39, .aload_n 0, 1), (40, .getfield 32, 3), (43, .istore_n 1, 1), (44, .aload_n 0, 1), (45, .invokevirtual 49, 3), (48, .istore_n 3, 1), (49, .iload_n 3, 1), (50, .iconst (-1), 1), (51, .if_icmp .eq 12, 3), (54, .iload_n 3, 1), (55, .getstatic 52, 3), (58, .iload_n 2, 1), (59, .iaload, 1), (60, .if_icmp .le 5, 3), (63, .iload_n 1, 1), (64, .ireturn, 1), (65, .aload_n 0, 1), (66, .invokevirtual 35, 3), (69, .ifCond .eq 8, 3), (72, .aload_n 0, 1), (73, .getfield 22, 3), (76, .ireturn, 1), (77, .aload_n 0, 1), (78, .getfield 9, 3), (81, .aload_n 0, 1), (82, .getfield 32, 3), (85, .iaload, 1)]
theorem dgX8_readItem_79 : ∀ q ∈ lgX8_readItem_79, decode cX8_readItem q.1 = .ok (q.2.1, q.2.2) := by decide +kernel
theorem dX8_readItem_0 : decode cX8_readItem 0 = .ok (.aload_n 0, 1) := dall dgX8_readItem_79 0 rfl
theorem dX8_readItem_1 : decode cX8_readItem 1 = .ok (.getfield 32, 3) := dall dgX8_readItem_79 1 rfl
theorem dX8_readItem_4 : decode cX8_readItem 4 = .ok (.istore_n 1, 1) := dall dgX8_readItem_79 2 rfl
theorem dX8_readItem_5 : decode cX8_readItem 5 = .ok (.aload_n 0, 1) := dall dgX8_readItem_79 3 rfl
theorem dX8_readItem_6 : decode cX8_readItem 6 = .ok (.invokevirtual 46, 3) := dall dgX8_readItem_79 4 rfl
theorem dX8_readItem_9 : decode cX8_readItem 9 = .ok (.istore_n 2, 1) := dall dgX8_readItem_79 5 rfl
theorem dX8_readItem_10 : decode cX8_readItem 10 = .ok (.iload_n 2, 1) := dall dgX8_readItem_79 6 rfl
theorem dX8_readItem_11 : decode cX8_readItem 11 = .ok (.iconst (-1), 1) := dall dgX8_readItem_79 7 rfl
theorem dX8_readItem_12 : decode cX8_readItem 12 = .ok (.if_icmp .eq 13, 3) := dall dgX8_readItem_79 8 rfl
theorem dX8_readItem_15 : decode cX8_readItem 15 = .ok (.aload_n 0, 1) := dall dgX8_readItem_79 9 rfl
theorem dX8_readItem_16 : decode cX8_readItem 16 = .ok (.getfield 16, 3) := dall dgX8_readItem_79 10 rfl
theorem dX8_readItem_19 : decode cX8_readItem 19 = .ok (.iload_n 2, 1) := dall dgX8_readItem_79 11 rfl
theorem dX8_readItem_20 : decode cX8_readItem 20 = .ok (.iaload, 1) := dall dgX8_readItem_79 12 rfl
theorem dX8_readItem_21 : decode cX8_readItem 21 = .ok (.iconst (-1), 1) := dall dgX8_readItem_79 13 rfl
theorem dX8_readItem_22 : decode cX8_readItem 22 = .ok (.if_icmp .eq 5, 3) := dall dgX8_readItem_79 14 rfl
theorem dX8_readItem_25 : decode cX8_readItem 25 = .ok (.iload_n 1, 1) := dall dgX8_readItem_79 15 rfl
theorem dX8_readItem_26 : decode cX8_readItem 26 = .ok (.ireturn, 1) := dall dgX8_readItem_79 16 rfl
theorem dX8_readItem_27 : decode cX8_readItem 27 = .ok (.aload_n 0, 1) := dall dgX8_readItem_79 17 rfl
theorem dX8_readItem_28 : decode cX8_readItem 28 = .ok (.invokevirtual 35, 3) := dall dgX8_readItem_79 18 rfl
theorem dX8_readItem_31 : decode cX8_readItem 31 = .ok (.ifCond .eq 8, 3) := dall dgX8_readItem_79 19 rfl
theorem dX8_readItem_34 : decode cX8_readItem 34 = .ok (.aload_n 0, 1) := dall dgX8_readItem_79 20 rfl
theorem dX8_readItem_35 : decode cX8_readItem 35 = .ok (.getfield 22, 3) := dall dgX8_readItem_79 21 rfl
theorem dX8_readItem_38 : decode cX8_readItem 38 = .ok (.ireturn, 1) := dall dgX8_readItem_79 22 rfl
theorem dX8_readItem_39 : decode cX8_readItem 39 = .ok (.aload_n 0, 1) := dall dgX8_readItem_79 23 rfl
theorem dX8_readItem_40 : decode cX8_readItem 40 = .ok (.getfield 32, 3) := dall dgX8_readItem_79 24 rfl
theorem dX8_readItem_43 : decode cX8_readItem 43 = .ok (.istore_n 1, 1) := dall dgX8_readItem_79 25 rfl
theorem dX8_readItem_44 : decode cX8_readItem 44 = .ok (.aload_n 0, 1) := dall dgX8_readItem_79 26 rfl
theorem dX8_readItem_45 : decode cX8_readItem 45 = .ok (.invokevirtual 49, 3) := dall dgX8_readItem_79 27 rfl
theorem dX8_readItem_48 : decode cX8_readItem 48 = .ok (.istore_n 3, 1) := dall dgX8_readItem_79 28 rfl
theorem dX8_readItem_49 : decode cX8_readItem 49 = .ok (.iload_n 3, 1) := dall dgX8_readItem_79 29 rfl
theorem dX8_readItem_50 : decode cX8_readItem 50 = .ok (.iconst (-1), 1) := dall dgX8_readItem_79 30 rfl
theorem dX8_readItem_51 : decode cX8_readItem 51 = .ok (.if_icmp .eq 12, 3) := dall dgX8_readItem_79 31 rfl
theorem dX8_readItem_54 : decode cX8_readItem 54 = .ok (.iload_n 3, 1) := dall dgX8_readItem_79 32 rfl
theorem dX8_readItem_55 : decode cX8_readItem 55 = .ok (.getstatic 52, 3) := dall dgX8_readItem_79 33 rfl
theorem dX8_readItem_58 : decode cX8_readItem 58 = .ok (.iload_n 2, 1) := dall dgX8_readItem_79 34 rfl
theorem dX8_readItem_59 : decode cX8_readItem 59 = .ok (.iaload, 1) := dall dgX8_readItem_79 35 rfl
theorem dX8_readItem_60 : decode cX8_readItem 60 = .ok (.if_icmp .le 5, 3) := dall dgX8_readItem_79 36 rfl
theorem dX8_readItem_63 : decode cX8_readItem 63 = .ok (.iload_n 1, 1) := dall dgX8_readItem_79 37 rfl
theorem dX8_readItem_64 : decode cX8_readItem 64 = .ok (.ireturn, 1) := dall dgX8_readItem_79 38 rfl
theorem dX8_readItem_65 : decode cX8_readItem 65 = .ok (.aload_n 0, 1) := dall dgX8_readItem_79 39 rfl
theorem dX8_readItem_66 : decode cX8_readItem 66 = .ok (.invokevirtual 35, 3) := dall dgX8_readItem_79 40 rfl
theorem dX8_readItem_69 : decode cX8_readItem 69 = .ok (.ifCond .eq 8, 3) := dall dgX8_readItem_79 41 rfl
theorem dX8_readItem_72 : decode cX8_readItem 72 = .ok (.aload_n 0, 1) := dall dgX8_readItem_79 42 rfl
theorem dX8_readItem_73 : decode cX8_readItem 73 = .ok (.getfield 22, 3) := dall dgX8_readItem_79 43 rfl
theorem dX8_readItem_76 : decode cX8_readItem 76 = .ok (.ireturn, 1) := dall dgX8_readItem_79 44 rfl
theorem dX8_readItem_77 : decode cX8_readItem 77 = .ok (.aload_n 0, 1) := dall dgX8_readItem_79 45 rfl
theorem dX8_readItem_78 : decode cX8_readItem 78 = .ok (.getfield 9, 3) := dall dgX8_readItem_79 46 rfl
theorem dX8_readItem_81 : decode cX8_readItem 81 = .ok (.aload_n 0, 1) := dall dgX8_readItem_79 47 rfl
theorem dX8_readItem_82 : decode cX8_readItem 82 = .ok (.getfield 32, 3) := dall dgX8_readItem_79 48 rfl
theorem dX8_readItem_85 : decode cX8_readItem 85 = .ok (.iaload, 1) := dall dgX8_readItem_79 49 rfl
def lgX8_readItem_80 : List (Nat × Instr × Nat) := [(86, .bipush 59, 2), (88, .if_icmp .eq 8, 3), (91, .aload_n 0, 1), (92, .getfield 32, 3), (95, .ireturn, 1), (96, .aload_n 0, 1), (97, .dup, 1), (98, .getfield 32, 3), (101, .iconst 1, 1), (102, .iadd, 1), (103, .putfield 32, 3), (106, .aload_n 0, 1), (107, .getfield 16, 3), (110, .iload_n 2, 1), (111, .iload_n 3, 1), (112, .iastore, 1), (113, .iconst (-1), 1), (114, .ireturn, 1)]
theorem dgX8_readItem_80 : ∀ q ∈ lgX8_readItem_80, decode cX8_readItem q.1 = .ok (q.2.1, q.2.2) := by decide +kernel
theorem dX8_readItem_86 : decode cX8_readItem 86 = .ok (.bipush 59, 2) := dall dgX8_readItem_80 0 rfl
theorem dX8_readItem_88 : decode cX8_readItem 88 = .ok (.if_icmp .eq 8, 3) := dall dgX8_readItem_80 1 rfl
theorem dX8_readItem_91 : decode cX8_readItem 91 = .ok (.aload_n 0, 1) := dall dgX8_readItem_80 2 rfl
theorem dX8_readItem_92 : decode cX8_readItem 92 = .ok (.getfield 32, 3) := dall dgX8_readItem_80 3 rfl
theorem dX8_readItem_95 : decode cX8_readItem 95 = .ok (.ireturn, 1) := dall dgX8_readItem_80 4 rfl
theorem dX8_readItem_96 : decode cX8_readItem 96 = .ok (.aload_n 0, 1) := dall dgX8_readItem_80 5 rfl
theorem dX8_readItem_97 : decode cX8_readItem 97 = .ok (.dup, 1) := dall dgX8_readItem_80 6 rfl
theorem dX8_readItem_98 : decode cX8_readItem 98 = .ok (.getfield 32, 3) := dall dgX8_readItem_80 7 rfl
theorem dX8_readItem_101 : decode cX8_readItem 101 = .ok (.iconst 1, 1) := dall dgX8_readItem_80 8 rfl
theorem dX8_readItem_102 : decode cX8_readItem 102 = .ok (.iadd, 1) := dall dgX8_readItem_80 9 rfl
theorem dX8_readItem_103 : decode cX8_readItem 103 = .ok (.putfield 32, 3) := dall dgX8_readItem_80 10 rfl
theorem dX8_readItem_106 : decode cX8_readItem 106 = .ok (.aload_n 0, 1) := dall dgX8_readItem_80 11 rfl
theorem dX8_readItem_107 : decode cX8_readItem 107 = .ok (.getfield 16, 3) := dall dgX8_readItem_80 12 rfl
theorem dX8_readItem_110 : decode cX8_readItem 110 = .ok (.iload_n 2, 1) := dall dgX8_readItem_80 13 rfl
theorem dX8_readItem_111 : decode cX8_readItem 111 = .ok (.iload_n 3, 1) := dall dgX8_readItem_80 14 rfl
theorem dX8_readItem_112 : decode cX8_readItem 112 = .ok (.iastore, 1) := dall dgX8_readItem_80 15 rfl
theorem dX8_readItem_113 : decode cX8_readItem 113 = .ok (.iconst (-1), 1) := dall dgX8_readItem_80 16 rfl
theorem dX8_readItem_114 : decode cX8_readItem 114 = .ok (.ireturn, 1) := dall dgX8_readItem_80 17 rfl
def lgX8_readWord_81 : List (Nat × Instr × Nat) := [(0, .aload_n 0, 1), (1, .getfield 32, 3), (4, .istore_n 1, 1), (5, .aload_n 0, 1), (6, .getfield 32, 3), (9, .aload_n 0, 1), (10, .getfield 22, 3), (13, .if_icmp .ge 31, 3), (16, .aload_n 0, 1), (17, .getfield 9, 3), (20, .aload_n 0, 1), (21, .getfield 32, 3), (24, .iaload, 1), (25, .invokestatic 55, 3), (28, .ifCond .eq 16, 3), (31, .aload_n 0, 1), (32, .dup, 1), (33, .getfield 32, 3), (36, .iconst 1, 1), (37, .iadd, 1), (38, .putfield 32, 3), (41, .goto (-36), 3), (44, .iconst 0, 1), (45, .istore_n 2, 1), (46, .iload_n 2, 1), (47, .bipush 6, 2), (49, .if_icmp .ge 27, 3), (52, .aload_n 0, 1), (53, .iload_n 2, 1), (54, .invokestatic 59, 3), (57, .iload_n 1, 1), (58, .aload_n 0, 1), (59, .getfield 32, 3), (62, .invokevirtual 63, 3), (65, .ifCond .eq 5, 3), (68, .iload_n 2, 1), (69, .ireturn, 1), (70, .iinc 2 1, 3), (73, .goto (-27), 3), (76, .iconst (-1), 1), (77, .ireturn, 1)]
theorem dgX8_readWord_81 : ∀ q ∈ lgX8_readWord_81, decode cX8_readWord q.1 = .ok (q.2.1, q.2.2) := by decide +kernel
theorem dX8_readWord_0 : decode cX8_readWord 0 = .ok (.aload_n 0, 1) := dall dgX8_readWord_81 0 rfl
theorem dX8_readWord_1 : decode cX8_readWord 1 = .ok (.getfield 32, 3) := dall dgX8_readWord_81 1 rfl
theorem dX8_readWord_4 : decode cX8_readWord 4 = .ok (.istore_n 1, 1) := dall dgX8_readWord_81 2 rfl
theorem dX8_readWord_5 : decode cX8_readWord 5 = .ok (.aload_n 0, 1) := dall dgX8_readWord_81 3 rfl
theorem dX8_readWord_6 : decode cX8_readWord 6 = .ok (.getfield 32, 3) := dall dgX8_readWord_81 4 rfl
theorem dX8_readWord_9 : decode cX8_readWord 9 = .ok (.aload_n 0, 1) := dall dgX8_readWord_81 5 rfl
theorem dX8_readWord_10 : decode cX8_readWord 10 = .ok (.getfield 22, 3) := dall dgX8_readWord_81 6 rfl
theorem dX8_readWord_13 : decode cX8_readWord 13 = .ok (.if_icmp .ge 31, 3) := dall dgX8_readWord_81 7 rfl
theorem dX8_readWord_16 : decode cX8_readWord 16 = .ok (.aload_n 0, 1) := dall dgX8_readWord_81 8 rfl
theorem dX8_readWord_17 : decode cX8_readWord 17 = .ok (.getfield 9, 3) := dall dgX8_readWord_81 9 rfl
theorem dX8_readWord_20 : decode cX8_readWord 20 = .ok (.aload_n 0, 1) := dall dgX8_readWord_81 10 rfl
theorem dX8_readWord_21 : decode cX8_readWord 21 = .ok (.getfield 32, 3) := dall dgX8_readWord_81 11 rfl
theorem dX8_readWord_24 : decode cX8_readWord 24 = .ok (.iaload, 1) := dall dgX8_readWord_81 12 rfl
theorem dX8_readWord_25 : decode cX8_readWord 25 = .ok (.invokestatic 55, 3) := dall dgX8_readWord_81 13 rfl
theorem dX8_readWord_28 : decode cX8_readWord 28 = .ok (.ifCond .eq 16, 3) := dall dgX8_readWord_81 14 rfl
theorem dX8_readWord_31 : decode cX8_readWord 31 = .ok (.aload_n 0, 1) := dall dgX8_readWord_81 15 rfl
theorem dX8_readWord_32 : decode cX8_readWord 32 = .ok (.dup, 1) := dall dgX8_readWord_81 16 rfl
theorem dX8_readWord_33 : decode cX8_readWord 33 = .ok (.getfield 32, 3) := dall dgX8_readWord_81 17 rfl
theorem dX8_readWord_36 : decode cX8_readWord 36 = .ok (.iconst 1, 1) := dall dgX8_readWord_81 18 rfl
theorem dX8_readWord_37 : decode cX8_readWord 37 = .ok (.iadd, 1) := dall dgX8_readWord_81 19 rfl
theorem dX8_readWord_38 : decode cX8_readWord 38 = .ok (.putfield 32, 3) := dall dgX8_readWord_81 20 rfl
theorem dX8_readWord_41 : decode cX8_readWord 41 = .ok (.goto (-36), 3) := dall dgX8_readWord_81 21 rfl
theorem dX8_readWord_44 : decode cX8_readWord 44 = .ok (.iconst 0, 1) := dall dgX8_readWord_81 22 rfl
theorem dX8_readWord_45 : decode cX8_readWord 45 = .ok (.istore_n 2, 1) := dall dgX8_readWord_81 23 rfl
theorem dX8_readWord_46 : decode cX8_readWord 46 = .ok (.iload_n 2, 1) := dall dgX8_readWord_81 24 rfl
theorem dX8_readWord_47 : decode cX8_readWord 47 = .ok (.bipush 6, 2) := dall dgX8_readWord_81 25 rfl
theorem dX8_readWord_49 : decode cX8_readWord 49 = .ok (.if_icmp .ge 27, 3) := dall dgX8_readWord_81 26 rfl
theorem dX8_readWord_52 : decode cX8_readWord 52 = .ok (.aload_n 0, 1) := dall dgX8_readWord_81 27 rfl
theorem dX8_readWord_53 : decode cX8_readWord 53 = .ok (.iload_n 2, 1) := dall dgX8_readWord_81 28 rfl
theorem dX8_readWord_54 : decode cX8_readWord 54 = .ok (.invokestatic 59, 3) := dall dgX8_readWord_81 29 rfl
theorem dX8_readWord_57 : decode cX8_readWord 57 = .ok (.iload_n 1, 1) := dall dgX8_readWord_81 30 rfl
theorem dX8_readWord_58 : decode cX8_readWord 58 = .ok (.aload_n 0, 1) := dall dgX8_readWord_81 31 rfl
theorem dX8_readWord_59 : decode cX8_readWord 59 = .ok (.getfield 32, 3) := dall dgX8_readWord_81 32 rfl
theorem dX8_readWord_62 : decode cX8_readWord 62 = .ok (.invokevirtual 63, 3) := dall dgX8_readWord_81 33 rfl
theorem dX8_readWord_65 : decode cX8_readWord 65 = .ok (.ifCond .eq 5, 3) := dall dgX8_readWord_81 34 rfl
theorem dX8_readWord_68 : decode cX8_readWord 68 = .ok (.iload_n 2, 1) := dall dgX8_readWord_81 35 rfl
theorem dX8_readWord_69 : decode cX8_readWord 69 = .ok (.ireturn, 1) := dall dgX8_readWord_81 36 rfl
theorem dX8_readWord_70 : decode cX8_readWord 70 = .ok (.iinc 2 1, 3) := dall dgX8_readWord_81 37 rfl
theorem dX8_readWord_73 : decode cX8_readWord 73 = .ok (.goto (-27), 3) := dall dgX8_readWord_81 38 rfl
theorem dX8_readWord_76 : decode cX8_readWord 76 = .ok (.iconst (-1), 1) := dall dgX8_readWord_81 39 rfl
theorem dX8_readWord_77 : decode cX8_readWord 77 = .ok (.ireturn, 1) := dall dgX8_readWord_81 40 rfl
def lgX8_readNumber_82 : List (Nat × Instr × Nat) := [(0, .aload_n 0, 1), (1, .getfield 32, 3), (4, .istore_n 1, 1), (5, .iconst 0, 1), (6, .istore_n 2, 1), (7, .aload_n 0, 1), (8, .getfield 32, 3), (11, .aload_n 0, 1), (12, .getfield 22, 3), (15, .if_icmp .ge 55, 3), (18, .aload_n 0, 1), (19, .getfield 9, 3), (22, .aload_n 0, 1), (23, .getfield 32, 3), (26, .iaload, 1), (27, .invokestatic 67, 3), (30, .ifCond .eq 40, 3), (33, .iload_n 2, 1), (34, .bipush 10, 2), (36, .imul, 1), (37, .aload_n 0, 1), (38, .getfield 9, 3), (41, .aload_n 0, 1), (42, .getfield 32, 3), (45, .iaload, 1), (46, .iadd, 1), (47, .bipush 48, 2), (49, .isub, 1), (50, .sipush 10000, 3), (53, .invokestatic 70, 3), (56, .istore_n 2, 1), (57, .aload_n 0, 1), (58, .dup, 1), (59, .getfield 32, 3), (62, .iconst 1, 1), (63, .iadd, 1), (64, .putfield 32, 3), (67, .goto (-60), 3), (70, .aload_n 0, 1), (71, .getfield 32, 3), (74, .iload_n 1, 1), (75, .isub, 1), (76, .istore_n 3, 1), (77, .iload_n 3, 1), (78, .ifCond .eq 26, 3), (81, .iload_n 2, 1), (82, .sipush 9999, 3), (85, .if_icmp .gt 19, 3), (88, .iload_n 3, 1), (89, .iconst 1, 1)]
theorem dgX8_readNumber_82 : ∀ q ∈ lgX8_readNumber_82, decode cX8_readNumber q.1 = .ok (q.2.1, q.2.2) := by decide +kernel
theorem dX8_readNumber_0 : decode cX8_readNumber 0 = .ok (.aload_n 0, 1) := dall dgX8_readNumber_82 0 rfl
theorem dX8_readNumber_1 : decode cX8_readNumber 1 = .ok (.getfield 32, 3) := dall dgX8_readNumber_82 1 rfl
theorem dX8_readNumber_4 : decode cX8_readNumber 4 = .ok (.istore_n 1, 1) := dall dgX8_readNumber_82 2 rfl
theorem dX8_readNumber_5 : decode cX8_readNumber 5 = .ok (.iconst 0, 1) := dall dgX8_readNumber_82 3 rfl
theorem dX8_readNumber_6 : decode cX8_readNumber 6 = .ok (.istore_n 2, 1) := dall dgX8_readNumber_82 4 rfl
theorem dX8_readNumber_7 : decode cX8_readNumber 7 = .ok (.aload_n 0, 1) := dall dgX8_readNumber_82 5 rfl
theorem dX8_readNumber_8 : decode cX8_readNumber 8 = .ok (.getfield 32, 3) := dall dgX8_readNumber_82 6 rfl
theorem dX8_readNumber_11 : decode cX8_readNumber 11 = .ok (.aload_n 0, 1) := dall dgX8_readNumber_82 7 rfl
theorem dX8_readNumber_12 : decode cX8_readNumber 12 = .ok (.getfield 22, 3) := dall dgX8_readNumber_82 8 rfl
theorem dX8_readNumber_15 : decode cX8_readNumber 15 = .ok (.if_icmp .ge 55, 3) := dall dgX8_readNumber_82 9 rfl
theorem dX8_readNumber_18 : decode cX8_readNumber 18 = .ok (.aload_n 0, 1) := dall dgX8_readNumber_82 10 rfl
theorem dX8_readNumber_19 : decode cX8_readNumber 19 = .ok (.getfield 9, 3) := dall dgX8_readNumber_82 11 rfl
theorem dX8_readNumber_22 : decode cX8_readNumber 22 = .ok (.aload_n 0, 1) := dall dgX8_readNumber_82 12 rfl
theorem dX8_readNumber_23 : decode cX8_readNumber 23 = .ok (.getfield 32, 3) := dall dgX8_readNumber_82 13 rfl
theorem dX8_readNumber_26 : decode cX8_readNumber 26 = .ok (.iaload, 1) := dall dgX8_readNumber_82 14 rfl
theorem dX8_readNumber_27 : decode cX8_readNumber 27 = .ok (.invokestatic 67, 3) := dall dgX8_readNumber_82 15 rfl
theorem dX8_readNumber_30 : decode cX8_readNumber 30 = .ok (.ifCond .eq 40, 3) := dall dgX8_readNumber_82 16 rfl
theorem dX8_readNumber_33 : decode cX8_readNumber 33 = .ok (.iload_n 2, 1) := dall dgX8_readNumber_82 17 rfl
theorem dX8_readNumber_34 : decode cX8_readNumber 34 = .ok (.bipush 10, 2) := dall dgX8_readNumber_82 18 rfl
theorem dX8_readNumber_36 : decode cX8_readNumber 36 = .ok (.imul, 1) := dall dgX8_readNumber_82 19 rfl
theorem dX8_readNumber_37 : decode cX8_readNumber 37 = .ok (.aload_n 0, 1) := dall dgX8_readNumber_82 20 rfl
theorem dX8_readNumber_38 : decode cX8_readNumber 38 = .ok (.getfield 9, 3) := dall dgX8_readNumber_82 21 rfl
theorem dX8_readNumber_41 : decode cX8_readNumber 41 = .ok (.aload_n 0, 1) := dall dgX8_readNumber_82 22 rfl
theorem dX8_readNumber_42 : decode cX8_readNumber 42 = .ok (.getfield 32, 3) := dall dgX8_readNumber_82 23 rfl
theorem dX8_readNumber_45 : decode cX8_readNumber 45 = .ok (.iaload, 1) := dall dgX8_readNumber_82 24 rfl
theorem dX8_readNumber_46 : decode cX8_readNumber 46 = .ok (.iadd, 1) := dall dgX8_readNumber_82 25 rfl
theorem dX8_readNumber_47 : decode cX8_readNumber 47 = .ok (.bipush 48, 2) := dall dgX8_readNumber_82 26 rfl
theorem dX8_readNumber_49 : decode cX8_readNumber 49 = .ok (.isub, 1) := dall dgX8_readNumber_82 27 rfl
theorem dX8_readNumber_50 : decode cX8_readNumber 50 = .ok (.sipush 10000, 3) := dall dgX8_readNumber_82 28 rfl
theorem dX8_readNumber_53 : decode cX8_readNumber 53 = .ok (.invokestatic 70, 3) := dall dgX8_readNumber_82 29 rfl
theorem dX8_readNumber_56 : decode cX8_readNumber 56 = .ok (.istore_n 2, 1) := dall dgX8_readNumber_82 30 rfl
theorem dX8_readNumber_57 : decode cX8_readNumber 57 = .ok (.aload_n 0, 1) := dall dgX8_readNumber_82 31 rfl
theorem dX8_readNumber_58 : decode cX8_readNumber 58 = .ok (.dup, 1) := dall dgX8_readNumber_82 32 rfl
theorem dX8_readNumber_59 : decode cX8_readNumber 59 = .ok (.getfield 32, 3) := dall dgX8_readNumber_82 33 rfl
theorem dX8_readNumber_62 : decode cX8_readNumber 62 = .ok (.iconst 1, 1) := dall dgX8_readNumber_82 34 rfl
theorem dX8_readNumber_63 : decode cX8_readNumber 63 = .ok (.iadd, 1) := dall dgX8_readNumber_82 35 rfl
theorem dX8_readNumber_64 : decode cX8_readNumber 64 = .ok (.putfield 32, 3) := dall dgX8_readNumber_82 36 rfl
theorem dX8_readNumber_67 : decode cX8_readNumber 67 = .ok (.goto (-60), 3) := dall dgX8_readNumber_82 37 rfl
theorem dX8_readNumber_70 : decode cX8_readNumber 70 = .ok (.aload_n 0, 1) := dall dgX8_readNumber_82 38 rfl
theorem dX8_readNumber_71 : decode cX8_readNumber 71 = .ok (.getfield 32, 3) := dall dgX8_readNumber_82 39 rfl
theorem dX8_readNumber_74 : decode cX8_readNumber 74 = .ok (.iload_n 1, 1) := dall dgX8_readNumber_82 40 rfl
theorem dX8_readNumber_75 : decode cX8_readNumber 75 = .ok (.isub, 1) := dall dgX8_readNumber_82 41 rfl
theorem dX8_readNumber_76 : decode cX8_readNumber 76 = .ok (.istore_n 3, 1) := dall dgX8_readNumber_82 42 rfl
theorem dX8_readNumber_77 : decode cX8_readNumber 77 = .ok (.iload_n 3, 1) := dall dgX8_readNumber_82 43 rfl
theorem dX8_readNumber_78 : decode cX8_readNumber 78 = .ok (.ifCond .eq 26, 3) := dall dgX8_readNumber_82 44 rfl
theorem dX8_readNumber_81 : decode cX8_readNumber 81 = .ok (.iload_n 2, 1) := dall dgX8_readNumber_82 45 rfl
theorem dX8_readNumber_82 : decode cX8_readNumber 82 = .ok (.sipush 9999, 3) := dall dgX8_readNumber_82 46 rfl
theorem dX8_readNumber_85 : decode cX8_readNumber 85 = .ok (.if_icmp .gt 19, 3) := dall dgX8_readNumber_82 47 rfl
theorem dX8_readNumber_88 : decode cX8_readNumber 88 = .ok (.iload_n 3, 1) := dall dgX8_readNumber_82 48 rfl
theorem dX8_readNumber_89 : decode cX8_readNumber 89 = .ok (.iconst 1, 1) := dall dgX8_readNumber_82 49 rfl
def lgX8_readNumber_83 : List (Nat × Instr × Nat) := [(90, .if_icmp .le 16, 3), (93, .aload_n 0, 1), (94, .getfield 9, 3), (97, .iload_n 1, 1), (98, .iaload, 1), (99, .bipush 48, 2), (101, .if_icmp .ne 5, 3), (104, .iconst (-1), 1), (105, .ireturn, 1), (106, .iload_n 2, 1), (107, .ireturn, 1)]
theorem dgX8_readNumber_83 : ∀ q ∈ lgX8_readNumber_83, decode cX8_readNumber q.1 = .ok (q.2.1, q.2.2) := by decide +kernel
theorem dX8_readNumber_90 : decode cX8_readNumber 90 = .ok (.if_icmp .le 16, 3) := dall dgX8_readNumber_83 0 rfl
theorem dX8_readNumber_93 : decode cX8_readNumber 93 = .ok (.aload_n 0, 1) := dall dgX8_readNumber_83 1 rfl
theorem dX8_readNumber_94 : decode cX8_readNumber 94 = .ok (.getfield 9, 3) := dall dgX8_readNumber_83 2 rfl
theorem dX8_readNumber_97 : decode cX8_readNumber 97 = .ok (.iload_n 1, 1) := dall dgX8_readNumber_83 3 rfl
theorem dX8_readNumber_98 : decode cX8_readNumber 98 = .ok (.iaload, 1) := dall dgX8_readNumber_83 4 rfl
theorem dX8_readNumber_99 : decode cX8_readNumber 99 = .ok (.bipush 48, 2) := dall dgX8_readNumber_83 5 rfl
theorem dX8_readNumber_101 : decode cX8_readNumber 101 = .ok (.if_icmp .ne 5, 3) := dall dgX8_readNumber_83 6 rfl
theorem dX8_readNumber_104 : decode cX8_readNumber 104 = .ok (.iconst (-1), 1) := dall dgX8_readNumber_83 7 rfl
theorem dX8_readNumber_105 : decode cX8_readNumber 105 = .ok (.ireturn, 1) := dall dgX8_readNumber_83 8 rfl
theorem dX8_readNumber_106 : decode cX8_readNumber 106 = .ok (.iload_n 2, 1) := dall dgX8_readNumber_83 9 rfl
theorem dX8_readNumber_107 : decode cX8_readNumber 107 = .ok (.ireturn, 1) := dall dgX8_readNumber_83 10 rfl
def lgX8_isWord_84 : List (Nat × Instr × Nat) := [(0, .iload_n 3, 1), (1, .iload_n 2, 1), (2, .isub, 1), (3, .aload_n 1, 1), (4, .invokevirtual 76, 3), (7, .if_icmp .eq 5, 3), (10, .iconst 0, 1), (11, .ireturn, 1), (12, .iconst 0, 1), (13, .istore 4, 2), (15, .iload 4, 2), (17, .aload_n 1, 1), (18, .invokevirtual 76, 3), (21, .if_icmp .ge 29, 3), (24, .aload_n 0, 1), (25, .getfield 9, 3), (28, .iload_n 2, 1), (29, .iload 4, 2), (31, .iadd, 1), (32, .iaload, 1), (33, .aload_n 1, 1), (34, .iload 4, 2), (36, .invokevirtual 80, 3), (39, .if_icmp .eq 5, 3), (42, .iconst 0, 1), (43, .ireturn, 1), (44, .iinc 4 1, 3), (47, .goto (-32), 3), (50, .iconst 1, 1), (51, .ireturn, 1)]
theorem dgX8_isWord_84 : ∀ q ∈ lgX8_isWord_84, decode cX8_isWord q.1 = .ok (q.2.1, q.2.2) := by decide +kernel
theorem dX8_isWord_0 : decode cX8_isWord 0 = .ok (.iload_n 3, 1) := dall dgX8_isWord_84 0 rfl
theorem dX8_isWord_1 : decode cX8_isWord 1 = .ok (.iload_n 2, 1) := dall dgX8_isWord_84 1 rfl
theorem dX8_isWord_2 : decode cX8_isWord 2 = .ok (.isub, 1) := dall dgX8_isWord_84 2 rfl
theorem dX8_isWord_3 : decode cX8_isWord 3 = .ok (.aload_n 1, 1) := dall dgX8_isWord_84 3 rfl
theorem dX8_isWord_4 : decode cX8_isWord 4 = .ok (.invokevirtual 76, 3) := dall dgX8_isWord_84 4 rfl
theorem dX8_isWord_7 : decode cX8_isWord 7 = .ok (.if_icmp .eq 5, 3) := dall dgX8_isWord_84 5 rfl
theorem dX8_isWord_10 : decode cX8_isWord 10 = .ok (.iconst 0, 1) := dall dgX8_isWord_84 6 rfl
theorem dX8_isWord_11 : decode cX8_isWord 11 = .ok (.ireturn, 1) := dall dgX8_isWord_84 7 rfl
theorem dX8_isWord_12 : decode cX8_isWord 12 = .ok (.iconst 0, 1) := dall dgX8_isWord_84 8 rfl
theorem dX8_isWord_13 : decode cX8_isWord 13 = .ok (.istore 4, 2) := dall dgX8_isWord_84 9 rfl
theorem dX8_isWord_15 : decode cX8_isWord 15 = .ok (.iload 4, 2) := dall dgX8_isWord_84 10 rfl
theorem dX8_isWord_17 : decode cX8_isWord 17 = .ok (.aload_n 1, 1) := dall dgX8_isWord_84 11 rfl
theorem dX8_isWord_18 : decode cX8_isWord 18 = .ok (.invokevirtual 76, 3) := dall dgX8_isWord_84 12 rfl
theorem dX8_isWord_21 : decode cX8_isWord 21 = .ok (.if_icmp .ge 29, 3) := dall dgX8_isWord_84 13 rfl
theorem dX8_isWord_24 : decode cX8_isWord 24 = .ok (.aload_n 0, 1) := dall dgX8_isWord_84 14 rfl
theorem dX8_isWord_25 : decode cX8_isWord 25 = .ok (.getfield 9, 3) := dall dgX8_isWord_84 15 rfl
theorem dX8_isWord_28 : decode cX8_isWord 28 = .ok (.iload_n 2, 1) := dall dgX8_isWord_84 16 rfl
theorem dX8_isWord_29 : decode cX8_isWord 29 = .ok (.iload 4, 2) := dall dgX8_isWord_84 17 rfl
theorem dX8_isWord_31 : decode cX8_isWord 31 = .ok (.iadd, 1) := dall dgX8_isWord_84 18 rfl
theorem dX8_isWord_32 : decode cX8_isWord 32 = .ok (.iaload, 1) := dall dgX8_isWord_84 19 rfl
theorem dX8_isWord_33 : decode cX8_isWord 33 = .ok (.aload_n 1, 1) := dall dgX8_isWord_84 20 rfl
theorem dX8_isWord_34 : decode cX8_isWord 34 = .ok (.iload 4, 2) := dall dgX8_isWord_84 21 rfl
theorem dX8_isWord_36 : decode cX8_isWord 36 = .ok (.invokevirtual 80, 3) := dall dgX8_isWord_84 22 rfl
theorem dX8_isWord_39 : decode cX8_isWord 39 = .ok (.if_icmp .eq 5, 3) := dall dgX8_isWord_84 23 rfl
theorem dX8_isWord_42 : decode cX8_isWord 42 = .ok (.iconst 0, 1) := dall dgX8_isWord_84 24 rfl
theorem dX8_isWord_43 : decode cX8_isWord 43 = .ok (.ireturn, 1) := dall dgX8_isWord_84 25 rfl
theorem dX8_isWord_44 : decode cX8_isWord 44 = .ok (.iinc 4 1, 3) := dall dgX8_isWord_84 26 rfl
theorem dX8_isWord_47 : decode cX8_isWord 47 = .ok (.goto (-32), 3) := dall dgX8_isWord_84 27 rfl
theorem dX8_isWord_50 : decode cX8_isWord 50 = .ok (.iconst 1, 1) := dall dgX8_isWord_84 28 rfl
theorem dX8_isWord_51 : decode cX8_isWord 51 = .ok (.ireturn, 1) := dall dgX8_isWord_84 29 rfl
def lgX8_isLetter_85 : List (Nat × Instr × Nat) := [(0, .iload_n 0, 1), (1, .bipush 97, 2), (3, .if_icmp .lt 9, 3), (6, .iload_n 0, 1), (7, .bipush 122, 2), (9, .if_icmp .le 15, 3), (12, .iload_n 0, 1), (13, .bipush 65, 2), (15, .if_icmp .lt 13, 3), (18, .iload_n 0, 1), (19, .bipush 90, 2), (21, .if_icmp .gt 7, 3), (24, .iconst 1, 1), (25, .goto 4, 3), (28, .iconst 0, 1), (29, .ireturn, 1)]
theorem dgX8_isLetter_85 : ∀ q ∈ lgX8_isLetter_85, decode cX8_isLetter q.1 = .ok (q.2.1, q.2.2) := by decide +kernel
theorem dX8_isLetter_0 : decode cX8_isLetter 0 = .ok (.iload_n 0, 1) := dall dgX8_isLetter_85 0 rfl
theorem dX8_isLetter_1 : decode cX8_isLetter 1 = .ok (.bipush 97, 2) := dall dgX8_isLetter_85 1 rfl
theorem dX8_isLetter_3 : decode cX8_isLetter 3 = .ok (.if_icmp .lt 9, 3) := dall dgX8_isLetter_85 2 rfl
theorem dX8_isLetter_6 : decode cX8_isLetter 6 = .ok (.iload_n 0, 1) := dall dgX8_isLetter_85 3 rfl
theorem dX8_isLetter_7 : decode cX8_isLetter 7 = .ok (.bipush 122, 2) := dall dgX8_isLetter_85 4 rfl
theorem dX8_isLetter_9 : decode cX8_isLetter 9 = .ok (.if_icmp .le 15, 3) := dall dgX8_isLetter_85 5 rfl
theorem dX8_isLetter_12 : decode cX8_isLetter 12 = .ok (.iload_n 0, 1) := dall dgX8_isLetter_85 6 rfl
theorem dX8_isLetter_13 : decode cX8_isLetter 13 = .ok (.bipush 65, 2) := dall dgX8_isLetter_85 7 rfl
theorem dX8_isLetter_15 : decode cX8_isLetter 15 = .ok (.if_icmp .lt 13, 3) := dall dgX8_isLetter_85 8 rfl
theorem dX8_isLetter_18 : decode cX8_isLetter 18 = .ok (.iload_n 0, 1) := dall dgX8_isLetter_85 9 rfl
theorem dX8_isLetter_19 : decode cX8_isLetter 19 = .ok (.bipush 90, 2) := dall dgX8_isLetter_85 10 rfl
theorem dX8_isLetter_21 : decode cX8_isLetter 21 = .ok (.if_icmp .gt 7, 3) := dall dgX8_isLetter_85 11 rfl
theorem dX8_isLetter_24 : decode cX8_isLetter 24 = .ok (.iconst 1, 1) := dall dgX8_isLetter_85 12 rfl
theorem dX8_isLetter_25 : decode cX8_isLetter 25 = .ok (.goto 4, 3) := dall dgX8_isLetter_85 13 rfl
theorem dX8_isLetter_28 : decode cX8_isLetter 28 = .ok (.iconst 0, 1) := dall dgX8_isLetter_85 14 rfl
theorem dX8_isLetter_29 : decode cX8_isLetter 29 = .ok (.ireturn, 1) := dall dgX8_isLetter_85 15 rfl
def lgX8_isDigit_86 : List (Nat × Instr × Nat) := [(0, .iload_n 0, 1), (1, .bipush 48, 2), (3, .if_icmp .lt 13, 3), (6, .iload_n 0, 1), (7, .bipush 57, 2), (9, .if_icmp .gt 7, 3), (12, .iconst 1, 1), (13, .goto 4, 3), (16, .iconst 0, 1), (17, .ireturn, 1)]
theorem dgX8_isDigit_86 : ∀ q ∈ lgX8_isDigit_86, decode cX8_isDigit q.1 = .ok (q.2.1, q.2.2) := by decide +kernel
theorem dX8_isDigit_0 : decode cX8_isDigit 0 = .ok (.iload_n 0, 1) := dall dgX8_isDigit_86 0 rfl
theorem dX8_isDigit_1 : decode cX8_isDigit 1 = .ok (.bipush 48, 2) := dall dgX8_isDigit_86 1 rfl
theorem dX8_isDigit_3 : decode cX8_isDigit 3 = .ok (.if_icmp .lt 13, 3) := dall dgX8_isDigit_86 2 rfl
theorem dX8_isDigit_6 : decode cX8_isDigit 6 = .ok (.iload_n 0, 1) := dall dgX8_isDigit_86 3 rfl
theorem dX8_isDigit_7 : decode cX8_isDigit 7 = .ok (.bipush 57, 2) := dall dgX8_isDigit_86 4 rfl
theorem dX8_isDigit_9 : decode cX8_isDigit 9 = .ok (.if_icmp .gt 7, 3) := dall dgX8_isDigit_86 5 rfl
theorem dX8_isDigit_12 : decode cX8_isDigit 12 = .ok (.iconst 1, 1) := dall dgX8_isDigit_86 6 rfl
theorem dX8_isDigit_13 : decode cX8_isDigit 13 = .ok (.goto 4, 3) := dall dgX8_isDigit_86 7 rfl
theorem dX8_isDigit_16 : decode cX8_isDigit 16 = .ok (.iconst 0, 1) := dall dgX8_isDigit_86 8 rfl
theorem dX8_isDigit_17 : decode cX8_isDigit 17 = .ok (.ireturn, 1) := dall dgX8_isDigit_86 9 rfl
def lgX8_wordOf_87 : List (Nat × Instr × Nat) := [(0, .iload_n 0, 1), (1, .tableswitch 50 0 4 #[35, 38, 41, 44, 47], 35), (36, .ldc 84, 2), (38, .areturn, 1), (39, .ldc 86, 2), (41, .areturn, 1), (42, .ldc 88, 2), (44, .areturn, 1), (45, .ldc 90, 2), (47, .areturn, 1), (48, .ldc 92, 2), (50, .areturn, 1), (51, .ldc 94, 2), (53, .areturn, 1)]
theorem dgX8_wordOf_87 : ∀ q ∈ lgX8_wordOf_87, decode cX8_wordOf q.1 = .ok (q.2.1, q.2.2) := by decide +kernel
theorem dX8_wordOf_0 : decode cX8_wordOf 0 = .ok (.iload_n 0, 1) := dall dgX8_wordOf_87 0 rfl
theorem dX8_wordOf_1 : decode cX8_wordOf 1 = .ok (.tableswitch 50 0 4 #[35, 38, 41, 44, 47], 35) := dall dgX8_wordOf_87 1 rfl
theorem dX8_wordOf_36 : decode cX8_wordOf 36 = .ok (.ldc 84, 2) := dall dgX8_wordOf_87 2 rfl
theorem dX8_wordOf_38 : decode cX8_wordOf 38 = .ok (.areturn, 1) := dall dgX8_wordOf_87 3 rfl
theorem dX8_wordOf_39 : decode cX8_wordOf 39 = .ok (.ldc 86, 2) := dall dgX8_wordOf_87 4 rfl
theorem dX8_wordOf_41 : decode cX8_wordOf 41 = .ok (.areturn, 1) := dall dgX8_wordOf_87 5 rfl
theorem dX8_wordOf_42 : decode cX8_wordOf 42 = .ok (.ldc 88, 2) := dall dgX8_wordOf_87 6 rfl
theorem dX8_wordOf_44 : decode cX8_wordOf 44 = .ok (.areturn, 1) := dall dgX8_wordOf_87 7 rfl
theorem dX8_wordOf_45 : decode cX8_wordOf 45 = .ok (.ldc 90, 2) := dall dgX8_wordOf_87 8 rfl
theorem dX8_wordOf_47 : decode cX8_wordOf 47 = .ok (.areturn, 1) := dall dgX8_wordOf_87 9 rfl
theorem dX8_wordOf_48 : decode cX8_wordOf 48 = .ok (.ldc 92, 2) := dall dgX8_wordOf_87 10 rfl
theorem dX8_wordOf_50 : decode cX8_wordOf 50 = .ok (.areturn, 1) := dall dgX8_wordOf_87 11 rfl
theorem dX8_wordOf_51 : decode cX8_wordOf 51 = .ok (.ldc 94, 2) := dall dgX8_wordOf_87 12 rfl
theorem dX8_wordOf_53 : decode cX8_wordOf 53 = .ok (.areturn, 1) := dall dgX8_wordOf_87 13 rfl
def lgX9_init_88 : List (Nat × Instr × Nat) := [(0, .aload_n 0, 1), (1, .invokespecial 3, 3), (4, .aload_n 0, 1), (5, .bipush 9, 2), (7, .iconst 5, 1), (8, .multianewarray 11 2, 4), (12, .putfield 13, 3), (15, .aload_n 0, 1), (16, .bipush 32, 2), (18, .newarray .int, 2), (20, .putfield 16, 3), (23, .return_, 1)]
theorem dgX9_init_88 : ∀ q ∈ lgX9_init_88, decode cX9_init q.1 = .ok (q.2.1, q.2.2) := by decide +kernel
theorem dX9_init_0 : decode cX9_init 0 = .ok (.aload_n 0, 1) := dall dgX9_init_88 0 rfl
theorem dX9_init_1 : decode cX9_init 1 = .ok (.invokespecial 3, 3) := dall dgX9_init_88 1 rfl
theorem dX9_init_4 : decode cX9_init 4 = .ok (.aload_n 0, 1) := dall dgX9_init_88 2 rfl
theorem dX9_init_5 : decode cX9_init 5 = .ok (.bipush 9, 2) := dall dgX9_init_88 3 rfl
theorem dX9_init_7 : decode cX9_init 7 = .ok (.iconst 5, 1) := dall dgX9_init_88 4 rfl
theorem dX9_init_8 : decode cX9_init 8 = .ok (.multianewarray 11 2, 4) := dall dgX9_init_88 5 rfl
theorem dX9_init_12 : decode cX9_init 12 = .ok (.putfield 13, 3) := dall dgX9_init_88 6 rfl
theorem dX9_init_15 : decode cX9_init 15 = .ok (.aload_n 0, 1) := dall dgX9_init_88 7 rfl
theorem dX9_init_16 : decode cX9_init 16 = .ok (.bipush 32, 2) := dall dgX9_init_88 8 rfl
theorem dX9_init_18 : decode cX9_init 18 = .ok (.newarray .int, 2) := dall dgX9_init_88 9 rfl
theorem dX9_init_20 : decode cX9_init 20 = .ok (.putfield 16, 3) := dall dgX9_init_88 10 rfl
theorem dX9_init_23 : decode cX9_init 23 = .ok (.return_, 1) := dall dgX9_init_88 11 rfl
def lgX9_missed_89 : List (Nat × Instr × Nat) := [(0, .iconst 0, 1), (1, .istore_n 3, 1), (2, .iconst 0, 1), (3, .istore 4, 2), (5, .iload 4, 2), (7, .aload_n 1, 1), (8, .getfield 20, 3), (11, .if_icmp .ge 39, 3), (14, .iload_n 3, 1), (15, .aload_n 1, 1), (16, .getfield 26, 3), (19, .iload 4, 2), (21, .iaload, 1), (22, .ifCond .le 19, 3), (25, .aload_n 2, 1), (26, .getfield 29, 3), (29, .iload 4, 2), (31, .iaload, 1), (32, .bipush (-9), 2), (34, .if_icmp .ne 7, 3), (37, .iconst 1, 1), (38, .goto 4, 3), (41, .iconst 0, 1), (42, .iadd, 1), (43, .istore_n 3, 1), (44, .iinc 4 1, 3), (47, .goto (-42), 3), (50, .iload_n 3, 1), (51, .ireturn, 1)]
theorem dgX9_missed_89 : ∀ q ∈ lgX9_missed_89, decode cX9_missed q.1 = .ok (q.2.1, q.2.2) := by decide +kernel
theorem dX9_missed_0 : decode cX9_missed 0 = .ok (.iconst 0, 1) := dall dgX9_missed_89 0 rfl
theorem dX9_missed_1 : decode cX9_missed 1 = .ok (.istore_n 3, 1) := dall dgX9_missed_89 1 rfl
theorem dX9_missed_2 : decode cX9_missed 2 = .ok (.iconst 0, 1) := dall dgX9_missed_89 2 rfl
theorem dX9_missed_3 : decode cX9_missed 3 = .ok (.istore 4, 2) := dall dgX9_missed_89 3 rfl
theorem dX9_missed_5 : decode cX9_missed 5 = .ok (.iload 4, 2) := dall dgX9_missed_89 4 rfl
theorem dX9_missed_7 : decode cX9_missed 7 = .ok (.aload_n 1, 1) := dall dgX9_missed_89 5 rfl
theorem dX9_missed_8 : decode cX9_missed 8 = .ok (.getfield 20, 3) := dall dgX9_missed_89 6 rfl
theorem dX9_missed_11 : decode cX9_missed 11 = .ok (.if_icmp .ge 39, 3) := dall dgX9_missed_89 7 rfl
theorem dX9_missed_14 : decode cX9_missed 14 = .ok (.iload_n 3, 1) := dall dgX9_missed_89 8 rfl
theorem dX9_missed_15 : decode cX9_missed 15 = .ok (.aload_n 1, 1) := dall dgX9_missed_89 9 rfl
theorem dX9_missed_16 : decode cX9_missed 16 = .ok (.getfield 26, 3) := dall dgX9_missed_89 10 rfl
theorem dX9_missed_19 : decode cX9_missed 19 = .ok (.iload 4, 2) := dall dgX9_missed_89 11 rfl
theorem dX9_missed_21 : decode cX9_missed 21 = .ok (.iaload, 1) := dall dgX9_missed_89 12 rfl
theorem dX9_missed_22 : decode cX9_missed 22 = .ok (.ifCond .le 19, 3) := dall dgX9_missed_89 13 rfl
theorem dX9_missed_25 : decode cX9_missed 25 = .ok (.aload_n 2, 1) := dall dgX9_missed_89 14 rfl
theorem dX9_missed_26 : decode cX9_missed 26 = .ok (.getfield 29, 3) := dall dgX9_missed_89 15 rfl
theorem dX9_missed_29 : decode cX9_missed 29 = .ok (.iload 4, 2) := dall dgX9_missed_89 16 rfl
theorem dX9_missed_31 : decode cX9_missed 31 = .ok (.iaload, 1) := dall dgX9_missed_89 17 rfl
theorem dX9_missed_32 : decode cX9_missed 32 = .ok (.bipush (-9), 2) := dall dgX9_missed_89 18 rfl
theorem dX9_missed_34 : decode cX9_missed 34 = .ok (.if_icmp .ne 7, 3) := dall dgX9_missed_89 19 rfl
theorem dX9_missed_37 : decode cX9_missed 37 = .ok (.iconst 1, 1) := dall dgX9_missed_89 20 rfl
theorem dX9_missed_38 : decode cX9_missed 38 = .ok (.goto 4, 3) := dall dgX9_missed_89 21 rfl
theorem dX9_missed_41 : decode cX9_missed 41 = .ok (.iconst 0, 1) := dall dgX9_missed_89 22 rfl
theorem dX9_missed_42 : decode cX9_missed 42 = .ok (.iadd, 1) := dall dgX9_missed_89 23 rfl
theorem dX9_missed_43 : decode cX9_missed 43 = .ok (.istore_n 3, 1) := dall dgX9_missed_89 24 rfl
theorem dX9_missed_44 : decode cX9_missed 44 = .ok (.iinc 4 1, 3) := dall dgX9_missed_89 25 rfl
theorem dX9_missed_47 : decode cX9_missed 47 = .ok (.goto (-42), 3) := dall dgX9_missed_89 26 rfl
theorem dX9_missed_50 : decode cX9_missed 50 = .ok (.iload_n 3, 1) := dall dgX9_missed_89 27 rfl
theorem dX9_missed_51 : decode cX9_missed 51 = .ok (.ireturn, 1) := dall dgX9_missed_89 28 rfl
def lgX9_madeUp_90 : List (Nat × Instr × Nat) := [(0, .iconst 0, 1), (1, .istore_n 3, 1), (2, .iconst 0, 1), (3, .istore 4, 2), (5, .iload 4, 2), (7, .aload_n 1, 1), (8, .getfield 20, 3), (11, .if_icmp .ge 39, 3), (14, .iload_n 3, 1), (15, .aload_n 1, 1), (16, .getfield 26, 3), (19, .iload 4, 2), (21, .iaload, 1), (22, .ifCond .ne 19, 3), (25, .aload_n 2, 1), (26, .getfield 29, 3), (29, .iload 4, 2), (31, .iaload, 1), (32, .bipush (-9), 2), (34, .if_icmp .eq 7, 3), (37, .iconst 1, 1), (38, .goto 4, 3), (41, .iconst 0, 1), (42, .iadd, 1), (43, .istore_n 3, 1), (44, .iinc 4 1, 3), (47, .goto (-42), 3), (50, .iload_n 3, 1), (51, .ireturn, 1)]
theorem dgX9_madeUp_90 : ∀ q ∈ lgX9_madeUp_90, decode cX9_madeUp q.1 = .ok (q.2.1, q.2.2) := by decide +kernel
theorem dX9_madeUp_0 : decode cX9_madeUp 0 = .ok (.iconst 0, 1) := dall dgX9_madeUp_90 0 rfl
theorem dX9_madeUp_1 : decode cX9_madeUp 1 = .ok (.istore_n 3, 1) := dall dgX9_madeUp_90 1 rfl
theorem dX9_madeUp_2 : decode cX9_madeUp 2 = .ok (.iconst 0, 1) := dall dgX9_madeUp_90 2 rfl
theorem dX9_madeUp_3 : decode cX9_madeUp 3 = .ok (.istore 4, 2) := dall dgX9_madeUp_90 3 rfl
theorem dX9_madeUp_5 : decode cX9_madeUp 5 = .ok (.iload 4, 2) := dall dgX9_madeUp_90 4 rfl
theorem dX9_madeUp_7 : decode cX9_madeUp 7 = .ok (.aload_n 1, 1) := dall dgX9_madeUp_90 5 rfl
theorem dX9_madeUp_8 : decode cX9_madeUp 8 = .ok (.getfield 20, 3) := dall dgX9_madeUp_90 6 rfl
theorem dX9_madeUp_11 : decode cX9_madeUp 11 = .ok (.if_icmp .ge 39, 3) := dall dgX9_madeUp_90 7 rfl
theorem dX9_madeUp_14 : decode cX9_madeUp 14 = .ok (.iload_n 3, 1) := dall dgX9_madeUp_90 8 rfl
theorem dX9_madeUp_15 : decode cX9_madeUp 15 = .ok (.aload_n 1, 1) := dall dgX9_madeUp_90 9 rfl
theorem dX9_madeUp_16 : decode cX9_madeUp 16 = .ok (.getfield 26, 3) := dall dgX9_madeUp_90 10 rfl
theorem dX9_madeUp_19 : decode cX9_madeUp 19 = .ok (.iload 4, 2) := dall dgX9_madeUp_90 11 rfl
theorem dX9_madeUp_21 : decode cX9_madeUp 21 = .ok (.iaload, 1) := dall dgX9_madeUp_90 12 rfl
theorem dX9_madeUp_22 : decode cX9_madeUp 22 = .ok (.ifCond .ne 19, 3) := dall dgX9_madeUp_90 13 rfl
theorem dX9_madeUp_25 : decode cX9_madeUp 25 = .ok (.aload_n 2, 1) := dall dgX9_madeUp_90 14 rfl
theorem dX9_madeUp_26 : decode cX9_madeUp 26 = .ok (.getfield 29, 3) := dall dgX9_madeUp_90 15 rfl
theorem dX9_madeUp_29 : decode cX9_madeUp 29 = .ok (.iload 4, 2) := dall dgX9_madeUp_90 16 rfl
theorem dX9_madeUp_31 : decode cX9_madeUp 31 = .ok (.iaload, 1) := dall dgX9_madeUp_90 17 rfl
theorem dX9_madeUp_32 : decode cX9_madeUp 32 = .ok (.bipush (-9), 2) := dall dgX9_madeUp_90 18 rfl
theorem dX9_madeUp_34 : decode cX9_madeUp 34 = .ok (.if_icmp .eq 7, 3) := dall dgX9_madeUp_90 19 rfl
theorem dX9_madeUp_37 : decode cX9_madeUp 37 = .ok (.iconst 1, 1) := dall dgX9_madeUp_90 20 rfl
theorem dX9_madeUp_38 : decode cX9_madeUp 38 = .ok (.goto 4, 3) := dall dgX9_madeUp_90 21 rfl
theorem dX9_madeUp_41 : decode cX9_madeUp 41 = .ok (.iconst 0, 1) := dall dgX9_madeUp_90 22 rfl
theorem dX9_madeUp_42 : decode cX9_madeUp 42 = .ok (.iadd, 1) := dall dgX9_madeUp_90 23 rfl
theorem dX9_madeUp_43 : decode cX9_madeUp 43 = .ok (.istore_n 3, 1) := dall dgX9_madeUp_90 24 rfl
theorem dX9_madeUp_44 : decode cX9_madeUp 44 = .ok (.iinc 4 1, 3) := dall dgX9_madeUp_90 25 rfl
theorem dX9_madeUp_47 : decode cX9_madeUp 47 = .ok (.goto (-42), 3) := dall dgX9_madeUp_90 26 rfl
theorem dX9_madeUp_50 : decode cX9_madeUp 50 = .ok (.iload_n 3, 1) := dall dgX9_madeUp_90 27 rfl
theorem dX9_madeUp_51 : decode cX9_madeUp 51 = .ok (.ireturn, 1) := dall dgX9_madeUp_90 28 rfl
def lgX9_wrong_91 : List (Nat × Instr × Nat) := [(0, .aload_n 0, 1), (1, .aload_n 1, 1), (2, .aload_n 2, 1), (3, .aload_n 3, 1), (4, .invokevirtual 34, 3), (7, .istore 4, 2), (9, .aload_n 0, 1), (10, .getfield 16, 3), (13, .iconst 0, 1), (14, .invokestatic 38, 3), (17, .iconst 0, 1), (18, .istore 5, 2), (20, .iload 5, 2), (22, .aload_n 3, 1), (23, .getfield 44, 3), (26, .if_icmp .ge 49, 3), (29, .iload 5, 2), (31, .bipush 9, 2), (33, .if_icmp .ge 42, 3), (36, .aload_n 0, 1), (37, .getfield 16, 3), (40, .arraylength, 1), (41, .iconst 1, 1), (42, .isub, 1), (43, .istore 6, 2), (45, .iload 6, 2), (47, .ifCond .le 22, 3), (50, .aload_n 0, 1), (51, .iload 6, 2), (53, .aload_n 0, 1), (54, .getfield 13, 3), (57, .iload 5, 2), (59, .aaload, 1), (60, .invokevirtual 49, 3), (63, .iinc 6 (-1), 3), (66, .goto (-21), 3), (69, .iinc 5 1, 3), (72, .goto (-52), 3), (75, .iload 4, 2), (77, .aload_n 0, 1), (78, .getfield 16, 3), (81, .aload_n 0, 1), (82, .getfield 16, 3), (85, .arraylength, 1), (86, .iconst 1, 1), (87, .isub, 1), (88, .iaload, 1), (89, .isub, 1), (90, .ireturn, 1)]
theorem dgX9_wrong_91 : ∀ q ∈ lgX9_wrong_91, decode cX9_wrong q.1 = .ok (q.2.1, q.2.2) := by decide +kernel
theorem dX9_wrong_0 : decode cX9_wrong 0 = .ok (.aload_n 0, 1) := dall dgX9_wrong_91 0 rfl
theorem dX9_wrong_1 : decode cX9_wrong 1 = .ok (.aload_n 1, 1) := dall dgX9_wrong_91 1 rfl
theorem dX9_wrong_2 : decode cX9_wrong 2 = .ok (.aload_n 2, 1) := dall dgX9_wrong_91 2 rfl
theorem dX9_wrong_3 : decode cX9_wrong 3 = .ok (.aload_n 3, 1) := dall dgX9_wrong_91 3 rfl
theorem dX9_wrong_4 : decode cX9_wrong 4 = .ok (.invokevirtual 34, 3) := dall dgX9_wrong_91 4 rfl
theorem dX9_wrong_7 : decode cX9_wrong 7 = .ok (.istore 4, 2) := dall dgX9_wrong_91 5 rfl
theorem dX9_wrong_9 : decode cX9_wrong 9 = .ok (.aload_n 0, 1) := dall dgX9_wrong_91 6 rfl
theorem dX9_wrong_10 : decode cX9_wrong 10 = .ok (.getfield 16, 3) := dall dgX9_wrong_91 7 rfl
theorem dX9_wrong_13 : decode cX9_wrong 13 = .ok (.iconst 0, 1) := dall dgX9_wrong_91 8 rfl
theorem dX9_wrong_14 : decode cX9_wrong 14 = .ok (.invokestatic 38, 3) := dall dgX9_wrong_91 9 rfl
theorem dX9_wrong_17 : decode cX9_wrong 17 = .ok (.iconst 0, 1) := dall dgX9_wrong_91 10 rfl
theorem dX9_wrong_18 : decode cX9_wrong 18 = .ok (.istore 5, 2) := dall dgX9_wrong_91 11 rfl
theorem dX9_wrong_20 : decode cX9_wrong 20 = .ok (.iload 5, 2) := dall dgX9_wrong_91 12 rfl
theorem dX9_wrong_22 : decode cX9_wrong 22 = .ok (.aload_n 3, 1) := dall dgX9_wrong_91 13 rfl
theorem dX9_wrong_23 : decode cX9_wrong 23 = .ok (.getfield 44, 3) := dall dgX9_wrong_91 14 rfl
theorem dX9_wrong_26 : decode cX9_wrong 26 = .ok (.if_icmp .ge 49, 3) := dall dgX9_wrong_91 15 rfl
theorem dX9_wrong_29 : decode cX9_wrong 29 = .ok (.iload 5, 2) := dall dgX9_wrong_91 16 rfl
theorem dX9_wrong_31 : decode cX9_wrong 31 = .ok (.bipush 9, 2) := dall dgX9_wrong_91 17 rfl
theorem dX9_wrong_33 : decode cX9_wrong 33 = .ok (.if_icmp .ge 42, 3) := dall dgX9_wrong_91 18 rfl
theorem dX9_wrong_36 : decode cX9_wrong 36 = .ok (.aload_n 0, 1) := dall dgX9_wrong_91 19 rfl
theorem dX9_wrong_37 : decode cX9_wrong 37 = .ok (.getfield 16, 3) := dall dgX9_wrong_91 20 rfl
theorem dX9_wrong_40 : decode cX9_wrong 40 = .ok (.arraylength, 1) := dall dgX9_wrong_91 21 rfl
theorem dX9_wrong_41 : decode cX9_wrong 41 = .ok (.iconst 1, 1) := dall dgX9_wrong_91 22 rfl
theorem dX9_wrong_42 : decode cX9_wrong 42 = .ok (.isub, 1) := dall dgX9_wrong_91 23 rfl
theorem dX9_wrong_43 : decode cX9_wrong 43 = .ok (.istore 6, 2) := dall dgX9_wrong_91 24 rfl
theorem dX9_wrong_45 : decode cX9_wrong 45 = .ok (.iload 6, 2) := dall dgX9_wrong_91 25 rfl
theorem dX9_wrong_47 : decode cX9_wrong 47 = .ok (.ifCond .le 22, 3) := dall dgX9_wrong_91 26 rfl
theorem dX9_wrong_50 : decode cX9_wrong 50 = .ok (.aload_n 0, 1) := dall dgX9_wrong_91 27 rfl
theorem dX9_wrong_51 : decode cX9_wrong 51 = .ok (.iload 6, 2) := dall dgX9_wrong_91 28 rfl
theorem dX9_wrong_53 : decode cX9_wrong 53 = .ok (.aload_n 0, 1) := dall dgX9_wrong_91 29 rfl
theorem dX9_wrong_54 : decode cX9_wrong 54 = .ok (.getfield 13, 3) := dall dgX9_wrong_91 30 rfl
theorem dX9_wrong_57 : decode cX9_wrong 57 = .ok (.iload 5, 2) := dall dgX9_wrong_91 31 rfl
theorem dX9_wrong_59 : decode cX9_wrong 59 = .ok (.aaload, 1) := dall dgX9_wrong_91 32 rfl
theorem dX9_wrong_60 : decode cX9_wrong 60 = .ok (.invokevirtual 49, 3) := dall dgX9_wrong_91 33 rfl
theorem dX9_wrong_63 : decode cX9_wrong 63 = .ok (.iinc 6 (-1), 3) := dall dgX9_wrong_91 34 rfl
theorem dX9_wrong_66 : decode cX9_wrong 66 = .ok (.goto (-21), 3) := dall dgX9_wrong_91 35 rfl
theorem dX9_wrong_69 : decode cX9_wrong 69 = .ok (.iinc 5 1, 3) := dall dgX9_wrong_91 36 rfl
theorem dX9_wrong_72 : decode cX9_wrong 72 = .ok (.goto (-52), 3) := dall dgX9_wrong_91 37 rfl
theorem dX9_wrong_75 : decode cX9_wrong 75 = .ok (.iload 4, 2) := dall dgX9_wrong_91 38 rfl
theorem dX9_wrong_77 : decode cX9_wrong 77 = .ok (.aload_n 0, 1) := dall dgX9_wrong_91 39 rfl
theorem dX9_wrong_78 : decode cX9_wrong 78 = .ok (.getfield 16, 3) := dall dgX9_wrong_91 40 rfl
theorem dX9_wrong_81 : decode cX9_wrong 81 = .ok (.aload_n 0, 1) := dall dgX9_wrong_91 41 rfl
theorem dX9_wrong_82 : decode cX9_wrong 82 = .ok (.getfield 16, 3) := dall dgX9_wrong_91 42 rfl
theorem dX9_wrong_85 : decode cX9_wrong 85 = .ok (.arraylength, 1) := dall dgX9_wrong_91 43 rfl
theorem dX9_wrong_86 : decode cX9_wrong 86 = .ok (.iconst 1, 1) := dall dgX9_wrong_91 44 rfl
theorem dX9_wrong_87 : decode cX9_wrong 87 = .ok (.isub, 1) := dall dgX9_wrong_91 45 rfl
theorem dX9_wrong_88 : decode cX9_wrong 88 = .ok (.iaload, 1) := dall dgX9_wrong_91 46 rfl
theorem dX9_wrong_89 : decode cX9_wrong 89 = .ok (.isub, 1) := dall dgX9_wrong_91 47 rfl
theorem dX9_wrong_90 : decode cX9_wrong 90 = .ok (.ireturn, 1) := dall dgX9_wrong_91 48 rfl
def lgX9_giveOne_92 : List (Nat × Instr × Nat) := [(0, .iconst 0, 1), (1, .istore_n 3, 1), (2, .iload_n 3, 1), (3, .iconst 5, 1), (4, .if_icmp .ge 50, 3), (7, .iload_n 1, 1), (8, .iconst 1, 1), (9, .iload_n 3, 1), (10, .ishl, 1), (11, .iconst (-1), 1), (12, .ixor, 1), (13, .iand, 1), (14, .istore 4, 2), (16, .iload 4, 2), (18, .iload_n 1, 1), (19, .if_icmp .eq 29, 3), (22, .aload_n 0, 1), (23, .getfield 16, 3), (26, .iload_n 1, 1), (27, .aload_n 0, 1), (28, .getfield 16, 3), (31, .iload_n 1, 1), (32, .iaload, 1), (33, .aload_n 0, 1), (34, .getfield 16, 3), (37, .iload 4, 2), (39, .iaload, 1), (40, .aload_n 2, 1), (41, .iload_n 3, 1), (42, .iaload, 1), (43, .iadd, 1), (44, .invokestatic 53, 3), (47, .iastore, 1), (48, .iinc 3 1, 3), (51, .goto (-49), 3), (54, .return_, 1)]
theorem dgX9_giveOne_92 : ∀ q ∈ lgX9_giveOne_92, decode cX9_giveOne q.1 = .ok (q.2.1, q.2.2) := by decide +kernel
theorem dX9_giveOne_0 : decode cX9_giveOne 0 = .ok (.iconst 0, 1) := dall dgX9_giveOne_92 0 rfl
theorem dX9_giveOne_1 : decode cX9_giveOne 1 = .ok (.istore_n 3, 1) := dall dgX9_giveOne_92 1 rfl
theorem dX9_giveOne_2 : decode cX9_giveOne 2 = .ok (.iload_n 3, 1) := dall dgX9_giveOne_92 2 rfl
theorem dX9_giveOne_3 : decode cX9_giveOne 3 = .ok (.iconst 5, 1) := dall dgX9_giveOne_92 3 rfl
theorem dX9_giveOne_4 : decode cX9_giveOne 4 = .ok (.if_icmp .ge 50, 3) := dall dgX9_giveOne_92 4 rfl
theorem dX9_giveOne_7 : decode cX9_giveOne 7 = .ok (.iload_n 1, 1) := dall dgX9_giveOne_92 5 rfl
theorem dX9_giveOne_8 : decode cX9_giveOne 8 = .ok (.iconst 1, 1) := dall dgX9_giveOne_92 6 rfl
theorem dX9_giveOne_9 : decode cX9_giveOne 9 = .ok (.iload_n 3, 1) := dall dgX9_giveOne_92 7 rfl
theorem dX9_giveOne_10 : decode cX9_giveOne 10 = .ok (.ishl, 1) := dall dgX9_giveOne_92 8 rfl
theorem dX9_giveOne_11 : decode cX9_giveOne 11 = .ok (.iconst (-1), 1) := dall dgX9_giveOne_92 9 rfl
theorem dX9_giveOne_12 : decode cX9_giveOne 12 = .ok (.ixor, 1) := dall dgX9_giveOne_92 10 rfl
theorem dX9_giveOne_13 : decode cX9_giveOne 13 = .ok (.iand, 1) := dall dgX9_giveOne_92 11 rfl
theorem dX9_giveOne_14 : decode cX9_giveOne 14 = .ok (.istore 4, 2) := dall dgX9_giveOne_92 12 rfl
theorem dX9_giveOne_16 : decode cX9_giveOne 16 = .ok (.iload 4, 2) := dall dgX9_giveOne_92 13 rfl
theorem dX9_giveOne_18 : decode cX9_giveOne 18 = .ok (.iload_n 1, 1) := dall dgX9_giveOne_92 14 rfl
theorem dX9_giveOne_19 : decode cX9_giveOne 19 = .ok (.if_icmp .eq 29, 3) := dall dgX9_giveOne_92 15 rfl
theorem dX9_giveOne_22 : decode cX9_giveOne 22 = .ok (.aload_n 0, 1) := dall dgX9_giveOne_92 16 rfl
theorem dX9_giveOne_23 : decode cX9_giveOne 23 = .ok (.getfield 16, 3) := dall dgX9_giveOne_92 17 rfl
theorem dX9_giveOne_26 : decode cX9_giveOne 26 = .ok (.iload_n 1, 1) := dall dgX9_giveOne_92 18 rfl
theorem dX9_giveOne_27 : decode cX9_giveOne 27 = .ok (.aload_n 0, 1) := dall dgX9_giveOne_92 19 rfl
theorem dX9_giveOne_28 : decode cX9_giveOne 28 = .ok (.getfield 16, 3) := dall dgX9_giveOne_92 20 rfl
theorem dX9_giveOne_31 : decode cX9_giveOne 31 = .ok (.iload_n 1, 1) := dall dgX9_giveOne_92 21 rfl
theorem dX9_giveOne_32 : decode cX9_giveOne 32 = .ok (.iaload, 1) := dall dgX9_giveOne_92 22 rfl
theorem dX9_giveOne_33 : decode cX9_giveOne 33 = .ok (.aload_n 0, 1) := dall dgX9_giveOne_92 23 rfl
theorem dX9_giveOne_34 : decode cX9_giveOne 34 = .ok (.getfield 16, 3) := dall dgX9_giveOne_92 24 rfl
theorem dX9_giveOne_37 : decode cX9_giveOne 37 = .ok (.iload 4, 2) := dall dgX9_giveOne_92 25 rfl
theorem dX9_giveOne_39 : decode cX9_giveOne 39 = .ok (.iaload, 1) := dall dgX9_giveOne_92 26 rfl
theorem dX9_giveOne_40 : decode cX9_giveOne 40 = .ok (.aload_n 2, 1) := dall dgX9_giveOne_92 27 rfl
theorem dX9_giveOne_41 : decode cX9_giveOne 41 = .ok (.iload_n 3, 1) := dall dgX9_giveOne_92 28 rfl
theorem dX9_giveOne_42 : decode cX9_giveOne 42 = .ok (.iaload, 1) := dall dgX9_giveOne_92 29 rfl
theorem dX9_giveOne_43 : decode cX9_giveOne 43 = .ok (.iadd, 1) := dall dgX9_giveOne_92 30 rfl
theorem dX9_giveOne_44 : decode cX9_giveOne 44 = .ok (.invokestatic 53, 3) := dall dgX9_giveOne_92 31 rfl
theorem dX9_giveOne_47 : decode cX9_giveOne 47 = .ok (.iastore, 1) := dall dgX9_giveOne_92 32 rfl
theorem dX9_giveOne_48 : decode cX9_giveOne 48 = .ok (.iinc 3 1, 3) := dall dgX9_giveOne_92 33 rfl
theorem dX9_giveOne_51 : decode cX9_giveOne 51 = .ok (.goto (-49), 3) := dall dgX9_giveOne_92 34 rfl
theorem dX9_giveOne_54 : decode cX9_giveOne 54 = .ok (.return_, 1) := dall dgX9_giveOne_92 35 rfl
def lgX9_countTogether_93 : List (Nat × Instr × Nat) := [(0, .iconst 0, 1), (1, .istore 4, 2), (3, .iload 4, 2), (5, .bipush 9, 2), (7, .if_icmp .ge 20, 3), (10, .aload_n 0, 1), (11, .getfield 13, 3), (14, .iload 4, 2), (16, .aaload, 1), (17, .iconst 0, 1), (18, .invokestatic 38, 3), (21, .iinc 4 1, 3), (24, .goto (-21), 3), (27, .iconst 0, 1), (28, .istore 4, 2), (30, .iconst 0, 1), (31, .istore 5, 2), (33, .iload 5, 2), (35, .aload_n 1, 1), (36, .getfield 20, 3), (39, .if_icmp .ge 74, 3), (42, .aload_n 2, 1), (43, .getfield 29, 3), (46, .iload 5, 2), (48, .iaload, 1), (49, .istore 6, 2), (51, .aload_n 1, 1), (52, .getfield 26, 3), (55, .iload 5, 2), (57, .iaload, 1), (58, .iconst 1, 1), (59, .isub, 1), (60, .istore 7, 2), (62, .iload 6, 2), (64, .ifCond .lt 43, 3), (67, .iload 6, 2), (69, .bipush 9, 2), (71, .if_icmp .ge 36, 3), (74, .iload 7, 2), (76, .ifCond .lt 31, 3), (79, .iload 7, 2), (81, .iconst 5, 1), (82, .if_icmp .ge 25, 3), (85, .aload_n 0, 1), (86, .getfield 13, 3), (89, .aload_n 3, 1), (90, .getfield 59, 3), (93, .iload 6, 2), (95, .iaload, 1), (96, .aaload, 1)]
theorem dgX9_countTogether_93 : ∀ q ∈ lgX9_countTogether_93, decode cX9_countTogether q.1 = .ok (q.2.1, q.2.2) := by decide +kernel
theorem dX9_countTogether_0 : decode cX9_countTogether 0 = .ok (.iconst 0, 1) := dall dgX9_countTogether_93 0 rfl
theorem dX9_countTogether_1 : decode cX9_countTogether 1 = .ok (.istore 4, 2) := dall dgX9_countTogether_93 1 rfl
theorem dX9_countTogether_3 : decode cX9_countTogether 3 = .ok (.iload 4, 2) := dall dgX9_countTogether_93 2 rfl
theorem dX9_countTogether_5 : decode cX9_countTogether 5 = .ok (.bipush 9, 2) := dall dgX9_countTogether_93 3 rfl
theorem dX9_countTogether_7 : decode cX9_countTogether 7 = .ok (.if_icmp .ge 20, 3) := dall dgX9_countTogether_93 4 rfl
theorem dX9_countTogether_10 : decode cX9_countTogether 10 = .ok (.aload_n 0, 1) := dall dgX9_countTogether_93 5 rfl
theorem dX9_countTogether_11 : decode cX9_countTogether 11 = .ok (.getfield 13, 3) := dall dgX9_countTogether_93 6 rfl
theorem dX9_countTogether_14 : decode cX9_countTogether 14 = .ok (.iload 4, 2) := dall dgX9_countTogether_93 7 rfl
theorem dX9_countTogether_16 : decode cX9_countTogether 16 = .ok (.aaload, 1) := dall dgX9_countTogether_93 8 rfl
theorem dX9_countTogether_17 : decode cX9_countTogether 17 = .ok (.iconst 0, 1) := dall dgX9_countTogether_93 9 rfl
theorem dX9_countTogether_18 : decode cX9_countTogether 18 = .ok (.invokestatic 38, 3) := dall dgX9_countTogether_93 10 rfl
theorem dX9_countTogether_21 : decode cX9_countTogether 21 = .ok (.iinc 4 1, 3) := dall dgX9_countTogether_93 11 rfl
theorem dX9_countTogether_24 : decode cX9_countTogether 24 = .ok (.goto (-21), 3) := dall dgX9_countTogether_93 12 rfl
theorem dX9_countTogether_27 : decode cX9_countTogether 27 = .ok (.iconst 0, 1) := dall dgX9_countTogether_93 13 rfl
theorem dX9_countTogether_28 : decode cX9_countTogether 28 = .ok (.istore 4, 2) := dall dgX9_countTogether_93 14 rfl
theorem dX9_countTogether_30 : decode cX9_countTogether 30 = .ok (.iconst 0, 1) := dall dgX9_countTogether_93 15 rfl
theorem dX9_countTogether_31 : decode cX9_countTogether 31 = .ok (.istore 5, 2) := dall dgX9_countTogether_93 16 rfl
theorem dX9_countTogether_33 : decode cX9_countTogether 33 = .ok (.iload 5, 2) := dall dgX9_countTogether_93 17 rfl
theorem dX9_countTogether_35 : decode cX9_countTogether 35 = .ok (.aload_n 1, 1) := dall dgX9_countTogether_93 18 rfl
theorem dX9_countTogether_36 : decode cX9_countTogether 36 = .ok (.getfield 20, 3) := dall dgX9_countTogether_93 19 rfl
theorem dX9_countTogether_39 : decode cX9_countTogether 39 = .ok (.if_icmp .ge 74, 3) := dall dgX9_countTogether_93 20 rfl
theorem dX9_countTogether_42 : decode cX9_countTogether 42 = .ok (.aload_n 2, 1) := dall dgX9_countTogether_93 21 rfl
theorem dX9_countTogether_43 : decode cX9_countTogether 43 = .ok (.getfield 29, 3) := dall dgX9_countTogether_93 22 rfl
theorem dX9_countTogether_46 : decode cX9_countTogether 46 = .ok (.iload 5, 2) := dall dgX9_countTogether_93 23 rfl
theorem dX9_countTogether_48 : decode cX9_countTogether 48 = .ok (.iaload, 1) := dall dgX9_countTogether_93 24 rfl
theorem dX9_countTogether_49 : decode cX9_countTogether 49 = .ok (.istore 6, 2) := dall dgX9_countTogether_93 25 rfl
theorem dX9_countTogether_51 : decode cX9_countTogether 51 = .ok (.aload_n 1, 1) := dall dgX9_countTogether_93 26 rfl
theorem dX9_countTogether_52 : decode cX9_countTogether 52 = .ok (.getfield 26, 3) := dall dgX9_countTogether_93 27 rfl
theorem dX9_countTogether_55 : decode cX9_countTogether 55 = .ok (.iload 5, 2) := dall dgX9_countTogether_93 28 rfl
theorem dX9_countTogether_57 : decode cX9_countTogether 57 = .ok (.iaload, 1) := dall dgX9_countTogether_93 29 rfl
theorem dX9_countTogether_58 : decode cX9_countTogether 58 = .ok (.iconst 1, 1) := dall dgX9_countTogether_93 30 rfl
theorem dX9_countTogether_59 : decode cX9_countTogether 59 = .ok (.isub, 1) := dall dgX9_countTogether_93 31 rfl
theorem dX9_countTogether_60 : decode cX9_countTogether 60 = .ok (.istore 7, 2) := dall dgX9_countTogether_93 32 rfl
theorem dX9_countTogether_62 : decode cX9_countTogether 62 = .ok (.iload 6, 2) := dall dgX9_countTogether_93 33 rfl
theorem dX9_countTogether_64 : decode cX9_countTogether 64 = .ok (.ifCond .lt 43, 3) := dall dgX9_countTogether_93 34 rfl
theorem dX9_countTogether_67 : decode cX9_countTogether 67 = .ok (.iload 6, 2) := dall dgX9_countTogether_93 35 rfl
theorem dX9_countTogether_69 : decode cX9_countTogether 69 = .ok (.bipush 9, 2) := dall dgX9_countTogether_93 36 rfl
theorem dX9_countTogether_71 : decode cX9_countTogether 71 = .ok (.if_icmp .ge 36, 3) := dall dgX9_countTogether_93 37 rfl
theorem dX9_countTogether_74 : decode cX9_countTogether 74 = .ok (.iload 7, 2) := dall dgX9_countTogether_93 38 rfl
theorem dX9_countTogether_76 : decode cX9_countTogether 76 = .ok (.ifCond .lt 31, 3) := dall dgX9_countTogether_93 39 rfl
theorem dX9_countTogether_79 : decode cX9_countTogether 79 = .ok (.iload 7, 2) := dall dgX9_countTogether_93 40 rfl
theorem dX9_countTogether_81 : decode cX9_countTogether 81 = .ok (.iconst 5, 1) := dall dgX9_countTogether_93 41 rfl
theorem dX9_countTogether_82 : decode cX9_countTogether 82 = .ok (.if_icmp .ge 25, 3) := dall dgX9_countTogether_93 42 rfl
theorem dX9_countTogether_85 : decode cX9_countTogether 85 = .ok (.aload_n 0, 1) := dall dgX9_countTogether_93 43 rfl
theorem dX9_countTogether_86 : decode cX9_countTogether 86 = .ok (.getfield 13, 3) := dall dgX9_countTogether_93 44 rfl
theorem dX9_countTogether_89 : decode cX9_countTogether 89 = .ok (.aload_n 3, 1) := dall dgX9_countTogether_93 45 rfl
theorem dX9_countTogether_90 : decode cX9_countTogether 90 = .ok (.getfield 59, 3) := dall dgX9_countTogether_93 46 rfl
theorem dX9_countTogether_93 : decode cX9_countTogether 93 = .ok (.iload 6, 2) := dall dgX9_countTogether_93 47 rfl
theorem dX9_countTogether_95 : decode cX9_countTogether 95 = .ok (.iaload, 1) := dall dgX9_countTogether_93 48 rfl
theorem dX9_countTogether_96 : decode cX9_countTogether 96 = .ok (.aaload, 1) := dall dgX9_countTogether_93 49 rfl
def lgX9_countTogether_94 : List (Nat × Instr × Nat) := [(97, .iload 7, 2), (99, .dup2, 1), (100, .iaload, 1), (101, .iconst 1, 1), (102, .iadd, 1), (103, .iastore, 1), (104, .iinc 4 1, 3), (107, .iinc 5 1, 3), (110, .goto (-77), 3), (113, .iload 4, 2), (115, .ireturn, 1)]
theorem dgX9_countTogether_94 : ∀ q ∈ lgX9_countTogether_94, decode cX9_countTogether q.1 = .ok (q.2.1, q.2.2) := by decide +kernel
theorem dX9_countTogether_97 : decode cX9_countTogether 97 = .ok (.iload 7, 2) := dall dgX9_countTogether_94 0 rfl
theorem dX9_countTogether_99 : decode cX9_countTogether 99 = .ok (.dup2, 1) := dall dgX9_countTogether_94 1 rfl
theorem dX9_countTogether_100 : decode cX9_countTogether 100 = .ok (.iaload, 1) := dall dgX9_countTogether_94 2 rfl
theorem dX9_countTogether_101 : decode cX9_countTogether 101 = .ok (.iconst 1, 1) := dall dgX9_countTogether_94 3 rfl
theorem dX9_countTogether_102 : decode cX9_countTogether 102 = .ok (.iadd, 1) := dall dgX9_countTogether_94 4 rfl
theorem dX9_countTogether_103 : decode cX9_countTogether 103 = .ok (.iastore, 1) := dall dgX9_countTogether_94 5 rfl
theorem dX9_countTogether_104 : decode cX9_countTogether 104 = .ok (.iinc 4 1, 3) := dall dgX9_countTogether_94 6 rfl
theorem dX9_countTogether_107 : decode cX9_countTogether 107 = .ok (.iinc 5 1, 3) := dall dgX9_countTogether_94 7 rfl
theorem dX9_countTogether_110 : decode cX9_countTogether 110 = .ok (.goto (-77), 3) := dall dgX9_countTogether_94 8 rfl
theorem dX9_countTogether_113 : decode cX9_countTogether 113 = .ok (.iload 4, 2) := dall dgX9_countTogether_94 9 rfl
theorem dX9_countTogether_115 : decode cX9_countTogether 115 = .ok (.ireturn, 1) := dall dgX9_countTogether_94 10 rfl
def lgX10_init_95 : List (Nat × Instr × Nat) := [(0, .aload_n 0, 1), (1, .invokespecial 3, 3), (4, .aload_n 0, 1), (5, .bipush 12, 2), (7, .newarray .int, 2), (9, .putfield 11, 3), (12, .aload_n 0, 1), (13, .bipush 12, 2), (15, .newarray .int, 2), (17, .putfield 15, 3), (20, .return_, 1)]
theorem dgX10_init_95 : ∀ q ∈ lgX10_init_95, decode cX10_init q.1 = .ok (q.2.1, q.2.2) := by decide +kernel
theorem dX10_init_0 : decode cX10_init 0 = .ok (.aload_n 0, 1) := dall dgX10_init_95 0 rfl
theorem dX10_init_1 : decode cX10_init 1 = .ok (.invokespecial 3, 3) := dall dgX10_init_95 1 rfl
theorem dX10_init_4 : decode cX10_init 4 = .ok (.aload_n 0, 1) := dall dgX10_init_95 2 rfl
theorem dX10_init_5 : decode cX10_init 5 = .ok (.bipush 12, 2) := dall dgX10_init_95 3 rfl
theorem dX10_init_7 : decode cX10_init 7 = .ok (.newarray .int, 2) := dall dgX10_init_95 4 rfl
theorem dX10_init_9 : decode cX10_init 9 = .ok (.putfield 11, 3) := dall dgX10_init_95 5 rfl
theorem dX10_init_12 : decode cX10_init 12 = .ok (.aload_n 0, 1) := dall dgX10_init_95 6 rfl
theorem dX10_init_13 : decode cX10_init 13 = .ok (.bipush 12, 2) := dall dgX10_init_95 7 rfl
theorem dX10_init_15 : decode cX10_init 15 = .ok (.newarray .int, 2) := dall dgX10_init_95 8 rfl
theorem dX10_init_17 : decode cX10_init 17 = .ok (.putfield 15, 3) := dall dgX10_init_95 9 rfl
theorem dX10_init_20 : decode cX10_init 20 = .ok (.return_, 1) := dall dgX10_init_95 10 rfl
def lgX10_add_96 : List (Nat × Instr × Nat) := [(0, .aload_n 0, 1), (1, .getfield 18, 3), (4, .bipush 12, 2), (6, .if_icmp .lt 6, 3), (9, .bipush (-3), 2), (11, .ireturn, 1), (12, .aload_n 0, 1), (13, .getfield 11, 3), (16, .aload_n 0, 1), (17, .getfield 18, 3), (20, .iload_n 1, 1), (21, .iastore, 1), (22, .aload_n 0, 1), (23, .getfield 15, 3), (26, .aload_n 0, 1), (27, .getfield 18, 3), (30, .iload_n 2, 1), (31, .iastore, 1), (32, .aload_n 0, 1), (33, .dup, 1), (34, .getfield 18, 3), (37, .iconst 1, 1), (38, .iadd, 1), (39, .putfield 18, 3), (42, .aload_n 0, 1), (43, .getfield 18, 3), (46, .iconst 1, 1), (47, .isub, 1), (48, .ireturn, 1)]
theorem dgX10_add_96 : ∀ q ∈ lgX10_add_96, decode cX10_add q.1 = .ok (q.2.1, q.2.2) := by decide +kernel
theorem dX10_add_0 : decode cX10_add 0 = .ok (.aload_n 0, 1) := dall dgX10_add_96 0 rfl
theorem dX10_add_1 : decode cX10_add 1 = .ok (.getfield 18, 3) := dall dgX10_add_96 1 rfl
theorem dX10_add_4 : decode cX10_add 4 = .ok (.bipush 12, 2) := dall dgX10_add_96 2 rfl
theorem dX10_add_6 : decode cX10_add 6 = .ok (.if_icmp .lt 6, 3) := dall dgX10_add_96 3 rfl
theorem dX10_add_9 : decode cX10_add 9 = .ok (.bipush (-3), 2) := dall dgX10_add_96 4 rfl
theorem dX10_add_11 : decode cX10_add 11 = .ok (.ireturn, 1) := dall dgX10_add_96 5 rfl
theorem dX10_add_12 : decode cX10_add 12 = .ok (.aload_n 0, 1) := dall dgX10_add_96 6 rfl
theorem dX10_add_13 : decode cX10_add 13 = .ok (.getfield 11, 3) := dall dgX10_add_96 7 rfl
theorem dX10_add_16 : decode cX10_add 16 = .ok (.aload_n 0, 1) := dall dgX10_add_96 8 rfl
theorem dX10_add_17 : decode cX10_add 17 = .ok (.getfield 18, 3) := dall dgX10_add_96 9 rfl
theorem dX10_add_20 : decode cX10_add 20 = .ok (.iload_n 1, 1) := dall dgX10_add_96 10 rfl
theorem dX10_add_21 : decode cX10_add 21 = .ok (.iastore, 1) := dall dgX10_add_96 11 rfl
theorem dX10_add_22 : decode cX10_add 22 = .ok (.aload_n 0, 1) := dall dgX10_add_96 12 rfl
theorem dX10_add_23 : decode cX10_add 23 = .ok (.getfield 15, 3) := dall dgX10_add_96 13 rfl
theorem dX10_add_26 : decode cX10_add 26 = .ok (.aload_n 0, 1) := dall dgX10_add_96 14 rfl
theorem dX10_add_27 : decode cX10_add 27 = .ok (.getfield 18, 3) := dall dgX10_add_96 15 rfl
theorem dX10_add_30 : decode cX10_add 30 = .ok (.iload_n 2, 1) := dall dgX10_add_96 16 rfl
theorem dX10_add_31 : decode cX10_add 31 = .ok (.iastore, 1) := dall dgX10_add_96 17 rfl
theorem dX10_add_32 : decode cX10_add 32 = .ok (.aload_n 0, 1) := dall dgX10_add_96 18 rfl
theorem dX10_add_33 : decode cX10_add 33 = .ok (.dup, 1) := dall dgX10_add_96 19 rfl
theorem dX10_add_34 : decode cX10_add 34 = .ok (.getfield 18, 3) := dall dgX10_add_96 20 rfl
theorem dX10_add_37 : decode cX10_add 37 = .ok (.iconst 1, 1) := dall dgX10_add_96 21 rfl
theorem dX10_add_38 : decode cX10_add 38 = .ok (.iadd, 1) := dall dgX10_add_96 22 rfl
theorem dX10_add_39 : decode cX10_add 39 = .ok (.putfield 18, 3) := dall dgX10_add_96 23 rfl
theorem dX10_add_42 : decode cX10_add 42 = .ok (.aload_n 0, 1) := dall dgX10_add_96 24 rfl
theorem dX10_add_43 : decode cX10_add 43 = .ok (.getfield 18, 3) := dall dgX10_add_96 25 rfl
theorem dX10_add_46 : decode cX10_add 46 = .ok (.iconst 1, 1) := dall dgX10_add_96 26 rfl
theorem dX10_add_47 : decode cX10_add 47 = .ok (.isub, 1) := dall dgX10_add_96 27 rfl
theorem dX10_add_48 : decode cX10_add 48 = .ok (.ireturn, 1) := dall dgX10_add_96 28 rfl
def lgX10_pieceWithMost_97 : List (Nat × Instr × Nat) := [(0, .bipush (-9), 2), (2, .istore_n 3, 1), (3, .iconst 0, 1), (4, .istore 4, 2), (6, .iconst 0, 1), (7, .istore 5, 2), (9, .iload 5, 2), (11, .aload_n 1, 1), (12, .getfield 22, 3), (15, .if_icmp .ge 33, 3), (18, .aload_n 0, 1), (19, .aload_n 1, 1), (20, .iload_n 2, 1), (21, .iload 5, 2), (23, .invokevirtual 27, 3), (26, .istore 6, 2), (28, .iload 6, 2), (30, .iload 4, 2), (32, .if_icmp .le 10, 3), (35, .iload 6, 2), (37, .istore 4, 2), (39, .iload 5, 2), (41, .istore_n 3, 1), (42, .iinc 5 1, 3), (45, .goto (-36), 3), (48, .iload_n 3, 1), (49, .ireturn, 1)]
theorem dgX10_pieceWithMost_97 : ∀ q ∈ lgX10_pieceWithMost_97, decode cX10_pieceWithMost q.1 = .ok (q.2.1, q.2.2) := by decide +kernel
theorem dX10_pieceWithMost_0 : decode cX10_pieceWithMost 0 = .ok (.bipush (-9), 2) := dall dgX10_pieceWithMost_97 0 rfl
theorem dX10_pieceWithMost_2 : decode cX10_pieceWithMost 2 = .ok (.istore_n 3, 1) := dall dgX10_pieceWithMost_97 1 rfl
theorem dX10_pieceWithMost_3 : decode cX10_pieceWithMost 3 = .ok (.iconst 0, 1) := dall dgX10_pieceWithMost_97 2 rfl
theorem dX10_pieceWithMost_4 : decode cX10_pieceWithMost 4 = .ok (.istore 4, 2) := dall dgX10_pieceWithMost_97 3 rfl
theorem dX10_pieceWithMost_6 : decode cX10_pieceWithMost 6 = .ok (.iconst 0, 1) := dall dgX10_pieceWithMost_97 4 rfl
theorem dX10_pieceWithMost_7 : decode cX10_pieceWithMost 7 = .ok (.istore 5, 2) := dall dgX10_pieceWithMost_97 5 rfl
theorem dX10_pieceWithMost_9 : decode cX10_pieceWithMost 9 = .ok (.iload 5, 2) := dall dgX10_pieceWithMost_97 6 rfl
theorem dX10_pieceWithMost_11 : decode cX10_pieceWithMost 11 = .ok (.aload_n 1, 1) := dall dgX10_pieceWithMost_97 7 rfl
theorem dX10_pieceWithMost_12 : decode cX10_pieceWithMost 12 = .ok (.getfield 22, 3) := dall dgX10_pieceWithMost_97 8 rfl
theorem dX10_pieceWithMost_15 : decode cX10_pieceWithMost 15 = .ok (.if_icmp .ge 33, 3) := dall dgX10_pieceWithMost_97 9 rfl
theorem dX10_pieceWithMost_18 : decode cX10_pieceWithMost 18 = .ok (.aload_n 0, 1) := dall dgX10_pieceWithMost_97 10 rfl
theorem dX10_pieceWithMost_19 : decode cX10_pieceWithMost 19 = .ok (.aload_n 1, 1) := dall dgX10_pieceWithMost_97 11 rfl
theorem dX10_pieceWithMost_20 : decode cX10_pieceWithMost 20 = .ok (.iload_n 2, 1) := dall dgX10_pieceWithMost_97 12 rfl
theorem dX10_pieceWithMost_21 : decode cX10_pieceWithMost 21 = .ok (.iload 5, 2) := dall dgX10_pieceWithMost_97 13 rfl
theorem dX10_pieceWithMost_23 : decode cX10_pieceWithMost 23 = .ok (.invokevirtual 27, 3) := dall dgX10_pieceWithMost_97 14 rfl
theorem dX10_pieceWithMost_26 : decode cX10_pieceWithMost 26 = .ok (.istore 6, 2) := dall dgX10_pieceWithMost_97 15 rfl
theorem dX10_pieceWithMost_28 : decode cX10_pieceWithMost 28 = .ok (.iload 6, 2) := dall dgX10_pieceWithMost_97 16 rfl
theorem dX10_pieceWithMost_30 : decode cX10_pieceWithMost 30 = .ok (.iload 4, 2) := dall dgX10_pieceWithMost_97 17 rfl
theorem dX10_pieceWithMost_32 : decode cX10_pieceWithMost 32 = .ok (.if_icmp .le 10, 3) := dall dgX10_pieceWithMost_97 18 rfl
theorem dX10_pieceWithMost_35 : decode cX10_pieceWithMost 35 = .ok (.iload 6, 2) := dall dgX10_pieceWithMost_97 19 rfl
theorem dX10_pieceWithMost_37 : decode cX10_pieceWithMost 37 = .ok (.istore 4, 2) := dall dgX10_pieceWithMost_97 20 rfl
theorem dX10_pieceWithMost_39 : decode cX10_pieceWithMost 39 = .ok (.iload 5, 2) := dall dgX10_pieceWithMost_97 21 rfl
theorem dX10_pieceWithMost_41 : decode cX10_pieceWithMost 41 = .ok (.istore_n 3, 1) := dall dgX10_pieceWithMost_97 22 rfl
theorem dX10_pieceWithMost_42 : decode cX10_pieceWithMost 42 = .ok (.iinc 5 1, 3) := dall dgX10_pieceWithMost_97 23 rfl
theorem dX10_pieceWithMost_45 : decode cX10_pieceWithMost 45 = .ok (.goto (-36), 3) := dall dgX10_pieceWithMost_97 24 rfl
theorem dX10_pieceWithMost_48 : decode cX10_pieceWithMost 48 = .ok (.iload_n 3, 1) := dall dgX10_pieceWithMost_97 25 rfl
theorem dX10_pieceWithMost_49 : decode cX10_pieceWithMost 49 = .ok (.ireturn, 1) := dall dgX10_pieceWithMost_97 26 rfl
def lgX10_piecesWithSome_98 : List (Nat × Instr × Nat) := [(0, .iconst 0, 1), (1, .istore_n 3, 1), (2, .iconst 0, 1), (3, .istore 4, 2), (5, .iload 4, 2), (7, .aload_n 1, 1), (8, .getfield 22, 3), (11, .if_icmp .ge 28, 3), (14, .iload_n 3, 1), (15, .aload_n 0, 1), (16, .aload_n 1, 1), (17, .iload_n 2, 1), (18, .iload 4, 2), (20, .invokevirtual 27, 3), (23, .ifCond .le 7, 3), (26, .iconst 1, 1), (27, .goto 4, 3), (30, .iconst 0, 1), (31, .iadd, 1), (32, .istore_n 3, 1), (33, .iinc 4 1, 3), (36, .goto (-31), 3), (39, .iload_n 3, 1), (40, .ireturn, 1)]
theorem dgX10_piecesWithSome_98 : ∀ q ∈ lgX10_piecesWithSome_98, decode cX10_piecesWithSome q.1 = .ok (q.2.1, q.2.2) := by decide +kernel
theorem dX10_piecesWithSome_0 : decode cX10_piecesWithSome 0 = .ok (.iconst 0, 1) := dall dgX10_piecesWithSome_98 0 rfl
theorem dX10_piecesWithSome_1 : decode cX10_piecesWithSome 1 = .ok (.istore_n 3, 1) := dall dgX10_piecesWithSome_98 1 rfl
theorem dX10_piecesWithSome_2 : decode cX10_piecesWithSome 2 = .ok (.iconst 0, 1) := dall dgX10_piecesWithSome_98 2 rfl
theorem dX10_piecesWithSome_3 : decode cX10_piecesWithSome 3 = .ok (.istore 4, 2) := dall dgX10_piecesWithSome_98 3 rfl
theorem dX10_piecesWithSome_5 : decode cX10_piecesWithSome 5 = .ok (.iload 4, 2) := dall dgX10_piecesWithSome_98 4 rfl
theorem dX10_piecesWithSome_7 : decode cX10_piecesWithSome 7 = .ok (.aload_n 1, 1) := dall dgX10_piecesWithSome_98 5 rfl
theorem dX10_piecesWithSome_8 : decode cX10_piecesWithSome 8 = .ok (.getfield 22, 3) := dall dgX10_piecesWithSome_98 6 rfl
theorem dX10_piecesWithSome_11 : decode cX10_piecesWithSome 11 = .ok (.if_icmp .ge 28, 3) := dall dgX10_piecesWithSome_98 7 rfl
theorem dX10_piecesWithSome_14 : decode cX10_piecesWithSome 14 = .ok (.iload_n 3, 1) := dall dgX10_piecesWithSome_98 8 rfl
theorem dX10_piecesWithSome_15 : decode cX10_piecesWithSome 15 = .ok (.aload_n 0, 1) := dall dgX10_piecesWithSome_98 9 rfl
theorem dX10_piecesWithSome_16 : decode cX10_piecesWithSome 16 = .ok (.aload_n 1, 1) := dall dgX10_piecesWithSome_98 10 rfl
theorem dX10_piecesWithSome_17 : decode cX10_piecesWithSome 17 = .ok (.iload_n 2, 1) := dall dgX10_piecesWithSome_98 11 rfl
theorem dX10_piecesWithSome_18 : decode cX10_piecesWithSome 18 = .ok (.iload 4, 2) := dall dgX10_piecesWithSome_98 12 rfl
theorem dX10_piecesWithSome_20 : decode cX10_piecesWithSome 20 = .ok (.invokevirtual 27, 3) := dall dgX10_piecesWithSome_98 13 rfl
theorem dX10_piecesWithSome_23 : decode cX10_piecesWithSome 23 = .ok (.ifCond .le 7, 3) := dall dgX10_piecesWithSome_98 14 rfl
theorem dX10_piecesWithSome_26 : decode cX10_piecesWithSome 26 = .ok (.iconst 1, 1) := dall dgX10_piecesWithSome_98 15 rfl
theorem dX10_piecesWithSome_27 : decode cX10_piecesWithSome 27 = .ok (.goto 4, 3) := dall dgX10_piecesWithSome_98 16 rfl
theorem dX10_piecesWithSome_30 : decode cX10_piecesWithSome 30 = .ok (.iconst 0, 1) := dall dgX10_piecesWithSome_98 17 rfl
theorem dX10_piecesWithSome_31 : decode cX10_piecesWithSome 31 = .ok (.iadd, 1) := dall dgX10_piecesWithSome_98 18 rfl
theorem dX10_piecesWithSome_32 : decode cX10_piecesWithSome 32 = .ok (.istore_n 3, 1) := dall dgX10_piecesWithSome_98 19 rfl
theorem dX10_piecesWithSome_33 : decode cX10_piecesWithSome 33 = .ok (.iinc 4 1, 3) := dall dgX10_piecesWithSome_98 20 rfl
theorem dX10_piecesWithSome_36 : decode cX10_piecesWithSome 36 = .ok (.goto (-31), 3) := dall dgX10_piecesWithSome_98 21 rfl
theorem dX10_piecesWithSome_39 : decode cX10_piecesWithSome 39 = .ok (.iload_n 3, 1) := dall dgX10_piecesWithSome_98 22 rfl
theorem dX10_piecesWithSome_40 : decode cX10_piecesWithSome 40 = .ok (.ireturn, 1) := dall dgX10_piecesWithSome_98 23 rfl
def lgX10_sharedRows_99 : List (Nat × Instr × Nat) := [(0, .aload_n 0, 1), (1, .getfield 11, 3), (4, .iload_n 2, 1), (5, .iaload, 1), (6, .aload_n 1, 1), (7, .getfield 31, 3), (10, .iload_n 3, 1), (11, .iaload, 1), (12, .invokestatic 34, 3), (15, .istore 4, 2), (17, .aload_n 0, 1), (18, .getfield 15, 3), (21, .iload_n 2, 1), (22, .iaload, 1), (23, .aload_n 1, 1), (24, .getfield 31, 3), (27, .iload_n 3, 1), (28, .iaload, 1), (29, .aload_n 1, 1), (30, .getfield 40, 3), (33, .iload_n 3, 1), (34, .iaload, 1), (35, .iadd, 1), (36, .iconst 1, 1), (37, .isub, 1), (38, .invokestatic 43, 3), (41, .istore 5, 2), (43, .iconst 0, 1), (44, .iload 5, 2), (46, .iload 4, 2), (48, .isub, 1), (49, .iconst 1, 1), (50, .iadd, 1), (51, .invokestatic 34, 3), (54, .ireturn, 1)]
theorem dgX10_sharedRows_99 : ∀ q ∈ lgX10_sharedRows_99, decode cX10_sharedRows q.1 = .ok (q.2.1, q.2.2) := by decide +kernel
theorem dX10_sharedRows_0 : decode cX10_sharedRows 0 = .ok (.aload_n 0, 1) := dall dgX10_sharedRows_99 0 rfl
theorem dX10_sharedRows_1 : decode cX10_sharedRows 1 = .ok (.getfield 11, 3) := dall dgX10_sharedRows_99 1 rfl
theorem dX10_sharedRows_4 : decode cX10_sharedRows 4 = .ok (.iload_n 2, 1) := dall dgX10_sharedRows_99 2 rfl
theorem dX10_sharedRows_5 : decode cX10_sharedRows 5 = .ok (.iaload, 1) := dall dgX10_sharedRows_99 3 rfl
theorem dX10_sharedRows_6 : decode cX10_sharedRows 6 = .ok (.aload_n 1, 1) := dall dgX10_sharedRows_99 4 rfl
theorem dX10_sharedRows_7 : decode cX10_sharedRows 7 = .ok (.getfield 31, 3) := dall dgX10_sharedRows_99 5 rfl
theorem dX10_sharedRows_10 : decode cX10_sharedRows 10 = .ok (.iload_n 3, 1) := dall dgX10_sharedRows_99 6 rfl
theorem dX10_sharedRows_11 : decode cX10_sharedRows 11 = .ok (.iaload, 1) := dall dgX10_sharedRows_99 7 rfl
theorem dX10_sharedRows_12 : decode cX10_sharedRows 12 = .ok (.invokestatic 34, 3) := dall dgX10_sharedRows_99 8 rfl
theorem dX10_sharedRows_15 : decode cX10_sharedRows 15 = .ok (.istore 4, 2) := dall dgX10_sharedRows_99 9 rfl
theorem dX10_sharedRows_17 : decode cX10_sharedRows 17 = .ok (.aload_n 0, 1) := dall dgX10_sharedRows_99 10 rfl
theorem dX10_sharedRows_18 : decode cX10_sharedRows 18 = .ok (.getfield 15, 3) := dall dgX10_sharedRows_99 11 rfl
theorem dX10_sharedRows_21 : decode cX10_sharedRows 21 = .ok (.iload_n 2, 1) := dall dgX10_sharedRows_99 12 rfl
theorem dX10_sharedRows_22 : decode cX10_sharedRows 22 = .ok (.iaload, 1) := dall dgX10_sharedRows_99 13 rfl
theorem dX10_sharedRows_23 : decode cX10_sharedRows 23 = .ok (.aload_n 1, 1) := dall dgX10_sharedRows_99 14 rfl
theorem dX10_sharedRows_24 : decode cX10_sharedRows 24 = .ok (.getfield 31, 3) := dall dgX10_sharedRows_99 15 rfl
theorem dX10_sharedRows_27 : decode cX10_sharedRows 27 = .ok (.iload_n 3, 1) := dall dgX10_sharedRows_99 16 rfl
theorem dX10_sharedRows_28 : decode cX10_sharedRows 28 = .ok (.iaload, 1) := dall dgX10_sharedRows_99 17 rfl
theorem dX10_sharedRows_29 : decode cX10_sharedRows 29 = .ok (.aload_n 1, 1) := dall dgX10_sharedRows_99 18 rfl
theorem dX10_sharedRows_30 : decode cX10_sharedRows 30 = .ok (.getfield 40, 3) := dall dgX10_sharedRows_99 19 rfl
theorem dX10_sharedRows_33 : decode cX10_sharedRows 33 = .ok (.iload_n 3, 1) := dall dgX10_sharedRows_99 20 rfl
theorem dX10_sharedRows_34 : decode cX10_sharedRows 34 = .ok (.iaload, 1) := dall dgX10_sharedRows_99 21 rfl
theorem dX10_sharedRows_35 : decode cX10_sharedRows 35 = .ok (.iadd, 1) := dall dgX10_sharedRows_99 22 rfl
theorem dX10_sharedRows_36 : decode cX10_sharedRows 36 = .ok (.iconst 1, 1) := dall dgX10_sharedRows_99 23 rfl
theorem dX10_sharedRows_37 : decode cX10_sharedRows 37 = .ok (.isub, 1) := dall dgX10_sharedRows_99 24 rfl
theorem dX10_sharedRows_38 : decode cX10_sharedRows 38 = .ok (.invokestatic 43, 3) := dall dgX10_sharedRows_99 25 rfl
theorem dX10_sharedRows_41 : decode cX10_sharedRows 41 = .ok (.istore 5, 2) := dall dgX10_sharedRows_99 26 rfl
theorem dX10_sharedRows_43 : decode cX10_sharedRows 43 = .ok (.iconst 0, 1) := dall dgX10_sharedRows_99 27 rfl
theorem dX10_sharedRows_44 : decode cX10_sharedRows 44 = .ok (.iload 5, 2) := dall dgX10_sharedRows_99 28 rfl
theorem dX10_sharedRows_46 : decode cX10_sharedRows 46 = .ok (.iload 4, 2) := dall dgX10_sharedRows_99 29 rfl
theorem dX10_sharedRows_48 : decode cX10_sharedRows 48 = .ok (.isub, 1) := dall dgX10_sharedRows_99 30 rfl
theorem dX10_sharedRows_49 : decode cX10_sharedRows 49 = .ok (.iconst 1, 1) := dall dgX10_sharedRows_99 31 rfl
theorem dX10_sharedRows_50 : decode cX10_sharedRows 50 = .ok (.iadd, 1) := dall dgX10_sharedRows_99 32 rfl
theorem dX10_sharedRows_51 : decode cX10_sharedRows 51 = .ok (.invokestatic 34, 3) := dall dgX10_sharedRows_99 33 rfl
theorem dX10_sharedRows_54 : decode cX10_sharedRows 54 = .ok (.ireturn, 1) := dall dgX10_sharedRows_99 34 rfl
def lgX11_init_100 : List (Nat × Instr × Nat) := [(0, .aload_n 0, 1), (1, .invokespecial 1, 3), (4, .aload_n 0, 1), (5, .new 7, 3), (8, .dup, 1), (9, .invokespecial 9, 3), (12, .putfield 10, 3), (15, .aload_n 0, 1), (16, .new 16, 3), (19, .dup, 1), (20, .invokespecial 18, 3), (23, .putfield 19, 3), (26, .aload_n 0, 1), (27, .new 23, 3), (30, .dup, 1), (31, .invokespecial 25, 3), (34, .putfield 26, 3), (37, .aload_n 0, 1), (38, .new 30, 3), (41, .dup, 1), (42, .invokespecial 32, 3), (45, .putfield 33, 3), (48, .aload_n 0, 1), (49, .new 37, 3), (52, .dup, 1), (53, .invokespecial 39, 3), (56, .putfield 40, 3), (59, .aload_n 0, 1), (60, .new 44, 3), (63, .dup, 1), (64, .invokespecial 46, 3), (67, .putfield 47, 3), (70, .aload_n 0, 1), (71, .new 51, 3), (74, .dup, 1), (75, .invokespecial 53, 3), (78, .putfield 54, 3), (81, .aload_n 0, 1), (82, .new 58, 3), (85, .dup, 1), (86, .invokespecial 60, 3), (89, .putfield 61, 3), (92, .aload_n 0, 1), (93, .new 65, 3), (96, .dup, 1), (97, .invokespecial 67, 3), (100, .putfield 68, 3), (103, .aload_n 0, 1), (104, .new 72, 3), (107, .dup, 1)]
theorem dgX11_init_100 : ∀ q ∈ lgX11_init_100, decode cX11_init q.1 = .ok (q.2.1, q.2.2) := by decide +kernel
theorem dX11_init_0 : decode cX11_init 0 = .ok (.aload_n 0, 1) := dall dgX11_init_100 0 rfl
theorem dX11_init_1 : decode cX11_init 1 = .ok (.invokespecial 1, 3) := dall dgX11_init_100 1 rfl
theorem dX11_init_4 : decode cX11_init 4 = .ok (.aload_n 0, 1) := dall dgX11_init_100 2 rfl
theorem dX11_init_5 : decode cX11_init 5 = .ok (.new 7, 3) := dall dgX11_init_100 3 rfl
theorem dX11_init_8 : decode cX11_init 8 = .ok (.dup, 1) := dall dgX11_init_100 4 rfl
theorem dX11_init_9 : decode cX11_init 9 = .ok (.invokespecial 9, 3) := dall dgX11_init_100 5 rfl
theorem dX11_init_12 : decode cX11_init 12 = .ok (.putfield 10, 3) := dall dgX11_init_100 6 rfl
theorem dX11_init_15 : decode cX11_init 15 = .ok (.aload_n 0, 1) := dall dgX11_init_100 7 rfl
theorem dX11_init_16 : decode cX11_init 16 = .ok (.new 16, 3) := dall dgX11_init_100 8 rfl
theorem dX11_init_19 : decode cX11_init 19 = .ok (.dup, 1) := dall dgX11_init_100 9 rfl
theorem dX11_init_20 : decode cX11_init 20 = .ok (.invokespecial 18, 3) := dall dgX11_init_100 10 rfl
theorem dX11_init_23 : decode cX11_init 23 = .ok (.putfield 19, 3) := dall dgX11_init_100 11 rfl
theorem dX11_init_26 : decode cX11_init 26 = .ok (.aload_n 0, 1) := dall dgX11_init_100 12 rfl
theorem dX11_init_27 : decode cX11_init 27 = .ok (.new 23, 3) := dall dgX11_init_100 13 rfl
theorem dX11_init_30 : decode cX11_init 30 = .ok (.dup, 1) := dall dgX11_init_100 14 rfl
theorem dX11_init_31 : decode cX11_init 31 = .ok (.invokespecial 25, 3) := dall dgX11_init_100 15 rfl
theorem dX11_init_34 : decode cX11_init 34 = .ok (.putfield 26, 3) := dall dgX11_init_100 16 rfl
theorem dX11_init_37 : decode cX11_init 37 = .ok (.aload_n 0, 1) := dall dgX11_init_100 17 rfl
theorem dX11_init_38 : decode cX11_init 38 = .ok (.new 30, 3) := dall dgX11_init_100 18 rfl
theorem dX11_init_41 : decode cX11_init 41 = .ok (.dup, 1) := dall dgX11_init_100 19 rfl
theorem dX11_init_42 : decode cX11_init 42 = .ok (.invokespecial 32, 3) := dall dgX11_init_100 20 rfl
theorem dX11_init_45 : decode cX11_init 45 = .ok (.putfield 33, 3) := dall dgX11_init_100 21 rfl
theorem dX11_init_48 : decode cX11_init 48 = .ok (.aload_n 0, 1) := dall dgX11_init_100 22 rfl
theorem dX11_init_49 : decode cX11_init 49 = .ok (.new 37, 3) := dall dgX11_init_100 23 rfl
theorem dX11_init_52 : decode cX11_init 52 = .ok (.dup, 1) := dall dgX11_init_100 24 rfl
theorem dX11_init_53 : decode cX11_init 53 = .ok (.invokespecial 39, 3) := dall dgX11_init_100 25 rfl
theorem dX11_init_56 : decode cX11_init 56 = .ok (.putfield 40, 3) := dall dgX11_init_100 26 rfl
theorem dX11_init_59 : decode cX11_init 59 = .ok (.aload_n 0, 1) := dall dgX11_init_100 27 rfl
theorem dX11_init_60 : decode cX11_init 60 = .ok (.new 44, 3) := dall dgX11_init_100 28 rfl
theorem dX11_init_63 : decode cX11_init 63 = .ok (.dup, 1) := dall dgX11_init_100 29 rfl
theorem dX11_init_64 : decode cX11_init 64 = .ok (.invokespecial 46, 3) := dall dgX11_init_100 30 rfl
theorem dX11_init_67 : decode cX11_init 67 = .ok (.putfield 47, 3) := dall dgX11_init_100 31 rfl
theorem dX11_init_70 : decode cX11_init 70 = .ok (.aload_n 0, 1) := dall dgX11_init_100 32 rfl
theorem dX11_init_71 : decode cX11_init 71 = .ok (.new 51, 3) := dall dgX11_init_100 33 rfl
theorem dX11_init_74 : decode cX11_init 74 = .ok (.dup, 1) := dall dgX11_init_100 34 rfl
theorem dX11_init_75 : decode cX11_init 75 = .ok (.invokespecial 53, 3) := dall dgX11_init_100 35 rfl
theorem dX11_init_78 : decode cX11_init 78 = .ok (.putfield 54, 3) := dall dgX11_init_100 36 rfl
theorem dX11_init_81 : decode cX11_init 81 = .ok (.aload_n 0, 1) := dall dgX11_init_100 37 rfl
theorem dX11_init_82 : decode cX11_init 82 = .ok (.new 58, 3) := dall dgX11_init_100 38 rfl
theorem dX11_init_85 : decode cX11_init 85 = .ok (.dup, 1) := dall dgX11_init_100 39 rfl
theorem dX11_init_86 : decode cX11_init 86 = .ok (.invokespecial 60, 3) := dall dgX11_init_100 40 rfl
theorem dX11_init_89 : decode cX11_init 89 = .ok (.putfield 61, 3) := dall dgX11_init_100 41 rfl
theorem dX11_init_92 : decode cX11_init 92 = .ok (.aload_n 0, 1) := dall dgX11_init_100 42 rfl
theorem dX11_init_93 : decode cX11_init 93 = .ok (.new 65, 3) := dall dgX11_init_100 43 rfl
theorem dX11_init_96 : decode cX11_init 96 = .ok (.dup, 1) := dall dgX11_init_100 44 rfl
theorem dX11_init_97 : decode cX11_init 97 = .ok (.invokespecial 67, 3) := dall dgX11_init_100 45 rfl
theorem dX11_init_100 : decode cX11_init 100 = .ok (.putfield 68, 3) := dall dgX11_init_100 46 rfl
theorem dX11_init_103 : decode cX11_init 103 = .ok (.aload_n 0, 1) := dall dgX11_init_100 47 rfl
theorem dX11_init_104 : decode cX11_init 104 = .ok (.new 72, 3) := dall dgX11_init_100 48 rfl
theorem dX11_init_107 : decode cX11_init 107 = .ok (.dup, 1) := dall dgX11_init_100 49 rfl
def lgX11_init_101 : List (Nat × Instr × Nat) := [(108, .invokespecial 74, 3), (111, .putfield 75, 3), (114, .aload_n 0, 1), (115, .new 79, 3), (118, .dup, 1), (119, .invokespecial 81, 3), (122, .putfield 82, 3), (125, .aload_n 0, 1), (126, .bipush 48, 2), (128, .newarray .int, 2), (130, .putfield 86, 3), (133, .aload_n 0, 1), (134, .iconst (-1), 1), (135, .putfield 90, 3), (138, .aload_n 0, 1), (139, .iconst 1, 1), (140, .putfield 94, 3), (143, .aload_n 0, 1), (144, .iconst 1, 1), (145, .putfield 98, 3), (148, .aload_n 0, 1), (149, .iconst 1, 1), (150, .putfield 101, 3), (153, .return_, 1)]
theorem dgX11_init_101 : ∀ q ∈ lgX11_init_101, decode cX11_init q.1 = .ok (q.2.1, q.2.2) := by decide +kernel
theorem dX11_init_108 : decode cX11_init 108 = .ok (.invokespecial 74, 3) := dall dgX11_init_101 0 rfl
theorem dX11_init_111 : decode cX11_init 111 = .ok (.putfield 75, 3) := dall dgX11_init_101 1 rfl
theorem dX11_init_114 : decode cX11_init 114 = .ok (.aload_n 0, 1) := dall dgX11_init_101 2 rfl
theorem dX11_init_115 : decode cX11_init 115 = .ok (.new 79, 3) := dall dgX11_init_101 3 rfl
theorem dX11_init_118 : decode cX11_init 118 = .ok (.dup, 1) := dall dgX11_init_101 4 rfl
theorem dX11_init_119 : decode cX11_init 119 = .ok (.invokespecial 81, 3) := dall dgX11_init_101 5 rfl
theorem dX11_init_122 : decode cX11_init 122 = .ok (.putfield 82, 3) := dall dgX11_init_101 6 rfl
theorem dX11_init_125 : decode cX11_init 125 = .ok (.aload_n 0, 1) := dall dgX11_init_101 7 rfl
theorem dX11_init_126 : decode cX11_init 126 = .ok (.bipush 48, 2) := dall dgX11_init_101 8 rfl
theorem dX11_init_128 : decode cX11_init 128 = .ok (.newarray .int, 2) := dall dgX11_init_101 9 rfl
theorem dX11_init_130 : decode cX11_init 130 = .ok (.putfield 86, 3) := dall dgX11_init_101 10 rfl
theorem dX11_init_133 : decode cX11_init 133 = .ok (.aload_n 0, 1) := dall dgX11_init_101 11 rfl
theorem dX11_init_134 : decode cX11_init 134 = .ok (.iconst (-1), 1) := dall dgX11_init_101 12 rfl
theorem dX11_init_135 : decode cX11_init 135 = .ok (.putfield 90, 3) := dall dgX11_init_101 13 rfl
theorem dX11_init_138 : decode cX11_init 138 = .ok (.aload_n 0, 1) := dall dgX11_init_101 14 rfl
theorem dX11_init_139 : decode cX11_init 139 = .ok (.iconst 1, 1) := dall dgX11_init_101 15 rfl
theorem dX11_init_140 : decode cX11_init 140 = .ok (.putfield 94, 3) := dall dgX11_init_101 16 rfl
theorem dX11_init_143 : decode cX11_init 143 = .ok (.aload_n 0, 1) := dall dgX11_init_101 17 rfl
theorem dX11_init_144 : decode cX11_init 144 = .ok (.iconst 1, 1) := dall dgX11_init_101 18 rfl
theorem dX11_init_145 : decode cX11_init 145 = .ok (.putfield 98, 3) := dall dgX11_init_101 19 rfl
theorem dX11_init_148 : decode cX11_init 148 = .ok (.aload_n 0, 1) := dall dgX11_init_101 20 rfl
theorem dX11_init_149 : decode cX11_init 149 = .ok (.iconst 1, 1) := dall dgX11_init_101 21 rfl
theorem dX11_init_150 : decode cX11_init 150 = .ok (.putfield 101, 3) := dall dgX11_init_101 22 rfl
theorem dX11_init_153 : decode cX11_init 153 = .ok (.return_, 1) := dall dgX11_init_101 23 rfl
def lgX11_type_102 : List (Nat × Instr × Nat) := [(0, .iload_n 3, 1), (1, .iconst 1, 1), (2, .bipush 8, 2), (4, .invokestatic 104, 3), (7, .ifCond .ne 5, 3), (10, .iconst (-1), 1), (11, .ireturn, 1), (12, .aload_n 0, 1), (13, .getfield 10, 3), (16, .lload_n 1, 1), (17, .iload_n 3, 1), (18, .invokevirtual 108, 3), (21, .ifCond .eq 13, 3), (24, .aload_n 0, 1), (25, .getfield 10, 3), (28, .getfield 112, 3), (31, .goto 5, 3), (34, .bipush (-3), 2), (36, .ireturn, 1)]
theorem dgX11_type_102 : ∀ q ∈ lgX11_type_102, decode cX11_type q.1 = .ok (q.2.1, q.2.2) := by decide +kernel
theorem dX11_type_0 : decode cX11_type 0 = .ok (.iload_n 3, 1) := dall dgX11_type_102 0 rfl
theorem dX11_type_1 : decode cX11_type 1 = .ok (.iconst 1, 1) := dall dgX11_type_102 1 rfl
theorem dX11_type_2 : decode cX11_type 2 = .ok (.bipush 8, 2) := dall dgX11_type_102 2 rfl
theorem dX11_type_4 : decode cX11_type 4 = .ok (.invokestatic 104, 3) := dall dgX11_type_102 3 rfl
theorem dX11_type_7 : decode cX11_type 7 = .ok (.ifCond .ne 5, 3) := dall dgX11_type_102 4 rfl
theorem dX11_type_10 : decode cX11_type 10 = .ok (.iconst (-1), 1) := dall dgX11_type_102 5 rfl
theorem dX11_type_11 : decode cX11_type 11 = .ok (.ireturn, 1) := dall dgX11_type_102 6 rfl
theorem dX11_type_12 : decode cX11_type 12 = .ok (.aload_n 0, 1) := dall dgX11_type_102 7 rfl
theorem dX11_type_13 : decode cX11_type 13 = .ok (.getfield 10, 3) := dall dgX11_type_102 8 rfl
theorem dX11_type_16 : decode cX11_type 16 = .ok (.lload_n 1, 1) := dall dgX11_type_102 9 rfl
theorem dX11_type_17 : decode cX11_type 17 = .ok (.iload_n 3, 1) := dall dgX11_type_102 10 rfl
theorem dX11_type_18 : decode cX11_type 18 = .ok (.invokevirtual 108, 3) := dall dgX11_type_102 11 rfl
theorem dX11_type_21 : decode cX11_type 21 = .ok (.ifCond .eq 13, 3) := dall dgX11_type_102 12 rfl
theorem dX11_type_24 : decode cX11_type 24 = .ok (.aload_n 0, 1) := dall dgX11_type_102 13 rfl
theorem dX11_type_25 : decode cX11_type 25 = .ok (.getfield 10, 3) := dall dgX11_type_102 14 rfl
theorem dX11_type_28 : decode cX11_type 28 = .ok (.getfield 112, 3) := dall dgX11_type_102 15 rfl
theorem dX11_type_31 : decode cX11_type 31 = .ok (.goto 5, 3) := dall dgX11_type_102 16 rfl
theorem dX11_type_34 : decode cX11_type 34 = .ok (.bipush (-3), 2) := dall dgX11_type_102 17 rfl
theorem dX11_type_36 : decode cX11_type 36 = .ok (.ireturn, 1) := dall dgX11_type_102 18 rfl
def lgX11_clear_103 : List (Nat × Instr × Nat) := [(0, .aload_n 0, 1), (1, .getfield 10, 3), (4, .getfield 112, 3), (7, .istore_n 1, 1), (8, .aload_n 0, 1), (9, .getfield 10, 3), (12, .iconst 0, 1), (13, .putfield 112, 3), (16, .iload_n 1, 1), (17, .ireturn, 1)]
theorem dgX11_clear_103 : ∀ q ∈ lgX11_clear_103, decode cX11_clear q.1 = .ok (q.2.1, q.2.2) := by decide +kernel
theorem dX11_clear_0 : decode cX11_clear 0 = .ok (.aload_n 0, 1) := dall dgX11_clear_103 0 rfl
theorem dX11_clear_1 : decode cX11_clear 1 = .ok (.getfield 10, 3) := dall dgX11_clear_103 1 rfl
theorem dX11_clear_4 : decode cX11_clear 4 = .ok (.getfield 112, 3) := dall dgX11_clear_103 2 rfl
theorem dX11_clear_7 : decode cX11_clear 7 = .ok (.istore_n 1, 1) := dall dgX11_clear_103 3 rfl
theorem dX11_clear_8 : decode cX11_clear 8 = .ok (.aload_n 0, 1) := dall dgX11_clear_103 4 rfl
theorem dX11_clear_9 : decode cX11_clear 9 = .ok (.getfield 10, 3) := dall dgX11_clear_103 5 rfl
theorem dX11_clear_12 : decode cX11_clear 12 = .ok (.iconst 0, 1) := dall dgX11_clear_103 6 rfl
theorem dX11_clear_13 : decode cX11_clear 13 = .ok (.putfield 112, 3) := dall dgX11_clear_103 7 rfl
theorem dX11_clear_16 : decode cX11_clear 16 = .ok (.iload_n 1, 1) := dall dgX11_clear_103 8 rfl
theorem dX11_clear_17 : decode cX11_clear 17 = .ok (.ireturn, 1) := dall dgX11_clear_103 9 rfl
def lgX11_rules_104 : List (Nat × Instr × Nat) := [(0, .aload_n 0, 1), (1, .getfield 10, 3), (4, .invokevirtual 115, 3), (7, .istore_n 1, 1), (8, .iload_n 1, 1), (9, .ifCond .lt 7, 3), (12, .aload_n 0, 1), (13, .invokevirtual 119, 3), (16, .iload_n 1, 1), (17, .ireturn, 1)]
theorem dgX11_rules_104 : ∀ q ∈ lgX11_rules_104, decode cX11_rules q.1 = .ok (q.2.1, q.2.2) := by decide +kernel
theorem dX11_rules_0 : decode cX11_rules 0 = .ok (.aload_n 0, 1) := dall dgX11_rules_104 0 rfl
theorem dX11_rules_1 : decode cX11_rules 1 = .ok (.getfield 10, 3) := dall dgX11_rules_104 1 rfl
theorem dX11_rules_4 : decode cX11_rules 4 = .ok (.invokevirtual 115, 3) := dall dgX11_rules_104 2 rfl
theorem dX11_rules_7 : decode cX11_rules 7 = .ok (.istore_n 1, 1) := dall dgX11_rules_104 3 rfl
theorem dX11_rules_8 : decode cX11_rules 8 = .ok (.iload_n 1, 1) := dall dgX11_rules_104 4 rfl
theorem dX11_rules_9 : decode cX11_rules 9 = .ok (.ifCond .lt 7, 3) := dall dgX11_rules_104 5 rfl
theorem dX11_rules_12 : decode cX11_rules 12 = .ok (.aload_n 0, 1) := dall dgX11_rules_104 6 rfl
theorem dX11_rules_13 : decode cX11_rules 13 = .ok (.invokevirtual 119, 3) := dall dgX11_rules_104 7 rfl
theorem dX11_rules_16 : decode cX11_rules 16 = .ok (.iload_n 1, 1) := dall dgX11_rules_104 8 rfl
theorem dX11_rules_17 : decode cX11_rules 17 = .ok (.ireturn, 1) := dall dgX11_rules_104 9 rfl
def lgX11_rule_105 : List (Nat × Instr × Nat) := [(0, .iload_n 1, 1), (1, .iconst 0, 1), (2, .iconst 5, 1), (3, .invokestatic 104, 3), (6, .ifCond .eq 14, 3), (9, .aload_n 0, 1), (10, .getfield 10, 3), (13, .iload_n 1, 1), (14, .invokevirtual 122, 3), (17, .goto 4, 3), (20, .iconst (-1), 1), (21, .ireturn, 1)]
theorem dgX11_rule_105 : ∀ q ∈ lgX11_rule_105, decode cX11_rule q.1 = .ok (q.2.1, q.2.2) := by decide +kernel
theorem dX11_rule_0 : decode cX11_rule 0 = .ok (.iload_n 1, 1) := dall dgX11_rule_105 0 rfl
theorem dX11_rule_1 : decode cX11_rule 1 = .ok (.iconst 0, 1) := dall dgX11_rule_105 1 rfl
theorem dX11_rule_2 : decode cX11_rule 2 = .ok (.iconst 5, 1) := dall dgX11_rule_105 2 rfl
theorem dX11_rule_3 : decode cX11_rule 3 = .ok (.invokestatic 104, 3) := dall dgX11_rule_105 3 rfl
theorem dX11_rule_6 : decode cX11_rule 6 = .ok (.ifCond .eq 14, 3) := dall dgX11_rule_105 4 rfl
theorem dX11_rule_9 : decode cX11_rule 9 = .ok (.aload_n 0, 1) := dall dgX11_rule_105 5 rfl
theorem dX11_rule_10 : decode cX11_rule 10 = .ok (.getfield 10, 3) := dall dgX11_rule_105 6 rfl
theorem dX11_rule_13 : decode cX11_rule 13 = .ok (.iload_n 1, 1) := dall dgX11_rule_105 7 rfl
theorem dX11_rule_14 : decode cX11_rule 14 = .ok (.invokevirtual 122, 3) := dall dgX11_rule_105 8 rfl
theorem dX11_rule_17 : decode cX11_rule 17 = .ok (.goto 4, 3) := dall dgX11_rule_105 9 rfl
theorem dX11_rule_20 : decode cX11_rule 20 = .ok (.iconst (-1), 1) := dall dgX11_rule_105 10 rfl
theorem dX11_rule_21 : decode cX11_rule 21 = .ok (.ireturn, 1) := dall dgX11_rule_105 11 rfl
def lgX11_row_106 : List (Nat × Instr × Nat) := [(0, .iload_n 1, 1), (1, .invokestatic 126, 3), (4, .ifCond .eq 25, 3), (7, .iload_n 2, 1), (8, .invokestatic 126, 3), (11, .ifCond .eq 18, 3), (14, .iload_n 3, 1), (15, .invokestatic 126, 3), (18, .ifCond .eq 11, 3), (21, .iload 4, 2), (23, .invokestatic 126, 3), (26, .ifCond .ne 5, 3), (29, .iconst (-1), 1), (30, .ireturn, 1), (31, .aload_n 0, 1), (32, .getfield 19, 3), (35, .getfield 130, 3), (38, .bipush 48, 2), (40, .if_icmp .lt 6, 3), (43, .bipush (-3), 2), (45, .ireturn, 1), (46, .aload_n 0, 1), (47, .invokevirtual 119, 3), (50, .aload_n 0, 1), (51, .getfield 19, 3), (54, .iload_n 1, 1), (55, .iload_n 2, 1), (56, .iload_n 3, 1), (57, .iload 4, 2), (59, .invokevirtual 133, 3), (62, .ireturn, 1)]
theorem dgX11_row_106 : ∀ q ∈ lgX11_row_106, decode cX11_row q.1 = .ok (q.2.1, q.2.2) := by decide +kernel
theorem dX11_row_0 : decode cX11_row 0 = .ok (.iload_n 1, 1) := dall dgX11_row_106 0 rfl
theorem dX11_row_1 : decode cX11_row 1 = .ok (.invokestatic 126, 3) := dall dgX11_row_106 1 rfl
theorem dX11_row_4 : decode cX11_row 4 = .ok (.ifCond .eq 25, 3) := dall dgX11_row_106 2 rfl
theorem dX11_row_7 : decode cX11_row 7 = .ok (.iload_n 2, 1) := dall dgX11_row_106 3 rfl
theorem dX11_row_8 : decode cX11_row 8 = .ok (.invokestatic 126, 3) := dall dgX11_row_106 4 rfl
theorem dX11_row_11 : decode cX11_row 11 = .ok (.ifCond .eq 18, 3) := dall dgX11_row_106 5 rfl
theorem dX11_row_14 : decode cX11_row 14 = .ok (.iload_n 3, 1) := dall dgX11_row_106 6 rfl
theorem dX11_row_15 : decode cX11_row 15 = .ok (.invokestatic 126, 3) := dall dgX11_row_106 7 rfl
theorem dX11_row_18 : decode cX11_row 18 = .ok (.ifCond .eq 11, 3) := dall dgX11_row_106 8 rfl
theorem dX11_row_21 : decode cX11_row 21 = .ok (.iload 4, 2) := dall dgX11_row_106 9 rfl
theorem dX11_row_23 : decode cX11_row 23 = .ok (.invokestatic 126, 3) := dall dgX11_row_106 10 rfl
theorem dX11_row_26 : decode cX11_row 26 = .ok (.ifCond .ne 5, 3) := dall dgX11_row_106 11 rfl
theorem dX11_row_29 : decode cX11_row 29 = .ok (.iconst (-1), 1) := dall dgX11_row_106 12 rfl
theorem dX11_row_30 : decode cX11_row 30 = .ok (.ireturn, 1) := dall dgX11_row_106 13 rfl
theorem dX11_row_31 : decode cX11_row 31 = .ok (.aload_n 0, 1) := dall dgX11_row_106 14 rfl
theorem dX11_row_32 : decode cX11_row 32 = .ok (.getfield 19, 3) := dall dgX11_row_106 15 rfl
theorem dX11_row_35 : decode cX11_row 35 = .ok (.getfield 130, 3) := dall dgX11_row_106 16 rfl
theorem dX11_row_38 : decode cX11_row 38 = .ok (.bipush 48, 2) := dall dgX11_row_106 17 rfl
theorem dX11_row_40 : decode cX11_row 40 = .ok (.if_icmp .lt 6, 3) := dall dgX11_row_106 18 rfl
theorem dX11_row_43 : decode cX11_row 43 = .ok (.bipush (-3), 2) := dall dgX11_row_106 19 rfl
theorem dX11_row_45 : decode cX11_row 45 = .ok (.ireturn, 1) := dall dgX11_row_106 20 rfl
theorem dX11_row_46 : decode cX11_row 46 = .ok (.aload_n 0, 1) := dall dgX11_row_106 21 rfl
theorem dX11_row_47 : decode cX11_row 47 = .ok (.invokevirtual 119, 3) := dall dgX11_row_106 22 rfl
theorem dX11_row_50 : decode cX11_row 50 = .ok (.aload_n 0, 1) := dall dgX11_row_106 23 rfl
theorem dX11_row_51 : decode cX11_row 51 = .ok (.getfield 19, 3) := dall dgX11_row_106 24 rfl
theorem dX11_row_54 : decode cX11_row 54 = .ok (.iload_n 1, 1) := dall dgX11_row_106 25 rfl
theorem dX11_row_55 : decode cX11_row 55 = .ok (.iload_n 2, 1) := dall dgX11_row_106 26 rfl
theorem dX11_row_56 : decode cX11_row 56 = .ok (.iload_n 3, 1) := dall dgX11_row_106 27 rfl
theorem dX11_row_57 : decode cX11_row 57 = .ok (.iload 4, 2) := dall dgX11_row_106 28 rfl
theorem dX11_row_59 : decode cX11_row 59 = .ok (.invokevirtual 133, 3) := dall dgX11_row_106 29 rfl
theorem dX11_row_62 : decode cX11_row 62 = .ok (.ireturn, 1) := dall dgX11_row_106 30 rfl
def lgX11_deaf_107 : List (Nat × Instr × Nat) := [(0, .iload_n 1, 1), (1, .iconst 1, 1), (2, .bipush 9, 2), (4, .invokestatic 104, 3), (7, .ifCond .ne 5, 3), (10, .iconst (-1), 1), (11, .ireturn, 1), (12, .aload_n 0, 1), (13, .getfield 19, 3), (16, .getfield 130, 3), (19, .iload_n 1, 1), (20, .iadd, 1), (21, .bipush 48, 2), (23, .if_icmp .le 6, 3), (26, .bipush (-3), 2), (28, .ireturn, 1), (29, .aload_n 0, 1), (30, .invokevirtual 119, 3), (33, .iconst 0, 1), (34, .istore_n 2, 1), (35, .iload_n 2, 1), (36, .iload_n 1, 1), (37, .if_icmp .ge 17, 3), (40, .aload_n 0, 1), (41, .getfield 19, 3), (44, .invokevirtual 137, 3), (47, .pop, 1), (48, .iinc 2 1, 3), (51, .goto (-16), 3), (54, .aload_n 0, 1), (55, .getfield 19, 3), (58, .getfield 130, 3), (61, .ireturn, 1)]
theorem dgX11_deaf_107 : ∀ q ∈ lgX11_deaf_107, decode cX11_deaf q.1 = .ok (q.2.1, q.2.2) := by decide +kernel
theorem dX11_deaf_0 : decode cX11_deaf 0 = .ok (.iload_n 1, 1) := dall dgX11_deaf_107 0 rfl
theorem dX11_deaf_1 : decode cX11_deaf 1 = .ok (.iconst 1, 1) := dall dgX11_deaf_107 1 rfl
theorem dX11_deaf_2 : decode cX11_deaf 2 = .ok (.bipush 9, 2) := dall dgX11_deaf_107 2 rfl
theorem dX11_deaf_4 : decode cX11_deaf 4 = .ok (.invokestatic 104, 3) := dall dgX11_deaf_107 3 rfl
theorem dX11_deaf_7 : decode cX11_deaf 7 = .ok (.ifCond .ne 5, 3) := dall dgX11_deaf_107 4 rfl
theorem dX11_deaf_10 : decode cX11_deaf 10 = .ok (.iconst (-1), 1) := dall dgX11_deaf_107 5 rfl
theorem dX11_deaf_11 : decode cX11_deaf 11 = .ok (.ireturn, 1) := dall dgX11_deaf_107 6 rfl
theorem dX11_deaf_12 : decode cX11_deaf 12 = .ok (.aload_n 0, 1) := dall dgX11_deaf_107 7 rfl
theorem dX11_deaf_13 : decode cX11_deaf 13 = .ok (.getfield 19, 3) := dall dgX11_deaf_107 8 rfl
theorem dX11_deaf_16 : decode cX11_deaf 16 = .ok (.getfield 130, 3) := dall dgX11_deaf_107 9 rfl
theorem dX11_deaf_19 : decode cX11_deaf 19 = .ok (.iload_n 1, 1) := dall dgX11_deaf_107 10 rfl
theorem dX11_deaf_20 : decode cX11_deaf 20 = .ok (.iadd, 1) := dall dgX11_deaf_107 11 rfl
theorem dX11_deaf_21 : decode cX11_deaf 21 = .ok (.bipush 48, 2) := dall dgX11_deaf_107 12 rfl
theorem dX11_deaf_23 : decode cX11_deaf 23 = .ok (.if_icmp .le 6, 3) := dall dgX11_deaf_107 13 rfl
theorem dX11_deaf_26 : decode cX11_deaf 26 = .ok (.bipush (-3), 2) := dall dgX11_deaf_107 14 rfl
theorem dX11_deaf_28 : decode cX11_deaf 28 = .ok (.ireturn, 1) := dall dgX11_deaf_107 15 rfl
theorem dX11_deaf_29 : decode cX11_deaf 29 = .ok (.aload_n 0, 1) := dall dgX11_deaf_107 16 rfl
theorem dX11_deaf_30 : decode cX11_deaf 30 = .ok (.invokevirtual 119, 3) := dall dgX11_deaf_107 17 rfl
theorem dX11_deaf_33 : decode cX11_deaf 33 = .ok (.iconst 0, 1) := dall dgX11_deaf_107 18 rfl
theorem dX11_deaf_34 : decode cX11_deaf 34 = .ok (.istore_n 2, 1) := dall dgX11_deaf_107 19 rfl
theorem dX11_deaf_35 : decode cX11_deaf 35 = .ok (.iload_n 2, 1) := dall dgX11_deaf_107 20 rfl
theorem dX11_deaf_36 : decode cX11_deaf 36 = .ok (.iload_n 1, 1) := dall dgX11_deaf_107 21 rfl
theorem dX11_deaf_37 : decode cX11_deaf 37 = .ok (.if_icmp .ge 17, 3) := dall dgX11_deaf_107 22 rfl
theorem dX11_deaf_40 : decode cX11_deaf 40 = .ok (.aload_n 0, 1) := dall dgX11_deaf_107 23 rfl
theorem dX11_deaf_41 : decode cX11_deaf 41 = .ok (.getfield 19, 3) := dall dgX11_deaf_107 24 rfl
theorem dX11_deaf_44 : decode cX11_deaf 44 = .ok (.invokevirtual 137, 3) := dall dgX11_deaf_107 25 rfl
theorem dX11_deaf_47 : decode cX11_deaf 47 = .ok (.pop, 1) := dall dgX11_deaf_107 26 rfl
theorem dX11_deaf_48 : decode cX11_deaf 48 = .ok (.iinc 2 1, 3) := dall dgX11_deaf_107 27 rfl
theorem dX11_deaf_51 : decode cX11_deaf 51 = .ok (.goto (-16), 3) := dall dgX11_deaf_107 28 rfl
theorem dX11_deaf_54 : decode cX11_deaf 54 = .ok (.aload_n 0, 1) := dall dgX11_deaf_107 29 rfl
theorem dX11_deaf_55 : decode cX11_deaf 55 = .ok (.getfield 19, 3) := dall dgX11_deaf_107 30 rfl
theorem dX11_deaf_58 : decode cX11_deaf 58 = .ok (.getfield 130, 3) := dall dgX11_deaf_107 31 rfl
theorem dX11_deaf_61 : decode cX11_deaf 61 = .ok (.ireturn, 1) := dall dgX11_deaf_107 32 rfl
def lgX11_out_108 : List (Nat × Instr × Nat) := [(0, .aload_n 0, 1), (1, .iload_n 1, 1), (2, .iload_n 2, 1), (3, .invokevirtual 140, 3), (6, .ifCond .eq 12, 3), (9, .iload_n 3, 1), (10, .iconst 0, 1), (11, .iconst 1, 1), (12, .invokestatic 104, 3), (15, .ifCond .ne 5, 3), (18, .iconst (-1), 1), (19, .ireturn, 1), (20, .aload_n 0, 1), (21, .getfield 19, 3), (24, .iload_n 1, 1), (25, .iload_n 2, 1), (26, .iload_n 3, 1), (27, .iconst 1, 1), (28, .if_icmp .ne 7, 3), (31, .iconst 1, 1), (32, .goto 4, 3), (35, .iconst 0, 1), (36, .invokevirtual 144, 3), (39, .istore 4, 2), (41, .iload 4, 2), (43, .ifCond .le 7, 3), (46, .aload_n 0, 1), (47, .invokevirtual 119, 3), (50, .iload 4, 2), (52, .ireturn, 1)]
theorem dgX11_out_108 : ∀ q ∈ lgX11_out_108, decode cX11_out q.1 = .ok (q.2.1, q.2.2) := by decide +kernel
theorem dX11_out_0 : decode cX11_out 0 = .ok (.aload_n 0, 1) := dall dgX11_out_108 0 rfl
theorem dX11_out_1 : decode cX11_out 1 = .ok (.iload_n 1, 1) := dall dgX11_out_108 1 rfl
theorem dX11_out_2 : decode cX11_out 2 = .ok (.iload_n 2, 1) := dall dgX11_out_108 2 rfl
theorem dX11_out_3 : decode cX11_out 3 = .ok (.invokevirtual 140, 3) := dall dgX11_out_108 3 rfl
theorem dX11_out_6 : decode cX11_out 6 = .ok (.ifCond .eq 12, 3) := dall dgX11_out_108 4 rfl
theorem dX11_out_9 : decode cX11_out 9 = .ok (.iload_n 3, 1) := dall dgX11_out_108 5 rfl
theorem dX11_out_10 : decode cX11_out 10 = .ok (.iconst 0, 1) := dall dgX11_out_108 6 rfl
theorem dX11_out_11 : decode cX11_out 11 = .ok (.iconst 1, 1) := dall dgX11_out_108 7 rfl
theorem dX11_out_12 : decode cX11_out 12 = .ok (.invokestatic 104, 3) := dall dgX11_out_108 8 rfl
theorem dX11_out_15 : decode cX11_out 15 = .ok (.ifCond .ne 5, 3) := dall dgX11_out_108 9 rfl
theorem dX11_out_18 : decode cX11_out 18 = .ok (.iconst (-1), 1) := dall dgX11_out_108 10 rfl
theorem dX11_out_19 : decode cX11_out 19 = .ok (.ireturn, 1) := dall dgX11_out_108 11 rfl
theorem dX11_out_20 : decode cX11_out 20 = .ok (.aload_n 0, 1) := dall dgX11_out_108 12 rfl
theorem dX11_out_21 : decode cX11_out 21 = .ok (.getfield 19, 3) := dall dgX11_out_108 13 rfl
theorem dX11_out_24 : decode cX11_out 24 = .ok (.iload_n 1, 1) := dall dgX11_out_108 14 rfl
theorem dX11_out_25 : decode cX11_out 25 = .ok (.iload_n 2, 1) := dall dgX11_out_108 15 rfl
theorem dX11_out_26 : decode cX11_out 26 = .ok (.iload_n 3, 1) := dall dgX11_out_108 16 rfl
theorem dX11_out_27 : decode cX11_out 27 = .ok (.iconst 1, 1) := dall dgX11_out_108 17 rfl
theorem dX11_out_28 : decode cX11_out 28 = .ok (.if_icmp .ne 7, 3) := dall dgX11_out_108 18 rfl
theorem dX11_out_31 : decode cX11_out 31 = .ok (.iconst 1, 1) := dall dgX11_out_108 19 rfl
theorem dX11_out_32 : decode cX11_out 32 = .ok (.goto 4, 3) := dall dgX11_out_108 20 rfl
theorem dX11_out_35 : decode cX11_out 35 = .ok (.iconst 0, 1) := dall dgX11_out_108 21 rfl
theorem dX11_out_36 : decode cX11_out 36 = .ok (.invokevirtual 144, 3) := dall dgX11_out_108 22 rfl
theorem dX11_out_39 : decode cX11_out 39 = .ok (.istore 4, 2) := dall dgX11_out_108 23 rfl
theorem dX11_out_41 : decode cX11_out 41 = .ok (.iload 4, 2) := dall dgX11_out_108 24 rfl
theorem dX11_out_43 : decode cX11_out 43 = .ok (.ifCond .le 7, 3) := dall dgX11_out_108 25 rfl
theorem dX11_out_46 : decode cX11_out 46 = .ok (.aload_n 0, 1) := dall dgX11_out_108 26 rfl
theorem dX11_out_47 : decode cX11_out 47 = .ok (.invokevirtual 119, 3) := dall dgX11_out_108 27 rfl
theorem dX11_out_50 : decode cX11_out 50 = .ok (.iload 4, 2) := dall dgX11_out_108 28 rfl
theorem dX11_out_52 : decode cX11_out 52 = .ok (.ireturn, 1) := dall dgX11_out_108 29 rfl
def lgX11_hush_109 : List (Nat × Instr × Nat) := [(0, .aload_n 0, 1), (1, .getfield 19, 3), (4, .getfield 130, 3), (7, .istore_n 1, 1), (8, .aload_n 0, 1), (9, .getfield 19, 3), (12, .iconst 0, 1), (13, .putfield 130, 3), (16, .aload_n 0, 1), (17, .getfield 68, 3), (20, .iconst 0, 1), (21, .putfield 148, 3), (24, .aload_n 0, 1), (25, .iconst (-1), 1), (26, .putfield 90, 3), (29, .aload_n 0, 1), (30, .invokevirtual 119, 3), (33, .iload_n 1, 1), (34, .ireturn, 1)]
theorem dgX11_hush_109 : ∀ q ∈ lgX11_hush_109, decode cX11_hush q.1 = .ok (q.2.1, q.2.2) := by decide +kernel
theorem dX11_hush_0 : decode cX11_hush 0 = .ok (.aload_n 0, 1) := dall dgX11_hush_109 0 rfl
theorem dX11_hush_1 : decode cX11_hush 1 = .ok (.getfield 19, 3) := dall dgX11_hush_109 1 rfl
theorem dX11_hush_4 : decode cX11_hush 4 = .ok (.getfield 130, 3) := dall dgX11_hush_109 2 rfl
theorem dX11_hush_7 : decode cX11_hush 7 = .ok (.istore_n 1, 1) := dall dgX11_hush_109 3 rfl
theorem dX11_hush_8 : decode cX11_hush 8 = .ok (.aload_n 0, 1) := dall dgX11_hush_109 4 rfl
theorem dX11_hush_9 : decode cX11_hush 9 = .ok (.getfield 19, 3) := dall dgX11_hush_109 5 rfl
theorem dX11_hush_12 : decode cX11_hush 12 = .ok (.iconst 0, 1) := dall dgX11_hush_109 6 rfl
theorem dX11_hush_13 : decode cX11_hush 13 = .ok (.putfield 130, 3) := dall dgX11_hush_109 7 rfl
theorem dX11_hush_16 : decode cX11_hush 16 = .ok (.aload_n 0, 1) := dall dgX11_hush_109 8 rfl
theorem dX11_hush_17 : decode cX11_hush 17 = .ok (.getfield 68, 3) := dall dgX11_hush_109 9 rfl
theorem dX11_hush_20 : decode cX11_hush 20 = .ok (.iconst 0, 1) := dall dgX11_hush_109 10 rfl
theorem dX11_hush_21 : decode cX11_hush 21 = .ok (.putfield 148, 3) := dall dgX11_hush_109 11 rfl
theorem dX11_hush_24 : decode cX11_hush 24 = .ok (.aload_n 0, 1) := dall dgX11_hush_109 12 rfl
theorem dX11_hush_25 : decode cX11_hush 25 = .ok (.iconst (-1), 1) := dall dgX11_hush_109 13 rfl
theorem dX11_hush_26 : decode cX11_hush 26 = .ok (.putfield 90, 3) := dall dgX11_hush_109 14 rfl
theorem dX11_hush_29 : decode cX11_hush 29 = .ok (.aload_n 0, 1) := dall dgX11_hush_109 15 rfl
theorem dX11_hush_30 : decode cX11_hush 30 = .ok (.invokevirtual 119, 3) := dall dgX11_hush_109 16 rfl
theorem dX11_hush_33 : decode cX11_hush 33 = .ok (.iload_n 1, 1) := dall dgX11_hush_109 17 rfl
theorem dX11_hush_34 : decode cX11_hush 34 = .ok (.ireturn, 1) := dall dgX11_hush_109 18 rfl
def lgX11_pieces_110 : List (Nat × Instr × Nat) := [(0, .aload_n 0, 1), (1, .invokevirtual 151, 3), (4, .iload_n 1, 1), (5, .tableswitch 63 0 3 #[31, 39, 47, 55], 31), (36, .aload_n 0, 1), (37, .getfield 33, 3), (40, .getfield 154, 3), (43, .ireturn, 1), (44, .aload_n 0, 1), (45, .getfield 33, 3), (48, .getfield 157, 3), (51, .ireturn, 1), (52, .aload_n 0, 1), (53, .getfield 33, 3), (56, .getfield 160, 3), (59, .ireturn, 1), (60, .aload_n 0, 1), (61, .getfield 33, 3), (64, .getfield 163, 3), (67, .ireturn, 1), (68, .iconst (-1), 1), (69, .ireturn, 1)]
theorem dgX11_pieces_110 : ∀ q ∈ lgX11_pieces_110, decode cX11_pieces q.1 = .ok (q.2.1, q.2.2) := by decide +kernel
theorem dX11_pieces_0 : decode cX11_pieces 0 = .ok (.aload_n 0, 1) := dall dgX11_pieces_110 0 rfl
theorem dX11_pieces_1 : decode cX11_pieces 1 = .ok (.invokevirtual 151, 3) := dall dgX11_pieces_110 1 rfl
theorem dX11_pieces_4 : decode cX11_pieces 4 = .ok (.iload_n 1, 1) := dall dgX11_pieces_110 2 rfl
theorem dX11_pieces_5 : decode cX11_pieces 5 = .ok (.tableswitch 63 0 3 #[31, 39, 47, 55], 31) := dall dgX11_pieces_110 3 rfl
theorem dX11_pieces_36 : decode cX11_pieces 36 = .ok (.aload_n 0, 1) := dall dgX11_pieces_110 4 rfl
theorem dX11_pieces_37 : decode cX11_pieces 37 = .ok (.getfield 33, 3) := dall dgX11_pieces_110 5 rfl
theorem dX11_pieces_40 : decode cX11_pieces 40 = .ok (.getfield 154, 3) := dall dgX11_pieces_110 6 rfl
theorem dX11_pieces_43 : decode cX11_pieces 43 = .ok (.ireturn, 1) := dall dgX11_pieces_110 7 rfl
theorem dX11_pieces_44 : decode cX11_pieces 44 = .ok (.aload_n 0, 1) := dall dgX11_pieces_110 8 rfl
theorem dX11_pieces_45 : decode cX11_pieces 45 = .ok (.getfield 33, 3) := dall dgX11_pieces_110 9 rfl
theorem dX11_pieces_48 : decode cX11_pieces 48 = .ok (.getfield 157, 3) := dall dgX11_pieces_110 10 rfl
theorem dX11_pieces_51 : decode cX11_pieces 51 = .ok (.ireturn, 1) := dall dgX11_pieces_110 11 rfl
theorem dX11_pieces_52 : decode cX11_pieces 52 = .ok (.aload_n 0, 1) := dall dgX11_pieces_110 12 rfl
theorem dX11_pieces_53 : decode cX11_pieces 53 = .ok (.getfield 33, 3) := dall dgX11_pieces_110 13 rfl
theorem dX11_pieces_56 : decode cX11_pieces 56 = .ok (.getfield 160, 3) := dall dgX11_pieces_110 14 rfl
theorem dX11_pieces_59 : decode cX11_pieces 59 = .ok (.ireturn, 1) := dall dgX11_pieces_110 15 rfl
theorem dX11_pieces_60 : decode cX11_pieces 60 = .ok (.aload_n 0, 1) := dall dgX11_pieces_110 16 rfl
theorem dX11_pieces_61 : decode cX11_pieces 61 = .ok (.getfield 33, 3) := dall dgX11_pieces_110 17 rfl
theorem dX11_pieces_64 : decode cX11_pieces 64 = .ok (.getfield 163, 3) := dall dgX11_pieces_110 18 rfl
theorem dX11_pieces_67 : decode cX11_pieces 67 = .ok (.ireturn, 1) := dall dgX11_pieces_110 19 rfl
theorem dX11_pieces_68 : decode cX11_pieces 68 = .ok (.iconst (-1), 1) := dall dgX11_pieces_110 20 rfl
theorem dX11_pieces_69 : decode cX11_pieces 69 = .ok (.ireturn, 1) := dall dgX11_pieces_110 21 rfl
def lgX11_piece_111 : List (Nat × Instr × Nat) := [(0, .aload_n 0, 1), (1, .iload_n 1, 1), (2, .invokevirtual 166, 3), (5, .ifCond .ne 5, 3), (8, .iconst (-1), 1), (9, .ireturn, 1), (10, .iload_n 2, 1), (11, .tableswitch 83 0 6 #[41, 51, 61, 71, 71, 71, 71], 41), (52, .aload_n 0, 1), (53, .getfield 33, 3), (56, .getfield 169, 3), (59, .iload_n 1, 1), (60, .iaload, 1), (61, .ireturn, 1), (62, .aload_n 0, 1), (63, .getfield 33, 3), (66, .getfield 172, 3), (69, .iload_n 1, 1), (70, .iaload, 1), (71, .ireturn, 1), (72, .aload_n 0, 1), (73, .getfield 33, 3), (76, .getfield 175, 3), (79, .iload_n 1, 1), (80, .iaload, 1), (81, .ireturn, 1), (82, .aload_n 0, 1), (83, .getfield 33, 3), (86, .iload_n 1, 1), (87, .iload_n 2, 1), (88, .iconst 3, 1), (89, .isub, 1), (90, .invokevirtual 178, 3), (93, .ireturn, 1), (94, .iconst (-1), 1), (95, .ireturn, 1)]
theorem dgX11_piece_111 : ∀ q ∈ lgX11_piece_111, decode cX11_piece q.1 = .ok (q.2.1, q.2.2) := by decide +kernel
theorem dX11_piece_0 : decode cX11_piece 0 = .ok (.aload_n 0, 1) := dall dgX11_piece_111 0 rfl
theorem dX11_piece_1 : decode cX11_piece 1 = .ok (.iload_n 1, 1) := dall dgX11_piece_111 1 rfl
theorem dX11_piece_2 : decode cX11_piece 2 = .ok (.invokevirtual 166, 3) := dall dgX11_piece_111 2 rfl
theorem dX11_piece_5 : decode cX11_piece 5 = .ok (.ifCond .ne 5, 3) := dall dgX11_piece_111 3 rfl
theorem dX11_piece_8 : decode cX11_piece 8 = .ok (.iconst (-1), 1) := dall dgX11_piece_111 4 rfl
theorem dX11_piece_9 : decode cX11_piece 9 = .ok (.ireturn, 1) := dall dgX11_piece_111 5 rfl
theorem dX11_piece_10 : decode cX11_piece 10 = .ok (.iload_n 2, 1) := dall dgX11_piece_111 6 rfl
theorem dX11_piece_11 : decode cX11_piece 11 = .ok (.tableswitch 83 0 6 #[41, 51, 61, 71, 71, 71, 71], 41) := dall dgX11_piece_111 7 rfl
theorem dX11_piece_52 : decode cX11_piece 52 = .ok (.aload_n 0, 1) := dall dgX11_piece_111 8 rfl
theorem dX11_piece_53 : decode cX11_piece 53 = .ok (.getfield 33, 3) := dall dgX11_piece_111 9 rfl
theorem dX11_piece_56 : decode cX11_piece 56 = .ok (.getfield 169, 3) := dall dgX11_piece_111 10 rfl
theorem dX11_piece_59 : decode cX11_piece 59 = .ok (.iload_n 1, 1) := dall dgX11_piece_111 11 rfl
theorem dX11_piece_60 : decode cX11_piece 60 = .ok (.iaload, 1) := dall dgX11_piece_111 12 rfl
theorem dX11_piece_61 : decode cX11_piece 61 = .ok (.ireturn, 1) := dall dgX11_piece_111 13 rfl
theorem dX11_piece_62 : decode cX11_piece 62 = .ok (.aload_n 0, 1) := dall dgX11_piece_111 14 rfl
theorem dX11_piece_63 : decode cX11_piece 63 = .ok (.getfield 33, 3) := dall dgX11_piece_111 15 rfl
theorem dX11_piece_66 : decode cX11_piece 66 = .ok (.getfield 172, 3) := dall dgX11_piece_111 16 rfl
theorem dX11_piece_69 : decode cX11_piece 69 = .ok (.iload_n 1, 1) := dall dgX11_piece_111 17 rfl
theorem dX11_piece_70 : decode cX11_piece 70 = .ok (.iaload, 1) := dall dgX11_piece_111 18 rfl
theorem dX11_piece_71 : decode cX11_piece 71 = .ok (.ireturn, 1) := dall dgX11_piece_111 19 rfl
theorem dX11_piece_72 : decode cX11_piece 72 = .ok (.aload_n 0, 1) := dall dgX11_piece_111 20 rfl
theorem dX11_piece_73 : decode cX11_piece 73 = .ok (.getfield 33, 3) := dall dgX11_piece_111 21 rfl
theorem dX11_piece_76 : decode cX11_piece 76 = .ok (.getfield 175, 3) := dall dgX11_piece_111 22 rfl
theorem dX11_piece_79 : decode cX11_piece 79 = .ok (.iload_n 1, 1) := dall dgX11_piece_111 23 rfl
theorem dX11_piece_80 : decode cX11_piece 80 = .ok (.iaload, 1) := dall dgX11_piece_111 24 rfl
theorem dX11_piece_81 : decode cX11_piece 81 = .ok (.ireturn, 1) := dall dgX11_piece_111 25 rfl
theorem dX11_piece_82 : decode cX11_piece 82 = .ok (.aload_n 0, 1) := dall dgX11_piece_111 26 rfl
theorem dX11_piece_83 : decode cX11_piece 83 = .ok (.getfield 33, 3) := dall dgX11_piece_111 27 rfl
theorem dX11_piece_86 : decode cX11_piece 86 = .ok (.iload_n 1, 1) := dall dgX11_piece_111 28 rfl
theorem dX11_piece_87 : decode cX11_piece 87 = .ok (.iload_n 2, 1) := dall dgX11_piece_111 29 rfl
theorem dX11_piece_88 : decode cX11_piece 88 = .ok (.iconst 3, 1) := dall dgX11_piece_111 30 rfl
theorem dX11_piece_89 : decode cX11_piece 89 = .ok (.isub, 1) := dall dgX11_piece_111 31 rfl
theorem dX11_piece_90 : decode cX11_piece 90 = .ok (.invokevirtual 178, 3) := dall dgX11_piece_111 32 rfl
theorem dX11_piece_93 : decode cX11_piece 93 = .ok (.ireturn, 1) := dall dgX11_piece_111 33 rfl
theorem dX11_piece_94 : decode cX11_piece 94 = .ok (.iconst (-1), 1) := dall dgX11_piece_111 34 rfl
theorem dX11_piece_95 : decode cX11_piece 95 = .ok (.ireturn, 1) := dall dgX11_piece_111 35 rfl
def lgX11_of_112 : List (Nat × Instr × Nat) := [(0, .iload_n 1, 1), (1, .iconst 0, 1), (2, .aload_n 0, 1), (3, .getfield 19, 3), (6, .getfield 130, 3), (9, .iconst 1, 1), (10, .isub, 1), (11, .invokestatic 104, 3), (14, .ifCond .ne 5, 3), (17, .iconst (-1), 1), (18, .ireturn, 1), (19, .aload_n 0, 1), (20, .invokevirtual 151, 3), (23, .aload_n 0, 1), (24, .getfield 33, 3), (27, .getfield 182, 3), (30, .iload_n 1, 1), (31, .iaload, 1), (32, .ireturn, 1)]
theorem dgX11_of_112 : ∀ q ∈ lgX11_of_112, decode cX11_of q.1 = .ok (q.2.1, q.2.2) := by decide +kernel
theorem dX11_of_0 : decode cX11_of 0 = .ok (.iload_n 1, 1) := dall dgX11_of_112 0 rfl
theorem dX11_of_1 : decode cX11_of 1 = .ok (.iconst 0, 1) := dall dgX11_of_112 1 rfl
theorem dX11_of_2 : decode cX11_of 2 = .ok (.aload_n 0, 1) := dall dgX11_of_112 2 rfl
theorem dX11_of_3 : decode cX11_of 3 = .ok (.getfield 19, 3) := dall dgX11_of_112 3 rfl
theorem dX11_of_6 : decode cX11_of 6 = .ok (.getfield 130, 3) := dall dgX11_of_112 4 rfl
theorem dX11_of_9 : decode cX11_of 9 = .ok (.iconst 1, 1) := dall dgX11_of_112 5 rfl
theorem dX11_of_10 : decode cX11_of 10 = .ok (.isub, 1) := dall dgX11_of_112 6 rfl
theorem dX11_of_11 : decode cX11_of 11 = .ok (.invokestatic 104, 3) := dall dgX11_of_112 7 rfl
theorem dX11_of_14 : decode cX11_of 14 = .ok (.ifCond .ne 5, 3) := dall dgX11_of_112 8 rfl
theorem dX11_of_17 : decode cX11_of 17 = .ok (.iconst (-1), 1) := dall dgX11_of_112 9 rfl
theorem dX11_of_18 : decode cX11_of 18 = .ok (.ireturn, 1) := dall dgX11_of_112 10 rfl
theorem dX11_of_19 : decode cX11_of 19 = .ok (.aload_n 0, 1) := dall dgX11_of_112 11 rfl
theorem dX11_of_20 : decode cX11_of 20 = .ok (.invokevirtual 151, 3) := dall dgX11_of_112 12 rfl
theorem dX11_of_23 : decode cX11_of 23 = .ok (.aload_n 0, 1) := dall dgX11_of_112 13 rfl
theorem dX11_of_24 : decode cX11_of 24 = .ok (.getfield 33, 3) := dall dgX11_of_112 14 rfl
theorem dX11_of_27 : decode cX11_of 27 = .ok (.getfield 182, 3) := dall dgX11_of_112 15 rfl
theorem dX11_of_30 : decode cX11_of 30 = .ok (.iload_n 1, 1) := dall dgX11_of_112 16 rfl
theorem dX11_of_31 : decode cX11_of 31 = .ok (.iaload, 1) := dall dgX11_of_112 17 rfl
theorem dX11_of_32 : decode cX11_of 32 = .ok (.ireturn, 1) := dall dgX11_of_112 18 rfl
def lgX11_like_113 : List (Nat × Instr × Nat) := [(0, .aload_n 0, 1), (1, .iload_n 1, 1), (2, .invokevirtual 166, 3), (5, .ifCond .eq 16, 3), (8, .aload_n 0, 1), (9, .iload_n 2, 1), (10, .invokevirtual 166, 3), (13, .ifCond .eq 8, 3), (16, .iload_n 1, 1), (17, .iload_n 2, 1), (18, .if_icmp .ne 6, 3), (21, .ldc 185, 2), (23, .ireturn, 1), (24, .aload_n 0, 1), (25, .getfield 33, 3), (28, .iload_n 1, 1), (29, .iload_n 2, 1), (30, .aload_n 0, 1), (31, .getfield 10, 3), (34, .iconst 2, 1), (35, .invokevirtual 122, 3), (38, .invokevirtual 186, 3), (41, .ireturn, 1)]
theorem dgX11_like_113 : ∀ q ∈ lgX11_like_113, decode cX11_like q.1 = .ok (q.2.1, q.2.2) := by decide +kernel
theorem dX11_like_0 : decode cX11_like 0 = .ok (.aload_n 0, 1) := dall dgX11_like_113 0 rfl
theorem dX11_like_1 : decode cX11_like 1 = .ok (.iload_n 1, 1) := dall dgX11_like_113 1 rfl
theorem dX11_like_2 : decode cX11_like 2 = .ok (.invokevirtual 166, 3) := dall dgX11_like_113 2 rfl
theorem dX11_like_5 : decode cX11_like 5 = .ok (.ifCond .eq 16, 3) := dall dgX11_like_113 3 rfl
theorem dX11_like_8 : decode cX11_like 8 = .ok (.aload_n 0, 1) := dall dgX11_like_113 4 rfl
theorem dX11_like_9 : decode cX11_like 9 = .ok (.iload_n 2, 1) := dall dgX11_like_113 5 rfl
theorem dX11_like_10 : decode cX11_like 10 = .ok (.invokevirtual 166, 3) := dall dgX11_like_113 6 rfl
theorem dX11_like_13 : decode cX11_like 13 = .ok (.ifCond .eq 8, 3) := dall dgX11_like_113 7 rfl
theorem dX11_like_16 : decode cX11_like 16 = .ok (.iload_n 1, 1) := dall dgX11_like_113 8 rfl
theorem dX11_like_17 : decode cX11_like 17 = .ok (.iload_n 2, 1) := dall dgX11_like_113 9 rfl
theorem dX11_like_18 : decode cX11_like 18 = .ok (.if_icmp .ne 6, 3) := dall dgX11_like_113 10 rfl
theorem dX11_like_21 : decode cX11_like 21 = .ok (.ldc 185, 2) := dall dgX11_like_113 11 rfl
theorem dX11_like_23 : decode cX11_like 23 = .ok (.ireturn, 1) := dall dgX11_like_113 12 rfl
theorem dX11_like_24 : decode cX11_like 24 = .ok (.aload_n 0, 1) := dall dgX11_like_113 13 rfl
theorem dX11_like_25 : decode cX11_like 25 = .ok (.getfield 33, 3) := dall dgX11_like_113 14 rfl
theorem dX11_like_28 : decode cX11_like 28 = .ok (.iload_n 1, 1) := dall dgX11_like_113 15 rfl
theorem dX11_like_29 : decode cX11_like 29 = .ok (.iload_n 2, 1) := dall dgX11_like_113 16 rfl
theorem dX11_like_30 : decode cX11_like 30 = .ok (.aload_n 0, 1) := dall dgX11_like_113 17 rfl
theorem dX11_like_31 : decode cX11_like 31 = .ok (.getfield 10, 3) := dall dgX11_like_113 18 rfl
theorem dX11_like_34 : decode cX11_like 34 = .ok (.iconst 2, 1) := dall dgX11_like_113 19 rfl
theorem dX11_like_35 : decode cX11_like 35 = .ok (.invokevirtual 122, 3) := dall dgX11_like_113 20 rfl
theorem dX11_like_38 : decode cX11_like 38 = .ok (.invokevirtual 186, 3) := dall dgX11_like_113 21 rfl
theorem dX11_like_41 : decode cX11_like 41 = .ok (.ireturn, 1) := dall dgX11_like_113 22 rfl
def lgX11_heap_114 : List (Nat × Instr × Nat) := [(0, .aload_n 0, 1), (1, .iload_n 1, 1), (2, .invokevirtual 166, 3), (5, .ifCond .eq 12, 3), (8, .iload_n 2, 1), (9, .iconst 0, 1), (10, .iconst 1, 1), (11, .invokestatic 104, 3), (14, .ifCond .ne 5, 3), (17, .iconst (-1), 1), (18, .ireturn, 1), (19, .aload_n 0, 1), (20, .invokevirtual 190, 3), (23, .ifCond .ne 6, 3), (26, .bipush (-2), 2), (28, .ireturn, 1), (29, .aload_n 0, 1), (30, .iload_n 2, 1), (31, .invokevirtual 194, 3), (34, .getfield 198, 3), (37, .iload_n 1, 1), (38, .iaload, 1), (39, .ireturn, 1)]
theorem dgX11_heap_114 : ∀ q ∈ lgX11_heap_114, decode cX11_heap q.1 = .ok (q.2.1, q.2.2) := by decide +kernel
theorem dX11_heap_0 : decode cX11_heap 0 = .ok (.aload_n 0, 1) := dall dgX11_heap_114 0 rfl
theorem dX11_heap_1 : decode cX11_heap 1 = .ok (.iload_n 1, 1) := dall dgX11_heap_114 1 rfl
theorem dX11_heap_2 : decode cX11_heap 2 = .ok (.invokevirtual 166, 3) := dall dgX11_heap_114 2 rfl
theorem dX11_heap_5 : decode cX11_heap 5 = .ok (.ifCond .eq 12, 3) := dall dgX11_heap_114 3 rfl
theorem dX11_heap_8 : decode cX11_heap 8 = .ok (.iload_n 2, 1) := dall dgX11_heap_114 4 rfl
theorem dX11_heap_9 : decode cX11_heap 9 = .ok (.iconst 0, 1) := dall dgX11_heap_114 5 rfl
theorem dX11_heap_10 : decode cX11_heap 10 = .ok (.iconst 1, 1) := dall dgX11_heap_114 6 rfl
theorem dX11_heap_11 : decode cX11_heap 11 = .ok (.invokestatic 104, 3) := dall dgX11_heap_114 7 rfl
theorem dX11_heap_14 : decode cX11_heap 14 = .ok (.ifCond .ne 5, 3) := dall dgX11_heap_114 8 rfl
theorem dX11_heap_17 : decode cX11_heap 17 = .ok (.iconst (-1), 1) := dall dgX11_heap_114 9 rfl
theorem dX11_heap_18 : decode cX11_heap 18 = .ok (.ireturn, 1) := dall dgX11_heap_114 10 rfl
theorem dX11_heap_19 : decode cX11_heap 19 = .ok (.aload_n 0, 1) := dall dgX11_heap_114 11 rfl
theorem dX11_heap_20 : decode cX11_heap 20 = .ok (.invokevirtual 190, 3) := dall dgX11_heap_114 12 rfl
theorem dX11_heap_23 : decode cX11_heap 23 = .ok (.ifCond .ne 6, 3) := dall dgX11_heap_114 13 rfl
theorem dX11_heap_26 : decode cX11_heap 26 = .ok (.bipush (-2), 2) := dall dgX11_heap_114 14 rfl
theorem dX11_heap_28 : decode cX11_heap 28 = .ok (.ireturn, 1) := dall dgX11_heap_114 15 rfl
theorem dX11_heap_29 : decode cX11_heap 29 = .ok (.aload_n 0, 1) := dall dgX11_heap_114 16 rfl
theorem dX11_heap_30 : decode cX11_heap 30 = .ok (.iload_n 2, 1) := dall dgX11_heap_114 17 rfl
theorem dX11_heap_31 : decode cX11_heap 31 = .ok (.invokevirtual 194, 3) := dall dgX11_heap_114 18 rfl
theorem dX11_heap_34 : decode cX11_heap 34 = .ok (.getfield 198, 3) := dall dgX11_heap_114 19 rfl
theorem dX11_heap_37 : decode cX11_heap 37 = .ok (.iload_n 1, 1) := dall dgX11_heap_114 20 rfl
theorem dX11_heap_38 : decode cX11_heap 38 = .ok (.iaload, 1) := dall dgX11_heap_114 21 rfl
theorem dX11_heap_39 : decode cX11_heap 39 = .ok (.ireturn, 1) := dall dgX11_heap_114 22 rfl
def lgX11_worth_115 : List (Nat × Instr × Nat) := [(0, .iload_n 1, 1), (1, .iconst 0, 1), (2, .iconst 1, 1), (3, .invokestatic 104, 3), (6, .ifCond .eq 10, 3), (9, .aload_n 0, 1), (10, .invokevirtual 190, 3), (13, .ifCond .ne 6, 3), (16, .ldc 185, 2), (18, .ireturn, 1), (19, .aload_n 0, 1), (20, .iload_n 1, 1), (21, .invokevirtual 194, 3), (24, .getfield 201, 3), (27, .ireturn, 1)]
theorem dgX11_worth_115 : ∀ q ∈ lgX11_worth_115, decode cX11_worth q.1 = .ok (q.2.1, q.2.2) := by decide +kernel
theorem dX11_worth_0 : decode cX11_worth 0 = .ok (.iload_n 1, 1) := dall dgX11_worth_115 0 rfl
theorem dX11_worth_1 : decode cX11_worth 1 = .ok (.iconst 0, 1) := dall dgX11_worth_115 1 rfl
theorem dX11_worth_2 : decode cX11_worth 2 = .ok (.iconst 1, 1) := dall dgX11_worth_115 2 rfl
theorem dX11_worth_3 : decode cX11_worth 3 = .ok (.invokestatic 104, 3) := dall dgX11_worth_115 3 rfl
theorem dX11_worth_6 : decode cX11_worth 6 = .ok (.ifCond .eq 10, 3) := dall dgX11_worth_115 4 rfl
theorem dX11_worth_9 : decode cX11_worth 9 = .ok (.aload_n 0, 1) := dall dgX11_worth_115 5 rfl
theorem dX11_worth_10 : decode cX11_worth 10 = .ok (.invokevirtual 190, 3) := dall dgX11_worth_115 6 rfl
theorem dX11_worth_13 : decode cX11_worth 13 = .ok (.ifCond .ne 6, 3) := dall dgX11_worth_115 7 rfl
theorem dX11_worth_16 : decode cX11_worth 16 = .ok (.ldc 185, 2) := dall dgX11_worth_115 8 rfl
theorem dX11_worth_18 : decode cX11_worth 18 = .ok (.ireturn, 1) := dall dgX11_worth_115 9 rfl
theorem dX11_worth_19 : decode cX11_worth 19 = .ok (.aload_n 0, 1) := dall dgX11_worth_115 10 rfl
theorem dX11_worth_20 : decode cX11_worth 20 = .ok (.iload_n 1, 1) := dall dgX11_worth_115 11 rfl
theorem dX11_worth_21 : decode cX11_worth 21 = .ok (.invokevirtual 194, 3) := dall dgX11_worth_115 12 rfl
theorem dX11_worth_24 : decode cX11_worth 24 = .ok (.getfield 201, 3) := dall dgX11_worth_115 13 rfl
theorem dX11_worth_27 : decode cX11_worth 27 = .ok (.ireturn, 1) := dall dgX11_worth_115 14 rfl
def lgX11_near_116 : List (Nat × Instr × Nat) := [(0, .iload_n 1, 1), (1, .iconst 0, 1), (2, .iconst 4, 1), (3, .invokestatic 104, 3), (6, .ifCond .ne 5, 3), (9, .iconst (-1), 1), (10, .ireturn, 1), (11, .aload_n 0, 1), (12, .invokevirtual 190, 3), (15, .ifCond .ne 6, 3), (18, .bipush (-2), 2), (20, .ireturn, 1), (21, .iload_n 1, 1), (22, .iconst 2, 1), (23, .if_icmp .le 14, 3), (26, .aload_n 0, 1), (27, .iload_n 1, 1), (28, .iconst 3, 1), (29, .isub, 1), (30, .invokevirtual 194, 3), (33, .getfield 204, 3), (36, .ireturn, 1), (37, .aload_n 0, 1), (38, .invokevirtual 207, 3), (41, .iload_n 1, 1), (42, .ifCond .ne 11, 3), (45, .aload_n 0, 1), (46, .getfield 47, 3), (49, .getfield 210, 3), (52, .ireturn, 1), (53, .iload_n 1, 1), (54, .iconst 1, 1), (55, .if_icmp .ne 13, 3), (58, .aload_n 0, 1), (59, .getfield 47, 3), (62, .getfield 213, 3), (65, .goto 10, 3), (68, .aload_n 0, 1), (69, .getfield 47, 3), (72, .getfield 216, 3), (75, .ireturn, 1)]
theorem dgX11_near_116 : ∀ q ∈ lgX11_near_116, decode cX11_near q.1 = .ok (q.2.1, q.2.2) := by decide +kernel
theorem dX11_near_0 : decode cX11_near 0 = .ok (.iload_n 1, 1) := dall dgX11_near_116 0 rfl
theorem dX11_near_1 : decode cX11_near 1 = .ok (.iconst 0, 1) := dall dgX11_near_116 1 rfl
theorem dX11_near_2 : decode cX11_near 2 = .ok (.iconst 4, 1) := dall dgX11_near_116 2 rfl
theorem dX11_near_3 : decode cX11_near 3 = .ok (.invokestatic 104, 3) := dall dgX11_near_116 3 rfl
theorem dX11_near_6 : decode cX11_near 6 = .ok (.ifCond .ne 5, 3) := dall dgX11_near_116 4 rfl
theorem dX11_near_9 : decode cX11_near 9 = .ok (.iconst (-1), 1) := dall dgX11_near_116 5 rfl
theorem dX11_near_10 : decode cX11_near 10 = .ok (.ireturn, 1) := dall dgX11_near_116 6 rfl
theorem dX11_near_11 : decode cX11_near 11 = .ok (.aload_n 0, 1) := dall dgX11_near_116 7 rfl
theorem dX11_near_12 : decode cX11_near 12 = .ok (.invokevirtual 190, 3) := dall dgX11_near_116 8 rfl
theorem dX11_near_15 : decode cX11_near 15 = .ok (.ifCond .ne 6, 3) := dall dgX11_near_116 9 rfl
theorem dX11_near_18 : decode cX11_near 18 = .ok (.bipush (-2), 2) := dall dgX11_near_116 10 rfl
theorem dX11_near_20 : decode cX11_near 20 = .ok (.ireturn, 1) := dall dgX11_near_116 11 rfl
theorem dX11_near_21 : decode cX11_near 21 = .ok (.iload_n 1, 1) := dall dgX11_near_116 12 rfl
theorem dX11_near_22 : decode cX11_near 22 = .ok (.iconst 2, 1) := dall dgX11_near_116 13 rfl
theorem dX11_near_23 : decode cX11_near 23 = .ok (.if_icmp .le 14, 3) := dall dgX11_near_116 14 rfl
theorem dX11_near_26 : decode cX11_near 26 = .ok (.aload_n 0, 1) := dall dgX11_near_116 15 rfl
theorem dX11_near_27 : decode cX11_near 27 = .ok (.iload_n 1, 1) := dall dgX11_near_116 16 rfl
theorem dX11_near_28 : decode cX11_near 28 = .ok (.iconst 3, 1) := dall dgX11_near_116 17 rfl
theorem dX11_near_29 : decode cX11_near 29 = .ok (.isub, 1) := dall dgX11_near_116 18 rfl
theorem dX11_near_30 : decode cX11_near 30 = .ok (.invokevirtual 194, 3) := dall dgX11_near_116 19 rfl
theorem dX11_near_33 : decode cX11_near 33 = .ok (.getfield 204, 3) := dall dgX11_near_116 20 rfl
theorem dX11_near_36 : decode cX11_near 36 = .ok (.ireturn, 1) := dall dgX11_near_116 21 rfl
theorem dX11_near_37 : decode cX11_near 37 = .ok (.aload_n 0, 1) := dall dgX11_near_116 22 rfl
theorem dX11_near_38 : decode cX11_near 38 = .ok (.invokevirtual 207, 3) := dall dgX11_near_116 23 rfl
theorem dX11_near_41 : decode cX11_near 41 = .ok (.iload_n 1, 1) := dall dgX11_near_116 24 rfl
theorem dX11_near_42 : decode cX11_near 42 = .ok (.ifCond .ne 11, 3) := dall dgX11_near_116 25 rfl
theorem dX11_near_45 : decode cX11_near 45 = .ok (.aload_n 0, 1) := dall dgX11_near_116 26 rfl
theorem dX11_near_46 : decode cX11_near 46 = .ok (.getfield 47, 3) := dall dgX11_near_116 27 rfl
theorem dX11_near_49 : decode cX11_near 49 = .ok (.getfield 210, 3) := dall dgX11_near_116 28 rfl
theorem dX11_near_52 : decode cX11_near 52 = .ok (.ireturn, 1) := dall dgX11_near_116 29 rfl
theorem dX11_near_53 : decode cX11_near 53 = .ok (.iload_n 1, 1) := dall dgX11_near_116 30 rfl
theorem dX11_near_54 : decode cX11_near 54 = .ok (.iconst 1, 1) := dall dgX11_near_116 31 rfl
theorem dX11_near_55 : decode cX11_near 55 = .ok (.if_icmp .ne 13, 3) := dall dgX11_near_116 32 rfl
theorem dX11_near_58 : decode cX11_near 58 = .ok (.aload_n 0, 1) := dall dgX11_near_116 33 rfl
theorem dX11_near_59 : decode cX11_near 59 = .ok (.getfield 47, 3) := dall dgX11_near_116 34 rfl
theorem dX11_near_62 : decode cX11_near 62 = .ok (.getfield 213, 3) := dall dgX11_near_116 35 rfl
theorem dX11_near_65 : decode cX11_near 65 = .ok (.goto 10, 3) := dall dgX11_near_116 36 rfl
theorem dX11_near_68 : decode cX11_near 68 = .ok (.aload_n 0, 1) := dall dgX11_near_116 37 rfl
theorem dX11_near_69 : decode cX11_near 69 = .ok (.getfield 47, 3) := dall dgX11_near_116 38 rfl
theorem dX11_near_72 : decode cX11_near 72 = .ok (.getfield 216, 3) := dall dgX11_near_116 39 rfl
theorem dX11_near_75 : decode cX11_near 75 = .ok (.ireturn, 1) := dall dgX11_near_116 40 rfl
def lgX11_sure_117 : List (Nat × Instr × Nat) := [(0, .aload_n 0, 1), (1, .iload_n 1, 1), (2, .invokevirtual 166, 3), (5, .ifCond .eq 16, 3), (8, .aload_n 0, 1), (9, .iload_n 2, 1), (10, .invokevirtual 166, 3), (13, .ifCond .eq 8, 3), (16, .iload_n 1, 1), (17, .iload_n 2, 1), (18, .if_icmp .ne 5, 3), (21, .iconst (-1), 1), (22, .ireturn, 1), (23, .aload_n 0, 1), (24, .invokevirtual 190, 3), (27, .ifCond .ne 6, 3), (30, .bipush (-2), 2), (32, .ireturn, 1), (33, .aload_n 0, 1), (34, .invokevirtual 207, 3), (37, .aload_n 0, 1), (38, .getfield 47, 3), (41, .iload_n 1, 1), (42, .iload_n 2, 1), (43, .invokevirtual 219, 3), (46, .ireturn, 1)]
theorem dgX11_sure_117 : ∀ q ∈ lgX11_sure_117, decode cX11_sure q.1 = .ok (q.2.1, q.2.2) := by decide +kernel
theorem dX11_sure_0 : decode cX11_sure 0 = .ok (.aload_n 0, 1) := dall dgX11_sure_117 0 rfl
theorem dX11_sure_1 : decode cX11_sure 1 = .ok (.iload_n 1, 1) := dall dgX11_sure_117 1 rfl
theorem dX11_sure_2 : decode cX11_sure 2 = .ok (.invokevirtual 166, 3) := dall dgX11_sure_117 2 rfl
theorem dX11_sure_5 : decode cX11_sure 5 = .ok (.ifCond .eq 16, 3) := dall dgX11_sure_117 3 rfl
theorem dX11_sure_8 : decode cX11_sure 8 = .ok (.aload_n 0, 1) := dall dgX11_sure_117 4 rfl
theorem dX11_sure_9 : decode cX11_sure 9 = .ok (.iload_n 2, 1) := dall dgX11_sure_117 5 rfl
theorem dX11_sure_10 : decode cX11_sure 10 = .ok (.invokevirtual 166, 3) := dall dgX11_sure_117 6 rfl
theorem dX11_sure_13 : decode cX11_sure 13 = .ok (.ifCond .eq 8, 3) := dall dgX11_sure_117 7 rfl
theorem dX11_sure_16 : decode cX11_sure 16 = .ok (.iload_n 1, 1) := dall dgX11_sure_117 8 rfl
theorem dX11_sure_17 : decode cX11_sure 17 = .ok (.iload_n 2, 1) := dall dgX11_sure_117 9 rfl
theorem dX11_sure_18 : decode cX11_sure 18 = .ok (.if_icmp .ne 5, 3) := dall dgX11_sure_117 10 rfl
theorem dX11_sure_21 : decode cX11_sure 21 = .ok (.iconst (-1), 1) := dall dgX11_sure_117 11 rfl
theorem dX11_sure_22 : decode cX11_sure 22 = .ok (.ireturn, 1) := dall dgX11_sure_117 12 rfl
theorem dX11_sure_23 : decode cX11_sure 23 = .ok (.aload_n 0, 1) := dall dgX11_sure_117 13 rfl
theorem dX11_sure_24 : decode cX11_sure 24 = .ok (.invokevirtual 190, 3) := dall dgX11_sure_117 14 rfl
theorem dX11_sure_27 : decode cX11_sure 27 = .ok (.ifCond .ne 6, 3) := dall dgX11_sure_117 15 rfl
theorem dX11_sure_30 : decode cX11_sure 30 = .ok (.bipush (-2), 2) := dall dgX11_sure_117 16 rfl
theorem dX11_sure_32 : decode cX11_sure 32 = .ok (.ireturn, 1) := dall dgX11_sure_117 17 rfl
theorem dX11_sure_33 : decode cX11_sure 33 = .ok (.aload_n 0, 1) := dall dgX11_sure_117 18 rfl
theorem dX11_sure_34 : decode cX11_sure 34 = .ok (.invokevirtual 207, 3) := dall dgX11_sure_117 19 rfl
theorem dX11_sure_37 : decode cX11_sure 37 = .ok (.aload_n 0, 1) := dall dgX11_sure_117 20 rfl
theorem dX11_sure_38 : decode cX11_sure 38 = .ok (.getfield 47, 3) := dall dgX11_sure_117 21 rfl
theorem dX11_sure_41 : decode cX11_sure 41 = .ok (.iload_n 1, 1) := dall dgX11_sure_117 22 rfl
theorem dX11_sure_42 : decode cX11_sure 42 = .ok (.iload_n 2, 1) := dall dgX11_sure_117 23 rfl
theorem dX11_sure_43 : decode cX11_sure 43 = .ok (.invokevirtual 219, 3) := dall dgX11_sure_117 24 rfl
theorem dX11_sure_46 : decode cX11_sure 46 = .ok (.ireturn, 1) := dall dgX11_sure_117 25 rfl
def lgX11_middle_118 : List (Nat × Instr × Nat) := [(0, .iload_n 1, 1), (1, .invokestatic 222, 3), (4, .ifCond .eq 12, 3), (7, .iload_n 2, 1), (8, .iconst 0, 1), (9, .iconst 3, 1), (10, .invokestatic 104, 3), (13, .ifCond .ne 5, 3), (16, .iconst (-1), 1), (17, .ireturn, 1), (18, .aload_n 0, 1), (19, .iload_n 1, 1), (20, .invokevirtual 225, 3), (23, .istore_n 3, 1), (24, .iload_n 3, 1), (25, .ifCond .ge 7, 3), (28, .iload_n 3, 1), (29, .goto 15, 3), (32, .aload_n 0, 1), (33, .getfield 47, 3), (36, .getfield 228, 3), (39, .iload_n 1, 1), (40, .iload_n 2, 1), (41, .invokevirtual 231, 3), (44, .ireturn, 1)]
theorem dgX11_middle_118 : ∀ q ∈ lgX11_middle_118, decode cX11_middle q.1 = .ok (q.2.1, q.2.2) := by decide +kernel
theorem dX11_middle_0 : decode cX11_middle 0 = .ok (.iload_n 1, 1) := dall dgX11_middle_118 0 rfl
theorem dX11_middle_1 : decode cX11_middle 1 = .ok (.invokestatic 222, 3) := dall dgX11_middle_118 1 rfl
theorem dX11_middle_4 : decode cX11_middle 4 = .ok (.ifCond .eq 12, 3) := dall dgX11_middle_118 2 rfl
theorem dX11_middle_7 : decode cX11_middle 7 = .ok (.iload_n 2, 1) := dall dgX11_middle_118 3 rfl
theorem dX11_middle_8 : decode cX11_middle 8 = .ok (.iconst 0, 1) := dall dgX11_middle_118 4 rfl
theorem dX11_middle_9 : decode cX11_middle 9 = .ok (.iconst 3, 1) := dall dgX11_middle_118 5 rfl
theorem dX11_middle_10 : decode cX11_middle 10 = .ok (.invokestatic 104, 3) := dall dgX11_middle_118 6 rfl
theorem dX11_middle_13 : decode cX11_middle 13 = .ok (.ifCond .ne 5, 3) := dall dgX11_middle_118 7 rfl
theorem dX11_middle_16 : decode cX11_middle 16 = .ok (.iconst (-1), 1) := dall dgX11_middle_118 8 rfl
theorem dX11_middle_17 : decode cX11_middle 17 = .ok (.ireturn, 1) := dall dgX11_middle_118 9 rfl
theorem dX11_middle_18 : decode cX11_middle 18 = .ok (.aload_n 0, 1) := dall dgX11_middle_118 10 rfl
theorem dX11_middle_19 : decode cX11_middle 19 = .ok (.iload_n 1, 1) := dall dgX11_middle_118 11 rfl
theorem dX11_middle_20 : decode cX11_middle 20 = .ok (.invokevirtual 225, 3) := dall dgX11_middle_118 12 rfl
theorem dX11_middle_23 : decode cX11_middle 23 = .ok (.istore_n 3, 1) := dall dgX11_middle_118 13 rfl
theorem dX11_middle_24 : decode cX11_middle 24 = .ok (.iload_n 3, 1) := dall dgX11_middle_118 14 rfl
theorem dX11_middle_25 : decode cX11_middle 25 = .ok (.ifCond .ge 7, 3) := dall dgX11_middle_118 15 rfl
theorem dX11_middle_28 : decode cX11_middle 28 = .ok (.iload_n 3, 1) := dall dgX11_middle_118 16 rfl
theorem dX11_middle_29 : decode cX11_middle 29 = .ok (.goto 15, 3) := dall dgX11_middle_118 17 rfl
theorem dX11_middle_32 : decode cX11_middle 32 = .ok (.aload_n 0, 1) := dall dgX11_middle_118 18 rfl
theorem dX11_middle_33 : decode cX11_middle 33 = .ok (.getfield 47, 3) := dall dgX11_middle_118 19 rfl
theorem dX11_middle_36 : decode cX11_middle 36 = .ok (.getfield 228, 3) := dall dgX11_middle_118 20 rfl
theorem dX11_middle_39 : decode cX11_middle 39 = .ok (.iload_n 1, 1) := dall dgX11_middle_118 21 rfl
theorem dX11_middle_40 : decode cX11_middle 40 = .ok (.iload_n 2, 1) := dall dgX11_middle_118 22 rfl
theorem dX11_middle_41 : decode cX11_middle 41 = .ok (.invokevirtual 231, 3) := dall dgX11_middle_118 23 rfl
theorem dX11_middle_44 : decode cX11_middle 44 = .ok (.ireturn, 1) := dall dgX11_middle_118 24 rfl
def lgX11_twice_119 : List (Nat × Instr × Nat) := [(0, .aload_n 0, 1), (1, .iload_n 1, 1), (2, .invokevirtual 166, 3), (5, .ifCond .eq 12, 3), (8, .iload_n 2, 1), (9, .iconst 0, 1), (10, .iconst 1, 1), (11, .invokestatic 104, 3), (14, .ifCond .ne 5, 3), (17, .iconst (-1), 1), (18, .ireturn, 1), (19, .aload_n 0, 1), (20, .invokevirtual 190, 3), (23, .ifCond .ne 6, 3), (26, .bipush (-2), 2), (28, .ireturn, 1), (29, .aload_n 0, 1), (30, .getfield 47, 3), (33, .getfield 228, 3), (36, .aload_n 0, 1), (37, .getfield 33, 3), (40, .iload_n 1, 1), (41, .aload_n 0, 1), (42, .getfield 10, 3), (45, .iconst 5, 1), (46, .invokevirtual 122, 3), (49, .invokevirtual 232, 3), (52, .istore_n 3, 1), (53, .iload_n 3, 1), (54, .bipush (-9), 2), (56, .if_icmp .ne 6, 3), (59, .bipush (-9), 2), (61, .ireturn, 1), (62, .iload_n 2, 1), (63, .ifCond .ne 10, 3), (66, .iload_n 3, 1), (67, .bipush 9, 2), (69, .idiv, 1), (70, .goto 7, 3), (73, .iload_n 3, 1), (74, .bipush 9, 2), (76, .irem, 1), (77, .ireturn, 1)]
theorem dgX11_twice_119 : ∀ q ∈ lgX11_twice_119, decode cX11_twice q.1 = .ok (q.2.1, q.2.2) := by decide +kernel
theorem dX11_twice_0 : decode cX11_twice 0 = .ok (.aload_n 0, 1) := dall dgX11_twice_119 0 rfl
theorem dX11_twice_1 : decode cX11_twice 1 = .ok (.iload_n 1, 1) := dall dgX11_twice_119 1 rfl
theorem dX11_twice_2 : decode cX11_twice 2 = .ok (.invokevirtual 166, 3) := dall dgX11_twice_119 2 rfl
theorem dX11_twice_5 : decode cX11_twice 5 = .ok (.ifCond .eq 12, 3) := dall dgX11_twice_119 3 rfl
theorem dX11_twice_8 : decode cX11_twice 8 = .ok (.iload_n 2, 1) := dall dgX11_twice_119 4 rfl
theorem dX11_twice_9 : decode cX11_twice 9 = .ok (.iconst 0, 1) := dall dgX11_twice_119 5 rfl
theorem dX11_twice_10 : decode cX11_twice 10 = .ok (.iconst 1, 1) := dall dgX11_twice_119 6 rfl
theorem dX11_twice_11 : decode cX11_twice 11 = .ok (.invokestatic 104, 3) := dall dgX11_twice_119 7 rfl
theorem dX11_twice_14 : decode cX11_twice 14 = .ok (.ifCond .ne 5, 3) := dall dgX11_twice_119 8 rfl
theorem dX11_twice_17 : decode cX11_twice 17 = .ok (.iconst (-1), 1) := dall dgX11_twice_119 9 rfl
theorem dX11_twice_18 : decode cX11_twice 18 = .ok (.ireturn, 1) := dall dgX11_twice_119 10 rfl
theorem dX11_twice_19 : decode cX11_twice 19 = .ok (.aload_n 0, 1) := dall dgX11_twice_119 11 rfl
theorem dX11_twice_20 : decode cX11_twice 20 = .ok (.invokevirtual 190, 3) := dall dgX11_twice_119 12 rfl
theorem dX11_twice_23 : decode cX11_twice 23 = .ok (.ifCond .ne 6, 3) := dall dgX11_twice_119 13 rfl
theorem dX11_twice_26 : decode cX11_twice 26 = .ok (.bipush (-2), 2) := dall dgX11_twice_119 14 rfl
theorem dX11_twice_28 : decode cX11_twice 28 = .ok (.ireturn, 1) := dall dgX11_twice_119 15 rfl
theorem dX11_twice_29 : decode cX11_twice 29 = .ok (.aload_n 0, 1) := dall dgX11_twice_119 16 rfl
theorem dX11_twice_30 : decode cX11_twice 30 = .ok (.getfield 47, 3) := dall dgX11_twice_119 17 rfl
theorem dX11_twice_33 : decode cX11_twice 33 = .ok (.getfield 228, 3) := dall dgX11_twice_119 18 rfl
theorem dX11_twice_36 : decode cX11_twice 36 = .ok (.aload_n 0, 1) := dall dgX11_twice_119 19 rfl
theorem dX11_twice_37 : decode cX11_twice 37 = .ok (.getfield 33, 3) := dall dgX11_twice_119 20 rfl
theorem dX11_twice_40 : decode cX11_twice 40 = .ok (.iload_n 1, 1) := dall dgX11_twice_119 21 rfl
theorem dX11_twice_41 : decode cX11_twice 41 = .ok (.aload_n 0, 1) := dall dgX11_twice_119 22 rfl
theorem dX11_twice_42 : decode cX11_twice 42 = .ok (.getfield 10, 3) := dall dgX11_twice_119 23 rfl
theorem dX11_twice_45 : decode cX11_twice 45 = .ok (.iconst 5, 1) := dall dgX11_twice_119 24 rfl
theorem dX11_twice_46 : decode cX11_twice 46 = .ok (.invokevirtual 122, 3) := dall dgX11_twice_119 25 rfl
theorem dX11_twice_49 : decode cX11_twice 49 = .ok (.invokevirtual 232, 3) := dall dgX11_twice_119 26 rfl
theorem dX11_twice_52 : decode cX11_twice 52 = .ok (.istore_n 3, 1) := dall dgX11_twice_119 27 rfl
theorem dX11_twice_53 : decode cX11_twice 53 = .ok (.iload_n 3, 1) := dall dgX11_twice_119 28 rfl
theorem dX11_twice_54 : decode cX11_twice 54 = .ok (.bipush (-9), 2) := dall dgX11_twice_119 29 rfl
theorem dX11_twice_56 : decode cX11_twice 56 = .ok (.if_icmp .ne 6, 3) := dall dgX11_twice_119 30 rfl
theorem dX11_twice_59 : decode cX11_twice 59 = .ok (.bipush (-9), 2) := dall dgX11_twice_119 31 rfl
theorem dX11_twice_61 : decode cX11_twice 61 = .ok (.ireturn, 1) := dall dgX11_twice_119 32 rfl
theorem dX11_twice_62 : decode cX11_twice 62 = .ok (.iload_n 2, 1) := dall dgX11_twice_119 33 rfl
theorem dX11_twice_63 : decode cX11_twice 63 = .ok (.ifCond .ne 10, 3) := dall dgX11_twice_119 34 rfl
theorem dX11_twice_66 : decode cX11_twice 66 = .ok (.iload_n 3, 1) := dall dgX11_twice_119 35 rfl
theorem dX11_twice_67 : decode cX11_twice 67 = .ok (.bipush 9, 2) := dall dgX11_twice_119 36 rfl
theorem dX11_twice_69 : decode cX11_twice 69 = .ok (.idiv, 1) := dall dgX11_twice_119 37 rfl
theorem dX11_twice_70 : decode cX11_twice 70 = .ok (.goto 7, 3) := dall dgX11_twice_119 38 rfl
theorem dX11_twice_73 : decode cX11_twice 73 = .ok (.iload_n 3, 1) := dall dgX11_twice_119 39 rfl
theorem dX11_twice_74 : decode cX11_twice 74 = .ok (.bipush 9, 2) := dall dgX11_twice_119 40 rfl
theorem dX11_twice_76 : decode cX11_twice 76 = .ok (.irem, 1) := dall dgX11_twice_119 41 rfl
theorem dX11_twice_77 : decode cX11_twice 77 = .ok (.ireturn, 1) := dall dgX11_twice_119 42 rfl
def lgX11_keep_120 : List (Nat × Instr × Nat) := [(0, .iload_n 1, 1), (1, .invokestatic 222, 3), (4, .ifCond .eq 13, 3), (7, .iload_n 2, 1), (8, .iconst 1, 1), (9, .bipush 99, 2), (11, .invokestatic 104, 3), (14, .ifCond .ne 5, 3), (17, .iconst (-1), 1), (18, .ireturn, 1), (19, .aload_n 0, 1), (20, .iload_n 1, 1), (21, .invokevirtual 225, 3), (24, .istore_n 3, 1), (25, .iload_n 3, 1), (26, .ifCond .ge 5, 3), (29, .iload_n 3, 1), (30, .ireturn, 1), (31, .aload_n 0, 1), (32, .getfield 61, 3), (35, .aload_n 0, 1), (36, .getfield 47, 3), (39, .getfield 228, 3), (42, .iload_n 1, 1), (43, .iload_n 2, 1), (44, .invokevirtual 236, 3), (47, .ireturn, 1)]
theorem dgX11_keep_120 : ∀ q ∈ lgX11_keep_120, decode cX11_keep q.1 = .ok (q.2.1, q.2.2) := by decide +kernel
theorem dX11_keep_0 : decode cX11_keep 0 = .ok (.iload_n 1, 1) := dall dgX11_keep_120 0 rfl
theorem dX11_keep_1 : decode cX11_keep 1 = .ok (.invokestatic 222, 3) := dall dgX11_keep_120 1 rfl
theorem dX11_keep_4 : decode cX11_keep 4 = .ok (.ifCond .eq 13, 3) := dall dgX11_keep_120 2 rfl
theorem dX11_keep_7 : decode cX11_keep 7 = .ok (.iload_n 2, 1) := dall dgX11_keep_120 3 rfl
theorem dX11_keep_8 : decode cX11_keep 8 = .ok (.iconst 1, 1) := dall dgX11_keep_120 4 rfl
theorem dX11_keep_9 : decode cX11_keep 9 = .ok (.bipush 99, 2) := dall dgX11_keep_120 5 rfl
theorem dX11_keep_11 : decode cX11_keep 11 = .ok (.invokestatic 104, 3) := dall dgX11_keep_120 6 rfl
theorem dX11_keep_14 : decode cX11_keep 14 = .ok (.ifCond .ne 5, 3) := dall dgX11_keep_120 7 rfl
theorem dX11_keep_17 : decode cX11_keep 17 = .ok (.iconst (-1), 1) := dall dgX11_keep_120 8 rfl
theorem dX11_keep_18 : decode cX11_keep 18 = .ok (.ireturn, 1) := dall dgX11_keep_120 9 rfl
theorem dX11_keep_19 : decode cX11_keep 19 = .ok (.aload_n 0, 1) := dall dgX11_keep_120 10 rfl
theorem dX11_keep_20 : decode cX11_keep 20 = .ok (.iload_n 1, 1) := dall dgX11_keep_120 11 rfl
theorem dX11_keep_21 : decode cX11_keep 21 = .ok (.invokevirtual 225, 3) := dall dgX11_keep_120 12 rfl
theorem dX11_keep_24 : decode cX11_keep 24 = .ok (.istore_n 3, 1) := dall dgX11_keep_120 13 rfl
theorem dX11_keep_25 : decode cX11_keep 25 = .ok (.iload_n 3, 1) := dall dgX11_keep_120 14 rfl
theorem dX11_keep_26 : decode cX11_keep 26 = .ok (.ifCond .ge 5, 3) := dall dgX11_keep_120 15 rfl
theorem dX11_keep_29 : decode cX11_keep 29 = .ok (.iload_n 3, 1) := dall dgX11_keep_120 16 rfl
theorem dX11_keep_30 : decode cX11_keep 30 = .ok (.ireturn, 1) := dall dgX11_keep_120 17 rfl
theorem dX11_keep_31 : decode cX11_keep 31 = .ok (.aload_n 0, 1) := dall dgX11_keep_120 18 rfl
theorem dX11_keep_32 : decode cX11_keep 32 = .ok (.getfield 61, 3) := dall dgX11_keep_120 19 rfl
theorem dX11_keep_35 : decode cX11_keep 35 = .ok (.aload_n 0, 1) := dall dgX11_keep_120 20 rfl
theorem dX11_keep_36 : decode cX11_keep 36 = .ok (.getfield 47, 3) := dall dgX11_keep_120 21 rfl
theorem dX11_keep_39 : decode cX11_keep 39 = .ok (.getfield 228, 3) := dall dgX11_keep_120 22 rfl
theorem dX11_keep_42 : decode cX11_keep 42 = .ok (.iload_n 1, 1) := dall dgX11_keep_120 23 rfl
theorem dX11_keep_43 : decode cX11_keep 43 = .ok (.iload_n 2, 1) := dall dgX11_keep_120 24 rfl
theorem dX11_keep_44 : decode cX11_keep 44 = .ok (.invokevirtual 236, 3) := dall dgX11_keep_120 25 rfl
theorem dX11_keep_47 : decode cX11_keep 47 = .ok (.ireturn, 1) := dall dgX11_keep_120 26 rfl
def lgX11_forget_121 : List (Nat × Instr × Nat) := [(0, .aload_n 0, 1), (1, .getfield 61, 3), (4, .iload_n 1, 1), (5, .invokevirtual 240, 3), (8, .ifCond .eq 14, 3), (11, .aload_n 0, 1), (12, .getfield 61, 3), (15, .iload_n 1, 1), (16, .invokevirtual 243, 3), (19, .goto 4, 3), (22, .iconst (-1), 1), (23, .ireturn, 1)]
theorem dgX11_forget_121 : ∀ q ∈ lgX11_forget_121, decode cX11_forget q.1 = .ok (q.2.1, q.2.2) := by decide +kernel
theorem dX11_forget_0 : decode cX11_forget 0 = .ok (.aload_n 0, 1) := dall dgX11_forget_121 0 rfl
theorem dX11_forget_1 : decode cX11_forget 1 = .ok (.getfield 61, 3) := dall dgX11_forget_121 1 rfl
theorem dX11_forget_4 : decode cX11_forget 4 = .ok (.iload_n 1, 1) := dall dgX11_forget_121 2 rfl
theorem dX11_forget_5 : decode cX11_forget 5 = .ok (.invokevirtual 240, 3) := dall dgX11_forget_121 3 rfl
theorem dX11_forget_8 : decode cX11_forget 8 = .ok (.ifCond .eq 14, 3) := dall dgX11_forget_121 4 rfl
theorem dX11_forget_11 : decode cX11_forget 11 = .ok (.aload_n 0, 1) := dall dgX11_forget_121 5 rfl
theorem dX11_forget_12 : decode cX11_forget 12 = .ok (.getfield 61, 3) := dall dgX11_forget_121 6 rfl
theorem dX11_forget_15 : decode cX11_forget 15 = .ok (.iload_n 1, 1) := dall dgX11_forget_121 7 rfl
theorem dX11_forget_16 : decode cX11_forget 16 = .ok (.invokevirtual 243, 3) := dall dgX11_forget_121 8 rfl
theorem dX11_forget_19 : decode cX11_forget 19 = .ok (.goto 4, 3) := dall dgX11_forget_121 9 rfl
theorem dX11_forget_22 : decode cX11_forget 22 = .ok (.iconst (-1), 1) := dall dgX11_forget_121 10 rfl
theorem dX11_forget_23 : decode cX11_forget 23 = .ok (.ireturn, 1) := dall dgX11_forget_121 11 rfl
def lgX11_back_122 : List (Nat × Instr × Nat) := [(0, .iload_n 1, 1), (1, .invokestatic 222, 3), (4, .ifCond .eq 12, 3), (7, .iload_n 2, 1), (8, .iconst 0, 1), (9, .iconst 1, 1), (10, .invokestatic 104, 3), (13, .ifCond .ne 5, 3), (16, .iconst (-1), 1), (17, .ireturn, 1), (18, .aload_n 0, 1), (19, .iload_n 1, 1), (20, .invokevirtual 225, 3), (23, .istore_n 3, 1), (24, .iload_n 3, 1), (25, .ifCond .ge 5, 3), (28, .iload_n 3, 1), (29, .ireturn, 1), (30, .aload_n 0, 1), (31, .getfield 61, 3), (34, .aload_n 0, 1), (35, .getfield 47, 3), (38, .getfield 228, 3), (41, .iload_n 1, 1), (42, .aload_n 0, 1), (43, .getfield 10, 3), (46, .iconst 2, 1), (47, .invokevirtual 122, 3), (50, .invokevirtual 246, 3), (53, .istore 4, 2), (55, .iload 4, 2), (57, .bipush (-9), 2), (59, .if_icmp .eq 8, 3), (62, .iload_n 2, 1), (63, .iconst 1, 1), (64, .if_icmp .ne 6, 3), (67, .iload 4, 2), (69, .ireturn, 1), (70, .aload_n 0, 1), (71, .getfield 61, 3), (74, .getfield 249, 3), (77, .iload 4, 2), (79, .iaload, 1), (80, .ireturn, 1)]
theorem dgX11_back_122 : ∀ q ∈ lgX11_back_122, decode cX11_back q.1 = .ok (q.2.1, q.2.2) := by decide +kernel
theorem dX11_back_0 : decode cX11_back 0 = .ok (.iload_n 1, 1) := dall dgX11_back_122 0 rfl
theorem dX11_back_1 : decode cX11_back 1 = .ok (.invokestatic 222, 3) := dall dgX11_back_122 1 rfl
theorem dX11_back_4 : decode cX11_back 4 = .ok (.ifCond .eq 12, 3) := dall dgX11_back_122 2 rfl
theorem dX11_back_7 : decode cX11_back 7 = .ok (.iload_n 2, 1) := dall dgX11_back_122 3 rfl
theorem dX11_back_8 : decode cX11_back 8 = .ok (.iconst 0, 1) := dall dgX11_back_122 4 rfl
theorem dX11_back_9 : decode cX11_back 9 = .ok (.iconst 1, 1) := dall dgX11_back_122 5 rfl
theorem dX11_back_10 : decode cX11_back 10 = .ok (.invokestatic 104, 3) := dall dgX11_back_122 6 rfl
theorem dX11_back_13 : decode cX11_back 13 = .ok (.ifCond .ne 5, 3) := dall dgX11_back_122 7 rfl
theorem dX11_back_16 : decode cX11_back 16 = .ok (.iconst (-1), 1) := dall dgX11_back_122 8 rfl
theorem dX11_back_17 : decode cX11_back 17 = .ok (.ireturn, 1) := dall dgX11_back_122 9 rfl
theorem dX11_back_18 : decode cX11_back 18 = .ok (.aload_n 0, 1) := dall dgX11_back_122 10 rfl
theorem dX11_back_19 : decode cX11_back 19 = .ok (.iload_n 1, 1) := dall dgX11_back_122 11 rfl
theorem dX11_back_20 : decode cX11_back 20 = .ok (.invokevirtual 225, 3) := dall dgX11_back_122 12 rfl
theorem dX11_back_23 : decode cX11_back 23 = .ok (.istore_n 3, 1) := dall dgX11_back_122 13 rfl
theorem dX11_back_24 : decode cX11_back 24 = .ok (.iload_n 3, 1) := dall dgX11_back_122 14 rfl
theorem dX11_back_25 : decode cX11_back 25 = .ok (.ifCond .ge 5, 3) := dall dgX11_back_122 15 rfl
theorem dX11_back_28 : decode cX11_back 28 = .ok (.iload_n 3, 1) := dall dgX11_back_122 16 rfl
theorem dX11_back_29 : decode cX11_back 29 = .ok (.ireturn, 1) := dall dgX11_back_122 17 rfl
theorem dX11_back_30 : decode cX11_back 30 = .ok (.aload_n 0, 1) := dall dgX11_back_122 18 rfl
theorem dX11_back_31 : decode cX11_back 31 = .ok (.getfield 61, 3) := dall dgX11_back_122 19 rfl
theorem dX11_back_34 : decode cX11_back 34 = .ok (.aload_n 0, 1) := dall dgX11_back_122 20 rfl
theorem dX11_back_35 : decode cX11_back 35 = .ok (.getfield 47, 3) := dall dgX11_back_122 21 rfl
theorem dX11_back_38 : decode cX11_back 38 = .ok (.getfield 228, 3) := dall dgX11_back_122 22 rfl
theorem dX11_back_41 : decode cX11_back 41 = .ok (.iload_n 1, 1) := dall dgX11_back_122 23 rfl
theorem dX11_back_42 : decode cX11_back 42 = .ok (.aload_n 0, 1) := dall dgX11_back_122 24 rfl
theorem dX11_back_43 : decode cX11_back 43 = .ok (.getfield 10, 3) := dall dgX11_back_122 25 rfl
theorem dX11_back_46 : decode cX11_back 46 = .ok (.iconst 2, 1) := dall dgX11_back_122 26 rfl
theorem dX11_back_47 : decode cX11_back 47 = .ok (.invokevirtual 122, 3) := dall dgX11_back_122 27 rfl
theorem dX11_back_50 : decode cX11_back 50 = .ok (.invokevirtual 246, 3) := dall dgX11_back_122 28 rfl
theorem dX11_back_53 : decode cX11_back 53 = .ok (.istore 4, 2) := dall dgX11_back_122 29 rfl
theorem dX11_back_55 : decode cX11_back 55 = .ok (.iload 4, 2) := dall dgX11_back_122 30 rfl
theorem dX11_back_57 : decode cX11_back 57 = .ok (.bipush (-9), 2) := dall dgX11_back_122 31 rfl
theorem dX11_back_59 : decode cX11_back 59 = .ok (.if_icmp .eq 8, 3) := dall dgX11_back_122 32 rfl
theorem dX11_back_62 : decode cX11_back 62 = .ok (.iload_n 2, 1) := dall dgX11_back_122 33 rfl
theorem dX11_back_63 : decode cX11_back 63 = .ok (.iconst 1, 1) := dall dgX11_back_122 34 rfl
theorem dX11_back_64 : decode cX11_back 64 = .ok (.if_icmp .ne 6, 3) := dall dgX11_back_122 35 rfl
theorem dX11_back_67 : decode cX11_back 67 = .ok (.iload 4, 2) := dall dgX11_back_122 36 rfl
theorem dX11_back_69 : decode cX11_back 69 = .ok (.ireturn, 1) := dall dgX11_back_122 37 rfl
theorem dX11_back_70 : decode cX11_back 70 = .ok (.aload_n 0, 1) := dall dgX11_back_122 38 rfl
theorem dX11_back_71 : decode cX11_back 71 = .ok (.getfield 61, 3) := dall dgX11_back_122 39 rfl
theorem dX11_back_74 : decode cX11_back 74 = .ok (.getfield 249, 3) := dall dgX11_back_122 40 rfl
theorem dX11_back_77 : decode cX11_back 77 = .ok (.iload 4, 2) := dall dgX11_back_122 41 rfl
theorem dX11_back_79 : decode cX11_back 79 = .ok (.iaload, 1) := dall dgX11_back_122 42 rfl
theorem dX11_back_80 : decode cX11_back 80 = .ok (.ireturn, 1) := dall dgX11_back_122 43 rfl
def lgX11_odds_123 : List (Nat × Instr × Nat) := [(0, .iload_n 1, 1), (1, .invokestatic 222, 3), (4, .ifCond .eq 23, 3), (7, .aload_n 0, 1), (8, .getfield 61, 3), (11, .iload_n 2, 1), (12, .invokevirtual 240, 3), (15, .ifCond .eq 12, 3), (18, .iload_n 3, 1), (19, .iconst 0, 1), (20, .iconst 1, 1), (21, .invokestatic 104, 3), (24, .ifCond .ne 5, 3), (27, .iconst (-1), 1), (28, .ireturn, 1), (29, .aload_n 0, 1), (30, .iload_n 1, 1), (31, .invokevirtual 225, 3), (34, .istore 4, 2), (36, .iload 4, 2), (38, .ifCond .ge 6, 3), (41, .iload 4, 2), (43, .ireturn, 1), (44, .aload_n 0, 1), (45, .getfield 61, 3), (48, .aload_n 0, 1), (49, .getfield 33, 3), (52, .aload_n 0, 1), (53, .getfield 47, 3), (56, .getfield 228, 3), (59, .iload_n 1, 1), (60, .aload_n 0, 1), (61, .getfield 33, 3), (64, .getfield 154, 3), (67, .invokevirtual 252, 3), (70, .iload_n 2, 1), (71, .iload_n 3, 1), (72, .iconst 1, 1), (73, .if_icmp .ne 7, 3), (76, .iconst 1, 1), (77, .goto 4, 3), (80, .iconst 0, 1), (81, .invokevirtual 255, 3), (84, .ireturn, 1)]
theorem dgX11_odds_123 : ∀ q ∈ lgX11_odds_123, decode cX11_odds q.1 = .ok (q.2.1, q.2.2) := by decide +kernel
theorem dX11_odds_0 : decode cX11_odds 0 = .ok (.iload_n 1, 1) := dall dgX11_odds_123 0 rfl
theorem dX11_odds_1 : decode cX11_odds 1 = .ok (.invokestatic 222, 3) := dall dgX11_odds_123 1 rfl
theorem dX11_odds_4 : decode cX11_odds 4 = .ok (.ifCond .eq 23, 3) := dall dgX11_odds_123 2 rfl
theorem dX11_odds_7 : decode cX11_odds 7 = .ok (.aload_n 0, 1) := dall dgX11_odds_123 3 rfl
theorem dX11_odds_8 : decode cX11_odds 8 = .ok (.getfield 61, 3) := dall dgX11_odds_123 4 rfl
theorem dX11_odds_11 : decode cX11_odds 11 = .ok (.iload_n 2, 1) := dall dgX11_odds_123 5 rfl
theorem dX11_odds_12 : decode cX11_odds 12 = .ok (.invokevirtual 240, 3) := dall dgX11_odds_123 6 rfl
theorem dX11_odds_15 : decode cX11_odds 15 = .ok (.ifCond .eq 12, 3) := dall dgX11_odds_123 7 rfl
theorem dX11_odds_18 : decode cX11_odds 18 = .ok (.iload_n 3, 1) := dall dgX11_odds_123 8 rfl
theorem dX11_odds_19 : decode cX11_odds 19 = .ok (.iconst 0, 1) := dall dgX11_odds_123 9 rfl
theorem dX11_odds_20 : decode cX11_odds 20 = .ok (.iconst 1, 1) := dall dgX11_odds_123 10 rfl
theorem dX11_odds_21 : decode cX11_odds 21 = .ok (.invokestatic 104, 3) := dall dgX11_odds_123 11 rfl
theorem dX11_odds_24 : decode cX11_odds 24 = .ok (.ifCond .ne 5, 3) := dall dgX11_odds_123 12 rfl
theorem dX11_odds_27 : decode cX11_odds 27 = .ok (.iconst (-1), 1) := dall dgX11_odds_123 13 rfl
theorem dX11_odds_28 : decode cX11_odds 28 = .ok (.ireturn, 1) := dall dgX11_odds_123 14 rfl
theorem dX11_odds_29 : decode cX11_odds 29 = .ok (.aload_n 0, 1) := dall dgX11_odds_123 15 rfl
theorem dX11_odds_30 : decode cX11_odds 30 = .ok (.iload_n 1, 1) := dall dgX11_odds_123 16 rfl
theorem dX11_odds_31 : decode cX11_odds 31 = .ok (.invokevirtual 225, 3) := dall dgX11_odds_123 17 rfl
theorem dX11_odds_34 : decode cX11_odds 34 = .ok (.istore 4, 2) := dall dgX11_odds_123 18 rfl
theorem dX11_odds_36 : decode cX11_odds 36 = .ok (.iload 4, 2) := dall dgX11_odds_123 19 rfl
theorem dX11_odds_38 : decode cX11_odds 38 = .ok (.ifCond .ge 6, 3) := dall dgX11_odds_123 20 rfl
theorem dX11_odds_41 : decode cX11_odds 41 = .ok (.iload 4, 2) := dall dgX11_odds_123 21 rfl
theorem dX11_odds_43 : decode cX11_odds 43 = .ok (.ireturn, 1) := dall dgX11_odds_123 22 rfl
theorem dX11_odds_44 : decode cX11_odds 44 = .ok (.aload_n 0, 1) := dall dgX11_odds_123 23 rfl
theorem dX11_odds_45 : decode cX11_odds 45 = .ok (.getfield 61, 3) := dall dgX11_odds_123 24 rfl
theorem dX11_odds_48 : decode cX11_odds 48 = .ok (.aload_n 0, 1) := dall dgX11_odds_123 25 rfl
theorem dX11_odds_49 : decode cX11_odds 49 = .ok (.getfield 33, 3) := dall dgX11_odds_123 26 rfl
theorem dX11_odds_52 : decode cX11_odds 52 = .ok (.aload_n 0, 1) := dall dgX11_odds_123 27 rfl
theorem dX11_odds_53 : decode cX11_odds 53 = .ok (.getfield 47, 3) := dall dgX11_odds_123 28 rfl
theorem dX11_odds_56 : decode cX11_odds 56 = .ok (.getfield 228, 3) := dall dgX11_odds_123 29 rfl
theorem dX11_odds_59 : decode cX11_odds 59 = .ok (.iload_n 1, 1) := dall dgX11_odds_123 30 rfl
theorem dX11_odds_60 : decode cX11_odds 60 = .ok (.aload_n 0, 1) := dall dgX11_odds_123 31 rfl
theorem dX11_odds_61 : decode cX11_odds 61 = .ok (.getfield 33, 3) := dall dgX11_odds_123 32 rfl
theorem dX11_odds_64 : decode cX11_odds 64 = .ok (.getfield 154, 3) := dall dgX11_odds_123 33 rfl
theorem dX11_odds_67 : decode cX11_odds 67 = .ok (.invokevirtual 252, 3) := dall dgX11_odds_123 34 rfl
theorem dX11_odds_70 : decode cX11_odds 70 = .ok (.iload_n 2, 1) := dall dgX11_odds_123 35 rfl
theorem dX11_odds_71 : decode cX11_odds 71 = .ok (.iload_n 3, 1) := dall dgX11_odds_123 36 rfl
theorem dX11_odds_72 : decode cX11_odds 72 = .ok (.iconst 1, 1) := dall dgX11_odds_123 37 rfl
theorem dX11_odds_73 : decode cX11_odds 73 = .ok (.if_icmp .ne 7, 3) := dall dgX11_odds_123 38 rfl
theorem dX11_odds_76 : decode cX11_odds 76 = .ok (.iconst 1, 1) := dall dgX11_odds_123 39 rfl
theorem dX11_odds_77 : decode cX11_odds 77 = .ok (.goto 4, 3) := dall dgX11_odds_123 40 rfl
theorem dX11_odds_80 : decode cX11_odds 80 = .ok (.iconst 0, 1) := dall dgX11_odds_123 41 rfl
theorem dX11_odds_81 : decode cX11_odds 81 = .ok (.invokevirtual 255, 3) := dall dgX11_odds_123 42 rfl
theorem dX11_odds_84 : decode cX11_odds 84 = .ok (.ireturn, 1) := dall dgX11_odds_123 43 rfl
def lgX11_show_124 : List (Nat × Instr × Nat) := [(0, .aload_n 0, 1), (1, .invokevirtual 190, 3), (4, .ifCond .ne 6, 3), (7, .bipush (-2), 2), (9, .ireturn, 1), (10, .iconst 0, 1), (11, .istore_n 1, 1), (12, .iload_n 1, 1), (13, .aload_n 0, 1), (14, .getfield 19, 3), (17, .getfield 130, 3), (20, .if_icmp .ge 20, 3), (23, .aload_n 0, 1), (24, .getfield 86, 3), (27, .iload_n 1, 1), (28, .aload_n 0, 1), (29, .iload_n 1, 1), (30, .invokevirtual 259, 3), (33, .iastore, 1), (34, .iinc 1 1, 3), (37, .goto (-25), 3), (40, .aload_n 0, 1), (41, .aload_n 0, 1), (42, .getfield 19, 3), (45, .getfield 130, 3), (48, .putfield 90, 3), (51, .aload_n 0, 1), (52, .getfield 90, 3), (55, .ireturn, 1)]
theorem dgX11_show_124 : ∀ q ∈ lgX11_show_124, decode cX11_show q.1 = .ok (q.2.1, q.2.2) := by decide +kernel
theorem dX11_show_0 : decode cX11_show 0 = .ok (.aload_n 0, 1) := dall dgX11_show_124 0 rfl
theorem dX11_show_1 : decode cX11_show 1 = .ok (.invokevirtual 190, 3) := dall dgX11_show_124 1 rfl
theorem dX11_show_4 : decode cX11_show 4 = .ok (.ifCond .ne 6, 3) := dall dgX11_show_124 2 rfl
theorem dX11_show_7 : decode cX11_show 7 = .ok (.bipush (-2), 2) := dall dgX11_show_124 3 rfl
theorem dX11_show_9 : decode cX11_show 9 = .ok (.ireturn, 1) := dall dgX11_show_124 4 rfl
theorem dX11_show_10 : decode cX11_show 10 = .ok (.iconst 0, 1) := dall dgX11_show_124 5 rfl
theorem dX11_show_11 : decode cX11_show 11 = .ok (.istore_n 1, 1) := dall dgX11_show_124 6 rfl
theorem dX11_show_12 : decode cX11_show 12 = .ok (.iload_n 1, 1) := dall dgX11_show_124 7 rfl
theorem dX11_show_13 : decode cX11_show 13 = .ok (.aload_n 0, 1) := dall dgX11_show_124 8 rfl
theorem dX11_show_14 : decode cX11_show 14 = .ok (.getfield 19, 3) := dall dgX11_show_124 9 rfl
theorem dX11_show_17 : decode cX11_show 17 = .ok (.getfield 130, 3) := dall dgX11_show_124 10 rfl
theorem dX11_show_20 : decode cX11_show 20 = .ok (.if_icmp .ge 20, 3) := dall dgX11_show_124 11 rfl
theorem dX11_show_23 : decode cX11_show 23 = .ok (.aload_n 0, 1) := dall dgX11_show_124 12 rfl
theorem dX11_show_24 : decode cX11_show 24 = .ok (.getfield 86, 3) := dall dgX11_show_124 13 rfl
theorem dX11_show_27 : decode cX11_show 27 = .ok (.iload_n 1, 1) := dall dgX11_show_124 14 rfl
theorem dX11_show_28 : decode cX11_show 28 = .ok (.aload_n 0, 1) := dall dgX11_show_124 15 rfl
theorem dX11_show_29 : decode cX11_show 29 = .ok (.iload_n 1, 1) := dall dgX11_show_124 16 rfl
theorem dX11_show_30 : decode cX11_show 30 = .ok (.invokevirtual 259, 3) := dall dgX11_show_124 17 rfl
theorem dX11_show_33 : decode cX11_show 33 = .ok (.iastore, 1) := dall dgX11_show_124 18 rfl
theorem dX11_show_34 : decode cX11_show 34 = .ok (.iinc 1 1, 3) := dall dgX11_show_124 19 rfl
theorem dX11_show_37 : decode cX11_show 37 = .ok (.goto (-25), 3) := dall dgX11_show_124 20 rfl
theorem dX11_show_40 : decode cX11_show 40 = .ok (.aload_n 0, 1) := dall dgX11_show_124 21 rfl
theorem dX11_show_41 : decode cX11_show 41 = .ok (.aload_n 0, 1) := dall dgX11_show_124 22 rfl
theorem dX11_show_42 : decode cX11_show 42 = .ok (.getfield 19, 3) := dall dgX11_show_124 23 rfl
theorem dX11_show_45 : decode cX11_show 45 = .ok (.getfield 130, 3) := dall dgX11_show_124 24 rfl
theorem dX11_show_48 : decode cX11_show 48 = .ok (.putfield 90, 3) := dall dgX11_show_124 25 rfl
theorem dX11_show_51 : decode cX11_show 51 = .ok (.aload_n 0, 1) := dall dgX11_show_124 26 rfl
theorem dX11_show_52 : decode cX11_show 52 = .ok (.getfield 90, 3) := dall dgX11_show_124 27 rfl
theorem dX11_show_55 : decode cX11_show 55 = .ok (.ireturn, 1) := dall dgX11_show_124 28 rfl
def lgX11_otherwise_125 : List (Nat × Instr × Nat) := [(0, .aload_n 0, 1), (1, .getfield 90, 3), (4, .iconst (-1), 1), (5, .if_icmp .eq 10, 3), (8, .aload_n 0, 1), (9, .invokevirtual 190, 3), (12, .ifCond .ne 6, 3), (15, .bipush (-2), 2), (17, .ireturn, 1), (18, .iconst 0, 1), (19, .istore_n 1, 1), (20, .iconst 0, 1), (21, .istore_n 2, 1), (22, .iload_n 2, 1), (23, .aload_n 0, 1), (24, .getfield 90, 3), (27, .if_icmp .ge 37, 3), (30, .iload_n 2, 1), (31, .aload_n 0, 1), (32, .getfield 19, 3), (35, .getfield 130, 3), (38, .if_icmp .ge 26, 3), (41, .aload_n 0, 1), (42, .iload_n 2, 1), (43, .invokevirtual 259, 3), (46, .aload_n 0, 1), (47, .getfield 86, 3), (50, .iload_n 2, 1), (51, .iaload, 1), (52, .if_icmp .eq 6, 3), (55, .iinc 1 1, 3), (58, .iinc 2 1, 3), (61, .goto (-39), 3), (64, .iload_n 1, 1), (65, .ireturn, 1)]
theorem dgX11_otherwise_125 : ∀ q ∈ lgX11_otherwise_125, decode cX11_otherwise q.1 = .ok (q.2.1, q.2.2) := by decide +kernel
theorem dX11_otherwise_0 : decode cX11_otherwise 0 = .ok (.aload_n 0, 1) := dall dgX11_otherwise_125 0 rfl
theorem dX11_otherwise_1 : decode cX11_otherwise 1 = .ok (.getfield 90, 3) := dall dgX11_otherwise_125 1 rfl
theorem dX11_otherwise_4 : decode cX11_otherwise 4 = .ok (.iconst (-1), 1) := dall dgX11_otherwise_125 2 rfl
theorem dX11_otherwise_5 : decode cX11_otherwise 5 = .ok (.if_icmp .eq 10, 3) := dall dgX11_otherwise_125 3 rfl
theorem dX11_otherwise_8 : decode cX11_otherwise 8 = .ok (.aload_n 0, 1) := dall dgX11_otherwise_125 4 rfl
theorem dX11_otherwise_9 : decode cX11_otherwise 9 = .ok (.invokevirtual 190, 3) := dall dgX11_otherwise_125 5 rfl
theorem dX11_otherwise_12 : decode cX11_otherwise 12 = .ok (.ifCond .ne 6, 3) := dall dgX11_otherwise_125 6 rfl
theorem dX11_otherwise_15 : decode cX11_otherwise 15 = .ok (.bipush (-2), 2) := dall dgX11_otherwise_125 7 rfl
theorem dX11_otherwise_17 : decode cX11_otherwise 17 = .ok (.ireturn, 1) := dall dgX11_otherwise_125 8 rfl
theorem dX11_otherwise_18 : decode cX11_otherwise 18 = .ok (.iconst 0, 1) := dall dgX11_otherwise_125 9 rfl
theorem dX11_otherwise_19 : decode cX11_otherwise 19 = .ok (.istore_n 1, 1) := dall dgX11_otherwise_125 10 rfl
theorem dX11_otherwise_20 : decode cX11_otherwise 20 = .ok (.iconst 0, 1) := dall dgX11_otherwise_125 11 rfl
theorem dX11_otherwise_21 : decode cX11_otherwise 21 = .ok (.istore_n 2, 1) := dall dgX11_otherwise_125 12 rfl
theorem dX11_otherwise_22 : decode cX11_otherwise 22 = .ok (.iload_n 2, 1) := dall dgX11_otherwise_125 13 rfl
theorem dX11_otherwise_23 : decode cX11_otherwise 23 = .ok (.aload_n 0, 1) := dall dgX11_otherwise_125 14 rfl
theorem dX11_otherwise_24 : decode cX11_otherwise 24 = .ok (.getfield 90, 3) := dall dgX11_otherwise_125 15 rfl
theorem dX11_otherwise_27 : decode cX11_otherwise 27 = .ok (.if_icmp .ge 37, 3) := dall dgX11_otherwise_125 16 rfl
theorem dX11_otherwise_30 : decode cX11_otherwise 30 = .ok (.iload_n 2, 1) := dall dgX11_otherwise_125 17 rfl
theorem dX11_otherwise_31 : decode cX11_otherwise 31 = .ok (.aload_n 0, 1) := dall dgX11_otherwise_125 18 rfl
theorem dX11_otherwise_32 : decode cX11_otherwise 32 = .ok (.getfield 19, 3) := dall dgX11_otherwise_125 19 rfl
theorem dX11_otherwise_35 : decode cX11_otherwise 35 = .ok (.getfield 130, 3) := dall dgX11_otherwise_125 20 rfl
theorem dX11_otherwise_38 : decode cX11_otherwise 38 = .ok (.if_icmp .ge 26, 3) := dall dgX11_otherwise_125 21 rfl
theorem dX11_otherwise_41 : decode cX11_otherwise 41 = .ok (.aload_n 0, 1) := dall dgX11_otherwise_125 22 rfl
theorem dX11_otherwise_42 : decode cX11_otherwise 42 = .ok (.iload_n 2, 1) := dall dgX11_otherwise_125 23 rfl
theorem dX11_otherwise_43 : decode cX11_otherwise 43 = .ok (.invokevirtual 259, 3) := dall dgX11_otherwise_125 24 rfl
theorem dX11_otherwise_46 : decode cX11_otherwise 46 = .ok (.aload_n 0, 1) := dall dgX11_otherwise_125 25 rfl
theorem dX11_otherwise_47 : decode cX11_otherwise 47 = .ok (.getfield 86, 3) := dall dgX11_otherwise_125 26 rfl
theorem dX11_otherwise_50 : decode cX11_otherwise 50 = .ok (.iload_n 2, 1) := dall dgX11_otherwise_125 27 rfl
theorem dX11_otherwise_51 : decode cX11_otherwise 51 = .ok (.iaload, 1) := dall dgX11_otherwise_125 28 rfl
theorem dX11_otherwise_52 : decode cX11_otherwise 52 = .ok (.if_icmp .eq 6, 3) := dall dgX11_otherwise_125 29 rfl
theorem dX11_otherwise_55 : decode cX11_otherwise 55 = .ok (.iinc 1 1, 3) := dall dgX11_otherwise_125 30 rfl
theorem dX11_otherwise_58 : decode cX11_otherwise 58 = .ok (.iinc 2 1, 3) := dall dgX11_otherwise_125 31 rfl
theorem dX11_otherwise_61 : decode cX11_otherwise 61 = .ok (.goto (-39), 3) := dall dgX11_otherwise_125 32 rfl
theorem dX11_otherwise_64 : decode cX11_otherwise 64 = .ok (.iload_n 1, 1) := dall dgX11_otherwise_125 33 rfl
theorem dX11_otherwise_65 : decode cX11_otherwise 65 = .ok (.ireturn, 1) := dall dgX11_otherwise_125 34 rfl
def lgX11_word_126 : List (Nat × Instr × Nat) := [(0, .aload_n 0, 1), (1, .iload_n 1, 1), (2, .iload_n 2, 1), (3, .invokevirtual 140, 3), (6, .ifCond .eq 15, 3), (9, .aload_n 0, 1), (10, .getfield 68, 3), (13, .iload_n 1, 1), (14, .iload_n 2, 1), (15, .invokevirtual 262, 3), (18, .goto 4, 3), (21, .iconst (-1), 1), (22, .ireturn, 1)]
theorem dgX11_word_126 : ∀ q ∈ lgX11_word_126, decode cX11_word q.1 = .ok (q.2.1, q.2.2) := by decide +kernel
theorem dX11_word_0 : decode cX11_word 0 = .ok (.aload_n 0, 1) := dall dgX11_word_126 0 rfl
theorem dX11_word_1 : decode cX11_word 1 = .ok (.iload_n 1, 1) := dall dgX11_word_126 1 rfl
theorem dX11_word_2 : decode cX11_word 2 = .ok (.iload_n 2, 1) := dall dgX11_word_126 2 rfl
theorem dX11_word_3 : decode cX11_word 3 = .ok (.invokevirtual 140, 3) := dall dgX11_word_126 3 rfl
theorem dX11_word_6 : decode cX11_word 6 = .ok (.ifCond .eq 15, 3) := dall dgX11_word_126 4 rfl
theorem dX11_word_9 : decode cX11_word 9 = .ok (.aload_n 0, 1) := dall dgX11_word_126 5 rfl
theorem dX11_word_10 : decode cX11_word 10 = .ok (.getfield 68, 3) := dall dgX11_word_126 6 rfl
theorem dX11_word_13 : decode cX11_word 13 = .ok (.iload_n 1, 1) := dall dgX11_word_126 7 rfl
theorem dX11_word_14 : decode cX11_word 14 = .ok (.iload_n 2, 1) := dall dgX11_word_126 8 rfl
theorem dX11_word_15 : decode cX11_word 15 = .ok (.invokevirtual 262, 3) := dall dgX11_word_126 9 rfl
theorem dX11_word_18 : decode cX11_word 18 = .ok (.goto 4, 3) := dall dgX11_word_126 10 rfl
theorem dX11_word_21 : decode cX11_word 21 = .ok (.iconst (-1), 1) := dall dgX11_word_126 11 rfl
theorem dX11_word_22 : decode cX11_word 22 = .ok (.ireturn, 1) := dall dgX11_word_126 12 rfl
def lgX11_hung_127 : List (Nat × Instr × Nat) := [(0, .iload_n 1, 1), (1, .iconst 0, 1), (2, .aload_n 0, 1), (3, .getfield 68, 3), (6, .getfield 148, 3), (9, .iconst 1, 1), (10, .isub, 1), (11, .invokestatic 104, 3), (14, .ifCond .eq 12, 3), (17, .iload_n 2, 1), (18, .iconst 0, 1), (19, .iconst 1, 1), (20, .invokestatic 104, 3), (23, .ifCond .ne 5, 3), (26, .iconst (-1), 1), (27, .ireturn, 1), (28, .aload_n 0, 1), (29, .invokevirtual 151, 3), (32, .iload_n 2, 1), (33, .ifCond .ne 18, 3), (36, .aload_n 0, 1), (37, .getfield 68, 3), (40, .aload_n 0, 1), (41, .getfield 33, 3), (44, .iload_n 1, 1), (45, .invokevirtual 264, 3), (48, .goto 15, 3), (51, .aload_n 0, 1), (52, .getfield 68, 3), (55, .aload_n 0, 1), (56, .getfield 33, 3), (59, .iload_n 1, 1), (60, .invokevirtual 268, 3), (63, .ireturn, 1)]
theorem dgX11_hung_127 : ∀ q ∈ lgX11_hung_127, decode cX11_hung q.1 = .ok (q.2.1, q.2.2) := by decide +kernel
theorem dX11_hung_0 : decode cX11_hung 0 = .ok (.iload_n 1, 1) := dall dgX11_hung_127 0 rfl
theorem dX11_hung_1 : decode cX11_hung 1 = .ok (.iconst 0, 1) := dall dgX11_hung_127 1 rfl
theorem dX11_hung_2 : decode cX11_hung 2 = .ok (.aload_n 0, 1) := dall dgX11_hung_127 2 rfl
theorem dX11_hung_3 : decode cX11_hung 3 = .ok (.getfield 68, 3) := dall dgX11_hung_127 3 rfl
theorem dX11_hung_6 : decode cX11_hung 6 = .ok (.getfield 148, 3) := dall dgX11_hung_127 4 rfl
theorem dX11_hung_9 : decode cX11_hung 9 = .ok (.iconst 1, 1) := dall dgX11_hung_127 5 rfl
theorem dX11_hung_10 : decode cX11_hung 10 = .ok (.isub, 1) := dall dgX11_hung_127 6 rfl
theorem dX11_hung_11 : decode cX11_hung 11 = .ok (.invokestatic 104, 3) := dall dgX11_hung_127 7 rfl
theorem dX11_hung_14 : decode cX11_hung 14 = .ok (.ifCond .eq 12, 3) := dall dgX11_hung_127 8 rfl
theorem dX11_hung_17 : decode cX11_hung 17 = .ok (.iload_n 2, 1) := dall dgX11_hung_127 9 rfl
theorem dX11_hung_18 : decode cX11_hung 18 = .ok (.iconst 0, 1) := dall dgX11_hung_127 10 rfl
theorem dX11_hung_19 : decode cX11_hung 19 = .ok (.iconst 1, 1) := dall dgX11_hung_127 11 rfl
theorem dX11_hung_20 : decode cX11_hung 20 = .ok (.invokestatic 104, 3) := dall dgX11_hung_127 12 rfl
theorem dX11_hung_23 : decode cX11_hung 23 = .ok (.ifCond .ne 5, 3) := dall dgX11_hung_127 13 rfl
theorem dX11_hung_26 : decode cX11_hung 26 = .ok (.iconst (-1), 1) := dall dgX11_hung_127 14 rfl
theorem dX11_hung_27 : decode cX11_hung 27 = .ok (.ireturn, 1) := dall dgX11_hung_127 15 rfl
theorem dX11_hung_28 : decode cX11_hung 28 = .ok (.aload_n 0, 1) := dall dgX11_hung_127 16 rfl
theorem dX11_hung_29 : decode cX11_hung 29 = .ok (.invokevirtual 151, 3) := dall dgX11_hung_127 17 rfl
theorem dX11_hung_32 : decode cX11_hung 32 = .ok (.iload_n 2, 1) := dall dgX11_hung_127 18 rfl
theorem dX11_hung_33 : decode cX11_hung 33 = .ok (.ifCond .ne 18, 3) := dall dgX11_hung_127 19 rfl
theorem dX11_hung_36 : decode cX11_hung 36 = .ok (.aload_n 0, 1) := dall dgX11_hung_127 20 rfl
theorem dX11_hung_37 : decode cX11_hung 37 = .ok (.getfield 68, 3) := dall dgX11_hung_127 21 rfl
theorem dX11_hung_40 : decode cX11_hung 40 = .ok (.aload_n 0, 1) := dall dgX11_hung_127 22 rfl
theorem dX11_hung_41 : decode cX11_hung 41 = .ok (.getfield 33, 3) := dall dgX11_hung_127 23 rfl
theorem dX11_hung_44 : decode cX11_hung 44 = .ok (.iload_n 1, 1) := dall dgX11_hung_127 24 rfl
theorem dX11_hung_45 : decode cX11_hung 45 = .ok (.invokevirtual 264, 3) := dall dgX11_hung_127 25 rfl
theorem dX11_hung_48 : decode cX11_hung 48 = .ok (.goto 15, 3) := dall dgX11_hung_127 26 rfl
theorem dX11_hung_51 : decode cX11_hung 51 = .ok (.aload_n 0, 1) := dall dgX11_hung_127 27 rfl
theorem dX11_hung_52 : decode cX11_hung 52 = .ok (.getfield 68, 3) := dall dgX11_hung_127 28 rfl
theorem dX11_hung_55 : decode cX11_hung 55 = .ok (.aload_n 0, 1) := dall dgX11_hung_127 29 rfl
theorem dX11_hung_56 : decode cX11_hung 56 = .ok (.getfield 33, 3) := dall dgX11_hung_127 30 rfl
theorem dX11_hung_59 : decode cX11_hung 59 = .ok (.iload_n 1, 1) := dall dgX11_hung_127 31 rfl
theorem dX11_hung_60 : decode cX11_hung 60 = .ok (.invokevirtual 268, 3) := dall dgX11_hung_127 32 rfl
theorem dX11_hung_63 : decode cX11_hung 63 = .ok (.ireturn, 1) := dall dgX11_hung_127 33 rfl
def lgX11_truth_128 : List (Nat × Instr × Nat) := [(0, .aload_n 0, 1), (1, .iload_n 1, 1), (2, .iload_n 2, 1), (3, .invokevirtual 140, 3), (6, .ifCond .eq 25, 3), (9, .iload_n 3, 1), (10, .iconst 0, 1), (11, .iconst 5, 1), (12, .invokestatic 104, 3), (15, .ifCond .eq 16, 3), (18, .aload_n 0, 1), (19, .getfield 19, 3), (22, .iload_n 1, 1), (23, .iload_n 2, 1), (24, .iload_n 3, 1), (25, .invokevirtual 271, 3), (28, .goto 4, 3), (31, .iconst (-1), 1), (32, .ireturn, 1)]
theorem dgX11_truth_128 : ∀ q ∈ lgX11_truth_128, decode cX11_truth q.1 = .ok (q.2.1, q.2.2) := by decide +kernel
theorem dX11_truth_0 : decode cX11_truth 0 = .ok (.aload_n 0, 1) := dall dgX11_truth_128 0 rfl
theorem dX11_truth_1 : decode cX11_truth 1 = .ok (.iload_n 1, 1) := dall dgX11_truth_128 1 rfl
theorem dX11_truth_2 : decode cX11_truth 2 = .ok (.iload_n 2, 1) := dall dgX11_truth_128 2 rfl
theorem dX11_truth_3 : decode cX11_truth 3 = .ok (.invokevirtual 140, 3) := dall dgX11_truth_128 3 rfl
theorem dX11_truth_6 : decode cX11_truth 6 = .ok (.ifCond .eq 25, 3) := dall dgX11_truth_128 4 rfl
theorem dX11_truth_9 : decode cX11_truth 9 = .ok (.iload_n 3, 1) := dall dgX11_truth_128 5 rfl
theorem dX11_truth_10 : decode cX11_truth 10 = .ok (.iconst 0, 1) := dall dgX11_truth_128 6 rfl
theorem dX11_truth_11 : decode cX11_truth 11 = .ok (.iconst 5, 1) := dall dgX11_truth_128 7 rfl
theorem dX11_truth_12 : decode cX11_truth 12 = .ok (.invokestatic 104, 3) := dall dgX11_truth_128 8 rfl
theorem dX11_truth_15 : decode cX11_truth 15 = .ok (.ifCond .eq 16, 3) := dall dgX11_truth_128 9 rfl
theorem dX11_truth_18 : decode cX11_truth 18 = .ok (.aload_n 0, 1) := dall dgX11_truth_128 10 rfl
theorem dX11_truth_19 : decode cX11_truth 19 = .ok (.getfield 19, 3) := dall dgX11_truth_128 11 rfl
theorem dX11_truth_22 : decode cX11_truth 22 = .ok (.iload_n 1, 1) := dall dgX11_truth_128 12 rfl
theorem dX11_truth_23 : decode cX11_truth 23 = .ok (.iload_n 2, 1) := dall dgX11_truth_128 13 rfl
theorem dX11_truth_24 : decode cX11_truth 24 = .ok (.iload_n 3, 1) := dall dgX11_truth_128 14 rfl
theorem dX11_truth_25 : decode cX11_truth 25 = .ok (.invokevirtual 271, 3) := dall dgX11_truth_128 15 rfl
theorem dX11_truth_28 : decode cX11_truth 28 = .ok (.goto 4, 3) := dall dgX11_truth_128 16 rfl
theorem dX11_truth_31 : decode cX11_truth 31 = .ok (.iconst (-1), 1) := dall dgX11_truth_128 17 rfl
theorem dX11_truth_32 : decode cX11_truth 32 = .ok (.ireturn, 1) := dall dgX11_truth_128 18 rfl
def lgX11_errors_129 : List (Nat × Instr × Nat) := [(0, .iload_n 1, 1), (1, .iconst 0, 1), (2, .iconst 2, 1), (3, .invokestatic 104, 3), (6, .ifCond .ne 5, 3), (9, .iconst (-1), 1), (10, .ireturn, 1), (11, .aload_n 0, 1), (12, .invokevirtual 151, 3), (15, .iload_n 1, 1), (16, .ifCond .ne 19, 3), (19, .aload_n 0, 1), (20, .getfield 75, 3), (23, .aload_n 0, 1), (24, .getfield 19, 3), (27, .aload_n 0, 1), (28, .getfield 33, 3), (31, .invokevirtual 274, 3), (34, .ireturn, 1), (35, .iload_n 1, 1), (36, .iconst 1, 1), (37, .if_icmp .ne 19, 3), (40, .aload_n 0, 1), (41, .getfield 75, 3), (44, .aload_n 0, 1), (45, .getfield 19, 3), (48, .aload_n 0, 1), (49, .getfield 33, 3), (52, .invokevirtual 278, 3), (55, .ireturn, 1), (56, .aload_n 0, 1), (57, .invokevirtual 190, 3), (60, .ifCond .eq 28, 3), (63, .aload_n 0, 1), (64, .getfield 75, 3), (67, .aload_n 0, 1), (68, .getfield 19, 3), (71, .aload_n 0, 1), (72, .getfield 33, 3), (75, .aload_n 0, 1), (76, .getfield 47, 3), (79, .getfield 228, 3), (82, .invokevirtual 281, 3), (85, .goto 5, 3), (88, .bipush (-2), 2), (90, .ireturn, 1)]
theorem dgX11_errors_129 : ∀ q ∈ lgX11_errors_129, decode cX11_errors q.1 = .ok (q.2.1, q.2.2) := by decide +kernel
theorem dX11_errors_0 : decode cX11_errors 0 = .ok (.iload_n 1, 1) := dall dgX11_errors_129 0 rfl
theorem dX11_errors_1 : decode cX11_errors 1 = .ok (.iconst 0, 1) := dall dgX11_errors_129 1 rfl
theorem dX11_errors_2 : decode cX11_errors 2 = .ok (.iconst 2, 1) := dall dgX11_errors_129 2 rfl
theorem dX11_errors_3 : decode cX11_errors 3 = .ok (.invokestatic 104, 3) := dall dgX11_errors_129 3 rfl
theorem dX11_errors_6 : decode cX11_errors 6 = .ok (.ifCond .ne 5, 3) := dall dgX11_errors_129 4 rfl
theorem dX11_errors_9 : decode cX11_errors 9 = .ok (.iconst (-1), 1) := dall dgX11_errors_129 5 rfl
theorem dX11_errors_10 : decode cX11_errors 10 = .ok (.ireturn, 1) := dall dgX11_errors_129 6 rfl
theorem dX11_errors_11 : decode cX11_errors 11 = .ok (.aload_n 0, 1) := dall dgX11_errors_129 7 rfl
theorem dX11_errors_12 : decode cX11_errors 12 = .ok (.invokevirtual 151, 3) := dall dgX11_errors_129 8 rfl
theorem dX11_errors_15 : decode cX11_errors 15 = .ok (.iload_n 1, 1) := dall dgX11_errors_129 9 rfl
theorem dX11_errors_16 : decode cX11_errors 16 = .ok (.ifCond .ne 19, 3) := dall dgX11_errors_129 10 rfl
theorem dX11_errors_19 : decode cX11_errors 19 = .ok (.aload_n 0, 1) := dall dgX11_errors_129 11 rfl
theorem dX11_errors_20 : decode cX11_errors 20 = .ok (.getfield 75, 3) := dall dgX11_errors_129 12 rfl
theorem dX11_errors_23 : decode cX11_errors 23 = .ok (.aload_n 0, 1) := dall dgX11_errors_129 13 rfl
theorem dX11_errors_24 : decode cX11_errors 24 = .ok (.getfield 19, 3) := dall dgX11_errors_129 14 rfl
theorem dX11_errors_27 : decode cX11_errors 27 = .ok (.aload_n 0, 1) := dall dgX11_errors_129 15 rfl
theorem dX11_errors_28 : decode cX11_errors 28 = .ok (.getfield 33, 3) := dall dgX11_errors_129 16 rfl
theorem dX11_errors_31 : decode cX11_errors 31 = .ok (.invokevirtual 274, 3) := dall dgX11_errors_129 17 rfl
theorem dX11_errors_34 : decode cX11_errors 34 = .ok (.ireturn, 1) := dall dgX11_errors_129 18 rfl
theorem dX11_errors_35 : decode cX11_errors 35 = .ok (.iload_n 1, 1) := dall dgX11_errors_129 19 rfl
theorem dX11_errors_36 : decode cX11_errors 36 = .ok (.iconst 1, 1) := dall dgX11_errors_129 20 rfl
theorem dX11_errors_37 : decode cX11_errors 37 = .ok (.if_icmp .ne 19, 3) := dall dgX11_errors_129 21 rfl
theorem dX11_errors_40 : decode cX11_errors 40 = .ok (.aload_n 0, 1) := dall dgX11_errors_129 22 rfl
theorem dX11_errors_41 : decode cX11_errors 41 = .ok (.getfield 75, 3) := dall dgX11_errors_129 23 rfl
theorem dX11_errors_44 : decode cX11_errors 44 = .ok (.aload_n 0, 1) := dall dgX11_errors_129 24 rfl
theorem dX11_errors_45 : decode cX11_errors 45 = .ok (.getfield 19, 3) := dall dgX11_errors_129 25 rfl
theorem dX11_errors_48 : decode cX11_errors 48 = .ok (.aload_n 0, 1) := dall dgX11_errors_129 26 rfl
theorem dX11_errors_49 : decode cX11_errors 49 = .ok (.getfield 33, 3) := dall dgX11_errors_129 27 rfl
theorem dX11_errors_52 : decode cX11_errors 52 = .ok (.invokevirtual 278, 3) := dall dgX11_errors_129 28 rfl
theorem dX11_errors_55 : decode cX11_errors 55 = .ok (.ireturn, 1) := dall dgX11_errors_129 29 rfl
theorem dX11_errors_56 : decode cX11_errors 56 = .ok (.aload_n 0, 1) := dall dgX11_errors_129 30 rfl
theorem dX11_errors_57 : decode cX11_errors 57 = .ok (.invokevirtual 190, 3) := dall dgX11_errors_129 31 rfl
theorem dX11_errors_60 : decode cX11_errors 60 = .ok (.ifCond .eq 28, 3) := dall dgX11_errors_129 32 rfl
theorem dX11_errors_63 : decode cX11_errors 63 = .ok (.aload_n 0, 1) := dall dgX11_errors_129 33 rfl
theorem dX11_errors_64 : decode cX11_errors 64 = .ok (.getfield 75, 3) := dall dgX11_errors_129 34 rfl
theorem dX11_errors_67 : decode cX11_errors 67 = .ok (.aload_n 0, 1) := dall dgX11_errors_129 35 rfl
theorem dX11_errors_68 : decode cX11_errors 68 = .ok (.getfield 19, 3) := dall dgX11_errors_129 36 rfl
theorem dX11_errors_71 : decode cX11_errors 71 = .ok (.aload_n 0, 1) := dall dgX11_errors_129 37 rfl
theorem dX11_errors_72 : decode cX11_errors 72 = .ok (.getfield 33, 3) := dall dgX11_errors_129 38 rfl
theorem dX11_errors_75 : decode cX11_errors 75 = .ok (.aload_n 0, 1) := dall dgX11_errors_129 39 rfl
theorem dX11_errors_76 : decode cX11_errors 76 = .ok (.getfield 47, 3) := dall dgX11_errors_129 40 rfl
theorem dX11_errors_79 : decode cX11_errors 79 = .ok (.getfield 228, 3) := dall dgX11_errors_129 41 rfl
theorem dX11_errors_82 : decode cX11_errors 82 = .ok (.invokevirtual 281, 3) := dall dgX11_errors_129 42 rfl
theorem dX11_errors_85 : decode cX11_errors 85 = .ok (.goto 5, 3) := dall dgX11_errors_129 43 rfl
theorem dX11_errors_88 : decode cX11_errors 88 = .ok (.bipush (-2), 2) := dall dgX11_errors_129 44 rfl
theorem dX11_errors_90 : decode cX11_errors 90 = .ok (.ireturn, 1) := dall dgX11_errors_129 45 rfl
def lgX11_weight_130 : List (Nat × Instr × Nat) := [(0, .iload_n 1, 1), (1, .iconst 0, 1), (2, .bipush 7, 2), (4, .invokestatic 104, 3), (7, .ifCond .eq 11, 3), (10, .aload_n 0, 1), (11, .iload_n 2, 1), (12, .invokevirtual 166, 3), (15, .ifCond .ne 5, 3), (18, .iconst (-1), 1), (19, .ireturn, 1), (20, .aload_n 0, 1), (21, .getfield 82, 3), (24, .iload_n 1, 1), (25, .aload_n 0, 1), (26, .getfield 33, 3), (29, .iload_n 2, 1), (30, .aload_n 0, 1), (31, .getfield 61, 3), (34, .getfield 285, 3), (37, .invokevirtual 288, 3), (40, .ireturn, 1)]
theorem dgX11_weight_130 : ∀ q ∈ lgX11_weight_130, decode cX11_weight q.1 = .ok (q.2.1, q.2.2) := by decide +kernel
theorem dX11_weight_0 : decode cX11_weight 0 = .ok (.iload_n 1, 1) := dall dgX11_weight_130 0 rfl
theorem dX11_weight_1 : decode cX11_weight 1 = .ok (.iconst 0, 1) := dall dgX11_weight_130 1 rfl
theorem dX11_weight_2 : decode cX11_weight 2 = .ok (.bipush 7, 2) := dall dgX11_weight_130 2 rfl
theorem dX11_weight_4 : decode cX11_weight 4 = .ok (.invokestatic 104, 3) := dall dgX11_weight_130 3 rfl
theorem dX11_weight_7 : decode cX11_weight 7 = .ok (.ifCond .eq 11, 3) := dall dgX11_weight_130 4 rfl
theorem dX11_weight_10 : decode cX11_weight 10 = .ok (.aload_n 0, 1) := dall dgX11_weight_130 5 rfl
theorem dX11_weight_11 : decode cX11_weight 11 = .ok (.iload_n 2, 1) := dall dgX11_weight_130 6 rfl
theorem dX11_weight_12 : decode cX11_weight 12 = .ok (.invokevirtual 166, 3) := dall dgX11_weight_130 7 rfl
theorem dX11_weight_15 : decode cX11_weight 15 = .ok (.ifCond .ne 5, 3) := dall dgX11_weight_130 8 rfl
theorem dX11_weight_18 : decode cX11_weight 18 = .ok (.iconst (-1), 1) := dall dgX11_weight_130 9 rfl
theorem dX11_weight_19 : decode cX11_weight 19 = .ok (.ireturn, 1) := dall dgX11_weight_130 10 rfl
theorem dX11_weight_20 : decode cX11_weight 20 = .ok (.aload_n 0, 1) := dall dgX11_weight_130 11 rfl
theorem dX11_weight_21 : decode cX11_weight 21 = .ok (.getfield 82, 3) := dall dgX11_weight_130 12 rfl
theorem dX11_weight_24 : decode cX11_weight 24 = .ok (.iload_n 1, 1) := dall dgX11_weight_130 13 rfl
theorem dX11_weight_25 : decode cX11_weight 25 = .ok (.aload_n 0, 1) := dall dgX11_weight_130 14 rfl
theorem dX11_weight_26 : decode cX11_weight 26 = .ok (.getfield 33, 3) := dall dgX11_weight_130 15 rfl
theorem dX11_weight_29 : decode cX11_weight 29 = .ok (.iload_n 2, 1) := dall dgX11_weight_130 16 rfl
theorem dX11_weight_30 : decode cX11_weight 30 = .ok (.aload_n 0, 1) := dall dgX11_weight_130 17 rfl
theorem dX11_weight_31 : decode cX11_weight 31 = .ok (.getfield 61, 3) := dall dgX11_weight_130 18 rfl
theorem dX11_weight_34 : decode cX11_weight 34 = .ok (.getfield 285, 3) := dall dgX11_weight_130 19 rfl
theorem dX11_weight_37 : decode cX11_weight 37 = .ok (.invokevirtual 288, 3) := dall dgX11_weight_130 20 rfl
theorem dX11_weight_40 : decode cX11_weight 40 = .ok (.ireturn, 1) := dall dgX11_weight_130 21 rfl
def lgX11_count_131 : List (Nat × Instr × Nat) := [(0, .iload_n 1, 1), (1, .tableswitch 87 0 5 #[39, 47, 55, 63, 71, 79], 39), (40, .aload_n 0, 1), (41, .getfield 19, 3), (44, .getfield 130, 3), (47, .ireturn, 1), (48, .aload_n 0, 1), (49, .getfield 19, 3), (52, .invokevirtual 292, 3), (55, .ireturn, 1), (56, .aload_n 0, 1), (57, .getfield 19, 3), (60, .invokevirtual 295, 3), (63, .ireturn, 1), (64, .aload_n 0, 1), (65, .getfield 61, 3), (68, .getfield 285, 3), (71, .ireturn, 1), (72, .aload_n 0, 1), (73, .getfield 68, 3), (76, .getfield 148, 3), (79, .ireturn, 1), (80, .aload_n 0, 1), (81, .getfield 10, 3), (84, .getfield 112, 3), (87, .ireturn, 1), (88, .iconst (-1), 1), (89, .ireturn, 1)]
theorem dgX11_count_131 : ∀ q ∈ lgX11_count_131, decode cX11_count q.1 = .ok (q.2.1, q.2.2) := by decide +kernel
theorem dX11_count_0 : decode cX11_count 0 = .ok (.iload_n 1, 1) := dall dgX11_count_131 0 rfl
theorem dX11_count_1 : decode cX11_count 1 = .ok (.tableswitch 87 0 5 #[39, 47, 55, 63, 71, 79], 39) := dall dgX11_count_131 1 rfl
theorem dX11_count_40 : decode cX11_count 40 = .ok (.aload_n 0, 1) := dall dgX11_count_131 2 rfl
theorem dX11_count_41 : decode cX11_count 41 = .ok (.getfield 19, 3) := dall dgX11_count_131 3 rfl
theorem dX11_count_44 : decode cX11_count 44 = .ok (.getfield 130, 3) := dall dgX11_count_131 4 rfl
theorem dX11_count_47 : decode cX11_count 47 = .ok (.ireturn, 1) := dall dgX11_count_131 5 rfl
theorem dX11_count_48 : decode cX11_count 48 = .ok (.aload_n 0, 1) := dall dgX11_count_131 6 rfl
theorem dX11_count_49 : decode cX11_count 49 = .ok (.getfield 19, 3) := dall dgX11_count_131 7 rfl
theorem dX11_count_52 : decode cX11_count 52 = .ok (.invokevirtual 292, 3) := dall dgX11_count_131 8 rfl
theorem dX11_count_55 : decode cX11_count 55 = .ok (.ireturn, 1) := dall dgX11_count_131 9 rfl
theorem dX11_count_56 : decode cX11_count 56 = .ok (.aload_n 0, 1) := dall dgX11_count_131 10 rfl
theorem dX11_count_57 : decode cX11_count 57 = .ok (.getfield 19, 3) := dall dgX11_count_131 11 rfl
theorem dX11_count_60 : decode cX11_count 60 = .ok (.invokevirtual 295, 3) := dall dgX11_count_131 12 rfl
theorem dX11_count_63 : decode cX11_count 63 = .ok (.ireturn, 1) := dall dgX11_count_131 13 rfl
theorem dX11_count_64 : decode cX11_count 64 = .ok (.aload_n 0, 1) := dall dgX11_count_131 14 rfl
theorem dX11_count_65 : decode cX11_count 65 = .ok (.getfield 61, 3) := dall dgX11_count_131 15 rfl
theorem dX11_count_68 : decode cX11_count 68 = .ok (.getfield 285, 3) := dall dgX11_count_131 16 rfl
theorem dX11_count_71 : decode cX11_count 71 = .ok (.ireturn, 1) := dall dgX11_count_131 17 rfl
theorem dX11_count_72 : decode cX11_count 72 = .ok (.aload_n 0, 1) := dall dgX11_count_131 18 rfl
theorem dX11_count_73 : decode cX11_count 73 = .ok (.getfield 68, 3) := dall dgX11_count_131 19 rfl
theorem dX11_count_76 : decode cX11_count 76 = .ok (.getfield 148, 3) := dall dgX11_count_131 20 rfl
theorem dX11_count_79 : decode cX11_count 79 = .ok (.ireturn, 1) := dall dgX11_count_131 21 rfl
theorem dX11_count_80 : decode cX11_count 80 = .ok (.aload_n 0, 1) := dall dgX11_count_131 22 rfl
theorem dX11_count_81 : decode cX11_count 81 = .ok (.getfield 10, 3) := dall dgX11_count_131 23 rfl
theorem dX11_count_84 : decode cX11_count 84 = .ok (.getfield 112, 3) := dall dgX11_count_131 24 rfl
theorem dX11_count_87 : decode cX11_count 87 = .ok (.ireturn, 1) := dall dgX11_count_131 25 rfl
theorem dX11_count_88 : decode cX11_count 88 = .ok (.iconst (-1), 1) := dall dgX11_count_131 26 rfl
theorem dX11_count_89 : decode cX11_count 89 = .ok (.ireturn, 1) := dall dgX11_count_131 27 rfl
def lgX11_trace_132 : List (Nat × Instr × Nat) := [(0, .aload_n 0, 1), (1, .getfield 82, 3), (4, .getfield 298, 3), (7, .lreturn, 1)]
theorem dgX11_trace_132 : ∀ q ∈ lgX11_trace_132, decode cX11_trace q.1 = .ok (q.2.1, q.2.2) := by decide +kernel
theorem dX11_trace_0 : decode cX11_trace 0 = .ok (.aload_n 0, 1) := dall dgX11_trace_132 0 rfl
theorem dX11_trace_1 : decode cX11_trace 1 = .ok (.getfield 82, 3) := dall dgX11_trace_132 1 rfl
theorem dX11_trace_4 : decode cX11_trace 4 = .ok (.getfield 298, 3) := dall dgX11_trace_132 2 rfl
theorem dX11_trace_7 : decode cX11_trace 7 = .ok (.lreturn, 1) := dall dgX11_trace_132 3 rfl
def lgX11_within_133 : List (Nat × Instr × Nat) := [(0, .iload_n 0, 1), (1, .iload_n 1, 1), (2, .if_icmp .lt 12, 3), (5, .iload_n 0, 1), (6, .iload_n 2, 1), (7, .if_icmp .gt 7, 3), (10, .iconst 1, 1), (11, .goto 4, 3), (14, .iconst 0, 1), (15, .ireturn, 1)]
theorem dgX11_within_133 : ∀ q ∈ lgX11_within_133, decode cX11_within q.1 = .ok (q.2.1, q.2.2) := by decide +kernel
theorem dX11_within_0 : decode cX11_within 0 = .ok (.iload_n 0, 1) := dall dgX11_within_133 0 rfl
theorem dX11_within_1 : decode cX11_within 1 = .ok (.iload_n 1, 1) := dall dgX11_within_133 1 rfl
theorem dX11_within_2 : decode cX11_within 2 = .ok (.if_icmp .lt 12, 3) := dall dgX11_within_133 2 rfl
theorem dX11_within_5 : decode cX11_within 5 = .ok (.iload_n 0, 1) := dall dgX11_within_133 3 rfl
theorem dX11_within_6 : decode cX11_within 6 = .ok (.iload_n 2, 1) := dall dgX11_within_133 4 rfl
theorem dX11_within_7 : decode cX11_within 7 = .ok (.if_icmp .gt 7, 3) := dall dgX11_within_133 5 rfl
theorem dX11_within_10 : decode cX11_within 10 = .ok (.iconst 1, 1) := dall dgX11_within_133 6 rfl
theorem dX11_within_11 : decode cX11_within 11 = .ok (.goto 4, 3) := dall dgX11_within_133 7 rfl
theorem dX11_within_14 : decode cX11_within 14 = .ok (.iconst 0, 1) := dall dgX11_within_133 8 rfl
theorem dX11_within_15 : decode cX11_within 15 = .ok (.ireturn, 1) := dall dgX11_within_133 9 rfl
def lgX11_isLoudness_134 : List (Nat × Instr × Nat) := [(0, .iload_n 0, 1), (1, .iconst 0, 1), (2, .bipush 99, 2), (4, .invokestatic 104, 3), (7, .ireturn, 1)]
theorem dgX11_isLoudness_134 : ∀ q ∈ lgX11_isLoudness_134, decode cX11_isLoudness q.1 = .ok (q.2.1, q.2.2) := by decide +kernel
theorem dX11_isLoudness_0 : decode cX11_isLoudness 0 = .ok (.iload_n 0, 1) := dall dgX11_isLoudness_134 0 rfl
theorem dX11_isLoudness_1 : decode cX11_isLoudness 1 = .ok (.iconst 0, 1) := dall dgX11_isLoudness_134 1 rfl
theorem dX11_isLoudness_2 : decode cX11_isLoudness 2 = .ok (.bipush 99, 2) := dall dgX11_isLoudness_134 2 rfl
theorem dX11_isLoudness_4 : decode cX11_isLoudness 4 = .ok (.invokestatic 104, 3) := dall dgX11_isLoudness_134 3 rfl
theorem dX11_isLoudness_7 : decode cX11_isLoudness 7 = .ok (.ireturn, 1) := dall dgX11_isLoudness_134 4 rfl
def lgX11_isHeapNumber_135 : List (Nat × Instr × Nat) := [(0, .iload_n 0, 1), (1, .iconst 0, 1), (2, .bipush 8, 2), (4, .invokestatic 104, 3), (7, .ireturn, 1)]
theorem dgX11_isHeapNumber_135 : ∀ q ∈ lgX11_isHeapNumber_135, decode cX11_isHeapNumber q.1 = .ok (q.2.1, q.2.2) := by decide +kernel
theorem dX11_isHeapNumber_0 : decode cX11_isHeapNumber 0 = .ok (.iload_n 0, 1) := dall dgX11_isHeapNumber_135 0 rfl
theorem dX11_isHeapNumber_1 : decode cX11_isHeapNumber 1 = .ok (.iconst 0, 1) := dall dgX11_isHeapNumber_135 1 rfl
theorem dX11_isHeapNumber_2 : decode cX11_isHeapNumber 2 = .ok (.bipush 8, 2) := dall dgX11_isHeapNumber_135 2 rfl
theorem dX11_isHeapNumber_4 : decode cX11_isHeapNumber 4 = .ok (.invokestatic 104, 3) := dall dgX11_isHeapNumber_135 3 rfl
theorem dX11_isHeapNumber_7 : decode cX11_isHeapNumber 7 = .ok (.ireturn, 1) := dall dgX11_isHeapNumber_135 4 rfl
def lgX11_areRows_136 : List (Nat × Instr × Nat) := [(0, .iload_n 1, 1), (1, .ifCond .lt 23, 3), (4, .iload_n 1, 1), (5, .iload_n 2, 1), (6, .if_icmp .gt 18, 3), (9, .iload_n 2, 1), (10, .aload_n 0, 1), (11, .getfield 19, 3), (14, .getfield 130, 3), (17, .if_icmp .ge 7, 3), (20, .iconst 1, 1), (21, .goto 4, 3), (24, .iconst 0, 1), (25, .ireturn, 1)]
theorem dgX11_areRows_136 : ∀ q ∈ lgX11_areRows_136, decode cX11_areRows q.1 = .ok (q.2.1, q.2.2) := by decide +kernel
theorem dX11_areRows_0 : decode cX11_areRows 0 = .ok (.iload_n 1, 1) := dall dgX11_areRows_136 0 rfl
theorem dX11_areRows_1 : decode cX11_areRows 1 = .ok (.ifCond .lt 23, 3) := dall dgX11_areRows_136 1 rfl
theorem dX11_areRows_4 : decode cX11_areRows 4 = .ok (.iload_n 1, 1) := dall dgX11_areRows_136 2 rfl
theorem dX11_areRows_5 : decode cX11_areRows 5 = .ok (.iload_n 2, 1) := dall dgX11_areRows_136 3 rfl
theorem dX11_areRows_6 : decode cX11_areRows 6 = .ok (.if_icmp .gt 18, 3) := dall dgX11_areRows_136 4 rfl
theorem dX11_areRows_9 : decode cX11_areRows 9 = .ok (.iload_n 2, 1) := dall dgX11_areRows_136 5 rfl
theorem dX11_areRows_10 : decode cX11_areRows 10 = .ok (.aload_n 0, 1) := dall dgX11_areRows_136 6 rfl
theorem dX11_areRows_11 : decode cX11_areRows 11 = .ok (.getfield 19, 3) := dall dgX11_areRows_136 7 rfl
theorem dX11_areRows_14 : decode cX11_areRows 14 = .ok (.getfield 130, 3) := dall dgX11_areRows_136 8 rfl
theorem dX11_areRows_17 : decode cX11_areRows 17 = .ok (.if_icmp .ge 7, 3) := dall dgX11_areRows_136 9 rfl
theorem dX11_areRows_20 : decode cX11_areRows 20 = .ok (.iconst 1, 1) := dall dgX11_areRows_136 10 rfl
theorem dX11_areRows_21 : decode cX11_areRows 21 = .ok (.goto 4, 3) := dall dgX11_areRows_136 11 rfl
theorem dX11_areRows_24 : decode cX11_areRows 24 = .ok (.iconst 0, 1) := dall dgX11_areRows_136 12 rfl
theorem dX11_areRows_25 : decode cX11_areRows 25 = .ok (.ireturn, 1) := dall dgX11_areRows_136 13 rfl
def lgX11_isPiece_137 : List (Nat × Instr × Nat) := [(0, .aload_n 0, 1), (1, .invokevirtual 151, 3), (4, .iload_n 1, 1), (5, .iconst 0, 1), (6, .aload_n 0, 1), (7, .getfield 33, 3), (10, .getfield 154, 3), (13, .iconst 1, 1), (14, .isub, 1), (15, .invokestatic 104, 3), (18, .ireturn, 1)]
theorem dgX11_isPiece_137 : ∀ q ∈ lgX11_isPiece_137, decode cX11_isPiece q.1 = .ok (q.2.1, q.2.2) := by decide +kernel
theorem dX11_isPiece_0 : decode cX11_isPiece 0 = .ok (.aload_n 0, 1) := dall dgX11_isPiece_137 0 rfl
theorem dX11_isPiece_1 : decode cX11_isPiece 1 = .ok (.invokevirtual 151, 3) := dall dgX11_isPiece_137 1 rfl
theorem dX11_isPiece_4 : decode cX11_isPiece 4 = .ok (.iload_n 1, 1) := dall dgX11_isPiece_137 2 rfl
theorem dX11_isPiece_5 : decode cX11_isPiece 5 = .ok (.iconst 0, 1) := dall dgX11_isPiece_137 3 rfl
theorem dX11_isPiece_6 : decode cX11_isPiece 6 = .ok (.aload_n 0, 1) := dall dgX11_isPiece_137 4 rfl
theorem dX11_isPiece_7 : decode cX11_isPiece 7 = .ok (.getfield 33, 3) := dall dgX11_isPiece_137 5 rfl
theorem dX11_isPiece_10 : decode cX11_isPiece 10 = .ok (.getfield 154, 3) := dall dgX11_isPiece_137 6 rfl
theorem dX11_isPiece_13 : decode cX11_isPiece 13 = .ok (.iconst 1, 1) := dall dgX11_isPiece_137 7 rfl
theorem dX11_isPiece_14 : decode cX11_isPiece 14 = .ok (.isub, 1) := dall dgX11_isPiece_137 8 rfl
theorem dX11_isPiece_15 : decode cX11_isPiece 15 = .ok (.invokestatic 104, 3) := dall dgX11_isPiece_137 9 rfl
theorem dX11_isPiece_18 : decode cX11_isPiece 18 = .ok (.ireturn, 1) := dall dgX11_isPiece_137 10 rfl
def lgX11_refusedHeap_138 : List (Nat × Instr × Nat) := [(0, .aload_n 0, 1), (1, .invokevirtual 190, 3), (4, .ifCond .ne 6, 3), (7, .bipush (-2), 2), (9, .ireturn, 1), (10, .iload_n 1, 1), (11, .aload_n 0, 1), (12, .getfield 47, 3), (15, .getfield 228, 3), (18, .getfield 204, 3), (21, .if_icmp .ge 7, 3), (24, .iconst 0, 1), (25, .goto 4, 3), (28, .iconst (-1), 1), (29, .ireturn, 1)]
theorem dgX11_refusedHeap_138 : ∀ q ∈ lgX11_refusedHeap_138, decode cX11_refusedHeap q.1 = .ok (q.2.1, q.2.2) := by decide +kernel
theorem dX11_refusedHeap_0 : decode cX11_refusedHeap 0 = .ok (.aload_n 0, 1) := dall dgX11_refusedHeap_138 0 rfl
theorem dX11_refusedHeap_1 : decode cX11_refusedHeap 1 = .ok (.invokevirtual 190, 3) := dall dgX11_refusedHeap_138 1 rfl
theorem dX11_refusedHeap_4 : decode cX11_refusedHeap 4 = .ok (.ifCond .ne 6, 3) := dall dgX11_refusedHeap_138 2 rfl
theorem dX11_refusedHeap_7 : decode cX11_refusedHeap 7 = .ok (.bipush (-2), 2) := dall dgX11_refusedHeap_138 3 rfl
theorem dX11_refusedHeap_9 : decode cX11_refusedHeap 9 = .ok (.ireturn, 1) := dall dgX11_refusedHeap_138 4 rfl
theorem dX11_refusedHeap_10 : decode cX11_refusedHeap 10 = .ok (.iload_n 1, 1) := dall dgX11_refusedHeap_138 5 rfl
theorem dX11_refusedHeap_11 : decode cX11_refusedHeap 11 = .ok (.aload_n 0, 1) := dall dgX11_refusedHeap_138 6 rfl
theorem dX11_refusedHeap_12 : decode cX11_refusedHeap 12 = .ok (.getfield 47, 3) := dall dgX11_refusedHeap_138 7 rfl
theorem dX11_refusedHeap_15 : decode cX11_refusedHeap 15 = .ok (.getfield 228, 3) := dall dgX11_refusedHeap_138 8 rfl
theorem dX11_refusedHeap_18 : decode cX11_refusedHeap 18 = .ok (.getfield 204, 3) := dall dgX11_refusedHeap_138 9 rfl
theorem dX11_refusedHeap_21 : decode cX11_refusedHeap 21 = .ok (.if_icmp .ge 7, 3) := dall dgX11_refusedHeap_138 10 rfl
theorem dX11_refusedHeap_24 : decode cX11_refusedHeap 24 = .ok (.iconst 0, 1) := dall dgX11_refusedHeap_138 11 rfl
theorem dX11_refusedHeap_25 : decode cX11_refusedHeap 25 = .ok (.goto 4, 3) := dall dgX11_refusedHeap_138 12 rfl
theorem dX11_refusedHeap_28 : decode cX11_refusedHeap 28 = .ok (.iconst (-1), 1) := dall dgX11_refusedHeap_138 13 rfl
theorem dX11_refusedHeap_29 : decode cX11_refusedHeap 29 = .ok (.ireturn, 1) := dall dgX11_refusedHeap_138 14 rfl
def lgX11_byWay_139 : List (Nat × Instr × Nat) := [(0, .iload_n 1, 1), (1, .ifCond .ne 13, 3), (4, .aload_n 0, 1), (5, .getfield 47, 3), (8, .getfield 228, 3), (11, .goto 7, 3), (14, .aload_n 0, 1), (15, .getfield 54, 3), (18, .areturn, 1)]
theorem dgX11_byWay_139 : ∀ q ∈ lgX11_byWay_139, decode cX11_byWay q.1 = .ok (q.2.1, q.2.2) := by decide +kernel
theorem dX11_byWay_0 : decode cX11_byWay 0 = .ok (.iload_n 1, 1) := dall dgX11_byWay_139 0 rfl
theorem dX11_byWay_1 : decode cX11_byWay 1 = .ok (.ifCond .ne 13, 3) := dall dgX11_byWay_139 1 rfl
theorem dX11_byWay_4 : decode cX11_byWay 4 = .ok (.aload_n 0, 1) := dall dgX11_byWay_139 2 rfl
theorem dX11_byWay_5 : decode cX11_byWay 5 = .ok (.getfield 47, 3) := dall dgX11_byWay_139 3 rfl
theorem dX11_byWay_8 : decode cX11_byWay 8 = .ok (.getfield 228, 3) := dall dgX11_byWay_139 4 rfl
theorem dX11_byWay_11 : decode cX11_byWay 11 = .ok (.goto 7, 3) := dall dgX11_byWay_139 5 rfl
theorem dX11_byWay_14 : decode cX11_byWay 14 = .ok (.aload_n 0, 1) := dall dgX11_byWay_139 6 rfl
theorem dX11_byWay_15 : decode cX11_byWay 15 = .ok (.getfield 54, 3) := dall dgX11_byWay_139 7 rfl
theorem dX11_byWay_18 : decode cX11_byWay 18 = .ok (.areturn, 1) := dall dgX11_byWay_139 8 rfl
def lgX11_heapOfRow_140 : List (Nat × Instr × Nat) := [(0, .aload_n 0, 1), (1, .getfield 33, 3), (4, .getfield 182, 3), (7, .iload_n 1, 1), (8, .iaload, 1), (9, .istore_n 2, 1), (10, .iload_n 2, 1), (11, .iconst 0, 1), (12, .bipush 8, 2), (14, .invokestatic 104, 3), (17, .ifCond .eq 18, 3), (20, .aload_n 0, 1), (21, .getfield 47, 3), (24, .getfield 228, 3), (27, .getfield 198, 3), (30, .iload_n 2, 1), (31, .iaload, 1), (32, .goto 5, 3), (35, .bipush (-9), 2), (37, .ireturn, 1)]
theorem dgX11_heapOfRow_140 : ∀ q ∈ lgX11_heapOfRow_140, decode cX11_heapOfRow q.1 = .ok (q.2.1, q.2.2) := by decide +kernel
theorem dX11_heapOfRow_0 : decode cX11_heapOfRow 0 = .ok (.aload_n 0, 1) := dall dgX11_heapOfRow_140 0 rfl
theorem dX11_heapOfRow_1 : decode cX11_heapOfRow 1 = .ok (.getfield 33, 3) := dall dgX11_heapOfRow_140 1 rfl
theorem dX11_heapOfRow_4 : decode cX11_heapOfRow 4 = .ok (.getfield 182, 3) := dall dgX11_heapOfRow_140 2 rfl
theorem dX11_heapOfRow_7 : decode cX11_heapOfRow 7 = .ok (.iload_n 1, 1) := dall dgX11_heapOfRow_140 3 rfl
theorem dX11_heapOfRow_8 : decode cX11_heapOfRow 8 = .ok (.iaload, 1) := dall dgX11_heapOfRow_140 4 rfl
theorem dX11_heapOfRow_9 : decode cX11_heapOfRow 9 = .ok (.istore_n 2, 1) := dall dgX11_heapOfRow_140 5 rfl
theorem dX11_heapOfRow_10 : decode cX11_heapOfRow 10 = .ok (.iload_n 2, 1) := dall dgX11_heapOfRow_140 6 rfl
theorem dX11_heapOfRow_11 : decode cX11_heapOfRow 11 = .ok (.iconst 0, 1) := dall dgX11_heapOfRow_140 7 rfl
theorem dX11_heapOfRow_12 : decode cX11_heapOfRow 12 = .ok (.bipush 8, 2) := dall dgX11_heapOfRow_140 8 rfl
theorem dX11_heapOfRow_14 : decode cX11_heapOfRow 14 = .ok (.invokestatic 104, 3) := dall dgX11_heapOfRow_140 9 rfl
theorem dX11_heapOfRow_17 : decode cX11_heapOfRow 17 = .ok (.ifCond .eq 18, 3) := dall dgX11_heapOfRow_140 10 rfl
theorem dX11_heapOfRow_20 : decode cX11_heapOfRow 20 = .ok (.aload_n 0, 1) := dall dgX11_heapOfRow_140 11 rfl
theorem dX11_heapOfRow_21 : decode cX11_heapOfRow 21 = .ok (.getfield 47, 3) := dall dgX11_heapOfRow_140 12 rfl
theorem dX11_heapOfRow_24 : decode cX11_heapOfRow 24 = .ok (.getfield 228, 3) := dall dgX11_heapOfRow_140 13 rfl
theorem dX11_heapOfRow_27 : decode cX11_heapOfRow 27 = .ok (.getfield 198, 3) := dall dgX11_heapOfRow_140 14 rfl
theorem dX11_heapOfRow_30 : decode cX11_heapOfRow 30 = .ok (.iload_n 2, 1) := dall dgX11_heapOfRow_140 15 rfl
theorem dX11_heapOfRow_31 : decode cX11_heapOfRow 31 = .ok (.iaload, 1) := dall dgX11_heapOfRow_140 16 rfl
theorem dX11_heapOfRow_32 : decode cX11_heapOfRow 32 = .ok (.goto 5, 3) := dall dgX11_heapOfRow_140 17 rfl
theorem dX11_heapOfRow_35 : decode cX11_heapOfRow 35 = .ok (.bipush (-9), 2) := dall dgX11_heapOfRow_140 18 rfl
theorem dX11_heapOfRow_37 : decode cX11_heapOfRow 37 = .ok (.ireturn, 1) := dall dgX11_heapOfRow_140 19 rfl
def lgX11_nothingIsFound_141 : List (Nat × Instr × Nat) := [(0, .aload_n 0, 1), (1, .iconst 1, 1), (2, .putfield 94, 3), (5, .aload_n 0, 1), (6, .iconst 1, 1), (7, .putfield 98, 3), (10, .aload_n 0, 1), (11, .iconst 1, 1), (12, .putfield 101, 3), (15, .return_, 1)]
theorem dgX11_nothingIsFound_141 : ∀ q ∈ lgX11_nothingIsFound_141, decode cX11_nothingIsFound q.1 = .ok (q.2.1, q.2.2) := by decide +kernel
theorem dX11_nothingIsFound_0 : decode cX11_nothingIsFound 0 = .ok (.aload_n 0, 1) := dall dgX11_nothingIsFound_141 0 rfl
theorem dX11_nothingIsFound_1 : decode cX11_nothingIsFound 1 = .ok (.iconst 1, 1) := dall dgX11_nothingIsFound_141 1 rfl
theorem dX11_nothingIsFound_2 : decode cX11_nothingIsFound 2 = .ok (.putfield 94, 3) := dall dgX11_nothingIsFound_141 2 rfl
theorem dX11_nothingIsFound_5 : decode cX11_nothingIsFound 5 = .ok (.aload_n 0, 1) := dall dgX11_nothingIsFound_141 3 rfl
theorem dX11_nothingIsFound_6 : decode cX11_nothingIsFound 6 = .ok (.iconst 1, 1) := dall dgX11_nothingIsFound_141 4 rfl
theorem dX11_nothingIsFound_7 : decode cX11_nothingIsFound 7 = .ok (.putfield 98, 3) := dall dgX11_nothingIsFound_141 5 rfl
theorem dX11_nothingIsFound_10 : decode cX11_nothingIsFound 10 = .ok (.aload_n 0, 1) := dall dgX11_nothingIsFound_141 6 rfl
theorem dX11_nothingIsFound_11 : decode cX11_nothingIsFound 11 = .ok (.iconst 1, 1) := dall dgX11_nothingIsFound_141 7 rfl
theorem dX11_nothingIsFound_12 : decode cX11_nothingIsFound 12 = .ok (.putfield 101, 3) := dall dgX11_nothingIsFound_141 8 rfl
theorem dX11_nothingIsFound_15 : decode cX11_nothingIsFound 15 = .ok (.return_, 1) := dall dgX11_nothingIsFound_141 9 rfl
def lgX11_cutNow_142 : List (Nat × Instr × Nat) := [(0, .aload_n 0, 1), (1, .getfield 94, 3), (4, .ifCond .eq 39, 3), (7, .aload_n 0, 1), (8, .getfield 33, 3), (11, .aload_n 0, 1), (12, .getfield 19, 3), (15, .aload_n 0, 1), (16, .getfield 26, 3), (19, .aload_n 0, 1), (20, .getfield 10, 3), (23, .iconst 0, 1), (24, .invokevirtual 122, 3), (27, .aload_n 0, 1), (28, .getfield 10, 3), (31, .iconst 1, 1), (32, .invokevirtual 122, 3), (35, .invokevirtual 302, 3), (38, .aload_n 0, 1), (39, .iconst 0, 1), (40, .putfield 94, 3), (43, .return_, 1)]
theorem dgX11_cutNow_142 : ∀ q ∈ lgX11_cutNow_142, decode cX11_cutNow q.1 = .ok (q.2.1, q.2.2) := by decide +kernel
theorem dX11_cutNow_0 : decode cX11_cutNow 0 = .ok (.aload_n 0, 1) := dall dgX11_cutNow_142 0 rfl
theorem dX11_cutNow_1 : decode cX11_cutNow 1 = .ok (.getfield 94, 3) := dall dgX11_cutNow_142 1 rfl
theorem dX11_cutNow_4 : decode cX11_cutNow 4 = .ok (.ifCond .eq 39, 3) := dall dgX11_cutNow_142 2 rfl
theorem dX11_cutNow_7 : decode cX11_cutNow 7 = .ok (.aload_n 0, 1) := dall dgX11_cutNow_142 3 rfl
theorem dX11_cutNow_8 : decode cX11_cutNow 8 = .ok (.getfield 33, 3) := dall dgX11_cutNow_142 4 rfl
theorem dX11_cutNow_11 : decode cX11_cutNow 11 = .ok (.aload_n 0, 1) := dall dgX11_cutNow_142 5 rfl
theorem dX11_cutNow_12 : decode cX11_cutNow 12 = .ok (.getfield 19, 3) := dall dgX11_cutNow_142 6 rfl
theorem dX11_cutNow_15 : decode cX11_cutNow 15 = .ok (.aload_n 0, 1) := dall dgX11_cutNow_142 7 rfl
theorem dX11_cutNow_16 : decode cX11_cutNow 16 = .ok (.getfield 26, 3) := dall dgX11_cutNow_142 8 rfl
theorem dX11_cutNow_19 : decode cX11_cutNow 19 = .ok (.aload_n 0, 1) := dall dgX11_cutNow_142 9 rfl
theorem dX11_cutNow_20 : decode cX11_cutNow 20 = .ok (.getfield 10, 3) := dall dgX11_cutNow_142 10 rfl
theorem dX11_cutNow_23 : decode cX11_cutNow 23 = .ok (.iconst 0, 1) := dall dgX11_cutNow_142 11 rfl
theorem dX11_cutNow_24 : decode cX11_cutNow 24 = .ok (.invokevirtual 122, 3) := dall dgX11_cutNow_142 12 rfl
theorem dX11_cutNow_27 : decode cX11_cutNow 27 = .ok (.aload_n 0, 1) := dall dgX11_cutNow_142 13 rfl
theorem dX11_cutNow_28 : decode cX11_cutNow 28 = .ok (.getfield 10, 3) := dall dgX11_cutNow_142 14 rfl
theorem dX11_cutNow_31 : decode cX11_cutNow 31 = .ok (.iconst 1, 1) := dall dgX11_cutNow_142 15 rfl
theorem dX11_cutNow_32 : decode cX11_cutNow 32 = .ok (.invokevirtual 122, 3) := dall dgX11_cutNow_142 16 rfl
theorem dX11_cutNow_35 : decode cX11_cutNow 35 = .ok (.invokevirtual 302, 3) := dall dgX11_cutNow_142 17 rfl
theorem dX11_cutNow_38 : decode cX11_cutNow 38 = .ok (.aload_n 0, 1) := dall dgX11_cutNow_142 18 rfl
theorem dX11_cutNow_39 : decode cX11_cutNow 39 = .ok (.iconst 0, 1) := dall dgX11_cutNow_142 19 rfl
theorem dX11_cutNow_40 : decode cX11_cutNow 40 = .ok (.putfield 94, 3) := dall dgX11_cutNow_142 20 rfl
theorem dX11_cutNow_43 : decode cX11_cutNow 43 = .ok (.return_, 1) := dall dgX11_cutNow_142 21 rfl
def lgX11_heapNow_143 : List (Nat × Instr × Nat) := [(0, .aload_n 0, 1), (1, .invokevirtual 151, 3), (4, .aload_n 0, 1), (5, .getfield 33, 3), (8, .getfield 154, 3), (11, .bipush 9, 2), (13, .if_icmp .le 5, 3), (16, .iconst 0, 1), (17, .ireturn, 1), (18, .aload_n 0, 1), (19, .getfield 98, 3), (22, .ifCond .eq 79, 3), (25, .aload_n 0, 1), (26, .getfield 40, 3), (29, .aload_n 0, 1), (30, .getfield 33, 3), (33, .aload_n 0, 1), (34, .getfield 10, 3), (37, .iconst 2, 1), (38, .invokevirtual 122, 3), (41, .aload_n 0, 1), (42, .getfield 10, 3), (45, .iconst 4, 1), (46, .invokevirtual 122, 3), (49, .invokevirtual 306, 3), (52, .aload_n 0, 1), (53, .getfield 47, 3), (56, .aload_n 0, 1), (57, .getfield 40, 3), (60, .invokevirtual 310, 3), (63, .aload_n 0, 1), (64, .getfield 47, 3), (67, .getfield 228, 3), (70, .aload_n 0, 1), (71, .getfield 19, 3), (74, .aload_n 0, 1), (75, .getfield 26, 3), (78, .aload_n 0, 1), (79, .getfield 33, 3), (82, .invokevirtual 314, 3), (85, .aload_n 0, 1), (86, .getfield 40, 3), (89, .aload_n 0, 1), (90, .getfield 54, 3), (93, .invokevirtual 318, 3), (96, .aload_n 0, 1), (97, .iconst 0, 1), (98, .putfield 98, 3), (101, .iconst 1, 1), (102, .ireturn, 1)]
theorem dgX11_heapNow_143 : ∀ q ∈ lgX11_heapNow_143, decode cX11_heapNow q.1 = .ok (q.2.1, q.2.2) := by decide +kernel
theorem dX11_heapNow_0 : decode cX11_heapNow 0 = .ok (.aload_n 0, 1) := dall dgX11_heapNow_143 0 rfl
theorem dX11_heapNow_1 : decode cX11_heapNow 1 = .ok (.invokevirtual 151, 3) := dall dgX11_heapNow_143 1 rfl
theorem dX11_heapNow_4 : decode cX11_heapNow 4 = .ok (.aload_n 0, 1) := dall dgX11_heapNow_143 2 rfl
theorem dX11_heapNow_5 : decode cX11_heapNow 5 = .ok (.getfield 33, 3) := dall dgX11_heapNow_143 3 rfl
theorem dX11_heapNow_8 : decode cX11_heapNow 8 = .ok (.getfield 154, 3) := dall dgX11_heapNow_143 4 rfl
theorem dX11_heapNow_11 : decode cX11_heapNow 11 = .ok (.bipush 9, 2) := dall dgX11_heapNow_143 5 rfl
theorem dX11_heapNow_13 : decode cX11_heapNow 13 = .ok (.if_icmp .le 5, 3) := dall dgX11_heapNow_143 6 rfl
theorem dX11_heapNow_16 : decode cX11_heapNow 16 = .ok (.iconst 0, 1) := dall dgX11_heapNow_143 7 rfl
theorem dX11_heapNow_17 : decode cX11_heapNow 17 = .ok (.ireturn, 1) := dall dgX11_heapNow_143 8 rfl
theorem dX11_heapNow_18 : decode cX11_heapNow 18 = .ok (.aload_n 0, 1) := dall dgX11_heapNow_143 9 rfl
theorem dX11_heapNow_19 : decode cX11_heapNow 19 = .ok (.getfield 98, 3) := dall dgX11_heapNow_143 10 rfl
theorem dX11_heapNow_22 : decode cX11_heapNow 22 = .ok (.ifCond .eq 79, 3) := dall dgX11_heapNow_143 11 rfl
theorem dX11_heapNow_25 : decode cX11_heapNow 25 = .ok (.aload_n 0, 1) := dall dgX11_heapNow_143 12 rfl
theorem dX11_heapNow_26 : decode cX11_heapNow 26 = .ok (.getfield 40, 3) := dall dgX11_heapNow_143 13 rfl
theorem dX11_heapNow_29 : decode cX11_heapNow 29 = .ok (.aload_n 0, 1) := dall dgX11_heapNow_143 14 rfl
theorem dX11_heapNow_30 : decode cX11_heapNow 30 = .ok (.getfield 33, 3) := dall dgX11_heapNow_143 15 rfl
theorem dX11_heapNow_33 : decode cX11_heapNow 33 = .ok (.aload_n 0, 1) := dall dgX11_heapNow_143 16 rfl
theorem dX11_heapNow_34 : decode cX11_heapNow 34 = .ok (.getfield 10, 3) := dall dgX11_heapNow_143 17 rfl
theorem dX11_heapNow_37 : decode cX11_heapNow 37 = .ok (.iconst 2, 1) := dall dgX11_heapNow_143 18 rfl
theorem dX11_heapNow_38 : decode cX11_heapNow 38 = .ok (.invokevirtual 122, 3) := dall dgX11_heapNow_143 19 rfl
theorem dX11_heapNow_41 : decode cX11_heapNow 41 = .ok (.aload_n 0, 1) := dall dgX11_heapNow_143 20 rfl
theorem dX11_heapNow_42 : decode cX11_heapNow 42 = .ok (.getfield 10, 3) := dall dgX11_heapNow_143 21 rfl
theorem dX11_heapNow_45 : decode cX11_heapNow 45 = .ok (.iconst 4, 1) := dall dgX11_heapNow_143 22 rfl
theorem dX11_heapNow_46 : decode cX11_heapNow 46 = .ok (.invokevirtual 122, 3) := dall dgX11_heapNow_143 23 rfl
theorem dX11_heapNow_49 : decode cX11_heapNow 49 = .ok (.invokevirtual 306, 3) := dall dgX11_heapNow_143 24 rfl
theorem dX11_heapNow_52 : decode cX11_heapNow 52 = .ok (.aload_n 0, 1) := dall dgX11_heapNow_143 25 rfl
theorem dX11_heapNow_53 : decode cX11_heapNow 53 = .ok (.getfield 47, 3) := dall dgX11_heapNow_143 26 rfl
theorem dX11_heapNow_56 : decode cX11_heapNow 56 = .ok (.aload_n 0, 1) := dall dgX11_heapNow_143 27 rfl
theorem dX11_heapNow_57 : decode cX11_heapNow 57 = .ok (.getfield 40, 3) := dall dgX11_heapNow_143 28 rfl
theorem dX11_heapNow_60 : decode cX11_heapNow 60 = .ok (.invokevirtual 310, 3) := dall dgX11_heapNow_143 29 rfl
theorem dX11_heapNow_63 : decode cX11_heapNow 63 = .ok (.aload_n 0, 1) := dall dgX11_heapNow_143 30 rfl
theorem dX11_heapNow_64 : decode cX11_heapNow 64 = .ok (.getfield 47, 3) := dall dgX11_heapNow_143 31 rfl
theorem dX11_heapNow_67 : decode cX11_heapNow 67 = .ok (.getfield 228, 3) := dall dgX11_heapNow_143 32 rfl
theorem dX11_heapNow_70 : decode cX11_heapNow 70 = .ok (.aload_n 0, 1) := dall dgX11_heapNow_143 33 rfl
theorem dX11_heapNow_71 : decode cX11_heapNow 71 = .ok (.getfield 19, 3) := dall dgX11_heapNow_143 34 rfl
theorem dX11_heapNow_74 : decode cX11_heapNow 74 = .ok (.aload_n 0, 1) := dall dgX11_heapNow_143 35 rfl
theorem dX11_heapNow_75 : decode cX11_heapNow 75 = .ok (.getfield 26, 3) := dall dgX11_heapNow_143 36 rfl
theorem dX11_heapNow_78 : decode cX11_heapNow 78 = .ok (.aload_n 0, 1) := dall dgX11_heapNow_143 37 rfl
theorem dX11_heapNow_79 : decode cX11_heapNow 79 = .ok (.getfield 33, 3) := dall dgX11_heapNow_143 38 rfl
theorem dX11_heapNow_82 : decode cX11_heapNow 82 = .ok (.invokevirtual 314, 3) := dall dgX11_heapNow_143 39 rfl
theorem dX11_heapNow_85 : decode cX11_heapNow 85 = .ok (.aload_n 0, 1) := dall dgX11_heapNow_143 40 rfl
theorem dX11_heapNow_86 : decode cX11_heapNow 86 = .ok (.getfield 40, 3) := dall dgX11_heapNow_143 41 rfl
theorem dX11_heapNow_89 : decode cX11_heapNow 89 = .ok (.aload_n 0, 1) := dall dgX11_heapNow_143 42 rfl
theorem dX11_heapNow_90 : decode cX11_heapNow 90 = .ok (.getfield 54, 3) := dall dgX11_heapNow_143 43 rfl
theorem dX11_heapNow_93 : decode cX11_heapNow 93 = .ok (.invokevirtual 318, 3) := dall dgX11_heapNow_143 44 rfl
theorem dX11_heapNow_96 : decode cX11_heapNow 96 = .ok (.aload_n 0, 1) := dall dgX11_heapNow_143 45 rfl
theorem dX11_heapNow_97 : decode cX11_heapNow 97 = .ok (.iconst 0, 1) := dall dgX11_heapNow_143 46 rfl
theorem dX11_heapNow_98 : decode cX11_heapNow 98 = .ok (.putfield 98, 3) := dall dgX11_heapNow_143 47 rfl
theorem dX11_heapNow_101 : decode cX11_heapNow 101 = .ok (.iconst 1, 1) := dall dgX11_heapNow_143 48 rfl
theorem dX11_heapNow_102 : decode cX11_heapNow 102 = .ok (.ireturn, 1) := dall dgX11_heapNow_143 49 rfl
def lgX11_nearNow_144 : List (Nat × Instr × Nat) := [(0, .aload_n 0, 1), (1, .getfield 101, 3), (4, .ifCond .eq 27, 3), (7, .aload_n 0, 1), (8, .getfield 47, 3), (11, .aload_n 0, 1), (12, .getfield 40, 3), (15, .aload_n 0, 1), (16, .getfield 10, 3), (19, .iconst 3, 1), (20, .invokevirtual 122, 3), (23, .invokevirtual 322, 3), (26, .aload_n 0, 1), (27, .iconst 0, 1), (28, .putfield 101, 3), (31, .return_, 1)]
theorem dgX11_nearNow_144 : ∀ q ∈ lgX11_nearNow_144, decode cX11_nearNow q.1 = .ok (q.2.1, q.2.2) := by decide +kernel
theorem dX11_nearNow_0 : decode cX11_nearNow 0 = .ok (.aload_n 0, 1) := dall dgX11_nearNow_144 0 rfl
theorem dX11_nearNow_1 : decode cX11_nearNow 1 = .ok (.getfield 101, 3) := dall dgX11_nearNow_144 1 rfl
theorem dX11_nearNow_4 : decode cX11_nearNow 4 = .ok (.ifCond .eq 27, 3) := dall dgX11_nearNow_144 2 rfl
theorem dX11_nearNow_7 : decode cX11_nearNow 7 = .ok (.aload_n 0, 1) := dall dgX11_nearNow_144 3 rfl
theorem dX11_nearNow_8 : decode cX11_nearNow 8 = .ok (.getfield 47, 3) := dall dgX11_nearNow_144 4 rfl
theorem dX11_nearNow_11 : decode cX11_nearNow 11 = .ok (.aload_n 0, 1) := dall dgX11_nearNow_144 5 rfl
theorem dX11_nearNow_12 : decode cX11_nearNow 12 = .ok (.getfield 40, 3) := dall dgX11_nearNow_144 6 rfl
theorem dX11_nearNow_15 : decode cX11_nearNow 15 = .ok (.aload_n 0, 1) := dall dgX11_nearNow_144 7 rfl
theorem dX11_nearNow_16 : decode cX11_nearNow 16 = .ok (.getfield 10, 3) := dall dgX11_nearNow_144 8 rfl
theorem dX11_nearNow_19 : decode cX11_nearNow 19 = .ok (.iconst 3, 1) := dall dgX11_nearNow_144 9 rfl
theorem dX11_nearNow_20 : decode cX11_nearNow 20 = .ok (.invokevirtual 122, 3) := dall dgX11_nearNow_144 10 rfl
theorem dX11_nearNow_23 : decode cX11_nearNow 23 = .ok (.invokevirtual 322, 3) := dall dgX11_nearNow_144 11 rfl
theorem dX11_nearNow_26 : decode cX11_nearNow 26 = .ok (.aload_n 0, 1) := dall dgX11_nearNow_144 12 rfl
theorem dX11_nearNow_27 : decode cX11_nearNow 27 = .ok (.iconst 0, 1) := dall dgX11_nearNow_144 13 rfl
theorem dX11_nearNow_28 : decode cX11_nearNow 28 = .ok (.putfield 101, 3) := dall dgX11_nearNow_144 14 rfl
theorem dX11_nearNow_31 : decode cX11_nearNow 31 = .ok (.return_, 1) := dall dgX11_nearNow_144 15 rfl
def lgX11_off_145 : List (Nat × Instr × Nat) := [(0, .iload_n 1, 1), (1, .ifCond .lt 23, 3), (4, .iload_n 1, 1), (5, .aload_n 0, 1), (6, .arraylength, 1), (7, .iconst 4, 1), (8, .isub, 1), (9, .if_icmp .gt 15, 3), (12, .iload_n 3, 1), (13, .ifCond .lt 11, 3), (16, .iload_n 3, 1), (17, .aload_n 2, 1), (18, .arraylength, 1), (19, .iconst 4, 1), (20, .isub, 1), (21, .if_icmp .le 5, 3), (24, .iconst 0, 1), (25, .ireturn, 1), (26, .iconst 0, 1), (27, .istore 4, 2), (29, .iconst 0, 1), (30, .istore 5, 2), (32, .iload 5, 2), (34, .iconst 4, 1), (35, .if_icmp .ge 30, 3), (38, .iload 4, 2), (40, .aload_n 0, 1), (41, .iload_n 1, 1), (42, .iload 5, 2), (44, .iadd, 1), (45, .iaload, 1), (46, .aload_n 2, 1), (47, .iload_n 3, 1), (48, .iload 5, 2), (50, .iadd, 1), (51, .iaload, 1), (52, .isub, 1), (53, .invokestatic 326, 3), (56, .iadd, 1), (57, .istore 4, 2), (59, .iinc 5 1, 3), (62, .goto (-30), 3), (65, .iload 4, 2), (67, .ireturn, 1)]
theorem dgX11_off_145 : ∀ q ∈ lgX11_off_145, decode cX11_off q.1 = .ok (q.2.1, q.2.2) := by decide +kernel
theorem dX11_off_0 : decode cX11_off 0 = .ok (.iload_n 1, 1) := dall dgX11_off_145 0 rfl
theorem dX11_off_1 : decode cX11_off 1 = .ok (.ifCond .lt 23, 3) := dall dgX11_off_145 1 rfl
theorem dX11_off_4 : decode cX11_off 4 = .ok (.iload_n 1, 1) := dall dgX11_off_145 2 rfl
theorem dX11_off_5 : decode cX11_off 5 = .ok (.aload_n 0, 1) := dall dgX11_off_145 3 rfl
theorem dX11_off_6 : decode cX11_off 6 = .ok (.arraylength, 1) := dall dgX11_off_145 4 rfl
theorem dX11_off_7 : decode cX11_off 7 = .ok (.iconst 4, 1) := dall dgX11_off_145 5 rfl
theorem dX11_off_8 : decode cX11_off 8 = .ok (.isub, 1) := dall dgX11_off_145 6 rfl
theorem dX11_off_9 : decode cX11_off 9 = .ok (.if_icmp .gt 15, 3) := dall dgX11_off_145 7 rfl
theorem dX11_off_12 : decode cX11_off 12 = .ok (.iload_n 3, 1) := dall dgX11_off_145 8 rfl
theorem dX11_off_13 : decode cX11_off 13 = .ok (.ifCond .lt 11, 3) := dall dgX11_off_145 9 rfl
theorem dX11_off_16 : decode cX11_off 16 = .ok (.iload_n 3, 1) := dall dgX11_off_145 10 rfl
theorem dX11_off_17 : decode cX11_off 17 = .ok (.aload_n 2, 1) := dall dgX11_off_145 11 rfl
theorem dX11_off_18 : decode cX11_off 18 = .ok (.arraylength, 1) := dall dgX11_off_145 12 rfl
theorem dX11_off_19 : decode cX11_off 19 = .ok (.iconst 4, 1) := dall dgX11_off_145 13 rfl
theorem dX11_off_20 : decode cX11_off 20 = .ok (.isub, 1) := dall dgX11_off_145 14 rfl
theorem dX11_off_21 : decode cX11_off 21 = .ok (.if_icmp .le 5, 3) := dall dgX11_off_145 15 rfl
theorem dX11_off_24 : decode cX11_off 24 = .ok (.iconst 0, 1) := dall dgX11_off_145 16 rfl
theorem dX11_off_25 : decode cX11_off 25 = .ok (.ireturn, 1) := dall dgX11_off_145 17 rfl
theorem dX11_off_26 : decode cX11_off 26 = .ok (.iconst 0, 1) := dall dgX11_off_145 18 rfl
theorem dX11_off_27 : decode cX11_off 27 = .ok (.istore 4, 2) := dall dgX11_off_145 19 rfl
theorem dX11_off_29 : decode cX11_off 29 = .ok (.iconst 0, 1) := dall dgX11_off_145 20 rfl
theorem dX11_off_30 : decode cX11_off 30 = .ok (.istore 5, 2) := dall dgX11_off_145 21 rfl
theorem dX11_off_32 : decode cX11_off 32 = .ok (.iload 5, 2) := dall dgX11_off_145 22 rfl
theorem dX11_off_34 : decode cX11_off 34 = .ok (.iconst 4, 1) := dall dgX11_off_145 23 rfl
theorem dX11_off_35 : decode cX11_off 35 = .ok (.if_icmp .ge 30, 3) := dall dgX11_off_145 24 rfl
theorem dX11_off_38 : decode cX11_off 38 = .ok (.iload 4, 2) := dall dgX11_off_145 25 rfl
theorem dX11_off_40 : decode cX11_off 40 = .ok (.aload_n 0, 1) := dall dgX11_off_145 26 rfl
theorem dX11_off_41 : decode cX11_off 41 = .ok (.iload_n 1, 1) := dall dgX11_off_145 27 rfl
theorem dX11_off_42 : decode cX11_off 42 = .ok (.iload 5, 2) := dall dgX11_off_145 28 rfl
theorem dX11_off_44 : decode cX11_off 44 = .ok (.iadd, 1) := dall dgX11_off_145 29 rfl
theorem dX11_off_45 : decode cX11_off 45 = .ok (.iaload, 1) := dall dgX11_off_145 30 rfl
theorem dX11_off_46 : decode cX11_off 46 = .ok (.aload_n 2, 1) := dall dgX11_off_145 31 rfl
theorem dX11_off_47 : decode cX11_off 47 = .ok (.iload_n 3, 1) := dall dgX11_off_145 32 rfl
theorem dX11_off_48 : decode cX11_off 48 = .ok (.iload 5, 2) := dall dgX11_off_145 33 rfl
theorem dX11_off_50 : decode cX11_off 50 = .ok (.iadd, 1) := dall dgX11_off_145 34 rfl
theorem dX11_off_51 : decode cX11_off 51 = .ok (.iaload, 1) := dall dgX11_off_145 35 rfl
theorem dX11_off_52 : decode cX11_off 52 = .ok (.isub, 1) := dall dgX11_off_145 36 rfl
theorem dX11_off_53 : decode cX11_off 53 = .ok (.invokestatic 326, 3) := dall dgX11_off_145 37 rfl
theorem dX11_off_56 : decode cX11_off 56 = .ok (.iadd, 1) := dall dgX11_off_145 38 rfl
theorem dX11_off_57 : decode cX11_off 57 = .ok (.istore 4, 2) := dall dgX11_off_145 39 rfl
theorem dX11_off_59 : decode cX11_off 59 = .ok (.iinc 5 1, 3) := dall dgX11_off_145 40 rfl
theorem dX11_off_62 : decode cX11_off 62 = .ok (.goto (-30), 3) := dall dgX11_off_145 41 rfl
theorem dX11_off_65 : decode cX11_off 65 = .ok (.iload 4, 2) := dall dgX11_off_145 42 rfl
theorem dX11_off_67 : decode cX11_off 67 = .ok (.ireturn, 1) := dall dgX11_off_145 43 rfl
def lgX12_init_146 : List (Nat × Instr × Nat) := [(0, .aload_n 0, 1), (1, .invokespecial 1, 3), (4, .aload_n 0, 1), (5, .bipush 12, 2), (7, .newarray .int, 2), (9, .putfield 7, 3), (12, .aload_n 0, 1), (13, .sipush 200, 3), (16, .newarray .byte, 2), (18, .putfield 13, 3), (21, .aload_n 0, 1), (22, .sipush 192, 3), (25, .newarray .int, 2), (27, .putfield 17, 3), (30, .aload_n 0, 1), (31, .bipush 48, 2), (33, .newarray .boolean, 2), (35, .putfield 20, 3), (38, .aload_n 0, 1), (39, .bipush 48, 2), (41, .newarray .boolean, 2), (43, .putfield 24, 3), (46, .aload_n 0, 1), (47, .bipush 48, 2), (49, .newarray .int, 2), (51, .putfield 27, 3), (54, .aload_n 0, 1), (55, .bipush 12, 2), (57, .newarray .int, 2), (59, .putfield 30, 3), (62, .aload_n 0, 1), (63, .bipush 12, 2), (65, .newarray .int, 2), (67, .putfield 33, 3), (70, .aload_n 0, 1), (71, .bipush 48, 2), (73, .newarray .int, 2), (75, .putfield 36, 3), (78, .aload_n 0, 1), (79, .bipush 48, 2), (81, .newarray .int, 2), (83, .putfield 39, 3), (86, .aload_n 0, 1), (87, .bipush 48, 2), (89, .newarray .int, 2), (91, .putfield 42, 3), (94, .aload_n 0, 1), (95, .bipush 48, 2), (97, .newarray .int, 2), (99, .putfield 45, 3)]
theorem dgX12_init_146 : ∀ q ∈ lgX12_init_146, decode cX12_init q.1 = .ok (q.2.1, q.2.2) := by decide +kernel
theorem dX12_init_0 : decode cX12_init 0 = .ok (.aload_n 0, 1) := dall dgX12_init_146 0 rfl
theorem dX12_init_1 : decode cX12_init 1 = .ok (.invokespecial 1, 3) := dall dgX12_init_146 1 rfl
theorem dX12_init_4 : decode cX12_init 4 = .ok (.aload_n 0, 1) := dall dgX12_init_146 2 rfl
theorem dX12_init_5 : decode cX12_init 5 = .ok (.bipush 12, 2) := dall dgX12_init_146 3 rfl
theorem dX12_init_7 : decode cX12_init 7 = .ok (.newarray .int, 2) := dall dgX12_init_146 4 rfl
theorem dX12_init_9 : decode cX12_init 9 = .ok (.putfield 7, 3) := dall dgX12_init_146 5 rfl
theorem dX12_init_12 : decode cX12_init 12 = .ok (.aload_n 0, 1) := dall dgX12_init_146 6 rfl
theorem dX12_init_13 : decode cX12_init 13 = .ok (.sipush 200, 3) := dall dgX12_init_146 7 rfl
theorem dX12_init_16 : decode cX12_init 16 = .ok (.newarray .byte, 2) := dall dgX12_init_146 8 rfl
theorem dX12_init_18 : decode cX12_init 18 = .ok (.putfield 13, 3) := dall dgX12_init_146 9 rfl
theorem dX12_init_21 : decode cX12_init 21 = .ok (.aload_n 0, 1) := dall dgX12_init_146 10 rfl
theorem dX12_init_22 : decode cX12_init 22 = .ok (.sipush 192, 3) := dall dgX12_init_146 11 rfl
theorem dX12_init_25 : decode cX12_init 25 = .ok (.newarray .int, 2) := dall dgX12_init_146 12 rfl
theorem dX12_init_27 : decode cX12_init 27 = .ok (.putfield 17, 3) := dall dgX12_init_146 13 rfl
theorem dX12_init_30 : decode cX12_init 30 = .ok (.aload_n 0, 1) := dall dgX12_init_146 14 rfl
theorem dX12_init_31 : decode cX12_init 31 = .ok (.bipush 48, 2) := dall dgX12_init_146 15 rfl
theorem dX12_init_33 : decode cX12_init 33 = .ok (.newarray .boolean, 2) := dall dgX12_init_146 16 rfl
theorem dX12_init_35 : decode cX12_init 35 = .ok (.putfield 20, 3) := dall dgX12_init_146 17 rfl
theorem dX12_init_38 : decode cX12_init 38 = .ok (.aload_n 0, 1) := dall dgX12_init_146 18 rfl
theorem dX12_init_39 : decode cX12_init 39 = .ok (.bipush 48, 2) := dall dgX12_init_146 19 rfl
theorem dX12_init_41 : decode cX12_init 41 = .ok (.newarray .boolean, 2) := dall dgX12_init_146 20 rfl
theorem dX12_init_43 : decode cX12_init 43 = .ok (.putfield 24, 3) := dall dgX12_init_146 21 rfl
theorem dX12_init_46 : decode cX12_init 46 = .ok (.aload_n 0, 1) := dall dgX12_init_146 22 rfl
theorem dX12_init_47 : decode cX12_init 47 = .ok (.bipush 48, 2) := dall dgX12_init_146 23 rfl
theorem dX12_init_49 : decode cX12_init 49 = .ok (.newarray .int, 2) := dall dgX12_init_146 24 rfl
theorem dX12_init_51 : decode cX12_init 51 = .ok (.putfield 27, 3) := dall dgX12_init_146 25 rfl
theorem dX12_init_54 : decode cX12_init 54 = .ok (.aload_n 0, 1) := dall dgX12_init_146 26 rfl
theorem dX12_init_55 : decode cX12_init 55 = .ok (.bipush 12, 2) := dall dgX12_init_146 27 rfl
theorem dX12_init_57 : decode cX12_init 57 = .ok (.newarray .int, 2) := dall dgX12_init_146 28 rfl
theorem dX12_init_59 : decode cX12_init 59 = .ok (.putfield 30, 3) := dall dgX12_init_146 29 rfl
theorem dX12_init_62 : decode cX12_init 62 = .ok (.aload_n 0, 1) := dall dgX12_init_146 30 rfl
theorem dX12_init_63 : decode cX12_init 63 = .ok (.bipush 12, 2) := dall dgX12_init_146 31 rfl
theorem dX12_init_65 : decode cX12_init 65 = .ok (.newarray .int, 2) := dall dgX12_init_146 32 rfl
theorem dX12_init_67 : decode cX12_init 67 = .ok (.putfield 33, 3) := dall dgX12_init_146 33 rfl
theorem dX12_init_70 : decode cX12_init 70 = .ok (.aload_n 0, 1) := dall dgX12_init_146 34 rfl
theorem dX12_init_71 : decode cX12_init 71 = .ok (.bipush 48, 2) := dall dgX12_init_146 35 rfl
theorem dX12_init_73 : decode cX12_init 73 = .ok (.newarray .int, 2) := dall dgX12_init_146 36 rfl
theorem dX12_init_75 : decode cX12_init 75 = .ok (.putfield 36, 3) := dall dgX12_init_146 37 rfl
theorem dX12_init_78 : decode cX12_init 78 = .ok (.aload_n 0, 1) := dall dgX12_init_146 38 rfl
theorem dX12_init_79 : decode cX12_init 79 = .ok (.bipush 48, 2) := dall dgX12_init_146 39 rfl
theorem dX12_init_81 : decode cX12_init 81 = .ok (.newarray .int, 2) := dall dgX12_init_146 40 rfl
theorem dX12_init_83 : decode cX12_init 83 = .ok (.putfield 39, 3) := dall dgX12_init_146 41 rfl
theorem dX12_init_86 : decode cX12_init 86 = .ok (.aload_n 0, 1) := dall dgX12_init_146 42 rfl
theorem dX12_init_87 : decode cX12_init 87 = .ok (.bipush 48, 2) := dall dgX12_init_146 43 rfl
theorem dX12_init_89 : decode cX12_init 89 = .ok (.newarray .int, 2) := dall dgX12_init_146 44 rfl
theorem dX12_init_91 : decode cX12_init 91 = .ok (.putfield 42, 3) := dall dgX12_init_146 45 rfl
theorem dX12_init_94 : decode cX12_init 94 = .ok (.aload_n 0, 1) := dall dgX12_init_146 46 rfl
theorem dX12_init_95 : decode cX12_init 95 = .ok (.bipush 48, 2) := dall dgX12_init_146 47 rfl
theorem dX12_init_97 : decode cX12_init 97 = .ok (.newarray .int, 2) := dall dgX12_init_146 48 rfl
theorem dX12_init_99 : decode cX12_init 99 = .ok (.putfield 45, 3) := dall dgX12_init_146 49 rfl
def lgX12_init_147 : List (Nat × Instr × Nat) := [(102, .aload_n 0, 1), (103, .sipush 192, 3), (106, .newarray .int, 2), (108, .putfield 48, 3), (111, .aload_n 0, 1), (112, .bipush 48, 2), (114, .newarray .int, 2), (116, .putfield 51, 3), (119, .aload_n 0, 1), (120, .bipush 48, 2), (122, .newarray .boolean, 2), (124, .putfield 54, 3), (127, .aload_n 0, 1), (128, .iconst 4, 1), (129, .newarray .int, 2), (131, .putfield 57, 3), (134, .aload_n 0, 1), (135, .bipush 48, 2), (137, .newarray .int, 2), (139, .putfield 60, 3), (142, .aload_n 0, 1), (143, .bipush 49, 2), (145, .newarray .int, 2), (147, .putfield 63, 3), (150, .aload_n 0, 1), (151, .bipush 48, 2), (153, .newarray .int, 2), (155, .putfield 66, 3), (158, .aload_n 0, 1), (159, .bipush 10, 2), (161, .newarray .int, 2), (163, .putfield 69, 3), (166, .aload_n 0, 1), (167, .bipush 10, 2), (169, .newarray .int, 2), (171, .putfield 72, 3), (174, .aload_n 0, 1), (175, .bipush 10, 2), (177, .newarray .int, 2), (179, .putfield 75, 3), (182, .aload_n 0, 1), (183, .bipush 81, 2), (185, .newarray .int, 2), (187, .putfield 78, 3), (190, .aload_n 0, 1), (191, .bipush 36, 2), (193, .newarray .int, 2), (195, .putfield 81, 3), (198, .aload_n 0, 1), (199, .bipush 6, 2)]
theorem dgX12_init_147 : ∀ q ∈ lgX12_init_147, decode cX12_init q.1 = .ok (q.2.1, q.2.2) := by decide +kernel
theorem dX12_init_102 : decode cX12_init 102 = .ok (.aload_n 0, 1) := dall dgX12_init_147 0 rfl
theorem dX12_init_103 : decode cX12_init 103 = .ok (.sipush 192, 3) := dall dgX12_init_147 1 rfl
theorem dX12_init_106 : decode cX12_init 106 = .ok (.newarray .int, 2) := dall dgX12_init_147 2 rfl
theorem dX12_init_108 : decode cX12_init 108 = .ok (.putfield 48, 3) := dall dgX12_init_147 3 rfl
theorem dX12_init_111 : decode cX12_init 111 = .ok (.aload_n 0, 1) := dall dgX12_init_147 4 rfl
theorem dX12_init_112 : decode cX12_init 112 = .ok (.bipush 48, 2) := dall dgX12_init_147 5 rfl
theorem dX12_init_114 : decode cX12_init 114 = .ok (.newarray .int, 2) := dall dgX12_init_147 6 rfl
theorem dX12_init_116 : decode cX12_init 116 = .ok (.putfield 51, 3) := dall dgX12_init_147 7 rfl
theorem dX12_init_119 : decode cX12_init 119 = .ok (.aload_n 0, 1) := dall dgX12_init_147 8 rfl
theorem dX12_init_120 : decode cX12_init 120 = .ok (.bipush 48, 2) := dall dgX12_init_147 9 rfl
theorem dX12_init_122 : decode cX12_init 122 = .ok (.newarray .boolean, 2) := dall dgX12_init_147 10 rfl
theorem dX12_init_124 : decode cX12_init 124 = .ok (.putfield 54, 3) := dall dgX12_init_147 11 rfl
theorem dX12_init_127 : decode cX12_init 127 = .ok (.aload_n 0, 1) := dall dgX12_init_147 12 rfl
theorem dX12_init_128 : decode cX12_init 128 = .ok (.iconst 4, 1) := dall dgX12_init_147 13 rfl
theorem dX12_init_129 : decode cX12_init 129 = .ok (.newarray .int, 2) := dall dgX12_init_147 14 rfl
theorem dX12_init_131 : decode cX12_init 131 = .ok (.putfield 57, 3) := dall dgX12_init_147 15 rfl
theorem dX12_init_134 : decode cX12_init 134 = .ok (.aload_n 0, 1) := dall dgX12_init_147 16 rfl
theorem dX12_init_135 : decode cX12_init 135 = .ok (.bipush 48, 2) := dall dgX12_init_147 17 rfl
theorem dX12_init_137 : decode cX12_init 137 = .ok (.newarray .int, 2) := dall dgX12_init_147 18 rfl
theorem dX12_init_139 : decode cX12_init 139 = .ok (.putfield 60, 3) := dall dgX12_init_147 19 rfl
theorem dX12_init_142 : decode cX12_init 142 = .ok (.aload_n 0, 1) := dall dgX12_init_147 20 rfl
theorem dX12_init_143 : decode cX12_init 143 = .ok (.bipush 49, 2) := dall dgX12_init_147 21 rfl
theorem dX12_init_145 : decode cX12_init 145 = .ok (.newarray .int, 2) := dall dgX12_init_147 22 rfl
theorem dX12_init_147 : decode cX12_init 147 = .ok (.putfield 63, 3) := dall dgX12_init_147 23 rfl
theorem dX12_init_150 : decode cX12_init 150 = .ok (.aload_n 0, 1) := dall dgX12_init_147 24 rfl
theorem dX12_init_151 : decode cX12_init 151 = .ok (.bipush 48, 2) := dall dgX12_init_147 25 rfl
theorem dX12_init_153 : decode cX12_init 153 = .ok (.newarray .int, 2) := dall dgX12_init_147 26 rfl
theorem dX12_init_155 : decode cX12_init 155 = .ok (.putfield 66, 3) := dall dgX12_init_147 27 rfl
theorem dX12_init_158 : decode cX12_init 158 = .ok (.aload_n 0, 1) := dall dgX12_init_147 28 rfl
theorem dX12_init_159 : decode cX12_init 159 = .ok (.bipush 10, 2) := dall dgX12_init_147 29 rfl
theorem dX12_init_161 : decode cX12_init 161 = .ok (.newarray .int, 2) := dall dgX12_init_147 30 rfl
theorem dX12_init_163 : decode cX12_init 163 = .ok (.putfield 69, 3) := dall dgX12_init_147 31 rfl
theorem dX12_init_166 : decode cX12_init 166 = .ok (.aload_n 0, 1) := dall dgX12_init_147 32 rfl
theorem dX12_init_167 : decode cX12_init 167 = .ok (.bipush 10, 2) := dall dgX12_init_147 33 rfl
theorem dX12_init_169 : decode cX12_init 169 = .ok (.newarray .int, 2) := dall dgX12_init_147 34 rfl
theorem dX12_init_171 : decode cX12_init 171 = .ok (.putfield 72, 3) := dall dgX12_init_147 35 rfl
theorem dX12_init_174 : decode cX12_init 174 = .ok (.aload_n 0, 1) := dall dgX12_init_147 36 rfl
theorem dX12_init_175 : decode cX12_init 175 = .ok (.bipush 10, 2) := dall dgX12_init_147 37 rfl
theorem dX12_init_177 : decode cX12_init 177 = .ok (.newarray .int, 2) := dall dgX12_init_147 38 rfl
theorem dX12_init_179 : decode cX12_init 179 = .ok (.putfield 75, 3) := dall dgX12_init_147 39 rfl
theorem dX12_init_182 : decode cX12_init 182 = .ok (.aload_n 0, 1) := dall dgX12_init_147 40 rfl
theorem dX12_init_183 : decode cX12_init 183 = .ok (.bipush 81, 2) := dall dgX12_init_147 41 rfl
theorem dX12_init_185 : decode cX12_init 185 = .ok (.newarray .int, 2) := dall dgX12_init_147 42 rfl
theorem dX12_init_187 : decode cX12_init 187 = .ok (.putfield 78, 3) := dall dgX12_init_147 43 rfl
theorem dX12_init_190 : decode cX12_init 190 = .ok (.aload_n 0, 1) := dall dgX12_init_147 44 rfl
theorem dX12_init_191 : decode cX12_init 191 = .ok (.bipush 36, 2) := dall dgX12_init_147 45 rfl
theorem dX12_init_193 : decode cX12_init 193 = .ok (.newarray .int, 2) := dall dgX12_init_147 46 rfl
theorem dX12_init_195 : decode cX12_init 195 = .ok (.putfield 81, 3) := dall dgX12_init_147 47 rfl
theorem dX12_init_198 : decode cX12_init 198 = .ok (.aload_n 0, 1) := dall dgX12_init_147 48 rfl
theorem dX12_init_199 : decode cX12_init 199 = .ok (.bipush 6, 2) := dall dgX12_init_147 49 rfl
def lgX12_init_148 : List (Nat × Instr × Nat) := [(201, .newarray .int, 2), (203, .putfield 84, 3), (206, .aload_n 0, 1), (207, .bipush 24, 2), (209, .newarray .int, 2), (211, .putfield 87, 3), (214, .aload_n 0, 1), (215, .sipush 3072, 3), (218, .newarray .int, 2), (220, .putfield 90, 3), (223, .aload_n 0, 1), (224, .bipush 54, 2), (226, .newarray .int, 2), (228, .putfield 93, 3), (231, .aload_n 0, 1), (232, .iconst 0, 1), (233, .invokevirtual 96, 3), (236, .return_, 1)]
theorem dgX12_init_148 : ∀ q ∈ lgX12_init_148, decode cX12_init q.1 = .ok (q.2.1, q.2.2) := by decide +kernel
theorem dX12_init_201 : decode cX12_init 201 = .ok (.newarray .int, 2) := dall dgX12_init_148 0 rfl
theorem dX12_init_203 : decode cX12_init 203 = .ok (.putfield 84, 3) := dall dgX12_init_148 1 rfl
theorem dX12_init_206 : decode cX12_init 206 = .ok (.aload_n 0, 1) := dall dgX12_init_148 2 rfl
theorem dX12_init_207 : decode cX12_init 207 = .ok (.bipush 24, 2) := dall dgX12_init_148 3 rfl
theorem dX12_init_209 : decode cX12_init 209 = .ok (.newarray .int, 2) := dall dgX12_init_148 4 rfl
theorem dX12_init_211 : decode cX12_init 211 = .ok (.putfield 87, 3) := dall dgX12_init_148 5 rfl
theorem dX12_init_214 : decode cX12_init 214 = .ok (.aload_n 0, 1) := dall dgX12_init_148 6 rfl
theorem dX12_init_215 : decode cX12_init 215 = .ok (.sipush 3072, 3) := dall dgX12_init_148 7 rfl
theorem dX12_init_218 : decode cX12_init 218 = .ok (.newarray .int, 2) := dall dgX12_init_148 8 rfl
theorem dX12_init_220 : decode cX12_init 220 = .ok (.putfield 90, 3) := dall dgX12_init_148 9 rfl
theorem dX12_init_223 : decode cX12_init 223 = .ok (.aload_n 0, 1) := dall dgX12_init_148 10 rfl
theorem dX12_init_224 : decode cX12_init 224 = .ok (.bipush 54, 2) := dall dgX12_init_148 11 rfl
theorem dX12_init_226 : decode cX12_init 226 = .ok (.newarray .int, 2) := dall dgX12_init_148 12 rfl
theorem dX12_init_228 : decode cX12_init 228 = .ok (.putfield 93, 3) := dall dgX12_init_148 13 rfl
theorem dX12_init_231 : decode cX12_init 231 = .ok (.aload_n 0, 1) := dall dgX12_init_148 14 rfl
theorem dX12_init_232 : decode cX12_init 232 = .ok (.iconst 0, 1) := dall dgX12_init_148 15 rfl
theorem dX12_init_233 : decode cX12_init 233 = .ok (.invokevirtual 96, 3) := dall dgX12_init_148 16 rfl
theorem dX12_init_236 : decode cX12_init 236 = .ok (.return_, 1) := dall dgX12_init_148 17 rfl
def lgX12_in_149 : List (Nat × Instr × Nat) := [(0, .iload_n 0, 1), (1, .iload_n 1, 1), (2, .if_icmp .lt 12, 3), (5, .iload_n 0, 1), (6, .iload_n 2, 1), (7, .if_icmp .gt 7, 3), (10, .iconst 1, 1), (11, .goto 4, 3), (14, .iconst 0, 1), (15, .ireturn, 1)]
theorem dgX12_in_149 : ∀ q ∈ lgX12_in_149, decode cX12_in q.1 = .ok (q.2.1, q.2.2) := by decide +kernel
theorem dX12_in_0 : decode cX12_in 0 = .ok (.iload_n 0, 1) := dall dgX12_in_149 0 rfl
theorem dX12_in_1 : decode cX12_in 1 = .ok (.iload_n 1, 1) := dall dgX12_in_149 1 rfl
theorem dX12_in_2 : decode cX12_in 2 = .ok (.if_icmp .lt 12, 3) := dall dgX12_in_149 2 rfl
theorem dX12_in_5 : decode cX12_in 5 = .ok (.iload_n 0, 1) := dall dgX12_in_149 3 rfl
theorem dX12_in_6 : decode cX12_in 6 = .ok (.iload_n 2, 1) := dall dgX12_in_149 4 rfl
theorem dX12_in_7 : decode cX12_in 7 = .ok (.if_icmp .gt 7, 3) := dall dgX12_in_149 5 rfl
theorem dX12_in_10 : decode cX12_in 10 = .ok (.iconst 1, 1) := dall dgX12_in_149 6 rfl
theorem dX12_in_11 : decode cX12_in 11 = .ok (.goto 4, 3) := dall dgX12_in_149 7 rfl
theorem dX12_in_14 : decode cX12_in 14 = .ok (.iconst 0, 1) := dall dgX12_in_149 8 rfl
theorem dX12_in_15 : decode cX12_in 15 = .ok (.ireturn, 1) := dall dgX12_in_149 9 rfl
def lgX12_atFirst_150 : List (Nat × Instr × Nat) := [(0, .aload_n 0, 1), (1, .getfield 7, 3), (4, .iload_n 1, 1), (5, .iconst 0, 1), (6, .iadd, 1), (7, .bipush 20, 2), (9, .iastore, 1), (10, .aload_n 0, 1), (11, .getfield 7, 3), (14, .iload_n 1, 1), (15, .iconst 1, 1), (16, .iadd, 1), (17, .bipush 10, 2), (19, .iastore, 1), (20, .aload_n 0, 1), (21, .getfield 7, 3), (24, .iload_n 1, 1), (25, .iconst 2, 1), (26, .iadd, 1), (27, .bipush 40, 2), (29, .iastore, 1), (30, .aload_n 0, 1), (31, .getfield 7, 3), (34, .iload_n 1, 1), (35, .iconst 3, 1), (36, .iadd, 1), (37, .iconst 0, 1), (38, .iastore, 1), (39, .aload_n 0, 1), (40, .getfield 7, 3), (43, .iload_n 1, 1), (44, .iconst 4, 1), (45, .iadd, 1), (46, .iconst 0, 1), (47, .iastore, 1), (48, .aload_n 0, 1), (49, .getfield 7, 3), (52, .iload_n 1, 1), (53, .iconst 5, 1), (54, .iadd, 1), (55, .bipush 10, 2), (57, .iastore, 1), (58, .return_, 1)]
theorem dgX12_atFirst_150 : ∀ q ∈ lgX12_atFirst_150, decode cX12_atFirst q.1 = .ok (q.2.1, q.2.2) := by decide +kernel
theorem dX12_atFirst_0 : decode cX12_atFirst 0 = .ok (.aload_n 0, 1) := dall dgX12_atFirst_150 0 rfl
theorem dX12_atFirst_1 : decode cX12_atFirst 1 = .ok (.getfield 7, 3) := dall dgX12_atFirst_150 1 rfl
theorem dX12_atFirst_4 : decode cX12_atFirst 4 = .ok (.iload_n 1, 1) := dall dgX12_atFirst_150 2 rfl
theorem dX12_atFirst_5 : decode cX12_atFirst 5 = .ok (.iconst 0, 1) := dall dgX12_atFirst_150 3 rfl
theorem dX12_atFirst_6 : decode cX12_atFirst 6 = .ok (.iadd, 1) := dall dgX12_atFirst_150 4 rfl
theorem dX12_atFirst_7 : decode cX12_atFirst 7 = .ok (.bipush 20, 2) := dall dgX12_atFirst_150 5 rfl
theorem dX12_atFirst_9 : decode cX12_atFirst 9 = .ok (.iastore, 1) := dall dgX12_atFirst_150 6 rfl
theorem dX12_atFirst_10 : decode cX12_atFirst 10 = .ok (.aload_n 0, 1) := dall dgX12_atFirst_150 7 rfl
theorem dX12_atFirst_11 : decode cX12_atFirst 11 = .ok (.getfield 7, 3) := dall dgX12_atFirst_150 8 rfl
theorem dX12_atFirst_14 : decode cX12_atFirst 14 = .ok (.iload_n 1, 1) := dall dgX12_atFirst_150 9 rfl
theorem dX12_atFirst_15 : decode cX12_atFirst 15 = .ok (.iconst 1, 1) := dall dgX12_atFirst_150 10 rfl
theorem dX12_atFirst_16 : decode cX12_atFirst 16 = .ok (.iadd, 1) := dall dgX12_atFirst_150 11 rfl
theorem dX12_atFirst_17 : decode cX12_atFirst 17 = .ok (.bipush 10, 2) := dall dgX12_atFirst_150 12 rfl
theorem dX12_atFirst_19 : decode cX12_atFirst 19 = .ok (.iastore, 1) := dall dgX12_atFirst_150 13 rfl
theorem dX12_atFirst_20 : decode cX12_atFirst 20 = .ok (.aload_n 0, 1) := dall dgX12_atFirst_150 14 rfl
theorem dX12_atFirst_21 : decode cX12_atFirst 21 = .ok (.getfield 7, 3) := dall dgX12_atFirst_150 15 rfl
theorem dX12_atFirst_24 : decode cX12_atFirst 24 = .ok (.iload_n 1, 1) := dall dgX12_atFirst_150 16 rfl
theorem dX12_atFirst_25 : decode cX12_atFirst 25 = .ok (.iconst 2, 1) := dall dgX12_atFirst_150 17 rfl
theorem dX12_atFirst_26 : decode cX12_atFirst 26 = .ok (.iadd, 1) := dall dgX12_atFirst_150 18 rfl
theorem dX12_atFirst_27 : decode cX12_atFirst 27 = .ok (.bipush 40, 2) := dall dgX12_atFirst_150 19 rfl
theorem dX12_atFirst_29 : decode cX12_atFirst 29 = .ok (.iastore, 1) := dall dgX12_atFirst_150 20 rfl
theorem dX12_atFirst_30 : decode cX12_atFirst 30 = .ok (.aload_n 0, 1) := dall dgX12_atFirst_150 21 rfl
theorem dX12_atFirst_31 : decode cX12_atFirst 31 = .ok (.getfield 7, 3) := dall dgX12_atFirst_150 22 rfl
theorem dX12_atFirst_34 : decode cX12_atFirst 34 = .ok (.iload_n 1, 1) := dall dgX12_atFirst_150 23 rfl
theorem dX12_atFirst_35 : decode cX12_atFirst 35 = .ok (.iconst 3, 1) := dall dgX12_atFirst_150 24 rfl
theorem dX12_atFirst_36 : decode cX12_atFirst 36 = .ok (.iadd, 1) := dall dgX12_atFirst_150 25 rfl
theorem dX12_atFirst_37 : decode cX12_atFirst 37 = .ok (.iconst 0, 1) := dall dgX12_atFirst_150 26 rfl
theorem dX12_atFirst_38 : decode cX12_atFirst 38 = .ok (.iastore, 1) := dall dgX12_atFirst_150 27 rfl
theorem dX12_atFirst_39 : decode cX12_atFirst 39 = .ok (.aload_n 0, 1) := dall dgX12_atFirst_150 28 rfl
theorem dX12_atFirst_40 : decode cX12_atFirst 40 = .ok (.getfield 7, 3) := dall dgX12_atFirst_150 29 rfl
theorem dX12_atFirst_43 : decode cX12_atFirst 43 = .ok (.iload_n 1, 1) := dall dgX12_atFirst_150 30 rfl
theorem dX12_atFirst_44 : decode cX12_atFirst 44 = .ok (.iconst 4, 1) := dall dgX12_atFirst_150 31 rfl
theorem dX12_atFirst_45 : decode cX12_atFirst 45 = .ok (.iadd, 1) := dall dgX12_atFirst_150 32 rfl
theorem dX12_atFirst_46 : decode cX12_atFirst 46 = .ok (.iconst 0, 1) := dall dgX12_atFirst_150 33 rfl
theorem dX12_atFirst_47 : decode cX12_atFirst 47 = .ok (.iastore, 1) := dall dgX12_atFirst_150 34 rfl
theorem dX12_atFirst_48 : decode cX12_atFirst 48 = .ok (.aload_n 0, 1) := dall dgX12_atFirst_150 35 rfl
theorem dX12_atFirst_49 : decode cX12_atFirst 49 = .ok (.getfield 7, 3) := dall dgX12_atFirst_150 36 rfl
theorem dX12_atFirst_52 : decode cX12_atFirst 52 = .ok (.iload_n 1, 1) := dall dgX12_atFirst_150 37 rfl
theorem dX12_atFirst_53 : decode cX12_atFirst 53 = .ok (.iconst 5, 1) := dall dgX12_atFirst_150 38 rfl
theorem dX12_atFirst_54 : decode cX12_atFirst 54 = .ok (.iadd, 1) := dall dgX12_atFirst_150 39 rfl
theorem dX12_atFirst_55 : decode cX12_atFirst 55 = .ok (.bipush 10, 2) := dall dgX12_atFirst_150 40 rfl
theorem dX12_atFirst_57 : decode cX12_atFirst 57 = .ok (.iastore, 1) := dall dgX12_atFirst_150 41 rfl
theorem dX12_atFirst_58 : decode cX12_atFirst 58 = .ok (.return_, 1) := dall dgX12_atFirst_150 42 rfl
def lgX12_most_151 : List (Nat × Instr × Nat) := [(0, .iload_n 0, 1), (1, .ifCond .eq 8, 3), (4, .iload_n 0, 1), (5, .iconst 4, 1), (6, .if_icmp .ne 9, 3), (9, .sipush 999, 3), (12, .goto 17, 3), (15, .iload_n 0, 1), (16, .iconst 3, 1), (17, .if_icmp .ne 9, 3), (20, .sipush 9999, 3), (23, .goto 6, 3), (26, .sipush 399, 3), (29, .ireturn, 1)]
theorem dgX12_most_151 : ∀ q ∈ lgX12_most_151, decode cX12_most q.1 = .ok (q.2.1, q.2.2) := by decide +kernel
theorem dX12_most_0 : decode cX12_most 0 = .ok (.iload_n 0, 1) := dall dgX12_most_151 0 rfl
theorem dX12_most_1 : decode cX12_most 1 = .ok (.ifCond .eq 8, 3) := dall dgX12_most_151 1 rfl
theorem dX12_most_4 : decode cX12_most 4 = .ok (.iload_n 0, 1) := dall dgX12_most_151 2 rfl
theorem dX12_most_5 : decode cX12_most 5 = .ok (.iconst 4, 1) := dall dgX12_most_151 3 rfl
theorem dX12_most_6 : decode cX12_most 6 = .ok (.if_icmp .ne 9, 3) := dall dgX12_most_151 4 rfl
theorem dX12_most_9 : decode cX12_most 9 = .ok (.sipush 999, 3) := dall dgX12_most_151 5 rfl
theorem dX12_most_12 : decode cX12_most 12 = .ok (.goto 17, 3) := dall dgX12_most_151 6 rfl
theorem dX12_most_15 : decode cX12_most 15 = .ok (.iload_n 0, 1) := dall dgX12_most_151 7 rfl
theorem dX12_most_16 : decode cX12_most 16 = .ok (.iconst 3, 1) := dall dgX12_most_151 8 rfl
theorem dX12_most_17 : decode cX12_most 17 = .ok (.if_icmp .ne 9, 3) := dall dgX12_most_151 9 rfl
theorem dX12_most_20 : decode cX12_most 20 = .ok (.sipush 9999, 3) := dall dgX12_most_151 10 rfl
theorem dX12_most_23 : decode cX12_most 23 = .ok (.goto 6, 3) := dall dgX12_most_151 11 rfl
theorem dX12_most_26 : decode cX12_most 26 = .ok (.sipush 399, 3) := dall dgX12_most_151 12 rfl
theorem dX12_most_29 : decode cX12_most 29 = .ok (.ireturn, 1) := dall dgX12_most_151 13 rfl
def lgX12_type_152 : List (Nat × Instr × Nat) := [(0, .iload_n 3, 1), (1, .iconst 1, 1), (2, .bipush 8, 2), (4, .invokestatic 100, 3), (7, .ifCond .ne 5, 3), (10, .iconst (-1), 1), (11, .ireturn, 1), (12, .aload_n 0, 1), (13, .getfield 104, 3), (16, .iload_n 3, 1), (17, .iadd, 1), (18, .sipush 200, 3), (21, .if_icmp .le 6, 3), (24, .bipush (-3), 2), (26, .ireturn, 1), (27, .iload_n 3, 1), (28, .iconst 1, 1), (29, .isub, 1), (30, .istore 4, 2), (32, .iload 4, 2), (34, .ifCond .lt 41, 3), (37, .aload_n 0, 1), (38, .getfield 13, 3), (41, .aload_n 0, 1), (42, .getfield 104, 3), (45, .lload_n 1, 1), (46, .bipush 8, 2), (48, .iload 4, 2), (50, .imul, 1), (51, .lshr, 1), (52, .ldc2_w 108, 3), (55, .land, 1), (56, .l2i, 1), (57, .i2b, 1), (58, .bastore, 1), (59, .aload_n 0, 1), (60, .dup, 1), (61, .getfield 104, 3), (64, .iconst 1, 1), (65, .iadd, 1), (66, .putfield 104, 3), (69, .iinc 4 (-1), 3), (72, .goto (-40), 3), (75, .aload_n 0, 1), (76, .getfield 104, 3), (79, .ireturn, 1)]
theorem dgX12_type_152 : ∀ q ∈ lgX12_type_152, decode cX12_type q.1 = .ok (q.2.1, q.2.2) := by decide +kernel
theorem dX12_type_0 : decode cX12_type 0 = .ok (.iload_n 3, 1) := dall dgX12_type_152 0 rfl
theorem dX12_type_1 : decode cX12_type 1 = .ok (.iconst 1, 1) := dall dgX12_type_152 1 rfl
theorem dX12_type_2 : decode cX12_type 2 = .ok (.bipush 8, 2) := dall dgX12_type_152 2 rfl
theorem dX12_type_4 : decode cX12_type 4 = .ok (.invokestatic 100, 3) := dall dgX12_type_152 3 rfl
theorem dX12_type_7 : decode cX12_type 7 = .ok (.ifCond .ne 5, 3) := dall dgX12_type_152 4 rfl
theorem dX12_type_10 : decode cX12_type 10 = .ok (.iconst (-1), 1) := dall dgX12_type_152 5 rfl
theorem dX12_type_11 : decode cX12_type 11 = .ok (.ireturn, 1) := dall dgX12_type_152 6 rfl
theorem dX12_type_12 : decode cX12_type 12 = .ok (.aload_n 0, 1) := dall dgX12_type_152 7 rfl
theorem dX12_type_13 : decode cX12_type 13 = .ok (.getfield 104, 3) := dall dgX12_type_152 8 rfl
theorem dX12_type_16 : decode cX12_type 16 = .ok (.iload_n 3, 1) := dall dgX12_type_152 9 rfl
theorem dX12_type_17 : decode cX12_type 17 = .ok (.iadd, 1) := dall dgX12_type_152 10 rfl
theorem dX12_type_18 : decode cX12_type 18 = .ok (.sipush 200, 3) := dall dgX12_type_152 11 rfl
theorem dX12_type_21 : decode cX12_type 21 = .ok (.if_icmp .le 6, 3) := dall dgX12_type_152 12 rfl
theorem dX12_type_24 : decode cX12_type 24 = .ok (.bipush (-3), 2) := dall dgX12_type_152 13 rfl
theorem dX12_type_26 : decode cX12_type 26 = .ok (.ireturn, 1) := dall dgX12_type_152 14 rfl
theorem dX12_type_27 : decode cX12_type 27 = .ok (.iload_n 3, 1) := dall dgX12_type_152 15 rfl
theorem dX12_type_28 : decode cX12_type 28 = .ok (.iconst 1, 1) := dall dgX12_type_152 16 rfl
theorem dX12_type_29 : decode cX12_type 29 = .ok (.isub, 1) := dall dgX12_type_152 17 rfl
theorem dX12_type_30 : decode cX12_type 30 = .ok (.istore 4, 2) := dall dgX12_type_152 18 rfl
theorem dX12_type_32 : decode cX12_type 32 = .ok (.iload 4, 2) := dall dgX12_type_152 19 rfl
theorem dX12_type_34 : decode cX12_type 34 = .ok (.ifCond .lt 41, 3) := dall dgX12_type_152 20 rfl
theorem dX12_type_37 : decode cX12_type 37 = .ok (.aload_n 0, 1) := dall dgX12_type_152 21 rfl
theorem dX12_type_38 : decode cX12_type 38 = .ok (.getfield 13, 3) := dall dgX12_type_152 22 rfl
theorem dX12_type_41 : decode cX12_type 41 = .ok (.aload_n 0, 1) := dall dgX12_type_152 23 rfl
theorem dX12_type_42 : decode cX12_type 42 = .ok (.getfield 104, 3) := dall dgX12_type_152 24 rfl
theorem dX12_type_45 : decode cX12_type 45 = .ok (.lload_n 1, 1) := dall dgX12_type_152 25 rfl
theorem dX12_type_46 : decode cX12_type 46 = .ok (.bipush 8, 2) := dall dgX12_type_152 26 rfl
theorem dX12_type_48 : decode cX12_type 48 = .ok (.iload 4, 2) := dall dgX12_type_152 27 rfl
theorem dX12_type_50 : decode cX12_type 50 = .ok (.imul, 1) := dall dgX12_type_152 28 rfl
theorem dX12_type_51 : decode cX12_type 51 = .ok (.lshr, 1) := dall dgX12_type_152 29 rfl
theorem dX12_type_52 : decode cX12_type 52 = .ok (.ldc2_w 108, 3) := dall dgX12_type_152 30 rfl
theorem dX12_type_55 : decode cX12_type 55 = .ok (.land, 1) := dall dgX12_type_152 31 rfl
theorem dX12_type_56 : decode cX12_type 56 = .ok (.l2i, 1) := dall dgX12_type_152 32 rfl
theorem dX12_type_57 : decode cX12_type 57 = .ok (.i2b, 1) := dall dgX12_type_152 33 rfl
theorem dX12_type_58 : decode cX12_type 58 = .ok (.bastore, 1) := dall dgX12_type_152 34 rfl
theorem dX12_type_59 : decode cX12_type 59 = .ok (.aload_n 0, 1) := dall dgX12_type_152 35 rfl
theorem dX12_type_60 : decode cX12_type 60 = .ok (.dup, 1) := dall dgX12_type_152 36 rfl
theorem dX12_type_61 : decode cX12_type 61 = .ok (.getfield 104, 3) := dall dgX12_type_152 37 rfl
theorem dX12_type_64 : decode cX12_type 64 = .ok (.iconst 1, 1) := dall dgX12_type_152 38 rfl
theorem dX12_type_65 : decode cX12_type 65 = .ok (.iadd, 1) := dall dgX12_type_152 39 rfl
theorem dX12_type_66 : decode cX12_type 66 = .ok (.putfield 104, 3) := dall dgX12_type_152 40 rfl
theorem dX12_type_69 : decode cX12_type 69 = .ok (.iinc 4 (-1), 3) := dall dgX12_type_152 41 rfl
theorem dX12_type_72 : decode cX12_type 72 = .ok (.goto (-40), 3) := dall dgX12_type_152 42 rfl
theorem dX12_type_75 : decode cX12_type 75 = .ok (.aload_n 0, 1) := dall dgX12_type_152 43 rfl
theorem dX12_type_76 : decode cX12_type 76 = .ok (.getfield 104, 3) := dall dgX12_type_152 44 rfl
theorem dX12_type_79 : decode cX12_type 79 = .ok (.ireturn, 1) := dall dgX12_type_152 45 rfl
def lgX12_clear_153 : List (Nat × Instr × Nat) := [(0, .aload_n 0, 1), (1, .getfield 104, 3), (4, .istore_n 1, 1), (5, .aload_n 0, 1), (6, .iconst 0, 1), (7, .putfield 104, 3), (10, .iload_n 1, 1), (11, .ireturn, 1)]
theorem dgX12_clear_153 : ∀ q ∈ lgX12_clear_153, decode cX12_clear q.1 = .ok (q.2.1, q.2.2) := by decide +kernel
theorem dX12_clear_0 : decode cX12_clear 0 = .ok (.aload_n 0, 1) := dall dgX12_clear_153 0 rfl
theorem dX12_clear_1 : decode cX12_clear 1 = .ok (.getfield 104, 3) := dall dgX12_clear_153 1 rfl
theorem dX12_clear_4 : decode cX12_clear 4 = .ok (.istore_n 1, 1) := dall dgX12_clear_153 2 rfl
theorem dX12_clear_5 : decode cX12_clear 5 = .ok (.aload_n 0, 1) := dall dgX12_clear_153 3 rfl
theorem dX12_clear_6 : decode cX12_clear 6 = .ok (.iconst 0, 1) := dall dgX12_clear_153 4 rfl
theorem dX12_clear_7 : decode cX12_clear 7 = .ok (.putfield 104, 3) := dall dgX12_clear_153 5 rfl
theorem dX12_clear_10 : decode cX12_clear 10 = .ok (.iload_n 1, 1) := dall dgX12_clear_153 6 rfl
theorem dX12_clear_11 : decode cX12_clear 11 = .ok (.ireturn, 1) := dall dgX12_clear_153 7 rfl
def lgX12_here_154 : List (Nat × Instr × Nat) := [(0, .aload_n 0, 1), (1, .getfield 110, 3), (4, .aload_n 0, 1), (5, .getfield 104, 3), (8, .if_icmp .ge 19, 3), (11, .aload_n 0, 1), (12, .getfield 13, 3), (15, .aload_n 0, 1), (16, .getfield 110, 3), (19, .baload, 1), (20, .sipush 255, 3), (23, .iand, 1), (24, .goto 4, 3), (27, .iconst (-1), 1), (28, .ireturn, 1)]
theorem dgX12_here_154 : ∀ q ∈ lgX12_here_154, decode cX12_here q.1 = .ok (q.2.1, q.2.2) := by decide +kernel
theorem dX12_here_0 : decode cX12_here 0 = .ok (.aload_n 0, 1) := dall dgX12_here_154 0 rfl
theorem dX12_here_1 : decode cX12_here 1 = .ok (.getfield 110, 3) := dall dgX12_here_154 1 rfl
theorem dX12_here_4 : decode cX12_here 4 = .ok (.aload_n 0, 1) := dall dgX12_here_154 2 rfl
theorem dX12_here_5 : decode cX12_here 5 = .ok (.getfield 104, 3) := dall dgX12_here_154 3 rfl
theorem dX12_here_8 : decode cX12_here 8 = .ok (.if_icmp .ge 19, 3) := dall dgX12_here_154 4 rfl
theorem dX12_here_11 : decode cX12_here 11 = .ok (.aload_n 0, 1) := dall dgX12_here_154 5 rfl
theorem dX12_here_12 : decode cX12_here 12 = .ok (.getfield 13, 3) := dall dgX12_here_154 6 rfl
theorem dX12_here_15 : decode cX12_here 15 = .ok (.aload_n 0, 1) := dall dgX12_here_154 7 rfl
theorem dX12_here_16 : decode cX12_here 16 = .ok (.getfield 110, 3) := dall dgX12_here_154 8 rfl
theorem dX12_here_19 : decode cX12_here 19 = .ok (.baload, 1) := dall dgX12_here_154 9 rfl
theorem dX12_here_20 : decode cX12_here 20 = .ok (.sipush 255, 3) := dall dgX12_here_154 10 rfl
theorem dX12_here_23 : decode cX12_here 23 = .ok (.iand, 1) := dall dgX12_here_154 11 rfl
theorem dX12_here_24 : decode cX12_here 24 = .ok (.goto 4, 3) := dall dgX12_here_154 12 rfl
theorem dX12_here_27 : decode cX12_here 27 = .ok (.iconst (-1), 1) := dall dgX12_here_154 13 rfl
theorem dX12_here_28 : decode cX12_here 28 = .ok (.ireturn, 1) := dall dgX12_here_154 14 rfl
def lgX12_more_155 : List (Nat × Instr × Nat) := [(0, .iload_n 2, 1), (1, .ifCond .ne 7, 3), (4, .lload_n 0, 1), (5, .goto 17, 3), (8, .lload_n 0, 1), (9, .ldc2_w 113, 3), (12, .lmul, 1), (13, .iload_n 2, 1), (14, .i2l, 1), (15, .ladd, 1), (16, .ldc2_w 115, 3), (19, .lsub, 1), (20, .lconst 1, 1), (21, .ladd, 1), (22, .lreturn, 1)]
theorem dgX12_more_155 : ∀ q ∈ lgX12_more_155, decode cX12_more q.1 = .ok (q.2.1, q.2.2) := by decide +kernel
theorem dX12_more_0 : decode cX12_more 0 = .ok (.iload_n 2, 1) := dall dgX12_more_155 0 rfl
theorem dX12_more_1 : decode cX12_more 1 = .ok (.ifCond .ne 7, 3) := dall dgX12_more_155 1 rfl
theorem dX12_more_4 : decode cX12_more 4 = .ok (.lload_n 0, 1) := dall dgX12_more_155 2 rfl
theorem dX12_more_5 : decode cX12_more 5 = .ok (.goto 17, 3) := dall dgX12_more_155 3 rfl
theorem dX12_more_8 : decode cX12_more 8 = .ok (.lload_n 0, 1) := dall dgX12_more_155 4 rfl
theorem dX12_more_9 : decode cX12_more 9 = .ok (.ldc2_w 113, 3) := dall dgX12_more_155 5 rfl
theorem dX12_more_12 : decode cX12_more 12 = .ok (.lmul, 1) := dall dgX12_more_155 6 rfl
theorem dX12_more_13 : decode cX12_more 13 = .ok (.iload_n 2, 1) := dall dgX12_more_155 7 rfl
theorem dX12_more_14 : decode cX12_more 14 = .ok (.i2l, 1) := dall dgX12_more_155 8 rfl
theorem dX12_more_15 : decode cX12_more 15 = .ok (.ladd, 1) := dall dgX12_more_155 9 rfl
theorem dX12_more_16 : decode cX12_more 16 = .ok (.ldc2_w 115, 3) := dall dgX12_more_155 10 rfl
theorem dX12_more_19 : decode cX12_more 19 = .ok (.lsub, 1) := dall dgX12_more_155 11 rfl
theorem dX12_more_20 : decode cX12_more 20 = .ok (.lconst 1, 1) := dall dgX12_more_155 12 rfl
theorem dX12_more_21 : decode cX12_more 21 = .ok (.ladd, 1) := dall dgX12_more_155 13 rfl
theorem dX12_more_22 : decode cX12_more 22 = .ok (.lreturn, 1) := dall dgX12_more_155 14 rfl
def lgX12_code_156 : List (Nat × Instr × Nat) := [(0, .lconst 0, 1), (1, .iload_n 0, 1), (2, .invokestatic 117, 3), (5, .iload_n 1, 1), (6, .invokestatic 117, 3), (9, .iload_n 2, 1), (10, .invokestatic 117, 3), (13, .iload_n 3, 1), (14, .invokestatic 117, 3), (17, .iload 4, 2), (19, .invokestatic 117, 3), (22, .lreturn, 1)]
theorem dgX12_code_156 : ∀ q ∈ lgX12_code_156, decode cX12_code q.1 = .ok (q.2.1, q.2.2) := by decide +kernel
theorem dX12_code_0 : decode cX12_code 0 = .ok (.lconst 0, 1) := dall dgX12_code_156 0 rfl
theorem dX12_code_1 : decode cX12_code 1 = .ok (.iload_n 0, 1) := dall dgX12_code_156 1 rfl
theorem dX12_code_2 : decode cX12_code 2 = .ok (.invokestatic 117, 3) := dall dgX12_code_156 2 rfl
theorem dX12_code_5 : decode cX12_code 5 = .ok (.iload_n 1, 1) := dall dgX12_code_156 3 rfl
theorem dX12_code_6 : decode cX12_code 6 = .ok (.invokestatic 117, 3) := dall dgX12_code_156 4 rfl
theorem dX12_code_9 : decode cX12_code 9 = .ok (.iload_n 2, 1) := dall dgX12_code_156 5 rfl
theorem dX12_code_10 : decode cX12_code 10 = .ok (.invokestatic 117, 3) := dall dgX12_code_156 6 rfl
theorem dX12_code_13 : decode cX12_code 13 = .ok (.iload_n 3, 1) := dall dgX12_code_156 7 rfl
theorem dX12_code_14 : decode cX12_code 14 = .ok (.invokestatic 117, 3) := dall dgX12_code_156 8 rfl
theorem dX12_code_17 : decode cX12_code 17 = .ok (.iload 4, 2) := dall dgX12_code_156 9 rfl
theorem dX12_code_19 : decode cX12_code 19 = .ok (.invokestatic 117, 3) := dall dgX12_code_156 10 rfl
theorem dX12_code_22 : decode cX12_code 22 = .ok (.lreturn, 1) := dall dgX12_code_156 11 rfl
def lgX12_wordOf_157 : List (Nat × Instr × Nat) := [(0, .lconst 0, 1), (1, .lstore_n 3, 1), (2, .iload_n 1, 1), (3, .istore 5, 2), (5, .iload 5, 2), (7, .iload_n 2, 1), (8, .if_icmp .ge 30, 3), (11, .iload 5, 2), (13, .iload_n 1, 1), (14, .bipush 6, 2), (16, .iadd, 1), (17, .if_icmp .ge 21, 3), (20, .lload_n 3, 1), (21, .aload_n 0, 1), (22, .getfield 13, 3), (25, .iload 5, 2), (27, .baload, 1), (28, .invokestatic 117, 3), (31, .lstore_n 3, 1), (32, .iinc 5 1, 3), (35, .goto (-30), 3), (38, .bipush (-9), 2), (40, .istore 5, 2), (42, .lload_n 3, 1), (43, .bipush 112, 2), (45, .bipush 114, 2), (47, .bipush 105, 2), (49, .bipush 99, 2), (51, .bipush 101, 2), (53, .invokestatic 121, 3), (56, .lcmp, 1), (57, .ifCond .ne 7, 3), (60, .iconst 0, 1), (61, .goto 5, 3), (64, .iload 5, 2), (66, .istore 5, 2), (68, .lload_n 3, 1), (69, .bipush 104, 2), (71, .bipush 117, 2), (73, .bipush 115, 2), (75, .bipush 104, 2), (77, .iconst 0, 1), (78, .invokestatic 121, 3), (81, .lcmp, 1), (82, .ifCond .ne 7, 3), (85, .iconst 1, 1), (86, .goto 5, 3), (89, .iload 5, 2), (91, .istore 5, 2), (93, .lload_n 3, 1)]
theorem dgX12_wordOf_157 : ∀ q ∈ lgX12_wordOf_157, decode cX12_wordOf q.1 = .ok (q.2.1, q.2.2) := by decide +kernel
theorem dX12_wordOf_0 : decode cX12_wordOf 0 = .ok (.lconst 0, 1) := dall dgX12_wordOf_157 0 rfl
theorem dX12_wordOf_1 : decode cX12_wordOf 1 = .ok (.lstore_n 3, 1) := dall dgX12_wordOf_157 1 rfl
theorem dX12_wordOf_2 : decode cX12_wordOf 2 = .ok (.iload_n 1, 1) := dall dgX12_wordOf_157 2 rfl
theorem dX12_wordOf_3 : decode cX12_wordOf 3 = .ok (.istore 5, 2) := dall dgX12_wordOf_157 3 rfl
theorem dX12_wordOf_5 : decode cX12_wordOf 5 = .ok (.iload 5, 2) := dall dgX12_wordOf_157 4 rfl
theorem dX12_wordOf_7 : decode cX12_wordOf 7 = .ok (.iload_n 2, 1) := dall dgX12_wordOf_157 5 rfl
theorem dX12_wordOf_8 : decode cX12_wordOf 8 = .ok (.if_icmp .ge 30, 3) := dall dgX12_wordOf_157 6 rfl
theorem dX12_wordOf_11 : decode cX12_wordOf 11 = .ok (.iload 5, 2) := dall dgX12_wordOf_157 7 rfl
theorem dX12_wordOf_13 : decode cX12_wordOf 13 = .ok (.iload_n 1, 1) := dall dgX12_wordOf_157 8 rfl
theorem dX12_wordOf_14 : decode cX12_wordOf 14 = .ok (.bipush 6, 2) := dall dgX12_wordOf_157 9 rfl
theorem dX12_wordOf_16 : decode cX12_wordOf 16 = .ok (.iadd, 1) := dall dgX12_wordOf_157 10 rfl
theorem dX12_wordOf_17 : decode cX12_wordOf 17 = .ok (.if_icmp .ge 21, 3) := dall dgX12_wordOf_157 11 rfl
theorem dX12_wordOf_20 : decode cX12_wordOf 20 = .ok (.lload_n 3, 1) := dall dgX12_wordOf_157 12 rfl
theorem dX12_wordOf_21 : decode cX12_wordOf 21 = .ok (.aload_n 0, 1) := dall dgX12_wordOf_157 13 rfl
theorem dX12_wordOf_22 : decode cX12_wordOf 22 = .ok (.getfield 13, 3) := dall dgX12_wordOf_157 14 rfl
theorem dX12_wordOf_25 : decode cX12_wordOf 25 = .ok (.iload 5, 2) := dall dgX12_wordOf_157 15 rfl
theorem dX12_wordOf_27 : decode cX12_wordOf 27 = .ok (.baload, 1) := dall dgX12_wordOf_157 16 rfl
theorem dX12_wordOf_28 : decode cX12_wordOf 28 = .ok (.invokestatic 117, 3) := dall dgX12_wordOf_157 17 rfl
theorem dX12_wordOf_31 : decode cX12_wordOf 31 = .ok (.lstore_n 3, 1) := dall dgX12_wordOf_157 18 rfl
theorem dX12_wordOf_32 : decode cX12_wordOf 32 = .ok (.iinc 5 1, 3) := dall dgX12_wordOf_157 19 rfl
theorem dX12_wordOf_35 : decode cX12_wordOf 35 = .ok (.goto (-30), 3) := dall dgX12_wordOf_157 20 rfl
theorem dX12_wordOf_38 : decode cX12_wordOf 38 = .ok (.bipush (-9), 2) := dall dgX12_wordOf_157 21 rfl
theorem dX12_wordOf_40 : decode cX12_wordOf 40 = .ok (.istore 5, 2) := dall dgX12_wordOf_157 22 rfl
theorem dX12_wordOf_42 : decode cX12_wordOf 42 = .ok (.lload_n 3, 1) := dall dgX12_wordOf_157 23 rfl
theorem dX12_wordOf_43 : decode cX12_wordOf 43 = .ok (.bipush 112, 2) := dall dgX12_wordOf_157 24 rfl
theorem dX12_wordOf_45 : decode cX12_wordOf 45 = .ok (.bipush 114, 2) := dall dgX12_wordOf_157 25 rfl
theorem dX12_wordOf_47 : decode cX12_wordOf 47 = .ok (.bipush 105, 2) := dall dgX12_wordOf_157 26 rfl
theorem dX12_wordOf_49 : decode cX12_wordOf 49 = .ok (.bipush 99, 2) := dall dgX12_wordOf_157 27 rfl
theorem dX12_wordOf_51 : decode cX12_wordOf 51 = .ok (.bipush 101, 2) := dall dgX12_wordOf_157 28 rfl
theorem dX12_wordOf_53 : decode cX12_wordOf 53 = .ok (.invokestatic 121, 3) := dall dgX12_wordOf_157 29 rfl
theorem dX12_wordOf_56 : decode cX12_wordOf 56 = .ok (.lcmp, 1) := dall dgX12_wordOf_157 30 rfl
theorem dX12_wordOf_57 : decode cX12_wordOf 57 = .ok (.ifCond .ne 7, 3) := dall dgX12_wordOf_157 31 rfl
theorem dX12_wordOf_60 : decode cX12_wordOf 60 = .ok (.iconst 0, 1) := dall dgX12_wordOf_157 32 rfl
theorem dX12_wordOf_61 : decode cX12_wordOf 61 = .ok (.goto 5, 3) := dall dgX12_wordOf_157 33 rfl
theorem dX12_wordOf_64 : decode cX12_wordOf 64 = .ok (.iload 5, 2) := dall dgX12_wordOf_157 34 rfl
theorem dX12_wordOf_66 : decode cX12_wordOf 66 = .ok (.istore 5, 2) := dall dgX12_wordOf_157 35 rfl
theorem dX12_wordOf_68 : decode cX12_wordOf 68 = .ok (.lload_n 3, 1) := dall dgX12_wordOf_157 36 rfl
theorem dX12_wordOf_69 : decode cX12_wordOf 69 = .ok (.bipush 104, 2) := dall dgX12_wordOf_157 37 rfl
theorem dX12_wordOf_71 : decode cX12_wordOf 71 = .ok (.bipush 117, 2) := dall dgX12_wordOf_157 38 rfl
theorem dX12_wordOf_73 : decode cX12_wordOf 73 = .ok (.bipush 115, 2) := dall dgX12_wordOf_157 39 rfl
theorem dX12_wordOf_75 : decode cX12_wordOf 75 = .ok (.bipush 104, 2) := dall dgX12_wordOf_157 40 rfl
theorem dX12_wordOf_77 : decode cX12_wordOf 77 = .ok (.iconst 0, 1) := dall dgX12_wordOf_157 41 rfl
theorem dX12_wordOf_78 : decode cX12_wordOf 78 = .ok (.invokestatic 121, 3) := dall dgX12_wordOf_157 42 rfl
theorem dX12_wordOf_81 : decode cX12_wordOf 81 = .ok (.lcmp, 1) := dall dgX12_wordOf_157 43 rfl
theorem dX12_wordOf_82 : decode cX12_wordOf 82 = .ok (.ifCond .ne 7, 3) := dall dgX12_wordOf_157 44 rfl
theorem dX12_wordOf_85 : decode cX12_wordOf 85 = .ok (.iconst 1, 1) := dall dgX12_wordOf_157 45 rfl
theorem dX12_wordOf_86 : decode cX12_wordOf 86 = .ok (.goto 5, 3) := dall dgX12_wordOf_157 46 rfl
theorem dX12_wordOf_89 : decode cX12_wordOf 89 = .ok (.iload 5, 2) := dall dgX12_wordOf_157 47 rfl
theorem dX12_wordOf_91 : decode cX12_wordOf 91 = .ok (.istore 5, 2) := dall dgX12_wordOf_157 48 rfl
theorem dX12_wordOf_93 : decode cX12_wordOf 93 = .ok (.lload_n 3, 1) := dall dgX12_wordOf_157 49 rfl
def lgX12_wordOf_158 : List (Nat × Instr × Nat) := [(94, .bipush 108, 2), (96, .bipush 105, 2), (98, .bipush 107, 2), (100, .bipush 101, 2), (102, .iconst 0, 1), (103, .invokestatic 121, 3), (106, .lcmp, 1), (107, .ifCond .ne 7, 3), (110, .iconst 2, 1), (111, .goto 5, 3), (114, .iload 5, 2), (116, .istore 5, 2), (118, .lload_n 3, 1), (119, .bipush 110, 2), (121, .bipush 101, 2), (123, .bipush 97, 2), (125, .bipush 114, 2), (127, .iconst 0, 1), (128, .invokestatic 121, 3), (131, .lcmp, 1), (132, .ifCond .ne 7, 3), (135, .iconst 3, 1), (136, .goto 5, 3), (139, .iload 5, 2), (141, .istore 5, 2), (143, .lload_n 3, 1), (144, .bipush 116, 2), (146, .bipush 117, 2), (148, .bipush 114, 2), (150, .bipush 110, 2), (152, .iconst 0, 1), (153, .invokestatic 121, 3), (156, .lcmp, 1), (157, .ifCond .ne 7, 3), (160, .iconst 4, 1), (161, .goto 5, 3), (164, .iload 5, 2), (166, .istore 5, 2), (168, .lload_n 3, 1), (169, .bipush 116, 2), (171, .bipush 119, 2), (173, .bipush 105, 2), (175, .bipush 99, 2), (177, .bipush 101, 2), (179, .invokestatic 121, 3), (182, .lcmp, 1), (183, .ifCond .ne 7, 3), (186, .iconst 5, 1), (187, .goto 5, 3), (190, .iload 5, 2)]
theorem dgX12_wordOf_158 : ∀ q ∈ lgX12_wordOf_158, decode cX12_wordOf q.1 = .ok (q.2.1, q.2.2) := by decide +kernel
theorem dX12_wordOf_94 : decode cX12_wordOf 94 = .ok (.bipush 108, 2) := dall dgX12_wordOf_158 0 rfl
theorem dX12_wordOf_96 : decode cX12_wordOf 96 = .ok (.bipush 105, 2) := dall dgX12_wordOf_158 1 rfl
theorem dX12_wordOf_98 : decode cX12_wordOf 98 = .ok (.bipush 107, 2) := dall dgX12_wordOf_158 2 rfl
theorem dX12_wordOf_100 : decode cX12_wordOf 100 = .ok (.bipush 101, 2) := dall dgX12_wordOf_158 3 rfl
theorem dX12_wordOf_102 : decode cX12_wordOf 102 = .ok (.iconst 0, 1) := dall dgX12_wordOf_158 4 rfl
theorem dX12_wordOf_103 : decode cX12_wordOf 103 = .ok (.invokestatic 121, 3) := dall dgX12_wordOf_158 5 rfl
theorem dX12_wordOf_106 : decode cX12_wordOf 106 = .ok (.lcmp, 1) := dall dgX12_wordOf_158 6 rfl
theorem dX12_wordOf_107 : decode cX12_wordOf 107 = .ok (.ifCond .ne 7, 3) := dall dgX12_wordOf_158 7 rfl
theorem dX12_wordOf_110 : decode cX12_wordOf 110 = .ok (.iconst 2, 1) := dall dgX12_wordOf_158 8 rfl
theorem dX12_wordOf_111 : decode cX12_wordOf 111 = .ok (.goto 5, 3) := dall dgX12_wordOf_158 9 rfl
theorem dX12_wordOf_114 : decode cX12_wordOf 114 = .ok (.iload 5, 2) := dall dgX12_wordOf_158 10 rfl
theorem dX12_wordOf_116 : decode cX12_wordOf 116 = .ok (.istore 5, 2) := dall dgX12_wordOf_158 11 rfl
theorem dX12_wordOf_118 : decode cX12_wordOf 118 = .ok (.lload_n 3, 1) := dall dgX12_wordOf_158 12 rfl
theorem dX12_wordOf_119 : decode cX12_wordOf 119 = .ok (.bipush 110, 2) := dall dgX12_wordOf_158 13 rfl
theorem dX12_wordOf_121 : decode cX12_wordOf 121 = .ok (.bipush 101, 2) := dall dgX12_wordOf_158 14 rfl
theorem dX12_wordOf_123 : decode cX12_wordOf 123 = .ok (.bipush 97, 2) := dall dgX12_wordOf_158 15 rfl
theorem dX12_wordOf_125 : decode cX12_wordOf 125 = .ok (.bipush 114, 2) := dall dgX12_wordOf_158 16 rfl
theorem dX12_wordOf_127 : decode cX12_wordOf 127 = .ok (.iconst 0, 1) := dall dgX12_wordOf_158 17 rfl
theorem dX12_wordOf_128 : decode cX12_wordOf 128 = .ok (.invokestatic 121, 3) := dall dgX12_wordOf_158 18 rfl
theorem dX12_wordOf_131 : decode cX12_wordOf 131 = .ok (.lcmp, 1) := dall dgX12_wordOf_158 19 rfl
theorem dX12_wordOf_132 : decode cX12_wordOf 132 = .ok (.ifCond .ne 7, 3) := dall dgX12_wordOf_158 20 rfl
theorem dX12_wordOf_135 : decode cX12_wordOf 135 = .ok (.iconst 3, 1) := dall dgX12_wordOf_158 21 rfl
theorem dX12_wordOf_136 : decode cX12_wordOf 136 = .ok (.goto 5, 3) := dall dgX12_wordOf_158 22 rfl
theorem dX12_wordOf_139 : decode cX12_wordOf 139 = .ok (.iload 5, 2) := dall dgX12_wordOf_158 23 rfl
theorem dX12_wordOf_141 : decode cX12_wordOf 141 = .ok (.istore 5, 2) := dall dgX12_wordOf_158 24 rfl
theorem dX12_wordOf_143 : decode cX12_wordOf 143 = .ok (.lload_n 3, 1) := dall dgX12_wordOf_158 25 rfl
theorem dX12_wordOf_144 : decode cX12_wordOf 144 = .ok (.bipush 116, 2) := dall dgX12_wordOf_158 26 rfl
theorem dX12_wordOf_146 : decode cX12_wordOf 146 = .ok (.bipush 117, 2) := dall dgX12_wordOf_158 27 rfl
theorem dX12_wordOf_148 : decode cX12_wordOf 148 = .ok (.bipush 114, 2) := dall dgX12_wordOf_158 28 rfl
theorem dX12_wordOf_150 : decode cX12_wordOf 150 = .ok (.bipush 110, 2) := dall dgX12_wordOf_158 29 rfl
theorem dX12_wordOf_152 : decode cX12_wordOf 152 = .ok (.iconst 0, 1) := dall dgX12_wordOf_158 30 rfl
theorem dX12_wordOf_153 : decode cX12_wordOf 153 = .ok (.invokestatic 121, 3) := dall dgX12_wordOf_158 31 rfl
theorem dX12_wordOf_156 : decode cX12_wordOf 156 = .ok (.lcmp, 1) := dall dgX12_wordOf_158 32 rfl
theorem dX12_wordOf_157 : decode cX12_wordOf 157 = .ok (.ifCond .ne 7, 3) := dall dgX12_wordOf_158 33 rfl
theorem dX12_wordOf_160 : decode cX12_wordOf 160 = .ok (.iconst 4, 1) := dall dgX12_wordOf_158 34 rfl
theorem dX12_wordOf_161 : decode cX12_wordOf 161 = .ok (.goto 5, 3) := dall dgX12_wordOf_158 35 rfl
theorem dX12_wordOf_164 : decode cX12_wordOf 164 = .ok (.iload 5, 2) := dall dgX12_wordOf_158 36 rfl
theorem dX12_wordOf_166 : decode cX12_wordOf 166 = .ok (.istore 5, 2) := dall dgX12_wordOf_158 37 rfl
theorem dX12_wordOf_168 : decode cX12_wordOf 168 = .ok (.lload_n 3, 1) := dall dgX12_wordOf_158 38 rfl
theorem dX12_wordOf_169 : decode cX12_wordOf 169 = .ok (.bipush 116, 2) := dall dgX12_wordOf_158 39 rfl
theorem dX12_wordOf_171 : decode cX12_wordOf 171 = .ok (.bipush 119, 2) := dall dgX12_wordOf_158 40 rfl
theorem dX12_wordOf_173 : decode cX12_wordOf 173 = .ok (.bipush 105, 2) := dall dgX12_wordOf_158 41 rfl
theorem dX12_wordOf_175 : decode cX12_wordOf 175 = .ok (.bipush 99, 2) := dall dgX12_wordOf_158 42 rfl
theorem dX12_wordOf_177 : decode cX12_wordOf 177 = .ok (.bipush 101, 2) := dall dgX12_wordOf_158 43 rfl
theorem dX12_wordOf_179 : decode cX12_wordOf 179 = .ok (.invokestatic 121, 3) := dall dgX12_wordOf_158 44 rfl
theorem dX12_wordOf_182 : decode cX12_wordOf 182 = .ok (.lcmp, 1) := dall dgX12_wordOf_158 45 rfl
theorem dX12_wordOf_183 : decode cX12_wordOf 183 = .ok (.ifCond .ne 7, 3) := dall dgX12_wordOf_158 46 rfl
theorem dX12_wordOf_186 : decode cX12_wordOf 186 = .ok (.iconst 5, 1) := dall dgX12_wordOf_158 47 rfl
theorem dX12_wordOf_187 : decode cX12_wordOf 187 = .ok (.goto 5, 3) := dall dgX12_wordOf_158 48 rfl
theorem dX12_wordOf_190 : decode cX12_wordOf 190 = .ok (.iload 5, 2) := dall dgX12_wordOf_158 49 rfl
def lgX12_wordOf_159 : List (Nat × Instr × Nat) := [(192, .istore 5, 2), (194, .iload_n 2, 1), (195, .iload_n 1, 1), (196, .isub, 1), (197, .iconst 5, 1), (198, .if_icmp .le 8, 3), (201, .bipush (-9), 2), (203, .goto 5, 3), (206, .iload 5, 2), (208, .ireturn, 1)]
theorem dgX12_wordOf_159 : ∀ q ∈ lgX12_wordOf_159, decode cX12_wordOf q.1 = .ok (q.2.1, q.2.2) := by decide +kernel
theorem dX12_wordOf_192 : decode cX12_wordOf 192 = .ok (.istore 5, 2) := dall dgX12_wordOf_159 0 rfl
theorem dX12_wordOf_194 : decode cX12_wordOf 194 = .ok (.iload_n 2, 1) := dall dgX12_wordOf_159 1 rfl
theorem dX12_wordOf_195 : decode cX12_wordOf 195 = .ok (.iload_n 1, 1) := dall dgX12_wordOf_159 2 rfl
theorem dX12_wordOf_196 : decode cX12_wordOf 196 = .ok (.isub, 1) := dall dgX12_wordOf_159 3 rfl
theorem dX12_wordOf_197 : decode cX12_wordOf 197 = .ok (.iconst 5, 1) := dall dgX12_wordOf_159 4 rfl
theorem dX12_wordOf_198 : decode cX12_wordOf 198 = .ok (.if_icmp .le 8, 3) := dall dgX12_wordOf_159 5 rfl
theorem dX12_wordOf_201 : decode cX12_wordOf 201 = .ok (.bipush (-9), 2) := dall dgX12_wordOf_159 6 rfl
theorem dX12_wordOf_203 : decode cX12_wordOf 203 = .ok (.goto 5, 3) := dall dgX12_wordOf_159 7 rfl
theorem dX12_wordOf_206 : decode cX12_wordOf 206 = .ok (.iload 5, 2) := dall dgX12_wordOf_159 8 rfl
theorem dX12_wordOf_208 : decode cX12_wordOf 208 = .ok (.ireturn, 1) := dall dgX12_wordOf_159 9 rfl
def lgX12_next_160 : List (Nat × Instr × Nat) := [(0, .aload_n 0, 1), (1, .invokevirtual 125, 3), (4, .bipush 32, 2), (6, .if_icmp .ne 16, 3), (9, .aload_n 0, 1), (10, .dup, 1), (11, .getfield 110, 3), (14, .iconst 1, 1), (15, .iadd, 1), (16, .putfield 110, 3), (19, .goto (-19), 3), (22, .aload_n 0, 1), (23, .aload_n 0, 1), (24, .getfield 110, 3), (27, .putfield 129, 3), (30, .aload_n 0, 1), (31, .iconst 0, 1), (32, .putfield 132, 3), (35, .aload_n 0, 1), (36, .invokevirtual 125, 3), (39, .istore_n 1, 1), (40, .iload_n 1, 1), (41, .ifCond .ge 11, 3), (44, .aload_n 0, 1), (45, .iconst 0, 1), (46, .putfield 135, 3), (49, .goto 218, 3), (52, .iload_n 1, 1), (53, .bipush 97, 2), (55, .bipush 122, 2), (57, .invokestatic 100, 3), (60, .ifCond .eq 67, 3), (63, .aload_n 0, 1), (64, .invokevirtual 125, 3), (67, .bipush 97, 2), (69, .bipush 122, 2), (71, .invokestatic 100, 3), (74, .ifCond .eq 16, 3), (77, .aload_n 0, 1), (78, .dup, 1), (79, .getfield 110, 3), (82, .iconst 1, 1), (83, .iadd, 1), (84, .putfield 110, 3), (87, .goto (-24), 3), (90, .aload_n 0, 1), (91, .aload_n 0, 1), (92, .aload_n 0, 1), (93, .getfield 129, 3), (96, .aload_n 0, 1)]
theorem dgX12_next_160 : ∀ q ∈ lgX12_next_160, decode cX12_next q.1 = .ok (q.2.1, q.2.2) := by decide +kernel
theorem dX12_next_0 : decode cX12_next 0 = .ok (.aload_n 0, 1) := dall dgX12_next_160 0 rfl
theorem dX12_next_1 : decode cX12_next 1 = .ok (.invokevirtual 125, 3) := dall dgX12_next_160 1 rfl
theorem dX12_next_4 : decode cX12_next 4 = .ok (.bipush 32, 2) := dall dgX12_next_160 2 rfl
theorem dX12_next_6 : decode cX12_next 6 = .ok (.if_icmp .ne 16, 3) := dall dgX12_next_160 3 rfl
theorem dX12_next_9 : decode cX12_next 9 = .ok (.aload_n 0, 1) := dall dgX12_next_160 4 rfl
theorem dX12_next_10 : decode cX12_next 10 = .ok (.dup, 1) := dall dgX12_next_160 5 rfl
theorem dX12_next_11 : decode cX12_next 11 = .ok (.getfield 110, 3) := dall dgX12_next_160 6 rfl
theorem dX12_next_14 : decode cX12_next 14 = .ok (.iconst 1, 1) := dall dgX12_next_160 7 rfl
theorem dX12_next_15 : decode cX12_next 15 = .ok (.iadd, 1) := dall dgX12_next_160 8 rfl
theorem dX12_next_16 : decode cX12_next 16 = .ok (.putfield 110, 3) := dall dgX12_next_160 9 rfl
theorem dX12_next_19 : decode cX12_next 19 = .ok (.goto (-19), 3) := dall dgX12_next_160 10 rfl
theorem dX12_next_22 : decode cX12_next 22 = .ok (.aload_n 0, 1) := dall dgX12_next_160 11 rfl
theorem dX12_next_23 : decode cX12_next 23 = .ok (.aload_n 0, 1) := dall dgX12_next_160 12 rfl
theorem dX12_next_24 : decode cX12_next 24 = .ok (.getfield 110, 3) := dall dgX12_next_160 13 rfl
theorem dX12_next_27 : decode cX12_next 27 = .ok (.putfield 129, 3) := dall dgX12_next_160 14 rfl
theorem dX12_next_30 : decode cX12_next 30 = .ok (.aload_n 0, 1) := dall dgX12_next_160 15 rfl
theorem dX12_next_31 : decode cX12_next 31 = .ok (.iconst 0, 1) := dall dgX12_next_160 16 rfl
theorem dX12_next_32 : decode cX12_next 32 = .ok (.putfield 132, 3) := dall dgX12_next_160 17 rfl
theorem dX12_next_35 : decode cX12_next 35 = .ok (.aload_n 0, 1) := dall dgX12_next_160 18 rfl
theorem dX12_next_36 : decode cX12_next 36 = .ok (.invokevirtual 125, 3) := dall dgX12_next_160 19 rfl
theorem dX12_next_39 : decode cX12_next 39 = .ok (.istore_n 1, 1) := dall dgX12_next_160 20 rfl
theorem dX12_next_40 : decode cX12_next 40 = .ok (.iload_n 1, 1) := dall dgX12_next_160 21 rfl
theorem dX12_next_41 : decode cX12_next 41 = .ok (.ifCond .ge 11, 3) := dall dgX12_next_160 22 rfl
theorem dX12_next_44 : decode cX12_next 44 = .ok (.aload_n 0, 1) := dall dgX12_next_160 23 rfl
theorem dX12_next_45 : decode cX12_next 45 = .ok (.iconst 0, 1) := dall dgX12_next_160 24 rfl
theorem dX12_next_46 : decode cX12_next 46 = .ok (.putfield 135, 3) := dall dgX12_next_160 25 rfl
theorem dX12_next_49 : decode cX12_next 49 = .ok (.goto 218, 3) := dall dgX12_next_160 26 rfl
theorem dX12_next_52 : decode cX12_next 52 = .ok (.iload_n 1, 1) := dall dgX12_next_160 27 rfl
theorem dX12_next_53 : decode cX12_next 53 = .ok (.bipush 97, 2) := dall dgX12_next_160 28 rfl
theorem dX12_next_55 : decode cX12_next 55 = .ok (.bipush 122, 2) := dall dgX12_next_160 29 rfl
theorem dX12_next_57 : decode cX12_next 57 = .ok (.invokestatic 100, 3) := dall dgX12_next_160 30 rfl
theorem dX12_next_60 : decode cX12_next 60 = .ok (.ifCond .eq 67, 3) := dall dgX12_next_160 31 rfl
theorem dX12_next_63 : decode cX12_next 63 = .ok (.aload_n 0, 1) := dall dgX12_next_160 32 rfl
theorem dX12_next_64 : decode cX12_next 64 = .ok (.invokevirtual 125, 3) := dall dgX12_next_160 33 rfl
theorem dX12_next_67 : decode cX12_next 67 = .ok (.bipush 97, 2) := dall dgX12_next_160 34 rfl
theorem dX12_next_69 : decode cX12_next 69 = .ok (.bipush 122, 2) := dall dgX12_next_160 35 rfl
theorem dX12_next_71 : decode cX12_next 71 = .ok (.invokestatic 100, 3) := dall dgX12_next_160 36 rfl
theorem dX12_next_74 : decode cX12_next 74 = .ok (.ifCond .eq 16, 3) := dall dgX12_next_160 37 rfl
theorem dX12_next_77 : decode cX12_next 77 = .ok (.aload_n 0, 1) := dall dgX12_next_160 38 rfl
theorem dX12_next_78 : decode cX12_next 78 = .ok (.dup, 1) := dall dgX12_next_160 39 rfl
theorem dX12_next_79 : decode cX12_next 79 = .ok (.getfield 110, 3) := dall dgX12_next_160 40 rfl
theorem dX12_next_82 : decode cX12_next 82 = .ok (.iconst 1, 1) := dall dgX12_next_160 41 rfl
theorem dX12_next_83 : decode cX12_next 83 = .ok (.iadd, 1) := dall dgX12_next_160 42 rfl
theorem dX12_next_84 : decode cX12_next 84 = .ok (.putfield 110, 3) := dall dgX12_next_160 43 rfl
theorem dX12_next_87 : decode cX12_next 87 = .ok (.goto (-24), 3) := dall dgX12_next_160 44 rfl
theorem dX12_next_90 : decode cX12_next 90 = .ok (.aload_n 0, 1) := dall dgX12_next_160 45 rfl
theorem dX12_next_91 : decode cX12_next 91 = .ok (.aload_n 0, 1) := dall dgX12_next_160 46 rfl
theorem dX12_next_92 : decode cX12_next 92 = .ok (.aload_n 0, 1) := dall dgX12_next_160 47 rfl
theorem dX12_next_93 : decode cX12_next 93 = .ok (.getfield 129, 3) := dall dgX12_next_160 48 rfl
theorem dX12_next_96 : decode cX12_next 96 = .ok (.aload_n 0, 1) := dall dgX12_next_160 49 rfl
def lgX12_next_161 : List (Nat × Instr × Nat) := [(97, .getfield 110, 3), (100, .invokevirtual 138, 3), (103, .putfield 132, 3), (106, .aload_n 0, 1), (107, .aload_n 0, 1), (108, .getfield 132, 3), (111, .bipush (-9), 2), (113, .if_icmp .ne 7, 3), (116, .iconst 4, 1), (117, .goto 4, 3), (120, .iconst 1, 1), (121, .putfield 135, 3), (124, .goto 143, 3), (127, .iload_n 1, 1), (128, .bipush 48, 2), (130, .bipush 57, 2), (132, .invokestatic 100, 3), (135, .ifCond .eq 107, 3), (138, .aload_n 0, 1), (139, .invokevirtual 125, 3), (142, .bipush 48, 2), (144, .bipush 57, 2), (146, .invokestatic 100, 3), (149, .ifCond .eq 52, 3), (152, .aload_n 0, 1), (153, .aload_n 0, 1), (154, .getfield 132, 3), (157, .sipush 9999, 3), (160, .if_icmp .le 10, 3), (163, .aload_n 0, 1), (164, .getfield 132, 3), (167, .goto 18, 3), (170, .bipush 10, 2), (172, .aload_n 0, 1), (173, .getfield 132, 3), (176, .imul, 1), (177, .aload_n 0, 1), (178, .invokevirtual 125, 3), (181, .iadd, 1), (182, .bipush 48, 2), (184, .isub, 1), (185, .putfield 132, 3), (188, .aload_n 0, 1), (189, .dup, 1), (190, .getfield 110, 3), (193, .iconst 1, 1), (194, .iadd, 1), (195, .putfield 110, 3), (198, .goto (-60), 3), (201, .aload_n 0, 1)]
theorem dgX12_next_161 : ∀ q ∈ lgX12_next_161, decode cX12_next q.1 = .ok (q.2.1, q.2.2) := by decide +kernel
theorem dX12_next_97 : decode cX12_next 97 = .ok (.getfield 110, 3) := dall dgX12_next_161 0 rfl
theorem dX12_next_100 : decode cX12_next 100 = .ok (.invokevirtual 138, 3) := dall dgX12_next_161 1 rfl
theorem dX12_next_103 : decode cX12_next 103 = .ok (.putfield 132, 3) := dall dgX12_next_161 2 rfl
theorem dX12_next_106 : decode cX12_next 106 = .ok (.aload_n 0, 1) := dall dgX12_next_161 3 rfl
theorem dX12_next_107 : decode cX12_next 107 = .ok (.aload_n 0, 1) := dall dgX12_next_161 4 rfl
theorem dX12_next_108 : decode cX12_next 108 = .ok (.getfield 132, 3) := dall dgX12_next_161 5 rfl
theorem dX12_next_111 : decode cX12_next 111 = .ok (.bipush (-9), 2) := dall dgX12_next_161 6 rfl
theorem dX12_next_113 : decode cX12_next 113 = .ok (.if_icmp .ne 7, 3) := dall dgX12_next_161 7 rfl
theorem dX12_next_116 : decode cX12_next 116 = .ok (.iconst 4, 1) := dall dgX12_next_161 8 rfl
theorem dX12_next_117 : decode cX12_next 117 = .ok (.goto 4, 3) := dall dgX12_next_161 9 rfl
theorem dX12_next_120 : decode cX12_next 120 = .ok (.iconst 1, 1) := dall dgX12_next_161 10 rfl
theorem dX12_next_121 : decode cX12_next 121 = .ok (.putfield 135, 3) := dall dgX12_next_161 11 rfl
theorem dX12_next_124 : decode cX12_next 124 = .ok (.goto 143, 3) := dall dgX12_next_161 12 rfl
theorem dX12_next_127 : decode cX12_next 127 = .ok (.iload_n 1, 1) := dall dgX12_next_161 13 rfl
theorem dX12_next_128 : decode cX12_next 128 = .ok (.bipush 48, 2) := dall dgX12_next_161 14 rfl
theorem dX12_next_130 : decode cX12_next 130 = .ok (.bipush 57, 2) := dall dgX12_next_161 15 rfl
theorem dX12_next_132 : decode cX12_next 132 = .ok (.invokestatic 100, 3) := dall dgX12_next_161 16 rfl
theorem dX12_next_135 : decode cX12_next 135 = .ok (.ifCond .eq 107, 3) := dall dgX12_next_161 17 rfl
theorem dX12_next_138 : decode cX12_next 138 = .ok (.aload_n 0, 1) := dall dgX12_next_161 18 rfl
theorem dX12_next_139 : decode cX12_next 139 = .ok (.invokevirtual 125, 3) := dall dgX12_next_161 19 rfl
theorem dX12_next_142 : decode cX12_next 142 = .ok (.bipush 48, 2) := dall dgX12_next_161 20 rfl
theorem dX12_next_144 : decode cX12_next 144 = .ok (.bipush 57, 2) := dall dgX12_next_161 21 rfl
theorem dX12_next_146 : decode cX12_next 146 = .ok (.invokestatic 100, 3) := dall dgX12_next_161 22 rfl
theorem dX12_next_149 : decode cX12_next 149 = .ok (.ifCond .eq 52, 3) := dall dgX12_next_161 23 rfl
theorem dX12_next_152 : decode cX12_next 152 = .ok (.aload_n 0, 1) := dall dgX12_next_161 24 rfl
theorem dX12_next_153 : decode cX12_next 153 = .ok (.aload_n 0, 1) := dall dgX12_next_161 25 rfl
theorem dX12_next_154 : decode cX12_next 154 = .ok (.getfield 132, 3) := dall dgX12_next_161 26 rfl
theorem dX12_next_157 : decode cX12_next 157 = .ok (.sipush 9999, 3) := dall dgX12_next_161 27 rfl
theorem dX12_next_160 : decode cX12_next 160 = .ok (.if_icmp .le 10, 3) := dall dgX12_next_161 28 rfl
theorem dX12_next_163 : decode cX12_next 163 = .ok (.aload_n 0, 1) := dall dgX12_next_161 29 rfl
theorem dX12_next_164 : decode cX12_next 164 = .ok (.getfield 132, 3) := dall dgX12_next_161 30 rfl
theorem dX12_next_167 : decode cX12_next 167 = .ok (.goto 18, 3) := dall dgX12_next_161 31 rfl
theorem dX12_next_170 : decode cX12_next 170 = .ok (.bipush 10, 2) := dall dgX12_next_161 32 rfl
theorem dX12_next_172 : decode cX12_next 172 = .ok (.aload_n 0, 1) := dall dgX12_next_161 33 rfl
theorem dX12_next_173 : decode cX12_next 173 = .ok (.getfield 132, 3) := dall dgX12_next_161 34 rfl
theorem dX12_next_176 : decode cX12_next 176 = .ok (.imul, 1) := dall dgX12_next_161 35 rfl
theorem dX12_next_177 : decode cX12_next 177 = .ok (.aload_n 0, 1) := dall dgX12_next_161 36 rfl
theorem dX12_next_178 : decode cX12_next 178 = .ok (.invokevirtual 125, 3) := dall dgX12_next_161 37 rfl
theorem dX12_next_181 : decode cX12_next 181 = .ok (.iadd, 1) := dall dgX12_next_161 38 rfl
theorem dX12_next_182 : decode cX12_next 182 = .ok (.bipush 48, 2) := dall dgX12_next_161 39 rfl
theorem dX12_next_184 : decode cX12_next 184 = .ok (.isub, 1) := dall dgX12_next_161 40 rfl
theorem dX12_next_185 : decode cX12_next 185 = .ok (.putfield 132, 3) := dall dgX12_next_161 41 rfl
theorem dX12_next_188 : decode cX12_next 188 = .ok (.aload_n 0, 1) := dall dgX12_next_161 42 rfl
theorem dX12_next_189 : decode cX12_next 189 = .ok (.dup, 1) := dall dgX12_next_161 43 rfl
theorem dX12_next_190 : decode cX12_next 190 = .ok (.getfield 110, 3) := dall dgX12_next_161 44 rfl
theorem dX12_next_193 : decode cX12_next 193 = .ok (.iconst 1, 1) := dall dgX12_next_161 45 rfl
theorem dX12_next_194 : decode cX12_next 194 = .ok (.iadd, 1) := dall dgX12_next_161 46 rfl
theorem dX12_next_195 : decode cX12_next 195 = .ok (.putfield 110, 3) := dall dgX12_next_161 47 rfl
theorem dX12_next_198 : decode cX12_next 198 = .ok (.goto (-60), 3) := dall dgX12_next_161 48 rfl
theorem dX12_next_201 : decode cX12_next 201 = .ok (.aload_n 0, 1) := dall dgX12_next_161 49 rfl
def lgX12_next_162 : List (Nat × Instr × Nat) := [(202, .aload_n 0, 1), (203, .getfield 132, 3), (206, .sipush 9999, 3), (209, .if_icmp .gt 22, 3), (212, .iload_n 1, 1), (213, .bipush 48, 2), (215, .if_icmp .ne 20, 3), (218, .aload_n 0, 1), (219, .getfield 110, 3), (222, .aload_n 0, 1), (223, .getfield 129, 3), (226, .isub, 1), (227, .iconst 1, 1), (228, .if_icmp .le 7, 3), (231, .iconst 4, 1), (232, .goto 4, 3), (235, .iconst 2, 1), (236, .putfield 135, 3), (239, .goto 28, 3), (242, .aload_n 0, 1), (243, .dup, 1), (244, .getfield 110, 3), (247, .iconst 1, 1), (248, .iadd, 1), (249, .putfield 110, 3), (252, .aload_n 0, 1), (253, .iload_n 1, 1), (254, .bipush 59, 2), (256, .if_icmp .ne 7, 3), (259, .iconst 3, 1), (260, .goto 4, 3), (263, .iconst 4, 1), (264, .putfield 135, 3), (267, .return_, 1)]
theorem dgX12_next_162 : ∀ q ∈ lgX12_next_162, decode cX12_next q.1 = .ok (q.2.1, q.2.2) := by decide +kernel
theorem dX12_next_202 : decode cX12_next 202 = .ok (.aload_n 0, 1) := dall dgX12_next_162 0 rfl
theorem dX12_next_203 : decode cX12_next 203 = .ok (.getfield 132, 3) := dall dgX12_next_162 1 rfl
theorem dX12_next_206 : decode cX12_next 206 = .ok (.sipush 9999, 3) := dall dgX12_next_162 2 rfl
theorem dX12_next_209 : decode cX12_next 209 = .ok (.if_icmp .gt 22, 3) := dall dgX12_next_162 3 rfl
theorem dX12_next_212 : decode cX12_next 212 = .ok (.iload_n 1, 1) := dall dgX12_next_162 4 rfl
theorem dX12_next_213 : decode cX12_next 213 = .ok (.bipush 48, 2) := dall dgX12_next_162 5 rfl
theorem dX12_next_215 : decode cX12_next 215 = .ok (.if_icmp .ne 20, 3) := dall dgX12_next_162 6 rfl
theorem dX12_next_218 : decode cX12_next 218 = .ok (.aload_n 0, 1) := dall dgX12_next_162 7 rfl
theorem dX12_next_219 : decode cX12_next 219 = .ok (.getfield 110, 3) := dall dgX12_next_162 8 rfl
theorem dX12_next_222 : decode cX12_next 222 = .ok (.aload_n 0, 1) := dall dgX12_next_162 9 rfl
theorem dX12_next_223 : decode cX12_next 223 = .ok (.getfield 129, 3) := dall dgX12_next_162 10 rfl
theorem dX12_next_226 : decode cX12_next 226 = .ok (.isub, 1) := dall dgX12_next_162 11 rfl
theorem dX12_next_227 : decode cX12_next 227 = .ok (.iconst 1, 1) := dall dgX12_next_162 12 rfl
theorem dX12_next_228 : decode cX12_next 228 = .ok (.if_icmp .le 7, 3) := dall dgX12_next_162 13 rfl
theorem dX12_next_231 : decode cX12_next 231 = .ok (.iconst 4, 1) := dall dgX12_next_162 14 rfl
theorem dX12_next_232 : decode cX12_next 232 = .ok (.goto 4, 3) := dall dgX12_next_162 15 rfl
theorem dX12_next_235 : decode cX12_next 235 = .ok (.iconst 2, 1) := dall dgX12_next_162 16 rfl
theorem dX12_next_236 : decode cX12_next 236 = .ok (.putfield 135, 3) := dall dgX12_next_162 17 rfl
theorem dX12_next_239 : decode cX12_next 239 = .ok (.goto 28, 3) := dall dgX12_next_162 18 rfl
theorem dX12_next_242 : decode cX12_next 242 = .ok (.aload_n 0, 1) := dall dgX12_next_162 19 rfl
theorem dX12_next_243 : decode cX12_next 243 = .ok (.dup, 1) := dall dgX12_next_162 20 rfl
theorem dX12_next_244 : decode cX12_next 244 = .ok (.getfield 110, 3) := dall dgX12_next_162 21 rfl
theorem dX12_next_247 : decode cX12_next 247 = .ok (.iconst 1, 1) := dall dgX12_next_162 22 rfl
theorem dX12_next_248 : decode cX12_next 248 = .ok (.iadd, 1) := dall dgX12_next_162 23 rfl
theorem dX12_next_249 : decode cX12_next 249 = .ok (.putfield 110, 3) := dall dgX12_next_162 24 rfl
theorem dX12_next_252 : decode cX12_next 252 = .ok (.aload_n 0, 1) := dall dgX12_next_162 25 rfl
theorem dX12_next_253 : decode cX12_next 253 = .ok (.iload_n 1, 1) := dall dgX12_next_162 26 rfl
theorem dX12_next_254 : decode cX12_next 254 = .ok (.bipush 59, 2) := dall dgX12_next_162 27 rfl
theorem dX12_next_256 : decode cX12_next 256 = .ok (.if_icmp .ne 7, 3) := dall dgX12_next_162 28 rfl
theorem dX12_next_259 : decode cX12_next 259 = .ok (.iconst 3, 1) := dall dgX12_next_162 29 rfl
theorem dX12_next_260 : decode cX12_next 260 = .ok (.goto 4, 3) := dall dgX12_next_162 30 rfl
theorem dX12_next_263 : decode cX12_next 263 = .ok (.iconst 4, 1) := dall dgX12_next_162 31 rfl
theorem dX12_next_264 : decode cX12_next 264 = .ok (.putfield 135, 3) := dall dgX12_next_162 32 rfl
theorem dX12_next_267 : decode cX12_next 267 = .ok (.return_, 1) := dall dgX12_next_162 33 rfl
def lgX12_due_163 : List (Nat × Instr × Nat) := [(0, .aload_n 0, 1), (1, .getfield 132, 3), (4, .istore_n 2, 1), (5, .aload_n 0, 1), (6, .getfield 142, 3), (9, .bipush (-9), 2), (11, .if_icmp .ne 22, 3), (14, .iload_n 1, 1), (15, .ifCond .eq 10, 3), (18, .aload_n 0, 1), (19, .invokevirtual 145, 3), (22, .goto 11, 3), (25, .aload_n 0, 1), (26, .aload_n 0, 1), (27, .getfield 129, 3), (30, .putfield 142, 3), (33, .iload_n 2, 1), (34, .ireturn, 1)]
theorem dgX12_due_163 : ∀ q ∈ lgX12_due_163, decode cX12_due q.1 = .ok (q.2.1, q.2.2) := by decide +kernel
theorem dX12_due_0 : decode cX12_due 0 = .ok (.aload_n 0, 1) := dall dgX12_due_163 0 rfl
theorem dX12_due_1 : decode cX12_due 1 = .ok (.getfield 132, 3) := dall dgX12_due_163 1 rfl
theorem dX12_due_4 : decode cX12_due 4 = .ok (.istore_n 2, 1) := dall dgX12_due_163 2 rfl
theorem dX12_due_5 : decode cX12_due 5 = .ok (.aload_n 0, 1) := dall dgX12_due_163 3 rfl
theorem dX12_due_6 : decode cX12_due 6 = .ok (.getfield 142, 3) := dall dgX12_due_163 4 rfl
theorem dX12_due_9 : decode cX12_due 9 = .ok (.bipush (-9), 2) := dall dgX12_due_163 5 rfl
theorem dX12_due_11 : decode cX12_due 11 = .ok (.if_icmp .ne 22, 3) := dall dgX12_due_163 6 rfl
theorem dX12_due_14 : decode cX12_due 14 = .ok (.iload_n 1, 1) := dall dgX12_due_163 7 rfl
theorem dX12_due_15 : decode cX12_due 15 = .ok (.ifCond .eq 10, 3) := dall dgX12_due_163 8 rfl
theorem dX12_due_18 : decode cX12_due 18 = .ok (.aload_n 0, 1) := dall dgX12_due_163 9 rfl
theorem dX12_due_19 : decode cX12_due 19 = .ok (.invokevirtual 145, 3) := dall dgX12_due_163 10 rfl
theorem dX12_due_22 : decode cX12_due 22 = .ok (.goto 11, 3) := dall dgX12_due_163 11 rfl
theorem dX12_due_25 : decode cX12_due 25 = .ok (.aload_n 0, 1) := dall dgX12_due_163 12 rfl
theorem dX12_due_26 : decode cX12_due 26 = .ok (.aload_n 0, 1) := dall dgX12_due_163 13 rfl
theorem dX12_due_27 : decode cX12_due 27 = .ok (.getfield 129, 3) := dall dgX12_due_163 14 rfl
theorem dX12_due_30 : decode cX12_due 30 = .ok (.putfield 142, 3) := dall dgX12_due_163 15 rfl
theorem dX12_due_33 : decode cX12_due 33 = .ok (.iload_n 2, 1) := dall dgX12_due_163 16 rfl
theorem dX12_due_34 : decode cX12_due 34 = .ok (.ireturn, 1) := dall dgX12_due_163 17 rfl
def lgX12_rules_164 : List (Nat × Instr × Nat) := [(0, .aload_n 0, 1), (1, .iconst 0, 1), (2, .putfield 110, 3), (5, .aload_n 0, 1), (6, .bipush (-9), 2), (8, .putfield 142, 3), (11, .iconst 0, 1), (12, .istore_n 1, 1), (13, .iconst 0, 1), (14, .istore_n 2, 1), (15, .aload_n 0, 1), (16, .bipush 6, 2), (18, .invokevirtual 96, 3), (21, .aload_n 0, 1), (22, .invokevirtual 145, 3), (25, .aload_n 0, 1), (26, .getfield 142, 3), (29, .bipush (-9), 2), (31, .if_icmp .ne 119, 3), (34, .aload_n 0, 1), (35, .getfield 135, 3), (38, .ifCond .eq 112, 3), (41, .aload_n 0, 1), (42, .aload_n 0, 1), (43, .getfield 135, 3), (46, .iconst 1, 1), (47, .if_icmp .ne 18, 3), (50, .iload_n 1, 1), (51, .aload_n 0, 1), (52, .getfield 132, 3), (55, .ishr, 1), (56, .iconst 1, 1), (57, .iand, 1), (58, .ifCond .ne 7, 3), (61, .iconst 1, 1), (62, .goto 4, 3), (65, .iconst 0, 1), (66, .invokevirtual 148, 3), (69, .istore_n 3, 1), (70, .aload_n 0, 1), (71, .getfield 142, 3), (74, .bipush (-9), 2), (76, .if_icmp .ne 71, 3), (79, .iload_n 1, 1), (80, .iconst 1, 1), (81, .iload_n 3, 1), (82, .ishl, 1), (83, .ior, 1), (84, .istore_n 1, 1), (85, .aload_n 0, 1)]
theorem dgX12_rules_164 : ∀ q ∈ lgX12_rules_164, decode cX12_rules q.1 = .ok (q.2.1, q.2.2) := by decide +kernel
theorem dX12_rules_0 : decode cX12_rules 0 = .ok (.aload_n 0, 1) := dall dgX12_rules_164 0 rfl
theorem dX12_rules_1 : decode cX12_rules 1 = .ok (.iconst 0, 1) := dall dgX12_rules_164 1 rfl
theorem dX12_rules_2 : decode cX12_rules 2 = .ok (.putfield 110, 3) := dall dgX12_rules_164 2 rfl
theorem dX12_rules_5 : decode cX12_rules 5 = .ok (.aload_n 0, 1) := dall dgX12_rules_164 3 rfl
theorem dX12_rules_6 : decode cX12_rules 6 = .ok (.bipush (-9), 2) := dall dgX12_rules_164 4 rfl
theorem dX12_rules_8 : decode cX12_rules 8 = .ok (.putfield 142, 3) := dall dgX12_rules_164 5 rfl
theorem dX12_rules_11 : decode cX12_rules 11 = .ok (.iconst 0, 1) := dall dgX12_rules_164 6 rfl
theorem dX12_rules_12 : decode cX12_rules 12 = .ok (.istore_n 1, 1) := dall dgX12_rules_164 7 rfl
theorem dX12_rules_13 : decode cX12_rules 13 = .ok (.iconst 0, 1) := dall dgX12_rules_164 8 rfl
theorem dX12_rules_14 : decode cX12_rules 14 = .ok (.istore_n 2, 1) := dall dgX12_rules_164 9 rfl
theorem dX12_rules_15 : decode cX12_rules 15 = .ok (.aload_n 0, 1) := dall dgX12_rules_164 10 rfl
theorem dX12_rules_16 : decode cX12_rules 16 = .ok (.bipush 6, 2) := dall dgX12_rules_164 11 rfl
theorem dX12_rules_18 : decode cX12_rules 18 = .ok (.invokevirtual 96, 3) := dall dgX12_rules_164 12 rfl
theorem dX12_rules_21 : decode cX12_rules 21 = .ok (.aload_n 0, 1) := dall dgX12_rules_164 13 rfl
theorem dX12_rules_22 : decode cX12_rules 22 = .ok (.invokevirtual 145, 3) := dall dgX12_rules_164 14 rfl
theorem dX12_rules_25 : decode cX12_rules 25 = .ok (.aload_n 0, 1) := dall dgX12_rules_164 15 rfl
theorem dX12_rules_26 : decode cX12_rules 26 = .ok (.getfield 142, 3) := dall dgX12_rules_164 16 rfl
theorem dX12_rules_29 : decode cX12_rules 29 = .ok (.bipush (-9), 2) := dall dgX12_rules_164 17 rfl
theorem dX12_rules_31 : decode cX12_rules 31 = .ok (.if_icmp .ne 119, 3) := dall dgX12_rules_164 18 rfl
theorem dX12_rules_34 : decode cX12_rules 34 = .ok (.aload_n 0, 1) := dall dgX12_rules_164 19 rfl
theorem dX12_rules_35 : decode cX12_rules 35 = .ok (.getfield 135, 3) := dall dgX12_rules_164 20 rfl
theorem dX12_rules_38 : decode cX12_rules 38 = .ok (.ifCond .eq 112, 3) := dall dgX12_rules_164 21 rfl
theorem dX12_rules_41 : decode cX12_rules 41 = .ok (.aload_n 0, 1) := dall dgX12_rules_164 22 rfl
theorem dX12_rules_42 : decode cX12_rules 42 = .ok (.aload_n 0, 1) := dall dgX12_rules_164 23 rfl
theorem dX12_rules_43 : decode cX12_rules 43 = .ok (.getfield 135, 3) := dall dgX12_rules_164 24 rfl
theorem dX12_rules_46 : decode cX12_rules 46 = .ok (.iconst 1, 1) := dall dgX12_rules_164 25 rfl
theorem dX12_rules_47 : decode cX12_rules 47 = .ok (.if_icmp .ne 18, 3) := dall dgX12_rules_164 26 rfl
theorem dX12_rules_50 : decode cX12_rules 50 = .ok (.iload_n 1, 1) := dall dgX12_rules_164 27 rfl
theorem dX12_rules_51 : decode cX12_rules 51 = .ok (.aload_n 0, 1) := dall dgX12_rules_164 28 rfl
theorem dX12_rules_52 : decode cX12_rules 52 = .ok (.getfield 132, 3) := dall dgX12_rules_164 29 rfl
theorem dX12_rules_55 : decode cX12_rules 55 = .ok (.ishr, 1) := dall dgX12_rules_164 30 rfl
theorem dX12_rules_56 : decode cX12_rules 56 = .ok (.iconst 1, 1) := dall dgX12_rules_164 31 rfl
theorem dX12_rules_57 : decode cX12_rules 57 = .ok (.iand, 1) := dall dgX12_rules_164 32 rfl
theorem dX12_rules_58 : decode cX12_rules 58 = .ok (.ifCond .ne 7, 3) := dall dgX12_rules_164 33 rfl
theorem dX12_rules_61 : decode cX12_rules 61 = .ok (.iconst 1, 1) := dall dgX12_rules_164 34 rfl
theorem dX12_rules_62 : decode cX12_rules 62 = .ok (.goto 4, 3) := dall dgX12_rules_164 35 rfl
theorem dX12_rules_65 : decode cX12_rules 65 = .ok (.iconst 0, 1) := dall dgX12_rules_164 36 rfl
theorem dX12_rules_66 : decode cX12_rules 66 = .ok (.invokevirtual 148, 3) := dall dgX12_rules_164 37 rfl
theorem dX12_rules_69 : decode cX12_rules 69 = .ok (.istore_n 3, 1) := dall dgX12_rules_164 38 rfl
theorem dX12_rules_70 : decode cX12_rules 70 = .ok (.aload_n 0, 1) := dall dgX12_rules_164 39 rfl
theorem dX12_rules_71 : decode cX12_rules 71 = .ok (.getfield 142, 3) := dall dgX12_rules_164 40 rfl
theorem dX12_rules_74 : decode cX12_rules 74 = .ok (.bipush (-9), 2) := dall dgX12_rules_164 41 rfl
theorem dX12_rules_76 : decode cX12_rules 76 = .ok (.if_icmp .ne 71, 3) := dall dgX12_rules_164 42 rfl
theorem dX12_rules_79 : decode cX12_rules 79 = .ok (.iload_n 1, 1) := dall dgX12_rules_164 43 rfl
theorem dX12_rules_80 : decode cX12_rules 80 = .ok (.iconst 1, 1) := dall dgX12_rules_164 44 rfl
theorem dX12_rules_81 : decode cX12_rules 81 = .ok (.iload_n 3, 1) := dall dgX12_rules_164 45 rfl
theorem dX12_rules_82 : decode cX12_rules 82 = .ok (.ishl, 1) := dall dgX12_rules_164 46 rfl
theorem dX12_rules_83 : decode cX12_rules 83 = .ok (.ior, 1) := dall dgX12_rules_164 47 rfl
theorem dX12_rules_84 : decode cX12_rules 84 = .ok (.istore_n 1, 1) := dall dgX12_rules_164 48 rfl
theorem dX12_rules_85 : decode cX12_rules 85 = .ok (.aload_n 0, 1) := dall dgX12_rules_164 49 rfl
def lgX12_rules_165 : List (Nat × Instr × Nat) := [(86, .aload_n 0, 1), (87, .getfield 135, 3), (90, .iconst 2, 1), (91, .if_icmp .ne 18, 3), (94, .aload_n 0, 1), (95, .getfield 132, 3), (98, .iload_n 3, 1), (99, .invokestatic 152, 3), (102, .if_icmp .gt 7, 3), (105, .iconst 1, 1), (106, .goto 4, 3), (109, .iconst 0, 1), (110, .invokevirtual 148, 3), (113, .istore 4, 2), (115, .aload_n 0, 1), (116, .aload_n 0, 1), (117, .getfield 135, 3), (120, .iconst 3, 1), (121, .if_icmp .ne 7, 3), (124, .iconst 1, 1), (125, .goto 4, 3), (128, .iconst 0, 1), (129, .invokevirtual 148, 3), (132, .pop, 1), (133, .aload_n 0, 1), (134, .getfield 7, 3), (137, .bipush 6, 2), (139, .iload_n 3, 1), (140, .iadd, 1), (141, .iload 4, 2), (143, .iastore, 1), (144, .iinc 2 1, 3), (147, .goto (-122), 3), (150, .aload_n 0, 1), (151, .getfield 142, 3), (154, .bipush (-9), 2), (156, .if_icmp .eq 11, 3), (159, .bipush (-10), 2), (161, .aload_n 0, 1), (162, .getfield 142, 3), (165, .isub, 1), (166, .ireturn, 1), (167, .iconst 0, 1), (168, .istore_n 3, 1), (169, .iload_n 3, 1), (170, .bipush 6, 2), (172, .if_icmp .ge 24, 3), (175, .aload_n 0, 1), (176, .getfield 7, 3), (179, .iload_n 3, 1)]
theorem dgX12_rules_165 : ∀ q ∈ lgX12_rules_165, decode cX12_rules q.1 = .ok (q.2.1, q.2.2) := by decide +kernel
theorem dX12_rules_86 : decode cX12_rules 86 = .ok (.aload_n 0, 1) := dall dgX12_rules_165 0 rfl
theorem dX12_rules_87 : decode cX12_rules 87 = .ok (.getfield 135, 3) := dall dgX12_rules_165 1 rfl
theorem dX12_rules_90 : decode cX12_rules 90 = .ok (.iconst 2, 1) := dall dgX12_rules_165 2 rfl
theorem dX12_rules_91 : decode cX12_rules 91 = .ok (.if_icmp .ne 18, 3) := dall dgX12_rules_165 3 rfl
theorem dX12_rules_94 : decode cX12_rules 94 = .ok (.aload_n 0, 1) := dall dgX12_rules_165 4 rfl
theorem dX12_rules_95 : decode cX12_rules 95 = .ok (.getfield 132, 3) := dall dgX12_rules_165 5 rfl
theorem dX12_rules_98 : decode cX12_rules 98 = .ok (.iload_n 3, 1) := dall dgX12_rules_165 6 rfl
theorem dX12_rules_99 : decode cX12_rules 99 = .ok (.invokestatic 152, 3) := dall dgX12_rules_165 7 rfl
theorem dX12_rules_102 : decode cX12_rules 102 = .ok (.if_icmp .gt 7, 3) := dall dgX12_rules_165 8 rfl
theorem dX12_rules_105 : decode cX12_rules 105 = .ok (.iconst 1, 1) := dall dgX12_rules_165 9 rfl
theorem dX12_rules_106 : decode cX12_rules 106 = .ok (.goto 4, 3) := dall dgX12_rules_165 10 rfl
theorem dX12_rules_109 : decode cX12_rules 109 = .ok (.iconst 0, 1) := dall dgX12_rules_165 11 rfl
theorem dX12_rules_110 : decode cX12_rules 110 = .ok (.invokevirtual 148, 3) := dall dgX12_rules_165 12 rfl
theorem dX12_rules_113 : decode cX12_rules 113 = .ok (.istore 4, 2) := dall dgX12_rules_165 13 rfl
theorem dX12_rules_115 : decode cX12_rules 115 = .ok (.aload_n 0, 1) := dall dgX12_rules_165 14 rfl
theorem dX12_rules_116 : decode cX12_rules 116 = .ok (.aload_n 0, 1) := dall dgX12_rules_165 15 rfl
theorem dX12_rules_117 : decode cX12_rules 117 = .ok (.getfield 135, 3) := dall dgX12_rules_165 16 rfl
theorem dX12_rules_120 : decode cX12_rules 120 = .ok (.iconst 3, 1) := dall dgX12_rules_165 17 rfl
theorem dX12_rules_121 : decode cX12_rules 121 = .ok (.if_icmp .ne 7, 3) := dall dgX12_rules_165 18 rfl
theorem dX12_rules_124 : decode cX12_rules 124 = .ok (.iconst 1, 1) := dall dgX12_rules_165 19 rfl
theorem dX12_rules_125 : decode cX12_rules 125 = .ok (.goto 4, 3) := dall dgX12_rules_165 20 rfl
theorem dX12_rules_128 : decode cX12_rules 128 = .ok (.iconst 0, 1) := dall dgX12_rules_165 21 rfl
theorem dX12_rules_129 : decode cX12_rules 129 = .ok (.invokevirtual 148, 3) := dall dgX12_rules_165 22 rfl
theorem dX12_rules_132 : decode cX12_rules 132 = .ok (.pop, 1) := dall dgX12_rules_165 23 rfl
theorem dX12_rules_133 : decode cX12_rules 133 = .ok (.aload_n 0, 1) := dall dgX12_rules_165 24 rfl
theorem dX12_rules_134 : decode cX12_rules 134 = .ok (.getfield 7, 3) := dall dgX12_rules_165 25 rfl
theorem dX12_rules_137 : decode cX12_rules 137 = .ok (.bipush 6, 2) := dall dgX12_rules_165 26 rfl
theorem dX12_rules_139 : decode cX12_rules 139 = .ok (.iload_n 3, 1) := dall dgX12_rules_165 27 rfl
theorem dX12_rules_140 : decode cX12_rules 140 = .ok (.iadd, 1) := dall dgX12_rules_165 28 rfl
theorem dX12_rules_141 : decode cX12_rules 141 = .ok (.iload 4, 2) := dall dgX12_rules_165 29 rfl
theorem dX12_rules_143 : decode cX12_rules 143 = .ok (.iastore, 1) := dall dgX12_rules_165 30 rfl
theorem dX12_rules_144 : decode cX12_rules 144 = .ok (.iinc 2 1, 3) := dall dgX12_rules_165 31 rfl
theorem dX12_rules_147 : decode cX12_rules 147 = .ok (.goto (-122), 3) := dall dgX12_rules_165 32 rfl
theorem dX12_rules_150 : decode cX12_rules 150 = .ok (.aload_n 0, 1) := dall dgX12_rules_165 33 rfl
theorem dX12_rules_151 : decode cX12_rules 151 = .ok (.getfield 142, 3) := dall dgX12_rules_165 34 rfl
theorem dX12_rules_154 : decode cX12_rules 154 = .ok (.bipush (-9), 2) := dall dgX12_rules_165 35 rfl
theorem dX12_rules_156 : decode cX12_rules 156 = .ok (.if_icmp .eq 11, 3) := dall dgX12_rules_165 36 rfl
theorem dX12_rules_159 : decode cX12_rules 159 = .ok (.bipush (-10), 2) := dall dgX12_rules_165 37 rfl
theorem dX12_rules_161 : decode cX12_rules 161 = .ok (.aload_n 0, 1) := dall dgX12_rules_165 38 rfl
theorem dX12_rules_162 : decode cX12_rules 162 = .ok (.getfield 142, 3) := dall dgX12_rules_165 39 rfl
theorem dX12_rules_165 : decode cX12_rules 165 = .ok (.isub, 1) := dall dgX12_rules_165 40 rfl
theorem dX12_rules_166 : decode cX12_rules 166 = .ok (.ireturn, 1) := dall dgX12_rules_165 41 rfl
theorem dX12_rules_167 : decode cX12_rules 167 = .ok (.iconst 0, 1) := dall dgX12_rules_165 42 rfl
theorem dX12_rules_168 : decode cX12_rules 168 = .ok (.istore_n 3, 1) := dall dgX12_rules_165 43 rfl
theorem dX12_rules_169 : decode cX12_rules 169 = .ok (.iload_n 3, 1) := dall dgX12_rules_165 44 rfl
theorem dX12_rules_170 : decode cX12_rules 170 = .ok (.bipush 6, 2) := dall dgX12_rules_165 45 rfl
theorem dX12_rules_172 : decode cX12_rules 172 = .ok (.if_icmp .ge 24, 3) := dall dgX12_rules_165 46 rfl
theorem dX12_rules_175 : decode cX12_rules 175 = .ok (.aload_n 0, 1) := dall dgX12_rules_165 47 rfl
theorem dX12_rules_176 : decode cX12_rules 176 = .ok (.getfield 7, 3) := dall dgX12_rules_165 48 rfl
theorem dX12_rules_179 : decode cX12_rules 179 = .ok (.iload_n 3, 1) := dall dgX12_rules_165 49 rfl
def lgX12_rules_166 : List (Nat × Instr × Nat) := [(180, .aload_n 0, 1), (181, .getfield 7, 3), (184, .bipush 6, 2), (186, .iload_n 3, 1), (187, .iadd, 1), (188, .iaload, 1), (189, .iastore, 1), (190, .iinc 3 1, 3), (193, .goto (-24), 3), (196, .aload_n 0, 1), (197, .iconst 0, 1), (198, .putfield 104, 3), (201, .iload_n 2, 1), (202, .ireturn, 1)]
theorem dgX12_rules_166 : ∀ q ∈ lgX12_rules_166, decode cX12_rules q.1 = .ok (q.2.1, q.2.2) := by decide +kernel
theorem dX12_rules_180 : decode cX12_rules 180 = .ok (.aload_n 0, 1) := dall dgX12_rules_166 0 rfl
theorem dX12_rules_181 : decode cX12_rules 181 = .ok (.getfield 7, 3) := dall dgX12_rules_166 1 rfl
theorem dX12_rules_184 : decode cX12_rules 184 = .ok (.bipush 6, 2) := dall dgX12_rules_166 2 rfl
theorem dX12_rules_186 : decode cX12_rules 186 = .ok (.iload_n 3, 1) := dall dgX12_rules_166 3 rfl
theorem dX12_rules_187 : decode cX12_rules 187 = .ok (.iadd, 1) := dall dgX12_rules_166 4 rfl
theorem dX12_rules_188 : decode cX12_rules 188 = .ok (.iaload, 1) := dall dgX12_rules_166 5 rfl
theorem dX12_rules_189 : decode cX12_rules 189 = .ok (.iastore, 1) := dall dgX12_rules_166 6 rfl
theorem dX12_rules_190 : decode cX12_rules 190 = .ok (.iinc 3 1, 3) := dall dgX12_rules_166 7 rfl
theorem dX12_rules_193 : decode cX12_rules 193 = .ok (.goto (-24), 3) := dall dgX12_rules_166 8 rfl
theorem dX12_rules_196 : decode cX12_rules 196 = .ok (.aload_n 0, 1) := dall dgX12_rules_166 9 rfl
theorem dX12_rules_197 : decode cX12_rules 197 = .ok (.iconst 0, 1) := dall dgX12_rules_166 10 rfl
theorem dX12_rules_198 : decode cX12_rules 198 = .ok (.putfield 104, 3) := dall dgX12_rules_166 11 rfl
theorem dX12_rules_201 : decode cX12_rules 201 = .ok (.iload_n 2, 1) := dall dgX12_rules_166 12 rfl
theorem dX12_rules_202 : decode cX12_rules 202 = .ok (.ireturn, 1) := dall dgX12_rules_166 13 rfl
def lgX12_rule_167 : List (Nat × Instr × Nat) := [(0, .iload_n 1, 1), (1, .iconst 0, 1), (2, .iconst 5, 1), (3, .invokestatic 100, 3), (6, .ifCond .eq 12, 3), (9, .aload_n 0, 1), (10, .getfield 7, 3), (13, .iload_n 1, 1), (14, .iaload, 1), (15, .goto 4, 3), (18, .iconst (-1), 1), (19, .ireturn, 1)]
theorem dgX12_rule_167 : ∀ q ∈ lgX12_rule_167, decode cX12_rule q.1 = .ok (q.2.1, q.2.2) := by decide +kernel
theorem dX12_rule_0 : decode cX12_rule 0 = .ok (.iload_n 1, 1) := dall dgX12_rule_167 0 rfl
theorem dX12_rule_1 : decode cX12_rule 1 = .ok (.iconst 0, 1) := dall dgX12_rule_167 1 rfl
theorem dX12_rule_2 : decode cX12_rule 2 = .ok (.iconst 5, 1) := dall dgX12_rule_167 2 rfl
theorem dX12_rule_3 : decode cX12_rule 3 = .ok (.invokestatic 100, 3) := dall dgX12_rule_167 3 rfl
theorem dX12_rule_6 : decode cX12_rule 6 = .ok (.ifCond .eq 12, 3) := dall dgX12_rule_167 4 rfl
theorem dX12_rule_9 : decode cX12_rule 9 = .ok (.aload_n 0, 1) := dall dgX12_rule_167 5 rfl
theorem dX12_rule_10 : decode cX12_rule 10 = .ok (.getfield 7, 3) := dall dgX12_rule_167 6 rfl
theorem dX12_rule_13 : decode cX12_rule 13 = .ok (.iload_n 1, 1) := dall dgX12_rule_167 7 rfl
theorem dX12_rule_14 : decode cX12_rule 14 = .ok (.iaload, 1) := dall dgX12_rule_167 8 rfl
theorem dX12_rule_15 : decode cX12_rule 15 = .ok (.goto 4, 3) := dall dgX12_rule_167 9 rfl
theorem dX12_rule_18 : decode cX12_rule 18 = .ok (.iconst (-1), 1) := dall dgX12_rule_167 10 rfl
theorem dX12_rule_19 : decode cX12_rule 19 = .ok (.ireturn, 1) := dall dgX12_rule_167 11 rfl
def lgX12_addRow_168 : List (Nat × Instr × Nat) := [(0, .aload_n 0, 1), (1, .getfield 17, 3), (4, .iconst 4, 1), (5, .aload_n 0, 1), (6, .getfield 156, 3), (9, .imul, 1), (10, .iload_n 1, 1), (11, .iastore, 1), (12, .aload_n 0, 1), (13, .getfield 17, 3), (16, .iconst 4, 1), (17, .aload_n 0, 1), (18, .getfield 156, 3), (21, .imul, 1), (22, .iconst 1, 1), (23, .iadd, 1), (24, .iload_n 2, 1), (25, .iastore, 1), (26, .aload_n 0, 1), (27, .getfield 17, 3), (30, .iconst 4, 1), (31, .aload_n 0, 1), (32, .getfield 156, 3), (35, .imul, 1), (36, .iconst 2, 1), (37, .iadd, 1), (38, .iload_n 3, 1), (39, .iastore, 1), (40, .aload_n 0, 1), (41, .getfield 17, 3), (44, .iconst 4, 1), (45, .aload_n 0, 1), (46, .getfield 156, 3), (49, .imul, 1), (50, .iconst 3, 1), (51, .iadd, 1), (52, .iload 4, 2), (54, .iastore, 1), (55, .aload_n 0, 1), (56, .getfield 20, 3), (59, .aload_n 0, 1), (60, .getfield 156, 3), (63, .iload 5, 2), (65, .bastore, 1), (66, .aload_n 0, 1), (67, .getfield 24, 3), (70, .aload_n 0, 1), (71, .getfield 156, 3), (74, .iconst 0, 1), (75, .bastore, 1)]
theorem dgX12_addRow_168 : ∀ q ∈ lgX12_addRow_168, decode cX12_addRow q.1 = .ok (q.2.1, q.2.2) := by decide +kernel
theorem dX12_addRow_0 : decode cX12_addRow 0 = .ok (.aload_n 0, 1) := dall dgX12_addRow_168 0 rfl
theorem dX12_addRow_1 : decode cX12_addRow 1 = .ok (.getfield 17, 3) := dall dgX12_addRow_168 1 rfl
theorem dX12_addRow_4 : decode cX12_addRow 4 = .ok (.iconst 4, 1) := dall dgX12_addRow_168 2 rfl
theorem dX12_addRow_5 : decode cX12_addRow 5 = .ok (.aload_n 0, 1) := dall dgX12_addRow_168 3 rfl
theorem dX12_addRow_6 : decode cX12_addRow 6 = .ok (.getfield 156, 3) := dall dgX12_addRow_168 4 rfl
theorem dX12_addRow_9 : decode cX12_addRow 9 = .ok (.imul, 1) := dall dgX12_addRow_168 5 rfl
theorem dX12_addRow_10 : decode cX12_addRow 10 = .ok (.iload_n 1, 1) := dall dgX12_addRow_168 6 rfl
theorem dX12_addRow_11 : decode cX12_addRow 11 = .ok (.iastore, 1) := dall dgX12_addRow_168 7 rfl
theorem dX12_addRow_12 : decode cX12_addRow 12 = .ok (.aload_n 0, 1) := dall dgX12_addRow_168 8 rfl
theorem dX12_addRow_13 : decode cX12_addRow 13 = .ok (.getfield 17, 3) := dall dgX12_addRow_168 9 rfl
theorem dX12_addRow_16 : decode cX12_addRow 16 = .ok (.iconst 4, 1) := dall dgX12_addRow_168 10 rfl
theorem dX12_addRow_17 : decode cX12_addRow 17 = .ok (.aload_n 0, 1) := dall dgX12_addRow_168 11 rfl
theorem dX12_addRow_18 : decode cX12_addRow 18 = .ok (.getfield 156, 3) := dall dgX12_addRow_168 12 rfl
theorem dX12_addRow_21 : decode cX12_addRow 21 = .ok (.imul, 1) := dall dgX12_addRow_168 13 rfl
theorem dX12_addRow_22 : decode cX12_addRow 22 = .ok (.iconst 1, 1) := dall dgX12_addRow_168 14 rfl
theorem dX12_addRow_23 : decode cX12_addRow 23 = .ok (.iadd, 1) := dall dgX12_addRow_168 15 rfl
theorem dX12_addRow_24 : decode cX12_addRow 24 = .ok (.iload_n 2, 1) := dall dgX12_addRow_168 16 rfl
theorem dX12_addRow_25 : decode cX12_addRow 25 = .ok (.iastore, 1) := dall dgX12_addRow_168 17 rfl
theorem dX12_addRow_26 : decode cX12_addRow 26 = .ok (.aload_n 0, 1) := dall dgX12_addRow_168 18 rfl
theorem dX12_addRow_27 : decode cX12_addRow 27 = .ok (.getfield 17, 3) := dall dgX12_addRow_168 19 rfl
theorem dX12_addRow_30 : decode cX12_addRow 30 = .ok (.iconst 4, 1) := dall dgX12_addRow_168 20 rfl
theorem dX12_addRow_31 : decode cX12_addRow 31 = .ok (.aload_n 0, 1) := dall dgX12_addRow_168 21 rfl
theorem dX12_addRow_32 : decode cX12_addRow 32 = .ok (.getfield 156, 3) := dall dgX12_addRow_168 22 rfl
theorem dX12_addRow_35 : decode cX12_addRow 35 = .ok (.imul, 1) := dall dgX12_addRow_168 23 rfl
theorem dX12_addRow_36 : decode cX12_addRow 36 = .ok (.iconst 2, 1) := dall dgX12_addRow_168 24 rfl
theorem dX12_addRow_37 : decode cX12_addRow 37 = .ok (.iadd, 1) := dall dgX12_addRow_168 25 rfl
theorem dX12_addRow_38 : decode cX12_addRow 38 = .ok (.iload_n 3, 1) := dall dgX12_addRow_168 26 rfl
theorem dX12_addRow_39 : decode cX12_addRow 39 = .ok (.iastore, 1) := dall dgX12_addRow_168 27 rfl
theorem dX12_addRow_40 : decode cX12_addRow 40 = .ok (.aload_n 0, 1) := dall dgX12_addRow_168 28 rfl
theorem dX12_addRow_41 : decode cX12_addRow 41 = .ok (.getfield 17, 3) := dall dgX12_addRow_168 29 rfl
theorem dX12_addRow_44 : decode cX12_addRow 44 = .ok (.iconst 4, 1) := dall dgX12_addRow_168 30 rfl
theorem dX12_addRow_45 : decode cX12_addRow 45 = .ok (.aload_n 0, 1) := dall dgX12_addRow_168 31 rfl
theorem dX12_addRow_46 : decode cX12_addRow 46 = .ok (.getfield 156, 3) := dall dgX12_addRow_168 32 rfl
theorem dX12_addRow_49 : decode cX12_addRow 49 = .ok (.imul, 1) := dall dgX12_addRow_168 33 rfl
theorem dX12_addRow_50 : decode cX12_addRow 50 = .ok (.iconst 3, 1) := dall dgX12_addRow_168 34 rfl
theorem dX12_addRow_51 : decode cX12_addRow 51 = .ok (.iadd, 1) := dall dgX12_addRow_168 35 rfl
theorem dX12_addRow_52 : decode cX12_addRow 52 = .ok (.iload 4, 2) := dall dgX12_addRow_168 36 rfl
theorem dX12_addRow_54 : decode cX12_addRow 54 = .ok (.iastore, 1) := dall dgX12_addRow_168 37 rfl
theorem dX12_addRow_55 : decode cX12_addRow 55 = .ok (.aload_n 0, 1) := dall dgX12_addRow_168 38 rfl
theorem dX12_addRow_56 : decode cX12_addRow 56 = .ok (.getfield 20, 3) := dall dgX12_addRow_168 39 rfl
theorem dX12_addRow_59 : decode cX12_addRow 59 = .ok (.aload_n 0, 1) := dall dgX12_addRow_168 40 rfl
theorem dX12_addRow_60 : decode cX12_addRow 60 = .ok (.getfield 156, 3) := dall dgX12_addRow_168 41 rfl
theorem dX12_addRow_63 : decode cX12_addRow 63 = .ok (.iload 5, 2) := dall dgX12_addRow_168 42 rfl
theorem dX12_addRow_65 : decode cX12_addRow 65 = .ok (.bastore, 1) := dall dgX12_addRow_168 43 rfl
theorem dX12_addRow_66 : decode cX12_addRow 66 = .ok (.aload_n 0, 1) := dall dgX12_addRow_168 44 rfl
theorem dX12_addRow_67 : decode cX12_addRow 67 = .ok (.getfield 24, 3) := dall dgX12_addRow_168 45 rfl
theorem dX12_addRow_70 : decode cX12_addRow 70 = .ok (.aload_n 0, 1) := dall dgX12_addRow_168 46 rfl
theorem dX12_addRow_71 : decode cX12_addRow 71 = .ok (.getfield 156, 3) := dall dgX12_addRow_168 47 rfl
theorem dX12_addRow_74 : decode cX12_addRow 74 = .ok (.iconst 0, 1) := dall dgX12_addRow_168 48 rfl
theorem dX12_addRow_75 : decode cX12_addRow 75 = .ok (.bastore, 1) := dall dgX12_addRow_168 49 rfl
def lgX12_addRow_169 : List (Nat × Instr × Nat) := [(76, .aload_n 0, 1), (77, .getfield 27, 3), (80, .aload_n 0, 1), (81, .getfield 156, 3), (84, .iconst 0, 1), (85, .iastore, 1), (86, .aload_n 0, 1), (87, .dup, 1), (88, .getfield 156, 3), (91, .iconst 1, 1), (92, .iadd, 1), (93, .putfield 156, 3), (96, .return_, 1)]
theorem dgX12_addRow_169 : ∀ q ∈ lgX12_addRow_169, decode cX12_addRow q.1 = .ok (q.2.1, q.2.2) := by decide +kernel
theorem dX12_addRow_76 : decode cX12_addRow 76 = .ok (.aload_n 0, 1) := dall dgX12_addRow_169 0 rfl
theorem dX12_addRow_77 : decode cX12_addRow 77 = .ok (.getfield 27, 3) := dall dgX12_addRow_169 1 rfl
theorem dX12_addRow_80 : decode cX12_addRow 80 = .ok (.aload_n 0, 1) := dall dgX12_addRow_169 2 rfl
theorem dX12_addRow_81 : decode cX12_addRow 81 = .ok (.getfield 156, 3) := dall dgX12_addRow_169 3 rfl
theorem dX12_addRow_84 : decode cX12_addRow 84 = .ok (.iconst 0, 1) := dall dgX12_addRow_169 4 rfl
theorem dX12_addRow_85 : decode cX12_addRow 85 = .ok (.iastore, 1) := dall dgX12_addRow_169 5 rfl
theorem dX12_addRow_86 : decode cX12_addRow 86 = .ok (.aload_n 0, 1) := dall dgX12_addRow_169 6 rfl
theorem dX12_addRow_87 : decode cX12_addRow 87 = .ok (.dup, 1) := dall dgX12_addRow_169 7 rfl
theorem dX12_addRow_88 : decode cX12_addRow 88 = .ok (.getfield 156, 3) := dall dgX12_addRow_169 8 rfl
theorem dX12_addRow_91 : decode cX12_addRow 91 = .ok (.iconst 1, 1) := dall dgX12_addRow_169 9 rfl
theorem dX12_addRow_92 : decode cX12_addRow 92 = .ok (.iadd, 1) := dall dgX12_addRow_169 10 rfl
theorem dX12_addRow_93 : decode cX12_addRow 93 = .ok (.putfield 156, 3) := dall dgX12_addRow_169 11 rfl
theorem dX12_addRow_96 : decode cX12_addRow 96 = .ok (.return_, 1) := dall dgX12_addRow_169 12 rfl
def lgX12_row_170 : List (Nat × Instr × Nat) := [(0, .iload_n 1, 1), (1, .iconst 0, 1), (2, .bipush 99, 2), (4, .invokestatic 100, 3), (7, .ifCond .eq 34, 3), (10, .iload_n 2, 1), (11, .iconst 0, 1), (12, .bipush 99, 2), (14, .invokestatic 100, 3), (17, .ifCond .eq 24, 3), (20, .iload_n 3, 1), (21, .iconst 0, 1), (22, .bipush 99, 2), (24, .invokestatic 100, 3), (27, .ifCond .eq 14, 3), (30, .iload 4, 2), (32, .iconst 0, 1), (33, .bipush 99, 2), (35, .invokestatic 100, 3), (38, .ifCond .ne 5, 3), (41, .iconst (-1), 1), (42, .ireturn, 1), (43, .aload_n 0, 1), (44, .getfield 156, 3), (47, .bipush 48, 2), (49, .if_icmp .ne 6, 3), (52, .bipush (-3), 2), (54, .ireturn, 1), (55, .aload_n 0, 1), (56, .iload_n 1, 1), (57, .iload_n 2, 1), (58, .iload_n 3, 1), (59, .iload 4, 2), (61, .iconst 0, 1), (62, .invokevirtual 159, 3), (65, .aload_n 0, 1), (66, .getfield 156, 3), (69, .iconst 1, 1), (70, .isub, 1), (71, .ireturn, 1)]
theorem dgX12_row_170 : ∀ q ∈ lgX12_row_170, decode cX12_row q.1 = .ok (q.2.1, q.2.2) := by decide +kernel
theorem dX12_row_0 : decode cX12_row 0 = .ok (.iload_n 1, 1) := dall dgX12_row_170 0 rfl
theorem dX12_row_1 : decode cX12_row 1 = .ok (.iconst 0, 1) := dall dgX12_row_170 1 rfl
theorem dX12_row_2 : decode cX12_row 2 = .ok (.bipush 99, 2) := dall dgX12_row_170 2 rfl
theorem dX12_row_4 : decode cX12_row 4 = .ok (.invokestatic 100, 3) := dall dgX12_row_170 3 rfl
theorem dX12_row_7 : decode cX12_row 7 = .ok (.ifCond .eq 34, 3) := dall dgX12_row_170 4 rfl
theorem dX12_row_10 : decode cX12_row 10 = .ok (.iload_n 2, 1) := dall dgX12_row_170 5 rfl
theorem dX12_row_11 : decode cX12_row 11 = .ok (.iconst 0, 1) := dall dgX12_row_170 6 rfl
theorem dX12_row_12 : decode cX12_row 12 = .ok (.bipush 99, 2) := dall dgX12_row_170 7 rfl
theorem dX12_row_14 : decode cX12_row 14 = .ok (.invokestatic 100, 3) := dall dgX12_row_170 8 rfl
theorem dX12_row_17 : decode cX12_row 17 = .ok (.ifCond .eq 24, 3) := dall dgX12_row_170 9 rfl
theorem dX12_row_20 : decode cX12_row 20 = .ok (.iload_n 3, 1) := dall dgX12_row_170 10 rfl
theorem dX12_row_21 : decode cX12_row 21 = .ok (.iconst 0, 1) := dall dgX12_row_170 11 rfl
theorem dX12_row_22 : decode cX12_row 22 = .ok (.bipush 99, 2) := dall dgX12_row_170 12 rfl
theorem dX12_row_24 : decode cX12_row 24 = .ok (.invokestatic 100, 3) := dall dgX12_row_170 13 rfl
theorem dX12_row_27 : decode cX12_row 27 = .ok (.ifCond .eq 14, 3) := dall dgX12_row_170 14 rfl
theorem dX12_row_30 : decode cX12_row 30 = .ok (.iload 4, 2) := dall dgX12_row_170 15 rfl
theorem dX12_row_32 : decode cX12_row 32 = .ok (.iconst 0, 1) := dall dgX12_row_170 16 rfl
theorem dX12_row_33 : decode cX12_row 33 = .ok (.bipush 99, 2) := dall dgX12_row_170 17 rfl
theorem dX12_row_35 : decode cX12_row 35 = .ok (.invokestatic 100, 3) := dall dgX12_row_170 18 rfl
theorem dX12_row_38 : decode cX12_row 38 = .ok (.ifCond .ne 5, 3) := dall dgX12_row_170 19 rfl
theorem dX12_row_41 : decode cX12_row 41 = .ok (.iconst (-1), 1) := dall dgX12_row_170 20 rfl
theorem dX12_row_42 : decode cX12_row 42 = .ok (.ireturn, 1) := dall dgX12_row_170 21 rfl
theorem dX12_row_43 : decode cX12_row 43 = .ok (.aload_n 0, 1) := dall dgX12_row_170 22 rfl
theorem dX12_row_44 : decode cX12_row 44 = .ok (.getfield 156, 3) := dall dgX12_row_170 23 rfl
theorem dX12_row_47 : decode cX12_row 47 = .ok (.bipush 48, 2) := dall dgX12_row_170 24 rfl
theorem dX12_row_49 : decode cX12_row 49 = .ok (.if_icmp .ne 6, 3) := dall dgX12_row_170 25 rfl
theorem dX12_row_52 : decode cX12_row 52 = .ok (.bipush (-3), 2) := dall dgX12_row_170 26 rfl
theorem dX12_row_54 : decode cX12_row 54 = .ok (.ireturn, 1) := dall dgX12_row_170 27 rfl
theorem dX12_row_55 : decode cX12_row 55 = .ok (.aload_n 0, 1) := dall dgX12_row_170 28 rfl
theorem dX12_row_56 : decode cX12_row 56 = .ok (.iload_n 1, 1) := dall dgX12_row_170 29 rfl
theorem dX12_row_57 : decode cX12_row 57 = .ok (.iload_n 2, 1) := dall dgX12_row_170 30 rfl
theorem dX12_row_58 : decode cX12_row 58 = .ok (.iload_n 3, 1) := dall dgX12_row_170 31 rfl
theorem dX12_row_59 : decode cX12_row 59 = .ok (.iload 4, 2) := dall dgX12_row_170 32 rfl
theorem dX12_row_61 : decode cX12_row 61 = .ok (.iconst 0, 1) := dall dgX12_row_170 33 rfl
theorem dX12_row_62 : decode cX12_row 62 = .ok (.invokevirtual 159, 3) := dall dgX12_row_170 34 rfl
theorem dX12_row_65 : decode cX12_row 65 = .ok (.aload_n 0, 1) := dall dgX12_row_170 35 rfl
theorem dX12_row_66 : decode cX12_row 66 = .ok (.getfield 156, 3) := dall dgX12_row_170 36 rfl
theorem dX12_row_69 : decode cX12_row 69 = .ok (.iconst 1, 1) := dall dgX12_row_170 37 rfl
theorem dX12_row_70 : decode cX12_row 70 = .ok (.isub, 1) := dall dgX12_row_170 38 rfl
theorem dX12_row_71 : decode cX12_row 71 = .ok (.ireturn, 1) := dall dgX12_row_170 39 rfl
def lgX12_deaf_171 : List (Nat × Instr × Nat) := [(0, .iload_n 1, 1), (1, .iconst 1, 1), (2, .bipush 9, 2), (4, .invokestatic 100, 3), (7, .ifCond .ne 5, 3), (10, .iconst (-1), 1), (11, .ireturn, 1), (12, .aload_n 0, 1), (13, .getfield 156, 3), (16, .iload_n 1, 1), (17, .iadd, 1), (18, .bipush 48, 2), (20, .if_icmp .le 6, 3), (23, .bipush (-3), 2), (25, .ireturn, 1), (26, .iconst 0, 1), (27, .istore_n 2, 1), (28, .iload_n 2, 1), (29, .iload_n 1, 1), (30, .if_icmp .ge 18, 3), (33, .aload_n 0, 1), (34, .iconst 0, 1), (35, .iconst 0, 1), (36, .iconst 0, 1), (37, .iconst 0, 1), (38, .iconst 1, 1), (39, .invokevirtual 159, 3), (42, .iinc 2 1, 3), (45, .goto (-17), 3), (48, .aload_n 0, 1), (49, .getfield 156, 3), (52, .ireturn, 1)]
theorem dgX12_deaf_171 : ∀ q ∈ lgX12_deaf_171, decode cX12_deaf q.1 = .ok (q.2.1, q.2.2) := by decide +kernel
theorem dX12_deaf_0 : decode cX12_deaf 0 = .ok (.iload_n 1, 1) := dall dgX12_deaf_171 0 rfl
theorem dX12_deaf_1 : decode cX12_deaf 1 = .ok (.iconst 1, 1) := dall dgX12_deaf_171 1 rfl
theorem dX12_deaf_2 : decode cX12_deaf 2 = .ok (.bipush 9, 2) := dall dgX12_deaf_171 2 rfl
theorem dX12_deaf_4 : decode cX12_deaf 4 = .ok (.invokestatic 100, 3) := dall dgX12_deaf_171 3 rfl
theorem dX12_deaf_7 : decode cX12_deaf 7 = .ok (.ifCond .ne 5, 3) := dall dgX12_deaf_171 4 rfl
theorem dX12_deaf_10 : decode cX12_deaf 10 = .ok (.iconst (-1), 1) := dall dgX12_deaf_171 5 rfl
theorem dX12_deaf_11 : decode cX12_deaf 11 = .ok (.ireturn, 1) := dall dgX12_deaf_171 6 rfl
theorem dX12_deaf_12 : decode cX12_deaf 12 = .ok (.aload_n 0, 1) := dall dgX12_deaf_171 7 rfl
theorem dX12_deaf_13 : decode cX12_deaf 13 = .ok (.getfield 156, 3) := dall dgX12_deaf_171 8 rfl
theorem dX12_deaf_16 : decode cX12_deaf 16 = .ok (.iload_n 1, 1) := dall dgX12_deaf_171 9 rfl
theorem dX12_deaf_17 : decode cX12_deaf 17 = .ok (.iadd, 1) := dall dgX12_deaf_171 10 rfl
theorem dX12_deaf_18 : decode cX12_deaf 18 = .ok (.bipush 48, 2) := dall dgX12_deaf_171 11 rfl
theorem dX12_deaf_20 : decode cX12_deaf 20 = .ok (.if_icmp .le 6, 3) := dall dgX12_deaf_171 12 rfl
theorem dX12_deaf_23 : decode cX12_deaf 23 = .ok (.bipush (-3), 2) := dall dgX12_deaf_171 13 rfl
theorem dX12_deaf_25 : decode cX12_deaf 25 = .ok (.ireturn, 1) := dall dgX12_deaf_171 14 rfl
theorem dX12_deaf_26 : decode cX12_deaf 26 = .ok (.iconst 0, 1) := dall dgX12_deaf_171 15 rfl
theorem dX12_deaf_27 : decode cX12_deaf 27 = .ok (.istore_n 2, 1) := dall dgX12_deaf_171 16 rfl
theorem dX12_deaf_28 : decode cX12_deaf 28 = .ok (.iload_n 2, 1) := dall dgX12_deaf_171 17 rfl
theorem dX12_deaf_29 : decode cX12_deaf 29 = .ok (.iload_n 1, 1) := dall dgX12_deaf_171 18 rfl
theorem dX12_deaf_30 : decode cX12_deaf 30 = .ok (.if_icmp .ge 18, 3) := dall dgX12_deaf_171 19 rfl
theorem dX12_deaf_33 : decode cX12_deaf 33 = .ok (.aload_n 0, 1) := dall dgX12_deaf_171 20 rfl
theorem dX12_deaf_34 : decode cX12_deaf 34 = .ok (.iconst 0, 1) := dall dgX12_deaf_171 21 rfl
theorem dX12_deaf_35 : decode cX12_deaf 35 = .ok (.iconst 0, 1) := dall dgX12_deaf_171 22 rfl
theorem dX12_deaf_36 : decode cX12_deaf 36 = .ok (.iconst 0, 1) := dall dgX12_deaf_171 23 rfl
theorem dX12_deaf_37 : decode cX12_deaf 37 = .ok (.iconst 0, 1) := dall dgX12_deaf_171 24 rfl
theorem dX12_deaf_38 : decode cX12_deaf 38 = .ok (.iconst 1, 1) := dall dgX12_deaf_171 25 rfl
theorem dX12_deaf_39 : decode cX12_deaf 39 = .ok (.invokevirtual 159, 3) := dall dgX12_deaf_171 26 rfl
theorem dX12_deaf_42 : decode cX12_deaf 42 = .ok (.iinc 2 1, 3) := dall dgX12_deaf_171 27 rfl
theorem dX12_deaf_45 : decode cX12_deaf 45 = .ok (.goto (-17), 3) := dall dgX12_deaf_171 28 rfl
theorem dX12_deaf_48 : decode cX12_deaf 48 = .ok (.aload_n 0, 1) := dall dgX12_deaf_171 29 rfl
theorem dX12_deaf_49 : decode cX12_deaf 49 = .ok (.getfield 156, 3) := dall dgX12_deaf_171 30 rfl
theorem dX12_deaf_52 : decode cX12_deaf 52 = .ok (.ireturn, 1) := dall dgX12_deaf_171 31 rfl
def lgX12_isRow_172 : List (Nat × Instr × Nat) := [(0, .iload_n 1, 1), (1, .iconst 0, 1), (2, .aload_n 0, 1), (3, .getfield 156, 3), (6, .iconst 1, 1), (7, .isub, 1), (8, .invokestatic 100, 3), (11, .ireturn, 1)]
theorem dgX12_isRow_172 : ∀ q ∈ lgX12_isRow_172, decode cX12_isRow q.1 = .ok (q.2.1, q.2.2) := by decide +kernel
theorem dX12_isRow_0 : decode cX12_isRow 0 = .ok (.iload_n 1, 1) := dall dgX12_isRow_172 0 rfl
theorem dX12_isRow_1 : decode cX12_isRow 1 = .ok (.iconst 0, 1) := dall dgX12_isRow_172 1 rfl
theorem dX12_isRow_2 : decode cX12_isRow 2 = .ok (.aload_n 0, 1) := dall dgX12_isRow_172 2 rfl
theorem dX12_isRow_3 : decode cX12_isRow 3 = .ok (.getfield 156, 3) := dall dgX12_isRow_172 3 rfl
theorem dX12_isRow_6 : decode cX12_isRow 6 = .ok (.iconst 1, 1) := dall dgX12_isRow_172 4 rfl
theorem dX12_isRow_7 : decode cX12_isRow 7 = .ok (.isub, 1) := dall dgX12_isRow_172 5 rfl
theorem dX12_isRow_8 : decode cX12_isRow 8 = .ok (.invokestatic 100, 3) := dall dgX12_isRow_172 6 rfl
theorem dX12_isRow_11 : decode cX12_isRow 11 = .ok (.ireturn, 1) := dall dgX12_isRow_172 7 rfl
def lgX12_areRows_173 : List (Nat × Instr × Nat) := [(0, .aload_n 0, 1), (1, .iload_n 1, 1), (2, .invokevirtual 163, 3), (5, .ifCond .eq 21, 3), (8, .iload_n 2, 1), (9, .iload_n 1, 1), (10, .aload_n 0, 1), (11, .getfield 156, 3), (14, .iconst 1, 1), (15, .isub, 1), (16, .invokestatic 100, 3), (19, .ifCond .eq 7, 3), (22, .iconst 1, 1), (23, .goto 4, 3), (26, .iconst 0, 1), (27, .ireturn, 1)]
theorem dgX12_areRows_173 : ∀ q ∈ lgX12_areRows_173, decode cX12_areRows q.1 = .ok (q.2.1, q.2.2) := by decide +kernel
theorem dX12_areRows_0 : decode cX12_areRows 0 = .ok (.aload_n 0, 1) := dall dgX12_areRows_173 0 rfl
theorem dX12_areRows_1 : decode cX12_areRows 1 = .ok (.iload_n 1, 1) := dall dgX12_areRows_173 1 rfl
theorem dX12_areRows_2 : decode cX12_areRows 2 = .ok (.invokevirtual 163, 3) := dall dgX12_areRows_173 2 rfl
theorem dX12_areRows_5 : decode cX12_areRows 5 = .ok (.ifCond .eq 21, 3) := dall dgX12_areRows_173 3 rfl
theorem dX12_areRows_8 : decode cX12_areRows 8 = .ok (.iload_n 2, 1) := dall dgX12_areRows_173 4 rfl
theorem dX12_areRows_9 : decode cX12_areRows 9 = .ok (.iload_n 1, 1) := dall dgX12_areRows_173 5 rfl
theorem dX12_areRows_10 : decode cX12_areRows 10 = .ok (.aload_n 0, 1) := dall dgX12_areRows_173 6 rfl
theorem dX12_areRows_11 : decode cX12_areRows 11 = .ok (.getfield 156, 3) := dall dgX12_areRows_173 7 rfl
theorem dX12_areRows_14 : decode cX12_areRows 14 = .ok (.iconst 1, 1) := dall dgX12_areRows_173 8 rfl
theorem dX12_areRows_15 : decode cX12_areRows 15 = .ok (.isub, 1) := dall dgX12_areRows_173 9 rfl
theorem dX12_areRows_16 : decode cX12_areRows 16 = .ok (.invokestatic 100, 3) := dall dgX12_areRows_173 10 rfl
theorem dX12_areRows_19 : decode cX12_areRows 19 = .ok (.ifCond .eq 7, 3) := dall dgX12_areRows_173 11 rfl
theorem dX12_areRows_22 : decode cX12_areRows 22 = .ok (.iconst 1, 1) := dall dgX12_areRows_173 12 rfl
theorem dX12_areRows_23 : decode cX12_areRows 23 = .ok (.goto 4, 3) := dall dgX12_areRows_173 13 rfl
theorem dX12_areRows_26 : decode cX12_areRows 26 = .ok (.iconst 0, 1) := dall dgX12_areRows_173 14 rfl
theorem dX12_areRows_27 : decode cX12_areRows 27 = .ok (.ireturn, 1) := dall dgX12_areRows_173 15 rfl
def lgX12_out_174 : List (Nat × Instr × Nat) := [(0, .aload_n 0, 1), (1, .iload_n 1, 1), (2, .iload_n 2, 1), (3, .invokevirtual 167, 3), (6, .ifCond .eq 12, 3), (9, .iload_n 3, 1), (10, .iconst 0, 1), (11, .iconst 1, 1), (12, .invokestatic 100, 3), (15, .ifCond .ne 5, 3), (18, .iconst (-1), 1), (19, .ireturn, 1), (20, .iconst 0, 1), (21, .istore 4, 2), (23, .iload_n 1, 1), (24, .istore 5, 2), (26, .iload 5, 2), (28, .iload_n 2, 1), (29, .if_icmp .gt 56, 3), (32, .iload 4, 2), (34, .aload_n 0, 1), (35, .getfield 24, 3), (38, .iload 5, 2), (40, .baload, 1), (41, .iload_n 3, 1), (42, .iconst 1, 1), (43, .if_icmp .ne 7, 3), (46, .iconst 1, 1), (47, .goto 4, 3), (50, .iconst 0, 1), (51, .if_icmp .ne 7, 3), (54, .iconst 0, 1), (55, .goto 4, 3), (58, .iconst 1, 1), (59, .iadd, 1), (60, .istore 4, 2), (62, .aload_n 0, 1), (63, .getfield 24, 3), (66, .iload 5, 2), (68, .iload_n 3, 1), (69, .iconst 1, 1), (70, .if_icmp .ne 7, 3), (73, .iconst 1, 1), (74, .goto 4, 3), (77, .iconst 0, 1), (78, .bastore, 1), (79, .iinc 5 1, 3), (82, .goto (-56), 3), (85, .iload 4, 2), (87, .ireturn, 1)]
theorem dgX12_out_174 : ∀ q ∈ lgX12_out_174, decode cX12_out q.1 = .ok (q.2.1, q.2.2) := by decide +kernel
theorem dX12_out_0 : decode cX12_out 0 = .ok (.aload_n 0, 1) := dall dgX12_out_174 0 rfl
theorem dX12_out_1 : decode cX12_out 1 = .ok (.iload_n 1, 1) := dall dgX12_out_174 1 rfl
theorem dX12_out_2 : decode cX12_out 2 = .ok (.iload_n 2, 1) := dall dgX12_out_174 2 rfl
theorem dX12_out_3 : decode cX12_out 3 = .ok (.invokevirtual 167, 3) := dall dgX12_out_174 3 rfl
theorem dX12_out_6 : decode cX12_out 6 = .ok (.ifCond .eq 12, 3) := dall dgX12_out_174 4 rfl
theorem dX12_out_9 : decode cX12_out 9 = .ok (.iload_n 3, 1) := dall dgX12_out_174 5 rfl
theorem dX12_out_10 : decode cX12_out 10 = .ok (.iconst 0, 1) := dall dgX12_out_174 6 rfl
theorem dX12_out_11 : decode cX12_out 11 = .ok (.iconst 1, 1) := dall dgX12_out_174 7 rfl
theorem dX12_out_12 : decode cX12_out 12 = .ok (.invokestatic 100, 3) := dall dgX12_out_174 8 rfl
theorem dX12_out_15 : decode cX12_out 15 = .ok (.ifCond .ne 5, 3) := dall dgX12_out_174 9 rfl
theorem dX12_out_18 : decode cX12_out 18 = .ok (.iconst (-1), 1) := dall dgX12_out_174 10 rfl
theorem dX12_out_19 : decode cX12_out 19 = .ok (.ireturn, 1) := dall dgX12_out_174 11 rfl
theorem dX12_out_20 : decode cX12_out 20 = .ok (.iconst 0, 1) := dall dgX12_out_174 12 rfl
theorem dX12_out_21 : decode cX12_out 21 = .ok (.istore 4, 2) := dall dgX12_out_174 13 rfl
theorem dX12_out_23 : decode cX12_out 23 = .ok (.iload_n 1, 1) := dall dgX12_out_174 14 rfl
theorem dX12_out_24 : decode cX12_out 24 = .ok (.istore 5, 2) := dall dgX12_out_174 15 rfl
theorem dX12_out_26 : decode cX12_out 26 = .ok (.iload 5, 2) := dall dgX12_out_174 16 rfl
theorem dX12_out_28 : decode cX12_out 28 = .ok (.iload_n 2, 1) := dall dgX12_out_174 17 rfl
theorem dX12_out_29 : decode cX12_out 29 = .ok (.if_icmp .gt 56, 3) := dall dgX12_out_174 18 rfl
theorem dX12_out_32 : decode cX12_out 32 = .ok (.iload 4, 2) := dall dgX12_out_174 19 rfl
theorem dX12_out_34 : decode cX12_out 34 = .ok (.aload_n 0, 1) := dall dgX12_out_174 20 rfl
theorem dX12_out_35 : decode cX12_out 35 = .ok (.getfield 24, 3) := dall dgX12_out_174 21 rfl
theorem dX12_out_38 : decode cX12_out 38 = .ok (.iload 5, 2) := dall dgX12_out_174 22 rfl
theorem dX12_out_40 : decode cX12_out 40 = .ok (.baload, 1) := dall dgX12_out_174 23 rfl
theorem dX12_out_41 : decode cX12_out 41 = .ok (.iload_n 3, 1) := dall dgX12_out_174 24 rfl
theorem dX12_out_42 : decode cX12_out 42 = .ok (.iconst 1, 1) := dall dgX12_out_174 25 rfl
theorem dX12_out_43 : decode cX12_out 43 = .ok (.if_icmp .ne 7, 3) := dall dgX12_out_174 26 rfl
theorem dX12_out_46 : decode cX12_out 46 = .ok (.iconst 1, 1) := dall dgX12_out_174 27 rfl
theorem dX12_out_47 : decode cX12_out 47 = .ok (.goto 4, 3) := dall dgX12_out_174 28 rfl
theorem dX12_out_50 : decode cX12_out 50 = .ok (.iconst 0, 1) := dall dgX12_out_174 29 rfl
theorem dX12_out_51 : decode cX12_out 51 = .ok (.if_icmp .ne 7, 3) := dall dgX12_out_174 30 rfl
theorem dX12_out_54 : decode cX12_out 54 = .ok (.iconst 0, 1) := dall dgX12_out_174 31 rfl
theorem dX12_out_55 : decode cX12_out 55 = .ok (.goto 4, 3) := dall dgX12_out_174 32 rfl
theorem dX12_out_58 : decode cX12_out 58 = .ok (.iconst 1, 1) := dall dgX12_out_174 33 rfl
theorem dX12_out_59 : decode cX12_out 59 = .ok (.iadd, 1) := dall dgX12_out_174 34 rfl
theorem dX12_out_60 : decode cX12_out 60 = .ok (.istore 4, 2) := dall dgX12_out_174 35 rfl
theorem dX12_out_62 : decode cX12_out 62 = .ok (.aload_n 0, 1) := dall dgX12_out_174 36 rfl
theorem dX12_out_63 : decode cX12_out 63 = .ok (.getfield 24, 3) := dall dgX12_out_174 37 rfl
theorem dX12_out_66 : decode cX12_out 66 = .ok (.iload 5, 2) := dall dgX12_out_174 38 rfl
theorem dX12_out_68 : decode cX12_out 68 = .ok (.iload_n 3, 1) := dall dgX12_out_174 39 rfl
theorem dX12_out_69 : decode cX12_out 69 = .ok (.iconst 1, 1) := dall dgX12_out_174 40 rfl
theorem dX12_out_70 : decode cX12_out 70 = .ok (.if_icmp .ne 7, 3) := dall dgX12_out_174 41 rfl
theorem dX12_out_73 : decode cX12_out 73 = .ok (.iconst 1, 1) := dall dgX12_out_174 42 rfl
theorem dX12_out_74 : decode cX12_out 74 = .ok (.goto 4, 3) := dall dgX12_out_174 43 rfl
theorem dX12_out_77 : decode cX12_out 77 = .ok (.iconst 0, 1) := dall dgX12_out_174 44 rfl
theorem dX12_out_78 : decode cX12_out 78 = .ok (.bastore, 1) := dall dgX12_out_174 45 rfl
theorem dX12_out_79 : decode cX12_out 79 = .ok (.iinc 5 1, 3) := dall dgX12_out_174 46 rfl
theorem dX12_out_82 : decode cX12_out 82 = .ok (.goto (-56), 3) := dall dgX12_out_174 47 rfl
theorem dX12_out_85 : decode cX12_out 85 = .ok (.iload 4, 2) := dall dgX12_out_174 48 rfl
theorem dX12_out_87 : decode cX12_out 87 = .ok (.ireturn, 1) := dall dgX12_out_174 49 rfl
def lgX12_hush_175 : List (Nat × Instr × Nat) := [(0, .aload_n 0, 1), (1, .getfield 156, 3), (4, .istore_n 1, 1), (5, .aload_n 0, 1), (6, .iconst 0, 1), (7, .putfield 156, 3), (10, .aload_n 0, 1), (11, .iconst 0, 1), (12, .putfield 171, 3), (15, .aload_n 0, 1), (16, .iconst 0, 1), (17, .putfield 174, 3), (20, .iload_n 1, 1), (21, .ireturn, 1)]
theorem dgX12_hush_175 : ∀ q ∈ lgX12_hush_175, decode cX12_hush q.1 = .ok (q.2.1, q.2.2) := by decide +kernel
theorem dX12_hush_0 : decode cX12_hush 0 = .ok (.aload_n 0, 1) := dall dgX12_hush_175 0 rfl
theorem dX12_hush_1 : decode cX12_hush 1 = .ok (.getfield 156, 3) := dall dgX12_hush_175 1 rfl
theorem dX12_hush_4 : decode cX12_hush 4 = .ok (.istore_n 1, 1) := dall dgX12_hush_175 2 rfl
theorem dX12_hush_5 : decode cX12_hush 5 = .ok (.aload_n 0, 1) := dall dgX12_hush_175 3 rfl
theorem dX12_hush_6 : decode cX12_hush 6 = .ok (.iconst 0, 1) := dall dgX12_hush_175 4 rfl
theorem dX12_hush_7 : decode cX12_hush 7 = .ok (.putfield 156, 3) := dall dgX12_hush_175 5 rfl
theorem dX12_hush_10 : decode cX12_hush 10 = .ok (.aload_n 0, 1) := dall dgX12_hush_175 6 rfl
theorem dX12_hush_11 : decode cX12_hush 11 = .ok (.iconst 0, 1) := dall dgX12_hush_175 7 rfl
theorem dX12_hush_12 : decode cX12_hush 12 = .ok (.putfield 171, 3) := dall dgX12_hush_175 8 rfl
theorem dX12_hush_15 : decode cX12_hush 15 = .ok (.aload_n 0, 1) := dall dgX12_hush_175 9 rfl
theorem dX12_hush_16 : decode cX12_hush 16 = .ok (.iconst 0, 1) := dall dgX12_hush_175 10 rfl
theorem dX12_hush_17 : decode cX12_hush 17 = .ok (.putfield 174, 3) := dall dgX12_hush_175 11 rfl
theorem dX12_hush_20 : decode cX12_hush 20 = .ok (.iload_n 1, 1) := dall dgX12_hush_175 12 rfl
theorem dX12_hush_21 : decode cX12_hush 21 = .ok (.ireturn, 1) := dall dgX12_hush_175 13 rfl
def lgX12_isHeard_176 : List (Nat × Instr × Nat) := [(0, .aload_n 0, 1), (1, .getfield 17, 3), (4, .iconst 4, 1), (5, .iload_n 1, 1), (6, .imul, 1), (7, .iaload, 1), (8, .aload_n 0, 1), (9, .getfield 17, 3), (12, .iconst 4, 1), (13, .iload_n 1, 1), (14, .imul, 1), (15, .iconst 1, 1), (16, .iadd, 1), (17, .iaload, 1), (18, .iadd, 1), (19, .aload_n 0, 1), (20, .getfield 17, 3), (23, .iconst 4, 1), (24, .iload_n 1, 1), (25, .imul, 1), (26, .iconst 2, 1), (27, .iadd, 1), (28, .iaload, 1), (29, .iadd, 1), (30, .aload_n 0, 1), (31, .getfield 17, 3), (34, .iconst 4, 1), (35, .iload_n 1, 1), (36, .imul, 1), (37, .iconst 3, 1), (38, .iadd, 1), (39, .iaload, 1), (40, .iadd, 1), (41, .istore_n 2, 1), (42, .aload_n 0, 1), (43, .getfield 20, 3), (46, .iload_n 1, 1), (47, .baload, 1), (48, .ifCond .ne 26, 3), (51, .aload_n 0, 1), (52, .getfield 24, 3), (55, .iload_n 1, 1), (56, .baload, 1), (57, .ifCond .ne 17, 3), (60, .iload_n 2, 1), (61, .aload_n 0, 1), (62, .getfield 7, 3), (65, .iconst 1, 1), (66, .iaload, 1), (67, .if_icmp .lt 7, 3)]
theorem dgX12_isHeard_176 : ∀ q ∈ lgX12_isHeard_176, decode cX12_isHeard q.1 = .ok (q.2.1, q.2.2) := by decide +kernel
theorem dX12_isHeard_0 : decode cX12_isHeard 0 = .ok (.aload_n 0, 1) := dall dgX12_isHeard_176 0 rfl
theorem dX12_isHeard_1 : decode cX12_isHeard 1 = .ok (.getfield 17, 3) := dall dgX12_isHeard_176 1 rfl
theorem dX12_isHeard_4 : decode cX12_isHeard 4 = .ok (.iconst 4, 1) := dall dgX12_isHeard_176 2 rfl
theorem dX12_isHeard_5 : decode cX12_isHeard 5 = .ok (.iload_n 1, 1) := dall dgX12_isHeard_176 3 rfl
theorem dX12_isHeard_6 : decode cX12_isHeard 6 = .ok (.imul, 1) := dall dgX12_isHeard_176 4 rfl
theorem dX12_isHeard_7 : decode cX12_isHeard 7 = .ok (.iaload, 1) := dall dgX12_isHeard_176 5 rfl
theorem dX12_isHeard_8 : decode cX12_isHeard 8 = .ok (.aload_n 0, 1) := dall dgX12_isHeard_176 6 rfl
theorem dX12_isHeard_9 : decode cX12_isHeard 9 = .ok (.getfield 17, 3) := dall dgX12_isHeard_176 7 rfl
theorem dX12_isHeard_12 : decode cX12_isHeard 12 = .ok (.iconst 4, 1) := dall dgX12_isHeard_176 8 rfl
theorem dX12_isHeard_13 : decode cX12_isHeard 13 = .ok (.iload_n 1, 1) := dall dgX12_isHeard_176 9 rfl
theorem dX12_isHeard_14 : decode cX12_isHeard 14 = .ok (.imul, 1) := dall dgX12_isHeard_176 10 rfl
theorem dX12_isHeard_15 : decode cX12_isHeard 15 = .ok (.iconst 1, 1) := dall dgX12_isHeard_176 11 rfl
theorem dX12_isHeard_16 : decode cX12_isHeard 16 = .ok (.iadd, 1) := dall dgX12_isHeard_176 12 rfl
theorem dX12_isHeard_17 : decode cX12_isHeard 17 = .ok (.iaload, 1) := dall dgX12_isHeard_176 13 rfl
theorem dX12_isHeard_18 : decode cX12_isHeard 18 = .ok (.iadd, 1) := dall dgX12_isHeard_176 14 rfl
theorem dX12_isHeard_19 : decode cX12_isHeard 19 = .ok (.aload_n 0, 1) := dall dgX12_isHeard_176 15 rfl
theorem dX12_isHeard_20 : decode cX12_isHeard 20 = .ok (.getfield 17, 3) := dall dgX12_isHeard_176 16 rfl
theorem dX12_isHeard_23 : decode cX12_isHeard 23 = .ok (.iconst 4, 1) := dall dgX12_isHeard_176 17 rfl
theorem dX12_isHeard_24 : decode cX12_isHeard 24 = .ok (.iload_n 1, 1) := dall dgX12_isHeard_176 18 rfl
theorem dX12_isHeard_25 : decode cX12_isHeard 25 = .ok (.imul, 1) := dall dgX12_isHeard_176 19 rfl
theorem dX12_isHeard_26 : decode cX12_isHeard 26 = .ok (.iconst 2, 1) := dall dgX12_isHeard_176 20 rfl
theorem dX12_isHeard_27 : decode cX12_isHeard 27 = .ok (.iadd, 1) := dall dgX12_isHeard_176 21 rfl
theorem dX12_isHeard_28 : decode cX12_isHeard 28 = .ok (.iaload, 1) := dall dgX12_isHeard_176 22 rfl
theorem dX12_isHeard_29 : decode cX12_isHeard 29 = .ok (.iadd, 1) := dall dgX12_isHeard_176 23 rfl
theorem dX12_isHeard_30 : decode cX12_isHeard 30 = .ok (.aload_n 0, 1) := dall dgX12_isHeard_176 24 rfl
theorem dX12_isHeard_31 : decode cX12_isHeard 31 = .ok (.getfield 17, 3) := dall dgX12_isHeard_176 25 rfl
theorem dX12_isHeard_34 : decode cX12_isHeard 34 = .ok (.iconst 4, 1) := dall dgX12_isHeard_176 26 rfl
theorem dX12_isHeard_35 : decode cX12_isHeard 35 = .ok (.iload_n 1, 1) := dall dgX12_isHeard_176 27 rfl
theorem dX12_isHeard_36 : decode cX12_isHeard 36 = .ok (.imul, 1) := dall dgX12_isHeard_176 28 rfl
theorem dX12_isHeard_37 : decode cX12_isHeard 37 = .ok (.iconst 3, 1) := dall dgX12_isHeard_176 29 rfl
theorem dX12_isHeard_38 : decode cX12_isHeard 38 = .ok (.iadd, 1) := dall dgX12_isHeard_176 30 rfl
theorem dX12_isHeard_39 : decode cX12_isHeard 39 = .ok (.iaload, 1) := dall dgX12_isHeard_176 31 rfl
theorem dX12_isHeard_40 : decode cX12_isHeard 40 = .ok (.iadd, 1) := dall dgX12_isHeard_176 32 rfl
theorem dX12_isHeard_41 : decode cX12_isHeard 41 = .ok (.istore_n 2, 1) := dall dgX12_isHeard_176 33 rfl
theorem dX12_isHeard_42 : decode cX12_isHeard 42 = .ok (.aload_n 0, 1) := dall dgX12_isHeard_176 34 rfl
theorem dX12_isHeard_43 : decode cX12_isHeard 43 = .ok (.getfield 20, 3) := dall dgX12_isHeard_176 35 rfl
theorem dX12_isHeard_46 : decode cX12_isHeard 46 = .ok (.iload_n 1, 1) := dall dgX12_isHeard_176 36 rfl
theorem dX12_isHeard_47 : decode cX12_isHeard 47 = .ok (.baload, 1) := dall dgX12_isHeard_176 37 rfl
theorem dX12_isHeard_48 : decode cX12_isHeard 48 = .ok (.ifCond .ne 26, 3) := dall dgX12_isHeard_176 38 rfl
theorem dX12_isHeard_51 : decode cX12_isHeard 51 = .ok (.aload_n 0, 1) := dall dgX12_isHeard_176 39 rfl
theorem dX12_isHeard_52 : decode cX12_isHeard 52 = .ok (.getfield 24, 3) := dall dgX12_isHeard_176 40 rfl
theorem dX12_isHeard_55 : decode cX12_isHeard 55 = .ok (.iload_n 1, 1) := dall dgX12_isHeard_176 41 rfl
theorem dX12_isHeard_56 : decode cX12_isHeard 56 = .ok (.baload, 1) := dall dgX12_isHeard_176 42 rfl
theorem dX12_isHeard_57 : decode cX12_isHeard 57 = .ok (.ifCond .ne 17, 3) := dall dgX12_isHeard_176 43 rfl
theorem dX12_isHeard_60 : decode cX12_isHeard 60 = .ok (.iload_n 2, 1) := dall dgX12_isHeard_176 44 rfl
theorem dX12_isHeard_61 : decode cX12_isHeard 61 = .ok (.aload_n 0, 1) := dall dgX12_isHeard_176 45 rfl
theorem dX12_isHeard_62 : decode cX12_isHeard 62 = .ok (.getfield 7, 3) := dall dgX12_isHeard_176 46 rfl
theorem dX12_isHeard_65 : decode cX12_isHeard 65 = .ok (.iconst 1, 1) := dall dgX12_isHeard_176 47 rfl
theorem dX12_isHeard_66 : decode cX12_isHeard 66 = .ok (.iaload, 1) := dall dgX12_isHeard_176 48 rfl
theorem dX12_isHeard_67 : decode cX12_isHeard 67 = .ok (.if_icmp .lt 7, 3) := dall dgX12_isHeard_176 49 rfl
def lgX12_isHeard_177 : List (Nat × Instr × Nat) := [(70, .iconst 1, 1), (71, .goto 4, 3), (74, .iconst 0, 1), (75, .ireturn, 1)]
theorem dgX12_isHeard_177 : ∀ q ∈ lgX12_isHeard_177, decode cX12_isHeard q.1 = .ok (q.2.1, q.2.2) := by decide +kernel
theorem dX12_isHeard_70 : decode cX12_isHeard 70 = .ok (.iconst 1, 1) := dall dgX12_isHeard_177 0 rfl
theorem dX12_isHeard_71 : decode cX12_isHeard 71 = .ok (.goto 4, 3) := dall dgX12_isHeard_177 1 rfl
theorem dX12_isHeard_74 : decode cX12_isHeard 74 = .ok (.iconst 0, 1) := dall dgX12_isHeard_177 2 rfl
theorem dX12_isHeard_75 : decode cX12_isHeard 75 = .ok (.ireturn, 1) := dall dgX12_isHeard_177 3 rfl
def lgX12_findMiddle_178 : List (Nat × Instr × Nat) := [(0, .aload_n 0, 1), (1, .iconst 0, 1), (2, .putfield 178, 3), (5, .iconst 0, 1), (6, .istore_n 1, 1), (7, .iload_n 1, 1), (8, .iconst 4, 1), (9, .if_icmp .ge 180, 3), (12, .iconst 0, 1), (13, .istore_n 2, 1), (14, .iconst 0, 1), (15, .istore_n 3, 1), (16, .iload_n 3, 1), (17, .aload_n 0, 1), (18, .getfield 156, 3), (21, .if_icmp .ge 86, 3), (24, .aload_n 0, 1), (25, .getfield 54, 3), (28, .iload_n 3, 1), (29, .baload, 1), (30, .ifCond .eq 71, 3), (33, .aload_n 0, 1), (34, .getfield 17, 3), (37, .iconst 4, 1), (38, .iload_n 3, 1), (39, .imul, 1), (40, .iload_n 1, 1), (41, .iadd, 1), (42, .iaload, 1), (43, .istore 4, 2), (45, .iload_n 2, 1), (46, .istore 5, 2), (48, .iload 5, 2), (50, .ifCond .le 39, 3), (53, .aload_n 0, 1), (54, .getfield 60, 3), (57, .iload 5, 2), (59, .iconst 1, 1), (60, .isub, 1), (61, .iaload, 1), (62, .iload 4, 2), (64, .if_icmp .le 25, 3), (67, .aload_n 0, 1), (68, .getfield 60, 3), (71, .iload 5, 2), (73, .aload_n 0, 1), (74, .getfield 60, 3), (77, .iload 5, 2), (79, .iconst 1, 1), (80, .isub, 1)]
theorem dgX12_findMiddle_178 : ∀ q ∈ lgX12_findMiddle_178, decode cX12_findMiddle q.1 = .ok (q.2.1, q.2.2) := by decide +kernel
theorem dX12_findMiddle_0 : decode cX12_findMiddle 0 = .ok (.aload_n 0, 1) := dall dgX12_findMiddle_178 0 rfl
theorem dX12_findMiddle_1 : decode cX12_findMiddle 1 = .ok (.iconst 0, 1) := dall dgX12_findMiddle_178 1 rfl
theorem dX12_findMiddle_2 : decode cX12_findMiddle 2 = .ok (.putfield 178, 3) := dall dgX12_findMiddle_178 2 rfl
theorem dX12_findMiddle_5 : decode cX12_findMiddle 5 = .ok (.iconst 0, 1) := dall dgX12_findMiddle_178 3 rfl
theorem dX12_findMiddle_6 : decode cX12_findMiddle 6 = .ok (.istore_n 1, 1) := dall dgX12_findMiddle_178 4 rfl
theorem dX12_findMiddle_7 : decode cX12_findMiddle 7 = .ok (.iload_n 1, 1) := dall dgX12_findMiddle_178 5 rfl
theorem dX12_findMiddle_8 : decode cX12_findMiddle 8 = .ok (.iconst 4, 1) := dall dgX12_findMiddle_178 6 rfl
theorem dX12_findMiddle_9 : decode cX12_findMiddle 9 = .ok (.if_icmp .ge 180, 3) := dall dgX12_findMiddle_178 7 rfl
theorem dX12_findMiddle_12 : decode cX12_findMiddle 12 = .ok (.iconst 0, 1) := dall dgX12_findMiddle_178 8 rfl
theorem dX12_findMiddle_13 : decode cX12_findMiddle 13 = .ok (.istore_n 2, 1) := dall dgX12_findMiddle_178 9 rfl
theorem dX12_findMiddle_14 : decode cX12_findMiddle 14 = .ok (.iconst 0, 1) := dall dgX12_findMiddle_178 10 rfl
theorem dX12_findMiddle_15 : decode cX12_findMiddle 15 = .ok (.istore_n 3, 1) := dall dgX12_findMiddle_178 11 rfl
theorem dX12_findMiddle_16 : decode cX12_findMiddle 16 = .ok (.iload_n 3, 1) := dall dgX12_findMiddle_178 12 rfl
theorem dX12_findMiddle_17 : decode cX12_findMiddle 17 = .ok (.aload_n 0, 1) := dall dgX12_findMiddle_178 13 rfl
theorem dX12_findMiddle_18 : decode cX12_findMiddle 18 = .ok (.getfield 156, 3) := dall dgX12_findMiddle_178 14 rfl
theorem dX12_findMiddle_21 : decode cX12_findMiddle 21 = .ok (.if_icmp .ge 86, 3) := dall dgX12_findMiddle_178 15 rfl
theorem dX12_findMiddle_24 : decode cX12_findMiddle 24 = .ok (.aload_n 0, 1) := dall dgX12_findMiddle_178 16 rfl
theorem dX12_findMiddle_25 : decode cX12_findMiddle 25 = .ok (.getfield 54, 3) := dall dgX12_findMiddle_178 17 rfl
theorem dX12_findMiddle_28 : decode cX12_findMiddle 28 = .ok (.iload_n 3, 1) := dall dgX12_findMiddle_178 18 rfl
theorem dX12_findMiddle_29 : decode cX12_findMiddle 29 = .ok (.baload, 1) := dall dgX12_findMiddle_178 19 rfl
theorem dX12_findMiddle_30 : decode cX12_findMiddle 30 = .ok (.ifCond .eq 71, 3) := dall dgX12_findMiddle_178 20 rfl
theorem dX12_findMiddle_33 : decode cX12_findMiddle 33 = .ok (.aload_n 0, 1) := dall dgX12_findMiddle_178 21 rfl
theorem dX12_findMiddle_34 : decode cX12_findMiddle 34 = .ok (.getfield 17, 3) := dall dgX12_findMiddle_178 22 rfl
theorem dX12_findMiddle_37 : decode cX12_findMiddle 37 = .ok (.iconst 4, 1) := dall dgX12_findMiddle_178 23 rfl
theorem dX12_findMiddle_38 : decode cX12_findMiddle 38 = .ok (.iload_n 3, 1) := dall dgX12_findMiddle_178 24 rfl
theorem dX12_findMiddle_39 : decode cX12_findMiddle 39 = .ok (.imul, 1) := dall dgX12_findMiddle_178 25 rfl
theorem dX12_findMiddle_40 : decode cX12_findMiddle 40 = .ok (.iload_n 1, 1) := dall dgX12_findMiddle_178 26 rfl
theorem dX12_findMiddle_41 : decode cX12_findMiddle 41 = .ok (.iadd, 1) := dall dgX12_findMiddle_178 27 rfl
theorem dX12_findMiddle_42 : decode cX12_findMiddle 42 = .ok (.iaload, 1) := dall dgX12_findMiddle_178 28 rfl
theorem dX12_findMiddle_43 : decode cX12_findMiddle 43 = .ok (.istore 4, 2) := dall dgX12_findMiddle_178 29 rfl
theorem dX12_findMiddle_45 : decode cX12_findMiddle 45 = .ok (.iload_n 2, 1) := dall dgX12_findMiddle_178 30 rfl
theorem dX12_findMiddle_46 : decode cX12_findMiddle 46 = .ok (.istore 5, 2) := dall dgX12_findMiddle_178 31 rfl
theorem dX12_findMiddle_48 : decode cX12_findMiddle 48 = .ok (.iload 5, 2) := dall dgX12_findMiddle_178 32 rfl
theorem dX12_findMiddle_50 : decode cX12_findMiddle 50 = .ok (.ifCond .le 39, 3) := dall dgX12_findMiddle_178 33 rfl
theorem dX12_findMiddle_53 : decode cX12_findMiddle 53 = .ok (.aload_n 0, 1) := dall dgX12_findMiddle_178 34 rfl
theorem dX12_findMiddle_54 : decode cX12_findMiddle 54 = .ok (.getfield 60, 3) := dall dgX12_findMiddle_178 35 rfl
theorem dX12_findMiddle_57 : decode cX12_findMiddle 57 = .ok (.iload 5, 2) := dall dgX12_findMiddle_178 36 rfl
theorem dX12_findMiddle_59 : decode cX12_findMiddle 59 = .ok (.iconst 1, 1) := dall dgX12_findMiddle_178 37 rfl
theorem dX12_findMiddle_60 : decode cX12_findMiddle 60 = .ok (.isub, 1) := dall dgX12_findMiddle_178 38 rfl
theorem dX12_findMiddle_61 : decode cX12_findMiddle 61 = .ok (.iaload, 1) := dall dgX12_findMiddle_178 39 rfl
theorem dX12_findMiddle_62 : decode cX12_findMiddle 62 = .ok (.iload 4, 2) := dall dgX12_findMiddle_178 40 rfl
theorem dX12_findMiddle_64 : decode cX12_findMiddle 64 = .ok (.if_icmp .le 25, 3) := dall dgX12_findMiddle_178 41 rfl
theorem dX12_findMiddle_67 : decode cX12_findMiddle 67 = .ok (.aload_n 0, 1) := dall dgX12_findMiddle_178 42 rfl
theorem dX12_findMiddle_68 : decode cX12_findMiddle 68 = .ok (.getfield 60, 3) := dall dgX12_findMiddle_178 43 rfl
theorem dX12_findMiddle_71 : decode cX12_findMiddle 71 = .ok (.iload 5, 2) := dall dgX12_findMiddle_178 44 rfl
theorem dX12_findMiddle_73 : decode cX12_findMiddle 73 = .ok (.aload_n 0, 1) := dall dgX12_findMiddle_178 45 rfl
theorem dX12_findMiddle_74 : decode cX12_findMiddle 74 = .ok (.getfield 60, 3) := dall dgX12_findMiddle_178 46 rfl
theorem dX12_findMiddle_77 : decode cX12_findMiddle 77 = .ok (.iload 5, 2) := dall dgX12_findMiddle_178 47 rfl
theorem dX12_findMiddle_79 : decode cX12_findMiddle 79 = .ok (.iconst 1, 1) := dall dgX12_findMiddle_178 48 rfl
theorem dX12_findMiddle_80 : decode cX12_findMiddle 80 = .ok (.isub, 1) := dall dgX12_findMiddle_178 49 rfl
def lgX12_findMiddle_179 : List (Nat × Instr × Nat) := [(81, .iaload, 1), (82, .iastore, 1), (83, .iinc 5 (-1), 3), (86, .goto (-38), 3), (89, .aload_n 0, 1), (90, .getfield 60, 3), (93, .iload 5, 2), (95, .iload 4, 2), (97, .iastore, 1), (98, .iinc 2 1, 3), (101, .iinc 3 1, 3), (104, .goto (-88), 3), (107, .aload_n 0, 1), (108, .getfield 57, 3), (111, .iload_n 1, 1), (112, .iload_n 2, 1), (113, .ifCond .ne 7, 3), (116, .iconst 0, 1), (117, .goto 15, 3), (120, .aload_n 0, 1), (121, .getfield 60, 3), (124, .iload_n 2, 1), (125, .iconst 1, 1), (126, .iadd, 1), (127, .iconst 2, 1), (128, .idiv, 1), (129, .iconst 1, 1), (130, .isub, 1), (131, .iaload, 1), (132, .iastore, 1), (133, .iconst 0, 1), (134, .istore_n 3, 1), (135, .iload_n 3, 1), (136, .iload_n 2, 1), (137, .if_icmp .ge 46, 3), (140, .aload_n 0, 1), (141, .getfield 60, 3), (144, .iload_n 3, 1), (145, .iaload, 1), (146, .aload_n 0, 1), (147, .getfield 57, 3), (150, .iload_n 1, 1), (151, .iaload, 1), (152, .isub, 1), (153, .istore 4, 2), (155, .aload_n 0, 1), (156, .dup, 1), (157, .getfield 178, 3), (160, .iload 4, 2), (162, .ifCond .ge 9, 3)]
theorem dgX12_findMiddle_179 : ∀ q ∈ lgX12_findMiddle_179, decode cX12_findMiddle q.1 = .ok (q.2.1, q.2.2) := by decide +kernel
theorem dX12_findMiddle_81 : decode cX12_findMiddle 81 = .ok (.iaload, 1) := dall dgX12_findMiddle_179 0 rfl
theorem dX12_findMiddle_82 : decode cX12_findMiddle 82 = .ok (.iastore, 1) := dall dgX12_findMiddle_179 1 rfl
theorem dX12_findMiddle_83 : decode cX12_findMiddle 83 = .ok (.iinc 5 (-1), 3) := dall dgX12_findMiddle_179 2 rfl
theorem dX12_findMiddle_86 : decode cX12_findMiddle 86 = .ok (.goto (-38), 3) := dall dgX12_findMiddle_179 3 rfl
theorem dX12_findMiddle_89 : decode cX12_findMiddle 89 = .ok (.aload_n 0, 1) := dall dgX12_findMiddle_179 4 rfl
theorem dX12_findMiddle_90 : decode cX12_findMiddle 90 = .ok (.getfield 60, 3) := dall dgX12_findMiddle_179 5 rfl
theorem dX12_findMiddle_93 : decode cX12_findMiddle 93 = .ok (.iload 5, 2) := dall dgX12_findMiddle_179 6 rfl
theorem dX12_findMiddle_95 : decode cX12_findMiddle 95 = .ok (.iload 4, 2) := dall dgX12_findMiddle_179 7 rfl
theorem dX12_findMiddle_97 : decode cX12_findMiddle 97 = .ok (.iastore, 1) := dall dgX12_findMiddle_179 8 rfl
theorem dX12_findMiddle_98 : decode cX12_findMiddle 98 = .ok (.iinc 2 1, 3) := dall dgX12_findMiddle_179 9 rfl
theorem dX12_findMiddle_101 : decode cX12_findMiddle 101 = .ok (.iinc 3 1, 3) := dall dgX12_findMiddle_179 10 rfl
theorem dX12_findMiddle_104 : decode cX12_findMiddle 104 = .ok (.goto (-88), 3) := dall dgX12_findMiddle_179 11 rfl
theorem dX12_findMiddle_107 : decode cX12_findMiddle 107 = .ok (.aload_n 0, 1) := dall dgX12_findMiddle_179 12 rfl
theorem dX12_findMiddle_108 : decode cX12_findMiddle 108 = .ok (.getfield 57, 3) := dall dgX12_findMiddle_179 13 rfl
theorem dX12_findMiddle_111 : decode cX12_findMiddle 111 = .ok (.iload_n 1, 1) := dall dgX12_findMiddle_179 14 rfl
theorem dX12_findMiddle_112 : decode cX12_findMiddle 112 = .ok (.iload_n 2, 1) := dall dgX12_findMiddle_179 15 rfl
theorem dX12_findMiddle_113 : decode cX12_findMiddle 113 = .ok (.ifCond .ne 7, 3) := dall dgX12_findMiddle_179 16 rfl
theorem dX12_findMiddle_116 : decode cX12_findMiddle 116 = .ok (.iconst 0, 1) := dall dgX12_findMiddle_179 17 rfl
theorem dX12_findMiddle_117 : decode cX12_findMiddle 117 = .ok (.goto 15, 3) := dall dgX12_findMiddle_179 18 rfl
theorem dX12_findMiddle_120 : decode cX12_findMiddle 120 = .ok (.aload_n 0, 1) := dall dgX12_findMiddle_179 19 rfl
theorem dX12_findMiddle_121 : decode cX12_findMiddle 121 = .ok (.getfield 60, 3) := dall dgX12_findMiddle_179 20 rfl
theorem dX12_findMiddle_124 : decode cX12_findMiddle 124 = .ok (.iload_n 2, 1) := dall dgX12_findMiddle_179 21 rfl
theorem dX12_findMiddle_125 : decode cX12_findMiddle 125 = .ok (.iconst 1, 1) := dall dgX12_findMiddle_179 22 rfl
theorem dX12_findMiddle_126 : decode cX12_findMiddle 126 = .ok (.iadd, 1) := dall dgX12_findMiddle_179 23 rfl
theorem dX12_findMiddle_127 : decode cX12_findMiddle 127 = .ok (.iconst 2, 1) := dall dgX12_findMiddle_179 24 rfl
theorem dX12_findMiddle_128 : decode cX12_findMiddle 128 = .ok (.idiv, 1) := dall dgX12_findMiddle_179 25 rfl
theorem dX12_findMiddle_129 : decode cX12_findMiddle 129 = .ok (.iconst 1, 1) := dall dgX12_findMiddle_179 26 rfl
theorem dX12_findMiddle_130 : decode cX12_findMiddle 130 = .ok (.isub, 1) := dall dgX12_findMiddle_179 27 rfl
theorem dX12_findMiddle_131 : decode cX12_findMiddle 131 = .ok (.iaload, 1) := dall dgX12_findMiddle_179 28 rfl
theorem dX12_findMiddle_132 : decode cX12_findMiddle 132 = .ok (.iastore, 1) := dall dgX12_findMiddle_179 29 rfl
theorem dX12_findMiddle_133 : decode cX12_findMiddle 133 = .ok (.iconst 0, 1) := dall dgX12_findMiddle_179 30 rfl
theorem dX12_findMiddle_134 : decode cX12_findMiddle 134 = .ok (.istore_n 3, 1) := dall dgX12_findMiddle_179 31 rfl
theorem dX12_findMiddle_135 : decode cX12_findMiddle 135 = .ok (.iload_n 3, 1) := dall dgX12_findMiddle_179 32 rfl
theorem dX12_findMiddle_136 : decode cX12_findMiddle 136 = .ok (.iload_n 2, 1) := dall dgX12_findMiddle_179 33 rfl
theorem dX12_findMiddle_137 : decode cX12_findMiddle 137 = .ok (.if_icmp .ge 46, 3) := dall dgX12_findMiddle_179 34 rfl
theorem dX12_findMiddle_140 : decode cX12_findMiddle 140 = .ok (.aload_n 0, 1) := dall dgX12_findMiddle_179 35 rfl
theorem dX12_findMiddle_141 : decode cX12_findMiddle 141 = .ok (.getfield 60, 3) := dall dgX12_findMiddle_179 36 rfl
theorem dX12_findMiddle_144 : decode cX12_findMiddle 144 = .ok (.iload_n 3, 1) := dall dgX12_findMiddle_179 37 rfl
theorem dX12_findMiddle_145 : decode cX12_findMiddle 145 = .ok (.iaload, 1) := dall dgX12_findMiddle_179 38 rfl
theorem dX12_findMiddle_146 : decode cX12_findMiddle 146 = .ok (.aload_n 0, 1) := dall dgX12_findMiddle_179 39 rfl
theorem dX12_findMiddle_147 : decode cX12_findMiddle 147 = .ok (.getfield 57, 3) := dall dgX12_findMiddle_179 40 rfl
theorem dX12_findMiddle_150 : decode cX12_findMiddle 150 = .ok (.iload_n 1, 1) := dall dgX12_findMiddle_179 41 rfl
theorem dX12_findMiddle_151 : decode cX12_findMiddle 151 = .ok (.iaload, 1) := dall dgX12_findMiddle_179 42 rfl
theorem dX12_findMiddle_152 : decode cX12_findMiddle 152 = .ok (.isub, 1) := dall dgX12_findMiddle_179 43 rfl
theorem dX12_findMiddle_153 : decode cX12_findMiddle 153 = .ok (.istore 4, 2) := dall dgX12_findMiddle_179 44 rfl
theorem dX12_findMiddle_155 : decode cX12_findMiddle 155 = .ok (.aload_n 0, 1) := dall dgX12_findMiddle_179 45 rfl
theorem dX12_findMiddle_156 : decode cX12_findMiddle 156 = .ok (.dup, 1) := dall dgX12_findMiddle_179 46 rfl
theorem dX12_findMiddle_157 : decode cX12_findMiddle 157 = .ok (.getfield 178, 3) := dall dgX12_findMiddle_179 47 rfl
theorem dX12_findMiddle_160 : decode cX12_findMiddle 160 = .ok (.iload 4, 2) := dall dgX12_findMiddle_179 48 rfl
theorem dX12_findMiddle_162 : decode cX12_findMiddle 162 = .ok (.ifCond .ge 9, 3) := dall dgX12_findMiddle_179 49 rfl
def lgX12_findMiddle_180 : List (Nat × Instr × Nat) := [(165, .iload 4, 2), (167, .ineg, 1), (168, .goto 5, 3), (171, .iload 4, 2), (173, .iadd, 1), (174, .putfield 178, 3), (177, .iinc 3 1, 3), (180, .goto (-45), 3), (183, .iinc 1 1, 3), (186, .goto (-179), 3), (189, .return_, 1)]
theorem dgX12_findMiddle_180 : ∀ q ∈ lgX12_findMiddle_180, decode cX12_findMiddle q.1 = .ok (q.2.1, q.2.2) := by decide +kernel
theorem dX12_findMiddle_165 : decode cX12_findMiddle 165 = .ok (.iload 4, 2) := dall dgX12_findMiddle_180 0 rfl
theorem dX12_findMiddle_167 : decode cX12_findMiddle 167 = .ok (.ineg, 1) := dall dgX12_findMiddle_180 1 rfl
theorem dX12_findMiddle_168 : decode cX12_findMiddle 168 = .ok (.goto 5, 3) := dall dgX12_findMiddle_180 2 rfl
theorem dX12_findMiddle_171 : decode cX12_findMiddle 171 = .ok (.iload 4, 2) := dall dgX12_findMiddle_180 3 rfl
theorem dX12_findMiddle_173 : decode cX12_findMiddle 173 = .ok (.iadd, 1) := dall dgX12_findMiddle_180 4 rfl
theorem dX12_findMiddle_174 : decode cX12_findMiddle 174 = .ok (.putfield 178, 3) := dall dgX12_findMiddle_180 5 rfl
theorem dX12_findMiddle_177 : decode cX12_findMiddle 177 = .ok (.iinc 3 1, 3) := dall dgX12_findMiddle_180 6 rfl
theorem dX12_findMiddle_180 : decode cX12_findMiddle 180 = .ok (.goto (-45), 3) := dall dgX12_findMiddle_180 7 rfl
theorem dX12_findMiddle_183 : decode cX12_findMiddle 183 = .ok (.iinc 1 1, 3) := dall dgX12_findMiddle_180 8 rfl
theorem dX12_findMiddle_186 : decode cX12_findMiddle 186 = .ok (.goto (-179), 3) := dall dgX12_findMiddle_180 9 rfl
theorem dX12_findMiddle_189 : decode cX12_findMiddle 189 = .ok (.return_, 1) := dall dgX12_findMiddle_180 10 rfl
def lgX12_askRows_181 : List (Nat × Instr × Nat) := [(0, .iconst 0, 1), (1, .istore_n 3, 1), (2, .iload_n 3, 1), (3, .aload_n 0, 1), (4, .getfield 156, 3), (7, .if_icmp .ge 25, 3), (10, .aload_n 0, 1), (11, .getfield 54, 3), (14, .iload_n 3, 1), (15, .iload_n 3, 1), (16, .iload_n 1, 1), (17, .iload_n 1, 1), (18, .iload_n 2, 1), (19, .iadd, 1), (20, .iconst 1, 1), (21, .isub, 1), (22, .invokestatic 100, 3), (25, .bastore, 1), (26, .iinc 3 1, 3), (29, .goto (-27), 3), (32, .aload_n 0, 1), (33, .invokevirtual 181, 3), (36, .return_, 1)]
theorem dgX12_askRows_181 : ∀ q ∈ lgX12_askRows_181, decode cX12_askRows q.1 = .ok (q.2.1, q.2.2) := by decide +kernel
theorem dX12_askRows_0 : decode cX12_askRows 0 = .ok (.iconst 0, 1) := dall dgX12_askRows_181 0 rfl
theorem dX12_askRows_1 : decode cX12_askRows 1 = .ok (.istore_n 3, 1) := dall dgX12_askRows_181 1 rfl
theorem dX12_askRows_2 : decode cX12_askRows 2 = .ok (.iload_n 3, 1) := dall dgX12_askRows_181 2 rfl
theorem dX12_askRows_3 : decode cX12_askRows 3 = .ok (.aload_n 0, 1) := dall dgX12_askRows_181 3 rfl
theorem dX12_askRows_4 : decode cX12_askRows 4 = .ok (.getfield 156, 3) := dall dgX12_askRows_181 4 rfl
theorem dX12_askRows_7 : decode cX12_askRows 7 = .ok (.if_icmp .ge 25, 3) := dall dgX12_askRows_181 5 rfl
theorem dX12_askRows_10 : decode cX12_askRows 10 = .ok (.aload_n 0, 1) := dall dgX12_askRows_181 6 rfl
theorem dX12_askRows_11 : decode cX12_askRows 11 = .ok (.getfield 54, 3) := dall dgX12_askRows_181 7 rfl
theorem dX12_askRows_14 : decode cX12_askRows 14 = .ok (.iload_n 3, 1) := dall dgX12_askRows_181 8 rfl
theorem dX12_askRows_15 : decode cX12_askRows 15 = .ok (.iload_n 3, 1) := dall dgX12_askRows_181 9 rfl
theorem dX12_askRows_16 : decode cX12_askRows 16 = .ok (.iload_n 1, 1) := dall dgX12_askRows_181 10 rfl
theorem dX12_askRows_17 : decode cX12_askRows 17 = .ok (.iload_n 1, 1) := dall dgX12_askRows_181 11 rfl
theorem dX12_askRows_18 : decode cX12_askRows 18 = .ok (.iload_n 2, 1) := dall dgX12_askRows_181 12 rfl
theorem dX12_askRows_19 : decode cX12_askRows 19 = .ok (.iadd, 1) := dall dgX12_askRows_181 13 rfl
theorem dX12_askRows_20 : decode cX12_askRows 20 = .ok (.iconst 1, 1) := dall dgX12_askRows_181 14 rfl
theorem dX12_askRows_21 : decode cX12_askRows 21 = .ok (.isub, 1) := dall dgX12_askRows_181 15 rfl
theorem dX12_askRows_22 : decode cX12_askRows 22 = .ok (.invokestatic 100, 3) := dall dgX12_askRows_181 16 rfl
theorem dX12_askRows_25 : decode cX12_askRows 25 = .ok (.bastore, 1) := dall dgX12_askRows_181 17 rfl
theorem dX12_askRows_26 : decode cX12_askRows 26 = .ok (.iinc 3 1, 3) := dall dgX12_askRows_181 18 rfl
theorem dX12_askRows_29 : decode cX12_askRows 29 = .ok (.goto (-27), 3) := dall dgX12_askRows_181 19 rfl
theorem dX12_askRows_32 : decode cX12_askRows 32 = .ok (.aload_n 0, 1) := dall dgX12_askRows_181 20 rfl
theorem dX12_askRows_33 : decode cX12_askRows 33 = .ok (.invokevirtual 181, 3) := dall dgX12_askRows_181 21 rfl
theorem dX12_askRows_36 : decode cX12_askRows 36 = .ok (.return_, 1) := dall dgX12_askRows_181 22 rfl
def lgX12_cut_182 : List (Nat × Instr × Nat) := [(0, .aload_n 0, 1), (1, .getfield 63, 3), (4, .iload_n 2, 1), (5, .iconst 1, 1), (6, .iadd, 1), (7, .iconst 0, 1), (8, .iastore, 1), (9, .iload_n 2, 1), (10, .istore_n 3, 1), (11, .iload_n 3, 1), (12, .iload_n 1, 1), (13, .if_icmp .lt 101, 3), (16, .aload_n 0, 1), (17, .getfield 66, 3), (20, .iload_n 3, 1), (21, .iconst 0, 1), (22, .iastore, 1), (23, .iconst 1, 1), (24, .istore 4, 2), (26, .iload_n 3, 1), (27, .iload 4, 2), (29, .iadd, 1), (30, .iload_n 2, 1), (31, .iconst 1, 1), (32, .iadd, 1), (33, .if_icmp .gt 75, 3), (36, .aload_n 0, 1), (37, .iload_n 3, 1), (38, .iload 4, 2), (40, .invokevirtual 184, 3), (43, .aload_n 0, 1), (44, .getfield 178, 3), (47, .aload_n 0, 1), (48, .getfield 7, 3), (51, .iconst 0, 1), (52, .iaload, 1), (53, .iadd, 1), (54, .aload_n 0, 1), (55, .getfield 63, 3), (58, .iload_n 3, 1), (59, .iload 4, 2), (61, .iadd, 1), (62, .iaload, 1), (63, .iadd, 1), (64, .istore 5, 2), (66, .aload_n 0, 1), (67, .getfield 66, 3), (70, .iload_n 3, 1), (71, .iaload, 1), (72, .ifCond .eq 14, 3)]
theorem dgX12_cut_182 : ∀ q ∈ lgX12_cut_182, decode cX12_cut q.1 = .ok (q.2.1, q.2.2) := by decide +kernel
theorem dX12_cut_0 : decode cX12_cut 0 = .ok (.aload_n 0, 1) := dall dgX12_cut_182 0 rfl
theorem dX12_cut_1 : decode cX12_cut 1 = .ok (.getfield 63, 3) := dall dgX12_cut_182 1 rfl
theorem dX12_cut_4 : decode cX12_cut 4 = .ok (.iload_n 2, 1) := dall dgX12_cut_182 2 rfl
theorem dX12_cut_5 : decode cX12_cut 5 = .ok (.iconst 1, 1) := dall dgX12_cut_182 3 rfl
theorem dX12_cut_6 : decode cX12_cut 6 = .ok (.iadd, 1) := dall dgX12_cut_182 4 rfl
theorem dX12_cut_7 : decode cX12_cut 7 = .ok (.iconst 0, 1) := dall dgX12_cut_182 5 rfl
theorem dX12_cut_8 : decode cX12_cut 8 = .ok (.iastore, 1) := dall dgX12_cut_182 6 rfl
theorem dX12_cut_9 : decode cX12_cut 9 = .ok (.iload_n 2, 1) := dall dgX12_cut_182 7 rfl
theorem dX12_cut_10 : decode cX12_cut 10 = .ok (.istore_n 3, 1) := dall dgX12_cut_182 8 rfl
theorem dX12_cut_11 : decode cX12_cut 11 = .ok (.iload_n 3, 1) := dall dgX12_cut_182 9 rfl
theorem dX12_cut_12 : decode cX12_cut 12 = .ok (.iload_n 1, 1) := dall dgX12_cut_182 10 rfl
theorem dX12_cut_13 : decode cX12_cut 13 = .ok (.if_icmp .lt 101, 3) := dall dgX12_cut_182 11 rfl
theorem dX12_cut_16 : decode cX12_cut 16 = .ok (.aload_n 0, 1) := dall dgX12_cut_182 12 rfl
theorem dX12_cut_17 : decode cX12_cut 17 = .ok (.getfield 66, 3) := dall dgX12_cut_182 13 rfl
theorem dX12_cut_20 : decode cX12_cut 20 = .ok (.iload_n 3, 1) := dall dgX12_cut_182 14 rfl
theorem dX12_cut_21 : decode cX12_cut 21 = .ok (.iconst 0, 1) := dall dgX12_cut_182 15 rfl
theorem dX12_cut_22 : decode cX12_cut 22 = .ok (.iastore, 1) := dall dgX12_cut_182 16 rfl
theorem dX12_cut_23 : decode cX12_cut 23 = .ok (.iconst 1, 1) := dall dgX12_cut_182 17 rfl
theorem dX12_cut_24 : decode cX12_cut 24 = .ok (.istore 4, 2) := dall dgX12_cut_182 18 rfl
theorem dX12_cut_26 : decode cX12_cut 26 = .ok (.iload_n 3, 1) := dall dgX12_cut_182 19 rfl
theorem dX12_cut_27 : decode cX12_cut 27 = .ok (.iload 4, 2) := dall dgX12_cut_182 20 rfl
theorem dX12_cut_29 : decode cX12_cut 29 = .ok (.iadd, 1) := dall dgX12_cut_182 21 rfl
theorem dX12_cut_30 : decode cX12_cut 30 = .ok (.iload_n 2, 1) := dall dgX12_cut_182 22 rfl
theorem dX12_cut_31 : decode cX12_cut 31 = .ok (.iconst 1, 1) := dall dgX12_cut_182 23 rfl
theorem dX12_cut_32 : decode cX12_cut 32 = .ok (.iadd, 1) := dall dgX12_cut_182 24 rfl
theorem dX12_cut_33 : decode cX12_cut 33 = .ok (.if_icmp .gt 75, 3) := dall dgX12_cut_182 25 rfl
theorem dX12_cut_36 : decode cX12_cut 36 = .ok (.aload_n 0, 1) := dall dgX12_cut_182 26 rfl
theorem dX12_cut_37 : decode cX12_cut 37 = .ok (.iload_n 3, 1) := dall dgX12_cut_182 27 rfl
theorem dX12_cut_38 : decode cX12_cut 38 = .ok (.iload 4, 2) := dall dgX12_cut_182 28 rfl
theorem dX12_cut_40 : decode cX12_cut 40 = .ok (.invokevirtual 184, 3) := dall dgX12_cut_182 29 rfl
theorem dX12_cut_43 : decode cX12_cut 43 = .ok (.aload_n 0, 1) := dall dgX12_cut_182 30 rfl
theorem dX12_cut_44 : decode cX12_cut 44 = .ok (.getfield 178, 3) := dall dgX12_cut_182 31 rfl
theorem dX12_cut_47 : decode cX12_cut 47 = .ok (.aload_n 0, 1) := dall dgX12_cut_182 32 rfl
theorem dX12_cut_48 : decode cX12_cut 48 = .ok (.getfield 7, 3) := dall dgX12_cut_182 33 rfl
theorem dX12_cut_51 : decode cX12_cut 51 = .ok (.iconst 0, 1) := dall dgX12_cut_182 34 rfl
theorem dX12_cut_52 : decode cX12_cut 52 = .ok (.iaload, 1) := dall dgX12_cut_182 35 rfl
theorem dX12_cut_53 : decode cX12_cut 53 = .ok (.iadd, 1) := dall dgX12_cut_182 36 rfl
theorem dX12_cut_54 : decode cX12_cut 54 = .ok (.aload_n 0, 1) := dall dgX12_cut_182 37 rfl
theorem dX12_cut_55 : decode cX12_cut 55 = .ok (.getfield 63, 3) := dall dgX12_cut_182 38 rfl
theorem dX12_cut_58 : decode cX12_cut 58 = .ok (.iload_n 3, 1) := dall dgX12_cut_182 39 rfl
theorem dX12_cut_59 : decode cX12_cut 59 = .ok (.iload 4, 2) := dall dgX12_cut_182 40 rfl
theorem dX12_cut_61 : decode cX12_cut 61 = .ok (.iadd, 1) := dall dgX12_cut_182 41 rfl
theorem dX12_cut_62 : decode cX12_cut 62 = .ok (.iaload, 1) := dall dgX12_cut_182 42 rfl
theorem dX12_cut_63 : decode cX12_cut 63 = .ok (.iadd, 1) := dall dgX12_cut_182 43 rfl
theorem dX12_cut_64 : decode cX12_cut 64 = .ok (.istore 5, 2) := dall dgX12_cut_182 44 rfl
theorem dX12_cut_66 : decode cX12_cut 66 = .ok (.aload_n 0, 1) := dall dgX12_cut_182 45 rfl
theorem dX12_cut_67 : decode cX12_cut 67 = .ok (.getfield 66, 3) := dall dgX12_cut_182 46 rfl
theorem dX12_cut_70 : decode cX12_cut 70 = .ok (.iload_n 3, 1) := dall dgX12_cut_182 47 rfl
theorem dX12_cut_71 : decode cX12_cut 71 = .ok (.iaload, 1) := dall dgX12_cut_182 48 rfl
theorem dX12_cut_72 : decode cX12_cut 72 = .ok (.ifCond .eq 14, 3) := dall dgX12_cut_182 49 rfl
def lgX12_cut_183 : List (Nat × Instr × Nat) := [(75, .iload 5, 2), (77, .aload_n 0, 1), (78, .getfield 63, 3), (81, .iload_n 3, 1), (82, .iaload, 1), (83, .if_icmp .gt 19, 3), (86, .aload_n 0, 1), (87, .getfield 63, 3), (90, .iload_n 3, 1), (91, .iload 5, 2), (93, .iastore, 1), (94, .aload_n 0, 1), (95, .getfield 66, 3), (98, .iload_n 3, 1), (99, .iload 4, 2), (101, .iastore, 1), (102, .iinc 4 1, 3), (105, .goto (-79), 3), (108, .iinc 3 (-1), 3), (111, .goto (-100), 3), (114, .aload_n 0, 1), (115, .dup, 1), (116, .getfield 188, 3), (119, .aload_n 0, 1), (120, .getfield 63, 3), (123, .iload_n 1, 1), (124, .iaload, 1), (125, .iadd, 1), (126, .putfield 188, 3), (129, .iload_n 1, 1), (130, .istore_n 3, 1), (131, .iload_n 3, 1), (132, .iload_n 2, 1), (133, .if_icmp .gt 143, 3), (136, .aload_n 0, 1), (137, .getfield 39, 3), (140, .aload_n 0, 1), (141, .getfield 191, 3), (144, .iload_n 3, 1), (145, .iastore, 1), (146, .aload_n 0, 1), (147, .getfield 42, 3), (150, .aload_n 0, 1), (151, .getfield 191, 3), (154, .aload_n 0, 1), (155, .getfield 66, 3), (158, .iload_n 3, 1), (159, .iaload, 1), (160, .iastore, 1), (161, .aload_n 0, 1)]
theorem dgX12_cut_183 : ∀ q ∈ lgX12_cut_183, decode cX12_cut q.1 = .ok (q.2.1, q.2.2) := by decide +kernel
theorem dX12_cut_75 : decode cX12_cut 75 = .ok (.iload 5, 2) := dall dgX12_cut_183 0 rfl
theorem dX12_cut_77 : decode cX12_cut 77 = .ok (.aload_n 0, 1) := dall dgX12_cut_183 1 rfl
theorem dX12_cut_78 : decode cX12_cut 78 = .ok (.getfield 63, 3) := dall dgX12_cut_183 2 rfl
theorem dX12_cut_81 : decode cX12_cut 81 = .ok (.iload_n 3, 1) := dall dgX12_cut_183 3 rfl
theorem dX12_cut_82 : decode cX12_cut 82 = .ok (.iaload, 1) := dall dgX12_cut_183 4 rfl
theorem dX12_cut_83 : decode cX12_cut 83 = .ok (.if_icmp .gt 19, 3) := dall dgX12_cut_183 5 rfl
theorem dX12_cut_86 : decode cX12_cut 86 = .ok (.aload_n 0, 1) := dall dgX12_cut_183 6 rfl
theorem dX12_cut_87 : decode cX12_cut 87 = .ok (.getfield 63, 3) := dall dgX12_cut_183 7 rfl
theorem dX12_cut_90 : decode cX12_cut 90 = .ok (.iload_n 3, 1) := dall dgX12_cut_183 8 rfl
theorem dX12_cut_91 : decode cX12_cut 91 = .ok (.iload 5, 2) := dall dgX12_cut_183 9 rfl
theorem dX12_cut_93 : decode cX12_cut 93 = .ok (.iastore, 1) := dall dgX12_cut_183 10 rfl
theorem dX12_cut_94 : decode cX12_cut 94 = .ok (.aload_n 0, 1) := dall dgX12_cut_183 11 rfl
theorem dX12_cut_95 : decode cX12_cut 95 = .ok (.getfield 66, 3) := dall dgX12_cut_183 12 rfl
theorem dX12_cut_98 : decode cX12_cut 98 = .ok (.iload_n 3, 1) := dall dgX12_cut_183 13 rfl
theorem dX12_cut_99 : decode cX12_cut 99 = .ok (.iload 4, 2) := dall dgX12_cut_183 14 rfl
theorem dX12_cut_101 : decode cX12_cut 101 = .ok (.iastore, 1) := dall dgX12_cut_183 15 rfl
theorem dX12_cut_102 : decode cX12_cut 102 = .ok (.iinc 4 1, 3) := dall dgX12_cut_183 16 rfl
theorem dX12_cut_105 : decode cX12_cut 105 = .ok (.goto (-79), 3) := dall dgX12_cut_183 17 rfl
theorem dX12_cut_108 : decode cX12_cut 108 = .ok (.iinc 3 (-1), 3) := dall dgX12_cut_183 18 rfl
theorem dX12_cut_111 : decode cX12_cut 111 = .ok (.goto (-100), 3) := dall dgX12_cut_183 19 rfl
theorem dX12_cut_114 : decode cX12_cut 114 = .ok (.aload_n 0, 1) := dall dgX12_cut_183 20 rfl
theorem dX12_cut_115 : decode cX12_cut 115 = .ok (.dup, 1) := dall dgX12_cut_183 21 rfl
theorem dX12_cut_116 : decode cX12_cut 116 = .ok (.getfield 188, 3) := dall dgX12_cut_183 22 rfl
theorem dX12_cut_119 : decode cX12_cut 119 = .ok (.aload_n 0, 1) := dall dgX12_cut_183 23 rfl
theorem dX12_cut_120 : decode cX12_cut 120 = .ok (.getfield 63, 3) := dall dgX12_cut_183 24 rfl
theorem dX12_cut_123 : decode cX12_cut 123 = .ok (.iload_n 1, 1) := dall dgX12_cut_183 25 rfl
theorem dX12_cut_124 : decode cX12_cut 124 = .ok (.iaload, 1) := dall dgX12_cut_183 26 rfl
theorem dX12_cut_125 : decode cX12_cut 125 = .ok (.iadd, 1) := dall dgX12_cut_183 27 rfl
theorem dX12_cut_126 : decode cX12_cut 126 = .ok (.putfield 188, 3) := dall dgX12_cut_183 28 rfl
theorem dX12_cut_129 : decode cX12_cut 129 = .ok (.iload_n 1, 1) := dall dgX12_cut_183 29 rfl
theorem dX12_cut_130 : decode cX12_cut 130 = .ok (.istore_n 3, 1) := dall dgX12_cut_183 30 rfl
theorem dX12_cut_131 : decode cX12_cut 131 = .ok (.iload_n 3, 1) := dall dgX12_cut_183 31 rfl
theorem dX12_cut_132 : decode cX12_cut 132 = .ok (.iload_n 2, 1) := dall dgX12_cut_183 32 rfl
theorem dX12_cut_133 : decode cX12_cut 133 = .ok (.if_icmp .gt 143, 3) := dall dgX12_cut_183 33 rfl
theorem dX12_cut_136 : decode cX12_cut 136 = .ok (.aload_n 0, 1) := dall dgX12_cut_183 34 rfl
theorem dX12_cut_137 : decode cX12_cut 137 = .ok (.getfield 39, 3) := dall dgX12_cut_183 35 rfl
theorem dX12_cut_140 : decode cX12_cut 140 = .ok (.aload_n 0, 1) := dall dgX12_cut_183 36 rfl
theorem dX12_cut_141 : decode cX12_cut 141 = .ok (.getfield 191, 3) := dall dgX12_cut_183 37 rfl
theorem dX12_cut_144 : decode cX12_cut 144 = .ok (.iload_n 3, 1) := dall dgX12_cut_183 38 rfl
theorem dX12_cut_145 : decode cX12_cut 145 = .ok (.iastore, 1) := dall dgX12_cut_183 39 rfl
theorem dX12_cut_146 : decode cX12_cut 146 = .ok (.aload_n 0, 1) := dall dgX12_cut_183 40 rfl
theorem dX12_cut_147 : decode cX12_cut 147 = .ok (.getfield 42, 3) := dall dgX12_cut_183 41 rfl
theorem dX12_cut_150 : decode cX12_cut 150 = .ok (.aload_n 0, 1) := dall dgX12_cut_183 42 rfl
theorem dX12_cut_151 : decode cX12_cut 151 = .ok (.getfield 191, 3) := dall dgX12_cut_183 43 rfl
theorem dX12_cut_154 : decode cX12_cut 154 = .ok (.aload_n 0, 1) := dall dgX12_cut_183 44 rfl
theorem dX12_cut_155 : decode cX12_cut 155 = .ok (.getfield 66, 3) := dall dgX12_cut_183 45 rfl
theorem dX12_cut_158 : decode cX12_cut 158 = .ok (.iload_n 3, 1) := dall dgX12_cut_183 46 rfl
theorem dX12_cut_159 : decode cX12_cut 159 = .ok (.iaload, 1) := dall dgX12_cut_183 47 rfl
theorem dX12_cut_160 : decode cX12_cut 160 = .ok (.iastore, 1) := dall dgX12_cut_183 48 rfl
theorem dX12_cut_161 : decode cX12_cut 161 = .ok (.aload_n 0, 1) := dall dgX12_cut_183 49 rfl
def lgX12_cut_184 : List (Nat × Instr × Nat) := [(162, .iload_n 3, 1), (163, .aload_n 0, 1), (164, .getfield 66, 3), (167, .iload_n 3, 1), (168, .iaload, 1), (169, .invokevirtual 184, 3), (172, .aload_n 0, 1), (173, .getfield 51, 3), (176, .aload_n 0, 1), (177, .getfield 191, 3), (180, .aload_n 0, 1), (181, .getfield 178, 3), (184, .iastore, 1), (185, .iconst 0, 1), (186, .istore 4, 2), (188, .iload 4, 2), (190, .iconst 4, 1), (191, .if_icmp .ge 30, 3), (194, .aload_n 0, 1), (195, .getfield 48, 3), (198, .iconst 4, 1), (199, .aload_n 0, 1), (200, .getfield 191, 3), (203, .imul, 1), (204, .iload 4, 2), (206, .iadd, 1), (207, .aload_n 0, 1), (208, .getfield 57, 3), (211, .iload 4, 2), (213, .iaload, 1), (214, .iastore, 1), (215, .iinc 4 1, 3), (218, .goto (-30), 3), (221, .iload_n 3, 1), (222, .istore 4, 2), (224, .iload 4, 2), (226, .iload_n 3, 1), (227, .aload_n 0, 1), (228, .getfield 66, 3), (231, .iload_n 3, 1), (232, .iaload, 1), (233, .iadd, 1), (234, .if_icmp .ge 20, 3), (237, .aload_n 0, 1), (238, .getfield 45, 3), (241, .iload 4, 2), (243, .aload_n 0, 1), (244, .getfield 191, 3), (247, .iastore, 1), (248, .iinc 4 1, 3)]
theorem dgX12_cut_184 : ∀ q ∈ lgX12_cut_184, decode cX12_cut q.1 = .ok (q.2.1, q.2.2) := by decide +kernel
theorem dX12_cut_162 : decode cX12_cut 162 = .ok (.iload_n 3, 1) := dall dgX12_cut_184 0 rfl
theorem dX12_cut_163 : decode cX12_cut 163 = .ok (.aload_n 0, 1) := dall dgX12_cut_184 1 rfl
theorem dX12_cut_164 : decode cX12_cut 164 = .ok (.getfield 66, 3) := dall dgX12_cut_184 2 rfl
theorem dX12_cut_167 : decode cX12_cut 167 = .ok (.iload_n 3, 1) := dall dgX12_cut_184 3 rfl
theorem dX12_cut_168 : decode cX12_cut 168 = .ok (.iaload, 1) := dall dgX12_cut_184 4 rfl
theorem dX12_cut_169 : decode cX12_cut 169 = .ok (.invokevirtual 184, 3) := dall dgX12_cut_184 5 rfl
theorem dX12_cut_172 : decode cX12_cut 172 = .ok (.aload_n 0, 1) := dall dgX12_cut_184 6 rfl
theorem dX12_cut_173 : decode cX12_cut 173 = .ok (.getfield 51, 3) := dall dgX12_cut_184 7 rfl
theorem dX12_cut_176 : decode cX12_cut 176 = .ok (.aload_n 0, 1) := dall dgX12_cut_184 8 rfl
theorem dX12_cut_177 : decode cX12_cut 177 = .ok (.getfield 191, 3) := dall dgX12_cut_184 9 rfl
theorem dX12_cut_180 : decode cX12_cut 180 = .ok (.aload_n 0, 1) := dall dgX12_cut_184 10 rfl
theorem dX12_cut_181 : decode cX12_cut 181 = .ok (.getfield 178, 3) := dall dgX12_cut_184 11 rfl
theorem dX12_cut_184 : decode cX12_cut 184 = .ok (.iastore, 1) := dall dgX12_cut_184 12 rfl
theorem dX12_cut_185 : decode cX12_cut 185 = .ok (.iconst 0, 1) := dall dgX12_cut_184 13 rfl
theorem dX12_cut_186 : decode cX12_cut 186 = .ok (.istore 4, 2) := dall dgX12_cut_184 14 rfl
theorem dX12_cut_188 : decode cX12_cut 188 = .ok (.iload 4, 2) := dall dgX12_cut_184 15 rfl
theorem dX12_cut_190 : decode cX12_cut 190 = .ok (.iconst 4, 1) := dall dgX12_cut_184 16 rfl
theorem dX12_cut_191 : decode cX12_cut 191 = .ok (.if_icmp .ge 30, 3) := dall dgX12_cut_184 17 rfl
theorem dX12_cut_194 : decode cX12_cut 194 = .ok (.aload_n 0, 1) := dall dgX12_cut_184 18 rfl
theorem dX12_cut_195 : decode cX12_cut 195 = .ok (.getfield 48, 3) := dall dgX12_cut_184 19 rfl
theorem dX12_cut_198 : decode cX12_cut 198 = .ok (.iconst 4, 1) := dall dgX12_cut_184 20 rfl
theorem dX12_cut_199 : decode cX12_cut 199 = .ok (.aload_n 0, 1) := dall dgX12_cut_184 21 rfl
theorem dX12_cut_200 : decode cX12_cut 200 = .ok (.getfield 191, 3) := dall dgX12_cut_184 22 rfl
theorem dX12_cut_203 : decode cX12_cut 203 = .ok (.imul, 1) := dall dgX12_cut_184 23 rfl
theorem dX12_cut_204 : decode cX12_cut 204 = .ok (.iload 4, 2) := dall dgX12_cut_184 24 rfl
theorem dX12_cut_206 : decode cX12_cut 206 = .ok (.iadd, 1) := dall dgX12_cut_184 25 rfl
theorem dX12_cut_207 : decode cX12_cut 207 = .ok (.aload_n 0, 1) := dall dgX12_cut_184 26 rfl
theorem dX12_cut_208 : decode cX12_cut 208 = .ok (.getfield 57, 3) := dall dgX12_cut_184 27 rfl
theorem dX12_cut_211 : decode cX12_cut 211 = .ok (.iload 4, 2) := dall dgX12_cut_184 28 rfl
theorem dX12_cut_213 : decode cX12_cut 213 = .ok (.iaload, 1) := dall dgX12_cut_184 29 rfl
theorem dX12_cut_214 : decode cX12_cut 214 = .ok (.iastore, 1) := dall dgX12_cut_184 30 rfl
theorem dX12_cut_215 : decode cX12_cut 215 = .ok (.iinc 4 1, 3) := dall dgX12_cut_184 31 rfl
theorem dX12_cut_218 : decode cX12_cut 218 = .ok (.goto (-30), 3) := dall dgX12_cut_184 32 rfl
theorem dX12_cut_221 : decode cX12_cut 221 = .ok (.iload_n 3, 1) := dall dgX12_cut_184 33 rfl
theorem dX12_cut_222 : decode cX12_cut 222 = .ok (.istore 4, 2) := dall dgX12_cut_184 34 rfl
theorem dX12_cut_224 : decode cX12_cut 224 = .ok (.iload 4, 2) := dall dgX12_cut_184 35 rfl
theorem dX12_cut_226 : decode cX12_cut 226 = .ok (.iload_n 3, 1) := dall dgX12_cut_184 36 rfl
theorem dX12_cut_227 : decode cX12_cut 227 = .ok (.aload_n 0, 1) := dall dgX12_cut_184 37 rfl
theorem dX12_cut_228 : decode cX12_cut 228 = .ok (.getfield 66, 3) := dall dgX12_cut_184 38 rfl
theorem dX12_cut_231 : decode cX12_cut 231 = .ok (.iload_n 3, 1) := dall dgX12_cut_184 39 rfl
theorem dX12_cut_232 : decode cX12_cut 232 = .ok (.iaload, 1) := dall dgX12_cut_184 40 rfl
theorem dX12_cut_233 : decode cX12_cut 233 = .ok (.iadd, 1) := dall dgX12_cut_184 41 rfl
theorem dX12_cut_234 : decode cX12_cut 234 = .ok (.if_icmp .ge 20, 3) := dall dgX12_cut_184 42 rfl
theorem dX12_cut_237 : decode cX12_cut 237 = .ok (.aload_n 0, 1) := dall dgX12_cut_184 43 rfl
theorem dX12_cut_238 : decode cX12_cut 238 = .ok (.getfield 45, 3) := dall dgX12_cut_184 44 rfl
theorem dX12_cut_241 : decode cX12_cut 241 = .ok (.iload 4, 2) := dall dgX12_cut_184 45 rfl
theorem dX12_cut_243 : decode cX12_cut 243 = .ok (.aload_n 0, 1) := dall dgX12_cut_184 46 rfl
theorem dX12_cut_244 : decode cX12_cut 244 = .ok (.getfield 191, 3) := dall dgX12_cut_184 47 rfl
theorem dX12_cut_247 : decode cX12_cut 247 = .ok (.iastore, 1) := dall dgX12_cut_184 48 rfl
theorem dX12_cut_248 : decode cX12_cut 248 = .ok (.iinc 4 1, 3) := dall dgX12_cut_184 49 rfl
def lgX12_cut_185 : List (Nat × Instr × Nat) := [(251, .goto (-27), 3), (254, .aload_n 0, 1), (255, .dup, 1), (256, .getfield 191, 3), (259, .iconst 1, 1), (260, .iadd, 1), (261, .putfield 191, 3), (264, .iload_n 3, 1), (265, .aload_n 0, 1), (266, .getfield 66, 3), (269, .iload_n 3, 1), (270, .iaload, 1), (271, .iadd, 1), (272, .istore_n 3, 1), (273, .goto (-142), 3), (276, .return_, 1)]
theorem dgX12_cut_185 : ∀ q ∈ lgX12_cut_185, decode cX12_cut q.1 = .ok (q.2.1, q.2.2) := by decide +kernel
theorem dX12_cut_251 : decode cX12_cut 251 = .ok (.goto (-27), 3) := dall dgX12_cut_185 0 rfl
theorem dX12_cut_254 : decode cX12_cut 254 = .ok (.aload_n 0, 1) := dall dgX12_cut_185 1 rfl
theorem dX12_cut_255 : decode cX12_cut 255 = .ok (.dup, 1) := dall dgX12_cut_185 2 rfl
theorem dX12_cut_256 : decode cX12_cut 256 = .ok (.getfield 191, 3) := dall dgX12_cut_185 3 rfl
theorem dX12_cut_259 : decode cX12_cut 259 = .ok (.iconst 1, 1) := dall dgX12_cut_185 4 rfl
theorem dX12_cut_260 : decode cX12_cut 260 = .ok (.iadd, 1) := dall dgX12_cut_185 5 rfl
theorem dX12_cut_261 : decode cX12_cut 261 = .ok (.putfield 191, 3) := dall dgX12_cut_185 6 rfl
theorem dX12_cut_264 : decode cX12_cut 264 = .ok (.iload_n 3, 1) := dall dgX12_cut_185 7 rfl
theorem dX12_cut_265 : decode cX12_cut 265 = .ok (.aload_n 0, 1) := dall dgX12_cut_185 8 rfl
theorem dX12_cut_266 : decode cX12_cut 266 = .ok (.getfield 66, 3) := dall dgX12_cut_185 9 rfl
theorem dX12_cut_269 : decode cX12_cut 269 = .ok (.iload_n 3, 1) := dall dgX12_cut_185 10 rfl
theorem dX12_cut_270 : decode cX12_cut 270 = .ok (.iaload, 1) := dall dgX12_cut_185 11 rfl
theorem dX12_cut_271 : decode cX12_cut 271 = .ok (.iadd, 1) := dall dgX12_cut_185 12 rfl
theorem dX12_cut_272 : decode cX12_cut 272 = .ok (.istore_n 3, 1) := dall dgX12_cut_185 13 rfl
theorem dX12_cut_273 : decode cX12_cut 273 = .ok (.goto (-142), 3) := dall dgX12_cut_185 14 rfl
theorem dX12_cut_276 : decode cX12_cut 276 = .ok (.return_, 1) := dall dgX12_cut_185 15 rfl
def lgX12_findPieces_186 : List (Nat × Instr × Nat) := [(0, .aload_n 0, 1), (1, .iconst 0, 1), (2, .putfield 191, 3), (5, .aload_n 0, 1), (6, .iconst 0, 1), (7, .putfield 194, 3), (10, .aload_n 0, 1), (11, .iconst 0, 1), (12, .putfield 188, 3), (15, .iconst 0, 1), (16, .istore_n 1, 1), (17, .iload_n 1, 1), (18, .aload_n 0, 1), (19, .getfield 156, 3), (22, .if_icmp .ge 74, 3), (25, .aload_n 0, 1), (26, .iload_n 1, 1), (27, .invokevirtual 197, 3), (30, .ifCond .eq 52, 3), (33, .iload_n 1, 1), (34, .istore_n 2, 1), (35, .iload_n 2, 1), (36, .iconst 1, 1), (37, .iadd, 1), (38, .aload_n 0, 1), (39, .getfield 156, 3), (42, .if_icmp .ge 19, 3), (45, .aload_n 0, 1), (46, .iload_n 2, 1), (47, .iconst 1, 1), (48, .iadd, 1), (49, .invokevirtual 197, 3), (52, .ifCond .eq 9, 3), (55, .iinc 2 1, 3), (58, .goto (-23), 3), (61, .aload_n 0, 1), (62, .dup, 1), (63, .getfield 194, 3), (66, .iconst 1, 1), (67, .iadd, 1), (68, .putfield 194, 3), (71, .aload_n 0, 1), (72, .iload_n 1, 1), (73, .iload_n 2, 1), (74, .invokevirtual 200, 3), (77, .iload_n 2, 1), (78, .istore_n 1, 1), (79, .goto 11, 3), (82, .aload_n 0, 1), (83, .getfield 45, 3)]
theorem dgX12_findPieces_186 : ∀ q ∈ lgX12_findPieces_186, decode cX12_findPieces q.1 = .ok (q.2.1, q.2.2) := by decide +kernel
theorem dX12_findPieces_0 : decode cX12_findPieces 0 = .ok (.aload_n 0, 1) := dall dgX12_findPieces_186 0 rfl
theorem dX12_findPieces_1 : decode cX12_findPieces 1 = .ok (.iconst 0, 1) := dall dgX12_findPieces_186 1 rfl
theorem dX12_findPieces_2 : decode cX12_findPieces 2 = .ok (.putfield 191, 3) := dall dgX12_findPieces_186 2 rfl
theorem dX12_findPieces_5 : decode cX12_findPieces 5 = .ok (.aload_n 0, 1) := dall dgX12_findPieces_186 3 rfl
theorem dX12_findPieces_6 : decode cX12_findPieces 6 = .ok (.iconst 0, 1) := dall dgX12_findPieces_186 4 rfl
theorem dX12_findPieces_7 : decode cX12_findPieces 7 = .ok (.putfield 194, 3) := dall dgX12_findPieces_186 5 rfl
theorem dX12_findPieces_10 : decode cX12_findPieces 10 = .ok (.aload_n 0, 1) := dall dgX12_findPieces_186 6 rfl
theorem dX12_findPieces_11 : decode cX12_findPieces 11 = .ok (.iconst 0, 1) := dall dgX12_findPieces_186 7 rfl
theorem dX12_findPieces_12 : decode cX12_findPieces 12 = .ok (.putfield 188, 3) := dall dgX12_findPieces_186 8 rfl
theorem dX12_findPieces_15 : decode cX12_findPieces 15 = .ok (.iconst 0, 1) := dall dgX12_findPieces_186 9 rfl
theorem dX12_findPieces_16 : decode cX12_findPieces 16 = .ok (.istore_n 1, 1) := dall dgX12_findPieces_186 10 rfl
theorem dX12_findPieces_17 : decode cX12_findPieces 17 = .ok (.iload_n 1, 1) := dall dgX12_findPieces_186 11 rfl
theorem dX12_findPieces_18 : decode cX12_findPieces 18 = .ok (.aload_n 0, 1) := dall dgX12_findPieces_186 12 rfl
theorem dX12_findPieces_19 : decode cX12_findPieces 19 = .ok (.getfield 156, 3) := dall dgX12_findPieces_186 13 rfl
theorem dX12_findPieces_22 : decode cX12_findPieces 22 = .ok (.if_icmp .ge 74, 3) := dall dgX12_findPieces_186 14 rfl
theorem dX12_findPieces_25 : decode cX12_findPieces 25 = .ok (.aload_n 0, 1) := dall dgX12_findPieces_186 15 rfl
theorem dX12_findPieces_26 : decode cX12_findPieces 26 = .ok (.iload_n 1, 1) := dall dgX12_findPieces_186 16 rfl
theorem dX12_findPieces_27 : decode cX12_findPieces 27 = .ok (.invokevirtual 197, 3) := dall dgX12_findPieces_186 17 rfl
theorem dX12_findPieces_30 : decode cX12_findPieces 30 = .ok (.ifCond .eq 52, 3) := dall dgX12_findPieces_186 18 rfl
theorem dX12_findPieces_33 : decode cX12_findPieces 33 = .ok (.iload_n 1, 1) := dall dgX12_findPieces_186 19 rfl
theorem dX12_findPieces_34 : decode cX12_findPieces 34 = .ok (.istore_n 2, 1) := dall dgX12_findPieces_186 20 rfl
theorem dX12_findPieces_35 : decode cX12_findPieces 35 = .ok (.iload_n 2, 1) := dall dgX12_findPieces_186 21 rfl
theorem dX12_findPieces_36 : decode cX12_findPieces 36 = .ok (.iconst 1, 1) := dall dgX12_findPieces_186 22 rfl
theorem dX12_findPieces_37 : decode cX12_findPieces 37 = .ok (.iadd, 1) := dall dgX12_findPieces_186 23 rfl
theorem dX12_findPieces_38 : decode cX12_findPieces 38 = .ok (.aload_n 0, 1) := dall dgX12_findPieces_186 24 rfl
theorem dX12_findPieces_39 : decode cX12_findPieces 39 = .ok (.getfield 156, 3) := dall dgX12_findPieces_186 25 rfl
theorem dX12_findPieces_42 : decode cX12_findPieces 42 = .ok (.if_icmp .ge 19, 3) := dall dgX12_findPieces_186 26 rfl
theorem dX12_findPieces_45 : decode cX12_findPieces 45 = .ok (.aload_n 0, 1) := dall dgX12_findPieces_186 27 rfl
theorem dX12_findPieces_46 : decode cX12_findPieces 46 = .ok (.iload_n 2, 1) := dall dgX12_findPieces_186 28 rfl
theorem dX12_findPieces_47 : decode cX12_findPieces 47 = .ok (.iconst 1, 1) := dall dgX12_findPieces_186 29 rfl
theorem dX12_findPieces_48 : decode cX12_findPieces 48 = .ok (.iadd, 1) := dall dgX12_findPieces_186 30 rfl
theorem dX12_findPieces_49 : decode cX12_findPieces 49 = .ok (.invokevirtual 197, 3) := dall dgX12_findPieces_186 31 rfl
theorem dX12_findPieces_52 : decode cX12_findPieces 52 = .ok (.ifCond .eq 9, 3) := dall dgX12_findPieces_186 32 rfl
theorem dX12_findPieces_55 : decode cX12_findPieces 55 = .ok (.iinc 2 1, 3) := dall dgX12_findPieces_186 33 rfl
theorem dX12_findPieces_58 : decode cX12_findPieces 58 = .ok (.goto (-23), 3) := dall dgX12_findPieces_186 34 rfl
theorem dX12_findPieces_61 : decode cX12_findPieces 61 = .ok (.aload_n 0, 1) := dall dgX12_findPieces_186 35 rfl
theorem dX12_findPieces_62 : decode cX12_findPieces 62 = .ok (.dup, 1) := dall dgX12_findPieces_186 36 rfl
theorem dX12_findPieces_63 : decode cX12_findPieces 63 = .ok (.getfield 194, 3) := dall dgX12_findPieces_186 37 rfl
theorem dX12_findPieces_66 : decode cX12_findPieces 66 = .ok (.iconst 1, 1) := dall dgX12_findPieces_186 38 rfl
theorem dX12_findPieces_67 : decode cX12_findPieces 67 = .ok (.iadd, 1) := dall dgX12_findPieces_186 39 rfl
theorem dX12_findPieces_68 : decode cX12_findPieces 68 = .ok (.putfield 194, 3) := dall dgX12_findPieces_186 40 rfl
theorem dX12_findPieces_71 : decode cX12_findPieces 71 = .ok (.aload_n 0, 1) := dall dgX12_findPieces_186 41 rfl
theorem dX12_findPieces_72 : decode cX12_findPieces 72 = .ok (.iload_n 1, 1) := dall dgX12_findPieces_186 42 rfl
theorem dX12_findPieces_73 : decode cX12_findPieces 73 = .ok (.iload_n 2, 1) := dall dgX12_findPieces_186 43 rfl
theorem dX12_findPieces_74 : decode cX12_findPieces 74 = .ok (.invokevirtual 200, 3) := dall dgX12_findPieces_186 44 rfl
theorem dX12_findPieces_77 : decode cX12_findPieces 77 = .ok (.iload_n 2, 1) := dall dgX12_findPieces_186 45 rfl
theorem dX12_findPieces_78 : decode cX12_findPieces 78 = .ok (.istore_n 1, 1) := dall dgX12_findPieces_186 46 rfl
theorem dX12_findPieces_79 : decode cX12_findPieces 79 = .ok (.goto 11, 3) := dall dgX12_findPieces_186 47 rfl
theorem dX12_findPieces_82 : decode cX12_findPieces 82 = .ok (.aload_n 0, 1) := dall dgX12_findPieces_186 48 rfl
theorem dX12_findPieces_83 : decode cX12_findPieces 83 = .ok (.getfield 45, 3) := dall dgX12_findPieces_186 49 rfl
def lgX12_findPieces_187 : List (Nat × Instr × Nat) := [(86, .iload_n 1, 1), (87, .bipush (-9), 2), (89, .iastore, 1), (90, .iinc 1 1, 3), (93, .goto (-76), 3), (96, .return_, 1)]
theorem dgX12_findPieces_187 : ∀ q ∈ lgX12_findPieces_187, decode cX12_findPieces q.1 = .ok (q.2.1, q.2.2) := by decide +kernel
theorem dX12_findPieces_86 : decode cX12_findPieces 86 = .ok (.iload_n 1, 1) := dall dgX12_findPieces_187 0 rfl
theorem dX12_findPieces_87 : decode cX12_findPieces 87 = .ok (.bipush (-9), 2) := dall dgX12_findPieces_187 1 rfl
theorem dX12_findPieces_89 : decode cX12_findPieces 89 = .ok (.iastore, 1) := dall dgX12_findPieces_187 2 rfl
theorem dX12_findPieces_90 : decode cX12_findPieces 90 = .ok (.iinc 1 1, 3) := dall dgX12_findPieces_187 3 rfl
theorem dX12_findPieces_93 : decode cX12_findPieces 93 = .ok (.goto (-76), 3) := dall dgX12_findPieces_187 4 rfl
theorem dX12_findPieces_96 : decode cX12_findPieces 96 = .ok (.return_, 1) := dall dgX12_findPieces_187 5 rfl
def lgX12_pieces_188 : List (Nat × Instr × Nat) := [(0, .iload_n 1, 1), (1, .iconst 0, 1), (2, .iconst 3, 1), (3, .invokestatic 100, 3), (6, .ifCond .ne 5, 3), (9, .iconst (-1), 1), (10, .ireturn, 1), (11, .aload_n 0, 1), (12, .invokevirtual 203, 3), (15, .iconst 0, 1), (16, .istore_n 2, 1), (17, .iconst 0, 1), (18, .istore_n 3, 1), (19, .iload_n 3, 1), (20, .aload_n 0, 1), (21, .getfield 156, 3), (24, .if_icmp .ge 25, 3), (27, .iload_n 2, 1), (28, .aload_n 0, 1), (29, .iload_n 3, 1), (30, .invokevirtual 197, 3), (33, .ifCond .eq 7, 3), (36, .iconst 1, 1), (37, .goto 4, 3), (40, .iconst 0, 1), (41, .iadd, 1), (42, .istore_n 2, 1), (43, .iinc 3 1, 3), (46, .goto (-27), 3), (49, .iload_n 1, 1), (50, .ifCond .ne 10, 3), (53, .aload_n 0, 1), (54, .getfield 191, 3), (57, .goto 28, 3), (60, .iload_n 1, 1), (61, .iconst 1, 1), (62, .if_icmp .ne 10, 3), (65, .aload_n 0, 1), (66, .getfield 194, 3), (69, .goto 16, 3), (72, .iload_n 1, 1), (73, .iconst 2, 1), (74, .if_icmp .ne 10, 3), (77, .aload_n 0, 1), (78, .getfield 188, 3), (81, .goto 4, 3), (84, .iload_n 2, 1), (85, .ireturn, 1)]
theorem dgX12_pieces_188 : ∀ q ∈ lgX12_pieces_188, decode cX12_pieces q.1 = .ok (q.2.1, q.2.2) := by decide +kernel
theorem dX12_pieces_0 : decode cX12_pieces 0 = .ok (.iload_n 1, 1) := dall dgX12_pieces_188 0 rfl
theorem dX12_pieces_1 : decode cX12_pieces 1 = .ok (.iconst 0, 1) := dall dgX12_pieces_188 1 rfl
theorem dX12_pieces_2 : decode cX12_pieces 2 = .ok (.iconst 3, 1) := dall dgX12_pieces_188 2 rfl
theorem dX12_pieces_3 : decode cX12_pieces 3 = .ok (.invokestatic 100, 3) := dall dgX12_pieces_188 3 rfl
theorem dX12_pieces_6 : decode cX12_pieces 6 = .ok (.ifCond .ne 5, 3) := dall dgX12_pieces_188 4 rfl
theorem dX12_pieces_9 : decode cX12_pieces 9 = .ok (.iconst (-1), 1) := dall dgX12_pieces_188 5 rfl
theorem dX12_pieces_10 : decode cX12_pieces 10 = .ok (.ireturn, 1) := dall dgX12_pieces_188 6 rfl
theorem dX12_pieces_11 : decode cX12_pieces 11 = .ok (.aload_n 0, 1) := dall dgX12_pieces_188 7 rfl
theorem dX12_pieces_12 : decode cX12_pieces 12 = .ok (.invokevirtual 203, 3) := dall dgX12_pieces_188 8 rfl
theorem dX12_pieces_15 : decode cX12_pieces 15 = .ok (.iconst 0, 1) := dall dgX12_pieces_188 9 rfl
theorem dX12_pieces_16 : decode cX12_pieces 16 = .ok (.istore_n 2, 1) := dall dgX12_pieces_188 10 rfl
theorem dX12_pieces_17 : decode cX12_pieces 17 = .ok (.iconst 0, 1) := dall dgX12_pieces_188 11 rfl
theorem dX12_pieces_18 : decode cX12_pieces 18 = .ok (.istore_n 3, 1) := dall dgX12_pieces_188 12 rfl
theorem dX12_pieces_19 : decode cX12_pieces 19 = .ok (.iload_n 3, 1) := dall dgX12_pieces_188 13 rfl
theorem dX12_pieces_20 : decode cX12_pieces 20 = .ok (.aload_n 0, 1) := dall dgX12_pieces_188 14 rfl
theorem dX12_pieces_21 : decode cX12_pieces 21 = .ok (.getfield 156, 3) := dall dgX12_pieces_188 15 rfl
theorem dX12_pieces_24 : decode cX12_pieces 24 = .ok (.if_icmp .ge 25, 3) := dall dgX12_pieces_188 16 rfl
theorem dX12_pieces_27 : decode cX12_pieces 27 = .ok (.iload_n 2, 1) := dall dgX12_pieces_188 17 rfl
theorem dX12_pieces_28 : decode cX12_pieces 28 = .ok (.aload_n 0, 1) := dall dgX12_pieces_188 18 rfl
theorem dX12_pieces_29 : decode cX12_pieces 29 = .ok (.iload_n 3, 1) := dall dgX12_pieces_188 19 rfl
theorem dX12_pieces_30 : decode cX12_pieces 30 = .ok (.invokevirtual 197, 3) := dall dgX12_pieces_188 20 rfl
theorem dX12_pieces_33 : decode cX12_pieces 33 = .ok (.ifCond .eq 7, 3) := dall dgX12_pieces_188 21 rfl
theorem dX12_pieces_36 : decode cX12_pieces 36 = .ok (.iconst 1, 1) := dall dgX12_pieces_188 22 rfl
theorem dX12_pieces_37 : decode cX12_pieces 37 = .ok (.goto 4, 3) := dall dgX12_pieces_188 23 rfl
theorem dX12_pieces_40 : decode cX12_pieces 40 = .ok (.iconst 0, 1) := dall dgX12_pieces_188 24 rfl
theorem dX12_pieces_41 : decode cX12_pieces 41 = .ok (.iadd, 1) := dall dgX12_pieces_188 25 rfl
theorem dX12_pieces_42 : decode cX12_pieces 42 = .ok (.istore_n 2, 1) := dall dgX12_pieces_188 26 rfl
theorem dX12_pieces_43 : decode cX12_pieces 43 = .ok (.iinc 3 1, 3) := dall dgX12_pieces_188 27 rfl
theorem dX12_pieces_46 : decode cX12_pieces 46 = .ok (.goto (-27), 3) := dall dgX12_pieces_188 28 rfl
theorem dX12_pieces_49 : decode cX12_pieces 49 = .ok (.iload_n 1, 1) := dall dgX12_pieces_188 29 rfl
theorem dX12_pieces_50 : decode cX12_pieces 50 = .ok (.ifCond .ne 10, 3) := dall dgX12_pieces_188 30 rfl
theorem dX12_pieces_53 : decode cX12_pieces 53 = .ok (.aload_n 0, 1) := dall dgX12_pieces_188 31 rfl
theorem dX12_pieces_54 : decode cX12_pieces 54 = .ok (.getfield 191, 3) := dall dgX12_pieces_188 32 rfl
theorem dX12_pieces_57 : decode cX12_pieces 57 = .ok (.goto 28, 3) := dall dgX12_pieces_188 33 rfl
theorem dX12_pieces_60 : decode cX12_pieces 60 = .ok (.iload_n 1, 1) := dall dgX12_pieces_188 34 rfl
theorem dX12_pieces_61 : decode cX12_pieces 61 = .ok (.iconst 1, 1) := dall dgX12_pieces_188 35 rfl
theorem dX12_pieces_62 : decode cX12_pieces 62 = .ok (.if_icmp .ne 10, 3) := dall dgX12_pieces_188 36 rfl
theorem dX12_pieces_65 : decode cX12_pieces 65 = .ok (.aload_n 0, 1) := dall dgX12_pieces_188 37 rfl
theorem dX12_pieces_66 : decode cX12_pieces 66 = .ok (.getfield 194, 3) := dall dgX12_pieces_188 38 rfl
theorem dX12_pieces_69 : decode cX12_pieces 69 = .ok (.goto 16, 3) := dall dgX12_pieces_188 39 rfl
theorem dX12_pieces_72 : decode cX12_pieces 72 = .ok (.iload_n 1, 1) := dall dgX12_pieces_188 40 rfl
theorem dX12_pieces_73 : decode cX12_pieces 73 = .ok (.iconst 2, 1) := dall dgX12_pieces_188 41 rfl
theorem dX12_pieces_74 : decode cX12_pieces 74 = .ok (.if_icmp .ne 10, 3) := dall dgX12_pieces_188 42 rfl
theorem dX12_pieces_77 : decode cX12_pieces 77 = .ok (.aload_n 0, 1) := dall dgX12_pieces_188 43 rfl
theorem dX12_pieces_78 : decode cX12_pieces 78 = .ok (.getfield 188, 3) := dall dgX12_pieces_188 44 rfl
theorem dX12_pieces_81 : decode cX12_pieces 81 = .ok (.goto 4, 3) := dall dgX12_pieces_188 45 rfl
theorem dX12_pieces_84 : decode cX12_pieces 84 = .ok (.iload_n 2, 1) := dall dgX12_pieces_188 46 rfl
theorem dX12_pieces_85 : decode cX12_pieces 85 = .ok (.ireturn, 1) := dall dgX12_pieces_188 47 rfl
def lgX12_isPiece_189 : List (Nat × Instr × Nat) := [(0, .iload_n 1, 1), (1, .iconst 0, 1), (2, .aload_n 0, 1), (3, .getfield 191, 3), (6, .iconst 1, 1), (7, .isub, 1), (8, .invokestatic 100, 3), (11, .ireturn, 1)]
theorem dgX12_isPiece_189 : ∀ q ∈ lgX12_isPiece_189, decode cX12_isPiece q.1 = .ok (q.2.1, q.2.2) := by decide +kernel
theorem dX12_isPiece_0 : decode cX12_isPiece 0 = .ok (.iload_n 1, 1) := dall dgX12_isPiece_189 0 rfl
theorem dX12_isPiece_1 : decode cX12_isPiece 1 = .ok (.iconst 0, 1) := dall dgX12_isPiece_189 1 rfl
theorem dX12_isPiece_2 : decode cX12_isPiece 2 = .ok (.aload_n 0, 1) := dall dgX12_isPiece_189 2 rfl
theorem dX12_isPiece_3 : decode cX12_isPiece 3 = .ok (.getfield 191, 3) := dall dgX12_isPiece_189 3 rfl
theorem dX12_isPiece_6 : decode cX12_isPiece 6 = .ok (.iconst 1, 1) := dall dgX12_isPiece_189 4 rfl
theorem dX12_isPiece_7 : decode cX12_isPiece 7 = .ok (.isub, 1) := dall dgX12_isPiece_189 5 rfl
theorem dX12_isPiece_8 : decode cX12_isPiece 8 = .ok (.invokestatic 100, 3) := dall dgX12_isPiece_189 6 rfl
theorem dX12_isPiece_11 : decode cX12_isPiece 11 = .ok (.ireturn, 1) := dall dgX12_isPiece_189 7 rfl
def lgX12_piece_190 : List (Nat × Instr × Nat) := [(0, .aload_n 0, 1), (1, .invokevirtual 203, 3), (4, .aload_n 0, 1), (5, .iload_n 1, 1), (6, .invokevirtual 206, 3), (9, .ifCond .eq 13, 3), (12, .iload_n 2, 1), (13, .iconst 0, 1), (14, .bipush 6, 2), (16, .invokestatic 100, 3), (19, .ifCond .ne 5, 3), (22, .iconst (-1), 1), (23, .ireturn, 1), (24, .iload_n 2, 1), (25, .ifCond .ne 12, 3), (28, .aload_n 0, 1), (29, .getfield 39, 3), (32, .iload_n 1, 1), (33, .iaload, 1), (34, .goto 43, 3), (37, .iload_n 2, 1), (38, .iconst 1, 1), (39, .if_icmp .ne 12, 3), (42, .aload_n 0, 1), (43, .getfield 42, 3), (46, .iload_n 1, 1), (47, .iaload, 1), (48, .goto 29, 3), (51, .iload_n 2, 1), (52, .iconst 2, 1), (53, .if_icmp .ne 12, 3), (56, .aload_n 0, 1), (57, .getfield 51, 3), (60, .iload_n 1, 1), (61, .iaload, 1), (62, .goto 15, 3), (65, .aload_n 0, 1), (66, .getfield 48, 3), (69, .iconst 4, 1), (70, .iload_n 1, 1), (71, .imul, 1), (72, .iload_n 2, 1), (73, .iadd, 1), (74, .iconst 3, 1), (75, .isub, 1), (76, .iaload, 1), (77, .ireturn, 1)]
theorem dgX12_piece_190 : ∀ q ∈ lgX12_piece_190, decode cX12_piece q.1 = .ok (q.2.1, q.2.2) := by decide +kernel
theorem dX12_piece_0 : decode cX12_piece 0 = .ok (.aload_n 0, 1) := dall dgX12_piece_190 0 rfl
theorem dX12_piece_1 : decode cX12_piece 1 = .ok (.invokevirtual 203, 3) := dall dgX12_piece_190 1 rfl
theorem dX12_piece_4 : decode cX12_piece 4 = .ok (.aload_n 0, 1) := dall dgX12_piece_190 2 rfl
theorem dX12_piece_5 : decode cX12_piece 5 = .ok (.iload_n 1, 1) := dall dgX12_piece_190 3 rfl
theorem dX12_piece_6 : decode cX12_piece 6 = .ok (.invokevirtual 206, 3) := dall dgX12_piece_190 4 rfl
theorem dX12_piece_9 : decode cX12_piece 9 = .ok (.ifCond .eq 13, 3) := dall dgX12_piece_190 5 rfl
theorem dX12_piece_12 : decode cX12_piece 12 = .ok (.iload_n 2, 1) := dall dgX12_piece_190 6 rfl
theorem dX12_piece_13 : decode cX12_piece 13 = .ok (.iconst 0, 1) := dall dgX12_piece_190 7 rfl
theorem dX12_piece_14 : decode cX12_piece 14 = .ok (.bipush 6, 2) := dall dgX12_piece_190 8 rfl
theorem dX12_piece_16 : decode cX12_piece 16 = .ok (.invokestatic 100, 3) := dall dgX12_piece_190 9 rfl
theorem dX12_piece_19 : decode cX12_piece 19 = .ok (.ifCond .ne 5, 3) := dall dgX12_piece_190 10 rfl
theorem dX12_piece_22 : decode cX12_piece 22 = .ok (.iconst (-1), 1) := dall dgX12_piece_190 11 rfl
theorem dX12_piece_23 : decode cX12_piece 23 = .ok (.ireturn, 1) := dall dgX12_piece_190 12 rfl
theorem dX12_piece_24 : decode cX12_piece 24 = .ok (.iload_n 2, 1) := dall dgX12_piece_190 13 rfl
theorem dX12_piece_25 : decode cX12_piece 25 = .ok (.ifCond .ne 12, 3) := dall dgX12_piece_190 14 rfl
theorem dX12_piece_28 : decode cX12_piece 28 = .ok (.aload_n 0, 1) := dall dgX12_piece_190 15 rfl
theorem dX12_piece_29 : decode cX12_piece 29 = .ok (.getfield 39, 3) := dall dgX12_piece_190 16 rfl
theorem dX12_piece_32 : decode cX12_piece 32 = .ok (.iload_n 1, 1) := dall dgX12_piece_190 17 rfl
theorem dX12_piece_33 : decode cX12_piece 33 = .ok (.iaload, 1) := dall dgX12_piece_190 18 rfl
theorem dX12_piece_34 : decode cX12_piece 34 = .ok (.goto 43, 3) := dall dgX12_piece_190 19 rfl
theorem dX12_piece_37 : decode cX12_piece 37 = .ok (.iload_n 2, 1) := dall dgX12_piece_190 20 rfl
theorem dX12_piece_38 : decode cX12_piece 38 = .ok (.iconst 1, 1) := dall dgX12_piece_190 21 rfl
theorem dX12_piece_39 : decode cX12_piece 39 = .ok (.if_icmp .ne 12, 3) := dall dgX12_piece_190 22 rfl
theorem dX12_piece_42 : decode cX12_piece 42 = .ok (.aload_n 0, 1) := dall dgX12_piece_190 23 rfl
theorem dX12_piece_43 : decode cX12_piece 43 = .ok (.getfield 42, 3) := dall dgX12_piece_190 24 rfl
theorem dX12_piece_46 : decode cX12_piece 46 = .ok (.iload_n 1, 1) := dall dgX12_piece_190 25 rfl
theorem dX12_piece_47 : decode cX12_piece 47 = .ok (.iaload, 1) := dall dgX12_piece_190 26 rfl
theorem dX12_piece_48 : decode cX12_piece 48 = .ok (.goto 29, 3) := dall dgX12_piece_190 27 rfl
theorem dX12_piece_51 : decode cX12_piece 51 = .ok (.iload_n 2, 1) := dall dgX12_piece_190 28 rfl
theorem dX12_piece_52 : decode cX12_piece 52 = .ok (.iconst 2, 1) := dall dgX12_piece_190 29 rfl
theorem dX12_piece_53 : decode cX12_piece 53 = .ok (.if_icmp .ne 12, 3) := dall dgX12_piece_190 30 rfl
theorem dX12_piece_56 : decode cX12_piece 56 = .ok (.aload_n 0, 1) := dall dgX12_piece_190 31 rfl
theorem dX12_piece_57 : decode cX12_piece 57 = .ok (.getfield 51, 3) := dall dgX12_piece_190 32 rfl
theorem dX12_piece_60 : decode cX12_piece 60 = .ok (.iload_n 1, 1) := dall dgX12_piece_190 33 rfl
theorem dX12_piece_61 : decode cX12_piece 61 = .ok (.iaload, 1) := dall dgX12_piece_190 34 rfl
theorem dX12_piece_62 : decode cX12_piece 62 = .ok (.goto 15, 3) := dall dgX12_piece_190 35 rfl
theorem dX12_piece_65 : decode cX12_piece 65 = .ok (.aload_n 0, 1) := dall dgX12_piece_190 36 rfl
theorem dX12_piece_66 : decode cX12_piece 66 = .ok (.getfield 48, 3) := dall dgX12_piece_190 37 rfl
theorem dX12_piece_69 : decode cX12_piece 69 = .ok (.iconst 4, 1) := dall dgX12_piece_190 38 rfl
theorem dX12_piece_70 : decode cX12_piece 70 = .ok (.iload_n 1, 1) := dall dgX12_piece_190 39 rfl
theorem dX12_piece_71 : decode cX12_piece 71 = .ok (.imul, 1) := dall dgX12_piece_190 40 rfl
theorem dX12_piece_72 : decode cX12_piece 72 = .ok (.iload_n 2, 1) := dall dgX12_piece_190 41 rfl
theorem dX12_piece_73 : decode cX12_piece 73 = .ok (.iadd, 1) := dall dgX12_piece_190 42 rfl
theorem dX12_piece_74 : decode cX12_piece 74 = .ok (.iconst 3, 1) := dall dgX12_piece_190 43 rfl
theorem dX12_piece_75 : decode cX12_piece 75 = .ok (.isub, 1) := dall dgX12_piece_190 44 rfl
theorem dX12_piece_76 : decode cX12_piece 76 = .ok (.iaload, 1) := dall dgX12_piece_190 45 rfl
theorem dX12_piece_77 : decode cX12_piece 77 = .ok (.ireturn, 1) := dall dgX12_piece_190 46 rfl
def lgX12_of_191 : List (Nat × Instr × Nat) := [(0, .aload_n 0, 1), (1, .iload_n 1, 1), (2, .invokevirtual 163, 3), (5, .ifCond .ne 5, 3), (8, .iconst (-1), 1), (9, .ireturn, 1), (10, .aload_n 0, 1), (11, .invokevirtual 203, 3), (14, .aload_n 0, 1), (15, .getfield 45, 3), (18, .iload_n 1, 1), (19, .iaload, 1), (20, .ireturn, 1)]
theorem dgX12_of_191 : ∀ q ∈ lgX12_of_191, decode cX12_of q.1 = .ok (q.2.1, q.2.2) := by decide +kernel
theorem dX12_of_0 : decode cX12_of 0 = .ok (.aload_n 0, 1) := dall dgX12_of_191 0 rfl
theorem dX12_of_1 : decode cX12_of 1 = .ok (.iload_n 1, 1) := dall dgX12_of_191 1 rfl
theorem dX12_of_2 : decode cX12_of 2 = .ok (.invokevirtual 163, 3) := dall dgX12_of_191 2 rfl
theorem dX12_of_5 : decode cX12_of 5 = .ok (.ifCond .ne 5, 3) := dall dgX12_of_191 3 rfl
theorem dX12_of_8 : decode cX12_of 8 = .ok (.iconst (-1), 1) := dall dgX12_of_191 4 rfl
theorem dX12_of_9 : decode cX12_of 9 = .ok (.ireturn, 1) := dall dgX12_of_191 5 rfl
theorem dX12_of_10 : decode cX12_of 10 = .ok (.aload_n 0, 1) := dall dgX12_of_191 6 rfl
theorem dX12_of_11 : decode cX12_of 11 = .ok (.invokevirtual 203, 3) := dall dgX12_of_191 7 rfl
theorem dX12_of_14 : decode cX12_of 14 = .ok (.aload_n 0, 1) := dall dgX12_of_191 8 rfl
theorem dX12_of_15 : decode cX12_of 15 = .ok (.getfield 45, 3) := dall dgX12_of_191 9 rfl
theorem dX12_of_18 : decode cX12_of 18 = .ok (.iload_n 1, 1) := dall dgX12_of_191 10 rfl
theorem dX12_of_19 : decode cX12_of 19 = .ok (.iaload, 1) := dall dgX12_of_191 11 rfl
theorem dX12_of_20 : decode cX12_of 20 = .ok (.ireturn, 1) := dall dgX12_of_191 12 rfl
def lgX12_size_192 : List (Nat × Instr × Nat) := [(0, .iload_n 0, 1), (1, .ifCond .ge 8, 3), (4, .iload_n 0, 1), (5, .ineg, 1), (6, .goto 4, 3), (9, .iload_n 0, 1), (10, .ireturn, 1)]
theorem dgX12_size_192 : ∀ q ∈ lgX12_size_192, decode cX12_size q.1 = .ok (q.2.1, q.2.2) := by decide +kernel
theorem dX12_size_0 : decode cX12_size 0 = .ok (.iload_n 0, 1) := dall dgX12_size_192 0 rfl
theorem dX12_size_1 : decode cX12_size 1 = .ok (.ifCond .ge 8, 3) := dall dgX12_size_192 1 rfl
theorem dX12_size_4 : decode cX12_size 4 = .ok (.iload_n 0, 1) := dall dgX12_size_192 2 rfl
theorem dX12_size_5 : decode cX12_size 5 = .ok (.ineg, 1) := dall dgX12_size_192 3 rfl
theorem dX12_size_6 : decode cX12_size 6 = .ok (.goto 4, 3) := dall dgX12_size_192 4 rfl
theorem dX12_size_9 : decode cX12_size 9 = .ok (.iload_n 0, 1) := dall dgX12_size_192 5 rfl
theorem dX12_size_10 : decode cX12_size 10 = .ok (.ireturn, 1) := dall dgX12_size_192 6 rfl
def lgX12_likeOf_193 : List (Nat × Instr × Nat) := [(0, .iconst 0, 1), (1, .istore_n 3, 1), (2, .iconst 0, 1), (3, .istore 4, 2), (5, .iload 4, 2), (7, .iconst 4, 1), (8, .if_icmp .ge 38, 3), (11, .iload_n 3, 1), (12, .aload_n 0, 1), (13, .getfield 48, 3), (16, .iconst 4, 1), (17, .iload_n 1, 1), (18, .imul, 1), (19, .iload 4, 2), (21, .iadd, 1), (22, .iaload, 1), (23, .aload_n 0, 1), (24, .getfield 48, 3), (27, .iconst 4, 1), (28, .iload_n 2, 1), (29, .imul, 1), (30, .iload 4, 2), (32, .iadd, 1), (33, .iaload, 1), (34, .isub, 1), (35, .invokestatic 209, 3), (38, .iadd, 1), (39, .istore_n 3, 1), (40, .iinc 4 1, 3), (43, .goto (-38), 3), (46, .aload_n 0, 1), (47, .getfield 7, 3), (50, .iconst 2, 1), (51, .iaload, 1), (52, .iload_n 3, 1), (53, .isub, 1), (54, .aload_n 0, 1), (55, .getfield 42, 3), (58, .iload_n 1, 1), (59, .iaload, 1), (60, .aload_n 0, 1), (61, .getfield 42, 3), (64, .iload_n 2, 1), (65, .iaload, 1), (66, .if_icmp .ge 12, 3), (69, .aload_n 0, 1), (70, .getfield 42, 3), (73, .iload_n 1, 1), (74, .iaload, 1), (75, .goto 9, 3)]
theorem dgX12_likeOf_193 : ∀ q ∈ lgX12_likeOf_193, decode cX12_likeOf q.1 = .ok (q.2.1, q.2.2) := by decide +kernel
theorem dX12_likeOf_0 : decode cX12_likeOf 0 = .ok (.iconst 0, 1) := dall dgX12_likeOf_193 0 rfl
theorem dX12_likeOf_1 : decode cX12_likeOf 1 = .ok (.istore_n 3, 1) := dall dgX12_likeOf_193 1 rfl
theorem dX12_likeOf_2 : decode cX12_likeOf 2 = .ok (.iconst 0, 1) := dall dgX12_likeOf_193 2 rfl
theorem dX12_likeOf_3 : decode cX12_likeOf 3 = .ok (.istore 4, 2) := dall dgX12_likeOf_193 3 rfl
theorem dX12_likeOf_5 : decode cX12_likeOf 5 = .ok (.iload 4, 2) := dall dgX12_likeOf_193 4 rfl
theorem dX12_likeOf_7 : decode cX12_likeOf 7 = .ok (.iconst 4, 1) := dall dgX12_likeOf_193 5 rfl
theorem dX12_likeOf_8 : decode cX12_likeOf 8 = .ok (.if_icmp .ge 38, 3) := dall dgX12_likeOf_193 6 rfl
theorem dX12_likeOf_11 : decode cX12_likeOf 11 = .ok (.iload_n 3, 1) := dall dgX12_likeOf_193 7 rfl
theorem dX12_likeOf_12 : decode cX12_likeOf 12 = .ok (.aload_n 0, 1) := dall dgX12_likeOf_193 8 rfl
theorem dX12_likeOf_13 : decode cX12_likeOf 13 = .ok (.getfield 48, 3) := dall dgX12_likeOf_193 9 rfl
theorem dX12_likeOf_16 : decode cX12_likeOf 16 = .ok (.iconst 4, 1) := dall dgX12_likeOf_193 10 rfl
theorem dX12_likeOf_17 : decode cX12_likeOf 17 = .ok (.iload_n 1, 1) := dall dgX12_likeOf_193 11 rfl
theorem dX12_likeOf_18 : decode cX12_likeOf 18 = .ok (.imul, 1) := dall dgX12_likeOf_193 12 rfl
theorem dX12_likeOf_19 : decode cX12_likeOf 19 = .ok (.iload 4, 2) := dall dgX12_likeOf_193 13 rfl
theorem dX12_likeOf_21 : decode cX12_likeOf 21 = .ok (.iadd, 1) := dall dgX12_likeOf_193 14 rfl
theorem dX12_likeOf_22 : decode cX12_likeOf 22 = .ok (.iaload, 1) := dall dgX12_likeOf_193 15 rfl
theorem dX12_likeOf_23 : decode cX12_likeOf 23 = .ok (.aload_n 0, 1) := dall dgX12_likeOf_193 16 rfl
theorem dX12_likeOf_24 : decode cX12_likeOf 24 = .ok (.getfield 48, 3) := dall dgX12_likeOf_193 17 rfl
theorem dX12_likeOf_27 : decode cX12_likeOf 27 = .ok (.iconst 4, 1) := dall dgX12_likeOf_193 18 rfl
theorem dX12_likeOf_28 : decode cX12_likeOf 28 = .ok (.iload_n 2, 1) := dall dgX12_likeOf_193 19 rfl
theorem dX12_likeOf_29 : decode cX12_likeOf 29 = .ok (.imul, 1) := dall dgX12_likeOf_193 20 rfl
theorem dX12_likeOf_30 : decode cX12_likeOf 30 = .ok (.iload 4, 2) := dall dgX12_likeOf_193 21 rfl
theorem dX12_likeOf_32 : decode cX12_likeOf 32 = .ok (.iadd, 1) := dall dgX12_likeOf_193 22 rfl
theorem dX12_likeOf_33 : decode cX12_likeOf 33 = .ok (.iaload, 1) := dall dgX12_likeOf_193 23 rfl
theorem dX12_likeOf_34 : decode cX12_likeOf 34 = .ok (.isub, 1) := dall dgX12_likeOf_193 24 rfl
theorem dX12_likeOf_35 : decode cX12_likeOf 35 = .ok (.invokestatic 209, 3) := dall dgX12_likeOf_193 25 rfl
theorem dX12_likeOf_38 : decode cX12_likeOf 38 = .ok (.iadd, 1) := dall dgX12_likeOf_193 26 rfl
theorem dX12_likeOf_39 : decode cX12_likeOf 39 = .ok (.istore_n 3, 1) := dall dgX12_likeOf_193 27 rfl
theorem dX12_likeOf_40 : decode cX12_likeOf 40 = .ok (.iinc 4 1, 3) := dall dgX12_likeOf_193 28 rfl
theorem dX12_likeOf_43 : decode cX12_likeOf 43 = .ok (.goto (-38), 3) := dall dgX12_likeOf_193 29 rfl
theorem dX12_likeOf_46 : decode cX12_likeOf 46 = .ok (.aload_n 0, 1) := dall dgX12_likeOf_193 30 rfl
theorem dX12_likeOf_47 : decode cX12_likeOf 47 = .ok (.getfield 7, 3) := dall dgX12_likeOf_193 31 rfl
theorem dX12_likeOf_50 : decode cX12_likeOf 50 = .ok (.iconst 2, 1) := dall dgX12_likeOf_193 32 rfl
theorem dX12_likeOf_51 : decode cX12_likeOf 51 = .ok (.iaload, 1) := dall dgX12_likeOf_193 33 rfl
theorem dX12_likeOf_52 : decode cX12_likeOf 52 = .ok (.iload_n 3, 1) := dall dgX12_likeOf_193 34 rfl
theorem dX12_likeOf_53 : decode cX12_likeOf 53 = .ok (.isub, 1) := dall dgX12_likeOf_193 35 rfl
theorem dX12_likeOf_54 : decode cX12_likeOf 54 = .ok (.aload_n 0, 1) := dall dgX12_likeOf_193 36 rfl
theorem dX12_likeOf_55 : decode cX12_likeOf 55 = .ok (.getfield 42, 3) := dall dgX12_likeOf_193 37 rfl
theorem dX12_likeOf_58 : decode cX12_likeOf 58 = .ok (.iload_n 1, 1) := dall dgX12_likeOf_193 38 rfl
theorem dX12_likeOf_59 : decode cX12_likeOf 59 = .ok (.iaload, 1) := dall dgX12_likeOf_193 39 rfl
theorem dX12_likeOf_60 : decode cX12_likeOf 60 = .ok (.aload_n 0, 1) := dall dgX12_likeOf_193 40 rfl
theorem dX12_likeOf_61 : decode cX12_likeOf 61 = .ok (.getfield 42, 3) := dall dgX12_likeOf_193 41 rfl
theorem dX12_likeOf_64 : decode cX12_likeOf 64 = .ok (.iload_n 2, 1) := dall dgX12_likeOf_193 42 rfl
theorem dX12_likeOf_65 : decode cX12_likeOf 65 = .ok (.iaload, 1) := dall dgX12_likeOf_193 43 rfl
theorem dX12_likeOf_66 : decode cX12_likeOf 66 = .ok (.if_icmp .ge 12, 3) := dall dgX12_likeOf_193 44 rfl
theorem dX12_likeOf_69 : decode cX12_likeOf 69 = .ok (.aload_n 0, 1) := dall dgX12_likeOf_193 45 rfl
theorem dX12_likeOf_70 : decode cX12_likeOf 70 = .ok (.getfield 42, 3) := dall dgX12_likeOf_193 46 rfl
theorem dX12_likeOf_73 : decode cX12_likeOf 73 = .ok (.iload_n 1, 1) := dall dgX12_likeOf_193 47 rfl
theorem dX12_likeOf_74 : decode cX12_likeOf 74 = .ok (.iaload, 1) := dall dgX12_likeOf_193 48 rfl
theorem dX12_likeOf_75 : decode cX12_likeOf 75 = .ok (.goto 9, 3) := dall dgX12_likeOf_193 49 rfl
def lgX12_likeOf_194 : List (Nat × Instr × Nat) := [(78, .aload_n 0, 1), (79, .getfield 42, 3), (82, .iload_n 2, 1), (83, .iaload, 1), (84, .imul, 1), (85, .ireturn, 1)]
theorem dgX12_likeOf_194 : ∀ q ∈ lgX12_likeOf_194, decode cX12_likeOf q.1 = .ok (q.2.1, q.2.2) := by decide +kernel
theorem dX12_likeOf_78 : decode cX12_likeOf 78 = .ok (.aload_n 0, 1) := dall dgX12_likeOf_194 0 rfl
theorem dX12_likeOf_79 : decode cX12_likeOf 79 = .ok (.getfield 42, 3) := dall dgX12_likeOf_194 1 rfl
theorem dX12_likeOf_82 : decode cX12_likeOf 82 = .ok (.iload_n 2, 1) := dall dgX12_likeOf_194 2 rfl
theorem dX12_likeOf_83 : decode cX12_likeOf 83 = .ok (.iaload, 1) := dall dgX12_likeOf_194 3 rfl
theorem dX12_likeOf_84 : decode cX12_likeOf 84 = .ok (.imul, 1) := dall dgX12_likeOf_194 4 rfl
theorem dX12_likeOf_85 : decode cX12_likeOf 85 = .ok (.ireturn, 1) := dall dgX12_likeOf_194 5 rfl
def lgX12_like_195 : List (Nat × Instr × Nat) := [(0, .aload_n 0, 1), (1, .invokevirtual 203, 3), (4, .aload_n 0, 1), (5, .iload_n 1, 1), (6, .invokevirtual 206, 3), (9, .ifCond .eq 25, 3), (12, .aload_n 0, 1), (13, .iload_n 2, 1), (14, .invokevirtual 206, 3), (17, .ifCond .eq 17, 3), (20, .iload_n 1, 1), (21, .iload_n 2, 1), (22, .if_icmp .eq 12, 3), (25, .aload_n 0, 1), (26, .iload_n 1, 1), (27, .iload_n 2, 1), (28, .invokevirtual 212, 3), (31, .goto 5, 3), (34, .ldc 215, 2), (36, .ireturn, 1)]
theorem dgX12_like_195 : ∀ q ∈ lgX12_like_195, decode cX12_like q.1 = .ok (q.2.1, q.2.2) := by decide +kernel
theorem dX12_like_0 : decode cX12_like 0 = .ok (.aload_n 0, 1) := dall dgX12_like_195 0 rfl
theorem dX12_like_1 : decode cX12_like 1 = .ok (.invokevirtual 203, 3) := dall dgX12_like_195 1 rfl
theorem dX12_like_4 : decode cX12_like 4 = .ok (.aload_n 0, 1) := dall dgX12_like_195 2 rfl
theorem dX12_like_5 : decode cX12_like 5 = .ok (.iload_n 1, 1) := dall dgX12_like_195 3 rfl
theorem dX12_like_6 : decode cX12_like 6 = .ok (.invokevirtual 206, 3) := dall dgX12_like_195 4 rfl
theorem dX12_like_9 : decode cX12_like 9 = .ok (.ifCond .eq 25, 3) := dall dgX12_like_195 5 rfl
theorem dX12_like_12 : decode cX12_like 12 = .ok (.aload_n 0, 1) := dall dgX12_like_195 6 rfl
theorem dX12_like_13 : decode cX12_like 13 = .ok (.iload_n 2, 1) := dall dgX12_like_195 7 rfl
theorem dX12_like_14 : decode cX12_like 14 = .ok (.invokevirtual 206, 3) := dall dgX12_like_195 8 rfl
theorem dX12_like_17 : decode cX12_like 17 = .ok (.ifCond .eq 17, 3) := dall dgX12_like_195 9 rfl
theorem dX12_like_20 : decode cX12_like 20 = .ok (.iload_n 1, 1) := dall dgX12_like_195 10 rfl
theorem dX12_like_21 : decode cX12_like 21 = .ok (.iload_n 2, 1) := dall dgX12_like_195 11 rfl
theorem dX12_like_22 : decode cX12_like 22 = .ok (.if_icmp .eq 12, 3) := dall dgX12_like_195 12 rfl
theorem dX12_like_25 : decode cX12_like 25 = .ok (.aload_n 0, 1) := dall dgX12_like_195 13 rfl
theorem dX12_like_26 : decode cX12_like 26 = .ok (.iload_n 1, 1) := dall dgX12_like_195 14 rfl
theorem dX12_like_27 : decode cX12_like 27 = .ok (.iload_n 2, 1) := dall dgX12_like_195 15 rfl
theorem dX12_like_28 : decode cX12_like 28 = .ok (.invokevirtual 212, 3) := dall dgX12_like_195 16 rfl
theorem dX12_like_31 : decode cX12_like 31 = .ok (.goto 5, 3) := dall dgX12_like_195 17 rfl
theorem dX12_like_34 : decode cX12_like 34 = .ok (.ldc 215, 2) := dall dgX12_like_195 18 rfl
theorem dX12_like_36 : decode cX12_like 36 = .ok (.ireturn, 1) := dall dgX12_like_195 19 rfl
def lgX12_touch_196 : List (Nat × Instr × Nat) := [(0, .iload_n 1, 1), (1, .iload_n 2, 1), (2, .if_icmp .ge 7, 3), (5, .iload_n 1, 1), (6, .goto 4, 3), (9, .iload_n 2, 1), (10, .istore_n 3, 1), (11, .iload_n 1, 1), (12, .iload_n 2, 1), (13, .isub, 1), (14, .invokestatic 209, 3), (17, .iconst 1, 1), (18, .if_icmp .ne 31, 3), (21, .aload_n 0, 1), (22, .getfield 39, 3), (25, .iload_n 3, 1), (26, .iaload, 1), (27, .aload_n 0, 1), (28, .getfield 42, 3), (31, .iload_n 3, 1), (32, .iaload, 1), (33, .iadd, 1), (34, .aload_n 0, 1), (35, .getfield 39, 3), (38, .iload_n 3, 1), (39, .iconst 1, 1), (40, .iadd, 1), (41, .iaload, 1), (42, .if_icmp .ne 7, 3), (45, .iconst 1, 1), (46, .goto 4, 3), (49, .iconst 0, 1), (50, .ireturn, 1)]
theorem dgX12_touch_196 : ∀ q ∈ lgX12_touch_196, decode cX12_touch q.1 = .ok (q.2.1, q.2.2) := by decide +kernel
theorem dX12_touch_0 : decode cX12_touch 0 = .ok (.iload_n 1, 1) := dall dgX12_touch_196 0 rfl
theorem dX12_touch_1 : decode cX12_touch 1 = .ok (.iload_n 2, 1) := dall dgX12_touch_196 1 rfl
theorem dX12_touch_2 : decode cX12_touch 2 = .ok (.if_icmp .ge 7, 3) := dall dgX12_touch_196 2 rfl
theorem dX12_touch_5 : decode cX12_touch 5 = .ok (.iload_n 1, 1) := dall dgX12_touch_196 3 rfl
theorem dX12_touch_6 : decode cX12_touch 6 = .ok (.goto 4, 3) := dall dgX12_touch_196 4 rfl
theorem dX12_touch_9 : decode cX12_touch 9 = .ok (.iload_n 2, 1) := dall dgX12_touch_196 5 rfl
theorem dX12_touch_10 : decode cX12_touch 10 = .ok (.istore_n 3, 1) := dall dgX12_touch_196 6 rfl
theorem dX12_touch_11 : decode cX12_touch 11 = .ok (.iload_n 1, 1) := dall dgX12_touch_196 7 rfl
theorem dX12_touch_12 : decode cX12_touch 12 = .ok (.iload_n 2, 1) := dall dgX12_touch_196 8 rfl
theorem dX12_touch_13 : decode cX12_touch 13 = .ok (.isub, 1) := dall dgX12_touch_196 9 rfl
theorem dX12_touch_14 : decode cX12_touch 14 = .ok (.invokestatic 209, 3) := dall dgX12_touch_196 10 rfl
theorem dX12_touch_17 : decode cX12_touch 17 = .ok (.iconst 1, 1) := dall dgX12_touch_196 11 rfl
theorem dX12_touch_18 : decode cX12_touch 18 = .ok (.if_icmp .ne 31, 3) := dall dgX12_touch_196 12 rfl
theorem dX12_touch_21 : decode cX12_touch 21 = .ok (.aload_n 0, 1) := dall dgX12_touch_196 13 rfl
theorem dX12_touch_22 : decode cX12_touch 22 = .ok (.getfield 39, 3) := dall dgX12_touch_196 14 rfl
theorem dX12_touch_25 : decode cX12_touch 25 = .ok (.iload_n 3, 1) := dall dgX12_touch_196 15 rfl
theorem dX12_touch_26 : decode cX12_touch 26 = .ok (.iaload, 1) := dall dgX12_touch_196 16 rfl
theorem dX12_touch_27 : decode cX12_touch 27 = .ok (.aload_n 0, 1) := dall dgX12_touch_196 17 rfl
theorem dX12_touch_28 : decode cX12_touch 28 = .ok (.getfield 42, 3) := dall dgX12_touch_196 18 rfl
theorem dX12_touch_31 : decode cX12_touch 31 = .ok (.iload_n 3, 1) := dall dgX12_touch_196 19 rfl
theorem dX12_touch_32 : decode cX12_touch 32 = .ok (.iaload, 1) := dall dgX12_touch_196 20 rfl
theorem dX12_touch_33 : decode cX12_touch 33 = .ok (.iadd, 1) := dall dgX12_touch_196 21 rfl
theorem dX12_touch_34 : decode cX12_touch 34 = .ok (.aload_n 0, 1) := dall dgX12_touch_196 22 rfl
theorem dX12_touch_35 : decode cX12_touch 35 = .ok (.getfield 39, 3) := dall dgX12_touch_196 23 rfl
theorem dX12_touch_38 : decode cX12_touch 38 = .ok (.iload_n 3, 1) := dall dgX12_touch_196 24 rfl
theorem dX12_touch_39 : decode cX12_touch 39 = .ok (.iconst 1, 1) := dall dgX12_touch_196 25 rfl
theorem dX12_touch_40 : decode cX12_touch 40 = .ok (.iadd, 1) := dall dgX12_touch_196 26 rfl
theorem dX12_touch_41 : decode cX12_touch 41 = .ok (.iaload, 1) := dall dgX12_touch_196 27 rfl
theorem dX12_touch_42 : decode cX12_touch 42 = .ok (.if_icmp .ne 7, 3) := dall dgX12_touch_196 28 rfl
theorem dX12_touch_45 : decode cX12_touch 45 = .ok (.iconst 1, 1) := dall dgX12_touch_196 29 rfl
theorem dX12_touch_46 : decode cX12_touch 46 = .ok (.goto 4, 3) := dall dgX12_touch_196 30 rfl
theorem dX12_touch_49 : decode cX12_touch 49 = .ok (.iconst 0, 1) := dall dgX12_touch_196 31 rfl
theorem dX12_touch_50 : decode cX12_touch 50 = .ok (.ireturn, 1) := dall dgX12_touch_196 32 rfl
def lgX12_findGains_197 : List (Nat × Instr × Nat) := [(0, .iconst 0, 1), (1, .istore_n 1, 1), (2, .iload_n 1, 1), (3, .aload_n 0, 1), (4, .getfield 191, 3), (7, .if_icmp .ge 71, 3), (10, .iconst 0, 1), (11, .istore_n 2, 1), (12, .iload_n 2, 1), (13, .aload_n 0, 1), (14, .getfield 191, 3), (17, .if_icmp .ge 55, 3), (20, .aload_n 0, 1), (21, .getfield 78, 3), (24, .bipush 9, 2), (26, .iload_n 1, 1), (27, .imul, 1), (28, .iload_n 2, 1), (29, .iadd, 1), (30, .iload_n 1, 1), (31, .iload_n 2, 1), (32, .if_icmp .ne 7, 3), (35, .iconst 0, 1), (36, .goto 29, 3), (39, .aload_n 0, 1), (40, .iload_n 1, 1), (41, .iload_n 2, 1), (42, .invokevirtual 212, 3), (45, .aload_n 0, 1), (46, .iload_n 1, 1), (47, .iload_n 2, 1), (48, .invokevirtual 216, 3), (51, .ifCond .eq 12, 3), (54, .aload_n 0, 1), (55, .getfield 7, 3), (58, .iconst 4, 1), (59, .iaload, 1), (60, .goto 4, 3), (63, .iconst 0, 1), (64, .isub, 1), (65, .iastore, 1), (66, .iinc 2 1, 3), (69, .goto (-57), 3), (72, .iinc 1 1, 3), (75, .goto (-73), 3), (78, .return_, 1)]
theorem dgX12_findGains_197 : ∀ q ∈ lgX12_findGains_197, decode cX12_findGains q.1 = .ok (q.2.1, q.2.2) := by decide +kernel
theorem dX12_findGains_0 : decode cX12_findGains 0 = .ok (.iconst 0, 1) := dall dgX12_findGains_197 0 rfl
theorem dX12_findGains_1 : decode cX12_findGains 1 = .ok (.istore_n 1, 1) := dall dgX12_findGains_197 1 rfl
theorem dX12_findGains_2 : decode cX12_findGains 2 = .ok (.iload_n 1, 1) := dall dgX12_findGains_197 2 rfl
theorem dX12_findGains_3 : decode cX12_findGains 3 = .ok (.aload_n 0, 1) := dall dgX12_findGains_197 3 rfl
theorem dX12_findGains_4 : decode cX12_findGains 4 = .ok (.getfield 191, 3) := dall dgX12_findGains_197 4 rfl
theorem dX12_findGains_7 : decode cX12_findGains 7 = .ok (.if_icmp .ge 71, 3) := dall dgX12_findGains_197 5 rfl
theorem dX12_findGains_10 : decode cX12_findGains 10 = .ok (.iconst 0, 1) := dall dgX12_findGains_197 6 rfl
theorem dX12_findGains_11 : decode cX12_findGains 11 = .ok (.istore_n 2, 1) := dall dgX12_findGains_197 7 rfl
theorem dX12_findGains_12 : decode cX12_findGains 12 = .ok (.iload_n 2, 1) := dall dgX12_findGains_197 8 rfl
theorem dX12_findGains_13 : decode cX12_findGains 13 = .ok (.aload_n 0, 1) := dall dgX12_findGains_197 9 rfl
theorem dX12_findGains_14 : decode cX12_findGains 14 = .ok (.getfield 191, 3) := dall dgX12_findGains_197 10 rfl
theorem dX12_findGains_17 : decode cX12_findGains 17 = .ok (.if_icmp .ge 55, 3) := dall dgX12_findGains_197 11 rfl
theorem dX12_findGains_20 : decode cX12_findGains 20 = .ok (.aload_n 0, 1) := dall dgX12_findGains_197 12 rfl
theorem dX12_findGains_21 : decode cX12_findGains 21 = .ok (.getfield 78, 3) := dall dgX12_findGains_197 13 rfl
theorem dX12_findGains_24 : decode cX12_findGains 24 = .ok (.bipush 9, 2) := dall dgX12_findGains_197 14 rfl
theorem dX12_findGains_26 : decode cX12_findGains 26 = .ok (.iload_n 1, 1) := dall dgX12_findGains_197 15 rfl
theorem dX12_findGains_27 : decode cX12_findGains 27 = .ok (.imul, 1) := dall dgX12_findGains_197 16 rfl
theorem dX12_findGains_28 : decode cX12_findGains 28 = .ok (.iload_n 2, 1) := dall dgX12_findGains_197 17 rfl
theorem dX12_findGains_29 : decode cX12_findGains 29 = .ok (.iadd, 1) := dall dgX12_findGains_197 18 rfl
theorem dX12_findGains_30 : decode cX12_findGains 30 = .ok (.iload_n 1, 1) := dall dgX12_findGains_197 19 rfl
theorem dX12_findGains_31 : decode cX12_findGains 31 = .ok (.iload_n 2, 1) := dall dgX12_findGains_197 20 rfl
theorem dX12_findGains_32 : decode cX12_findGains 32 = .ok (.if_icmp .ne 7, 3) := dall dgX12_findGains_197 21 rfl
theorem dX12_findGains_35 : decode cX12_findGains 35 = .ok (.iconst 0, 1) := dall dgX12_findGains_197 22 rfl
theorem dX12_findGains_36 : decode cX12_findGains 36 = .ok (.goto 29, 3) := dall dgX12_findGains_197 23 rfl
theorem dX12_findGains_39 : decode cX12_findGains 39 = .ok (.aload_n 0, 1) := dall dgX12_findGains_197 24 rfl
theorem dX12_findGains_40 : decode cX12_findGains 40 = .ok (.iload_n 1, 1) := dall dgX12_findGains_197 25 rfl
theorem dX12_findGains_41 : decode cX12_findGains 41 = .ok (.iload_n 2, 1) := dall dgX12_findGains_197 26 rfl
theorem dX12_findGains_42 : decode cX12_findGains 42 = .ok (.invokevirtual 212, 3) := dall dgX12_findGains_197 27 rfl
theorem dX12_findGains_45 : decode cX12_findGains 45 = .ok (.aload_n 0, 1) := dall dgX12_findGains_197 28 rfl
theorem dX12_findGains_46 : decode cX12_findGains 46 = .ok (.iload_n 1, 1) := dall dgX12_findGains_197 29 rfl
theorem dX12_findGains_47 : decode cX12_findGains 47 = .ok (.iload_n 2, 1) := dall dgX12_findGains_197 30 rfl
theorem dX12_findGains_48 : decode cX12_findGains 48 = .ok (.invokevirtual 216, 3) := dall dgX12_findGains_197 31 rfl
theorem dX12_findGains_51 : decode cX12_findGains 51 = .ok (.ifCond .eq 12, 3) := dall dgX12_findGains_197 32 rfl
theorem dX12_findGains_54 : decode cX12_findGains 54 = .ok (.aload_n 0, 1) := dall dgX12_findGains_197 33 rfl
theorem dX12_findGains_55 : decode cX12_findGains 55 = .ok (.getfield 7, 3) := dall dgX12_findGains_197 34 rfl
theorem dX12_findGains_58 : decode cX12_findGains 58 = .ok (.iconst 4, 1) := dall dgX12_findGains_197 35 rfl
theorem dX12_findGains_59 : decode cX12_findGains 59 = .ok (.iaload, 1) := dall dgX12_findGains_197 36 rfl
theorem dX12_findGains_60 : decode cX12_findGains 60 = .ok (.goto 4, 3) := dall dgX12_findGains_197 37 rfl
theorem dX12_findGains_63 : decode cX12_findGains 63 = .ok (.iconst 0, 1) := dall dgX12_findGains_197 38 rfl
theorem dX12_findGains_64 : decode cX12_findGains 64 = .ok (.isub, 1) := dall dgX12_findGains_197 39 rfl
theorem dX12_findGains_65 : decode cX12_findGains 65 = .ok (.iastore, 1) := dall dgX12_findGains_197 40 rfl
theorem dX12_findGains_66 : decode cX12_findGains 66 = .ok (.iinc 2 1, 3) := dall dgX12_findGains_197 41 rfl
theorem dX12_findGains_69 : decode cX12_findGains 69 = .ok (.goto (-57), 3) := dall dgX12_findGains_197 42 rfl
theorem dX12_findGains_72 : decode cX12_findGains 72 = .ok (.iinc 1 1, 3) := dall dgX12_findGains_197 43 rfl
theorem dX12_findGains_75 : decode cX12_findGains 75 = .ok (.goto (-73), 3) := dall dgX12_findGains_197 44 rfl
theorem dX12_findGains_78 : decode cX12_findGains 78 = .ok (.return_, 1) := dall dgX12_findGains_197 45 rfl
def lgX12_worthOf_198 : List (Nat × Instr × Nat) := [(0, .iconst 0, 1), (1, .istore_n 2, 1), (2, .iconst 0, 1), (3, .istore_n 3, 1), (4, .iload_n 3, 1), (5, .aload_n 0, 1), (6, .getfield 191, 3), (9, .if_icmp .ge 53, 3), (12, .iconst 0, 1), (13, .istore 4, 2), (15, .iload 4, 2), (17, .iload_n 3, 1), (18, .if_icmp .ge 38, 3), (21, .iload_n 2, 1), (22, .aload_n 1, 1), (23, .iload_n 3, 1), (24, .iaload, 1), (25, .aload_n 1, 1), (26, .iload 4, 2), (28, .iaload, 1), (29, .if_icmp .ne 18, 3), (32, .aload_n 0, 1), (33, .getfield 78, 3), (36, .bipush 9, 2), (38, .iload_n 3, 1), (39, .imul, 1), (40, .iload 4, 2), (42, .iadd, 1), (43, .iaload, 1), (44, .goto 4, 3), (47, .iconst 0, 1), (48, .iadd, 1), (49, .istore_n 2, 1), (50, .iinc 4 1, 3), (53, .goto (-38), 3), (56, .iinc 3 1, 3), (59, .goto (-55), 3), (62, .iload_n 2, 1), (63, .ireturn, 1)]
theorem dgX12_worthOf_198 : ∀ q ∈ lgX12_worthOf_198, decode cX12_worthOf q.1 = .ok (q.2.1, q.2.2) := by decide +kernel
theorem dX12_worthOf_0 : decode cX12_worthOf 0 = .ok (.iconst 0, 1) := dall dgX12_worthOf_198 0 rfl
theorem dX12_worthOf_1 : decode cX12_worthOf 1 = .ok (.istore_n 2, 1) := dall dgX12_worthOf_198 1 rfl
theorem dX12_worthOf_2 : decode cX12_worthOf 2 = .ok (.iconst 0, 1) := dall dgX12_worthOf_198 2 rfl
theorem dX12_worthOf_3 : decode cX12_worthOf 3 = .ok (.istore_n 3, 1) := dall dgX12_worthOf_198 3 rfl
theorem dX12_worthOf_4 : decode cX12_worthOf 4 = .ok (.iload_n 3, 1) := dall dgX12_worthOf_198 4 rfl
theorem dX12_worthOf_5 : decode cX12_worthOf 5 = .ok (.aload_n 0, 1) := dall dgX12_worthOf_198 5 rfl
theorem dX12_worthOf_6 : decode cX12_worthOf 6 = .ok (.getfield 191, 3) := dall dgX12_worthOf_198 6 rfl
theorem dX12_worthOf_9 : decode cX12_worthOf 9 = .ok (.if_icmp .ge 53, 3) := dall dgX12_worthOf_198 7 rfl
theorem dX12_worthOf_12 : decode cX12_worthOf 12 = .ok (.iconst 0, 1) := dall dgX12_worthOf_198 8 rfl
theorem dX12_worthOf_13 : decode cX12_worthOf 13 = .ok (.istore 4, 2) := dall dgX12_worthOf_198 9 rfl
theorem dX12_worthOf_15 : decode cX12_worthOf 15 = .ok (.iload 4, 2) := dall dgX12_worthOf_198 10 rfl
theorem dX12_worthOf_17 : decode cX12_worthOf 17 = .ok (.iload_n 3, 1) := dall dgX12_worthOf_198 11 rfl
theorem dX12_worthOf_18 : decode cX12_worthOf 18 = .ok (.if_icmp .ge 38, 3) := dall dgX12_worthOf_198 12 rfl
theorem dX12_worthOf_21 : decode cX12_worthOf 21 = .ok (.iload_n 2, 1) := dall dgX12_worthOf_198 13 rfl
theorem dX12_worthOf_22 : decode cX12_worthOf 22 = .ok (.aload_n 1, 1) := dall dgX12_worthOf_198 14 rfl
theorem dX12_worthOf_23 : decode cX12_worthOf 23 = .ok (.iload_n 3, 1) := dall dgX12_worthOf_198 15 rfl
theorem dX12_worthOf_24 : decode cX12_worthOf 24 = .ok (.iaload, 1) := dall dgX12_worthOf_198 16 rfl
theorem dX12_worthOf_25 : decode cX12_worthOf 25 = .ok (.aload_n 1, 1) := dall dgX12_worthOf_198 17 rfl
theorem dX12_worthOf_26 : decode cX12_worthOf 26 = .ok (.iload 4, 2) := dall dgX12_worthOf_198 18 rfl
theorem dX12_worthOf_28 : decode cX12_worthOf 28 = .ok (.iaload, 1) := dall dgX12_worthOf_198 19 rfl
theorem dX12_worthOf_29 : decode cX12_worthOf 29 = .ok (.if_icmp .ne 18, 3) := dall dgX12_worthOf_198 20 rfl
theorem dX12_worthOf_32 : decode cX12_worthOf 32 = .ok (.aload_n 0, 1) := dall dgX12_worthOf_198 21 rfl
theorem dX12_worthOf_33 : decode cX12_worthOf 33 = .ok (.getfield 78, 3) := dall dgX12_worthOf_198 22 rfl
theorem dX12_worthOf_36 : decode cX12_worthOf 36 = .ok (.bipush 9, 2) := dall dgX12_worthOf_198 23 rfl
theorem dX12_worthOf_38 : decode cX12_worthOf 38 = .ok (.iload_n 3, 1) := dall dgX12_worthOf_198 24 rfl
theorem dX12_worthOf_39 : decode cX12_worthOf 39 = .ok (.imul, 1) := dall dgX12_worthOf_198 25 rfl
theorem dX12_worthOf_40 : decode cX12_worthOf 40 = .ok (.iload 4, 2) := dall dgX12_worthOf_198 26 rfl
theorem dX12_worthOf_42 : decode cX12_worthOf 42 = .ok (.iadd, 1) := dall dgX12_worthOf_198 27 rfl
theorem dX12_worthOf_43 : decode cX12_worthOf 43 = .ok (.iaload, 1) := dall dgX12_worthOf_198 28 rfl
theorem dX12_worthOf_44 : decode cX12_worthOf 44 = .ok (.goto 4, 3) := dall dgX12_worthOf_198 29 rfl
theorem dX12_worthOf_47 : decode cX12_worthOf 47 = .ok (.iconst 0, 1) := dall dgX12_worthOf_198 30 rfl
theorem dX12_worthOf_48 : decode cX12_worthOf 48 = .ok (.iadd, 1) := dall dgX12_worthOf_198 31 rfl
theorem dX12_worthOf_49 : decode cX12_worthOf 49 = .ok (.istore_n 2, 1) := dall dgX12_worthOf_198 32 rfl
theorem dX12_worthOf_50 : decode cX12_worthOf 50 = .ok (.iinc 4 1, 3) := dall dgX12_worthOf_198 33 rfl
theorem dX12_worthOf_53 : decode cX12_worthOf 53 = .ok (.goto (-38), 3) := dall dgX12_worthOf_198 34 rfl
theorem dX12_worthOf_56 : decode cX12_worthOf 56 = .ok (.iinc 3 1, 3) := dall dgX12_worthOf_198 35 rfl
theorem dX12_worthOf_59 : decode cX12_worthOf 59 = .ok (.goto (-55), 3) := dall dgX12_worthOf_198 36 rfl
theorem dX12_worthOf_62 : decode cX12_worthOf 62 = .ok (.iload_n 2, 1) := dall dgX12_worthOf_198 37 rfl
theorem dX12_worthOf_63 : decode cX12_worthOf 63 = .ok (.ireturn, 1) := dall dgX12_worthOf_198 38 rfl
def lgX12_heapsIn_199 : List (Nat × Instr × Nat) := [(0, .iconst 0, 1), (1, .istore_n 2, 1), (2, .iconst 0, 1), (3, .istore_n 3, 1), (4, .iload_n 3, 1), (5, .iload_n 1, 1), (6, .if_icmp .ge 26, 3), (9, .aload_n 0, 1), (10, .iload_n 3, 1), (11, .iaload, 1), (12, .iload_n 2, 1), (13, .if_icmp .lt 11, 3), (16, .aload_n 0, 1), (17, .iload_n 3, 1), (18, .iaload, 1), (19, .iconst 1, 1), (20, .iadd, 1), (21, .goto 4, 3), (24, .iload_n 2, 1), (25, .istore_n 2, 1), (26, .iinc 3 1, 3), (29, .goto (-25), 3), (32, .iload_n 2, 1), (33, .ireturn, 1)]
theorem dgX12_heapsIn_199 : ∀ q ∈ lgX12_heapsIn_199, decode cX12_heapsIn q.1 = .ok (q.2.1, q.2.2) := by decide +kernel
theorem dX12_heapsIn_0 : decode cX12_heapsIn 0 = .ok (.iconst 0, 1) := dall dgX12_heapsIn_199 0 rfl
theorem dX12_heapsIn_1 : decode cX12_heapsIn 1 = .ok (.istore_n 2, 1) := dall dgX12_heapsIn_199 1 rfl
theorem dX12_heapsIn_2 : decode cX12_heapsIn 2 = .ok (.iconst 0, 1) := dall dgX12_heapsIn_199 2 rfl
theorem dX12_heapsIn_3 : decode cX12_heapsIn 3 = .ok (.istore_n 3, 1) := dall dgX12_heapsIn_199 3 rfl
theorem dX12_heapsIn_4 : decode cX12_heapsIn 4 = .ok (.iload_n 3, 1) := dall dgX12_heapsIn_199 4 rfl
theorem dX12_heapsIn_5 : decode cX12_heapsIn 5 = .ok (.iload_n 1, 1) := dall dgX12_heapsIn_199 5 rfl
theorem dX12_heapsIn_6 : decode cX12_heapsIn 6 = .ok (.if_icmp .ge 26, 3) := dall dgX12_heapsIn_199 6 rfl
theorem dX12_heapsIn_9 : decode cX12_heapsIn 9 = .ok (.aload_n 0, 1) := dall dgX12_heapsIn_199 7 rfl
theorem dX12_heapsIn_10 : decode cX12_heapsIn 10 = .ok (.iload_n 3, 1) := dall dgX12_heapsIn_199 8 rfl
theorem dX12_heapsIn_11 : decode cX12_heapsIn 11 = .ok (.iaload, 1) := dall dgX12_heapsIn_199 9 rfl
theorem dX12_heapsIn_12 : decode cX12_heapsIn 12 = .ok (.iload_n 2, 1) := dall dgX12_heapsIn_199 10 rfl
theorem dX12_heapsIn_13 : decode cX12_heapsIn 13 = .ok (.if_icmp .lt 11, 3) := dall dgX12_heapsIn_199 11 rfl
theorem dX12_heapsIn_16 : decode cX12_heapsIn 16 = .ok (.aload_n 0, 1) := dall dgX12_heapsIn_199 12 rfl
theorem dX12_heapsIn_17 : decode cX12_heapsIn 17 = .ok (.iload_n 3, 1) := dall dgX12_heapsIn_199 13 rfl
theorem dX12_heapsIn_18 : decode cX12_heapsIn 18 = .ok (.iaload, 1) := dall dgX12_heapsIn_199 14 rfl
theorem dX12_heapsIn_19 : decode cX12_heapsIn 19 = .ok (.iconst 1, 1) := dall dgX12_heapsIn_199 15 rfl
theorem dX12_heapsIn_20 : decode cX12_heapsIn 20 = .ok (.iadd, 1) := dall dgX12_heapsIn_199 16 rfl
theorem dX12_heapsIn_21 : decode cX12_heapsIn 21 = .ok (.goto 4, 3) := dall dgX12_heapsIn_199 17 rfl
theorem dX12_heapsIn_24 : decode cX12_heapsIn 24 = .ok (.iload_n 2, 1) := dall dgX12_heapsIn_199 18 rfl
theorem dX12_heapsIn_25 : decode cX12_heapsIn 25 = .ok (.istore_n 2, 1) := dall dgX12_heapsIn_199 19 rfl
theorem dX12_heapsIn_26 : decode cX12_heapsIn 26 = .ok (.iinc 3 1, 3) := dall dgX12_heapsIn_199 20 rfl
theorem dX12_heapsIn_29 : decode cX12_heapsIn 29 = .ok (.goto (-25), 3) := dall dgX12_heapsIn_199 21 rfl
theorem dX12_heapsIn_32 : decode cX12_heapsIn 32 = .ok (.iload_n 2, 1) := dall dgX12_heapsIn_199 22 rfl
theorem dX12_heapsIn_33 : decode cX12_heapsIn 33 = .ok (.ireturn, 1) := dall dgX12_heapsIn_199 23 rfl
def lgX12_goOn_200 : List (Nat × Instr × Nat) := [(0, .aload_n 0, 1), (1, .getfield 191, 3), (4, .iconst 1, 1), (5, .isub, 1), (6, .istore_n 1, 1), (7, .iload_n 1, 1), (8, .ifCond .le 63, 3), (11, .aload_n 0, 1), (12, .getfield 69, 3), (15, .iload_n 1, 1), (16, .iaload, 1), (17, .aload_n 0, 1), (18, .getfield 69, 3), (21, .iload_n 1, 1), (22, .invokestatic 219, 3), (25, .if_icmp .ge 40, 3), (28, .aload_n 0, 1), (29, .getfield 69, 3), (32, .iload_n 1, 1), (33, .dup2, 1), (34, .iaload, 1), (35, .iconst 1, 1), (36, .iadd, 1), (37, .iastore, 1), (38, .iload_n 1, 1), (39, .iconst 1, 1), (40, .iadd, 1), (41, .istore_n 2, 1), (42, .iload_n 2, 1), (43, .aload_n 0, 1), (44, .getfield 191, 3), (47, .if_icmp .ge 16, 3), (50, .aload_n 0, 1), (51, .getfield 69, 3), (54, .iload_n 2, 1), (55, .iconst 0, 1), (56, .iastore, 1), (57, .iinc 2 1, 3), (60, .goto (-18), 3), (63, .iconst 1, 1), (64, .ireturn, 1), (65, .iinc 1 (-1), 3), (68, .goto (-61), 3), (71, .iconst 0, 1), (72, .ireturn, 1)]
theorem dgX12_goOn_200 : ∀ q ∈ lgX12_goOn_200, decode cX12_goOn q.1 = .ok (q.2.1, q.2.2) := by decide +kernel
theorem dX12_goOn_0 : decode cX12_goOn 0 = .ok (.aload_n 0, 1) := dall dgX12_goOn_200 0 rfl
theorem dX12_goOn_1 : decode cX12_goOn 1 = .ok (.getfield 191, 3) := dall dgX12_goOn_200 1 rfl
theorem dX12_goOn_4 : decode cX12_goOn 4 = .ok (.iconst 1, 1) := dall dgX12_goOn_200 2 rfl
theorem dX12_goOn_5 : decode cX12_goOn 5 = .ok (.isub, 1) := dall dgX12_goOn_200 3 rfl
theorem dX12_goOn_6 : decode cX12_goOn 6 = .ok (.istore_n 1, 1) := dall dgX12_goOn_200 4 rfl
theorem dX12_goOn_7 : decode cX12_goOn 7 = .ok (.iload_n 1, 1) := dall dgX12_goOn_200 5 rfl
theorem dX12_goOn_8 : decode cX12_goOn 8 = .ok (.ifCond .le 63, 3) := dall dgX12_goOn_200 6 rfl
theorem dX12_goOn_11 : decode cX12_goOn 11 = .ok (.aload_n 0, 1) := dall dgX12_goOn_200 7 rfl
theorem dX12_goOn_12 : decode cX12_goOn 12 = .ok (.getfield 69, 3) := dall dgX12_goOn_200 8 rfl
theorem dX12_goOn_15 : decode cX12_goOn 15 = .ok (.iload_n 1, 1) := dall dgX12_goOn_200 9 rfl
theorem dX12_goOn_16 : decode cX12_goOn 16 = .ok (.iaload, 1) := dall dgX12_goOn_200 10 rfl
theorem dX12_goOn_17 : decode cX12_goOn 17 = .ok (.aload_n 0, 1) := dall dgX12_goOn_200 11 rfl
theorem dX12_goOn_18 : decode cX12_goOn 18 = .ok (.getfield 69, 3) := dall dgX12_goOn_200 12 rfl
theorem dX12_goOn_21 : decode cX12_goOn 21 = .ok (.iload_n 1, 1) := dall dgX12_goOn_200 13 rfl
theorem dX12_goOn_22 : decode cX12_goOn 22 = .ok (.invokestatic 219, 3) := dall dgX12_goOn_200 14 rfl
theorem dX12_goOn_25 : decode cX12_goOn 25 = .ok (.if_icmp .ge 40, 3) := dall dgX12_goOn_200 15 rfl
theorem dX12_goOn_28 : decode cX12_goOn 28 = .ok (.aload_n 0, 1) := dall dgX12_goOn_200 16 rfl
theorem dX12_goOn_29 : decode cX12_goOn 29 = .ok (.getfield 69, 3) := dall dgX12_goOn_200 17 rfl
theorem dX12_goOn_32 : decode cX12_goOn 32 = .ok (.iload_n 1, 1) := dall dgX12_goOn_200 18 rfl
theorem dX12_goOn_33 : decode cX12_goOn 33 = .ok (.dup2, 1) := dall dgX12_goOn_200 19 rfl
theorem dX12_goOn_34 : decode cX12_goOn 34 = .ok (.iaload, 1) := dall dgX12_goOn_200 20 rfl
theorem dX12_goOn_35 : decode cX12_goOn 35 = .ok (.iconst 1, 1) := dall dgX12_goOn_200 21 rfl
theorem dX12_goOn_36 : decode cX12_goOn 36 = .ok (.iadd, 1) := dall dgX12_goOn_200 22 rfl
theorem dX12_goOn_37 : decode cX12_goOn 37 = .ok (.iastore, 1) := dall dgX12_goOn_200 23 rfl
theorem dX12_goOn_38 : decode cX12_goOn 38 = .ok (.iload_n 1, 1) := dall dgX12_goOn_200 24 rfl
theorem dX12_goOn_39 : decode cX12_goOn 39 = .ok (.iconst 1, 1) := dall dgX12_goOn_200 25 rfl
theorem dX12_goOn_40 : decode cX12_goOn 40 = .ok (.iadd, 1) := dall dgX12_goOn_200 26 rfl
theorem dX12_goOn_41 : decode cX12_goOn 41 = .ok (.istore_n 2, 1) := dall dgX12_goOn_200 27 rfl
theorem dX12_goOn_42 : decode cX12_goOn 42 = .ok (.iload_n 2, 1) := dall dgX12_goOn_200 28 rfl
theorem dX12_goOn_43 : decode cX12_goOn 43 = .ok (.aload_n 0, 1) := dall dgX12_goOn_200 29 rfl
theorem dX12_goOn_44 : decode cX12_goOn 44 = .ok (.getfield 191, 3) := dall dgX12_goOn_200 30 rfl
theorem dX12_goOn_47 : decode cX12_goOn 47 = .ok (.if_icmp .ge 16, 3) := dall dgX12_goOn_200 31 rfl
theorem dX12_goOn_50 : decode cX12_goOn 50 = .ok (.aload_n 0, 1) := dall dgX12_goOn_200 32 rfl
theorem dX12_goOn_51 : decode cX12_goOn 51 = .ok (.getfield 69, 3) := dall dgX12_goOn_200 33 rfl
theorem dX12_goOn_54 : decode cX12_goOn 54 = .ok (.iload_n 2, 1) := dall dgX12_goOn_200 34 rfl
theorem dX12_goOn_55 : decode cX12_goOn 55 = .ok (.iconst 0, 1) := dall dgX12_goOn_200 35 rfl
theorem dX12_goOn_56 : decode cX12_goOn 56 = .ok (.iastore, 1) := dall dgX12_goOn_200 36 rfl
theorem dX12_goOn_57 : decode cX12_goOn 57 = .ok (.iinc 2 1, 3) := dall dgX12_goOn_200 37 rfl
theorem dX12_goOn_60 : decode cX12_goOn 60 = .ok (.goto (-18), 3) := dall dgX12_goOn_200 38 rfl
theorem dX12_goOn_63 : decode cX12_goOn 63 = .ok (.iconst 1, 1) := dall dgX12_goOn_200 39 rfl
theorem dX12_goOn_64 : decode cX12_goOn 64 = .ok (.ireturn, 1) := dall dgX12_goOn_200 40 rfl
theorem dX12_goOn_65 : decode cX12_goOn 65 = .ok (.iinc 1 (-1), 3) := dall dgX12_goOn_200 41 rfl
theorem dX12_goOn_68 : decode cX12_goOn 68 = .ok (.goto (-61), 3) := dall dgX12_goOn_200 42 rfl
theorem dX12_goOn_71 : decode cX12_goOn 71 = .ok (.iconst 0, 1) := dall dgX12_goOn_200 43 rfl
theorem dX12_goOn_72 : decode cX12_goOn 72 = .ok (.ireturn, 1) := dall dgX12_goOn_200 44 rfl
def lgX12_begin_201 : List (Nat × Instr × Nat) := [(0, .iconst 0, 1), (1, .istore_n 1, 1), (2, .iload_n 1, 1), (3, .bipush 10, 2), (5, .if_icmp .ge 16, 3), (8, .aload_n 0, 1), (9, .getfield 69, 3), (12, .iload_n 1, 1), (13, .iconst 0, 1), (14, .iastore, 1), (15, .iinc 1 1, 3), (18, .goto (-16), 3), (21, .return_, 1)]
theorem dgX12_begin_201 : ∀ q ∈ lgX12_begin_201, decode cX12_begin q.1 = .ok (q.2.1, q.2.2) := by decide +kernel
theorem dX12_begin_0 : decode cX12_begin 0 = .ok (.iconst 0, 1) := dall dgX12_begin_201 0 rfl
theorem dX12_begin_1 : decode cX12_begin 1 = .ok (.istore_n 1, 1) := dall dgX12_begin_201 1 rfl
theorem dX12_begin_2 : decode cX12_begin 2 = .ok (.iload_n 1, 1) := dall dgX12_begin_201 2 rfl
theorem dX12_begin_3 : decode cX12_begin 3 = .ok (.bipush 10, 2) := dall dgX12_begin_201 3 rfl
theorem dX12_begin_5 : decode cX12_begin 5 = .ok (.if_icmp .ge 16, 3) := dall dgX12_begin_201 4 rfl
theorem dX12_begin_8 : decode cX12_begin 8 = .ok (.aload_n 0, 1) := dall dgX12_begin_201 5 rfl
theorem dX12_begin_9 : decode cX12_begin 9 = .ok (.getfield 69, 3) := dall dgX12_begin_201 6 rfl
theorem dX12_begin_12 : decode cX12_begin 12 = .ok (.iload_n 1, 1) := dall dgX12_begin_201 7 rfl
theorem dX12_begin_13 : decode cX12_begin 13 = .ok (.iconst 0, 1) := dall dgX12_begin_201 8 rfl
theorem dX12_begin_14 : decode cX12_begin 14 = .ok (.iastore, 1) := dall dgX12_begin_201 9 rfl
theorem dX12_begin_15 : decode cX12_begin 15 = .ok (.iinc 1 1, 3) := dall dgX12_begin_201 10 rfl
theorem dX12_begin_18 : decode cX12_begin 18 = .ok (.goto (-16), 3) := dall dgX12_begin_201 11 rfl
theorem dX12_begin_21 : decode cX12_begin 21 = .ok (.return_, 1) := dall dgX12_begin_201 12 rfl
def lgX12_findBest_202 : List (Nat × Instr × Nat) := [(0, .aload_n 0, 1), (1, .invokevirtual 203, 3), (4, .aload_n 0, 1), (5, .getfield 191, 3), (8, .bipush 9, 2), (10, .if_icmp .le 5, 3), (13, .iconst 0, 1), (14, .ireturn, 1), (15, .aload_n 0, 1), (16, .invokevirtual 223, 3), (19, .aload_n 0, 1), (20, .invokevirtual 226, 3), (23, .iconst 1, 1), (24, .istore_n 1, 1), (25, .iconst 0, 1), (26, .istore_n 2, 1), (27, .iload_n 1, 1), (28, .ifCond .eq 71, 3), (31, .aload_n 0, 1), (32, .aload_n 0, 1), (33, .getfield 69, 3), (36, .invokevirtual 229, 3), (39, .istore_n 3, 1), (40, .iload_n 2, 1), (41, .ifCond .eq 11, 3), (44, .iload_n 3, 1), (45, .aload_n 0, 1), (46, .getfield 233, 3), (49, .if_icmp .le 40, 3), (52, .aload_n 0, 1), (53, .iload_n 3, 1), (54, .putfield 233, 3), (57, .iconst 0, 1), (58, .istore 4, 2), (60, .iload 4, 2), (62, .aload_n 0, 1), (63, .getfield 191, 3), (66, .if_icmp .ge 23, 3), (69, .aload_n 0, 1), (70, .getfield 72, 3), (73, .iload 4, 2), (75, .aload_n 0, 1), (76, .getfield 69, 3), (79, .iload 4, 2), (81, .iaload, 1), (82, .iastore, 1), (83, .iinc 4 1, 3), (86, .goto (-26), 3), (89, .iconst 1, 1), (90, .istore_n 2, 1)]
theorem dgX12_findBest_202 : ∀ q ∈ lgX12_findBest_202, decode cX12_findBest q.1 = .ok (q.2.1, q.2.2) := by decide +kernel
theorem dX12_findBest_0 : decode cX12_findBest 0 = .ok (.aload_n 0, 1) := dall dgX12_findBest_202 0 rfl
theorem dX12_findBest_1 : decode cX12_findBest 1 = .ok (.invokevirtual 203, 3) := dall dgX12_findBest_202 1 rfl
theorem dX12_findBest_4 : decode cX12_findBest 4 = .ok (.aload_n 0, 1) := dall dgX12_findBest_202 2 rfl
theorem dX12_findBest_5 : decode cX12_findBest 5 = .ok (.getfield 191, 3) := dall dgX12_findBest_202 3 rfl
theorem dX12_findBest_8 : decode cX12_findBest 8 = .ok (.bipush 9, 2) := dall dgX12_findBest_202 4 rfl
theorem dX12_findBest_10 : decode cX12_findBest 10 = .ok (.if_icmp .le 5, 3) := dall dgX12_findBest_202 5 rfl
theorem dX12_findBest_13 : decode cX12_findBest 13 = .ok (.iconst 0, 1) := dall dgX12_findBest_202 6 rfl
theorem dX12_findBest_14 : decode cX12_findBest 14 = .ok (.ireturn, 1) := dall dgX12_findBest_202 7 rfl
theorem dX12_findBest_15 : decode cX12_findBest 15 = .ok (.aload_n 0, 1) := dall dgX12_findBest_202 8 rfl
theorem dX12_findBest_16 : decode cX12_findBest 16 = .ok (.invokevirtual 223, 3) := dall dgX12_findBest_202 9 rfl
theorem dX12_findBest_19 : decode cX12_findBest 19 = .ok (.aload_n 0, 1) := dall dgX12_findBest_202 10 rfl
theorem dX12_findBest_20 : decode cX12_findBest 20 = .ok (.invokevirtual 226, 3) := dall dgX12_findBest_202 11 rfl
theorem dX12_findBest_23 : decode cX12_findBest 23 = .ok (.iconst 1, 1) := dall dgX12_findBest_202 12 rfl
theorem dX12_findBest_24 : decode cX12_findBest 24 = .ok (.istore_n 1, 1) := dall dgX12_findBest_202 13 rfl
theorem dX12_findBest_25 : decode cX12_findBest 25 = .ok (.iconst 0, 1) := dall dgX12_findBest_202 14 rfl
theorem dX12_findBest_26 : decode cX12_findBest 26 = .ok (.istore_n 2, 1) := dall dgX12_findBest_202 15 rfl
theorem dX12_findBest_27 : decode cX12_findBest 27 = .ok (.iload_n 1, 1) := dall dgX12_findBest_202 16 rfl
theorem dX12_findBest_28 : decode cX12_findBest 28 = .ok (.ifCond .eq 71, 3) := dall dgX12_findBest_202 17 rfl
theorem dX12_findBest_31 : decode cX12_findBest 31 = .ok (.aload_n 0, 1) := dall dgX12_findBest_202 18 rfl
theorem dX12_findBest_32 : decode cX12_findBest 32 = .ok (.aload_n 0, 1) := dall dgX12_findBest_202 19 rfl
theorem dX12_findBest_33 : decode cX12_findBest 33 = .ok (.getfield 69, 3) := dall dgX12_findBest_202 20 rfl
theorem dX12_findBest_36 : decode cX12_findBest 36 = .ok (.invokevirtual 229, 3) := dall dgX12_findBest_202 21 rfl
theorem dX12_findBest_39 : decode cX12_findBest 39 = .ok (.istore_n 3, 1) := dall dgX12_findBest_202 22 rfl
theorem dX12_findBest_40 : decode cX12_findBest 40 = .ok (.iload_n 2, 1) := dall dgX12_findBest_202 23 rfl
theorem dX12_findBest_41 : decode cX12_findBest 41 = .ok (.ifCond .eq 11, 3) := dall dgX12_findBest_202 24 rfl
theorem dX12_findBest_44 : decode cX12_findBest 44 = .ok (.iload_n 3, 1) := dall dgX12_findBest_202 25 rfl
theorem dX12_findBest_45 : decode cX12_findBest 45 = .ok (.aload_n 0, 1) := dall dgX12_findBest_202 26 rfl
theorem dX12_findBest_46 : decode cX12_findBest 46 = .ok (.getfield 233, 3) := dall dgX12_findBest_202 27 rfl
theorem dX12_findBest_49 : decode cX12_findBest 49 = .ok (.if_icmp .le 40, 3) := dall dgX12_findBest_202 28 rfl
theorem dX12_findBest_52 : decode cX12_findBest 52 = .ok (.aload_n 0, 1) := dall dgX12_findBest_202 29 rfl
theorem dX12_findBest_53 : decode cX12_findBest 53 = .ok (.iload_n 3, 1) := dall dgX12_findBest_202 30 rfl
theorem dX12_findBest_54 : decode cX12_findBest 54 = .ok (.putfield 233, 3) := dall dgX12_findBest_202 31 rfl
theorem dX12_findBest_57 : decode cX12_findBest 57 = .ok (.iconst 0, 1) := dall dgX12_findBest_202 32 rfl
theorem dX12_findBest_58 : decode cX12_findBest 58 = .ok (.istore 4, 2) := dall dgX12_findBest_202 33 rfl
theorem dX12_findBest_60 : decode cX12_findBest 60 = .ok (.iload 4, 2) := dall dgX12_findBest_202 34 rfl
theorem dX12_findBest_62 : decode cX12_findBest 62 = .ok (.aload_n 0, 1) := dall dgX12_findBest_202 35 rfl
theorem dX12_findBest_63 : decode cX12_findBest 63 = .ok (.getfield 191, 3) := dall dgX12_findBest_202 36 rfl
theorem dX12_findBest_66 : decode cX12_findBest 66 = .ok (.if_icmp .ge 23, 3) := dall dgX12_findBest_202 37 rfl
theorem dX12_findBest_69 : decode cX12_findBest 69 = .ok (.aload_n 0, 1) := dall dgX12_findBest_202 38 rfl
theorem dX12_findBest_70 : decode cX12_findBest 70 = .ok (.getfield 72, 3) := dall dgX12_findBest_202 39 rfl
theorem dX12_findBest_73 : decode cX12_findBest 73 = .ok (.iload 4, 2) := dall dgX12_findBest_202 40 rfl
theorem dX12_findBest_75 : decode cX12_findBest 75 = .ok (.aload_n 0, 1) := dall dgX12_findBest_202 41 rfl
theorem dX12_findBest_76 : decode cX12_findBest 76 = .ok (.getfield 69, 3) := dall dgX12_findBest_202 42 rfl
theorem dX12_findBest_79 : decode cX12_findBest 79 = .ok (.iload 4, 2) := dall dgX12_findBest_202 43 rfl
theorem dX12_findBest_81 : decode cX12_findBest 81 = .ok (.iaload, 1) := dall dgX12_findBest_202 44 rfl
theorem dX12_findBest_82 : decode cX12_findBest 82 = .ok (.iastore, 1) := dall dgX12_findBest_202 45 rfl
theorem dX12_findBest_83 : decode cX12_findBest 83 = .ok (.iinc 4 1, 3) := dall dgX12_findBest_202 46 rfl
theorem dX12_findBest_86 : decode cX12_findBest 86 = .ok (.goto (-26), 3) := dall dgX12_findBest_202 47 rfl
theorem dX12_findBest_89 : decode cX12_findBest 89 = .ok (.iconst 1, 1) := dall dgX12_findBest_202 48 rfl
theorem dX12_findBest_90 : decode cX12_findBest 90 = .ok (.istore_n 2, 1) := dall dgX12_findBest_202 49 rfl
def lgX12_findBest_203 : List (Nat × Instr × Nat) := [(91, .aload_n 0, 1), (92, .invokevirtual 236, 3), (95, .istore_n 1, 1), (96, .goto (-69), 3), (99, .iconst 1, 1), (100, .ireturn, 1)]
theorem dgX12_findBest_203 : ∀ q ∈ lgX12_findBest_203, decode cX12_findBest q.1 = .ok (q.2.1, q.2.2) := by decide +kernel
theorem dX12_findBest_91 : decode cX12_findBest 91 = .ok (.aload_n 0, 1) := dall dgX12_findBest_203 0 rfl
theorem dX12_findBest_92 : decode cX12_findBest 92 = .ok (.invokevirtual 236, 3) := dall dgX12_findBest_203 1 rfl
theorem dX12_findBest_95 : decode cX12_findBest 95 = .ok (.istore_n 1, 1) := dall dgX12_findBest_203 2 rfl
theorem dX12_findBest_96 : decode cX12_findBest 96 = .ok (.goto (-69), 3) := dall dgX12_findBest_203 3 rfl
theorem dX12_findBest_99 : decode cX12_findBest 99 = .ok (.iconst 1, 1) := dall dgX12_findBest_203 4 rfl
theorem dX12_findBest_100 : decode cX12_findBest 100 = .ok (.ireturn, 1) := dall dgX12_findBest_203 5 rfl
def lgX12_join_204 : List (Nat × Instr × Nat) := [(0, .iconst 0, 1), (1, .istore_n 1, 1), (2, .iload_n 1, 1), (3, .aload_n 0, 1), (4, .getfield 191, 3), (7, .if_icmp .ge 16, 3), (10, .aload_n 0, 1), (11, .getfield 75, 3), (14, .iload_n 1, 1), (15, .iload_n 1, 1), (16, .iastore, 1), (17, .iinc 1 1, 3), (20, .goto (-18), 3), (23, .iconst 1, 1), (24, .istore_n 1, 1), (25, .iload_n 1, 1), (26, .ifCond .eq 243, 3), (29, .bipush (-9), 2), (31, .istore_n 2, 1), (32, .bipush (-9), 2), (34, .istore_n 3, 1), (35, .iconst 0, 1), (36, .istore 4, 2), (38, .iconst 0, 1), (39, .istore 5, 2), (41, .iload 5, 2), (43, .aload_n 0, 1), (44, .getfield 191, 3), (47, .if_icmp .ge 156, 3), (50, .iload 5, 2), (52, .iconst 1, 1), (53, .iadd, 1), (54, .istore 6, 2), (56, .iload 6, 2), (58, .aload_n 0, 1), (59, .getfield 191, 3), (62, .if_icmp .ge 135, 3), (65, .aload_n 0, 1), (66, .getfield 75, 3), (69, .iload 5, 2), (71, .iaload, 1), (72, .iload 5, 2), (74, .if_icmp .ne 117, 3), (77, .aload_n 0, 1), (78, .getfield 75, 3), (81, .iload 6, 2), (83, .iaload, 1), (84, .iload 6, 2), (86, .if_icmp .ne 105, 3), (89, .iconst 0, 1)]
theorem dgX12_join_204 : ∀ q ∈ lgX12_join_204, decode cX12_join q.1 = .ok (q.2.1, q.2.2) := by decide +kernel
theorem dX12_join_0 : decode cX12_join 0 = .ok (.iconst 0, 1) := dall dgX12_join_204 0 rfl
theorem dX12_join_1 : decode cX12_join 1 = .ok (.istore_n 1, 1) := dall dgX12_join_204 1 rfl
theorem dX12_join_2 : decode cX12_join 2 = .ok (.iload_n 1, 1) := dall dgX12_join_204 2 rfl
theorem dX12_join_3 : decode cX12_join 3 = .ok (.aload_n 0, 1) := dall dgX12_join_204 3 rfl
theorem dX12_join_4 : decode cX12_join 4 = .ok (.getfield 191, 3) := dall dgX12_join_204 4 rfl
theorem dX12_join_7 : decode cX12_join 7 = .ok (.if_icmp .ge 16, 3) := dall dgX12_join_204 5 rfl
theorem dX12_join_10 : decode cX12_join 10 = .ok (.aload_n 0, 1) := dall dgX12_join_204 6 rfl
theorem dX12_join_11 : decode cX12_join 11 = .ok (.getfield 75, 3) := dall dgX12_join_204 7 rfl
theorem dX12_join_14 : decode cX12_join 14 = .ok (.iload_n 1, 1) := dall dgX12_join_204 8 rfl
theorem dX12_join_15 : decode cX12_join 15 = .ok (.iload_n 1, 1) := dall dgX12_join_204 9 rfl
theorem dX12_join_16 : decode cX12_join 16 = .ok (.iastore, 1) := dall dgX12_join_204 10 rfl
theorem dX12_join_17 : decode cX12_join 17 = .ok (.iinc 1 1, 3) := dall dgX12_join_204 11 rfl
theorem dX12_join_20 : decode cX12_join 20 = .ok (.goto (-18), 3) := dall dgX12_join_204 12 rfl
theorem dX12_join_23 : decode cX12_join 23 = .ok (.iconst 1, 1) := dall dgX12_join_204 13 rfl
theorem dX12_join_24 : decode cX12_join 24 = .ok (.istore_n 1, 1) := dall dgX12_join_204 14 rfl
theorem dX12_join_25 : decode cX12_join 25 = .ok (.iload_n 1, 1) := dall dgX12_join_204 15 rfl
theorem dX12_join_26 : decode cX12_join 26 = .ok (.ifCond .eq 243, 3) := dall dgX12_join_204 16 rfl
theorem dX12_join_29 : decode cX12_join 29 = .ok (.bipush (-9), 2) := dall dgX12_join_204 17 rfl
theorem dX12_join_31 : decode cX12_join 31 = .ok (.istore_n 2, 1) := dall dgX12_join_204 18 rfl
theorem dX12_join_32 : decode cX12_join 32 = .ok (.bipush (-9), 2) := dall dgX12_join_204 19 rfl
theorem dX12_join_34 : decode cX12_join 34 = .ok (.istore_n 3, 1) := dall dgX12_join_204 20 rfl
theorem dX12_join_35 : decode cX12_join 35 = .ok (.iconst 0, 1) := dall dgX12_join_204 21 rfl
theorem dX12_join_36 : decode cX12_join 36 = .ok (.istore 4, 2) := dall dgX12_join_204 22 rfl
theorem dX12_join_38 : decode cX12_join 38 = .ok (.iconst 0, 1) := dall dgX12_join_204 23 rfl
theorem dX12_join_39 : decode cX12_join 39 = .ok (.istore 5, 2) := dall dgX12_join_204 24 rfl
theorem dX12_join_41 : decode cX12_join 41 = .ok (.iload 5, 2) := dall dgX12_join_204 25 rfl
theorem dX12_join_43 : decode cX12_join 43 = .ok (.aload_n 0, 1) := dall dgX12_join_204 26 rfl
theorem dX12_join_44 : decode cX12_join 44 = .ok (.getfield 191, 3) := dall dgX12_join_204 27 rfl
theorem dX12_join_47 : decode cX12_join 47 = .ok (.if_icmp .ge 156, 3) := dall dgX12_join_204 28 rfl
theorem dX12_join_50 : decode cX12_join 50 = .ok (.iload 5, 2) := dall dgX12_join_204 29 rfl
theorem dX12_join_52 : decode cX12_join 52 = .ok (.iconst 1, 1) := dall dgX12_join_204 30 rfl
theorem dX12_join_53 : decode cX12_join 53 = .ok (.iadd, 1) := dall dgX12_join_204 31 rfl
theorem dX12_join_54 : decode cX12_join 54 = .ok (.istore 6, 2) := dall dgX12_join_204 32 rfl
theorem dX12_join_56 : decode cX12_join 56 = .ok (.iload 6, 2) := dall dgX12_join_204 33 rfl
theorem dX12_join_58 : decode cX12_join 58 = .ok (.aload_n 0, 1) := dall dgX12_join_204 34 rfl
theorem dX12_join_59 : decode cX12_join 59 = .ok (.getfield 191, 3) := dall dgX12_join_204 35 rfl
theorem dX12_join_62 : decode cX12_join 62 = .ok (.if_icmp .ge 135, 3) := dall dgX12_join_204 36 rfl
theorem dX12_join_65 : decode cX12_join 65 = .ok (.aload_n 0, 1) := dall dgX12_join_204 37 rfl
theorem dX12_join_66 : decode cX12_join 66 = .ok (.getfield 75, 3) := dall dgX12_join_204 38 rfl
theorem dX12_join_69 : decode cX12_join 69 = .ok (.iload 5, 2) := dall dgX12_join_204 39 rfl
theorem dX12_join_71 : decode cX12_join 71 = .ok (.iaload, 1) := dall dgX12_join_204 40 rfl
theorem dX12_join_72 : decode cX12_join 72 = .ok (.iload 5, 2) := dall dgX12_join_204 41 rfl
theorem dX12_join_74 : decode cX12_join 74 = .ok (.if_icmp .ne 117, 3) := dall dgX12_join_204 42 rfl
theorem dX12_join_77 : decode cX12_join 77 = .ok (.aload_n 0, 1) := dall dgX12_join_204 43 rfl
theorem dX12_join_78 : decode cX12_join 78 = .ok (.getfield 75, 3) := dall dgX12_join_204 44 rfl
theorem dX12_join_81 : decode cX12_join 81 = .ok (.iload 6, 2) := dall dgX12_join_204 45 rfl
theorem dX12_join_83 : decode cX12_join 83 = .ok (.iaload, 1) := dall dgX12_join_204 46 rfl
theorem dX12_join_84 : decode cX12_join 84 = .ok (.iload 6, 2) := dall dgX12_join_204 47 rfl
theorem dX12_join_86 : decode cX12_join 86 = .ok (.if_icmp .ne 105, 3) := dall dgX12_join_204 48 rfl
theorem dX12_join_89 : decode cX12_join 89 = .ok (.iconst 0, 1) := dall dgX12_join_204 49 rfl
def lgX12_join_205 : List (Nat × Instr × Nat) := [(90, .istore 7, 2), (92, .iconst 0, 1), (93, .istore 8, 2), (95, .iload 8, 2), (97, .aload_n 0, 1), (98, .getfield 191, 3), (101, .if_icmp .ge 73, 3), (104, .iconst 0, 1), (105, .istore 9, 2), (107, .iload 9, 2), (109, .aload_n 0, 1), (110, .getfield 191, 3), (113, .if_icmp .ge 55, 3), (116, .iload 7, 2), (118, .aload_n 0, 1), (119, .getfield 75, 3), (122, .iload 8, 2), (124, .iaload, 1), (125, .iload 5, 2), (127, .if_icmp .ne 31, 3), (130, .aload_n 0, 1), (131, .getfield 75, 3), (134, .iload 9, 2), (136, .iaload, 1), (137, .iload 6, 2), (139, .if_icmp .ne 19, 3), (142, .aload_n 0, 1), (143, .getfield 78, 3), (146, .bipush 9, 2), (148, .iload 8, 2), (150, .imul, 1), (151, .iload 9, 2), (153, .iadd, 1), (154, .iaload, 1), (155, .goto 4, 3), (158, .iconst 0, 1), (159, .iadd, 1), (160, .istore 7, 2), (162, .iinc 9 1, 3), (165, .goto (-58), 3), (168, .iinc 8 1, 3), (171, .goto (-76), 3), (174, .iload 7, 2), (176, .iload 4, 2), (178, .if_icmp .le 13, 3), (181, .iload 7, 2), (183, .istore 4, 2), (185, .iload 5, 2), (187, .istore_n 2, 1), (188, .iload 6, 2)]
theorem dgX12_join_205 : ∀ q ∈ lgX12_join_205, decode cX12_join q.1 = .ok (q.2.1, q.2.2) := by decide +kernel
theorem dX12_join_90 : decode cX12_join 90 = .ok (.istore 7, 2) := dall dgX12_join_205 0 rfl
theorem dX12_join_92 : decode cX12_join 92 = .ok (.iconst 0, 1) := dall dgX12_join_205 1 rfl
theorem dX12_join_93 : decode cX12_join 93 = .ok (.istore 8, 2) := dall dgX12_join_205 2 rfl
theorem dX12_join_95 : decode cX12_join 95 = .ok (.iload 8, 2) := dall dgX12_join_205 3 rfl
theorem dX12_join_97 : decode cX12_join 97 = .ok (.aload_n 0, 1) := dall dgX12_join_205 4 rfl
theorem dX12_join_98 : decode cX12_join 98 = .ok (.getfield 191, 3) := dall dgX12_join_205 5 rfl
theorem dX12_join_101 : decode cX12_join 101 = .ok (.if_icmp .ge 73, 3) := dall dgX12_join_205 6 rfl
theorem dX12_join_104 : decode cX12_join 104 = .ok (.iconst 0, 1) := dall dgX12_join_205 7 rfl
theorem dX12_join_105 : decode cX12_join 105 = .ok (.istore 9, 2) := dall dgX12_join_205 8 rfl
theorem dX12_join_107 : decode cX12_join 107 = .ok (.iload 9, 2) := dall dgX12_join_205 9 rfl
theorem dX12_join_109 : decode cX12_join 109 = .ok (.aload_n 0, 1) := dall dgX12_join_205 10 rfl
theorem dX12_join_110 : decode cX12_join 110 = .ok (.getfield 191, 3) := dall dgX12_join_205 11 rfl
theorem dX12_join_113 : decode cX12_join 113 = .ok (.if_icmp .ge 55, 3) := dall dgX12_join_205 12 rfl
theorem dX12_join_116 : decode cX12_join 116 = .ok (.iload 7, 2) := dall dgX12_join_205 13 rfl
theorem dX12_join_118 : decode cX12_join 118 = .ok (.aload_n 0, 1) := dall dgX12_join_205 14 rfl
theorem dX12_join_119 : decode cX12_join 119 = .ok (.getfield 75, 3) := dall dgX12_join_205 15 rfl
theorem dX12_join_122 : decode cX12_join 122 = .ok (.iload 8, 2) := dall dgX12_join_205 16 rfl
theorem dX12_join_124 : decode cX12_join 124 = .ok (.iaload, 1) := dall dgX12_join_205 17 rfl
theorem dX12_join_125 : decode cX12_join 125 = .ok (.iload 5, 2) := dall dgX12_join_205 18 rfl
theorem dX12_join_127 : decode cX12_join 127 = .ok (.if_icmp .ne 31, 3) := dall dgX12_join_205 19 rfl
theorem dX12_join_130 : decode cX12_join 130 = .ok (.aload_n 0, 1) := dall dgX12_join_205 20 rfl
theorem dX12_join_131 : decode cX12_join 131 = .ok (.getfield 75, 3) := dall dgX12_join_205 21 rfl
theorem dX12_join_134 : decode cX12_join 134 = .ok (.iload 9, 2) := dall dgX12_join_205 22 rfl
theorem dX12_join_136 : decode cX12_join 136 = .ok (.iaload, 1) := dall dgX12_join_205 23 rfl
theorem dX12_join_137 : decode cX12_join 137 = .ok (.iload 6, 2) := dall dgX12_join_205 24 rfl
theorem dX12_join_139 : decode cX12_join 139 = .ok (.if_icmp .ne 19, 3) := dall dgX12_join_205 25 rfl
theorem dX12_join_142 : decode cX12_join 142 = .ok (.aload_n 0, 1) := dall dgX12_join_205 26 rfl
theorem dX12_join_143 : decode cX12_join 143 = .ok (.getfield 78, 3) := dall dgX12_join_205 27 rfl
theorem dX12_join_146 : decode cX12_join 146 = .ok (.bipush 9, 2) := dall dgX12_join_205 28 rfl
theorem dX12_join_148 : decode cX12_join 148 = .ok (.iload 8, 2) := dall dgX12_join_205 29 rfl
theorem dX12_join_150 : decode cX12_join 150 = .ok (.imul, 1) := dall dgX12_join_205 30 rfl
theorem dX12_join_151 : decode cX12_join 151 = .ok (.iload 9, 2) := dall dgX12_join_205 31 rfl
theorem dX12_join_153 : decode cX12_join 153 = .ok (.iadd, 1) := dall dgX12_join_205 32 rfl
theorem dX12_join_154 : decode cX12_join 154 = .ok (.iaload, 1) := dall dgX12_join_205 33 rfl
theorem dX12_join_155 : decode cX12_join 155 = .ok (.goto 4, 3) := dall dgX12_join_205 34 rfl
theorem dX12_join_158 : decode cX12_join 158 = .ok (.iconst 0, 1) := dall dgX12_join_205 35 rfl
theorem dX12_join_159 : decode cX12_join 159 = .ok (.iadd, 1) := dall dgX12_join_205 36 rfl
theorem dX12_join_160 : decode cX12_join 160 = .ok (.istore 7, 2) := dall dgX12_join_205 37 rfl
theorem dX12_join_162 : decode cX12_join 162 = .ok (.iinc 9 1, 3) := dall dgX12_join_205 38 rfl
theorem dX12_join_165 : decode cX12_join 165 = .ok (.goto (-58), 3) := dall dgX12_join_205 39 rfl
theorem dX12_join_168 : decode cX12_join 168 = .ok (.iinc 8 1, 3) := dall dgX12_join_205 40 rfl
theorem dX12_join_171 : decode cX12_join 171 = .ok (.goto (-76), 3) := dall dgX12_join_205 41 rfl
theorem dX12_join_174 : decode cX12_join 174 = .ok (.iload 7, 2) := dall dgX12_join_205 42 rfl
theorem dX12_join_176 : decode cX12_join 176 = .ok (.iload 4, 2) := dall dgX12_join_205 43 rfl
theorem dX12_join_178 : decode cX12_join 178 = .ok (.if_icmp .le 13, 3) := dall dgX12_join_205 44 rfl
theorem dX12_join_181 : decode cX12_join 181 = .ok (.iload 7, 2) := dall dgX12_join_205 45 rfl
theorem dX12_join_183 : decode cX12_join 183 = .ok (.istore 4, 2) := dall dgX12_join_205 46 rfl
theorem dX12_join_185 : decode cX12_join 185 = .ok (.iload 5, 2) := dall dgX12_join_205 47 rfl
theorem dX12_join_187 : decode cX12_join 187 = .ok (.istore_n 2, 1) := dall dgX12_join_205 48 rfl
theorem dX12_join_188 : decode cX12_join 188 = .ok (.iload 6, 2) := dall dgX12_join_205 49 rfl
def lgX12_join_206 : List (Nat × Instr × Nat) := [(190, .istore_n 3, 1), (191, .iinc 6 1, 3), (194, .goto (-138), 3), (197, .iinc 5 1, 3), (200, .goto (-159), 3), (203, .iload_n 2, 1), (204, .bipush (-9), 2), (206, .if_icmp .eq 7, 3), (209, .iconst 1, 1), (210, .goto 4, 3), (213, .iconst 0, 1), (214, .istore_n 1, 1), (215, .iconst 0, 1), (216, .istore 5, 2), (218, .iload 5, 2), (220, .aload_n 0, 1), (221, .getfield 191, 3), (224, .if_icmp .ge 42, 3), (227, .iload_n 1, 1), (228, .ifCond .eq 38, 3), (231, .aload_n 0, 1), (232, .getfield 75, 3), (235, .iload 5, 2), (237, .aload_n 0, 1), (238, .getfield 75, 3), (241, .iload 5, 2), (243, .iaload, 1), (244, .iload_n 3, 1), (245, .if_icmp .ne 7, 3), (248, .iload_n 2, 1), (249, .goto 10, 3), (252, .aload_n 0, 1), (253, .getfield 75, 3), (256, .iload 5, 2), (258, .iaload, 1), (259, .iastore, 1), (260, .iinc 5 1, 3), (263, .goto (-45), 3), (266, .goto (-241), 3), (269, .iconst 0, 1), (270, .istore_n 2, 1), (271, .iconst 0, 1), (272, .istore_n 3, 1), (273, .iload_n 3, 1), (274, .aload_n 0, 1), (275, .getfield 191, 3), (278, .if_icmp .ge 58, 3), (281, .aload_n 0, 1), (282, .getfield 69, 3), (285, .iload_n 3, 1)]
theorem dgX12_join_206 : ∀ q ∈ lgX12_join_206, decode cX12_join q.1 = .ok (q.2.1, q.2.2) := by decide +kernel
theorem dX12_join_190 : decode cX12_join 190 = .ok (.istore_n 3, 1) := dall dgX12_join_206 0 rfl
theorem dX12_join_191 : decode cX12_join 191 = .ok (.iinc 6 1, 3) := dall dgX12_join_206 1 rfl
theorem dX12_join_194 : decode cX12_join 194 = .ok (.goto (-138), 3) := dall dgX12_join_206 2 rfl
theorem dX12_join_197 : decode cX12_join 197 = .ok (.iinc 5 1, 3) := dall dgX12_join_206 3 rfl
theorem dX12_join_200 : decode cX12_join 200 = .ok (.goto (-159), 3) := dall dgX12_join_206 4 rfl
theorem dX12_join_203 : decode cX12_join 203 = .ok (.iload_n 2, 1) := dall dgX12_join_206 5 rfl
theorem dX12_join_204 : decode cX12_join 204 = .ok (.bipush (-9), 2) := dall dgX12_join_206 6 rfl
theorem dX12_join_206 : decode cX12_join 206 = .ok (.if_icmp .eq 7, 3) := dall dgX12_join_206 7 rfl
theorem dX12_join_209 : decode cX12_join 209 = .ok (.iconst 1, 1) := dall dgX12_join_206 8 rfl
theorem dX12_join_210 : decode cX12_join 210 = .ok (.goto 4, 3) := dall dgX12_join_206 9 rfl
theorem dX12_join_213 : decode cX12_join 213 = .ok (.iconst 0, 1) := dall dgX12_join_206 10 rfl
theorem dX12_join_214 : decode cX12_join 214 = .ok (.istore_n 1, 1) := dall dgX12_join_206 11 rfl
theorem dX12_join_215 : decode cX12_join 215 = .ok (.iconst 0, 1) := dall dgX12_join_206 12 rfl
theorem dX12_join_216 : decode cX12_join 216 = .ok (.istore 5, 2) := dall dgX12_join_206 13 rfl
theorem dX12_join_218 : decode cX12_join 218 = .ok (.iload 5, 2) := dall dgX12_join_206 14 rfl
theorem dX12_join_220 : decode cX12_join 220 = .ok (.aload_n 0, 1) := dall dgX12_join_206 15 rfl
theorem dX12_join_221 : decode cX12_join 221 = .ok (.getfield 191, 3) := dall dgX12_join_206 16 rfl
theorem dX12_join_224 : decode cX12_join 224 = .ok (.if_icmp .ge 42, 3) := dall dgX12_join_206 17 rfl
theorem dX12_join_227 : decode cX12_join 227 = .ok (.iload_n 1, 1) := dall dgX12_join_206 18 rfl
theorem dX12_join_228 : decode cX12_join 228 = .ok (.ifCond .eq 38, 3) := dall dgX12_join_206 19 rfl
theorem dX12_join_231 : decode cX12_join 231 = .ok (.aload_n 0, 1) := dall dgX12_join_206 20 rfl
theorem dX12_join_232 : decode cX12_join 232 = .ok (.getfield 75, 3) := dall dgX12_join_206 21 rfl
theorem dX12_join_235 : decode cX12_join 235 = .ok (.iload 5, 2) := dall dgX12_join_206 22 rfl
theorem dX12_join_237 : decode cX12_join 237 = .ok (.aload_n 0, 1) := dall dgX12_join_206 23 rfl
theorem dX12_join_238 : decode cX12_join 238 = .ok (.getfield 75, 3) := dall dgX12_join_206 24 rfl
theorem dX12_join_241 : decode cX12_join 241 = .ok (.iload 5, 2) := dall dgX12_join_206 25 rfl
theorem dX12_join_243 : decode cX12_join 243 = .ok (.iaload, 1) := dall dgX12_join_206 26 rfl
theorem dX12_join_244 : decode cX12_join 244 = .ok (.iload_n 3, 1) := dall dgX12_join_206 27 rfl
theorem dX12_join_245 : decode cX12_join 245 = .ok (.if_icmp .ne 7, 3) := dall dgX12_join_206 28 rfl
theorem dX12_join_248 : decode cX12_join 248 = .ok (.iload_n 2, 1) := dall dgX12_join_206 29 rfl
theorem dX12_join_249 : decode cX12_join 249 = .ok (.goto 10, 3) := dall dgX12_join_206 30 rfl
theorem dX12_join_252 : decode cX12_join 252 = .ok (.aload_n 0, 1) := dall dgX12_join_206 31 rfl
theorem dX12_join_253 : decode cX12_join 253 = .ok (.getfield 75, 3) := dall dgX12_join_206 32 rfl
theorem dX12_join_256 : decode cX12_join 256 = .ok (.iload 5, 2) := dall dgX12_join_206 33 rfl
theorem dX12_join_258 : decode cX12_join 258 = .ok (.iaload, 1) := dall dgX12_join_206 34 rfl
theorem dX12_join_259 : decode cX12_join 259 = .ok (.iastore, 1) := dall dgX12_join_206 35 rfl
theorem dX12_join_260 : decode cX12_join 260 = .ok (.iinc 5 1, 3) := dall dgX12_join_206 36 rfl
theorem dX12_join_263 : decode cX12_join 263 = .ok (.goto (-45), 3) := dall dgX12_join_206 37 rfl
theorem dX12_join_266 : decode cX12_join 266 = .ok (.goto (-241), 3) := dall dgX12_join_206 38 rfl
theorem dX12_join_269 : decode cX12_join 269 = .ok (.iconst 0, 1) := dall dgX12_join_206 39 rfl
theorem dX12_join_270 : decode cX12_join 270 = .ok (.istore_n 2, 1) := dall dgX12_join_206 40 rfl
theorem dX12_join_271 : decode cX12_join 271 = .ok (.iconst 0, 1) := dall dgX12_join_206 41 rfl
theorem dX12_join_272 : decode cX12_join 272 = .ok (.istore_n 3, 1) := dall dgX12_join_206 42 rfl
theorem dX12_join_273 : decode cX12_join 273 = .ok (.iload_n 3, 1) := dall dgX12_join_206 43 rfl
theorem dX12_join_274 : decode cX12_join 274 = .ok (.aload_n 0, 1) := dall dgX12_join_206 44 rfl
theorem dX12_join_275 : decode cX12_join 275 = .ok (.getfield 191, 3) := dall dgX12_join_206 45 rfl
theorem dX12_join_278 : decode cX12_join 278 = .ok (.if_icmp .ge 58, 3) := dall dgX12_join_206 46 rfl
theorem dX12_join_281 : decode cX12_join 281 = .ok (.aload_n 0, 1) := dall dgX12_join_206 47 rfl
theorem dX12_join_282 : decode cX12_join 282 = .ok (.getfield 69, 3) := dall dgX12_join_206 48 rfl
theorem dX12_join_285 : decode cX12_join 285 = .ok (.iload_n 3, 1) := dall dgX12_join_206 49 rfl
def lgX12_join_207 : List (Nat × Instr × Nat) := [(286, .aload_n 0, 1), (287, .getfield 75, 3), (290, .iload_n 3, 1), (291, .iaload, 1), (292, .iload_n 3, 1), (293, .if_icmp .ne 7, 3), (296, .iload_n 2, 1), (297, .goto 14, 3), (300, .aload_n 0, 1), (301, .getfield 69, 3), (304, .aload_n 0, 1), (305, .getfield 75, 3), (308, .iload_n 3, 1), (309, .iaload, 1), (310, .iaload, 1), (311, .iastore, 1), (312, .iload_n 2, 1), (313, .aload_n 0, 1), (314, .getfield 75, 3), (317, .iload_n 3, 1), (318, .iaload, 1), (319, .iload_n 3, 1), (320, .if_icmp .ne 7, 3), (323, .iconst 1, 1), (324, .goto 4, 3), (327, .iconst 0, 1), (328, .iadd, 1), (329, .istore_n 2, 1), (330, .iinc 3 1, 3), (333, .goto (-60), 3), (336, .iconst 0, 1), (337, .istore_n 3, 1), (338, .iload_n 3, 1), (339, .aload_n 0, 1), (340, .getfield 191, 3), (343, .if_icmp .ge 21, 3), (346, .aload_n 0, 1), (347, .getfield 75, 3), (350, .iload_n 3, 1), (351, .aload_n 0, 1), (352, .getfield 69, 3), (355, .iload_n 3, 1), (356, .iaload, 1), (357, .iastore, 1), (358, .iinc 3 1, 3), (361, .goto (-23), 3), (364, .return_, 1)]
theorem dgX12_join_207 : ∀ q ∈ lgX12_join_207, decode cX12_join q.1 = .ok (q.2.1, q.2.2) := by decide +kernel
theorem dX12_join_286 : decode cX12_join 286 = .ok (.aload_n 0, 1) := dall dgX12_join_207 0 rfl
theorem dX12_join_287 : decode cX12_join 287 = .ok (.getfield 75, 3) := dall dgX12_join_207 1 rfl
theorem dX12_join_290 : decode cX12_join 290 = .ok (.iload_n 3, 1) := dall dgX12_join_207 2 rfl
theorem dX12_join_291 : decode cX12_join 291 = .ok (.iaload, 1) := dall dgX12_join_207 3 rfl
theorem dX12_join_292 : decode cX12_join 292 = .ok (.iload_n 3, 1) := dall dgX12_join_207 4 rfl
theorem dX12_join_293 : decode cX12_join 293 = .ok (.if_icmp .ne 7, 3) := dall dgX12_join_207 5 rfl
theorem dX12_join_296 : decode cX12_join 296 = .ok (.iload_n 2, 1) := dall dgX12_join_207 6 rfl
theorem dX12_join_297 : decode cX12_join 297 = .ok (.goto 14, 3) := dall dgX12_join_207 7 rfl
theorem dX12_join_300 : decode cX12_join 300 = .ok (.aload_n 0, 1) := dall dgX12_join_207 8 rfl
theorem dX12_join_301 : decode cX12_join 301 = .ok (.getfield 69, 3) := dall dgX12_join_207 9 rfl
theorem dX12_join_304 : decode cX12_join 304 = .ok (.aload_n 0, 1) := dall dgX12_join_207 10 rfl
theorem dX12_join_305 : decode cX12_join 305 = .ok (.getfield 75, 3) := dall dgX12_join_207 11 rfl
theorem dX12_join_308 : decode cX12_join 308 = .ok (.iload_n 3, 1) := dall dgX12_join_207 12 rfl
theorem dX12_join_309 : decode cX12_join 309 = .ok (.iaload, 1) := dall dgX12_join_207 13 rfl
theorem dX12_join_310 : decode cX12_join 310 = .ok (.iaload, 1) := dall dgX12_join_207 14 rfl
theorem dX12_join_311 : decode cX12_join 311 = .ok (.iastore, 1) := dall dgX12_join_207 15 rfl
theorem dX12_join_312 : decode cX12_join 312 = .ok (.iload_n 2, 1) := dall dgX12_join_207 16 rfl
theorem dX12_join_313 : decode cX12_join 313 = .ok (.aload_n 0, 1) := dall dgX12_join_207 17 rfl
theorem dX12_join_314 : decode cX12_join 314 = .ok (.getfield 75, 3) := dall dgX12_join_207 18 rfl
theorem dX12_join_317 : decode cX12_join 317 = .ok (.iload_n 3, 1) := dall dgX12_join_207 19 rfl
theorem dX12_join_318 : decode cX12_join 318 = .ok (.iaload, 1) := dall dgX12_join_207 20 rfl
theorem dX12_join_319 : decode cX12_join 319 = .ok (.iload_n 3, 1) := dall dgX12_join_207 21 rfl
theorem dX12_join_320 : decode cX12_join 320 = .ok (.if_icmp .ne 7, 3) := dall dgX12_join_207 22 rfl
theorem dX12_join_323 : decode cX12_join 323 = .ok (.iconst 1, 1) := dall dgX12_join_207 23 rfl
theorem dX12_join_324 : decode cX12_join 324 = .ok (.goto 4, 3) := dall dgX12_join_207 24 rfl
theorem dX12_join_327 : decode cX12_join 327 = .ok (.iconst 0, 1) := dall dgX12_join_207 25 rfl
theorem dX12_join_328 : decode cX12_join 328 = .ok (.iadd, 1) := dall dgX12_join_207 26 rfl
theorem dX12_join_329 : decode cX12_join 329 = .ok (.istore_n 2, 1) := dall dgX12_join_207 27 rfl
theorem dX12_join_330 : decode cX12_join 330 = .ok (.iinc 3 1, 3) := dall dgX12_join_207 28 rfl
theorem dX12_join_333 : decode cX12_join 333 = .ok (.goto (-60), 3) := dall dgX12_join_207 29 rfl
theorem dX12_join_336 : decode cX12_join 336 = .ok (.iconst 0, 1) := dall dgX12_join_207 30 rfl
theorem dX12_join_337 : decode cX12_join 337 = .ok (.istore_n 3, 1) := dall dgX12_join_207 31 rfl
theorem dX12_join_338 : decode cX12_join 338 = .ok (.iload_n 3, 1) := dall dgX12_join_207 32 rfl
theorem dX12_join_339 : decode cX12_join 339 = .ok (.aload_n 0, 1) := dall dgX12_join_207 33 rfl
theorem dX12_join_340 : decode cX12_join 340 = .ok (.getfield 191, 3) := dall dgX12_join_207 34 rfl
theorem dX12_join_343 : decode cX12_join 343 = .ok (.if_icmp .ge 21, 3) := dall dgX12_join_207 35 rfl
theorem dX12_join_346 : decode cX12_join 346 = .ok (.aload_n 0, 1) := dall dgX12_join_207 36 rfl
theorem dX12_join_347 : decode cX12_join 347 = .ok (.getfield 75, 3) := dall dgX12_join_207 37 rfl
theorem dX12_join_350 : decode cX12_join 350 = .ok (.iload_n 3, 1) := dall dgX12_join_207 38 rfl
theorem dX12_join_351 : decode cX12_join 351 = .ok (.aload_n 0, 1) := dall dgX12_join_207 39 rfl
theorem dX12_join_352 : decode cX12_join 352 = .ok (.getfield 69, 3) := dall dgX12_join_207 40 rfl
theorem dX12_join_355 : decode cX12_join 355 = .ok (.iload_n 3, 1) := dall dgX12_join_207 41 rfl
theorem dX12_join_356 : decode cX12_join 356 = .ok (.iaload, 1) := dall dgX12_join_207 42 rfl
theorem dX12_join_357 : decode cX12_join 357 = .ok (.iastore, 1) := dall dgX12_join_207 43 rfl
theorem dX12_join_358 : decode cX12_join 358 = .ok (.iinc 3 1, 3) := dall dgX12_join_207 44 rfl
theorem dX12_join_361 : decode cX12_join 361 = .ok (.goto (-23), 3) := dall dgX12_join_207 45 rfl
theorem dX12_join_364 : decode cX12_join 364 = .ok (.return_, 1) := dall dgX12_join_207 46 rfl
def lgX12_heap_208 : List (Nat × Instr × Nat) := [(0, .aload_n 0, 1), (1, .invokevirtual 203, 3), (4, .aload_n 0, 1), (5, .iload_n 1, 1), (6, .invokevirtual 206, 3), (9, .ifCond .eq 12, 3), (12, .iload_n 2, 1), (13, .iconst 0, 1), (14, .iconst 1, 1), (15, .invokestatic 100, 3), (18, .ifCond .ne 5, 3), (21, .iconst (-1), 1), (22, .ireturn, 1), (23, .aload_n 0, 1), (24, .invokevirtual 240, 3), (27, .ifCond .ne 6, 3), (30, .bipush (-2), 2), (32, .ireturn, 1), (33, .aload_n 0, 1), (34, .invokevirtual 243, 3), (37, .iload_n 2, 1), (38, .ifCond .ne 12, 3), (41, .aload_n 0, 1), (42, .getfield 72, 3), (45, .iload_n 1, 1), (46, .iaload, 1), (47, .goto 9, 3), (50, .aload_n 0, 1), (51, .getfield 75, 3), (54, .iload_n 1, 1), (55, .iaload, 1), (56, .ireturn, 1)]
theorem dgX12_heap_208 : ∀ q ∈ lgX12_heap_208, decode cX12_heap q.1 = .ok (q.2.1, q.2.2) := by decide +kernel
theorem dX12_heap_0 : decode cX12_heap 0 = .ok (.aload_n 0, 1) := dall dgX12_heap_208 0 rfl
theorem dX12_heap_1 : decode cX12_heap 1 = .ok (.invokevirtual 203, 3) := dall dgX12_heap_208 1 rfl
theorem dX12_heap_4 : decode cX12_heap 4 = .ok (.aload_n 0, 1) := dall dgX12_heap_208 2 rfl
theorem dX12_heap_5 : decode cX12_heap 5 = .ok (.iload_n 1, 1) := dall dgX12_heap_208 3 rfl
theorem dX12_heap_6 : decode cX12_heap 6 = .ok (.invokevirtual 206, 3) := dall dgX12_heap_208 4 rfl
theorem dX12_heap_9 : decode cX12_heap 9 = .ok (.ifCond .eq 12, 3) := dall dgX12_heap_208 5 rfl
theorem dX12_heap_12 : decode cX12_heap 12 = .ok (.iload_n 2, 1) := dall dgX12_heap_208 6 rfl
theorem dX12_heap_13 : decode cX12_heap 13 = .ok (.iconst 0, 1) := dall dgX12_heap_208 7 rfl
theorem dX12_heap_14 : decode cX12_heap 14 = .ok (.iconst 1, 1) := dall dgX12_heap_208 8 rfl
theorem dX12_heap_15 : decode cX12_heap 15 = .ok (.invokestatic 100, 3) := dall dgX12_heap_208 9 rfl
theorem dX12_heap_18 : decode cX12_heap 18 = .ok (.ifCond .ne 5, 3) := dall dgX12_heap_208 10 rfl
theorem dX12_heap_21 : decode cX12_heap 21 = .ok (.iconst (-1), 1) := dall dgX12_heap_208 11 rfl
theorem dX12_heap_22 : decode cX12_heap 22 = .ok (.ireturn, 1) := dall dgX12_heap_208 12 rfl
theorem dX12_heap_23 : decode cX12_heap 23 = .ok (.aload_n 0, 1) := dall dgX12_heap_208 13 rfl
theorem dX12_heap_24 : decode cX12_heap 24 = .ok (.invokevirtual 240, 3) := dall dgX12_heap_208 14 rfl
theorem dX12_heap_27 : decode cX12_heap 27 = .ok (.ifCond .ne 6, 3) := dall dgX12_heap_208 15 rfl
theorem dX12_heap_30 : decode cX12_heap 30 = .ok (.bipush (-2), 2) := dall dgX12_heap_208 16 rfl
theorem dX12_heap_32 : decode cX12_heap 32 = .ok (.ireturn, 1) := dall dgX12_heap_208 17 rfl
theorem dX12_heap_33 : decode cX12_heap 33 = .ok (.aload_n 0, 1) := dall dgX12_heap_208 18 rfl
theorem dX12_heap_34 : decode cX12_heap 34 = .ok (.invokevirtual 243, 3) := dall dgX12_heap_208 19 rfl
theorem dX12_heap_37 : decode cX12_heap 37 = .ok (.iload_n 2, 1) := dall dgX12_heap_208 20 rfl
theorem dX12_heap_38 : decode cX12_heap 38 = .ok (.ifCond .ne 12, 3) := dall dgX12_heap_208 21 rfl
theorem dX12_heap_41 : decode cX12_heap 41 = .ok (.aload_n 0, 1) := dall dgX12_heap_208 22 rfl
theorem dX12_heap_42 : decode cX12_heap 42 = .ok (.getfield 72, 3) := dall dgX12_heap_208 23 rfl
theorem dX12_heap_45 : decode cX12_heap 45 = .ok (.iload_n 1, 1) := dall dgX12_heap_208 24 rfl
theorem dX12_heap_46 : decode cX12_heap 46 = .ok (.iaload, 1) := dall dgX12_heap_208 25 rfl
theorem dX12_heap_47 : decode cX12_heap 47 = .ok (.goto 9, 3) := dall dgX12_heap_208 26 rfl
theorem dX12_heap_50 : decode cX12_heap 50 = .ok (.aload_n 0, 1) := dall dgX12_heap_208 27 rfl
theorem dX12_heap_51 : decode cX12_heap 51 = .ok (.getfield 75, 3) := dall dgX12_heap_208 28 rfl
theorem dX12_heap_54 : decode cX12_heap 54 = .ok (.iload_n 1, 1) := dall dgX12_heap_208 29 rfl
theorem dX12_heap_55 : decode cX12_heap 55 = .ok (.iaload, 1) := dall dgX12_heap_208 30 rfl
theorem dX12_heap_56 : decode cX12_heap 56 = .ok (.ireturn, 1) := dall dgX12_heap_208 31 rfl
def lgX12_worth_209 : List (Nat × Instr × Nat) := [(0, .iload_n 1, 1), (1, .iconst 0, 1), (2, .iconst 1, 1), (3, .invokestatic 100, 3), (6, .ifCond .eq 10, 3), (9, .aload_n 0, 1), (10, .invokevirtual 240, 3), (13, .ifCond .ne 6, 3), (16, .ldc 215, 2), (18, .ireturn, 1), (19, .aload_n 0, 1), (20, .invokevirtual 243, 3), (23, .iload_n 1, 1), (24, .ifCond .ne 10, 3), (27, .aload_n 0, 1), (28, .getfield 233, 3), (31, .goto 11, 3), (34, .aload_n 0, 1), (35, .aload_n 0, 1), (36, .getfield 75, 3), (39, .invokevirtual 229, 3), (42, .ireturn, 1)]
theorem dgX12_worth_209 : ∀ q ∈ lgX12_worth_209, decode cX12_worth q.1 = .ok (q.2.1, q.2.2) := by decide +kernel
theorem dX12_worth_0 : decode cX12_worth 0 = .ok (.iload_n 1, 1) := dall dgX12_worth_209 0 rfl
theorem dX12_worth_1 : decode cX12_worth 1 = .ok (.iconst 0, 1) := dall dgX12_worth_209 1 rfl
theorem dX12_worth_2 : decode cX12_worth 2 = .ok (.iconst 1, 1) := dall dgX12_worth_209 2 rfl
theorem dX12_worth_3 : decode cX12_worth 3 = .ok (.invokestatic 100, 3) := dall dgX12_worth_209 3 rfl
theorem dX12_worth_6 : decode cX12_worth 6 = .ok (.ifCond .eq 10, 3) := dall dgX12_worth_209 4 rfl
theorem dX12_worth_9 : decode cX12_worth 9 = .ok (.aload_n 0, 1) := dall dgX12_worth_209 5 rfl
theorem dX12_worth_10 : decode cX12_worth 10 = .ok (.invokevirtual 240, 3) := dall dgX12_worth_209 6 rfl
theorem dX12_worth_13 : decode cX12_worth 13 = .ok (.ifCond .ne 6, 3) := dall dgX12_worth_209 7 rfl
theorem dX12_worth_16 : decode cX12_worth 16 = .ok (.ldc 215, 2) := dall dgX12_worth_209 8 rfl
theorem dX12_worth_18 : decode cX12_worth 18 = .ok (.ireturn, 1) := dall dgX12_worth_209 9 rfl
theorem dX12_worth_19 : decode cX12_worth 19 = .ok (.aload_n 0, 1) := dall dgX12_worth_209 10 rfl
theorem dX12_worth_20 : decode cX12_worth 20 = .ok (.invokevirtual 243, 3) := dall dgX12_worth_209 11 rfl
theorem dX12_worth_23 : decode cX12_worth 23 = .ok (.iload_n 1, 1) := dall dgX12_worth_209 12 rfl
theorem dX12_worth_24 : decode cX12_worth 24 = .ok (.ifCond .ne 10, 3) := dall dgX12_worth_209 13 rfl
theorem dX12_worth_27 : decode cX12_worth 27 = .ok (.aload_n 0, 1) := dall dgX12_worth_209 14 rfl
theorem dX12_worth_28 : decode cX12_worth 28 = .ok (.getfield 233, 3) := dall dgX12_worth_209 15 rfl
theorem dX12_worth_31 : decode cX12_worth 31 = .ok (.goto 11, 3) := dall dgX12_worth_209 16 rfl
theorem dX12_worth_34 : decode cX12_worth 34 = .ok (.aload_n 0, 1) := dall dgX12_worth_209 17 rfl
theorem dX12_worth_35 : decode cX12_worth 35 = .ok (.aload_n 0, 1) := dall dgX12_worth_209 18 rfl
theorem dX12_worth_36 : decode cX12_worth 36 = .ok (.getfield 75, 3) := dall dgX12_worth_209 19 rfl
theorem dX12_worth_39 : decode cX12_worth 39 = .ok (.invokevirtual 229, 3) := dall dgX12_worth_209 20 rfl
theorem dX12_worth_42 : decode cX12_worth 42 = .ok (.ireturn, 1) := dall dgX12_worth_209 21 rfl
def lgX12_near_210 : List (Nat × Instr × Nat) := [(0, .iload_n 1, 1), (1, .iconst 0, 1), (2, .iconst 4, 1), (3, .invokestatic 100, 3), (6, .ifCond .ne 5, 3), (9, .iconst (-1), 1), (10, .ireturn, 1), (11, .aload_n 0, 1), (12, .invokevirtual 240, 3), (15, .ifCond .ne 6, 3), (18, .bipush (-2), 2), (20, .ireturn, 1), (21, .iload_n 1, 1), (22, .iconst 2, 1), (23, .if_icmp .le 38, 3), (26, .aload_n 0, 1), (27, .invokevirtual 243, 3), (30, .iload_n 1, 1), (31, .iconst 3, 1), (32, .if_icmp .ne 17, 3), (35, .aload_n 0, 1), (36, .getfield 72, 3), (39, .aload_n 0, 1), (40, .getfield 191, 3), (43, .invokestatic 219, 3), (46, .goto 14, 3), (49, .aload_n 0, 1), (50, .getfield 75, 3), (53, .aload_n 0, 1), (54, .getfield 191, 3), (57, .invokestatic 219, 3), (60, .ireturn, 1), (61, .iconst 0, 1), (62, .istore_n 2, 1), (63, .bipush 10, 2), (65, .istore_n 3, 1), (66, .iconst (-1), 1), (67, .istore 4, 2), (69, .aload_n 0, 1), (70, .invokevirtual 226, 3), (73, .iconst 1, 1), (74, .istore 5, 2), (76, .iload 5, 2), (78, .ifCond .eq 79, 3), (81, .aload_n 0, 1), (82, .aload_n 0, 1), (83, .getfield 69, 3), (86, .invokevirtual 229, 3), (89, .aload_n 0, 1), (90, .getfield 233, 3)]
theorem dgX12_near_210 : ∀ q ∈ lgX12_near_210, decode cX12_near q.1 = .ok (q.2.1, q.2.2) := by decide +kernel
theorem dX12_near_0 : decode cX12_near 0 = .ok (.iload_n 1, 1) := dall dgX12_near_210 0 rfl
theorem dX12_near_1 : decode cX12_near 1 = .ok (.iconst 0, 1) := dall dgX12_near_210 1 rfl
theorem dX12_near_2 : decode cX12_near 2 = .ok (.iconst 4, 1) := dall dgX12_near_210 2 rfl
theorem dX12_near_3 : decode cX12_near 3 = .ok (.invokestatic 100, 3) := dall dgX12_near_210 3 rfl
theorem dX12_near_6 : decode cX12_near 6 = .ok (.ifCond .ne 5, 3) := dall dgX12_near_210 4 rfl
theorem dX12_near_9 : decode cX12_near 9 = .ok (.iconst (-1), 1) := dall dgX12_near_210 5 rfl
theorem dX12_near_10 : decode cX12_near 10 = .ok (.ireturn, 1) := dall dgX12_near_210 6 rfl
theorem dX12_near_11 : decode cX12_near 11 = .ok (.aload_n 0, 1) := dall dgX12_near_210 7 rfl
theorem dX12_near_12 : decode cX12_near 12 = .ok (.invokevirtual 240, 3) := dall dgX12_near_210 8 rfl
theorem dX12_near_15 : decode cX12_near 15 = .ok (.ifCond .ne 6, 3) := dall dgX12_near_210 9 rfl
theorem dX12_near_18 : decode cX12_near 18 = .ok (.bipush (-2), 2) := dall dgX12_near_210 10 rfl
theorem dX12_near_20 : decode cX12_near 20 = .ok (.ireturn, 1) := dall dgX12_near_210 11 rfl
theorem dX12_near_21 : decode cX12_near 21 = .ok (.iload_n 1, 1) := dall dgX12_near_210 12 rfl
theorem dX12_near_22 : decode cX12_near 22 = .ok (.iconst 2, 1) := dall dgX12_near_210 13 rfl
theorem dX12_near_23 : decode cX12_near 23 = .ok (.if_icmp .le 38, 3) := dall dgX12_near_210 14 rfl
theorem dX12_near_26 : decode cX12_near 26 = .ok (.aload_n 0, 1) := dall dgX12_near_210 15 rfl
theorem dX12_near_27 : decode cX12_near 27 = .ok (.invokevirtual 243, 3) := dall dgX12_near_210 16 rfl
theorem dX12_near_30 : decode cX12_near 30 = .ok (.iload_n 1, 1) := dall dgX12_near_210 17 rfl
theorem dX12_near_31 : decode cX12_near 31 = .ok (.iconst 3, 1) := dall dgX12_near_210 18 rfl
theorem dX12_near_32 : decode cX12_near 32 = .ok (.if_icmp .ne 17, 3) := dall dgX12_near_210 19 rfl
theorem dX12_near_35 : decode cX12_near 35 = .ok (.aload_n 0, 1) := dall dgX12_near_210 20 rfl
theorem dX12_near_36 : decode cX12_near 36 = .ok (.getfield 72, 3) := dall dgX12_near_210 21 rfl
theorem dX12_near_39 : decode cX12_near 39 = .ok (.aload_n 0, 1) := dall dgX12_near_210 22 rfl
theorem dX12_near_40 : decode cX12_near 40 = .ok (.getfield 191, 3) := dall dgX12_near_210 23 rfl
theorem dX12_near_43 : decode cX12_near 43 = .ok (.invokestatic 219, 3) := dall dgX12_near_210 24 rfl
theorem dX12_near_46 : decode cX12_near 46 = .ok (.goto 14, 3) := dall dgX12_near_210 25 rfl
theorem dX12_near_49 : decode cX12_near 49 = .ok (.aload_n 0, 1) := dall dgX12_near_210 26 rfl
theorem dX12_near_50 : decode cX12_near 50 = .ok (.getfield 75, 3) := dall dgX12_near_210 27 rfl
theorem dX12_near_53 : decode cX12_near 53 = .ok (.aload_n 0, 1) := dall dgX12_near_210 28 rfl
theorem dX12_near_54 : decode cX12_near 54 = .ok (.getfield 191, 3) := dall dgX12_near_210 29 rfl
theorem dX12_near_57 : decode cX12_near 57 = .ok (.invokestatic 219, 3) := dall dgX12_near_210 30 rfl
theorem dX12_near_60 : decode cX12_near 60 = .ok (.ireturn, 1) := dall dgX12_near_210 31 rfl
theorem dX12_near_61 : decode cX12_near 61 = .ok (.iconst 0, 1) := dall dgX12_near_210 32 rfl
theorem dX12_near_62 : decode cX12_near 62 = .ok (.istore_n 2, 1) := dall dgX12_near_210 33 rfl
theorem dX12_near_63 : decode cX12_near 63 = .ok (.bipush 10, 2) := dall dgX12_near_210 34 rfl
theorem dX12_near_65 : decode cX12_near 65 = .ok (.istore_n 3, 1) := dall dgX12_near_210 35 rfl
theorem dX12_near_66 : decode cX12_near 66 = .ok (.iconst (-1), 1) := dall dgX12_near_210 36 rfl
theorem dX12_near_67 : decode cX12_near 67 = .ok (.istore 4, 2) := dall dgX12_near_210 37 rfl
theorem dX12_near_69 : decode cX12_near 69 = .ok (.aload_n 0, 1) := dall dgX12_near_210 38 rfl
theorem dX12_near_70 : decode cX12_near 70 = .ok (.invokevirtual 226, 3) := dall dgX12_near_210 39 rfl
theorem dX12_near_73 : decode cX12_near 73 = .ok (.iconst 1, 1) := dall dgX12_near_210 40 rfl
theorem dX12_near_74 : decode cX12_near 74 = .ok (.istore 5, 2) := dall dgX12_near_210 41 rfl
theorem dX12_near_76 : decode cX12_near 76 = .ok (.iload 5, 2) := dall dgX12_near_210 42 rfl
theorem dX12_near_78 : decode cX12_near 78 = .ok (.ifCond .eq 79, 3) := dall dgX12_near_210 43 rfl
theorem dX12_near_81 : decode cX12_near 81 = .ok (.aload_n 0, 1) := dall dgX12_near_210 44 rfl
theorem dX12_near_82 : decode cX12_near 82 = .ok (.aload_n 0, 1) := dall dgX12_near_210 45 rfl
theorem dX12_near_83 : decode cX12_near 83 = .ok (.getfield 69, 3) := dall dgX12_near_210 46 rfl
theorem dX12_near_86 : decode cX12_near 86 = .ok (.invokevirtual 229, 3) := dall dgX12_near_210 47 rfl
theorem dX12_near_89 : decode cX12_near 89 = .ok (.aload_n 0, 1) := dall dgX12_near_210 48 rfl
theorem dX12_near_90 : decode cX12_near 90 = .ok (.getfield 233, 3) := dall dgX12_near_210 49 rfl
def lgX12_near_211 : List (Nat × Instr × Nat) := [(93, .aload_n 0, 1), (94, .getfield 7, 3), (97, .iconst 3, 1), (98, .iaload, 1), (99, .isub, 1), (100, .if_icmp .lt 48, 3), (103, .aload_n 0, 1), (104, .getfield 69, 3), (107, .aload_n 0, 1), (108, .getfield 191, 3), (111, .invokestatic 219, 3), (114, .istore 6, 2), (116, .iinc 2 1, 3), (119, .iload 6, 2), (121, .iload_n 3, 1), (122, .if_icmp .ge 8, 3), (125, .iload 6, 2), (127, .goto 4, 3), (130, .iload_n 3, 1), (131, .istore_n 3, 1), (132, .iload 6, 2), (134, .iload 4, 2), (136, .if_icmp .le 8, 3), (139, .iload 6, 2), (141, .goto 5, 3), (144, .iload 4, 2), (146, .istore 4, 2), (148, .aload_n 0, 1), (149, .invokevirtual 236, 3), (152, .istore 5, 2), (154, .goto (-78), 3), (157, .iload_n 1, 1), (158, .ifCond .ne 7, 3), (161, .iload_n 2, 1), (162, .goto 14, 3), (165, .iload_n 1, 1), (166, .iconst 1, 1), (167, .if_icmp .ne 7, 3), (170, .iload_n 3, 1), (171, .goto 5, 3), (174, .iload 4, 2), (176, .ireturn, 1)]
theorem dgX12_near_211 : ∀ q ∈ lgX12_near_211, decode cX12_near q.1 = .ok (q.2.1, q.2.2) := by decide +kernel
theorem dX12_near_93 : decode cX12_near 93 = .ok (.aload_n 0, 1) := dall dgX12_near_211 0 rfl
theorem dX12_near_94 : decode cX12_near 94 = .ok (.getfield 7, 3) := dall dgX12_near_211 1 rfl
theorem dX12_near_97 : decode cX12_near 97 = .ok (.iconst 3, 1) := dall dgX12_near_211 2 rfl
theorem dX12_near_98 : decode cX12_near 98 = .ok (.iaload, 1) := dall dgX12_near_211 3 rfl
theorem dX12_near_99 : decode cX12_near 99 = .ok (.isub, 1) := dall dgX12_near_211 4 rfl
theorem dX12_near_100 : decode cX12_near 100 = .ok (.if_icmp .lt 48, 3) := dall dgX12_near_211 5 rfl
theorem dX12_near_103 : decode cX12_near 103 = .ok (.aload_n 0, 1) := dall dgX12_near_211 6 rfl
theorem dX12_near_104 : decode cX12_near 104 = .ok (.getfield 69, 3) := dall dgX12_near_211 7 rfl
theorem dX12_near_107 : decode cX12_near 107 = .ok (.aload_n 0, 1) := dall dgX12_near_211 8 rfl
theorem dX12_near_108 : decode cX12_near 108 = .ok (.getfield 191, 3) := dall dgX12_near_211 9 rfl
theorem dX12_near_111 : decode cX12_near 111 = .ok (.invokestatic 219, 3) := dall dgX12_near_211 10 rfl
theorem dX12_near_114 : decode cX12_near 114 = .ok (.istore 6, 2) := dall dgX12_near_211 11 rfl
theorem dX12_near_116 : decode cX12_near 116 = .ok (.iinc 2 1, 3) := dall dgX12_near_211 12 rfl
theorem dX12_near_119 : decode cX12_near 119 = .ok (.iload 6, 2) := dall dgX12_near_211 13 rfl
theorem dX12_near_121 : decode cX12_near 121 = .ok (.iload_n 3, 1) := dall dgX12_near_211 14 rfl
theorem dX12_near_122 : decode cX12_near 122 = .ok (.if_icmp .ge 8, 3) := dall dgX12_near_211 15 rfl
theorem dX12_near_125 : decode cX12_near 125 = .ok (.iload 6, 2) := dall dgX12_near_211 16 rfl
theorem dX12_near_127 : decode cX12_near 127 = .ok (.goto 4, 3) := dall dgX12_near_211 17 rfl
theorem dX12_near_130 : decode cX12_near 130 = .ok (.iload_n 3, 1) := dall dgX12_near_211 18 rfl
theorem dX12_near_131 : decode cX12_near 131 = .ok (.istore_n 3, 1) := dall dgX12_near_211 19 rfl
theorem dX12_near_132 : decode cX12_near 132 = .ok (.iload 6, 2) := dall dgX12_near_211 20 rfl
theorem dX12_near_134 : decode cX12_near 134 = .ok (.iload 4, 2) := dall dgX12_near_211 21 rfl
theorem dX12_near_136 : decode cX12_near 136 = .ok (.if_icmp .le 8, 3) := dall dgX12_near_211 22 rfl
theorem dX12_near_139 : decode cX12_near 139 = .ok (.iload 6, 2) := dall dgX12_near_211 23 rfl
theorem dX12_near_141 : decode cX12_near 141 = .ok (.goto 5, 3) := dall dgX12_near_211 24 rfl
theorem dX12_near_144 : decode cX12_near 144 = .ok (.iload 4, 2) := dall dgX12_near_211 25 rfl
theorem dX12_near_146 : decode cX12_near 146 = .ok (.istore 4, 2) := dall dgX12_near_211 26 rfl
theorem dX12_near_148 : decode cX12_near 148 = .ok (.aload_n 0, 1) := dall dgX12_near_211 27 rfl
theorem dX12_near_149 : decode cX12_near 149 = .ok (.invokevirtual 236, 3) := dall dgX12_near_211 28 rfl
theorem dX12_near_152 : decode cX12_near 152 = .ok (.istore 5, 2) := dall dgX12_near_211 29 rfl
theorem dX12_near_154 : decode cX12_near 154 = .ok (.goto (-78), 3) := dall dgX12_near_211 30 rfl
theorem dX12_near_157 : decode cX12_near 157 = .ok (.iload_n 1, 1) := dall dgX12_near_211 31 rfl
theorem dX12_near_158 : decode cX12_near 158 = .ok (.ifCond .ne 7, 3) := dall dgX12_near_211 32 rfl
theorem dX12_near_161 : decode cX12_near 161 = .ok (.iload_n 2, 1) := dall dgX12_near_211 33 rfl
theorem dX12_near_162 : decode cX12_near 162 = .ok (.goto 14, 3) := dall dgX12_near_211 34 rfl
theorem dX12_near_165 : decode cX12_near 165 = .ok (.iload_n 1, 1) := dall dgX12_near_211 35 rfl
theorem dX12_near_166 : decode cX12_near 166 = .ok (.iconst 1, 1) := dall dgX12_near_211 36 rfl
theorem dX12_near_167 : decode cX12_near 167 = .ok (.if_icmp .ne 7, 3) := dall dgX12_near_211 37 rfl
theorem dX12_near_170 : decode cX12_near 170 = .ok (.iload_n 3, 1) := dall dgX12_near_211 38 rfl
theorem dX12_near_171 : decode cX12_near 171 = .ok (.goto 5, 3) := dall dgX12_near_211 39 rfl
theorem dX12_near_174 : decode cX12_near 174 = .ok (.iload 4, 2) := dall dgX12_near_211 40 rfl
theorem dX12_near_176 : decode cX12_near 176 = .ok (.ireturn, 1) := dall dgX12_near_211 41 rfl
def lgX12_sure_212 : List (Nat × Instr × Nat) := [(0, .aload_n 0, 1), (1, .invokevirtual 203, 3), (4, .aload_n 0, 1), (5, .iload_n 1, 1), (6, .invokevirtual 206, 3), (9, .ifCond .eq 16, 3), (12, .aload_n 0, 1), (13, .iload_n 2, 1), (14, .invokevirtual 206, 3), (17, .ifCond .eq 8, 3), (20, .iload_n 1, 1), (21, .iload_n 2, 1), (22, .if_icmp .ne 5, 3), (25, .iconst (-1), 1), (26, .ireturn, 1), (27, .aload_n 0, 1), (28, .invokevirtual 240, 3), (31, .ifCond .ne 6, 3), (34, .bipush (-2), 2), (36, .ireturn, 1), (37, .iconst 0, 1), (38, .istore_n 3, 1), (39, .iconst 0, 1), (40, .istore 4, 2), (42, .aload_n 0, 1), (43, .invokevirtual 226, 3), (46, .iconst 1, 1), (47, .istore 5, 2), (49, .iload 5, 2), (51, .ifCond .eq 86, 3), (54, .aload_n 0, 1), (55, .aload_n 0, 1), (56, .getfield 69, 3), (59, .invokevirtual 229, 3), (62, .aload_n 0, 1), (63, .getfield 233, 3), (66, .aload_n 0, 1), (67, .getfield 7, 3), (70, .iconst 3, 1), (71, .iaload, 1), (72, .isub, 1), (73, .if_icmp .lt 55, 3), (76, .iload_n 3, 1), (77, .ifCond .ne 18, 3), (80, .aload_n 0, 1), (81, .getfield 69, 3), (84, .iload_n 1, 1), (85, .iaload, 1), (86, .aload_n 0, 1), (87, .getfield 69, 3)]
theorem dgX12_sure_212 : ∀ q ∈ lgX12_sure_212, decode cX12_sure q.1 = .ok (q.2.1, q.2.2) := by decide +kernel
theorem dX12_sure_0 : decode cX12_sure 0 = .ok (.aload_n 0, 1) := dall dgX12_sure_212 0 rfl
theorem dX12_sure_1 : decode cX12_sure 1 = .ok (.invokevirtual 203, 3) := dall dgX12_sure_212 1 rfl
theorem dX12_sure_4 : decode cX12_sure 4 = .ok (.aload_n 0, 1) := dall dgX12_sure_212 2 rfl
theorem dX12_sure_5 : decode cX12_sure 5 = .ok (.iload_n 1, 1) := dall dgX12_sure_212 3 rfl
theorem dX12_sure_6 : decode cX12_sure 6 = .ok (.invokevirtual 206, 3) := dall dgX12_sure_212 4 rfl
theorem dX12_sure_9 : decode cX12_sure 9 = .ok (.ifCond .eq 16, 3) := dall dgX12_sure_212 5 rfl
theorem dX12_sure_12 : decode cX12_sure 12 = .ok (.aload_n 0, 1) := dall dgX12_sure_212 6 rfl
theorem dX12_sure_13 : decode cX12_sure 13 = .ok (.iload_n 2, 1) := dall dgX12_sure_212 7 rfl
theorem dX12_sure_14 : decode cX12_sure 14 = .ok (.invokevirtual 206, 3) := dall dgX12_sure_212 8 rfl
theorem dX12_sure_17 : decode cX12_sure 17 = .ok (.ifCond .eq 8, 3) := dall dgX12_sure_212 9 rfl
theorem dX12_sure_20 : decode cX12_sure 20 = .ok (.iload_n 1, 1) := dall dgX12_sure_212 10 rfl
theorem dX12_sure_21 : decode cX12_sure 21 = .ok (.iload_n 2, 1) := dall dgX12_sure_212 11 rfl
theorem dX12_sure_22 : decode cX12_sure 22 = .ok (.if_icmp .ne 5, 3) := dall dgX12_sure_212 12 rfl
theorem dX12_sure_25 : decode cX12_sure 25 = .ok (.iconst (-1), 1) := dall dgX12_sure_212 13 rfl
theorem dX12_sure_26 : decode cX12_sure 26 = .ok (.ireturn, 1) := dall dgX12_sure_212 14 rfl
theorem dX12_sure_27 : decode cX12_sure 27 = .ok (.aload_n 0, 1) := dall dgX12_sure_212 15 rfl
theorem dX12_sure_28 : decode cX12_sure 28 = .ok (.invokevirtual 240, 3) := dall dgX12_sure_212 16 rfl
theorem dX12_sure_31 : decode cX12_sure 31 = .ok (.ifCond .ne 6, 3) := dall dgX12_sure_212 17 rfl
theorem dX12_sure_34 : decode cX12_sure 34 = .ok (.bipush (-2), 2) := dall dgX12_sure_212 18 rfl
theorem dX12_sure_36 : decode cX12_sure 36 = .ok (.ireturn, 1) := dall dgX12_sure_212 19 rfl
theorem dX12_sure_37 : decode cX12_sure 37 = .ok (.iconst 0, 1) := dall dgX12_sure_212 20 rfl
theorem dX12_sure_38 : decode cX12_sure 38 = .ok (.istore_n 3, 1) := dall dgX12_sure_212 21 rfl
theorem dX12_sure_39 : decode cX12_sure 39 = .ok (.iconst 0, 1) := dall dgX12_sure_212 22 rfl
theorem dX12_sure_40 : decode cX12_sure 40 = .ok (.istore 4, 2) := dall dgX12_sure_212 23 rfl
theorem dX12_sure_42 : decode cX12_sure 42 = .ok (.aload_n 0, 1) := dall dgX12_sure_212 24 rfl
theorem dX12_sure_43 : decode cX12_sure 43 = .ok (.invokevirtual 226, 3) := dall dgX12_sure_212 25 rfl
theorem dX12_sure_46 : decode cX12_sure 46 = .ok (.iconst 1, 1) := dall dgX12_sure_212 26 rfl
theorem dX12_sure_47 : decode cX12_sure 47 = .ok (.istore 5, 2) := dall dgX12_sure_212 27 rfl
theorem dX12_sure_49 : decode cX12_sure 49 = .ok (.iload 5, 2) := dall dgX12_sure_212 28 rfl
theorem dX12_sure_51 : decode cX12_sure 51 = .ok (.ifCond .eq 86, 3) := dall dgX12_sure_212 29 rfl
theorem dX12_sure_54 : decode cX12_sure 54 = .ok (.aload_n 0, 1) := dall dgX12_sure_212 30 rfl
theorem dX12_sure_55 : decode cX12_sure 55 = .ok (.aload_n 0, 1) := dall dgX12_sure_212 31 rfl
theorem dX12_sure_56 : decode cX12_sure 56 = .ok (.getfield 69, 3) := dall dgX12_sure_212 32 rfl
theorem dX12_sure_59 : decode cX12_sure 59 = .ok (.invokevirtual 229, 3) := dall dgX12_sure_212 33 rfl
theorem dX12_sure_62 : decode cX12_sure 62 = .ok (.aload_n 0, 1) := dall dgX12_sure_212 34 rfl
theorem dX12_sure_63 : decode cX12_sure 63 = .ok (.getfield 233, 3) := dall dgX12_sure_212 35 rfl
theorem dX12_sure_66 : decode cX12_sure 66 = .ok (.aload_n 0, 1) := dall dgX12_sure_212 36 rfl
theorem dX12_sure_67 : decode cX12_sure 67 = .ok (.getfield 7, 3) := dall dgX12_sure_212 37 rfl
theorem dX12_sure_70 : decode cX12_sure 70 = .ok (.iconst 3, 1) := dall dgX12_sure_212 38 rfl
theorem dX12_sure_71 : decode cX12_sure 71 = .ok (.iaload, 1) := dall dgX12_sure_212 39 rfl
theorem dX12_sure_72 : decode cX12_sure 72 = .ok (.isub, 1) := dall dgX12_sure_212 40 rfl
theorem dX12_sure_73 : decode cX12_sure 73 = .ok (.if_icmp .lt 55, 3) := dall dgX12_sure_212 41 rfl
theorem dX12_sure_76 : decode cX12_sure 76 = .ok (.iload_n 3, 1) := dall dgX12_sure_212 42 rfl
theorem dX12_sure_77 : decode cX12_sure 77 = .ok (.ifCond .ne 18, 3) := dall dgX12_sure_212 43 rfl
theorem dX12_sure_80 : decode cX12_sure 80 = .ok (.aload_n 0, 1) := dall dgX12_sure_212 44 rfl
theorem dX12_sure_81 : decode cX12_sure 81 = .ok (.getfield 69, 3) := dall dgX12_sure_212 45 rfl
theorem dX12_sure_84 : decode cX12_sure 84 = .ok (.iload_n 1, 1) := dall dgX12_sure_212 46 rfl
theorem dX12_sure_85 : decode cX12_sure 85 = .ok (.iaload, 1) := dall dgX12_sure_212 47 rfl
theorem dX12_sure_86 : decode cX12_sure 86 = .ok (.aload_n 0, 1) := dall dgX12_sure_212 48 rfl
theorem dX12_sure_87 : decode cX12_sure 87 = .ok (.getfield 69, 3) := dall dgX12_sure_212 49 rfl
def lgX12_sure_213 : List (Nat × Instr × Nat) := [(90, .iload_n 2, 1), (91, .iaload, 1), (92, .if_icmp .ne 7, 3), (95, .iconst 1, 1), (96, .goto 4, 3), (99, .iconst 0, 1), (100, .istore_n 3, 1), (101, .iload 4, 2), (103, .ifCond .ne 18, 3), (106, .aload_n 0, 1), (107, .getfield 69, 3), (110, .iload_n 1, 1), (111, .iaload, 1), (112, .aload_n 0, 1), (113, .getfield 69, 3), (116, .iload_n 2, 1), (117, .iaload, 1), (118, .if_icmp .eq 7, 3), (121, .iconst 1, 1), (122, .goto 4, 3), (125, .iconst 0, 1), (126, .istore 4, 2), (128, .aload_n 0, 1), (129, .invokevirtual 236, 3), (132, .istore 5, 2), (134, .goto (-85), 3), (137, .iload 4, 2), (139, .ifCond .ne 7, 3), (142, .iconst 1, 1), (143, .goto 12, 3), (146, .iload_n 3, 1), (147, .ifCond .ne 7, 3), (150, .iconst 0, 1), (151, .goto 4, 3), (154, .iconst 2, 1), (155, .ireturn, 1)]
theorem dgX12_sure_213 : ∀ q ∈ lgX12_sure_213, decode cX12_sure q.1 = .ok (q.2.1, q.2.2) := by decide +kernel
theorem dX12_sure_90 : decode cX12_sure 90 = .ok (.iload_n 2, 1) := dall dgX12_sure_213 0 rfl
theorem dX12_sure_91 : decode cX12_sure 91 = .ok (.iaload, 1) := dall dgX12_sure_213 1 rfl
theorem dX12_sure_92 : decode cX12_sure 92 = .ok (.if_icmp .ne 7, 3) := dall dgX12_sure_213 2 rfl
theorem dX12_sure_95 : decode cX12_sure 95 = .ok (.iconst 1, 1) := dall dgX12_sure_213 3 rfl
theorem dX12_sure_96 : decode cX12_sure 96 = .ok (.goto 4, 3) := dall dgX12_sure_213 4 rfl
theorem dX12_sure_99 : decode cX12_sure 99 = .ok (.iconst 0, 1) := dall dgX12_sure_213 5 rfl
theorem dX12_sure_100 : decode cX12_sure 100 = .ok (.istore_n 3, 1) := dall dgX12_sure_213 6 rfl
theorem dX12_sure_101 : decode cX12_sure 101 = .ok (.iload 4, 2) := dall dgX12_sure_213 7 rfl
theorem dX12_sure_103 : decode cX12_sure 103 = .ok (.ifCond .ne 18, 3) := dall dgX12_sure_213 8 rfl
theorem dX12_sure_106 : decode cX12_sure 106 = .ok (.aload_n 0, 1) := dall dgX12_sure_213 9 rfl
theorem dX12_sure_107 : decode cX12_sure 107 = .ok (.getfield 69, 3) := dall dgX12_sure_213 10 rfl
theorem dX12_sure_110 : decode cX12_sure 110 = .ok (.iload_n 1, 1) := dall dgX12_sure_213 11 rfl
theorem dX12_sure_111 : decode cX12_sure 111 = .ok (.iaload, 1) := dall dgX12_sure_213 12 rfl
theorem dX12_sure_112 : decode cX12_sure 112 = .ok (.aload_n 0, 1) := dall dgX12_sure_213 13 rfl
theorem dX12_sure_113 : decode cX12_sure 113 = .ok (.getfield 69, 3) := dall dgX12_sure_213 14 rfl
theorem dX12_sure_116 : decode cX12_sure 116 = .ok (.iload_n 2, 1) := dall dgX12_sure_213 15 rfl
theorem dX12_sure_117 : decode cX12_sure 117 = .ok (.iaload, 1) := dall dgX12_sure_213 16 rfl
theorem dX12_sure_118 : decode cX12_sure 118 = .ok (.if_icmp .eq 7, 3) := dall dgX12_sure_213 17 rfl
theorem dX12_sure_121 : decode cX12_sure 121 = .ok (.iconst 1, 1) := dall dgX12_sure_213 18 rfl
theorem dX12_sure_122 : decode cX12_sure 122 = .ok (.goto 4, 3) := dall dgX12_sure_213 19 rfl
theorem dX12_sure_125 : decode cX12_sure 125 = .ok (.iconst 0, 1) := dall dgX12_sure_213 20 rfl
theorem dX12_sure_126 : decode cX12_sure 126 = .ok (.istore 4, 2) := dall dgX12_sure_213 21 rfl
theorem dX12_sure_128 : decode cX12_sure 128 = .ok (.aload_n 0, 1) := dall dgX12_sure_213 22 rfl
theorem dX12_sure_129 : decode cX12_sure 129 = .ok (.invokevirtual 236, 3) := dall dgX12_sure_213 23 rfl
theorem dX12_sure_132 : decode cX12_sure 132 = .ok (.istore 5, 2) := dall dgX12_sure_213 24 rfl
theorem dX12_sure_134 : decode cX12_sure 134 = .ok (.goto (-85), 3) := dall dgX12_sure_213 25 rfl
theorem dX12_sure_137 : decode cX12_sure 137 = .ok (.iload 4, 2) := dall dgX12_sure_213 26 rfl
theorem dX12_sure_139 : decode cX12_sure 139 = .ok (.ifCond .ne 7, 3) := dall dgX12_sure_213 27 rfl
theorem dX12_sure_142 : decode cX12_sure 142 = .ok (.iconst 1, 1) := dall dgX12_sure_213 28 rfl
theorem dX12_sure_143 : decode cX12_sure 143 = .ok (.goto 12, 3) := dall dgX12_sure_213 29 rfl
theorem dX12_sure_146 : decode cX12_sure 146 = .ok (.iload_n 3, 1) := dall dgX12_sure_213 30 rfl
theorem dX12_sure_147 : decode cX12_sure 147 = .ok (.ifCond .ne 7, 3) := dall dgX12_sure_213 31 rfl
theorem dX12_sure_150 : decode cX12_sure 150 = .ok (.iconst 0, 1) := dall dgX12_sure_213 32 rfl
theorem dX12_sure_151 : decode cX12_sure 151 = .ok (.goto 4, 3) := dall dgX12_sure_213 33 rfl
theorem dX12_sure_154 : decode cX12_sure 154 = .ok (.iconst 2, 1) := dall dgX12_sure_213 34 rfl
theorem dX12_sure_155 : decode cX12_sure 155 = .ok (.ireturn, 1) := dall dgX12_sure_213 35 rfl
def lgX12_findHeapMiddles_214 : List (Nat × Instr × Nat) := [(0, .iconst 0, 1), (1, .istore_n 1, 1), (2, .iload_n 1, 1), (3, .aload_n 0, 1), (4, .getfield 72, 3), (7, .aload_n 0, 1), (8, .getfield 191, 3), (11, .invokestatic 219, 3), (14, .if_icmp .ge 95, 3), (17, .iconst 0, 1), (18, .istore_n 2, 1), (19, .iload_n 2, 1), (20, .aload_n 0, 1), (21, .getfield 156, 3), (24, .if_icmp .ge 46, 3), (27, .aload_n 0, 1), (28, .getfield 54, 3), (31, .iload_n 2, 1), (32, .aload_n 0, 1), (33, .getfield 45, 3), (36, .iload_n 2, 1), (37, .iaload, 1), (38, .bipush (-9), 2), (40, .if_icmp .eq 22, 3), (43, .aload_n 0, 1), (44, .getfield 72, 3), (47, .aload_n 0, 1), (48, .getfield 45, 3), (51, .iload_n 2, 1), (52, .iaload, 1), (53, .iaload, 1), (54, .iload_n 1, 1), (55, .if_icmp .ne 7, 3), (58, .iconst 1, 1), (59, .goto 4, 3), (62, .iconst 0, 1), (63, .bastore, 1), (64, .iinc 2 1, 3), (67, .goto (-48), 3), (70, .aload_n 0, 1), (71, .invokevirtual 181, 3), (74, .iconst 0, 1), (75, .istore_n 2, 1), (76, .iload_n 2, 1), (77, .iconst 4, 1), (78, .if_icmp .ge 25, 3), (81, .aload_n 0, 1), (82, .getfield 81, 3), (85, .iconst 4, 1), (86, .iload_n 1, 1)]
theorem dgX12_findHeapMiddles_214 : ∀ q ∈ lgX12_findHeapMiddles_214, decode cX12_findHeapMiddles q.1 = .ok (q.2.1, q.2.2) := by decide +kernel
theorem dX12_findHeapMiddles_0 : decode cX12_findHeapMiddles 0 = .ok (.iconst 0, 1) := dall dgX12_findHeapMiddles_214 0 rfl
theorem dX12_findHeapMiddles_1 : decode cX12_findHeapMiddles 1 = .ok (.istore_n 1, 1) := dall dgX12_findHeapMiddles_214 1 rfl
theorem dX12_findHeapMiddles_2 : decode cX12_findHeapMiddles 2 = .ok (.iload_n 1, 1) := dall dgX12_findHeapMiddles_214 2 rfl
theorem dX12_findHeapMiddles_3 : decode cX12_findHeapMiddles 3 = .ok (.aload_n 0, 1) := dall dgX12_findHeapMiddles_214 3 rfl
theorem dX12_findHeapMiddles_4 : decode cX12_findHeapMiddles 4 = .ok (.getfield 72, 3) := dall dgX12_findHeapMiddles_214 4 rfl
theorem dX12_findHeapMiddles_7 : decode cX12_findHeapMiddles 7 = .ok (.aload_n 0, 1) := dall dgX12_findHeapMiddles_214 5 rfl
theorem dX12_findHeapMiddles_8 : decode cX12_findHeapMiddles 8 = .ok (.getfield 191, 3) := dall dgX12_findHeapMiddles_214 6 rfl
theorem dX12_findHeapMiddles_11 : decode cX12_findHeapMiddles 11 = .ok (.invokestatic 219, 3) := dall dgX12_findHeapMiddles_214 7 rfl
theorem dX12_findHeapMiddles_14 : decode cX12_findHeapMiddles 14 = .ok (.if_icmp .ge 95, 3) := dall dgX12_findHeapMiddles_214 8 rfl
theorem dX12_findHeapMiddles_17 : decode cX12_findHeapMiddles 17 = .ok (.iconst 0, 1) := dall dgX12_findHeapMiddles_214 9 rfl
theorem dX12_findHeapMiddles_18 : decode cX12_findHeapMiddles 18 = .ok (.istore_n 2, 1) := dall dgX12_findHeapMiddles_214 10 rfl
theorem dX12_findHeapMiddles_19 : decode cX12_findHeapMiddles 19 = .ok (.iload_n 2, 1) := dall dgX12_findHeapMiddles_214 11 rfl
theorem dX12_findHeapMiddles_20 : decode cX12_findHeapMiddles 20 = .ok (.aload_n 0, 1) := dall dgX12_findHeapMiddles_214 12 rfl
theorem dX12_findHeapMiddles_21 : decode cX12_findHeapMiddles 21 = .ok (.getfield 156, 3) := dall dgX12_findHeapMiddles_214 13 rfl
theorem dX12_findHeapMiddles_24 : decode cX12_findHeapMiddles 24 = .ok (.if_icmp .ge 46, 3) := dall dgX12_findHeapMiddles_214 14 rfl
theorem dX12_findHeapMiddles_27 : decode cX12_findHeapMiddles 27 = .ok (.aload_n 0, 1) := dall dgX12_findHeapMiddles_214 15 rfl
theorem dX12_findHeapMiddles_28 : decode cX12_findHeapMiddles 28 = .ok (.getfield 54, 3) := dall dgX12_findHeapMiddles_214 16 rfl
theorem dX12_findHeapMiddles_31 : decode cX12_findHeapMiddles 31 = .ok (.iload_n 2, 1) := dall dgX12_findHeapMiddles_214 17 rfl
theorem dX12_findHeapMiddles_32 : decode cX12_findHeapMiddles 32 = .ok (.aload_n 0, 1) := dall dgX12_findHeapMiddles_214 18 rfl
theorem dX12_findHeapMiddles_33 : decode cX12_findHeapMiddles 33 = .ok (.getfield 45, 3) := dall dgX12_findHeapMiddles_214 19 rfl
theorem dX12_findHeapMiddles_36 : decode cX12_findHeapMiddles 36 = .ok (.iload_n 2, 1) := dall dgX12_findHeapMiddles_214 20 rfl
theorem dX12_findHeapMiddles_37 : decode cX12_findHeapMiddles 37 = .ok (.iaload, 1) := dall dgX12_findHeapMiddles_214 21 rfl
theorem dX12_findHeapMiddles_38 : decode cX12_findHeapMiddles 38 = .ok (.bipush (-9), 2) := dall dgX12_findHeapMiddles_214 22 rfl
theorem dX12_findHeapMiddles_40 : decode cX12_findHeapMiddles 40 = .ok (.if_icmp .eq 22, 3) := dall dgX12_findHeapMiddles_214 23 rfl
theorem dX12_findHeapMiddles_43 : decode cX12_findHeapMiddles 43 = .ok (.aload_n 0, 1) := dall dgX12_findHeapMiddles_214 24 rfl
theorem dX12_findHeapMiddles_44 : decode cX12_findHeapMiddles 44 = .ok (.getfield 72, 3) := dall dgX12_findHeapMiddles_214 25 rfl
theorem dX12_findHeapMiddles_47 : decode cX12_findHeapMiddles 47 = .ok (.aload_n 0, 1) := dall dgX12_findHeapMiddles_214 26 rfl
theorem dX12_findHeapMiddles_48 : decode cX12_findHeapMiddles 48 = .ok (.getfield 45, 3) := dall dgX12_findHeapMiddles_214 27 rfl
theorem dX12_findHeapMiddles_51 : decode cX12_findHeapMiddles 51 = .ok (.iload_n 2, 1) := dall dgX12_findHeapMiddles_214 28 rfl
theorem dX12_findHeapMiddles_52 : decode cX12_findHeapMiddles 52 = .ok (.iaload, 1) := dall dgX12_findHeapMiddles_214 29 rfl
theorem dX12_findHeapMiddles_53 : decode cX12_findHeapMiddles 53 = .ok (.iaload, 1) := dall dgX12_findHeapMiddles_214 30 rfl
theorem dX12_findHeapMiddles_54 : decode cX12_findHeapMiddles 54 = .ok (.iload_n 1, 1) := dall dgX12_findHeapMiddles_214 31 rfl
theorem dX12_findHeapMiddles_55 : decode cX12_findHeapMiddles 55 = .ok (.if_icmp .ne 7, 3) := dall dgX12_findHeapMiddles_214 32 rfl
theorem dX12_findHeapMiddles_58 : decode cX12_findHeapMiddles 58 = .ok (.iconst 1, 1) := dall dgX12_findHeapMiddles_214 33 rfl
theorem dX12_findHeapMiddles_59 : decode cX12_findHeapMiddles 59 = .ok (.goto 4, 3) := dall dgX12_findHeapMiddles_214 34 rfl
theorem dX12_findHeapMiddles_62 : decode cX12_findHeapMiddles 62 = .ok (.iconst 0, 1) := dall dgX12_findHeapMiddles_214 35 rfl
theorem dX12_findHeapMiddles_63 : decode cX12_findHeapMiddles 63 = .ok (.bastore, 1) := dall dgX12_findHeapMiddles_214 36 rfl
theorem dX12_findHeapMiddles_64 : decode cX12_findHeapMiddles 64 = .ok (.iinc 2 1, 3) := dall dgX12_findHeapMiddles_214 37 rfl
theorem dX12_findHeapMiddles_67 : decode cX12_findHeapMiddles 67 = .ok (.goto (-48), 3) := dall dgX12_findHeapMiddles_214 38 rfl
theorem dX12_findHeapMiddles_70 : decode cX12_findHeapMiddles 70 = .ok (.aload_n 0, 1) := dall dgX12_findHeapMiddles_214 39 rfl
theorem dX12_findHeapMiddles_71 : decode cX12_findHeapMiddles 71 = .ok (.invokevirtual 181, 3) := dall dgX12_findHeapMiddles_214 40 rfl
theorem dX12_findHeapMiddles_74 : decode cX12_findHeapMiddles 74 = .ok (.iconst 0, 1) := dall dgX12_findHeapMiddles_214 41 rfl
theorem dX12_findHeapMiddles_75 : decode cX12_findHeapMiddles 75 = .ok (.istore_n 2, 1) := dall dgX12_findHeapMiddles_214 42 rfl
theorem dX12_findHeapMiddles_76 : decode cX12_findHeapMiddles 76 = .ok (.iload_n 2, 1) := dall dgX12_findHeapMiddles_214 43 rfl
theorem dX12_findHeapMiddles_77 : decode cX12_findHeapMiddles 77 = .ok (.iconst 4, 1) := dall dgX12_findHeapMiddles_214 44 rfl
theorem dX12_findHeapMiddles_78 : decode cX12_findHeapMiddles 78 = .ok (.if_icmp .ge 25, 3) := dall dgX12_findHeapMiddles_214 45 rfl
theorem dX12_findHeapMiddles_81 : decode cX12_findHeapMiddles 81 = .ok (.aload_n 0, 1) := dall dgX12_findHeapMiddles_214 46 rfl
theorem dX12_findHeapMiddles_82 : decode cX12_findHeapMiddles 82 = .ok (.getfield 81, 3) := dall dgX12_findHeapMiddles_214 47 rfl
theorem dX12_findHeapMiddles_85 : decode cX12_findHeapMiddles 85 = .ok (.iconst 4, 1) := dall dgX12_findHeapMiddles_214 48 rfl
theorem dX12_findHeapMiddles_86 : decode cX12_findHeapMiddles 86 = .ok (.iload_n 1, 1) := dall dgX12_findHeapMiddles_214 49 rfl
def lgX12_findHeapMiddles_215 : List (Nat × Instr × Nat) := [(87, .imul, 1), (88, .iload_n 2, 1), (89, .iadd, 1), (90, .aload_n 0, 1), (91, .getfield 57, 3), (94, .iload_n 2, 1), (95, .iaload, 1), (96, .iastore, 1), (97, .iinc 2 1, 3), (100, .goto (-24), 3), (103, .iinc 1 1, 3), (106, .goto (-104), 3), (109, .return_, 1)]
theorem dgX12_findHeapMiddles_215 : ∀ q ∈ lgX12_findHeapMiddles_215, decode cX12_findHeapMiddles q.1 = .ok (q.2.1, q.2.2) := by decide +kernel
theorem dX12_findHeapMiddles_87 : decode cX12_findHeapMiddles 87 = .ok (.imul, 1) := dall dgX12_findHeapMiddles_215 0 rfl
theorem dX12_findHeapMiddles_88 : decode cX12_findHeapMiddles 88 = .ok (.iload_n 2, 1) := dall dgX12_findHeapMiddles_215 1 rfl
theorem dX12_findHeapMiddles_89 : decode cX12_findHeapMiddles 89 = .ok (.iadd, 1) := dall dgX12_findHeapMiddles_215 2 rfl
theorem dX12_findHeapMiddles_90 : decode cX12_findHeapMiddles 90 = .ok (.aload_n 0, 1) := dall dgX12_findHeapMiddles_215 3 rfl
theorem dX12_findHeapMiddles_91 : decode cX12_findHeapMiddles 91 = .ok (.getfield 57, 3) := dall dgX12_findHeapMiddles_215 4 rfl
theorem dX12_findHeapMiddles_94 : decode cX12_findHeapMiddles 94 = .ok (.iload_n 2, 1) := dall dgX12_findHeapMiddles_215 5 rfl
theorem dX12_findHeapMiddles_95 : decode cX12_findHeapMiddles 95 = .ok (.iaload, 1) := dall dgX12_findHeapMiddles_215 6 rfl
theorem dX12_findHeapMiddles_96 : decode cX12_findHeapMiddles 96 = .ok (.iastore, 1) := dall dgX12_findHeapMiddles_215 7 rfl
theorem dX12_findHeapMiddles_97 : decode cX12_findHeapMiddles 97 = .ok (.iinc 2 1, 3) := dall dgX12_findHeapMiddles_215 8 rfl
theorem dX12_findHeapMiddles_100 : decode cX12_findHeapMiddles 100 = .ok (.goto (-24), 3) := dall dgX12_findHeapMiddles_215 9 rfl
theorem dX12_findHeapMiddles_103 : decode cX12_findHeapMiddles 103 = .ok (.iinc 1 1, 3) := dall dgX12_findHeapMiddles_215 10 rfl
theorem dX12_findHeapMiddles_106 : decode cX12_findHeapMiddles 106 = .ok (.goto (-104), 3) := dall dgX12_findHeapMiddles_215 11 rfl
theorem dX12_findHeapMiddles_109 : decode cX12_findHeapMiddles 109 = .ok (.return_, 1) := dall dgX12_findHeapMiddles_215 12 rfl
def lgX12_wrong_216 : List (Nat × Instr × Nat) := [(0, .iload_n 1, 1), (1, .iconst 0, 1), (2, .bipush 8, 2), (4, .invokestatic 100, 3), (7, .ifCond .ne 5, 3), (10, .iconst (-1), 1), (11, .ireturn, 1), (12, .aload_n 0, 1), (13, .invokevirtual 240, 3), (16, .ifCond .ne 6, 3), (19, .bipush (-2), 2), (21, .ireturn, 1), (22, .aload_n 0, 1), (23, .invokevirtual 246, 3), (26, .iload_n 1, 1), (27, .aload_n 0, 1), (28, .getfield 72, 3), (31, .aload_n 0, 1), (32, .getfield 191, 3), (35, .invokestatic 219, 3), (38, .if_icmp .ge 7, 3), (41, .iconst 0, 1), (42, .goto 4, 3), (45, .iconst (-1), 1), (46, .ireturn, 1)]
theorem dgX12_wrong_216 : ∀ q ∈ lgX12_wrong_216, decode cX12_wrong q.1 = .ok (q.2.1, q.2.2) := by decide +kernel
theorem dX12_wrong_0 : decode cX12_wrong 0 = .ok (.iload_n 1, 1) := dall dgX12_wrong_216 0 rfl
theorem dX12_wrong_1 : decode cX12_wrong 1 = .ok (.iconst 0, 1) := dall dgX12_wrong_216 1 rfl
theorem dX12_wrong_2 : decode cX12_wrong 2 = .ok (.bipush 8, 2) := dall dgX12_wrong_216 2 rfl
theorem dX12_wrong_4 : decode cX12_wrong 4 = .ok (.invokestatic 100, 3) := dall dgX12_wrong_216 3 rfl
theorem dX12_wrong_7 : decode cX12_wrong 7 = .ok (.ifCond .ne 5, 3) := dall dgX12_wrong_216 4 rfl
theorem dX12_wrong_10 : decode cX12_wrong 10 = .ok (.iconst (-1), 1) := dall dgX12_wrong_216 5 rfl
theorem dX12_wrong_11 : decode cX12_wrong 11 = .ok (.ireturn, 1) := dall dgX12_wrong_216 6 rfl
theorem dX12_wrong_12 : decode cX12_wrong 12 = .ok (.aload_n 0, 1) := dall dgX12_wrong_216 7 rfl
theorem dX12_wrong_13 : decode cX12_wrong 13 = .ok (.invokevirtual 240, 3) := dall dgX12_wrong_216 8 rfl
theorem dX12_wrong_16 : decode cX12_wrong 16 = .ok (.ifCond .ne 6, 3) := dall dgX12_wrong_216 9 rfl
theorem dX12_wrong_19 : decode cX12_wrong 19 = .ok (.bipush (-2), 2) := dall dgX12_wrong_216 10 rfl
theorem dX12_wrong_21 : decode cX12_wrong 21 = .ok (.ireturn, 1) := dall dgX12_wrong_216 11 rfl
theorem dX12_wrong_22 : decode cX12_wrong 22 = .ok (.aload_n 0, 1) := dall dgX12_wrong_216 12 rfl
theorem dX12_wrong_23 : decode cX12_wrong 23 = .ok (.invokevirtual 246, 3) := dall dgX12_wrong_216 13 rfl
theorem dX12_wrong_26 : decode cX12_wrong 26 = .ok (.iload_n 1, 1) := dall dgX12_wrong_216 14 rfl
theorem dX12_wrong_27 : decode cX12_wrong 27 = .ok (.aload_n 0, 1) := dall dgX12_wrong_216 15 rfl
theorem dX12_wrong_28 : decode cX12_wrong 28 = .ok (.getfield 72, 3) := dall dgX12_wrong_216 16 rfl
theorem dX12_wrong_31 : decode cX12_wrong 31 = .ok (.aload_n 0, 1) := dall dgX12_wrong_216 17 rfl
theorem dX12_wrong_32 : decode cX12_wrong 32 = .ok (.getfield 191, 3) := dall dgX12_wrong_216 18 rfl
theorem dX12_wrong_35 : decode cX12_wrong 35 = .ok (.invokestatic 219, 3) := dall dgX12_wrong_216 19 rfl
theorem dX12_wrong_38 : decode cX12_wrong 38 = .ok (.if_icmp .ge 7, 3) := dall dgX12_wrong_216 20 rfl
theorem dX12_wrong_41 : decode cX12_wrong 41 = .ok (.iconst 0, 1) := dall dgX12_wrong_216 21 rfl
theorem dX12_wrong_42 : decode cX12_wrong 42 = .ok (.goto 4, 3) := dall dgX12_wrong_216 22 rfl
theorem dX12_wrong_45 : decode cX12_wrong 45 = .ok (.iconst (-1), 1) := dall dgX12_wrong_216 23 rfl
theorem dX12_wrong_46 : decode cX12_wrong 46 = .ok (.ireturn, 1) := dall dgX12_wrong_216 24 rfl
def lgX12_middle_217 : List (Nat × Instr × Nat) := [(0, .iload_n 2, 1), (1, .iconst 0, 1), (2, .iconst 3, 1), (3, .invokestatic 100, 3), (6, .ifCond .eq 11, 3), (9, .aload_n 0, 1), (10, .iload_n 1, 1), (11, .invokevirtual 249, 3), (14, .goto 4, 3), (17, .iconst (-1), 1), (18, .istore_n 3, 1), (19, .iload_n 3, 1), (20, .ifCond .ne 16, 3), (23, .aload_n 0, 1), (24, .getfield 81, 3), (27, .iconst 4, 1), (28, .iload_n 1, 1), (29, .imul, 1), (30, .iload_n 2, 1), (31, .iadd, 1), (32, .iaload, 1), (33, .goto 4, 3), (36, .iload_n 3, 1), (37, .ireturn, 1)]
theorem dgX12_middle_217 : ∀ q ∈ lgX12_middle_217, decode cX12_middle q.1 = .ok (q.2.1, q.2.2) := by decide +kernel
theorem dX12_middle_0 : decode cX12_middle 0 = .ok (.iload_n 2, 1) := dall dgX12_middle_217 0 rfl
theorem dX12_middle_1 : decode cX12_middle 1 = .ok (.iconst 0, 1) := dall dgX12_middle_217 1 rfl
theorem dX12_middle_2 : decode cX12_middle 2 = .ok (.iconst 3, 1) := dall dgX12_middle_217 2 rfl
theorem dX12_middle_3 : decode cX12_middle 3 = .ok (.invokestatic 100, 3) := dall dgX12_middle_217 3 rfl
theorem dX12_middle_6 : decode cX12_middle 6 = .ok (.ifCond .eq 11, 3) := dall dgX12_middle_217 4 rfl
theorem dX12_middle_9 : decode cX12_middle 9 = .ok (.aload_n 0, 1) := dall dgX12_middle_217 5 rfl
theorem dX12_middle_10 : decode cX12_middle 10 = .ok (.iload_n 1, 1) := dall dgX12_middle_217 6 rfl
theorem dX12_middle_11 : decode cX12_middle 11 = .ok (.invokevirtual 249, 3) := dall dgX12_middle_217 7 rfl
theorem dX12_middle_14 : decode cX12_middle 14 = .ok (.goto 4, 3) := dall dgX12_middle_217 8 rfl
theorem dX12_middle_17 : decode cX12_middle 17 = .ok (.iconst (-1), 1) := dall dgX12_middle_217 9 rfl
theorem dX12_middle_18 : decode cX12_middle 18 = .ok (.istore_n 3, 1) := dall dgX12_middle_217 10 rfl
theorem dX12_middle_19 : decode cX12_middle 19 = .ok (.iload_n 3, 1) := dall dgX12_middle_217 11 rfl
theorem dX12_middle_20 : decode cX12_middle 20 = .ok (.ifCond .ne 16, 3) := dall dgX12_middle_217 12 rfl
theorem dX12_middle_23 : decode cX12_middle 23 = .ok (.aload_n 0, 1) := dall dgX12_middle_217 13 rfl
theorem dX12_middle_24 : decode cX12_middle 24 = .ok (.getfield 81, 3) := dall dgX12_middle_217 14 rfl
theorem dX12_middle_27 : decode cX12_middle 27 = .ok (.iconst 4, 1) := dall dgX12_middle_217 15 rfl
theorem dX12_middle_28 : decode cX12_middle 28 = .ok (.iload_n 1, 1) := dall dgX12_middle_217 16 rfl
theorem dX12_middle_29 : decode cX12_middle 29 = .ok (.imul, 1) := dall dgX12_middle_217 17 rfl
theorem dX12_middle_30 : decode cX12_middle 30 = .ok (.iload_n 2, 1) := dall dgX12_middle_217 18 rfl
theorem dX12_middle_31 : decode cX12_middle 31 = .ok (.iadd, 1) := dall dgX12_middle_217 19 rfl
theorem dX12_middle_32 : decode cX12_middle 32 = .ok (.iaload, 1) := dall dgX12_middle_217 20 rfl
theorem dX12_middle_33 : decode cX12_middle 33 = .ok (.goto 4, 3) := dall dgX12_middle_217 21 rfl
theorem dX12_middle_36 : decode cX12_middle 36 = .ok (.iload_n 3, 1) := dall dgX12_middle_217 22 rfl
theorem dX12_middle_37 : decode cX12_middle 37 = .ok (.ireturn, 1) := dall dgX12_middle_217 23 rfl
def lgX12_twice_218 : List (Nat × Instr × Nat) := [(0, .aload_n 0, 1), (1, .invokevirtual 203, 3), (4, .aload_n 0, 1), (5, .iload_n 1, 1), (6, .invokevirtual 206, 3), (9, .ifCond .eq 12, 3), (12, .iload_n 2, 1), (13, .iconst 0, 1), (14, .iconst 1, 1), (15, .invokestatic 100, 3), (18, .ifCond .ne 5, 3), (21, .iconst (-1), 1), (22, .ireturn, 1), (23, .aload_n 0, 1), (24, .invokevirtual 240, 3), (27, .ifCond .ne 6, 3), (30, .bipush (-2), 2), (32, .ireturn, 1), (33, .aload_n 0, 1), (34, .invokevirtual 246, 3), (37, .iconst 0, 1), (38, .istore_n 3, 1), (39, .iconst 0, 1), (40, .istore 4, 2), (42, .iload 4, 2), (44, .iconst 4, 1), (45, .if_icmp .ge 43, 3), (48, .iload_n 3, 1), (49, .aload_n 0, 1), (50, .getfield 48, 3), (53, .iconst 4, 1), (54, .iload_n 1, 1), (55, .imul, 1), (56, .iload 4, 2), (58, .iadd, 1), (59, .iaload, 1), (60, .aload_n 0, 1), (61, .getfield 81, 3), (64, .iconst 4, 1), (65, .aload_n 0, 1), (66, .getfield 72, 3), (69, .iload_n 1, 1), (70, .iaload, 1), (71, .imul, 1), (72, .iload 4, 2), (74, .iadd, 1), (75, .iaload, 1), (76, .isub, 1), (77, .invokestatic 209, 3), (80, .iadd, 1)]
theorem dgX12_twice_218 : ∀ q ∈ lgX12_twice_218, decode cX12_twice q.1 = .ok (q.2.1, q.2.2) := by decide +kernel
theorem dX12_twice_0 : decode cX12_twice 0 = .ok (.aload_n 0, 1) := dall dgX12_twice_218 0 rfl
theorem dX12_twice_1 : decode cX12_twice 1 = .ok (.invokevirtual 203, 3) := dall dgX12_twice_218 1 rfl
theorem dX12_twice_4 : decode cX12_twice 4 = .ok (.aload_n 0, 1) := dall dgX12_twice_218 2 rfl
theorem dX12_twice_5 : decode cX12_twice 5 = .ok (.iload_n 1, 1) := dall dgX12_twice_218 3 rfl
theorem dX12_twice_6 : decode cX12_twice 6 = .ok (.invokevirtual 206, 3) := dall dgX12_twice_218 4 rfl
theorem dX12_twice_9 : decode cX12_twice 9 = .ok (.ifCond .eq 12, 3) := dall dgX12_twice_218 5 rfl
theorem dX12_twice_12 : decode cX12_twice 12 = .ok (.iload_n 2, 1) := dall dgX12_twice_218 6 rfl
theorem dX12_twice_13 : decode cX12_twice 13 = .ok (.iconst 0, 1) := dall dgX12_twice_218 7 rfl
theorem dX12_twice_14 : decode cX12_twice 14 = .ok (.iconst 1, 1) := dall dgX12_twice_218 8 rfl
theorem dX12_twice_15 : decode cX12_twice 15 = .ok (.invokestatic 100, 3) := dall dgX12_twice_218 9 rfl
theorem dX12_twice_18 : decode cX12_twice 18 = .ok (.ifCond .ne 5, 3) := dall dgX12_twice_218 10 rfl
theorem dX12_twice_21 : decode cX12_twice 21 = .ok (.iconst (-1), 1) := dall dgX12_twice_218 11 rfl
theorem dX12_twice_22 : decode cX12_twice 22 = .ok (.ireturn, 1) := dall dgX12_twice_218 12 rfl
theorem dX12_twice_23 : decode cX12_twice 23 = .ok (.aload_n 0, 1) := dall dgX12_twice_218 13 rfl
theorem dX12_twice_24 : decode cX12_twice 24 = .ok (.invokevirtual 240, 3) := dall dgX12_twice_218 14 rfl
theorem dX12_twice_27 : decode cX12_twice 27 = .ok (.ifCond .ne 6, 3) := dall dgX12_twice_218 15 rfl
theorem dX12_twice_30 : decode cX12_twice 30 = .ok (.bipush (-2), 2) := dall dgX12_twice_218 16 rfl
theorem dX12_twice_32 : decode cX12_twice 32 = .ok (.ireturn, 1) := dall dgX12_twice_218 17 rfl
theorem dX12_twice_33 : decode cX12_twice 33 = .ok (.aload_n 0, 1) := dall dgX12_twice_218 18 rfl
theorem dX12_twice_34 : decode cX12_twice 34 = .ok (.invokevirtual 246, 3) := dall dgX12_twice_218 19 rfl
theorem dX12_twice_37 : decode cX12_twice 37 = .ok (.iconst 0, 1) := dall dgX12_twice_218 20 rfl
theorem dX12_twice_38 : decode cX12_twice 38 = .ok (.istore_n 3, 1) := dall dgX12_twice_218 21 rfl
theorem dX12_twice_39 : decode cX12_twice 39 = .ok (.iconst 0, 1) := dall dgX12_twice_218 22 rfl
theorem dX12_twice_40 : decode cX12_twice 40 = .ok (.istore 4, 2) := dall dgX12_twice_218 23 rfl
theorem dX12_twice_42 : decode cX12_twice 42 = .ok (.iload 4, 2) := dall dgX12_twice_218 24 rfl
theorem dX12_twice_44 : decode cX12_twice 44 = .ok (.iconst 4, 1) := dall dgX12_twice_218 25 rfl
theorem dX12_twice_45 : decode cX12_twice 45 = .ok (.if_icmp .ge 43, 3) := dall dgX12_twice_218 26 rfl
theorem dX12_twice_48 : decode cX12_twice 48 = .ok (.iload_n 3, 1) := dall dgX12_twice_218 27 rfl
theorem dX12_twice_49 : decode cX12_twice 49 = .ok (.aload_n 0, 1) := dall dgX12_twice_218 28 rfl
theorem dX12_twice_50 : decode cX12_twice 50 = .ok (.getfield 48, 3) := dall dgX12_twice_218 29 rfl
theorem dX12_twice_53 : decode cX12_twice 53 = .ok (.iconst 4, 1) := dall dgX12_twice_218 30 rfl
theorem dX12_twice_54 : decode cX12_twice 54 = .ok (.iload_n 1, 1) := dall dgX12_twice_218 31 rfl
theorem dX12_twice_55 : decode cX12_twice 55 = .ok (.imul, 1) := dall dgX12_twice_218 32 rfl
theorem dX12_twice_56 : decode cX12_twice 56 = .ok (.iload 4, 2) := dall dgX12_twice_218 33 rfl
theorem dX12_twice_58 : decode cX12_twice 58 = .ok (.iadd, 1) := dall dgX12_twice_218 34 rfl
theorem dX12_twice_59 : decode cX12_twice 59 = .ok (.iaload, 1) := dall dgX12_twice_218 35 rfl
theorem dX12_twice_60 : decode cX12_twice 60 = .ok (.aload_n 0, 1) := dall dgX12_twice_218 36 rfl
theorem dX12_twice_61 : decode cX12_twice 61 = .ok (.getfield 81, 3) := dall dgX12_twice_218 37 rfl
theorem dX12_twice_64 : decode cX12_twice 64 = .ok (.iconst 4, 1) := dall dgX12_twice_218 38 rfl
theorem dX12_twice_65 : decode cX12_twice 65 = .ok (.aload_n 0, 1) := dall dgX12_twice_218 39 rfl
theorem dX12_twice_66 : decode cX12_twice 66 = .ok (.getfield 72, 3) := dall dgX12_twice_218 40 rfl
theorem dX12_twice_69 : decode cX12_twice 69 = .ok (.iload_n 1, 1) := dall dgX12_twice_218 41 rfl
theorem dX12_twice_70 : decode cX12_twice 70 = .ok (.iaload, 1) := dall dgX12_twice_218 42 rfl
theorem dX12_twice_71 : decode cX12_twice 71 = .ok (.imul, 1) := dall dgX12_twice_218 43 rfl
theorem dX12_twice_72 : decode cX12_twice 72 = .ok (.iload 4, 2) := dall dgX12_twice_218 44 rfl
theorem dX12_twice_74 : decode cX12_twice 74 = .ok (.iadd, 1) := dall dgX12_twice_218 45 rfl
theorem dX12_twice_75 : decode cX12_twice 75 = .ok (.iaload, 1) := dall dgX12_twice_218 46 rfl
theorem dX12_twice_76 : decode cX12_twice 76 = .ok (.isub, 1) := dall dgX12_twice_218 47 rfl
theorem dX12_twice_77 : decode cX12_twice 77 = .ok (.invokestatic 209, 3) := dall dgX12_twice_218 48 rfl
theorem dX12_twice_80 : decode cX12_twice 80 = .ok (.iadd, 1) := dall dgX12_twice_218 49 rfl
def lgX12_twice_219 : List (Nat × Instr × Nat) := [(81, .istore_n 3, 1), (82, .iinc 4 1, 3), (85, .goto (-43), 3), (88, .bipush (-9), 2), (90, .istore 4, 2), (92, .bipush (-9), 2), (94, .istore 5, 2), (96, .iload_n 3, 1), (97, .aload_n 0, 1), (98, .getfield 7, 3), (101, .iconst 5, 1), (102, .iaload, 1), (103, .isub, 1), (104, .iconst 1, 1), (105, .iadd, 1), (106, .istore 6, 2), (108, .aload_n 0, 1), (109, .getfield 72, 3), (112, .aload_n 0, 1), (113, .getfield 191, 3), (116, .invokestatic 219, 3), (119, .istore 7, 2), (121, .iconst 0, 1), (122, .istore 8, 2), (124, .iload 8, 2), (126, .iload 7, 2), (128, .if_icmp .ge 148, 3), (131, .iload 8, 2), (133, .iconst 1, 1), (134, .iadd, 1), (135, .istore 9, 2), (137, .iload 9, 2), (139, .iload 7, 2), (141, .if_icmp .ge 129, 3), (144, .iconst 0, 1), (145, .istore 10, 2), (147, .iconst 0, 1), (148, .istore 11, 2), (150, .iload 11, 2), (152, .iconst 4, 1), (153, .if_icmp .ge 70, 3), (156, .aload_n 0, 1), (157, .getfield 81, 3), (160, .iconst 4, 1), (161, .iload 8, 2), (163, .imul, 1), (164, .iload 11, 2), (166, .iadd, 1), (167, .iaload, 1), (168, .aload_n 0, 1)]
theorem dgX12_twice_219 : ∀ q ∈ lgX12_twice_219, decode cX12_twice q.1 = .ok (q.2.1, q.2.2) := by decide +kernel
theorem dX12_twice_81 : decode cX12_twice 81 = .ok (.istore_n 3, 1) := dall dgX12_twice_219 0 rfl
theorem dX12_twice_82 : decode cX12_twice 82 = .ok (.iinc 4 1, 3) := dall dgX12_twice_219 1 rfl
theorem dX12_twice_85 : decode cX12_twice 85 = .ok (.goto (-43), 3) := dall dgX12_twice_219 2 rfl
theorem dX12_twice_88 : decode cX12_twice 88 = .ok (.bipush (-9), 2) := dall dgX12_twice_219 3 rfl
theorem dX12_twice_90 : decode cX12_twice 90 = .ok (.istore 4, 2) := dall dgX12_twice_219 4 rfl
theorem dX12_twice_92 : decode cX12_twice 92 = .ok (.bipush (-9), 2) := dall dgX12_twice_219 5 rfl
theorem dX12_twice_94 : decode cX12_twice 94 = .ok (.istore 5, 2) := dall dgX12_twice_219 6 rfl
theorem dX12_twice_96 : decode cX12_twice 96 = .ok (.iload_n 3, 1) := dall dgX12_twice_219 7 rfl
theorem dX12_twice_97 : decode cX12_twice 97 = .ok (.aload_n 0, 1) := dall dgX12_twice_219 8 rfl
theorem dX12_twice_98 : decode cX12_twice 98 = .ok (.getfield 7, 3) := dall dgX12_twice_219 9 rfl
theorem dX12_twice_101 : decode cX12_twice 101 = .ok (.iconst 5, 1) := dall dgX12_twice_219 10 rfl
theorem dX12_twice_102 : decode cX12_twice 102 = .ok (.iaload, 1) := dall dgX12_twice_219 11 rfl
theorem dX12_twice_103 : decode cX12_twice 103 = .ok (.isub, 1) := dall dgX12_twice_219 12 rfl
theorem dX12_twice_104 : decode cX12_twice 104 = .ok (.iconst 1, 1) := dall dgX12_twice_219 13 rfl
theorem dX12_twice_105 : decode cX12_twice 105 = .ok (.iadd, 1) := dall dgX12_twice_219 14 rfl
theorem dX12_twice_106 : decode cX12_twice 106 = .ok (.istore 6, 2) := dall dgX12_twice_219 15 rfl
theorem dX12_twice_108 : decode cX12_twice 108 = .ok (.aload_n 0, 1) := dall dgX12_twice_219 16 rfl
theorem dX12_twice_109 : decode cX12_twice 109 = .ok (.getfield 72, 3) := dall dgX12_twice_219 17 rfl
theorem dX12_twice_112 : decode cX12_twice 112 = .ok (.aload_n 0, 1) := dall dgX12_twice_219 18 rfl
theorem dX12_twice_113 : decode cX12_twice 113 = .ok (.getfield 191, 3) := dall dgX12_twice_219 19 rfl
theorem dX12_twice_116 : decode cX12_twice 116 = .ok (.invokestatic 219, 3) := dall dgX12_twice_219 20 rfl
theorem dX12_twice_119 : decode cX12_twice 119 = .ok (.istore 7, 2) := dall dgX12_twice_219 21 rfl
theorem dX12_twice_121 : decode cX12_twice 121 = .ok (.iconst 0, 1) := dall dgX12_twice_219 22 rfl
theorem dX12_twice_122 : decode cX12_twice 122 = .ok (.istore 8, 2) := dall dgX12_twice_219 23 rfl
theorem dX12_twice_124 : decode cX12_twice 124 = .ok (.iload 8, 2) := dall dgX12_twice_219 24 rfl
theorem dX12_twice_126 : decode cX12_twice 126 = .ok (.iload 7, 2) := dall dgX12_twice_219 25 rfl
theorem dX12_twice_128 : decode cX12_twice 128 = .ok (.if_icmp .ge 148, 3) := dall dgX12_twice_219 26 rfl
theorem dX12_twice_131 : decode cX12_twice 131 = .ok (.iload 8, 2) := dall dgX12_twice_219 27 rfl
theorem dX12_twice_133 : decode cX12_twice 133 = .ok (.iconst 1, 1) := dall dgX12_twice_219 28 rfl
theorem dX12_twice_134 : decode cX12_twice 134 = .ok (.iadd, 1) := dall dgX12_twice_219 29 rfl
theorem dX12_twice_135 : decode cX12_twice 135 = .ok (.istore 9, 2) := dall dgX12_twice_219 30 rfl
theorem dX12_twice_137 : decode cX12_twice 137 = .ok (.iload 9, 2) := dall dgX12_twice_219 31 rfl
theorem dX12_twice_139 : decode cX12_twice 139 = .ok (.iload 7, 2) := dall dgX12_twice_219 32 rfl
theorem dX12_twice_141 : decode cX12_twice 141 = .ok (.if_icmp .ge 129, 3) := dall dgX12_twice_219 33 rfl
theorem dX12_twice_144 : decode cX12_twice 144 = .ok (.iconst 0, 1) := dall dgX12_twice_219 34 rfl
theorem dX12_twice_145 : decode cX12_twice 145 = .ok (.istore 10, 2) := dall dgX12_twice_219 35 rfl
theorem dX12_twice_147 : decode cX12_twice 147 = .ok (.iconst 0, 1) := dall dgX12_twice_219 36 rfl
theorem dX12_twice_148 : decode cX12_twice 148 = .ok (.istore 11, 2) := dall dgX12_twice_219 37 rfl
theorem dX12_twice_150 : decode cX12_twice 150 = .ok (.iload 11, 2) := dall dgX12_twice_219 38 rfl
theorem dX12_twice_152 : decode cX12_twice 152 = .ok (.iconst 4, 1) := dall dgX12_twice_219 39 rfl
theorem dX12_twice_153 : decode cX12_twice 153 = .ok (.if_icmp .ge 70, 3) := dall dgX12_twice_219 40 rfl
theorem dX12_twice_156 : decode cX12_twice 156 = .ok (.aload_n 0, 1) := dall dgX12_twice_219 41 rfl
theorem dX12_twice_157 : decode cX12_twice 157 = .ok (.getfield 81, 3) := dall dgX12_twice_219 42 rfl
theorem dX12_twice_160 : decode cX12_twice 160 = .ok (.iconst 4, 1) := dall dgX12_twice_219 43 rfl
theorem dX12_twice_161 : decode cX12_twice 161 = .ok (.iload 8, 2) := dall dgX12_twice_219 44 rfl
theorem dX12_twice_163 : decode cX12_twice 163 = .ok (.imul, 1) := dall dgX12_twice_219 45 rfl
theorem dX12_twice_164 : decode cX12_twice 164 = .ok (.iload 11, 2) := dall dgX12_twice_219 46 rfl
theorem dX12_twice_166 : decode cX12_twice 166 = .ok (.iadd, 1) := dall dgX12_twice_219 47 rfl
theorem dX12_twice_167 : decode cX12_twice 167 = .ok (.iaload, 1) := dall dgX12_twice_219 48 rfl
theorem dX12_twice_168 : decode cX12_twice 168 = .ok (.aload_n 0, 1) := dall dgX12_twice_219 49 rfl
def lgX12_twice_220 : List (Nat × Instr × Nat) := [(169, .getfield 81, 3), (172, .iconst 4, 1), (173, .iload 9, 2), (175, .imul, 1), (176, .iload 11, 2), (178, .iadd, 1), (179, .iaload, 1), (180, .iadd, 1), (181, .istore 12, 2), (183, .iload 10, 2), (185, .aload_n 0, 1), (186, .getfield 48, 3), (189, .iconst 4, 1), (190, .iload_n 1, 1), (191, .imul, 1), (192, .iload 11, 2), (194, .iadd, 1), (195, .iaload, 1), (196, .iload 12, 2), (198, .bipush 99, 2), (200, .if_icmp .le 8, 3), (203, .bipush 99, 2), (205, .goto 5, 3), (208, .iload 12, 2), (210, .isub, 1), (211, .invokestatic 209, 3), (214, .iadd, 1), (215, .istore 10, 2), (217, .iinc 11 1, 3), (220, .goto (-70), 3), (223, .iload 8, 2), (225, .aload_n 0, 1), (226, .getfield 72, 3), (229, .iload_n 1, 1), (230, .iaload, 1), (231, .if_icmp .eq 33, 3), (234, .iload 9, 2), (236, .aload_n 0, 1), (237, .getfield 72, 3), (240, .iload_n 1, 1), (241, .iaload, 1), (242, .if_icmp .eq 22, 3), (245, .iload 10, 2), (247, .iload 6, 2), (249, .if_icmp .ge 15, 3), (252, .iload 10, 2), (254, .istore 6, 2), (256, .iload 8, 2), (258, .istore 4, 2), (260, .iload 9, 2)]
theorem dgX12_twice_220 : ∀ q ∈ lgX12_twice_220, decode cX12_twice q.1 = .ok (q.2.1, q.2.2) := by decide +kernel
theorem dX12_twice_169 : decode cX12_twice 169 = .ok (.getfield 81, 3) := dall dgX12_twice_220 0 rfl
theorem dX12_twice_172 : decode cX12_twice 172 = .ok (.iconst 4, 1) := dall dgX12_twice_220 1 rfl
theorem dX12_twice_173 : decode cX12_twice 173 = .ok (.iload 9, 2) := dall dgX12_twice_220 2 rfl
theorem dX12_twice_175 : decode cX12_twice 175 = .ok (.imul, 1) := dall dgX12_twice_220 3 rfl
theorem dX12_twice_176 : decode cX12_twice 176 = .ok (.iload 11, 2) := dall dgX12_twice_220 4 rfl
theorem dX12_twice_178 : decode cX12_twice 178 = .ok (.iadd, 1) := dall dgX12_twice_220 5 rfl
theorem dX12_twice_179 : decode cX12_twice 179 = .ok (.iaload, 1) := dall dgX12_twice_220 6 rfl
theorem dX12_twice_180 : decode cX12_twice 180 = .ok (.iadd, 1) := dall dgX12_twice_220 7 rfl
theorem dX12_twice_181 : decode cX12_twice 181 = .ok (.istore 12, 2) := dall dgX12_twice_220 8 rfl
theorem dX12_twice_183 : decode cX12_twice 183 = .ok (.iload 10, 2) := dall dgX12_twice_220 9 rfl
theorem dX12_twice_185 : decode cX12_twice 185 = .ok (.aload_n 0, 1) := dall dgX12_twice_220 10 rfl
theorem dX12_twice_186 : decode cX12_twice 186 = .ok (.getfield 48, 3) := dall dgX12_twice_220 11 rfl
theorem dX12_twice_189 : decode cX12_twice 189 = .ok (.iconst 4, 1) := dall dgX12_twice_220 12 rfl
theorem dX12_twice_190 : decode cX12_twice 190 = .ok (.iload_n 1, 1) := dall dgX12_twice_220 13 rfl
theorem dX12_twice_191 : decode cX12_twice 191 = .ok (.imul, 1) := dall dgX12_twice_220 14 rfl
theorem dX12_twice_192 : decode cX12_twice 192 = .ok (.iload 11, 2) := dall dgX12_twice_220 15 rfl
theorem dX12_twice_194 : decode cX12_twice 194 = .ok (.iadd, 1) := dall dgX12_twice_220 16 rfl
theorem dX12_twice_195 : decode cX12_twice 195 = .ok (.iaload, 1) := dall dgX12_twice_220 17 rfl
theorem dX12_twice_196 : decode cX12_twice 196 = .ok (.iload 12, 2) := dall dgX12_twice_220 18 rfl
theorem dX12_twice_198 : decode cX12_twice 198 = .ok (.bipush 99, 2) := dall dgX12_twice_220 19 rfl
theorem dX12_twice_200 : decode cX12_twice 200 = .ok (.if_icmp .le 8, 3) := dall dgX12_twice_220 20 rfl
theorem dX12_twice_203 : decode cX12_twice 203 = .ok (.bipush 99, 2) := dall dgX12_twice_220 21 rfl
theorem dX12_twice_205 : decode cX12_twice 205 = .ok (.goto 5, 3) := dall dgX12_twice_220 22 rfl
theorem dX12_twice_208 : decode cX12_twice 208 = .ok (.iload 12, 2) := dall dgX12_twice_220 23 rfl
theorem dX12_twice_210 : decode cX12_twice 210 = .ok (.isub, 1) := dall dgX12_twice_220 24 rfl
theorem dX12_twice_211 : decode cX12_twice 211 = .ok (.invokestatic 209, 3) := dall dgX12_twice_220 25 rfl
theorem dX12_twice_214 : decode cX12_twice 214 = .ok (.iadd, 1) := dall dgX12_twice_220 26 rfl
theorem dX12_twice_215 : decode cX12_twice 215 = .ok (.istore 10, 2) := dall dgX12_twice_220 27 rfl
theorem dX12_twice_217 : decode cX12_twice 217 = .ok (.iinc 11 1, 3) := dall dgX12_twice_220 28 rfl
theorem dX12_twice_220 : decode cX12_twice 220 = .ok (.goto (-70), 3) := dall dgX12_twice_220 29 rfl
theorem dX12_twice_223 : decode cX12_twice 223 = .ok (.iload 8, 2) := dall dgX12_twice_220 30 rfl
theorem dX12_twice_225 : decode cX12_twice 225 = .ok (.aload_n 0, 1) := dall dgX12_twice_220 31 rfl
theorem dX12_twice_226 : decode cX12_twice 226 = .ok (.getfield 72, 3) := dall dgX12_twice_220 32 rfl
theorem dX12_twice_229 : decode cX12_twice 229 = .ok (.iload_n 1, 1) := dall dgX12_twice_220 33 rfl
theorem dX12_twice_230 : decode cX12_twice 230 = .ok (.iaload, 1) := dall dgX12_twice_220 34 rfl
theorem dX12_twice_231 : decode cX12_twice 231 = .ok (.if_icmp .eq 33, 3) := dall dgX12_twice_220 35 rfl
theorem dX12_twice_234 : decode cX12_twice 234 = .ok (.iload 9, 2) := dall dgX12_twice_220 36 rfl
theorem dX12_twice_236 : decode cX12_twice 236 = .ok (.aload_n 0, 1) := dall dgX12_twice_220 37 rfl
theorem dX12_twice_237 : decode cX12_twice 237 = .ok (.getfield 72, 3) := dall dgX12_twice_220 38 rfl
theorem dX12_twice_240 : decode cX12_twice 240 = .ok (.iload_n 1, 1) := dall dgX12_twice_220 39 rfl
theorem dX12_twice_241 : decode cX12_twice 241 = .ok (.iaload, 1) := dall dgX12_twice_220 40 rfl
theorem dX12_twice_242 : decode cX12_twice 242 = .ok (.if_icmp .eq 22, 3) := dall dgX12_twice_220 41 rfl
theorem dX12_twice_245 : decode cX12_twice 245 = .ok (.iload 10, 2) := dall dgX12_twice_220 42 rfl
theorem dX12_twice_247 : decode cX12_twice 247 = .ok (.iload 6, 2) := dall dgX12_twice_220 43 rfl
theorem dX12_twice_249 : decode cX12_twice 249 = .ok (.if_icmp .ge 15, 3) := dall dgX12_twice_220 44 rfl
theorem dX12_twice_252 : decode cX12_twice 252 = .ok (.iload 10, 2) := dall dgX12_twice_220 45 rfl
theorem dX12_twice_254 : decode cX12_twice 254 = .ok (.istore 6, 2) := dall dgX12_twice_220 46 rfl
theorem dX12_twice_256 : decode cX12_twice 256 = .ok (.iload 8, 2) := dall dgX12_twice_220 47 rfl
theorem dX12_twice_258 : decode cX12_twice 258 = .ok (.istore 4, 2) := dall dgX12_twice_220 48 rfl
theorem dX12_twice_260 : decode cX12_twice 260 = .ok (.iload 9, 2) := dall dgX12_twice_220 49 rfl
def lgX12_twice_221 : List (Nat × Instr × Nat) := [(262, .istore 5, 2), (264, .iinc 9 1, 3), (267, .goto (-130), 3), (270, .iinc 8 1, 3), (273, .goto (-149), 3), (276, .iload_n 2, 1), (277, .ifCond .ne 8, 3), (280, .iload 4, 2), (282, .goto 5, 3), (285, .iload 5, 2), (287, .ireturn, 1)]
theorem dgX12_twice_221 : ∀ q ∈ lgX12_twice_221, decode cX12_twice q.1 = .ok (q.2.1, q.2.2) := by decide +kernel
theorem dX12_twice_262 : decode cX12_twice 262 = .ok (.istore 5, 2) := dall dgX12_twice_221 0 rfl
theorem dX12_twice_264 : decode cX12_twice 264 = .ok (.iinc 9 1, 3) := dall dgX12_twice_221 1 rfl
theorem dX12_twice_267 : decode cX12_twice 267 = .ok (.goto (-130), 3) := dall dgX12_twice_221 2 rfl
theorem dX12_twice_270 : decode cX12_twice 270 = .ok (.iinc 8 1, 3) := dall dgX12_twice_221 3 rfl
theorem dX12_twice_273 : decode cX12_twice 273 = .ok (.goto (-149), 3) := dall dgX12_twice_221 4 rfl
theorem dX12_twice_276 : decode cX12_twice 276 = .ok (.iload_n 2, 1) := dall dgX12_twice_221 5 rfl
theorem dX12_twice_277 : decode cX12_twice 277 = .ok (.ifCond .ne 8, 3) := dall dgX12_twice_221 6 rfl
theorem dX12_twice_280 : decode cX12_twice 280 = .ok (.iload 4, 2) := dall dgX12_twice_221 7 rfl
theorem dX12_twice_282 : decode cX12_twice 282 = .ok (.goto 5, 3) := dall dgX12_twice_221 8 rfl
theorem dX12_twice_285 : decode cX12_twice 285 = .ok (.iload 5, 2) := dall dgX12_twice_221 9 rfl
theorem dX12_twice_287 : decode cX12_twice 287 = .ok (.ireturn, 1) := dall dgX12_twice_221 10 rfl
def lgX12_keep_222 : List (Nat × Instr × Nat) := [(0, .iload_n 2, 1), (1, .iconst 1, 1), (2, .bipush 99, 2), (4, .invokestatic 100, 3), (7, .ifCond .eq 11, 3), (10, .aload_n 0, 1), (11, .iload_n 1, 1), (12, .invokevirtual 249, 3), (15, .goto 4, 3), (18, .iconst (-1), 1), (19, .istore_n 3, 1), (20, .iload_n 3, 1), (21, .ifCond .eq 5, 3), (24, .iload_n 3, 1), (25, .ireturn, 1), (26, .aload_n 0, 1), (27, .getfield 252, 3), (30, .bipush 6, 2), (32, .if_icmp .ne 6, 3), (35, .bipush (-3), 2), (37, .ireturn, 1), (38, .aload_n 0, 1), (39, .getfield 84, 3), (42, .aload_n 0, 1), (43, .getfield 252, 3), (46, .iload_n 2, 1), (47, .iastore, 1), (48, .iconst 0, 1), (49, .istore 4, 2), (51, .iload 4, 2), (53, .iconst 4, 1), (54, .if_icmp .ge 34, 3), (57, .aload_n 0, 1), (58, .getfield 87, 3), (61, .iconst 4, 1), (62, .aload_n 0, 1), (63, .getfield 252, 3), (66, .imul, 1), (67, .iload 4, 2), (69, .iadd, 1), (70, .aload_n 0, 1), (71, .getfield 81, 3), (74, .iconst 4, 1), (75, .iload_n 1, 1), (76, .imul, 1), (77, .iload 4, 2), (79, .iadd, 1), (80, .iaload, 1), (81, .iastore, 1), (82, .iinc 4 1, 3)]
theorem dgX12_keep_222 : ∀ q ∈ lgX12_keep_222, decode cX12_keep q.1 = .ok (q.2.1, q.2.2) := by decide +kernel
theorem dX12_keep_0 : decode cX12_keep 0 = .ok (.iload_n 2, 1) := dall dgX12_keep_222 0 rfl
theorem dX12_keep_1 : decode cX12_keep 1 = .ok (.iconst 1, 1) := dall dgX12_keep_222 1 rfl
theorem dX12_keep_2 : decode cX12_keep 2 = .ok (.bipush 99, 2) := dall dgX12_keep_222 2 rfl
theorem dX12_keep_4 : decode cX12_keep 4 = .ok (.invokestatic 100, 3) := dall dgX12_keep_222 3 rfl
theorem dX12_keep_7 : decode cX12_keep 7 = .ok (.ifCond .eq 11, 3) := dall dgX12_keep_222 4 rfl
theorem dX12_keep_10 : decode cX12_keep 10 = .ok (.aload_n 0, 1) := dall dgX12_keep_222 5 rfl
theorem dX12_keep_11 : decode cX12_keep 11 = .ok (.iload_n 1, 1) := dall dgX12_keep_222 6 rfl
theorem dX12_keep_12 : decode cX12_keep 12 = .ok (.invokevirtual 249, 3) := dall dgX12_keep_222 7 rfl
theorem dX12_keep_15 : decode cX12_keep 15 = .ok (.goto 4, 3) := dall dgX12_keep_222 8 rfl
theorem dX12_keep_18 : decode cX12_keep 18 = .ok (.iconst (-1), 1) := dall dgX12_keep_222 9 rfl
theorem dX12_keep_19 : decode cX12_keep 19 = .ok (.istore_n 3, 1) := dall dgX12_keep_222 10 rfl
theorem dX12_keep_20 : decode cX12_keep 20 = .ok (.iload_n 3, 1) := dall dgX12_keep_222 11 rfl
theorem dX12_keep_21 : decode cX12_keep 21 = .ok (.ifCond .eq 5, 3) := dall dgX12_keep_222 12 rfl
theorem dX12_keep_24 : decode cX12_keep 24 = .ok (.iload_n 3, 1) := dall dgX12_keep_222 13 rfl
theorem dX12_keep_25 : decode cX12_keep 25 = .ok (.ireturn, 1) := dall dgX12_keep_222 14 rfl
theorem dX12_keep_26 : decode cX12_keep 26 = .ok (.aload_n 0, 1) := dall dgX12_keep_222 15 rfl
theorem dX12_keep_27 : decode cX12_keep 27 = .ok (.getfield 252, 3) := dall dgX12_keep_222 16 rfl
theorem dX12_keep_30 : decode cX12_keep 30 = .ok (.bipush 6, 2) := dall dgX12_keep_222 17 rfl
theorem dX12_keep_32 : decode cX12_keep 32 = .ok (.if_icmp .ne 6, 3) := dall dgX12_keep_222 18 rfl
theorem dX12_keep_35 : decode cX12_keep 35 = .ok (.bipush (-3), 2) := dall dgX12_keep_222 19 rfl
theorem dX12_keep_37 : decode cX12_keep 37 = .ok (.ireturn, 1) := dall dgX12_keep_222 20 rfl
theorem dX12_keep_38 : decode cX12_keep 38 = .ok (.aload_n 0, 1) := dall dgX12_keep_222 21 rfl
theorem dX12_keep_39 : decode cX12_keep 39 = .ok (.getfield 84, 3) := dall dgX12_keep_222 22 rfl
theorem dX12_keep_42 : decode cX12_keep 42 = .ok (.aload_n 0, 1) := dall dgX12_keep_222 23 rfl
theorem dX12_keep_43 : decode cX12_keep 43 = .ok (.getfield 252, 3) := dall dgX12_keep_222 24 rfl
theorem dX12_keep_46 : decode cX12_keep 46 = .ok (.iload_n 2, 1) := dall dgX12_keep_222 25 rfl
theorem dX12_keep_47 : decode cX12_keep 47 = .ok (.iastore, 1) := dall dgX12_keep_222 26 rfl
theorem dX12_keep_48 : decode cX12_keep 48 = .ok (.iconst 0, 1) := dall dgX12_keep_222 27 rfl
theorem dX12_keep_49 : decode cX12_keep 49 = .ok (.istore 4, 2) := dall dgX12_keep_222 28 rfl
theorem dX12_keep_51 : decode cX12_keep 51 = .ok (.iload 4, 2) := dall dgX12_keep_222 29 rfl
theorem dX12_keep_53 : decode cX12_keep 53 = .ok (.iconst 4, 1) := dall dgX12_keep_222 30 rfl
theorem dX12_keep_54 : decode cX12_keep 54 = .ok (.if_icmp .ge 34, 3) := dall dgX12_keep_222 31 rfl
theorem dX12_keep_57 : decode cX12_keep 57 = .ok (.aload_n 0, 1) := dall dgX12_keep_222 32 rfl
theorem dX12_keep_58 : decode cX12_keep 58 = .ok (.getfield 87, 3) := dall dgX12_keep_222 33 rfl
theorem dX12_keep_61 : decode cX12_keep 61 = .ok (.iconst 4, 1) := dall dgX12_keep_222 34 rfl
theorem dX12_keep_62 : decode cX12_keep 62 = .ok (.aload_n 0, 1) := dall dgX12_keep_222 35 rfl
theorem dX12_keep_63 : decode cX12_keep 63 = .ok (.getfield 252, 3) := dall dgX12_keep_222 36 rfl
theorem dX12_keep_66 : decode cX12_keep 66 = .ok (.imul, 1) := dall dgX12_keep_222 37 rfl
theorem dX12_keep_67 : decode cX12_keep 67 = .ok (.iload 4, 2) := dall dgX12_keep_222 38 rfl
theorem dX12_keep_69 : decode cX12_keep 69 = .ok (.iadd, 1) := dall dgX12_keep_222 39 rfl
theorem dX12_keep_70 : decode cX12_keep 70 = .ok (.aload_n 0, 1) := dall dgX12_keep_222 40 rfl
theorem dX12_keep_71 : decode cX12_keep 71 = .ok (.getfield 81, 3) := dall dgX12_keep_222 41 rfl
theorem dX12_keep_74 : decode cX12_keep 74 = .ok (.iconst 4, 1) := dall dgX12_keep_222 42 rfl
theorem dX12_keep_75 : decode cX12_keep 75 = .ok (.iload_n 1, 1) := dall dgX12_keep_222 43 rfl
theorem dX12_keep_76 : decode cX12_keep 76 = .ok (.imul, 1) := dall dgX12_keep_222 44 rfl
theorem dX12_keep_77 : decode cX12_keep 77 = .ok (.iload 4, 2) := dall dgX12_keep_222 45 rfl
theorem dX12_keep_79 : decode cX12_keep 79 = .ok (.iadd, 1) := dall dgX12_keep_222 46 rfl
theorem dX12_keep_80 : decode cX12_keep 80 = .ok (.iaload, 1) := dall dgX12_keep_222 47 rfl
theorem dX12_keep_81 : decode cX12_keep 81 = .ok (.iastore, 1) := dall dgX12_keep_222 48 rfl
theorem dX12_keep_82 : decode cX12_keep 82 = .ok (.iinc 4 1, 3) := dall dgX12_keep_222 49 rfl
def lgX12_keep_223 : List (Nat × Instr × Nat) := [(85, .goto (-34), 3), (88, .aload_n 0, 1), (89, .dup, 1), (90, .getfield 252, 3), (93, .iconst 1, 1), (94, .iadd, 1), (95, .putfield 252, 3), (98, .aload_n 0, 1), (99, .getfield 252, 3), (102, .iconst 1, 1), (103, .isub, 1), (104, .ireturn, 1)]
theorem dgX12_keep_223 : ∀ q ∈ lgX12_keep_223, decode cX12_keep q.1 = .ok (q.2.1, q.2.2) := by decide +kernel
theorem dX12_keep_85 : decode cX12_keep 85 = .ok (.goto (-34), 3) := dall dgX12_keep_223 0 rfl
theorem dX12_keep_88 : decode cX12_keep 88 = .ok (.aload_n 0, 1) := dall dgX12_keep_223 1 rfl
theorem dX12_keep_89 : decode cX12_keep 89 = .ok (.dup, 1) := dall dgX12_keep_223 2 rfl
theorem dX12_keep_90 : decode cX12_keep 90 = .ok (.getfield 252, 3) := dall dgX12_keep_223 3 rfl
theorem dX12_keep_93 : decode cX12_keep 93 = .ok (.iconst 1, 1) := dall dgX12_keep_223 4 rfl
theorem dX12_keep_94 : decode cX12_keep 94 = .ok (.iadd, 1) := dall dgX12_keep_223 5 rfl
theorem dX12_keep_95 : decode cX12_keep 95 = .ok (.putfield 252, 3) := dall dgX12_keep_223 6 rfl
theorem dX12_keep_98 : decode cX12_keep 98 = .ok (.aload_n 0, 1) := dall dgX12_keep_223 7 rfl
theorem dX12_keep_99 : decode cX12_keep 99 = .ok (.getfield 252, 3) := dall dgX12_keep_223 8 rfl
theorem dX12_keep_102 : decode cX12_keep 102 = .ok (.iconst 1, 1) := dall dgX12_keep_223 9 rfl
theorem dX12_keep_103 : decode cX12_keep 103 = .ok (.isub, 1) := dall dgX12_keep_223 10 rfl
theorem dX12_keep_104 : decode cX12_keep 104 = .ok (.ireturn, 1) := dall dgX12_keep_223 11 rfl
def lgX12_forget_224 : List (Nat × Instr × Nat) := [(0, .iload_n 1, 1), (1, .iconst 0, 1), (2, .aload_n 0, 1), (3, .getfield 252, 3), (6, .iconst 1, 1), (7, .isub, 1), (8, .invokestatic 100, 3), (11, .ifCond .ne 5, 3), (14, .iconst (-1), 1), (15, .ireturn, 1), (16, .aload_n 0, 1), (17, .getfield 84, 3), (20, .iload_n 1, 1), (21, .iaload, 1), (22, .istore_n 2, 1), (23, .aload_n 0, 1), (24, .dup, 1), (25, .getfield 252, 3), (28, .iconst 1, 1), (29, .isub, 1), (30, .putfield 252, 3), (33, .iload_n 1, 1), (34, .istore_n 3, 1), (35, .iload_n 3, 1), (36, .aload_n 0, 1), (37, .getfield 252, 3), (40, .if_icmp .ge 62, 3), (43, .aload_n 0, 1), (44, .getfield 84, 3), (47, .iload_n 3, 1), (48, .aload_n 0, 1), (49, .getfield 84, 3), (52, .iload_n 3, 1), (53, .iconst 1, 1), (54, .iadd, 1), (55, .iaload, 1), (56, .iastore, 1), (57, .iconst 0, 1), (58, .istore 4, 2), (60, .iload 4, 2), (62, .iconst 4, 1), (63, .if_icmp .ge 33, 3), (66, .aload_n 0, 1), (67, .getfield 87, 3), (70, .iconst 4, 1), (71, .iload_n 3, 1), (72, .imul, 1), (73, .iload 4, 2), (75, .iadd, 1), (76, .aload_n 0, 1)]
theorem dgX12_forget_224 : ∀ q ∈ lgX12_forget_224, decode cX12_forget q.1 = .ok (q.2.1, q.2.2) := by decide +kernel
theorem dX12_forget_0 : decode cX12_forget 0 = .ok (.iload_n 1, 1) := dall dgX12_forget_224 0 rfl
theorem dX12_forget_1 : decode cX12_forget 1 = .ok (.iconst 0, 1) := dall dgX12_forget_224 1 rfl
theorem dX12_forget_2 : decode cX12_forget 2 = .ok (.aload_n 0, 1) := dall dgX12_forget_224 2 rfl
theorem dX12_forget_3 : decode cX12_forget 3 = .ok (.getfield 252, 3) := dall dgX12_forget_224 3 rfl
theorem dX12_forget_6 : decode cX12_forget 6 = .ok (.iconst 1, 1) := dall dgX12_forget_224 4 rfl
theorem dX12_forget_7 : decode cX12_forget 7 = .ok (.isub, 1) := dall dgX12_forget_224 5 rfl
theorem dX12_forget_8 : decode cX12_forget 8 = .ok (.invokestatic 100, 3) := dall dgX12_forget_224 6 rfl
theorem dX12_forget_11 : decode cX12_forget 11 = .ok (.ifCond .ne 5, 3) := dall dgX12_forget_224 7 rfl
theorem dX12_forget_14 : decode cX12_forget 14 = .ok (.iconst (-1), 1) := dall dgX12_forget_224 8 rfl
theorem dX12_forget_15 : decode cX12_forget 15 = .ok (.ireturn, 1) := dall dgX12_forget_224 9 rfl
theorem dX12_forget_16 : decode cX12_forget 16 = .ok (.aload_n 0, 1) := dall dgX12_forget_224 10 rfl
theorem dX12_forget_17 : decode cX12_forget 17 = .ok (.getfield 84, 3) := dall dgX12_forget_224 11 rfl
theorem dX12_forget_20 : decode cX12_forget 20 = .ok (.iload_n 1, 1) := dall dgX12_forget_224 12 rfl
theorem dX12_forget_21 : decode cX12_forget 21 = .ok (.iaload, 1) := dall dgX12_forget_224 13 rfl
theorem dX12_forget_22 : decode cX12_forget 22 = .ok (.istore_n 2, 1) := dall dgX12_forget_224 14 rfl
theorem dX12_forget_23 : decode cX12_forget 23 = .ok (.aload_n 0, 1) := dall dgX12_forget_224 15 rfl
theorem dX12_forget_24 : decode cX12_forget 24 = .ok (.dup, 1) := dall dgX12_forget_224 16 rfl
theorem dX12_forget_25 : decode cX12_forget 25 = .ok (.getfield 252, 3) := dall dgX12_forget_224 17 rfl
theorem dX12_forget_28 : decode cX12_forget 28 = .ok (.iconst 1, 1) := dall dgX12_forget_224 18 rfl
theorem dX12_forget_29 : decode cX12_forget 29 = .ok (.isub, 1) := dall dgX12_forget_224 19 rfl
theorem dX12_forget_30 : decode cX12_forget 30 = .ok (.putfield 252, 3) := dall dgX12_forget_224 20 rfl
theorem dX12_forget_33 : decode cX12_forget 33 = .ok (.iload_n 1, 1) := dall dgX12_forget_224 21 rfl
theorem dX12_forget_34 : decode cX12_forget 34 = .ok (.istore_n 3, 1) := dall dgX12_forget_224 22 rfl
theorem dX12_forget_35 : decode cX12_forget 35 = .ok (.iload_n 3, 1) := dall dgX12_forget_224 23 rfl
theorem dX12_forget_36 : decode cX12_forget 36 = .ok (.aload_n 0, 1) := dall dgX12_forget_224 24 rfl
theorem dX12_forget_37 : decode cX12_forget 37 = .ok (.getfield 252, 3) := dall dgX12_forget_224 25 rfl
theorem dX12_forget_40 : decode cX12_forget 40 = .ok (.if_icmp .ge 62, 3) := dall dgX12_forget_224 26 rfl
theorem dX12_forget_43 : decode cX12_forget 43 = .ok (.aload_n 0, 1) := dall dgX12_forget_224 27 rfl
theorem dX12_forget_44 : decode cX12_forget 44 = .ok (.getfield 84, 3) := dall dgX12_forget_224 28 rfl
theorem dX12_forget_47 : decode cX12_forget 47 = .ok (.iload_n 3, 1) := dall dgX12_forget_224 29 rfl
theorem dX12_forget_48 : decode cX12_forget 48 = .ok (.aload_n 0, 1) := dall dgX12_forget_224 30 rfl
theorem dX12_forget_49 : decode cX12_forget 49 = .ok (.getfield 84, 3) := dall dgX12_forget_224 31 rfl
theorem dX12_forget_52 : decode cX12_forget 52 = .ok (.iload_n 3, 1) := dall dgX12_forget_224 32 rfl
theorem dX12_forget_53 : decode cX12_forget 53 = .ok (.iconst 1, 1) := dall dgX12_forget_224 33 rfl
theorem dX12_forget_54 : decode cX12_forget 54 = .ok (.iadd, 1) := dall dgX12_forget_224 34 rfl
theorem dX12_forget_55 : decode cX12_forget 55 = .ok (.iaload, 1) := dall dgX12_forget_224 35 rfl
theorem dX12_forget_56 : decode cX12_forget 56 = .ok (.iastore, 1) := dall dgX12_forget_224 36 rfl
theorem dX12_forget_57 : decode cX12_forget 57 = .ok (.iconst 0, 1) := dall dgX12_forget_224 37 rfl
theorem dX12_forget_58 : decode cX12_forget 58 = .ok (.istore 4, 2) := dall dgX12_forget_224 38 rfl
theorem dX12_forget_60 : decode cX12_forget 60 = .ok (.iload 4, 2) := dall dgX12_forget_224 39 rfl
theorem dX12_forget_62 : decode cX12_forget 62 = .ok (.iconst 4, 1) := dall dgX12_forget_224 40 rfl
theorem dX12_forget_63 : decode cX12_forget 63 = .ok (.if_icmp .ge 33, 3) := dall dgX12_forget_224 41 rfl
theorem dX12_forget_66 : decode cX12_forget 66 = .ok (.aload_n 0, 1) := dall dgX12_forget_224 42 rfl
theorem dX12_forget_67 : decode cX12_forget 67 = .ok (.getfield 87, 3) := dall dgX12_forget_224 43 rfl
theorem dX12_forget_70 : decode cX12_forget 70 = .ok (.iconst 4, 1) := dall dgX12_forget_224 44 rfl
theorem dX12_forget_71 : decode cX12_forget 71 = .ok (.iload_n 3, 1) := dall dgX12_forget_224 45 rfl
theorem dX12_forget_72 : decode cX12_forget 72 = .ok (.imul, 1) := dall dgX12_forget_224 46 rfl
theorem dX12_forget_73 : decode cX12_forget 73 = .ok (.iload 4, 2) := dall dgX12_forget_224 47 rfl
theorem dX12_forget_75 : decode cX12_forget 75 = .ok (.iadd, 1) := dall dgX12_forget_224 48 rfl
theorem dX12_forget_76 : decode cX12_forget 76 = .ok (.aload_n 0, 1) := dall dgX12_forget_224 49 rfl
def lgX12_forget_225 : List (Nat × Instr × Nat) := [(77, .getfield 87, 3), (80, .iconst 4, 1), (81, .iload_n 3, 1), (82, .imul, 1), (83, .iconst 4, 1), (84, .iadd, 1), (85, .iload 4, 2), (87, .iadd, 1), (88, .iaload, 1), (89, .iastore, 1), (90, .iinc 4 1, 3), (93, .goto (-33), 3), (96, .iinc 3 1, 3), (99, .goto (-64), 3), (102, .iload_n 2, 1), (103, .ireturn, 1)]
theorem dgX12_forget_225 : ∀ q ∈ lgX12_forget_225, decode cX12_forget q.1 = .ok (q.2.1, q.2.2) := by decide +kernel
theorem dX12_forget_77 : decode cX12_forget 77 = .ok (.getfield 87, 3) := dall dgX12_forget_225 0 rfl
theorem dX12_forget_80 : decode cX12_forget 80 = .ok (.iconst 4, 1) := dall dgX12_forget_225 1 rfl
theorem dX12_forget_81 : decode cX12_forget 81 = .ok (.iload_n 3, 1) := dall dgX12_forget_225 2 rfl
theorem dX12_forget_82 : decode cX12_forget 82 = .ok (.imul, 1) := dall dgX12_forget_225 3 rfl
theorem dX12_forget_83 : decode cX12_forget 83 = .ok (.iconst 4, 1) := dall dgX12_forget_225 4 rfl
theorem dX12_forget_84 : decode cX12_forget 84 = .ok (.iadd, 1) := dall dgX12_forget_225 5 rfl
theorem dX12_forget_85 : decode cX12_forget 85 = .ok (.iload 4, 2) := dall dgX12_forget_225 6 rfl
theorem dX12_forget_87 : decode cX12_forget 87 = .ok (.iadd, 1) := dall dgX12_forget_225 7 rfl
theorem dX12_forget_88 : decode cX12_forget 88 = .ok (.iaload, 1) := dall dgX12_forget_225 8 rfl
theorem dX12_forget_89 : decode cX12_forget 89 = .ok (.iastore, 1) := dall dgX12_forget_225 9 rfl
theorem dX12_forget_90 : decode cX12_forget 90 = .ok (.iinc 4 1, 3) := dall dgX12_forget_225 10 rfl
theorem dX12_forget_93 : decode cX12_forget 93 = .ok (.goto (-33), 3) := dall dgX12_forget_225 11 rfl
theorem dX12_forget_96 : decode cX12_forget 96 = .ok (.iinc 3 1, 3) := dall dgX12_forget_225 12 rfl
theorem dX12_forget_99 : decode cX12_forget 99 = .ok (.goto (-64), 3) := dall dgX12_forget_225 13 rfl
theorem dX12_forget_102 : decode cX12_forget 102 = .ok (.iload_n 2, 1) := dall dgX12_forget_225 14 rfl
theorem dX12_forget_103 : decode cX12_forget 103 = .ok (.ireturn, 1) := dall dgX12_forget_225 15 rfl
def lgX12_back_226 : List (Nat × Instr × Nat) := [(0, .iload_n 2, 1), (1, .iconst 0, 1), (2, .iconst 1, 1), (3, .invokestatic 100, 3), (6, .ifCond .eq 11, 3), (9, .aload_n 0, 1), (10, .iload_n 1, 1), (11, .invokevirtual 249, 3), (14, .goto 4, 3), (17, .iconst (-1), 1), (18, .istore_n 3, 1), (19, .iload_n 3, 1), (20, .ifCond .eq 5, 3), (23, .iload_n 3, 1), (24, .ireturn, 1), (25, .bipush (-9), 2), (27, .istore 4, 2), (29, .aload_n 0, 1), (30, .getfield 7, 3), (33, .iconst 2, 1), (34, .iaload, 1), (35, .iconst 1, 1), (36, .iadd, 1), (37, .istore 5, 2), (39, .iconst 0, 1), (40, .istore 6, 2), (42, .iload 6, 2), (44, .aload_n 0, 1), (45, .getfield 252, 3), (48, .if_icmp .ge 91, 3), (51, .iconst 0, 1), (52, .istore 7, 2), (54, .iconst 0, 1), (55, .istore 8, 2), (57, .iload 8, 2), (59, .iconst 4, 1), (60, .if_icmp .ge 41, 3), (63, .iload 7, 2), (65, .aload_n 0, 1), (66, .getfield 81, 3), (69, .iconst 4, 1), (70, .iload_n 1, 1), (71, .imul, 1), (72, .iload 8, 2), (74, .iadd, 1), (75, .iaload, 1), (76, .aload_n 0, 1), (77, .getfield 87, 3), (80, .iconst 4, 1), (81, .iload 6, 2)]
theorem dgX12_back_226 : ∀ q ∈ lgX12_back_226, decode cX12_back q.1 = .ok (q.2.1, q.2.2) := by decide +kernel
theorem dX12_back_0 : decode cX12_back 0 = .ok (.iload_n 2, 1) := dall dgX12_back_226 0 rfl
theorem dX12_back_1 : decode cX12_back 1 = .ok (.iconst 0, 1) := dall dgX12_back_226 1 rfl
theorem dX12_back_2 : decode cX12_back 2 = .ok (.iconst 1, 1) := dall dgX12_back_226 2 rfl
theorem dX12_back_3 : decode cX12_back 3 = .ok (.invokestatic 100, 3) := dall dgX12_back_226 3 rfl
theorem dX12_back_6 : decode cX12_back 6 = .ok (.ifCond .eq 11, 3) := dall dgX12_back_226 4 rfl
theorem dX12_back_9 : decode cX12_back 9 = .ok (.aload_n 0, 1) := dall dgX12_back_226 5 rfl
theorem dX12_back_10 : decode cX12_back 10 = .ok (.iload_n 1, 1) := dall dgX12_back_226 6 rfl
theorem dX12_back_11 : decode cX12_back 11 = .ok (.invokevirtual 249, 3) := dall dgX12_back_226 7 rfl
theorem dX12_back_14 : decode cX12_back 14 = .ok (.goto 4, 3) := dall dgX12_back_226 8 rfl
theorem dX12_back_17 : decode cX12_back 17 = .ok (.iconst (-1), 1) := dall dgX12_back_226 9 rfl
theorem dX12_back_18 : decode cX12_back 18 = .ok (.istore_n 3, 1) := dall dgX12_back_226 10 rfl
theorem dX12_back_19 : decode cX12_back 19 = .ok (.iload_n 3, 1) := dall dgX12_back_226 11 rfl
theorem dX12_back_20 : decode cX12_back 20 = .ok (.ifCond .eq 5, 3) := dall dgX12_back_226 12 rfl
theorem dX12_back_23 : decode cX12_back 23 = .ok (.iload_n 3, 1) := dall dgX12_back_226 13 rfl
theorem dX12_back_24 : decode cX12_back 24 = .ok (.ireturn, 1) := dall dgX12_back_226 14 rfl
theorem dX12_back_25 : decode cX12_back 25 = .ok (.bipush (-9), 2) := dall dgX12_back_226 15 rfl
theorem dX12_back_27 : decode cX12_back 27 = .ok (.istore 4, 2) := dall dgX12_back_226 16 rfl
theorem dX12_back_29 : decode cX12_back 29 = .ok (.aload_n 0, 1) := dall dgX12_back_226 17 rfl
theorem dX12_back_30 : decode cX12_back 30 = .ok (.getfield 7, 3) := dall dgX12_back_226 18 rfl
theorem dX12_back_33 : decode cX12_back 33 = .ok (.iconst 2, 1) := dall dgX12_back_226 19 rfl
theorem dX12_back_34 : decode cX12_back 34 = .ok (.iaload, 1) := dall dgX12_back_226 20 rfl
theorem dX12_back_35 : decode cX12_back 35 = .ok (.iconst 1, 1) := dall dgX12_back_226 21 rfl
theorem dX12_back_36 : decode cX12_back 36 = .ok (.iadd, 1) := dall dgX12_back_226 22 rfl
theorem dX12_back_37 : decode cX12_back 37 = .ok (.istore 5, 2) := dall dgX12_back_226 23 rfl
theorem dX12_back_39 : decode cX12_back 39 = .ok (.iconst 0, 1) := dall dgX12_back_226 24 rfl
theorem dX12_back_40 : decode cX12_back 40 = .ok (.istore 6, 2) := dall dgX12_back_226 25 rfl
theorem dX12_back_42 : decode cX12_back 42 = .ok (.iload 6, 2) := dall dgX12_back_226 26 rfl
theorem dX12_back_44 : decode cX12_back 44 = .ok (.aload_n 0, 1) := dall dgX12_back_226 27 rfl
theorem dX12_back_45 : decode cX12_back 45 = .ok (.getfield 252, 3) := dall dgX12_back_226 28 rfl
theorem dX12_back_48 : decode cX12_back 48 = .ok (.if_icmp .ge 91, 3) := dall dgX12_back_226 29 rfl
theorem dX12_back_51 : decode cX12_back 51 = .ok (.iconst 0, 1) := dall dgX12_back_226 30 rfl
theorem dX12_back_52 : decode cX12_back 52 = .ok (.istore 7, 2) := dall dgX12_back_226 31 rfl
theorem dX12_back_54 : decode cX12_back 54 = .ok (.iconst 0, 1) := dall dgX12_back_226 32 rfl
theorem dX12_back_55 : decode cX12_back 55 = .ok (.istore 8, 2) := dall dgX12_back_226 33 rfl
theorem dX12_back_57 : decode cX12_back 57 = .ok (.iload 8, 2) := dall dgX12_back_226 34 rfl
theorem dX12_back_59 : decode cX12_back 59 = .ok (.iconst 4, 1) := dall dgX12_back_226 35 rfl
theorem dX12_back_60 : decode cX12_back 60 = .ok (.if_icmp .ge 41, 3) := dall dgX12_back_226 36 rfl
theorem dX12_back_63 : decode cX12_back 63 = .ok (.iload 7, 2) := dall dgX12_back_226 37 rfl
theorem dX12_back_65 : decode cX12_back 65 = .ok (.aload_n 0, 1) := dall dgX12_back_226 38 rfl
theorem dX12_back_66 : decode cX12_back 66 = .ok (.getfield 81, 3) := dall dgX12_back_226 39 rfl
theorem dX12_back_69 : decode cX12_back 69 = .ok (.iconst 4, 1) := dall dgX12_back_226 40 rfl
theorem dX12_back_70 : decode cX12_back 70 = .ok (.iload_n 1, 1) := dall dgX12_back_226 41 rfl
theorem dX12_back_71 : decode cX12_back 71 = .ok (.imul, 1) := dall dgX12_back_226 42 rfl
theorem dX12_back_72 : decode cX12_back 72 = .ok (.iload 8, 2) := dall dgX12_back_226 43 rfl
theorem dX12_back_74 : decode cX12_back 74 = .ok (.iadd, 1) := dall dgX12_back_226 44 rfl
theorem dX12_back_75 : decode cX12_back 75 = .ok (.iaload, 1) := dall dgX12_back_226 45 rfl
theorem dX12_back_76 : decode cX12_back 76 = .ok (.aload_n 0, 1) := dall dgX12_back_226 46 rfl
theorem dX12_back_77 : decode cX12_back 77 = .ok (.getfield 87, 3) := dall dgX12_back_226 47 rfl
theorem dX12_back_80 : decode cX12_back 80 = .ok (.iconst 4, 1) := dall dgX12_back_226 48 rfl
theorem dX12_back_81 : decode cX12_back 81 = .ok (.iload 6, 2) := dall dgX12_back_226 49 rfl
def lgX12_back_227 : List (Nat × Instr × Nat) := [(83, .imul, 1), (84, .iload 8, 2), (86, .iadd, 1), (87, .iaload, 1), (88, .isub, 1), (89, .invokestatic 209, 3), (92, .iadd, 1), (93, .istore 7, 2), (95, .iinc 8 1, 3), (98, .goto (-41), 3), (101, .iload 7, 2), (103, .iload 5, 2), (105, .if_icmp .ge 8, 3), (108, .iload 6, 2), (110, .goto 5, 3), (113, .iload 4, 2), (115, .istore 4, 2), (117, .iload 7, 2), (119, .iload 5, 2), (121, .if_icmp .ge 8, 3), (124, .iload 7, 2), (126, .goto 5, 3), (129, .iload 5, 2), (131, .istore 5, 2), (133, .iinc 6 1, 3), (136, .goto (-94), 3), (139, .iload 4, 2), (141, .bipush (-9), 2), (143, .if_icmp .eq 8, 3), (146, .iload_n 2, 1), (147, .iconst 1, 1), (148, .if_icmp .ne 8, 3), (151, .iload 4, 2), (153, .goto 10, 3), (156, .aload_n 0, 1), (157, .getfield 84, 3), (160, .iload 4, 2), (162, .iaload, 1), (163, .ireturn, 1)]
theorem dgX12_back_227 : ∀ q ∈ lgX12_back_227, decode cX12_back q.1 = .ok (q.2.1, q.2.2) := by decide +kernel
theorem dX12_back_83 : decode cX12_back 83 = .ok (.imul, 1) := dall dgX12_back_227 0 rfl
theorem dX12_back_84 : decode cX12_back 84 = .ok (.iload 8, 2) := dall dgX12_back_227 1 rfl
theorem dX12_back_86 : decode cX12_back 86 = .ok (.iadd, 1) := dall dgX12_back_227 2 rfl
theorem dX12_back_87 : decode cX12_back 87 = .ok (.iaload, 1) := dall dgX12_back_227 3 rfl
theorem dX12_back_88 : decode cX12_back 88 = .ok (.isub, 1) := dall dgX12_back_227 4 rfl
theorem dX12_back_89 : decode cX12_back 89 = .ok (.invokestatic 209, 3) := dall dgX12_back_227 5 rfl
theorem dX12_back_92 : decode cX12_back 92 = .ok (.iadd, 1) := dall dgX12_back_227 6 rfl
theorem dX12_back_93 : decode cX12_back 93 = .ok (.istore 7, 2) := dall dgX12_back_227 7 rfl
theorem dX12_back_95 : decode cX12_back 95 = .ok (.iinc 8 1, 3) := dall dgX12_back_227 8 rfl
theorem dX12_back_98 : decode cX12_back 98 = .ok (.goto (-41), 3) := dall dgX12_back_227 9 rfl
theorem dX12_back_101 : decode cX12_back 101 = .ok (.iload 7, 2) := dall dgX12_back_227 10 rfl
theorem dX12_back_103 : decode cX12_back 103 = .ok (.iload 5, 2) := dall dgX12_back_227 11 rfl
theorem dX12_back_105 : decode cX12_back 105 = .ok (.if_icmp .ge 8, 3) := dall dgX12_back_227 12 rfl
theorem dX12_back_108 : decode cX12_back 108 = .ok (.iload 6, 2) := dall dgX12_back_227 13 rfl
theorem dX12_back_110 : decode cX12_back 110 = .ok (.goto 5, 3) := dall dgX12_back_227 14 rfl
theorem dX12_back_113 : decode cX12_back 113 = .ok (.iload 4, 2) := dall dgX12_back_227 15 rfl
theorem dX12_back_115 : decode cX12_back 115 = .ok (.istore 4, 2) := dall dgX12_back_227 16 rfl
theorem dX12_back_117 : decode cX12_back 117 = .ok (.iload 7, 2) := dall dgX12_back_227 17 rfl
theorem dX12_back_119 : decode cX12_back 119 = .ok (.iload 5, 2) := dall dgX12_back_227 18 rfl
theorem dX12_back_121 : decode cX12_back 121 = .ok (.if_icmp .ge 8, 3) := dall dgX12_back_227 19 rfl
theorem dX12_back_124 : decode cX12_back 124 = .ok (.iload 7, 2) := dall dgX12_back_227 20 rfl
theorem dX12_back_126 : decode cX12_back 126 = .ok (.goto 5, 3) := dall dgX12_back_227 21 rfl
theorem dX12_back_129 : decode cX12_back 129 = .ok (.iload 5, 2) := dall dgX12_back_227 22 rfl
theorem dX12_back_131 : decode cX12_back 131 = .ok (.istore 5, 2) := dall dgX12_back_227 23 rfl
theorem dX12_back_133 : decode cX12_back 133 = .ok (.iinc 6 1, 3) := dall dgX12_back_227 24 rfl
theorem dX12_back_136 : decode cX12_back 136 = .ok (.goto (-94), 3) := dall dgX12_back_227 25 rfl
theorem dX12_back_139 : decode cX12_back 139 = .ok (.iload 4, 2) := dall dgX12_back_227 26 rfl
theorem dX12_back_141 : decode cX12_back 141 = .ok (.bipush (-9), 2) := dall dgX12_back_227 27 rfl
theorem dX12_back_143 : decode cX12_back 143 = .ok (.if_icmp .eq 8, 3) := dall dgX12_back_227 28 rfl
theorem dX12_back_146 : decode cX12_back 146 = .ok (.iload_n 2, 1) := dall dgX12_back_227 29 rfl
theorem dX12_back_147 : decode cX12_back 147 = .ok (.iconst 1, 1) := dall dgX12_back_227 30 rfl
theorem dX12_back_148 : decode cX12_back 148 = .ok (.if_icmp .ne 8, 3) := dall dgX12_back_227 31 rfl
theorem dX12_back_151 : decode cX12_back 151 = .ok (.iload 4, 2) := dall dgX12_back_227 32 rfl
theorem dX12_back_153 : decode cX12_back 153 = .ok (.goto 10, 3) := dall dgX12_back_227 33 rfl
theorem dX12_back_156 : decode cX12_back 156 = .ok (.aload_n 0, 1) := dall dgX12_back_227 34 rfl
theorem dX12_back_157 : decode cX12_back 157 = .ok (.getfield 84, 3) := dall dgX12_back_227 35 rfl
theorem dX12_back_160 : decode cX12_back 160 = .ok (.iload 4, 2) := dall dgX12_back_227 36 rfl
theorem dX12_back_162 : decode cX12_back 162 = .ok (.iaload, 1) := dall dgX12_back_227 37 rfl
theorem dX12_back_163 : decode cX12_back 163 = .ok (.ireturn, 1) := dall dgX12_back_227 38 rfl
def lgX12_bitsIn_228 : List (Nat × Instr × Nat) := [(0, .iconst 0, 1), (1, .istore_n 1, 1), (2, .iconst 0, 1), (3, .istore_n 2, 1), (4, .iload_n 2, 1), (5, .bipush 9, 2), (7, .if_icmp .ge 17, 3), (10, .iload_n 1, 1), (11, .iload_n 0, 1), (12, .iload_n 2, 1), (13, .ishr, 1), (14, .iconst 1, 1), (15, .iand, 1), (16, .iadd, 1), (17, .istore_n 1, 1), (18, .iinc 2 1, 3), (21, .goto (-17), 3), (24, .iload_n 1, 1), (25, .ireturn, 1)]
theorem dgX12_bitsIn_228 : ∀ q ∈ lgX12_bitsIn_228, decode cX12_bitsIn q.1 = .ok (q.2.1, q.2.2) := by decide +kernel
theorem dX12_bitsIn_0 : decode cX12_bitsIn 0 = .ok (.iconst 0, 1) := dall dgX12_bitsIn_228 0 rfl
theorem dX12_bitsIn_1 : decode cX12_bitsIn 1 = .ok (.istore_n 1, 1) := dall dgX12_bitsIn_228 1 rfl
theorem dX12_bitsIn_2 : decode cX12_bitsIn 2 = .ok (.iconst 0, 1) := dall dgX12_bitsIn_228 2 rfl
theorem dX12_bitsIn_3 : decode cX12_bitsIn 3 = .ok (.istore_n 2, 1) := dall dgX12_bitsIn_228 3 rfl
theorem dX12_bitsIn_4 : decode cX12_bitsIn 4 = .ok (.iload_n 2, 1) := dall dgX12_bitsIn_228 4 rfl
theorem dX12_bitsIn_5 : decode cX12_bitsIn 5 = .ok (.bipush 9, 2) := dall dgX12_bitsIn_228 5 rfl
theorem dX12_bitsIn_7 : decode cX12_bitsIn 7 = .ok (.if_icmp .ge 17, 3) := dall dgX12_bitsIn_228 6 rfl
theorem dX12_bitsIn_10 : decode cX12_bitsIn 10 = .ok (.iload_n 1, 1) := dall dgX12_bitsIn_228 7 rfl
theorem dX12_bitsIn_11 : decode cX12_bitsIn 11 = .ok (.iload_n 0, 1) := dall dgX12_bitsIn_228 8 rfl
theorem dX12_bitsIn_12 : decode cX12_bitsIn 12 = .ok (.iload_n 2, 1) := dall dgX12_bitsIn_228 9 rfl
theorem dX12_bitsIn_13 : decode cX12_bitsIn 13 = .ok (.ishr, 1) := dall dgX12_bitsIn_228 10 rfl
theorem dX12_bitsIn_14 : decode cX12_bitsIn 14 = .ok (.iconst 1, 1) := dall dgX12_bitsIn_228 11 rfl
theorem dX12_bitsIn_15 : decode cX12_bitsIn 15 = .ok (.iand, 1) := dall dgX12_bitsIn_228 12 rfl
theorem dX12_bitsIn_16 : decode cX12_bitsIn 16 = .ok (.iadd, 1) := dall dgX12_bitsIn_228 13 rfl
theorem dX12_bitsIn_17 : decode cX12_bitsIn 17 = .ok (.istore_n 1, 1) := dall dgX12_bitsIn_228 14 rfl
theorem dX12_bitsIn_18 : decode cX12_bitsIn 18 = .ok (.iinc 2 1, 3) := dall dgX12_bitsIn_228 15 rfl
theorem dX12_bitsIn_21 : decode cX12_bitsIn 21 = .ok (.goto (-17), 3) := dall dgX12_bitsIn_228 16 rfl
theorem dX12_bitsIn_24 : decode cX12_bitsIn 24 = .ok (.iload_n 1, 1) := dall dgX12_bitsIn_228 17 rfl
theorem dX12_bitsIn_25 : decode cX12_bitsIn 25 = .ok (.ireturn, 1) := dall dgX12_bitsIn_228 18 rfl
def lgX12_offsOf_229 : List (Nat × Instr × Nat) := [(0, .iconst 0, 1), (1, .istore_n 3, 1), (2, .iconst 0, 1), (3, .istore 4, 2), (5, .iload 4, 2), (7, .aload_n 0, 1), (8, .getfield 191, 3), (11, .if_icmp .ge 64, 3), (14, .iconst 0, 1), (15, .istore 5, 2), (17, .iload 5, 2), (19, .iconst 4, 1), (20, .if_icmp .ge 49, 3), (23, .iload_n 1, 1), (24, .iload 4, 2), (26, .ishr, 1), (27, .iconst 1, 1), (28, .iand, 1), (29, .iconst 1, 1), (30, .if_icmp .ne 39, 3), (33, .iload_n 3, 1), (34, .aload_n 0, 1), (35, .getfield 48, 3), (38, .iconst 4, 1), (39, .iload 4, 2), (41, .imul, 1), (42, .iload 5, 2), (44, .iadd, 1), (45, .iaload, 1), (46, .aload_n 0, 1), (47, .getfield 87, 3), (50, .iconst 4, 1), (51, .iload_n 2, 1), (52, .imul, 1), (53, .iload 5, 2), (55, .iadd, 1), (56, .iaload, 1), (57, .isub, 1), (58, .invokestatic 209, 3), (61, .iadd, 1), (62, .istore_n 3, 1), (63, .iinc 5 1, 3), (66, .goto (-49), 3), (69, .iinc 4 1, 3), (72, .goto (-67), 3), (75, .iload_n 3, 1), (76, .ireturn, 1)]
theorem dgX12_offsOf_229 : ∀ q ∈ lgX12_offsOf_229, decode cX12_offsOf q.1 = .ok (q.2.1, q.2.2) := by decide +kernel
theorem dX12_offsOf_0 : decode cX12_offsOf 0 = .ok (.iconst 0, 1) := dall dgX12_offsOf_229 0 rfl
theorem dX12_offsOf_1 : decode cX12_offsOf 1 = .ok (.istore_n 3, 1) := dall dgX12_offsOf_229 1 rfl
theorem dX12_offsOf_2 : decode cX12_offsOf 2 = .ok (.iconst 0, 1) := dall dgX12_offsOf_229 2 rfl
theorem dX12_offsOf_3 : decode cX12_offsOf 3 = .ok (.istore 4, 2) := dall dgX12_offsOf_229 3 rfl
theorem dX12_offsOf_5 : decode cX12_offsOf 5 = .ok (.iload 4, 2) := dall dgX12_offsOf_229 4 rfl
theorem dX12_offsOf_7 : decode cX12_offsOf 7 = .ok (.aload_n 0, 1) := dall dgX12_offsOf_229 5 rfl
theorem dX12_offsOf_8 : decode cX12_offsOf 8 = .ok (.getfield 191, 3) := dall dgX12_offsOf_229 6 rfl
theorem dX12_offsOf_11 : decode cX12_offsOf 11 = .ok (.if_icmp .ge 64, 3) := dall dgX12_offsOf_229 7 rfl
theorem dX12_offsOf_14 : decode cX12_offsOf 14 = .ok (.iconst 0, 1) := dall dgX12_offsOf_229 8 rfl
theorem dX12_offsOf_15 : decode cX12_offsOf 15 = .ok (.istore 5, 2) := dall dgX12_offsOf_229 9 rfl
theorem dX12_offsOf_17 : decode cX12_offsOf 17 = .ok (.iload 5, 2) := dall dgX12_offsOf_229 10 rfl
theorem dX12_offsOf_19 : decode cX12_offsOf 19 = .ok (.iconst 4, 1) := dall dgX12_offsOf_229 11 rfl
theorem dX12_offsOf_20 : decode cX12_offsOf 20 = .ok (.if_icmp .ge 49, 3) := dall dgX12_offsOf_229 12 rfl
theorem dX12_offsOf_23 : decode cX12_offsOf 23 = .ok (.iload_n 1, 1) := dall dgX12_offsOf_229 13 rfl
theorem dX12_offsOf_24 : decode cX12_offsOf 24 = .ok (.iload 4, 2) := dall dgX12_offsOf_229 14 rfl
theorem dX12_offsOf_26 : decode cX12_offsOf 26 = .ok (.ishr, 1) := dall dgX12_offsOf_229 15 rfl
theorem dX12_offsOf_27 : decode cX12_offsOf 27 = .ok (.iconst 1, 1) := dall dgX12_offsOf_229 16 rfl
theorem dX12_offsOf_28 : decode cX12_offsOf 28 = .ok (.iand, 1) := dall dgX12_offsOf_229 17 rfl
theorem dX12_offsOf_29 : decode cX12_offsOf 29 = .ok (.iconst 1, 1) := dall dgX12_offsOf_229 18 rfl
theorem dX12_offsOf_30 : decode cX12_offsOf 30 = .ok (.if_icmp .ne 39, 3) := dall dgX12_offsOf_229 19 rfl
theorem dX12_offsOf_33 : decode cX12_offsOf 33 = .ok (.iload_n 3, 1) := dall dgX12_offsOf_229 20 rfl
theorem dX12_offsOf_34 : decode cX12_offsOf 34 = .ok (.aload_n 0, 1) := dall dgX12_offsOf_229 21 rfl
theorem dX12_offsOf_35 : decode cX12_offsOf 35 = .ok (.getfield 48, 3) := dall dgX12_offsOf_229 22 rfl
theorem dX12_offsOf_38 : decode cX12_offsOf 38 = .ok (.iconst 4, 1) := dall dgX12_offsOf_229 23 rfl
theorem dX12_offsOf_39 : decode cX12_offsOf 39 = .ok (.iload 4, 2) := dall dgX12_offsOf_229 24 rfl
theorem dX12_offsOf_41 : decode cX12_offsOf 41 = .ok (.imul, 1) := dall dgX12_offsOf_229 25 rfl
theorem dX12_offsOf_42 : decode cX12_offsOf 42 = .ok (.iload 5, 2) := dall dgX12_offsOf_229 26 rfl
theorem dX12_offsOf_44 : decode cX12_offsOf 44 = .ok (.iadd, 1) := dall dgX12_offsOf_229 27 rfl
theorem dX12_offsOf_45 : decode cX12_offsOf 45 = .ok (.iaload, 1) := dall dgX12_offsOf_229 28 rfl
theorem dX12_offsOf_46 : decode cX12_offsOf 46 = .ok (.aload_n 0, 1) := dall dgX12_offsOf_229 29 rfl
theorem dX12_offsOf_47 : decode cX12_offsOf 47 = .ok (.getfield 87, 3) := dall dgX12_offsOf_229 30 rfl
theorem dX12_offsOf_50 : decode cX12_offsOf 50 = .ok (.iconst 4, 1) := dall dgX12_offsOf_229 31 rfl
theorem dX12_offsOf_51 : decode cX12_offsOf 51 = .ok (.iload_n 2, 1) := dall dgX12_offsOf_229 32 rfl
theorem dX12_offsOf_52 : decode cX12_offsOf 52 = .ok (.imul, 1) := dall dgX12_offsOf_229 33 rfl
theorem dX12_offsOf_53 : decode cX12_offsOf 53 = .ok (.iload 5, 2) := dall dgX12_offsOf_229 34 rfl
theorem dX12_offsOf_55 : decode cX12_offsOf 55 = .ok (.iadd, 1) := dall dgX12_offsOf_229 35 rfl
theorem dX12_offsOf_56 : decode cX12_offsOf 56 = .ok (.iaload, 1) := dall dgX12_offsOf_229 36 rfl
theorem dX12_offsOf_57 : decode cX12_offsOf 57 = .ok (.isub, 1) := dall dgX12_offsOf_229 37 rfl
theorem dX12_offsOf_58 : decode cX12_offsOf 58 = .ok (.invokestatic 209, 3) := dall dgX12_offsOf_229 38 rfl
theorem dX12_offsOf_61 : decode cX12_offsOf 61 = .ok (.iadd, 1) := dall dgX12_offsOf_229 39 rfl
theorem dX12_offsOf_62 : decode cX12_offsOf 62 = .ok (.istore_n 3, 1) := dall dgX12_offsOf_229 40 rfl
theorem dX12_offsOf_63 : decode cX12_offsOf 63 = .ok (.iinc 5 1, 3) := dall dgX12_offsOf_229 41 rfl
theorem dX12_offsOf_66 : decode cX12_offsOf 66 = .ok (.goto (-49), 3) := dall dgX12_offsOf_229 42 rfl
theorem dX12_offsOf_69 : decode cX12_offsOf 69 = .ok (.iinc 4 1, 3) := dall dgX12_offsOf_229 43 rfl
theorem dX12_offsOf_72 : decode cX12_offsOf 72 = .ok (.goto (-67), 3) := dall dgX12_offsOf_229 44 rfl
theorem dX12_offsOf_75 : decode cX12_offsOf 75 = .ok (.iload_n 3, 1) := dall dgX12_offsOf_229 45 rfl
theorem dX12_offsOf_76 : decode cX12_offsOf 76 = .ok (.ireturn, 1) := dall dgX12_offsOf_229 46 rfl
def lgX12_odds_230 : List (Nat × Instr × Nat) := [(0, .iload_n 2, 1), (1, .iconst 0, 1), (2, .aload_n 0, 1), (3, .getfield 252, 3), (6, .iconst 1, 1), (7, .isub, 1), (8, .invokestatic 100, 3), (11, .ifCond .eq 20, 3), (14, .iload_n 3, 1), (15, .iconst 0, 1), (16, .iconst 1, 1), (17, .invokestatic 100, 3), (20, .ifCond .eq 11, 3), (23, .aload_n 0, 1), (24, .iload_n 1, 1), (25, .invokevirtual 249, 3), (28, .goto 4, 3), (31, .iconst (-1), 1), (32, .istore 4, 2), (34, .iload 4, 2), (36, .ifCond .eq 6, 3), (39, .iload 4, 2), (41, .ireturn, 1), (42, .iconst 0, 1), (43, .istore 5, 2), (45, .iconst 0, 1), (46, .istore 6, 2), (48, .iload 6, 2), (50, .aload_n 0, 1), (51, .getfield 191, 3), (54, .if_icmp .ge 33, 3), (57, .iload 5, 2), (59, .aload_n 0, 1), (60, .getfield 72, 3), (63, .iload 6, 2), (65, .iaload, 1), (66, .iload_n 1, 1), (67, .if_icmp .ne 10, 3), (70, .iconst 1, 1), (71, .iload 6, 2), (73, .ishl, 1), (74, .goto 4, 3), (77, .iconst 0, 1), (78, .ior, 1), (79, .istore 5, 2), (81, .iinc 6 1, 3), (84, .goto (-36), 3), (87, .iconst 0, 1), (88, .istore 6, 2), (90, .iconst 0, 1)]
theorem dgX12_odds_230 : ∀ q ∈ lgX12_odds_230, decode cX12_odds q.1 = .ok (q.2.1, q.2.2) := by decide +kernel
theorem dX12_odds_0 : decode cX12_odds 0 = .ok (.iload_n 2, 1) := dall dgX12_odds_230 0 rfl
theorem dX12_odds_1 : decode cX12_odds 1 = .ok (.iconst 0, 1) := dall dgX12_odds_230 1 rfl
theorem dX12_odds_2 : decode cX12_odds 2 = .ok (.aload_n 0, 1) := dall dgX12_odds_230 2 rfl
theorem dX12_odds_3 : decode cX12_odds 3 = .ok (.getfield 252, 3) := dall dgX12_odds_230 3 rfl
theorem dX12_odds_6 : decode cX12_odds 6 = .ok (.iconst 1, 1) := dall dgX12_odds_230 4 rfl
theorem dX12_odds_7 : decode cX12_odds 7 = .ok (.isub, 1) := dall dgX12_odds_230 5 rfl
theorem dX12_odds_8 : decode cX12_odds 8 = .ok (.invokestatic 100, 3) := dall dgX12_odds_230 6 rfl
theorem dX12_odds_11 : decode cX12_odds 11 = .ok (.ifCond .eq 20, 3) := dall dgX12_odds_230 7 rfl
theorem dX12_odds_14 : decode cX12_odds 14 = .ok (.iload_n 3, 1) := dall dgX12_odds_230 8 rfl
theorem dX12_odds_15 : decode cX12_odds 15 = .ok (.iconst 0, 1) := dall dgX12_odds_230 9 rfl
theorem dX12_odds_16 : decode cX12_odds 16 = .ok (.iconst 1, 1) := dall dgX12_odds_230 10 rfl
theorem dX12_odds_17 : decode cX12_odds 17 = .ok (.invokestatic 100, 3) := dall dgX12_odds_230 11 rfl
theorem dX12_odds_20 : decode cX12_odds 20 = .ok (.ifCond .eq 11, 3) := dall dgX12_odds_230 12 rfl
theorem dX12_odds_23 : decode cX12_odds 23 = .ok (.aload_n 0, 1) := dall dgX12_odds_230 13 rfl
theorem dX12_odds_24 : decode cX12_odds 24 = .ok (.iload_n 1, 1) := dall dgX12_odds_230 14 rfl
theorem dX12_odds_25 : decode cX12_odds 25 = .ok (.invokevirtual 249, 3) := dall dgX12_odds_230 15 rfl
theorem dX12_odds_28 : decode cX12_odds 28 = .ok (.goto 4, 3) := dall dgX12_odds_230 16 rfl
theorem dX12_odds_31 : decode cX12_odds 31 = .ok (.iconst (-1), 1) := dall dgX12_odds_230 17 rfl
theorem dX12_odds_32 : decode cX12_odds 32 = .ok (.istore 4, 2) := dall dgX12_odds_230 18 rfl
theorem dX12_odds_34 : decode cX12_odds 34 = .ok (.iload 4, 2) := dall dgX12_odds_230 19 rfl
theorem dX12_odds_36 : decode cX12_odds 36 = .ok (.ifCond .eq 6, 3) := dall dgX12_odds_230 20 rfl
theorem dX12_odds_39 : decode cX12_odds 39 = .ok (.iload 4, 2) := dall dgX12_odds_230 21 rfl
theorem dX12_odds_41 : decode cX12_odds 41 = .ok (.ireturn, 1) := dall dgX12_odds_230 22 rfl
theorem dX12_odds_42 : decode cX12_odds 42 = .ok (.iconst 0, 1) := dall dgX12_odds_230 23 rfl
theorem dX12_odds_43 : decode cX12_odds 43 = .ok (.istore 5, 2) := dall dgX12_odds_230 24 rfl
theorem dX12_odds_45 : decode cX12_odds 45 = .ok (.iconst 0, 1) := dall dgX12_odds_230 25 rfl
theorem dX12_odds_46 : decode cX12_odds 46 = .ok (.istore 6, 2) := dall dgX12_odds_230 26 rfl
theorem dX12_odds_48 : decode cX12_odds 48 = .ok (.iload 6, 2) := dall dgX12_odds_230 27 rfl
theorem dX12_odds_50 : decode cX12_odds 50 = .ok (.aload_n 0, 1) := dall dgX12_odds_230 28 rfl
theorem dX12_odds_51 : decode cX12_odds 51 = .ok (.getfield 191, 3) := dall dgX12_odds_230 29 rfl
theorem dX12_odds_54 : decode cX12_odds 54 = .ok (.if_icmp .ge 33, 3) := dall dgX12_odds_230 30 rfl
theorem dX12_odds_57 : decode cX12_odds 57 = .ok (.iload 5, 2) := dall dgX12_odds_230 31 rfl
theorem dX12_odds_59 : decode cX12_odds 59 = .ok (.aload_n 0, 1) := dall dgX12_odds_230 32 rfl
theorem dX12_odds_60 : decode cX12_odds 60 = .ok (.getfield 72, 3) := dall dgX12_odds_230 33 rfl
theorem dX12_odds_63 : decode cX12_odds 63 = .ok (.iload 6, 2) := dall dgX12_odds_230 34 rfl
theorem dX12_odds_65 : decode cX12_odds 65 = .ok (.iaload, 1) := dall dgX12_odds_230 35 rfl
theorem dX12_odds_66 : decode cX12_odds 66 = .ok (.iload_n 1, 1) := dall dgX12_odds_230 36 rfl
theorem dX12_odds_67 : decode cX12_odds 67 = .ok (.if_icmp .ne 10, 3) := dall dgX12_odds_230 37 rfl
theorem dX12_odds_70 : decode cX12_odds 70 = .ok (.iconst 1, 1) := dall dgX12_odds_230 38 rfl
theorem dX12_odds_71 : decode cX12_odds 71 = .ok (.iload 6, 2) := dall dgX12_odds_230 39 rfl
theorem dX12_odds_73 : decode cX12_odds 73 = .ok (.ishl, 1) := dall dgX12_odds_230 40 rfl
theorem dX12_odds_74 : decode cX12_odds 74 = .ok (.goto 4, 3) := dall dgX12_odds_230 41 rfl
theorem dX12_odds_77 : decode cX12_odds 77 = .ok (.iconst 0, 1) := dall dgX12_odds_230 42 rfl
theorem dX12_odds_78 : decode cX12_odds 78 = .ok (.ior, 1) := dall dgX12_odds_230 43 rfl
theorem dX12_odds_79 : decode cX12_odds 79 = .ok (.istore 5, 2) := dall dgX12_odds_230 44 rfl
theorem dX12_odds_81 : decode cX12_odds 81 = .ok (.iinc 6 1, 3) := dall dgX12_odds_230 45 rfl
theorem dX12_odds_84 : decode cX12_odds 84 = .ok (.goto (-36), 3) := dall dgX12_odds_230 46 rfl
theorem dX12_odds_87 : decode cX12_odds 87 = .ok (.iconst 0, 1) := dall dgX12_odds_230 47 rfl
theorem dX12_odds_88 : decode cX12_odds 88 = .ok (.istore 6, 2) := dall dgX12_odds_230 48 rfl
theorem dX12_odds_90 : decode cX12_odds 90 = .ok (.iconst 0, 1) := dall dgX12_odds_230 49 rfl
def lgX12_odds_231 : List (Nat × Instr × Nat) := [(91, .istore 7, 2), (93, .iconst 0, 1), (94, .istore 8, 2), (96, .iload 8, 2), (98, .iconst 1, 1), (99, .aload_n 0, 1), (100, .getfield 191, 3), (103, .ishl, 1), (104, .if_icmp .ge 52, 3), (107, .iload 8, 2), (109, .invokestatic 255, 3), (112, .iload 5, 2), (114, .invokestatic 255, 3), (117, .if_icmp .ne 33, 3), (120, .iinc 6 1, 3), (123, .iload 7, 2), (125, .aload_n 0, 1), (126, .iload 8, 2), (128, .iload_n 2, 1), (129, .invokevirtual 258, 3), (132, .aload_n 0, 1), (133, .iload 5, 2), (135, .iload_n 2, 1), (136, .invokevirtual 258, 3), (139, .if_icmp .gt 7, 3), (142, .iconst 1, 1), (143, .goto 4, 3), (146, .iconst 0, 1), (147, .iadd, 1), (148, .istore 7, 2), (150, .iinc 8 1, 3), (153, .goto (-57), 3), (156, .iload_n 3, 1), (157, .ifCond .ne 8, 3), (160, .iload 7, 2), (162, .goto 5, 3), (165, .iload 6, 2), (167, .ireturn, 1)]
theorem dgX12_odds_231 : ∀ q ∈ lgX12_odds_231, decode cX12_odds q.1 = .ok (q.2.1, q.2.2) := by decide +kernel
theorem dX12_odds_91 : decode cX12_odds 91 = .ok (.istore 7, 2) := dall dgX12_odds_231 0 rfl
theorem dX12_odds_93 : decode cX12_odds 93 = .ok (.iconst 0, 1) := dall dgX12_odds_231 1 rfl
theorem dX12_odds_94 : decode cX12_odds 94 = .ok (.istore 8, 2) := dall dgX12_odds_231 2 rfl
theorem dX12_odds_96 : decode cX12_odds 96 = .ok (.iload 8, 2) := dall dgX12_odds_231 3 rfl
theorem dX12_odds_98 : decode cX12_odds 98 = .ok (.iconst 1, 1) := dall dgX12_odds_231 4 rfl
theorem dX12_odds_99 : decode cX12_odds 99 = .ok (.aload_n 0, 1) := dall dgX12_odds_231 5 rfl
theorem dX12_odds_100 : decode cX12_odds 100 = .ok (.getfield 191, 3) := dall dgX12_odds_231 6 rfl
theorem dX12_odds_103 : decode cX12_odds 103 = .ok (.ishl, 1) := dall dgX12_odds_231 7 rfl
theorem dX12_odds_104 : decode cX12_odds 104 = .ok (.if_icmp .ge 52, 3) := dall dgX12_odds_231 8 rfl
theorem dX12_odds_107 : decode cX12_odds 107 = .ok (.iload 8, 2) := dall dgX12_odds_231 9 rfl
theorem dX12_odds_109 : decode cX12_odds 109 = .ok (.invokestatic 255, 3) := dall dgX12_odds_231 10 rfl
theorem dX12_odds_112 : decode cX12_odds 112 = .ok (.iload 5, 2) := dall dgX12_odds_231 11 rfl
theorem dX12_odds_114 : decode cX12_odds 114 = .ok (.invokestatic 255, 3) := dall dgX12_odds_231 12 rfl
theorem dX12_odds_117 : decode cX12_odds 117 = .ok (.if_icmp .ne 33, 3) := dall dgX12_odds_231 13 rfl
theorem dX12_odds_120 : decode cX12_odds 120 = .ok (.iinc 6 1, 3) := dall dgX12_odds_231 14 rfl
theorem dX12_odds_123 : decode cX12_odds 123 = .ok (.iload 7, 2) := dall dgX12_odds_231 15 rfl
theorem dX12_odds_125 : decode cX12_odds 125 = .ok (.aload_n 0, 1) := dall dgX12_odds_231 16 rfl
theorem dX12_odds_126 : decode cX12_odds 126 = .ok (.iload 8, 2) := dall dgX12_odds_231 17 rfl
theorem dX12_odds_128 : decode cX12_odds 128 = .ok (.iload_n 2, 1) := dall dgX12_odds_231 18 rfl
theorem dX12_odds_129 : decode cX12_odds 129 = .ok (.invokevirtual 258, 3) := dall dgX12_odds_231 19 rfl
theorem dX12_odds_132 : decode cX12_odds 132 = .ok (.aload_n 0, 1) := dall dgX12_odds_231 20 rfl
theorem dX12_odds_133 : decode cX12_odds 133 = .ok (.iload 5, 2) := dall dgX12_odds_231 21 rfl
theorem dX12_odds_135 : decode cX12_odds 135 = .ok (.iload_n 2, 1) := dall dgX12_odds_231 22 rfl
theorem dX12_odds_136 : decode cX12_odds 136 = .ok (.invokevirtual 258, 3) := dall dgX12_odds_231 23 rfl
theorem dX12_odds_139 : decode cX12_odds 139 = .ok (.if_icmp .gt 7, 3) := dall dgX12_odds_231 24 rfl
theorem dX12_odds_142 : decode cX12_odds 142 = .ok (.iconst 1, 1) := dall dgX12_odds_231 25 rfl
theorem dX12_odds_143 : decode cX12_odds 143 = .ok (.goto 4, 3) := dall dgX12_odds_231 26 rfl
theorem dX12_odds_146 : decode cX12_odds 146 = .ok (.iconst 0, 1) := dall dgX12_odds_231 27 rfl
theorem dX12_odds_147 : decode cX12_odds 147 = .ok (.iadd, 1) := dall dgX12_odds_231 28 rfl
theorem dX12_odds_148 : decode cX12_odds 148 = .ok (.istore 7, 2) := dall dgX12_odds_231 29 rfl
theorem dX12_odds_150 : decode cX12_odds 150 = .ok (.iinc 8 1, 3) := dall dgX12_odds_231 30 rfl
theorem dX12_odds_153 : decode cX12_odds 153 = .ok (.goto (-57), 3) := dall dgX12_odds_231 31 rfl
theorem dX12_odds_156 : decode cX12_odds 156 = .ok (.iload_n 3, 1) := dall dgX12_odds_231 32 rfl
theorem dX12_odds_157 : decode cX12_odds 157 = .ok (.ifCond .ne 8, 3) := dall dgX12_odds_231 33 rfl
theorem dX12_odds_160 : decode cX12_odds 160 = .ok (.iload 7, 2) := dall dgX12_odds_231 34 rfl
theorem dX12_odds_162 : decode cX12_odds 162 = .ok (.goto 5, 3) := dall dgX12_odds_231 35 rfl
theorem dX12_odds_165 : decode cX12_odds 165 = .ok (.iload 6, 2) := dall dgX12_odds_231 36 rfl
theorem dX12_odds_167 : decode cX12_odds 167 = .ok (.ireturn, 1) := dall dgX12_odds_231 37 rfl
def lgX12_heapOfRow_232 : List (Nat × Instr × Nat) := [(0, .aload_n 0, 1), (1, .getfield 45, 3), (4, .iload_n 1, 1), (5, .iaload, 1), (6, .bipush (-9), 2), (8, .if_icmp .ne 8, 3), (11, .bipush (-9), 2), (13, .goto 14, 3), (16, .aload_n 0, 1), (17, .getfield 72, 3), (20, .aload_n 0, 1), (21, .getfield 45, 3), (24, .iload_n 1, 1), (25, .iaload, 1), (26, .iaload, 1), (27, .ireturn, 1)]
theorem dgX12_heapOfRow_232 : ∀ q ∈ lgX12_heapOfRow_232, decode cX12_heapOfRow q.1 = .ok (q.2.1, q.2.2) := by decide +kernel
theorem dX12_heapOfRow_0 : decode cX12_heapOfRow 0 = .ok (.aload_n 0, 1) := dall dgX12_heapOfRow_232 0 rfl
theorem dX12_heapOfRow_1 : decode cX12_heapOfRow 1 = .ok (.getfield 45, 3) := dall dgX12_heapOfRow_232 1 rfl
theorem dX12_heapOfRow_4 : decode cX12_heapOfRow 4 = .ok (.iload_n 1, 1) := dall dgX12_heapOfRow_232 2 rfl
theorem dX12_heapOfRow_5 : decode cX12_heapOfRow 5 = .ok (.iaload, 1) := dall dgX12_heapOfRow_232 3 rfl
theorem dX12_heapOfRow_6 : decode cX12_heapOfRow 6 = .ok (.bipush (-9), 2) := dall dgX12_heapOfRow_232 4 rfl
theorem dX12_heapOfRow_8 : decode cX12_heapOfRow 8 = .ok (.if_icmp .ne 8, 3) := dall dgX12_heapOfRow_232 5 rfl
theorem dX12_heapOfRow_11 : decode cX12_heapOfRow 11 = .ok (.bipush (-9), 2) := dall dgX12_heapOfRow_232 6 rfl
theorem dX12_heapOfRow_13 : decode cX12_heapOfRow 13 = .ok (.goto 14, 3) := dall dgX12_heapOfRow_232 7 rfl
theorem dX12_heapOfRow_16 : decode cX12_heapOfRow 16 = .ok (.aload_n 0, 1) := dall dgX12_heapOfRow_232 8 rfl
theorem dX12_heapOfRow_17 : decode cX12_heapOfRow 17 = .ok (.getfield 72, 3) := dall dgX12_heapOfRow_232 9 rfl
theorem dX12_heapOfRow_20 : decode cX12_heapOfRow 20 = .ok (.aload_n 0, 1) := dall dgX12_heapOfRow_232 10 rfl
theorem dX12_heapOfRow_21 : decode cX12_heapOfRow 21 = .ok (.getfield 45, 3) := dall dgX12_heapOfRow_232 11 rfl
theorem dX12_heapOfRow_24 : decode cX12_heapOfRow 24 = .ok (.iload_n 1, 1) := dall dgX12_heapOfRow_232 12 rfl
theorem dX12_heapOfRow_25 : decode cX12_heapOfRow 25 = .ok (.iaload, 1) := dall dgX12_heapOfRow_232 13 rfl
theorem dX12_heapOfRow_26 : decode cX12_heapOfRow 26 = .ok (.iaload, 1) := dall dgX12_heapOfRow_232 14 rfl
theorem dX12_heapOfRow_27 : decode cX12_heapOfRow 27 = .ok (.ireturn, 1) := dall dgX12_heapOfRow_232 15 rfl
def lgX12_show_233 : List (Nat × Instr × Nat) := [(0, .aload_n 0, 1), (1, .invokevirtual 240, 3), (4, .ifCond .ne 6, 3), (7, .bipush (-2), 2), (9, .ireturn, 1), (10, .iconst 0, 1), (11, .istore_n 1, 1), (12, .iload_n 1, 1), (13, .aload_n 0, 1), (14, .getfield 156, 3), (17, .if_icmp .ge 20, 3), (20, .aload_n 0, 1), (21, .getfield 36, 3), (24, .iload_n 1, 1), (25, .aload_n 0, 1), (26, .iload_n 1, 1), (27, .invokevirtual 261, 3), (30, .iastore, 1), (31, .iinc 1 1, 3), (34, .goto (-22), 3), (37, .aload_n 0, 1), (38, .aload_n 0, 1), (39, .getfield 156, 3), (42, .putfield 264, 3), (45, .aload_n 0, 1), (46, .iconst 1, 1), (47, .putfield 174, 3), (50, .aload_n 0, 1), (51, .getfield 156, 3), (54, .ireturn, 1)]
theorem dgX12_show_233 : ∀ q ∈ lgX12_show_233, decode cX12_show q.1 = .ok (q.2.1, q.2.2) := by decide +kernel
theorem dX12_show_0 : decode cX12_show 0 = .ok (.aload_n 0, 1) := dall dgX12_show_233 0 rfl
theorem dX12_show_1 : decode cX12_show 1 = .ok (.invokevirtual 240, 3) := dall dgX12_show_233 1 rfl
theorem dX12_show_4 : decode cX12_show 4 = .ok (.ifCond .ne 6, 3) := dall dgX12_show_233 2 rfl
theorem dX12_show_7 : decode cX12_show 7 = .ok (.bipush (-2), 2) := dall dgX12_show_233 3 rfl
theorem dX12_show_9 : decode cX12_show 9 = .ok (.ireturn, 1) := dall dgX12_show_233 4 rfl
theorem dX12_show_10 : decode cX12_show 10 = .ok (.iconst 0, 1) := dall dgX12_show_233 5 rfl
theorem dX12_show_11 : decode cX12_show 11 = .ok (.istore_n 1, 1) := dall dgX12_show_233 6 rfl
theorem dX12_show_12 : decode cX12_show 12 = .ok (.iload_n 1, 1) := dall dgX12_show_233 7 rfl
theorem dX12_show_13 : decode cX12_show 13 = .ok (.aload_n 0, 1) := dall dgX12_show_233 8 rfl
theorem dX12_show_14 : decode cX12_show 14 = .ok (.getfield 156, 3) := dall dgX12_show_233 9 rfl
theorem dX12_show_17 : decode cX12_show 17 = .ok (.if_icmp .ge 20, 3) := dall dgX12_show_233 10 rfl
theorem dX12_show_20 : decode cX12_show 20 = .ok (.aload_n 0, 1) := dall dgX12_show_233 11 rfl
theorem dX12_show_21 : decode cX12_show 21 = .ok (.getfield 36, 3) := dall dgX12_show_233 12 rfl
theorem dX12_show_24 : decode cX12_show 24 = .ok (.iload_n 1, 1) := dall dgX12_show_233 13 rfl
theorem dX12_show_25 : decode cX12_show 25 = .ok (.aload_n 0, 1) := dall dgX12_show_233 14 rfl
theorem dX12_show_26 : decode cX12_show 26 = .ok (.iload_n 1, 1) := dall dgX12_show_233 15 rfl
theorem dX12_show_27 : decode cX12_show 27 = .ok (.invokevirtual 261, 3) := dall dgX12_show_233 16 rfl
theorem dX12_show_30 : decode cX12_show 30 = .ok (.iastore, 1) := dall dgX12_show_233 17 rfl
theorem dX12_show_31 : decode cX12_show 31 = .ok (.iinc 1 1, 3) := dall dgX12_show_233 18 rfl
theorem dX12_show_34 : decode cX12_show 34 = .ok (.goto (-22), 3) := dall dgX12_show_233 19 rfl
theorem dX12_show_37 : decode cX12_show 37 = .ok (.aload_n 0, 1) := dall dgX12_show_233 20 rfl
theorem dX12_show_38 : decode cX12_show 38 = .ok (.aload_n 0, 1) := dall dgX12_show_233 21 rfl
theorem dX12_show_39 : decode cX12_show 39 = .ok (.getfield 156, 3) := dall dgX12_show_233 22 rfl
theorem dX12_show_42 : decode cX12_show 42 = .ok (.putfield 264, 3) := dall dgX12_show_233 23 rfl
theorem dX12_show_45 : decode cX12_show 45 = .ok (.aload_n 0, 1) := dall dgX12_show_233 24 rfl
theorem dX12_show_46 : decode cX12_show 46 = .ok (.iconst 1, 1) := dall dgX12_show_233 25 rfl
theorem dX12_show_47 : decode cX12_show 47 = .ok (.putfield 174, 3) := dall dgX12_show_233 26 rfl
theorem dX12_show_50 : decode cX12_show 50 = .ok (.aload_n 0, 1) := dall dgX12_show_233 27 rfl
theorem dX12_show_51 : decode cX12_show 51 = .ok (.getfield 156, 3) := dall dgX12_show_233 28 rfl
theorem dX12_show_54 : decode cX12_show 54 = .ok (.ireturn, 1) := dall dgX12_show_233 29 rfl
def lgX12_otherwise_234 : List (Nat × Instr × Nat) := [(0, .aload_n 0, 1), (1, .getfield 174, 3), (4, .ifCond .eq 10, 3), (7, .aload_n 0, 1), (8, .invokevirtual 240, 3), (11, .ifCond .ne 6, 3), (14, .bipush (-2), 2), (16, .ireturn, 1), (17, .iconst 0, 1), (18, .istore_n 1, 1), (19, .iconst 0, 1), (20, .istore_n 2, 1), (21, .iload_n 2, 1), (22, .aload_n 0, 1), (23, .getfield 264, 3), (26, .if_icmp .ge 39, 3), (29, .iload_n 2, 1), (30, .aload_n 0, 1), (31, .getfield 156, 3), (34, .if_icmp .ge 31, 3), (37, .iload_n 1, 1), (38, .aload_n 0, 1), (39, .getfield 36, 3), (42, .iload_n 2, 1), (43, .iaload, 1), (44, .aload_n 0, 1), (45, .iload_n 2, 1), (46, .invokevirtual 261, 3), (49, .if_icmp .ne 7, 3), (52, .iconst 0, 1), (53, .goto 4, 3), (56, .iconst 1, 1), (57, .iadd, 1), (58, .istore_n 1, 1), (59, .iinc 2 1, 3), (62, .goto (-41), 3), (65, .iload_n 1, 1), (66, .ireturn, 1)]
theorem dgX12_otherwise_234 : ∀ q ∈ lgX12_otherwise_234, decode cX12_otherwise q.1 = .ok (q.2.1, q.2.2) := by decide +kernel
theorem dX12_otherwise_0 : decode cX12_otherwise 0 = .ok (.aload_n 0, 1) := dall dgX12_otherwise_234 0 rfl
theorem dX12_otherwise_1 : decode cX12_otherwise 1 = .ok (.getfield 174, 3) := dall dgX12_otherwise_234 1 rfl
theorem dX12_otherwise_4 : decode cX12_otherwise 4 = .ok (.ifCond .eq 10, 3) := dall dgX12_otherwise_234 2 rfl
theorem dX12_otherwise_7 : decode cX12_otherwise 7 = .ok (.aload_n 0, 1) := dall dgX12_otherwise_234 3 rfl
theorem dX12_otherwise_8 : decode cX12_otherwise 8 = .ok (.invokevirtual 240, 3) := dall dgX12_otherwise_234 4 rfl
theorem dX12_otherwise_11 : decode cX12_otherwise 11 = .ok (.ifCond .ne 6, 3) := dall dgX12_otherwise_234 5 rfl
theorem dX12_otherwise_14 : decode cX12_otherwise 14 = .ok (.bipush (-2), 2) := dall dgX12_otherwise_234 6 rfl
theorem dX12_otherwise_16 : decode cX12_otherwise 16 = .ok (.ireturn, 1) := dall dgX12_otherwise_234 7 rfl
theorem dX12_otherwise_17 : decode cX12_otherwise 17 = .ok (.iconst 0, 1) := dall dgX12_otherwise_234 8 rfl
theorem dX12_otherwise_18 : decode cX12_otherwise 18 = .ok (.istore_n 1, 1) := dall dgX12_otherwise_234 9 rfl
theorem dX12_otherwise_19 : decode cX12_otherwise 19 = .ok (.iconst 0, 1) := dall dgX12_otherwise_234 10 rfl
theorem dX12_otherwise_20 : decode cX12_otherwise 20 = .ok (.istore_n 2, 1) := dall dgX12_otherwise_234 11 rfl
theorem dX12_otherwise_21 : decode cX12_otherwise 21 = .ok (.iload_n 2, 1) := dall dgX12_otherwise_234 12 rfl
theorem dX12_otherwise_22 : decode cX12_otherwise 22 = .ok (.aload_n 0, 1) := dall dgX12_otherwise_234 13 rfl
theorem dX12_otherwise_23 : decode cX12_otherwise 23 = .ok (.getfield 264, 3) := dall dgX12_otherwise_234 14 rfl
theorem dX12_otherwise_26 : decode cX12_otherwise 26 = .ok (.if_icmp .ge 39, 3) := dall dgX12_otherwise_234 15 rfl
theorem dX12_otherwise_29 : decode cX12_otherwise 29 = .ok (.iload_n 2, 1) := dall dgX12_otherwise_234 16 rfl
theorem dX12_otherwise_30 : decode cX12_otherwise 30 = .ok (.aload_n 0, 1) := dall dgX12_otherwise_234 17 rfl
theorem dX12_otherwise_31 : decode cX12_otherwise 31 = .ok (.getfield 156, 3) := dall dgX12_otherwise_234 18 rfl
theorem dX12_otherwise_34 : decode cX12_otherwise 34 = .ok (.if_icmp .ge 31, 3) := dall dgX12_otherwise_234 19 rfl
theorem dX12_otherwise_37 : decode cX12_otherwise 37 = .ok (.iload_n 1, 1) := dall dgX12_otherwise_234 20 rfl
theorem dX12_otherwise_38 : decode cX12_otherwise 38 = .ok (.aload_n 0, 1) := dall dgX12_otherwise_234 21 rfl
theorem dX12_otherwise_39 : decode cX12_otherwise 39 = .ok (.getfield 36, 3) := dall dgX12_otherwise_234 22 rfl
theorem dX12_otherwise_42 : decode cX12_otherwise 42 = .ok (.iload_n 2, 1) := dall dgX12_otherwise_234 23 rfl
theorem dX12_otherwise_43 : decode cX12_otherwise 43 = .ok (.iaload, 1) := dall dgX12_otherwise_234 24 rfl
theorem dX12_otherwise_44 : decode cX12_otherwise 44 = .ok (.aload_n 0, 1) := dall dgX12_otherwise_234 25 rfl
theorem dX12_otherwise_45 : decode cX12_otherwise 45 = .ok (.iload_n 2, 1) := dall dgX12_otherwise_234 26 rfl
theorem dX12_otherwise_46 : decode cX12_otherwise 46 = .ok (.invokevirtual 261, 3) := dall dgX12_otherwise_234 27 rfl
theorem dX12_otherwise_49 : decode cX12_otherwise 49 = .ok (.if_icmp .ne 7, 3) := dall dgX12_otherwise_234 28 rfl
theorem dX12_otherwise_52 : decode cX12_otherwise 52 = .ok (.iconst 0, 1) := dall dgX12_otherwise_234 29 rfl
theorem dX12_otherwise_53 : decode cX12_otherwise 53 = .ok (.goto 4, 3) := dall dgX12_otherwise_234 30 rfl
theorem dX12_otherwise_56 : decode cX12_otherwise 56 = .ok (.iconst 1, 1) := dall dgX12_otherwise_234 31 rfl
theorem dX12_otherwise_57 : decode cX12_otherwise 57 = .ok (.iadd, 1) := dall dgX12_otherwise_234 32 rfl
theorem dX12_otherwise_58 : decode cX12_otherwise 58 = .ok (.istore_n 1, 1) := dall dgX12_otherwise_234 33 rfl
theorem dX12_otherwise_59 : decode cX12_otherwise 59 = .ok (.iinc 2 1, 3) := dall dgX12_otherwise_234 34 rfl
theorem dX12_otherwise_62 : decode cX12_otherwise 62 = .ok (.goto (-41), 3) := dall dgX12_otherwise_234 35 rfl
theorem dX12_otherwise_65 : decode cX12_otherwise 65 = .ok (.iload_n 1, 1) := dall dgX12_otherwise_234 36 rfl
theorem dX12_otherwise_66 : decode cX12_otherwise 66 = .ok (.ireturn, 1) := dall dgX12_otherwise_234 37 rfl
def lgX12_word_235 : List (Nat × Instr × Nat) := [(0, .aload_n 0, 1), (1, .iload_n 1, 1), (2, .iload_n 2, 1), (3, .invokevirtual 167, 3), (6, .ifCond .ne 5, 3), (9, .iconst (-1), 1), (10, .ireturn, 1), (11, .aload_n 0, 1), (12, .getfield 171, 3), (15, .bipush 12, 2), (17, .if_icmp .ne 6, 3), (20, .bipush (-3), 2), (22, .ireturn, 1), (23, .aload_n 0, 1), (24, .getfield 30, 3), (27, .aload_n 0, 1), (28, .getfield 171, 3), (31, .iload_n 1, 1), (32, .iastore, 1), (33, .aload_n 0, 1), (34, .getfield 33, 3), (37, .aload_n 0, 1), (38, .getfield 171, 3), (41, .iload_n 2, 1), (42, .iastore, 1), (43, .aload_n 0, 1), (44, .dup, 1), (45, .getfield 171, 3), (48, .iconst 1, 1), (49, .iadd, 1), (50, .putfield 171, 3), (53, .aload_n 0, 1), (54, .getfield 171, 3), (57, .iconst 1, 1), (58, .isub, 1), (59, .ireturn, 1)]
theorem dgX12_word_235 : ∀ q ∈ lgX12_word_235, decode cX12_word q.1 = .ok (q.2.1, q.2.2) := by decide +kernel
theorem dX12_word_0 : decode cX12_word 0 = .ok (.aload_n 0, 1) := dall dgX12_word_235 0 rfl
theorem dX12_word_1 : decode cX12_word 1 = .ok (.iload_n 1, 1) := dall dgX12_word_235 1 rfl
theorem dX12_word_2 : decode cX12_word 2 = .ok (.iload_n 2, 1) := dall dgX12_word_235 2 rfl
theorem dX12_word_3 : decode cX12_word 3 = .ok (.invokevirtual 167, 3) := dall dgX12_word_235 3 rfl
theorem dX12_word_6 : decode cX12_word 6 = .ok (.ifCond .ne 5, 3) := dall dgX12_word_235 4 rfl
theorem dX12_word_9 : decode cX12_word 9 = .ok (.iconst (-1), 1) := dall dgX12_word_235 5 rfl
theorem dX12_word_10 : decode cX12_word 10 = .ok (.ireturn, 1) := dall dgX12_word_235 6 rfl
theorem dX12_word_11 : decode cX12_word 11 = .ok (.aload_n 0, 1) := dall dgX12_word_235 7 rfl
theorem dX12_word_12 : decode cX12_word 12 = .ok (.getfield 171, 3) := dall dgX12_word_235 8 rfl
theorem dX12_word_15 : decode cX12_word 15 = .ok (.bipush 12, 2) := dall dgX12_word_235 9 rfl
theorem dX12_word_17 : decode cX12_word 17 = .ok (.if_icmp .ne 6, 3) := dall dgX12_word_235 10 rfl
theorem dX12_word_20 : decode cX12_word 20 = .ok (.bipush (-3), 2) := dall dgX12_word_235 11 rfl
theorem dX12_word_22 : decode cX12_word 22 = .ok (.ireturn, 1) := dall dgX12_word_235 12 rfl
theorem dX12_word_23 : decode cX12_word 23 = .ok (.aload_n 0, 1) := dall dgX12_word_235 13 rfl
theorem dX12_word_24 : decode cX12_word 24 = .ok (.getfield 30, 3) := dall dgX12_word_235 14 rfl
theorem dX12_word_27 : decode cX12_word 27 = .ok (.aload_n 0, 1) := dall dgX12_word_235 15 rfl
theorem dX12_word_28 : decode cX12_word 28 = .ok (.getfield 171, 3) := dall dgX12_word_235 16 rfl
theorem dX12_word_31 : decode cX12_word 31 = .ok (.iload_n 1, 1) := dall dgX12_word_235 17 rfl
theorem dX12_word_32 : decode cX12_word 32 = .ok (.iastore, 1) := dall dgX12_word_235 18 rfl
theorem dX12_word_33 : decode cX12_word 33 = .ok (.aload_n 0, 1) := dall dgX12_word_235 19 rfl
theorem dX12_word_34 : decode cX12_word 34 = .ok (.getfield 33, 3) := dall dgX12_word_235 20 rfl
theorem dX12_word_37 : decode cX12_word 37 = .ok (.aload_n 0, 1) := dall dgX12_word_235 21 rfl
theorem dX12_word_38 : decode cX12_word 38 = .ok (.getfield 171, 3) := dall dgX12_word_235 22 rfl
theorem dX12_word_41 : decode cX12_word 41 = .ok (.iload_n 2, 1) := dall dgX12_word_235 23 rfl
theorem dX12_word_42 : decode cX12_word 42 = .ok (.iastore, 1) := dall dgX12_word_235 24 rfl
theorem dX12_word_43 : decode cX12_word 43 = .ok (.aload_n 0, 1) := dall dgX12_word_235 25 rfl
theorem dX12_word_44 : decode cX12_word 44 = .ok (.dup, 1) := dall dgX12_word_235 26 rfl
theorem dX12_word_45 : decode cX12_word 45 = .ok (.getfield 171, 3) := dall dgX12_word_235 27 rfl
theorem dX12_word_48 : decode cX12_word 48 = .ok (.iconst 1, 1) := dall dgX12_word_235 28 rfl
theorem dX12_word_49 : decode cX12_word 49 = .ok (.iadd, 1) := dall dgX12_word_235 29 rfl
theorem dX12_word_50 : decode cX12_word 50 = .ok (.putfield 171, 3) := dall dgX12_word_235 30 rfl
theorem dX12_word_53 : decode cX12_word 53 = .ok (.aload_n 0, 1) := dall dgX12_word_235 31 rfl
theorem dX12_word_54 : decode cX12_word 54 = .ok (.getfield 171, 3) := dall dgX12_word_235 32 rfl
theorem dX12_word_57 : decode cX12_word 57 = .ok (.iconst 1, 1) := dall dgX12_word_235 33 rfl
theorem dX12_word_58 : decode cX12_word 58 = .ok (.isub, 1) := dall dgX12_word_235 34 rfl
theorem dX12_word_59 : decode cX12_word 59 = .ok (.ireturn, 1) := dall dgX12_word_235 35 rfl
def lgX12_hung_236 : List (Nat × Instr × Nat) := [(0, .iload_n 1, 1), (1, .iconst 0, 1), (2, .aload_n 0, 1), (3, .getfield 171, 3), (6, .iconst 1, 1), (7, .isub, 1), (8, .invokestatic 100, 3), (11, .ifCond .eq 12, 3), (14, .iload_n 2, 1), (15, .iconst 0, 1), (16, .iconst 1, 1), (17, .invokestatic 100, 3), (20, .ifCond .ne 5, 3), (23, .iconst (-1), 1), (24, .ireturn, 1), (25, .aload_n 0, 1), (26, .invokevirtual 203, 3), (29, .bipush (-9), 2), (31, .istore_n 3, 1), (32, .iconst 0, 1), (33, .istore 4, 2), (35, .iconst 0, 1), (36, .istore 5, 2), (38, .iconst 0, 1), (39, .istore 6, 2), (41, .iload 6, 2), (43, .aload_n 0, 1), (44, .getfield 191, 3), (47, .if_icmp .ge 122, 3), (50, .iconst 0, 1), (51, .istore 7, 2), (53, .aload_n 0, 1), (54, .getfield 39, 3), (57, .iload 6, 2), (59, .iaload, 1), (60, .istore 8, 2), (62, .iload 8, 2), (64, .aload_n 0, 1), (65, .getfield 39, 3), (68, .iload 6, 2), (70, .iaload, 1), (71, .aload_n 0, 1), (72, .getfield 42, 3), (75, .iload 6, 2), (77, .iaload, 1), (78, .iadd, 1), (79, .if_icmp .ge 39, 3), (82, .iload 7, 2), (84, .iload 8, 2), (86, .aload_n 0, 1)]
theorem dgX12_hung_236 : ∀ q ∈ lgX12_hung_236, decode cX12_hung q.1 = .ok (q.2.1, q.2.2) := by decide +kernel
theorem dX12_hung_0 : decode cX12_hung 0 = .ok (.iload_n 1, 1) := dall dgX12_hung_236 0 rfl
theorem dX12_hung_1 : decode cX12_hung 1 = .ok (.iconst 0, 1) := dall dgX12_hung_236 1 rfl
theorem dX12_hung_2 : decode cX12_hung 2 = .ok (.aload_n 0, 1) := dall dgX12_hung_236 2 rfl
theorem dX12_hung_3 : decode cX12_hung 3 = .ok (.getfield 171, 3) := dall dgX12_hung_236 3 rfl
theorem dX12_hung_6 : decode cX12_hung 6 = .ok (.iconst 1, 1) := dall dgX12_hung_236 4 rfl
theorem dX12_hung_7 : decode cX12_hung 7 = .ok (.isub, 1) := dall dgX12_hung_236 5 rfl
theorem dX12_hung_8 : decode cX12_hung 8 = .ok (.invokestatic 100, 3) := dall dgX12_hung_236 6 rfl
theorem dX12_hung_11 : decode cX12_hung 11 = .ok (.ifCond .eq 12, 3) := dall dgX12_hung_236 7 rfl
theorem dX12_hung_14 : decode cX12_hung 14 = .ok (.iload_n 2, 1) := dall dgX12_hung_236 8 rfl
theorem dX12_hung_15 : decode cX12_hung 15 = .ok (.iconst 0, 1) := dall dgX12_hung_236 9 rfl
theorem dX12_hung_16 : decode cX12_hung 16 = .ok (.iconst 1, 1) := dall dgX12_hung_236 10 rfl
theorem dX12_hung_17 : decode cX12_hung 17 = .ok (.invokestatic 100, 3) := dall dgX12_hung_236 11 rfl
theorem dX12_hung_20 : decode cX12_hung 20 = .ok (.ifCond .ne 5, 3) := dall dgX12_hung_236 12 rfl
theorem dX12_hung_23 : decode cX12_hung 23 = .ok (.iconst (-1), 1) := dall dgX12_hung_236 13 rfl
theorem dX12_hung_24 : decode cX12_hung 24 = .ok (.ireturn, 1) := dall dgX12_hung_236 14 rfl
theorem dX12_hung_25 : decode cX12_hung 25 = .ok (.aload_n 0, 1) := dall dgX12_hung_236 15 rfl
theorem dX12_hung_26 : decode cX12_hung 26 = .ok (.invokevirtual 203, 3) := dall dgX12_hung_236 16 rfl
theorem dX12_hung_29 : decode cX12_hung 29 = .ok (.bipush (-9), 2) := dall dgX12_hung_236 17 rfl
theorem dX12_hung_31 : decode cX12_hung 31 = .ok (.istore_n 3, 1) := dall dgX12_hung_236 18 rfl
theorem dX12_hung_32 : decode cX12_hung 32 = .ok (.iconst 0, 1) := dall dgX12_hung_236 19 rfl
theorem dX12_hung_33 : decode cX12_hung 33 = .ok (.istore 4, 2) := dall dgX12_hung_236 20 rfl
theorem dX12_hung_35 : decode cX12_hung 35 = .ok (.iconst 0, 1) := dall dgX12_hung_236 21 rfl
theorem dX12_hung_36 : decode cX12_hung 36 = .ok (.istore 5, 2) := dall dgX12_hung_236 22 rfl
theorem dX12_hung_38 : decode cX12_hung 38 = .ok (.iconst 0, 1) := dall dgX12_hung_236 23 rfl
theorem dX12_hung_39 : decode cX12_hung 39 = .ok (.istore 6, 2) := dall dgX12_hung_236 24 rfl
theorem dX12_hung_41 : decode cX12_hung 41 = .ok (.iload 6, 2) := dall dgX12_hung_236 25 rfl
theorem dX12_hung_43 : decode cX12_hung 43 = .ok (.aload_n 0, 1) := dall dgX12_hung_236 26 rfl
theorem dX12_hung_44 : decode cX12_hung 44 = .ok (.getfield 191, 3) := dall dgX12_hung_236 27 rfl
theorem dX12_hung_47 : decode cX12_hung 47 = .ok (.if_icmp .ge 122, 3) := dall dgX12_hung_236 28 rfl
theorem dX12_hung_50 : decode cX12_hung 50 = .ok (.iconst 0, 1) := dall dgX12_hung_236 29 rfl
theorem dX12_hung_51 : decode cX12_hung 51 = .ok (.istore 7, 2) := dall dgX12_hung_236 30 rfl
theorem dX12_hung_53 : decode cX12_hung 53 = .ok (.aload_n 0, 1) := dall dgX12_hung_236 31 rfl
theorem dX12_hung_54 : decode cX12_hung 54 = .ok (.getfield 39, 3) := dall dgX12_hung_236 32 rfl
theorem dX12_hung_57 : decode cX12_hung 57 = .ok (.iload 6, 2) := dall dgX12_hung_236 33 rfl
theorem dX12_hung_59 : decode cX12_hung 59 = .ok (.iaload, 1) := dall dgX12_hung_236 34 rfl
theorem dX12_hung_60 : decode cX12_hung 60 = .ok (.istore 8, 2) := dall dgX12_hung_236 35 rfl
theorem dX12_hung_62 : decode cX12_hung 62 = .ok (.iload 8, 2) := dall dgX12_hung_236 36 rfl
theorem dX12_hung_64 : decode cX12_hung 64 = .ok (.aload_n 0, 1) := dall dgX12_hung_236 37 rfl
theorem dX12_hung_65 : decode cX12_hung 65 = .ok (.getfield 39, 3) := dall dgX12_hung_236 38 rfl
theorem dX12_hung_68 : decode cX12_hung 68 = .ok (.iload 6, 2) := dall dgX12_hung_236 39 rfl
theorem dX12_hung_70 : decode cX12_hung 70 = .ok (.iaload, 1) := dall dgX12_hung_236 40 rfl
theorem dX12_hung_71 : decode cX12_hung 71 = .ok (.aload_n 0, 1) := dall dgX12_hung_236 41 rfl
theorem dX12_hung_72 : decode cX12_hung 72 = .ok (.getfield 42, 3) := dall dgX12_hung_236 42 rfl
theorem dX12_hung_75 : decode cX12_hung 75 = .ok (.iload 6, 2) := dall dgX12_hung_236 43 rfl
theorem dX12_hung_77 : decode cX12_hung 77 = .ok (.iaload, 1) := dall dgX12_hung_236 44 rfl
theorem dX12_hung_78 : decode cX12_hung 78 = .ok (.iadd, 1) := dall dgX12_hung_236 45 rfl
theorem dX12_hung_79 : decode cX12_hung 79 = .ok (.if_icmp .ge 39, 3) := dall dgX12_hung_236 46 rfl
theorem dX12_hung_82 : decode cX12_hung 82 = .ok (.iload 7, 2) := dall dgX12_hung_236 47 rfl
theorem dX12_hung_84 : decode cX12_hung 84 = .ok (.iload 8, 2) := dall dgX12_hung_236 48 rfl
theorem dX12_hung_86 : decode cX12_hung 86 = .ok (.aload_n 0, 1) := dall dgX12_hung_236 49 rfl
def lgX12_hung_237 : List (Nat × Instr × Nat) := [(87, .getfield 30, 3), (90, .iload_n 1, 1), (91, .iaload, 1), (92, .aload_n 0, 1), (93, .getfield 33, 3), (96, .iload_n 1, 1), (97, .iaload, 1), (98, .invokestatic 100, 3), (101, .ifCond .eq 7, 3), (104, .iconst 1, 1), (105, .goto 4, 3), (108, .iconst 0, 1), (109, .iadd, 1), (110, .istore 7, 2), (112, .iinc 8 1, 3), (115, .goto (-53), 3), (118, .iload 7, 2), (120, .iload 4, 2), (122, .if_icmp .le 8, 3), (125, .iload 6, 2), (127, .goto 4, 3), (130, .iload_n 3, 1), (131, .istore_n 3, 1), (132, .iload 7, 2), (134, .iload 4, 2), (136, .if_icmp .le 8, 3), (139, .iload 7, 2), (141, .goto 5, 3), (144, .iload 4, 2), (146, .istore 4, 2), (148, .iload 5, 2), (150, .iload 7, 2), (152, .ifCond .le 7, 3), (155, .iconst 1, 1), (156, .goto 4, 3), (159, .iconst 0, 1), (160, .iadd, 1), (161, .istore 5, 2), (163, .iinc 6 1, 3), (166, .goto (-125), 3), (169, .iload_n 2, 1), (170, .ifCond .ne 7, 3), (173, .iload_n 3, 1), (174, .goto 5, 3), (177, .iload 5, 2), (179, .ireturn, 1)]
theorem dgX12_hung_237 : ∀ q ∈ lgX12_hung_237, decode cX12_hung q.1 = .ok (q.2.1, q.2.2) := by decide +kernel
theorem dX12_hung_87 : decode cX12_hung 87 = .ok (.getfield 30, 3) := dall dgX12_hung_237 0 rfl
theorem dX12_hung_90 : decode cX12_hung 90 = .ok (.iload_n 1, 1) := dall dgX12_hung_237 1 rfl
theorem dX12_hung_91 : decode cX12_hung 91 = .ok (.iaload, 1) := dall dgX12_hung_237 2 rfl
theorem dX12_hung_92 : decode cX12_hung 92 = .ok (.aload_n 0, 1) := dall dgX12_hung_237 3 rfl
theorem dX12_hung_93 : decode cX12_hung 93 = .ok (.getfield 33, 3) := dall dgX12_hung_237 4 rfl
theorem dX12_hung_96 : decode cX12_hung 96 = .ok (.iload_n 1, 1) := dall dgX12_hung_237 5 rfl
theorem dX12_hung_97 : decode cX12_hung 97 = .ok (.iaload, 1) := dall dgX12_hung_237 6 rfl
theorem dX12_hung_98 : decode cX12_hung 98 = .ok (.invokestatic 100, 3) := dall dgX12_hung_237 7 rfl
theorem dX12_hung_101 : decode cX12_hung 101 = .ok (.ifCond .eq 7, 3) := dall dgX12_hung_237 8 rfl
theorem dX12_hung_104 : decode cX12_hung 104 = .ok (.iconst 1, 1) := dall dgX12_hung_237 9 rfl
theorem dX12_hung_105 : decode cX12_hung 105 = .ok (.goto 4, 3) := dall dgX12_hung_237 10 rfl
theorem dX12_hung_108 : decode cX12_hung 108 = .ok (.iconst 0, 1) := dall dgX12_hung_237 11 rfl
theorem dX12_hung_109 : decode cX12_hung 109 = .ok (.iadd, 1) := dall dgX12_hung_237 12 rfl
theorem dX12_hung_110 : decode cX12_hung 110 = .ok (.istore 7, 2) := dall dgX12_hung_237 13 rfl
theorem dX12_hung_112 : decode cX12_hung 112 = .ok (.iinc 8 1, 3) := dall dgX12_hung_237 14 rfl
theorem dX12_hung_115 : decode cX12_hung 115 = .ok (.goto (-53), 3) := dall dgX12_hung_237 15 rfl
theorem dX12_hung_118 : decode cX12_hung 118 = .ok (.iload 7, 2) := dall dgX12_hung_237 16 rfl
theorem dX12_hung_120 : decode cX12_hung 120 = .ok (.iload 4, 2) := dall dgX12_hung_237 17 rfl
theorem dX12_hung_122 : decode cX12_hung 122 = .ok (.if_icmp .le 8, 3) := dall dgX12_hung_237 18 rfl
theorem dX12_hung_125 : decode cX12_hung 125 = .ok (.iload 6, 2) := dall dgX12_hung_237 19 rfl
theorem dX12_hung_127 : decode cX12_hung 127 = .ok (.goto 4, 3) := dall dgX12_hung_237 20 rfl
theorem dX12_hung_130 : decode cX12_hung 130 = .ok (.iload_n 3, 1) := dall dgX12_hung_237 21 rfl
theorem dX12_hung_131 : decode cX12_hung 131 = .ok (.istore_n 3, 1) := dall dgX12_hung_237 22 rfl
theorem dX12_hung_132 : decode cX12_hung 132 = .ok (.iload 7, 2) := dall dgX12_hung_237 23 rfl
theorem dX12_hung_134 : decode cX12_hung 134 = .ok (.iload 4, 2) := dall dgX12_hung_237 24 rfl
theorem dX12_hung_136 : decode cX12_hung 136 = .ok (.if_icmp .le 8, 3) := dall dgX12_hung_237 25 rfl
theorem dX12_hung_139 : decode cX12_hung 139 = .ok (.iload 7, 2) := dall dgX12_hung_237 26 rfl
theorem dX12_hung_141 : decode cX12_hung 141 = .ok (.goto 5, 3) := dall dgX12_hung_237 27 rfl
theorem dX12_hung_144 : decode cX12_hung 144 = .ok (.iload 4, 2) := dall dgX12_hung_237 28 rfl
theorem dX12_hung_146 : decode cX12_hung 146 = .ok (.istore 4, 2) := dall dgX12_hung_237 29 rfl
theorem dX12_hung_148 : decode cX12_hung 148 = .ok (.iload 5, 2) := dall dgX12_hung_237 30 rfl
theorem dX12_hung_150 : decode cX12_hung 150 = .ok (.iload 7, 2) := dall dgX12_hung_237 31 rfl
theorem dX12_hung_152 : decode cX12_hung 152 = .ok (.ifCond .le 7, 3) := dall dgX12_hung_237 32 rfl
theorem dX12_hung_155 : decode cX12_hung 155 = .ok (.iconst 1, 1) := dall dgX12_hung_237 33 rfl
theorem dX12_hung_156 : decode cX12_hung 156 = .ok (.goto 4, 3) := dall dgX12_hung_237 34 rfl
theorem dX12_hung_159 : decode cX12_hung 159 = .ok (.iconst 0, 1) := dall dgX12_hung_237 35 rfl
theorem dX12_hung_160 : decode cX12_hung 160 = .ok (.iadd, 1) := dall dgX12_hung_237 36 rfl
theorem dX12_hung_161 : decode cX12_hung 161 = .ok (.istore 5, 2) := dall dgX12_hung_237 37 rfl
theorem dX12_hung_163 : decode cX12_hung 163 = .ok (.iinc 6 1, 3) := dall dgX12_hung_237 38 rfl
theorem dX12_hung_166 : decode cX12_hung 166 = .ok (.goto (-125), 3) := dall dgX12_hung_237 39 rfl
theorem dX12_hung_169 : decode cX12_hung 169 = .ok (.iload_n 2, 1) := dall dgX12_hung_237 40 rfl
theorem dX12_hung_170 : decode cX12_hung 170 = .ok (.ifCond .ne 7, 3) := dall dgX12_hung_237 41 rfl
theorem dX12_hung_173 : decode cX12_hung 173 = .ok (.iload_n 3, 1) := dall dgX12_hung_237 42 rfl
theorem dX12_hung_174 : decode cX12_hung 174 = .ok (.goto 5, 3) := dall dgX12_hung_237 43 rfl
theorem dX12_hung_177 : decode cX12_hung 177 = .ok (.iload 5, 2) := dall dgX12_hung_237 44 rfl
theorem dX12_hung_179 : decode cX12_hung 179 = .ok (.ireturn, 1) := dall dgX12_hung_237 45 rfl
def lgX12_truth_238 : List (Nat × Instr × Nat) := [(0, .aload_n 0, 1), (1, .iload_n 1, 1), (2, .iload_n 2, 1), (3, .invokevirtual 167, 3), (6, .ifCond .eq 12, 3), (9, .iload_n 3, 1), (10, .iconst 0, 1), (11, .iconst 5, 1), (12, .invokestatic 100, 3), (15, .ifCond .ne 5, 3), (18, .iconst (-1), 1), (19, .ireturn, 1), (20, .iconst 0, 1), (21, .istore 4, 2), (23, .iload_n 1, 1), (24, .istore 5, 2), (26, .iload 5, 2), (28, .iload_n 2, 1), (29, .if_icmp .gt 38, 3), (32, .iload 4, 2), (34, .aload_n 0, 1), (35, .getfield 27, 3), (38, .iload 5, 2), (40, .iaload, 1), (41, .iload_n 3, 1), (42, .if_icmp .ne 7, 3), (45, .iconst 0, 1), (46, .goto 4, 3), (49, .iconst 1, 1), (50, .iadd, 1), (51, .istore 4, 2), (53, .aload_n 0, 1), (54, .getfield 27, 3), (57, .iload 5, 2), (59, .iload_n 3, 1), (60, .iastore, 1), (61, .iinc 5 1, 3), (64, .goto (-38), 3), (67, .iload 4, 2), (69, .ireturn, 1)]
theorem dgX12_truth_238 : ∀ q ∈ lgX12_truth_238, decode cX12_truth q.1 = .ok (q.2.1, q.2.2) := by decide +kernel
theorem dX12_truth_0 : decode cX12_truth 0 = .ok (.aload_n 0, 1) := dall dgX12_truth_238 0 rfl
theorem dX12_truth_1 : decode cX12_truth 1 = .ok (.iload_n 1, 1) := dall dgX12_truth_238 1 rfl
theorem dX12_truth_2 : decode cX12_truth 2 = .ok (.iload_n 2, 1) := dall dgX12_truth_238 2 rfl
theorem dX12_truth_3 : decode cX12_truth 3 = .ok (.invokevirtual 167, 3) := dall dgX12_truth_238 3 rfl
theorem dX12_truth_6 : decode cX12_truth 6 = .ok (.ifCond .eq 12, 3) := dall dgX12_truth_238 4 rfl
theorem dX12_truth_9 : decode cX12_truth 9 = .ok (.iload_n 3, 1) := dall dgX12_truth_238 5 rfl
theorem dX12_truth_10 : decode cX12_truth 10 = .ok (.iconst 0, 1) := dall dgX12_truth_238 6 rfl
theorem dX12_truth_11 : decode cX12_truth 11 = .ok (.iconst 5, 1) := dall dgX12_truth_238 7 rfl
theorem dX12_truth_12 : decode cX12_truth 12 = .ok (.invokestatic 100, 3) := dall dgX12_truth_238 8 rfl
theorem dX12_truth_15 : decode cX12_truth 15 = .ok (.ifCond .ne 5, 3) := dall dgX12_truth_238 9 rfl
theorem dX12_truth_18 : decode cX12_truth 18 = .ok (.iconst (-1), 1) := dall dgX12_truth_238 10 rfl
theorem dX12_truth_19 : decode cX12_truth 19 = .ok (.ireturn, 1) := dall dgX12_truth_238 11 rfl
theorem dX12_truth_20 : decode cX12_truth 20 = .ok (.iconst 0, 1) := dall dgX12_truth_238 12 rfl
theorem dX12_truth_21 : decode cX12_truth 21 = .ok (.istore 4, 2) := dall dgX12_truth_238 13 rfl
theorem dX12_truth_23 : decode cX12_truth 23 = .ok (.iload_n 1, 1) := dall dgX12_truth_238 14 rfl
theorem dX12_truth_24 : decode cX12_truth 24 = .ok (.istore 5, 2) := dall dgX12_truth_238 15 rfl
theorem dX12_truth_26 : decode cX12_truth 26 = .ok (.iload 5, 2) := dall dgX12_truth_238 16 rfl
theorem dX12_truth_28 : decode cX12_truth 28 = .ok (.iload_n 2, 1) := dall dgX12_truth_238 17 rfl
theorem dX12_truth_29 : decode cX12_truth 29 = .ok (.if_icmp .gt 38, 3) := dall dgX12_truth_238 18 rfl
theorem dX12_truth_32 : decode cX12_truth 32 = .ok (.iload 4, 2) := dall dgX12_truth_238 19 rfl
theorem dX12_truth_34 : decode cX12_truth 34 = .ok (.aload_n 0, 1) := dall dgX12_truth_238 20 rfl
theorem dX12_truth_35 : decode cX12_truth 35 = .ok (.getfield 27, 3) := dall dgX12_truth_238 21 rfl
theorem dX12_truth_38 : decode cX12_truth 38 = .ok (.iload 5, 2) := dall dgX12_truth_238 22 rfl
theorem dX12_truth_40 : decode cX12_truth 40 = .ok (.iaload, 1) := dall dgX12_truth_238 23 rfl
theorem dX12_truth_41 : decode cX12_truth 41 = .ok (.iload_n 3, 1) := dall dgX12_truth_238 24 rfl
theorem dX12_truth_42 : decode cX12_truth 42 = .ok (.if_icmp .ne 7, 3) := dall dgX12_truth_238 25 rfl
theorem dX12_truth_45 : decode cX12_truth 45 = .ok (.iconst 0, 1) := dall dgX12_truth_238 26 rfl
theorem dX12_truth_46 : decode cX12_truth 46 = .ok (.goto 4, 3) := dall dgX12_truth_238 27 rfl
theorem dX12_truth_49 : decode cX12_truth 49 = .ok (.iconst 1, 1) := dall dgX12_truth_238 28 rfl
theorem dX12_truth_50 : decode cX12_truth 50 = .ok (.iadd, 1) := dall dgX12_truth_238 29 rfl
theorem dX12_truth_51 : decode cX12_truth 51 = .ok (.istore 4, 2) := dall dgX12_truth_238 30 rfl
theorem dX12_truth_53 : decode cX12_truth 53 = .ok (.aload_n 0, 1) := dall dgX12_truth_238 31 rfl
theorem dX12_truth_54 : decode cX12_truth 54 = .ok (.getfield 27, 3) := dall dgX12_truth_238 32 rfl
theorem dX12_truth_57 : decode cX12_truth 57 = .ok (.iload 5, 2) := dall dgX12_truth_238 33 rfl
theorem dX12_truth_59 : decode cX12_truth 59 = .ok (.iload_n 3, 1) := dall dgX12_truth_238 34 rfl
theorem dX12_truth_60 : decode cX12_truth 60 = .ok (.iastore, 1) := dall dgX12_truth_238 35 rfl
theorem dX12_truth_61 : decode cX12_truth 61 = .ok (.iinc 5 1, 3) := dall dgX12_truth_238 36 rfl
theorem dX12_truth_64 : decode cX12_truth 64 = .ok (.goto (-38), 3) := dall dgX12_truth_238 37 rfl
theorem dX12_truth_67 : decode cX12_truth 67 = .ok (.iload 4, 2) := dall dgX12_truth_238 38 rfl
theorem dX12_truth_69 : decode cX12_truth 69 = .ok (.ireturn, 1) := dall dgX12_truth_238 39 rfl
def lgX12_mostRight_239 : List (Nat × Instr × Nat) := [(0, .iconst 0, 1), (1, .istore_n 1, 1), (2, .iload_n 1, 1), (3, .bipush 54, 2), (5, .if_icmp .ge 16, 3), (8, .aload_n 0, 1), (9, .getfield 93, 3), (12, .iload_n 1, 1), (13, .iconst 0, 1), (14, .iastore, 1), (15, .iinc 1 1, 3), (18, .goto (-16), 3), (21, .iconst 0, 1), (22, .istore_n 1, 1), (23, .iload_n 1, 1), (24, .aload_n 0, 1), (25, .getfield 156, 3), (28, .if_icmp .ge 53, 3), (31, .aload_n 0, 1), (32, .getfield 45, 3), (35, .iload_n 1, 1), (36, .iaload, 1), (37, .bipush (-9), 2), (39, .if_icmp .eq 36, 3), (42, .aload_n 0, 1), (43, .getfield 27, 3), (46, .iload_n 1, 1), (47, .iaload, 1), (48, .ifCond .le 27, 3), (51, .aload_n 0, 1), (52, .getfield 93, 3), (55, .bipush 9, 2), (57, .aload_n 0, 1), (58, .getfield 27, 3), (61, .iload_n 1, 1), (62, .iaload, 1), (63, .imul, 1), (64, .aload_n 0, 1), (65, .iload_n 1, 1), (66, .invokevirtual 261, 3), (69, .iadd, 1), (70, .dup2, 1), (71, .iaload, 1), (72, .iconst 1, 1), (73, .iadd, 1), (74, .iastore, 1), (75, .iinc 1 1, 3), (78, .goto (-55), 3), (81, .iconst 0, 1), (82, .istore_n 1, 1)]
theorem dgX12_mostRight_239 : ∀ q ∈ lgX12_mostRight_239, decode cX12_mostRight q.1 = .ok (q.2.1, q.2.2) := by decide +kernel
theorem dX12_mostRight_0 : decode cX12_mostRight 0 = .ok (.iconst 0, 1) := dall dgX12_mostRight_239 0 rfl
theorem dX12_mostRight_1 : decode cX12_mostRight 1 = .ok (.istore_n 1, 1) := dall dgX12_mostRight_239 1 rfl
theorem dX12_mostRight_2 : decode cX12_mostRight 2 = .ok (.iload_n 1, 1) := dall dgX12_mostRight_239 2 rfl
theorem dX12_mostRight_3 : decode cX12_mostRight 3 = .ok (.bipush 54, 2) := dall dgX12_mostRight_239 3 rfl
theorem dX12_mostRight_5 : decode cX12_mostRight 5 = .ok (.if_icmp .ge 16, 3) := dall dgX12_mostRight_239 4 rfl
theorem dX12_mostRight_8 : decode cX12_mostRight 8 = .ok (.aload_n 0, 1) := dall dgX12_mostRight_239 5 rfl
theorem dX12_mostRight_9 : decode cX12_mostRight 9 = .ok (.getfield 93, 3) := dall dgX12_mostRight_239 6 rfl
theorem dX12_mostRight_12 : decode cX12_mostRight 12 = .ok (.iload_n 1, 1) := dall dgX12_mostRight_239 7 rfl
theorem dX12_mostRight_13 : decode cX12_mostRight 13 = .ok (.iconst 0, 1) := dall dgX12_mostRight_239 8 rfl
theorem dX12_mostRight_14 : decode cX12_mostRight 14 = .ok (.iastore, 1) := dall dgX12_mostRight_239 9 rfl
theorem dX12_mostRight_15 : decode cX12_mostRight 15 = .ok (.iinc 1 1, 3) := dall dgX12_mostRight_239 10 rfl
theorem dX12_mostRight_18 : decode cX12_mostRight 18 = .ok (.goto (-16), 3) := dall dgX12_mostRight_239 11 rfl
theorem dX12_mostRight_21 : decode cX12_mostRight 21 = .ok (.iconst 0, 1) := dall dgX12_mostRight_239 12 rfl
theorem dX12_mostRight_22 : decode cX12_mostRight 22 = .ok (.istore_n 1, 1) := dall dgX12_mostRight_239 13 rfl
theorem dX12_mostRight_23 : decode cX12_mostRight 23 = .ok (.iload_n 1, 1) := dall dgX12_mostRight_239 14 rfl
theorem dX12_mostRight_24 : decode cX12_mostRight 24 = .ok (.aload_n 0, 1) := dall dgX12_mostRight_239 15 rfl
theorem dX12_mostRight_25 : decode cX12_mostRight 25 = .ok (.getfield 156, 3) := dall dgX12_mostRight_239 16 rfl
theorem dX12_mostRight_28 : decode cX12_mostRight 28 = .ok (.if_icmp .ge 53, 3) := dall dgX12_mostRight_239 17 rfl
theorem dX12_mostRight_31 : decode cX12_mostRight 31 = .ok (.aload_n 0, 1) := dall dgX12_mostRight_239 18 rfl
theorem dX12_mostRight_32 : decode cX12_mostRight 32 = .ok (.getfield 45, 3) := dall dgX12_mostRight_239 19 rfl
theorem dX12_mostRight_35 : decode cX12_mostRight 35 = .ok (.iload_n 1, 1) := dall dgX12_mostRight_239 20 rfl
theorem dX12_mostRight_36 : decode cX12_mostRight 36 = .ok (.iaload, 1) := dall dgX12_mostRight_239 21 rfl
theorem dX12_mostRight_37 : decode cX12_mostRight 37 = .ok (.bipush (-9), 2) := dall dgX12_mostRight_239 22 rfl
theorem dX12_mostRight_39 : decode cX12_mostRight 39 = .ok (.if_icmp .eq 36, 3) := dall dgX12_mostRight_239 23 rfl
theorem dX12_mostRight_42 : decode cX12_mostRight 42 = .ok (.aload_n 0, 1) := dall dgX12_mostRight_239 24 rfl
theorem dX12_mostRight_43 : decode cX12_mostRight 43 = .ok (.getfield 27, 3) := dall dgX12_mostRight_239 25 rfl
theorem dX12_mostRight_46 : decode cX12_mostRight 46 = .ok (.iload_n 1, 1) := dall dgX12_mostRight_239 26 rfl
theorem dX12_mostRight_47 : decode cX12_mostRight 47 = .ok (.iaload, 1) := dall dgX12_mostRight_239 27 rfl
theorem dX12_mostRight_48 : decode cX12_mostRight 48 = .ok (.ifCond .le 27, 3) := dall dgX12_mostRight_239 28 rfl
theorem dX12_mostRight_51 : decode cX12_mostRight 51 = .ok (.aload_n 0, 1) := dall dgX12_mostRight_239 29 rfl
theorem dX12_mostRight_52 : decode cX12_mostRight 52 = .ok (.getfield 93, 3) := dall dgX12_mostRight_239 30 rfl
theorem dX12_mostRight_55 : decode cX12_mostRight 55 = .ok (.bipush 9, 2) := dall dgX12_mostRight_239 31 rfl
theorem dX12_mostRight_57 : decode cX12_mostRight 57 = .ok (.aload_n 0, 1) := dall dgX12_mostRight_239 32 rfl
theorem dX12_mostRight_58 : decode cX12_mostRight 58 = .ok (.getfield 27, 3) := dall dgX12_mostRight_239 33 rfl
theorem dX12_mostRight_61 : decode cX12_mostRight 61 = .ok (.iload_n 1, 1) := dall dgX12_mostRight_239 34 rfl
theorem dX12_mostRight_62 : decode cX12_mostRight 62 = .ok (.iaload, 1) := dall dgX12_mostRight_239 35 rfl
theorem dX12_mostRight_63 : decode cX12_mostRight 63 = .ok (.imul, 1) := dall dgX12_mostRight_239 36 rfl
theorem dX12_mostRight_64 : decode cX12_mostRight 64 = .ok (.aload_n 0, 1) := dall dgX12_mostRight_239 37 rfl
theorem dX12_mostRight_65 : decode cX12_mostRight 65 = .ok (.iload_n 1, 1) := dall dgX12_mostRight_239 38 rfl
theorem dX12_mostRight_66 : decode cX12_mostRight 66 = .ok (.invokevirtual 261, 3) := dall dgX12_mostRight_239 39 rfl
theorem dX12_mostRight_69 : decode cX12_mostRight 69 = .ok (.iadd, 1) := dall dgX12_mostRight_239 40 rfl
theorem dX12_mostRight_70 : decode cX12_mostRight 70 = .ok (.dup2, 1) := dall dgX12_mostRight_239 41 rfl
theorem dX12_mostRight_71 : decode cX12_mostRight 71 = .ok (.iaload, 1) := dall dgX12_mostRight_239 42 rfl
theorem dX12_mostRight_72 : decode cX12_mostRight 72 = .ok (.iconst 1, 1) := dall dgX12_mostRight_239 43 rfl
theorem dX12_mostRight_73 : decode cX12_mostRight 73 = .ok (.iadd, 1) := dall dgX12_mostRight_239 44 rfl
theorem dX12_mostRight_74 : decode cX12_mostRight 74 = .ok (.iastore, 1) := dall dgX12_mostRight_239 45 rfl
theorem dX12_mostRight_75 : decode cX12_mostRight 75 = .ok (.iinc 1 1, 3) := dall dgX12_mostRight_239 46 rfl
theorem dX12_mostRight_78 : decode cX12_mostRight 78 = .ok (.goto (-55), 3) := dall dgX12_mostRight_239 47 rfl
theorem dX12_mostRight_81 : decode cX12_mostRight 81 = .ok (.iconst 0, 1) := dall dgX12_mostRight_239 48 rfl
theorem dX12_mostRight_82 : decode cX12_mostRight 82 = .ok (.istore_n 1, 1) := dall dgX12_mostRight_239 49 rfl
def lgX12_mostRight_240 : List (Nat × Instr × Nat) := [(83, .iload_n 1, 1), (84, .sipush 512, 3), (87, .if_icmp .ge 16, 3), (90, .aload_n 0, 1), (91, .getfield 90, 3), (94, .iload_n 1, 1), (95, .iconst 0, 1), (96, .iastore, 1), (97, .iinc 1 1, 3), (100, .goto (-17), 3), (103, .iconst 1, 1), (104, .istore_n 1, 1), (105, .iload_n 1, 1), (106, .bipush 6, 2), (108, .if_icmp .ge 131, 3), (111, .iconst 0, 1), (112, .istore_n 2, 1), (113, .iload_n 2, 1), (114, .sipush 512, 3), (117, .if_icmp .ge 116, 3), (120, .aload_n 0, 1), (121, .getfield 90, 3), (124, .sipush 512, 3), (127, .iload_n 1, 1), (128, .iconst 1, 1), (129, .isub, 1), (130, .imul, 1), (131, .iload_n 2, 1), (132, .iadd, 1), (133, .iaload, 1), (134, .istore_n 3, 1), (135, .iconst 0, 1), (136, .istore 4, 2), (138, .iload 4, 2), (140, .bipush 9, 2), (142, .if_icmp .ge 72, 3), (145, .iload_n 2, 1), (146, .iload 4, 2), (148, .ishr, 1), (149, .iconst 1, 1), (150, .iand, 1), (151, .iconst 1, 1), (152, .if_icmp .ne 40, 3), (155, .aload_n 0, 1), (156, .getfield 90, 3), (159, .sipush 512, 3), (162, .iload_n 1, 1), (163, .iconst 1, 1), (164, .isub, 1), (165, .imul, 1)]
theorem dgX12_mostRight_240 : ∀ q ∈ lgX12_mostRight_240, decode cX12_mostRight q.1 = .ok (q.2.1, q.2.2) := by decide +kernel
theorem dX12_mostRight_83 : decode cX12_mostRight 83 = .ok (.iload_n 1, 1) := dall dgX12_mostRight_240 0 rfl
theorem dX12_mostRight_84 : decode cX12_mostRight 84 = .ok (.sipush 512, 3) := dall dgX12_mostRight_240 1 rfl
theorem dX12_mostRight_87 : decode cX12_mostRight 87 = .ok (.if_icmp .ge 16, 3) := dall dgX12_mostRight_240 2 rfl
theorem dX12_mostRight_90 : decode cX12_mostRight 90 = .ok (.aload_n 0, 1) := dall dgX12_mostRight_240 3 rfl
theorem dX12_mostRight_91 : decode cX12_mostRight 91 = .ok (.getfield 90, 3) := dall dgX12_mostRight_240 4 rfl
theorem dX12_mostRight_94 : decode cX12_mostRight 94 = .ok (.iload_n 1, 1) := dall dgX12_mostRight_240 5 rfl
theorem dX12_mostRight_95 : decode cX12_mostRight 95 = .ok (.iconst 0, 1) := dall dgX12_mostRight_240 6 rfl
theorem dX12_mostRight_96 : decode cX12_mostRight 96 = .ok (.iastore, 1) := dall dgX12_mostRight_240 7 rfl
theorem dX12_mostRight_97 : decode cX12_mostRight 97 = .ok (.iinc 1 1, 3) := dall dgX12_mostRight_240 8 rfl
theorem dX12_mostRight_100 : decode cX12_mostRight 100 = .ok (.goto (-17), 3) := dall dgX12_mostRight_240 9 rfl
theorem dX12_mostRight_103 : decode cX12_mostRight 103 = .ok (.iconst 1, 1) := dall dgX12_mostRight_240 10 rfl
theorem dX12_mostRight_104 : decode cX12_mostRight 104 = .ok (.istore_n 1, 1) := dall dgX12_mostRight_240 11 rfl
theorem dX12_mostRight_105 : decode cX12_mostRight 105 = .ok (.iload_n 1, 1) := dall dgX12_mostRight_240 12 rfl
theorem dX12_mostRight_106 : decode cX12_mostRight 106 = .ok (.bipush 6, 2) := dall dgX12_mostRight_240 13 rfl
theorem dX12_mostRight_108 : decode cX12_mostRight 108 = .ok (.if_icmp .ge 131, 3) := dall dgX12_mostRight_240 14 rfl
theorem dX12_mostRight_111 : decode cX12_mostRight 111 = .ok (.iconst 0, 1) := dall dgX12_mostRight_240 15 rfl
theorem dX12_mostRight_112 : decode cX12_mostRight 112 = .ok (.istore_n 2, 1) := dall dgX12_mostRight_240 16 rfl
theorem dX12_mostRight_113 : decode cX12_mostRight 113 = .ok (.iload_n 2, 1) := dall dgX12_mostRight_240 17 rfl
theorem dX12_mostRight_114 : decode cX12_mostRight 114 = .ok (.sipush 512, 3) := dall dgX12_mostRight_240 18 rfl
theorem dX12_mostRight_117 : decode cX12_mostRight 117 = .ok (.if_icmp .ge 116, 3) := dall dgX12_mostRight_240 19 rfl
theorem dX12_mostRight_120 : decode cX12_mostRight 120 = .ok (.aload_n 0, 1) := dall dgX12_mostRight_240 20 rfl
theorem dX12_mostRight_121 : decode cX12_mostRight 121 = .ok (.getfield 90, 3) := dall dgX12_mostRight_240 21 rfl
theorem dX12_mostRight_124 : decode cX12_mostRight 124 = .ok (.sipush 512, 3) := dall dgX12_mostRight_240 22 rfl
theorem dX12_mostRight_127 : decode cX12_mostRight 127 = .ok (.iload_n 1, 1) := dall dgX12_mostRight_240 23 rfl
theorem dX12_mostRight_128 : decode cX12_mostRight 128 = .ok (.iconst 1, 1) := dall dgX12_mostRight_240 24 rfl
theorem dX12_mostRight_129 : decode cX12_mostRight 129 = .ok (.isub, 1) := dall dgX12_mostRight_240 25 rfl
theorem dX12_mostRight_130 : decode cX12_mostRight 130 = .ok (.imul, 1) := dall dgX12_mostRight_240 26 rfl
theorem dX12_mostRight_131 : decode cX12_mostRight 131 = .ok (.iload_n 2, 1) := dall dgX12_mostRight_240 27 rfl
theorem dX12_mostRight_132 : decode cX12_mostRight 132 = .ok (.iadd, 1) := dall dgX12_mostRight_240 28 rfl
theorem dX12_mostRight_133 : decode cX12_mostRight 133 = .ok (.iaload, 1) := dall dgX12_mostRight_240 29 rfl
theorem dX12_mostRight_134 : decode cX12_mostRight 134 = .ok (.istore_n 3, 1) := dall dgX12_mostRight_240 30 rfl
theorem dX12_mostRight_135 : decode cX12_mostRight 135 = .ok (.iconst 0, 1) := dall dgX12_mostRight_240 31 rfl
theorem dX12_mostRight_136 : decode cX12_mostRight 136 = .ok (.istore 4, 2) := dall dgX12_mostRight_240 32 rfl
theorem dX12_mostRight_138 : decode cX12_mostRight 138 = .ok (.iload 4, 2) := dall dgX12_mostRight_240 33 rfl
theorem dX12_mostRight_140 : decode cX12_mostRight 140 = .ok (.bipush 9, 2) := dall dgX12_mostRight_240 34 rfl
theorem dX12_mostRight_142 : decode cX12_mostRight 142 = .ok (.if_icmp .ge 72, 3) := dall dgX12_mostRight_240 35 rfl
theorem dX12_mostRight_145 : decode cX12_mostRight 145 = .ok (.iload_n 2, 1) := dall dgX12_mostRight_240 36 rfl
theorem dX12_mostRight_146 : decode cX12_mostRight 146 = .ok (.iload 4, 2) := dall dgX12_mostRight_240 37 rfl
theorem dX12_mostRight_148 : decode cX12_mostRight 148 = .ok (.ishr, 1) := dall dgX12_mostRight_240 38 rfl
theorem dX12_mostRight_149 : decode cX12_mostRight 149 = .ok (.iconst 1, 1) := dall dgX12_mostRight_240 39 rfl
theorem dX12_mostRight_150 : decode cX12_mostRight 150 = .ok (.iand, 1) := dall dgX12_mostRight_240 40 rfl
theorem dX12_mostRight_151 : decode cX12_mostRight 151 = .ok (.iconst 1, 1) := dall dgX12_mostRight_240 41 rfl
theorem dX12_mostRight_152 : decode cX12_mostRight 152 = .ok (.if_icmp .ne 40, 3) := dall dgX12_mostRight_240 42 rfl
theorem dX12_mostRight_155 : decode cX12_mostRight 155 = .ok (.aload_n 0, 1) := dall dgX12_mostRight_240 43 rfl
theorem dX12_mostRight_156 : decode cX12_mostRight 156 = .ok (.getfield 90, 3) := dall dgX12_mostRight_240 44 rfl
theorem dX12_mostRight_159 : decode cX12_mostRight 159 = .ok (.sipush 512, 3) := dall dgX12_mostRight_240 45 rfl
theorem dX12_mostRight_162 : decode cX12_mostRight 162 = .ok (.iload_n 1, 1) := dall dgX12_mostRight_240 46 rfl
theorem dX12_mostRight_163 : decode cX12_mostRight 163 = .ok (.iconst 1, 1) := dall dgX12_mostRight_240 47 rfl
theorem dX12_mostRight_164 : decode cX12_mostRight 164 = .ok (.isub, 1) := dall dgX12_mostRight_240 48 rfl
theorem dX12_mostRight_165 : decode cX12_mostRight 165 = .ok (.imul, 1) := dall dgX12_mostRight_240 49 rfl
def lgX12_mostRight_241 : List (Nat × Instr × Nat) := [(166, .iload_n 2, 1), (167, .iconst 1, 1), (168, .iload 4, 2), (170, .ishl, 1), (171, .iconst (-1), 1), (172, .ixor, 1), (173, .iand, 1), (174, .iadd, 1), (175, .iaload, 1), (176, .aload_n 0, 1), (177, .getfield 93, 3), (180, .bipush 9, 2), (182, .iload_n 1, 1), (183, .imul, 1), (184, .iload 4, 2), (186, .iadd, 1), (187, .iaload, 1), (188, .iadd, 1), (189, .goto 4, 3), (192, .iconst 0, 1), (193, .istore 5, 2), (195, .iload 5, 2), (197, .iload_n 3, 1), (198, .if_icmp .le 8, 3), (201, .iload 5, 2), (203, .goto 4, 3), (206, .iload_n 3, 1), (207, .istore_n 3, 1), (208, .iinc 4 1, 3), (211, .goto (-73), 3), (214, .aload_n 0, 1), (215, .getfield 90, 3), (218, .sipush 512, 3), (221, .iload_n 1, 1), (222, .imul, 1), (223, .iload_n 2, 1), (224, .iadd, 1), (225, .iload_n 3, 1), (226, .iastore, 1), (227, .iinc 2 1, 3), (230, .goto (-117), 3), (233, .iinc 1 1, 3), (236, .goto (-131), 3), (239, .aload_n 0, 1), (240, .getfield 90, 3), (243, .sipush 3071, 3), (246, .iaload, 1), (247, .ireturn, 1)]
theorem dgX12_mostRight_241 : ∀ q ∈ lgX12_mostRight_241, decode cX12_mostRight q.1 = .ok (q.2.1, q.2.2) := by decide +kernel
theorem dX12_mostRight_166 : decode cX12_mostRight 166 = .ok (.iload_n 2, 1) := dall dgX12_mostRight_241 0 rfl
theorem dX12_mostRight_167 : decode cX12_mostRight 167 = .ok (.iconst 1, 1) := dall dgX12_mostRight_241 1 rfl
theorem dX12_mostRight_168 : decode cX12_mostRight 168 = .ok (.iload 4, 2) := dall dgX12_mostRight_241 2 rfl
theorem dX12_mostRight_170 : decode cX12_mostRight 170 = .ok (.ishl, 1) := dall dgX12_mostRight_241 3 rfl
theorem dX12_mostRight_171 : decode cX12_mostRight 171 = .ok (.iconst (-1), 1) := dall dgX12_mostRight_241 4 rfl
theorem dX12_mostRight_172 : decode cX12_mostRight 172 = .ok (.ixor, 1) := dall dgX12_mostRight_241 5 rfl
theorem dX12_mostRight_173 : decode cX12_mostRight 173 = .ok (.iand, 1) := dall dgX12_mostRight_241 6 rfl
theorem dX12_mostRight_174 : decode cX12_mostRight 174 = .ok (.iadd, 1) := dall dgX12_mostRight_241 7 rfl
theorem dX12_mostRight_175 : decode cX12_mostRight 175 = .ok (.iaload, 1) := dall dgX12_mostRight_241 8 rfl
theorem dX12_mostRight_176 : decode cX12_mostRight 176 = .ok (.aload_n 0, 1) := dall dgX12_mostRight_241 9 rfl
theorem dX12_mostRight_177 : decode cX12_mostRight 177 = .ok (.getfield 93, 3) := dall dgX12_mostRight_241 10 rfl
theorem dX12_mostRight_180 : decode cX12_mostRight 180 = .ok (.bipush 9, 2) := dall dgX12_mostRight_241 11 rfl
theorem dX12_mostRight_182 : decode cX12_mostRight 182 = .ok (.iload_n 1, 1) := dall dgX12_mostRight_241 12 rfl
theorem dX12_mostRight_183 : decode cX12_mostRight 183 = .ok (.imul, 1) := dall dgX12_mostRight_241 13 rfl
theorem dX12_mostRight_184 : decode cX12_mostRight 184 = .ok (.iload 4, 2) := dall dgX12_mostRight_241 14 rfl
theorem dX12_mostRight_186 : decode cX12_mostRight 186 = .ok (.iadd, 1) := dall dgX12_mostRight_241 15 rfl
theorem dX12_mostRight_187 : decode cX12_mostRight 187 = .ok (.iaload, 1) := dall dgX12_mostRight_241 16 rfl
theorem dX12_mostRight_188 : decode cX12_mostRight 188 = .ok (.iadd, 1) := dall dgX12_mostRight_241 17 rfl
theorem dX12_mostRight_189 : decode cX12_mostRight 189 = .ok (.goto 4, 3) := dall dgX12_mostRight_241 18 rfl
theorem dX12_mostRight_192 : decode cX12_mostRight 192 = .ok (.iconst 0, 1) := dall dgX12_mostRight_241 19 rfl
theorem dX12_mostRight_193 : decode cX12_mostRight 193 = .ok (.istore 5, 2) := dall dgX12_mostRight_241 20 rfl
theorem dX12_mostRight_195 : decode cX12_mostRight 195 = .ok (.iload 5, 2) := dall dgX12_mostRight_241 21 rfl
theorem dX12_mostRight_197 : decode cX12_mostRight 197 = .ok (.iload_n 3, 1) := dall dgX12_mostRight_241 22 rfl
theorem dX12_mostRight_198 : decode cX12_mostRight 198 = .ok (.if_icmp .le 8, 3) := dall dgX12_mostRight_241 23 rfl
theorem dX12_mostRight_201 : decode cX12_mostRight 201 = .ok (.iload 5, 2) := dall dgX12_mostRight_241 24 rfl
theorem dX12_mostRight_203 : decode cX12_mostRight 203 = .ok (.goto 4, 3) := dall dgX12_mostRight_241 25 rfl
theorem dX12_mostRight_206 : decode cX12_mostRight 206 = .ok (.iload_n 3, 1) := dall dgX12_mostRight_241 26 rfl
theorem dX12_mostRight_207 : decode cX12_mostRight 207 = .ok (.istore_n 3, 1) := dall dgX12_mostRight_241 27 rfl
theorem dX12_mostRight_208 : decode cX12_mostRight 208 = .ok (.iinc 4 1, 3) := dall dgX12_mostRight_241 28 rfl
theorem dX12_mostRight_211 : decode cX12_mostRight 211 = .ok (.goto (-73), 3) := dall dgX12_mostRight_241 29 rfl
theorem dX12_mostRight_214 : decode cX12_mostRight 214 = .ok (.aload_n 0, 1) := dall dgX12_mostRight_241 30 rfl
theorem dX12_mostRight_215 : decode cX12_mostRight 215 = .ok (.getfield 90, 3) := dall dgX12_mostRight_241 31 rfl
theorem dX12_mostRight_218 : decode cX12_mostRight 218 = .ok (.sipush 512, 3) := dall dgX12_mostRight_241 32 rfl
theorem dX12_mostRight_221 : decode cX12_mostRight 221 = .ok (.iload_n 1, 1) := dall dgX12_mostRight_241 33 rfl
theorem dX12_mostRight_222 : decode cX12_mostRight 222 = .ok (.imul, 1) := dall dgX12_mostRight_241 34 rfl
theorem dX12_mostRight_223 : decode cX12_mostRight 223 = .ok (.iload_n 2, 1) := dall dgX12_mostRight_241 35 rfl
theorem dX12_mostRight_224 : decode cX12_mostRight 224 = .ok (.iadd, 1) := dall dgX12_mostRight_241 36 rfl
theorem dX12_mostRight_225 : decode cX12_mostRight 225 = .ok (.iload_n 3, 1) := dall dgX12_mostRight_241 37 rfl
theorem dX12_mostRight_226 : decode cX12_mostRight 226 = .ok (.iastore, 1) := dall dgX12_mostRight_241 38 rfl
theorem dX12_mostRight_227 : decode cX12_mostRight 227 = .ok (.iinc 2 1, 3) := dall dgX12_mostRight_241 39 rfl
theorem dX12_mostRight_230 : decode cX12_mostRight 230 = .ok (.goto (-117), 3) := dall dgX12_mostRight_241 40 rfl
theorem dX12_mostRight_233 : decode cX12_mostRight 233 = .ok (.iinc 1 1, 3) := dall dgX12_mostRight_241 41 rfl
theorem dX12_mostRight_236 : decode cX12_mostRight 236 = .ok (.goto (-131), 3) := dall dgX12_mostRight_241 42 rfl
theorem dX12_mostRight_239 : decode cX12_mostRight 239 = .ok (.aload_n 0, 1) := dall dgX12_mostRight_241 43 rfl
theorem dX12_mostRight_240 : decode cX12_mostRight 240 = .ok (.getfield 90, 3) := dall dgX12_mostRight_241 44 rfl
theorem dX12_mostRight_243 : decode cX12_mostRight 243 = .ok (.sipush 3071, 3) := dall dgX12_mostRight_241 45 rfl
theorem dX12_mostRight_246 : decode cX12_mostRight 246 = .ok (.iaload, 1) := dall dgX12_mostRight_241 46 rfl
theorem dX12_mostRight_247 : decode cX12_mostRight 247 = .ok (.ireturn, 1) := dall dgX12_mostRight_241 47 rfl
def lgX12_errors_242 : List (Nat × Instr × Nat) := [(0, .iload_n 1, 1), (1, .iconst 0, 1), (2, .iconst 2, 1), (3, .invokestatic 100, 3), (6, .ifCond .ne 5, 3), (9, .iconst (-1), 1), (10, .ireturn, 1), (11, .aload_n 0, 1), (12, .invokevirtual 203, 3), (15, .iconst 0, 1), (16, .istore_n 2, 1), (17, .iconst 0, 1), (18, .istore_n 3, 1), (19, .iconst 0, 1), (20, .istore 4, 2), (22, .iconst 0, 1), (23, .istore 5, 2), (25, .iload 5, 2), (27, .aload_n 0, 1), (28, .getfield 156, 3), (31, .if_icmp .ge 99, 3), (34, .aload_n 0, 1), (35, .getfield 45, 3), (38, .iload 5, 2), (40, .iaload, 1), (41, .bipush (-9), 2), (43, .if_icmp .eq 7, 3), (46, .iconst 1, 1), (47, .goto 4, 3), (50, .iconst 0, 1), (51, .istore 6, 2), (53, .iload_n 2, 1), (54, .iload 6, 2), (56, .ifCond .ne 17, 3), (59, .aload_n 0, 1), (60, .getfield 27, 3), (63, .iload 5, 2), (65, .iaload, 1), (66, .ifCond .le 7, 3), (69, .iconst 1, 1), (70, .goto 4, 3), (73, .iconst 0, 1), (74, .iadd, 1), (75, .istore_n 2, 1), (76, .iload_n 3, 1), (77, .iload 6, 2), (79, .ifCond .eq 17, 3), (82, .aload_n 0, 1), (83, .getfield 27, 3), (86, .iload 5, 2)]
theorem dgX12_errors_242 : ∀ q ∈ lgX12_errors_242, decode cX12_errors q.1 = .ok (q.2.1, q.2.2) := by decide +kernel
theorem dX12_errors_0 : decode cX12_errors 0 = .ok (.iload_n 1, 1) := dall dgX12_errors_242 0 rfl
theorem dX12_errors_1 : decode cX12_errors 1 = .ok (.iconst 0, 1) := dall dgX12_errors_242 1 rfl
theorem dX12_errors_2 : decode cX12_errors 2 = .ok (.iconst 2, 1) := dall dgX12_errors_242 2 rfl
theorem dX12_errors_3 : decode cX12_errors 3 = .ok (.invokestatic 100, 3) := dall dgX12_errors_242 3 rfl
theorem dX12_errors_6 : decode cX12_errors 6 = .ok (.ifCond .ne 5, 3) := dall dgX12_errors_242 4 rfl
theorem dX12_errors_9 : decode cX12_errors 9 = .ok (.iconst (-1), 1) := dall dgX12_errors_242 5 rfl
theorem dX12_errors_10 : decode cX12_errors 10 = .ok (.ireturn, 1) := dall dgX12_errors_242 6 rfl
theorem dX12_errors_11 : decode cX12_errors 11 = .ok (.aload_n 0, 1) := dall dgX12_errors_242 7 rfl
theorem dX12_errors_12 : decode cX12_errors 12 = .ok (.invokevirtual 203, 3) := dall dgX12_errors_242 8 rfl
theorem dX12_errors_15 : decode cX12_errors 15 = .ok (.iconst 0, 1) := dall dgX12_errors_242 9 rfl
theorem dX12_errors_16 : decode cX12_errors 16 = .ok (.istore_n 2, 1) := dall dgX12_errors_242 10 rfl
theorem dX12_errors_17 : decode cX12_errors 17 = .ok (.iconst 0, 1) := dall dgX12_errors_242 11 rfl
theorem dX12_errors_18 : decode cX12_errors 18 = .ok (.istore_n 3, 1) := dall dgX12_errors_242 12 rfl
theorem dX12_errors_19 : decode cX12_errors 19 = .ok (.iconst 0, 1) := dall dgX12_errors_242 13 rfl
theorem dX12_errors_20 : decode cX12_errors 20 = .ok (.istore 4, 2) := dall dgX12_errors_242 14 rfl
theorem dX12_errors_22 : decode cX12_errors 22 = .ok (.iconst 0, 1) := dall dgX12_errors_242 15 rfl
theorem dX12_errors_23 : decode cX12_errors 23 = .ok (.istore 5, 2) := dall dgX12_errors_242 16 rfl
theorem dX12_errors_25 : decode cX12_errors 25 = .ok (.iload 5, 2) := dall dgX12_errors_242 17 rfl
theorem dX12_errors_27 : decode cX12_errors 27 = .ok (.aload_n 0, 1) := dall dgX12_errors_242 18 rfl
theorem dX12_errors_28 : decode cX12_errors 28 = .ok (.getfield 156, 3) := dall dgX12_errors_242 19 rfl
theorem dX12_errors_31 : decode cX12_errors 31 = .ok (.if_icmp .ge 99, 3) := dall dgX12_errors_242 20 rfl
theorem dX12_errors_34 : decode cX12_errors 34 = .ok (.aload_n 0, 1) := dall dgX12_errors_242 21 rfl
theorem dX12_errors_35 : decode cX12_errors 35 = .ok (.getfield 45, 3) := dall dgX12_errors_242 22 rfl
theorem dX12_errors_38 : decode cX12_errors 38 = .ok (.iload 5, 2) := dall dgX12_errors_242 23 rfl
theorem dX12_errors_40 : decode cX12_errors 40 = .ok (.iaload, 1) := dall dgX12_errors_242 24 rfl
theorem dX12_errors_41 : decode cX12_errors 41 = .ok (.bipush (-9), 2) := dall dgX12_errors_242 25 rfl
theorem dX12_errors_43 : decode cX12_errors 43 = .ok (.if_icmp .eq 7, 3) := dall dgX12_errors_242 26 rfl
theorem dX12_errors_46 : decode cX12_errors 46 = .ok (.iconst 1, 1) := dall dgX12_errors_242 27 rfl
theorem dX12_errors_47 : decode cX12_errors 47 = .ok (.goto 4, 3) := dall dgX12_errors_242 28 rfl
theorem dX12_errors_50 : decode cX12_errors 50 = .ok (.iconst 0, 1) := dall dgX12_errors_242 29 rfl
theorem dX12_errors_51 : decode cX12_errors 51 = .ok (.istore 6, 2) := dall dgX12_errors_242 30 rfl
theorem dX12_errors_53 : decode cX12_errors 53 = .ok (.iload_n 2, 1) := dall dgX12_errors_242 31 rfl
theorem dX12_errors_54 : decode cX12_errors 54 = .ok (.iload 6, 2) := dall dgX12_errors_242 32 rfl
theorem dX12_errors_56 : decode cX12_errors 56 = .ok (.ifCond .ne 17, 3) := dall dgX12_errors_242 33 rfl
theorem dX12_errors_59 : decode cX12_errors 59 = .ok (.aload_n 0, 1) := dall dgX12_errors_242 34 rfl
theorem dX12_errors_60 : decode cX12_errors 60 = .ok (.getfield 27, 3) := dall dgX12_errors_242 35 rfl
theorem dX12_errors_63 : decode cX12_errors 63 = .ok (.iload 5, 2) := dall dgX12_errors_242 36 rfl
theorem dX12_errors_65 : decode cX12_errors 65 = .ok (.iaload, 1) := dall dgX12_errors_242 37 rfl
theorem dX12_errors_66 : decode cX12_errors 66 = .ok (.ifCond .le 7, 3) := dall dgX12_errors_242 38 rfl
theorem dX12_errors_69 : decode cX12_errors 69 = .ok (.iconst 1, 1) := dall dgX12_errors_242 39 rfl
theorem dX12_errors_70 : decode cX12_errors 70 = .ok (.goto 4, 3) := dall dgX12_errors_242 40 rfl
theorem dX12_errors_73 : decode cX12_errors 73 = .ok (.iconst 0, 1) := dall dgX12_errors_242 41 rfl
theorem dX12_errors_74 : decode cX12_errors 74 = .ok (.iadd, 1) := dall dgX12_errors_242 42 rfl
theorem dX12_errors_75 : decode cX12_errors 75 = .ok (.istore_n 2, 1) := dall dgX12_errors_242 43 rfl
theorem dX12_errors_76 : decode cX12_errors 76 = .ok (.iload_n 3, 1) := dall dgX12_errors_242 44 rfl
theorem dX12_errors_77 : decode cX12_errors 77 = .ok (.iload 6, 2) := dall dgX12_errors_242 45 rfl
theorem dX12_errors_79 : decode cX12_errors 79 = .ok (.ifCond .eq 17, 3) := dall dgX12_errors_242 46 rfl
theorem dX12_errors_82 : decode cX12_errors 82 = .ok (.aload_n 0, 1) := dall dgX12_errors_242 47 rfl
theorem dX12_errors_83 : decode cX12_errors 83 = .ok (.getfield 27, 3) := dall dgX12_errors_242 48 rfl
theorem dX12_errors_86 : decode cX12_errors 86 = .ok (.iload 5, 2) := dall dgX12_errors_242 49 rfl
def lgX12_errors_243 : List (Nat × Instr × Nat) := [(88, .iaload, 1), (89, .ifCond .ne 7, 3), (92, .iconst 1, 1), (93, .goto 4, 3), (96, .iconst 0, 1), (97, .iadd, 1), (98, .istore_n 3, 1), (99, .iload 4, 2), (101, .iload 6, 2), (103, .ifCond .eq 17, 3), (106, .aload_n 0, 1), (107, .getfield 27, 3), (110, .iload 5, 2), (112, .iaload, 1), (113, .ifCond .le 7, 3), (116, .iconst 1, 1), (117, .goto 4, 3), (120, .iconst 0, 1), (121, .iadd, 1), (122, .istore 4, 2), (124, .iinc 5 1, 3), (127, .goto (-102), 3), (130, .iload_n 1, 1), (131, .iconst 2, 1), (132, .if_icmp .ge 13, 3), (135, .iload_n 1, 1), (136, .ifCond .ne 7, 3), (139, .iload_n 2, 1), (140, .goto 4, 3), (143, .iload_n 3, 1), (144, .ireturn, 1), (145, .aload_n 0, 1), (146, .invokevirtual 240, 3), (149, .ifCond .eq 13, 3), (152, .iload 4, 2), (154, .aload_n 0, 1), (155, .invokevirtual 267, 3), (158, .isub, 1), (159, .goto 5, 3), (162, .bipush (-2), 2), (164, .ireturn, 1)]
theorem dgX12_errors_243 : ∀ q ∈ lgX12_errors_243, decode cX12_errors q.1 = .ok (q.2.1, q.2.2) := by decide +kernel
theorem dX12_errors_88 : decode cX12_errors 88 = .ok (.iaload, 1) := dall dgX12_errors_243 0 rfl
theorem dX12_errors_89 : decode cX12_errors 89 = .ok (.ifCond .ne 7, 3) := dall dgX12_errors_243 1 rfl
theorem dX12_errors_92 : decode cX12_errors 92 = .ok (.iconst 1, 1) := dall dgX12_errors_243 2 rfl
theorem dX12_errors_93 : decode cX12_errors 93 = .ok (.goto 4, 3) := dall dgX12_errors_243 3 rfl
theorem dX12_errors_96 : decode cX12_errors 96 = .ok (.iconst 0, 1) := dall dgX12_errors_243 4 rfl
theorem dX12_errors_97 : decode cX12_errors 97 = .ok (.iadd, 1) := dall dgX12_errors_243 5 rfl
theorem dX12_errors_98 : decode cX12_errors 98 = .ok (.istore_n 3, 1) := dall dgX12_errors_243 6 rfl
theorem dX12_errors_99 : decode cX12_errors 99 = .ok (.iload 4, 2) := dall dgX12_errors_243 7 rfl
theorem dX12_errors_101 : decode cX12_errors 101 = .ok (.iload 6, 2) := dall dgX12_errors_243 8 rfl
theorem dX12_errors_103 : decode cX12_errors 103 = .ok (.ifCond .eq 17, 3) := dall dgX12_errors_243 9 rfl
theorem dX12_errors_106 : decode cX12_errors 106 = .ok (.aload_n 0, 1) := dall dgX12_errors_243 10 rfl
theorem dX12_errors_107 : decode cX12_errors 107 = .ok (.getfield 27, 3) := dall dgX12_errors_243 11 rfl
theorem dX12_errors_110 : decode cX12_errors 110 = .ok (.iload 5, 2) := dall dgX12_errors_243 12 rfl
theorem dX12_errors_112 : decode cX12_errors 112 = .ok (.iaload, 1) := dall dgX12_errors_243 13 rfl
theorem dX12_errors_113 : decode cX12_errors 113 = .ok (.ifCond .le 7, 3) := dall dgX12_errors_243 14 rfl
theorem dX12_errors_116 : decode cX12_errors 116 = .ok (.iconst 1, 1) := dall dgX12_errors_243 15 rfl
theorem dX12_errors_117 : decode cX12_errors 117 = .ok (.goto 4, 3) := dall dgX12_errors_243 16 rfl
theorem dX12_errors_120 : decode cX12_errors 120 = .ok (.iconst 0, 1) := dall dgX12_errors_243 17 rfl
theorem dX12_errors_121 : decode cX12_errors 121 = .ok (.iadd, 1) := dall dgX12_errors_243 18 rfl
theorem dX12_errors_122 : decode cX12_errors 122 = .ok (.istore 4, 2) := dall dgX12_errors_243 19 rfl
theorem dX12_errors_124 : decode cX12_errors 124 = .ok (.iinc 5 1, 3) := dall dgX12_errors_243 20 rfl
theorem dX12_errors_127 : decode cX12_errors 127 = .ok (.goto (-102), 3) := dall dgX12_errors_243 21 rfl
theorem dX12_errors_130 : decode cX12_errors 130 = .ok (.iload_n 1, 1) := dall dgX12_errors_243 22 rfl
theorem dX12_errors_131 : decode cX12_errors 131 = .ok (.iconst 2, 1) := dall dgX12_errors_243 23 rfl
theorem dX12_errors_132 : decode cX12_errors 132 = .ok (.if_icmp .ge 13, 3) := dall dgX12_errors_243 24 rfl
theorem dX12_errors_135 : decode cX12_errors 135 = .ok (.iload_n 1, 1) := dall dgX12_errors_243 25 rfl
theorem dX12_errors_136 : decode cX12_errors 136 = .ok (.ifCond .ne 7, 3) := dall dgX12_errors_243 26 rfl
theorem dX12_errors_139 : decode cX12_errors 139 = .ok (.iload_n 2, 1) := dall dgX12_errors_243 27 rfl
theorem dX12_errors_140 : decode cX12_errors 140 = .ok (.goto 4, 3) := dall dgX12_errors_243 28 rfl
theorem dX12_errors_143 : decode cX12_errors 143 = .ok (.iload_n 3, 1) := dall dgX12_errors_243 29 rfl
theorem dX12_errors_144 : decode cX12_errors 144 = .ok (.ireturn, 1) := dall dgX12_errors_243 30 rfl
theorem dX12_errors_145 : decode cX12_errors 145 = .ok (.aload_n 0, 1) := dall dgX12_errors_243 31 rfl
theorem dX12_errors_146 : decode cX12_errors 146 = .ok (.invokevirtual 240, 3) := dall dgX12_errors_243 32 rfl
theorem dX12_errors_149 : decode cX12_errors 149 = .ok (.ifCond .eq 13, 3) := dall dgX12_errors_243 33 rfl
theorem dX12_errors_152 : decode cX12_errors 152 = .ok (.iload 4, 2) := dall dgX12_errors_243 34 rfl
theorem dX12_errors_154 : decode cX12_errors 154 = .ok (.aload_n 0, 1) := dall dgX12_errors_243 35 rfl
theorem dX12_errors_155 : decode cX12_errors 155 = .ok (.invokevirtual 267, 3) := dall dgX12_errors_243 36 rfl
theorem dX12_errors_158 : decode cX12_errors 158 = .ok (.isub, 1) := dall dgX12_errors_243 37 rfl
theorem dX12_errors_159 : decode cX12_errors 159 = .ok (.goto 5, 3) := dall dgX12_errors_243 38 rfl
theorem dX12_errors_162 : decode cX12_errors 162 = .ok (.bipush (-2), 2) := dall dgX12_errors_243 39 rfl
theorem dX12_errors_164 : decode cX12_errors 164 = .ok (.ireturn, 1) := dall dgX12_errors_243 40 rfl
def lgX12_weight_244 : List (Nat × Instr × Nat) := [(0, .aload_n 0, 1), (1, .invokevirtual 203, 3), (4, .iload_n 1, 1), (5, .iconst 0, 1), (6, .bipush 7, 2), (8, .invokestatic 100, 3), (11, .ifCond .eq 11, 3), (14, .aload_n 0, 1), (15, .iload_n 2, 1), (16, .invokevirtual 206, 3), (19, .ifCond .ne 5, 3), (22, .iconst (-1), 1), (23, .ireturn, 1), (24, .aload_n 0, 1), (25, .getfield 42, 3), (28, .iload_n 2, 1), (29, .iaload, 1), (30, .istore_n 3, 1), (31, .iload_n 3, 1), (32, .aload_n 0, 1), (33, .getfield 48, 3), (36, .iconst 4, 1), (37, .iload_n 2, 1), (38, .imul, 1), (39, .iaload, 1), (40, .iadd, 1), (41, .istore 4, 2), (43, .iload 4, 2), (45, .aload_n 0, 1), (46, .getfield 51, 3), (49, .iload_n 2, 1), (50, .iaload, 1), (51, .iadd, 1), (52, .istore 5, 2), (54, .iload_n 1, 1), (55, .tableswitch 169 0 6 #[41, 53, 68, 83, 102, 129, 146], 41), (96, .aload_n 0, 1), (97, .dup, 1), (98, .getfield 270, 3), (101, .lconst 1, 1), (102, .ladd, 1), (103, .putfield 270, 3), (106, .iload_n 3, 1), (107, .ireturn, 1), (108, .aload_n 0, 1), (109, .dup, 1), (110, .getfield 270, 3), (113, .ldc2_w 274, 3), (116, .ladd, 1), (117, .putfield 270, 3)]
theorem dgX12_weight_244 : ∀ q ∈ lgX12_weight_244, decode cX12_weight q.1 = .ok (q.2.1, q.2.2) := by decide +kernel
theorem dX12_weight_0 : decode cX12_weight 0 = .ok (.aload_n 0, 1) := dall dgX12_weight_244 0 rfl
theorem dX12_weight_1 : decode cX12_weight 1 = .ok (.invokevirtual 203, 3) := dall dgX12_weight_244 1 rfl
theorem dX12_weight_4 : decode cX12_weight 4 = .ok (.iload_n 1, 1) := dall dgX12_weight_244 2 rfl
theorem dX12_weight_5 : decode cX12_weight 5 = .ok (.iconst 0, 1) := dall dgX12_weight_244 3 rfl
theorem dX12_weight_6 : decode cX12_weight 6 = .ok (.bipush 7, 2) := dall dgX12_weight_244 4 rfl
theorem dX12_weight_8 : decode cX12_weight 8 = .ok (.invokestatic 100, 3) := dall dgX12_weight_244 5 rfl
theorem dX12_weight_11 : decode cX12_weight 11 = .ok (.ifCond .eq 11, 3) := dall dgX12_weight_244 6 rfl
theorem dX12_weight_14 : decode cX12_weight 14 = .ok (.aload_n 0, 1) := dall dgX12_weight_244 7 rfl
theorem dX12_weight_15 : decode cX12_weight 15 = .ok (.iload_n 2, 1) := dall dgX12_weight_244 8 rfl
theorem dX12_weight_16 : decode cX12_weight 16 = .ok (.invokevirtual 206, 3) := dall dgX12_weight_244 9 rfl
theorem dX12_weight_19 : decode cX12_weight 19 = .ok (.ifCond .ne 5, 3) := dall dgX12_weight_244 10 rfl
theorem dX12_weight_22 : decode cX12_weight 22 = .ok (.iconst (-1), 1) := dall dgX12_weight_244 11 rfl
theorem dX12_weight_23 : decode cX12_weight 23 = .ok (.ireturn, 1) := dall dgX12_weight_244 12 rfl
theorem dX12_weight_24 : decode cX12_weight 24 = .ok (.aload_n 0, 1) := dall dgX12_weight_244 13 rfl
theorem dX12_weight_25 : decode cX12_weight 25 = .ok (.getfield 42, 3) := dall dgX12_weight_244 14 rfl
theorem dX12_weight_28 : decode cX12_weight 28 = .ok (.iload_n 2, 1) := dall dgX12_weight_244 15 rfl
theorem dX12_weight_29 : decode cX12_weight 29 = .ok (.iaload, 1) := dall dgX12_weight_244 16 rfl
theorem dX12_weight_30 : decode cX12_weight 30 = .ok (.istore_n 3, 1) := dall dgX12_weight_244 17 rfl
theorem dX12_weight_31 : decode cX12_weight 31 = .ok (.iload_n 3, 1) := dall dgX12_weight_244 18 rfl
theorem dX12_weight_32 : decode cX12_weight 32 = .ok (.aload_n 0, 1) := dall dgX12_weight_244 19 rfl
theorem dX12_weight_33 : decode cX12_weight 33 = .ok (.getfield 48, 3) := dall dgX12_weight_244 20 rfl
theorem dX12_weight_36 : decode cX12_weight 36 = .ok (.iconst 4, 1) := dall dgX12_weight_244 21 rfl
theorem dX12_weight_37 : decode cX12_weight 37 = .ok (.iload_n 2, 1) := dall dgX12_weight_244 22 rfl
theorem dX12_weight_38 : decode cX12_weight 38 = .ok (.imul, 1) := dall dgX12_weight_244 23 rfl
theorem dX12_weight_39 : decode cX12_weight 39 = .ok (.iaload, 1) := dall dgX12_weight_244 24 rfl
theorem dX12_weight_40 : decode cX12_weight 40 = .ok (.iadd, 1) := dall dgX12_weight_244 25 rfl
theorem dX12_weight_41 : decode cX12_weight 41 = .ok (.istore 4, 2) := dall dgX12_weight_244 26 rfl
theorem dX12_weight_43 : decode cX12_weight 43 = .ok (.iload 4, 2) := dall dgX12_weight_244 27 rfl
theorem dX12_weight_45 : decode cX12_weight 45 = .ok (.aload_n 0, 1) := dall dgX12_weight_244 28 rfl
theorem dX12_weight_46 : decode cX12_weight 46 = .ok (.getfield 51, 3) := dall dgX12_weight_244 29 rfl
theorem dX12_weight_49 : decode cX12_weight 49 = .ok (.iload_n 2, 1) := dall dgX12_weight_244 30 rfl
theorem dX12_weight_50 : decode cX12_weight 50 = .ok (.iaload, 1) := dall dgX12_weight_244 31 rfl
theorem dX12_weight_51 : decode cX12_weight 51 = .ok (.iadd, 1) := dall dgX12_weight_244 32 rfl
theorem dX12_weight_52 : decode cX12_weight 52 = .ok (.istore 5, 2) := dall dgX12_weight_244 33 rfl
theorem dX12_weight_54 : decode cX12_weight 54 = .ok (.iload_n 1, 1) := dall dgX12_weight_244 34 rfl
theorem dX12_weight_55 : decode cX12_weight 55 = .ok (.tableswitch 169 0 6 #[41, 53, 68, 83, 102, 129, 146], 41) := dall dgX12_weight_244 35 rfl
theorem dX12_weight_96 : decode cX12_weight 96 = .ok (.aload_n 0, 1) := dall dgX12_weight_244 36 rfl
theorem dX12_weight_97 : decode cX12_weight 97 = .ok (.dup, 1) := dall dgX12_weight_244 37 rfl
theorem dX12_weight_98 : decode cX12_weight 98 = .ok (.getfield 270, 3) := dall dgX12_weight_244 38 rfl
theorem dX12_weight_101 : decode cX12_weight 101 = .ok (.lconst 1, 1) := dall dgX12_weight_244 39 rfl
theorem dX12_weight_102 : decode cX12_weight 102 = .ok (.ladd, 1) := dall dgX12_weight_244 40 rfl
theorem dX12_weight_103 : decode cX12_weight 103 = .ok (.putfield 270, 3) := dall dgX12_weight_244 41 rfl
theorem dX12_weight_106 : decode cX12_weight 106 = .ok (.iload_n 3, 1) := dall dgX12_weight_244 42 rfl
theorem dX12_weight_107 : decode cX12_weight 107 = .ok (.ireturn, 1) := dall dgX12_weight_244 43 rfl
theorem dX12_weight_108 : decode cX12_weight 108 = .ok (.aload_n 0, 1) := dall dgX12_weight_244 44 rfl
theorem dX12_weight_109 : decode cX12_weight 109 = .ok (.dup, 1) := dall dgX12_weight_244 45 rfl
theorem dX12_weight_110 : decode cX12_weight 110 = .ok (.getfield 270, 3) := dall dgX12_weight_244 46 rfl
theorem dX12_weight_113 : decode cX12_weight 113 = .ok (.ldc2_w 274, 3) := dall dgX12_weight_244 47 rfl
theorem dX12_weight_116 : decode cX12_weight 116 = .ok (.ladd, 1) := dall dgX12_weight_244 48 rfl
theorem dX12_weight_117 : decode cX12_weight 117 = .ok (.putfield 270, 3) := dall dgX12_weight_244 49 rfl
def lgX12_weight_245 : List (Nat × Instr × Nat) := [(120, .iload 4, 2), (122, .ireturn, 1), (123, .aload_n 0, 1), (124, .dup, 1), (125, .getfield 270, 3), (128, .ldc2_w 276, 3), (131, .ladd, 1), (132, .putfield 270, 3), (135, .iload 5, 2), (137, .ireturn, 1), (138, .aload_n 0, 1), (139, .dup, 1), (140, .getfield 270, 3), (143, .ldc2_w 278, 3), (146, .ladd, 1), (147, .putfield 270, 3), (150, .iload 5, 2), (152, .iconst 1, 1), (153, .iadd, 1), (154, .iconst 2, 1), (155, .idiv, 1), (156, .ireturn, 1), (157, .aload_n 0, 1), (158, .dup, 1), (159, .getfield 270, 3), (162, .ldc2_w 280, 3), (165, .ladd, 1), (166, .putfield 270, 3), (169, .iload 5, 2), (171, .iconst 3, 1), (172, .if_icmp .ge 7, 3), (175, .iconst 0, 1), (176, .goto 7, 3), (179, .iload 5, 2), (181, .iconst 3, 1), (182, .isub, 1), (183, .ireturn, 1), (184, .aload_n 0, 1), (185, .dup, 1), (186, .getfield 270, 3), (189, .ldc2_w 282, 3), (192, .ladd, 1), (193, .putfield 270, 3), (196, .iload 4, 2), (198, .iconst 3, 1), (199, .idiv, 1), (200, .ireturn, 1), (201, .aload_n 0, 1), (202, .dup, 1), (203, .getfield 270, 3)]
theorem dgX12_weight_245 : ∀ q ∈ lgX12_weight_245, decode cX12_weight q.1 = .ok (q.2.1, q.2.2) := by decide +kernel
theorem dX12_weight_120 : decode cX12_weight 120 = .ok (.iload 4, 2) := dall dgX12_weight_245 0 rfl
theorem dX12_weight_122 : decode cX12_weight 122 = .ok (.ireturn, 1) := dall dgX12_weight_245 1 rfl
theorem dX12_weight_123 : decode cX12_weight 123 = .ok (.aload_n 0, 1) := dall dgX12_weight_245 2 rfl
theorem dX12_weight_124 : decode cX12_weight 124 = .ok (.dup, 1) := dall dgX12_weight_245 3 rfl
theorem dX12_weight_125 : decode cX12_weight 125 = .ok (.getfield 270, 3) := dall dgX12_weight_245 4 rfl
theorem dX12_weight_128 : decode cX12_weight 128 = .ok (.ldc2_w 276, 3) := dall dgX12_weight_245 5 rfl
theorem dX12_weight_131 : decode cX12_weight 131 = .ok (.ladd, 1) := dall dgX12_weight_245 6 rfl
theorem dX12_weight_132 : decode cX12_weight 132 = .ok (.putfield 270, 3) := dall dgX12_weight_245 7 rfl
theorem dX12_weight_135 : decode cX12_weight 135 = .ok (.iload 5, 2) := dall dgX12_weight_245 8 rfl
theorem dX12_weight_137 : decode cX12_weight 137 = .ok (.ireturn, 1) := dall dgX12_weight_245 9 rfl
theorem dX12_weight_138 : decode cX12_weight 138 = .ok (.aload_n 0, 1) := dall dgX12_weight_245 10 rfl
theorem dX12_weight_139 : decode cX12_weight 139 = .ok (.dup, 1) := dall dgX12_weight_245 11 rfl
theorem dX12_weight_140 : decode cX12_weight 140 = .ok (.getfield 270, 3) := dall dgX12_weight_245 12 rfl
theorem dX12_weight_143 : decode cX12_weight 143 = .ok (.ldc2_w 278, 3) := dall dgX12_weight_245 13 rfl
theorem dX12_weight_146 : decode cX12_weight 146 = .ok (.ladd, 1) := dall dgX12_weight_245 14 rfl
theorem dX12_weight_147 : decode cX12_weight 147 = .ok (.putfield 270, 3) := dall dgX12_weight_245 15 rfl
theorem dX12_weight_150 : decode cX12_weight 150 = .ok (.iload 5, 2) := dall dgX12_weight_245 16 rfl
theorem dX12_weight_152 : decode cX12_weight 152 = .ok (.iconst 1, 1) := dall dgX12_weight_245 17 rfl
theorem dX12_weight_153 : decode cX12_weight 153 = .ok (.iadd, 1) := dall dgX12_weight_245 18 rfl
theorem dX12_weight_154 : decode cX12_weight 154 = .ok (.iconst 2, 1) := dall dgX12_weight_245 19 rfl
theorem dX12_weight_155 : decode cX12_weight 155 = .ok (.idiv, 1) := dall dgX12_weight_245 20 rfl
theorem dX12_weight_156 : decode cX12_weight 156 = .ok (.ireturn, 1) := dall dgX12_weight_245 21 rfl
theorem dX12_weight_157 : decode cX12_weight 157 = .ok (.aload_n 0, 1) := dall dgX12_weight_245 22 rfl
theorem dX12_weight_158 : decode cX12_weight 158 = .ok (.dup, 1) := dall dgX12_weight_245 23 rfl
theorem dX12_weight_159 : decode cX12_weight 159 = .ok (.getfield 270, 3) := dall dgX12_weight_245 24 rfl
theorem dX12_weight_162 : decode cX12_weight 162 = .ok (.ldc2_w 280, 3) := dall dgX12_weight_245 25 rfl
theorem dX12_weight_165 : decode cX12_weight 165 = .ok (.ladd, 1) := dall dgX12_weight_245 26 rfl
theorem dX12_weight_166 : decode cX12_weight 166 = .ok (.putfield 270, 3) := dall dgX12_weight_245 27 rfl
theorem dX12_weight_169 : decode cX12_weight 169 = .ok (.iload 5, 2) := dall dgX12_weight_245 28 rfl
theorem dX12_weight_171 : decode cX12_weight 171 = .ok (.iconst 3, 1) := dall dgX12_weight_245 29 rfl
theorem dX12_weight_172 : decode cX12_weight 172 = .ok (.if_icmp .ge 7, 3) := dall dgX12_weight_245 30 rfl
theorem dX12_weight_175 : decode cX12_weight 175 = .ok (.iconst 0, 1) := dall dgX12_weight_245 31 rfl
theorem dX12_weight_176 : decode cX12_weight 176 = .ok (.goto 7, 3) := dall dgX12_weight_245 32 rfl
theorem dX12_weight_179 : decode cX12_weight 179 = .ok (.iload 5, 2) := dall dgX12_weight_245 33 rfl
theorem dX12_weight_181 : decode cX12_weight 181 = .ok (.iconst 3, 1) := dall dgX12_weight_245 34 rfl
theorem dX12_weight_182 : decode cX12_weight 182 = .ok (.isub, 1) := dall dgX12_weight_245 35 rfl
theorem dX12_weight_183 : decode cX12_weight 183 = .ok (.ireturn, 1) := dall dgX12_weight_245 36 rfl
theorem dX12_weight_184 : decode cX12_weight 184 = .ok (.aload_n 0, 1) := dall dgX12_weight_245 37 rfl
theorem dX12_weight_185 : decode cX12_weight 185 = .ok (.dup, 1) := dall dgX12_weight_245 38 rfl
theorem dX12_weight_186 : decode cX12_weight 186 = .ok (.getfield 270, 3) := dall dgX12_weight_245 39 rfl
theorem dX12_weight_189 : decode cX12_weight 189 = .ok (.ldc2_w 282, 3) := dall dgX12_weight_245 40 rfl
theorem dX12_weight_192 : decode cX12_weight 192 = .ok (.ladd, 1) := dall dgX12_weight_245 41 rfl
theorem dX12_weight_193 : decode cX12_weight 193 = .ok (.putfield 270, 3) := dall dgX12_weight_245 42 rfl
theorem dX12_weight_196 : decode cX12_weight 196 = .ok (.iload 4, 2) := dall dgX12_weight_245 43 rfl
theorem dX12_weight_198 : decode cX12_weight 198 = .ok (.iconst 3, 1) := dall dgX12_weight_245 44 rfl
theorem dX12_weight_199 : decode cX12_weight 199 = .ok (.idiv, 1) := dall dgX12_weight_245 45 rfl
theorem dX12_weight_200 : decode cX12_weight 200 = .ok (.ireturn, 1) := dall dgX12_weight_245 46 rfl
theorem dX12_weight_201 : decode cX12_weight 201 = .ok (.aload_n 0, 1) := dall dgX12_weight_245 47 rfl
theorem dX12_weight_202 : decode cX12_weight 202 = .ok (.dup, 1) := dall dgX12_weight_245 48 rfl
theorem dX12_weight_203 : decode cX12_weight 203 = .ok (.getfield 270, 3) := dall dgX12_weight_245 49 rfl
def lgX12_weight_246 : List (Nat × Instr × Nat) := [(206, .ldc2_w 284, 3), (209, .ladd, 1), (210, .putfield 270, 3), (213, .iload 4, 2), (215, .bipush 7, 2), (217, .aload_n 0, 1), (218, .getfield 252, 3), (221, .imul, 1), (222, .iadd, 1), (223, .ireturn, 1), (224, .aload_n 0, 1), (225, .dup, 1), (226, .getfield 270, 3), (229, .ldc2_w 286, 3), (232, .ladd, 1), (233, .putfield 270, 3), (236, .iload_n 3, 1), (237, .iload_n 3, 1), (238, .imul, 1), (239, .bipush 89, 2), (241, .irem, 1), (242, .ireturn, 1)]
theorem dgX12_weight_246 : ∀ q ∈ lgX12_weight_246, decode cX12_weight q.1 = .ok (q.2.1, q.2.2) := by decide +kernel
theorem dX12_weight_206 : decode cX12_weight 206 = .ok (.ldc2_w 284, 3) := dall dgX12_weight_246 0 rfl
theorem dX12_weight_209 : decode cX12_weight 209 = .ok (.ladd, 1) := dall dgX12_weight_246 1 rfl
theorem dX12_weight_210 : decode cX12_weight 210 = .ok (.putfield 270, 3) := dall dgX12_weight_246 2 rfl
theorem dX12_weight_213 : decode cX12_weight 213 = .ok (.iload 4, 2) := dall dgX12_weight_246 3 rfl
theorem dX12_weight_215 : decode cX12_weight 215 = .ok (.bipush 7, 2) := dall dgX12_weight_246 4 rfl
theorem dX12_weight_217 : decode cX12_weight 217 = .ok (.aload_n 0, 1) := dall dgX12_weight_246 5 rfl
theorem dX12_weight_218 : decode cX12_weight 218 = .ok (.getfield 252, 3) := dall dgX12_weight_246 6 rfl
theorem dX12_weight_221 : decode cX12_weight 221 = .ok (.imul, 1) := dall dgX12_weight_246 7 rfl
theorem dX12_weight_222 : decode cX12_weight 222 = .ok (.iadd, 1) := dall dgX12_weight_246 8 rfl
theorem dX12_weight_223 : decode cX12_weight 223 = .ok (.ireturn, 1) := dall dgX12_weight_246 9 rfl
theorem dX12_weight_224 : decode cX12_weight 224 = .ok (.aload_n 0, 1) := dall dgX12_weight_246 10 rfl
theorem dX12_weight_225 : decode cX12_weight 225 = .ok (.dup, 1) := dall dgX12_weight_246 11 rfl
theorem dX12_weight_226 : decode cX12_weight 226 = .ok (.getfield 270, 3) := dall dgX12_weight_246 12 rfl
theorem dX12_weight_229 : decode cX12_weight 229 = .ok (.ldc2_w 286, 3) := dall dgX12_weight_246 13 rfl
theorem dX12_weight_232 : decode cX12_weight 232 = .ok (.ladd, 1) := dall dgX12_weight_246 14 rfl
theorem dX12_weight_233 : decode cX12_weight 233 = .ok (.putfield 270, 3) := dall dgX12_weight_246 15 rfl
theorem dX12_weight_236 : decode cX12_weight 236 = .ok (.iload_n 3, 1) := dall dgX12_weight_246 16 rfl
theorem dX12_weight_237 : decode cX12_weight 237 = .ok (.iload_n 3, 1) := dall dgX12_weight_246 17 rfl
theorem dX12_weight_238 : decode cX12_weight 238 = .ok (.imul, 1) := dall dgX12_weight_246 18 rfl
theorem dX12_weight_239 : decode cX12_weight 239 = .ok (.bipush 89, 2) := dall dgX12_weight_246 19 rfl
theorem dX12_weight_241 : decode cX12_weight 241 = .ok (.irem, 1) := dall dgX12_weight_246 20 rfl
theorem dX12_weight_242 : decode cX12_weight 242 = .ok (.ireturn, 1) := dall dgX12_weight_246 21 rfl
def lgX12_count_247 : List (Nat × Instr × Nat) := [(0, .iconst 0, 1), (1, .istore_n 2, 1), (2, .iload_n 1, 1), (3, .tableswitch 127 0 5 #[37, 42, 77, 112, 117, 122], 37), (40, .aload_n 0, 1), (41, .getfield 156, 3), (44, .ireturn, 1), (45, .iconst 0, 1), (46, .istore_n 3, 1), (47, .iload_n 3, 1), (48, .aload_n 0, 1), (49, .getfield 156, 3), (52, .if_icmp .ge 26, 3), (55, .iload_n 2, 1), (56, .aload_n 0, 1), (57, .getfield 20, 3), (60, .iload_n 3, 1), (61, .baload, 1), (62, .ifCond .eq 7, 3), (65, .iconst 1, 1), (66, .goto 4, 3), (69, .iconst 0, 1), (70, .iadd, 1), (71, .istore_n 2, 1), (72, .iinc 3 1, 3), (75, .goto (-28), 3), (78, .iload_n 2, 1), (79, .ireturn, 1), (80, .iconst 0, 1), (81, .istore_n 3, 1), (82, .iload_n 3, 1), (83, .aload_n 0, 1), (84, .getfield 156, 3), (87, .if_icmp .ge 26, 3), (90, .iload_n 2, 1), (91, .aload_n 0, 1), (92, .getfield 24, 3), (95, .iload_n 3, 1), (96, .baload, 1), (97, .ifCond .eq 7, 3), (100, .iconst 1, 1), (101, .goto 4, 3), (104, .iconst 0, 1), (105, .iadd, 1), (106, .istore_n 2, 1), (107, .iinc 3 1, 3), (110, .goto (-28), 3), (113, .iload_n 2, 1), (114, .ireturn, 1), (115, .aload_n 0, 1)]
theorem dgX12_count_247 : ∀ q ∈ lgX12_count_247, decode cX12_count q.1 = .ok (q.2.1, q.2.2) := by decide +kernel
theorem dX12_count_0 : decode cX12_count 0 = .ok (.iconst 0, 1) := dall dgX12_count_247 0 rfl
theorem dX12_count_1 : decode cX12_count 1 = .ok (.istore_n 2, 1) := dall dgX12_count_247 1 rfl
theorem dX12_count_2 : decode cX12_count 2 = .ok (.iload_n 1, 1) := dall dgX12_count_247 2 rfl
theorem dX12_count_3 : decode cX12_count 3 = .ok (.tableswitch 127 0 5 #[37, 42, 77, 112, 117, 122], 37) := dall dgX12_count_247 3 rfl
theorem dX12_count_40 : decode cX12_count 40 = .ok (.aload_n 0, 1) := dall dgX12_count_247 4 rfl
theorem dX12_count_41 : decode cX12_count 41 = .ok (.getfield 156, 3) := dall dgX12_count_247 5 rfl
theorem dX12_count_44 : decode cX12_count 44 = .ok (.ireturn, 1) := dall dgX12_count_247 6 rfl
theorem dX12_count_45 : decode cX12_count 45 = .ok (.iconst 0, 1) := dall dgX12_count_247 7 rfl
theorem dX12_count_46 : decode cX12_count 46 = .ok (.istore_n 3, 1) := dall dgX12_count_247 8 rfl
theorem dX12_count_47 : decode cX12_count 47 = .ok (.iload_n 3, 1) := dall dgX12_count_247 9 rfl
theorem dX12_count_48 : decode cX12_count 48 = .ok (.aload_n 0, 1) := dall dgX12_count_247 10 rfl
theorem dX12_count_49 : decode cX12_count 49 = .ok (.getfield 156, 3) := dall dgX12_count_247 11 rfl
theorem dX12_count_52 : decode cX12_count 52 = .ok (.if_icmp .ge 26, 3) := dall dgX12_count_247 12 rfl
theorem dX12_count_55 : decode cX12_count 55 = .ok (.iload_n 2, 1) := dall dgX12_count_247 13 rfl
theorem dX12_count_56 : decode cX12_count 56 = .ok (.aload_n 0, 1) := dall dgX12_count_247 14 rfl
theorem dX12_count_57 : decode cX12_count 57 = .ok (.getfield 20, 3) := dall dgX12_count_247 15 rfl
theorem dX12_count_60 : decode cX12_count 60 = .ok (.iload_n 3, 1) := dall dgX12_count_247 16 rfl
theorem dX12_count_61 : decode cX12_count 61 = .ok (.baload, 1) := dall dgX12_count_247 17 rfl
theorem dX12_count_62 : decode cX12_count 62 = .ok (.ifCond .eq 7, 3) := dall dgX12_count_247 18 rfl
theorem dX12_count_65 : decode cX12_count 65 = .ok (.iconst 1, 1) := dall dgX12_count_247 19 rfl
theorem dX12_count_66 : decode cX12_count 66 = .ok (.goto 4, 3) := dall dgX12_count_247 20 rfl
theorem dX12_count_69 : decode cX12_count 69 = .ok (.iconst 0, 1) := dall dgX12_count_247 21 rfl
theorem dX12_count_70 : decode cX12_count 70 = .ok (.iadd, 1) := dall dgX12_count_247 22 rfl
theorem dX12_count_71 : decode cX12_count 71 = .ok (.istore_n 2, 1) := dall dgX12_count_247 23 rfl
theorem dX12_count_72 : decode cX12_count 72 = .ok (.iinc 3 1, 3) := dall dgX12_count_247 24 rfl
theorem dX12_count_75 : decode cX12_count 75 = .ok (.goto (-28), 3) := dall dgX12_count_247 25 rfl
theorem dX12_count_78 : decode cX12_count 78 = .ok (.iload_n 2, 1) := dall dgX12_count_247 26 rfl
theorem dX12_count_79 : decode cX12_count 79 = .ok (.ireturn, 1) := dall dgX12_count_247 27 rfl
theorem dX12_count_80 : decode cX12_count 80 = .ok (.iconst 0, 1) := dall dgX12_count_247 28 rfl
theorem dX12_count_81 : decode cX12_count 81 = .ok (.istore_n 3, 1) := dall dgX12_count_247 29 rfl
theorem dX12_count_82 : decode cX12_count 82 = .ok (.iload_n 3, 1) := dall dgX12_count_247 30 rfl
theorem dX12_count_83 : decode cX12_count 83 = .ok (.aload_n 0, 1) := dall dgX12_count_247 31 rfl
theorem dX12_count_84 : decode cX12_count 84 = .ok (.getfield 156, 3) := dall dgX12_count_247 32 rfl
theorem dX12_count_87 : decode cX12_count 87 = .ok (.if_icmp .ge 26, 3) := dall dgX12_count_247 33 rfl
theorem dX12_count_90 : decode cX12_count 90 = .ok (.iload_n 2, 1) := dall dgX12_count_247 34 rfl
theorem dX12_count_91 : decode cX12_count 91 = .ok (.aload_n 0, 1) := dall dgX12_count_247 35 rfl
theorem dX12_count_92 : decode cX12_count 92 = .ok (.getfield 24, 3) := dall dgX12_count_247 36 rfl
theorem dX12_count_95 : decode cX12_count 95 = .ok (.iload_n 3, 1) := dall dgX12_count_247 37 rfl
theorem dX12_count_96 : decode cX12_count 96 = .ok (.baload, 1) := dall dgX12_count_247 38 rfl
theorem dX12_count_97 : decode cX12_count 97 = .ok (.ifCond .eq 7, 3) := dall dgX12_count_247 39 rfl
theorem dX12_count_100 : decode cX12_count 100 = .ok (.iconst 1, 1) := dall dgX12_count_247 40 rfl
theorem dX12_count_101 : decode cX12_count 101 = .ok (.goto 4, 3) := dall dgX12_count_247 41 rfl
theorem dX12_count_104 : decode cX12_count 104 = .ok (.iconst 0, 1) := dall dgX12_count_247 42 rfl
theorem dX12_count_105 : decode cX12_count 105 = .ok (.iadd, 1) := dall dgX12_count_247 43 rfl
theorem dX12_count_106 : decode cX12_count 106 = .ok (.istore_n 2, 1) := dall dgX12_count_247 44 rfl
theorem dX12_count_107 : decode cX12_count 107 = .ok (.iinc 3 1, 3) := dall dgX12_count_247 45 rfl
theorem dX12_count_110 : decode cX12_count 110 = .ok (.goto (-28), 3) := dall dgX12_count_247 46 rfl
theorem dX12_count_113 : decode cX12_count 113 = .ok (.iload_n 2, 1) := dall dgX12_count_247 47 rfl
theorem dX12_count_114 : decode cX12_count 114 = .ok (.ireturn, 1) := dall dgX12_count_247 48 rfl
theorem dX12_count_115 : decode cX12_count 115 = .ok (.aload_n 0, 1) := dall dgX12_count_247 49 rfl
def lgX12_count_248 : List (Nat × Instr × Nat) := [(116, .getfield 252, 3), (119, .ireturn, 1), (120, .aload_n 0, 1), (121, .getfield 171, 3), (124, .ireturn, 1), (125, .aload_n 0, 1), (126, .getfield 104, 3), (129, .ireturn, 1), (130, .iconst (-1), 1), (131, .ireturn, 1)]
theorem dgX12_count_248 : ∀ q ∈ lgX12_count_248, decode cX12_count q.1 = .ok (q.2.1, q.2.2) := by decide +kernel
theorem dX12_count_116 : decode cX12_count 116 = .ok (.getfield 252, 3) := dall dgX12_count_248 0 rfl
theorem dX12_count_119 : decode cX12_count 119 = .ok (.ireturn, 1) := dall dgX12_count_248 1 rfl
theorem dX12_count_120 : decode cX12_count 120 = .ok (.aload_n 0, 1) := dall dgX12_count_248 2 rfl
theorem dX12_count_121 : decode cX12_count 121 = .ok (.getfield 171, 3) := dall dgX12_count_248 3 rfl
theorem dX12_count_124 : decode cX12_count 124 = .ok (.ireturn, 1) := dall dgX12_count_248 4 rfl
theorem dX12_count_125 : decode cX12_count 125 = .ok (.aload_n 0, 1) := dall dgX12_count_248 5 rfl
theorem dX12_count_126 : decode cX12_count 126 = .ok (.getfield 104, 3) := dall dgX12_count_248 6 rfl
theorem dX12_count_129 : decode cX12_count 129 = .ok (.ireturn, 1) := dall dgX12_count_248 7 rfl
theorem dX12_count_130 : decode cX12_count 130 = .ok (.iconst (-1), 1) := dall dgX12_count_248 8 rfl
theorem dX12_count_131 : decode cX12_count 131 = .ok (.ireturn, 1) := dall dgX12_count_248 9 rfl
def lgX12_trace_249 : List (Nat × Instr × Nat) := [(0, .aload_n 0, 1), (1, .getfield 270, 3), (4, .lreturn, 1)]
theorem dgX12_trace_249 : ∀ q ∈ lgX12_trace_249, decode cX12_trace q.1 = .ok (q.2.1, q.2.2) := by decide +kernel
theorem dX12_trace_0 : decode cX12_trace 0 = .ok (.aload_n 0, 1) := dall dgX12_trace_249 0 rfl
theorem dX12_trace_1 : decode cX12_trace 1 = .ok (.getfield 270, 3) := dall dgX12_trace_249 1 rfl
theorem dX12_trace_4 : decode cX12_trace 4 = .ok (.lreturn, 1) := dall dgX12_trace_249 2 rfl
def lgJ6_bitCount_0f7a4_250 : List (Nat × Instr × Nat) := [(0, .iload_n 0, 1), (1, .iload_n 0, 1), (2, .iconst 1, 1), (3, .iushr, 1), (4, .ldc_w 265, 3), (7, .iand, 1), (8, .isub, 1), (9, .istore_n 0, 1), (10, .iload_n 0, 1), (11, .ldc_w 266, 3), (14, .iand, 1), (15, .iload_n 0, 1), (16, .iconst 2, 1), (17, .iushr, 1), (18, .ldc_w 266, 3), (21, .iand, 1), (22, .iadd, 1), (23, .istore_n 0, 1), (24, .iload_n 0, 1), (25, .iload_n 0, 1), (26, .iconst 4, 1), (27, .iushr, 1), (28, .iadd, 1), (29, .ldc_w 267, 3), (32, .iand, 1), (33, .istore_n 0, 1), (34, .iload_n 0, 1), (35, .iload_n 0, 1), (36, .bipush 8, 2), (38, .iushr, 1), (39, .iadd, 1), (40, .istore_n 0, 1), (41, .iload_n 0, 1), (42, .iload_n 0, 1), (43, .bipush 16, 2), (45, .iushr, 1), (46, .iadd, 1), (47, .istore_n 0, 1), (48, .iload_n 0, 1), (49, .bipush 63, 2), (51, .iand, 1), (52, .ireturn, 1)]
theorem dgJ6_bitCount_0f7a4_250 : ∀ q ∈ lgJ6_bitCount_0f7a4_250, decode cJ6_bitCount_0f7a4 q.1 = .ok (q.2.1, q.2.2) := by decide +kernel
theorem dJ6_bitCount_0f7a4_0 : decode cJ6_bitCount_0f7a4 0 = .ok (.iload_n 0, 1) := dall dgJ6_bitCount_0f7a4_250 0 rfl
theorem dJ6_bitCount_0f7a4_1 : decode cJ6_bitCount_0f7a4 1 = .ok (.iload_n 0, 1) := dall dgJ6_bitCount_0f7a4_250 1 rfl
theorem dJ6_bitCount_0f7a4_2 : decode cJ6_bitCount_0f7a4 2 = .ok (.iconst 1, 1) := dall dgJ6_bitCount_0f7a4_250 2 rfl
theorem dJ6_bitCount_0f7a4_3 : decode cJ6_bitCount_0f7a4 3 = .ok (.iushr, 1) := dall dgJ6_bitCount_0f7a4_250 3 rfl
theorem dJ6_bitCount_0f7a4_4 : decode cJ6_bitCount_0f7a4 4 = .ok (.ldc_w 265, 3) := dall dgJ6_bitCount_0f7a4_250 4 rfl
theorem dJ6_bitCount_0f7a4_7 : decode cJ6_bitCount_0f7a4 7 = .ok (.iand, 1) := dall dgJ6_bitCount_0f7a4_250 5 rfl
theorem dJ6_bitCount_0f7a4_8 : decode cJ6_bitCount_0f7a4 8 = .ok (.isub, 1) := dall dgJ6_bitCount_0f7a4_250 6 rfl
theorem dJ6_bitCount_0f7a4_9 : decode cJ6_bitCount_0f7a4 9 = .ok (.istore_n 0, 1) := dall dgJ6_bitCount_0f7a4_250 7 rfl
theorem dJ6_bitCount_0f7a4_10 : decode cJ6_bitCount_0f7a4 10 = .ok (.iload_n 0, 1) := dall dgJ6_bitCount_0f7a4_250 8 rfl
theorem dJ6_bitCount_0f7a4_11 : decode cJ6_bitCount_0f7a4 11 = .ok (.ldc_w 266, 3) := dall dgJ6_bitCount_0f7a4_250 9 rfl
theorem dJ6_bitCount_0f7a4_14 : decode cJ6_bitCount_0f7a4 14 = .ok (.iand, 1) := dall dgJ6_bitCount_0f7a4_250 10 rfl
theorem dJ6_bitCount_0f7a4_15 : decode cJ6_bitCount_0f7a4 15 = .ok (.iload_n 0, 1) := dall dgJ6_bitCount_0f7a4_250 11 rfl
theorem dJ6_bitCount_0f7a4_16 : decode cJ6_bitCount_0f7a4 16 = .ok (.iconst 2, 1) := dall dgJ6_bitCount_0f7a4_250 12 rfl
theorem dJ6_bitCount_0f7a4_17 : decode cJ6_bitCount_0f7a4 17 = .ok (.iushr, 1) := dall dgJ6_bitCount_0f7a4_250 13 rfl
theorem dJ6_bitCount_0f7a4_18 : decode cJ6_bitCount_0f7a4 18 = .ok (.ldc_w 266, 3) := dall dgJ6_bitCount_0f7a4_250 14 rfl
theorem dJ6_bitCount_0f7a4_21 : decode cJ6_bitCount_0f7a4 21 = .ok (.iand, 1) := dall dgJ6_bitCount_0f7a4_250 15 rfl
theorem dJ6_bitCount_0f7a4_22 : decode cJ6_bitCount_0f7a4 22 = .ok (.iadd, 1) := dall dgJ6_bitCount_0f7a4_250 16 rfl
theorem dJ6_bitCount_0f7a4_23 : decode cJ6_bitCount_0f7a4 23 = .ok (.istore_n 0, 1) := dall dgJ6_bitCount_0f7a4_250 17 rfl
theorem dJ6_bitCount_0f7a4_24 : decode cJ6_bitCount_0f7a4 24 = .ok (.iload_n 0, 1) := dall dgJ6_bitCount_0f7a4_250 18 rfl
theorem dJ6_bitCount_0f7a4_25 : decode cJ6_bitCount_0f7a4 25 = .ok (.iload_n 0, 1) := dall dgJ6_bitCount_0f7a4_250 19 rfl
theorem dJ6_bitCount_0f7a4_26 : decode cJ6_bitCount_0f7a4 26 = .ok (.iconst 4, 1) := dall dgJ6_bitCount_0f7a4_250 20 rfl
theorem dJ6_bitCount_0f7a4_27 : decode cJ6_bitCount_0f7a4 27 = .ok (.iushr, 1) := dall dgJ6_bitCount_0f7a4_250 21 rfl
theorem dJ6_bitCount_0f7a4_28 : decode cJ6_bitCount_0f7a4 28 = .ok (.iadd, 1) := dall dgJ6_bitCount_0f7a4_250 22 rfl
theorem dJ6_bitCount_0f7a4_29 : decode cJ6_bitCount_0f7a4 29 = .ok (.ldc_w 267, 3) := dall dgJ6_bitCount_0f7a4_250 23 rfl
theorem dJ6_bitCount_0f7a4_32 : decode cJ6_bitCount_0f7a4 32 = .ok (.iand, 1) := dall dgJ6_bitCount_0f7a4_250 24 rfl
theorem dJ6_bitCount_0f7a4_33 : decode cJ6_bitCount_0f7a4 33 = .ok (.istore_n 0, 1) := dall dgJ6_bitCount_0f7a4_250 25 rfl
theorem dJ6_bitCount_0f7a4_34 : decode cJ6_bitCount_0f7a4 34 = .ok (.iload_n 0, 1) := dall dgJ6_bitCount_0f7a4_250 26 rfl
theorem dJ6_bitCount_0f7a4_35 : decode cJ6_bitCount_0f7a4 35 = .ok (.iload_n 0, 1) := dall dgJ6_bitCount_0f7a4_250 27 rfl
theorem dJ6_bitCount_0f7a4_36 : decode cJ6_bitCount_0f7a4 36 = .ok (.bipush 8, 2) := dall dgJ6_bitCount_0f7a4_250 28 rfl
theorem dJ6_bitCount_0f7a4_38 : decode cJ6_bitCount_0f7a4 38 = .ok (.iushr, 1) := dall dgJ6_bitCount_0f7a4_250 29 rfl
theorem dJ6_bitCount_0f7a4_39 : decode cJ6_bitCount_0f7a4 39 = .ok (.iadd, 1) := dall dgJ6_bitCount_0f7a4_250 30 rfl
theorem dJ6_bitCount_0f7a4_40 : decode cJ6_bitCount_0f7a4 40 = .ok (.istore_n 0, 1) := dall dgJ6_bitCount_0f7a4_250 31 rfl
theorem dJ6_bitCount_0f7a4_41 : decode cJ6_bitCount_0f7a4 41 = .ok (.iload_n 0, 1) := dall dgJ6_bitCount_0f7a4_250 32 rfl
theorem dJ6_bitCount_0f7a4_42 : decode cJ6_bitCount_0f7a4 42 = .ok (.iload_n 0, 1) := dall dgJ6_bitCount_0f7a4_250 33 rfl
theorem dJ6_bitCount_0f7a4_43 : decode cJ6_bitCount_0f7a4 43 = .ok (.bipush 16, 2) := dall dgJ6_bitCount_0f7a4_250 34 rfl
theorem dJ6_bitCount_0f7a4_45 : decode cJ6_bitCount_0f7a4 45 = .ok (.iushr, 1) := dall dgJ6_bitCount_0f7a4_250 35 rfl
theorem dJ6_bitCount_0f7a4_46 : decode cJ6_bitCount_0f7a4 46 = .ok (.iadd, 1) := dall dgJ6_bitCount_0f7a4_250 36 rfl
theorem dJ6_bitCount_0f7a4_47 : decode cJ6_bitCount_0f7a4 47 = .ok (.istore_n 0, 1) := dall dgJ6_bitCount_0f7a4_250 37 rfl
theorem dJ6_bitCount_0f7a4_48 : decode cJ6_bitCount_0f7a4 48 = .ok (.iload_n 0, 1) := dall dgJ6_bitCount_0f7a4_250 38 rfl
theorem dJ6_bitCount_0f7a4_49 : decode cJ6_bitCount_0f7a4 49 = .ok (.bipush 63, 2) := dall dgJ6_bitCount_0f7a4_250 39 rfl
theorem dJ6_bitCount_0f7a4_51 : decode cJ6_bitCount_0f7a4 51 = .ok (.iand, 1) := dall dgJ6_bitCount_0f7a4_250 40 rfl
theorem dJ6_bitCount_0f7a4_52 : decode cJ6_bitCount_0f7a4 52 = .ok (.ireturn, 1) := dall dgJ6_bitCount_0f7a4_250 41 rfl
def lgJ0_length_8abf5_251 : List (Nat × Instr × Nat) := [(0, .aload_n 0, 1), (1, .getfield 9, 3), (4, .arraylength, 1), (5, .aload_n 0, 1), (6, .invokevirtual 335, 3), (9, .ishr, 1), (10, .ireturn, 1)]
theorem dgJ0_length_8abf5_251 : ∀ q ∈ lgJ0_length_8abf5_251, decode cJ0_length_8abf5 q.1 = .ok (q.2.1, q.2.2) := by decide +kernel
theorem dJ0_length_8abf5_0 : decode cJ0_length_8abf5 0 = .ok (.aload_n 0, 1) := dall dgJ0_length_8abf5_251 0 rfl
theorem dJ0_length_8abf5_1 : decode cJ0_length_8abf5 1 = .ok (.getfield 9, 3) := dall dgJ0_length_8abf5_251 1 rfl
theorem dJ0_length_8abf5_4 : decode cJ0_length_8abf5 4 = .ok (.arraylength, 1) := dall dgJ0_length_8abf5_251 2 rfl
theorem dJ0_length_8abf5_5 : decode cJ0_length_8abf5 5 = .ok (.aload_n 0, 1) := dall dgJ0_length_8abf5_251 3 rfl
theorem dJ0_length_8abf5_6 : decode cJ0_length_8abf5 6 = .ok (.invokevirtual 335, 3) := dall dgJ0_length_8abf5_251 4 rfl
theorem dJ0_length_8abf5_9 : decode cJ0_length_8abf5 9 = .ok (.ishr, 1) := dall dgJ0_length_8abf5_251 5 rfl
theorem dJ0_length_8abf5_10 : decode cJ0_length_8abf5 10 = .ok (.ireturn, 1) := dall dgJ0_length_8abf5_251 6 rfl
def lgJ0_charAt_5068e_252 : List (Nat × Instr × Nat) := [(0, .aload_n 0, 1), (1, .invokevirtual 492, 3), (4, .ifCond .eq 12, 3), (7, .aload_n 0, 1), (8, .getfield 9, 3), (11, .iload_n 1, 1), (12, .invokestatic 495, 3), (15, .ireturn, 1)]
theorem dgJ0_charAt_5068e_252 : ∀ q ∈ lgJ0_charAt_5068e_252, decode cJ0_charAt_5068e q.1 = .ok (q.2.1, q.2.2) := by decide +kernel
theorem dJ0_charAt_5068e_0 : decode cJ0_charAt_5068e 0 = .ok (.aload_n 0, 1) := dall dgJ0_charAt_5068e_252 0 rfl
theorem dJ0_charAt_5068e_1 : decode cJ0_charAt_5068e 1 = .ok (.invokevirtual 492, 3) := dall dgJ0_charAt_5068e_252 1 rfl
theorem dJ0_charAt_5068e_4 : decode cJ0_charAt_5068e 4 = .ok (.ifCond .eq 12, 3) := dall dgJ0_charAt_5068e_252 2 rfl
theorem dJ0_charAt_5068e_7 : decode cJ0_charAt_5068e 7 = .ok (.aload_n 0, 1) := dall dgJ0_charAt_5068e_252 3 rfl
theorem dJ0_charAt_5068e_8 : decode cJ0_charAt_5068e 8 = .ok (.getfield 9, 3) := dall dgJ0_charAt_5068e_252 4 rfl
theorem dJ0_charAt_5068e_11 : decode cJ0_charAt_5068e 11 = .ok (.iload_n 1, 1) := dall dgJ0_charAt_5068e_252 5 rfl
theorem dJ0_charAt_5068e_12 : decode cJ0_charAt_5068e 12 = .ok (.invokestatic 495, 3) := dall dgJ0_charAt_5068e_252 6 rfl
theorem dJ0_charAt_5068e_15 : decode cJ0_charAt_5068e 15 = .ok (.ireturn, 1) := dall dgJ0_charAt_5068e_252 7 rfl
def lgJ0_coder_7d493_253 : List (Nat × Instr × Nat) := [(0, .getstatic 38, 3), (3, .ifCond .eq 10, 3), (6, .aload_n 0, 1), (7, .getfield 15, 3), (10, .goto 4, 3), (14, .ireturn, 1)]
theorem dgJ0_coder_7d493_253 : ∀ q ∈ lgJ0_coder_7d493_253, decode cJ0_coder_7d493 q.1 = .ok (q.2.1, q.2.2) := by decide +kernel
theorem dJ0_coder_7d493_0 : decode cJ0_coder_7d493 0 = .ok (.getstatic 38, 3) := dall dgJ0_coder_7d493_253 0 rfl
theorem dJ0_coder_7d493_3 : decode cJ0_coder_7d493 3 = .ok (.ifCond .eq 10, 3) := dall dgJ0_coder_7d493_253 1 rfl
theorem dJ0_coder_7d493_6 : decode cJ0_coder_7d493 6 = .ok (.aload_n 0, 1) := dall dgJ0_coder_7d493_253 2 rfl
theorem dJ0_coder_7d493_7 : decode cJ0_coder_7d493 7 = .ok (.getfield 15, 3) := dall dgJ0_coder_7d493_253 3 rfl
theorem dJ0_coder_7d493_10 : decode cJ0_coder_7d493 10 = .ok (.goto 4, 3) := dall dgJ0_coder_7d493_253 4 rfl
theorem dJ0_coder_7d493_14 : decode cJ0_coder_7d493 14 = .ok (.ireturn, 1) := dall dgJ0_coder_7d493_253 5 rfl
def lgJ0_isLatin1_aae02_254 : List (Nat × Instr × Nat) := [(0, .getstatic 38, 3), (3, .ifCond .eq 14, 3), (6, .aload_n 0, 1), (7, .getfield 15, 3), (10, .ifCond .ne 7, 3), (13, .iconst 1, 1), (14, .goto 4, 3), (18, .ireturn, 1)]
theorem dgJ0_isLatin1_aae02_254 : ∀ q ∈ lgJ0_isLatin1_aae02_254, decode cJ0_isLatin1_aae02 q.1 = .ok (q.2.1, q.2.2) := by decide +kernel
theorem dJ0_isLatin1_aae02_0 : decode cJ0_isLatin1_aae02 0 = .ok (.getstatic 38, 3) := dall dgJ0_isLatin1_aae02_254 0 rfl
theorem dJ0_isLatin1_aae02_3 : decode cJ0_isLatin1_aae02 3 = .ok (.ifCond .eq 14, 3) := dall dgJ0_isLatin1_aae02_254 1 rfl
theorem dJ0_isLatin1_aae02_6 : decode cJ0_isLatin1_aae02 6 = .ok (.aload_n 0, 1) := dall dgJ0_isLatin1_aae02_254 2 rfl
theorem dJ0_isLatin1_aae02_7 : decode cJ0_isLatin1_aae02 7 = .ok (.getfield 15, 3) := dall dgJ0_isLatin1_aae02_254 3 rfl
theorem dJ0_isLatin1_aae02_10 : decode cJ0_isLatin1_aae02 10 = .ok (.ifCond .ne 7, 3) := dall dgJ0_isLatin1_aae02_254 4 rfl
theorem dJ0_isLatin1_aae02_13 : decode cJ0_isLatin1_aae02 13 = .ok (.iconst 1, 1) := dall dgJ0_isLatin1_aae02_254 5 rfl
theorem dJ0_isLatin1_aae02_14 : decode cJ0_isLatin1_aae02 14 = .ok (.goto 4, 3) := dall dgJ0_isLatin1_aae02_254 6 rfl
theorem dJ0_isLatin1_aae02_18 : decode cJ0_isLatin1_aae02 18 = .ok (.ireturn, 1) := dall dgJ0_isLatin1_aae02_254 7 rfl
def lgJ0_checkIndex_df160_255 : List (Nat × Instr × Nat) := [(0, .iload_n 0, 1), (1, .iload_n 1, 1), (2, .getstatic 1053, 3), (5, .invokestatic 1059, 3), (8, .pop, 1), (9, .return_, 1)]
theorem dgJ0_checkIndex_df160_255 : ∀ q ∈ lgJ0_checkIndex_df160_255, decode cJ0_checkIndex_df160 q.1 = .ok (q.2.1, q.2.2) := by decide +kernel
theorem dJ0_checkIndex_df160_0 : decode cJ0_checkIndex_df160 0 = .ok (.iload_n 0, 1) := dall dgJ0_checkIndex_df160_255 0 rfl
theorem dJ0_checkIndex_df160_1 : decode cJ0_checkIndex_df160 1 = .ok (.iload_n 1, 1) := dall dgJ0_checkIndex_df160_255 1 rfl
theorem dJ0_checkIndex_df160_2 : decode cJ0_checkIndex_df160 2 = .ok (.getstatic 1053, 3) := dall dgJ0_checkIndex_df160_255 2 rfl
theorem dJ0_checkIndex_df160_5 : decode cJ0_checkIndex_df160 5 = .ok (.invokestatic 1059, 3) := dall dgJ0_checkIndex_df160_255 3 rfl
theorem dJ0_checkIndex_df160_8 : decode cJ0_checkIndex_df160 8 = .ok (.pop, 1) := dall dgJ0_checkIndex_df160_255 4 rfl
theorem dJ0_checkIndex_df160_9 : decode cJ0_checkIndex_df160 9 = .ok (.return_, 1) := dall dgJ0_checkIndex_df160_255 5 rfl
def lgJ1_charAt_3b067_256 : List (Nat × Instr × Nat) := [(0, .iload_n 1, 1), (1, .aload_n 0, 1), (2, .arraylength, 1), (3, .invokestatic 9, 3), (6, .aload_n 0, 1), (7, .iload_n 1, 1), (8, .baload, 1), (9, .sipush 255, 3), (12, .iand, 1), (13, .i2c, 1), (14, .ireturn, 1)]
theorem dgJ1_charAt_3b067_256 : ∀ q ∈ lgJ1_charAt_3b067_256, decode cJ1_charAt_3b067 q.1 = .ok (q.2.1, q.2.2) := by decide +kernel
theorem dJ1_charAt_3b067_0 : decode cJ1_charAt_3b067 0 = .ok (.iload_n 1, 1) := dall dgJ1_charAt_3b067_256 0 rfl
theorem dJ1_charAt_3b067_1 : decode cJ1_charAt_3b067 1 = .ok (.aload_n 0, 1) := dall dgJ1_charAt_3b067_256 1 rfl
theorem dJ1_charAt_3b067_2 : decode cJ1_charAt_3b067 2 = .ok (.arraylength, 1) := dall dgJ1_charAt_3b067_256 2 rfl
theorem dJ1_charAt_3b067_3 : decode cJ1_charAt_3b067 3 = .ok (.invokestatic 9, 3) := dall dgJ1_charAt_3b067_256 3 rfl
theorem dJ1_charAt_3b067_6 : decode cJ1_charAt_3b067 6 = .ok (.aload_n 0, 1) := dall dgJ1_charAt_3b067_256 4 rfl
theorem dJ1_charAt_3b067_7 : decode cJ1_charAt_3b067 7 = .ok (.iload_n 1, 1) := dall dgJ1_charAt_3b067_256 5 rfl
theorem dJ1_charAt_3b067_8 : decode cJ1_charAt_3b067 8 = .ok (.baload, 1) := dall dgJ1_charAt_3b067_256 6 rfl
theorem dJ1_charAt_3b067_9 : decode cJ1_charAt_3b067 9 = .ok (.sipush 255, 3) := dall dgJ1_charAt_3b067_256 7 rfl
theorem dJ1_charAt_3b067_12 : decode cJ1_charAt_3b067 12 = .ok (.iand, 1) := dall dgJ1_charAt_3b067_256 8 rfl
theorem dJ1_charAt_3b067_13 : decode cJ1_charAt_3b067 13 = .ok (.i2c, 1) := dall dgJ1_charAt_3b067_256 9 rfl
theorem dJ1_charAt_3b067_14 : decode cJ1_charAt_3b067 14 = .ok (.ireturn, 1) := dall dgJ1_charAt_3b067_256 10 rfl
def lgJ7_fill_53178_257 : List (Nat × Instr × Nat) := [(0, .iconst 0, 1), (1, .istore_n 2, 1), (2, .aload_n 0, 1), (3, .arraylength, 1), (4, .istore_n 3, 1), (5, .iload_n 2, 1), (6, .iload_n 3, 1), (7, .if_icmp .ge 13, 3), (10, .aload_n 0, 1), (11, .iload_n 2, 1), (12, .iload_n 1, 1), (13, .iastore, 1), (14, .iinc 2 1, 3), (17, .goto (-12), 3), (20, .return_, 1)]
theorem dgJ7_fill_53178_257 : ∀ q ∈ lgJ7_fill_53178_257, decode cJ7_fill_53178 q.1 = .ok (q.2.1, q.2.2) := by decide +kernel
theorem dJ7_fill_53178_0 : decode cJ7_fill_53178 0 = .ok (.iconst 0, 1) := dall dgJ7_fill_53178_257 0 rfl
theorem dJ7_fill_53178_1 : decode cJ7_fill_53178 1 = .ok (.istore_n 2, 1) := dall dgJ7_fill_53178_257 1 rfl
theorem dJ7_fill_53178_2 : decode cJ7_fill_53178 2 = .ok (.aload_n 0, 1) := dall dgJ7_fill_53178_257 2 rfl
theorem dJ7_fill_53178_3 : decode cJ7_fill_53178 3 = .ok (.arraylength, 1) := dall dgJ7_fill_53178_257 3 rfl
theorem dJ7_fill_53178_4 : decode cJ7_fill_53178 4 = .ok (.istore_n 3, 1) := dall dgJ7_fill_53178_257 4 rfl
theorem dJ7_fill_53178_5 : decode cJ7_fill_53178 5 = .ok (.iload_n 2, 1) := dall dgJ7_fill_53178_257 5 rfl
theorem dJ7_fill_53178_6 : decode cJ7_fill_53178 6 = .ok (.iload_n 3, 1) := dall dgJ7_fill_53178_257 6 rfl
theorem dJ7_fill_53178_7 : decode cJ7_fill_53178 7 = .ok (.if_icmp .ge 13, 3) := dall dgJ7_fill_53178_257 7 rfl
theorem dJ7_fill_53178_10 : decode cJ7_fill_53178 10 = .ok (.aload_n 0, 1) := dall dgJ7_fill_53178_257 8 rfl
theorem dJ7_fill_53178_11 : decode cJ7_fill_53178 11 = .ok (.iload_n 2, 1) := dall dgJ7_fill_53178_257 9 rfl
theorem dJ7_fill_53178_12 : decode cJ7_fill_53178 12 = .ok (.iload_n 1, 1) := dall dgJ7_fill_53178_257 10 rfl
theorem dJ7_fill_53178_13 : decode cJ7_fill_53178 13 = .ok (.iastore, 1) := dall dgJ7_fill_53178_257 11 rfl
theorem dJ7_fill_53178_14 : decode cJ7_fill_53178 14 = .ok (.iinc 2 1, 3) := dall dgJ7_fill_53178_257 12 rfl
theorem dJ7_fill_53178_17 : decode cJ7_fill_53178 17 = .ok (.goto (-12), 3) := dall dgJ7_fill_53178_257 13 rfl
theorem dJ7_fill_53178_20 : decode cJ7_fill_53178 20 = .ok (.return_, 1) := dall dgJ7_fill_53178_257 14 rfl
def lgJ3_checkIndex_8e157_258 : List (Nat × Instr × Nat) := [(0, .iload_n 0, 1), (1, .ifCond .lt 8, 3), (4, .iload_n 0, 1), (5, .iload_n 1, 1), (6, .if_icmp .lt 10, 3), (16, .iload_n 0, 1), (17, .ireturn, 1)]
theorem dgJ3_checkIndex_8e157_258 : ∀ q ∈ lgJ3_checkIndex_8e157_258, decode cJ3_checkIndex_8e157 q.1 = .ok (q.2.1, q.2.2) := by decide +kernel
theorem dJ3_checkIndex_8e157_0 : decode cJ3_checkIndex_8e157 0 = .ok (.iload_n 0, 1) := dall dgJ3_checkIndex_8e157_258 0 rfl
theorem dJ3_checkIndex_8e157_1 : decode cJ3_checkIndex_8e157 1 = .ok (.ifCond .lt 8, 3) := dall dgJ3_checkIndex_8e157_258 1 rfl
theorem dJ3_checkIndex_8e157_4 : decode cJ3_checkIndex_8e157 4 = .ok (.iload_n 0, 1) := dall dgJ3_checkIndex_8e157_258 2 rfl
theorem dJ3_checkIndex_8e157_5 : decode cJ3_checkIndex_8e157 5 = .ok (.iload_n 1, 1) := dall dgJ3_checkIndex_8e157_258 3 rfl
theorem dJ3_checkIndex_8e157_6 : decode cJ3_checkIndex_8e157 6 = .ok (.if_icmp .lt 10, 3) := dall dgJ3_checkIndex_8e157_258 4 rfl
theorem dJ3_checkIndex_8e157_16 : decode cJ3_checkIndex_8e157 16 = .ok (.iload_n 0, 1) := dall dgJ3_checkIndex_8e157_258 5 rfl
theorem dJ3_checkIndex_8e157_17 : decode cJ3_checkIndex_8e157 17 = .ok (.ireturn, 1) := dall dgJ3_checkIndex_8e157_258 6 rfl
