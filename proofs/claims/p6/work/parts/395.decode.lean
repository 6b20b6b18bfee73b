set_option maxRecDepth 20000 in
theorem ggX12_forget_X12_in : GoodIn wsX12_forget wsX12_in := goodIn_r _ [7] rfl (by decide +kernel)
set_option maxRecDepth 20000 in
theorem gX12_forget_X12_in : GoodIn wsX12_forget (va_wsS RX12 100 yX12_in wsX12_in) := goodIn_app (goodIn_of _ (by decide +kernel)) ggX12_forget_X12_in
def lgX12_forget_1 : List (Nat × Instr × Nat) := [(0, .iload_n 1, 1), (1, .iconst 0, 1), (2, .aload_n 0, 1), (3, .getfield 252, 3), (6, .iconst 1, 1), (7, .isub, 1), (8, .invokestatic 100, 3), (11, .ifCond .ne 5, 3), (14, .iconst (-1), 1), (15, .ireturn, 1), (16, .aload_n 0, 1), (17, .getfield 84, 3), (20, .iload_n 1, 1), (21, .iaload, 1), (22, .istore_n 2, 1), (23, .aload_n 0, 1), (24, .dup, 1), (25, .getfield 252, 3), (28, .iconst 1, 1), (29, .isub, 1), (30, .putfield 252, 3), (33, .iload_n 1, 1), (34, .istore_n 3, 1), (35, .iload_n 3, 1), (36, .aload_n 0, 1), (37, .getfield 252, 3), (40, .if_icmp .ge 62, 3), (43, .aload_n 0, 1), (44, .getfield 84, 3), (47, .iload_n 3, 1), (48, .aload_n 0, 1), (49, .getfield 84, 3), (52, .iload_n 3, 1), (53, .iconst 1, 1), (54, .iadd, 1), (55, .iaload, 1), (56, .iastore, 1), (57, .iconst 0, 1), (58, .istore 4, 2), (60, .iload 4, 2), (62, .iconst 4, 1), (63, .if_icmp .ge 33, 3), (66, .aload_n 0, 1), (67, .getfield 87, 3), (70, .iconst 4, 1), (71, .iload_n 3, 1), (72, .imul, 1), (73, .iload 4, 2), (75, .iadd, 1), (76, .aload_n 0, 1)]
theorem dgX12_forget_1 : ∀ q ∈ lgX12_forget_1, decode cX12_forget q.1 = .ok (q.2.1, q.2.2) := by decide +kernel
theorem dX12_forget_0 : decode cX12_forget 0 = .ok (.iload_n 1, 1) := dall dgX12_forget_1 0 rfl
theorem dX12_forget_1 : decode cX12_forget 1 = .ok (.iconst 0, 1) := dall dgX12_forget_1 1 rfl
theorem dX12_forget_2 : decode cX12_forget 2 = .ok (.aload_n 0, 1) := dall dgX12_forget_1 2 rfl
theorem dX12_forget_3 : decode cX12_forget 3 = .ok (.getfield 252, 3) := dall dgX12_forget_1 3 rfl
theorem dX12_forget_6 : decode cX12_forget 6 = .ok (.iconst 1, 1) := dall dgX12_forget_1 4 rfl
theorem dX12_forget_7 : decode cX12_forget 7 = .ok (.isub, 1) := dall dgX12_forget_1 5 rfl
theorem dX12_forget_8 : decode cX12_forget 8 = .ok (.invokestatic 100, 3) := dall dgX12_forget_1 6 rfl
theorem dX12_forget_11 : decode cX12_forget 11 = .ok (.ifCond .ne 5, 3) := dall dgX12_forget_1 7 rfl
theorem dX12_forget_14 : decode cX12_forget 14 = .ok (.iconst (-1), 1) := dall dgX12_forget_1 8 rfl
theorem dX12_forget_15 : decode cX12_forget 15 = .ok (.ireturn, 1) := dall dgX12_forget_1 9 rfl
theorem dX12_forget_16 : decode cX12_forget 16 = .ok (.aload_n 0, 1) := dall dgX12_forget_1 10 rfl
theorem dX12_forget_17 : decode cX12_forget 17 = .ok (.getfield 84, 3) := dall dgX12_forget_1 11 rfl
theorem dX12_forget_20 : decode cX12_forget 20 = .ok (.iload_n 1, 1) := dall dgX12_forget_1 12 rfl
theorem dX12_forget_21 : decode cX12_forget 21 = .ok (.iaload, 1) := dall dgX12_forget_1 13 rfl
theorem dX12_forget_22 : decode cX12_forget 22 = .ok (.istore_n 2, 1) := dall dgX12_forget_1 14 rfl
theorem dX12_forget_23 : decode cX12_forget 23 = .ok (.aload_n 0, 1) := dall dgX12_forget_1 15 rfl
theorem dX12_forget_24 : decode cX12_forget 24 = .ok (.dup, 1) := dall dgX12_forget_1 16 rfl
theorem dX12_forget_25 : decode cX12_forget 25 = .ok (.getfield 252, 3) := dall dgX12_forget_1 17 rfl
theorem dX12_forget_28 : decode cX12_forget 28 = .ok (.iconst 1, 1) := dall dgX12_forget_1 18 rfl
theorem dX12_forget_29 : decode cX12_forget 29 = .ok (.isub, 1) := dall dgX12_forget_1 19 rfl
theorem dX12_forget_30 : decode cX12_forget 30 = .ok (.putfield 252, 3) := dall dgX12_forget_1 20 rfl
theorem dX12_forget_33 : decode cX12_forget 33 = .ok (.iload_n 1, 1) := dall dgX12_forget_1 21 rfl
theorem dX12_forget_34 : decode cX12_forget 34 = .ok (.istore_n 3, 1) := dall dgX12_forget_1 22 rfl
theorem dX12_forget_35 : decode cX12_forget 35 = .ok (.iload_n 3, 1) := dall dgX12_forget_1 23 rfl
theorem dX12_forget_36 : decode cX12_forget 36 = .ok (.aload_n 0, 1) := dall dgX12_forget_1 24 rfl
theorem dX12_forget_37 : decode cX12_forget 37 = .ok (.getfield 252, 3) := dall dgX12_forget_1 25 rfl
theorem dX12_forget_40 : decode cX12_forget 40 = .ok (.if_icmp .ge 62, 3) := dall dgX12_forget_1 26 rfl
theorem dX12_forget_43 : decode cX12_forget 43 = .ok (.aload_n 0, 1) := dall dgX12_forget_1 27 rfl
theorem dX12_forget_44 : decode cX12_forget 44 = .ok (.getfield 84, 3) := dall dgX12_forget_1 28 rfl
theorem dX12_forget_47 : decode cX12_forget 47 = .ok (.iload_n 3, 1) := dall dgX12_forget_1 29 rfl
theorem dX12_forget_48 : decode cX12_forget 48 = .ok (.aload_n 0, 1) := dall dgX12_forget_1 30 rfl
theorem dX12_forget_49 : decode cX12_forget 49 = .ok (.getfield 84, 3) := dall dgX12_forget_1 31 rfl
theorem dX12_forget_52 : decode cX12_forget 52 = .ok (.iload_n 3, 1) := dall dgX12_forget_1 32 rfl
theorem dX12_forget_53 : decode cX12_forget 53 = .ok (.iconst 1, 1) := dall dgX12_forget_1 33 rfl
theorem dX12_forget_54 : decode cX12_forget 54 = .ok (.iadd, 1) := dall dgX12_forget_1 34 rfl
theorem dX12_forget_55 : decode cX12_forget 55 = .ok (.iaload, 1) := dall dgX12_forget_1 35 rfl
theorem dX12_forget_56 : decode cX12_forget 56 = .ok (.iastore, 1) := dall dgX12_forget_1 36 rfl
theorem dX12_forget_57 : decode cX12_forget 57 = .ok (.iconst 0, 1) := dall dgX12_forget_1 37 rfl
theorem dX12_forget_58 : decode cX12_forget 58 = .ok (.istore 4, 2) := dall dgX12_forget_1 38 rfl
theorem dX12_forget_60 : decode cX12_forget 60 = .ok (.iload 4, 2) := dall dgX12_forget_1 39 rfl
theorem dX12_forget_62 : decode cX12_forget 62 = .ok (.iconst 4, 1) := dall dgX12_forget_1 40 rfl
theorem dX12_forget_63 : decode cX12_forget 63 = .ok (.if_icmp .ge 33, 3) := dall dgX12_forget_1 41 rfl
theorem dX12_forget_66 : decode cX12_forget 66 = .ok (.aload_n 0, 1) := dall dgX12_forget_1 42 rfl
theorem dX12_forget_67 : decode cX12_forget 67 = .ok (.getfield 87, 3) := dall dgX12_forget_1 43 rfl
theorem dX12_forget_70 : decode cX12_forget 70 = .ok (.iconst 4, 1) := dall dgX12_forget_1 44 rfl
theorem dX12_forget_71 : decode cX12_forget 71 = .ok (.iload_n 3, 1) := dall dgX12_forget_1 45 rfl
theorem dX12_forget_72 : decode cX12_forget 72 = .ok (.imul, 1) := dall dgX12_forget_1 46 rfl
theorem dX12_forget_73 : decode cX12_forget 73 = .ok (.iload 4, 2) := dall dgX12_forget_1 47 rfl
theorem dX12_forget_75 : decode cX12_forget 75 = .ok (.iadd, 1) := dall dgX12_forget_1 48 rfl
theorem dX12_forget_76 : decode cX12_forget 76 = .ok (.aload_n 0, 1) := dall dgX12_forget_1 49 rfl
def lgX12_forget_2 : List (Nat × Instr × Nat) := [(77, .getfield 87, 3), (80, .iconst 4, 1), (81, .iload_n 3, 1), (82, .imul, 1), (83, .iconst 4, 1), (84, .iadd, 1), (85, .iload 4, 2), (87, .iadd, 1), (88, .iaload, 1), (89, .iastore, 1), (90, .iinc 4 1, 3), (93, .goto (-33), 3), (96, .iinc 3 1, 3), (99, .goto (-64), 3), (102, .iload_n 2, 1), (103, .ireturn, 1)]
theorem dgX12_forget_2 : ∀ q ∈ lgX12_forget_2, decode cX12_forget q.1 = .ok (q.2.1, q.2.2) := by decide +kernel
theorem dX12_forget_77 : decode cX12_forget 77 = .ok (.getfield 87, 3) := dall dgX12_forget_2 0 rfl
theorem dX12_forget_80 : decode cX12_forget 80 = .ok (.iconst 4, 1) := dall dgX12_forget_2 1 rfl
theorem dX12_forget_81 : decode cX12_forget 81 = .ok (.iload_n 3, 1) := dall dgX12_forget_2 2 rfl
theorem dX12_forget_82 : decode cX12_forget 82 = .ok (.imul, 1) := dall dgX12_forget_2 3 rfl
theorem dX12_forget_83 : decode cX12_forget 83 = .ok (.iconst 4, 1) := dall dgX12_forget_2 4 rfl
theorem dX12_forget_84 : decode cX12_forget 84 = .ok (.iadd, 1) := dall dgX12_forget_2 5 rfl
theorem dX12_forget_85 : decode cX12_forget 85 = .ok (.iload 4, 2) := dall dgX12_forget_2 6 rfl
theorem dX12_forget_87 : decode cX12_forget 87 = .ok (.iadd, 1) := dall dgX12_forget_2 7 rfl
theorem dX12_forget_88 : decode cX12_forget 88 = .ok (.iaload, 1) := dall dgX12_forget_2 8 rfl
theorem dX12_forget_89 : decode cX12_forget 89 = .ok (.iastore, 1) := dall dgX12_forget_2 9 rfl
theorem dX12_forget_90 : decode cX12_forget 90 = .ok (.iinc 4 1, 3) := dall dgX12_forget_2 10 rfl
theorem dX12_forget_93 : decode cX12_forget 93 = .ok (.goto (-33), 3) := dall dgX12_forget_2 11 rfl
theorem dX12_forget_96 : decode cX12_forget 96 = .ok (.iinc 3 1, 3) := dall dgX12_forget_2 12 rfl
theorem dX12_forget_99 : decode cX12_forget 99 = .ok (.goto (-64), 3) := dall dgX12_forget_2 13 rfl
theorem dX12_forget_102 : decode cX12_forget 102 = .ok (.iload_n 2, 1) := dall dgX12_forget_2 14 rfl
theorem dX12_forget_103 : decode cX12_forget 103 = .ok (.ireturn, 1) := dall dgX12_forget_2 15 rfl
set_option maxRecDepth 20000 in
theorem ggX12_back_X12_in : GoodIn wsX12_back wsX12_in := goodIn_r _ [9] rfl (by decide +kernel)
set_option maxRecDepth 20000 in
theorem gX12_back_X12_in : GoodIn wsX12_back (va_wsS RX12 100 yX12_in wsX12_in) := goodIn_app (goodIn_of _ (by decide +kernel)) ggX12_back_X12_in
set_option maxRecDepth 20000 in
theorem ggX12_back_X12_wrong : GoodIn wsX12_back wsX12_wrong := goodIn_r _ [13, 14, 15, 6, 7, 8, 9, 16, 17, 18, 19, 20, 21, 22, 23, 24, 25, 26, 27, 28, 29, 30, 31, 32, 33, 34, 35, 36, 1, 37, 38, 39, 40, 41, 42, 43, 44, 45, 46, 47, 48, 49, 50, 51, 52, 53, 54, 55, 56, 57, 58, 59, 60, 61, 62, 63, 64, 65, 66, 67, 68, 69, 70, 71, 72, 73, 74, 75, 76, 77, 78, 79, 80, 81, 82, 83, 84, 85, 86, 87, 88, 89, 90, 91, 92, 93, 3, 94, 95, 96, 97, 98, 99, 100, 101, 102, 103, 104, 105, 106, 107, 108, 109, 110, 111, 112, 113, 114, 115, 116, 117, 118, 119, 120, 121, 122, 123, 124, 125, 126, 127, 128, 129, 130, 131, 132, 133, 134, 135, 136, 137, 138] rfl (by decide +kernel)
set_option maxRecDepth 20000 in
theorem gX12_back_X12_wrong : GoodIn wsX12_back (wsV RX12 249 RX12 yX12_wrong wsX12_wrong) := goodIn_app (goodIn_of _ (by decide +kernel)) ggX12_back_X12_wrong
set_option maxRecDepth 20000 in
theorem ggX12_back_X12_size : GoodIn wsX12_back wsX12_size := goodIn_r _ [70] rfl (by decide +kernel)
set_option maxRecDepth 20000 in
theorem gX12_back_X12_size : GoodIn wsX12_back (va_wsS RX12 209 yX12_size wsX12_size) := goodIn_app (goodIn_of _ (by decide +kernel)) ggX12_back_X12_size
def lgX12_back_3 : List (Nat × Instr × Nat) := [(0, .iload_n 2, 1), (1, .iconst 0, 1), (2, .iconst 1, 1), (3, .invokestatic 100, 3), (6, .ifCond .eq 11, 3), (9, .aload_n 0, 1), (10, .iload_n 1, 1), (11, .invokevirtual 249, 3), (14, .goto 4, 3), (17, .iconst (-1), 1), (18, .istore_n 3, 1), (19, .iload_n 3, 1), (20, .ifCond .eq 5, 3), (23, .iload_n 3, 1), (24, .ireturn, 1), (25, .bipush (-9), 2), (27, .istore 4, 2), (29, .aload_n 0, 1), (30, .getfield 7, 3), (33, .iconst 2, 1), (34, .iaload, 1), (35, .iconst 1, 1), (36, .iadd, 1), (37, .istore 5, 2), (39, .iconst 0, 1), (40, .istore 6, 2), (42, .iload 6, 2), (44, .aload_n 0, 1), (45, .getfield 252, 3), (48, .if_icmp .ge 91, 3), (51, .iconst 0, 1), (52, .istore 7, 2), (54, .iconst 0, 1), (55, .istore 8, 2), (57, .iload 8, 2), (59, .iconst 4, 1), (60, .if_icmp .ge 41, 3), (63, .iload 7, 2), (65, .aload_n 0, 1), (66, .getfield 81, 3), (69, .iconst 4, 1), (70, .iload_n 1, 1), (71, .imul, 1), (72, .iload 8, 2), (74, .iadd, 1), (75, .iaload, 1), (76, .aload_n 0, 1), (77, .getfield 87, 3), (80, .iconst 4, 1), (81, .iload 6, 2)]
theorem dgX12_back_3 : ∀ q ∈ lgX12_back_3, decode cX12_back q.1 = .ok (q.2.1, q.2.2) := by decide +kernel
theorem dX12_back_0 : decode cX12_back 0 = .ok (.iload_n 2, 1) := dall dgX12_back_3 0 rfl
theorem dX12_back_1 : decode cX12_back 1 = .ok (.iconst 0, 1) := dall dgX12_back_3 1 rfl
theorem dX12_back_2 : decode cX12_back 2 = .ok (.iconst 1, 1) := dall dgX12_back_3 2 rfl
theorem dX12_back_3 : decode cX12_back 3 = .ok (.invokestatic 100, 3) := dall dgX12_back_3 3 rfl
theorem dX12_back_6 : decode cX12_back 6 = .ok (.ifCond .eq 11, 3) := dall dgX12_back_3 4 rfl
theorem dX12_back_9 : decode cX12_back 9 = .ok (.aload_n 0, 1) := dall dgX12_back_3 5 rfl
theorem dX12_back_10 : decode cX12_back 10 = .ok (.iload_n 1, 1) := dall dgX12_back_3 6 rfl
theorem dX12_back_11 : decode cX12_back 11 = .ok (.invokevirtual 249, 3) := dall dgX12_back_3 7 rfl
theorem dX12_back_14 : decode cX12_back 14 = .ok (.goto 4, 3) := dall dgX12_back_3 8 rfl
theorem dX12_back_17 : decode cX12_back 17 = .ok (.iconst (-1), 1) := dall dgX12_back_3 9 rfl
theorem dX12_back_18 : decode cX12_back 18 = .ok (.istore_n 3, 1) := dall dgX12_back_3 10 rfl
theorem dX12_back_19 : decode cX12_back 19 = .ok (.iload_n 3, 1) := dall dgX12_back_3 11 rfl
theorem dX12_back_20 : decode cX12_back 20 = .ok (.ifCond .eq 5, 3) := dall dgX12_back_3 12 rfl
theorem dX12_back_23 : decode cX12_back 23 = .ok (.iload_n 3, 1) := dall dgX12_back_3 13 rfl
theorem dX12_back_24 : decode cX12_back 24 = .ok (.ireturn, 1) := dall dgX12_back_3 14 rfl
theorem dX12_back_25 : decode cX12_back 25 = .ok (.bipush (-9), 2) := dall dgX12_back_3 15 rfl
theorem dX12_back_27 : decode cX12_back 27 = .ok (.istore 4, 2) := dall dgX12_back_3 16 rfl
theorem dX12_back_29 : decode cX12_back 29 = .ok (.aload_n 0, 1) := dall dgX12_back_3 17 rfl
theorem dX12_back_30 : decode cX12_back 30 = .ok (.getfield 7, 3) := dall dgX12_back_3 18 rfl
theorem dX12_back_33 : decode cX12_back 33 = .ok (.iconst 2, 1) := dall dgX12_back_3 19 rfl
theorem dX12_back_34 : decode cX12_back 34 = .ok (.iaload, 1) := dall dgX12_back_3 20 rfl
theorem dX12_back_35 : decode cX12_back 35 = .ok (.iconst 1, 1) := dall dgX12_back_3 21 rfl
theorem dX12_back_36 : decode cX12_back 36 = .ok (.iadd, 1) := dall dgX12_back_3 22 rfl
theorem dX12_back_37 : decode cX12_back 37 = .ok (.istore 5, 2) := dall dgX12_back_3 23 rfl
theorem dX12_back_39 : decode cX12_back 39 = .ok (.iconst 0, 1) := dall dgX12_back_3 24 rfl
theorem dX12_back_40 : decode cX12_back 40 = .ok (.istore 6, 2) := dall dgX12_back_3 25 rfl
theorem dX12_back_42 : decode cX12_back 42 = .ok (.iload 6, 2) := dall dgX12_back_3 26 rfl
theorem dX12_back_44 : decode cX12_back 44 = .ok (.aload_n 0, 1) := dall dgX12_back_3 27 rfl
theorem dX12_back_45 : decode cX12_back 45 = .ok (.getfield 252, 3) := dall dgX12_back_3 28 rfl
theorem dX12_back_48 : decode cX12_back 48 = .ok (.if_icmp .ge 91, 3) := dall dgX12_back_3 29 rfl
theorem dX12_back_51 : decode cX12_back 51 = .ok (.iconst 0, 1) := dall dgX12_back_3 30 rfl
theorem dX12_back_52 : decode cX12_back 52 = .ok (.istore 7, 2) := dall dgX12_back_3 31 rfl
theorem dX12_back_54 : decode cX12_back 54 = .ok (.iconst 0, 1) := dall dgX12_back_3 32 rfl
theorem dX12_back_55 : decode cX12_back 55 = .ok (.istore 8, 2) := dall dgX12_back_3 33 rfl
theorem dX12_back_57 : decode cX12_back 57 = .ok (.iload 8, 2) := dall dgX12_back_3 34 rfl
theorem dX12_back_59 : decode cX12_back 59 = .ok (.iconst 4, 1) := dall dgX12_back_3 35 rfl
theorem dX12_back_60 : decode cX12_back 60 = .ok (.if_icmp .ge 41, 3) := dall dgX12_back_3 36 rfl
theorem dX12_back_63 : decode cX12_back 63 = .ok (.iload 7, 2) := dall dgX12_back_3 37 rfl
theorem dX12_back_65 : decode cX12_back 65 = .ok (.aload_n 0, 1) := dall dgX12_back_3 38 rfl
theorem dX12_back_66 : decode cX12_back 66 = .ok (.getfield 81, 3) := dall dgX12_back_3 39 rfl
theorem dX12_back_69 : decode cX12_back 69 = .ok (.iconst 4, 1) := dall dgX12_back_3 40 rfl
theorem dX12_back_70 : decode cX12_back 70 = .ok (.iload_n 1, 1) := dall dgX12_back_3 41 rfl
theorem dX12_back_71 : decode cX12_back 71 = .ok (.imul, 1) := dall dgX12_back_3 42 rfl
theorem dX12_back_72 : decode cX12_back 72 = .ok (.iload 8, 2) := dall dgX12_back_3 43 rfl
theorem dX12_back_74 : decode cX12_back 74 = .ok (.iadd, 1) := dall dgX12_back_3 44 rfl
theorem dX12_back_75 : decode cX12_back 75 = .ok (.iaload, 1) := dall dgX12_back_3 45 rfl
theorem dX12_back_76 : decode cX12_back 76 = .ok (.aload_n 0, 1) := dall dgX12_back_3 46 rfl
theorem dX12_back_77 : decode cX12_back 77 = .ok (.getfield 87, 3) := dall dgX12_back_3 47 rfl
theorem dX12_back_80 : decode cX12_back 80 = .ok (.iconst 4, 1) := dall dgX12_back_3 48 rfl
theorem dX12_back_81 : decode cX12_back 81 = .ok (.iload 6, 2) := dall dgX12_back_3 49 rfl
def lgX12_back_4 : List (Nat × Instr × Nat) := [(83, .imul, 1), (84, .iload 8, 2), (86, .iadd, 1), (87, .iaload, 1), (88, .isub, 1), (89, .invokestatic 209, 3), (92, .iadd, 1), (93, .istore 7, 2), (95, .iinc 8 1, 3), (98, .goto (-41), 3), (101, .iload 7, 2), (103, .iload 5, 2), (105, .if_icmp .ge 8, 3), (108, .iload 6, 2), (110, .goto 5, 3), (113, .iload 4, 2), (115, .istore 4, 2), (117, .iload 7, 2), (119, .iload 5, 2), (121, .if_icmp .ge 8, 3), (124, .iload 7, 2), (126, .goto 5, 3), (129, .iload 5, 2), (131, .istore 5, 2), (133, .iinc 6 1, 3), (136, .goto (-94), 3), (139, .iload 4, 2), (141, .bipush (-9), 2), (143, .if_icmp .eq 8, 3), (146, .iload_n 2, 1), (147, .iconst 1, 1), (148, .if_icmp .ne 8, 3), (151, .iload 4, 2), (153, .goto 10, 3), (156, .aload_n 0, 1), (157, .getfield 84, 3), (160, .iload 4, 2), (162, .iaload, 1), (163, .ireturn, 1)]
theorem dgX12_back_4 : ∀ q ∈ lgX12_back_4, decode cX12_back q.1 = .ok (q.2.1, q.2.2) := by decide +kernel
theorem dX12_back_83 : decode cX12_back 83 = .ok (.imul, 1) := dall dgX12_back_4 0 rfl
theorem dX12_back_84 : decode cX12_back 84 = .ok (.iload 8, 2) := dall dgX12_back_4 1 rfl
theorem dX12_back_86 : decode cX12_back 86 = .ok (.iadd, 1) := dall dgX12_back_4 2 rfl
theorem dX12_back_87 : decode cX12_back 87 = .ok (.iaload, 1) := dall dgX12_back_4 3 rfl
theorem dX12_back_88 : decode cX12_back 88 = .ok (.isub, 1) := dall dgX12_back_4 4 rfl
theorem dX12_back_89 : decode cX12_back 89 = .ok (.invokestatic 209, 3) := dall dgX12_back_4 5 rfl
theorem dX12_back_92 : decode cX12_back 92 = .ok (.iadd, 1) := dall dgX12_back_4 6 rfl
theorem dX12_back_93 : decode cX12_back 93 = .ok (.istore 7, 2) := dall dgX12_back_4 7 rfl
theorem dX12_back_95 : decode cX12_back 95 = .ok (.iinc 8 1, 3) := dall dgX12_back_4 8 rfl
theorem dX12_back_98 : decode cX12_back 98 = .ok (.goto (-41), 3) := dall dgX12_back_4 9 rfl
theorem dX12_back_101 : decode cX12_back 101 = .ok (.iload 7, 2) := dall dgX12_back_4 10 rfl
theorem dX12_back_103 : decode cX12_back 103 = .ok (.iload 5, 2) := dall dgX12_back_4 11 rfl
theorem dX12_back_105 : decode cX12_back 105 = .ok (.if_icmp .ge 8, 3) := dall dgX12_back_4 12 rfl
theorem dX12_back_108 : decode cX12_back 108 = .ok (.iload 6, 2) := dall dgX12_back_4 13 rfl
theorem dX12_back_110 : decode cX12_back 110 = .ok (.goto 5, 3) := dall dgX12_back_4 14 rfl
theorem dX12_back_113 : decode cX12_back 113 = .ok (.iload 4, 2) := dall dgX12_back_4 15 rfl
theorem dX12_back_115 : decode cX12_back 115 = .ok (.istore 4, 2) := dall dgX12_back_4 16 rfl
theorem dX12_back_117 : decode cX12_back 117 = .ok (.iload 7, 2) := dall dgX12_back_4 17 rfl
theorem dX12_back_119 : decode cX12_back 119 = .ok (.iload 5, 2) := dall dgX12_back_4 18 rfl
theorem dX12_back_121 : decode cX12_back 121 = .ok (.if_icmp .ge 8, 3) := dall dgX12_back_4 19 rfl
theorem dX12_back_124 : decode cX12_back 124 = .ok (.iload 7, 2) := dall dgX12_back_4 20 rfl
theorem dX12_back_126 : decode cX12_back 126 = .ok (.goto 5, 3) := dall dgX12_back_4 21 rfl
theorem dX12_back_129 : decode cX12_back 129 = .ok (.iload 5, 2) := dall dgX12_back_4 22 rfl
theorem dX12_back_131 : decode cX12_back 131 = .ok (.istore 5, 2) := dall dgX12_back_4 23 rfl
theorem dX12_back_133 : decode cX12_back 133 = .ok (.iinc 6 1, 3) := dall dgX12_back_4 24 rfl
theorem dX12_back_136 : decode cX12_back 136 = .ok (.goto (-94), 3) := dall dgX12_back_4 25 rfl
theorem dX12_back_139 : decode cX12_back 139 = .ok (.iload 4, 2) := dall dgX12_back_4 26 rfl
theorem dX12_back_141 : decode cX12_back 141 = .ok (.bipush (-9), 2) := dall dgX12_back_4 27 rfl
theorem dX12_back_143 : decode cX12_back 143 = .ok (.if_icmp .eq 8, 3) := dall dgX12_back_4 28 rfl
theorem dX12_back_146 : decode cX12_back 146 = .ok (.iload_n 2, 1) := dall dgX12_back_4 29 rfl
theorem dX12_back_147 : decode cX12_back 147 = .ok (.iconst 1, 1) := dall dgX12_back_4 30 rfl
theorem dX12_back_148 : decode cX12_back 148 = .ok (.if_icmp .ne 8, 3) := dall dgX12_back_4 31 rfl
theorem dX12_back_151 : decode cX12_back 151 = .ok (.iload 4, 2) := dall dgX12_back_4 32 rfl
theorem dX12_back_153 : decode cX12_back 153 = .ok (.goto 10, 3) := dall dgX12_back_4 33 rfl
theorem dX12_back_156 : decode cX12_back 156 = .ok (.aload_n 0, 1) := dall dgX12_back_4 34 rfl
theorem dX12_back_157 : decode cX12_back 157 = .ok (.getfield 84, 3) := dall dgX12_back_4 35 rfl
theorem dX12_back_160 : decode cX12_back 160 = .ok (.iload 4, 2) := dall dgX12_back_4 36 rfl
theorem dX12_back_162 : decode cX12_back 162 = .ok (.iaload, 1) := dall dgX12_back_4 37 rfl
theorem dX12_back_163 : decode cX12_back 163 = .ok (.ireturn, 1) := dall dgX12_back_4 38 rfl
def lgX12_bitsIn_5 : List (Nat × Instr × Nat) := [(0, .iconst 0, 1), (1, .istore_n 1, 1), (2, .iconst 0, 1), (3, .istore_n 2, 1), (4, .iload_n 2, 1), (5, .bipush 9, 2), (7, .if_icmp .ge 17, 3), (10, .iload_n 1, 1), (11, .iload_n 0, 1), (12, .iload_n 2, 1), (13, .ishr, 1), (14, .iconst 1, 1), (15, .iand, 1), (16, .iadd, 1), (17, .istore_n 1, 1), (18, .iinc 2 1, 3), (21, .goto (-17), 3), (24, .iload_n 1, 1), (25, .ireturn, 1)]
theorem dgX12_bitsIn_5 : ∀ q ∈ lgX12_bitsIn_5, decode cX12_bitsIn q.1 = .ok (q.2.1, q.2.2) := by decide +kernel
theorem dX12_bitsIn_0 : decode cX12_bitsIn 0 = .ok (.iconst 0, 1) := dall dgX12_bitsIn_5 0 rfl
theorem dX12_bitsIn_1 : decode cX12_bitsIn 1 = .ok (.istore_n 1, 1) := dall dgX12_bitsIn_5 1 rfl
theorem dX12_bitsIn_2 : decode cX12_bitsIn 2 = .ok (.iconst 0, 1) := dall dgX12_bitsIn_5 2 rfl
theorem dX12_bitsIn_3 : decode cX12_bitsIn 3 = .ok (.istore_n 2, 1) := dall dgX12_bitsIn_5 3 rfl
theorem dX12_bitsIn_4 : decode cX12_bitsIn 4 = .ok (.iload_n 2, 1) := dall dgX12_bitsIn_5 4 rfl
theorem dX12_bitsIn_5 : decode cX12_bitsIn 5 = .ok (.bipush 9, 2) := dall dgX12_bitsIn_5 5 rfl
theorem dX12_bitsIn_7 : decode cX12_bitsIn 7 = .ok (.if_icmp .ge 17, 3) := dall dgX12_bitsIn_5 6 rfl
theorem dX12_bitsIn_10 : decode cX12_bitsIn 10 = .ok (.iload_n 1, 1) := dall dgX12_bitsIn_5 7 rfl
theorem dX12_bitsIn_11 : decode cX12_bitsIn 11 = .ok (.iload_n 0, 1) := dall dgX12_bitsIn_5 8 rfl
theorem dX12_bitsIn_12 : decode cX12_bitsIn 12 = .ok (.iload_n 2, 1) := dall dgX12_bitsIn_5 9 rfl
theorem dX12_bitsIn_13 : decode cX12_bitsIn 13 = .ok (.ishr, 1) := dall dgX12_bitsIn_5 10 rfl
theorem dX12_bitsIn_14 : decode cX12_bitsIn 14 = .ok (.iconst 1, 1) := dall dgX12_bitsIn_5 11 rfl
theorem dX12_bitsIn_15 : decode cX12_bitsIn 15 = .ok (.iand, 1) := dall dgX12_bitsIn_5 12 rfl
theorem dX12_bitsIn_16 : decode cX12_bitsIn 16 = .ok (.iadd, 1) := dall dgX12_bitsIn_5 13 rfl
theorem dX12_bitsIn_17 : decode cX12_bitsIn 17 = .ok (.istore_n 1, 1) := dall dgX12_bitsIn_5 14 rfl
theorem dX12_bitsIn_18 : decode cX12_bitsIn 18 = .ok (.iinc 2 1, 3) := dall dgX12_bitsIn_5 15 rfl
theorem dX12_bitsIn_21 : decode cX12_bitsIn 21 = .ok (.goto (-17), 3) := dall dgX12_bitsIn_5 16 rfl
theorem dX12_bitsIn_24 : decode cX12_bitsIn 24 = .ok (.iload_n 1, 1) := dall dgX12_bitsIn_5 17 rfl
theorem dX12_bitsIn_25 : decode cX12_bitsIn 25 = .ok (.ireturn, 1) := dall dgX12_bitsIn_5 18 rfl
set_option maxRecDepth 20000 in
theorem ggX12_offsOf_X12_size : GoodIn wsX12_offsOf wsX12_size := goodIn_r _ [7] rfl (by decide +kernel)
set_option maxRecDepth 20000 in
theorem gX12_offsOf_X12_size : GoodIn wsX12_offsOf (va_wsS RX12 209 yX12_size wsX12_size) := goodIn_app (goodIn_of _ (by decide +kernel)) ggX12_offsOf_X12_size
def lgX12_offsOf_6 : List (Nat × Instr × Nat) := [(0, .iconst 0, 1), (1, .istore_n 3, 1), (2, .iconst 0, 1), (3, .istore 4, 2), (5, .iload 4, 2), (7, .aload_n 0, 1), (8, .getfield 191, 3), (11, .if_icmp .ge 64, 3), (14, .iconst 0, 1), (15, .istore 5, 2), (17, .iload 5, 2), (19, .iconst 4, 1), (20, .if_icmp .ge 49, 3), (23, .iload_n 1, 1), (24, .iload 4, 2), (26, .ishr, 1), (27, .iconst 1, 1), (28, .iand, 1), (29, .iconst 1, 1), (30, .if_icmp .ne 39, 3), (33, .iload_n 3, 1), (34, .aload_n 0, 1), (35, .getfield 48, 3), (38, .iconst 4, 1), (39, .iload 4, 2), (41, .imul, 1), (42, .iload 5, 2), (44, .iadd, 1), (45, .iaload, 1), (46, .aload_n 0, 1), (47, .getfield 87, 3), (50, .iconst 4, 1), (51, .iload_n 2, 1), (52, .imul, 1), (53, .iload 5, 2), (55, .iadd, 1), (56, .iaload, 1), (57, .isub, 1), (58, .invokestatic 209, 3), (61, .iadd, 1), (62, .istore_n 3, 1), (63, .iinc 5 1, 3), (66, .goto (-49), 3), (69, .iinc 4 1, 3), (72, .goto (-67), 3), (75, .iload_n 3, 1), (76, .ireturn, 1)]
theorem dgX12_offsOf_6 : ∀ q ∈ lgX12_offsOf_6, decode cX12_offsOf q.1 = .ok (q.2.1, q.2.2) := by decide +kernel
theorem dX12_offsOf_0 : decode cX12_offsOf 0 = .ok (.iconst 0, 1) := dall dgX12_offsOf_6 0 rfl
theorem dX12_offsOf_1 : decode cX12_offsOf 1 = .ok (.istore_n 3, 1) := dall dgX12_offsOf_6 1 rfl
theorem dX12_offsOf_2 : decode cX12_offsOf 2 = .ok (.iconst 0, 1) := dall dgX12_offsOf_6 2 rfl
theorem dX12_offsOf_3 : decode cX12_offsOf 3 = .ok (.istore 4, 2) := dall dgX12_offsOf_6 3 rfl
theorem dX12_offsOf_5 : decode cX12_offsOf 5 = .ok (.iload 4, 2) := dall dgX12_offsOf_6 4 rfl
theorem dX12_offsOf_7 : decode cX12_offsOf 7 = .ok (.aload_n 0, 1) := dall dgX12_offsOf_6 5 rfl
theorem dX12_offsOf_8 : decode cX12_offsOf 8 = .ok (.getfield 191, 3) := dall dgX12_offsOf_6 6 rfl
theorem dX12_offsOf_11 : decode cX12_offsOf 11 = .ok (.if_icmp .ge 64, 3) := dall dgX12_offsOf_6 7 rfl
theorem dX12_offsOf_14 : decode cX12_offsOf 14 = .ok (.iconst 0, 1) := dall dgX12_offsOf_6 8 rfl
theorem dX12_offsOf_15 : decode cX12_offsOf 15 = .ok (.istore 5, 2) := dall dgX12_offsOf_6 9 rfl
theorem dX12_offsOf_17 : decode cX12_offsOf 17 = .ok (.iload 5, 2) := dall dgX12_offsOf_6 10 rfl
theorem dX12_offsOf_19 : decode cX12_offsOf 19 = .ok (.iconst 4, 1) := dall dgX12_offsOf_6 11 rfl
theorem dX12_offsOf_20 : decode cX12_offsOf 20 = .ok (.if_icmp .ge 49, 3) := dall dgX12_offsOf_6 12 rfl
theorem dX12_offsOf_23 : decode cX12_offsOf 23 = .ok (.iload_n 1, 1) := dall dgX12_offsOf_6 13 rfl
theorem dX12_offsOf_24 : decode cX12_offsOf 24 = .ok (.iload 4, 2) := dall dgX12_offsOf_6 14 rfl
theorem dX12_offsOf_26 : decode cX12_offsOf 26 = .ok (.ishr, 1) := dall dgX12_offsOf_6 15 rfl
theorem dX12_offsOf_27 : decode cX12_offsOf 27 = .ok (.iconst 1, 1) := dall dgX12_offsOf_6 16 rfl
theorem dX12_offsOf_28 : decode cX12_offsOf 28 = .ok (.iand, 1) := dall dgX12_offsOf_6 17 rfl
theorem dX12_offsOf_29 : decode cX12_offsOf 29 = .ok (.iconst 1, 1) := dall dgX12_offsOf_6 18 rfl
theorem dX12_offsOf_30 : decode cX12_offsOf 30 = .ok (.if_icmp .ne 39, 3) := dall dgX12_offsOf_6 19 rfl
theorem dX12_offsOf_33 : decode cX12_offsOf 33 = .ok (.iload_n 3, 1) := dall dgX12_offsOf_6 20 rfl
theorem dX12_offsOf_34 : decode cX12_offsOf 34 = .ok (.aload_n 0, 1) := dall dgX12_offsOf_6 21 rfl
theorem dX12_offsOf_35 : decode cX12_offsOf 35 = .ok (.getfield 48, 3) := dall dgX12_offsOf_6 22 rfl
theorem dX12_offsOf_38 : decode cX12_offsOf 38 = .ok (.iconst 4, 1) := dall dgX12_offsOf_6 23 rfl
theorem dX12_offsOf_39 : decode cX12_offsOf 39 = .ok (.iload 4, 2) := dall dgX12_offsOf_6 24 rfl
theorem dX12_offsOf_41 : decode cX12_offsOf 41 = .ok (.imul, 1) := dall dgX12_offsOf_6 25 rfl
theorem dX12_offsOf_42 : decode cX12_offsOf 42 = .ok (.iload 5, 2) := dall dgX12_offsOf_6 26 rfl
theorem dX12_offsOf_44 : decode cX12_offsOf 44 = .ok (.iadd, 1) := dall dgX12_offsOf_6 27 rfl
theorem dX12_offsOf_45 : decode cX12_offsOf 45 = .ok (.iaload, 1) := dall dgX12_offsOf_6 28 rfl
theorem dX12_offsOf_46 : decode cX12_offsOf 46 = .ok (.aload_n 0, 1) := dall dgX12_offsOf_6 29 rfl
theorem dX12_offsOf_47 : decode cX12_offsOf 47 = .ok (.getfield 87, 3) := dall dgX12_offsOf_6 30 rfl
theorem dX12_offsOf_50 : decode cX12_offsOf 50 = .ok (.iconst 4, 1) := dall dgX12_offsOf_6 31 rfl
theorem dX12_offsOf_51 : decode cX12_offsOf 51 = .ok (.iload_n 2, 1) := dall dgX12_offsOf_6 32 rfl
theorem dX12_offsOf_52 : decode cX12_offsOf 52 = .ok (.imul, 1) := dall dgX12_offsOf_6 33 rfl
theorem dX12_offsOf_53 : decode cX12_offsOf 53 = .ok (.iload 5, 2) := dall dgX12_offsOf_6 34 rfl
theorem dX12_offsOf_55 : decode cX12_offsOf 55 = .ok (.iadd, 1) := dall dgX12_offsOf_6 35 rfl
theorem dX12_offsOf_56 : decode cX12_offsOf 56 = .ok (.iaload, 1) := dall dgX12_offsOf_6 36 rfl
theorem dX12_offsOf_57 : decode cX12_offsOf 57 = .ok (.isub, 1) := dall dgX12_offsOf_6 37 rfl
theorem dX12_offsOf_58 : decode cX12_offsOf 58 = .ok (.invokestatic 209, 3) := dall dgX12_offsOf_6 38 rfl
theorem dX12_offsOf_61 : decode cX12_offsOf 61 = .ok (.iadd, 1) := dall dgX12_offsOf_6 39 rfl
theorem dX12_offsOf_62 : decode cX12_offsOf 62 = .ok (.istore_n 3, 1) := dall dgX12_offsOf_6 40 rfl
theorem dX12_offsOf_63 : decode cX12_offsOf 63 = .ok (.iinc 5 1, 3) := dall dgX12_offsOf_6 41 rfl
theorem dX12_offsOf_66 : decode cX12_offsOf 66 = .ok (.goto (-49), 3) := dall dgX12_offsOf_6 42 rfl
theorem dX12_offsOf_69 : decode cX12_offsOf 69 = .ok (.iinc 4 1, 3) := dall dgX12_offsOf_6 43 rfl
theorem dX12_offsOf_72 : decode cX12_offsOf 72 = .ok (.goto (-67), 3) := dall dgX12_offsOf_6 44 rfl
theorem dX12_offsOf_75 : decode cX12_offsOf 75 = .ok (.iload_n 3, 1) := dall dgX12_offsOf_6 45 rfl
theorem dX12_offsOf_76 : decode cX12_offsOf 76 = .ok (.ireturn, 1) := dall dgX12_offsOf_6 46 rfl
set_option maxRecDepth 20000 in
theorem ggX12_odds_X12_in : GoodIn wsX12_odds wsX12_in := goodIn_r _ [7] rfl (by decide +kernel)
set_option maxRecDepth 20000 in
theorem gX12_odds_X12_in : GoodIn wsX12_odds (va_wsS RX12 100 yX12_in wsX12_in) := goodIn_app (goodIn_of _ (by decide +kernel)) ggX12_odds_X12_in
set_option maxRecDepth 20000 in
theorem ggX12_odds_X12_wrong : GoodIn wsX12_odds wsX12_wrong := goodIn_r _ [11, 3, 2, 4, 5, 6, 7, 12, 13, 14, 15, 16, 17, 18, 19, 20, 21, 22, 23, 24, 25, 26, 27, 28, 29, 30, 31, 32, 33, 34, 35, 36, 37, 38, 39, 40, 41, 42, 43, 44, 45, 46, 47, 48, 49, 50, 51, 52, 53, 54, 55, 56, 57, 58, 59, 60, 61, 62, 63, 64, 65, 66, 67, 68, 69, 70, 71, 72, 73, 74, 75, 76, 77, 78, 79, 80, 81, 82, 83, 84, 85, 86, 87, 88, 89, 90, 91, 100, 101, 102, 103, 104, 105, 106, 107, 108, 109, 110, 111, 112, 113, 114, 115, 116, 117, 118, 119, 120, 121, 122, 123, 124, 125, 126, 127, 128, 129, 130, 131, 132, 133, 134, 135, 136, 137, 138, 139, 140, 141, 142, 143, 144] rfl (by decide +kernel)
set_option maxRecDepth 20000 in
theorem gX12_odds_X12_wrong : GoodIn wsX12_odds (wsV RX12 249 RX12 yX12_wrong wsX12_wrong) := goodIn_app (goodIn_of _ (by decide +kernel)) ggX12_odds_X12_wrong
set_option maxRecDepth 20000 in
theorem ggX12_odds_X12_bitsIn : GoodIn wsX12_odds wsX12_bitsIn := goodIn_r _ [94] rfl (by decide +kernel)
set_option maxRecDepth 20000 in
theorem gX12_odds_X12_bitsIn : GoodIn wsX12_odds (va_wsS RX12 255 yX12_bitsIn wsX12_bitsIn) := goodIn_app (goodIn_of _ (by decide +kernel)) ggX12_odds_X12_bitsIn
set_option maxRecDepth 20000 in
theorem ggX12_odds_X12_offsOf : GoodIn wsX12_odds wsX12_offsOf := goodIn_r _ [98, 2, 44, 99, 65, 66, 6, 67, 100, 101, 102, 103, 104, 105, 106, 107, 108, 109, 110, 111, 112, 113, 114, 115, 116, 117, 118, 119, 120, 121, 122, 123, 124, 125, 126, 127, 128, 129, 130, 131, 132, 133, 134, 135, 136, 137, 138, 139, 140, 141, 142, 143, 144] rfl (by decide +kernel)
set_option maxRecDepth 20000 in
theorem gX12_odds_X12_offsOf : GoodIn wsX12_odds (wsV RX12 258 RX12 yX12_offsOf wsX12_offsOf) := goodIn_app (goodIn_of _ (by decide +kernel)) ggX12_odds_X12_offsOf
def lgX12_odds_7 : List (Nat × Instr × Nat) := [(0, .iload_n 2, 1), (1, .iconst 0, 1), (2, .aload_n 0, 1), (3, .getfield 252, 3), (6, .iconst 1, 1), (7, .isub, 1), (8, .invokestatic 100, 3), (11, .ifCond .eq 20, 3), (14, .iload_n 3, 1), (15, .iconst 0, 1), (16, .iconst 1, 1), (17, .invokestatic 100, 3), (20, .ifCond .eq 11, 3), (23, .aload_n 0, 1), (24, .iload_n 1, 1), (25, .invokevirtual 249, 3), (28, .goto 4, 3), (31, .iconst (-1), 1), (32, .istore 4, 2), (34, .iload 4, 2), (36, .ifCond .eq 6, 3), (39, .iload 4, 2), (41, .ireturn, 1), (42, .iconst 0, 1), (43, .istore 5, 2), (45, .iconst 0, 1), (46, .istore 6, 2), (48, .iload 6, 2), (50, .aload_n 0, 1), (51, .getfield 191, 3), (54, .if_icmp .ge 33, 3), (57, .iload 5, 2), (59, .aload_n 0, 1), (60, .getfield 72, 3), (63, .iload 6, 2), (65, .iaload, 1), (66, .iload_n 1, 1), (67, .if_icmp .ne 10, 3), (70, .iconst 1, 1), (71, .iload 6, 2), (73, .ishl, 1), (74, .goto 4, 3), (77, .iconst 0, 1), (78, .ior, 1), (79, .istore 5, 2), (81, .iinc 6 1, 3), (84, .goto (-36), 3), (87, .iconst 0, 1), (88, .istore 6, 2), (90, .iconst 0, 1)]
theorem dgX12_odds_7 : ∀ q ∈ lgX12_odds_7, decode cX12_odds q.1 = .ok (q.2.1, q.2.2) := by decide +kernel
theorem dX12_odds_0 : decode cX12_odds 0 = .ok (.iload_n 2, 1) := dall dgX12_odds_7 0 rfl
theorem dX12_odds_1 : decode cX12_odds 1 = .ok (.iconst 0, 1) := dall dgX12_odds_7 1 rfl
theorem dX12_odds_2 : decode cX12_odds 2 = .ok (.aload_n 0, 1) := dall dgX12_odds_7 2 rfl
theorem dX12_odds_3 : decode cX12_odds 3 = .ok (.getfield 252, 3) := dall dgX12_odds_7 3 rfl
theorem dX12_odds_6 : decode cX12_odds 6 = .ok (.iconst 1, 1) := dall dgX12_odds_7 4 rfl
theorem dX12_odds_7 : decode cX12_odds 7 = .ok (.isub, 1) := dall dgX12_odds_7 5 rfl
theorem dX12_odds_8 : decode cX12_odds 8 = .ok (.invokestatic 100, 3) := dall dgX12_odds_7 6 rfl
theorem dX12_odds_11 : decode cX12_odds 11 = .ok (.ifCond .eq 20, 3) := dall dgX12_odds_7 7 rfl
theorem dX12_odds_14 : decode cX12_odds 14 = .ok (.iload_n 3, 1) := dall dgX12_odds_7 8 rfl
theorem dX12_odds_15 : decode cX12_odds 15 = .ok (.iconst 0, 1) := dall dgX12_odds_7 9 rfl
theorem dX12_odds_16 : decode cX12_odds 16 = .ok (.iconst 1, 1) := dall dgX12_odds_7 10 rfl
theorem dX12_odds_17 : decode cX12_odds 17 = .ok (.invokestatic 100, 3) := dall dgX12_odds_7 11 rfl
theorem dX12_odds_20 : decode cX12_odds 20 = .ok (.ifCond .eq 11, 3) := dall dgX12_odds_7 12 rfl
theorem dX12_odds_23 : decode cX12_odds 23 = .ok (.aload_n 0, 1) := dall dgX12_odds_7 13 rfl
theorem dX12_odds_24 : decode cX12_odds 24 = .ok (.iload_n 1, 1) := dall dgX12_odds_7 14 rfl
theorem dX12_odds_25 : decode cX12_odds 25 = .ok (.invokevirtual 249, 3) := dall dgX12_odds_7 15 rfl
theorem dX12_odds_28 : decode cX12_odds 28 = .ok (.goto 4, 3) := dall dgX12_odds_7 16 rfl
theorem dX12_odds_31 : decode cX12_odds 31 = .ok (.iconst (-1), 1) := dall dgX12_odds_7 17 rfl
theorem dX12_odds_32 : decode cX12_odds 32 = .ok (.istore 4, 2) := dall dgX12_odds_7 18 rfl
theorem dX12_odds_34 : decode cX12_odds 34 = .ok (.iload 4, 2) := dall dgX12_odds_7 19 rfl
theorem dX12_odds_36 : decode cX12_odds 36 = .ok (.ifCond .eq 6, 3) := dall dgX12_odds_7 20 rfl
theorem dX12_odds_39 : decode cX12_odds 39 = .ok (.iload 4, 2) := dall dgX12_odds_7 21 rfl
theorem dX12_odds_41 : decode cX12_odds 41 = .ok (.ireturn, 1) := dall dgX12_odds_7 22 rfl
theorem dX12_odds_42 : decode cX12_odds 42 = .ok (.iconst 0, 1) := dall dgX12_odds_7 23 rfl
theorem dX12_odds_43 : decode cX12_odds 43 = .ok (.istore 5, 2) := dall dgX12_odds_7 24 rfl
theorem dX12_odds_45 : decode cX12_odds 45 = .ok (.iconst 0, 1) := dall dgX12_odds_7 25 rfl
theorem dX12_odds_46 : decode cX12_odds 46 = .ok (.istore 6, 2) := dall dgX12_odds_7 26 rfl
theorem dX12_odds_48 : decode cX12_odds 48 = .ok (.iload 6, 2) := dall dgX12_odds_7 27 rfl
theorem dX12_odds_50 : decode cX12_odds 50 = .ok (.aload_n 0, 1) := dall dgX12_odds_7 28 rfl
theorem dX12_odds_51 : decode cX12_odds 51 = .ok (.getfield 191, 3) := dall dgX12_odds_7 29 rfl
theorem dX12_odds_54 : decode cX12_odds 54 = .ok (.if_icmp .ge 33, 3) := dall dgX12_odds_7 30 rfl
theorem dX12_odds_57 : decode cX12_odds 57 = .ok (.iload 5, 2) := dall dgX12_odds_7 31 rfl
theorem dX12_odds_59 : decode cX12_odds 59 = .ok (.aload_n 0, 1) := dall dgX12_odds_7 32 rfl
theorem dX12_odds_60 : decode cX12_odds 60 = .ok (.getfield 72, 3) := dall dgX12_odds_7 33 rfl
theorem dX12_odds_63 : decode cX12_odds 63 = .ok (.iload 6, 2) := dall dgX12_odds_7 34 rfl
theorem dX12_odds_65 : decode cX12_odds 65 = .ok (.iaload, 1) := dall dgX12_odds_7 35 rfl
theorem dX12_odds_66 : decode cX12_odds 66 = .ok (.iload_n 1, 1) := dall dgX12_odds_7 36 rfl
theorem dX12_odds_67 : decode cX12_odds 67 = .ok (.if_icmp .ne 10, 3) := dall dgX12_odds_7 37 rfl
theorem dX12_odds_70 : decode cX12_odds 70 = .ok (.iconst 1, 1) := dall dgX12_odds_7 38 rfl
theorem dX12_odds_71 : decode cX12_odds 71 = .ok (.iload 6, 2) := dall dgX12_odds_7 39 rfl
theorem dX12_odds_73 : decode cX12_odds 73 = .ok (.ishl, 1) := dall dgX12_odds_7 40 rfl
theorem dX12_odds_74 : decode cX12_odds 74 = .ok (.goto 4, 3) := dall dgX12_odds_7 41 rfl
theorem dX12_odds_77 : decode cX12_odds 77 = .ok (.iconst 0, 1) := dall dgX12_odds_7 42 rfl
theorem dX12_odds_78 : decode cX12_odds 78 = .ok (.ior, 1) := dall dgX12_odds_7 43 rfl
theorem dX12_odds_79 : decode cX12_odds 79 = .ok (.istore 5, 2) := dall dgX12_odds_7 44 rfl
theorem dX12_odds_81 : decode cX12_odds 81 = .ok (.iinc 6 1, 3) := dall dgX12_odds_7 45 rfl
theorem dX12_odds_84 : decode cX12_odds 84 = .ok (.goto (-36), 3) := dall dgX12_odds_7 46 rfl
theorem dX12_odds_87 : decode cX12_odds 87 = .ok (.iconst 0, 1) := dall dgX12_odds_7 47 rfl
theorem dX12_odds_88 : decode cX12_odds 88 = .ok (.istore 6, 2) := dall dgX12_odds_7 48 rfl
theorem dX12_odds_90 : decode cX12_odds 90 = .ok (.iconst 0, 1) := dall dgX12_odds_7 49 rfl
def lgX12_odds_8 : List (Nat × Instr × Nat) := [(91, .istore 7, 2), (93, .iconst 0, 1), (94, .istore 8, 2), (96, .iload 8, 2), (98, .iconst 1, 1), (99, .aload_n 0, 1), (100, .getfield 191, 3), (103, .ishl, 1), (104, .if_icmp .ge 52, 3), (107, .iload 8, 2), (109, .invokestatic 255, 3), (112, .iload 5, 2), (114, .invokestatic 255, 3), (117, .if_icmp .ne 33, 3), (120, .iinc 6 1, 3), (123, .iload 7, 2), (125, .aload_n 0, 1), (126, .iload 8, 2), (128, .iload_n 2, 1), (129, .invokevirtual 258, 3), (132, .aload_n 0, 1), (133, .iload 5, 2), (135, .iload_n 2, 1), (136, .invokevirtual 258, 3), (139, .if_icmp .gt 7, 3), (142, .iconst 1, 1), (143, .goto 4, 3), (146, .iconst 0, 1), (147, .iadd, 1), (148, .istore 7, 2), (150, .iinc 8 1, 3), (153, .goto (-57), 3), (156, .iload_n 3, 1), (157, .ifCond .ne 8, 3), (160, .iload 7, 2), (162, .goto 5, 3), (165, .iload 6, 2), (167, .ireturn, 1)]
theorem dgX12_odds_8 : ∀ q ∈ lgX12_odds_8, decode cX12_odds q.1 = .ok (q.2.1, q.2.2) := by decide +kernel
theorem dX12_odds_91 : decode cX12_odds 91 = .ok (.istore 7, 2) := dall dgX12_odds_8 0 rfl
theorem dX12_odds_93 : decode cX12_odds 93 = .ok (.iconst 0, 1) := dall dgX12_odds_8 1 rfl
theorem dX12_odds_94 : decode cX12_odds 94 = .ok (.istore 8, 2) := dall dgX12_odds_8 2 rfl
theorem dX12_odds_96 : decode cX12_odds 96 = .ok (.iload 8, 2) := dall dgX12_odds_8 3 rfl
theorem dX12_odds_98 : decode cX12_odds 98 = .ok (.iconst 1, 1) := dall dgX12_odds_8 4 rfl
theorem dX12_odds_99 : decode cX12_odds 99 = .ok (.aload_n 0, 1) := dall dgX12_odds_8 5 rfl
theorem dX12_odds_100 : decode cX12_odds 100 = .ok (.getfield 191, 3) := dall dgX12_odds_8 6 rfl
theorem dX12_odds_103 : decode cX12_odds 103 = .ok (.ishl, 1) := dall dgX12_odds_8 7 rfl
theorem dX12_odds_104 : decode cX12_odds 104 = .ok (.if_icmp .ge 52, 3) := dall dgX12_odds_8 8 rfl
theorem dX12_odds_107 : decode cX12_odds 107 = .ok (.iload 8, 2) := dall dgX12_odds_8 9 rfl
theorem dX12_odds_109 : decode cX12_odds 109 = .ok (.invokestatic 255, 3) := dall dgX12_odds_8 10 rfl
theorem dX12_odds_112 : decode cX12_odds 112 = .ok (.iload 5, 2) := dall dgX12_odds_8 11 rfl
theorem dX12_odds_114 : decode cX12_odds 114 = .ok (.invokestatic 255, 3) := dall dgX12_odds_8 12 rfl
theorem dX12_odds_117 : decode cX12_odds 117 = .ok (.if_icmp .ne 33, 3) := dall dgX12_odds_8 13 rfl
theorem dX12_odds_120 : decode cX12_odds 120 = .ok (.iinc 6 1, 3) := dall dgX12_odds_8 14 rfl
theorem dX12_odds_123 : decode cX12_odds 123 = .ok (.iload 7, 2) := dall dgX12_odds_8 15 rfl
theorem dX12_odds_125 : decode cX12_odds 125 = .ok (.aload_n 0, 1) := dall dgX12_odds_8 16 rfl
theorem dX12_odds_126 : decode cX12_odds 126 = .ok (.iload 8, 2) := dall dgX12_odds_8 17 rfl
theorem dX12_odds_128 : decode cX12_odds 128 = .ok (.iload_n 2, 1) := dall dgX12_odds_8 18 rfl
theorem dX12_odds_129 : decode cX12_odds 129 = .ok (.invokevirtual 258, 3) := dall dgX12_odds_8 19 rfl
theorem dX12_odds_132 : decode cX12_odds 132 = .ok (.aload_n 0, 1) := dall dgX12_odds_8 20 rfl
theorem dX12_odds_133 : decode cX12_odds 133 = .ok (.iload 5, 2) := dall dgX12_odds_8 21 rfl
theorem dX12_odds_135 : decode cX12_odds 135 = .ok (.iload_n 2, 1) := dall dgX12_odds_8 22 rfl
theorem dX12_odds_136 : decode cX12_odds 136 = .ok (.invokevirtual 258, 3) := dall dgX12_odds_8 23 rfl
theorem dX12_odds_139 : decode cX12_odds 139 = .ok (.if_icmp .gt 7, 3) := dall dgX12_odds_8 24 rfl
theorem dX12_odds_142 : decode cX12_odds 142 = .ok (.iconst 1, 1) := dall dgX12_odds_8 25 rfl
theorem dX12_odds_143 : decode cX12_odds 143 = .ok (.goto 4, 3) := dall dgX12_odds_8 26 rfl
theorem dX12_odds_146 : decode cX12_odds 146 = .ok (.iconst 0, 1) := dall dgX12_odds_8 27 rfl
theorem dX12_odds_147 : decode cX12_odds 147 = .ok (.iadd, 1) := dall dgX12_odds_8 28 rfl
theorem dX12_odds_148 : decode cX12_odds 148 = .ok (.istore 7, 2) := dall dgX12_odds_8 29 rfl
theorem dX12_odds_150 : decode cX12_odds 150 = .ok (.iinc 8 1, 3) := dall dgX12_odds_8 30 rfl
theorem dX12_odds_153 : decode cX12_odds 153 = .ok (.goto (-57), 3) := dall dgX12_odds_8 31 rfl
theorem dX12_odds_156 : decode cX12_odds 156 = .ok (.iload_n 3, 1) := dall dgX12_odds_8 32 rfl
theorem dX12_odds_157 : decode cX12_odds 157 = .ok (.ifCond .ne 8, 3) := dall dgX12_odds_8 33 rfl
theorem dX12_odds_160 : decode cX12_odds 160 = .ok (.iload 7, 2) := dall dgX12_odds_8 34 rfl
theorem dX12_odds_162 : decode cX12_odds 162 = .ok (.goto 5, 3) := dall dgX12_odds_8 35 rfl
theorem dX12_odds_165 : decode cX12_odds 165 = .ok (.iload 6, 2) := dall dgX12_odds_8 36 rfl
theorem dX12_odds_167 : decode cX12_odds 167 = .ok (.ireturn, 1) := dall dgX12_odds_8 37 rfl
def lgX12_heapOfRow_9 : List (Nat × Instr × Nat) := [(0, .aload_n 0, 1), (1, .getfield 45, 3), (4, .iload_n 1, 1), (5, .iaload, 1), (6, .bipush (-9), 2), (8, .if_icmp .ne 8, 3), (11, .bipush (-9), 2), (13, .goto 14, 3), (16, .aload_n 0, 1), (17, .getfield 72, 3), (20, .aload_n 0, 1), (21, .getfield 45, 3), (24, .iload_n 1, 1), (25, .iaload, 1), (26, .iaload, 1), (27, .ireturn, 1)]
theorem dgX12_heapOfRow_9 : ∀ q ∈ lgX12_heapOfRow_9, decode cX12_heapOfRow q.1 = .ok (q.2.1, q.2.2) := by decide +kernel
theorem dX12_heapOfRow_0 : decode cX12_heapOfRow 0 = .ok (.aload_n 0, 1) := dall dgX12_heapOfRow_9 0 rfl
theorem dX12_heapOfRow_1 : decode cX12_heapOfRow 1 = .ok (.getfield 45, 3) := dall dgX12_heapOfRow_9 1 rfl
theorem dX12_heapOfRow_4 : decode cX12_heapOfRow 4 = .ok (.iload_n 1, 1) := dall dgX12_heapOfRow_9 2 rfl
theorem dX12_heapOfRow_5 : decode cX12_heapOfRow 5 = .ok (.iaload, 1) := dall dgX12_heapOfRow_9 3 rfl
theorem dX12_heapOfRow_6 : decode cX12_heapOfRow 6 = .ok (.bipush (-9), 2) := dall dgX12_heapOfRow_9 4 rfl
theorem dX12_heapOfRow_8 : decode cX12_heapOfRow 8 = .ok (.if_icmp .ne 8, 3) := dall dgX12_heapOfRow_9 5 rfl
theorem dX12_heapOfRow_11 : decode cX12_heapOfRow 11 = .ok (.bipush (-9), 2) := dall dgX12_heapOfRow_9 6 rfl
theorem dX12_heapOfRow_13 : decode cX12_heapOfRow 13 = .ok (.goto 14, 3) := dall dgX12_heapOfRow_9 7 rfl
theorem dX12_heapOfRow_16 : decode cX12_heapOfRow 16 = .ok (.aload_n 0, 1) := dall dgX12_heapOfRow_9 8 rfl
theorem dX12_heapOfRow_17 : decode cX12_heapOfRow 17 = .ok (.getfield 72, 3) := dall dgX12_heapOfRow_9 9 rfl
theorem dX12_heapOfRow_20 : decode cX12_heapOfRow 20 = .ok (.aload_n 0, 1) := dall dgX12_heapOfRow_9 10 rfl
theorem dX12_heapOfRow_21 : decode cX12_heapOfRow 21 = .ok (.getfield 45, 3) := dall dgX12_heapOfRow_9 11 rfl
theorem dX12_heapOfRow_24 : decode cX12_heapOfRow 24 = .ok (.iload_n 1, 1) := dall dgX12_heapOfRow_9 12 rfl
theorem dX12_heapOfRow_25 : decode cX12_heapOfRow 25 = .ok (.iaload, 1) := dall dgX12_heapOfRow_9 13 rfl
theorem dX12_heapOfRow_26 : decode cX12_heapOfRow 26 = .ok (.iaload, 1) := dall dgX12_heapOfRow_9 14 rfl
theorem dX12_heapOfRow_27 : decode cX12_heapOfRow 27 = .ok (.ireturn, 1) := dall dgX12_heapOfRow_9 15 rfl
set_option maxRecDepth 20000 in
theorem ggX12_show_X12_findBest : GoodIn wsX12_show wsX12_findBest := goodIn_r _ [9, 10, 11, 12, 13, 14, 15, 16, 8, 17, 18, 19, 1, 20, 21, 22, 23, 24, 25, 26, 27, 28, 29, 30, 31, 32, 33, 34, 35, 36, 37, 38, 39, 40, 41, 42, 43, 44, 45, 46, 47, 48, 49, 50, 51, 52, 53, 54, 55, 56, 57, 58, 59, 60, 61, 62, 63, 64, 65, 66, 67, 68, 69, 70, 71, 72, 73, 74, 75, 76, 77, 78, 79, 80, 81, 82, 83, 84, 89, 90, 91, 92, 93, 94, 95, 96, 97, 98, 99, 100, 101, 102, 103, 104, 105, 106, 107, 108, 109, 110, 111, 112, 113, 114, 115, 116, 117, 118, 119, 120, 121, 122, 123, 124, 125, 126, 127, 128, 129, 130, 131, 132, 133] rfl (by decide +kernel)
set_option maxRecDepth 20000 in
theorem gX12_show_X12_findBest : GoodIn wsX12_show (wsV RX12 240 RX12 yX12_findBest wsX12_findBest) := goodIn_app (goodIn_of _ (by decide +kernel)) ggX12_show_X12_findBest
set_option maxRecDepth 20000 in
theorem ggX12_show_X12_heapOfRow : GoodIn wsX12_show wsX12_heapOfRow := goodIn_r _ [88, 20, 13, 89, 90, 91, 92, 93, 94, 95, 96, 97, 98, 99, 100, 101, 102, 103, 104, 105, 106, 107, 108, 109, 110, 111, 112, 113, 114, 115, 116, 117, 118, 119, 120, 121, 122, 123, 124, 125, 126, 127, 128, 129, 130, 131, 132, 133] rfl (by decide +kernel)
set_option maxRecDepth 20000 in
theorem gX12_show_X12_heapOfRow : GoodIn wsX12_show (wsV RX12 261 RX12 yX12_heapOfRow wsX12_heapOfRow) := goodIn_app (goodIn_of _ (by decide +kernel)) ggX12_show_X12_heapOfRow
def lgX12_show_10 : List (Nat × Instr × Nat) := [(0, .aload_n 0, 1), (1, .invokevirtual 240, 3), (4, .ifCond .ne 6, 3), (7, .bipush (-2), 2), (9, .ireturn, 1), (10, .iconst 0, 1), (11, .istore_n 1, 1), (12, .iload_n 1, 1), (13, .aload_n 0, 1), (14, .getfield 156, 3), (17, .if_icmp .ge 20, 3), (20, .aload_n 0, 1), (21, .getfield 36, 3), (24, .iload_n 1, 1), (25, .aload_n 0, 1), (26, .iload_n 1, 1), (27, .invokevirtual 261, 3), (30, .iastore, 1), (31, .iinc 1 1, 3), (34, .goto (-22), 3), (37, .aload_n 0, 1), (38, .aload_n 0, 1), (39, .getfield 156, 3), (42, .putfield 264, 3), (45, .aload_n 0, 1), (46, .iconst 1, 1), (47, .putfield 174, 3), (50, .aload_n 0, 1), (51, .getfield 156, 3), (54, .ireturn, 1)]
theorem dgX12_show_10 : ∀ q ∈ lgX12_show_10, decode cX12_show q.1 = .ok (q.2.1, q.2.2) := by decide +kernel
theorem dX12_show_0 : decode cX12_show 0 = .ok (.aload_n 0, 1) := dall dgX12_show_10 0 rfl
theorem dX12_show_1 : decode cX12_show 1 = .ok (.invokevirtual 240, 3) := dall dgX12_show_10 1 rfl
theorem dX12_show_4 : decode cX12_show 4 = .ok (.ifCond .ne 6, 3) := dall dgX12_show_10 2 rfl
theorem dX12_show_7 : decode cX12_show 7 = .ok (.bipush (-2), 2) := dall dgX12_show_10 3 rfl
theorem dX12_show_9 : decode cX12_show 9 = .ok (.ireturn, 1) := dall dgX12_show_10 4 rfl
theorem dX12_show_10 : decode cX12_show 10 = .ok (.iconst 0, 1) := dall dgX12_show_10 5 rfl
theorem dX12_show_11 : decode cX12_show 11 = .ok (.istore_n 1, 1) := dall dgX12_show_10 6 rfl
theorem dX12_show_12 : decode cX12_show 12 = .ok (.iload_n 1, 1) := dall dgX12_show_10 7 rfl
theorem dX12_show_13 : decode cX12_show 13 = .ok (.aload_n 0, 1) := dall dgX12_show_10 8 rfl
theorem dX12_show_14 : decode cX12_show 14 = .ok (.getfield 156, 3) := dall dgX12_show_10 9 rfl
theorem dX12_show_17 : decode cX12_show 17 = .ok (.if_icmp .ge 20, 3) := dall dgX12_show_10 10 rfl
theorem dX12_show_20 : decode cX12_show 20 = .ok (.aload_n 0, 1) := dall dgX12_show_10 11 rfl
theorem dX12_show_21 : decode cX12_show 21 = .ok (.getfield 36, 3) := dall dgX12_show_10 12 rfl
theorem dX12_show_24 : decode cX12_show 24 = .ok (.iload_n 1, 1) := dall dgX12_show_10 13 rfl
theorem dX12_show_25 : decode cX12_show 25 = .ok (.aload_n 0, 1) := dall dgX12_show_10 14 rfl
theorem dX12_show_26 : decode cX12_show 26 = .ok (.iload_n 1, 1) := dall dgX12_show_10 15 rfl
theorem dX12_show_27 : decode cX12_show 27 = .ok (.invokevirtual 261, 3) := dall dgX12_show_10 16 rfl
theorem dX12_show_30 : decode cX12_show 30 = .ok (.iastore, 1) := dall dgX12_show_10 17 rfl
theorem dX12_show_31 : decode cX12_show 31 = .ok (.iinc 1 1, 3) := dall dgX12_show_10 18 rfl
theorem dX12_show_34 : decode cX12_show 34 = .ok (.goto (-22), 3) := dall dgX12_show_10 19 rfl
theorem dX12_show_37 : decode cX12_show 37 = .ok (.aload_n 0, 1) := dall dgX12_show_10 20 rfl
theorem dX12_show_38 : decode cX12_show 38 = .ok (.aload_n 0, 1) := dall dgX12_show_10 21 rfl
theorem dX12_show_39 : decode cX12_show 39 = .ok (.getfield 156, 3) := dall dgX12_show_10 22 rfl
theorem dX12_show_42 : decode cX12_show 42 = .ok (.putfield 264, 3) := dall dgX12_show_10 23 rfl
theorem dX12_show_45 : decode cX12_show 45 = .ok (.aload_n 0, 1) := dall dgX12_show_10 24 rfl
theorem dX12_show_46 : decode cX12_show 46 = .ok (.iconst 1, 1) := dall dgX12_show_10 25 rfl
theorem dX12_show_47 : decode cX12_show 47 = .ok (.putfield 174, 3) := dall dgX12_show_10 26 rfl
theorem dX12_show_50 : decode cX12_show 50 = .ok (.aload_n 0, 1) := dall dgX12_show_10 27 rfl
theorem dX12_show_51 : decode cX12_show 51 = .ok (.getfield 156, 3) := dall dgX12_show_10 28 rfl
theorem dX12_show_54 : decode cX12_show 54 = .ok (.ireturn, 1) := dall dgX12_show_10 29 rfl
set_option maxRecDepth 20000 in
theorem ggX12_otherwise_X12_findBest : GoodIn wsX12_otherwise wsX12_findBest := goodIn_r _ [9, 10, 11, 12, 13, 14, 15, 16, 8, 17, 18, 19, 3, 20, 21, 22, 23, 24, 25, 26, 27, 28, 29, 30, 31, 32, 33, 34, 35, 36, 37, 38, 39, 40, 41, 42, 43, 44, 45, 46, 47, 48, 49, 50, 51, 52, 53, 54, 55, 56, 57, 58, 59, 60, 61, 62, 63, 64, 65, 66, 67, 68, 69, 70, 71, 72, 73, 74, 75, 76, 77, 78, 79, 80, 81, 82, 83, 84, 89, 90, 91, 92, 93, 94, 95, 96, 97, 98, 99, 100, 101, 102, 103, 104, 105, 106, 107, 108, 109, 110, 111, 112, 113, 114, 115, 116, 117, 118, 119, 120, 121, 122, 123, 124, 125, 126, 127, 128, 129, 130, 131, 132, 133] rfl (by decide +kernel)
set_option maxRecDepth 20000 in
theorem gX12_otherwise_X12_findBest : GoodIn wsX12_otherwise (wsV RX12 240 RX12 yX12_findBest wsX12_findBest) := goodIn_app (goodIn_of _ (by decide +kernel)) ggX12_otherwise_X12_findBest
set_option maxRecDepth 20000 in
theorem ggX12_otherwise_X12_heapOfRow : GoodIn wsX12_otherwise wsX12_heapOfRow := goodIn_r _ [88, 20, 13, 89, 90, 91, 92, 93, 94, 95, 96, 97, 98, 99, 100, 101, 102, 103, 104, 105, 106, 107, 108, 109, 110, 111, 112, 113, 114, 115, 116, 117, 118, 119, 120, 121, 122, 123, 124, 125, 126, 127, 128, 129, 130, 131, 132, 133] rfl (by decide +kernel)
set_option maxRecDepth 20000 in
theorem gX12_otherwise_X12_heapOfRow : GoodIn wsX12_otherwise (wsV RX12 261 RX12 yX12_heapOfRow wsX12_heapOfRow) := goodIn_app (goodIn_of _ (by decide +kernel)) ggX12_otherwise_X12_heapOfRow
def lgX12_otherwise_11 : List (Nat × Instr × Nat) := [(0, .aload_n 0, 1), (1, .getfield 174, 3), (4, .ifCond .eq 10, 3), (7, .aload_n 0, 1), (8, .invokevirtual 240, 3), (11, .ifCond .ne 6, 3), (14, .bipush (-2), 2), (16, .ireturn, 1), (17, .iconst 0, 1), (18, .istore_n 1, 1), (19, .iconst 0, 1), (20, .istore_n 2, 1), (21, .iload_n 2, 1), (22, .aload_n 0, 1), (23, .getfield 264, 3), (26, .if_icmp .ge 39, 3), (29, .iload_n 2, 1), (30, .aload_n 0, 1), (31, .getfield 156, 3), (34, .if_icmp .ge 31, 3), (37, .iload_n 1, 1), (38, .aload_n 0, 1), (39, .getfield 36, 3), (42, .iload_n 2, 1), (43, .iaload, 1), (44, .aload_n 0, 1), (45, .iload_n 2, 1), (46, .invokevirtual 261, 3), (49, .if_icmp .ne 7, 3), (52, .iconst 0, 1), (53, .goto 4, 3), (56, .iconst 1, 1), (57, .iadd, 1), (58, .istore_n 1, 1), (59, .iinc 2 1, 3), (62, .goto (-41), 3), (65, .iload_n 1, 1), (66, .ireturn, 1)]
theorem dgX12_otherwise_11 : ∀ q ∈ lgX12_otherwise_11, decode cX12_otherwise q.1 = .ok (q.2.1, q.2.2) := by decide +kernel
theorem dX12_otherwise_0 : decode cX12_otherwise 0 = .ok (.aload_n 0, 1) := dall dgX12_otherwise_11 0 rfl
theorem dX12_otherwise_1 : decode cX12_otherwise 1 = .ok (.getfield 174, 3) := dall dgX12_otherwise_11 1 rfl
theorem dX12_otherwise_4 : decode cX12_otherwise 4 = .ok (.ifCond .eq 10, 3) := dall dgX12_otherwise_11 2 rfl
theorem dX12_otherwise_7 : decode cX12_otherwise 7 = .ok (.aload_n 0, 1) := dall dgX12_otherwise_11 3 rfl
theorem dX12_otherwise_8 : decode cX12_otherwise 8 = .ok (.invokevirtual 240, 3) := dall dgX12_otherwise_11 4 rfl
theorem dX12_otherwise_11 : decode cX12_otherwise 11 = .ok (.ifCond .ne 6, 3) := dall dgX12_otherwise_11 5 rfl
theorem dX12_otherwise_14 : decode cX12_otherwise 14 = .ok (.bipush (-2), 2) := dall dgX12_otherwise_11 6 rfl
theorem dX12_otherwise_16 : decode cX12_otherwise 16 = .ok (.ireturn, 1) := dall dgX12_otherwise_11 7 rfl
theorem dX12_otherwise_17 : decode cX12_otherwise 17 = .ok (.iconst 0, 1) := dall dgX12_otherwise_11 8 rfl
theorem dX12_otherwise_18 : decode cX12_otherwise 18 = .ok (.istore_n 1, 1) := dall dgX12_otherwise_11 9 rfl
theorem dX12_otherwise_19 : decode cX12_otherwise 19 = .ok (.iconst 0, 1) := dall dgX12_otherwise_11 10 rfl
theorem dX12_otherwise_20 : decode cX12_otherwise 20 = .ok (.istore_n 2, 1) := dall dgX12_otherwise_11 11 rfl
theorem dX12_otherwise_21 : decode cX12_otherwise 21 = .ok (.iload_n 2, 1) := dall dgX12_otherwise_11 12 rfl
theorem dX12_otherwise_22 : decode cX12_otherwise 22 = .ok (.aload_n 0, 1) := dall dgX12_otherwise_11 13 rfl
theorem dX12_otherwise_23 : decode cX12_otherwise 23 = .ok (.getfield 264, 3) := dall dgX12_otherwise_11 14 rfl
theorem dX12_otherwise_26 : decode cX12_otherwise 26 = .ok (.if_icmp .ge 39, 3) := dall dgX12_otherwise_11 15 rfl
theorem dX12_otherwise_29 : decode cX12_otherwise 29 = .ok (.iload_n 2, 1) := dall dgX12_otherwise_11 16 rfl
theorem dX12_otherwise_30 : decode cX12_otherwise 30 = .ok (.aload_n 0, 1) := dall dgX12_otherwise_11 17 rfl
theorem dX12_otherwise_31 : decode cX12_otherwise 31 = .ok (.getfield 156, 3) := dall dgX12_otherwise_11 18 rfl
theorem dX12_otherwise_34 : decode cX12_otherwise 34 = .ok (.if_icmp .ge 31, 3) := dall dgX12_otherwise_11 19 rfl
theorem dX12_otherwise_37 : decode cX12_otherwise 37 = .ok (.iload_n 1, 1) := dall dgX12_otherwise_11 20 rfl
theorem dX12_otherwise_38 : decode cX12_otherwise 38 = .ok (.aload_n 0, 1) := dall dgX12_otherwise_11 21 rfl
theorem dX12_otherwise_39 : decode cX12_otherwise 39 = .ok (.getfield 36, 3) := dall dgX12_otherwise_11 22 rfl
theorem dX12_otherwise_42 : decode cX12_otherwise 42 = .ok (.iload_n 2, 1) := dall dgX12_otherwise_11 23 rfl
theorem dX12_otherwise_43 : decode cX12_otherwise 43 = .ok (.iaload, 1) := dall dgX12_otherwise_11 24 rfl
theorem dX12_otherwise_44 : decode cX12_otherwise 44 = .ok (.aload_n 0, 1) := dall dgX12_otherwise_11 25 rfl
theorem dX12_otherwise_45 : decode cX12_otherwise 45 = .ok (.iload_n 2, 1) := dall dgX12_otherwise_11 26 rfl
theorem dX12_otherwise_46 : decode cX12_otherwise 46 = .ok (.invokevirtual 261, 3) := dall dgX12_otherwise_11 27 rfl
theorem dX12_otherwise_49 : decode cX12_otherwise 49 = .ok (.if_icmp .ne 7, 3) := dall dgX12_otherwise_11 28 rfl
theorem dX12_otherwise_52 : decode cX12_otherwise 52 = .ok (.iconst 0, 1) := dall dgX12_otherwise_11 29 rfl
theorem dX12_otherwise_53 : decode cX12_otherwise 53 = .ok (.goto 4, 3) := dall dgX12_otherwise_11 30 rfl
theorem dX12_otherwise_56 : decode cX12_otherwise 56 = .ok (.iconst 1, 1) := dall dgX12_otherwise_11 31 rfl
theorem dX12_otherwise_57 : decode cX12_otherwise 57 = .ok (.iadd, 1) := dall dgX12_otherwise_11 32 rfl
theorem dX12_otherwise_58 : decode cX12_otherwise 58 = .ok (.istore_n 1, 1) := dall dgX12_otherwise_11 33 rfl
theorem dX12_otherwise_59 : decode cX12_otherwise 59 = .ok (.iinc 2 1, 3) := dall dgX12_otherwise_11 34 rfl
theorem dX12_otherwise_62 : decode cX12_otherwise 62 = .ok (.goto (-41), 3) := dall dgX12_otherwise_11 35 rfl
theorem dX12_otherwise_65 : decode cX12_otherwise 65 = .ok (.iload_n 1, 1) := dall dgX12_otherwise_11 36 rfl
theorem dX12_otherwise_66 : decode cX12_otherwise 66 = .ok (.ireturn, 1) := dall dgX12_otherwise_11 37 rfl
set_option maxRecDepth 20000 in
theorem ggX12_word_X12_areRows : GoodIn wsX12_word wsX12_areRows := goodIn_r _ [8, 9, 10, 11, 12, 7, 13, 14, 15, 16, 17, 18, 19, 20, 21, 22, 23, 24, 25, 26, 27, 28, 29, 30, 31, 32, 33, 34, 35, 36, 37, 38, 39, 40, 41, 42, 43, 44, 45, 46, 47, 48, 49, 50, 51, 52, 53, 54, 55, 56, 57, 58, 59, 60, 61] rfl (by decide +kernel)
set_option maxRecDepth 20000 in
theorem gX12_word_X12_areRows : GoodIn wsX12_word (wsV RX12 167 RX12 yX12_areRows wsX12_areRows) := goodIn_app (goodIn_of _ (by decide +kernel)) ggX12_word_X12_areRows
def lgX12_word_12 : List (Nat × Instr × Nat) := [(0, .aload_n 0, 1), (1, .iload_n 1, 1), (2, .iload_n 2, 1), (3, .invokevirtual 167, 3), (6, .ifCond .ne 5, 3), (9, .iconst (-1), 1), (10, .ireturn, 1), (11, .aload_n 0, 1), (12, .getfield 171, 3), (15, .bipush 12, 2), (17, .if_icmp .ne 6, 3), (20, .bipush (-3), 2), (22, .ireturn, 1), (23, .aload_n 0, 1), (24, .getfield 30, 3), (27, .aload_n 0, 1), (28, .getfield 171, 3), (31, .iload_n 1, 1), (32, .iastore, 1), (33, .aload_n 0, 1), (34, .getfield 33, 3), (37, .aload_n 0, 1), (38, .getfield 171, 3), (41, .iload_n 2, 1), (42, .iastore, 1), (43, .aload_n 0, 1), (44, .dup, 1), (45, .getfield 171, 3), (48, .iconst 1, 1), (49, .iadd, 1), (50, .putfield 171, 3), (53, .aload_n 0, 1), (54, .getfield 171, 3), (57, .iconst 1, 1), (58, .isub, 1), (59, .ireturn, 1)]
theorem dgX12_word_12 : ∀ q ∈ lgX12_word_12, decode cX12_word q.1 = .ok (q.2.1, q.2.2) := by decide +kernel
theorem dX12_word_0 : decode cX12_word 0 = .ok (.aload_n 0, 1) := dall dgX12_word_12 0 rfl
theorem dX12_word_1 : decode cX12_word 1 = .ok (.iload_n 1, 1) := dall dgX12_word_12 1 rfl
theorem dX12_word_2 : decode cX12_word 2 = .ok (.iload_n 2, 1) := dall dgX12_word_12 2 rfl
theorem dX12_word_3 : decode cX12_word 3 = .ok (.invokevirtual 167, 3) := dall dgX12_word_12 3 rfl
theorem dX12_word_6 : decode cX12_word 6 = .ok (.ifCond .ne 5, 3) := dall dgX12_word_12 4 rfl
theorem dX12_word_9 : decode cX12_word 9 = .ok (.iconst (-1), 1) := dall dgX12_word_12 5 rfl
theorem dX12_word_10 : decode cX12_word 10 = .ok (.ireturn, 1) := dall dgX12_word_12 6 rfl
theorem dX12_word_11 : decode cX12_word 11 = .ok (.aload_n 0, 1) := dall dgX12_word_12 7 rfl
theorem dX12_word_12 : decode cX12_word 12 = .ok (.getfield 171, 3) := dall dgX12_word_12 8 rfl
theorem dX12_word_15 : decode cX12_word 15 = .ok (.bipush 12, 2) := dall dgX12_word_12 9 rfl
theorem dX12_word_17 : decode cX12_word 17 = .ok (.if_icmp .ne 6, 3) := dall dgX12_word_12 10 rfl
theorem dX12_word_20 : decode cX12_word 20 = .ok (.bipush (-3), 2) := dall dgX12_word_12 11 rfl
theorem dX12_word_22 : decode cX12_word 22 = .ok (.ireturn, 1) := dall dgX12_word_12 12 rfl
theorem dX12_word_23 : decode cX12_word 23 = .ok (.aload_n 0, 1) := dall dgX12_word_12 13 rfl
theorem dX12_word_24 : decode cX12_word 24 = .ok (.getfield 30, 3) := dall dgX12_word_12 14 rfl
theorem dX12_word_27 : decode cX12_word 27 = .ok (.aload_n 0, 1) := dall dgX12_word_12 15 rfl
theorem dX12_word_28 : decode cX12_word 28 = .ok (.getfield 171, 3) := dall dgX12_word_12 16 rfl
theorem dX12_word_31 : decode cX12_word 31 = .ok (.iload_n 1, 1) := dall dgX12_word_12 17 rfl
theorem dX12_word_32 : decode cX12_word 32 = .ok (.iastore, 1) := dall dgX12_word_12 18 rfl
theorem dX12_word_33 : decode cX12_word 33 = .ok (.aload_n 0, 1) := dall dgX12_word_12 19 rfl
theorem dX12_word_34 : decode cX12_word 34 = .ok (.getfield 33, 3) := dall dgX12_word_12 20 rfl
theorem dX12_word_37 : decode cX12_word 37 = .ok (.aload_n 0, 1) := dall dgX12_word_12 21 rfl
theorem dX12_word_38 : decode cX12_word 38 = .ok (.getfield 171, 3) := dall dgX12_word_12 22 rfl
theorem dX12_word_41 : decode cX12_word 41 = .ok (.iload_n 2, 1) := dall dgX12_word_12 23 rfl
theorem dX12_word_42 : decode cX12_word 42 = .ok (.iastore, 1) := dall dgX12_word_12 24 rfl
theorem dX12_word_43 : decode cX12_word 43 = .ok (.aload_n 0, 1) := dall dgX12_word_12 25 rfl
theorem dX12_word_44 : decode cX12_word 44 = .ok (.dup, 1) := dall dgX12_word_12 26 rfl
theorem dX12_word_45 : decode cX12_word 45 = .ok (.getfield 171, 3) := dall dgX12_word_12 27 rfl
theorem dX12_word_48 : decode cX12_word 48 = .ok (.iconst 1, 1) := dall dgX12_word_12 28 rfl
theorem dX12_word_49 : decode cX12_word 49 = .ok (.iadd, 1) := dall dgX12_word_12 29 rfl
theorem dX12_word_50 : decode cX12_word 50 = .ok (.putfield 171, 3) := dall dgX12_word_12 30 rfl
theorem dX12_word_53 : decode cX12_word 53 = .ok (.aload_n 0, 1) := dall dgX12_word_12 31 rfl
theorem dX12_word_54 : decode cX12_word 54 = .ok (.getfield 171, 3) := dall dgX12_word_12 32 rfl
theorem dX12_word_57 : decode cX12_word 57 = .ok (.iconst 1, 1) := dall dgX12_word_12 33 rfl
theorem dX12_word_58 : decode cX12_word 58 = .ok (.isub, 1) := dall dgX12_word_12 34 rfl
theorem dX12_word_59 : decode cX12_word 59 = .ok (.ireturn, 1) := dall dgX12_word_12 35 rfl
set_option maxRecDepth 20000 in
theorem ggX12_hung_X12_in : GoodIn wsX12_hung wsX12_in := goodIn_r _ [10] rfl (by decide +kernel)
set_option maxRecDepth 20000 in
theorem gX12_hung_X12_in : GoodIn wsX12_hung (va_wsS RX12 100 yX12_in wsX12_in) := goodIn_app (goodIn_of _ (by decide +kernel)) ggX12_hung_X12_in
set_option maxRecDepth 20000 in
theorem ggX12_hung_X12_findPieces : GoodIn wsX12_hung wsX12_findPieces := goodIn_r _ [14, 2, 15, 16, 17, 18, 19, 20, 21, 9, 22, 23, 24, 25, 26, 27, 28, 29, 30, 31, 32, 33, 3, 4, 34, 35, 36, 37, 38, 39, 40, 41, 7, 8, 10, 42, 43, 44, 45, 46, 47, 48, 49, 50, 51, 52, 53, 54, 55, 56, 57, 58, 59, 60, 61, 62, 63, 64, 65, 66, 67, 68, 69, 70, 71, 72, 73, 74, 75, 76, 77, 78, 79, 80, 81, 82, 83, 84, 85, 86, 87, 88, 89, 90, 91] rfl (by decide +kernel)
set_option maxRecDepth 20000 in
theorem gX12_hung_X12_findPieces : GoodIn wsX12_hung (wsV RX12 203 RX12 yX12_findPieces wsX12_findPieces) := goodIn_app (goodIn_of _ (by decide +kernel)) ggX12_hung_X12_findPieces
def lgX12_hung_13 : List (Nat × Instr × Nat) := [(0, .iload_n 1, 1), (1, .iconst 0, 1), (2, .aload_n 0, 1), (3, .getfield 171, 3), (6, .iconst 1, 1), (7, .isub, 1), (8, .invokestatic 100, 3), (11, .ifCond .eq 12, 3), (14, .iload_n 2, 1), (15, .iconst 0, 1), (16, .iconst 1, 1), (17, .invokestatic 100, 3), (20, .ifCond .ne 5, 3), (23, .iconst (-1), 1), (24, .ireturn, 1), (25, .aload_n 0, 1), (26, .invokevirtual 203, 3), (29, .bipush (-9), 2), (31, .istore_n 3, 1), (32, .iconst 0, 1), (33, .istore 4, 2), (35, .iconst 0, 1), (36, .istore 5, 2), (38, .iconst 0, 1), (39, .istore 6, 2), (41, .iload 6, 2), (43, .aload_n 0, 1), (44, .getfield 191, 3), (47, .if_icmp .ge 122, 3), (50, .iconst 0, 1), (51, .istore 7, 2), (53, .aload_n 0, 1), (54, .getfield 39, 3), (57, .iload 6, 2), (59, .iaload, 1), (60, .istore 8, 2), (62, .iload 8, 2), (64, .aload_n 0, 1), (65, .getfield 39, 3), (68, .iload 6, 2), (70, .iaload, 1), (71, .aload_n 0, 1), (72, .getfield 42, 3), (75, .iload 6, 2), (77, .iaload, 1), (78, .iadd, 1), (79, .if_icmp .ge 39, 3), (82, .iload 7, 2), (84, .iload 8, 2), (86, .aload_n 0, 1)]
theorem dgX12_hung_13 : ∀ q ∈ lgX12_hung_13, decode cX12_hung q.1 = .ok (q.2.1, q.2.2) := by decide +kernel
theorem dX12_hung_0 : decode cX12_hung 0 = .ok (.iload_n 1, 1) := dall dgX12_hung_13 0 rfl
theorem dX12_hung_1 : decode cX12_hung 1 = .ok (.iconst 0, 1) := dall dgX12_hung_13 1 rfl
theorem dX12_hung_2 : decode cX12_hung 2 = .ok (.aload_n 0, 1) := dall dgX12_hung_13 2 rfl
theorem dX12_hung_3 : decode cX12_hung 3 = .ok (.getfield 171, 3) := dall dgX12_hung_13 3 rfl
theorem dX12_hung_6 : decode cX12_hung 6 = .ok (.iconst 1, 1) := dall dgX12_hung_13 4 rfl
theorem dX12_hung_7 : decode cX12_hung 7 = .ok (.isub, 1) := dall dgX12_hung_13 5 rfl
theorem dX12_hung_8 : decode cX12_hung 8 = .ok (.invokestatic 100, 3) := dall dgX12_hung_13 6 rfl
theorem dX12_hung_11 : decode cX12_hung 11 = .ok (.ifCond .eq 12, 3) := dall dgX12_hung_13 7 rfl
theorem dX12_hung_14 : decode cX12_hung 14 = .ok (.iload_n 2, 1) := dall dgX12_hung_13 8 rfl
theorem dX12_hung_15 : decode cX12_hung 15 = .ok (.iconst 0, 1) := dall dgX12_hung_13 9 rfl
theorem dX12_hung_16 : decode cX12_hung 16 = .ok (.iconst 1, 1) := dall dgX12_hung_13 10 rfl
theorem dX12_hung_17 : decode cX12_hung 17 = .ok (.invokestatic 100, 3) := dall dgX12_hung_13 11 rfl
theorem dX12_hung_20 : decode cX12_hung 20 = .ok (.ifCond .ne 5, 3) := dall dgX12_hung_13 12 rfl
theorem dX12_hung_23 : decode cX12_hung 23 = .ok (.iconst (-1), 1) := dall dgX12_hung_13 13 rfl
theorem dX12_hung_24 : decode cX12_hung 24 = .ok (.ireturn, 1) := dall dgX12_hung_13 14 rfl
theorem dX12_hung_25 : decode cX12_hung 25 = .ok (.aload_n 0, 1) := dall dgX12_hung_13 15 rfl
theorem dX12_hung_26 : decode cX12_hung 26 = .ok (.invokevirtual 203, 3) := dall dgX12_hung_13 16 rfl
theorem dX12_hung_29 : decode cX12_hung 29 = .ok (.bipush (-9), 2) := dall dgX12_hung_13 17 rfl
theorem dX12_hung_31 : decode cX12_hung 31 = .ok (.istore_n 3, 1) := dall dgX12_hung_13 18 rfl
theorem dX12_hung_32 : decode cX12_hung 32 = .ok (.iconst 0, 1) := dall dgX12_hung_13 19 rfl
theorem dX12_hung_33 : decode cX12_hung 33 = .ok (.istore 4, 2) := dall dgX12_hung_13 20 rfl
theorem dX12_hung_35 : decode cX12_hung 35 = .ok (.iconst 0, 1) := dall dgX12_hung_13 21 rfl
theorem dX12_hung_36 : decode cX12_hung 36 = .ok (.istore 5, 2) := dall dgX12_hung_13 22 rfl
theorem dX12_hung_38 : decode cX12_hung 38 = .ok (.iconst 0, 1) := dall dgX12_hung_13 23 rfl
theorem dX12_hung_39 : decode cX12_hung 39 = .ok (.istore 6, 2) := dall dgX12_hung_13 24 rfl
theorem dX12_hung_41 : decode cX12_hung 41 = .ok (.iload 6, 2) := dall dgX12_hung_13 25 rfl
theorem dX12_hung_43 : decode cX12_hung 43 = .ok (.aload_n 0, 1) := dall dgX12_hung_13 26 rfl
theorem dX12_hung_44 : decode cX12_hung 44 = .ok (.getfield 191, 3) := dall dgX12_hung_13 27 rfl
theorem dX12_hung_47 : decode cX12_hung 47 = .ok (.if_icmp .ge 122, 3) := dall dgX12_hung_13 28 rfl
theorem dX12_hung_50 : decode cX12_hung 50 = .ok (.iconst 0, 1) := dall dgX12_hung_13 29 rfl
theorem dX12_hung_51 : decode cX12_hung 51 = .ok (.istore 7, 2) := dall dgX12_hung_13 30 rfl
theorem dX12_hung_53 : decode cX12_hung 53 = .ok (.aload_n 0, 1) := dall dgX12_hung_13 31 rfl
theorem dX12_hung_54 : decode cX12_hung 54 = .ok (.getfield 39, 3) := dall dgX12_hung_13 32 rfl
theorem dX12_hung_57 : decode cX12_hung 57 = .ok (.iload 6, 2) := dall dgX12_hung_13 33 rfl
theorem dX12_hung_59 : decode cX12_hung 59 = .ok (.iaload, 1) := dall dgX12_hung_13 34 rfl
theorem dX12_hung_60 : decode cX12_hung 60 = .ok (.istore 8, 2) := dall dgX12_hung_13 35 rfl
theorem dX12_hung_62 : decode cX12_hung 62 = .ok (.iload 8, 2) := dall dgX12_hung_13 36 rfl
theorem dX12_hung_64 : decode cX12_hung 64 = .ok (.aload_n 0, 1) := dall dgX12_hung_13 37 rfl
theorem dX12_hung_65 : decode cX12_hung 65 = .ok (.getfield 39, 3) := dall dgX12_hung_13 38 rfl
theorem dX12_hung_68 : decode cX12_hung 68 = .ok (.iload 6, 2) := dall dgX12_hung_13 39 rfl
theorem dX12_hung_70 : decode cX12_hung 70 = .ok (.iaload, 1) := dall dgX12_hung_13 40 rfl
theorem dX12_hung_71 : decode cX12_hung 71 = .ok (.aload_n 0, 1) := dall dgX12_hung_13 41 rfl
theorem dX12_hung_72 : decode cX12_hung 72 = .ok (.getfield 42, 3) := dall dgX12_hung_13 42 rfl
theorem dX12_hung_75 : decode cX12_hung 75 = .ok (.iload 6, 2) := dall dgX12_hung_13 43 rfl
theorem dX12_hung_77 : decode cX12_hung 77 = .ok (.iaload, 1) := dall dgX12_hung_13 44 rfl
theorem dX12_hung_78 : decode cX12_hung 78 = .ok (.iadd, 1) := dall dgX12_hung_13 45 rfl
theorem dX12_hung_79 : decode cX12_hung 79 = .ok (.if_icmp .ge 39, 3) := dall dgX12_hung_13 46 rfl
theorem dX12_hung_82 : decode cX12_hung 82 = .ok (.iload 7, 2) := dall dgX12_hung_13 47 rfl
theorem dX12_hung_84 : decode cX12_hung 84 = .ok (.iload 8, 2) := dall dgX12_hung_13 48 rfl
theorem dX12_hung_86 : decode cX12_hung 86 = .ok (.aload_n 0, 1) := dall dgX12_hung_13 49 rfl
def lgX12_hung_14 : List (Nat × Instr × Nat) := [(87, .getfield 30, 3), (90, .iload_n 1, 1), (91, .iaload, 1), (92, .aload_n 0, 1), (93, .getfield 33, 3), (96, .iload_n 1, 1), (97, .iaload, 1), (98, .invokestatic 100, 3), (101, .ifCond .eq 7, 3), (104, .iconst 1, 1), (105, .goto 4, 3), (108, .iconst 0, 1), (109, .iadd, 1), (110, .istore 7, 2), (112, .iinc 8 1, 3), (115, .goto (-53), 3), (118, .iload 7, 2), (120, .iload 4, 2), (122, .if_icmp .le 8, 3), (125, .iload 6, 2), (127, .goto 4, 3), (130, .iload_n 3, 1), (131, .istore_n 3, 1), (132, .iload 7, 2), (134, .iload 4, 2), (136, .if_icmp .le 8, 3), (139, .iload 7, 2), (141, .goto 5, 3), (144, .iload 4, 2), (146, .istore 4, 2), (148, .iload 5, 2), (150, .iload 7, 2), (152, .ifCond .le 7, 3), (155, .iconst 1, 1), (156, .goto 4, 3), (159, .iconst 0, 1), (160, .iadd, 1), (161, .istore 5, 2), (163, .iinc 6 1, 3), (166, .goto (-125), 3), (169, .iload_n 2, 1), (170, .ifCond .ne 7, 3), (173, .iload_n 3, 1), (174, .goto 5, 3), (177, .iload 5, 2), (179, .ireturn, 1)]
theorem dgX12_hung_14 : ∀ q ∈ lgX12_hung_14, decode cX12_hung q.1 = .ok (q.2.1, q.2.2) := by decide +kernel
theorem dX12_hung_87 : decode cX12_hung 87 = .ok (.getfield 30, 3) := dall dgX12_hung_14 0 rfl
theorem dX12_hung_90 : decode cX12_hung 90 = .ok (.iload_n 1, 1) := dall dgX12_hung_14 1 rfl
theorem dX12_hung_91 : decode cX12_hung 91 = .ok (.iaload, 1) := dall dgX12_hung_14 2 rfl
theorem dX12_hung_92 : decode cX12_hung 92 = .ok (.aload_n 0, 1) := dall dgX12_hung_14 3 rfl
theorem dX12_hung_93 : decode cX12_hung 93 = .ok (.getfield 33, 3) := dall dgX12_hung_14 4 rfl
theorem dX12_hung_96 : decode cX12_hung 96 = .ok (.iload_n 1, 1) := dall dgX12_hung_14 5 rfl
theorem dX12_hung_97 : decode cX12_hung 97 = .ok (.iaload, 1) := dall dgX12_hung_14 6 rfl
theorem dX12_hung_98 : decode cX12_hung 98 = .ok (.invokestatic 100, 3) := dall dgX12_hung_14 7 rfl
theorem dX12_hung_101 : decode cX12_hung 101 = .ok (.ifCond .eq 7, 3) := dall dgX12_hung_14 8 rfl
theorem dX12_hung_104 : decode cX12_hung 104 = .ok (.iconst 1, 1) := dall dgX12_hung_14 9 rfl
theorem dX12_hung_105 : decode cX12_hung 105 = .ok (.goto 4, 3) := dall dgX12_hung_14 10 rfl
theorem dX12_hung_108 : decode cX12_hung 108 = .ok (.iconst 0, 1) := dall dgX12_hung_14 11 rfl
theorem dX12_hung_109 : decode cX12_hung 109 = .ok (.iadd, 1) := dall dgX12_hung_14 12 rfl
theorem dX12_hung_110 : decode cX12_hung 110 = .ok (.istore 7, 2) := dall dgX12_hung_14 13 rfl
theorem dX12_hung_112 : decode cX12_hung 112 = .ok (.iinc 8 1, 3) := dall dgX12_hung_14 14 rfl
theorem dX12_hung_115 : decode cX12_hung 115 = .ok (.goto (-53), 3) := dall dgX12_hung_14 15 rfl
theorem dX12_hung_118 : decode cX12_hung 118 = .ok (.iload 7, 2) := dall dgX12_hung_14 16 rfl
theorem dX12_hung_120 : decode cX12_hung 120 = .ok (.iload 4, 2) := dall dgX12_hung_14 17 rfl
theorem dX12_hung_122 : decode cX12_hung 122 = .ok (.if_icmp .le 8, 3) := dall dgX12_hung_14 18 rfl
theorem dX12_hung_125 : decode cX12_hung 125 = .ok (.iload 6, 2) := dall dgX12_hung_14 19 rfl
theorem dX12_hung_127 : decode cX12_hung 127 = .ok (.goto 4, 3) := dall dgX12_hung_14 20 rfl
theorem dX12_hung_130 : decode cX12_hung 130 = .ok (.iload_n 3, 1) := dall dgX12_hung_14 21 rfl
theorem dX12_hung_131 : decode cX12_hung 131 = .ok (.istore_n 3, 1) := dall dgX12_hung_14 22 rfl
theorem dX12_hung_132 : decode cX12_hung 132 = .ok (.iload 7, 2) := dall dgX12_hung_14 23 rfl
theorem dX12_hung_134 : decode cX12_hung 134 = .ok (.iload 4, 2) := dall dgX12_hung_14 24 rfl
theorem dX12_hung_136 : decode cX12_hung 136 = .ok (.if_icmp .le 8, 3) := dall dgX12_hung_14 25 rfl
theorem dX12_hung_139 : decode cX12_hung 139 = .ok (.iload 7, 2) := dall dgX12_hung_14 26 rfl
theorem dX12_hung_141 : decode cX12_hung 141 = .ok (.goto 5, 3) := dall dgX12_hung_14 27 rfl
theorem dX12_hung_144 : decode cX12_hung 144 = .ok (.iload 4, 2) := dall dgX12_hung_14 28 rfl
theorem dX12_hung_146 : decode cX12_hung 146 = .ok (.istore 4, 2) := dall dgX12_hung_14 29 rfl
theorem dX12_hung_148 : decode cX12_hung 148 = .ok (.iload 5, 2) := dall dgX12_hung_14 30 rfl
theorem dX12_hung_150 : decode cX12_hung 150 = .ok (.iload 7, 2) := dall dgX12_hung_14 31 rfl
theorem dX12_hung_152 : decode cX12_hung 152 = .ok (.ifCond .le 7, 3) := dall dgX12_hung_14 32 rfl
theorem dX12_hung_155 : decode cX12_hung 155 = .ok (.iconst 1, 1) := dall dgX12_hung_14 33 rfl
theorem dX12_hung_156 : decode cX12_hung 156 = .ok (.goto 4, 3) := dall dgX12_hung_14 34 rfl
theorem dX12_hung_159 : decode cX12_hung 159 = .ok (.iconst 0, 1) := dall dgX12_hung_14 35 rfl
theorem dX12_hung_160 : decode cX12_hung 160 = .ok (.iadd, 1) := dall dgX12_hung_14 36 rfl
theorem dX12_hung_161 : decode cX12_hung 161 = .ok (.istore 5, 2) := dall dgX12_hung_14 37 rfl
theorem dX12_hung_163 : decode cX12_hung 163 = .ok (.iinc 6 1, 3) := dall dgX12_hung_14 38 rfl
theorem dX12_hung_166 : decode cX12_hung 166 = .ok (.goto (-125), 3) := dall dgX12_hung_14 39 rfl
theorem dX12_hung_169 : decode cX12_hung 169 = .ok (.iload_n 2, 1) := dall dgX12_hung_14 40 rfl
theorem dX12_hung_170 : decode cX12_hung 170 = .ok (.ifCond .ne 7, 3) := dall dgX12_hung_14 41 rfl
theorem dX12_hung_173 : decode cX12_hung 173 = .ok (.iload_n 3, 1) := dall dgX12_hung_14 42 rfl
theorem dX12_hung_174 : decode cX12_hung 174 = .ok (.goto 5, 3) := dall dgX12_hung_14 43 rfl
theorem dX12_hung_177 : decode cX12_hung 177 = .ok (.iload 5, 2) := dall dgX12_hung_14 44 rfl
theorem dX12_hung_179 : decode cX12_hung 179 = .ok (.ireturn, 1) := dall dgX12_hung_14 45 rfl
set_option maxRecDepth 20000 in
theorem ggX12_truth_X12_areRows : GoodIn wsX12_truth wsX12_areRows := goodIn_r _ [6, 7, 8, 9, 10, 5, 11, 12, 13, 14, 15, 16, 17, 18, 19, 20, 21, 22, 23, 24, 25, 26, 27, 28, 29, 30, 31, 32, 33, 34, 35, 36, 37, 38, 39, 40, 41, 42, 43, 44, 45, 46, 47, 48, 49, 50, 51, 52, 53, 54, 55, 56, 57, 58, 59] rfl (by decide +kernel)
set_option maxRecDepth 20000 in
theorem gX12_truth_X12_areRows : GoodIn wsX12_truth (wsV RX12 167 RX12 yX12_areRows wsX12_areRows) := goodIn_app (goodIn_of _ (by decide +kernel)) ggX12_truth_X12_areRows
set_option maxRecDepth 20000 in
theorem ggX12_truth_X12_in : GoodIn wsX12_truth wsX12_in := goodIn_r _ [14] rfl (by decide +kernel)
set_option maxRecDepth 20000 in
theorem gX12_truth_X12_in : GoodIn wsX12_truth (va_wsS RX12 100 yX12_in wsX12_in) := goodIn_app (goodIn_of _ (by decide +kernel)) ggX12_truth_X12_in
def lgX12_truth_15 : List (Nat × Instr × Nat) := [(0, .aload_n 0, 1), (1, .iload_n 1, 1), (2, .iload_n 2, 1), (3, .invokevirtual 167, 3), (6, .ifCond .eq 12, 3), (9, .iload_n 3, 1), (10, .iconst 0, 1), (11, .iconst 5, 1), (12, .invokestatic 100, 3), (15, .ifCond .ne 5, 3), (18, .iconst (-1), 1), (19, .ireturn, 1), (20, .iconst 0, 1), (21, .istore 4, 2), (23, .iload_n 1, 1), (24, .istore 5, 2), (26, .iload 5, 2), (28, .iload_n 2, 1), (29, .if_icmp .gt 38, 3), (32, .iload 4, 2), (34, .aload_n 0, 1), (35, .getfield 27, 3), (38, .iload 5, 2), (40, .iaload, 1), (41, .iload_n 3, 1), (42, .if_icmp .ne 7, 3), (45, .iconst 0, 1), (46, .goto 4, 3), (49, .iconst 1, 1), (50, .iadd, 1), (51, .istore 4, 2), (53, .aload_n 0, 1), (54, .getfield 27, 3), (57, .iload 5, 2), (59, .iload_n 3, 1), (60, .iastore, 1), (61, .iinc 5 1, 3), (64, .goto (-38), 3), (67, .iload 4, 2), (69, .ireturn, 1)]
theorem dgX12_truth_15 : ∀ q ∈ lgX12_truth_15, decode cX12_truth q.1 = .ok (q.2.1, q.2.2) := by decide +kernel
theorem dX12_truth_0 : decode cX12_truth 0 = .ok (.aload_n 0, 1) := dall dgX12_truth_15 0 rfl
theorem dX12_truth_1 : decode cX12_truth 1 = .ok (.iload_n 1, 1) := dall dgX12_truth_15 1 rfl
theorem dX12_truth_2 : decode cX12_truth 2 = .ok (.iload_n 2, 1) := dall dgX12_truth_15 2 rfl
theorem dX12_truth_3 : decode cX12_truth 3 = .ok (.invokevirtual 167, 3) := dall dgX12_truth_15 3 rfl
theorem dX12_truth_6 : decode cX12_truth 6 = .ok (.ifCond .eq 12, 3) := dall dgX12_truth_15 4 rfl
theorem dX12_truth_9 : decode cX12_truth 9 = .ok (.iload_n 3, 1) := dall dgX12_truth_15 5 rfl
theorem dX12_truth_10 : decode cX12_truth 10 = .ok (.iconst 0, 1) := dall dgX12_truth_15 6 rfl
theorem dX12_truth_11 : decode cX12_truth 11 = .ok (.iconst 5, 1) := dall dgX12_truth_15 7 rfl
theorem dX12_truth_12 : decode cX12_truth 12 = .ok (.invokestatic 100, 3) := dall dgX12_truth_15 8 rfl
theorem dX12_truth_15 : decode cX12_truth 15 = .ok (.ifCond .ne 5, 3) := dall dgX12_truth_15 9 rfl
theorem dX12_truth_18 : decode cX12_truth 18 = .ok (.iconst (-1), 1) := dall dgX12_truth_15 10 rfl
theorem dX12_truth_19 : decode cX12_truth 19 = .ok (.ireturn, 1) := dall dgX12_truth_15 11 rfl
theorem dX12_truth_20 : decode cX12_truth 20 = .ok (.iconst 0, 1) := dall dgX12_truth_15 12 rfl
theorem dX12_truth_21 : decode cX12_truth 21 = .ok (.istore 4, 2) := dall dgX12_truth_15 13 rfl
theorem dX12_truth_23 : decode cX12_truth 23 = .ok (.iload_n 1, 1) := dall dgX12_truth_15 14 rfl
theorem dX12_truth_24 : decode cX12_truth 24 = .ok (.istore 5, 2) := dall dgX12_truth_15 15 rfl
theorem dX12_truth_26 : decode cX12_truth 26 = .ok (.iload 5, 2) := dall dgX12_truth_15 16 rfl
theorem dX12_truth_28 : decode cX12_truth 28 = .ok (.iload_n 2, 1) := dall dgX12_truth_15 17 rfl
theorem dX12_truth_29 : decode cX12_truth 29 = .ok (.if_icmp .gt 38, 3) := dall dgX12_truth_15 18 rfl
theorem dX12_truth_32 : decode cX12_truth 32 = .ok (.iload 4, 2) := dall dgX12_truth_15 19 rfl
theorem dX12_truth_34 : decode cX12_truth 34 = .ok (.aload_n 0, 1) := dall dgX12_truth_15 20 rfl
theorem dX12_truth_35 : decode cX12_truth 35 = .ok (.getfield 27, 3) := dall dgX12_truth_15 21 rfl
theorem dX12_truth_38 : decode cX12_truth 38 = .ok (.iload 5, 2) := dall dgX12_truth_15 22 rfl
theorem dX12_truth_40 : decode cX12_truth 40 = .ok (.iaload, 1) := dall dgX12_truth_15 23 rfl
theorem dX12_truth_41 : decode cX12_truth 41 = .ok (.iload_n 3, 1) := dall dgX12_truth_15 24 rfl
theorem dX12_truth_42 : decode cX12_truth 42 = .ok (.if_icmp .ne 7, 3) := dall dgX12_truth_15 25 rfl
theorem dX12_truth_45 : decode cX12_truth 45 = .ok (.iconst 0, 1) := dall dgX12_truth_15 26 rfl
theorem dX12_truth_46 : decode cX12_truth 46 = .ok (.goto 4, 3) := dall dgX12_truth_15 27 rfl
theorem dX12_truth_49 : decode cX12_truth 49 = .ok (.iconst 1, 1) := dall dgX12_truth_15 28 rfl
theorem dX12_truth_50 : decode cX12_truth 50 = .ok (.iadd, 1) := dall dgX12_truth_15 29 rfl
theorem dX12_truth_51 : decode cX12_truth 51 = .ok (.istore 4, 2) := dall dgX12_truth_15 30 rfl
theorem dX12_truth_53 : decode cX12_truth 53 = .ok (.aload_n 0, 1) := dall dgX12_truth_15 31 rfl
theorem dX12_truth_54 : decode cX12_truth 54 = .ok (.getfield 27, 3) := dall dgX12_truth_15 32 rfl
theorem dX12_truth_57 : decode cX12_truth 57 = .ok (.iload 5, 2) := dall dgX12_truth_15 33 rfl
theorem dX12_truth_59 : decode cX12_truth 59 = .ok (.iload_n 3, 1) := dall dgX12_truth_15 34 rfl
theorem dX12_truth_60 : decode cX12_truth 60 = .ok (.iastore, 1) := dall dgX12_truth_15 35 rfl
theorem dX12_truth_61 : decode cX12_truth 61 = .ok (.iinc 5 1, 3) := dall dgX12_truth_15 36 rfl
theorem dX12_truth_64 : decode cX12_truth 64 = .ok (.goto (-38), 3) := dall dgX12_truth_15 37 rfl
theorem dX12_truth_67 : decode cX12_truth 67 = .ok (.iload 4, 2) := dall dgX12_truth_15 38 rfl
theorem dX12_truth_69 : decode cX12_truth 69 = .ok (.ireturn, 1) := dall dgX12_truth_15 39 rfl
set_option maxRecDepth 20000 in
theorem ggX12_mostRight_X12_heapOfRow : GoodIn wsX12_mostRight wsX12_heapOfRow := goodIn_r _ [10, 3, 11, 12, 13, 14, 15, 16, 17, 18, 19, 20, 21, 22, 23, 24, 25, 26, 27, 28, 29, 30, 31, 32, 33, 34, 35, 36, 37, 38, 39, 40, 41, 42, 43, 44, 45, 46, 47, 48, 49, 50, 51, 52, 53, 54, 55, 56] rfl (by decide +kernel)
set_option maxRecDepth 20000 in
theorem gX12_mostRight_X12_heapOfRow : GoodIn wsX12_mostRight (wsV RX12 261 RX12 yX12_heapOfRow wsX12_heapOfRow) := goodIn_app (goodIn_of _ (by decide +kernel)) ggX12_mostRight_X12_heapOfRow
def lgX12_mostRight_16 : List (Nat × Instr × Nat) := [(0, .iconst 0, 1), (1, .istore_n 1, 1), (2, .iload_n 1, 1), (3, .bipush 54, 2), (5, .if_icmp .ge 16, 3), (8, .aload_n 0, 1), (9, .getfield 93, 3), (12, .iload_n 1, 1), (13, .iconst 0, 1), (14, .iastore, 1), (15, .iinc 1 1, 3), (18, .goto (-16), 3), (21, .iconst 0, 1), (22, .istore_n 1, 1), (23, .iload_n 1, 1), (24, .aload_n 0, 1), (25, .getfield 156, 3), (28, .if_icmp .ge 53, 3), (31, .aload_n 0, 1), (32, .getfield 45, 3), (35, .iload_n 1, 1), (36, .iaload, 1), (37, .bipush (-9), 2), (39, .if_icmp .eq 36, 3), (42, .aload_n 0, 1), (43, .getfield 27, 3), (46, .iload_n 1, 1), (47, .iaload, 1), (48, .ifCond .le 27, 3), (51, .aload_n 0, 1), (52, .getfield 93, 3), (55, .bipush 9, 2), (57, .aload_n 0, 1), (58, .getfield 27, 3), (61, .iload_n 1, 1), (62, .iaload, 1), (63, .imul, 1), (64, .aload_n 0, 1), (65, .iload_n 1, 1), (66, .invokevirtual 261, 3), (69, .iadd, 1), (70, .dup2, 1), (71, .iaload, 1), (72, .iconst 1, 1), (73, .iadd, 1), (74, .iastore, 1), (75, .iinc 1 1, 3), (78, .goto (-55), 3), (81, .iconst 0, 1), (82, .istore_n 1, 1)]
theorem dgX12_mostRight_16 : ∀ q ∈ lgX12_mostRight_16, decode cX12_mostRight q.1 = .ok (q.2.1, q.2.2) := by decide +kernel
theorem dX12_mostRight_0 : decode cX12_mostRight 0 = .ok (.iconst 0, 1) := dall dgX12_mostRight_16 0 rfl
theorem dX12_mostRight_1 : decode cX12_mostRight 1 = .ok (.istore_n 1, 1) := dall dgX12_mostRight_16 1 rfl
theorem dX12_mostRight_2 : decode cX12_mostRight 2 = .ok (.iload_n 1, 1) := dall dgX12_mostRight_16 2 rfl
theorem dX12_mostRight_3 : decode cX12_mostRight 3 = .ok (.bipush 54, 2) := dall dgX12_mostRight_16 3 rfl
theorem dX12_mostRight_5 : decode cX12_mostRight 5 = .ok (.if_icmp .ge 16, 3) := dall dgX12_mostRight_16 4 rfl
theorem dX12_mostRight_8 : decode cX12_mostRight 8 = .ok (.aload_n 0, 1) := dall dgX12_mostRight_16 5 rfl
theorem dX12_mostRight_9 : decode cX12_mostRight 9 = .ok (.getfield 93, 3) := dall dgX12_mostRight_16 6 rfl
theorem dX12_mostRight_12 : decode cX12_mostRight 12 = .ok (.iload_n 1, 1) := dall dgX12_mostRight_16 7 rfl
theorem dX12_mostRight_13 : decode cX12_mostRight 13 = .ok (.iconst 0, 1) := dall dgX12_mostRight_16 8 rfl
theorem dX12_mostRight_14 : decode cX12_mostRight 14 = .ok (.iastore, 1) := dall dgX12_mostRight_16 9 rfl
theorem dX12_mostRight_15 : decode cX12_mostRight 15 = .ok (.iinc 1 1, 3) := dall dgX12_mostRight_16 10 rfl
theorem dX12_mostRight_18 : decode cX12_mostRight 18 = .ok (.goto (-16), 3) := dall dgX12_mostRight_16 11 rfl
theorem dX12_mostRight_21 : decode cX12_mostRight 21 = .ok (.iconst 0, 1) := dall dgX12_mostRight_16 12 rfl
theorem dX12_mostRight_22 : decode cX12_mostRight 22 = .ok (.istore_n 1, 1) := dall dgX12_mostRight_16 13 rfl
theorem dX12_mostRight_23 : decode cX12_mostRight 23 = .ok (.iload_n 1, 1) := dall dgX12_mostRight_16 14 rfl
theorem dX12_mostRight_24 : decode cX12_mostRight 24 = .ok (.aload_n 0, 1) := dall dgX12_mostRight_16 15 rfl
theorem dX12_mostRight_25 : decode cX12_mostRight 25 = .ok (.getfield 156, 3) := dall dgX12_mostRight_16 16 rfl
theorem dX12_mostRight_28 : decode cX12_mostRight 28 = .ok (.if_icmp .ge 53, 3) := dall dgX12_mostRight_16 17 rfl
theorem dX12_mostRight_31 : decode cX12_mostRight 31 = .ok (.aload_n 0, 1) := dall dgX12_mostRight_16 18 rfl
theorem dX12_mostRight_32 : decode cX12_mostRight 32 = .ok (.getfield 45, 3) := dall dgX12_mostRight_16 19 rfl
theorem dX12_mostRight_35 : decode cX12_mostRight 35 = .ok (.iload_n 1, 1) := dall dgX12_mostRight_16 20 rfl
theorem dX12_mostRight_36 : decode cX12_mostRight 36 = .ok (.iaload, 1) := dall dgX12_mostRight_16 21 rfl
theorem dX12_mostRight_37 : decode cX12_mostRight 37 = .ok (.bipush (-9), 2) := dall dgX12_mostRight_16 22 rfl
theorem dX12_mostRight_39 : decode cX12_mostRight 39 = .ok (.if_icmp .eq 36, 3) := dall dgX12_mostRight_16 23 rfl
theorem dX12_mostRight_42 : decode cX12_mostRight 42 = .ok (.aload_n 0, 1) := dall dgX12_mostRight_16 24 rfl
theorem dX12_mostRight_43 : decode cX12_mostRight 43 = .ok (.getfield 27, 3) := dall dgX12_mostRight_16 25 rfl
theorem dX12_mostRight_46 : decode cX12_mostRight 46 = .ok (.iload_n 1, 1) := dall dgX12_mostRight_16 26 rfl
theorem dX12_mostRight_47 : decode cX12_mostRight 47 = .ok (.iaload, 1) := dall dgX12_mostRight_16 27 rfl
theorem dX12_mostRight_48 : decode cX12_mostRight 48 = .ok (.ifCond .le 27, 3) := dall dgX12_mostRight_16 28 rfl
theorem dX12_mostRight_51 : decode cX12_mostRight 51 = .ok (.aload_n 0, 1) := dall dgX12_mostRight_16 29 rfl
theorem dX12_mostRight_52 : decode cX12_mostRight 52 = .ok (.getfield 93, 3) := dall dgX12_mostRight_16 30 rfl
theorem dX12_mostRight_55 : decode cX12_mostRight 55 = .ok (.bipush 9, 2) := dall dgX12_mostRight_16 31 rfl
theorem dX12_mostRight_57 : decode cX12_mostRight 57 = .ok (.aload_n 0, 1) := dall dgX12_mostRight_16 32 rfl
theorem dX12_mostRight_58 : decode cX12_mostRight 58 = .ok (.getfield 27, 3) := dall dgX12_mostRight_16 33 rfl
theorem dX12_mostRight_61 : decode cX12_mostRight 61 = .ok (.iload_n 1, 1) := dall dgX12_mostRight_16 34 rfl
theorem dX12_mostRight_62 : decode cX12_mostRight 62 = .ok (.iaload, 1) := dall dgX12_mostRight_16 35 rfl
theorem dX12_mostRight_63 : decode cX12_mostRight 63 = .ok (.imul, 1) := dall dgX12_mostRight_16 36 rfl
theorem dX12_mostRight_64 : decode cX12_mostRight 64 = .ok (.aload_n 0, 1) := dall dgX12_mostRight_16 37 rfl
theorem dX12_mostRight_65 : decode cX12_mostRight 65 = .ok (.iload_n 1, 1) := dall dgX12_mostRight_16 38 rfl
theorem dX12_mostRight_66 : decode cX12_mostRight 66 = .ok (.invokevirtual 261, 3) := dall dgX12_mostRight_16 39 rfl
theorem dX12_mostRight_69 : decode cX12_mostRight 69 = .ok (.iadd, 1) := dall dgX12_mostRight_16 40 rfl
theorem dX12_mostRight_70 : decode cX12_mostRight 70 = .ok (.dup2, 1) := dall dgX12_mostRight_16 41 rfl
theorem dX12_mostRight_71 : decode cX12_mostRight 71 = .ok (.iaload, 1) := dall dgX12_mostRight_16 42 rfl
theorem dX12_mostRight_72 : decode cX12_mostRight 72 = .ok (.iconst 1, 1) := dall dgX12_mostRight_16 43 rfl
theorem dX12_mostRight_73 : decode cX12_mostRight 73 = .ok (.iadd, 1) := dall dgX12_mostRight_16 44 rfl
theorem dX12_mostRight_74 : decode cX12_mostRight 74 = .ok (.iastore, 1) := dall dgX12_mostRight_16 45 rfl
theorem dX12_mostRight_75 : decode cX12_mostRight 75 = .ok (.iinc 1 1, 3) := dall dgX12_mostRight_16 46 rfl
theorem dX12_mostRight_78 : decode cX12_mostRight 78 = .ok (.goto (-55), 3) := dall dgX12_mostRight_16 47 rfl
theorem dX12_mostRight_81 : decode cX12_mostRight 81 = .ok (.iconst 0, 1) := dall dgX12_mostRight_16 48 rfl
theorem dX12_mostRight_82 : decode cX12_mostRight 82 = .ok (.istore_n 1, 1) := dall dgX12_mostRight_16 49 rfl
def lgX12_mostRight_17 : List (Nat × Instr × Nat) := [(83, .iload_n 1, 1), (84, .sipush 512, 3), (87, .if_icmp .ge 16, 3), (90, .aload_n 0, 1), (91, .getfield 90, 3), (94, .iload_n 1, 1), (95, .iconst 0, 1), (96, .iastore, 1), (97, .iinc 1 1, 3), (100, .goto (-17), 3), (103, .iconst 1, 1), (104, .istore_n 1, 1), (105, .iload_n 1, 1), (106, .bipush 6, 2), (108, .if_icmp .ge 131, 3), (111, .iconst 0, 1), (112, .istore_n 2, 1), (113, .iload_n 2, 1), (114, .sipush 512, 3), (117, .if_icmp .ge 116, 3), (120, .aload_n 0, 1), (121, .getfield 90, 3), (124, .sipush 512, 3), (127, .iload_n 1, 1), (128, .iconst 1, 1), (129, .isub, 1), (130, .imul, 1), (131, .iload_n 2, 1), (132, .iadd, 1), (133, .iaload, 1), (134, .istore_n 3, 1), (135, .iconst 0, 1), (136, .istore 4, 2), (138, .iload 4, 2), (140, .bipush 9, 2), (142, .if_icmp .ge 72, 3), (145, .iload_n 2, 1), (146, .iload 4, 2), (148, .ishr, 1), (149, .iconst 1, 1), (150, .iand, 1), (151, .iconst 1, 1), (152, .if_icmp .ne 40, 3), (155, .aload_n 0, 1), (156, .getfield 90, 3), (159, .sipush 512, 3), (162, .iload_n 1, 1), (163, .iconst 1, 1), (164, .isub, 1), (165, .imul, 1)]
theorem dgX12_mostRight_17 : ∀ q ∈ lgX12_mostRight_17, decode cX12_mostRight q.1 = .ok (q.2.1, q.2.2) := by decide +kernel
theorem dX12_mostRight_83 : decode cX12_mostRight 83 = .ok (.iload_n 1, 1) := dall dgX12_mostRight_17 0 rfl
theorem dX12_mostRight_84 : decode cX12_mostRight 84 = .ok (.sipush 512, 3) := dall dgX12_mostRight_17 1 rfl
theorem dX12_mostRight_87 : decode cX12_mostRight 87 = .ok (.if_icmp .ge 16, 3) := dall dgX12_mostRight_17 2 rfl
theorem dX12_mostRight_90 : decode cX12_mostRight 90 = .ok (.aload_n 0, 1) := dall dgX12_mostRight_17 3 rfl
theorem dX12_mostRight_91 : decode cX12_mostRight 91 = .ok (.getfield 90, 3) := dall dgX12_mostRight_17 4 rfl
theorem dX12_mostRight_94 : decode cX12_mostRight 94 = .ok (.iload_n 1, 1) := dall dgX12_mostRight_17 5 rfl
theorem dX12_mostRight_95 : decode cX12_mostRight 95 = .ok (.iconst 0, 1) := dall dgX12_mostRight_17 6 rfl
theorem dX12_mostRight_96 : decode cX12_mostRight 96 = .ok (.iastore, 1) := dall dgX12_mostRight_17 7 rfl
theorem dX12_mostRight_97 : decode cX12_mostRight 97 = .ok (.iinc 1 1, 3) := dall dgX12_mostRight_17 8 rfl
theorem dX12_mostRight_100 : decode cX12_mostRight 100 = .ok (.goto (-17), 3) := dall dgX12_mostRight_17 9 rfl
theorem dX12_mostRight_103 : decode cX12_mostRight 103 = .ok (.iconst 1, 1) := dall dgX12_mostRight_17 10 rfl
theorem dX12_mostRight_104 : decode cX12_mostRight 104 = .ok (.istore_n 1, 1) := dall dgX12_mostRight_17 11 rfl
theorem dX12_mostRight_105 : decode cX12_mostRight 105 = .ok (.iload_n 1, 1) := dall dgX12_mostRight_17 12 rfl
theorem dX12_mostRight_106 : decode cX12_mostRight 106 = .ok (.bipush 6, 2) := dall dgX12_mostRight_17 13 rfl
theorem dX12_mostRight_108 : decode cX12_mostRight 108 = .ok (.if_icmp .ge 131, 3) := dall dgX12_mostRight_17 14 rfl
theorem dX12_mostRight_111 : decode cX12_mostRight 111 = .ok (.iconst 0, 1) := dall dgX12_mostRight_17 15 rfl
theorem dX12_mostRight_112 : decode cX12_mostRight 112 = .ok (.istore_n 2, 1) := dall dgX12_mostRight_17 16 rfl
theorem dX12_mostRight_113 : decode cX12_mostRight 113 = .ok (.iload_n 2, 1) := dall dgX12_mostRight_17 17 rfl
theorem dX12_mostRight_114 : decode cX12_mostRight 114 = .ok (.sipush 512, 3) := dall dgX12_mostRight_17 18 rfl
theorem dX12_mostRight_117 : decode cX12_mostRight 117 = .ok (.if_icmp .ge 116, 3) := dall dgX12_mostRight_17 19 rfl
theorem dX12_mostRight_120 : decode cX12_mostRight 120 = .ok (.aload_n 0, 1) := dall dgX12_mostRight_17 20 rfl
theorem dX12_mostRight_121 : decode cX12_mostRight 121 = .ok (.getfield 90, 3) := dall dgX12_mostRight_17 21 rfl
theorem dX12_mostRight_124 : decode cX12_mostRight 124 = .ok (.sipush 512, 3) := dall dgX12_mostRight_17 22 rfl
theorem dX12_mostRight_127 : decode cX12_mostRight 127 = .ok (.iload_n 1, 1) := dall dgX12_mostRight_17 23 rfl
theorem dX12_mostRight_128 : decode cX12_mostRight 128 = .ok (.iconst 1, 1) := dall dgX12_mostRight_17 24 rfl
theorem dX12_mostRight_129 : decode cX12_mostRight 129 = .ok (.isub, 1) := dall dgX12_mostRight_17 25 rfl
theorem dX12_mostRight_130 : decode cX12_mostRight 130 = .ok (.imul, 1) := dall dgX12_mostRight_17 26 rfl
theorem dX12_mostRight_131 : decode cX12_mostRight 131 = .ok (.iload_n 2, 1) := dall dgX12_mostRight_17 27 rfl
theorem dX12_mostRight_132 : decode cX12_mostRight 132 = .ok (.iadd, 1) := dall dgX12_mostRight_17 28 rfl
theorem dX12_mostRight_133 : decode cX12_mostRight 133 = .ok (.iaload, 1) := dall dgX12_mostRight_17 29 rfl
theorem dX12_mostRight_134 : decode cX12_mostRight 134 = .ok (.istore_n 3, 1) := dall dgX12_mostRight_17 30 rfl
theorem dX12_mostRight_135 : decode cX12_mostRight 135 = .ok (.iconst 0, 1) := dall dgX12_mostRight_17 31 rfl
theorem dX12_mostRight_136 : decode cX12_mostRight 136 = .ok (.istore 4, 2) := dall dgX12_mostRight_17 32 rfl
theorem dX12_mostRight_138 : decode cX12_mostRight 138 = .ok (.iload 4, 2) := dall dgX12_mostRight_17 33 rfl
theorem dX12_mostRight_140 : decode cX12_mostRight 140 = .ok (.bipush 9, 2) := dall dgX12_mostRight_17 34 rfl
theorem dX12_mostRight_142 : decode cX12_mostRight 142 = .ok (.if_icmp .ge 72, 3) := dall dgX12_mostRight_17 35 rfl
theorem dX12_mostRight_145 : decode cX12_mostRight 145 = .ok (.iload_n 2, 1) := dall dgX12_mostRight_17 36 rfl
theorem dX12_mostRight_146 : decode cX12_mostRight 146 = .ok (.iload 4, 2) := dall dgX12_mostRight_17 37 rfl
theorem dX12_mostRight_148 : decode cX12_mostRight 148 = .ok (.ishr, 1) := dall dgX12_mostRight_17 38 rfl
theorem dX12_mostRight_149 : decode cX12_mostRight 149 = .ok (.iconst 1, 1) := dall dgX12_mostRight_17 39 rfl
theorem dX12_mostRight_150 : decode cX12_mostRight 150 = .ok (.iand, 1) := dall dgX12_mostRight_17 40 rfl
theorem dX12_mostRight_151 : decode cX12_mostRight 151 = .ok (.iconst 1, 1) := dall dgX12_mostRight_17 41 rfl
theorem dX12_mostRight_152 : decode cX12_mostRight 152 = .ok (.if_icmp .ne 40, 3) := dall dgX12_mostRight_17 42 rfl
theorem dX12_mostRight_155 : decode cX12_mostRight 155 = .ok (.aload_n 0, 1) := dall dgX12_mostRight_17 43 rfl
theorem dX12_mostRight_156 : decode cX12_mostRight 156 = .ok (.getfield 90, 3) := dall dgX12_mostRight_17 44 rfl
theorem dX12_mostRight_159 : decode cX12_mostRight 159 = .ok (.sipush 512, 3) := dall dgX12_mostRight_17 45 rfl
theorem dX12_mostRight_162 : decode cX12_mostRight 162 = .ok (.iload_n 1, 1) := dall dgX12_mostRight_17 46 rfl
theorem dX12_mostRight_163 : decode cX12_mostRight 163 = .ok (.iconst 1, 1) := dall dgX12_mostRight_17 47 rfl
theorem dX12_mostRight_164 : decode cX12_mostRight 164 = .ok (.isub, 1) := dall dgX12_mostRight_17 48 rfl
theorem dX12_mostRight_165 : decode cX12_mostRight 165 = .ok (.imul, 1) := dall dgX12_mostRight_17 49 rfl
def lgX12_mostRight_18 : List (Nat × Instr × Nat) := [(166, .iload_n 2, 1), (167, .iconst 1, 1), (168, .iload 4, 2), (170, .ishl, 1), (171, .iconst (-1), 1), (172, .ixor, 1), (173, .iand, 1), (174, .iadd, 1), (175, .iaload, 1), (176, .aload_n 0, 1), (177, .getfield 93, 3), (180, .bipush 9, 2), (182, .iload_n 1, 1), (183, .imul, 1), (184, .iload 4, 2), (186, .iadd, 1), (187, .iaload, 1), (188, .iadd, 1), (189, .goto 4, 3), (192, .iconst 0, 1), (193, .istore 5, 2), (195, .iload 5, 2), (197, .iload_n 3, 1), (198, .if_icmp .le 8, 3), (201, .iload 5, 2), (203, .goto 4, 3), (206, .iload_n 3, 1), (207, .istore_n 3, 1), (208, .iinc 4 1, 3), (211, .goto (-73), 3), (214, .aload_n 0, 1), (215, .getfield 90, 3), (218, .sipush 512, 3), (221, .iload_n 1, 1), (222, .imul, 1), (223, .iload_n 2, 1), (224, .iadd, 1), (225, .iload_n 3, 1), (226, .iastore, 1), (227, .iinc 2 1, 3), (230, .goto (-117), 3), (233, .iinc 1 1, 3), (236, .goto (-131), 3), (239, .aload_n 0, 1), (240, .getfield 90, 3), (243, .sipush 3071, 3), (246, .iaload, 1), (247, .ireturn, 1)]
theorem dgX12_mostRight_18 : ∀ q ∈ lgX12_mostRight_18, decode cX12_mostRight q.1 = .ok (q.2.1, q.2.2) := by decide +kernel
theorem dX12_mostRight_166 : decode cX12_mostRight 166 = .ok (.iload_n 2, 1) := dall dgX12_mostRight_18 0 rfl
theorem dX12_mostRight_167 : decode cX12_mostRight 167 = .ok (.iconst 1, 1) := dall dgX12_mostRight_18 1 rfl
theorem dX12_mostRight_168 : decode cX12_mostRight 168 = .ok (.iload 4, 2) := dall dgX12_mostRight_18 2 rfl
theorem dX12_mostRight_170 : decode cX12_mostRight 170 = .ok (.ishl, 1) := dall dgX12_mostRight_18 3 rfl
theorem dX12_mostRight_171 : decode cX12_mostRight 171 = .ok (.iconst (-1), 1) := dall dgX12_mostRight_18 4 rfl
theorem dX12_mostRight_172 : decode cX12_mostRight 172 = .ok (.ixor, 1) := dall dgX12_mostRight_18 5 rfl
theorem dX12_mostRight_173 : decode cX12_mostRight 173 = .ok (.iand, 1) := dall dgX12_mostRight_18 6 rfl
theorem dX12_mostRight_174 : decode cX12_mostRight 174 = .ok (.iadd, 1) := dall dgX12_mostRight_18 7 rfl
theorem dX12_mostRight_175 : decode cX12_mostRight 175 = .ok (.iaload, 1) := dall dgX12_mostRight_18 8 rfl
theorem dX12_mostRight_176 : decode cX12_mostRight 176 = .ok (.aload_n 0, 1) := dall dgX12_mostRight_18 9 rfl
theorem dX12_mostRight_177 : decode cX12_mostRight 177 = .ok (.getfield 93, 3) := dall dgX12_mostRight_18 10 rfl
theorem dX12_mostRight_180 : decode cX12_mostRight 180 = .ok (.bipush 9, 2) := dall dgX12_mostRight_18 11 rfl
theorem dX12_mostRight_182 : decode cX12_mostRight 182 = .ok (.iload_n 1, 1) := dall dgX12_mostRight_18 12 rfl
theorem dX12_mostRight_183 : decode cX12_mostRight 183 = .ok (.imul, 1) := dall dgX12_mostRight_18 13 rfl
theorem dX12_mostRight_184 : decode cX12_mostRight 184 = .ok (.iload 4, 2) := dall dgX12_mostRight_18 14 rfl
theorem dX12_mostRight_186 : decode cX12_mostRight 186 = .ok (.iadd, 1) := dall dgX12_mostRight_18 15 rfl
theorem dX12_mostRight_187 : decode cX12_mostRight 187 = .ok (.iaload, 1) := dall dgX12_mostRight_18 16 rfl
theorem dX12_mostRight_188 : decode cX12_mostRight 188 = .ok (.iadd, 1) := dall dgX12_mostRight_18 17 rfl
theorem dX12_mostRight_189 : decode cX12_mostRight 189 = .ok (.goto 4, 3) := dall dgX12_mostRight_18 18 rfl
theorem dX12_mostRight_192 : decode cX12_mostRight 192 = .ok (.iconst 0, 1) := dall dgX12_mostRight_18 19 rfl
theorem dX12_mostRight_193 : decode cX12_mostRight 193 = .ok (.istore 5, 2) := dall dgX12_mostRight_18 20 rfl
theorem dX12_mostRight_195 : decode cX12_mostRight 195 = .ok (.iload 5, 2) := dall dgX12_mostRight_18 21 rfl
theorem dX12_mostRight_197 : decode cX12_mostRight 197 = .ok (.iload_n 3, 1) := dall dgX12_mostRight_18 22 rfl
theorem dX12_mostRight_198 : decode cX12_mostRight 198 = .ok (.if_icmp .le 8, 3) := dall dgX12_mostRight_18 23 rfl
theorem dX12_mostRight_201 : decode cX12_mostRight 201 = .ok (.iload 5, 2) := dall dgX12_mostRight_18 24 rfl
theorem dX12_mostRight_203 : decode cX12_mostRight 203 = .ok (.goto 4, 3) := dall dgX12_mostRight_18 25 rfl
theorem dX12_mostRight_206 : decode cX12_mostRight 206 = .ok (.iload_n 3, 1) := dall dgX12_mostRight_18 26 rfl
theorem dX12_mostRight_207 : decode cX12_mostRight 207 = .ok (.istore_n 3, 1) := dall dgX12_mostRight_18 27 rfl
theorem dX12_mostRight_208 : decode cX12_mostRight 208 = .ok (.iinc 4 1, 3) := dall dgX12_mostRight_18 28 rfl
theorem dX12_mostRight_211 : decode cX12_mostRight 211 = .ok (.goto (-73), 3) := dall dgX12_mostRight_18 29 rfl
theorem dX12_mostRight_214 : decode cX12_mostRight 214 = .ok (.aload_n 0, 1) := dall dgX12_mostRight_18 30 rfl
theorem dX12_mostRight_215 : decode cX12_mostRight 215 = .ok (.getfield 90, 3) := dall dgX12_mostRight_18 31 rfl
theorem dX12_mostRight_218 : decode cX12_mostRight 218 = .ok (.sipush 512, 3) := dall dgX12_mostRight_18 32 rfl
theorem dX12_mostRight_221 : decode cX12_mostRight 221 = .ok (.iload_n 1, 1) := dall dgX12_mostRight_18 33 rfl
theorem dX12_mostRight_222 : decode cX12_mostRight 222 = .ok (.imul, 1) := dall dgX12_mostRight_18 34 rfl
theorem dX12_mostRight_223 : decode cX12_mostRight 223 = .ok (.iload_n 2, 1) := dall dgX12_mostRight_18 35 rfl
theorem dX12_mostRight_224 : decode cX12_mostRight 224 = .ok (.iadd, 1) := dall dgX12_mostRight_18 36 rfl
theorem dX12_mostRight_225 : decode cX12_mostRight 225 = .ok (.iload_n 3, 1) := dall dgX12_mostRight_18 37 rfl
theorem dX12_mostRight_226 : decode cX12_mostRight 226 = .ok (.iastore, 1) := dall dgX12_mostRight_18 38 rfl
theorem dX12_mostRight_227 : decode cX12_mostRight 227 = .ok (.iinc 2 1, 3) := dall dgX12_mostRight_18 39 rfl
theorem dX12_mostRight_230 : decode cX12_mostRight 230 = .ok (.goto (-117), 3) := dall dgX12_mostRight_18 40 rfl
theorem dX12_mostRight_233 : decode cX12_mostRight 233 = .ok (.iinc 1 1, 3) := dall dgX12_mostRight_18 41 rfl
theorem dX12_mostRight_236 : decode cX12_mostRight 236 = .ok (.goto (-131), 3) := dall dgX12_mostRight_18 42 rfl
theorem dX12_mostRight_239 : decode cX12_mostRight 239 = .ok (.aload_n 0, 1) := dall dgX12_mostRight_18 43 rfl
theorem dX12_mostRight_240 : decode cX12_mostRight 240 = .ok (.getfield 90, 3) := dall dgX12_mostRight_18 44 rfl
theorem dX12_mostRight_243 : decode cX12_mostRight 243 = .ok (.sipush 3071, 3) := dall dgX12_mostRight_18 45 rfl
theorem dX12_mostRight_246 : decode cX12_mostRight 246 = .ok (.iaload, 1) := dall dgX12_mostRight_18 46 rfl
theorem dX12_mostRight_247 : decode cX12_mostRight 247 = .ok (.ireturn, 1) := dall dgX12_mostRight_18 47 rfl
set_option maxRecDepth 20000 in
theorem ggX12_errors_X12_in : GoodIn wsX12_errors wsX12_in := goodIn_r _ [7] rfl (by decide +kernel)
set_option maxRecDepth 20000 in
theorem gX12_errors_X12_in : GoodIn wsX12_errors (va_wsS RX12 100 yX12_in wsX12_in) := goodIn_app (goodIn_of _ (by decide +kernel)) ggX12_errors_X12_in
set_option maxRecDepth 20000 in
theorem ggX12_errors_X12_findPieces : GoodIn wsX12_errors wsX12_findPieces := goodIn_r _ [11, 12, 13, 14, 1, 2, 15, 16, 17, 6, 18, 19, 20, 21, 22, 23, 24, 25, 26, 27, 28, 29, 30, 31, 32, 33, 34, 35, 36, 37, 38, 39, 4, 5, 7, 40, 41, 42, 43, 44, 93, 94, 95, 96, 97, 98, 99, 100, 101, 102, 103, 104, 105, 106, 107, 108, 109, 110, 111, 112, 113, 114, 115, 116, 117, 118, 119, 120, 121, 122, 123, 124, 125, 126, 127, 128, 129, 130, 131, 132, 133, 134, 135, 136, 137] rfl (by decide +kernel)
set_option maxRecDepth 20000 in
theorem gX12_errors_X12_findPieces : GoodIn wsX12_errors (wsV RX12 203 RX12 yX12_findPieces wsX12_findPieces) := goodIn_app (goodIn_of _ (by decide +kernel)) ggX12_errors_X12_findPieces
set_option maxRecDepth 20000 in
theorem ggX12_errors_X12_findBest : GoodIn wsX12_errors wsX12_findBest := goodIn_r _ [48, 12, 49, 50, 51, 8, 9, 10, 6, 11, 13, 14, 1, 2, 15, 16, 17, 18, 19, 20, 21, 22, 23, 24, 25, 26, 27, 28, 29, 30, 31, 32, 33, 34, 35, 36, 37, 38, 39, 4, 5, 7, 40, 41, 42, 43, 44, 52, 53, 54, 55, 56, 57, 58, 59, 60, 61, 62, 63, 64, 65, 66, 67, 68, 69, 70, 71, 72, 73, 74, 75, 76, 77, 78, 79, 80, 81, 82, 93, 94, 95, 96, 97, 98, 99, 100, 101, 102, 103, 104, 105, 106, 107, 108, 109, 110, 111, 112, 113, 114, 115, 116, 117, 118, 119, 120, 121, 122, 123, 124, 125, 126, 127, 128, 129, 130, 131, 132, 133, 134, 135, 136, 137] rfl (by decide +kernel)
set_option maxRecDepth 20000 in
theorem gX12_errors_X12_findBest : GoodIn wsX12_errors (wsV RX12 240 RX12 yX12_findBest wsX12_findBest) := goodIn_app (goodIn_of _ (by decide +kernel)) ggX12_errors_X12_findBest
set_option maxRecDepth 20000 in
theorem ggX12_errors_X12_mostRight : GoodIn wsX12_errors wsX12_mostRight := goodIn_r _ [86, 87, 1, 2, 3, 88, 89, 90, 91, 6, 92, 51, 93, 94, 95, 96, 97, 98, 99, 100, 101, 102, 103, 104, 105, 106, 107, 108, 109, 110, 111, 112, 113, 114, 115, 116, 117, 118, 119, 120, 121, 122, 123, 124, 125, 126, 127, 128, 129, 130, 131, 132, 133, 134, 135, 136, 137] rfl (by decide +kernel)
set_option maxRecDepth 20000 in
theorem gX12_errors_X12_mostRight : GoodIn wsX12_errors (wsV RX12 267 RX12 yX12_mostRight wsX12_mostRight) := goodIn_app (goodIn_of _ (by decide +kernel)) ggX12_errors_X12_mostRight
def lgX12_errors_19 : List (Nat × Instr × Nat) := [(0, .iload_n 1, 1), (1, .iconst 0, 1), (2, .iconst 2, 1), (3, .invokestatic 100, 3), (6, .ifCond .ne 5, 3), (9, .iconst (-1), 1), (10, .ireturn, 1), (11, .aload_n 0, 1), (12, .invokevirtual 203, 3), (15, .iconst 0, 1), (16, .istore_n 2, 1), (17, .iconst 0, 1), (18, .istore_n 3, 1), (19, .iconst 0, 1), (20, .istore 4, 2), (22, .iconst 0, 1), (23, .istore 5, 2), (25, .iload 5, 2), (27, .aload_n 0, 1), (28, .getfield 156, 3), (31, .if_icmp .ge 99, 3), (34, .aload_n 0, 1), (35, .getfield 45, 3), (38, .iload 5, 2), (40, .iaload, 1), (41, .bipush (-9), 2), (43, .if_icmp .eq 7, 3), (46, .iconst 1, 1), (47, .goto 4, 3), (50, .iconst 0, 1), (51, .istore 6, 2), (53, .iload_n 2, 1), (54, .iload 6, 2), (56, .ifCond .ne 17, 3), (59, .aload_n 0, 1), (60, .getfield 27, 3), (63, .iload 5, 2), (65, .iaload, 1), (66, .ifCond .le 7, 3), (69, .iconst 1, 1), (70, .goto 4, 3), (73, .iconst 0, 1), (74, .iadd, 1), (75, .istore_n 2, 1), (76, .iload_n 3, 1), (77, .iload 6, 2), (79, .ifCond .eq 17, 3), (82, .aload_n 0, 1), (83, .getfield 27, 3), (86, .iload 5, 2)]
theorem dgX12_errors_19 : ∀ q ∈ lgX12_errors_19, decode cX12_errors q.1 = .ok (q.2.1, q.2.2) := by decide +kernel
theorem dX12_errors_0 : decode cX12_errors 0 = .ok (.iload_n 1, 1) := dall dgX12_errors_19 0 rfl
theorem dX12_errors_1 : decode cX12_errors 1 = .ok (.iconst 0, 1) := dall dgX12_errors_19 1 rfl
theorem dX12_errors_2 : decode cX12_errors 2 = .ok (.iconst 2, 1) := dall dgX12_errors_19 2 rfl
theorem dX12_errors_3 : decode cX12_errors 3 = .ok (.invokestatic 100, 3) := dall dgX12_errors_19 3 rfl
theorem dX12_errors_6 : decode cX12_errors 6 = .ok (.ifCond .ne 5, 3) := dall dgX12_errors_19 4 rfl
theorem dX12_errors_9 : decode cX12_errors 9 = .ok (.iconst (-1), 1) := dall dgX12_errors_19 5 rfl
theorem dX12_errors_10 : decode cX12_errors 10 = .ok (.ireturn, 1) := dall dgX12_errors_19 6 rfl
theorem dX12_errors_11 : decode cX12_errors 11 = .ok (.aload_n 0, 1) := dall dgX12_errors_19 7 rfl
theorem dX12_errors_12 : decode cX12_errors 12 = .ok (.invokevirtual 203, 3) := dall dgX12_errors_19 8 rfl
theorem dX12_errors_15 : decode cX12_errors 15 = .ok (.iconst 0, 1) := dall dgX12_errors_19 9 rfl
theorem dX12_errors_16 : decode cX12_errors 16 = .ok (.istore_n 2, 1) := dall dgX12_errors_19 10 rfl
theorem dX12_errors_17 : decode cX12_errors 17 = .ok (.iconst 0, 1) := dall dgX12_errors_19 11 rfl
theorem dX12_errors_18 : decode cX12_errors 18 = .ok (.istore_n 3, 1) := dall dgX12_errors_19 12 rfl
theorem dX12_errors_19 : decode cX12_errors 19 = .ok (.iconst 0, 1) := dall dgX12_errors_19 13 rfl
theorem dX12_errors_20 : decode cX12_errors 20 = .ok (.istore 4, 2) := dall dgX12_errors_19 14 rfl
theorem dX12_errors_22 : decode cX12_errors 22 = .ok (.iconst 0, 1) := dall dgX12_errors_19 15 rfl
theorem dX12_errors_23 : decode cX12_errors 23 = .ok (.istore 5, 2) := dall dgX12_errors_19 16 rfl
theorem dX12_errors_25 : decode cX12_errors 25 = .ok (.iload 5, 2) := dall dgX12_errors_19 17 rfl
theorem dX12_errors_27 : decode cX12_errors 27 = .ok (.aload_n 0, 1) := dall dgX12_errors_19 18 rfl
theorem dX12_errors_28 : decode cX12_errors 28 = .ok (.getfield 156, 3) := dall dgX12_errors_19 19 rfl
theorem dX12_errors_31 : decode cX12_errors 31 = .ok (.if_icmp .ge 99, 3) := dall dgX12_errors_19 20 rfl
theorem dX12_errors_34 : decode cX12_errors 34 = .ok (.aload_n 0, 1) := dall dgX12_errors_19 21 rfl
theorem dX12_errors_35 : decode cX12_errors 35 = .ok (.getfield 45, 3) := dall dgX12_errors_19 22 rfl
theorem dX12_errors_38 : decode cX12_errors 38 = .ok (.iload 5, 2) := dall dgX12_errors_19 23 rfl
theorem dX12_errors_40 : decode cX12_errors 40 = .ok (.iaload, 1) := dall dgX12_errors_19 24 rfl
theorem dX12_errors_41 : decode cX12_errors 41 = .ok (.bipush (-9), 2) := dall dgX12_errors_19 25 rfl
theorem dX12_errors_43 : decode cX12_errors 43 = .ok (.if_icmp .eq 7, 3) := dall dgX12_errors_19 26 rfl
theorem dX12_errors_46 : decode cX12_errors 46 = .ok (.iconst 1, 1) := dall dgX12_errors_19 27 rfl
theorem dX12_errors_47 : decode cX12_errors 47 = .ok (.goto 4, 3) := dall dgX12_errors_19 28 rfl
theorem dX12_errors_50 : decode cX12_errors 50 = .ok (.iconst 0, 1) := dall dgX12_errors_19 29 rfl
theorem dX12_errors_51 : decode cX12_errors 51 = .ok (.istore 6, 2) := dall dgX12_errors_19 30 rfl
theorem dX12_errors_53 : decode cX12_errors 53 = .ok (.iload_n 2, 1) := dall dgX12_errors_19 31 rfl
theorem dX12_errors_54 : decode cX12_errors 54 = .ok (.iload 6, 2) := dall dgX12_errors_19 32 rfl
theorem dX12_errors_56 : decode cX12_errors 56 = .ok (.ifCond .ne 17, 3) := dall dgX12_errors_19 33 rfl
theorem dX12_errors_59 : decode cX12_errors 59 = .ok (.aload_n 0, 1) := dall dgX12_errors_19 34 rfl
theorem dX12_errors_60 : decode cX12_errors 60 = .ok (.getfield 27, 3) := dall dgX12_errors_19 35 rfl
theorem dX12_errors_63 : decode cX12_errors 63 = .ok (.iload 5, 2) := dall dgX12_errors_19 36 rfl
theorem dX12_errors_65 : decode cX12_errors 65 = .ok (.iaload, 1) := dall dgX12_errors_19 37 rfl
theorem dX12_errors_66 : decode cX12_errors 66 = .ok (.ifCond .le 7, 3) := dall dgX12_errors_19 38 rfl
theorem dX12_errors_69 : decode cX12_errors 69 = .ok (.iconst 1, 1) := dall dgX12_errors_19 39 rfl
theorem dX12_errors_70 : decode cX12_errors 70 = .ok (.goto 4, 3) := dall dgX12_errors_19 40 rfl
theorem dX12_errors_73 : decode cX12_errors 73 = .ok (.iconst 0, 1) := dall dgX12_errors_19 41 rfl
theorem dX12_errors_74 : decode cX12_errors 74 = .ok (.iadd, 1) := dall dgX12_errors_19 42 rfl
theorem dX12_errors_75 : decode cX12_errors 75 = .ok (.istore_n 2, 1) := dall dgX12_errors_19 43 rfl
theorem dX12_errors_76 : decode cX12_errors 76 = .ok (.iload_n 3, 1) := dall dgX12_errors_19 44 rfl
theorem dX12_errors_77 : decode cX12_errors 77 = .ok (.iload 6, 2) := dall dgX12_errors_19 45 rfl
theorem dX12_errors_79 : decode cX12_errors 79 = .ok (.ifCond .eq 17, 3) := dall dgX12_errors_19 46 rfl
theorem dX12_errors_82 : decode cX12_errors 82 = .ok (.aload_n 0, 1) := dall dgX12_errors_19 47 rfl
theorem dX12_errors_83 : decode cX12_errors 83 = .ok (.getfield 27, 3) := dall dgX12_errors_19 48 rfl
theorem dX12_errors_86 : decode cX12_errors 86 = .ok (.iload 5, 2) := dall dgX12_errors_19 49 rfl
def lgX12_errors_20 : List (Nat × Instr × Nat) := [(88, .iaload, 1), (89, .ifCond .ne 7, 3), (92, .iconst 1, 1), (93, .goto 4, 3), (96, .iconst 0, 1), (97, .iadd, 1), (98, .istore_n 3, 1), (99, .iload 4, 2), (101, .iload 6, 2), (103, .ifCond .eq 17, 3), (120, .iconst 0, 1), (121, .iadd, 1), (122, .istore 4, 2), (124, .iinc 5 1, 3), (127, .goto (-102), 3), (130, .iload_n 1, 1), (131, .iconst 2, 1), (132, .if_icmp .ge 13, 3), (135, .iload_n 1, 1), (136, .ifCond .ne 7, 3), (139, .iload_n 2, 1), (140, .goto 4, 3), (143, .iload_n 3, 1), (144, .ireturn, 1), (145, .aload_n 0, 1), (146, .invokevirtual 240, 3), (149, .ifCond .eq 13, 3), (152, .iload 4, 2), (154, .aload_n 0, 1), (155, .invokevirtual 267, 3), (158, .isub, 1), (159, .goto 5, 3), (162, .bipush (-2), 2), (164, .ireturn, 1)]
theorem dgX12_errors_20 : ∀ q ∈ lgX12_errors_20, decode cX12_errors q.1 = .ok (q.2.1, q.2.2) := by decide +kernel
theorem dX12_errors_88 : decode cX12_errors 88 = .ok (.iaload, 1) := dall dgX12_errors_20 0 rfl
theorem dX12_errors_89 : decode cX12_errors 89 = .ok (.ifCond .ne 7, 3) := dall dgX12_errors_20 1 rfl
theorem dX12_errors_92 : decode cX12_errors 92 = .ok (.iconst 1, 1) := dall dgX12_errors_20 2 rfl
theorem dX12_errors_93 : decode cX12_errors 93 = .ok (.goto 4, 3) := dall dgX12_errors_20 3 rfl
theorem dX12_errors_96 : decode cX12_errors 96 = .ok (.iconst 0, 1) := dall dgX12_errors_20 4 rfl
theorem dX12_errors_97 : decode cX12_errors 97 = .ok (.iadd, 1) := dall dgX12_errors_20 5 rfl
theorem dX12_errors_98 : decode cX12_errors 98 = .ok (.istore_n 3, 1) := dall dgX12_errors_20 6 rfl
theorem dX12_errors_99 : decode cX12_errors 99 = .ok (.iload 4, 2) := dall dgX12_errors_20 7 rfl
theorem dX12_errors_101 : decode cX12_errors 101 = .ok (.iload 6, 2) := dall dgX12_errors_20 8 rfl
theorem dX12_errors_103 : decode cX12_errors 103 = .ok (.ifCond .eq 17, 3) := dall dgX12_errors_20 9 rfl
theorem dX12_errors_120 : decode cX12_errors 120 = .ok (.iconst 0, 1) := dall dgX12_errors_20 10 rfl
theorem dX12_errors_121 : decode cX12_errors 121 = .ok (.iadd, 1) := dall dgX12_errors_20 11 rfl
theorem dX12_errors_122 : decode cX12_errors 122 = .ok (.istore 4, 2) := dall dgX12_errors_20 12 rfl
theorem dX12_errors_124 : decode cX12_errors 124 = .ok (.iinc 5 1, 3) := dall dgX12_errors_20 13 rfl
theorem dX12_errors_127 : decode cX12_errors 127 = .ok (.goto (-102), 3) := dall dgX12_errors_20 14 rfl
theorem dX12_errors_130 : decode cX12_errors 130 = .ok (.iload_n 1, 1) := dall dgX12_errors_20 15 rfl
theorem dX12_errors_131 : decode cX12_errors 131 = .ok (.iconst 2, 1) := dall dgX12_errors_20 16 rfl
theorem dX12_errors_132 : decode cX12_errors 132 = .ok (.if_icmp .ge 13, 3) := dall dgX12_errors_20 17 rfl
theorem dX12_errors_135 : decode cX12_errors 135 = .ok (.iload_n 1, 1) := dall dgX12_errors_20 18 rfl
theorem dX12_errors_136 : decode cX12_errors 136 = .ok (.ifCond .ne 7, 3) := dall dgX12_errors_20 19 rfl
theorem dX12_errors_139 : decode cX12_errors 139 = .ok (.iload_n 2, 1) := dall dgX12_errors_20 20 rfl
theorem dX12_errors_140 : decode cX12_errors 140 = .ok (.goto 4, 3) := dall dgX12_errors_20 21 rfl
theorem dX12_errors_143 : decode cX12_errors 143 = .ok (.iload_n 3, 1) := dall dgX12_errors_20 22 rfl
theorem dX12_errors_144 : decode cX12_errors 144 = .ok (.ireturn, 1) := dall dgX12_errors_20 23 rfl
theorem dX12_errors_145 : decode cX12_errors 145 = .ok (.aload_n 0, 1) := dall dgX12_errors_20 24 rfl
theorem dX12_errors_146 : decode cX12_errors 146 = .ok (.invokevirtual 240, 3) := dall dgX12_errors_20 25 rfl
theorem dX12_errors_149 : decode cX12_errors 149 = .ok (.ifCond .eq 13, 3) := dall dgX12_errors_20 26 rfl
theorem dX12_errors_152 : decode cX12_errors 152 = .ok (.iload 4, 2) := dall dgX12_errors_20 27 rfl
theorem dX12_errors_154 : decode cX12_errors 154 = .ok (.aload_n 0, 1) := dall dgX12_errors_20 28 rfl
theorem dX12_errors_155 : decode cX12_errors 155 = .ok (.invokevirtual 267, 3) := dall dgX12_errors_20 29 rfl
theorem dX12_errors_158 : decode cX12_errors 158 = .ok (.isub, 1) := dall dgX12_errors_20 30 rfl
theorem dX12_errors_159 : decode cX12_errors 159 = .ok (.goto 5, 3) := dall dgX12_errors_20 31 rfl
theorem dX12_errors_162 : decode cX12_errors 162 = .ok (.bipush (-2), 2) := dall dgX12_errors_20 32 rfl
theorem dX12_errors_164 : decode cX12_errors 164 = .ok (.ireturn, 1) := dall dgX12_errors_20 33 rfl
set_option maxRecDepth 20000 in
theorem ggX12_weight_X12_findPieces : GoodIn wsX12_weight wsX12_findPieces := goodIn_r _ [17, 18, 19, 20, 21, 22, 23, 24, 25, 16, 26, 27, 28, 29, 30, 31, 32, 33, 34, 35, 36, 37, 38, 1, 3, 2, 39, 40, 41, 42, 43, 44, 45, 46, 47, 48, 49, 50, 51, 52, 57, 58, 59, 60, 61, 62, 63, 64, 65, 66, 67, 68, 69, 70, 71, 72, 73, 74, 75, 76, 77, 78, 79, 80, 81, 82, 83, 84, 85, 86, 87, 88, 89, 90, 91, 92, 93, 94, 95, 96, 97, 98, 99, 100, 101] rfl (by decide +kernel)
set_option maxRecDepth 20000 in
theorem gX12_weight_X12_findPieces : GoodIn wsX12_weight (wsV RX12 203 RX12 yX12_findPieces wsX12_findPieces) := goodIn_app (goodIn_of _ (by decide +kernel)) ggX12_weight_X12_findPieces
set_option maxRecDepth 20000 in
theorem ggX12_weight_X12_in : GoodIn wsX12_weight wsX12_in := goodIn_r _ [47] rfl (by decide +kernel)
set_option maxRecDepth 20000 in
theorem gX12_weight_X12_in : GoodIn wsX12_weight (va_wsS RX12 100 yX12_in wsX12_in) := goodIn_app (goodIn_of _ (by decide +kernel)) ggX12_weight_X12_in
set_option maxRecDepth 20000 in
theorem ggX12_weight_X12_isPiece : GoodIn wsX12_weight wsX12_isPiece := goodIn_r _ [56, 18, 45, 46, 16, 47, 57, 58, 59, 60, 61, 62, 63, 64, 65, 66, 67, 68, 69, 70, 71, 72, 73, 74, 75, 76, 77, 78, 79, 80, 81, 82, 83, 84, 85, 86, 87, 88, 89, 90, 91, 92, 93, 94, 95, 96, 97, 98, 99, 100, 101] rfl (by decide +kernel)
set_option maxRecDepth 20000 in
theorem gX12_weight_X12_isPiece : GoodIn wsX12_weight (wsV RX12 206 RX12 yX12_isPiece wsX12_isPiece) := goodIn_app (goodIn_of _ (by decide +kernel)) ggX12_weight_X12_isPiece
def lgX12_weight_21 : List (Nat × Instr × Nat) := [(0, .aload_n 0, 1), (1, .invokevirtual 203, 3), (4, .iload_n 1, 1), (5, .iconst 0, 1), (6, .bipush 7, 2), (8, .invokestatic 100, 3), (11, .ifCond .eq 11, 3), (14, .aload_n 0, 1), (15, .iload_n 2, 1), (16, .invokevirtual 206, 3), (19, .ifCond .ne 5, 3), (22, .iconst (-1), 1), (23, .ireturn, 1), (24, .aload_n 0, 1), (25, .getfield 42, 3), (28, .iload_n 2, 1), (29, .iaload, 1), (30, .istore_n 3, 1), (31, .iload_n 3, 1), (32, .aload_n 0, 1), (33, .getfield 48, 3), (36, .iconst 4, 1), (37, .iload_n 2, 1), (38, .imul, 1), (39, .iaload, 1), (40, .iadd, 1), (41, .istore 4, 2), (43, .iload 4, 2), (45, .aload_n 0, 1), (46, .getfield 51, 3), (49, .iload_n 2, 1), (50, .iaload, 1), (51, .iadd, 1), (52, .istore 5, 2), (54, .iload_n 1, 1), (55, .tableswitch 169 0 6 #[41, 53, 68, 83, 102, 129, 146], 41), (96, .aload_n 0, 1), (97, .dup, 1), (98, .getfield 270, 3), (101, .lconst 1, 1), (102, .ladd, 1), (103, .putfield 270, 3), (106, .iload_n 3, 1), (107, .ireturn, 1), (108, .aload_n 0, 1), (109, .dup, 1), (110, .getfield 270, 3), (113, .ldc2_w 274, 3), (116, .ladd, 1), (117, .putfield 270, 3)]
theorem dgX12_weight_21 : ∀ q ∈ lgX12_weight_21, decode cX12_weight q.1 = .ok (q.2.1, q.2.2) := by decide +kernel
theorem dX12_weight_0 : decode cX12_weight 0 = .ok (.aload_n 0, 1) := dall dgX12_weight_21 0 rfl
theorem dX12_weight_1 : decode cX12_weight 1 = .ok (.invokevirtual 203, 3) := dall dgX12_weight_21 1 rfl
theorem dX12_weight_4 : decode cX12_weight 4 = .ok (.iload_n 1, 1) := dall dgX12_weight_21 2 rfl
theorem dX12_weight_5 : decode cX12_weight 5 = .ok (.iconst 0, 1) := dall dgX12_weight_21 3 rfl
theorem dX12_weight_6 : decode cX12_weight 6 = .ok (.bipush 7, 2) := dall dgX12_weight_21 4 rfl
theorem dX12_weight_8 : decode cX12_weight 8 = .ok (.invokestatic 100, 3) := dall dgX12_weight_21 5 rfl
theorem dX12_weight_11 : decode cX12_weight 11 = .ok (.ifCond .eq 11, 3) := dall dgX12_weight_21 6 rfl
theorem dX12_weight_14 : decode cX12_weight 14 = .ok (.aload_n 0, 1) := dall dgX12_weight_21 7 rfl
theorem dX12_weight_15 : decode cX12_weight 15 = .ok (.iload_n 2, 1) := dall dgX12_weight_21 8 rfl
theorem dX12_weight_16 : decode cX12_weight 16 = .ok (.invokevirtual 206, 3) := dall dgX12_weight_21 9 rfl
theorem dX12_weight_19 : decode cX12_weight 19 = .ok (.ifCond .ne 5, 3) := dall dgX12_weight_21 10 rfl
theorem dX12_weight_22 : decode cX12_weight 22 = .ok (.iconst (-1), 1) := dall dgX12_weight_21 11 rfl
theorem dX12_weight_23 : decode cX12_weight 23 = .ok (.ireturn, 1) := dall dgX12_weight_21 12 rfl
theorem dX12_weight_24 : decode cX12_weight 24 = .ok (.aload_n 0, 1) := dall dgX12_weight_21 13 rfl
theorem dX12_weight_25 : decode cX12_weight 25 = .ok (.getfield 42, 3) := dall dgX12_weight_21 14 rfl
theorem dX12_weight_28 : decode cX12_weight 28 = .ok (.iload_n 2, 1) := dall dgX12_weight_21 15 rfl
theorem dX12_weight_29 : decode cX12_weight 29 = .ok (.iaload, 1) := dall dgX12_weight_21 16 rfl
theorem dX12_weight_30 : decode cX12_weight 30 = .ok (.istore_n 3, 1) := dall dgX12_weight_21 17 rfl
theorem dX12_weight_31 : decode cX12_weight 31 = .ok (.iload_n 3, 1) := dall dgX12_weight_21 18 rfl
theorem dX12_weight_32 : decode cX12_weight 32 = .ok (.aload_n 0, 1) := dall dgX12_weight_21 19 rfl
theorem dX12_weight_33 : decode cX12_weight 33 = .ok (.getfield 48, 3) := dall dgX12_weight_21 20 rfl
theorem dX12_weight_36 : decode cX12_weight 36 = .ok (.iconst 4, 1) := dall dgX12_weight_21 21 rfl
theorem dX12_weight_37 : decode cX12_weight 37 = .ok (.iload_n 2, 1) := dall dgX12_weight_21 22 rfl
theorem dX12_weight_38 : decode cX12_weight 38 = .ok (.imul, 1) := dall dgX12_weight_21 23 rfl
theorem dX12_weight_39 : decode cX12_weight 39 = .ok (.iaload, 1) := dall dgX12_weight_21 24 rfl
theorem dX12_weight_40 : decode cX12_weight 40 = .ok (.iadd, 1) := dall dgX12_weight_21 25 rfl
theorem dX12_weight_41 : decode cX12_weight 41 = .ok (.istore 4, 2) := dall dgX12_weight_21 26 rfl
theorem dX12_weight_43 : decode cX12_weight 43 = .ok (.iload 4, 2) := dall dgX12_weight_21 27 rfl
theorem dX12_weight_45 : decode cX12_weight 45 = .ok (.aload_n 0, 1) := dall dgX12_weight_21 28 rfl
theorem dX12_weight_46 : decode cX12_weight 46 = .ok (.getfield 51, 3) := dall dgX12_weight_21 29 rfl
theorem dX12_weight_49 : decode cX12_weight 49 = .ok (.iload_n 2, 1) := dall dgX12_weight_21 30 rfl
theorem dX12_weight_50 : decode cX12_weight 50 = .ok (.iaload, 1) := dall dgX12_weight_21 31 rfl
theorem dX12_weight_51 : decode cX12_weight 51 = .ok (.iadd, 1) := dall dgX12_weight_21 32 rfl
theorem dX12_weight_52 : decode cX12_weight 52 = .ok (.istore 5, 2) := dall dgX12_weight_21 33 rfl
theorem dX12_weight_54 : decode cX12_weight 54 = .ok (.iload_n 1, 1) := dall dgX12_weight_21 34 rfl
theorem dX12_weight_55 : decode cX12_weight 55 = .ok (.tableswitch 169 0 6 #[41, 53, 68, 83, 102, 129, 146], 41) := dall dgX12_weight_21 35 rfl
theorem dX12_weight_96 : decode cX12_weight 96 = .ok (.aload_n 0, 1) := dall dgX12_weight_21 36 rfl
theorem dX12_weight_97 : decode cX12_weight 97 = .ok (.dup, 1) := dall dgX12_weight_21 37 rfl
theorem dX12_weight_98 : decode cX12_weight 98 = .ok (.getfield 270, 3) := dall dgX12_weight_21 38 rfl
theorem dX12_weight_101 : decode cX12_weight 101 = .ok (.lconst 1, 1) := dall dgX12_weight_21 39 rfl
theorem dX12_weight_102 : decode cX12_weight 102 = .ok (.ladd, 1) := dall dgX12_weight_21 40 rfl
theorem dX12_weight_103 : decode cX12_weight 103 = .ok (.putfield 270, 3) := dall dgX12_weight_21 41 rfl
theorem dX12_weight_106 : decode cX12_weight 106 = .ok (.iload_n 3, 1) := dall dgX12_weight_21 42 rfl
theorem dX12_weight_107 : decode cX12_weight 107 = .ok (.ireturn, 1) := dall dgX12_weight_21 43 rfl
theorem dX12_weight_108 : decode cX12_weight 108 = .ok (.aload_n 0, 1) := dall dgX12_weight_21 44 rfl
theorem dX12_weight_109 : decode cX12_weight 109 = .ok (.dup, 1) := dall dgX12_weight_21 45 rfl
theorem dX12_weight_110 : decode cX12_weight 110 = .ok (.getfield 270, 3) := dall dgX12_weight_21 46 rfl
theorem dX12_weight_113 : decode cX12_weight 113 = .ok (.ldc2_w 274, 3) := dall dgX12_weight_21 47 rfl
theorem dX12_weight_116 : decode cX12_weight 116 = .ok (.ladd, 1) := dall dgX12_weight_21 48 rfl
theorem dX12_weight_117 : decode cX12_weight 117 = .ok (.putfield 270, 3) := dall dgX12_weight_21 49 rfl
def lgX12_weight_22 : List (Nat × Instr × Nat) := [(120, .iload 4, 2), (122, .ireturn, 1), (123, .aload_n 0, 1), (124, .dup, 1), (125, .getfield 270, 3), (128, .ldc2_w 276, 3), (131, .ladd, 1), (132, .putfield 270, 3), (135, .iload 5, 2), (137, .ireturn, 1), (138, .aload_n 0, 1), (139, .dup, 1), (140, .getfield 270, 3), (143, .ldc2_w 278, 3), (146, .ladd, 1), (147, .putfield 270, 3), (150, .iload 5, 2), (152, .iconst 1, 1), (153, .iadd, 1), (154, .iconst 2, 1), (155, .idiv, 1), (156, .ireturn, 1), (157, .aload_n 0, 1), (158, .dup, 1), (159, .getfield 270, 3), (162, .ldc2_w 280, 3), (165, .ladd, 1), (166, .putfield 270, 3), (169, .iload 5, 2), (171, .iconst 3, 1), (172, .if_icmp .ge 7, 3), (175, .iconst 0, 1), (176, .goto 7, 3), (179, .iload 5, 2), (181, .iconst 3, 1), (182, .isub, 1), (183, .ireturn, 1), (184, .aload_n 0, 1), (185, .dup, 1), (186, .getfield 270, 3), (189, .ldc2_w 282, 3), (192, .ladd, 1), (193, .putfield 270, 3), (196, .iload 4, 2), (198, .iconst 3, 1), (199, .idiv, 1), (200, .ireturn, 1), (201, .aload_n 0, 1), (202, .dup, 1), (203, .getfield 270, 3)]
theorem dgX12_weight_22 : ∀ q ∈ lgX12_weight_22, decode cX12_weight q.1 = .ok (q.2.1, q.2.2) := by decide +kernel
theorem dX12_weight_120 : decode cX12_weight 120 = .ok (.iload 4, 2) := dall dgX12_weight_22 0 rfl
theorem dX12_weight_122 : decode cX12_weight 122 = .ok (.ireturn, 1) := dall dgX12_weight_22 1 rfl
theorem dX12_weight_123 : decode cX12_weight 123 = .ok (.aload_n 0, 1) := dall dgX12_weight_22 2 rfl
theorem dX12_weight_124 : decode cX12_weight 124 = .ok (.dup, 1) := dall dgX12_weight_22 3 rfl
theorem dX12_weight_125 : decode cX12_weight 125 = .ok (.getfield 270, 3) := dall dgX12_weight_22 4 rfl
theorem dX12_weight_128 : decode cX12_weight 128 = .ok (.ldc2_w 276, 3) := dall dgX12_weight_22 5 rfl
theorem dX12_weight_131 : decode cX12_weight 131 = .ok (.ladd, 1) := dall dgX12_weight_22 6 rfl
theorem dX12_weight_132 : decode cX12_weight 132 = .ok (.putfield 270, 3) := dall dgX12_weight_22 7 rfl
theorem dX12_weight_135 : decode cX12_weight 135 = .ok (.iload 5, 2) := dall dgX12_weight_22 8 rfl
theorem dX12_weight_137 : decode cX12_weight 137 = .ok (.ireturn, 1) := dall dgX12_weight_22 9 rfl
theorem dX12_weight_138 : decode cX12_weight 138 = .ok (.aload_n 0, 1) := dall dgX12_weight_22 10 rfl
theorem dX12_weight_139 : decode cX12_weight 139 = .ok (.dup, 1) := dall dgX12_weight_22 11 rfl
theorem dX12_weight_140 : decode cX12_weight 140 = .ok (.getfield 270, 3) := dall dgX12_weight_22 12 rfl
theorem dX12_weight_143 : decode cX12_weight 143 = .ok (.ldc2_w 278, 3) := dall dgX12_weight_22 13 rfl
theorem dX12_weight_146 : decode cX12_weight 146 = .ok (.ladd, 1) := dall dgX12_weight_22 14 rfl
theorem dX12_weight_147 : decode cX12_weight 147 = .ok (.putfield 270, 3) := dall dgX12_weight_22 15 rfl
theorem dX12_weight_150 : decode cX12_weight 150 = .ok (.iload 5, 2) := dall dgX12_weight_22 16 rfl
theorem dX12_weight_152 : decode cX12_weight 152 = .ok (.iconst 1, 1) := dall dgX12_weight_22 17 rfl
theorem dX12_weight_153 : decode cX12_weight 153 = .ok (.iadd, 1) := dall dgX12_weight_22 18 rfl
theorem dX12_weight_154 : decode cX12_weight 154 = .ok (.iconst 2, 1) := dall dgX12_weight_22 19 rfl
theorem dX12_weight_155 : decode cX12_weight 155 = .ok (.idiv, 1) := dall dgX12_weight_22 20 rfl
theorem dX12_weight_156 : decode cX12_weight 156 = .ok (.ireturn, 1) := dall dgX12_weight_22 21 rfl
theorem dX12_weight_157 : decode cX12_weight 157 = .ok (.aload_n 0, 1) := dall dgX12_weight_22 22 rfl
theorem dX12_weight_158 : decode cX12_weight 158 = .ok (.dup, 1) := dall dgX12_weight_22 23 rfl
theorem dX12_weight_159 : decode cX12_weight 159 = .ok (.getfield 270, 3) := dall dgX12_weight_22 24 rfl
theorem dX12_weight_162 : decode cX12_weight 162 = .ok (.ldc2_w 280, 3) := dall dgX12_weight_22 25 rfl
theorem dX12_weight_165 : decode cX12_weight 165 = .ok (.ladd, 1) := dall dgX12_weight_22 26 rfl
theorem dX12_weight_166 : decode cX12_weight 166 = .ok (.putfield 270, 3) := dall dgX12_weight_22 27 rfl
theorem dX12_weight_169 : decode cX12_weight 169 = .ok (.iload 5, 2) := dall dgX12_weight_22 28 rfl
theorem dX12_weight_171 : decode cX12_weight 171 = .ok (.iconst 3, 1) := dall dgX12_weight_22 29 rfl
theorem dX12_weight_172 : decode cX12_weight 172 = .ok (.if_icmp .ge 7, 3) := dall dgX12_weight_22 30 rfl
theorem dX12_weight_175 : decode cX12_weight 175 = .ok (.iconst 0, 1) := dall dgX12_weight_22 31 rfl
theorem dX12_weight_176 : decode cX12_weight 176 = .ok (.goto 7, 3) := dall dgX12_weight_22 32 rfl
theorem dX12_weight_179 : decode cX12_weight 179 = .ok (.iload 5, 2) := dall dgX12_weight_22 33 rfl
theorem dX12_weight_181 : decode cX12_weight 181 = .ok (.iconst 3, 1) := dall dgX12_weight_22 34 rfl
theorem dX12_weight_182 : decode cX12_weight 182 = .ok (.isub, 1) := dall dgX12_weight_22 35 rfl
theorem dX12_weight_183 : decode cX12_weight 183 = .ok (.ireturn, 1) := dall dgX12_weight_22 36 rfl
theorem dX12_weight_184 : decode cX12_weight 184 = .ok (.aload_n 0, 1) := dall dgX12_weight_22 37 rfl
theorem dX12_weight_185 : decode cX12_weight 185 = .ok (.dup, 1) := dall dgX12_weight_22 38 rfl
theorem dX12_weight_186 : decode cX12_weight 186 = .ok (.getfield 270, 3) := dall dgX12_weight_22 39 rfl
theorem dX12_weight_189 : decode cX12_weight 189 = .ok (.ldc2_w 282, 3) := dall dgX12_weight_22 40 rfl
theorem dX12_weight_192 : decode cX12_weight 192 = .ok (.ladd, 1) := dall dgX12_weight_22 41 rfl
theorem dX12_weight_193 : decode cX12_weight 193 = .ok (.putfield 270, 3) := dall dgX12_weight_22 42 rfl
theorem dX12_weight_196 : decode cX12_weight 196 = .ok (.iload 4, 2) := dall dgX12_weight_22 43 rfl
theorem dX12_weight_198 : decode cX12_weight 198 = .ok (.iconst 3, 1) := dall dgX12_weight_22 44 rfl
theorem dX12_weight_199 : decode cX12_weight 199 = .ok (.idiv, 1) := dall dgX12_weight_22 45 rfl
theorem dX12_weight_200 : decode cX12_weight 200 = .ok (.ireturn, 1) := dall dgX12_weight_22 46 rfl
theorem dX12_weight_201 : decode cX12_weight 201 = .ok (.aload_n 0, 1) := dall dgX12_weight_22 47 rfl
theorem dX12_weight_202 : decode cX12_weight 202 = .ok (.dup, 1) := dall dgX12_weight_22 48 rfl
theorem dX12_weight_203 : decode cX12_weight 203 = .ok (.getfield 270, 3) := dall dgX12_weight_22 49 rfl
def lgX12_weight_23 : List (Nat × Instr × Nat) := [(206, .ldc2_w 284, 3), (209, .ladd, 1), (210, .putfield 270, 3), (213, .iload 4, 2), (215, .bipush 7, 2), (217, .aload_n 0, 1), (218, .getfield 252, 3), (221, .imul, 1), (222, .iadd, 1), (223, .ireturn, 1), (224, .aload_n 0, 1), (225, .dup, 1), (226, .getfield 270, 3), (229, .ldc2_w 286, 3), (232, .ladd, 1), (233, .putfield 270, 3), (236, .iload_n 3, 1), (237, .iload_n 3, 1), (238, .imul, 1), (239, .bipush 89, 2), (241, .irem, 1), (242, .ireturn, 1)]
theorem dgX12_weight_23 : ∀ q ∈ lgX12_weight_23, decode cX12_weight q.1 = .ok (q.2.1, q.2.2) := by decide +kernel
theorem dX12_weight_206 : decode cX12_weight 206 = .ok (.ldc2_w 284, 3) := dall dgX12_weight_23 0 rfl
theorem dX12_weight_209 : decode cX12_weight 209 = .ok (.ladd, 1) := dall dgX12_weight_23 1 rfl
theorem dX12_weight_210 : decode cX12_weight 210 = .ok (.putfield 270, 3) := dall dgX12_weight_23 2 rfl
theorem dX12_weight_213 : decode cX12_weight 213 = .ok (.iload 4, 2) := dall dgX12_weight_23 3 rfl
theorem dX12_weight_215 : decode cX12_weight 215 = .ok (.bipush 7, 2) := dall dgX12_weight_23 4 rfl
theorem dX12_weight_217 : decode cX12_weight 217 = .ok (.aload_n 0, 1) := dall dgX12_weight_23 5 rfl
theorem dX12_weight_218 : decode cX12_weight 218 = .ok (.getfield 252, 3) := dall dgX12_weight_23 6 rfl
theorem dX12_weight_221 : decode cX12_weight 221 = .ok (.imul, 1) := dall dgX12_weight_23 7 rfl
theorem dX12_weight_222 : decode cX12_weight 222 = .ok (.iadd, 1) := dall dgX12_weight_23 8 rfl
theorem dX12_weight_223 : decode cX12_weight 223 = .ok (.ireturn, 1) := dall dgX12_weight_23 9 rfl
theorem dX12_weight_224 : decode cX12_weight 224 = .ok (.aload_n 0, 1) := dall dgX12_weight_23 10 rfl
theorem dX12_weight_225 : decode cX12_weight 225 = .ok (.dup, 1) := dall dgX12_weight_23 11 rfl
theorem dX12_weight_226 : decode cX12_weight 226 = .ok (.getfield 270, 3) := dall dgX12_weight_23 12 rfl
theorem dX12_weight_229 : decode cX12_weight 229 = .ok (.ldc2_w 286, 3) := dall dgX12_weight_23 13 rfl
theorem dX12_weight_232 : decode cX12_weight 232 = .ok (.ladd, 1) := dall dgX12_weight_23 14 rfl
theorem dX12_weight_233 : decode cX12_weight 233 = .ok (.putfield 270, 3) := dall dgX12_weight_23 15 rfl
theorem dX12_weight_236 : decode cX12_weight 236 = .ok (.iload_n 3, 1) := dall dgX12_weight_23 16 rfl
theorem dX12_weight_237 : decode cX12_weight 237 = .ok (.iload_n 3, 1) := dall dgX12_weight_23 17 rfl
theorem dX12_weight_238 : decode cX12_weight 238 = .ok (.imul, 1) := dall dgX12_weight_23 18 rfl
theorem dX12_weight_239 : decode cX12_weight 239 = .ok (.bipush 89, 2) := dall dgX12_weight_23 19 rfl
theorem dX12_weight_241 : decode cX12_weight 241 = .ok (.irem, 1) := dall dgX12_weight_23 20 rfl
theorem dX12_weight_242 : decode cX12_weight 242 = .ok (.ireturn, 1) := dall dgX12_weight_23 21 rfl
def lgX12_count_24 : List (Nat × Instr × Nat) := [(0, .iconst 0, 1), (1, .istore_n 2, 1), (2, .iload_n 1, 1), (3, .tableswitch 127 0 5 #[37, 42, 77, 112, 117, 122], 37), (40, .aload_n 0, 1), (41, .getfield 156, 3), (44, .ireturn, 1), (45, .iconst 0, 1), (46, .istore_n 3, 1), (47, .iload_n 3, 1), (48, .aload_n 0, 1), (49, .getfield 156, 3), (52, .if_icmp .ge 26, 3), (55, .iload_n 2, 1), (56, .aload_n 0, 1), (57, .getfield 20, 3), (60, .iload_n 3, 1), (61, .baload, 1), (62, .ifCond .eq 7, 3), (65, .iconst 1, 1), (66, .goto 4, 3), (69, .iconst 0, 1), (70, .iadd, 1), (71, .istore_n 2, 1), (72, .iinc 3 1, 3), (75, .goto (-28), 3), (78, .iload_n 2, 1), (79, .ireturn, 1), (80, .iconst 0, 1), (81, .istore_n 3, 1), (82, .iload_n 3, 1), (83, .aload_n 0, 1), (84, .getfield 156, 3), (87, .if_icmp .ge 26, 3), (90, .iload_n 2, 1), (91, .aload_n 0, 1), (92, .getfield 24, 3), (95, .iload_n 3, 1), (96, .baload, 1), (97, .ifCond .eq 7, 3), (100, .iconst 1, 1), (101, .goto 4, 3), (104, .iconst 0, 1), (105, .iadd, 1), (106, .istore_n 2, 1), (107, .iinc 3 1, 3), (110, .goto (-28), 3), (113, .iload_n 2, 1), (114, .ireturn, 1), (115, .aload_n 0, 1)]
theorem dgX12_count_24 : ∀ q ∈ lgX12_count_24, decode cX12_count q.1 = .ok (q.2.1, q.2.2) := by decide +kernel
theorem dX12_count_0 : decode cX12_count 0 = .ok (.iconst 0, 1) := dall dgX12_count_24 0 rfl
theorem dX12_count_1 : decode cX12_count 1 = .ok (.istore_n 2, 1) := dall dgX12_count_24 1 rfl
theorem dX12_count_2 : decode cX12_count 2 = .ok (.iload_n 1, 1) := dall dgX12_count_24 2 rfl
theorem dX12_count_3 : decode cX12_count 3 = .ok (.tableswitch 127 0 5 #[37, 42, 77, 112, 117, 122], 37) := dall dgX12_count_24 3 rfl
theorem dX12_count_40 : decode cX12_count 40 = .ok (.aload_n 0, 1) := dall dgX12_count_24 4 rfl
theorem dX12_count_41 : decode cX12_count 41 = .ok (.getfield 156, 3) := dall dgX12_count_24 5 rfl
theorem dX12_count_44 : decode cX12_count 44 = .ok (.ireturn, 1) := dall dgX12_count_24 6 rfl
theorem dX12_count_45 : decode cX12_count 45 = .ok (.iconst 0, 1) := dall dgX12_count_24 7 rfl
theorem dX12_count_46 : decode cX12_count 46 = .ok (.istore_n 3, 1) := dall dgX12_count_24 8 rfl
theorem dX12_count_47 : decode cX12_count 47 = .ok (.iload_n 3, 1) := dall dgX12_count_24 9 rfl
theorem dX12_count_48 : decode cX12_count 48 = .ok (.aload_n 0, 1) := dall dgX12_count_24 10 rfl
theorem dX12_count_49 : decode cX12_count 49 = .ok (.getfield 156, 3) := dall dgX12_count_24 11 rfl
theorem dX12_count_52 : decode cX12_count 52 = .ok (.if_icmp .ge 26, 3) := dall dgX12_count_24 12 rfl
theorem dX12_count_55 : decode cX12_count 55 = .ok (.iload_n 2, 1) := dall dgX12_count_24 13 rfl
theorem dX12_count_56 : decode cX12_count 56 = .ok (.aload_n 0, 1) := dall dgX12_count_24 14 rfl
theorem dX12_count_57 : decode cX12_count 57 = .ok (.getfield 20, 3) := dall dgX12_count_24 15 rfl
theorem dX12_count_60 : decode cX12_count 60 = .ok (.iload_n 3, 1) := dall dgX12_count_24 16 rfl
theorem dX12_count_61 : decode cX12_count 61 = .ok (.baload, 1) := dall dgX12_count_24 17 rfl
theorem dX12_count_62 : decode cX12_count 62 = .ok (.ifCond .eq 7, 3) := dall dgX12_count_24 18 rfl
theorem dX12_count_65 : decode cX12_count 65 = .ok (.iconst 1, 1) := dall dgX12_count_24 19 rfl
theorem dX12_count_66 : decode cX12_count 66 = .ok (.goto 4, 3) := dall dgX12_count_24 20 rfl
theorem dX12_count_69 : decode cX12_count 69 = .ok (.iconst 0, 1) := dall dgX12_count_24 21 rfl
theorem dX12_count_70 : decode cX12_count 70 = .ok (.iadd, 1) := dall dgX12_count_24 22 rfl
theorem dX12_count_71 : decode cX12_count 71 = .ok (.istore_n 2, 1) := dall dgX12_count_24 23 rfl
theorem dX12_count_72 : decode cX12_count 72 = .ok (.iinc 3 1, 3) := dall dgX12_count_24 24 rfl
theorem dX12_count_75 : decode cX12_count 75 = .ok (.goto (-28), 3) := dall dgX12_count_24 25 rfl
theorem dX12_count_78 : decode cX12_count 78 = .ok (.iload_n 2, 1) := dall dgX12_count_24 26 rfl
theorem dX12_count_79 : decode cX12_count 79 = .ok (.ireturn, 1) := dall dgX12_count_24 27 rfl
theorem dX12_count_80 : decode cX12_count 80 = .ok (.iconst 0, 1) := dall dgX12_count_24 28 rfl
theorem dX12_count_81 : decode cX12_count 81 = .ok (.istore_n 3, 1) := dall dgX12_count_24 29 rfl
theorem dX12_count_82 : decode cX12_count 82 = .ok (.iload_n 3, 1) := dall dgX12_count_24 30 rfl
theorem dX12_count_83 : decode cX12_count 83 = .ok (.aload_n 0, 1) := dall dgX12_count_24 31 rfl
theorem dX12_count_84 : decode cX12_count 84 = .ok (.getfield 156, 3) := dall dgX12_count_24 32 rfl
theorem dX12_count_87 : decode cX12_count 87 = .ok (.if_icmp .ge 26, 3) := dall dgX12_count_24 33 rfl
theorem dX12_count_90 : decode cX12_count 90 = .ok (.iload_n 2, 1) := dall dgX12_count_24 34 rfl
theorem dX12_count_91 : decode cX12_count 91 = .ok (.aload_n 0, 1) := dall dgX12_count_24 35 rfl
theorem dX12_count_92 : decode cX12_count 92 = .ok (.getfield 24, 3) := dall dgX12_count_24 36 rfl
theorem dX12_count_95 : decode cX12_count 95 = .ok (.iload_n 3, 1) := dall dgX12_count_24 37 rfl
theorem dX12_count_96 : decode cX12_count 96 = .ok (.baload, 1) := dall dgX12_count_24 38 rfl
theorem dX12_count_97 : decode cX12_count 97 = .ok (.ifCond .eq 7, 3) := dall dgX12_count_24 39 rfl
theorem dX12_count_100 : decode cX12_count 100 = .ok (.iconst 1, 1) := dall dgX12_count_24 40 rfl
theorem dX12_count_101 : decode cX12_count 101 = .ok (.goto 4, 3) := dall dgX12_count_24 41 rfl
theorem dX12_count_104 : decode cX12_count 104 = .ok (.iconst 0, 1) := dall dgX12_count_24 42 rfl
theorem dX12_count_105 : decode cX12_count 105 = .ok (.iadd, 1) := dall dgX12_count_24 43 rfl
theorem dX12_count_106 : decode cX12_count 106 = .ok (.istore_n 2, 1) := dall dgX12_count_24 44 rfl
theorem dX12_count_107 : decode cX12_count 107 = .ok (.iinc 3 1, 3) := dall dgX12_count_24 45 rfl
theorem dX12_count_110 : decode cX12_count 110 = .ok (.goto (-28), 3) := dall dgX12_count_24 46 rfl
theorem dX12_count_113 : decode cX12_count 113 = .ok (.iload_n 2, 1) := dall dgX12_count_24 47 rfl
theorem dX12_count_114 : decode cX12_count 114 = .ok (.ireturn, 1) := dall dgX12_count_24 48 rfl
theorem dX12_count_115 : decode cX12_count 115 = .ok (.aload_n 0, 1) := dall dgX12_count_24 49 rfl
def lgX12_count_25 : List (Nat × Instr × Nat) := [(116, .getfield 252, 3), (119, .ireturn, 1), (120, .aload_n 0, 1), (121, .getfield 171, 3), (124, .ireturn, 1), (125, .aload_n 0, 1), (126, .getfield 104, 3), (129, .ireturn, 1), (130, .iconst (-1), 1), (131, .ireturn, 1)]
theorem dgX12_count_25 : ∀ q ∈ lgX12_count_25, decode cX12_count q.1 = .ok (q.2.1, q.2.2) := by decide +kernel
theorem dX12_count_116 : decode cX12_count 116 = .ok (.getfield 252, 3) := dall dgX12_count_25 0 rfl
theorem dX12_count_119 : decode cX12_count 119 = .ok (.ireturn, 1) := dall dgX12_count_25 1 rfl
theorem dX12_count_120 : decode cX12_count 120 = .ok (.aload_n 0, 1) := dall dgX12_count_25 2 rfl
theorem dX12_count_121 : decode cX12_count 121 = .ok (.getfield 171, 3) := dall dgX12_count_25 3 rfl
theorem dX12_count_124 : decode cX12_count 124 = .ok (.ireturn, 1) := dall dgX12_count_25 4 rfl
theorem dX12_count_125 : decode cX12_count 125 = .ok (.aload_n 0, 1) := dall dgX12_count_25 5 rfl
theorem dX12_count_126 : decode cX12_count 126 = .ok (.getfield 104, 3) := dall dgX12_count_25 6 rfl
theorem dX12_count_129 : decode cX12_count 129 = .ok (.ireturn, 1) := dall dgX12_count_25 7 rfl
theorem dX12_count_130 : decode cX12_count 130 = .ok (.iconst (-1), 1) := dall dgX12_count_25 8 rfl
theorem dX12_count_131 : decode cX12_count 131 = .ok (.ireturn, 1) := dall dgX12_count_25 9 rfl
def lgX12_trace_26 : List (Nat × Instr × Nat) := [(0, .aload_n 0, 1), (1, .getfield 270, 3), (4, .lreturn, 1)]
theorem dgX12_trace_26 : ∀ q ∈ lgX12_trace_26, decode cX12_trace q.1 = .ok (q.2.1, q.2.2) := by decide +kernel
theorem dX12_trace_0 : decode cX12_trace 0 = .ok (.aload_n 0, 1) := dall dgX12_trace_26 0 rfl
theorem dX12_trace_1 : decode cX12_trace 1 = .ok (.getfield 270, 3) := dall dgX12_trace_26 1 rfl
theorem dX12_trace_4 : decode cX12_trace 4 = .ok (.lreturn, 1) := dall dgX12_trace_26 2 rfl
