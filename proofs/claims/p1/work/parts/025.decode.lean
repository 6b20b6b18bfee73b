theorem dall {c : ByteArray} {L : List (Nat × Instr × Nat)} (h : ∀ q ∈ L, decode c q.1 = .ok (q.2.1, q.2.2)) (k : Nat) {pc n : Nat} {i : Instr} (e : L[k]? = some (pc, i, n)) : decode c pc = .ok (i, n) := h (pc, i, n) (List.mem_of_getElem? e)
set_option maxRecDepth 20000 in
theorem ggX0_findBest_J7_fill_53178 : GoodIn wsX0_findBest wsJ7_fill_53178 := goodIn_r _ [8] rfl (by decide +kernel)
set_option maxRecDepth 20000 in
theorem gX0_findBest_J7_fill_53178 : GoodIn wsX0_findBest (va_wsS RX0 34 yJ7_fill_53178 wsJ7_fill_53178) := goodIn_app (goodIn_of _ (by decide +kernel)) ggX0_findBest_J7_fill_53178
set_option maxRecDepth 20000 in
theorem ggX0_findBest_X0_deal : GoodIn wsX0_findBest wsX0_deal := goodIn_r _ [12, 4, 13, 14, 15, 16, 17, 18, 19, 20, 11, 21, 1, 2, 22, 23, 24, 25, 26, 27, 28, 29, 30, 31, 32, 33, 34, 35, 36, 37, 38, 39, 40, 41, 42, 43, 9, 10, 59, 60, 61, 62, 44, 45, 46, 47, 48, 49, 50, 51, 52, 53, 54, 55, 56, 57, 58] rfl (by decide +kernel)
set_option maxRecDepth 20000 in
theorem gX0_findBest_X0_deal : GoodIn wsX0_findBest (va_wsS RX0 40 yX0_deal wsX0_deal) := goodIn_app (goodIn_of _ (by decide +kernel)) ggX0_findBest_X0_deal
def lgX0_findBest_1 : List (Nat × Instr × Nat) := [(0, .aload_n 0, 1), (1, .iconst 0, 1), (2, .putfield 25, 3), (5, .aload_n 0, 1), (6, .getfield 12, 3), (9, .ldc 29, 2), (11, .putfield 30, 3), (14, .aload_n 0, 1), (15, .getfield 22, 3), (18, .iconst 0, 1), (19, .invokestatic 34, 3), (22, .aload_n 0, 1), (23, .aload_n 1, 1), (24, .iconst 0, 1), (25, .iconst 0, 1), (26, .iconst 0, 1), (27, .lconst 0, 1), (28, .invokestatic 40, 3), (31, .return_, 1)]
theorem dgX0_findBest_1 : ∀ q ∈ lgX0_findBest_1, decode cX0_findBest q.1 = .ok (q.2.1, q.2.2) := by decide +kernel
theorem dX0_findBest_0 : decode cX0_findBest 0 = .ok (.aload_n 0, 1) := dall dgX0_findBest_1 0 rfl
theorem dX0_findBest_1 : decode cX0_findBest 1 = .ok (.iconst 0, 1) := dall dgX0_findBest_1 1 rfl
theorem dX0_findBest_2 : decode cX0_findBest 2 = .ok (.putfield 25, 3) := dall dgX0_findBest_1 2 rfl
theorem dX0_findBest_5 : decode cX0_findBest 5 = .ok (.aload_n 0, 1) := dall dgX0_findBest_1 3 rfl
theorem dX0_findBest_6 : decode cX0_findBest 6 = .ok (.getfield 12, 3) := dall dgX0_findBest_1 4 rfl
theorem dX0_findBest_9 : decode cX0_findBest 9 = .ok (.ldc 29, 2) := dall dgX0_findBest_1 5 rfl
theorem dX0_findBest_11 : decode cX0_findBest 11 = .ok (.putfield 30, 3) := dall dgX0_findBest_1 6 rfl
theorem dX0_findBest_14 : decode cX0_findBest 14 = .ok (.aload_n 0, 1) := dall dgX0_findBest_1 7 rfl
theorem dX0_findBest_15 : decode cX0_findBest 15 = .ok (.getfield 22, 3) := dall dgX0_findBest_1 8 rfl
theorem dX0_findBest_18 : decode cX0_findBest 18 = .ok (.iconst 0, 1) := dall dgX0_findBest_1 9 rfl
theorem dX0_findBest_19 : decode cX0_findBest 19 = .ok (.invokestatic 34, 3) := dall dgX0_findBest_1 10 rfl
theorem dX0_findBest_22 : decode cX0_findBest 22 = .ok (.aload_n 0, 1) := dall dgX0_findBest_1 11 rfl
theorem dX0_findBest_23 : decode cX0_findBest 23 = .ok (.aload_n 1, 1) := dall dgX0_findBest_1 12 rfl
theorem dX0_findBest_24 : decode cX0_findBest 24 = .ok (.iconst 0, 1) := dall dgX0_findBest_1 13 rfl
theorem dX0_findBest_25 : decode cX0_findBest 25 = .ok (.iconst 0, 1) := dall dgX0_findBest_1 14 rfl
theorem dX0_findBest_26 : decode cX0_findBest 26 = .ok (.iconst 0, 1) := dall dgX0_findBest_1 15 rfl
theorem dX0_findBest_27 : decode cX0_findBest 27 = .ok (.lconst 0, 1) := dall dgX0_findBest_1 16 rfl
theorem dX0_findBest_28 : decode cX0_findBest 28 = .ok (.invokestatic 40, 3) := dall dgX0_findBest_1 17 rfl
theorem dX0_findBest_31 : decode cX0_findBest 31 = .ok (.return_, 1) := dall dgX0_findBest_1 18 rfl
set_option maxRecDepth 20000 in
theorem ggX0_findNear_J7_fill_53178 : GoodIn wsX0_findNear wsJ7_fill_53178 := goodIn_r _ [14] rfl (by decide +kernel)
set_option maxRecDepth 20000 in
theorem gX0_findNear_J7_fill_53178 : GoodIn wsX0_findNear (va_wsS RX0 34 yJ7_fill_53178 wsJ7_fill_53178) := goodIn_app (goodIn_of _ (by decide +kernel)) ggX0_findNear_J7_fill_53178
set_option maxRecDepth 20000 in
theorem ggX0_findNear_X0_deal : GoodIn wsX0_findNear wsX0_deal := goodIn_r _ [18, 10, 19, 20, 21, 22, 23, 24, 25, 26, 17, 27, 1, 2, 28, 29, 30, 31, 3, 4, 5, 32, 33, 34, 6, 8, 9, 35, 36, 37, 38, 39, 40, 41, 42, 43, 15, 16, 59, 60, 61, 62, 44, 45, 46, 47, 48, 49, 50, 51, 52, 53, 54, 55, 56, 57, 58] rfl (by decide +kernel)
set_option maxRecDepth 20000 in
theorem gX0_findNear_X0_deal : GoodIn wsX0_findNear (va_wsS RX0 40 yX0_deal wsX0_deal) := goodIn_app (goodIn_of _ (by decide +kernel)) ggX0_findNear_X0_deal
def lgX0_findNear_2 : List (Nat × Instr × Nat) := [(0, .aload_n 0, 1), (1, .iconst 1, 1), (2, .putfield 25, 3), (5, .aload_n 0, 1), (6, .aload_n 0, 1), (7, .getfield 12, 3), (10, .getfield 30, 3), (13, .iload_n 2, 1), (14, .isub, 1), (15, .putfield 44, 3), (18, .aload_n 0, 1), (19, .iconst 0, 1), (20, .putfield 47, 3), (23, .aload_n 0, 1), (24, .bipush 9, 2), (26, .putfield 50, 3), (29, .aload_n 0, 1), (30, .iconst 0, 1), (31, .putfield 53, 3), (34, .aload_n 0, 1), (35, .ldc2_w 56, 3), (38, .putfield 58, 3), (41, .aload_n 0, 1), (42, .lconst 0, 1), (43, .putfield 62, 3), (46, .aload_n 0, 1), (47, .getfield 22, 3), (50, .iconst 0, 1), (51, .invokestatic 34, 3), (54, .aload_n 0, 1), (55, .aload_n 1, 1), (56, .iconst 0, 1), (57, .iconst 0, 1), (58, .iconst 0, 1), (59, .lconst 0, 1), (60, .invokestatic 40, 3), (63, .return_, 1)]
theorem dgX0_findNear_2 : ∀ q ∈ lgX0_findNear_2, decode cX0_findNear q.1 = .ok (q.2.1, q.2.2) := by decide +kernel
theorem dX0_findNear_0 : decode cX0_findNear 0 = .ok (.aload_n 0, 1) := dall dgX0_findNear_2 0 rfl
theorem dX0_findNear_1 : decode cX0_findNear 1 = .ok (.iconst 1, 1) := dall dgX0_findNear_2 1 rfl
theorem dX0_findNear_2 : decode cX0_findNear 2 = .ok (.putfield 25, 3) := dall dgX0_findNear_2 2 rfl
theorem dX0_findNear_5 : decode cX0_findNear 5 = .ok (.aload_n 0, 1) := dall dgX0_findNear_2 3 rfl
theorem dX0_findNear_6 : decode cX0_findNear 6 = .ok (.aload_n 0, 1) := dall dgX0_findNear_2 4 rfl
theorem dX0_findNear_7 : decode cX0_findNear 7 = .ok (.getfield 12, 3) := dall dgX0_findNear_2 5 rfl
theorem dX0_findNear_10 : decode cX0_findNear 10 = .ok (.getfield 30, 3) := dall dgX0_findNear_2 6 rfl
theorem dX0_findNear_13 : decode cX0_findNear 13 = .ok (.iload_n 2, 1) := dall dgX0_findNear_2 7 rfl
theorem dX0_findNear_14 : decode cX0_findNear 14 = .ok (.isub, 1) := dall dgX0_findNear_2 8 rfl
theorem dX0_findNear_15 : decode cX0_findNear 15 = .ok (.putfield 44, 3) := dall dgX0_findNear_2 9 rfl
theorem dX0_findNear_18 : decode cX0_findNear 18 = .ok (.aload_n 0, 1) := dall dgX0_findNear_2 10 rfl
theorem dX0_findNear_19 : decode cX0_findNear 19 = .ok (.iconst 0, 1) := dall dgX0_findNear_2 11 rfl
theorem dX0_findNear_20 : decode cX0_findNear 20 = .ok (.putfield 47, 3) := dall dgX0_findNear_2 12 rfl
theorem dX0_findNear_23 : decode cX0_findNear 23 = .ok (.aload_n 0, 1) := dall dgX0_findNear_2 13 rfl
theorem dX0_findNear_24 : decode cX0_findNear 24 = .ok (.bipush 9, 2) := dall dgX0_findNear_2 14 rfl
theorem dX0_findNear_26 : decode cX0_findNear 26 = .ok (.putfield 50, 3) := dall dgX0_findNear_2 15 rfl
theorem dX0_findNear_29 : decode cX0_findNear 29 = .ok (.aload_n 0, 1) := dall dgX0_findNear_2 16 rfl
theorem dX0_findNear_30 : decode cX0_findNear 30 = .ok (.iconst 0, 1) := dall dgX0_findNear_2 17 rfl
theorem dX0_findNear_31 : decode cX0_findNear 31 = .ok (.putfield 53, 3) := dall dgX0_findNear_2 18 rfl
theorem dX0_findNear_34 : decode cX0_findNear 34 = .ok (.aload_n 0, 1) := dall dgX0_findNear_2 19 rfl
theorem dX0_findNear_35 : decode cX0_findNear 35 = .ok (.ldc2_w 56, 3) := dall dgX0_findNear_2 20 rfl
theorem dX0_findNear_38 : decode cX0_findNear 38 = .ok (.putfield 58, 3) := dall dgX0_findNear_2 21 rfl
theorem dX0_findNear_41 : decode cX0_findNear 41 = .ok (.aload_n 0, 1) := dall dgX0_findNear_2 22 rfl
theorem dX0_findNear_42 : decode cX0_findNear 42 = .ok (.lconst 0, 1) := dall dgX0_findNear_2 23 rfl
theorem dX0_findNear_43 : decode cX0_findNear 43 = .ok (.putfield 62, 3) := dall dgX0_findNear_2 24 rfl
theorem dX0_findNear_46 : decode cX0_findNear 46 = .ok (.aload_n 0, 1) := dall dgX0_findNear_2 25 rfl
theorem dX0_findNear_47 : decode cX0_findNear 47 = .ok (.getfield 22, 3) := dall dgX0_findNear_2 26 rfl
theorem dX0_findNear_50 : decode cX0_findNear 50 = .ok (.iconst 0, 1) := dall dgX0_findNear_2 27 rfl
theorem dX0_findNear_51 : decode cX0_findNear 51 = .ok (.invokestatic 34, 3) := dall dgX0_findNear_2 28 rfl
theorem dX0_findNear_54 : decode cX0_findNear 54 = .ok (.aload_n 0, 1) := dall dgX0_findNear_2 29 rfl
theorem dX0_findNear_55 : decode cX0_findNear 55 = .ok (.aload_n 1, 1) := dall dgX0_findNear_2 30 rfl
theorem dX0_findNear_56 : decode cX0_findNear 56 = .ok (.iconst 0, 1) := dall dgX0_findNear_2 31 rfl
theorem dX0_findNear_57 : decode cX0_findNear 57 = .ok (.iconst 0, 1) := dall dgX0_findNear_2 32 rfl
theorem dX0_findNear_58 : decode cX0_findNear 58 = .ok (.iconst 0, 1) := dall dgX0_findNear_2 33 rfl
theorem dX0_findNear_59 : decode cX0_findNear 59 = .ok (.lconst 0, 1) := dall dgX0_findNear_2 34 rfl
theorem dX0_findNear_60 : decode cX0_findNear 60 = .ok (.invokestatic 40, 3) := dall dgX0_findNear_2 35 rfl
theorem dX0_findNear_63 : decode cX0_findNear 63 = .ok (.return_, 1) := dall dgX0_findNear_2 36 rfl
set_option maxRecDepth 20000 in
theorem ggX0_deal_X0_meet : GoodIn wsX0_deal wsX0_meet := goodIn_r _ [11, 12, 13, 2, 14, 15, 16, 10, 17, 18, 19, 20, 21, 22, 5, 23, 24, 3, 4, 6, 25, 26, 42, 43, 44, 45, 46, 47, 48, 49, 50, 51, 52, 53, 54, 55, 56] rfl (by decide +kernel)
set_option maxRecDepth 20000 in
theorem gX0_deal_X0_meet : GoodIn wsX0_deal (wsV RX0 70 RX0 yX0_meet wsX0_meet) := goodIn_app (goodIn_of _ (by decide +kernel)) ggX0_deal_X0_meet
def lgX0_deal_3 : List (Nat × Instr × Nat) := [(0, .iload_n 2, 1), (1, .aload_n 1, 1), (2, .getfield 65, 3), (5, .if_icmp .ge 9, 3), (14, .aload_n 0, 1), (15, .aload_n 1, 1), (16, .getfield 65, 3), (19, .iload_n 3, 1), (20, .iload 4, 2), (22, .lload 5, 2), (24, .invokevirtual 70, 3), (27, .return_, 1)]
theorem dgX0_deal_3 : ∀ q ∈ lgX0_deal_3, decode cX0_deal q.1 = .ok (q.2.1, q.2.2) := by decide +kernel
theorem dX0_deal_0 : decode cX0_deal 0 = .ok (.iload_n 2, 1) := dall dgX0_deal_3 0 rfl
theorem dX0_deal_1 : decode cX0_deal 1 = .ok (.aload_n 1, 1) := dall dgX0_deal_3 1 rfl
theorem dX0_deal_2 : decode cX0_deal 2 = .ok (.getfield 65, 3) := dall dgX0_deal_3 2 rfl
theorem dX0_deal_5 : decode cX0_deal 5 = .ok (.if_icmp .ge 9, 3) := dall dgX0_deal_3 3 rfl
theorem dX0_deal_14 : decode cX0_deal 14 = .ok (.aload_n 0, 1) := dall dgX0_deal_3 4 rfl
theorem dX0_deal_15 : decode cX0_deal 15 = .ok (.aload_n 1, 1) := dall dgX0_deal_3 5 rfl
theorem dX0_deal_16 : decode cX0_deal 16 = .ok (.getfield 65, 3) := dall dgX0_deal_3 6 rfl
theorem dX0_deal_19 : decode cX0_deal 19 = .ok (.iload_n 3, 1) := dall dgX0_deal_3 7 rfl
theorem dX0_deal_20 : decode cX0_deal 20 = .ok (.iload 4, 2) := dall dgX0_deal_3 8 rfl
theorem dX0_deal_22 : decode cX0_deal 22 = .ok (.lload 5, 2) := dall dgX0_deal_3 9 rfl
theorem dX0_deal_24 : decode cX0_deal 24 = .ok (.invokevirtual 70, 3) := dall dgX0_deal_3 10 rfl
theorem dX0_deal_27 : decode cX0_deal 27 = .ok (.return_, 1) := dall dgX0_deal_3 11 rfl
set_option maxRecDepth 20000 in
theorem ggX0_meet_X0_meetNear : GoodIn wsX0_meet wsX0_meetNear := goodIn_r _ [8, 9, 10, 11, 12, 13, 14, 15, 16, 17, 18, 19, 20, 21, 22, 23, 24, 25, 26, 27, 28, 29, 30, 31] rfl (by decide +kernel)
set_option maxRecDepth 20000 in
theorem gX0_meet_X0_meetNear : GoodIn wsX0_meet (wsV RX0 87 RX0 yX0_meetNear wsX0_meetNear) := goodIn_app (goodIn_of _ (by decide +kernel)) ggX0_meet_X0_meetNear
def lgX0_meet_4 : List (Nat × Instr × Nat) := [(0, .aload_n 0, 1), (1, .getfield 25, 3), (4, .ifCond .eq 14, 3), (7, .aload_n 0, 1), (8, .iload_n 2, 1), (9, .iload_n 3, 1), (10, .lload 4, 2), (12, .invokevirtual 87, 3), (15, .goto 69, 3), (18, .iload_n 3, 1), (19, .aload_n 0, 1), (20, .getfield 12, 3), (23, .getfield 30, 3), (26, .if_icmp .le 58, 3), (29, .aload_n 0, 1), (30, .getfield 12, 3), (33, .iload_n 3, 1), (34, .putfield 30, 3), (37, .aload_n 0, 1), (38, .getfield 12, 3), (41, .iload_n 2, 1), (42, .putfield 91, 3), (45, .iconst 0, 1), (46, .istore 6, 2), (48, .iload 6, 2), (50, .iload_n 1, 1), (51, .if_icmp .ge 33, 3), (84, .return_, 1)]
theorem dgX0_meet_4 : ∀ q ∈ lgX0_meet_4, decode cX0_meet q.1 = .ok (q.2.1, q.2.2) := by decide +kernel
theorem dX0_meet_0 : decode cX0_meet 0 = .ok (.aload_n 0, 1) := dall dgX0_meet_4 0 rfl
theorem dX0_meet_1 : decode cX0_meet 1 = .ok (.getfield 25, 3) := dall dgX0_meet_4 1 rfl
theorem dX0_meet_4 : decode cX0_meet 4 = .ok (.ifCond .eq 14, 3) := dall dgX0_meet_4 2 rfl
theorem dX0_meet_7 : decode cX0_meet 7 = .ok (.aload_n 0, 1) := dall dgX0_meet_4 3 rfl
theorem dX0_meet_8 : decode cX0_meet 8 = .ok (.iload_n 2, 1) := dall dgX0_meet_4 4 rfl
theorem dX0_meet_9 : decode cX0_meet 9 = .ok (.iload_n 3, 1) := dall dgX0_meet_4 5 rfl
theorem dX0_meet_10 : decode cX0_meet 10 = .ok (.lload 4, 2) := dall dgX0_meet_4 6 rfl
theorem dX0_meet_12 : decode cX0_meet 12 = .ok (.invokevirtual 87, 3) := dall dgX0_meet_4 7 rfl
theorem dX0_meet_15 : decode cX0_meet 15 = .ok (.goto 69, 3) := dall dgX0_meet_4 8 rfl
theorem dX0_meet_18 : decode cX0_meet 18 = .ok (.iload_n 3, 1) := dall dgX0_meet_4 9 rfl
theorem dX0_meet_19 : decode cX0_meet 19 = .ok (.aload_n 0, 1) := dall dgX0_meet_4 10 rfl
theorem dX0_meet_20 : decode cX0_meet 20 = .ok (.getfield 12, 3) := dall dgX0_meet_4 11 rfl
theorem dX0_meet_23 : decode cX0_meet 23 = .ok (.getfield 30, 3) := dall dgX0_meet_4 12 rfl
theorem dX0_meet_26 : decode cX0_meet 26 = .ok (.if_icmp .le 58, 3) := dall dgX0_meet_4 13 rfl
theorem dX0_meet_29 : decode cX0_meet 29 = .ok (.aload_n 0, 1) := dall dgX0_meet_4 14 rfl
theorem dX0_meet_30 : decode cX0_meet 30 = .ok (.getfield 12, 3) := dall dgX0_meet_4 15 rfl
theorem dX0_meet_33 : decode cX0_meet 33 = .ok (.iload_n 3, 1) := dall dgX0_meet_4 16 rfl
theorem dX0_meet_34 : decode cX0_meet 34 = .ok (.putfield 30, 3) := dall dgX0_meet_4 17 rfl
theorem dX0_meet_37 : decode cX0_meet 37 = .ok (.aload_n 0, 1) := dall dgX0_meet_4 18 rfl
theorem dX0_meet_38 : decode cX0_meet 38 = .ok (.getfield 12, 3) := dall dgX0_meet_4 19 rfl
theorem dX0_meet_41 : decode cX0_meet 41 = .ok (.iload_n 2, 1) := dall dgX0_meet_4 20 rfl
theorem dX0_meet_42 : decode cX0_meet 42 = .ok (.putfield 91, 3) := dall dgX0_meet_4 21 rfl
theorem dX0_meet_45 : decode cX0_meet 45 = .ok (.iconst 0, 1) := dall dgX0_meet_4 22 rfl
theorem dX0_meet_46 : decode cX0_meet 46 = .ok (.istore 6, 2) := dall dgX0_meet_4 23 rfl
theorem dX0_meet_48 : decode cX0_meet 48 = .ok (.iload 6, 2) := dall dgX0_meet_4 24 rfl
theorem dX0_meet_50 : decode cX0_meet 50 = .ok (.iload_n 1, 1) := dall dgX0_meet_4 25 rfl
theorem dX0_meet_51 : decode cX0_meet 51 = .ok (.if_icmp .ge 33, 3) := dall dgX0_meet_4 26 rfl
theorem dX0_meet_84 : decode cX0_meet 84 = .ok (.return_, 1) := dall dgX0_meet_4 27 rfl
def lgX0_meetNear_5 : List (Nat × Instr × Nat) := [(0, .iload_n 2, 1), (1, .aload_n 0, 1), (2, .getfield 44, 3), (5, .if_icmp .lt 57, 3), (8, .aload_n 0, 1), (9, .dup, 1), (10, .getfield 47, 3), (13, .iconst 1, 1), (14, .iadd, 1), (15, .putfield 47, 3), (18, .aload_n 0, 1), (19, .aload_n 0, 1), (20, .getfield 50, 3), (23, .iload_n 1, 1), (24, .invokestatic 95, 3), (27, .putfield 50, 3), (30, .aload_n 0, 1), (31, .aload_n 0, 1), (32, .getfield 53, 3), (35, .iload_n 1, 1), (36, .invokestatic 74, 3), (39, .putfield 53, 3), (42, .aload_n 0, 1), (43, .dup, 1), (44, .getfield 58, 3), (47, .lload_n 3, 1), (48, .land, 1), (49, .putfield 58, 3), (52, .aload_n 0, 1), (53, .dup, 1), (54, .getfield 62, 3), (57, .lload_n 3, 1), (58, .lor, 1), (59, .putfield 62, 3), (62, .return_, 1)]
theorem dgX0_meetNear_5 : ∀ q ∈ lgX0_meetNear_5, decode cX0_meetNear q.1 = .ok (q.2.1, q.2.2) := by decide +kernel
theorem dX0_meetNear_0 : decode cX0_meetNear 0 = .ok (.iload_n 2, 1) := dall dgX0_meetNear_5 0 rfl
theorem dX0_meetNear_1 : decode cX0_meetNear 1 = .ok (.aload_n 0, 1) := dall dgX0_meetNear_5 1 rfl
theorem dX0_meetNear_2 : decode cX0_meetNear 2 = .ok (.getfield 44, 3) := dall dgX0_meetNear_5 2 rfl
theorem dX0_meetNear_5 : decode cX0_meetNear 5 = .ok (.if_icmp .lt 57, 3) := dall dgX0_meetNear_5 3 rfl
theorem dX0_meetNear_8 : decode cX0_meetNear 8 = .ok (.aload_n 0, 1) := dall dgX0_meetNear_5 4 rfl
theorem dX0_meetNear_9 : decode cX0_meetNear 9 = .ok (.dup, 1) := dall dgX0_meetNear_5 5 rfl
theorem dX0_meetNear_10 : decode cX0_meetNear 10 = .ok (.getfield 47, 3) := dall dgX0_meetNear_5 6 rfl
theorem dX0_meetNear_13 : decode cX0_meetNear 13 = .ok (.iconst 1, 1) := dall dgX0_meetNear_5 7 rfl
theorem dX0_meetNear_14 : decode cX0_meetNear 14 = .ok (.iadd, 1) := dall dgX0_meetNear_5 8 rfl
theorem dX0_meetNear_15 : decode cX0_meetNear 15 = .ok (.putfield 47, 3) := dall dgX0_meetNear_5 9 rfl
theorem dX0_meetNear_18 : decode cX0_meetNear 18 = .ok (.aload_n 0, 1) := dall dgX0_meetNear_5 10 rfl
theorem dX0_meetNear_19 : decode cX0_meetNear 19 = .ok (.aload_n 0, 1) := dall dgX0_meetNear_5 11 rfl
theorem dX0_meetNear_20 : decode cX0_meetNear 20 = .ok (.getfield 50, 3) := dall dgX0_meetNear_5 12 rfl
theorem dX0_meetNear_23 : decode cX0_meetNear 23 = .ok (.iload_n 1, 1) := dall dgX0_meetNear_5 13 rfl
theorem dX0_meetNear_24 : decode cX0_meetNear 24 = .ok (.invokestatic 95, 3) := dall dgX0_meetNear_5 14 rfl
theorem dX0_meetNear_27 : decode cX0_meetNear 27 = .ok (.putfield 50, 3) := dall dgX0_meetNear_5 15 rfl
theorem dX0_meetNear_30 : decode cX0_meetNear 30 = .ok (.aload_n 0, 1) := dall dgX0_meetNear_5 16 rfl
theorem dX0_meetNear_31 : decode cX0_meetNear 31 = .ok (.aload_n 0, 1) := dall dgX0_meetNear_5 17 rfl
theorem dX0_meetNear_32 : decode cX0_meetNear 32 = .ok (.getfield 53, 3) := dall dgX0_meetNear_5 18 rfl
theorem dX0_meetNear_35 : decode cX0_meetNear 35 = .ok (.iload_n 1, 1) := dall dgX0_meetNear_5 19 rfl
theorem dX0_meetNear_36 : decode cX0_meetNear 36 = .ok (.invokestatic 74, 3) := dall dgX0_meetNear_5 20 rfl
theorem dX0_meetNear_39 : decode cX0_meetNear 39 = .ok (.putfield 53, 3) := dall dgX0_meetNear_5 21 rfl
theorem dX0_meetNear_42 : decode cX0_meetNear 42 = .ok (.aload_n 0, 1) := dall dgX0_meetNear_5 22 rfl
theorem dX0_meetNear_43 : decode cX0_meetNear 43 = .ok (.dup, 1) := dall dgX0_meetNear_5 23 rfl
theorem dX0_meetNear_44 : decode cX0_meetNear 44 = .ok (.getfield 58, 3) := dall dgX0_meetNear_5 24 rfl
theorem dX0_meetNear_47 : decode cX0_meetNear 47 = .ok (.lload_n 3, 1) := dall dgX0_meetNear_5 25 rfl
theorem dX0_meetNear_48 : decode cX0_meetNear 48 = .ok (.land, 1) := dall dgX0_meetNear_5 26 rfl
theorem dX0_meetNear_49 : decode cX0_meetNear 49 = .ok (.putfield 58, 3) := dall dgX0_meetNear_5 27 rfl
theorem dX0_meetNear_52 : decode cX0_meetNear 52 = .ok (.aload_n 0, 1) := dall dgX0_meetNear_5 28 rfl
theorem dX0_meetNear_53 : decode cX0_meetNear 53 = .ok (.dup, 1) := dall dgX0_meetNear_5 29 rfl
theorem dX0_meetNear_54 : decode cX0_meetNear 54 = .ok (.getfield 62, 3) := dall dgX0_meetNear_5 30 rfl
theorem dX0_meetNear_57 : decode cX0_meetNear 57 = .ok (.lload_n 3, 1) := dall dgX0_meetNear_5 31 rfl
theorem dX0_meetNear_58 : decode cX0_meetNear 58 = .ok (.lor, 1) := dall dgX0_meetNear_5 32 rfl
theorem dX0_meetNear_59 : decode cX0_meetNear 59 = .ok (.putfield 62, 3) := dall dgX0_meetNear_5 33 rfl
theorem dX0_meetNear_62 : decode cX0_meetNear 62 = .ok (.return_, 1) := dall dgX0_meetNear_5 34 rfl
def lgX1_tie_6 : List (Nat × Instr × Nat) := [(0, .aload_n 0, 1), (1, .aload_n 1, 1), (2, .getfield 23, 3), (5, .bipush 9, 2), (7, .invokestatic 29, 3), (10, .putfield 35, 3), (13, .iconst 0, 1), (14, .istore 4, 2), (16, .iload 4, 2), (18, .aload_n 0, 1), (19, .getfield 35, 3), (22, .if_icmp .ge 82, 3), (104, .iconst 0, 1), (105, .istore 4, 2), (107, .iload 4, 2), (109, .aload_n 0, 1), (110, .getfield 35, 3), (113, .if_icmp .ge 15, 3), (128, .return_, 1)]
theorem dgX1_tie_6 : ∀ q ∈ lgX1_tie_6, decode cX1_tie q.1 = .ok (q.2.1, q.2.2) := by decide +kernel
theorem dX1_tie_0 : decode cX1_tie 0 = .ok (.aload_n 0, 1) := dall dgX1_tie_6 0 rfl
theorem dX1_tie_1 : decode cX1_tie 1 = .ok (.aload_n 1, 1) := dall dgX1_tie_6 1 rfl
theorem dX1_tie_2 : decode cX1_tie 2 = .ok (.getfield 23, 3) := dall dgX1_tie_6 2 rfl
theorem dX1_tie_5 : decode cX1_tie 5 = .ok (.bipush 9, 2) := dall dgX1_tie_6 3 rfl
theorem dX1_tie_7 : decode cX1_tie 7 = .ok (.invokestatic 29, 3) := dall dgX1_tie_6 4 rfl
theorem dX1_tie_10 : decode cX1_tie 10 = .ok (.putfield 35, 3) := dall dgX1_tie_6 5 rfl
theorem dX1_tie_13 : decode cX1_tie 13 = .ok (.iconst 0, 1) := dall dgX1_tie_6 6 rfl
theorem dX1_tie_14 : decode cX1_tie 14 = .ok (.istore 4, 2) := dall dgX1_tie_6 7 rfl
theorem dX1_tie_16 : decode cX1_tie 16 = .ok (.iload 4, 2) := dall dgX1_tie_6 8 rfl
theorem dX1_tie_18 : decode cX1_tie 18 = .ok (.aload_n 0, 1) := dall dgX1_tie_6 9 rfl
theorem dX1_tie_19 : decode cX1_tie 19 = .ok (.getfield 35, 3) := dall dgX1_tie_6 10 rfl
theorem dX1_tie_22 : decode cX1_tie 22 = .ok (.if_icmp .ge 82, 3) := dall dgX1_tie_6 11 rfl
theorem dX1_tie_104 : decode cX1_tie 104 = .ok (.iconst 0, 1) := dall dgX1_tie_6 12 rfl
theorem dX1_tie_105 : decode cX1_tie 105 = .ok (.istore 4, 2) := dall dgX1_tie_6 13 rfl
theorem dX1_tie_107 : decode cX1_tie 107 = .ok (.iload 4, 2) := dall dgX1_tie_6 14 rfl
theorem dX1_tie_109 : decode cX1_tie 109 = .ok (.aload_n 0, 1) := dall dgX1_tie_6 15 rfl
theorem dX1_tie_110 : decode cX1_tie 110 = .ok (.getfield 35, 3) := dall dgX1_tie_6 16 rfl
theorem dX1_tie_113 : decode cX1_tie 113 = .ok (.if_icmp .ge 15, 3) := dall dgX1_tie_6 17 rfl
theorem dX1_tie_128 : decode cX1_tie 128 = .ok (.return_, 1) := dall dgX1_tie_6 18 rfl
set_option maxRecDepth 20000 in
theorem ggX1_join_X4_numberHeaps : GoodIn wsX1_join wsX4_numberHeaps := goodIn_r _ [13, 14, 15, 16, 17, 18, 19, 20, 29, 30, 31, 32, 33] rfl (by decide +kernel)
set_option maxRecDepth 20000 in
theorem gX1_join_X4_numberHeaps : GoodIn wsX1_join (wsV RX1 57 RX4 yX4_numberHeaps wsX4_numberHeaps) := goodIn_app (goodIn_of _ (by decide +kernel)) ggX1_join_X4_numberHeaps
set_option maxRecDepth 20000 in
theorem ggX1_join_X1_worthOf : GoodIn wsX1_join wsX1_worthOf := goodIn_r _ [24, 1, 3, 25, 26, 27, 28, 29, 30, 31, 32, 33] rfl (by decide +kernel)
set_option maxRecDepth 20000 in
theorem gX1_join_X1_worthOf : GoodIn wsX1_join (wsV RX1 60 RX1 yX1_worthOf wsX1_worthOf) := goodIn_app (goodIn_of _ (by decide +kernel)) ggX1_join_X1_worthOf
def lgX1_join_7 : List (Nat × Instr × Nat) := [(0, .iconst 0, 1), (1, .istore_n 2, 1), (2, .iload_n 2, 1), (3, .aload_n 0, 1), (4, .getfield 35, 3), (7, .if_icmp .ge 48, 3), (55, .iconst 1, 1), (56, .istore_n 2, 1), (57, .iconst 0, 1), (58, .istore_n 3, 1), (59, .iload_n 3, 1), (60, .aload_n 0, 1), (61, .getfield 35, 3), (64, .if_icmp .ge 19, 3), (83, .aload_n 1, 1), (84, .aload_n 0, 1), (85, .getfield 35, 3), (88, .invokevirtual 57, 3), (91, .aload_n 1, 1), (92, .aload_n 0, 1), (93, .aload_n 1, 1), (94, .invokevirtual 60, 3), (97, .putfield 64, 3), (100, .return_, 1)]
theorem dgX1_join_7 : ∀ q ∈ lgX1_join_7, decode cX1_join q.1 = .ok (q.2.1, q.2.2) := by decide +kernel
theorem dX1_join_0 : decode cX1_join 0 = .ok (.iconst 0, 1) := dall dgX1_join_7 0 rfl
theorem dX1_join_1 : decode cX1_join 1 = .ok (.istore_n 2, 1) := dall dgX1_join_7 1 rfl
theorem dX1_join_2 : decode cX1_join 2 = .ok (.iload_n 2, 1) := dall dgX1_join_7 2 rfl
theorem dX1_join_3 : decode cX1_join 3 = .ok (.aload_n 0, 1) := dall dgX1_join_7 3 rfl
theorem dX1_join_4 : decode cX1_join 4 = .ok (.getfield 35, 3) := dall dgX1_join_7 4 rfl
theorem dX1_join_7 : decode cX1_join 7 = .ok (.if_icmp .ge 48, 3) := dall dgX1_join_7 5 rfl
theorem dX1_join_55 : decode cX1_join 55 = .ok (.iconst 1, 1) := dall dgX1_join_7 6 rfl
theorem dX1_join_56 : decode cX1_join 56 = .ok (.istore_n 2, 1) := dall dgX1_join_7 7 rfl
theorem dX1_join_57 : decode cX1_join 57 = .ok (.iconst 0, 1) := dall dgX1_join_7 8 rfl
theorem dX1_join_58 : decode cX1_join 58 = .ok (.istore_n 3, 1) := dall dgX1_join_7 9 rfl
theorem dX1_join_59 : decode cX1_join 59 = .ok (.iload_n 3, 1) := dall dgX1_join_7 10 rfl
theorem dX1_join_60 : decode cX1_join 60 = .ok (.aload_n 0, 1) := dall dgX1_join_7 11 rfl
theorem dX1_join_61 : decode cX1_join 61 = .ok (.getfield 35, 3) := dall dgX1_join_7 12 rfl
theorem dX1_join_64 : decode cX1_join 64 = .ok (.if_icmp .ge 19, 3) := dall dgX1_join_7 13 rfl
theorem dX1_join_83 : decode cX1_join 83 = .ok (.aload_n 1, 1) := dall dgX1_join_7 14 rfl
theorem dX1_join_84 : decode cX1_join 84 = .ok (.aload_n 0, 1) := dall dgX1_join_7 15 rfl
theorem dX1_join_85 : decode cX1_join 85 = .ok (.getfield 35, 3) := dall dgX1_join_7 16 rfl
theorem dX1_join_88 : decode cX1_join 88 = .ok (.invokevirtual 57, 3) := dall dgX1_join_7 17 rfl
theorem dX1_join_91 : decode cX1_join 91 = .ok (.aload_n 1, 1) := dall dgX1_join_7 18 rfl
theorem dX1_join_92 : decode cX1_join 92 = .ok (.aload_n 0, 1) := dall dgX1_join_7 19 rfl
theorem dX1_join_93 : decode cX1_join 93 = .ok (.aload_n 1, 1) := dall dgX1_join_7 20 rfl
theorem dX1_join_94 : decode cX1_join 94 = .ok (.invokevirtual 60, 3) := dall dgX1_join_7 21 rfl
theorem dX1_join_97 : decode cX1_join 97 = .ok (.putfield 64, 3) := dall dgX1_join_7 22 rfl
theorem dX1_join_100 : decode cX1_join 100 = .ok (.return_, 1) := dall dgX1_join_7 23 rfl
def lgX1_worthOf_8 : List (Nat × Instr × Nat) := [(0, .iconst 0, 1), (1, .istore_n 2, 1), (2, .iconst 0, 1), (3, .istore_n 3, 1), (4, .iload_n 3, 1), (5, .aload_n 0, 1), (6, .getfield 35, 3), (9, .if_icmp .ge 61, 3), (70, .iload_n 2, 1), (71, .ireturn, 1)]
theorem dgX1_worthOf_8 : ∀ q ∈ lgX1_worthOf_8, decode cX1_worthOf q.1 = .ok (q.2.1, q.2.2) := by decide +kernel
theorem dX1_worthOf_0 : decode cX1_worthOf 0 = .ok (.iconst 0, 1) := dall dgX1_worthOf_8 0 rfl
theorem dX1_worthOf_1 : decode cX1_worthOf 1 = .ok (.istore_n 2, 1) := dall dgX1_worthOf_8 1 rfl
theorem dX1_worthOf_2 : decode cX1_worthOf 2 = .ok (.iconst 0, 1) := dall dgX1_worthOf_8 2 rfl
theorem dX1_worthOf_3 : decode cX1_worthOf 3 = .ok (.istore_n 3, 1) := dall dgX1_worthOf_8 3 rfl
theorem dX1_worthOf_4 : decode cX1_worthOf 4 = .ok (.iload_n 3, 1) := dall dgX1_worthOf_8 4 rfl
theorem dX1_worthOf_5 : decode cX1_worthOf 5 = .ok (.aload_n 0, 1) := dall dgX1_worthOf_8 5 rfl
theorem dX1_worthOf_6 : decode cX1_worthOf 6 = .ok (.getfield 35, 3) := dall dgX1_worthOf_8 6 rfl
theorem dX1_worthOf_9 : decode cX1_worthOf 9 = .ok (.if_icmp .ge 61, 3) := dall dgX1_worthOf_8 7 rfl
theorem dX1_worthOf_70 : decode cX1_worthOf 70 = .ok (.iload_n 2, 1) := dall dgX1_worthOf_8 8 rfl
theorem dX1_worthOf_71 : decode cX1_worthOf 71 = .ok (.ireturn, 1) := dall dgX1_worthOf_8 9 rfl
set_option maxRecDepth 20000 in
theorem ggX2_cut_J7_fill_53178 : GoodIn wsX2_cut wsJ7_fill_53178 := goodIn_r _ [10] rfl (by decide +kernel)
set_option maxRecDepth 20000 in
theorem gX2_cut_J7_fill_53178 : GoodIn wsX2_cut (va_wsS RX2 49 yJ7_fill_53178 wsJ7_fill_53178) := goodIn_app (goodIn_of _ (by decide +kernel)) ggX2_cut_J7_fill_53178
def lgX2_cut_9 : List (Nat × Instr × Nat) := [(0, .aload_n 0, 1), (1, .iconst 0, 1), (2, .putfield 36, 3), (5, .aload_n 0, 1), (6, .iconst 0, 1), (7, .putfield 40, 3), (10, .aload_n 0, 1), (11, .iconst 0, 1), (12, .putfield 43, 3), (15, .aload_n 0, 1), (16, .iconst 0, 1), (17, .putfield 46, 3), (20, .aload_n 0, 1), (21, .getfield 27, 3), (24, .bipush (-9), 2), (26, .invokestatic 49, 3), (29, .iconst 0, 1), (30, .istore 5, 2), (32, .iload 5, 2), (34, .aload_n 1, 1), (35, .getfield 55, 3), (38, .if_icmp .ge 110, 3), (148, .return_, 1)]
theorem dgX2_cut_9 : ∀ q ∈ lgX2_cut_9, decode cX2_cut q.1 = .ok (q.2.1, q.2.2) := by decide +kernel
theorem dX2_cut_0 : decode cX2_cut 0 = .ok (.aload_n 0, 1) := dall dgX2_cut_9 0 rfl
theorem dX2_cut_1 : decode cX2_cut 1 = .ok (.iconst 0, 1) := dall dgX2_cut_9 1 rfl
theorem dX2_cut_2 : decode cX2_cut 2 = .ok (.putfield 36, 3) := dall dgX2_cut_9 2 rfl
theorem dX2_cut_5 : decode cX2_cut 5 = .ok (.aload_n 0, 1) := dall dgX2_cut_9 3 rfl
theorem dX2_cut_6 : decode cX2_cut 6 = .ok (.iconst 0, 1) := dall dgX2_cut_9 4 rfl
theorem dX2_cut_7 : decode cX2_cut 7 = .ok (.putfield 40, 3) := dall dgX2_cut_9 5 rfl
theorem dX2_cut_10 : decode cX2_cut 10 = .ok (.aload_n 0, 1) := dall dgX2_cut_9 6 rfl
theorem dX2_cut_11 : decode cX2_cut 11 = .ok (.iconst 0, 1) := dall dgX2_cut_9 7 rfl
theorem dX2_cut_12 : decode cX2_cut 12 = .ok (.putfield 43, 3) := dall dgX2_cut_9 8 rfl
theorem dX2_cut_15 : decode cX2_cut 15 = .ok (.aload_n 0, 1) := dall dgX2_cut_9 9 rfl
theorem dX2_cut_16 : decode cX2_cut 16 = .ok (.iconst 0, 1) := dall dgX2_cut_9 10 rfl
theorem dX2_cut_17 : decode cX2_cut 17 = .ok (.putfield 46, 3) := dall dgX2_cut_9 11 rfl
theorem dX2_cut_20 : decode cX2_cut 20 = .ok (.aload_n 0, 1) := dall dgX2_cut_9 12 rfl
theorem dX2_cut_21 : decode cX2_cut 21 = .ok (.getfield 27, 3) := dall dgX2_cut_9 13 rfl
theorem dX2_cut_24 : decode cX2_cut 24 = .ok (.bipush (-9), 2) := dall dgX2_cut_9 14 rfl
theorem dX2_cut_26 : decode cX2_cut 26 = .ok (.invokestatic 49, 3) := dall dgX2_cut_9 15 rfl
theorem dX2_cut_29 : decode cX2_cut 29 = .ok (.iconst 0, 1) := dall dgX2_cut_9 16 rfl
theorem dX2_cut_30 : decode cX2_cut 30 = .ok (.istore 5, 2) := dall dgX2_cut_9 17 rfl
theorem dX2_cut_32 : decode cX2_cut 32 = .ok (.iload 5, 2) := dall dgX2_cut_9 18 rfl
theorem dX2_cut_34 : decode cX2_cut 34 = .ok (.aload_n 1, 1) := dall dgX2_cut_9 19 rfl
theorem dX2_cut_35 : decode cX2_cut 35 = .ok (.getfield 55, 3) := dall dgX2_cut_9 20 rfl
theorem dX2_cut_38 : decode cX2_cut 38 = .ok (.if_icmp .ge 110, 3) := dall dgX2_cut_9 21 rfl
theorem dX2_cut_148 : decode cX2_cut 148 = .ok (.return_, 1) := dall dgX2_cut_9 22 rfl
set_option maxRecDepth 20000 in
theorem ggX4_numberHeaps_J7_fill_53178 : GoodIn wsX4_numberHeaps wsJ7_fill_53178 := goodIn_r _ [7] rfl (by decide +kernel)
set_option maxRecDepth 20000 in
theorem gX4_numberHeaps_J7_fill_53178 : GoodIn wsX4_numberHeaps (va_wsS RX4 21 yJ7_fill_53178 wsJ7_fill_53178) := goodIn_app (goodIn_of _ (by decide +kernel)) ggX4_numberHeaps_J7_fill_53178
def lgX4_numberHeaps_10 : List (Nat × Instr × Nat) := [(0, .aload_n 0, 1), (1, .getfield 15, 3), (4, .bipush (-9), 2), (6, .invokestatic 21, 3), (9, .aload_n 0, 1), (10, .iconst 0, 1), (11, .putfield 27, 3), (14, .iconst 0, 1), (15, .istore_n 2, 1), (16, .iload_n 2, 1), (17, .iload_n 1, 1), (18, .if_icmp .ge 89, 3), (107, .return_, 1)]
theorem dgX4_numberHeaps_10 : ∀ q ∈ lgX4_numberHeaps_10, decode cX4_numberHeaps q.1 = .ok (q.2.1, q.2.2) := by decide +kernel
theorem dX4_numberHeaps_0 : decode cX4_numberHeaps 0 = .ok (.aload_n 0, 1) := dall dgX4_numberHeaps_10 0 rfl
theorem dX4_numberHeaps_1 : decode cX4_numberHeaps 1 = .ok (.getfield 15, 3) := dall dgX4_numberHeaps_10 1 rfl
theorem dX4_numberHeaps_4 : decode cX4_numberHeaps 4 = .ok (.bipush (-9), 2) := dall dgX4_numberHeaps_10 2 rfl
theorem dX4_numberHeaps_6 : decode cX4_numberHeaps 6 = .ok (.invokestatic 21, 3) := dall dgX4_numberHeaps_10 3 rfl
theorem dX4_numberHeaps_9 : decode cX4_numberHeaps 9 = .ok (.aload_n 0, 1) := dall dgX4_numberHeaps_10 4 rfl
theorem dX4_numberHeaps_10 : decode cX4_numberHeaps 10 = .ok (.iconst 0, 1) := dall dgX4_numberHeaps_10 5 rfl
theorem dX4_numberHeaps_11 : decode cX4_numberHeaps 11 = .ok (.putfield 27, 3) := dall dgX4_numberHeaps_10 6 rfl
theorem dX4_numberHeaps_14 : decode cX4_numberHeaps 14 = .ok (.iconst 0, 1) := dall dgX4_numberHeaps_10 7 rfl
theorem dX4_numberHeaps_15 : decode cX4_numberHeaps 15 = .ok (.istore_n 2, 1) := dall dgX4_numberHeaps_10 8 rfl
theorem dX4_numberHeaps_16 : decode cX4_numberHeaps 16 = .ok (.iload_n 2, 1) := dall dgX4_numberHeaps_10 9 rfl
theorem dX4_numberHeaps_17 : decode cX4_numberHeaps 17 = .ok (.iload_n 1, 1) := dall dgX4_numberHeaps_10 10 rfl
theorem dX4_numberHeaps_18 : decode cX4_numberHeaps 18 = .ok (.if_icmp .ge 89, 3) := dall dgX4_numberHeaps_10 11 rfl
theorem dX4_numberHeaps_107 : decode cX4_numberHeaps 107 = .ok (.return_, 1) := dall dgX4_numberHeaps_10 12 rfl
def lgX4_findMiddles_11 : List (Nat × Instr × Nat) := [(0, .iconst 0, 1), (1, .istore 4, 2), (3, .iload 4, 2), (5, .aload_n 0, 1), (6, .getfield 27, 3), (9, .if_icmp .ge 97, 3), (106, .return_, 1)]
theorem dgX4_findMiddles_11 : ∀ q ∈ lgX4_findMiddles_11, decode cX4_findMiddles q.1 = .ok (q.2.1, q.2.2) := by decide +kernel
theorem dX4_findMiddles_0 : decode cX4_findMiddles 0 = .ok (.iconst 0, 1) := dall dgX4_findMiddles_11 0 rfl
theorem dX4_findMiddles_1 : decode cX4_findMiddles 1 = .ok (.istore 4, 2) := dall dgX4_findMiddles_11 1 rfl
theorem dX4_findMiddles_3 : decode cX4_findMiddles 3 = .ok (.iload 4, 2) := dall dgX4_findMiddles_11 2 rfl
theorem dX4_findMiddles_5 : decode cX4_findMiddles 5 = .ok (.aload_n 0, 1) := dall dgX4_findMiddles_11 3 rfl
theorem dX4_findMiddles_6 : decode cX4_findMiddles 6 = .ok (.getfield 27, 3) := dall dgX4_findMiddles_11 4 rfl
theorem dX4_findMiddles_9 : decode cX4_findMiddles 9 = .ok (.if_icmp .ge 97, 3) := dall dgX4_findMiddles_11 5 rfl
theorem dX4_findMiddles_106 : decode cX4_findMiddles 106 = .ok (.return_, 1) := dall dgX4_findMiddles_11 6 rfl
def lgX5_has_12 : List (Nat × Instr × Nat) := [(0, .iload_n 1, 1), (1, .ifCond .lt 21, 3), (4, .iload_n 1, 1), (5, .aload_n 0, 1), (6, .getfield 21, 3), (9, .if_icmp .ge 13, 3), (22, .iconst 0, 1), (23, .ireturn, 1)]
theorem dgX5_has_12 : ∀ q ∈ lgX5_has_12, decode cX5_has q.1 = .ok (q.2.1, q.2.2) := by decide +kernel
theorem dX5_has_0 : decode cX5_has 0 = .ok (.iload_n 1, 1) := dall dgX5_has_12 0 rfl
theorem dX5_has_1 : decode cX5_has 1 = .ok (.ifCond .lt 21, 3) := dall dgX5_has_12 1 rfl
theorem dX5_has_4 : decode cX5_has 4 = .ok (.iload_n 1, 1) := dall dgX5_has_12 2 rfl
theorem dX5_has_5 : decode cX5_has 5 = .ok (.aload_n 0, 1) := dall dgX5_has_12 3 rfl
theorem dX5_has_6 : decode cX5_has 6 = .ok (.getfield 21, 3) := dall dgX5_has_12 4 rfl
theorem dX5_has_9 : decode cX5_has 9 = .ok (.if_icmp .ge 13, 3) := dall dgX5_has_12 5 rfl
theorem dX5_has_22 : decode cX5_has 22 = .ok (.iconst 0, 1) := dall dgX5_has_12 6 rfl
theorem dX5_has_23 : decode cX5_has 23 = .ok (.ireturn, 1) := dall dgX5_has_12 7 rfl
set_option maxRecDepth 20000 in
theorem ggX7_addRow_X7_addDeaf : GoodIn wsX7_addRow wsX7_addDeaf := goodIn_r _ [7, 8, 1, 9, 10, 11, 12, 13, 14, 15] rfl (by decide +kernel)
set_option maxRecDepth 20000 in
theorem gX7_addRow_X7_addDeaf : GoodIn wsX7_addRow (wsV RX7 25 RX7 yX7_addDeaf wsX7_addDeaf) := goodIn_app (goodIn_of _ (by decide +kernel)) ggX7_addRow_X7_addDeaf
def lgX7_addRow_13 : List (Nat × Instr × Nat) := [(0, .aload_n 0, 1), (1, .invokevirtual 25, 3), (4, .istore 5, 2), (6, .iload 5, 2), (8, .ifCond .lt 58, 3), (11, .aload_n 0, 1), (12, .getfield 15, 3), (15, .iload 5, 2), (17, .iconst 0, 1), (18, .bastore, 1), (19, .aload_n 0, 1), (20, .getfield 9, 3), (23, .iload 5, 2), (25, .iconst 4, 1), (26, .imul, 1), (27, .iload_n 1, 1), (28, .iastore, 1), (29, .aload_n 0, 1), (30, .getfield 9, 3), (33, .iload 5, 2), (35, .iconst 4, 1), (36, .imul, 1), (37, .iconst 1, 1), (38, .iadd, 1), (39, .iload_n 2, 1), (40, .iastore, 1), (41, .aload_n 0, 1), (42, .getfield 9, 3), (45, .iload 5, 2), (47, .iconst 4, 1), (48, .imul, 1), (49, .iconst 2, 1), (50, .iadd, 1), (51, .iload_n 3, 1), (52, .iastore, 1), (53, .aload_n 0, 1), (54, .getfield 9, 3), (57, .iload 5, 2), (59, .iconst 4, 1), (60, .imul, 1), (61, .iconst 3, 1), (62, .iadd, 1), (63, .iload 4, 2), (65, .iastore, 1), (66, .iload 5, 2), (68, .ireturn, 1)]
theorem dgX7_addRow_13 : ∀ q ∈ lgX7_addRow_13, decode cX7_addRow q.1 = .ok (q.2.1, q.2.2) := by decide +kernel
theorem dX7_addRow_0 : decode cX7_addRow 0 = .ok (.aload_n 0, 1) := dall dgX7_addRow_13 0 rfl
theorem dX7_addRow_1 : decode cX7_addRow 1 = .ok (.invokevirtual 25, 3) := dall dgX7_addRow_13 1 rfl
theorem dX7_addRow_4 : decode cX7_addRow 4 = .ok (.istore 5, 2) := dall dgX7_addRow_13 2 rfl
theorem dX7_addRow_6 : decode cX7_addRow 6 = .ok (.iload 5, 2) := dall dgX7_addRow_13 3 rfl
theorem dX7_addRow_8 : decode cX7_addRow 8 = .ok (.ifCond .lt 58, 3) := dall dgX7_addRow_13 4 rfl
theorem dX7_addRow_11 : decode cX7_addRow 11 = .ok (.aload_n 0, 1) := dall dgX7_addRow_13 5 rfl
theorem dX7_addRow_12 : decode cX7_addRow 12 = .ok (.getfield 15, 3) := dall dgX7_addRow_13 6 rfl
theorem dX7_addRow_15 : decode cX7_addRow 15 = .ok (.iload 5, 2) := dall dgX7_addRow_13 7 rfl
theorem dX7_addRow_17 : decode cX7_addRow 17 = .ok (.iconst 0, 1) := dall dgX7_addRow_13 8 rfl
theorem dX7_addRow_18 : decode cX7_addRow 18 = .ok (.bastore, 1) := dall dgX7_addRow_13 9 rfl
theorem dX7_addRow_19 : decode cX7_addRow 19 = .ok (.aload_n 0, 1) := dall dgX7_addRow_13 10 rfl
theorem dX7_addRow_20 : decode cX7_addRow 20 = .ok (.getfield 9, 3) := dall dgX7_addRow_13 11 rfl
theorem dX7_addRow_23 : decode cX7_addRow 23 = .ok (.iload 5, 2) := dall dgX7_addRow_13 12 rfl
theorem dX7_addRow_25 : decode cX7_addRow 25 = .ok (.iconst 4, 1) := dall dgX7_addRow_13 13 rfl
theorem dX7_addRow_26 : decode cX7_addRow 26 = .ok (.imul, 1) := dall dgX7_addRow_13 14 rfl
theorem dX7_addRow_27 : decode cX7_addRow 27 = .ok (.iload_n 1, 1) := dall dgX7_addRow_13 15 rfl
theorem dX7_addRow_28 : decode cX7_addRow 28 = .ok (.iastore, 1) := dall dgX7_addRow_13 16 rfl
theorem dX7_addRow_29 : decode cX7_addRow 29 = .ok (.aload_n 0, 1) := dall dgX7_addRow_13 17 rfl
theorem dX7_addRow_30 : decode cX7_addRow 30 = .ok (.getfield 9, 3) := dall dgX7_addRow_13 18 rfl
theorem dX7_addRow_33 : decode cX7_addRow 33 = .ok (.iload 5, 2) := dall dgX7_addRow_13 19 rfl
theorem dX7_addRow_35 : decode cX7_addRow 35 = .ok (.iconst 4, 1) := dall dgX7_addRow_13 20 rfl
theorem dX7_addRow_36 : decode cX7_addRow 36 = .ok (.imul, 1) := dall dgX7_addRow_13 21 rfl
theorem dX7_addRow_37 : decode cX7_addRow 37 = .ok (.iconst 1, 1) := dall dgX7_addRow_13 22 rfl
theorem dX7_addRow_38 : decode cX7_addRow 38 = .ok (.iadd, 1) := dall dgX7_addRow_13 23 rfl
theorem dX7_addRow_39 : decode cX7_addRow 39 = .ok (.iload_n 2, 1) := dall dgX7_addRow_13 24 rfl
theorem dX7_addRow_40 : decode cX7_addRow 40 = .ok (.iastore, 1) := dall dgX7_addRow_13 25 rfl
theorem dX7_addRow_41 : decode cX7_addRow 41 = .ok (.aload_n 0, 1) := dall dgX7_addRow_13 26 rfl
theorem dX7_addRow_42 : decode cX7_addRow 42 = .ok (.getfield 9, 3) := dall dgX7_addRow_13 27 rfl
theorem dX7_addRow_45 : decode cX7_addRow 45 = .ok (.iload 5, 2) := dall dgX7_addRow_13 28 rfl
theorem dX7_addRow_47 : decode cX7_addRow 47 = .ok (.iconst 4, 1) := dall dgX7_addRow_13 29 rfl
theorem dX7_addRow_48 : decode cX7_addRow 48 = .ok (.imul, 1) := dall dgX7_addRow_13 30 rfl
theorem dX7_addRow_49 : decode cX7_addRow 49 = .ok (.iconst 2, 1) := dall dgX7_addRow_13 31 rfl
theorem dX7_addRow_50 : decode cX7_addRow 50 = .ok (.iadd, 1) := dall dgX7_addRow_13 32 rfl
theorem dX7_addRow_51 : decode cX7_addRow 51 = .ok (.iload_n 3, 1) := dall dgX7_addRow_13 33 rfl
theorem dX7_addRow_52 : decode cX7_addRow 52 = .ok (.iastore, 1) := dall dgX7_addRow_13 34 rfl
theorem dX7_addRow_53 : decode cX7_addRow 53 = .ok (.aload_n 0, 1) := dall dgX7_addRow_13 35 rfl
theorem dX7_addRow_54 : decode cX7_addRow 54 = .ok (.getfield 9, 3) := dall dgX7_addRow_13 36 rfl
theorem dX7_addRow_57 : decode cX7_addRow 57 = .ok (.iload 5, 2) := dall dgX7_addRow_13 37 rfl
theorem dX7_addRow_59 : decode cX7_addRow 59 = .ok (.iconst 4, 1) := dall dgX7_addRow_13 38 rfl
theorem dX7_addRow_60 : decode cX7_addRow 60 = .ok (.imul, 1) := dall dgX7_addRow_13 39 rfl
theorem dX7_addRow_61 : decode cX7_addRow 61 = .ok (.iconst 3, 1) := dall dgX7_addRow_13 40 rfl
theorem dX7_addRow_62 : decode cX7_addRow 62 = .ok (.iadd, 1) := dall dgX7_addRow_13 41 rfl
theorem dX7_addRow_63 : decode cX7_addRow 63 = .ok (.iload 4, 2) := dall dgX7_addRow_13 42 rfl
theorem dX7_addRow_65 : decode cX7_addRow 65 = .ok (.iastore, 1) := dall dgX7_addRow_13 43 rfl
theorem dX7_addRow_66 : decode cX7_addRow 66 = .ok (.iload 5, 2) := dall dgX7_addRow_13 44 rfl
theorem dX7_addRow_68 : decode cX7_addRow 68 = .ok (.ireturn, 1) := dall dgX7_addRow_13 45 rfl
def lgX7_addDeaf_14 : List (Nat × Instr × Nat) := [(0, .aload_n 0, 1), (1, .getfield 29, 3), (4, .bipush 48, 2), (6, .if_icmp .lt 6, 3), (12, .aload_n 0, 1), (13, .getfield 29, 3), (16, .istore_n 1, 1), (17, .aload_n 0, 1), (18, .getfield 15, 3), (21, .iload_n 1, 1), (22, .iconst 1, 1), (23, .bastore, 1), (24, .aload_n 0, 1), (25, .getfield 19, 3), (28, .iload_n 1, 1), (29, .iconst 0, 1), (30, .bastore, 1), (31, .aload_n 0, 1), (32, .getfield 22, 3), (35, .iload_n 1, 1), (36, .iconst 0, 1), (37, .iastore, 1), (38, .aload_n 0, 1), (39, .dup, 1), (40, .getfield 29, 3), (43, .iconst 1, 1), (44, .iadd, 1), (45, .putfield 29, 3), (48, .iload_n 1, 1), (49, .ireturn, 1)]
theorem dgX7_addDeaf_14 : ∀ q ∈ lgX7_addDeaf_14, decode cX7_addDeaf q.1 = .ok (q.2.1, q.2.2) := by decide +kernel
theorem dX7_addDeaf_0 : decode cX7_addDeaf 0 = .ok (.aload_n 0, 1) := dall dgX7_addDeaf_14 0 rfl
theorem dX7_addDeaf_1 : decode cX7_addDeaf 1 = .ok (.getfield 29, 3) := dall dgX7_addDeaf_14 1 rfl
theorem dX7_addDeaf_4 : decode cX7_addDeaf 4 = .ok (.bipush 48, 2) := dall dgX7_addDeaf_14 2 rfl
theorem dX7_addDeaf_6 : decode cX7_addDeaf 6 = .ok (.if_icmp .lt 6, 3) := dall dgX7_addDeaf_14 3 rfl
theorem dX7_addDeaf_12 : decode cX7_addDeaf 12 = .ok (.aload_n 0, 1) := dall dgX7_addDeaf_14 4 rfl
theorem dX7_addDeaf_13 : decode cX7_addDeaf 13 = .ok (.getfield 29, 3) := dall dgX7_addDeaf_14 5 rfl
theorem dX7_addDeaf_16 : decode cX7_addDeaf 16 = .ok (.istore_n 1, 1) := dall dgX7_addDeaf_14 6 rfl
theorem dX7_addDeaf_17 : decode cX7_addDeaf 17 = .ok (.aload_n 0, 1) := dall dgX7_addDeaf_14 7 rfl
theorem dX7_addDeaf_18 : decode cX7_addDeaf 18 = .ok (.getfield 15, 3) := dall dgX7_addDeaf_14 8 rfl
theorem dX7_addDeaf_21 : decode cX7_addDeaf 21 = .ok (.iload_n 1, 1) := dall dgX7_addDeaf_14 9 rfl
theorem dX7_addDeaf_22 : decode cX7_addDeaf 22 = .ok (.iconst 1, 1) := dall dgX7_addDeaf_14 10 rfl
theorem dX7_addDeaf_23 : decode cX7_addDeaf 23 = .ok (.bastore, 1) := dall dgX7_addDeaf_14 11 rfl
theorem dX7_addDeaf_24 : decode cX7_addDeaf 24 = .ok (.aload_n 0, 1) := dall dgX7_addDeaf_14 12 rfl
theorem dX7_addDeaf_25 : decode cX7_addDeaf 25 = .ok (.getfield 19, 3) := dall dgX7_addDeaf_14 13 rfl
theorem dX7_addDeaf_28 : decode cX7_addDeaf 28 = .ok (.iload_n 1, 1) := dall dgX7_addDeaf_14 14 rfl
theorem dX7_addDeaf_29 : decode cX7_addDeaf 29 = .ok (.iconst 0, 1) := dall dgX7_addDeaf_14 15 rfl
theorem dX7_addDeaf_30 : decode cX7_addDeaf 30 = .ok (.bastore, 1) := dall dgX7_addDeaf_14 16 rfl
theorem dX7_addDeaf_31 : decode cX7_addDeaf 31 = .ok (.aload_n 0, 1) := dall dgX7_addDeaf_14 17 rfl
theorem dX7_addDeaf_32 : decode cX7_addDeaf 32 = .ok (.getfield 22, 3) := dall dgX7_addDeaf_14 18 rfl
theorem dX7_addDeaf_35 : decode cX7_addDeaf 35 = .ok (.iload_n 1, 1) := dall dgX7_addDeaf_14 19 rfl
theorem dX7_addDeaf_36 : decode cX7_addDeaf 36 = .ok (.iconst 0, 1) := dall dgX7_addDeaf_14 20 rfl
theorem dX7_addDeaf_37 : decode cX7_addDeaf 37 = .ok (.iastore, 1) := dall dgX7_addDeaf_14 21 rfl
theorem dX7_addDeaf_38 : decode cX7_addDeaf 38 = .ok (.aload_n 0, 1) := dall dgX7_addDeaf_14 22 rfl
theorem dX7_addDeaf_39 : decode cX7_addDeaf 39 = .ok (.dup, 1) := dall dgX7_addDeaf_14 23 rfl
theorem dX7_addDeaf_40 : decode cX7_addDeaf 40 = .ok (.getfield 29, 3) := dall dgX7_addDeaf_14 24 rfl
theorem dX7_addDeaf_43 : decode cX7_addDeaf 43 = .ok (.iconst 1, 1) := dall dgX7_addDeaf_14 25 rfl
theorem dX7_addDeaf_44 : decode cX7_addDeaf 44 = .ok (.iadd, 1) := dall dgX7_addDeaf_14 26 rfl
theorem dX7_addDeaf_45 : decode cX7_addDeaf 45 = .ok (.putfield 29, 3) := dall dgX7_addDeaf_14 27 rfl
theorem dX7_addDeaf_48 : decode cX7_addDeaf 48 = .ok (.iload_n 1, 1) := dall dgX7_addDeaf_14 28 rfl
theorem dX7_addDeaf_49 : decode cX7_addDeaf 49 = .ok (.ireturn, 1) := dall dgX7_addDeaf_14 29 rfl
def lgX7_deafRows_15 : List (Nat × Instr × Nat) := [(0, .iconst 0, 1), (1, .istore_n 1, 1), (2, .iconst 0, 1), (3, .istore_n 2, 1), (4, .iload_n 2, 1), (5, .aload_n 0, 1), (6, .getfield 29, 3), (9, .if_icmp .ge 26, 3), (35, .iload_n 1, 1), (36, .ireturn, 1)]
theorem dgX7_deafRows_15 : ∀ q ∈ lgX7_deafRows_15, decode cX7_deafRows q.1 = .ok (q.2.1, q.2.2) := by decide +kernel
theorem dX7_deafRows_0 : decode cX7_deafRows 0 = .ok (.iconst 0, 1) := dall dgX7_deafRows_15 0 rfl
theorem dX7_deafRows_1 : decode cX7_deafRows 1 = .ok (.istore_n 1, 1) := dall dgX7_deafRows_15 1 rfl
theorem dX7_deafRows_2 : decode cX7_deafRows 2 = .ok (.iconst 0, 1) := dall dgX7_deafRows_15 2 rfl
theorem dX7_deafRows_3 : decode cX7_deafRows 3 = .ok (.istore_n 2, 1) := dall dgX7_deafRows_15 3 rfl
theorem dX7_deafRows_4 : decode cX7_deafRows 4 = .ok (.iload_n 2, 1) := dall dgX7_deafRows_15 4 rfl
theorem dX7_deafRows_5 : decode cX7_deafRows 5 = .ok (.aload_n 0, 1) := dall dgX7_deafRows_15 5 rfl
theorem dX7_deafRows_6 : decode cX7_deafRows 6 = .ok (.getfield 29, 3) := dall dgX7_deafRows_15 6 rfl
theorem dX7_deafRows_9 : decode cX7_deafRows 9 = .ok (.if_icmp .ge 26, 3) := dall dgX7_deafRows_15 7 rfl
theorem dX7_deafRows_35 : decode cX7_deafRows 35 = .ok (.iload_n 1, 1) := dall dgX7_deafRows_15 8 rfl
theorem dX7_deafRows_36 : decode cX7_deafRows 36 = .ok (.ireturn, 1) := dall dgX7_deafRows_15 9 rfl
def lgX7_outRows_16 : List (Nat × Instr × Nat) := [(0, .iconst 0, 1), (1, .istore_n 1, 1), (2, .iconst 0, 1), (3, .istore_n 2, 1), (4, .iload_n 2, 1), (5, .aload_n 0, 1), (6, .getfield 29, 3), (9, .if_icmp .ge 26, 3), (35, .iload_n 1, 1), (36, .ireturn, 1)]
theorem dgX7_outRows_16 : ∀ q ∈ lgX7_outRows_16, decode cX7_outRows q.1 = .ok (q.2.1, q.2.2) := by decide +kernel
theorem dX7_outRows_0 : decode cX7_outRows 0 = .ok (.iconst 0, 1) := dall dgX7_outRows_16 0 rfl
theorem dX7_outRows_1 : decode cX7_outRows 1 = .ok (.istore_n 1, 1) := dall dgX7_outRows_16 1 rfl
theorem dX7_outRows_2 : decode cX7_outRows 2 = .ok (.iconst 0, 1) := dall dgX7_outRows_16 2 rfl
theorem dX7_outRows_3 : decode cX7_outRows 3 = .ok (.istore_n 2, 1) := dall dgX7_outRows_16 3 rfl
theorem dX7_outRows_4 : decode cX7_outRows 4 = .ok (.iload_n 2, 1) := dall dgX7_outRows_16 4 rfl
theorem dX7_outRows_5 : decode cX7_outRows 5 = .ok (.aload_n 0, 1) := dall dgX7_outRows_16 5 rfl
theorem dX7_outRows_6 : decode cX7_outRows 6 = .ok (.getfield 29, 3) := dall dgX7_outRows_16 6 rfl
theorem dX7_outRows_9 : decode cX7_outRows 9 = .ok (.if_icmp .ge 26, 3) := dall dgX7_outRows_16 7 rfl
theorem dX7_outRows_35 : decode cX7_outRows 35 = .ok (.iload_n 1, 1) := dall dgX7_outRows_16 8 rfl
theorem dX7_outRows_36 : decode cX7_outRows 36 = .ok (.ireturn, 1) := dall dgX7_outRows_16 9 rfl
def lgX8_ruleNow_17 : List (Nat × Instr × Nat) := [(0, .iload_n 1, 1), (1, .ifCond .lt 18, 3), (4, .iload_n 1, 1), (5, .bipush 6, 2), (7, .if_icmp .ge 12, 3), (10, .aload_n 0, 1), (11, .getfield 13, 3), (14, .iload_n 1, 1), (15, .iaload, 1), (16, .goto 4, 3), (20, .ireturn, 1)]
theorem dgX8_ruleNow_17 : ∀ q ∈ lgX8_ruleNow_17, decode cX8_ruleNow q.1 = .ok (q.2.1, q.2.2) := by decide +kernel
theorem dX8_ruleNow_0 : decode cX8_ruleNow 0 = .ok (.iload_n 1, 1) := dall dgX8_ruleNow_17 0 rfl
theorem dX8_ruleNow_1 : decode cX8_ruleNow 1 = .ok (.ifCond .lt 18, 3) := dall dgX8_ruleNow_17 1 rfl
theorem dX8_ruleNow_4 : decode cX8_ruleNow 4 = .ok (.iload_n 1, 1) := dall dgX8_ruleNow_17 2 rfl
theorem dX8_ruleNow_5 : decode cX8_ruleNow 5 = .ok (.bipush 6, 2) := dall dgX8_ruleNow_17 3 rfl
theorem dX8_ruleNow_7 : decode cX8_ruleNow 7 = .ok (.if_icmp .ge 12, 3) := dall dgX8_ruleNow_17 4 rfl
theorem dX8_ruleNow_10 : decode cX8_ruleNow 10 = .ok (.aload_n 0, 1) := dall dgX8_ruleNow_17 5 rfl
theorem dX8_ruleNow_11 : decode cX8_ruleNow 11 = .ok (.getfield 13, 3) := dall dgX8_ruleNow_17 6 rfl
theorem dX8_ruleNow_14 : decode cX8_ruleNow 14 = .ok (.iload_n 1, 1) := dall dgX8_ruleNow_17 7 rfl
theorem dX8_ruleNow_15 : decode cX8_ruleNow 15 = .ok (.iaload, 1) := dall dgX8_ruleNow_17 8 rfl
theorem dX8_ruleNow_16 : decode cX8_ruleNow 16 = .ok (.goto 4, 3) := dall dgX8_ruleNow_17 9 rfl
theorem dX8_ruleNow_20 : decode cX8_ruleNow 20 = .ok (.ireturn, 1) := dall dgX8_ruleNow_17 10 rfl
def lgX8_append_18 : List (Nat × Instr × Nat) := [(0, .iload_n 3, 1), (1, .ifCond .lt 15, 3), (4, .iload_n 3, 1), (5, .sipush 200, 3), (8, .aload_n 0, 1), (9, .getfield 22, 3), (12, .isub, 1), (13, .if_icmp .le 5, 3), (18, .iload_n 3, 1), (19, .iconst 1, 1), (20, .isub, 1), (21, .istore 4, 2), (23, .iload 4, 2), (25, .ifCond .lt 40, 3), (28, .aload_n 0, 1), (29, .getfield 9, 3), (32, .aload_n 0, 1), (33, .getfield 22, 3), (36, .lload_n 1, 1), (37, .bipush 8, 2), (39, .iload 4, 2), (41, .imul, 1), (42, .lushr, 1), (43, .l2i, 1), (44, .sipush 255, 3), (47, .iand, 1), (48, .iastore, 1), (49, .aload_n 0, 1), (50, .dup, 1), (51, .getfield 22, 3), (54, .iconst 1, 1), (55, .iadd, 1), (56, .putfield 22, 3), (59, .iinc 4 (-1), 3), (62, .goto (-39), 3), (65, .iconst 1, 1), (66, .ireturn, 1)]
theorem dgX8_append_18 : ∀ q ∈ lgX8_append_18, decode cX8_append q.1 = .ok (q.2.1, q.2.2) := by decide +kernel
theorem dX8_append_0 : decode cX8_append 0 = .ok (.iload_n 3, 1) := dall dgX8_append_18 0 rfl
theorem dX8_append_1 : decode cX8_append 1 = .ok (.ifCond .lt 15, 3) := dall dgX8_append_18 1 rfl
theorem dX8_append_4 : decode cX8_append 4 = .ok (.iload_n 3, 1) := dall dgX8_append_18 2 rfl
theorem dX8_append_5 : decode cX8_append 5 = .ok (.sipush 200, 3) := dall dgX8_append_18 3 rfl
theorem dX8_append_8 : decode cX8_append 8 = .ok (.aload_n 0, 1) := dall dgX8_append_18 4 rfl
theorem dX8_append_9 : decode cX8_append 9 = .ok (.getfield 22, 3) := dall dgX8_append_18 5 rfl
theorem dX8_append_12 : decode cX8_append 12 = .ok (.isub, 1) := dall dgX8_append_18 6 rfl
theorem dX8_append_13 : decode cX8_append 13 = .ok (.if_icmp .le 5, 3) := dall dgX8_append_18 7 rfl
theorem dX8_append_18 : decode cX8_append 18 = .ok (.iload_n 3, 1) := dall dgX8_append_18 8 rfl
theorem dX8_append_19 : decode cX8_append 19 = .ok (.iconst 1, 1) := dall dgX8_append_18 9 rfl
theorem dX8_append_20 : decode cX8_append 20 = .ok (.isub, 1) := dall dgX8_append_18 10 rfl
theorem dX8_append_21 : decode cX8_append 21 = .ok (.istore 4, 2) := dall dgX8_append_18 11 rfl
theorem dX8_append_23 : decode cX8_append 23 = .ok (.iload 4, 2) := dall dgX8_append_18 12 rfl
theorem dX8_append_25 : decode cX8_append 25 = .ok (.ifCond .lt 40, 3) := dall dgX8_append_18 13 rfl
theorem dX8_append_28 : decode cX8_append 28 = .ok (.aload_n 0, 1) := dall dgX8_append_18 14 rfl
theorem dX8_append_29 : decode cX8_append 29 = .ok (.getfield 9, 3) := dall dgX8_append_18 15 rfl
theorem dX8_append_32 : decode cX8_append 32 = .ok (.aload_n 0, 1) := dall dgX8_append_18 16 rfl
theorem dX8_append_33 : decode cX8_append 33 = .ok (.getfield 22, 3) := dall dgX8_append_18 17 rfl
theorem dX8_append_36 : decode cX8_append 36 = .ok (.lload_n 1, 1) := dall dgX8_append_18 18 rfl
theorem dX8_append_37 : decode cX8_append 37 = .ok (.bipush 8, 2) := dall dgX8_append_18 19 rfl
theorem dX8_append_39 : decode cX8_append 39 = .ok (.iload 4, 2) := dall dgX8_append_18 20 rfl
theorem dX8_append_41 : decode cX8_append 41 = .ok (.imul, 1) := dall dgX8_append_18 21 rfl
theorem dX8_append_42 : decode cX8_append 42 = .ok (.lushr, 1) := dall dgX8_append_18 22 rfl
theorem dX8_append_43 : decode cX8_append 43 = .ok (.l2i, 1) := dall dgX8_append_18 23 rfl
theorem dX8_append_44 : decode cX8_append 44 = .ok (.sipush 255, 3) := dall dgX8_append_18 24 rfl
theorem dX8_append_47 : decode cX8_append 47 = .ok (.iand, 1) := dall dgX8_append_18 25 rfl
theorem dX8_append_48 : decode cX8_append 48 = .ok (.iastore, 1) := dall dgX8_append_18 26 rfl
theorem dX8_append_49 : decode cX8_append 49 = .ok (.aload_n 0, 1) := dall dgX8_append_18 27 rfl
theorem dX8_append_50 : decode cX8_append 50 = .ok (.dup, 1) := dall dgX8_append_18 28 rfl
theorem dX8_append_51 : decode cX8_append 51 = .ok (.getfield 22, 3) := dall dgX8_append_18 29 rfl
theorem dX8_append_54 : decode cX8_append 54 = .ok (.iconst 1, 1) := dall dgX8_append_18 30 rfl
theorem dX8_append_55 : decode cX8_append 55 = .ok (.iadd, 1) := dall dgX8_append_18 31 rfl
theorem dX8_append_56 : decode cX8_append 56 = .ok (.putfield 22, 3) := dall dgX8_append_18 32 rfl
theorem dX8_append_59 : decode cX8_append 59 = .ok (.iinc 4 (-1), 3) := dall dgX8_append_18 33 rfl
theorem dX8_append_62 : decode cX8_append 62 = .ok (.goto (-39), 3) := dall dgX8_append_18 34 rfl
theorem dX8_append_65 : decode cX8_append 65 = .ok (.iconst 1, 1) := dall dgX8_append_18 35 rfl
theorem dX8_append_66 : decode cX8_append 66 = .ok (.ireturn, 1) := dall dgX8_append_18 36 rfl
set_option maxRecDepth 20000 in
theorem ggX8_read_J7_fill_53178 : GoodIn wsX8_read wsJ7_fill_53178 := goodIn_r _ [6] rfl (by decide +kernel)
set_option maxRecDepth 20000 in
theorem gX8_read_J7_fill_53178 : GoodIn wsX8_read (va_wsS RX8 26 yJ7_fill_53178 wsJ7_fill_53178) := goodIn_app (goodIn_of _ (by decide +kernel)) ggX8_read_J7_fill_53178
set_option maxRecDepth 20000 in
theorem ggX8_read_X8_endsBehindBlanks : GoodIn wsX8_read wsX8_endsBehindBlanks := goodIn_r _ [11, 2, 12, 13, 99, 100, 101, 102, 103] rfl (by decide +kernel)
set_option maxRecDepth 20000 in
theorem gX8_read_X8_endsBehindBlanks : GoodIn wsX8_read (wsV RX8 35 RX8 yX8_endsBehindBlanks wsX8_endsBehindBlanks) := goodIn_app (goodIn_of _ (by decide +kernel)) ggX8_read_X8_endsBehindBlanks
set_option maxRecDepth 20000 in
theorem ggX8_read_X8_adopt : GoodIn wsX8_read wsX8_adopt := goodIn_r _ [17, 18, 1, 19, 12, 99, 100, 101, 102, 103] rfl (by decide +kernel)
set_option maxRecDepth 20000 in
theorem gX8_read_X8_adopt : GoodIn wsX8_read (wsV RX8 39 RX8 yX8_adopt wsX8_adopt) := goodIn_app (goodIn_of _ (by decide +kernel)) ggX8_read_X8_adopt
def lgX8_read_19 : List (Nat × Instr × Nat) := [(0, .aload_n 0, 1), (1, .getfield 16, 3), (4, .iconst (-1), 1), (5, .invokestatic 26, 3), (8, .aload_n 0, 1), (9, .iconst 0, 1), (10, .putfield 32, 3), (13, .iconst 0, 1), (14, .istore_n 1, 1), (15, .iload_n 1, 1), (16, .bipush 6, 2), (18, .if_icmp .gt 36, 3), (21, .aload_n 0, 1), (22, .invokevirtual 35, 3), (25, .ifCond .eq 9, 3), (28, .aload_n 0, 1), (29, .invokevirtual 39, 3), (32, .iload_n 1, 1), (33, .ireturn, 1)]
theorem dgX8_read_19 : ∀ q ∈ lgX8_read_19, decode cX8_read q.1 = .ok (q.2.1, q.2.2) := by decide +kernel
theorem dX8_read_0 : decode cX8_read 0 = .ok (.aload_n 0, 1) := dall dgX8_read_19 0 rfl
theorem dX8_read_1 : decode cX8_read 1 = .ok (.getfield 16, 3) := dall dgX8_read_19 1 rfl
theorem dX8_read_4 : decode cX8_read 4 = .ok (.iconst (-1), 1) := dall dgX8_read_19 2 rfl
theorem dX8_read_5 : decode cX8_read 5 = .ok (.invokestatic 26, 3) := dall dgX8_read_19 3 rfl
theorem dX8_read_8 : decode cX8_read 8 = .ok (.aload_n 0, 1) := dall dgX8_read_19 4 rfl
theorem dX8_read_9 : decode cX8_read 9 = .ok (.iconst 0, 1) := dall dgX8_read_19 5 rfl
theorem dX8_read_10 : decode cX8_read 10 = .ok (.putfield 32, 3) := dall dgX8_read_19 6 rfl
theorem dX8_read_13 : decode cX8_read 13 = .ok (.iconst 0, 1) := dall dgX8_read_19 7 rfl
theorem dX8_read_14 : decode cX8_read 14 = .ok (.istore_n 1, 1) := dall dgX8_read_19 8 rfl
theorem dX8_read_15 : decode cX8_read 15 = .ok (.iload_n 1, 1) := dall dgX8_read_19 9 rfl
theorem dX8_read_16 : decode cX8_read 16 = .ok (.bipush 6, 2) := dall dgX8_read_19 10 rfl
theorem dX8_read_18 : decode cX8_read 18 = .ok (.if_icmp .gt 36, 3) := dall dgX8_read_19 11 rfl
theorem dX8_read_21 : decode cX8_read 21 = .ok (.aload_n 0, 1) := dall dgX8_read_19 12 rfl
theorem dX8_read_22 : decode cX8_read 22 = .ok (.invokevirtual 35, 3) := dall dgX8_read_19 13 rfl
theorem dX8_read_25 : decode cX8_read 25 = .ok (.ifCond .eq 9, 3) := dall dgX8_read_19 14 rfl
theorem dX8_read_28 : decode cX8_read 28 = .ok (.aload_n 0, 1) := dall dgX8_read_19 15 rfl
theorem dX8_read_29 : decode cX8_read 29 = .ok (.invokevirtual 39, 3) := dall dgX8_read_19 16 rfl
theorem dX8_read_32 : decode cX8_read 32 = .ok (.iload_n 1, 1) := dall dgX8_read_19 17 rfl
theorem dX8_read_33 : decode cX8_read 33 = .ok (.ireturn, 1) := dall dgX8_read_19 18 rfl
def lgX8_adopt_20 : List (Nat × Instr × Nat) := [(0, .iconst 0, 1), (1, .istore_n 1, 1), (2, .iload_n 1, 1), (3, .bipush 6, 2), (5, .if_icmp .ge 39, 3), (8, .aload_n 0, 1), (9, .getfield 13, 3), (12, .iload_n 1, 1), (13, .aload_n 0, 1), (14, .getfield 16, 3), (17, .iload_n 1, 1), (18, .iaload, 1), (19, .iconst (-1), 1), (20, .if_icmp .ne 11, 3), (23, .getstatic 19, 3), (26, .iload_n 1, 1), (27, .iaload, 1), (28, .goto 9, 3), (37, .iastore, 1), (38, .iinc 1 1, 3), (41, .goto (-39), 3), (44, .aload_n 0, 1), (45, .iconst 0, 1), (46, .putfield 22, 3), (49, .return_, 1)]
theorem dgX8_adopt_20 : ∀ q ∈ lgX8_adopt_20, decode cX8_adopt q.1 = .ok (q.2.1, q.2.2) := by decide +kernel
theorem dX8_adopt_0 : decode cX8_adopt 0 = .ok (.iconst 0, 1) := dall dgX8_adopt_20 0 rfl
theorem dX8_adopt_1 : decode cX8_adopt 1 = .ok (.istore_n 1, 1) := dall dgX8_adopt_20 1 rfl
theorem dX8_adopt_2 : decode cX8_adopt 2 = .ok (.iload_n 1, 1) := dall dgX8_adopt_20 2 rfl
theorem dX8_adopt_3 : decode cX8_adopt 3 = .ok (.bipush 6, 2) := dall dgX8_adopt_20 3 rfl
theorem dX8_adopt_5 : decode cX8_adopt 5 = .ok (.if_icmp .ge 39, 3) := dall dgX8_adopt_20 4 rfl
theorem dX8_adopt_8 : decode cX8_adopt 8 = .ok (.aload_n 0, 1) := dall dgX8_adopt_20 5 rfl
theorem dX8_adopt_9 : decode cX8_adopt 9 = .ok (.getfield 13, 3) := dall dgX8_adopt_20 6 rfl
theorem dX8_adopt_12 : decode cX8_adopt 12 = .ok (.iload_n 1, 1) := dall dgX8_adopt_20 7 rfl
theorem dX8_adopt_13 : decode cX8_adopt 13 = .ok (.aload_n 0, 1) := dall dgX8_adopt_20 8 rfl
theorem dX8_adopt_14 : decode cX8_adopt 14 = .ok (.getfield 16, 3) := dall dgX8_adopt_20 9 rfl
theorem dX8_adopt_17 : decode cX8_adopt 17 = .ok (.iload_n 1, 1) := dall dgX8_adopt_20 10 rfl
theorem dX8_adopt_18 : decode cX8_adopt 18 = .ok (.iaload, 1) := dall dgX8_adopt_20 11 rfl
theorem dX8_adopt_19 : decode cX8_adopt 19 = .ok (.iconst (-1), 1) := dall dgX8_adopt_20 12 rfl
theorem dX8_adopt_20 : decode cX8_adopt 20 = .ok (.if_icmp .ne 11, 3) := dall dgX8_adopt_20 13 rfl
theorem dX8_adopt_23 : decode cX8_adopt 23 = .ok (.getstatic 19, 3) := dall dgX8_adopt_20 14 rfl
theorem dX8_adopt_26 : decode cX8_adopt 26 = .ok (.iload_n 1, 1) := dall dgX8_adopt_20 15 rfl
theorem dX8_adopt_27 : decode cX8_adopt 27 = .ok (.iaload, 1) := dall dgX8_adopt_20 16 rfl
theorem dX8_adopt_28 : decode cX8_adopt 28 = .ok (.goto 9, 3) := dall dgX8_adopt_20 17 rfl
theorem dX8_adopt_37 : decode cX8_adopt 37 = .ok (.iastore, 1) := dall dgX8_adopt_20 18 rfl
theorem dX8_adopt_38 : decode cX8_adopt 38 = .ok (.iinc 1 1, 3) := dall dgX8_adopt_20 19 rfl
theorem dX8_adopt_41 : decode cX8_adopt 41 = .ok (.goto (-39), 3) := dall dgX8_adopt_20 20 rfl
theorem dX8_adopt_44 : decode cX8_adopt 44 = .ok (.aload_n 0, 1) := dall dgX8_adopt_20 21 rfl
theorem dX8_adopt_45 : decode cX8_adopt 45 = .ok (.iconst 0, 1) := dall dgX8_adopt_20 22 rfl
theorem dX8_adopt_46 : decode cX8_adopt 46 = .ok (.putfield 22, 3) := dall dgX8_adopt_20 23 rfl
theorem dX8_adopt_49 : decode cX8_adopt 49 = .ok (.return_, 1) := dall dgX8_adopt_20 24 rfl
def lgX8_endsBehindBlanks_21 : List (Nat × Instr × Nat) := [(0, .aload_n 0, 1), (1, .getfield 32, 3), (4, .aload_n 0, 1), (5, .getfield 22, 3), (8, .if_icmp .ge 30, 3), (38, .aload_n 0, 1), (39, .getfield 32, 3), (42, .aload_n 0, 1), (43, .getfield 22, 3), (46, .if_icmp .lt 7, 3), (49, .iconst 1, 1), (50, .goto 4, 3), (54, .ireturn, 1)]
theorem dgX8_endsBehindBlanks_21 : ∀ q ∈ lgX8_endsBehindBlanks_21, decode cX8_endsBehindBlanks q.1 = .ok (q.2.1, q.2.2) := by decide +kernel
theorem dX8_endsBehindBlanks_0 : decode cX8_endsBehindBlanks 0 = .ok (.aload_n 0, 1) := dall dgX8_endsBehindBlanks_21 0 rfl
theorem dX8_endsBehindBlanks_1 : decode cX8_endsBehindBlanks 1 = .ok (.getfield 32, 3) := dall dgX8_endsBehindBlanks_21 1 rfl
theorem dX8_endsBehindBlanks_4 : decode cX8_endsBehindBlanks 4 = .ok (.aload_n 0, 1) := dall dgX8_endsBehindBlanks_21 2 rfl
theorem dX8_endsBehindBlanks_5 : decode cX8_endsBehindBlanks 5 = .ok (.getfield 22, 3) := dall dgX8_endsBehindBlanks_21 3 rfl
theorem dX8_endsBehindBlanks_8 : decode cX8_endsBehindBlanks 8 = .ok (.if_icmp .ge 30, 3) := dall dgX8_endsBehindBlanks_21 4 rfl
theorem dX8_endsBehindBlanks_38 : decode cX8_endsBehindBlanks 38 = .ok (.aload_n 0, 1) := dall dgX8_endsBehindBlanks_21 5 rfl
theorem dX8_endsBehindBlanks_39 : decode cX8_endsBehindBlanks 39 = .ok (.getfield 32, 3) := dall dgX8_endsBehindBlanks_21 6 rfl
theorem dX8_endsBehindBlanks_42 : decode cX8_endsBehindBlanks 42 = .ok (.aload_n 0, 1) := dall dgX8_endsBehindBlanks_21 7 rfl
theorem dX8_endsBehindBlanks_43 : decode cX8_endsBehindBlanks 43 = .ok (.getfield 22, 3) := dall dgX8_endsBehindBlanks_21 8 rfl
theorem dX8_endsBehindBlanks_46 : decode cX8_endsBehindBlanks 46 = .ok (.if_icmp .lt 7, 3) := dall dgX8_endsBehindBlanks_21 9 rfl
theorem dX8_endsBehindBlanks_49 : decode cX8_endsBehindBlanks 49 = .ok (.iconst 1, 1) := dall dgX8_endsBehindBlanks_21 10 rfl
theorem dX8_endsBehindBlanks_50 : decode cX8_endsBehindBlanks 50 = .ok (.goto 4, 3) := dall dgX8_endsBehindBlanks_21 11 rfl
theorem dX8_endsBehindBlanks_54 : decode cX8_endsBehindBlanks 54 = .ok (.ireturn, 1) := dall dgX8_endsBehindBlanks_21 12 rfl
def lgX9_missed_22 : List (Nat × Instr × Nat) := [(0, .iconst 0, 1), (1, .istore_n 3, 1), (2, .iconst 0, 1), (3, .istore 4, 2), (5, .iload 4, 2), (7, .aload_n 1, 1), (8, .getfield 20, 3), (11, .if_icmp .ge 39, 3), (50, .iload_n 3, 1), (51, .ireturn, 1)]
theorem dgX9_missed_22 : ∀ q ∈ lgX9_missed_22, decode cX9_missed q.1 = .ok (q.2.1, q.2.2) := by decide +kernel
theorem dX9_missed_0 : decode cX9_missed 0 = .ok (.iconst 0, 1) := dall dgX9_missed_22 0 rfl
theorem dX9_missed_1 : decode cX9_missed 1 = .ok (.istore_n 3, 1) := dall dgX9_missed_22 1 rfl
theorem dX9_missed_2 : decode cX9_missed 2 = .ok (.iconst 0, 1) := dall dgX9_missed_22 2 rfl
theorem dX9_missed_3 : decode cX9_missed 3 = .ok (.istore 4, 2) := dall dgX9_missed_22 3 rfl
theorem dX9_missed_5 : decode cX9_missed 5 = .ok (.iload 4, 2) := dall dgX9_missed_22 4 rfl
theorem dX9_missed_7 : decode cX9_missed 7 = .ok (.aload_n 1, 1) := dall dgX9_missed_22 5 rfl
theorem dX9_missed_8 : decode cX9_missed 8 = .ok (.getfield 20, 3) := dall dgX9_missed_22 6 rfl
theorem dX9_missed_11 : decode cX9_missed 11 = .ok (.if_icmp .ge 39, 3) := dall dgX9_missed_22 7 rfl
theorem dX9_missed_50 : decode cX9_missed 50 = .ok (.iload_n 3, 1) := dall dgX9_missed_22 8 rfl
theorem dX9_missed_51 : decode cX9_missed 51 = .ok (.ireturn, 1) := dall dgX9_missed_22 9 rfl
def lgX9_madeUp_23 : List (Nat × Instr × Nat) := [(0, .iconst 0, 1), (1, .istore_n 3, 1), (2, .iconst 0, 1), (3, .istore 4, 2), (5, .iload 4, 2), (7, .aload_n 1, 1), (8, .getfield 20, 3), (11, .if_icmp .ge 39, 3), (50, .iload_n 3, 1), (51, .ireturn, 1)]
theorem dgX9_madeUp_23 : ∀ q ∈ lgX9_madeUp_23, decode cX9_madeUp q.1 = .ok (q.2.1, q.2.2) := by decide +kernel
theorem dX9_madeUp_0 : decode cX9_madeUp 0 = .ok (.iconst 0, 1) := dall dgX9_madeUp_23 0 rfl
theorem dX9_madeUp_1 : decode cX9_madeUp 1 = .ok (.istore_n 3, 1) := dall dgX9_madeUp_23 1 rfl
theorem dX9_madeUp_2 : decode cX9_madeUp 2 = .ok (.iconst 0, 1) := dall dgX9_madeUp_23 2 rfl
theorem dX9_madeUp_3 : decode cX9_madeUp 3 = .ok (.istore 4, 2) := dall dgX9_madeUp_23 3 rfl
theorem dX9_madeUp_5 : decode cX9_madeUp 5 = .ok (.iload 4, 2) := dall dgX9_madeUp_23 4 rfl
theorem dX9_madeUp_7 : decode cX9_madeUp 7 = .ok (.aload_n 1, 1) := dall dgX9_madeUp_23 5 rfl
theorem dX9_madeUp_8 : decode cX9_madeUp 8 = .ok (.getfield 20, 3) := dall dgX9_madeUp_23 6 rfl
theorem dX9_madeUp_11 : decode cX9_madeUp 11 = .ok (.if_icmp .ge 39, 3) := dall dgX9_madeUp_23 7 rfl
theorem dX9_madeUp_50 : decode cX9_madeUp 50 = .ok (.iload_n 3, 1) := dall dgX9_madeUp_23 8 rfl
theorem dX9_madeUp_51 : decode cX9_madeUp 51 = .ok (.ireturn, 1) := dall dgX9_madeUp_23 9 rfl
set_option maxRecDepth 20000 in
theorem ggX9_wrong_X9_countTogether : GoodIn wsX9_wrong wsX9_countTogether := goodIn_r _ [7, 2, 8, 9, 10, 11, 20, 21, 27, 28, 29, 30, 31, 32, 33, 34, 35, 36, 37, 38, 39, 40, 41, 42, 43, 22, 23, 24, 25, 26] rfl (by decide +kernel)
set_option maxRecDepth 20000 in
theorem gX9_wrong_X9_countTogether : GoodIn wsX9_wrong (wsV RX9 34 RX9 yX9_countTogether wsX9_countTogether) := goodIn_app (goodIn_of _ (by decide +kernel)) ggX9_wrong_X9_countTogether
set_option maxRecDepth 20000 in
theorem ggX9_wrong_J7_fill_53178 : GoodIn wsX9_wrong wsJ7_fill_53178 := goodIn_r _ [11] rfl (by decide +kernel)
set_option maxRecDepth 20000 in
theorem gX9_wrong_J7_fill_53178 : GoodIn wsX9_wrong (va_wsS RX9 38 yJ7_fill_53178 wsJ7_fill_53178) := goodIn_app (goodIn_of _ (by decide +kernel)) ggX9_wrong_J7_fill_53178
def lgX9_wrong_24 : List (Nat × Instr × Nat) := [(0, .aload_n 0, 1), (1, .aload_n 1, 1), (2, .aload_n 2, 1), (3, .aload_n 3, 1), (4, .invokevirtual 34, 3), (7, .istore 4, 2), (9, .aload_n 0, 1), (10, .getfield 16, 3), (13, .iconst 0, 1), (14, .invokestatic 38, 3), (17, .iconst 0, 1), (18, .istore 5, 2), (20, .iload 5, 2), (22, .aload_n 3, 1), (23, .getfield 44, 3), (26, .if_icmp .ge 49, 3), (75, .iload 4, 2), (77, .aload_n 0, 1), (78, .getfield 16, 3), (81, .aload_n 0, 1), (82, .getfield 16, 3), (85, .arraylength, 1), (86, .iconst 1, 1), (87, .isub, 1), (88, .iaload, 1), (89, .isub, 1), (90, .ireturn, 1)]
theorem dgX9_wrong_24 : ∀ q ∈ lgX9_wrong_24, decode cX9_wrong q.1 = .ok (q.2.1, q.2.2) := by decide +kernel
theorem dX9_wrong_0 : decode cX9_wrong 0 = .ok (.aload_n 0, 1) := dall dgX9_wrong_24 0 rfl
theorem dX9_wrong_1 : decode cX9_wrong 1 = .ok (.aload_n 1, 1) := dall dgX9_wrong_24 1 rfl
theorem dX9_wrong_2 : decode cX9_wrong 2 = .ok (.aload_n 2, 1) := dall dgX9_wrong_24 2 rfl
theorem dX9_wrong_3 : decode cX9_wrong 3 = .ok (.aload_n 3, 1) := dall dgX9_wrong_24 3 rfl
theorem dX9_wrong_4 : decode cX9_wrong 4 = .ok (.invokevirtual 34, 3) := dall dgX9_wrong_24 4 rfl
theorem dX9_wrong_7 : decode cX9_wrong 7 = .ok (.istore 4, 2) := dall dgX9_wrong_24 5 rfl
theorem dX9_wrong_9 : decode cX9_wrong 9 = .ok (.aload_n 0, 1) := dall dgX9_wrong_24 6 rfl
theorem dX9_wrong_10 : decode cX9_wrong 10 = .ok (.getfield 16, 3) := dall dgX9_wrong_24 7 rfl
theorem dX9_wrong_13 : decode cX9_wrong 13 = .ok (.iconst 0, 1) := dall dgX9_wrong_24 8 rfl
theorem dX9_wrong_14 : decode cX9_wrong 14 = .ok (.invokestatic 38, 3) := dall dgX9_wrong_24 9 rfl
theorem dX9_wrong_17 : decode cX9_wrong 17 = .ok (.iconst 0, 1) := dall dgX9_wrong_24 10 rfl
theorem dX9_wrong_18 : decode cX9_wrong 18 = .ok (.istore 5, 2) := dall dgX9_wrong_24 11 rfl
theorem dX9_wrong_20 : decode cX9_wrong 20 = .ok (.iload 5, 2) := dall dgX9_wrong_24 12 rfl
theorem dX9_wrong_22 : decode cX9_wrong 22 = .ok (.aload_n 3, 1) := dall dgX9_wrong_24 13 rfl
theorem dX9_wrong_23 : decode cX9_wrong 23 = .ok (.getfield 44, 3) := dall dgX9_wrong_24 14 rfl
theorem dX9_wrong_26 : decode cX9_wrong 26 = .ok (.if_icmp .ge 49, 3) := dall dgX9_wrong_24 15 rfl
theorem dX9_wrong_75 : decode cX9_wrong 75 = .ok (.iload 4, 2) := dall dgX9_wrong_24 16 rfl
theorem dX9_wrong_77 : decode cX9_wrong 77 = .ok (.aload_n 0, 1) := dall dgX9_wrong_24 17 rfl
theorem dX9_wrong_78 : decode cX9_wrong 78 = .ok (.getfield 16, 3) := dall dgX9_wrong_24 18 rfl
theorem dX9_wrong_81 : decode cX9_wrong 81 = .ok (.aload_n 0, 1) := dall dgX9_wrong_24 19 rfl
theorem dX9_wrong_82 : decode cX9_wrong 82 = .ok (.getfield 16, 3) := dall dgX9_wrong_24 20 rfl
theorem dX9_wrong_85 : decode cX9_wrong 85 = .ok (.arraylength, 1) := dall dgX9_wrong_24 21 rfl
theorem dX9_wrong_86 : decode cX9_wrong 86 = .ok (.iconst 1, 1) := dall dgX9_wrong_24 22 rfl
theorem dX9_wrong_87 : decode cX9_wrong 87 = .ok (.isub, 1) := dall dgX9_wrong_24 23 rfl
theorem dX9_wrong_88 : decode cX9_wrong 88 = .ok (.iaload, 1) := dall dgX9_wrong_24 24 rfl
theorem dX9_wrong_89 : decode cX9_wrong 89 = .ok (.isub, 1) := dall dgX9_wrong_24 25 rfl
theorem dX9_wrong_90 : decode cX9_wrong 90 = .ok (.ireturn, 1) := dall dgX9_wrong_24 26 rfl
set_option maxRecDepth 20000 in
theorem ggX9_countTogether_J7_fill_53178 : GoodIn wsX9_countTogether wsJ7_fill_53178 := goodIn_r _ [5] rfl (by decide +kernel)
set_option maxRecDepth 20000 in
theorem gX9_countTogether_J7_fill_53178 : GoodIn wsX9_countTogether (va_wsS RX9 38 yJ7_fill_53178 wsJ7_fill_53178) := goodIn_app (goodIn_of _ (by decide +kernel)) ggX9_countTogether_J7_fill_53178
def lgX9_countTogether_25 : List (Nat × Instr × Nat) := [(0, .iconst 0, 1), (1, .istore 4, 2), (3, .iload 4, 2), (5, .bipush 9, 2), (7, .if_icmp .ge 20, 3), (10, .aload_n 0, 1), (11, .getfield 13, 3), (14, .iload 4, 2), (16, .aaload, 1), (17, .iconst 0, 1), (18, .invokestatic 38, 3), (21, .iinc 4 1, 3), (24, .goto (-21), 3), (27, .iconst 0, 1), (28, .istore 4, 2), (30, .iconst 0, 1), (31, .istore 5, 2), (33, .iload 5, 2), (35, .aload_n 1, 1), (36, .getfield 20, 3), (39, .if_icmp .ge 74, 3), (113, .iload 4, 2), (115, .ireturn, 1)]
theorem dgX9_countTogether_25 : ∀ q ∈ lgX9_countTogether_25, decode cX9_countTogether q.1 = .ok (q.2.1, q.2.2) := by decide +kernel
theorem dX9_countTogether_0 : decode cX9_countTogether 0 = .ok (.iconst 0, 1) := dall dgX9_countTogether_25 0 rfl
theorem dX9_countTogether_1 : decode cX9_countTogether 1 = .ok (.istore 4, 2) := dall dgX9_countTogether_25 1 rfl
theorem dX9_countTogether_3 : decode cX9_countTogether 3 = .ok (.iload 4, 2) := dall dgX9_countTogether_25 2 rfl
theorem dX9_countTogether_5 : decode cX9_countTogether 5 = .ok (.bipush 9, 2) := dall dgX9_countTogether_25 3 rfl
theorem dX9_countTogether_7 : decode cX9_countTogether 7 = .ok (.if_icmp .ge 20, 3) := dall dgX9_countTogether_25 4 rfl
theorem dX9_countTogether_10 : decode cX9_countTogether 10 = .ok (.aload_n 0, 1) := dall dgX9_countTogether_25 5 rfl
theorem dX9_countTogether_11 : decode cX9_countTogether 11 = .ok (.getfield 13, 3) := dall dgX9_countTogether_25 6 rfl
theorem dX9_countTogether_14 : decode cX9_countTogether 14 = .ok (.iload 4, 2) := dall dgX9_countTogether_25 7 rfl
theorem dX9_countTogether_16 : decode cX9_countTogether 16 = .ok (.aaload, 1) := dall dgX9_countTogether_25 8 rfl
theorem dX9_countTogether_17 : decode cX9_countTogether 17 = .ok (.iconst 0, 1) := dall dgX9_countTogether_25 9 rfl
theorem dX9_countTogether_18 : decode cX9_countTogether 18 = .ok (.invokestatic 38, 3) := dall dgX9_countTogether_25 10 rfl
theorem dX9_countTogether_21 : decode cX9_countTogether 21 = .ok (.iinc 4 1, 3) := dall dgX9_countTogether_25 11 rfl
theorem dX9_countTogether_24 : decode cX9_countTogether 24 = .ok (.goto (-21), 3) := dall dgX9_countTogether_25 12 rfl
theorem dX9_countTogether_27 : decode cX9_countTogether 27 = .ok (.iconst 0, 1) := dall dgX9_countTogether_25 13 rfl
theorem dX9_countTogether_28 : decode cX9_countTogether 28 = .ok (.istore 4, 2) := dall dgX9_countTogether_25 14 rfl
theorem dX9_countTogether_30 : decode cX9_countTogether 30 = .ok (.iconst 0, 1) := dall dgX9_countTogether_25 15 rfl
theorem dX9_countTogether_31 : decode cX9_countTogether 31 = .ok (.istore 5, 2) := dall dgX9_countTogether_25 16 rfl
theorem dX9_countTogether_33 : decode cX9_countTogether 33 = .ok (.iload 5, 2) := dall dgX9_countTogether_25 17 rfl
theorem dX9_countTogether_35 : decode cX9_countTogether 35 = .ok (.aload_n 1, 1) := dall dgX9_countTogether_25 18 rfl
theorem dX9_countTogether_36 : decode cX9_countTogether 36 = .ok (.getfield 20, 3) := dall dgX9_countTogether_25 19 rfl
theorem dX9_countTogether_39 : decode cX9_countTogether 39 = .ok (.if_icmp .ge 74, 3) := dall dgX9_countTogether_25 20 rfl
theorem dX9_countTogether_113 : decode cX9_countTogether 113 = .ok (.iload 4, 2) := dall dgX9_countTogether_25 21 rfl
theorem dX9_countTogether_115 : decode cX9_countTogether 115 = .ok (.ireturn, 1) := dall dgX9_countTogether_25 22 rfl
set_option maxRecDepth 20000 in
theorem ggX11_type_X11_within : GoodIn wsX11_type wsX11_within := goodIn_r _ [5] rfl (by decide +kernel)
set_option maxRecDepth 20000 in
theorem gX11_type_X11_within : GoodIn wsX11_type (va_wsS RX11 104 yX11_within wsX11_within) := goodIn_app (goodIn_of _ (by decide +kernel)) ggX11_type_X11_within
set_option maxRecDepth 20000 in
theorem ggX11_type_X8_append : GoodIn wsX11_type wsX8_append := goodIn_r _ [10, 11, 12, 29, 30, 31, 32, 33] rfl (by decide +kernel)
set_option maxRecDepth 20000 in
theorem gX11_type_X8_append : GoodIn wsX11_type (wsV RX11 108 RX8 yX8_append wsX8_append) := goodIn_app (goodIn_of _ (by decide +kernel)) ggX11_type_X8_append
def lgX11_type_26 : List (Nat × Instr × Nat) := [(0, .iload_n 3, 1), (1, .iconst 1, 1), (2, .bipush 8, 2), (4, .invokestatic 104, 3), (7, .ifCond .ne 5, 3), (10, .iconst (-1), 1), (11, .ireturn, 1), (12, .aload_n 0, 1), (13, .getfield 10, 3), (16, .lload_n 1, 1), (17, .iload_n 3, 1), (18, .invokevirtual 108, 3), (21, .ifCond .eq 13, 3), (24, .aload_n 0, 1), (25, .getfield 10, 3), (28, .getfield 112, 3), (31, .goto 5, 3), (36, .ireturn, 1)]
theorem dgX11_type_26 : ∀ q ∈ lgX11_type_26, decode cX11_type q.1 = .ok (q.2.1, q.2.2) := by decide +kernel
theorem dX11_type_0 : decode cX11_type 0 = .ok (.iload_n 3, 1) := dall dgX11_type_26 0 rfl
theorem dX11_type_1 : decode cX11_type 1 = .ok (.iconst 1, 1) := dall dgX11_type_26 1 rfl
theorem dX11_type_2 : decode cX11_type 2 = .ok (.bipush 8, 2) := dall dgX11_type_26 2 rfl
theorem dX11_type_4 : decode cX11_type 4 = .ok (.invokestatic 104, 3) := dall dgX11_type_26 3 rfl
theorem dX11_type_7 : decode cX11_type 7 = .ok (.ifCond .ne 5, 3) := dall dgX11_type_26 4 rfl
theorem dX11_type_10 : decode cX11_type 10 = .ok (.iconst (-1), 1) := dall dgX11_type_26 5 rfl
theorem dX11_type_11 : decode cX11_type 11 = .ok (.ireturn, 1) := dall dgX11_type_26 6 rfl
theorem dX11_type_12 : decode cX11_type 12 = .ok (.aload_n 0, 1) := dall dgX11_type_26 7 rfl
theorem dX11_type_13 : decode cX11_type 13 = .ok (.getfield 10, 3) := dall dgX11_type_26 8 rfl
theorem dX11_type_16 : decode cX11_type 16 = .ok (.lload_n 1, 1) := dall dgX11_type_26 9 rfl
theorem dX11_type_17 : decode cX11_type 17 = .ok (.iload_n 3, 1) := dall dgX11_type_26 10 rfl
theorem dX11_type_18 : decode cX11_type 18 = .ok (.invokevirtual 108, 3) := dall dgX11_type_26 11 rfl
theorem dX11_type_21 : decode cX11_type 21 = .ok (.ifCond .eq 13, 3) := dall dgX11_type_26 12 rfl
theorem dX11_type_24 : decode cX11_type 24 = .ok (.aload_n 0, 1) := dall dgX11_type_26 13 rfl
theorem dX11_type_25 : decode cX11_type 25 = .ok (.getfield 10, 3) := dall dgX11_type_26 14 rfl
theorem dX11_type_28 : decode cX11_type 28 = .ok (.getfield 112, 3) := dall dgX11_type_26 15 rfl
theorem dX11_type_31 : decode cX11_type 31 = .ok (.goto 5, 3) := dall dgX11_type_26 16 rfl
theorem dX11_type_36 : decode cX11_type 36 = .ok (.ireturn, 1) := dall dgX11_type_26 17 rfl
def lgX11_clear_27 : List (Nat × Instr × Nat) := [(0, .aload_n 0, 1), (1, .getfield 10, 3), (4, .getfield 112, 3), (7, .istore_n 1, 1), (8, .aload_n 0, 1), (9, .getfield 10, 3), (12, .iconst 0, 1), (13, .putfield 112, 3), (16, .iload_n 1, 1), (17, .ireturn, 1)]
theorem dgX11_clear_27 : ∀ q ∈ lgX11_clear_27, decode cX11_clear q.1 = .ok (q.2.1, q.2.2) := by decide +kernel
theorem dX11_clear_0 : decode cX11_clear 0 = .ok (.aload_n 0, 1) := dall dgX11_clear_27 0 rfl
theorem dX11_clear_1 : decode cX11_clear 1 = .ok (.getfield 10, 3) := dall dgX11_clear_27 1 rfl
theorem dX11_clear_4 : decode cX11_clear 4 = .ok (.getfield 112, 3) := dall dgX11_clear_27 2 rfl
theorem dX11_clear_7 : decode cX11_clear 7 = .ok (.istore_n 1, 1) := dall dgX11_clear_27 3 rfl
theorem dX11_clear_8 : decode cX11_clear 8 = .ok (.aload_n 0, 1) := dall dgX11_clear_27 4 rfl
theorem dX11_clear_9 : decode cX11_clear 9 = .ok (.getfield 10, 3) := dall dgX11_clear_27 5 rfl
theorem dX11_clear_12 : decode cX11_clear 12 = .ok (.iconst 0, 1) := dall dgX11_clear_27 6 rfl
theorem dX11_clear_13 : decode cX11_clear 13 = .ok (.putfield 112, 3) := dall dgX11_clear_27 7 rfl
theorem dX11_clear_16 : decode cX11_clear 16 = .ok (.iload_n 1, 1) := dall dgX11_clear_27 8 rfl
theorem dX11_clear_17 : decode cX11_clear 17 = .ok (.ireturn, 1) := dall dgX11_clear_27 9 rfl
set_option maxRecDepth 20000 in
theorem ggX11_rules_X8_read : GoodIn wsX11_rules wsX8_read := goodIn_r _ [6, 7, 8, 9, 10, 11, 12, 13, 14, 15, 5, 16, 17, 18, 19, 20, 21, 22, 23, 24, 25, 26, 27, 28, 29, 30, 31, 32, 33, 34, 35, 36, 37, 38, 39, 40, 41, 42, 43, 44, 45, 46, 47, 48, 49, 50, 51, 52, 53, 54, 55, 56, 57, 58, 59, 60, 61, 62, 63, 64, 65, 66, 67, 68, 69, 70, 71, 72, 73, 74, 75, 76, 77, 78, 79, 80, 81, 82, 83, 84, 85, 86, 87, 88, 89, 90, 91, 92, 93, 94, 95, 96, 97, 98, 99, 100, 101, 102, 103, 128, 129, 130, 131, 132] rfl (by decide +kernel)
set_option maxRecDepth 20000 in
theorem gX11_rules_X8_read : GoodIn wsX11_rules (wsV RX11 115 RX8 yX8_read wsX8_read) := goodIn_app (goodIn_of _ (by decide +kernel)) ggX11_rules_X8_read
set_option maxRecDepth 20000 in
theorem ggX11_rules_X11_nothingIsFound : GoodIn wsX11_rules wsX11_nothingIsFound := goodIn_r _ [108, 109, 110, 111, 112, 113, 114, 115, 116, 117, 118, 119, 120, 121, 122, 123, 124, 125, 126, 127] rfl (by decide +kernel)
set_option maxRecDepth 20000 in
theorem gX11_rules_X11_nothingIsFound : GoodIn wsX11_rules (wsV RX11 119 RX11 yX11_nothingIsFound wsX11_nothingIsFound) := goodIn_app (goodIn_of _ (by decide +kernel)) ggX11_rules_X11_nothingIsFound
def lgX11_rules_28 : List (Nat × Instr × Nat) := [(0, .aload_n 0, 1), (1, .getfield 10, 3), (4, .invokevirtual 115, 3), (7, .istore_n 1, 1), (8, .iload_n 1, 1), (9, .ifCond .lt 7, 3), (12, .aload_n 0, 1), (13, .invokevirtual 119, 3), (16, .iload_n 1, 1), (17, .ireturn, 1)]
theorem dgX11_rules_28 : ∀ q ∈ lgX11_rules_28, decode cX11_rules q.1 = .ok (q.2.1, q.2.2) := by decide +kernel
theorem dX11_rules_0 : decode cX11_rules 0 = .ok (.aload_n 0, 1) := dall dgX11_rules_28 0 rfl
theorem dX11_rules_1 : decode cX11_rules 1 = .ok (.getfield 10, 3) := dall dgX11_rules_28 1 rfl
theorem dX11_rules_4 : decode cX11_rules 4 = .ok (.invokevirtual 115, 3) := dall dgX11_rules_28 2 rfl
theorem dX11_rules_7 : decode cX11_rules 7 = .ok (.istore_n 1, 1) := dall dgX11_rules_28 3 rfl
theorem dX11_rules_8 : decode cX11_rules 8 = .ok (.iload_n 1, 1) := dall dgX11_rules_28 4 rfl
theorem dX11_rules_9 : decode cX11_rules 9 = .ok (.ifCond .lt 7, 3) := dall dgX11_rules_28 5 rfl
theorem dX11_rules_12 : decode cX11_rules 12 = .ok (.aload_n 0, 1) := dall dgX11_rules_28 6 rfl
theorem dX11_rules_13 : decode cX11_rules 13 = .ok (.invokevirtual 119, 3) := dall dgX11_rules_28 7 rfl
theorem dX11_rules_16 : decode cX11_rules 16 = .ok (.iload_n 1, 1) := dall dgX11_rules_28 8 rfl
theorem dX11_rules_17 : decode cX11_rules 17 = .ok (.ireturn, 1) := dall dgX11_rules_28 9 rfl
set_option maxRecDepth 20000 in
theorem ggX11_rule_X11_within : GoodIn wsX11_rule wsX11_within := goodIn_r _ [5] rfl (by decide +kernel)
set_option maxRecDepth 20000 in
theorem gX11_rule_X11_within : GoodIn wsX11_rule (va_wsS RX11 104 yX11_within wsX11_within) := goodIn_app (goodIn_of _ (by decide +kernel)) ggX11_rule_X11_within
set_option maxRecDepth 20000 in
theorem ggX11_rule_X8_ruleNow : GoodIn wsX11_rule wsX8_ruleNow := goodIn_r _ [10, 11, 28, 29, 30, 31, 32] rfl (by decide +kernel)
set_option maxRecDepth 20000 in
theorem gX11_rule_X8_ruleNow : GoodIn wsX11_rule (wsV RX11 122 RX8 yX8_ruleNow wsX8_ruleNow) := goodIn_app (goodIn_of _ (by decide +kernel)) ggX11_rule_X8_ruleNow
def lgX11_rule_29 : List (Nat × Instr × Nat) := [(0, .iload_n 1, 1), (1, .iconst 0, 1), (2, .iconst 5, 1), (3, .invokestatic 104, 3), (6, .ifCond .eq 14, 3), (9, .aload_n 0, 1), (10, .getfield 10, 3), (13, .iload_n 1, 1), (14, .invokevirtual 122, 3), (17, .goto 4, 3), (20, .iconst (-1), 1), (21, .ireturn, 1)]
theorem dgX11_rule_29 : ∀ q ∈ lgX11_rule_29, decode cX11_rule q.1 = .ok (q.2.1, q.2.2) := by decide +kernel
theorem dX11_rule_0 : decode cX11_rule 0 = .ok (.iload_n 1, 1) := dall dgX11_rule_29 0 rfl
theorem dX11_rule_1 : decode cX11_rule 1 = .ok (.iconst 0, 1) := dall dgX11_rule_29 1 rfl
theorem dX11_rule_2 : decode cX11_rule 2 = .ok (.iconst 5, 1) := dall dgX11_rule_29 2 rfl
theorem dX11_rule_3 : decode cX11_rule 3 = .ok (.invokestatic 104, 3) := dall dgX11_rule_29 3 rfl
theorem dX11_rule_6 : decode cX11_rule 6 = .ok (.ifCond .eq 14, 3) := dall dgX11_rule_29 4 rfl
theorem dX11_rule_9 : decode cX11_rule 9 = .ok (.aload_n 0, 1) := dall dgX11_rule_29 5 rfl
theorem dX11_rule_10 : decode cX11_rule 10 = .ok (.getfield 10, 3) := dall dgX11_rule_29 6 rfl
theorem dX11_rule_13 : decode cX11_rule 13 = .ok (.iload_n 1, 1) := dall dgX11_rule_29 7 rfl
theorem dX11_rule_14 : decode cX11_rule 14 = .ok (.invokevirtual 122, 3) := dall dgX11_rule_29 8 rfl
theorem dX11_rule_17 : decode cX11_rule 17 = .ok (.goto 4, 3) := dall dgX11_rule_29 9 rfl
theorem dX11_rule_20 : decode cX11_rule 20 = .ok (.iconst (-1), 1) := dall dgX11_rule_29 10 rfl
theorem dX11_rule_21 : decode cX11_rule 21 = .ok (.ireturn, 1) := dall dgX11_rule_29 11 rfl
set_option maxRecDepth 20000 in
theorem ggX11_row_X11_isLoudness : GoodIn wsX11_row wsX11_isLoudness := goodIn_r _ [5, 6, 7, 4, 8] rfl (by decide +kernel)
set_option maxRecDepth 20000 in
theorem gX11_row_X11_isLoudness : GoodIn wsX11_row (va_wsS RX11 126 yX11_isLoudness wsX11_isLoudness) := goodIn_app (goodIn_of _ (by decide +kernel)) ggX11_row_X11_isLoudness
set_option maxRecDepth 20000 in
theorem ggX11_row_X11_nothingIsFound : GoodIn wsX11_row wsX11_nothingIsFound := goodIn_r _ [12, 13, 14, 15, 30, 31, 32, 33, 34, 35, 36, 37, 38, 39, 40, 41, 42, 43, 44, 45] rfl (by decide +kernel)
set_option maxRecDepth 20000 in
theorem gX11_row_X11_nothingIsFound : GoodIn wsX11_row (wsV RX11 119 RX11 yX11_nothingIsFound wsX11_nothingIsFound) := goodIn_app (goodIn_of _ (by decide +kernel)) ggX11_row_X11_nothingIsFound
set_option maxRecDepth 20000 in
theorem ggX11_row_X7_addRow : GoodIn wsX11_row wsX7_addRow := goodIn_r _ [20, 21, 22, 23, 24, 25, 19, 26, 27, 28, 29, 46, 47, 48, 49, 50] rfl (by decide +kernel)
set_option maxRecDepth 20000 in
theorem gX11_row_X7_addRow : GoodIn wsX11_row (wsV RX11 133 RX7 yX7_addRow wsX7_addRow) := goodIn_app (goodIn_of _ (by decide +kernel)) ggX11_row_X7_addRow
def lgX11_row_30 : List (Nat × Instr × Nat) := [(0, .iload_n 1, 1), (1, .invokestatic 126, 3), (4, .ifCond .eq 25, 3), (7, .iload_n 2, 1), (8, .invokestatic 126, 3), (11, .ifCond .eq 18, 3), (14, .iload_n 3, 1), (15, .invokestatic 126, 3), (18, .ifCond .eq 11, 3), (21, .iload 4, 2), (23, .invokestatic 126, 3), (26, .ifCond .ne 5, 3), (29, .iconst (-1), 1), (30, .ireturn, 1), (31, .aload_n 0, 1), (32, .getfield 19, 3), (35, .getfield 130, 3), (38, .bipush 48, 2), (40, .if_icmp .lt 6, 3), (46, .aload_n 0, 1), (47, .invokevirtual 119, 3), (50, .aload_n 0, 1), (51, .getfield 19, 3), (54, .iload_n 1, 1), (55, .iload_n 2, 1), (56, .iload_n 3, 1), (57, .iload 4, 2), (59, .invokevirtual 133, 3), (62, .ireturn, 1)]
theorem dgX11_row_30 : ∀ q ∈ lgX11_row_30, decode cX11_row q.1 = .ok (q.2.1, q.2.2) := by decide +kernel
theorem dX11_row_0 : decode cX11_row 0 = .ok (.iload_n 1, 1) := dall dgX11_row_30 0 rfl
theorem dX11_row_1 : decode cX11_row 1 = .ok (.invokestatic 126, 3) := dall dgX11_row_30 1 rfl
theorem dX11_row_4 : decode cX11_row 4 = .ok (.ifCond .eq 25, 3) := dall dgX11_row_30 2 rfl
theorem dX11_row_7 : decode cX11_row 7 = .ok (.iload_n 2, 1) := dall dgX11_row_30 3 rfl
theorem dX11_row_8 : decode cX11_row 8 = .ok (.invokestatic 126, 3) := dall dgX11_row_30 4 rfl
theorem dX11_row_11 : decode cX11_row 11 = .ok (.ifCond .eq 18, 3) := dall dgX11_row_30 5 rfl
theorem dX11_row_14 : decode cX11_row 14 = .ok (.iload_n 3, 1) := dall dgX11_row_30 6 rfl
theorem dX11_row_15 : decode cX11_row 15 = .ok (.invokestatic 126, 3) := dall dgX11_row_30 7 rfl
theorem dX11_row_18 : decode cX11_row 18 = .ok (.ifCond .eq 11, 3) := dall dgX11_row_30 8 rfl
theorem dX11_row_21 : decode cX11_row 21 = .ok (.iload 4, 2) := dall dgX11_row_30 9 rfl
theorem dX11_row_23 : decode cX11_row 23 = .ok (.invokestatic 126, 3) := dall dgX11_row_30 10 rfl
theorem dX11_row_26 : decode cX11_row 26 = .ok (.ifCond .ne 5, 3) := dall dgX11_row_30 11 rfl
theorem dX11_row_29 : decode cX11_row 29 = .ok (.iconst (-1), 1) := dall dgX11_row_30 12 rfl
theorem dX11_row_30 : decode cX11_row 30 = .ok (.ireturn, 1) := dall dgX11_row_30 13 rfl
theorem dX11_row_31 : decode cX11_row 31 = .ok (.aload_n 0, 1) := dall dgX11_row_30 14 rfl
theorem dX11_row_32 : decode cX11_row 32 = .ok (.getfield 19, 3) := dall dgX11_row_30 15 rfl
theorem dX11_row_35 : decode cX11_row 35 = .ok (.getfield 130, 3) := dall dgX11_row_30 16 rfl
theorem dX11_row_38 : decode cX11_row 38 = .ok (.bipush 48, 2) := dall dgX11_row_30 17 rfl
theorem dX11_row_40 : decode cX11_row 40 = .ok (.if_icmp .lt 6, 3) := dall dgX11_row_30 18 rfl
theorem dX11_row_46 : decode cX11_row 46 = .ok (.aload_n 0, 1) := dall dgX11_row_30 19 rfl
theorem dX11_row_47 : decode cX11_row 47 = .ok (.invokevirtual 119, 3) := dall dgX11_row_30 20 rfl
theorem dX11_row_50 : decode cX11_row 50 = .ok (.aload_n 0, 1) := dall dgX11_row_30 21 rfl
theorem dX11_row_51 : decode cX11_row 51 = .ok (.getfield 19, 3) := dall dgX11_row_30 22 rfl
theorem dX11_row_54 : decode cX11_row 54 = .ok (.iload_n 1, 1) := dall dgX11_row_30 23 rfl
theorem dX11_row_55 : decode cX11_row 55 = .ok (.iload_n 2, 1) := dall dgX11_row_30 24 rfl
theorem dX11_row_56 : decode cX11_row 56 = .ok (.iload_n 3, 1) := dall dgX11_row_30 25 rfl
theorem dX11_row_57 : decode cX11_row 57 = .ok (.iload 4, 2) := dall dgX11_row_30 26 rfl
theorem dX11_row_59 : decode cX11_row 59 = .ok (.invokevirtual 133, 3) := dall dgX11_row_30 27 rfl
theorem dX11_row_62 : decode cX11_row 62 = .ok (.ireturn, 1) := dall dgX11_row_30 28 rfl
set_option maxRecDepth 20000 in
theorem ggX11_deaf_X11_within : GoodIn wsX11_deaf wsX11_within := goodIn_r _ [5] rfl (by decide +kernel)
set_option maxRecDepth 20000 in
theorem gX11_deaf_X11_within : GoodIn wsX11_deaf (va_wsS RX11 104 yX11_within wsX11_within) := goodIn_app (goodIn_of _ (by decide +kernel)) ggX11_deaf_X11_within
set_option maxRecDepth 20000 in
theorem ggX11_deaf_X11_nothingIsFound : GoodIn wsX11_deaf wsX11_nothingIsFound := goodIn_r _ [9, 10, 11, 12, 22, 23, 24, 25, 26, 27, 28, 29, 30, 31, 32, 33, 34, 35, 36, 37] rfl (by decide +kernel)
set_option maxRecDepth 20000 in
theorem gX11_deaf_X11_nothingIsFound : GoodIn wsX11_deaf (wsV RX11 119 RX11 yX11_nothingIsFound wsX11_nothingIsFound) := goodIn_app (goodIn_of _ (by decide +kernel)) ggX11_deaf_X11_nothingIsFound
set_option maxRecDepth 20000 in
theorem ggX11_deaf_X7_addDeaf : GoodIn wsX11_deaf wsX7_addDeaf := goodIn_r _ [17, 18, 19, 20, 21, 38, 39, 40, 41, 42] rfl (by decide +kernel)
set_option maxRecDepth 20000 in
theorem gX11_deaf_X7_addDeaf : GoodIn wsX11_deaf (wsV RX11 137 RX7 yX7_addDeaf wsX7_addDeaf) := goodIn_app (goodIn_of _ (by decide +kernel)) ggX11_deaf_X7_addDeaf
def lgX11_deaf_31 : List (Nat × Instr × Nat) := [(0, .iload_n 1, 1), (1, .iconst 1, 1), (2, .bipush 9, 2), (4, .invokestatic 104, 3), (7, .ifCond .ne 5, 3), (10, .iconst (-1), 1), (11, .ireturn, 1), (12, .aload_n 0, 1), (13, .getfield 19, 3), (16, .getfield 130, 3), (19, .iload_n 1, 1), (20, .iadd, 1), (21, .bipush 48, 2), (23, .if_icmp .le 6, 3), (29, .aload_n 0, 1), (30, .invokevirtual 119, 3), (33, .iconst 0, 1), (34, .istore_n 2, 1), (35, .iload_n 2, 1), (36, .iload_n 1, 1), (37, .if_icmp .ge 17, 3), (40, .aload_n 0, 1), (41, .getfield 19, 3), (44, .invokevirtual 137, 3), (47, .pop, 1), (48, .iinc 2 1, 3), (51, .goto (-16), 3), (54, .aload_n 0, 1), (55, .getfield 19, 3), (58, .getfield 130, 3), (61, .ireturn, 1)]
theorem dgX11_deaf_31 : ∀ q ∈ lgX11_deaf_31, decode cX11_deaf q.1 = .ok (q.2.1, q.2.2) := by decide +kernel
theorem dX11_deaf_0 : decode cX11_deaf 0 = .ok (.iload_n 1, 1) := dall dgX11_deaf_31 0 rfl
theorem dX11_deaf_1 : decode cX11_deaf 1 = .ok (.iconst 1, 1) := dall dgX11_deaf_31 1 rfl
theorem dX11_deaf_2 : decode cX11_deaf 2 = .ok (.bipush 9, 2) := dall dgX11_deaf_31 2 rfl
theorem dX11_deaf_4 : decode cX11_deaf 4 = .ok (.invokestatic 104, 3) := dall dgX11_deaf_31 3 rfl
theorem dX11_deaf_7 : decode cX11_deaf 7 = .ok (.ifCond .ne 5, 3) := dall dgX11_deaf_31 4 rfl
theorem dX11_deaf_10 : decode cX11_deaf 10 = .ok (.iconst (-1), 1) := dall dgX11_deaf_31 5 rfl
theorem dX11_deaf_11 : decode cX11_deaf 11 = .ok (.ireturn, 1) := dall dgX11_deaf_31 6 rfl
theorem dX11_deaf_12 : decode cX11_deaf 12 = .ok (.aload_n 0, 1) := dall dgX11_deaf_31 7 rfl
theorem dX11_deaf_13 : decode cX11_deaf 13 = .ok (.getfield 19, 3) := dall dgX11_deaf_31 8 rfl
theorem dX11_deaf_16 : decode cX11_deaf 16 = .ok (.getfield 130, 3) := dall dgX11_deaf_31 9 rfl
theorem dX11_deaf_19 : decode cX11_deaf 19 = .ok (.iload_n 1, 1) := dall dgX11_deaf_31 10 rfl
theorem dX11_deaf_20 : decode cX11_deaf 20 = .ok (.iadd, 1) := dall dgX11_deaf_31 11 rfl
theorem dX11_deaf_21 : decode cX11_deaf 21 = .ok (.bipush 48, 2) := dall dgX11_deaf_31 12 rfl
theorem dX11_deaf_23 : decode cX11_deaf 23 = .ok (.if_icmp .le 6, 3) := dall dgX11_deaf_31 13 rfl
theorem dX11_deaf_29 : decode cX11_deaf 29 = .ok (.aload_n 0, 1) := dall dgX11_deaf_31 14 rfl
theorem dX11_deaf_30 : decode cX11_deaf 30 = .ok (.invokevirtual 119, 3) := dall dgX11_deaf_31 15 rfl
theorem dX11_deaf_33 : decode cX11_deaf 33 = .ok (.iconst 0, 1) := dall dgX11_deaf_31 16 rfl
theorem dX11_deaf_34 : decode cX11_deaf 34 = .ok (.istore_n 2, 1) := dall dgX11_deaf_31 17 rfl
theorem dX11_deaf_35 : decode cX11_deaf 35 = .ok (.iload_n 2, 1) := dall dgX11_deaf_31 18 rfl
theorem dX11_deaf_36 : decode cX11_deaf 36 = .ok (.iload_n 1, 1) := dall dgX11_deaf_31 19 rfl
theorem dX11_deaf_37 : decode cX11_deaf 37 = .ok (.if_icmp .ge 17, 3) := dall dgX11_deaf_31 20 rfl
theorem dX11_deaf_40 : decode cX11_deaf 40 = .ok (.aload_n 0, 1) := dall dgX11_deaf_31 21 rfl
theorem dX11_deaf_41 : decode cX11_deaf 41 = .ok (.getfield 19, 3) := dall dgX11_deaf_31 22 rfl
theorem dX11_deaf_44 : decode cX11_deaf 44 = .ok (.invokevirtual 137, 3) := dall dgX11_deaf_31 23 rfl
theorem dX11_deaf_47 : decode cX11_deaf 47 = .ok (.pop, 1) := dall dgX11_deaf_31 24 rfl
theorem dX11_deaf_48 : decode cX11_deaf 48 = .ok (.iinc 2 1, 3) := dall dgX11_deaf_31 25 rfl
theorem dX11_deaf_51 : decode cX11_deaf 51 = .ok (.goto (-16), 3) := dall dgX11_deaf_31 26 rfl
theorem dX11_deaf_54 : decode cX11_deaf 54 = .ok (.aload_n 0, 1) := dall dgX11_deaf_31 27 rfl
theorem dX11_deaf_55 : decode cX11_deaf 55 = .ok (.getfield 19, 3) := dall dgX11_deaf_31 28 rfl
theorem dX11_deaf_58 : decode cX11_deaf 58 = .ok (.getfield 130, 3) := dall dgX11_deaf_31 29 rfl
theorem dX11_deaf_61 : decode cX11_deaf 61 = .ok (.ireturn, 1) := dall dgX11_deaf_31 30 rfl
set_option maxRecDepth 20000 in
theorem ggX11_out_X11_areRows : GoodIn wsX11_out wsX11_areRows := goodIn_r _ [6, 1, 28, 29, 30, 31, 32, 33, 34, 35, 36, 37, 38, 39, 40, 41, 42, 43, 44, 45, 46, 47, 48] rfl (by decide +kernel)
set_option maxRecDepth 20000 in
theorem gX11_out_X11_areRows : GoodIn wsX11_out (wsV RX11 140 RX11 yX11_areRows wsX11_areRows) := goodIn_app (goodIn_of _ (by decide +kernel)) ggX11_out_X11_areRows
def lgX11_out_32 : List (Nat × Instr × Nat) := [(0, .aload_n 0, 1), (1, .iload_n 1, 1), (2, .iload_n 2, 1), (3, .invokevirtual 140, 3), (6, .ifCond .eq 12, 3), (18, .iconst (-1), 1), (19, .ireturn, 1)]
theorem dgX11_out_32 : ∀ q ∈ lgX11_out_32, decode cX11_out q.1 = .ok (q.2.1, q.2.2) := by decide +kernel
theorem dX11_out_0 : decode cX11_out 0 = .ok (.aload_n 0, 1) := dall dgX11_out_32 0 rfl
theorem dX11_out_1 : decode cX11_out 1 = .ok (.iload_n 1, 1) := dall dgX11_out_32 1 rfl
theorem dX11_out_2 : decode cX11_out 2 = .ok (.iload_n 2, 1) := dall dgX11_out_32 2 rfl
theorem dX11_out_3 : decode cX11_out 3 = .ok (.invokevirtual 140, 3) := dall dgX11_out_32 3 rfl
theorem dX11_out_6 : decode cX11_out 6 = .ok (.ifCond .eq 12, 3) := dall dgX11_out_32 4 rfl
theorem dX11_out_18 : decode cX11_out 18 = .ok (.iconst (-1), 1) := dall dgX11_out_32 5 rfl
theorem dX11_out_19 : decode cX11_out 19 = .ok (.ireturn, 1) := dall dgX11_out_32 6 rfl
set_option maxRecDepth 20000 in
theorem ggX11_hush_X11_nothingIsFound : GoodIn wsX11_hush wsX11_nothingIsFound := goodIn_r _ [8, 9, 10, 11, 12, 13, 14, 15, 16, 17, 18, 19, 20, 21, 22, 23, 24, 25, 26, 27] rfl (by decide +kernel)
set_option maxRecDepth 20000 in
theorem gX11_hush_X11_nothingIsFound : GoodIn wsX11_hush (wsV RX11 119 RX11 yX11_nothingIsFound wsX11_nothingIsFound) := goodIn_app (goodIn_of _ (by decide +kernel)) ggX11_hush_X11_nothingIsFound
def lgX11_hush_33 : List (Nat × Instr × Nat) := [(0, .aload_n 0, 1), (1, .getfield 19, 3), (4, .getfield 130, 3), (7, .istore_n 1, 1), (8, .aload_n 0, 1), (9, .getfield 19, 3), (12, .iconst 0, 1), (13, .putfield 130, 3), (16, .aload_n 0, 1), (17, .getfield 68, 3), (20, .iconst 0, 1), (21, .putfield 148, 3), (24, .aload_n 0, 1), (25, .iconst (-1), 1), (26, .putfield 90, 3), (29, .aload_n 0, 1), (30, .invokevirtual 119, 3), (33, .iload_n 1, 1), (34, .ireturn, 1)]
theorem dgX11_hush_33 : ∀ q ∈ lgX11_hush_33, decode cX11_hush q.1 = .ok (q.2.1, q.2.2) := by decide +kernel
theorem dX11_hush_0 : decode cX11_hush 0 = .ok (.aload_n 0, 1) := dall dgX11_hush_33 0 rfl
theorem dX11_hush_1 : decode cX11_hush 1 = .ok (.getfield 19, 3) := dall dgX11_hush_33 1 rfl
theorem dX11_hush_4 : decode cX11_hush 4 = .ok (.getfield 130, 3) := dall dgX11_hush_33 2 rfl
theorem dX11_hush_7 : decode cX11_hush 7 = .ok (.istore_n 1, 1) := dall dgX11_hush_33 3 rfl
theorem dX11_hush_8 : decode cX11_hush 8 = .ok (.aload_n 0, 1) := dall dgX11_hush_33 4 rfl
theorem dX11_hush_9 : decode cX11_hush 9 = .ok (.getfield 19, 3) := dall dgX11_hush_33 5 rfl
theorem dX11_hush_12 : decode cX11_hush 12 = .ok (.iconst 0, 1) := dall dgX11_hush_33 6 rfl
theorem dX11_hush_13 : decode cX11_hush 13 = .ok (.putfield 130, 3) := dall dgX11_hush_33 7 rfl
theorem dX11_hush_16 : decode cX11_hush 16 = .ok (.aload_n 0, 1) := dall dgX11_hush_33 8 rfl
theorem dX11_hush_17 : decode cX11_hush 17 = .ok (.getfield 68, 3) := dall dgX11_hush_33 9 rfl
theorem dX11_hush_20 : decode cX11_hush 20 = .ok (.iconst 0, 1) := dall dgX11_hush_33 10 rfl
theorem dX11_hush_21 : decode cX11_hush 21 = .ok (.putfield 148, 3) := dall dgX11_hush_33 11 rfl
theorem dX11_hush_24 : decode cX11_hush 24 = .ok (.aload_n 0, 1) := dall dgX11_hush_33 12 rfl
theorem dX11_hush_25 : decode cX11_hush 25 = .ok (.iconst (-1), 1) := dall dgX11_hush_33 13 rfl
theorem dX11_hush_26 : decode cX11_hush 26 = .ok (.putfield 90, 3) := dall dgX11_hush_33 14 rfl
theorem dX11_hush_29 : decode cX11_hush 29 = .ok (.aload_n 0, 1) := dall dgX11_hush_33 15 rfl
theorem dX11_hush_30 : decode cX11_hush 30 = .ok (.invokevirtual 119, 3) := dall dgX11_hush_33 16 rfl
theorem dX11_hush_33 : decode cX11_hush 33 = .ok (.iload_n 1, 1) := dall dgX11_hush_33 17 rfl
theorem dX11_hush_34 : decode cX11_hush 34 = .ok (.ireturn, 1) := dall dgX11_hush_33 18 rfl
set_option maxRecDepth 20000 in
theorem ggX11_pieces_X11_cutNow : GoodIn wsX11_pieces wsX11_cutNow := goodIn_r _ [6, 7, 1, 8, 9, 10, 11, 12, 13, 14, 15, 16, 17, 18, 19, 20, 21, 22, 23, 24, 25, 26, 27, 28, 29, 30, 31, 32, 33, 34, 35, 36, 37, 38, 39, 40, 41, 42, 43, 44, 45, 46, 47, 48, 49, 50, 51, 52, 53, 54, 55, 56, 57, 58, 59, 60, 61, 62, 63, 64, 65, 66, 67, 68, 69, 70, 71, 72, 73, 74, 75, 76, 77, 78, 79, 80, 81, 82, 83, 84, 85, 86, 87, 88, 89, 90, 91, 92, 93, 94, 107, 108, 109, 110, 111, 95, 96, 97, 98, 99, 100, 101, 102, 103, 104, 105, 106, 112, 113, 114, 115, 116, 117, 118, 119] rfl (by decide +kernel)
set_option maxRecDepth 20000 in
theorem gX11_pieces_X11_cutNow : GoodIn wsX11_pieces (wsV RX11 151 RX11 yX11_cutNow wsX11_cutNow) := goodIn_app (goodIn_of _ (by decide +kernel)) ggX11_pieces_X11_cutNow
def lgX11_pieces_34 : List (Nat × Instr × Nat) := [(0, .aload_n 0, 1), (1, .invokevirtual 151, 3), (4, .iload_n 1, 1), (5, .tableswitch 63 0 3 #[31, 39, 47, 55], 31), (36, .aload_n 0, 1), (37, .getfield 33, 3), (40, .getfield 154, 3), (43, .ireturn, 1), (44, .aload_n 0, 1), (45, .getfield 33, 3), (48, .getfield 157, 3), (51, .ireturn, 1), (52, .aload_n 0, 1), (53, .getfield 33, 3), (56, .getfield 160, 3), (59, .ireturn, 1), (60, .aload_n 0, 1), (61, .getfield 33, 3), (64, .getfield 163, 3), (67, .ireturn, 1), (68, .iconst (-1), 1), (69, .ireturn, 1)]
theorem dgX11_pieces_34 : ∀ q ∈ lgX11_pieces_34, decode cX11_pieces q.1 = .ok (q.2.1, q.2.2) := by decide +kernel
theorem dX11_pieces_0 : decode cX11_pieces 0 = .ok (.aload_n 0, 1) := dall dgX11_pieces_34 0 rfl
theorem dX11_pieces_1 : decode cX11_pieces 1 = .ok (.invokevirtual 151, 3) := dall dgX11_pieces_34 1 rfl
theorem dX11_pieces_4 : decode cX11_pieces 4 = .ok (.iload_n 1, 1) := dall dgX11_pieces_34 2 rfl
theorem dX11_pieces_5 : decode cX11_pieces 5 = .ok (.tableswitch 63 0 3 #[31, 39, 47, 55], 31) := dall dgX11_pieces_34 3 rfl
theorem dX11_pieces_36 : decode cX11_pieces 36 = .ok (.aload_n 0, 1) := dall dgX11_pieces_34 4 rfl
theorem dX11_pieces_37 : decode cX11_pieces 37 = .ok (.getfield 33, 3) := dall dgX11_pieces_34 5 rfl
theorem dX11_pieces_40 : decode cX11_pieces 40 = .ok (.getfield 154, 3) := dall dgX11_pieces_34 6 rfl
theorem dX11_pieces_43 : decode cX11_pieces 43 = .ok (.ireturn, 1) := dall dgX11_pieces_34 7 rfl
theorem dX11_pieces_44 : decode cX11_pieces 44 = .ok (.aload_n 0, 1) := dall dgX11_pieces_34 8 rfl
theorem dX11_pieces_45 : decode cX11_pieces 45 = .ok (.getfield 33, 3) := dall dgX11_pieces_34 9 rfl
theorem dX11_pieces_48 : decode cX11_pieces 48 = .ok (.getfield 157, 3) := dall dgX11_pieces_34 10 rfl
theorem dX11_pieces_51 : decode cX11_pieces 51 = .ok (.ireturn, 1) := dall dgX11_pieces_34 11 rfl
theorem dX11_pieces_52 : decode cX11_pieces 52 = .ok (.aload_n 0, 1) := dall dgX11_pieces_34 12 rfl
theorem dX11_pieces_53 : decode cX11_pieces 53 = .ok (.getfield 33, 3) := dall dgX11_pieces_34 13 rfl
theorem dX11_pieces_56 : decode cX11_pieces 56 = .ok (.getfield 160, 3) := dall dgX11_pieces_34 14 rfl
theorem dX11_pieces_59 : decode cX11_pieces 59 = .ok (.ireturn, 1) := dall dgX11_pieces_34 15 rfl
theorem dX11_pieces_60 : decode cX11_pieces 60 = .ok (.aload_n 0, 1) := dall dgX11_pieces_34 16 rfl
theorem dX11_pieces_61 : decode cX11_pieces 61 = .ok (.getfield 33, 3) := dall dgX11_pieces_34 17 rfl
theorem dX11_pieces_64 : decode cX11_pieces 64 = .ok (.getfield 163, 3) := dall dgX11_pieces_34 18 rfl
theorem dX11_pieces_67 : decode cX11_pieces 67 = .ok (.ireturn, 1) := dall dgX11_pieces_34 19 rfl
theorem dX11_pieces_68 : decode cX11_pieces 68 = .ok (.iconst (-1), 1) := dall dgX11_pieces_34 20 rfl
theorem dX11_pieces_69 : decode cX11_pieces 69 = .ok (.ireturn, 1) := dall dgX11_pieces_34 21 rfl
set_option maxRecDepth 20000 in
theorem ggX11_piece_X11_isPiece : GoodIn wsX11_piece wsX11_isPiece := goodIn_r _ [6, 1, 7, 8, 9, 5, 10, 11, 12, 13, 14, 15, 16, 17, 18, 19, 20, 21, 22, 23, 24, 25, 26, 27, 28, 29, 30, 31, 32, 33, 34, 35, 36, 37, 38, 39, 40, 41, 42, 43, 44, 45, 46, 47, 48, 49, 50, 51, 52, 53, 54, 55, 56, 57, 58, 59, 60, 61, 62, 63, 64, 65, 66, 67, 68, 69, 70, 71, 72, 73, 74, 75, 76, 77, 78, 79, 80, 81, 82, 83, 84, 85, 90, 91, 92, 93, 94, 95, 96, 97, 98, 99, 100, 101, 102, 103, 104, 105, 106, 107, 108, 109, 110, 111, 112, 113, 114, 115, 116, 117, 118, 119, 120, 121, 122, 123, 124, 125, 126, 127, 128, 129, 130] rfl (by decide +kernel)
set_option maxRecDepth 20000 in
theorem gX11_piece_X11_isPiece : GoodIn wsX11_piece (wsV RX11 166 RX11 yX11_isPiece wsX11_isPiece) := goodIn_app (goodIn_of _ (by decide +kernel)) ggX11_piece_X11_isPiece
def lgX11_piece_35 : List (Nat × Instr × Nat) := [(0, .aload_n 0, 1), (1, .iload_n 1, 1), (2, .invokevirtual 166, 3), (5, .ifCond .ne 5, 3), (8, .iconst (-1), 1), (9, .ireturn, 1)]
theorem dgX11_piece_35 : ∀ q ∈ lgX11_piece_35, decode cX11_piece q.1 = .ok (q.2.1, q.2.2) := by decide +kernel
theorem dX11_piece_0 : decode cX11_piece 0 = .ok (.aload_n 0, 1) := dall dgX11_piece_35 0 rfl
theorem dX11_piece_1 : decode cX11_piece 1 = .ok (.iload_n 1, 1) := dall dgX11_piece_35 1 rfl
theorem dX11_piece_2 : decode cX11_piece 2 = .ok (.invokevirtual 166, 3) := dall dgX11_piece_35 2 rfl
theorem dX11_piece_5 : decode cX11_piece 5 = .ok (.ifCond .ne 5, 3) := dall dgX11_piece_35 3 rfl
theorem dX11_piece_8 : decode cX11_piece 8 = .ok (.iconst (-1), 1) := dall dgX11_piece_35 4 rfl
theorem dX11_piece_9 : decode cX11_piece 9 = .ok (.ireturn, 1) := dall dgX11_piece_35 5 rfl
set_option maxRecDepth 20000 in
theorem ggX11_of_X11_within : GoodIn wsX11_of wsX11_within := goodIn_r _ [6] rfl (by decide +kernel)
set_option maxRecDepth 20000 in
theorem gX11_of_X11_within : GoodIn wsX11_of (va_wsS RX11 104 yX11_within wsX11_within) := goodIn_app (goodIn_of _ (by decide +kernel)) ggX11_of_X11_within
def lgX11_of_36 : List (Nat × Instr × Nat) := [(0, .iload_n 1, 1), (1, .iconst 0, 1), (2, .aload_n 0, 1), (3, .getfield 19, 3), (6, .getfield 130, 3), (9, .iconst 1, 1), (10, .isub, 1), (11, .invokestatic 104, 3), (14, .ifCond .ne 5, 3), (17, .iconst (-1), 1), (18, .ireturn, 1)]
theorem dgX11_of_36 : ∀ q ∈ lgX11_of_36, decode cX11_of q.1 = .ok (q.2.1, q.2.2) := by decide +kernel
theorem dX11_of_0 : decode cX11_of 0 = .ok (.iload_n 1, 1) := dall dgX11_of_36 0 rfl
theorem dX11_of_1 : decode cX11_of 1 = .ok (.iconst 0, 1) := dall dgX11_of_36 1 rfl
theorem dX11_of_2 : decode cX11_of 2 = .ok (.aload_n 0, 1) := dall dgX11_of_36 2 rfl
theorem dX11_of_3 : decode cX11_of 3 = .ok (.getfield 19, 3) := dall dgX11_of_36 3 rfl
theorem dX11_of_6 : decode cX11_of 6 = .ok (.getfield 130, 3) := dall dgX11_of_36 4 rfl
theorem dX11_of_9 : decode cX11_of 9 = .ok (.iconst 1, 1) := dall dgX11_of_36 5 rfl
theorem dX11_of_10 : decode cX11_of 10 = .ok (.isub, 1) := dall dgX11_of_36 6 rfl
theorem dX11_of_11 : decode cX11_of 11 = .ok (.invokestatic 104, 3) := dall dgX11_of_36 7 rfl
theorem dX11_of_14 : decode cX11_of 14 = .ok (.ifCond .ne 5, 3) := dall dgX11_of_36 8 rfl
theorem dX11_of_17 : decode cX11_of 17 = .ok (.iconst (-1), 1) := dall dgX11_of_36 9 rfl
theorem dX11_of_18 : decode cX11_of 18 = .ok (.ireturn, 1) := dall dgX11_of_36 10 rfl
set_option maxRecDepth 20000 in
theorem ggX11_like_X11_isPiece : GoodIn wsX11_like wsX11_isPiece := goodIn_r _ [8, 2, 9, 10, 11, 7, 12, 13, 14, 15, 3, 16, 17, 18, 19, 20, 21, 22, 23, 24, 25, 26, 27, 28, 29, 30, 31, 32, 33, 34, 35, 36, 37, 38, 39, 40, 41, 42, 43, 44, 45, 46, 47, 48, 49, 50, 51, 52, 53, 54, 55, 56, 57, 58, 59, 60, 61, 62, 63, 64, 65, 66, 67, 68, 69, 70, 71, 72, 73, 74, 75, 76, 77, 78, 79, 80, 81, 82, 83, 84, 85, 86, 96, 97, 98, 99, 100, 101, 102, 103, 104, 105, 106, 107, 108, 109, 110, 111, 112, 113, 114, 115, 116, 117, 118, 119, 120, 121, 122, 123, 124, 125, 126, 127, 128, 129, 130, 131, 132, 133, 134, 135, 136] rfl (by decide +kernel)
set_option maxRecDepth 20000 in
theorem gX11_like_X11_isPiece : GoodIn wsX11_like (wsV RX11 166 RX11 yX11_isPiece wsX11_isPiece) := goodIn_app (goodIn_of _ (by decide +kernel)) ggX11_like_X11_isPiece
def lgX11_like_37 : List (Nat × Instr × Nat) := [(0, .aload_n 0, 1), (1, .iload_n 1, 1), (2, .invokevirtual 166, 3), (5, .ifCond .eq 16, 3), (21, .ldc 185, 2), (23, .ireturn, 1)]
theorem dgX11_like_37 : ∀ q ∈ lgX11_like_37, decode cX11_like q.1 = .ok (q.2.1, q.2.2) := by decide +kernel
theorem dX11_like_0 : decode cX11_like 0 = .ok (.aload_n 0, 1) := dall dgX11_like_37 0 rfl
theorem dX11_like_1 : decode cX11_like 1 = .ok (.iload_n 1, 1) := dall dgX11_like_37 1 rfl
theorem dX11_like_2 : decode cX11_like 2 = .ok (.invokevirtual 166, 3) := dall dgX11_like_37 2 rfl
theorem dX11_like_5 : decode cX11_like 5 = .ok (.ifCond .eq 16, 3) := dall dgX11_like_37 3 rfl
theorem dX11_like_21 : decode cX11_like 21 = .ok (.ldc 185, 2) := dall dgX11_like_37 4 rfl
theorem dX11_like_23 : decode cX11_like 23 = .ok (.ireturn, 1) := dall dgX11_like_37 5 rfl
set_option maxRecDepth 20000 in
theorem ggX11_heap_X11_isPiece : GoodIn wsX11_heap wsX11_isPiece := goodIn_r _ [5, 6, 7, 8, 9, 4, 10, 11, 12, 13, 14, 15, 16, 17, 18, 19, 20, 21, 22, 23, 24, 25, 26, 27, 28, 29, 30, 31, 32, 33, 34, 35, 36, 37, 38, 39, 40, 41, 42, 43, 44, 45, 46, 47, 48, 49, 50, 51, 52, 53, 54, 55, 56, 57, 58, 59, 60, 61, 62, 63, 64, 65, 66, 67, 68, 69, 70, 71, 72, 73, 74, 75, 76, 77, 78, 79, 80, 81, 82, 83, 84, 85, 197, 198, 199, 200, 201, 202, 203, 204, 205, 206, 207, 208, 209, 210, 211, 212, 213, 214, 215, 216, 217, 218, 219, 220, 221, 222, 223, 224, 225, 226, 227, 228, 229, 230, 231, 232, 233, 234, 235, 236, 237] rfl (by decide +kernel)
set_option maxRecDepth 20000 in
theorem gX11_heap_X11_isPiece : GoodIn wsX11_heap (wsV RX11 166 RX11 yX11_isPiece wsX11_isPiece) := goodIn_app (goodIn_of _ (by decide +kernel)) ggX11_heap_X11_isPiece
def lgX11_heap_38 : List (Nat × Instr × Nat) := [(0, .aload_n 0, 1), (1, .iload_n 1, 1), (2, .invokevirtual 166, 3), (5, .ifCond .eq 12, 3), (17, .iconst (-1), 1), (18, .ireturn, 1)]
theorem dgX11_heap_38 : ∀ q ∈ lgX11_heap_38, decode cX11_heap q.1 = .ok (q.2.1, q.2.2) := by decide +kernel
theorem dX11_heap_0 : decode cX11_heap 0 = .ok (.aload_n 0, 1) := dall dgX11_heap_38 0 rfl
theorem dX11_heap_1 : decode cX11_heap 1 = .ok (.iload_n 1, 1) := dall dgX11_heap_38 1 rfl
theorem dX11_heap_2 : decode cX11_heap 2 = .ok (.invokevirtual 166, 3) := dall dgX11_heap_38 2 rfl
theorem dX11_heap_5 : decode cX11_heap 5 = .ok (.ifCond .eq 12, 3) := dall dgX11_heap_38 3 rfl
theorem dX11_heap_17 : decode cX11_heap 17 = .ok (.iconst (-1), 1) := dall dgX11_heap_38 4 rfl
theorem dX11_heap_18 : decode cX11_heap 18 = .ok (.ireturn, 1) := dall dgX11_heap_38 5 rfl
set_option maxRecDepth 20000 in
theorem ggX11_worth_X11_within : GoodIn wsX11_worth wsX11_within := goodIn_r _ [5] rfl (by decide +kernel)
set_option maxRecDepth 20000 in
theorem gX11_worth_X11_within : GoodIn wsX11_worth (va_wsS RX11 104 yX11_within wsX11_within) := goodIn_app (goodIn_of _ (by decide +kernel)) ggX11_worth_X11_within
set_option maxRecDepth 20000 in
theorem ggX11_worth_X11_heapNow : GoodIn wsX11_worth wsX11_heapNow := goodIn_r _ [9, 10, 11, 12, 13, 14, 15, 16, 17, 18, 19, 20, 4, 21, 22, 23, 24, 25, 26, 27, 28, 29, 30, 31, 32, 33, 34, 35, 36, 37, 38, 39, 40, 41, 42, 43, 44, 45, 46, 47, 48, 49, 50, 51, 52, 53, 54, 55, 56, 57, 58, 59, 60, 61, 62, 63, 64, 65, 66, 67, 68, 69, 70, 71, 72, 73, 74, 75, 76, 77, 78, 79, 80, 81, 82, 83, 84, 85, 86, 87, 88, 89, 90, 91, 92, 93, 94, 95, 96, 97, 98, 99, 100, 101, 102, 103, 104, 105, 106, 107, 108, 109, 110, 111, 112, 113, 114, 115, 116, 117, 118, 119, 120, 121, 122, 123, 124, 125, 126, 127, 128, 129, 130, 131, 132, 133, 134, 135, 136, 137, 138, 139, 140, 141, 142, 143, 144, 145, 146, 147, 148, 149, 150, 151, 152, 153, 154, 155, 156, 157, 158, 159, 160, 161, 162, 163, 164, 165, 166, 167, 168, 169, 170, 171, 172, 173, 174, 175, 176, 177, 178, 179, 180, 181, 182, 183, 184, 194, 195, 196, 197, 198, 199, 200, 201, 202, 203, 204, 205, 206, 207, 208, 209, 210, 211, 212, 213, 214, 215, 216, 217, 218, 219, 220, 221, 222, 223, 224, 225, 226, 227, 228, 229, 230, 231, 232, 233, 234, 235, 236, 237, 238, 239, 240, 241, 242, 243, 244, 245, 246, 247, 248, 189, 190, 191, 192, 193] rfl (by decide +kernel)
set_option maxRecDepth 20000 in
theorem gX11_worth_X11_heapNow : GoodIn wsX11_worth (wsV RX11 190 RX11 yX11_heapNow wsX11_heapNow) := goodIn_app (goodIn_of _ (by decide +kernel)) ggX11_worth_X11_heapNow
set_option maxRecDepth 20000 in
theorem ggX11_worth_X11_byWay : GoodIn wsX11_worth wsX11_byWay := goodIn_r _ [188, 14, 17, 194, 195, 196, 197, 198, 199, 200, 201, 202, 203, 204, 205, 206, 207, 208, 209, 222, 223, 224, 225, 226, 227, 228, 229, 230, 231] rfl (by decide +kernel)
set_option maxRecDepth 20000 in
theorem gX11_worth_X11_byWay : GoodIn wsX11_worth (wsV RX11 194 RX11 yX11_byWay wsX11_byWay) := goodIn_app (goodIn_of _ (by decide +kernel)) ggX11_worth_X11_byWay
def lgX11_worth_39 : List (Nat × Instr × Nat) := [(0, .iload_n 1, 1), (1, .iconst 0, 1), (2, .iconst 1, 1), (3, .invokestatic 104, 3), (6, .ifCond .eq 10, 3), (9, .aload_n 0, 1), (10, .invokevirtual 190, 3), (13, .ifCond .ne 6, 3), (16, .ldc 185, 2), (18, .ireturn, 1), (19, .aload_n 0, 1), (20, .iload_n 1, 1), (21, .invokevirtual 194, 3), (24, .getfield 201, 3), (27, .ireturn, 1)]
theorem dgX11_worth_39 : ∀ q ∈ lgX11_worth_39, decode cX11_worth q.1 = .ok (q.2.1, q.2.2) := by decide +kernel
theorem dX11_worth_0 : decode cX11_worth 0 = .ok (.iload_n 1, 1) := dall dgX11_worth_39 0 rfl
theorem dX11_worth_1 : decode cX11_worth 1 = .ok (.iconst 0, 1) := dall dgX11_worth_39 1 rfl
theorem dX11_worth_2 : decode cX11_worth 2 = .ok (.iconst 1, 1) := dall dgX11_worth_39 2 rfl
theorem dX11_worth_3 : decode cX11_worth 3 = .ok (.invokestatic 104, 3) := dall dgX11_worth_39 3 rfl
theorem dX11_worth_6 : decode cX11_worth 6 = .ok (.ifCond .eq 10, 3) := dall dgX11_worth_39 4 rfl
theorem dX11_worth_9 : decode cX11_worth 9 = .ok (.aload_n 0, 1) := dall dgX11_worth_39 5 rfl
theorem dX11_worth_10 : decode cX11_worth 10 = .ok (.invokevirtual 190, 3) := dall dgX11_worth_39 6 rfl
theorem dX11_worth_13 : decode cX11_worth 13 = .ok (.ifCond .ne 6, 3) := dall dgX11_worth_39 7 rfl
theorem dX11_worth_16 : decode cX11_worth 16 = .ok (.ldc 185, 2) := dall dgX11_worth_39 8 rfl
theorem dX11_worth_18 : decode cX11_worth 18 = .ok (.ireturn, 1) := dall dgX11_worth_39 9 rfl
theorem dX11_worth_19 : decode cX11_worth 19 = .ok (.aload_n 0, 1) := dall dgX11_worth_39 10 rfl
theorem dX11_worth_20 : decode cX11_worth 20 = .ok (.iload_n 1, 1) := dall dgX11_worth_39 11 rfl
theorem dX11_worth_21 : decode cX11_worth 21 = .ok (.invokevirtual 194, 3) := dall dgX11_worth_39 12 rfl
theorem dX11_worth_24 : decode cX11_worth 24 = .ok (.getfield 201, 3) := dall dgX11_worth_39 13 rfl
theorem dX11_worth_27 : decode cX11_worth 27 = .ok (.ireturn, 1) := dall dgX11_worth_39 14 rfl
set_option maxRecDepth 20000 in
theorem ggX11_near_X11_within : GoodIn wsX11_near wsX11_within := goodIn_r _ [5] rfl (by decide +kernel)
set_option maxRecDepth 20000 in
theorem gX11_near_X11_within : GoodIn wsX11_near (va_wsS RX11 104 yX11_within wsX11_within) := goodIn_app (goodIn_of _ (by decide +kernel)) ggX11_near_X11_within
set_option maxRecDepth 20000 in
theorem ggX11_near_X11_heapNow : GoodIn wsX11_near wsX11_heapNow := goodIn_r _ [9, 10, 11, 12, 13, 1, 14, 15, 16, 17, 18, 19, 4, 20, 21, 22, 23, 24, 25, 26, 27, 28, 29, 30, 31, 32, 33, 34, 35, 36, 37, 38, 39, 40, 41, 42, 43, 44, 45, 46, 47, 48, 49, 50, 51, 52, 53, 54, 55, 56, 57, 58, 59, 60, 61, 62, 63, 64, 65, 66, 67, 68, 69, 70, 71, 72, 73, 74, 75, 76, 77, 78, 79, 80, 81, 82, 83, 84, 85, 86, 87, 88, 89, 90, 91, 92, 93, 94, 95, 96, 97, 98, 99, 100, 101, 102, 103, 104, 105, 106, 107, 108, 109, 110, 111, 112, 113, 114, 115, 116, 117, 118, 119, 120, 121, 122, 123, 124, 125, 126, 127, 128, 129, 130, 131, 132, 133, 134, 135, 136, 137, 138, 139, 140, 141, 142, 143, 144, 145, 146, 147, 148, 149, 150, 151, 152, 153, 154, 155, 156, 157, 158, 159, 160, 161, 162, 163, 164, 165, 166, 167, 168, 169, 170, 171, 172, 173, 174, 175, 176, 177, 178, 179, 180, 181, 182, 183, 203, 204, 205, 206, 207, 208, 209, 210, 211, 212, 213, 214, 215, 216, 217, 218, 229, 230, 231, 232, 233, 234, 235, 236, 237, 238, 239, 240, 219, 220, 221, 222, 223, 224, 225, 226, 227, 228, 241, 242, 243, 244, 245, 246, 247, 248, 249, 250, 251, 252, 253, 254, 255, 256, 257, 198, 199, 200, 201, 202] rfl (by decide +kernel)
set_option maxRecDepth 20000 in
theorem gX11_near_X11_heapNow : GoodIn wsX11_near (wsV RX11 190 RX11 yX11_heapNow wsX11_heapNow) := goodIn_app (goodIn_of _ (by decide +kernel)) ggX11_near_X11_heapNow
set_option maxRecDepth 20000 in
theorem ggX11_near_X11_byWay : GoodIn wsX11_near wsX11_byWay := goodIn_r _ [187, 1, 16, 203, 204, 205, 206, 207, 208, 209, 210, 211, 212, 213, 214, 215, 216, 217, 218, 219, 220, 221, 222, 223, 224, 225, 226, 227, 228] rfl (by decide +kernel)
set_option maxRecDepth 20000 in
theorem gX11_near_X11_byWay : GoodIn wsX11_near (wsV RX11 194 RX11 yX11_byWay wsX11_byWay) := goodIn_app (goodIn_of _ (by decide +kernel)) ggX11_near_X11_byWay
set_option maxRecDepth 20000 in
theorem ggX11_near_X11_nearNow : GoodIn wsX11_near wsX11_nearNow := goodIn_r _ [191, 192, 1, 12, 13, 22, 23, 24, 25, 26, 27, 193, 194, 195, 120, 196, 122, 123, 140, 141, 142, 144, 197, 145, 146, 125, 126, 40, 41, 42, 127, 128, 129, 130, 131, 70, 71, 72, 132, 133, 134, 135, 136, 137, 138, 139, 143, 79, 80, 147, 148, 149, 93, 150, 116, 151, 152, 153, 203, 204, 205, 206, 207, 208, 209, 210, 211, 212, 213, 214, 215, 216, 217, 218, 241, 242, 243, 244, 245, 219, 220, 221, 222, 223, 224, 225, 226, 227, 228, 198, 199, 200, 201, 202, 254, 255, 256, 257] rfl (by decide +kernel)
set_option maxRecDepth 20000 in
theorem gX11_near_X11_nearNow : GoodIn wsX11_near (wsV RX11 207 RX11 yX11_nearNow wsX11_nearNow) := goodIn_app (goodIn_of _ (by decide +kernel)) ggX11_near_X11_nearNow
def lgX11_near_40 : List (Nat × Instr × Nat) := [(0, .iload_n 1, 1), (1, .iconst 0, 1), (2, .iconst 4, 1), (3, .invokestatic 104, 3), (6, .ifCond .ne 5, 3), (9, .iconst (-1), 1), (10, .ireturn, 1), (11, .aload_n 0, 1), (12, .invokevirtual 190, 3), (15, .ifCond .ne 6, 3), (21, .iload_n 1, 1), (22, .iconst 2, 1), (23, .if_icmp .le 14, 3), (26, .aload_n 0, 1), (27, .iload_n 1, 1), (28, .iconst 3, 1), (29, .isub, 1), (30, .invokevirtual 194, 3), (33, .getfield 204, 3), (36, .ireturn, 1), (37, .aload_n 0, 1), (38, .invokevirtual 207, 3), (41, .iload_n 1, 1), (42, .ifCond .ne 11, 3), (45, .aload_n 0, 1), (46, .getfield 47, 3), (49, .getfield 210, 3), (52, .ireturn, 1), (53, .iload_n 1, 1), (54, .iconst 1, 1), (55, .if_icmp .ne 13, 3), (58, .aload_n 0, 1), (59, .getfield 47, 3), (62, .getfield 213, 3), (65, .goto 10, 3), (68, .aload_n 0, 1), (69, .getfield 47, 3), (72, .getfield 216, 3), (75, .ireturn, 1)]
theorem dgX11_near_40 : ∀ q ∈ lgX11_near_40, decode cX11_near q.1 = .ok (q.2.1, q.2.2) := by decide +kernel
theorem dX11_near_0 : decode cX11_near 0 = .ok (.iload_n 1, 1) := dall dgX11_near_40 0 rfl
theorem dX11_near_1 : decode cX11_near 1 = .ok (.iconst 0, 1) := dall dgX11_near_40 1 rfl
theorem dX11_near_2 : decode cX11_near 2 = .ok (.iconst 4, 1) := dall dgX11_near_40 2 rfl
theorem dX11_near_3 : decode cX11_near 3 = .ok (.invokestatic 104, 3) := dall dgX11_near_40 3 rfl
theorem dX11_near_6 : decode cX11_near 6 = .ok (.ifCond .ne 5, 3) := dall dgX11_near_40 4 rfl
theorem dX11_near_9 : decode cX11_near 9 = .ok (.iconst (-1), 1) := dall dgX11_near_40 5 rfl
theorem dX11_near_10 : decode cX11_near 10 = .ok (.ireturn, 1) := dall dgX11_near_40 6 rfl
theorem dX11_near_11 : decode cX11_near 11 = .ok (.aload_n 0, 1) := dall dgX11_near_40 7 rfl
theorem dX11_near_12 : decode cX11_near 12 = .ok (.invokevirtual 190, 3) := dall dgX11_near_40 8 rfl
theorem dX11_near_15 : decode cX11_near 15 = .ok (.ifCond .ne 6, 3) := dall dgX11_near_40 9 rfl
theorem dX11_near_21 : decode cX11_near 21 = .ok (.iload_n 1, 1) := dall dgX11_near_40 10 rfl
theorem dX11_near_22 : decode cX11_near 22 = .ok (.iconst 2, 1) := dall dgX11_near_40 11 rfl
theorem dX11_near_23 : decode cX11_near 23 = .ok (.if_icmp .le 14, 3) := dall dgX11_near_40 12 rfl
theorem dX11_near_26 : decode cX11_near 26 = .ok (.aload_n 0, 1) := dall dgX11_near_40 13 rfl
theorem dX11_near_27 : decode cX11_near 27 = .ok (.iload_n 1, 1) := dall dgX11_near_40 14 rfl
theorem dX11_near_28 : decode cX11_near 28 = .ok (.iconst 3, 1) := dall dgX11_near_40 15 rfl
theorem dX11_near_29 : decode cX11_near 29 = .ok (.isub, 1) := dall dgX11_near_40 16 rfl
theorem dX11_near_30 : decode cX11_near 30 = .ok (.invokevirtual 194, 3) := dall dgX11_near_40 17 rfl
theorem dX11_near_33 : decode cX11_near 33 = .ok (.getfield 204, 3) := dall dgX11_near_40 18 rfl
theorem dX11_near_36 : decode cX11_near 36 = .ok (.ireturn, 1) := dall dgX11_near_40 19 rfl
theorem dX11_near_37 : decode cX11_near 37 = .ok (.aload_n 0, 1) := dall dgX11_near_40 20 rfl
theorem dX11_near_38 : decode cX11_near 38 = .ok (.invokevirtual 207, 3) := dall dgX11_near_40 21 rfl
theorem dX11_near_41 : decode cX11_near 41 = .ok (.iload_n 1, 1) := dall dgX11_near_40 22 rfl
theorem dX11_near_42 : decode cX11_near 42 = .ok (.ifCond .ne 11, 3) := dall dgX11_near_40 23 rfl
theorem dX11_near_45 : decode cX11_near 45 = .ok (.aload_n 0, 1) := dall dgX11_near_40 24 rfl
theorem dX11_near_46 : decode cX11_near 46 = .ok (.getfield 47, 3) := dall dgX11_near_40 25 rfl
theorem dX11_near_49 : decode cX11_near 49 = .ok (.getfield 210, 3) := dall dgX11_near_40 26 rfl
theorem dX11_near_52 : decode cX11_near 52 = .ok (.ireturn, 1) := dall dgX11_near_40 27 rfl
theorem dX11_near_53 : decode cX11_near 53 = .ok (.iload_n 1, 1) := dall dgX11_near_40 28 rfl
theorem dX11_near_54 : decode cX11_near 54 = .ok (.iconst 1, 1) := dall dgX11_near_40 29 rfl
theorem dX11_near_55 : decode cX11_near 55 = .ok (.if_icmp .ne 13, 3) := dall dgX11_near_40 30 rfl
theorem dX11_near_58 : decode cX11_near 58 = .ok (.aload_n 0, 1) := dall dgX11_near_40 31 rfl
theorem dX11_near_59 : decode cX11_near 59 = .ok (.getfield 47, 3) := dall dgX11_near_40 32 rfl
theorem dX11_near_62 : decode cX11_near 62 = .ok (.getfield 213, 3) := dall dgX11_near_40 33 rfl
theorem dX11_near_65 : decode cX11_near 65 = .ok (.goto 10, 3) := dall dgX11_near_40 34 rfl
theorem dX11_near_68 : decode cX11_near 68 = .ok (.aload_n 0, 1) := dall dgX11_near_40 35 rfl
theorem dX11_near_69 : decode cX11_near 69 = .ok (.getfield 47, 3) := dall dgX11_near_40 36 rfl
theorem dX11_near_72 : decode cX11_near 72 = .ok (.getfield 216, 3) := dall dgX11_near_40 37 rfl
theorem dX11_near_75 : decode cX11_near 75 = .ok (.ireturn, 1) := dall dgX11_near_40 38 rfl
set_option maxRecDepth 20000 in
theorem ggX11_sure_X11_isPiece : GoodIn wsX11_sure wsX11_isPiece := goodIn_r _ [6, 7, 8, 9, 10, 5, 11, 12, 13, 14, 15, 16, 17, 18, 19, 20, 21, 22, 23, 24, 25, 26, 27, 28, 29, 30, 31, 32, 33, 34, 35, 36, 37, 38, 39, 40, 41, 42, 43, 44, 45, 46, 47, 48, 49, 50, 51, 52, 53, 54, 55, 56, 57, 58, 59, 60, 61, 62, 63, 64, 65, 66, 67, 68, 69, 70, 71, 72, 73, 74, 75, 76, 77, 78, 79, 80, 81, 82, 83, 84, 85, 86, 202, 203, 204, 205, 206, 207, 208, 209, 210, 211, 212, 213, 214, 215, 216, 217, 218, 219, 220, 221, 222, 223, 224, 225, 226, 227, 228, 229, 230, 231, 232, 233, 234, 235, 236, 237, 238, 239, 240, 241, 242] rfl (by decide +kernel)
set_option maxRecDepth 20000 in
theorem gX11_sure_X11_isPiece : GoodIn wsX11_sure (wsV RX11 166 RX11 yX11_isPiece wsX11_isPiece) := goodIn_app (goodIn_of _ (by decide +kernel)) ggX11_sure_X11_isPiece
def lgX11_sure_41 : List (Nat × Instr × Nat) := [(0, .aload_n 0, 1), (1, .iload_n 1, 1), (2, .invokevirtual 166, 3), (5, .ifCond .eq 16, 3), (21, .iconst (-1), 1), (22, .ireturn, 1)]
theorem dgX11_sure_41 : ∀ q ∈ lgX11_sure_41, decode cX11_sure q.1 = .ok (q.2.1, q.2.2) := by decide +kernel
theorem dX11_sure_0 : decode cX11_sure 0 = .ok (.aload_n 0, 1) := dall dgX11_sure_41 0 rfl
theorem dX11_sure_1 : decode cX11_sure 1 = .ok (.iload_n 1, 1) := dall dgX11_sure_41 1 rfl
theorem dX11_sure_2 : decode cX11_sure 2 = .ok (.invokevirtual 166, 3) := dall dgX11_sure_41 2 rfl
theorem dX11_sure_5 : decode cX11_sure 5 = .ok (.ifCond .eq 16, 3) := dall dgX11_sure_41 3 rfl
theorem dX11_sure_21 : decode cX11_sure 21 = .ok (.iconst (-1), 1) := dall dgX11_sure_41 4 rfl
theorem dX11_sure_22 : decode cX11_sure 22 = .ok (.ireturn, 1) := dall dgX11_sure_41 5 rfl
set_option maxRecDepth 20000 in
theorem ggX11_middle_X11_isHeapNumber : GoodIn wsX11_middle wsX11_isHeapNumber := goodIn_r _ [5, 6, 7, 4, 8] rfl (by decide +kernel)
set_option maxRecDepth 20000 in
theorem gX11_middle_X11_isHeapNumber : GoodIn wsX11_middle (va_wsS RX11 222 yX11_isHeapNumber wsX11_isHeapNumber) := goodIn_app (goodIn_of _ (by decide +kernel)) ggX11_middle_X11_isHeapNumber
set_option maxRecDepth 20000 in
theorem ggX11_middle_X11_within : GoodIn wsX11_middle wsX11_within := goodIn_r _ [8] rfl (by decide +kernel)
set_option maxRecDepth 20000 in
theorem gX11_middle_X11_within : GoodIn wsX11_middle (va_wsS RX11 104 yX11_within wsX11_within) := goodIn_app (goodIn_of _ (by decide +kernel)) ggX11_middle_X11_within
set_option maxRecDepth 20000 in
theorem ggX11_middle_X11_refusedHeap : GoodIn wsX11_middle wsX11_refusedHeap := goodIn_r _ [12, 1, 13, 14, 15, 4, 16, 17, 18, 19, 20, 21, 22, 23, 24, 25, 26, 27, 28, 29, 30, 31, 32, 33, 34, 35, 36, 37, 38, 39, 40, 41, 42, 43, 44, 45, 46, 47, 48, 49, 50, 51, 52, 53, 54, 55, 56, 57, 58, 59, 60, 61, 62, 63, 64, 65, 66, 67, 68, 69, 70, 71, 72, 73, 74, 75, 76, 77, 78, 79, 80, 81, 82, 83, 84, 85, 86, 87, 88, 89, 90, 91, 92, 93, 94, 95, 96, 97, 98, 99, 100, 101, 102, 103, 104, 105, 106, 107, 108, 109, 110, 111, 112, 113, 114, 115, 116, 117, 118, 119, 120, 121, 122, 123, 124, 125, 126, 127, 128, 129, 130, 131, 132, 133, 134, 135, 136, 137, 138, 139, 140, 141, 142, 143, 144, 145, 146, 147, 148, 149, 150, 151, 152, 153, 154, 155, 156, 157, 158, 159, 160, 161, 162, 163, 164, 165, 166, 167, 168, 169, 170, 171, 172, 173, 174, 175, 176, 177, 178, 179, 180, 181, 182, 183, 184, 185, 186, 187, 188, 189, 190, 195, 196, 197, 198, 199, 200, 201, 202, 203, 204, 205, 206, 207, 208, 209, 210, 211, 212, 213, 214, 215, 216, 217, 218, 219, 220, 221, 222, 223, 224, 225, 226, 227, 228, 229, 230, 231, 232, 233, 234, 235, 236, 237, 238, 239, 240, 241, 242, 243, 244, 245, 246, 247, 248, 249, 250, 251, 252, 253, 254] rfl (by decide +kernel)
set_option maxRecDepth 20000 in
theorem gX11_middle_X11_refusedHeap : GoodIn wsX11_middle (wsV RX11 225 RX11 yX11_refusedHeap wsX11_refusedHeap) := goodIn_app (goodIn_of _ (by decide +kernel)) ggX11_middle_X11_refusedHeap
def lgX11_middle_42 : List (Nat × Instr × Nat) := [(0, .iload_n 1, 1), (1, .invokestatic 222, 3), (4, .ifCond .eq 12, 3), (7, .iload_n 2, 1), (8, .iconst 0, 1), (9, .iconst 3, 1), (10, .invokestatic 104, 3), (13, .ifCond .ne 5, 3), (16, .iconst (-1), 1), (17, .ireturn, 1), (18, .aload_n 0, 1), (19, .iload_n 1, 1), (20, .invokevirtual 225, 3), (23, .istore_n 3, 1), (24, .iload_n 3, 1), (25, .ifCond .ge 7, 3), (28, .iload_n 3, 1), (29, .goto 15, 3), (44, .ireturn, 1)]
theorem dgX11_middle_42 : ∀ q ∈ lgX11_middle_42, decode cX11_middle q.1 = .ok (q.2.1, q.2.2) := by decide +kernel
theorem dX11_middle_0 : decode cX11_middle 0 = .ok (.iload_n 1, 1) := dall dgX11_middle_42 0 rfl
theorem dX11_middle_1 : decode cX11_middle 1 = .ok (.invokestatic 222, 3) := dall dgX11_middle_42 1 rfl
theorem dX11_middle_4 : decode cX11_middle 4 = .ok (.ifCond .eq 12, 3) := dall dgX11_middle_42 2 rfl
theorem dX11_middle_7 : decode cX11_middle 7 = .ok (.iload_n 2, 1) := dall dgX11_middle_42 3 rfl
theorem dX11_middle_8 : decode cX11_middle 8 = .ok (.iconst 0, 1) := dall dgX11_middle_42 4 rfl
theorem dX11_middle_9 : decode cX11_middle 9 = .ok (.iconst 3, 1) := dall dgX11_middle_42 5 rfl
theorem dX11_middle_10 : decode cX11_middle 10 = .ok (.invokestatic 104, 3) := dall dgX11_middle_42 6 rfl
theorem dX11_middle_13 : decode cX11_middle 13 = .ok (.ifCond .ne 5, 3) := dall dgX11_middle_42 7 rfl
theorem dX11_middle_16 : decode cX11_middle 16 = .ok (.iconst (-1), 1) := dall dgX11_middle_42 8 rfl
theorem dX11_middle_17 : decode cX11_middle 17 = .ok (.ireturn, 1) := dall dgX11_middle_42 9 rfl
theorem dX11_middle_18 : decode cX11_middle 18 = .ok (.aload_n 0, 1) := dall dgX11_middle_42 10 rfl
theorem dX11_middle_19 : decode cX11_middle 19 = .ok (.iload_n 1, 1) := dall dgX11_middle_42 11 rfl
theorem dX11_middle_20 : decode cX11_middle 20 = .ok (.invokevirtual 225, 3) := dall dgX11_middle_42 12 rfl
theorem dX11_middle_23 : decode cX11_middle 23 = .ok (.istore_n 3, 1) := dall dgX11_middle_42 13 rfl
theorem dX11_middle_24 : decode cX11_middle 24 = .ok (.iload_n 3, 1) := dall dgX11_middle_42 14 rfl
theorem dX11_middle_25 : decode cX11_middle 25 = .ok (.ifCond .ge 7, 3) := dall dgX11_middle_42 15 rfl
theorem dX11_middle_28 : decode cX11_middle 28 = .ok (.iload_n 3, 1) := dall dgX11_middle_42 16 rfl
theorem dX11_middle_29 : decode cX11_middle 29 = .ok (.goto 15, 3) := dall dgX11_middle_42 17 rfl
theorem dX11_middle_44 : decode cX11_middle 44 = .ok (.ireturn, 1) := dall dgX11_middle_42 18 rfl
set_option maxRecDepth 20000 in
theorem ggX11_twice_X11_isPiece : GoodIn wsX11_twice wsX11_isPiece := goodIn_r _ [8, 2, 9, 10, 11, 7, 12, 13, 14, 15, 3, 16, 17, 18, 19, 20, 21, 22, 23, 24, 25, 26, 27, 28, 29, 30, 31, 32, 33, 34, 35, 36, 37, 38, 39, 40, 41, 42, 43, 44, 45, 46, 47, 48, 49, 50, 51, 52, 53, 54, 55, 56, 57, 58, 59, 60, 61, 62, 63, 64, 65, 66, 67, 68, 69, 70, 71, 72, 73, 74, 75, 76, 77, 78, 79, 80, 81, 82, 83, 84, 85, 86, 207, 208, 209, 210, 211, 212, 213, 214, 215, 216, 217, 218, 219, 220, 221, 222, 233, 234, 235, 236, 237, 238, 239, 240, 241, 242, 243, 244, 245, 246, 247, 248, 249, 250, 251, 252, 253, 254, 255, 256, 257] rfl (by decide +kernel)
set_option maxRecDepth 20000 in
theorem gX11_twice_X11_isPiece : GoodIn wsX11_twice (wsV RX11 166 RX11 yX11_isPiece wsX11_isPiece) := goodIn_app (goodIn_of _ (by decide +kernel)) ggX11_twice_X11_isPiece
def lgX11_twice_43 : List (Nat × Instr × Nat) := [(0, .aload_n 0, 1), (1, .iload_n 1, 1), (2, .invokevirtual 166, 3), (5, .ifCond .eq 12, 3), (17, .iconst (-1), 1), (18, .ireturn, 1)]
theorem dgX11_twice_43 : ∀ q ∈ lgX11_twice_43, decode cX11_twice q.1 = .ok (q.2.1, q.2.2) := by decide +kernel
theorem dX11_twice_0 : decode cX11_twice 0 = .ok (.aload_n 0, 1) := dall dgX11_twice_43 0 rfl
theorem dX11_twice_1 : decode cX11_twice 1 = .ok (.iload_n 1, 1) := dall dgX11_twice_43 1 rfl
theorem dX11_twice_2 : decode cX11_twice 2 = .ok (.invokevirtual 166, 3) := dall dgX11_twice_43 2 rfl
theorem dX11_twice_5 : decode cX11_twice 5 = .ok (.ifCond .eq 12, 3) := dall dgX11_twice_43 3 rfl
theorem dX11_twice_17 : decode cX11_twice 17 = .ok (.iconst (-1), 1) := dall dgX11_twice_43 4 rfl
theorem dX11_twice_18 : decode cX11_twice 18 = .ok (.ireturn, 1) := dall dgX11_twice_43 5 rfl
set_option maxRecDepth 20000 in
theorem ggX11_keep_X11_isHeapNumber : GoodIn wsX11_keep wsX11_isHeapNumber := goodIn_r _ [6, 7, 8, 5, 9] rfl (by decide +kernel)
set_option maxRecDepth 20000 in
theorem gX11_keep_X11_isHeapNumber : GoodIn wsX11_keep (va_wsS RX11 222 yX11_isHeapNumber wsX11_isHeapNumber) := goodIn_app (goodIn_of _ (by decide +kernel)) ggX11_keep_X11_isHeapNumber
set_option maxRecDepth 20000 in
theorem ggX11_keep_X11_within : GoodIn wsX11_keep wsX11_within := goodIn_r _ [9] rfl (by decide +kernel)
set_option maxRecDepth 20000 in
theorem gX11_keep_X11_within : GoodIn wsX11_keep (va_wsS RX11 104 yX11_within wsX11_within) := goodIn_app (goodIn_of _ (by decide +kernel)) ggX11_keep_X11_within
set_option maxRecDepth 20000 in
theorem ggX11_keep_X11_refusedHeap : GoodIn wsX11_keep wsX11_refusedHeap := goodIn_r _ [13, 2, 14, 15, 16, 5, 17, 18, 19, 20, 21, 22, 23, 24, 25, 26, 27, 28, 29, 30, 31, 32, 33, 34, 35, 36, 37, 38, 39, 40, 41, 42, 43, 44, 45, 46, 47, 48, 49, 50, 51, 52, 53, 54, 55, 56, 57, 58, 59, 60, 61, 62, 63, 64, 65, 66, 67, 68, 69, 70, 71, 72, 73, 74, 75, 76, 77, 78, 79, 80, 81, 82, 83, 84, 85, 86, 87, 88, 89, 90, 91, 92, 93, 94, 95, 96, 97, 98, 99, 100, 101, 102, 103, 104, 105, 106, 107, 108, 109, 110, 111, 112, 113, 114, 115, 116, 117, 118, 119, 120, 121, 122, 123, 124, 125, 126, 127, 128, 129, 130, 131, 132, 133, 134, 135, 136, 137, 138, 139, 140, 141, 142, 143, 144, 145, 146, 147, 148, 149, 150, 151, 152, 153, 154, 155, 156, 157, 158, 159, 160, 161, 162, 163, 164, 165, 166, 167, 168, 169, 170, 171, 172, 173, 174, 175, 176, 177, 178, 179, 180, 181, 182, 183, 184, 185, 186, 187, 188, 189, 190, 191, 204, 205, 206, 207, 208, 209, 210, 211, 212, 213, 214, 215, 216, 217, 218, 219, 220, 221, 222, 223, 224, 225, 226, 227, 228, 229, 230, 231, 232, 233, 234, 235, 236, 237, 238, 239, 240, 241, 242, 243, 244, 245, 246, 247, 248, 249, 250, 251, 252, 253, 254, 255, 256, 257, 258, 259, 260, 261, 262, 263] rfl (by decide +kernel)
set_option maxRecDepth 20000 in
theorem gX11_keep_X11_refusedHeap : GoodIn wsX11_keep (wsV RX11 225 RX11 yX11_refusedHeap wsX11_refusedHeap) := goodIn_app (goodIn_of _ (by decide +kernel)) ggX11_keep_X11_refusedHeap
def lgX11_keep_44 : List (Nat × Instr × Nat) := [(0, .iload_n 1, 1), (1, .invokestatic 222, 3), (4, .ifCond .eq 13, 3), (7, .iload_n 2, 1), (8, .iconst 1, 1), (9, .bipush 99, 2), (11, .invokestatic 104, 3), (14, .ifCond .ne 5, 3), (17, .iconst (-1), 1), (18, .ireturn, 1), (19, .aload_n 0, 1), (20, .iload_n 1, 1), (21, .invokevirtual 225, 3), (24, .istore_n 3, 1), (25, .iload_n 3, 1), (26, .ifCond .ge 5, 3), (29, .iload_n 3, 1), (30, .ireturn, 1)]
theorem dgX11_keep_44 : ∀ q ∈ lgX11_keep_44, decode cX11_keep q.1 = .ok (q.2.1, q.2.2) := by decide +kernel
theorem dX11_keep_0 : decode cX11_keep 0 = .ok (.iload_n 1, 1) := dall dgX11_keep_44 0 rfl
theorem dX11_keep_1 : decode cX11_keep 1 = .ok (.invokestatic 222, 3) := dall dgX11_keep_44 1 rfl
theorem dX11_keep_4 : decode cX11_keep 4 = .ok (.ifCond .eq 13, 3) := dall dgX11_keep_44 2 rfl
theorem dX11_keep_7 : decode cX11_keep 7 = .ok (.iload_n 2, 1) := dall dgX11_keep_44 3 rfl
theorem dX11_keep_8 : decode cX11_keep 8 = .ok (.iconst 1, 1) := dall dgX11_keep_44 4 rfl
theorem dX11_keep_9 : decode cX11_keep 9 = .ok (.bipush 99, 2) := dall dgX11_keep_44 5 rfl
theorem dX11_keep_11 : decode cX11_keep 11 = .ok (.invokestatic 104, 3) := dall dgX11_keep_44 6 rfl
theorem dX11_keep_14 : decode cX11_keep 14 = .ok (.ifCond .ne 5, 3) := dall dgX11_keep_44 7 rfl
theorem dX11_keep_17 : decode cX11_keep 17 = .ok (.iconst (-1), 1) := dall dgX11_keep_44 8 rfl
theorem dX11_keep_18 : decode cX11_keep 18 = .ok (.ireturn, 1) := dall dgX11_keep_44 9 rfl
theorem dX11_keep_19 : decode cX11_keep 19 = .ok (.aload_n 0, 1) := dall dgX11_keep_44 10 rfl
theorem dX11_keep_20 : decode cX11_keep 20 = .ok (.iload_n 1, 1) := dall dgX11_keep_44 11 rfl
theorem dX11_keep_21 : decode cX11_keep 21 = .ok (.invokevirtual 225, 3) := dall dgX11_keep_44 12 rfl
theorem dX11_keep_24 : decode cX11_keep 24 = .ok (.istore_n 3, 1) := dall dgX11_keep_44 13 rfl
theorem dX11_keep_25 : decode cX11_keep 25 = .ok (.iload_n 3, 1) := dall dgX11_keep_44 14 rfl
theorem dX11_keep_26 : decode cX11_keep 26 = .ok (.ifCond .ge 5, 3) := dall dgX11_keep_44 15 rfl
theorem dX11_keep_29 : decode cX11_keep 29 = .ok (.iload_n 3, 1) := dall dgX11_keep_44 16 rfl
theorem dX11_keep_30 : decode cX11_keep 30 = .ok (.ireturn, 1) := dall dgX11_keep_44 17 rfl
set_option maxRecDepth 20000 in
theorem ggX11_forget_X5_has : GoodIn wsX11_forget wsX5_has := goodIn_r _ [6, 7, 31, 32, 33, 34] rfl (by decide +kernel)
set_option maxRecDepth 20000 in
theorem gX11_forget_X5_has : GoodIn wsX11_forget (wsV RX11 240 RX5 yX5_has wsX5_has) := goodIn_app (goodIn_of _ (by decide +kernel)) ggX11_forget_X5_has
def lgX11_forget_45 : List (Nat × Instr × Nat) := [(0, .aload_n 0, 1), (1, .getfield 61, 3), (4, .iload_n 1, 1), (5, .invokevirtual 240, 3), (8, .ifCond .eq 14, 3), (22, .iconst (-1), 1), (23, .ireturn, 1)]
theorem dgX11_forget_45 : ∀ q ∈ lgX11_forget_45, decode cX11_forget q.1 = .ok (q.2.1, q.2.2) := by decide +kernel
theorem dX11_forget_0 : decode cX11_forget 0 = .ok (.aload_n 0, 1) := dall dgX11_forget_45 0 rfl
theorem dX11_forget_1 : decode cX11_forget 1 = .ok (.getfield 61, 3) := dall dgX11_forget_45 1 rfl
theorem dX11_forget_4 : decode cX11_forget 4 = .ok (.iload_n 1, 1) := dall dgX11_forget_45 2 rfl
theorem dX11_forget_5 : decode cX11_forget 5 = .ok (.invokevirtual 240, 3) := dall dgX11_forget_45 3 rfl
theorem dX11_forget_8 : decode cX11_forget 8 = .ok (.ifCond .eq 14, 3) := dall dgX11_forget_45 4 rfl
theorem dX11_forget_22 : decode cX11_forget 22 = .ok (.iconst (-1), 1) := dall dgX11_forget_45 5 rfl
theorem dX11_forget_23 : decode cX11_forget 23 = .ok (.ireturn, 1) := dall dgX11_forget_45 6 rfl
set_option maxRecDepth 20000 in
theorem ggX11_back_X11_isHeapNumber : GoodIn wsX11_back wsX11_isHeapNumber := goodIn_r _ [7, 8, 9, 6, 10] rfl (by decide +kernel)
set_option maxRecDepth 20000 in
theorem gX11_back_X11_isHeapNumber : GoodIn wsX11_back (va_wsS RX11 222 yX11_isHeapNumber wsX11_isHeapNumber) := goodIn_app (goodIn_of _ (by decide +kernel)) ggX11_back_X11_isHeapNumber
set_option maxRecDepth 20000 in
theorem ggX11_back_X11_within : GoodIn wsX11_back wsX11_within := goodIn_r _ [10] rfl (by decide +kernel)
set_option maxRecDepth 20000 in
theorem gX11_back_X11_within : GoodIn wsX11_back (va_wsS RX11 104 yX11_within wsX11_within) := goodIn_app (goodIn_of _ (by decide +kernel)) ggX11_back_X11_within
set_option maxRecDepth 20000 in
theorem ggX11_back_X11_refusedHeap : GoodIn wsX11_back wsX11_refusedHeap := goodIn_r _ [14, 2, 15, 16, 17, 6, 18, 19, 20, 21, 3, 22, 23, 24, 25, 26, 27, 28, 29, 30, 31, 32, 33, 34, 35, 36, 37, 38, 39, 40, 41, 42, 43, 44, 45, 46, 47, 48, 49, 50, 51, 52, 53, 54, 55, 56, 57, 58, 59, 60, 61, 62, 63, 64, 65, 66, 67, 68, 69, 70, 71, 72, 73, 74, 75, 76, 77, 78, 79, 80, 81, 82, 83, 84, 85, 86, 87, 88, 89, 90, 91, 92, 93, 94, 95, 96, 97, 98, 99, 100, 101, 102, 103, 104, 105, 106, 107, 108, 109, 110, 111, 112, 113, 114, 115, 116, 117, 118, 119, 120, 121, 122, 123, 124, 125, 126, 127, 128, 129, 130, 131, 132, 133, 134, 135, 136, 137, 138, 139, 140, 141, 142, 143, 144, 145, 146, 147, 148, 149, 150, 151, 152, 153, 154, 155, 156, 157, 158, 159, 160, 161, 162, 163, 164, 165, 166, 167, 168, 169, 170, 171, 172, 173, 174, 175, 176, 177, 178, 179, 180, 181, 182, 183, 184, 185, 186, 187, 188, 189, 190, 191, 199, 200, 201, 202, 203, 204, 205, 206, 207, 208, 209, 210, 211, 212, 213, 214, 215, 216, 217, 218, 219, 220, 221, 222, 223, 224, 229, 230, 231, 232, 233, 234, 235, 236, 237, 238, 239, 240, 241, 242, 243, 244, 245, 246, 247, 248, 249, 250, 251, 252, 253, 254, 255, 256, 257, 258, 259, 260, 261, 262] rfl (by decide +kernel)
set_option maxRecDepth 20000 in
theorem gX11_back_X11_refusedHeap : GoodIn wsX11_back (wsV RX11 225 RX11 yX11_refusedHeap wsX11_refusedHeap) := goodIn_app (goodIn_of _ (by decide +kernel)) ggX11_back_X11_refusedHeap
def lgX11_back_46 : List (Nat × Instr × Nat) := [(0, .iload_n 1, 1), (1, .invokestatic 222, 3), (4, .ifCond .eq 12, 3), (7, .iload_n 2, 1), (8, .iconst 0, 1), (9, .iconst 1, 1), (10, .invokestatic 104, 3), (13, .ifCond .ne 5, 3), (16, .iconst (-1), 1), (17, .ireturn, 1), (18, .aload_n 0, 1), (19, .iload_n 1, 1), (20, .invokevirtual 225, 3), (23, .istore_n 3, 1), (24, .iload_n 3, 1), (25, .ifCond .ge 5, 3), (28, .iload_n 3, 1), (29, .ireturn, 1)]
theorem dgX11_back_46 : ∀ q ∈ lgX11_back_46, decode cX11_back q.1 = .ok (q.2.1, q.2.2) := by decide +kernel
theorem dX11_back_0 : decode cX11_back 0 = .ok (.iload_n 1, 1) := dall dgX11_back_46 0 rfl
theorem dX11_back_1 : decode cX11_back 1 = .ok (.invokestatic 222, 3) := dall dgX11_back_46 1 rfl
theorem dX11_back_4 : decode cX11_back 4 = .ok (.ifCond .eq 12, 3) := dall dgX11_back_46 2 rfl
theorem dX11_back_7 : decode cX11_back 7 = .ok (.iload_n 2, 1) := dall dgX11_back_46 3 rfl
theorem dX11_back_8 : decode cX11_back 8 = .ok (.iconst 0, 1) := dall dgX11_back_46 4 rfl
theorem dX11_back_9 : decode cX11_back 9 = .ok (.iconst 1, 1) := dall dgX11_back_46 5 rfl
theorem dX11_back_10 : decode cX11_back 10 = .ok (.invokestatic 104, 3) := dall dgX11_back_46 6 rfl
theorem dX11_back_13 : decode cX11_back 13 = .ok (.ifCond .ne 5, 3) := dall dgX11_back_46 7 rfl
theorem dX11_back_16 : decode cX11_back 16 = .ok (.iconst (-1), 1) := dall dgX11_back_46 8 rfl
theorem dX11_back_17 : decode cX11_back 17 = .ok (.ireturn, 1) := dall dgX11_back_46 9 rfl
theorem dX11_back_18 : decode cX11_back 18 = .ok (.aload_n 0, 1) := dall dgX11_back_46 10 rfl
theorem dX11_back_19 : decode cX11_back 19 = .ok (.iload_n 1, 1) := dall dgX11_back_46 11 rfl
theorem dX11_back_20 : decode cX11_back 20 = .ok (.invokevirtual 225, 3) := dall dgX11_back_46 12 rfl
theorem dX11_back_23 : decode cX11_back 23 = .ok (.istore_n 3, 1) := dall dgX11_back_46 13 rfl
theorem dX11_back_24 : decode cX11_back 24 = .ok (.iload_n 3, 1) := dall dgX11_back_46 14 rfl
theorem dX11_back_25 : decode cX11_back 25 = .ok (.ifCond .ge 5, 3) := dall dgX11_back_46 15 rfl
theorem dX11_back_28 : decode cX11_back 28 = .ok (.iload_n 3, 1) := dall dgX11_back_46 16 rfl
theorem dX11_back_29 : decode cX11_back 29 = .ok (.ireturn, 1) := dall dgX11_back_46 17 rfl
set_option maxRecDepth 20000 in
theorem ggX11_odds_X11_isHeapNumber : GoodIn wsX11_odds wsX11_isHeapNumber := goodIn_r _ [7, 8, 9, 6, 10] rfl (by decide +kernel)
set_option maxRecDepth 20000 in
theorem gX11_odds_X11_isHeapNumber : GoodIn wsX11_odds (va_wsS RX11 222 yX11_isHeapNumber wsX11_isHeapNumber) := goodIn_app (goodIn_of _ (by decide +kernel)) ggX11_odds_X11_isHeapNumber
set_option maxRecDepth 20000 in
theorem ggX11_odds_X5_has : GoodIn wsX11_odds wsX5_has := goodIn_r _ [15, 16, 258, 259, 260, 261] rfl (by decide +kernel)
set_option maxRecDepth 20000 in
theorem gX11_odds_X5_has : GoodIn wsX11_odds (wsV RX11 240 RX5 yX5_has wsX5_has) := goodIn_app (goodIn_of _ (by decide +kernel)) ggX11_odds_X5_has
def lgX11_odds_47 : List (Nat × Instr × Nat) := [(0, .iload_n 1, 1), (1, .invokestatic 222, 3), (4, .ifCond .eq 23, 3), (7, .aload_n 0, 1), (8, .getfield 61, 3), (11, .iload_n 2, 1), (12, .invokevirtual 240, 3), (15, .ifCond .eq 12, 3), (27, .iconst (-1), 1), (28, .ireturn, 1)]
theorem dgX11_odds_47 : ∀ q ∈ lgX11_odds_47, decode cX11_odds q.1 = .ok (q.2.1, q.2.2) := by decide +kernel
theorem dX11_odds_0 : decode cX11_odds 0 = .ok (.iload_n 1, 1) := dall dgX11_odds_47 0 rfl
theorem dX11_odds_1 : decode cX11_odds 1 = .ok (.invokestatic 222, 3) := dall dgX11_odds_47 1 rfl
theorem dX11_odds_4 : decode cX11_odds 4 = .ok (.ifCond .eq 23, 3) := dall dgX11_odds_47 2 rfl
theorem dX11_odds_7 : decode cX11_odds 7 = .ok (.aload_n 0, 1) := dall dgX11_odds_47 3 rfl
theorem dX11_odds_8 : decode cX11_odds 8 = .ok (.getfield 61, 3) := dall dgX11_odds_47 4 rfl
theorem dX11_odds_11 : decode cX11_odds 11 = .ok (.iload_n 2, 1) := dall dgX11_odds_47 5 rfl
theorem dX11_odds_12 : decode cX11_odds 12 = .ok (.invokevirtual 240, 3) := dall dgX11_odds_47 6 rfl
theorem dX11_odds_15 : decode cX11_odds 15 = .ok (.ifCond .eq 12, 3) := dall dgX11_odds_47 7 rfl
theorem dX11_odds_27 : decode cX11_odds 27 = .ok (.iconst (-1), 1) := dall dgX11_odds_47 8 rfl
theorem dX11_odds_28 : decode cX11_odds 28 = .ok (.ireturn, 1) := dall dgX11_odds_47 9 rfl
set_option maxRecDepth 20000 in
theorem ggX11_show_X11_heapNow : GoodIn wsX11_show wsX11_heapNow := goodIn_r _ [8, 9, 10, 11, 12, 13, 1, 14, 15, 16, 17, 18, 7, 19, 20, 21, 22, 23, 24, 25, 26, 27, 28, 29, 30, 31, 32, 33, 34, 35, 36, 37, 38, 39, 40, 41, 42, 43, 44, 45, 46, 47, 48, 49, 50, 51, 52, 53, 54, 55, 56, 57, 58, 59, 60, 61, 62, 63, 64, 65, 66, 67, 68, 69, 70, 71, 72, 73, 74, 75, 76, 77, 78, 79, 80, 81, 82, 83, 84, 85, 86, 87, 88, 89, 90, 91, 92, 93, 94, 95, 96, 97, 98, 99, 100, 101, 102, 103, 104, 105, 106, 107, 108, 109, 110, 111, 112, 113, 114, 115, 116, 117, 118, 119, 120, 121, 122, 123, 124, 125, 126, 127, 128, 129, 130, 131, 132, 133, 134, 135, 136, 137, 138, 139, 140, 141, 142, 143, 144, 145, 146, 147, 148, 149, 150, 151, 152, 153, 154, 155, 156, 157, 158, 159, 160, 161, 162, 163, 164, 165, 166, 167, 168, 169, 170, 171, 172, 173, 174, 175, 176, 177, 178, 179, 180, 181, 182, 190, 191, 192, 193, 194, 195, 196, 197, 198, 199, 200, 201, 202, 203, 204, 205, 211, 212, 213, 214, 215, 216, 217, 218, 219, 220, 221, 222, 223, 224, 225, 226, 227, 228, 229, 230, 231, 232, 233, 234, 235, 236, 237, 206, 207, 208, 209, 210, 238, 239, 240, 241, 242, 243, 244, 245, 246, 247, 248, 249] rfl (by decide +kernel)
set_option maxRecDepth 20000 in
theorem gX11_show_X11_heapNow : GoodIn wsX11_show (wsV RX11 190 RX11 yX11_heapNow wsX11_heapNow) := goodIn_app (goodIn_of _ (by decide +kernel)) ggX11_show_X11_heapNow
def lgX11_show_48 : List (Nat × Instr × Nat) := [(0, .aload_n 0, 1), (1, .invokevirtual 190, 3), (4, .ifCond .ne 6, 3), (10, .iconst 0, 1), (11, .istore_n 1, 1), (12, .iload_n 1, 1), (13, .aload_n 0, 1), (14, .getfield 19, 3), (17, .getfield 130, 3), (20, .if_icmp .ge 20, 3), (40, .aload_n 0, 1), (41, .aload_n 0, 1), (42, .getfield 19, 3), (45, .getfield 130, 3), (48, .putfield 90, 3), (51, .aload_n 0, 1), (52, .getfield 90, 3), (55, .ireturn, 1)]
theorem dgX11_show_48 : ∀ q ∈ lgX11_show_48, decode cX11_show q.1 = .ok (q.2.1, q.2.2) := by decide +kernel
theorem dX11_show_0 : decode cX11_show 0 = .ok (.aload_n 0, 1) := dall dgX11_show_48 0 rfl
theorem dX11_show_1 : decode cX11_show 1 = .ok (.invokevirtual 190, 3) := dall dgX11_show_48 1 rfl
theorem dX11_show_4 : decode cX11_show 4 = .ok (.ifCond .ne 6, 3) := dall dgX11_show_48 2 rfl
theorem dX11_show_10 : decode cX11_show 10 = .ok (.iconst 0, 1) := dall dgX11_show_48 3 rfl
theorem dX11_show_11 : decode cX11_show 11 = .ok (.istore_n 1, 1) := dall dgX11_show_48 4 rfl
theorem dX11_show_12 : decode cX11_show 12 = .ok (.iload_n 1, 1) := dall dgX11_show_48 5 rfl
theorem dX11_show_13 : decode cX11_show 13 = .ok (.aload_n 0, 1) := dall dgX11_show_48 6 rfl
theorem dX11_show_14 : decode cX11_show 14 = .ok (.getfield 19, 3) := dall dgX11_show_48 7 rfl
theorem dX11_show_17 : decode cX11_show 17 = .ok (.getfield 130, 3) := dall dgX11_show_48 8 rfl
theorem dX11_show_20 : decode cX11_show 20 = .ok (.if_icmp .ge 20, 3) := dall dgX11_show_48 9 rfl
theorem dX11_show_40 : decode cX11_show 40 = .ok (.aload_n 0, 1) := dall dgX11_show_48 10 rfl
theorem dX11_show_41 : decode cX11_show 41 = .ok (.aload_n 0, 1) := dall dgX11_show_48 11 rfl
theorem dX11_show_42 : decode cX11_show 42 = .ok (.getfield 19, 3) := dall dgX11_show_48 12 rfl
theorem dX11_show_45 : decode cX11_show 45 = .ok (.getfield 130, 3) := dall dgX11_show_48 13 rfl
theorem dX11_show_48 : decode cX11_show 48 = .ok (.putfield 90, 3) := dall dgX11_show_48 14 rfl
theorem dX11_show_51 : decode cX11_show 51 = .ok (.aload_n 0, 1) := dall dgX11_show_48 15 rfl
theorem dX11_show_52 : decode cX11_show 52 = .ok (.getfield 90, 3) := dall dgX11_show_48 16 rfl
theorem dX11_show_55 : decode cX11_show 55 = .ok (.ireturn, 1) := dall dgX11_show_48 17 rfl
def lgX11_otherwise_49 : List (Nat × Instr × Nat) := [(0, .aload_n 0, 1), (1, .getfield 90, 3), (4, .iconst (-1), 1), (5, .if_icmp .eq 10, 3), (15, .bipush (-2), 2), (17, .ireturn, 1)]
theorem dgX11_otherwise_49 : ∀ q ∈ lgX11_otherwise_49, decode cX11_otherwise q.1 = .ok (q.2.1, q.2.2) := by decide +kernel
theorem dX11_otherwise_0 : decode cX11_otherwise 0 = .ok (.aload_n 0, 1) := dall dgX11_otherwise_49 0 rfl
theorem dX11_otherwise_1 : decode cX11_otherwise 1 = .ok (.getfield 90, 3) := dall dgX11_otherwise_49 1 rfl
theorem dX11_otherwise_4 : decode cX11_otherwise 4 = .ok (.iconst (-1), 1) := dall dgX11_otherwise_49 2 rfl
theorem dX11_otherwise_5 : decode cX11_otherwise 5 = .ok (.if_icmp .eq 10, 3) := dall dgX11_otherwise_49 3 rfl
theorem dX11_otherwise_15 : decode cX11_otherwise 15 = .ok (.bipush (-2), 2) := dall dgX11_otherwise_49 4 rfl
theorem dX11_otherwise_17 : decode cX11_otherwise 17 = .ok (.ireturn, 1) := dall dgX11_otherwise_49 5 rfl
set_option maxRecDepth 20000 in
theorem ggX11_word_X11_areRows : GoodIn wsX11_word wsX11_areRows := goodIn_r _ [6, 7, 16, 17, 18, 19, 20, 21, 22, 23, 24, 25, 26, 27, 28, 29, 30, 31, 32, 33, 34, 35, 36] rfl (by decide +kernel)
set_option maxRecDepth 20000 in
theorem gX11_word_X11_areRows : GoodIn wsX11_word (wsV RX11 140 RX11 yX11_areRows wsX11_areRows) := goodIn_app (goodIn_of _ (by decide +kernel)) ggX11_word_X11_areRows
def lgX11_word_50 : List (Nat × Instr × Nat) := [(0, .aload_n 0, 1), (1, .iload_n 1, 1), (2, .iload_n 2, 1), (3, .invokevirtual 140, 3), (6, .ifCond .eq 15, 3), (21, .iconst (-1), 1), (22, .ireturn, 1)]
theorem dgX11_word_50 : ∀ q ∈ lgX11_word_50, decode cX11_word q.1 = .ok (q.2.1, q.2.2) := by decide +kernel
theorem dX11_word_0 : decode cX11_word 0 = .ok (.aload_n 0, 1) := dall dgX11_word_50 0 rfl
theorem dX11_word_1 : decode cX11_word 1 = .ok (.iload_n 1, 1) := dall dgX11_word_50 1 rfl
theorem dX11_word_2 : decode cX11_word 2 = .ok (.iload_n 2, 1) := dall dgX11_word_50 2 rfl
theorem dX11_word_3 : decode cX11_word 3 = .ok (.invokevirtual 140, 3) := dall dgX11_word_50 3 rfl
theorem dX11_word_6 : decode cX11_word 6 = .ok (.ifCond .eq 15, 3) := dall dgX11_word_50 4 rfl
theorem dX11_word_21 : decode cX11_word 21 = .ok (.iconst (-1), 1) := dall dgX11_word_50 5 rfl
theorem dX11_word_22 : decode cX11_word 22 = .ok (.ireturn, 1) := dall dgX11_word_50 6 rfl
set_option maxRecDepth 20000 in
theorem ggX11_hung_X11_within : GoodIn wsX11_hung wsX11_within := goodIn_r _ [6] rfl (by decide +kernel)
set_option maxRecDepth 20000 in
theorem gX11_hung_X11_within : GoodIn wsX11_hung (va_wsS RX11 104 yX11_within wsX11_within) := goodIn_app (goodIn_of _ (by decide +kernel)) ggX11_hung_X11_within
def lgX11_hung_51 : List (Nat × Instr × Nat) := [(0, .iload_n 1, 1), (1, .iconst 0, 1), (2, .aload_n 0, 1), (3, .getfield 68, 3), (6, .getfield 148, 3), (9, .iconst 1, 1), (10, .isub, 1), (11, .invokestatic 104, 3), (14, .ifCond .eq 12, 3), (26, .iconst (-1), 1), (27, .ireturn, 1)]
theorem dgX11_hung_51 : ∀ q ∈ lgX11_hung_51, decode cX11_hung q.1 = .ok (q.2.1, q.2.2) := by decide +kernel
theorem dX11_hung_0 : decode cX11_hung 0 = .ok (.iload_n 1, 1) := dall dgX11_hung_51 0 rfl
theorem dX11_hung_1 : decode cX11_hung 1 = .ok (.iconst 0, 1) := dall dgX11_hung_51 1 rfl
theorem dX11_hung_2 : decode cX11_hung 2 = .ok (.aload_n 0, 1) := dall dgX11_hung_51 2 rfl
theorem dX11_hung_3 : decode cX11_hung 3 = .ok (.getfield 68, 3) := dall dgX11_hung_51 3 rfl
theorem dX11_hung_6 : decode cX11_hung 6 = .ok (.getfield 148, 3) := dall dgX11_hung_51 4 rfl
theorem dX11_hung_9 : decode cX11_hung 9 = .ok (.iconst 1, 1) := dall dgX11_hung_51 5 rfl
theorem dX11_hung_10 : decode cX11_hung 10 = .ok (.isub, 1) := dall dgX11_hung_51 6 rfl
theorem dX11_hung_11 : decode cX11_hung 11 = .ok (.invokestatic 104, 3) := dall dgX11_hung_51 7 rfl
theorem dX11_hung_14 : decode cX11_hung 14 = .ok (.ifCond .eq 12, 3) := dall dgX11_hung_51 8 rfl
theorem dX11_hung_26 : decode cX11_hung 26 = .ok (.iconst (-1), 1) := dall dgX11_hung_51 9 rfl
theorem dX11_hung_27 : decode cX11_hung 27 = .ok (.ireturn, 1) := dall dgX11_hung_51 10 rfl
set_option maxRecDepth 20000 in
theorem ggX11_truth_X11_areRows : GoodIn wsX11_truth wsX11_areRows := goodIn_r _ [6, 1, 21, 22, 23, 24, 25, 26, 27, 28, 29, 30, 31, 32, 33, 34, 35, 36, 37, 38, 39, 40, 41] rfl (by decide +kernel)
set_option maxRecDepth 20000 in
theorem gX11_truth_X11_areRows : GoodIn wsX11_truth (wsV RX11 140 RX11 yX11_areRows wsX11_areRows) := goodIn_app (goodIn_of _ (by decide +kernel)) ggX11_truth_X11_areRows
def lgX11_truth_52 : List (Nat × Instr × Nat) := [(0, .aload_n 0, 1), (1, .iload_n 1, 1), (2, .iload_n 2, 1), (3, .invokevirtual 140, 3), (6, .ifCond .eq 25, 3), (31, .iconst (-1), 1), (32, .ireturn, 1)]
theorem dgX11_truth_52 : ∀ q ∈ lgX11_truth_52, decode cX11_truth q.1 = .ok (q.2.1, q.2.2) := by decide +kernel
theorem dX11_truth_0 : decode cX11_truth 0 = .ok (.aload_n 0, 1) := dall dgX11_truth_52 0 rfl
theorem dX11_truth_1 : decode cX11_truth 1 = .ok (.iload_n 1, 1) := dall dgX11_truth_52 1 rfl
theorem dX11_truth_2 : decode cX11_truth 2 = .ok (.iload_n 2, 1) := dall dgX11_truth_52 2 rfl
theorem dX11_truth_3 : decode cX11_truth 3 = .ok (.invokevirtual 140, 3) := dall dgX11_truth_52 3 rfl
theorem dX11_truth_6 : decode cX11_truth 6 = .ok (.ifCond .eq 25, 3) := dall dgX11_truth_52 4 rfl
theorem dX11_truth_31 : decode cX11_truth 31 = .ok (.iconst (-1), 1) := dall dgX11_truth_52 5 rfl
theorem dX11_truth_32 : decode cX11_truth 32 = .ok (.ireturn, 1) := dall dgX11_truth_52 6 rfl
set_option maxRecDepth 20000 in
theorem ggX11_errors_X11_within : GoodIn wsX11_errors wsX11_within := goodIn_r _ [8] rfl (by decide +kernel)
set_option maxRecDepth 20000 in
theorem gX11_errors_X11_within : GoodIn wsX11_errors (va_wsS RX11 104 yX11_within wsX11_within) := goodIn_app (goodIn_of _ (by decide +kernel)) ggX11_errors_X11_within
set_option maxRecDepth 20000 in
theorem ggX11_errors_X11_cutNow : GoodIn wsX11_errors wsX11_cutNow := goodIn_r _ [12, 13, 3, 2, 14, 15, 16, 17, 18, 19, 20, 21, 22, 23, 24, 25, 26, 27, 28, 29, 30, 31, 32, 33, 34, 35, 36, 37, 38, 39, 40, 41, 42, 43, 44, 45, 46, 47, 48, 49, 50, 51, 52, 53, 54, 55, 56, 57, 58, 59, 60, 61, 62, 63, 64, 65, 66, 67, 68, 69, 70, 71, 72, 73, 74, 75, 76, 77, 78, 79, 80, 81, 82, 83, 210, 211, 212, 213, 214, 215, 216, 217, 218, 219, 220, 221, 222, 223, 224, 225, 236, 237, 238, 239, 240, 241, 242, 243, 244, 245, 246, 247, 248, 249, 250, 251, 252, 253, 254, 255, 256, 257, 258, 259, 260] rfl (by decide +kernel)
set_option maxRecDepth 20000 in
theorem gX11_errors_X11_cutNow : GoodIn wsX11_errors (wsV RX11 151 RX11 yX11_cutNow wsX11_cutNow) := goodIn_app (goodIn_of _ (by decide +kernel)) ggX11_errors_X11_cutNow
set_option maxRecDepth 20000 in
theorem ggX11_errors_X9_missed : GoodIn wsX11_errors wsX9_missed := goodIn_r _ [88, 253, 254, 255, 256, 257, 241, 242, 243, 244, 245, 246, 247, 248, 249, 250, 251, 252] rfl (by decide +kernel)
set_option maxRecDepth 20000 in
theorem gX11_errors_X9_missed : GoodIn wsX11_errors (wsV RX11 274 RX9 yX9_missed wsX9_missed) := goodIn_app (goodIn_of _ (by decide +kernel)) ggX11_errors_X9_missed
set_option maxRecDepth 20000 in
theorem ggX11_errors_X9_madeUp : GoodIn wsX11_errors wsX9_madeUp := goodIn_r _ [92, 253, 254, 255, 256, 257, 241, 242, 243, 244, 245, 246, 247, 248, 249, 250, 251, 252] rfl (by decide +kernel)
set_option maxRecDepth 20000 in
theorem gX11_errors_X9_madeUp : GoodIn wsX11_errors (wsV RX11 278 RX9 yX9_madeUp wsX9_madeUp) := goodIn_app (goodIn_of _ (by decide +kernel)) ggX11_errors_X9_madeUp
set_option maxRecDepth 20000 in
theorem ggX11_errors_X11_heapNow : GoodIn wsX11_errors wsX11_heapNow := goodIn_r _ [96, 3, 97, 98, 15, 4, 2, 14, 99, 9, 10, 11, 7, 12, 13, 16, 17, 18, 19, 20, 21, 22, 23, 24, 25, 26, 27, 28, 29, 30, 31, 32, 33, 34, 35, 36, 37, 38, 39, 40, 41, 42, 43, 44, 45, 46, 47, 48, 49, 50, 51, 52, 53, 54, 55, 56, 57, 58, 59, 60, 61, 62, 63, 64, 65, 66, 67, 68, 69, 70, 71, 72, 73, 74, 75, 76, 77, 78, 79, 80, 81, 82, 83, 100, 101, 102, 103, 104, 105, 106, 107, 108, 109, 110, 111, 112, 113, 114, 115, 116, 117, 118, 119, 120, 121, 122, 123, 124, 125, 126, 127, 128, 129, 130, 131, 132, 133, 134, 135, 136, 137, 138, 139, 140, 141, 142, 143, 144, 145, 146, 147, 148, 149, 150, 151, 152, 153, 154, 155, 156, 157, 158, 159, 160, 161, 162, 163, 164, 165, 166, 167, 168, 169, 170, 171, 172, 173, 174, 175, 176, 177, 178, 179, 180, 181, 182, 183, 184, 185, 186, 187, 188, 189, 190, 191, 192, 193, 210, 211, 212, 213, 214, 215, 216, 217, 218, 219, 220, 221, 222, 223, 224, 225, 241, 242, 243, 244, 245, 246, 247, 248, 249, 250, 251, 252, 226, 227, 228, 229, 230, 231, 232, 233, 234, 235, 236, 237, 238, 239, 240, 253, 254, 255, 256, 257, 258, 259, 260, 261, 262, 263, 264, 265, 266, 267, 268, 269] rfl (by decide +kernel)
set_option maxRecDepth 20000 in
theorem gX11_errors_X11_heapNow : GoodIn wsX11_errors (wsV RX11 190 RX11 yX11_heapNow wsX11_heapNow) := goodIn_app (goodIn_of _ (by decide +kernel)) ggX11_errors_X11_heapNow
set_option maxRecDepth 20000 in
theorem ggX11_errors_X9_wrong : GoodIn wsX11_errors wsX9_wrong := goodIn_r _ [197, 198, 199, 200, 201, 202, 87, 203, 204, 34, 35, 36, 205, 206, 207, 208, 209, 64, 65, 66, 270, 271, 265, 266, 267, 268, 269, 253, 254, 255, 256, 257, 241, 242, 243, 244, 245, 246, 247, 248, 249, 250, 251, 252] rfl (by decide +kernel)
set_option maxRecDepth 20000 in
theorem gX11_errors_X9_wrong : GoodIn wsX11_errors (wsV RX11 281 RX9 yX9_wrong wsX9_wrong) := goodIn_app (goodIn_of _ (by decide +kernel)) ggX11_errors_X9_wrong
def lgX11_errors_53 : List (Nat × Instr × Nat) := [(0, .iload_n 1, 1), (1, .iconst 0, 1), (2, .iconst 2, 1), (3, .invokestatic 104, 3), (6, .ifCond .ne 5, 3), (9, .iconst (-1), 1), (10, .ireturn, 1), (11, .aload_n 0, 1), (12, .invokevirtual 151, 3), (15, .iload_n 1, 1), (16, .ifCond .ne 19, 3), (19, .aload_n 0, 1), (20, .getfield 75, 3), (23, .aload_n 0, 1), (24, .getfield 19, 3), (27, .aload_n 0, 1), (28, .getfield 33, 3), (31, .invokevirtual 274, 3), (34, .ireturn, 1), (35, .iload_n 1, 1), (36, .iconst 1, 1), (37, .if_icmp .ne 19, 3), (40, .aload_n 0, 1), (41, .getfield 75, 3), (44, .aload_n 0, 1), (45, .getfield 19, 3), (48, .aload_n 0, 1), (49, .getfield 33, 3), (52, .invokevirtual 278, 3), (55, .ireturn, 1), (56, .aload_n 0, 1), (57, .invokevirtual 190, 3), (60, .ifCond .eq 28, 3), (63, .aload_n 0, 1), (64, .getfield 75, 3), (67, .aload_n 0, 1), (68, .getfield 19, 3), (71, .aload_n 0, 1), (72, .getfield 33, 3), (75, .aload_n 0, 1), (76, .getfield 47, 3), (79, .getfield 228, 3), (82, .invokevirtual 281, 3), (85, .goto 5, 3), (90, .ireturn, 1)]
theorem dgX11_errors_53 : ∀ q ∈ lgX11_errors_53, decode cX11_errors q.1 = .ok (q.2.1, q.2.2) := by decide +kernel
theorem dX11_errors_0 : decode cX11_errors 0 = .ok (.iload_n 1, 1) := dall dgX11_errors_53 0 rfl
theorem dX11_errors_1 : decode cX11_errors 1 = .ok (.iconst 0, 1) := dall dgX11_errors_53 1 rfl
theorem dX11_errors_2 : decode cX11_errors 2 = .ok (.iconst 2, 1) := dall dgX11_errors_53 2 rfl
theorem dX11_errors_3 : decode cX11_errors 3 = .ok (.invokestatic 104, 3) := dall dgX11_errors_53 3 rfl
theorem dX11_errors_6 : decode cX11_errors 6 = .ok (.ifCond .ne 5, 3) := dall dgX11_errors_53 4 rfl
theorem dX11_errors_9 : decode cX11_errors 9 = .ok (.iconst (-1), 1) := dall dgX11_errors_53 5 rfl
theorem dX11_errors_10 : decode cX11_errors 10 = .ok (.ireturn, 1) := dall dgX11_errors_53 6 rfl
theorem dX11_errors_11 : decode cX11_errors 11 = .ok (.aload_n 0, 1) := dall dgX11_errors_53 7 rfl
theorem dX11_errors_12 : decode cX11_errors 12 = .ok (.invokevirtual 151, 3) := dall dgX11_errors_53 8 rfl
theorem dX11_errors_15 : decode cX11_errors 15 = .ok (.iload_n 1, 1) := dall dgX11_errors_53 9 rfl
theorem dX11_errors_16 : decode cX11_errors 16 = .ok (.ifCond .ne 19, 3) := dall dgX11_errors_53 10 rfl
theorem dX11_errors_19 : decode cX11_errors 19 = .ok (.aload_n 0, 1) := dall dgX11_errors_53 11 rfl
theorem dX11_errors_20 : decode cX11_errors 20 = .ok (.getfield 75, 3) := dall dgX11_errors_53 12 rfl
theorem dX11_errors_23 : decode cX11_errors 23 = .ok (.aload_n 0, 1) := dall dgX11_errors_53 13 rfl
theorem dX11_errors_24 : decode cX11_errors 24 = .ok (.getfield 19, 3) := dall dgX11_errors_53 14 rfl
theorem dX11_errors_27 : decode cX11_errors 27 = .ok (.aload_n 0, 1) := dall dgX11_errors_53 15 rfl
theorem dX11_errors_28 : decode cX11_errors 28 = .ok (.getfield 33, 3) := dall dgX11_errors_53 16 rfl
theorem dX11_errors_31 : decode cX11_errors 31 = .ok (.invokevirtual 274, 3) := dall dgX11_errors_53 17 rfl
theorem dX11_errors_34 : decode cX11_errors 34 = .ok (.ireturn, 1) := dall dgX11_errors_53 18 rfl
theorem dX11_errors_35 : decode cX11_errors 35 = .ok (.iload_n 1, 1) := dall dgX11_errors_53 19 rfl
theorem dX11_errors_36 : decode cX11_errors 36 = .ok (.iconst 1, 1) := dall dgX11_errors_53 20 rfl
theorem dX11_errors_37 : decode cX11_errors 37 = .ok (.if_icmp .ne 19, 3) := dall dgX11_errors_53 21 rfl
theorem dX11_errors_40 : decode cX11_errors 40 = .ok (.aload_n 0, 1) := dall dgX11_errors_53 22 rfl
theorem dX11_errors_41 : decode cX11_errors 41 = .ok (.getfield 75, 3) := dall dgX11_errors_53 23 rfl
theorem dX11_errors_44 : decode cX11_errors 44 = .ok (.aload_n 0, 1) := dall dgX11_errors_53 24 rfl
theorem dX11_errors_45 : decode cX11_errors 45 = .ok (.getfield 19, 3) := dall dgX11_errors_53 25 rfl
theorem dX11_errors_48 : decode cX11_errors 48 = .ok (.aload_n 0, 1) := dall dgX11_errors_53 26 rfl
theorem dX11_errors_49 : decode cX11_errors 49 = .ok (.getfield 33, 3) := dall dgX11_errors_53 27 rfl
theorem dX11_errors_52 : decode cX11_errors 52 = .ok (.invokevirtual 278, 3) := dall dgX11_errors_53 28 rfl
theorem dX11_errors_55 : decode cX11_errors 55 = .ok (.ireturn, 1) := dall dgX11_errors_53 29 rfl
theorem dX11_errors_56 : decode cX11_errors 56 = .ok (.aload_n 0, 1) := dall dgX11_errors_53 30 rfl
theorem dX11_errors_57 : decode cX11_errors 57 = .ok (.invokevirtual 190, 3) := dall dgX11_errors_53 31 rfl
theorem dX11_errors_60 : decode cX11_errors 60 = .ok (.ifCond .eq 28, 3) := dall dgX11_errors_53 32 rfl
theorem dX11_errors_63 : decode cX11_errors 63 = .ok (.aload_n 0, 1) := dall dgX11_errors_53 33 rfl
theorem dX11_errors_64 : decode cX11_errors 64 = .ok (.getfield 75, 3) := dall dgX11_errors_53 34 rfl
theorem dX11_errors_67 : decode cX11_errors 67 = .ok (.aload_n 0, 1) := dall dgX11_errors_53 35 rfl
theorem dX11_errors_68 : decode cX11_errors 68 = .ok (.getfield 19, 3) := dall dgX11_errors_53 36 rfl
theorem dX11_errors_71 : decode cX11_errors 71 = .ok (.aload_n 0, 1) := dall dgX11_errors_53 37 rfl
theorem dX11_errors_72 : decode cX11_errors 72 = .ok (.getfield 33, 3) := dall dgX11_errors_53 38 rfl
theorem dX11_errors_75 : decode cX11_errors 75 = .ok (.aload_n 0, 1) := dall dgX11_errors_53 39 rfl
theorem dX11_errors_76 : decode cX11_errors 76 = .ok (.getfield 47, 3) := dall dgX11_errors_53 40 rfl
theorem dX11_errors_79 : decode cX11_errors 79 = .ok (.getfield 228, 3) := dall dgX11_errors_53 41 rfl
theorem dX11_errors_82 : decode cX11_errors 82 = .ok (.invokevirtual 281, 3) := dall dgX11_errors_53 42 rfl
theorem dX11_errors_85 : decode cX11_errors 85 = .ok (.goto 5, 3) := dall dgX11_errors_53 43 rfl
theorem dX11_errors_90 : decode cX11_errors 90 = .ok (.ireturn, 1) := dall dgX11_errors_53 44 rfl
set_option maxRecDepth 20000 in
theorem ggX11_weight_X11_within : GoodIn wsX11_weight wsX11_within := goodIn_r _ [7] rfl (by decide +kernel)
set_option maxRecDepth 20000 in
theorem gX11_weight_X11_within : GoodIn wsX11_weight (va_wsS RX11 104 yX11_within wsX11_within) := goodIn_app (goodIn_of _ (by decide +kernel)) ggX11_weight_X11_within
set_option maxRecDepth 20000 in
theorem ggX11_weight_X11_isPiece : GoodIn wsX11_weight wsX11_isPiece := goodIn_r _ [11, 2, 12, 13, 14, 6, 15, 16, 17, 18, 19, 20, 21, 22, 23, 24, 25, 26, 27, 28, 29, 30, 31, 32, 33, 34, 35, 36, 37, 38, 39, 40, 41, 42, 43, 44, 45, 46, 47, 48, 49, 50, 51, 52, 53, 54, 55, 56, 57, 58, 59, 60, 61, 62, 63, 64, 65, 66, 67, 68, 69, 70, 71, 72, 73, 74, 75, 76, 77, 78, 79, 80, 81, 82, 83, 84, 85, 86, 87, 4, 5, 7, 138, 139, 140, 141, 142, 143, 144, 145, 146, 147, 148, 149, 150, 151, 152, 153, 158, 159, 160, 161, 162, 163, 164, 165, 166, 167, 168, 169, 170, 171, 172, 173, 174, 175, 176, 177, 178, 179, 180, 181, 182] rfl (by decide +kernel)
set_option maxRecDepth 20000 in
theorem gX11_weight_X11_isPiece : GoodIn wsX11_weight (wsV RX11 166 RX11 yX11_isPiece wsX11_isPiece) := goodIn_app (goodIn_of _ (by decide +kernel)) ggX11_weight_X11_isPiece
def lgX11_weight_54 : List (Nat × Instr × Nat) := [(0, .iload_n 1, 1), (1, .iconst 0, 1), (2, .bipush 7, 2), (4, .invokestatic 104, 3), (7, .ifCond .eq 11, 3), (10, .aload_n 0, 1), (11, .iload_n 2, 1), (12, .invokevirtual 166, 3), (15, .ifCond .ne 5, 3), (18, .iconst (-1), 1), (19, .ireturn, 1)]
theorem dgX11_weight_54 : ∀ q ∈ lgX11_weight_54, decode cX11_weight q.1 = .ok (q.2.1, q.2.2) := by decide +kernel
theorem dX11_weight_0 : decode cX11_weight 0 = .ok (.iload_n 1, 1) := dall dgX11_weight_54 0 rfl
theorem dX11_weight_1 : decode cX11_weight 1 = .ok (.iconst 0, 1) := dall dgX11_weight_54 1 rfl
theorem dX11_weight_2 : decode cX11_weight 2 = .ok (.bipush 7, 2) := dall dgX11_weight_54 2 rfl
theorem dX11_weight_4 : decode cX11_weight 4 = .ok (.invokestatic 104, 3) := dall dgX11_weight_54 3 rfl
theorem dX11_weight_7 : decode cX11_weight 7 = .ok (.ifCond .eq 11, 3) := dall dgX11_weight_54 4 rfl
theorem dX11_weight_10 : decode cX11_weight 10 = .ok (.aload_n 0, 1) := dall dgX11_weight_54 5 rfl
theorem dX11_weight_11 : decode cX11_weight 11 = .ok (.iload_n 2, 1) := dall dgX11_weight_54 6 rfl
theorem dX11_weight_12 : decode cX11_weight 12 = .ok (.invokevirtual 166, 3) := dall dgX11_weight_54 7 rfl
theorem dX11_weight_15 : decode cX11_weight 15 = .ok (.ifCond .ne 5, 3) := dall dgX11_weight_54 8 rfl
theorem dX11_weight_18 : decode cX11_weight 18 = .ok (.iconst (-1), 1) := dall dgX11_weight_54 9 rfl
theorem dX11_weight_19 : decode cX11_weight 19 = .ok (.ireturn, 1) := dall dgX11_weight_54 10 rfl
set_option maxRecDepth 20000 in
theorem ggX11_count_X7_deafRows : GoodIn wsX11_count wsX7_deafRows := goodIn_r _ [9, 10, 11, 33, 34, 35, 36, 37] rfl (by decide +kernel)
set_option maxRecDepth 20000 in
theorem gX11_count_X7_deafRows : GoodIn wsX11_count (wsV RX11 292 RX7 yX7_deafRows wsX7_deafRows) := goodIn_app (goodIn_of _ (by decide +kernel)) ggX11_count_X7_deafRows
set_option maxRecDepth 20000 in
theorem ggX11_count_X7_outRows : GoodIn wsX11_count wsX7_outRows := goodIn_r _ [15, 10, 16, 33, 34, 35, 36, 37] rfl (by decide +kernel)
set_option maxRecDepth 20000 in
theorem gX11_count_X7_outRows : GoodIn wsX11_count (wsV RX11 295 RX7 yX7_outRows wsX7_outRows) := goodIn_app (goodIn_of _ (by decide +kernel)) ggX11_count_X7_outRows
def lgX11_count_55 : List (Nat × Instr × Nat) := [(0, .iload_n 1, 1), (1, .tableswitch 87 0 5 #[39, 47, 55, 63, 71, 79], 39), (40, .aload_n 0, 1), (41, .getfield 19, 3), (44, .getfield 130, 3), (47, .ireturn, 1), (48, .aload_n 0, 1), (49, .getfield 19, 3), (52, .invokevirtual 292, 3), (55, .ireturn, 1), (56, .aload_n 0, 1), (57, .getfield 19, 3), (60, .invokevirtual 295, 3), (63, .ireturn, 1), (64, .aload_n 0, 1), (65, .getfield 61, 3), (68, .getfield 285, 3), (71, .ireturn, 1), (72, .aload_n 0, 1), (73, .getfield 68, 3), (76, .getfield 148, 3), (79, .ireturn, 1), (80, .aload_n 0, 1), (81, .getfield 10, 3), (84, .getfield 112, 3), (87, .ireturn, 1), (88, .iconst (-1), 1), (89, .ireturn, 1)]
theorem dgX11_count_55 : ∀ q ∈ lgX11_count_55, decode cX11_count q.1 = .ok (q.2.1, q.2.2) := by decide +kernel
theorem dX11_count_0 : decode cX11_count 0 = .ok (.iload_n 1, 1) := dall dgX11_count_55 0 rfl
theorem dX11_count_1 : decode cX11_count 1 = .ok (.tableswitch 87 0 5 #[39, 47, 55, 63, 71, 79], 39) := dall dgX11_count_55 1 rfl
theorem dX11_count_40 : decode cX11_count 40 = .ok (.aload_n 0, 1) := dall dgX11_count_55 2 rfl
theorem dX11_count_41 : decode cX11_count 41 = .ok (.getfield 19, 3) := dall dgX11_count_55 3 rfl
theorem dX11_count_44 : decode cX11_count 44 = .ok (.getfield 130, 3) := dall dgX11_count_55 4 rfl
theorem dX11_count_47 : decode cX11_count 47 = .ok (.ireturn, 1) := dall dgX11_count_55 5 rfl
theorem dX11_count_48 : decode cX11_count 48 = .ok (.aload_n 0, 1) := dall dgX11_count_55 6 rfl
theorem dX11_count_49 : decode cX11_count 49 = .ok (.getfield 19, 3) := dall dgX11_count_55 7 rfl
theorem dX11_count_52 : decode cX11_count 52 = .ok (.invokevirtual 292, 3) := dall dgX11_count_55 8 rfl
theorem dX11_count_55 : decode cX11_count 55 = .ok (.ireturn, 1) := dall dgX11_count_55 9 rfl
theorem dX11_count_56 : decode cX11_count 56 = .ok (.aload_n 0, 1) := dall dgX11_count_55 10 rfl
theorem dX11_count_57 : decode cX11_count 57 = .ok (.getfield 19, 3) := dall dgX11_count_55 11 rfl
theorem dX11_count_60 : decode cX11_count 60 = .ok (.invokevirtual 295, 3) := dall dgX11_count_55 12 rfl
theorem dX11_count_63 : decode cX11_count 63 = .ok (.ireturn, 1) := dall dgX11_count_55 13 rfl
theorem dX11_count_64 : decode cX11_count 64 = .ok (.aload_n 0, 1) := dall dgX11_count_55 14 rfl
theorem dX11_count_65 : decode cX11_count 65 = .ok (.getfield 61, 3) := dall dgX11_count_55 15 rfl
theorem dX11_count_68 : decode cX11_count 68 = .ok (.getfield 285, 3) := dall dgX11_count_55 16 rfl
theorem dX11_count_71 : decode cX11_count 71 = .ok (.ireturn, 1) := dall dgX11_count_55 17 rfl
theorem dX11_count_72 : decode cX11_count 72 = .ok (.aload_n 0, 1) := dall dgX11_count_55 18 rfl
theorem dX11_count_73 : decode cX11_count 73 = .ok (.getfield 68, 3) := dall dgX11_count_55 19 rfl
theorem dX11_count_76 : decode cX11_count 76 = .ok (.getfield 148, 3) := dall dgX11_count_55 20 rfl
theorem dX11_count_79 : decode cX11_count 79 = .ok (.ireturn, 1) := dall dgX11_count_55 21 rfl
theorem dX11_count_80 : decode cX11_count 80 = .ok (.aload_n 0, 1) := dall dgX11_count_55 22 rfl
theorem dX11_count_81 : decode cX11_count 81 = .ok (.getfield 10, 3) := dall dgX11_count_55 23 rfl
theorem dX11_count_84 : decode cX11_count 84 = .ok (.getfield 112, 3) := dall dgX11_count_55 24 rfl
theorem dX11_count_87 : decode cX11_count 87 = .ok (.ireturn, 1) := dall dgX11_count_55 25 rfl
theorem dX11_count_88 : decode cX11_count 88 = .ok (.iconst (-1), 1) := dall dgX11_count_55 26 rfl
theorem dX11_count_89 : decode cX11_count 89 = .ok (.ireturn, 1) := dall dgX11_count_55 27 rfl
def lgX11_trace_56 : List (Nat × Instr × Nat) := [(0, .aload_n 0, 1), (1, .getfield 82, 3), (4, .getfield 298, 3), (7, .lreturn, 1)]
theorem dgX11_trace_56 : ∀ q ∈ lgX11_trace_56, decode cX11_trace q.1 = .ok (q.2.1, q.2.2) := by decide +kernel
theorem dX11_trace_0 : decode cX11_trace 0 = .ok (.aload_n 0, 1) := dall dgX11_trace_56 0 rfl
theorem dX11_trace_1 : decode cX11_trace 1 = .ok (.getfield 82, 3) := dall dgX11_trace_56 1 rfl
theorem dX11_trace_4 : decode cX11_trace 4 = .ok (.getfield 298, 3) := dall dgX11_trace_56 2 rfl
theorem dX11_trace_7 : decode cX11_trace 7 = .ok (.lreturn, 1) := dall dgX11_trace_56 3 rfl
def lgX11_within_57 : List (Nat × Instr × Nat) := [(0, .iload_n 0, 1), (1, .iload_n 1, 1), (2, .if_icmp .lt 12, 3), (5, .iload_n 0, 1), (6, .iload_n 2, 1), (7, .if_icmp .gt 7, 3), (10, .iconst 1, 1), (11, .goto 4, 3), (14, .iconst 0, 1), (15, .ireturn, 1)]
theorem dgX11_within_57 : ∀ q ∈ lgX11_within_57, decode cX11_within q.1 = .ok (q.2.1, q.2.2) := by decide +kernel
theorem dX11_within_0 : decode cX11_within 0 = .ok (.iload_n 0, 1) := dall dgX11_within_57 0 rfl
theorem dX11_within_1 : decode cX11_within 1 = .ok (.iload_n 1, 1) := dall dgX11_within_57 1 rfl
theorem dX11_within_2 : decode cX11_within 2 = .ok (.if_icmp .lt 12, 3) := dall dgX11_within_57 2 rfl
theorem dX11_within_5 : decode cX11_within 5 = .ok (.iload_n 0, 1) := dall dgX11_within_57 3 rfl
theorem dX11_within_6 : decode cX11_within 6 = .ok (.iload_n 2, 1) := dall dgX11_within_57 4 rfl
theorem dX11_within_7 : decode cX11_within 7 = .ok (.if_icmp .gt 7, 3) := dall dgX11_within_57 5 rfl
theorem dX11_within_10 : decode cX11_within 10 = .ok (.iconst 1, 1) := dall dgX11_within_57 6 rfl
theorem dX11_within_11 : decode cX11_within 11 = .ok (.goto 4, 3) := dall dgX11_within_57 7 rfl
theorem dX11_within_14 : decode cX11_within 14 = .ok (.iconst 0, 1) := dall dgX11_within_57 8 rfl
theorem dX11_within_15 : decode cX11_within 15 = .ok (.ireturn, 1) := dall dgX11_within_57 9 rfl
set_option maxRecDepth 20000 in
theorem ggX11_isLoudness_X11_within : GoodIn wsX11_isLoudness wsX11_within := goodIn_r _ [4] rfl (by decide +kernel)
set_option maxRecDepth 20000 in
theorem gX11_isLoudness_X11_within : GoodIn wsX11_isLoudness (va_wsS RX11 104 yX11_within wsX11_within) := goodIn_app (goodIn_of _ (by decide +kernel)) ggX11_isLoudness_X11_within
def lgX11_isLoudness_58 : List (Nat × Instr × Nat) := [(0, .iload_n 0, 1), (1, .iconst 0, 1), (2, .bipush 99, 2), (4, .invokestatic 104, 3), (7, .ireturn, 1)]
theorem dgX11_isLoudness_58 : ∀ q ∈ lgX11_isLoudness_58, decode cX11_isLoudness q.1 = .ok (q.2.1, q.2.2) := by decide +kernel
theorem dX11_isLoudness_0 : decode cX11_isLoudness 0 = .ok (.iload_n 0, 1) := dall dgX11_isLoudness_58 0 rfl
theorem dX11_isLoudness_1 : decode cX11_isLoudness 1 = .ok (.iconst 0, 1) := dall dgX11_isLoudness_58 1 rfl
theorem dX11_isLoudness_2 : decode cX11_isLoudness 2 = .ok (.bipush 99, 2) := dall dgX11_isLoudness_58 2 rfl
theorem dX11_isLoudness_4 : decode cX11_isLoudness 4 = .ok (.invokestatic 104, 3) := dall dgX11_isLoudness_58 3 rfl
theorem dX11_isLoudness_7 : decode cX11_isLoudness 7 = .ok (.ireturn, 1) := dall dgX11_isLoudness_58 4 rfl
set_option maxRecDepth 20000 in
theorem ggX11_isHeapNumber_X11_within : GoodIn wsX11_isHeapNumber wsX11_within := goodIn_r _ [4] rfl (by decide +kernel)
set_option maxRecDepth 20000 in
theorem gX11_isHeapNumber_X11_within : GoodIn wsX11_isHeapNumber (va_wsS RX11 104 yX11_within wsX11_within) := goodIn_app (goodIn_of _ (by decide +kernel)) ggX11_isHeapNumber_X11_within
def lgX11_isHeapNumber_59 : List (Nat × Instr × Nat) := [(0, .iload_n 0, 1), (1, .iconst 0, 1), (2, .bipush 8, 2), (4, .invokestatic 104, 3), (7, .ireturn, 1)]
theorem dgX11_isHeapNumber_59 : ∀ q ∈ lgX11_isHeapNumber_59, decode cX11_isHeapNumber q.1 = .ok (q.2.1, q.2.2) := by decide +kernel
theorem dX11_isHeapNumber_0 : decode cX11_isHeapNumber 0 = .ok (.iload_n 0, 1) := dall dgX11_isHeapNumber_59 0 rfl
theorem dX11_isHeapNumber_1 : decode cX11_isHeapNumber 1 = .ok (.iconst 0, 1) := dall dgX11_isHeapNumber_59 1 rfl
theorem dX11_isHeapNumber_2 : decode cX11_isHeapNumber 2 = .ok (.bipush 8, 2) := dall dgX11_isHeapNumber_59 2 rfl
theorem dX11_isHeapNumber_4 : decode cX11_isHeapNumber 4 = .ok (.invokestatic 104, 3) := dall dgX11_isHeapNumber_59 3 rfl
theorem dX11_isHeapNumber_7 : decode cX11_isHeapNumber 7 = .ok (.ireturn, 1) := dall dgX11_isHeapNumber_59 4 rfl
def lgX11_areRows_60 : List (Nat × Instr × Nat) := [(0, .iload_n 1, 1), (1, .ifCond .lt 23, 3), (4, .iload_n 1, 1), (5, .iload_n 2, 1), (6, .if_icmp .gt 18, 3), (9, .iload_n 2, 1), (10, .aload_n 0, 1), (11, .getfield 19, 3), (14, .getfield 130, 3), (17, .if_icmp .ge 7, 3), (24, .iconst 0, 1), (25, .ireturn, 1)]
theorem dgX11_areRows_60 : ∀ q ∈ lgX11_areRows_60, decode cX11_areRows q.1 = .ok (q.2.1, q.2.2) := by decide +kernel
theorem dX11_areRows_0 : decode cX11_areRows 0 = .ok (.iload_n 1, 1) := dall dgX11_areRows_60 0 rfl
theorem dX11_areRows_1 : decode cX11_areRows 1 = .ok (.ifCond .lt 23, 3) := dall dgX11_areRows_60 1 rfl
theorem dX11_areRows_4 : decode cX11_areRows 4 = .ok (.iload_n 1, 1) := dall dgX11_areRows_60 2 rfl
theorem dX11_areRows_5 : decode cX11_areRows 5 = .ok (.iload_n 2, 1) := dall dgX11_areRows_60 3 rfl
theorem dX11_areRows_6 : decode cX11_areRows 6 = .ok (.if_icmp .gt 18, 3) := dall dgX11_areRows_60 4 rfl
theorem dX11_areRows_9 : decode cX11_areRows 9 = .ok (.iload_n 2, 1) := dall dgX11_areRows_60 5 rfl
theorem dX11_areRows_10 : decode cX11_areRows 10 = .ok (.aload_n 0, 1) := dall dgX11_areRows_60 6 rfl
theorem dX11_areRows_11 : decode cX11_areRows 11 = .ok (.getfield 19, 3) := dall dgX11_areRows_60 7 rfl
theorem dX11_areRows_14 : decode cX11_areRows 14 = .ok (.getfield 130, 3) := dall dgX11_areRows_60 8 rfl
theorem dX11_areRows_17 : decode cX11_areRows 17 = .ok (.if_icmp .ge 7, 3) := dall dgX11_areRows_60 9 rfl
theorem dX11_areRows_24 : decode cX11_areRows 24 = .ok (.iconst 0, 1) := dall dgX11_areRows_60 10 rfl
theorem dX11_areRows_25 : decode cX11_areRows 25 = .ok (.ireturn, 1) := dall dgX11_areRows_60 11 rfl
set_option maxRecDepth 20000 in
theorem ggX11_isPiece_X11_cutNow : GoodIn wsX11_isPiece wsX11_cutNow := goodIn_r _ [6, 7, 1, 8, 9, 10, 11, 12, 13, 14, 15, 16, 17, 18, 19, 20, 21, 22, 23, 24, 25, 26, 27, 28, 29, 30, 31, 32, 33, 34, 35, 36, 37, 38, 39, 40, 41, 42, 43, 44, 45, 46, 47, 48, 49, 50, 51, 52, 53, 54, 55, 56, 57, 58, 59, 60, 61, 62, 63, 64, 65, 66, 67, 68, 69, 70, 71, 72, 73, 74, 75, 76, 77, 78, 82, 83, 84, 85, 86, 87, 88, 89, 90, 91, 92, 93, 94, 95, 96, 97, 110, 111, 112, 113, 114, 98, 99, 100, 101, 102, 103, 104, 105, 106, 107, 108, 109, 115, 116, 117, 118, 119, 120, 121, 122] rfl (by decide +kernel)
set_option maxRecDepth 20000 in
theorem gX11_isPiece_X11_cutNow : GoodIn wsX11_isPiece (wsV RX11 151 RX11 yX11_cutNow wsX11_cutNow) := goodIn_app (goodIn_of _ (by decide +kernel)) ggX11_isPiece_X11_cutNow
set_option maxRecDepth 20000 in
theorem ggX11_isPiece_X11_within : GoodIn wsX11_isPiece wsX11_within := goodIn_r _ [81] rfl (by decide +kernel)
set_option maxRecDepth 20000 in
theorem gX11_isPiece_X11_within : GoodIn wsX11_isPiece (va_wsS RX11 104 yX11_within wsX11_within) := goodIn_app (goodIn_of _ (by decide +kernel)) ggX11_isPiece_X11_within
def lgX11_isPiece_61 : List (Nat × Instr × Nat) := [(0, .aload_n 0, 1), (1, .invokevirtual 151, 3), (4, .iload_n 1, 1), (5, .iconst 0, 1), (6, .aload_n 0, 1), (7, .getfield 33, 3), (10, .getfield 154, 3), (13, .iconst 1, 1), (14, .isub, 1), (15, .invokestatic 104, 3), (18, .ireturn, 1)]
theorem dgX11_isPiece_61 : ∀ q ∈ lgX11_isPiece_61, decode cX11_isPiece q.1 = .ok (q.2.1, q.2.2) := by decide +kernel
theorem dX11_isPiece_0 : decode cX11_isPiece 0 = .ok (.aload_n 0, 1) := dall dgX11_isPiece_61 0 rfl
theorem dX11_isPiece_1 : decode cX11_isPiece 1 = .ok (.invokevirtual 151, 3) := dall dgX11_isPiece_61 1 rfl
theorem dX11_isPiece_4 : decode cX11_isPiece 4 = .ok (.iload_n 1, 1) := dall dgX11_isPiece_61 2 rfl
theorem dX11_isPiece_5 : decode cX11_isPiece 5 = .ok (.iconst 0, 1) := dall dgX11_isPiece_61 3 rfl
theorem dX11_isPiece_6 : decode cX11_isPiece 6 = .ok (.aload_n 0, 1) := dall dgX11_isPiece_61 4 rfl
theorem dX11_isPiece_7 : decode cX11_isPiece 7 = .ok (.getfield 33, 3) := dall dgX11_isPiece_61 5 rfl
theorem dX11_isPiece_10 : decode cX11_isPiece 10 = .ok (.getfield 154, 3) := dall dgX11_isPiece_61 6 rfl
theorem dX11_isPiece_13 : decode cX11_isPiece 13 = .ok (.iconst 1, 1) := dall dgX11_isPiece_61 7 rfl
theorem dX11_isPiece_14 : decode cX11_isPiece 14 = .ok (.isub, 1) := dall dgX11_isPiece_61 8 rfl
theorem dX11_isPiece_15 : decode cX11_isPiece 15 = .ok (.invokestatic 104, 3) := dall dgX11_isPiece_61 9 rfl
theorem dX11_isPiece_18 : decode cX11_isPiece 18 = .ok (.ireturn, 1) := dall dgX11_isPiece_61 10 rfl
set_option maxRecDepth 20000 in
theorem ggX11_refusedHeap_X11_heapNow : GoodIn wsX11_refusedHeap wsX11_heapNow := goodIn_r _ [6, 7, 8, 9, 10, 1, 11, 12, 13, 14, 15, 16, 5, 17, 18, 19, 20, 21, 22, 23, 24, 25, 26, 27, 28, 29, 30, 31, 32, 33, 34, 35, 36, 37, 38, 39, 40, 41, 42, 43, 44, 45, 46, 47, 48, 49, 50, 51, 52, 53, 54, 55, 56, 57, 58, 59, 60, 61, 62, 63, 64, 65, 66, 67, 68, 69, 70, 71, 72, 73, 74, 75, 76, 77, 78, 79, 80, 81, 82, 83, 84, 85, 86, 87, 88, 89, 90, 91, 92, 93, 94, 95, 96, 97, 98, 99, 100, 101, 102, 103, 104, 105, 106, 107, 108, 109, 110, 111, 112, 113, 114, 115, 116, 117, 118, 119, 120, 121, 122, 123, 124, 125, 126, 127, 128, 129, 130, 131, 132, 133, 134, 135, 136, 137, 138, 139, 140, 141, 142, 143, 144, 145, 146, 147, 148, 149, 150, 151, 152, 153, 154, 155, 156, 157, 158, 159, 160, 161, 162, 163, 164, 165, 166, 167, 168, 169, 170, 171, 172, 173, 174, 175, 176, 177, 178, 179, 180, 181, 182, 183, 184, 185, 186, 187, 188, 189, 190, 191, 192, 193, 194, 195, 196, 212, 213, 214, 215, 216, 217, 218, 219, 220, 221, 222, 223, 197, 198, 199, 200, 201, 202, 203, 204, 205, 206, 224, 225, 226, 227, 228, 229, 230, 231, 232, 233, 234, 235, 236, 237, 238, 239, 240, 207, 208, 209, 210, 211] rfl (by decide +kernel)
set_option maxRecDepth 20000 in
theorem gX11_refusedHeap_X11_heapNow : GoodIn wsX11_refusedHeap (wsV RX11 190 RX11 yX11_heapNow wsX11_heapNow) := goodIn_app (goodIn_of _ (by decide +kernel)) ggX11_refusedHeap_X11_heapNow
def lgX11_refusedHeap_62 : List (Nat × Instr × Nat) := [(0, .aload_n 0, 1), (1, .invokevirtual 190, 3), (4, .ifCond .ne 6, 3), (10, .iload_n 1, 1), (11, .aload_n 0, 1), (12, .getfield 47, 3), (15, .getfield 228, 3), (18, .getfield 204, 3), (21, .if_icmp .ge 7, 3), (24, .iconst 0, 1), (25, .goto 4, 3), (28, .iconst (-1), 1), (29, .ireturn, 1)]
theorem dgX11_refusedHeap_62 : ∀ q ∈ lgX11_refusedHeap_62, decode cX11_refusedHeap q.1 = .ok (q.2.1, q.2.2) := by decide +kernel
theorem dX11_refusedHeap_0 : decode cX11_refusedHeap 0 = .ok (.aload_n 0, 1) := dall dgX11_refusedHeap_62 0 rfl
theorem dX11_refusedHeap_1 : decode cX11_refusedHeap 1 = .ok (.invokevirtual 190, 3) := dall dgX11_refusedHeap_62 1 rfl
theorem dX11_refusedHeap_4 : decode cX11_refusedHeap 4 = .ok (.ifCond .ne 6, 3) := dall dgX11_refusedHeap_62 2 rfl
theorem dX11_refusedHeap_10 : decode cX11_refusedHeap 10 = .ok (.iload_n 1, 1) := dall dgX11_refusedHeap_62 3 rfl
theorem dX11_refusedHeap_11 : decode cX11_refusedHeap 11 = .ok (.aload_n 0, 1) := dall dgX11_refusedHeap_62 4 rfl
theorem dX11_refusedHeap_12 : decode cX11_refusedHeap 12 = .ok (.getfield 47, 3) := dall dgX11_refusedHeap_62 5 rfl
theorem dX11_refusedHeap_15 : decode cX11_refusedHeap 15 = .ok (.getfield 228, 3) := dall dgX11_refusedHeap_62 6 rfl
theorem dX11_refusedHeap_18 : decode cX11_refusedHeap 18 = .ok (.getfield 204, 3) := dall dgX11_refusedHeap_62 7 rfl
theorem dX11_refusedHeap_21 : decode cX11_refusedHeap 21 = .ok (.if_icmp .ge 7, 3) := dall dgX11_refusedHeap_62 8 rfl
theorem dX11_refusedHeap_24 : decode cX11_refusedHeap 24 = .ok (.iconst 0, 1) := dall dgX11_refusedHeap_62 9 rfl
theorem dX11_refusedHeap_25 : decode cX11_refusedHeap 25 = .ok (.goto 4, 3) := dall dgX11_refusedHeap_62 10 rfl
theorem dX11_refusedHeap_28 : decode cX11_refusedHeap 28 = .ok (.iconst (-1), 1) := dall dgX11_refusedHeap_62 11 rfl
theorem dX11_refusedHeap_29 : decode cX11_refusedHeap 29 = .ok (.ireturn, 1) := dall dgX11_refusedHeap_62 12 rfl
def lgX11_byWay_63 : List (Nat × Instr × Nat) := [(0, .iload_n 1, 1), (1, .ifCond .ne 13, 3), (4, .aload_n 0, 1), (5, .getfield 47, 3), (8, .getfield 228, 3), (11, .goto 7, 3), (14, .aload_n 0, 1), (15, .getfield 54, 3), (18, .areturn, 1)]
theorem dgX11_byWay_63 : ∀ q ∈ lgX11_byWay_63, decode cX11_byWay q.1 = .ok (q.2.1, q.2.2) := by decide +kernel
theorem dX11_byWay_0 : decode cX11_byWay 0 = .ok (.iload_n 1, 1) := dall dgX11_byWay_63 0 rfl
theorem dX11_byWay_1 : decode cX11_byWay 1 = .ok (.ifCond .ne 13, 3) := dall dgX11_byWay_63 1 rfl
theorem dX11_byWay_4 : decode cX11_byWay 4 = .ok (.aload_n 0, 1) := dall dgX11_byWay_63 2 rfl
theorem dX11_byWay_5 : decode cX11_byWay 5 = .ok (.getfield 47, 3) := dall dgX11_byWay_63 3 rfl
theorem dX11_byWay_8 : decode cX11_byWay 8 = .ok (.getfield 228, 3) := dall dgX11_byWay_63 4 rfl
theorem dX11_byWay_11 : decode cX11_byWay 11 = .ok (.goto 7, 3) := dall dgX11_byWay_63 5 rfl
theorem dX11_byWay_14 : decode cX11_byWay 14 = .ok (.aload_n 0, 1) := dall dgX11_byWay_63 6 rfl
theorem dX11_byWay_15 : decode cX11_byWay 15 = .ok (.getfield 54, 3) := dall dgX11_byWay_63 7 rfl
theorem dX11_byWay_18 : decode cX11_byWay 18 = .ok (.areturn, 1) := dall dgX11_byWay_63 8 rfl
def lgX11_nothingIsFound_64 : List (Nat × Instr × Nat) := [(0, .aload_n 0, 1), (1, .iconst 1, 1), (2, .putfield 94, 3), (5, .aload_n 0, 1), (6, .iconst 1, 1), (7, .putfield 98, 3), (10, .aload_n 0, 1), (11, .iconst 1, 1), (12, .putfield 101, 3), (15, .return_, 1)]
theorem dgX11_nothingIsFound_64 : ∀ q ∈ lgX11_nothingIsFound_64, decode cX11_nothingIsFound q.1 = .ok (q.2.1, q.2.2) := by decide +kernel
theorem dX11_nothingIsFound_0 : decode cX11_nothingIsFound 0 = .ok (.aload_n 0, 1) := dall dgX11_nothingIsFound_64 0 rfl
theorem dX11_nothingIsFound_1 : decode cX11_nothingIsFound 1 = .ok (.iconst 1, 1) := dall dgX11_nothingIsFound_64 1 rfl
theorem dX11_nothingIsFound_2 : decode cX11_nothingIsFound 2 = .ok (.putfield 94, 3) := dall dgX11_nothingIsFound_64 2 rfl
theorem dX11_nothingIsFound_5 : decode cX11_nothingIsFound 5 = .ok (.aload_n 0, 1) := dall dgX11_nothingIsFound_64 3 rfl
theorem dX11_nothingIsFound_6 : decode cX11_nothingIsFound 6 = .ok (.iconst 1, 1) := dall dgX11_nothingIsFound_64 4 rfl
theorem dX11_nothingIsFound_7 : decode cX11_nothingIsFound 7 = .ok (.putfield 98, 3) := dall dgX11_nothingIsFound_64 5 rfl
theorem dX11_nothingIsFound_10 : decode cX11_nothingIsFound 10 = .ok (.aload_n 0, 1) := dall dgX11_nothingIsFound_64 6 rfl
theorem dX11_nothingIsFound_11 : decode cX11_nothingIsFound 11 = .ok (.iconst 1, 1) := dall dgX11_nothingIsFound_64 7 rfl
theorem dX11_nothingIsFound_12 : decode cX11_nothingIsFound 12 = .ok (.putfield 101, 3) := dall dgX11_nothingIsFound_64 8 rfl
theorem dX11_nothingIsFound_15 : decode cX11_nothingIsFound 15 = .ok (.return_, 1) := dall dgX11_nothingIsFound_64 9 rfl
set_option maxRecDepth 20000 in
theorem ggX11_cutNow_X8_ruleNow : GoodIn wsX11_cutNow wsX8_ruleNow := goodIn_r _ [10, 11, 90, 91, 92, 93, 94] rfl (by decide +kernel)
set_option maxRecDepth 20000 in
theorem gX11_cutNow_X8_ruleNow : GoodIn wsX11_cutNow (wsV RX11 122 RX8 yX8_ruleNow wsX8_ruleNow) := goodIn_app (goodIn_of _ (by decide +kernel)) ggX11_cutNow_X8_ruleNow
set_option maxRecDepth 20000 in
theorem ggX11_cutNow_X2_cut : GoodIn wsX11_cutNow wsX2_cut := goodIn_r _ [16, 17, 18, 19, 20, 21, 22, 23, 24, 25, 26, 27, 28, 29, 30, 31, 32, 33, 34, 35, 36, 37, 15, 38, 39, 40, 41, 42, 43, 44, 45, 46, 47, 48, 49, 50, 51, 52, 53, 54, 55, 56, 57, 58, 59, 60, 61, 62, 63, 64, 65, 66, 67, 68, 69, 70, 71, 72, 73, 95, 96, 97, 98, 99, 100, 101, 102, 103, 104, 105, 106, 107, 108, 109, 110, 111, 112, 113, 114] rfl (by decide +kernel)
set_option maxRecDepth 20000 in
theorem gX11_cutNow_X2_cut : GoodIn wsX11_cutNow (wsV RX11 302 RX2 yX2_cut wsX2_cut) := goodIn_app (goodIn_of _ (by decide +kernel)) ggX11_cutNow_X2_cut
def lgX11_cutNow_65 : List (Nat × Instr × Nat) := [(0, .aload_n 0, 1), (1, .getfield 94, 3), (4, .ifCond .eq 39, 3), (7, .aload_n 0, 1), (8, .getfield 33, 3), (11, .aload_n 0, 1), (12, .getfield 19, 3), (15, .aload_n 0, 1), (16, .getfield 26, 3), (19, .aload_n 0, 1), (20, .getfield 10, 3), (23, .iconst 0, 1), (24, .invokevirtual 122, 3), (27, .aload_n 0, 1), (28, .getfield 10, 3), (31, .iconst 1, 1), (32, .invokevirtual 122, 3), (35, .invokevirtual 302, 3), (38, .aload_n 0, 1), (39, .iconst 0, 1), (40, .putfield 94, 3), (43, .return_, 1)]
theorem dgX11_cutNow_65 : ∀ q ∈ lgX11_cutNow_65, decode cX11_cutNow q.1 = .ok (q.2.1, q.2.2) := by decide +kernel
theorem dX11_cutNow_0 : decode cX11_cutNow 0 = .ok (.aload_n 0, 1) := dall dgX11_cutNow_65 0 rfl
theorem dX11_cutNow_1 : decode cX11_cutNow 1 = .ok (.getfield 94, 3) := dall dgX11_cutNow_65 1 rfl
theorem dX11_cutNow_4 : decode cX11_cutNow 4 = .ok (.ifCond .eq 39, 3) := dall dgX11_cutNow_65 2 rfl
theorem dX11_cutNow_7 : decode cX11_cutNow 7 = .ok (.aload_n 0, 1) := dall dgX11_cutNow_65 3 rfl
theorem dX11_cutNow_8 : decode cX11_cutNow 8 = .ok (.getfield 33, 3) := dall dgX11_cutNow_65 4 rfl
theorem dX11_cutNow_11 : decode cX11_cutNow 11 = .ok (.aload_n 0, 1) := dall dgX11_cutNow_65 5 rfl
theorem dX11_cutNow_12 : decode cX11_cutNow 12 = .ok (.getfield 19, 3) := dall dgX11_cutNow_65 6 rfl
theorem dX11_cutNow_15 : decode cX11_cutNow 15 = .ok (.aload_n 0, 1) := dall dgX11_cutNow_65 7 rfl
theorem dX11_cutNow_16 : decode cX11_cutNow 16 = .ok (.getfield 26, 3) := dall dgX11_cutNow_65 8 rfl
theorem dX11_cutNow_19 : decode cX11_cutNow 19 = .ok (.aload_n 0, 1) := dall dgX11_cutNow_65 9 rfl
theorem dX11_cutNow_20 : decode cX11_cutNow 20 = .ok (.getfield 10, 3) := dall dgX11_cutNow_65 10 rfl
theorem dX11_cutNow_23 : decode cX11_cutNow 23 = .ok (.iconst 0, 1) := dall dgX11_cutNow_65 11 rfl
theorem dX11_cutNow_24 : decode cX11_cutNow 24 = .ok (.invokevirtual 122, 3) := dall dgX11_cutNow_65 12 rfl
theorem dX11_cutNow_27 : decode cX11_cutNow 27 = .ok (.aload_n 0, 1) := dall dgX11_cutNow_65 13 rfl
theorem dX11_cutNow_28 : decode cX11_cutNow 28 = .ok (.getfield 10, 3) := dall dgX11_cutNow_65 14 rfl
theorem dX11_cutNow_31 : decode cX11_cutNow 31 = .ok (.iconst 1, 1) := dall dgX11_cutNow_65 15 rfl
theorem dX11_cutNow_32 : decode cX11_cutNow 32 = .ok (.invokevirtual 122, 3) := dall dgX11_cutNow_65 16 rfl
theorem dX11_cutNow_35 : decode cX11_cutNow 35 = .ok (.invokevirtual 302, 3) := dall dgX11_cutNow_65 17 rfl
theorem dX11_cutNow_38 : decode cX11_cutNow 38 = .ok (.aload_n 0, 1) := dall dgX11_cutNow_65 18 rfl
theorem dX11_cutNow_39 : decode cX11_cutNow 39 = .ok (.iconst 0, 1) := dall dgX11_cutNow_65 19 rfl
theorem dX11_cutNow_40 : decode cX11_cutNow 40 = .ok (.putfield 94, 3) := dall dgX11_cutNow_65 20 rfl
theorem dX11_cutNow_43 : decode cX11_cutNow 43 = .ok (.return_, 1) := dall dgX11_cutNow_65 21 rfl
set_option maxRecDepth 20000 in
theorem ggX11_heapNow_X11_cutNow : GoodIn wsX11_heapNow wsX11_cutNow := goodIn_r _ [13, 14, 1, 6, 7, 4, 15, 16, 17, 18, 19, 20, 21, 22, 23, 24, 25, 26, 27, 28, 29, 30, 31, 32, 33, 34, 35, 36, 37, 38, 39, 40, 41, 42, 43, 44, 45, 46, 47, 48, 49, 50, 51, 52, 53, 54, 55, 56, 57, 58, 59, 60, 61, 62, 63, 64, 65, 66, 67, 68, 69, 70, 71, 72, 73, 74, 75, 76, 77, 78, 79, 80, 81, 82, 177, 178, 179, 180, 181, 182, 183, 184, 185, 186, 187, 188, 189, 190, 191, 192, 215, 216, 217, 218, 219, 193, 194, 195, 196, 197, 198, 199, 200, 201, 202, 203, 204, 220, 221, 222, 223, 224, 225, 226, 227] rfl (by decide +kernel)
set_option maxRecDepth 20000 in
theorem gX11_heapNow_X11_cutNow : GoodIn wsX11_heapNow (wsV RX11 151 RX11 yX11_cutNow wsX11_cutNow) := goodIn_app (goodIn_of _ (by decide +kernel)) ggX11_heapNow_X11_cutNow
set_option maxRecDepth 20000 in
theorem ggX11_heapNow_X8_ruleNow : GoodIn wsX11_heapNow wsX8_ruleNow := goodIn_r _ [19, 20, 215, 216, 217, 218, 219] rfl (by decide +kernel)
set_option maxRecDepth 20000 in
theorem gX11_heapNow_X8_ruleNow : GoodIn wsX11_heapNow (wsV RX11 122 RX8 yX8_ruleNow wsX8_ruleNow) := goodIn_app (goodIn_of _ (by decide +kernel)) ggX11_heapNow_X8_ruleNow
set_option maxRecDepth 20000 in
theorem ggX11_heapNow_X1_tie : GoodIn wsX11_heapNow wsX1_tie := goodIn_r _ [87, 88, 72, 64, 73, 89, 90, 91, 92, 93, 24, 94, 78, 75, 71, 95, 12, 96, 97, 98, 99, 100, 101, 102, 103, 104, 77, 105, 106, 107, 86, 108, 109, 193, 194, 195, 196, 197, 198, 199, 200, 201, 202, 203, 204, 228, 229, 230, 231] rfl (by decide +kernel)
set_option maxRecDepth 20000 in
theorem gX11_heapNow_X1_tie : GoodIn wsX11_heapNow (wsV RX11 306 RX1 yX1_tie wsX1_tie) := goodIn_app (goodIn_of _ (by decide +kernel)) ggX11_heapNow_X1_tie
set_option maxRecDepth 20000 in
theorem ggX11_heapNow_X0_findBest : GoodIn wsX11_heapNow wsX0_findBest := goodIn_r _ [114, 115, 116, 117, 118, 119, 33, 34, 35, 120, 121, 113, 122, 123, 124, 63, 64, 65, 125, 126, 127, 128, 129, 130, 131, 132, 133, 134, 135, 136, 72, 73, 137, 138, 139, 140, 141, 142, 86, 143, 109, 144, 145, 146, 205, 206, 207, 208, 209, 210, 211, 212, 213, 214, 232, 233, 234, 235, 236, 228, 229, 230, 231] rfl (by decide +kernel)
set_option maxRecDepth 20000 in
theorem gX11_heapNow_X0_findBest : GoodIn wsX11_heapNow (wsV RX11 310 RX0 yX0_findBest wsX0_findBest) := goodIn_app (goodIn_of _ (by decide +kernel)) ggX11_heapNow_X0_findBest
set_option maxRecDepth 20000 in
theorem ggX11_heapNow_X4_findMiddles : GoodIn wsX11_heapNow wsX4_findMiddles := goodIn_r _ [151, 152, 153, 154, 155, 51, 52, 53, 54, 55, 56, 156, 58, 59, 60, 61, 62, 63, 64, 65, 157, 80, 81, 82, 232, 233, 234, 235, 236, 220, 221, 222, 223, 224, 193, 194, 195, 196, 197, 198, 199, 200, 201, 202, 203, 204, 225, 226, 227] rfl (by decide +kernel)
set_option maxRecDepth 20000 in
theorem gX11_heapNow_X4_findMiddles : GoodIn wsX11_heapNow (wsV RX11 314 RX4 yX4_findMiddles wsX4_findMiddles) := goodIn_app (goodIn_of _ (by decide +kernel)) ggX11_heapNow_X4_findMiddles
set_option maxRecDepth 20000 in
theorem ggX11_heapNow_X1_join : GoodIn wsX11_heapNow wsX1_join := goodIn_r _ [161, 89, 162, 90, 163, 164, 165, 86, 166, 167, 168, 169, 150, 170, 171, 152, 153, 172, 33, 34, 35, 173, 174, 175, 176, 228, 229, 230, 231, 232, 233, 234, 235, 236] rfl (by decide +kernel)
set_option maxRecDepth 20000 in
theorem gX11_heapNow_X1_join : GoodIn wsX11_heapNow (wsV RX11 318 RX1 yX1_join wsX1_join) := goodIn_app (goodIn_of _ (by decide +kernel)) ggX11_heapNow_X1_join
def lgX11_heapNow_66 : List (Nat × Instr × Nat) := [(0, .aload_n 0, 1), (1, .invokevirtual 151, 3), (4, .aload_n 0, 1), (5, .getfield 33, 3), (8, .getfield 154, 3), (11, .bipush 9, 2), (13, .if_icmp .le 5, 3), (18, .aload_n 0, 1), (19, .getfield 98, 3), (22, .ifCond .eq 79, 3), (25, .aload_n 0, 1), (26, .getfield 40, 3), (29, .aload_n 0, 1), (30, .getfield 33, 3), (33, .aload_n 0, 1), (34, .getfield 10, 3), (37, .iconst 2, 1), (38, .invokevirtual 122, 3), (41, .aload_n 0, 1), (42, .getfield 10, 3), (45, .iconst 4, 1), (46, .invokevirtual 122, 3), (49, .invokevirtual 306, 3), (52, .aload_n 0, 1), (53, .getfield 47, 3), (56, .aload_n 0, 1), (57, .getfield 40, 3), (60, .invokevirtual 310, 3), (63, .aload_n 0, 1), (64, .getfield 47, 3), (67, .getfield 228, 3), (70, .aload_n 0, 1), (71, .getfield 19, 3), (74, .aload_n 0, 1), (75, .getfield 26, 3), (78, .aload_n 0, 1), (79, .getfield 33, 3), (82, .invokevirtual 314, 3), (85, .aload_n 0, 1), (86, .getfield 40, 3), (89, .aload_n 0, 1), (90, .getfield 54, 3), (93, .invokevirtual 318, 3), (96, .aload_n 0, 1), (97, .iconst 0, 1), (98, .putfield 98, 3), (101, .iconst 1, 1), (102, .ireturn, 1)]
theorem dgX11_heapNow_66 : ∀ q ∈ lgX11_heapNow_66, decode cX11_heapNow q.1 = .ok (q.2.1, q.2.2) := by decide +kernel
theorem dX11_heapNow_0 : decode cX11_heapNow 0 = .ok (.aload_n 0, 1) := dall dgX11_heapNow_66 0 rfl
theorem dX11_heapNow_1 : decode cX11_heapNow 1 = .ok (.invokevirtual 151, 3) := dall dgX11_heapNow_66 1 rfl
theorem dX11_heapNow_4 : decode cX11_heapNow 4 = .ok (.aload_n 0, 1) := dall dgX11_heapNow_66 2 rfl
theorem dX11_heapNow_5 : decode cX11_heapNow 5 = .ok (.getfield 33, 3) := dall dgX11_heapNow_66 3 rfl
theorem dX11_heapNow_8 : decode cX11_heapNow 8 = .ok (.getfield 154, 3) := dall dgX11_heapNow_66 4 rfl
theorem dX11_heapNow_11 : decode cX11_heapNow 11 = .ok (.bipush 9, 2) := dall dgX11_heapNow_66 5 rfl
theorem dX11_heapNow_13 : decode cX11_heapNow 13 = .ok (.if_icmp .le 5, 3) := dall dgX11_heapNow_66 6 rfl
theorem dX11_heapNow_18 : decode cX11_heapNow 18 = .ok (.aload_n 0, 1) := dall dgX11_heapNow_66 7 rfl
theorem dX11_heapNow_19 : decode cX11_heapNow 19 = .ok (.getfield 98, 3) := dall dgX11_heapNow_66 8 rfl
theorem dX11_heapNow_22 : decode cX11_heapNow 22 = .ok (.ifCond .eq 79, 3) := dall dgX11_heapNow_66 9 rfl
theorem dX11_heapNow_25 : decode cX11_heapNow 25 = .ok (.aload_n 0, 1) := dall dgX11_heapNow_66 10 rfl
theorem dX11_heapNow_26 : decode cX11_heapNow 26 = .ok (.getfield 40, 3) := dall dgX11_heapNow_66 11 rfl
theorem dX11_heapNow_29 : decode cX11_heapNow 29 = .ok (.aload_n 0, 1) := dall dgX11_heapNow_66 12 rfl
theorem dX11_heapNow_30 : decode cX11_heapNow 30 = .ok (.getfield 33, 3) := dall dgX11_heapNow_66 13 rfl
theorem dX11_heapNow_33 : decode cX11_heapNow 33 = .ok (.aload_n 0, 1) := dall dgX11_heapNow_66 14 rfl
theorem dX11_heapNow_34 : decode cX11_heapNow 34 = .ok (.getfield 10, 3) := dall dgX11_heapNow_66 15 rfl
theorem dX11_heapNow_37 : decode cX11_heapNow 37 = .ok (.iconst 2, 1) := dall dgX11_heapNow_66 16 rfl
theorem dX11_heapNow_38 : decode cX11_heapNow 38 = .ok (.invokevirtual 122, 3) := dall dgX11_heapNow_66 17 rfl
theorem dX11_heapNow_41 : decode cX11_heapNow 41 = .ok (.aload_n 0, 1) := dall dgX11_heapNow_66 18 rfl
theorem dX11_heapNow_42 : decode cX11_heapNow 42 = .ok (.getfield 10, 3) := dall dgX11_heapNow_66 19 rfl
theorem dX11_heapNow_45 : decode cX11_heapNow 45 = .ok (.iconst 4, 1) := dall dgX11_heapNow_66 20 rfl
theorem dX11_heapNow_46 : decode cX11_heapNow 46 = .ok (.invokevirtual 122, 3) := dall dgX11_heapNow_66 21 rfl
theorem dX11_heapNow_49 : decode cX11_heapNow 49 = .ok (.invokevirtual 306, 3) := dall dgX11_heapNow_66 22 rfl
theorem dX11_heapNow_52 : decode cX11_heapNow 52 = .ok (.aload_n 0, 1) := dall dgX11_heapNow_66 23 rfl
theorem dX11_heapNow_53 : decode cX11_heapNow 53 = .ok (.getfield 47, 3) := dall dgX11_heapNow_66 24 rfl
theorem dX11_heapNow_56 : decode cX11_heapNow 56 = .ok (.aload_n 0, 1) := dall dgX11_heapNow_66 25 rfl
theorem dX11_heapNow_57 : decode cX11_heapNow 57 = .ok (.getfield 40, 3) := dall dgX11_heapNow_66 26 rfl
theorem dX11_heapNow_60 : decode cX11_heapNow 60 = .ok (.invokevirtual 310, 3) := dall dgX11_heapNow_66 27 rfl
theorem dX11_heapNow_63 : decode cX11_heapNow 63 = .ok (.aload_n 0, 1) := dall dgX11_heapNow_66 28 rfl
theorem dX11_heapNow_64 : decode cX11_heapNow 64 = .ok (.getfield 47, 3) := dall dgX11_heapNow_66 29 rfl
theorem dX11_heapNow_67 : decode cX11_heapNow 67 = .ok (.getfield 228, 3) := dall dgX11_heapNow_66 30 rfl
theorem dX11_heapNow_70 : decode cX11_heapNow 70 = .ok (.aload_n 0, 1) := dall dgX11_heapNow_66 31 rfl
theorem dX11_heapNow_71 : decode cX11_heapNow 71 = .ok (.getfield 19, 3) := dall dgX11_heapNow_66 32 rfl
theorem dX11_heapNow_74 : decode cX11_heapNow 74 = .ok (.aload_n 0, 1) := dall dgX11_heapNow_66 33 rfl
theorem dX11_heapNow_75 : decode cX11_heapNow 75 = .ok (.getfield 26, 3) := dall dgX11_heapNow_66 34 rfl
theorem dX11_heapNow_78 : decode cX11_heapNow 78 = .ok (.aload_n 0, 1) := dall dgX11_heapNow_66 35 rfl
theorem dX11_heapNow_79 : decode cX11_heapNow 79 = .ok (.getfield 33, 3) := dall dgX11_heapNow_66 36 rfl
theorem dX11_heapNow_82 : decode cX11_heapNow 82 = .ok (.invokevirtual 314, 3) := dall dgX11_heapNow_66 37 rfl
theorem dX11_heapNow_85 : decode cX11_heapNow 85 = .ok (.aload_n 0, 1) := dall dgX11_heapNow_66 38 rfl
theorem dX11_heapNow_86 : decode cX11_heapNow 86 = .ok (.getfield 40, 3) := dall dgX11_heapNow_66 39 rfl
theorem dX11_heapNow_89 : decode cX11_heapNow 89 = .ok (.aload_n 0, 1) := dall dgX11_heapNow_66 40 rfl
theorem dX11_heapNow_90 : decode cX11_heapNow 90 = .ok (.getfield 54, 3) := dall dgX11_heapNow_66 41 rfl
theorem dX11_heapNow_93 : decode cX11_heapNow 93 = .ok (.invokevirtual 318, 3) := dall dgX11_heapNow_66 42 rfl
theorem dX11_heapNow_96 : decode cX11_heapNow 96 = .ok (.aload_n 0, 1) := dall dgX11_heapNow_66 43 rfl
theorem dX11_heapNow_97 : decode cX11_heapNow 97 = .ok (.iconst 0, 1) := dall dgX11_heapNow_66 44 rfl
theorem dX11_heapNow_98 : decode cX11_heapNow 98 = .ok (.putfield 98, 3) := dall dgX11_heapNow_66 45 rfl
theorem dX11_heapNow_101 : decode cX11_heapNow 101 = .ok (.iconst 1, 1) := dall dgX11_heapNow_66 46 rfl
theorem dX11_heapNow_102 : decode cX11_heapNow 102 = .ok (.ireturn, 1) := dall dgX11_heapNow_66 47 rfl
set_option maxRecDepth 20000 in
theorem ggX11_nearNow_X8_ruleNow : GoodIn wsX11_nearNow wsX8_ruleNow := goodIn_r _ [9, 10, 74, 75, 76, 77, 78] rfl (by decide +kernel)
set_option maxRecDepth 20000 in
theorem gX11_nearNow_X8_ruleNow : GoodIn wsX11_nearNow (wsV RX11 122 RX8 yX8_ruleNow wsX8_ruleNow) := goodIn_app (goodIn_of _ (by decide +kernel)) ggX11_nearNow_X8_ruleNow
set_option maxRecDepth 20000 in
theorem ggX11_nearNow_X0_findNear : GoodIn wsX11_nearNow wsX0_findNear := goodIn_r _ [15, 16, 17, 18, 19, 20, 21, 22, 23, 24, 25, 26, 27, 28, 29, 30, 31, 14, 32, 33, 34, 35, 36, 37, 38, 39, 40, 41, 42, 43, 44, 45, 46, 47, 48, 49, 50, 51, 52, 53, 54, 55, 56, 57, 79, 80, 81, 82, 83, 84, 85, 86, 87, 88, 89, 90, 91, 92, 93, 94, 95, 96, 97] rfl (by decide +kernel)
set_option maxRecDepth 20000 in
theorem gX11_nearNow_X0_findNear : GoodIn wsX11_nearNow (wsV RX11 322 RX0 yX0_findNear wsX0_findNear) := goodIn_app (goodIn_of _ (by decide +kernel)) ggX11_nearNow_X0_findNear
def lgX11_nearNow_67 : List (Nat × Instr × Nat) := [(0, .aload_n 0, 1), (1, .getfield 101, 3), (4, .ifCond .eq 27, 3), (7, .aload_n 0, 1), (8, .getfield 47, 3), (11, .aload_n 0, 1), (12, .getfield 40, 3), (15, .aload_n 0, 1), (16, .getfield 10, 3), (19, .iconst 3, 1), (20, .invokevirtual 122, 3), (23, .invokevirtual 322, 3), (26, .aload_n 0, 1), (27, .iconst 0, 1), (28, .putfield 101, 3), (31, .return_, 1)]
theorem dgX11_nearNow_67 : ∀ q ∈ lgX11_nearNow_67, decode cX11_nearNow q.1 = .ok (q.2.1, q.2.2) := by decide +kernel
theorem dX11_nearNow_0 : decode cX11_nearNow 0 = .ok (.aload_n 0, 1) := dall dgX11_nearNow_67 0 rfl
theorem dX11_nearNow_1 : decode cX11_nearNow 1 = .ok (.getfield 101, 3) := dall dgX11_nearNow_67 1 rfl
theorem dX11_nearNow_4 : decode cX11_nearNow 4 = .ok (.ifCond .eq 27, 3) := dall dgX11_nearNow_67 2 rfl
theorem dX11_nearNow_7 : decode cX11_nearNow 7 = .ok (.aload_n 0, 1) := dall dgX11_nearNow_67 3 rfl
theorem dX11_nearNow_8 : decode cX11_nearNow 8 = .ok (.getfield 47, 3) := dall dgX11_nearNow_67 4 rfl
theorem dX11_nearNow_11 : decode cX11_nearNow 11 = .ok (.aload_n 0, 1) := dall dgX11_nearNow_67 5 rfl
theorem dX11_nearNow_12 : decode cX11_nearNow 12 = .ok (.getfield 40, 3) := dall dgX11_nearNow_67 6 rfl
theorem dX11_nearNow_15 : decode cX11_nearNow 15 = .ok (.aload_n 0, 1) := dall dgX11_nearNow_67 7 rfl
theorem dX11_nearNow_16 : decode cX11_nearNow 16 = .ok (.getfield 10, 3) := dall dgX11_nearNow_67 8 rfl
theorem dX11_nearNow_19 : decode cX11_nearNow 19 = .ok (.iconst 3, 1) := dall dgX11_nearNow_67 9 rfl
theorem dX11_nearNow_20 : decode cX11_nearNow 20 = .ok (.invokevirtual 122, 3) := dall dgX11_nearNow_67 10 rfl
theorem dX11_nearNow_23 : decode cX11_nearNow 23 = .ok (.invokevirtual 322, 3) := dall dgX11_nearNow_67 11 rfl
theorem dX11_nearNow_26 : decode cX11_nearNow 26 = .ok (.aload_n 0, 1) := dall dgX11_nearNow_67 12 rfl
theorem dX11_nearNow_27 : decode cX11_nearNow 27 = .ok (.iconst 0, 1) := dall dgX11_nearNow_67 13 rfl
theorem dX11_nearNow_28 : decode cX11_nearNow 28 = .ok (.putfield 101, 3) := dall dgX11_nearNow_67 14 rfl
theorem dX11_nearNow_31 : decode cX11_nearNow 31 = .ok (.return_, 1) := dall dgX11_nearNow_67 15 rfl
def lgX12_in_68 : List (Nat × Instr × Nat) := [(0, .iload_n 0, 1), (1, .iload_n 1, 1), (2, .if_icmp .lt 12, 3), (5, .iload_n 0, 1), (6, .iload_n 2, 1), (7, .if_icmp .gt 7, 3), (10, .iconst 1, 1), (11, .goto 4, 3), (14, .iconst 0, 1), (15, .ireturn, 1)]
theorem dgX12_in_68 : ∀ q ∈ lgX12_in_68, decode cX12_in q.1 = .ok (q.2.1, q.2.2) := by decide +kernel
theorem dX12_in_0 : decode cX12_in 0 = .ok (.iload_n 0, 1) := dall dgX12_in_68 0 rfl
theorem dX12_in_1 : decode cX12_in 1 = .ok (.iload_n 1, 1) := dall dgX12_in_68 1 rfl
theorem dX12_in_2 : decode cX12_in 2 = .ok (.if_icmp .lt 12, 3) := dall dgX12_in_68 2 rfl
theorem dX12_in_5 : decode cX12_in 5 = .ok (.iload_n 0, 1) := dall dgX12_in_68 3 rfl
theorem dX12_in_6 : decode cX12_in 6 = .ok (.iload_n 2, 1) := dall dgX12_in_68 4 rfl
theorem dX12_in_7 : decode cX12_in 7 = .ok (.if_icmp .gt 7, 3) := dall dgX12_in_68 5 rfl
theorem dX12_in_10 : decode cX12_in 10 = .ok (.iconst 1, 1) := dall dgX12_in_68 6 rfl
theorem dX12_in_11 : decode cX12_in 11 = .ok (.goto 4, 3) := dall dgX12_in_68 7 rfl
theorem dX12_in_14 : decode cX12_in 14 = .ok (.iconst 0, 1) := dall dgX12_in_68 8 rfl
theorem dX12_in_15 : decode cX12_in 15 = .ok (.ireturn, 1) := dall dgX12_in_68 9 rfl
def lgX12_atFirst_69 : List (Nat × Instr × Nat) := [(0, .aload_n 0, 1), (1, .getfield 7, 3), (4, .iload_n 1, 1), (5, .iconst 0, 1), (6, .iadd, 1), (7, .bipush 20, 2), (9, .iastore, 1), (10, .aload_n 0, 1), (11, .getfield 7, 3), (14, .iload_n 1, 1), (15, .iconst 1, 1), (16, .iadd, 1), (17, .bipush 10, 2), (19, .iastore, 1), (20, .aload_n 0, 1), (21, .getfield 7, 3), (24, .iload_n 1, 1), (25, .iconst 2, 1), (26, .iadd, 1), (27, .bipush 40, 2), (29, .iastore, 1), (30, .aload_n 0, 1), (31, .getfield 7, 3), (34, .iload_n 1, 1), (35, .iconst 3, 1), (36, .iadd, 1), (37, .iconst 0, 1), (38, .iastore, 1), (39, .aload_n 0, 1), (40, .getfield 7, 3), (43, .iload_n 1, 1), (44, .iconst 4, 1), (45, .iadd, 1), (46, .iconst 0, 1), (47, .iastore, 1), (48, .aload_n 0, 1), (49, .getfield 7, 3), (52, .iload_n 1, 1), (53, .iconst 5, 1), (54, .iadd, 1), (55, .bipush 10, 2), (57, .iastore, 1), (58, .return_, 1)]
theorem dgX12_atFirst_69 : ∀ q ∈ lgX12_atFirst_69, decode cX12_atFirst q.1 = .ok (q.2.1, q.2.2) := by decide +kernel
theorem dX12_atFirst_0 : decode cX12_atFirst 0 = .ok (.aload_n 0, 1) := dall dgX12_atFirst_69 0 rfl
theorem dX12_atFirst_1 : decode cX12_atFirst 1 = .ok (.getfield 7, 3) := dall dgX12_atFirst_69 1 rfl
theorem dX12_atFirst_4 : decode cX12_atFirst 4 = .ok (.iload_n 1, 1) := dall dgX12_atFirst_69 2 rfl
theorem dX12_atFirst_5 : decode cX12_atFirst 5 = .ok (.iconst 0, 1) := dall dgX12_atFirst_69 3 rfl
theorem dX12_atFirst_6 : decode cX12_atFirst 6 = .ok (.iadd, 1) := dall dgX12_atFirst_69 4 rfl
theorem dX12_atFirst_7 : decode cX12_atFirst 7 = .ok (.bipush 20, 2) := dall dgX12_atFirst_69 5 rfl
theorem dX12_atFirst_9 : decode cX12_atFirst 9 = .ok (.iastore, 1) := dall dgX12_atFirst_69 6 rfl
theorem dX12_atFirst_10 : decode cX12_atFirst 10 = .ok (.aload_n 0, 1) := dall dgX12_atFirst_69 7 rfl
theorem dX12_atFirst_11 : decode cX12_atFirst 11 = .ok (.getfield 7, 3) := dall dgX12_atFirst_69 8 rfl
theorem dX12_atFirst_14 : decode cX12_atFirst 14 = .ok (.iload_n 1, 1) := dall dgX12_atFirst_69 9 rfl
theorem dX12_atFirst_15 : decode cX12_atFirst 15 = .ok (.iconst 1, 1) := dall dgX12_atFirst_69 10 rfl
theorem dX12_atFirst_16 : decode cX12_atFirst 16 = .ok (.iadd, 1) := dall dgX12_atFirst_69 11 rfl
theorem dX12_atFirst_17 : decode cX12_atFirst 17 = .ok (.bipush 10, 2) := dall dgX12_atFirst_69 12 rfl
theorem dX12_atFirst_19 : decode cX12_atFirst 19 = .ok (.iastore, 1) := dall dgX12_atFirst_69 13 rfl
theorem dX12_atFirst_20 : decode cX12_atFirst 20 = .ok (.aload_n 0, 1) := dall dgX12_atFirst_69 14 rfl
theorem dX12_atFirst_21 : decode cX12_atFirst 21 = .ok (.getfield 7, 3) := dall dgX12_atFirst_69 15 rfl
theorem dX12_atFirst_24 : decode cX12_atFirst 24 = .ok (.iload_n 1, 1) := dall dgX12_atFirst_69 16 rfl
theorem dX12_atFirst_25 : decode cX12_atFirst 25 = .ok (.iconst 2, 1) := dall dgX12_atFirst_69 17 rfl
theorem dX12_atFirst_26 : decode cX12_atFirst 26 = .ok (.iadd, 1) := dall dgX12_atFirst_69 18 rfl
theorem dX12_atFirst_27 : decode cX12_atFirst 27 = .ok (.bipush 40, 2) := dall dgX12_atFirst_69 19 rfl
theorem dX12_atFirst_29 : decode cX12_atFirst 29 = .ok (.iastore, 1) := dall dgX12_atFirst_69 20 rfl
theorem dX12_atFirst_30 : decode cX12_atFirst 30 = .ok (.aload_n 0, 1) := dall dgX12_atFirst_69 21 rfl
theorem dX12_atFirst_31 : decode cX12_atFirst 31 = .ok (.getfield 7, 3) := dall dgX12_atFirst_69 22 rfl
theorem dX12_atFirst_34 : decode cX12_atFirst 34 = .ok (.iload_n 1, 1) := dall dgX12_atFirst_69 23 rfl
theorem dX12_atFirst_35 : decode cX12_atFirst 35 = .ok (.iconst 3, 1) := dall dgX12_atFirst_69 24 rfl
theorem dX12_atFirst_36 : decode cX12_atFirst 36 = .ok (.iadd, 1) := dall dgX12_atFirst_69 25 rfl
theorem dX12_atFirst_37 : decode cX12_atFirst 37 = .ok (.iconst 0, 1) := dall dgX12_atFirst_69 26 rfl
theorem dX12_atFirst_38 : decode cX12_atFirst 38 = .ok (.iastore, 1) := dall dgX12_atFirst_69 27 rfl
theorem dX12_atFirst_39 : decode cX12_atFirst 39 = .ok (.aload_n 0, 1) := dall dgX12_atFirst_69 28 rfl
theorem dX12_atFirst_40 : decode cX12_atFirst 40 = .ok (.getfield 7, 3) := dall dgX12_atFirst_69 29 rfl
theorem dX12_atFirst_43 : decode cX12_atFirst 43 = .ok (.iload_n 1, 1) := dall dgX12_atFirst_69 30 rfl
theorem dX12_atFirst_44 : decode cX12_atFirst 44 = .ok (.iconst 4, 1) := dall dgX12_atFirst_69 31 rfl
theorem dX12_atFirst_45 : decode cX12_atFirst 45 = .ok (.iadd, 1) := dall dgX12_atFirst_69 32 rfl
theorem dX12_atFirst_46 : decode cX12_atFirst 46 = .ok (.iconst 0, 1) := dall dgX12_atFirst_69 33 rfl
theorem dX12_atFirst_47 : decode cX12_atFirst 47 = .ok (.iastore, 1) := dall dgX12_atFirst_69 34 rfl
theorem dX12_atFirst_48 : decode cX12_atFirst 48 = .ok (.aload_n 0, 1) := dall dgX12_atFirst_69 35 rfl
theorem dX12_atFirst_49 : decode cX12_atFirst 49 = .ok (.getfield 7, 3) := dall dgX12_atFirst_69 36 rfl
theorem dX12_atFirst_52 : decode cX12_atFirst 52 = .ok (.iload_n 1, 1) := dall dgX12_atFirst_69 37 rfl
theorem dX12_atFirst_53 : decode cX12_atFirst 53 = .ok (.iconst 5, 1) := dall dgX12_atFirst_69 38 rfl
theorem dX12_atFirst_54 : decode cX12_atFirst 54 = .ok (.iadd, 1) := dall dgX12_atFirst_69 39 rfl
theorem dX12_atFirst_55 : decode cX12_atFirst 55 = .ok (.bipush 10, 2) := dall dgX12_atFirst_69 40 rfl
theorem dX12_atFirst_57 : decode cX12_atFirst 57 = .ok (.iastore, 1) := dall dgX12_atFirst_69 41 rfl
theorem dX12_atFirst_58 : decode cX12_atFirst 58 = .ok (.return_, 1) := dall dgX12_atFirst_69 42 rfl
set_option maxRecDepth 20000 in
theorem ggX12_type_X12_in : GoodIn wsX12_type wsX12_in := goodIn_r _ [7] rfl (by decide +kernel)
set_option maxRecDepth 20000 in
theorem gX12_type_X12_in : GoodIn wsX12_type (va_wsS RX12 100 yX12_in wsX12_in) := goodIn_app (goodIn_of _ (by decide +kernel)) ggX12_type_X12_in
def lgX12_type_70 : List (Nat × Instr × Nat) := [(0, .iload_n 3, 1), (1, .iconst 1, 1), (2, .bipush 8, 2), (4, .invokestatic 100, 3), (7, .ifCond .ne 5, 3), (10, .iconst (-1), 1), (11, .ireturn, 1), (12, .aload_n 0, 1), (13, .getfield 104, 3), (16, .iload_n 3, 1), (17, .iadd, 1), (18, .sipush 200, 3), (21, .if_icmp .le 6, 3), (27, .iload_n 3, 1), (28, .iconst 1, 1), (29, .isub, 1), (30, .istore 4, 2), (32, .iload 4, 2), (34, .ifCond .lt 41, 3), (37, .aload_n 0, 1), (38, .getfield 13, 3), (41, .aload_n 0, 1), (42, .getfield 104, 3), (45, .lload_n 1, 1), (46, .bipush 8, 2), (48, .iload 4, 2), (50, .imul, 1), (51, .lshr, 1), (52, .ldc2_w 108, 3), (55, .land, 1), (56, .l2i, 1), (57, .i2b, 1), (58, .bastore, 1), (59, .aload_n 0, 1), (60, .dup, 1), (61, .getfield 104, 3), (64, .iconst 1, 1), (65, .iadd, 1), (66, .putfield 104, 3), (69, .iinc 4 (-1), 3), (72, .goto (-40), 3), (75, .aload_n 0, 1), (76, .getfield 104, 3), (79, .ireturn, 1)]
theorem dgX12_type_70 : ∀ q ∈ lgX12_type_70, decode cX12_type q.1 = .ok (q.2.1, q.2.2) := by decide +kernel
theorem dX12_type_0 : decode cX12_type 0 = .ok (.iload_n 3, 1) := dall dgX12_type_70 0 rfl
theorem dX12_type_1 : decode cX12_type 1 = .ok (.iconst 1, 1) := dall dgX12_type_70 1 rfl
theorem dX12_type_2 : decode cX12_type 2 = .ok (.bipush 8, 2) := dall dgX12_type_70 2 rfl
theorem dX12_type_4 : decode cX12_type 4 = .ok (.invokestatic 100, 3) := dall dgX12_type_70 3 rfl
theorem dX12_type_7 : decode cX12_type 7 = .ok (.ifCond .ne 5, 3) := dall dgX12_type_70 4 rfl
theorem dX12_type_10 : decode cX12_type 10 = .ok (.iconst (-1), 1) := dall dgX12_type_70 5 rfl
theorem dX12_type_11 : decode cX12_type 11 = .ok (.ireturn, 1) := dall dgX12_type_70 6 rfl
theorem dX12_type_12 : decode cX12_type 12 = .ok (.aload_n 0, 1) := dall dgX12_type_70 7 rfl
theorem dX12_type_13 : decode cX12_type 13 = .ok (.getfield 104, 3) := dall dgX12_type_70 8 rfl
theorem dX12_type_16 : decode cX12_type 16 = .ok (.iload_n 3, 1) := dall dgX12_type_70 9 rfl
theorem dX12_type_17 : decode cX12_type 17 = .ok (.iadd, 1) := dall dgX12_type_70 10 rfl
theorem dX12_type_18 : decode cX12_type 18 = .ok (.sipush 200, 3) := dall dgX12_type_70 11 rfl
theorem dX12_type_21 : decode cX12_type 21 = .ok (.if_icmp .le 6, 3) := dall dgX12_type_70 12 rfl
theorem dX12_type_27 : decode cX12_type 27 = .ok (.iload_n 3, 1) := dall dgX12_type_70 13 rfl
theorem dX12_type_28 : decode cX12_type 28 = .ok (.iconst 1, 1) := dall dgX12_type_70 14 rfl
theorem dX12_type_29 : decode cX12_type 29 = .ok (.isub, 1) := dall dgX12_type_70 15 rfl
theorem dX12_type_30 : decode cX12_type 30 = .ok (.istore 4, 2) := dall dgX12_type_70 16 rfl
theorem dX12_type_32 : decode cX12_type 32 = .ok (.iload 4, 2) := dall dgX12_type_70 17 rfl
theorem dX12_type_34 : decode cX12_type 34 = .ok (.ifCond .lt 41, 3) := dall dgX12_type_70 18 rfl
theorem dX12_type_37 : decode cX12_type 37 = .ok (.aload_n 0, 1) := dall dgX12_type_70 19 rfl
theorem dX12_type_38 : decode cX12_type 38 = .ok (.getfield 13, 3) := dall dgX12_type_70 20 rfl
theorem dX12_type_41 : decode cX12_type 41 = .ok (.aload_n 0, 1) := dall dgX12_type_70 21 rfl
theorem dX12_type_42 : decode cX12_type 42 = .ok (.getfield 104, 3) := dall dgX12_type_70 22 rfl
theorem dX12_type_45 : decode cX12_type 45 = .ok (.lload_n 1, 1) := dall dgX12_type_70 23 rfl
theorem dX12_type_46 : decode cX12_type 46 = .ok (.bipush 8, 2) := dall dgX12_type_70 24 rfl
theorem dX12_type_48 : decode cX12_type 48 = .ok (.iload 4, 2) := dall dgX12_type_70 25 rfl
theorem dX12_type_50 : decode cX12_type 50 = .ok (.imul, 1) := dall dgX12_type_70 26 rfl
theorem dX12_type_51 : decode cX12_type 51 = .ok (.lshr, 1) := dall dgX12_type_70 27 rfl
theorem dX12_type_52 : decode cX12_type 52 = .ok (.ldc2_w 108, 3) := dall dgX12_type_70 28 rfl
theorem dX12_type_55 : decode cX12_type 55 = .ok (.land, 1) := dall dgX12_type_70 29 rfl
theorem dX12_type_56 : decode cX12_type 56 = .ok (.l2i, 1) := dall dgX12_type_70 30 rfl
theorem dX12_type_57 : decode cX12_type 57 = .ok (.i2b, 1) := dall dgX12_type_70 31 rfl
theorem dX12_type_58 : decode cX12_type 58 = .ok (.bastore, 1) := dall dgX12_type_70 32 rfl
theorem dX12_type_59 : decode cX12_type 59 = .ok (.aload_n 0, 1) := dall dgX12_type_70 33 rfl
theorem dX12_type_60 : decode cX12_type 60 = .ok (.dup, 1) := dall dgX12_type_70 34 rfl
theorem dX12_type_61 : decode cX12_type 61 = .ok (.getfield 104, 3) := dall dgX12_type_70 35 rfl
theorem dX12_type_64 : decode cX12_type 64 = .ok (.iconst 1, 1) := dall dgX12_type_70 36 rfl
theorem dX12_type_65 : decode cX12_type 65 = .ok (.iadd, 1) := dall dgX12_type_70 37 rfl
theorem dX12_type_66 : decode cX12_type 66 = .ok (.putfield 104, 3) := dall dgX12_type_70 38 rfl
theorem dX12_type_69 : decode cX12_type 69 = .ok (.iinc 4 (-1), 3) := dall dgX12_type_70 39 rfl
theorem dX12_type_72 : decode cX12_type 72 = .ok (.goto (-40), 3) := dall dgX12_type_70 40 rfl
theorem dX12_type_75 : decode cX12_type 75 = .ok (.aload_n 0, 1) := dall dgX12_type_70 41 rfl
theorem dX12_type_76 : decode cX12_type 76 = .ok (.getfield 104, 3) := dall dgX12_type_70 42 rfl
theorem dX12_type_79 : decode cX12_type 79 = .ok (.ireturn, 1) := dall dgX12_type_70 43 rfl
def lgX12_clear_71 : List (Nat × Instr × Nat) := [(0, .aload_n 0, 1), (1, .getfield 104, 3), (4, .istore_n 1, 1), (5, .aload_n 0, 1), (6, .iconst 0, 1), (7, .putfield 104, 3), (10, .iload_n 1, 1), (11, .ireturn, 1)]
theorem dgX12_clear_71 : ∀ q ∈ lgX12_clear_71, decode cX12_clear q.1 = .ok (q.2.1, q.2.2) := by decide +kernel
theorem dX12_clear_0 : decode cX12_clear 0 = .ok (.aload_n 0, 1) := dall dgX12_clear_71 0 rfl
theorem dX12_clear_1 : decode cX12_clear 1 = .ok (.getfield 104, 3) := dall dgX12_clear_71 1 rfl
theorem dX12_clear_4 : decode cX12_clear 4 = .ok (.istore_n 1, 1) := dall dgX12_clear_71 2 rfl
theorem dX12_clear_5 : decode cX12_clear 5 = .ok (.aload_n 0, 1) := dall dgX12_clear_71 3 rfl
theorem dX12_clear_6 : decode cX12_clear 6 = .ok (.iconst 0, 1) := dall dgX12_clear_71 4 rfl
theorem dX12_clear_7 : decode cX12_clear 7 = .ok (.putfield 104, 3) := dall dgX12_clear_71 5 rfl
theorem dX12_clear_10 : decode cX12_clear 10 = .ok (.iload_n 1, 1) := dall dgX12_clear_71 6 rfl
theorem dX12_clear_11 : decode cX12_clear 11 = .ok (.ireturn, 1) := dall dgX12_clear_71 7 rfl
def lgX12_here_72 : List (Nat × Instr × Nat) := [(0, .aload_n 0, 1), (1, .getfield 110, 3), (4, .aload_n 0, 1), (5, .getfield 104, 3), (8, .if_icmp .ge 19, 3), (27, .iconst (-1), 1), (28, .ireturn, 1)]
theorem dgX12_here_72 : ∀ q ∈ lgX12_here_72, decode cX12_here q.1 = .ok (q.2.1, q.2.2) := by decide +kernel
theorem dX12_here_0 : decode cX12_here 0 = .ok (.aload_n 0, 1) := dall dgX12_here_72 0 rfl
theorem dX12_here_1 : decode cX12_here 1 = .ok (.getfield 110, 3) := dall dgX12_here_72 1 rfl
theorem dX12_here_4 : decode cX12_here 4 = .ok (.aload_n 0, 1) := dall dgX12_here_72 2 rfl
theorem dX12_here_5 : decode cX12_here 5 = .ok (.getfield 104, 3) := dall dgX12_here_72 3 rfl
theorem dX12_here_8 : decode cX12_here 8 = .ok (.if_icmp .ge 19, 3) := dall dgX12_here_72 4 rfl
theorem dX12_here_27 : decode cX12_here 27 = .ok (.iconst (-1), 1) := dall dgX12_here_72 5 rfl
theorem dX12_here_28 : decode cX12_here 28 = .ok (.ireturn, 1) := dall dgX12_here_72 6 rfl
set_option maxRecDepth 20000 in
theorem ggX12_next_X12_here : GoodIn wsX12_next wsX12_here := goodIn_r _ [9, 1, 10, 11, 27, 28, 29, 30, 31, 32, 33, 34, 35, 36, 37, 38, 39, 40, 41, 42, 43, 44, 45, 46, 47, 48, 49, 50, 51, 52, 53, 54, 55, 56, 57, 58, 59, 60, 61, 62, 63, 64, 65, 66, 67, 68, 69, 70, 71] rfl (by decide +kernel)
set_option maxRecDepth 20000 in
theorem gX12_next_X12_here : GoodIn wsX12_next (wsV RX12 125 RX12 yX12_here wsX12_here) := goodIn_app (goodIn_of _ (by decide +kernel)) ggX12_next_X12_here
def lgX12_next_73 : List (Nat × Instr × Nat) := [(0, .aload_n 0, 1), (1, .invokevirtual 125, 3), (4, .bipush 32, 2), (6, .if_icmp .ne 16, 3), (22, .aload_n 0, 1), (23, .aload_n 0, 1), (24, .getfield 110, 3), (27, .putfield 129, 3), (30, .aload_n 0, 1), (31, .iconst 0, 1), (32, .putfield 132, 3), (35, .aload_n 0, 1), (36, .invokevirtual 125, 3), (39, .istore_n 1, 1), (40, .iload_n 1, 1), (41, .ifCond .ge 11, 3), (44, .aload_n 0, 1), (45, .iconst 0, 1), (46, .putfield 135, 3), (49, .goto 218, 3), (267, .return_, 1)]
theorem dgX12_next_73 : ∀ q ∈ lgX12_next_73, decode cX12_next q.1 = .ok (q.2.1, q.2.2) := by decide +kernel
theorem dX12_next_0 : decode cX12_next 0 = .ok (.aload_n 0, 1) := dall dgX12_next_73 0 rfl
theorem dX12_next_1 : decode cX12_next 1 = .ok (.invokevirtual 125, 3) := dall dgX12_next_73 1 rfl
theorem dX12_next_4 : decode cX12_next 4 = .ok (.bipush 32, 2) := dall dgX12_next_73 2 rfl
theorem dX12_next_6 : decode cX12_next 6 = .ok (.if_icmp .ne 16, 3) := dall dgX12_next_73 3 rfl
theorem dX12_next_22 : decode cX12_next 22 = .ok (.aload_n 0, 1) := dall dgX12_next_73 4 rfl
theorem dX12_next_23 : decode cX12_next 23 = .ok (.aload_n 0, 1) := dall dgX12_next_73 5 rfl
theorem dX12_next_24 : decode cX12_next 24 = .ok (.getfield 110, 3) := dall dgX12_next_73 6 rfl
theorem dX12_next_27 : decode cX12_next 27 = .ok (.putfield 129, 3) := dall dgX12_next_73 7 rfl
theorem dX12_next_30 : decode cX12_next 30 = .ok (.aload_n 0, 1) := dall dgX12_next_73 8 rfl
theorem dX12_next_31 : decode cX12_next 31 = .ok (.iconst 0, 1) := dall dgX12_next_73 9 rfl
theorem dX12_next_32 : decode cX12_next 32 = .ok (.putfield 132, 3) := dall dgX12_next_73 10 rfl
theorem dX12_next_35 : decode cX12_next 35 = .ok (.aload_n 0, 1) := dall dgX12_next_73 11 rfl
theorem dX12_next_36 : decode cX12_next 36 = .ok (.invokevirtual 125, 3) := dall dgX12_next_73 12 rfl
theorem dX12_next_39 : decode cX12_next 39 = .ok (.istore_n 1, 1) := dall dgX12_next_73 13 rfl
theorem dX12_next_40 : decode cX12_next 40 = .ok (.iload_n 1, 1) := dall dgX12_next_73 14 rfl
theorem dX12_next_41 : decode cX12_next 41 = .ok (.ifCond .ge 11, 3) := dall dgX12_next_73 15 rfl
theorem dX12_next_44 : decode cX12_next 44 = .ok (.aload_n 0, 1) := dall dgX12_next_73 16 rfl
theorem dX12_next_45 : decode cX12_next 45 = .ok (.iconst 0, 1) := dall dgX12_next_73 17 rfl
theorem dX12_next_46 : decode cX12_next 46 = .ok (.putfield 135, 3) := dall dgX12_next_73 18 rfl
theorem dX12_next_49 : decode cX12_next 49 = .ok (.goto 218, 3) := dall dgX12_next_73 19 rfl
theorem dX12_next_267 : decode cX12_next 267 = .ok (.return_, 1) := dall dgX12_next_73 20 rfl
set_option maxRecDepth 20000 in
theorem ggX12_rules_X12_atFirst : GoodIn wsX12_rules wsX12_atFirst := goodIn_r _ [11, 5, 44, 45, 46, 47, 48, 49, 50, 51, 52, 53, 54, 55, 56, 57, 58, 59, 60, 61, 62, 63, 64, 65, 66, 67, 68, 69, 70, 71, 72, 73, 74, 75, 76, 77, 78, 79, 80, 81, 82, 83, 84, 85, 86, 87, 88] rfl (by decide +kernel)
set_option maxRecDepth 20000 in
theorem gX12_rules_X12_atFirst : GoodIn wsX12_rules (wsV RX12 96 RX12 yX12_atFirst wsX12_atFirst) := goodIn_app (goodIn_of _ (by decide +kernel)) ggX12_rules_X12_atFirst
set_option maxRecDepth 20000 in
theorem ggX12_rules_X12_next : GoodIn wsX12_rules wsX12_next := goodIn_r _ [15, 1, 16, 4, 3, 17, 18, 19, 10, 20, 6, 21, 22, 23, 24, 25, 26, 27, 28, 29, 30, 31, 32, 33, 34, 35, 36, 44, 45, 46, 47, 48, 49, 50, 51, 52, 53, 54, 55, 56, 57, 58, 59, 60, 61, 62, 63, 64, 65, 66, 67, 68, 69, 70, 71, 72, 73, 74, 75, 76, 77, 78, 79, 80, 81, 82, 83, 84, 85, 86, 87, 88] rfl (by decide +kernel)
set_option maxRecDepth 20000 in
theorem gX12_rules_X12_next : GoodIn wsX12_rules (wsV RX12 145 RX12 yX12_next wsX12_next) := goodIn_app (goodIn_of _ (by decide +kernel)) ggX12_rules_X12_next
def lgX12_rules_74 : List (Nat × Instr × Nat) := [(0, .aload_n 0, 1), (1, .iconst 0, 1), (2, .putfield 110, 3), (5, .aload_n 0, 1), (6, .bipush (-9), 2), (8, .putfield 142, 3), (11, .iconst 0, 1), (12, .istore_n 1, 1), (13, .iconst 0, 1), (14, .istore_n 2, 1), (15, .aload_n 0, 1), (16, .bipush 6, 2), (18, .invokevirtual 96, 3), (21, .aload_n 0, 1), (22, .invokevirtual 145, 3), (25, .aload_n 0, 1), (26, .getfield 142, 3), (29, .bipush (-9), 2), (31, .if_icmp .ne 119, 3), (34, .aload_n 0, 1), (35, .getfield 135, 3), (38, .ifCond .eq 112, 3), (150, .aload_n 0, 1), (151, .getfield 142, 3), (154, .bipush (-9), 2), (156, .if_icmp .eq 11, 3), (167, .iconst 0, 1), (168, .istore_n 3, 1), (169, .iload_n 3, 1), (170, .bipush 6, 2), (172, .if_icmp .ge 24, 3), (175, .aload_n 0, 1), (176, .getfield 7, 3), (179, .iload_n 3, 1), (180, .aload_n 0, 1), (181, .getfield 7, 3), (184, .bipush 6, 2), (186, .iload_n 3, 1), (187, .iadd, 1), (188, .iaload, 1), (189, .iastore, 1), (190, .iinc 3 1, 3), (193, .goto (-24), 3), (196, .aload_n 0, 1), (197, .iconst 0, 1), (198, .putfield 104, 3), (201, .iload_n 2, 1), (202, .ireturn, 1)]
theorem dgX12_rules_74 : ∀ q ∈ lgX12_rules_74, decode cX12_rules q.1 = .ok (q.2.1, q.2.2) := by decide +kernel
theorem dX12_rules_0 : decode cX12_rules 0 = .ok (.aload_n 0, 1) := dall dgX12_rules_74 0 rfl
theorem dX12_rules_1 : decode cX12_rules 1 = .ok (.iconst 0, 1) := dall dgX12_rules_74 1 rfl
theorem dX12_rules_2 : decode cX12_rules 2 = .ok (.putfield 110, 3) := dall dgX12_rules_74 2 rfl
theorem dX12_rules_5 : decode cX12_rules 5 = .ok (.aload_n 0, 1) := dall dgX12_rules_74 3 rfl
theorem dX12_rules_6 : decode cX12_rules 6 = .ok (.bipush (-9), 2) := dall dgX12_rules_74 4 rfl
theorem dX12_rules_8 : decode cX12_rules 8 = .ok (.putfield 142, 3) := dall dgX12_rules_74 5 rfl
theorem dX12_rules_11 : decode cX12_rules 11 = .ok (.iconst 0, 1) := dall dgX12_rules_74 6 rfl
theorem dX12_rules_12 : decode cX12_rules 12 = .ok (.istore_n 1, 1) := dall dgX12_rules_74 7 rfl
theorem dX12_rules_13 : decode cX12_rules 13 = .ok (.iconst 0, 1) := dall dgX12_rules_74 8 rfl
theorem dX12_rules_14 : decode cX12_rules 14 = .ok (.istore_n 2, 1) := dall dgX12_rules_74 9 rfl
theorem dX12_rules_15 : decode cX12_rules 15 = .ok (.aload_n 0, 1) := dall dgX12_rules_74 10 rfl
theorem dX12_rules_16 : decode cX12_rules 16 = .ok (.bipush 6, 2) := dall dgX12_rules_74 11 rfl
theorem dX12_rules_18 : decode cX12_rules 18 = .ok (.invokevirtual 96, 3) := dall dgX12_rules_74 12 rfl
theorem dX12_rules_21 : decode cX12_rules 21 = .ok (.aload_n 0, 1) := dall dgX12_rules_74 13 rfl
theorem dX12_rules_22 : decode cX12_rules 22 = .ok (.invokevirtual 145, 3) := dall dgX12_rules_74 14 rfl
theorem dX12_rules_25 : decode cX12_rules 25 = .ok (.aload_n 0, 1) := dall dgX12_rules_74 15 rfl
theorem dX12_rules_26 : decode cX12_rules 26 = .ok (.getfield 142, 3) := dall dgX12_rules_74 16 rfl
theorem dX12_rules_29 : decode cX12_rules 29 = .ok (.bipush (-9), 2) := dall dgX12_rules_74 17 rfl
theorem dX12_rules_31 : decode cX12_rules 31 = .ok (.if_icmp .ne 119, 3) := dall dgX12_rules_74 18 rfl
theorem dX12_rules_34 : decode cX12_rules 34 = .ok (.aload_n 0, 1) := dall dgX12_rules_74 19 rfl
theorem dX12_rules_35 : decode cX12_rules 35 = .ok (.getfield 135, 3) := dall dgX12_rules_74 20 rfl
theorem dX12_rules_38 : decode cX12_rules 38 = .ok (.ifCond .eq 112, 3) := dall dgX12_rules_74 21 rfl
theorem dX12_rules_150 : decode cX12_rules 150 = .ok (.aload_n 0, 1) := dall dgX12_rules_74 22 rfl
theorem dX12_rules_151 : decode cX12_rules 151 = .ok (.getfield 142, 3) := dall dgX12_rules_74 23 rfl
theorem dX12_rules_154 : decode cX12_rules 154 = .ok (.bipush (-9), 2) := dall dgX12_rules_74 24 rfl
theorem dX12_rules_156 : decode cX12_rules 156 = .ok (.if_icmp .eq 11, 3) := dall dgX12_rules_74 25 rfl
theorem dX12_rules_167 : decode cX12_rules 167 = .ok (.iconst 0, 1) := dall dgX12_rules_74 26 rfl
theorem dX12_rules_168 : decode cX12_rules 168 = .ok (.istore_n 3, 1) := dall dgX12_rules_74 27 rfl
theorem dX12_rules_169 : decode cX12_rules 169 = .ok (.iload_n 3, 1) := dall dgX12_rules_74 28 rfl
theorem dX12_rules_170 : decode cX12_rules 170 = .ok (.bipush 6, 2) := dall dgX12_rules_74 29 rfl
theorem dX12_rules_172 : decode cX12_rules 172 = .ok (.if_icmp .ge 24, 3) := dall dgX12_rules_74 30 rfl
theorem dX12_rules_175 : decode cX12_rules 175 = .ok (.aload_n 0, 1) := dall dgX12_rules_74 31 rfl
theorem dX12_rules_176 : decode cX12_rules 176 = .ok (.getfield 7, 3) := dall dgX12_rules_74 32 rfl
theorem dX12_rules_179 : decode cX12_rules 179 = .ok (.iload_n 3, 1) := dall dgX12_rules_74 33 rfl
theorem dX12_rules_180 : decode cX12_rules 180 = .ok (.aload_n 0, 1) := dall dgX12_rules_74 34 rfl
theorem dX12_rules_181 : decode cX12_rules 181 = .ok (.getfield 7, 3) := dall dgX12_rules_74 35 rfl
theorem dX12_rules_184 : decode cX12_rules 184 = .ok (.bipush 6, 2) := dall dgX12_rules_74 36 rfl
theorem dX12_rules_186 : decode cX12_rules 186 = .ok (.iload_n 3, 1) := dall dgX12_rules_74 37 rfl
theorem dX12_rules_187 : decode cX12_rules 187 = .ok (.iadd, 1) := dall dgX12_rules_74 38 rfl
theorem dX12_rules_188 : decode cX12_rules 188 = .ok (.iaload, 1) := dall dgX12_rules_74 39 rfl
theorem dX12_rules_189 : decode cX12_rules 189 = .ok (.iastore, 1) := dall dgX12_rules_74 40 rfl
theorem dX12_rules_190 : decode cX12_rules 190 = .ok (.iinc 3 1, 3) := dall dgX12_rules_74 41 rfl
theorem dX12_rules_193 : decode cX12_rules 193 = .ok (.goto (-24), 3) := dall dgX12_rules_74 42 rfl
theorem dX12_rules_196 : decode cX12_rules 196 = .ok (.aload_n 0, 1) := dall dgX12_rules_74 43 rfl
theorem dX12_rules_197 : decode cX12_rules 197 = .ok (.iconst 0, 1) := dall dgX12_rules_74 44 rfl
theorem dX12_rules_198 : decode cX12_rules 198 = .ok (.putfield 104, 3) := dall dgX12_rules_74 45 rfl
theorem dX12_rules_201 : decode cX12_rules 201 = .ok (.iload_n 2, 1) := dall dgX12_rules_74 46 rfl
theorem dX12_rules_202 : decode cX12_rules 202 = .ok (.ireturn, 1) := dall dgX12_rules_74 47 rfl
set_option maxRecDepth 20000 in
theorem ggX12_rule_X12_in : GoodIn wsX12_rule wsX12_in := goodIn_r _ [5] rfl (by decide +kernel)
set_option maxRecDepth 20000 in
theorem gX12_rule_X12_in : GoodIn wsX12_rule (va_wsS RX12 100 yX12_in wsX12_in) := goodIn_app (goodIn_of _ (by decide +kernel)) ggX12_rule_X12_in
def lgX12_rule_75 : List (Nat × Instr × Nat) := [(0, .iload_n 1, 1), (1, .iconst 0, 1), (2, .iconst 5, 1), (3, .invokestatic 100, 3), (6, .ifCond .eq 12, 3), (9, .aload_n 0, 1), (10, .getfield 7, 3), (13, .iload_n 1, 1), (14, .iaload, 1), (15, .goto 4, 3), (18, .iconst (-1), 1), (19, .ireturn, 1)]
theorem dgX12_rule_75 : ∀ q ∈ lgX12_rule_75, decode cX12_rule q.1 = .ok (q.2.1, q.2.2) := by decide +kernel
theorem dX12_rule_0 : decode cX12_rule 0 = .ok (.iload_n 1, 1) := dall dgX12_rule_75 0 rfl
theorem dX12_rule_1 : decode cX12_rule 1 = .ok (.iconst 0, 1) := dall dgX12_rule_75 1 rfl
theorem dX12_rule_2 : decode cX12_rule 2 = .ok (.iconst 5, 1) := dall dgX12_rule_75 2 rfl
theorem dX12_rule_3 : decode cX12_rule 3 = .ok (.invokestatic 100, 3) := dall dgX12_rule_75 3 rfl
theorem dX12_rule_6 : decode cX12_rule 6 = .ok (.ifCond .eq 12, 3) := dall dgX12_rule_75 4 rfl
theorem dX12_rule_9 : decode cX12_rule 9 = .ok (.aload_n 0, 1) := dall dgX12_rule_75 5 rfl
theorem dX12_rule_10 : decode cX12_rule 10 = .ok (.getfield 7, 3) := dall dgX12_rule_75 6 rfl
theorem dX12_rule_13 : decode cX12_rule 13 = .ok (.iload_n 1, 1) := dall dgX12_rule_75 7 rfl
theorem dX12_rule_14 : decode cX12_rule 14 = .ok (.iaload, 1) := dall dgX12_rule_75 8 rfl
theorem dX12_rule_15 : decode cX12_rule 15 = .ok (.goto 4, 3) := dall dgX12_rule_75 9 rfl
theorem dX12_rule_18 : decode cX12_rule 18 = .ok (.iconst (-1), 1) := dall dgX12_rule_75 10 rfl
theorem dX12_rule_19 : decode cX12_rule 19 = .ok (.ireturn, 1) := dall dgX12_rule_75 11 rfl
def lgX12_addRow_76 : List (Nat × Instr × Nat) := [(0, .aload_n 0, 1), (1, .getfield 17, 3), (4, .iconst 4, 1), (5, .aload_n 0, 1), (6, .getfield 156, 3), (9, .imul, 1), (10, .iload_n 1, 1), (11, .iastore, 1), (12, .aload_n 0, 1), (13, .getfield 17, 3), (16, .iconst 4, 1), (17, .aload_n 0, 1), (18, .getfield 156, 3), (21, .imul, 1), (22, .iconst 1, 1), (23, .iadd, 1), (24, .iload_n 2, 1), (25, .iastore, 1), (26, .aload_n 0, 1), (27, .getfield 17, 3), (30, .iconst 4, 1), (31, .aload_n 0, 1), (32, .getfield 156, 3), (35, .imul, 1), (36, .iconst 2, 1), (37, .iadd, 1), (38, .iload_n 3, 1), (39, .iastore, 1), (40, .aload_n 0, 1), (41, .getfield 17, 3), (44, .iconst 4, 1), (45, .aload_n 0, 1), (46, .getfield 156, 3), (49, .imul, 1), (50, .iconst 3, 1), (51, .iadd, 1), (52, .iload 4, 2), (54, .iastore, 1), (55, .aload_n 0, 1), (56, .getfield 20, 3), (59, .aload_n 0, 1), (60, .getfield 156, 3), (63, .iload 5, 2), (65, .bastore, 1), (66, .aload_n 0, 1), (67, .getfield 24, 3), (70, .aload_n 0, 1), (71, .getfield 156, 3), (74, .iconst 0, 1), (75, .bastore, 1)]
theorem dgX12_addRow_76 : ∀ q ∈ lgX12_addRow_76, decode cX12_addRow q.1 = .ok (q.2.1, q.2.2) := by decide +kernel
theorem dX12_addRow_0 : decode cX12_addRow 0 = .ok (.aload_n 0, 1) := dall dgX12_addRow_76 0 rfl
theorem dX12_addRow_1 : decode cX12_addRow 1 = .ok (.getfield 17, 3) := dall dgX12_addRow_76 1 rfl
theorem dX12_addRow_4 : decode cX12_addRow 4 = .ok (.iconst 4, 1) := dall dgX12_addRow_76 2 rfl
theorem dX12_addRow_5 : decode cX12_addRow 5 = .ok (.aload_n 0, 1) := dall dgX12_addRow_76 3 rfl
theorem dX12_addRow_6 : decode cX12_addRow 6 = .ok (.getfield 156, 3) := dall dgX12_addRow_76 4 rfl
theorem dX12_addRow_9 : decode cX12_addRow 9 = .ok (.imul, 1) := dall dgX12_addRow_76 5 rfl
theorem dX12_addRow_10 : decode cX12_addRow 10 = .ok (.iload_n 1, 1) := dall dgX12_addRow_76 6 rfl
theorem dX12_addRow_11 : decode cX12_addRow 11 = .ok (.iastore, 1) := dall dgX12_addRow_76 7 rfl
theorem dX12_addRow_12 : decode cX12_addRow 12 = .ok (.aload_n 0, 1) := dall dgX12_addRow_76 8 rfl
theorem dX12_addRow_13 : decode cX12_addRow 13 = .ok (.getfield 17, 3) := dall dgX12_addRow_76 9 rfl
theorem dX12_addRow_16 : decode cX12_addRow 16 = .ok (.iconst 4, 1) := dall dgX12_addRow_76 10 rfl
theorem dX12_addRow_17 : decode cX12_addRow 17 = .ok (.aload_n 0, 1) := dall dgX12_addRow_76 11 rfl
theorem dX12_addRow_18 : decode cX12_addRow 18 = .ok (.getfield 156, 3) := dall dgX12_addRow_76 12 rfl
theorem dX12_addRow_21 : decode cX12_addRow 21 = .ok (.imul, 1) := dall dgX12_addRow_76 13 rfl
theorem dX12_addRow_22 : decode cX12_addRow 22 = .ok (.iconst 1, 1) := dall dgX12_addRow_76 14 rfl
theorem dX12_addRow_23 : decode cX12_addRow 23 = .ok (.iadd, 1) := dall dgX12_addRow_76 15 rfl
theorem dX12_addRow_24 : decode cX12_addRow 24 = .ok (.iload_n 2, 1) := dall dgX12_addRow_76 16 rfl
theorem dX12_addRow_25 : decode cX12_addRow 25 = .ok (.iastore, 1) := dall dgX12_addRow_76 17 rfl
theorem dX12_addRow_26 : decode cX12_addRow 26 = .ok (.aload_n 0, 1) := dall dgX12_addRow_76 18 rfl
theorem dX12_addRow_27 : decode cX12_addRow 27 = .ok (.getfield 17, 3) := dall dgX12_addRow_76 19 rfl
theorem dX12_addRow_30 : decode cX12_addRow 30 = .ok (.iconst 4, 1) := dall dgX12_addRow_76 20 rfl
theorem dX12_addRow_31 : decode cX12_addRow 31 = .ok (.aload_n 0, 1) := dall dgX12_addRow_76 21 rfl
theorem dX12_addRow_32 : decode cX12_addRow 32 = .ok (.getfield 156, 3) := dall dgX12_addRow_76 22 rfl
theorem dX12_addRow_35 : decode cX12_addRow 35 = .ok (.imul, 1) := dall dgX12_addRow_76 23 rfl
theorem dX12_addRow_36 : decode cX12_addRow 36 = .ok (.iconst 2, 1) := dall dgX12_addRow_76 24 rfl
theorem dX12_addRow_37 : decode cX12_addRow 37 = .ok (.iadd, 1) := dall dgX12_addRow_76 25 rfl
theorem dX12_addRow_38 : decode cX12_addRow 38 = .ok (.iload_n 3, 1) := dall dgX12_addRow_76 26 rfl
theorem dX12_addRow_39 : decode cX12_addRow 39 = .ok (.iastore, 1) := dall dgX12_addRow_76 27 rfl
theorem dX12_addRow_40 : decode cX12_addRow 40 = .ok (.aload_n 0, 1) := dall dgX12_addRow_76 28 rfl
theorem dX12_addRow_41 : decode cX12_addRow 41 = .ok (.getfield 17, 3) := dall dgX12_addRow_76 29 rfl
theorem dX12_addRow_44 : decode cX12_addRow 44 = .ok (.iconst 4, 1) := dall dgX12_addRow_76 30 rfl
theorem dX12_addRow_45 : decode cX12_addRow 45 = .ok (.aload_n 0, 1) := dall dgX12_addRow_76 31 rfl
theorem dX12_addRow_46 : decode cX12_addRow 46 = .ok (.getfield 156, 3) := dall dgX12_addRow_76 32 rfl
theorem dX12_addRow_49 : decode cX12_addRow 49 = .ok (.imul, 1) := dall dgX12_addRow_76 33 rfl
theorem dX12_addRow_50 : decode cX12_addRow 50 = .ok (.iconst 3, 1) := dall dgX12_addRow_76 34 rfl
theorem dX12_addRow_51 : decode cX12_addRow 51 = .ok (.iadd, 1) := dall dgX12_addRow_76 35 rfl
theorem dX12_addRow_52 : decode cX12_addRow 52 = .ok (.iload 4, 2) := dall dgX12_addRow_76 36 rfl
theorem dX12_addRow_54 : decode cX12_addRow 54 = .ok (.iastore, 1) := dall dgX12_addRow_76 37 rfl
theorem dX12_addRow_55 : decode cX12_addRow 55 = .ok (.aload_n 0, 1) := dall dgX12_addRow_76 38 rfl
theorem dX12_addRow_56 : decode cX12_addRow 56 = .ok (.getfield 20, 3) := dall dgX12_addRow_76 39 rfl
theorem dX12_addRow_59 : decode cX12_addRow 59 = .ok (.aload_n 0, 1) := dall dgX12_addRow_76 40 rfl
theorem dX12_addRow_60 : decode cX12_addRow 60 = .ok (.getfield 156, 3) := dall dgX12_addRow_76 41 rfl
theorem dX12_addRow_63 : decode cX12_addRow 63 = .ok (.iload 5, 2) := dall dgX12_addRow_76 42 rfl
theorem dX12_addRow_65 : decode cX12_addRow 65 = .ok (.bastore, 1) := dall dgX12_addRow_76 43 rfl
theorem dX12_addRow_66 : decode cX12_addRow 66 = .ok (.aload_n 0, 1) := dall dgX12_addRow_76 44 rfl
theorem dX12_addRow_67 : decode cX12_addRow 67 = .ok (.getfield 24, 3) := dall dgX12_addRow_76 45 rfl
theorem dX12_addRow_70 : decode cX12_addRow 70 = .ok (.aload_n 0, 1) := dall dgX12_addRow_76 46 rfl
theorem dX12_addRow_71 : decode cX12_addRow 71 = .ok (.getfield 156, 3) := dall dgX12_addRow_76 47 rfl
theorem dX12_addRow_74 : decode cX12_addRow 74 = .ok (.iconst 0, 1) := dall dgX12_addRow_76 48 rfl
theorem dX12_addRow_75 : decode cX12_addRow 75 = .ok (.bastore, 1) := dall dgX12_addRow_76 49 rfl
def lgX12_addRow_77 : List (Nat × Instr × Nat) := [(76, .aload_n 0, 1), (77, .getfield 27, 3), (80, .aload_n 0, 1), (81, .getfield 156, 3), (84, .iconst 0, 1), (85, .iastore, 1), (86, .aload_n 0, 1), (87, .dup, 1), (88, .getfield 156, 3), (91, .iconst 1, 1), (92, .iadd, 1), (93, .putfield 156, 3), (96, .return_, 1)]
theorem dgX12_addRow_77 : ∀ q ∈ lgX12_addRow_77, decode cX12_addRow q.1 = .ok (q.2.1, q.2.2) := by decide +kernel
theorem dX12_addRow_76 : decode cX12_addRow 76 = .ok (.aload_n 0, 1) := dall dgX12_addRow_77 0 rfl
theorem dX12_addRow_77 : decode cX12_addRow 77 = .ok (.getfield 27, 3) := dall dgX12_addRow_77 1 rfl
theorem dX12_addRow_80 : decode cX12_addRow 80 = .ok (.aload_n 0, 1) := dall dgX12_addRow_77 2 rfl
theorem dX12_addRow_81 : decode cX12_addRow 81 = .ok (.getfield 156, 3) := dall dgX12_addRow_77 3 rfl
theorem dX12_addRow_84 : decode cX12_addRow 84 = .ok (.iconst 0, 1) := dall dgX12_addRow_77 4 rfl
theorem dX12_addRow_85 : decode cX12_addRow 85 = .ok (.iastore, 1) := dall dgX12_addRow_77 5 rfl
theorem dX12_addRow_86 : decode cX12_addRow 86 = .ok (.aload_n 0, 1) := dall dgX12_addRow_77 6 rfl
theorem dX12_addRow_87 : decode cX12_addRow 87 = .ok (.dup, 1) := dall dgX12_addRow_77 7 rfl
theorem dX12_addRow_88 : decode cX12_addRow 88 = .ok (.getfield 156, 3) := dall dgX12_addRow_77 8 rfl
theorem dX12_addRow_91 : decode cX12_addRow 91 = .ok (.iconst 1, 1) := dall dgX12_addRow_77 9 rfl
theorem dX12_addRow_92 : decode cX12_addRow 92 = .ok (.iadd, 1) := dall dgX12_addRow_77 10 rfl
theorem dX12_addRow_93 : decode cX12_addRow 93 = .ok (.putfield 156, 3) := dall dgX12_addRow_77 11 rfl
theorem dX12_addRow_96 : decode cX12_addRow 96 = .ok (.return_, 1) := dall dgX12_addRow_77 12 rfl
set_option maxRecDepth 20000 in
theorem ggX12_row_X12_in : GoodIn wsX12_row wsX12_in := goodIn_r _ [5] rfl (by decide +kernel)
set_option maxRecDepth 20000 in
theorem gX12_row_X12_in : GoodIn wsX12_row (va_wsS RX12 100 yX12_in wsX12_in) := goodIn_app (goodIn_of _ (by decide +kernel)) ggX12_row_X12_in
set_option maxRecDepth 20000 in
theorem ggX12_row_X12_addRow : GoodIn wsX12_row wsX12_addRow := goodIn_r _ [9, 10, 1, 11, 12, 13, 14, 15, 16, 17, 18, 19, 20, 21, 22, 23, 24, 25, 26, 27, 28, 29, 30, 31, 32, 33, 34, 35, 36, 37, 38, 39, 40, 41, 42, 43, 44, 45, 46, 47, 48, 49, 50, 51, 52, 53, 54, 55, 56, 57, 58] rfl (by decide +kernel)
set_option maxRecDepth 20000 in
theorem gX12_row_X12_addRow : GoodIn wsX12_row (wsV RX12 159 RX12 yX12_addRow wsX12_addRow) := goodIn_app (goodIn_of _ (by decide +kernel)) ggX12_row_X12_addRow
def lgX12_row_78 : List (Nat × Instr × Nat) := [(0, .iload_n 1, 1), (1, .iconst 0, 1), (2, .bipush 99, 2), (4, .invokestatic 100, 3), (7, .ifCond .eq 34, 3), (10, .iload_n 2, 1), (11, .iconst 0, 1), (12, .bipush 99, 2), (14, .invokestatic 100, 3), (17, .ifCond .eq 24, 3), (20, .iload_n 3, 1), (21, .iconst 0, 1), (22, .bipush 99, 2), (24, .invokestatic 100, 3), (27, .ifCond .eq 14, 3), (30, .iload 4, 2), (32, .iconst 0, 1), (33, .bipush 99, 2), (35, .invokestatic 100, 3), (38, .ifCond .ne 5, 3), (41, .iconst (-1), 1), (42, .ireturn, 1), (43, .aload_n 0, 1), (44, .getfield 156, 3), (47, .bipush 48, 2), (49, .if_icmp .ne 6, 3), (55, .aload_n 0, 1), (56, .iload_n 1, 1), (57, .iload_n 2, 1), (58, .iload_n 3, 1), (59, .iload 4, 2), (61, .iconst 0, 1), (62, .invokevirtual 159, 3), (65, .aload_n 0, 1), (66, .getfield 156, 3), (69, .iconst 1, 1), (70, .isub, 1), (71, .ireturn, 1)]
theorem dgX12_row_78 : ∀ q ∈ lgX12_row_78, decode cX12_row q.1 = .ok (q.2.1, q.2.2) := by decide +kernel
theorem dX12_row_0 : decode cX12_row 0 = .ok (.iload_n 1, 1) := dall dgX12_row_78 0 rfl
theorem dX12_row_1 : decode cX12_row 1 = .ok (.iconst 0, 1) := dall dgX12_row_78 1 rfl
theorem dX12_row_2 : decode cX12_row 2 = .ok (.bipush 99, 2) := dall dgX12_row_78 2 rfl
theorem dX12_row_4 : decode cX12_row 4 = .ok (.invokestatic 100, 3) := dall dgX12_row_78 3 rfl
theorem dX12_row_7 : decode cX12_row 7 = .ok (.ifCond .eq 34, 3) := dall dgX12_row_78 4 rfl
theorem dX12_row_10 : decode cX12_row 10 = .ok (.iload_n 2, 1) := dall dgX12_row_78 5 rfl
theorem dX12_row_11 : decode cX12_row 11 = .ok (.iconst 0, 1) := dall dgX12_row_78 6 rfl
theorem dX12_row_12 : decode cX12_row 12 = .ok (.bipush 99, 2) := dall dgX12_row_78 7 rfl
theorem dX12_row_14 : decode cX12_row 14 = .ok (.invokestatic 100, 3) := dall dgX12_row_78 8 rfl
theorem dX12_row_17 : decode cX12_row 17 = .ok (.ifCond .eq 24, 3) := dall dgX12_row_78 9 rfl
theorem dX12_row_20 : decode cX12_row 20 = .ok (.iload_n 3, 1) := dall dgX12_row_78 10 rfl
theorem dX12_row_21 : decode cX12_row 21 = .ok (.iconst 0, 1) := dall dgX12_row_78 11 rfl
theorem dX12_row_22 : decode cX12_row 22 = .ok (.bipush 99, 2) := dall dgX12_row_78 12 rfl
theorem dX12_row_24 : decode cX12_row 24 = .ok (.invokestatic 100, 3) := dall dgX12_row_78 13 rfl
theorem dX12_row_27 : decode cX12_row 27 = .ok (.ifCond .eq 14, 3) := dall dgX12_row_78 14 rfl
theorem dX12_row_30 : decode cX12_row 30 = .ok (.iload 4, 2) := dall dgX12_row_78 15 rfl
theorem dX12_row_32 : decode cX12_row 32 = .ok (.iconst 0, 1) := dall dgX12_row_78 16 rfl
theorem dX12_row_33 : decode cX12_row 33 = .ok (.bipush 99, 2) := dall dgX12_row_78 17 rfl
theorem dX12_row_35 : decode cX12_row 35 = .ok (.invokestatic 100, 3) := dall dgX12_row_78 18 rfl
theorem dX12_row_38 : decode cX12_row 38 = .ok (.ifCond .ne 5, 3) := dall dgX12_row_78 19 rfl
theorem dX12_row_41 : decode cX12_row 41 = .ok (.iconst (-1), 1) := dall dgX12_row_78 20 rfl
theorem dX12_row_42 : decode cX12_row 42 = .ok (.ireturn, 1) := dall dgX12_row_78 21 rfl
theorem dX12_row_43 : decode cX12_row 43 = .ok (.aload_n 0, 1) := dall dgX12_row_78 22 rfl
theorem dX12_row_44 : decode cX12_row 44 = .ok (.getfield 156, 3) := dall dgX12_row_78 23 rfl
theorem dX12_row_47 : decode cX12_row 47 = .ok (.bipush 48, 2) := dall dgX12_row_78 24 rfl
theorem dX12_row_49 : decode cX12_row 49 = .ok (.if_icmp .ne 6, 3) := dall dgX12_row_78 25 rfl
theorem dX12_row_55 : decode cX12_row 55 = .ok (.aload_n 0, 1) := dall dgX12_row_78 26 rfl
theorem dX12_row_56 : decode cX12_row 56 = .ok (.iload_n 1, 1) := dall dgX12_row_78 27 rfl
theorem dX12_row_57 : decode cX12_row 57 = .ok (.iload_n 2, 1) := dall dgX12_row_78 28 rfl
theorem dX12_row_58 : decode cX12_row 58 = .ok (.iload_n 3, 1) := dall dgX12_row_78 29 rfl
theorem dX12_row_59 : decode cX12_row 59 = .ok (.iload 4, 2) := dall dgX12_row_78 30 rfl
theorem dX12_row_61 : decode cX12_row 61 = .ok (.iconst 0, 1) := dall dgX12_row_78 31 rfl
theorem dX12_row_62 : decode cX12_row 62 = .ok (.invokevirtual 159, 3) := dall dgX12_row_78 32 rfl
theorem dX12_row_65 : decode cX12_row 65 = .ok (.aload_n 0, 1) := dall dgX12_row_78 33 rfl
theorem dX12_row_66 : decode cX12_row 66 = .ok (.getfield 156, 3) := dall dgX12_row_78 34 rfl
theorem dX12_row_69 : decode cX12_row 69 = .ok (.iconst 1, 1) := dall dgX12_row_78 35 rfl
theorem dX12_row_70 : decode cX12_row 70 = .ok (.isub, 1) := dall dgX12_row_78 36 rfl
theorem dX12_row_71 : decode cX12_row 71 = .ok (.ireturn, 1) := dall dgX12_row_78 37 rfl
set_option maxRecDepth 20000 in
theorem ggX12_deaf_X12_in : GoodIn wsX12_deaf wsX12_in := goodIn_r _ [5] rfl (by decide +kernel)
set_option maxRecDepth 20000 in
theorem gX12_deaf_X12_in : GoodIn wsX12_deaf (va_wsS RX12 100 yX12_in wsX12_in) := goodIn_app (goodIn_of _ (by decide +kernel)) ggX12_deaf_X12_in
set_option maxRecDepth 20000 in
theorem ggX12_deaf_X12_addRow : GoodIn wsX12_deaf wsX12_addRow := goodIn_r _ [9, 10, 1, 11, 12, 13, 14, 15, 16, 17, 18, 19, 20, 21, 22, 23, 24, 25, 26, 27, 28, 29, 30, 31, 32, 33, 34, 35, 36, 37, 38, 39, 40, 41, 42, 43, 44, 45, 46, 47, 48, 49, 50, 51, 52, 53, 54, 55, 56, 57, 58] rfl (by decide +kernel)
set_option maxRecDepth 20000 in
theorem gX12_deaf_X12_addRow : GoodIn wsX12_deaf (wsV RX12 159 RX12 yX12_addRow wsX12_addRow) := goodIn_app (goodIn_of _ (by decide +kernel)) ggX12_deaf_X12_addRow
def lgX12_deaf_79 : List (Nat × Instr × Nat) := [(0, .iload_n 1, 1), (1, .iconst 1, 1), (2, .bipush 9, 2), (4, .invokestatic 100, 3), (7, .ifCond .ne 5, 3), (10, .iconst (-1), 1), (11, .ireturn, 1), (12, .aload_n 0, 1), (13, .getfield 156, 3), (16, .iload_n 1, 1), (17, .iadd, 1), (18, .bipush 48, 2), (20, .if_icmp .le 6, 3), (26, .iconst 0, 1), (27, .istore_n 2, 1), (28, .iload_n 2, 1), (29, .iload_n 1, 1), (30, .if_icmp .ge 18, 3), (33, .aload_n 0, 1), (34, .iconst 0, 1), (35, .iconst 0, 1), (36, .iconst 0, 1), (37, .iconst 0, 1), (38, .iconst 1, 1), (39, .invokevirtual 159, 3), (42, .iinc 2 1, 3), (45, .goto (-17), 3), (48, .aload_n 0, 1), (49, .getfield 156, 3), (52, .ireturn, 1)]
theorem dgX12_deaf_79 : ∀ q ∈ lgX12_deaf_79, decode cX12_deaf q.1 = .ok (q.2.1, q.2.2) := by decide +kernel
theorem dX12_deaf_0 : decode cX12_deaf 0 = .ok (.iload_n 1, 1) := dall dgX12_deaf_79 0 rfl
theorem dX12_deaf_1 : decode cX12_deaf 1 = .ok (.iconst 1, 1) := dall dgX12_deaf_79 1 rfl
theorem dX12_deaf_2 : decode cX12_deaf 2 = .ok (.bipush 9, 2) := dall dgX12_deaf_79 2 rfl
theorem dX12_deaf_4 : decode cX12_deaf 4 = .ok (.invokestatic 100, 3) := dall dgX12_deaf_79 3 rfl
theorem dX12_deaf_7 : decode cX12_deaf 7 = .ok (.ifCond .ne 5, 3) := dall dgX12_deaf_79 4 rfl
theorem dX12_deaf_10 : decode cX12_deaf 10 = .ok (.iconst (-1), 1) := dall dgX12_deaf_79 5 rfl
theorem dX12_deaf_11 : decode cX12_deaf 11 = .ok (.ireturn, 1) := dall dgX12_deaf_79 6 rfl
theorem dX12_deaf_12 : decode cX12_deaf 12 = .ok (.aload_n 0, 1) := dall dgX12_deaf_79 7 rfl
theorem dX12_deaf_13 : decode cX12_deaf 13 = .ok (.getfield 156, 3) := dall dgX12_deaf_79 8 rfl
theorem dX12_deaf_16 : decode cX12_deaf 16 = .ok (.iload_n 1, 1) := dall dgX12_deaf_79 9 rfl
theorem dX12_deaf_17 : decode cX12_deaf 17 = .ok (.iadd, 1) := dall dgX12_deaf_79 10 rfl
theorem dX12_deaf_18 : decode cX12_deaf 18 = .ok (.bipush 48, 2) := dall dgX12_deaf_79 11 rfl
theorem dX12_deaf_20 : decode cX12_deaf 20 = .ok (.if_icmp .le 6, 3) := dall dgX12_deaf_79 12 rfl
theorem dX12_deaf_26 : decode cX12_deaf 26 = .ok (.iconst 0, 1) := dall dgX12_deaf_79 13 rfl
theorem dX12_deaf_27 : decode cX12_deaf 27 = .ok (.istore_n 2, 1) := dall dgX12_deaf_79 14 rfl
theorem dX12_deaf_28 : decode cX12_deaf 28 = .ok (.iload_n 2, 1) := dall dgX12_deaf_79 15 rfl
theorem dX12_deaf_29 : decode cX12_deaf 29 = .ok (.iload_n 1, 1) := dall dgX12_deaf_79 16 rfl
theorem dX12_deaf_30 : decode cX12_deaf 30 = .ok (.if_icmp .ge 18, 3) := dall dgX12_deaf_79 17 rfl
theorem dX12_deaf_33 : decode cX12_deaf 33 = .ok (.aload_n 0, 1) := dall dgX12_deaf_79 18 rfl
theorem dX12_deaf_34 : decode cX12_deaf 34 = .ok (.iconst 0, 1) := dall dgX12_deaf_79 19 rfl
theorem dX12_deaf_35 : decode cX12_deaf 35 = .ok (.iconst 0, 1) := dall dgX12_deaf_79 20 rfl
theorem dX12_deaf_36 : decode cX12_deaf 36 = .ok (.iconst 0, 1) := dall dgX12_deaf_79 21 rfl
theorem dX12_deaf_37 : decode cX12_deaf 37 = .ok (.iconst 0, 1) := dall dgX12_deaf_79 22 rfl
theorem dX12_deaf_38 : decode cX12_deaf 38 = .ok (.iconst 1, 1) := dall dgX12_deaf_79 23 rfl
theorem dX12_deaf_39 : decode cX12_deaf 39 = .ok (.invokevirtual 159, 3) := dall dgX12_deaf_79 24 rfl
theorem dX12_deaf_42 : decode cX12_deaf 42 = .ok (.iinc 2 1, 3) := dall dgX12_deaf_79 25 rfl
theorem dX12_deaf_45 : decode cX12_deaf 45 = .ok (.goto (-17), 3) := dall dgX12_deaf_79 26 rfl
theorem dX12_deaf_48 : decode cX12_deaf 48 = .ok (.aload_n 0, 1) := dall dgX12_deaf_79 27 rfl
theorem dX12_deaf_49 : decode cX12_deaf 49 = .ok (.getfield 156, 3) := dall dgX12_deaf_79 28 rfl
theorem dX12_deaf_52 : decode cX12_deaf 52 = .ok (.ireturn, 1) := dall dgX12_deaf_79 29 rfl
set_option maxRecDepth 20000 in
theorem ggX12_isRow_X12_in : GoodIn wsX12_isRow wsX12_in := goodIn_r _ [5] rfl (by decide +kernel)
set_option maxRecDepth 20000 in
theorem gX12_isRow_X12_in : GoodIn wsX12_isRow (va_wsS RX12 100 yX12_in wsX12_in) := goodIn_app (goodIn_of _ (by decide +kernel)) ggX12_isRow_X12_in
def lgX12_isRow_80 : List (Nat × Instr × Nat) := [(0, .iload_n 1, 1), (1, .iconst 0, 1), (2, .aload_n 0, 1), (3, .getfield 156, 3), (6, .iconst 1, 1), (7, .isub, 1), (8, .invokestatic 100, 3), (11, .ireturn, 1)]
theorem dgX12_isRow_80 : ∀ q ∈ lgX12_isRow_80, decode cX12_isRow q.1 = .ok (q.2.1, q.2.2) := by decide +kernel
theorem dX12_isRow_0 : decode cX12_isRow 0 = .ok (.iload_n 1, 1) := dall dgX12_isRow_80 0 rfl
theorem dX12_isRow_1 : decode cX12_isRow 1 = .ok (.iconst 0, 1) := dall dgX12_isRow_80 1 rfl
theorem dX12_isRow_2 : decode cX12_isRow 2 = .ok (.aload_n 0, 1) := dall dgX12_isRow_80 2 rfl
theorem dX12_isRow_3 : decode cX12_isRow 3 = .ok (.getfield 156, 3) := dall dgX12_isRow_80 3 rfl
theorem dX12_isRow_6 : decode cX12_isRow 6 = .ok (.iconst 1, 1) := dall dgX12_isRow_80 4 rfl
theorem dX12_isRow_7 : decode cX12_isRow 7 = .ok (.isub, 1) := dall dgX12_isRow_80 5 rfl
theorem dX12_isRow_8 : decode cX12_isRow 8 = .ok (.invokestatic 100, 3) := dall dgX12_isRow_80 6 rfl
theorem dX12_isRow_11 : decode cX12_isRow 11 = .ok (.ireturn, 1) := dall dgX12_isRow_80 7 rfl
set_option maxRecDepth 20000 in
theorem ggX12_areRows_X12_isRow : GoodIn wsX12_areRows wsX12_isRow := goodIn_r _ [6, 1, 7, 8, 5, 9, 10, 11, 12, 13, 14, 15, 16, 17, 18, 19, 20, 21, 22, 23, 24, 25, 26, 27, 28, 29, 30, 31, 32, 33, 34, 35, 36, 37, 38, 39, 40, 41, 42, 43, 44, 45, 46, 47, 48, 49, 50, 51, 52, 53, 54] rfl (by decide +kernel)
set_option maxRecDepth 20000 in
theorem gX12_areRows_X12_isRow : GoodIn wsX12_areRows (wsV RX12 163 RX12 yX12_isRow wsX12_isRow) := goodIn_app (goodIn_of _ (by decide +kernel)) ggX12_areRows_X12_isRow
def lgX12_areRows_81 : List (Nat × Instr × Nat) := [(0, .aload_n 0, 1), (1, .iload_n 1, 1), (2, .invokevirtual 163, 3), (5, .ifCond .eq 21, 3), (26, .iconst 0, 1), (27, .ireturn, 1)]
theorem dgX12_areRows_81 : ∀ q ∈ lgX12_areRows_81, decode cX12_areRows q.1 = .ok (q.2.1, q.2.2) := by decide +kernel
theorem dX12_areRows_0 : decode cX12_areRows 0 = .ok (.aload_n 0, 1) := dall dgX12_areRows_81 0 rfl
theorem dX12_areRows_1 : decode cX12_areRows 1 = .ok (.iload_n 1, 1) := dall dgX12_areRows_81 1 rfl
theorem dX12_areRows_2 : decode cX12_areRows 2 = .ok (.invokevirtual 163, 3) := dall dgX12_areRows_81 2 rfl
theorem dX12_areRows_5 : decode cX12_areRows 5 = .ok (.ifCond .eq 21, 3) := dall dgX12_areRows_81 3 rfl
theorem dX12_areRows_26 : decode cX12_areRows 26 = .ok (.iconst 0, 1) := dall dgX12_areRows_81 4 rfl
theorem dX12_areRows_27 : decode cX12_areRows 27 = .ok (.ireturn, 1) := dall dgX12_areRows_81 5 rfl
set_option maxRecDepth 20000 in
theorem ggX12_out_X12_areRows : GoodIn wsX12_out wsX12_areRows := goodIn_r _ [6, 7, 8, 9, 10, 5, 11, 12, 13, 14, 15, 16, 17, 18, 19, 20, 21, 22, 23, 24, 25, 26, 27, 28, 29, 30, 31, 32, 33, 34, 35, 36, 37, 38, 39, 40, 41, 42, 43, 44, 45, 46, 47, 48, 49, 50, 51, 52, 53, 54, 55, 56, 57, 58, 59] rfl (by decide +kernel)
set_option maxRecDepth 20000 in
theorem gX12_out_X12_areRows : GoodIn wsX12_out (wsV RX12 167 RX12 yX12_areRows wsX12_areRows) := goodIn_app (goodIn_of _ (by decide +kernel)) ggX12_out_X12_areRows
def lgX12_out_82 : List (Nat × Instr × Nat) := [(0, .aload_n 0, 1), (1, .iload_n 1, 1), (2, .iload_n 2, 1), (3, .invokevirtual 167, 3), (6, .ifCond .eq 12, 3), (18, .iconst (-1), 1), (19, .ireturn, 1)]
theorem dgX12_out_82 : ∀ q ∈ lgX12_out_82, decode cX12_out q.1 = .ok (q.2.1, q.2.2) := by decide +kernel
theorem dX12_out_0 : decode cX12_out 0 = .ok (.aload_n 0, 1) := dall dgX12_out_82 0 rfl
theorem dX12_out_1 : decode cX12_out 1 = .ok (.iload_n 1, 1) := dall dgX12_out_82 1 rfl
theorem dX12_out_2 : decode cX12_out 2 = .ok (.iload_n 2, 1) := dall dgX12_out_82 2 rfl
theorem dX12_out_3 : decode cX12_out 3 = .ok (.invokevirtual 167, 3) := dall dgX12_out_82 3 rfl
theorem dX12_out_6 : decode cX12_out 6 = .ok (.ifCond .eq 12, 3) := dall dgX12_out_82 4 rfl
theorem dX12_out_18 : decode cX12_out 18 = .ok (.iconst (-1), 1) := dall dgX12_out_82 5 rfl
theorem dX12_out_19 : decode cX12_out 19 = .ok (.ireturn, 1) := dall dgX12_out_82 6 rfl
def lgX12_hush_83 : List (Nat × Instr × Nat) := [(0, .aload_n 0, 1), (1, .getfield 156, 3), (4, .istore_n 1, 1), (5, .aload_n 0, 1), (6, .iconst 0, 1), (7, .putfield 156, 3), (10, .aload_n 0, 1), (11, .iconst 0, 1), (12, .putfield 171, 3), (15, .aload_n 0, 1), (16, .iconst 0, 1), (17, .putfield 174, 3), (20, .iload_n 1, 1), (21, .ireturn, 1)]
theorem dgX12_hush_83 : ∀ q ∈ lgX12_hush_83, decode cX12_hush q.1 = .ok (q.2.1, q.2.2) := by decide +kernel
theorem dX12_hush_0 : decode cX12_hush 0 = .ok (.aload_n 0, 1) := dall dgX12_hush_83 0 rfl
theorem dX12_hush_1 : decode cX12_hush 1 = .ok (.getfield 156, 3) := dall dgX12_hush_83 1 rfl
theorem dX12_hush_4 : decode cX12_hush 4 = .ok (.istore_n 1, 1) := dall dgX12_hush_83 2 rfl
theorem dX12_hush_5 : decode cX12_hush 5 = .ok (.aload_n 0, 1) := dall dgX12_hush_83 3 rfl
theorem dX12_hush_6 : decode cX12_hush 6 = .ok (.iconst 0, 1) := dall dgX12_hush_83 4 rfl
theorem dX12_hush_7 : decode cX12_hush 7 = .ok (.putfield 156, 3) := dall dgX12_hush_83 5 rfl
theorem dX12_hush_10 : decode cX12_hush 10 = .ok (.aload_n 0, 1) := dall dgX12_hush_83 6 rfl
theorem dX12_hush_11 : decode cX12_hush 11 = .ok (.iconst 0, 1) := dall dgX12_hush_83 7 rfl
theorem dX12_hush_12 : decode cX12_hush 12 = .ok (.putfield 171, 3) := dall dgX12_hush_83 8 rfl
theorem dX12_hush_15 : decode cX12_hush 15 = .ok (.aload_n 0, 1) := dall dgX12_hush_83 9 rfl
theorem dX12_hush_16 : decode cX12_hush 16 = .ok (.iconst 0, 1) := dall dgX12_hush_83 10 rfl
theorem dX12_hush_17 : decode cX12_hush 17 = .ok (.putfield 174, 3) := dall dgX12_hush_83 11 rfl
theorem dX12_hush_20 : decode cX12_hush 20 = .ok (.iload_n 1, 1) := dall dgX12_hush_83 12 rfl
theorem dX12_hush_21 : decode cX12_hush 21 = .ok (.ireturn, 1) := dall dgX12_hush_83 13 rfl
def lgX12_findPieces_84 : List (Nat × Instr × Nat) := [(0, .aload_n 0, 1), (1, .iconst 0, 1), (2, .putfield 191, 3), (5, .aload_n 0, 1), (6, .iconst 0, 1), (7, .putfield 194, 3), (10, .aload_n 0, 1), (11, .iconst 0, 1), (12, .putfield 188, 3), (15, .iconst 0, 1), (16, .istore_n 1, 1), (17, .iload_n 1, 1), (18, .aload_n 0, 1), (19, .getfield 156, 3), (22, .if_icmp .ge 74, 3), (96, .return_, 1)]
theorem dgX12_findPieces_84 : ∀ q ∈ lgX12_findPieces_84, decode cX12_findPieces q.1 = .ok (q.2.1, q.2.2) := by decide +kernel
theorem dX12_findPieces_0 : decode cX12_findPieces 0 = .ok (.aload_n 0, 1) := dall dgX12_findPieces_84 0 rfl
theorem dX12_findPieces_1 : decode cX12_findPieces 1 = .ok (.iconst 0, 1) := dall dgX12_findPieces_84 1 rfl
theorem dX12_findPieces_2 : decode cX12_findPieces 2 = .ok (.putfield 191, 3) := dall dgX12_findPieces_84 2 rfl
theorem dX12_findPieces_5 : decode cX12_findPieces 5 = .ok (.aload_n 0, 1) := dall dgX12_findPieces_84 3 rfl
theorem dX12_findPieces_6 : decode cX12_findPieces 6 = .ok (.iconst 0, 1) := dall dgX12_findPieces_84 4 rfl
theorem dX12_findPieces_7 : decode cX12_findPieces 7 = .ok (.putfield 194, 3) := dall dgX12_findPieces_84 5 rfl
theorem dX12_findPieces_10 : decode cX12_findPieces 10 = .ok (.aload_n 0, 1) := dall dgX12_findPieces_84 6 rfl
theorem dX12_findPieces_11 : decode cX12_findPieces 11 = .ok (.iconst 0, 1) := dall dgX12_findPieces_84 7 rfl
theorem dX12_findPieces_12 : decode cX12_findPieces 12 = .ok (.putfield 188, 3) := dall dgX12_findPieces_84 8 rfl
theorem dX12_findPieces_15 : decode cX12_findPieces 15 = .ok (.iconst 0, 1) := dall dgX12_findPieces_84 9 rfl
theorem dX12_findPieces_16 : decode cX12_findPieces 16 = .ok (.istore_n 1, 1) := dall dgX12_findPieces_84 10 rfl
theorem dX12_findPieces_17 : decode cX12_findPieces 17 = .ok (.iload_n 1, 1) := dall dgX12_findPieces_84 11 rfl
theorem dX12_findPieces_18 : decode cX12_findPieces 18 = .ok (.aload_n 0, 1) := dall dgX12_findPieces_84 12 rfl
theorem dX12_findPieces_19 : decode cX12_findPieces 19 = .ok (.getfield 156, 3) := dall dgX12_findPieces_84 13 rfl
theorem dX12_findPieces_22 : decode cX12_findPieces 22 = .ok (.if_icmp .ge 74, 3) := dall dgX12_findPieces_84 14 rfl
theorem dX12_findPieces_96 : decode cX12_findPieces 96 = .ok (.return_, 1) := dall dgX12_findPieces_84 15 rfl
set_option maxRecDepth 20000 in
theorem ggX12_pieces_X12_in : GoodIn wsX12_pieces wsX12_in := goodIn_r _ [8] rfl (by decide +kernel)
set_option maxRecDepth 20000 in
theorem gX12_pieces_X12_in : GoodIn wsX12_pieces (va_wsS RX12 100 yX12_in wsX12_in) := goodIn_app (goodIn_of _ (by decide +kernel)) ggX12_pieces_X12_in
set_option maxRecDepth 20000 in
theorem ggX12_pieces_X12_findPieces : GoodIn wsX12_pieces wsX12_findPieces := goodIn_r _ [12, 2, 3, 4, 1, 13, 14, 15, 16, 7, 17, 18, 19, 20, 21, 22, 23, 24, 25, 26, 27, 28, 29, 30, 31, 32, 33, 34, 35, 36, 37, 38, 5, 6, 8, 39, 40, 41, 42, 43, 44, 45, 46, 47, 48, 49, 50, 51, 52, 53, 54, 55, 56, 57, 58, 59, 60, 61, 62, 63, 64, 65, 66, 67, 68, 69, 70, 71, 72, 73, 74, 75, 76, 77, 78, 79, 80, 81, 82, 83, 84, 85, 86, 87, 88] rfl (by decide +kernel)
set_option maxRecDepth 20000 in
theorem gX12_pieces_X12_findPieces : GoodIn wsX12_pieces (wsV RX12 203 RX12 yX12_findPieces wsX12_findPieces) := goodIn_app (goodIn_of _ (by decide +kernel)) ggX12_pieces_X12_findPieces
def lgX12_pieces_85 : List (Nat × Instr × Nat) := [(0, .iload_n 1, 1), (1, .iconst 0, 1), (2, .iconst 3, 1), (3, .invokestatic 100, 3), (6, .ifCond .ne 5, 3), (9, .iconst (-1), 1), (10, .ireturn, 1), (11, .aload_n 0, 1), (12, .invokevirtual 203, 3), (15, .iconst 0, 1), (16, .istore_n 2, 1), (17, .iconst 0, 1), (18, .istore_n 3, 1), (19, .iload_n 3, 1), (20, .aload_n 0, 1), (21, .getfield 156, 3), (24, .if_icmp .ge 25, 3), (49, .iload_n 1, 1), (50, .ifCond .ne 10, 3), (53, .aload_n 0, 1), (54, .getfield 191, 3), (57, .goto 28, 3), (60, .iload_n 1, 1), (61, .iconst 1, 1), (62, .if_icmp .ne 10, 3), (65, .aload_n 0, 1), (66, .getfield 194, 3), (69, .goto 16, 3), (72, .iload_n 1, 1), (73, .iconst 2, 1), (74, .if_icmp .ne 10, 3), (77, .aload_n 0, 1), (78, .getfield 188, 3), (81, .goto 4, 3), (84, .iload_n 2, 1), (85, .ireturn, 1)]
theorem dgX12_pieces_85 : ∀ q ∈ lgX12_pieces_85, decode cX12_pieces q.1 = .ok (q.2.1, q.2.2) := by decide +kernel
theorem dX12_pieces_0 : decode cX12_pieces 0 = .ok (.iload_n 1, 1) := dall dgX12_pieces_85 0 rfl
theorem dX12_pieces_1 : decode cX12_pieces 1 = .ok (.iconst 0, 1) := dall dgX12_pieces_85 1 rfl
theorem dX12_pieces_2 : decode cX12_pieces 2 = .ok (.iconst 3, 1) := dall dgX12_pieces_85 2 rfl
theorem dX12_pieces_3 : decode cX12_pieces 3 = .ok (.invokestatic 100, 3) := dall dgX12_pieces_85 3 rfl
theorem dX12_pieces_6 : decode cX12_pieces 6 = .ok (.ifCond .ne 5, 3) := dall dgX12_pieces_85 4 rfl
theorem dX12_pieces_9 : decode cX12_pieces 9 = .ok (.iconst (-1), 1) := dall dgX12_pieces_85 5 rfl
theorem dX12_pieces_10 : decode cX12_pieces 10 = .ok (.ireturn, 1) := dall dgX12_pieces_85 6 rfl
theorem dX12_pieces_11 : decode cX12_pieces 11 = .ok (.aload_n 0, 1) := dall dgX12_pieces_85 7 rfl
theorem dX12_pieces_12 : decode cX12_pieces 12 = .ok (.invokevirtual 203, 3) := dall dgX12_pieces_85 8 rfl
theorem dX12_pieces_15 : decode cX12_pieces 15 = .ok (.iconst 0, 1) := dall dgX12_pieces_85 9 rfl
theorem dX12_pieces_16 : decode cX12_pieces 16 = .ok (.istore_n 2, 1) := dall dgX12_pieces_85 10 rfl
theorem dX12_pieces_17 : decode cX12_pieces 17 = .ok (.iconst 0, 1) := dall dgX12_pieces_85 11 rfl
theorem dX12_pieces_18 : decode cX12_pieces 18 = .ok (.istore_n 3, 1) := dall dgX12_pieces_85 12 rfl
theorem dX12_pieces_19 : decode cX12_pieces 19 = .ok (.iload_n 3, 1) := dall dgX12_pieces_85 13 rfl
theorem dX12_pieces_20 : decode cX12_pieces 20 = .ok (.aload_n 0, 1) := dall dgX12_pieces_85 14 rfl
theorem dX12_pieces_21 : decode cX12_pieces 21 = .ok (.getfield 156, 3) := dall dgX12_pieces_85 15 rfl
theorem dX12_pieces_24 : decode cX12_pieces 24 = .ok (.if_icmp .ge 25, 3) := dall dgX12_pieces_85 16 rfl
theorem dX12_pieces_49 : decode cX12_pieces 49 = .ok (.iload_n 1, 1) := dall dgX12_pieces_85 17 rfl
theorem dX12_pieces_50 : decode cX12_pieces 50 = .ok (.ifCond .ne 10, 3) := dall dgX12_pieces_85 18 rfl
theorem dX12_pieces_53 : decode cX12_pieces 53 = .ok (.aload_n 0, 1) := dall dgX12_pieces_85 19 rfl
theorem dX12_pieces_54 : decode cX12_pieces 54 = .ok (.getfield 191, 3) := dall dgX12_pieces_85 20 rfl
theorem dX12_pieces_57 : decode cX12_pieces 57 = .ok (.goto 28, 3) := dall dgX12_pieces_85 21 rfl
theorem dX12_pieces_60 : decode cX12_pieces 60 = .ok (.iload_n 1, 1) := dall dgX12_pieces_85 22 rfl
theorem dX12_pieces_61 : decode cX12_pieces 61 = .ok (.iconst 1, 1) := dall dgX12_pieces_85 23 rfl
theorem dX12_pieces_62 : decode cX12_pieces 62 = .ok (.if_icmp .ne 10, 3) := dall dgX12_pieces_85 24 rfl
theorem dX12_pieces_65 : decode cX12_pieces 65 = .ok (.aload_n 0, 1) := dall dgX12_pieces_85 25 rfl
theorem dX12_pieces_66 : decode cX12_pieces 66 = .ok (.getfield 194, 3) := dall dgX12_pieces_85 26 rfl
theorem dX12_pieces_69 : decode cX12_pieces 69 = .ok (.goto 16, 3) := dall dgX12_pieces_85 27 rfl
theorem dX12_pieces_72 : decode cX12_pieces 72 = .ok (.iload_n 1, 1) := dall dgX12_pieces_85 28 rfl
theorem dX12_pieces_73 : decode cX12_pieces 73 = .ok (.iconst 2, 1) := dall dgX12_pieces_85 29 rfl
theorem dX12_pieces_74 : decode cX12_pieces 74 = .ok (.if_icmp .ne 10, 3) := dall dgX12_pieces_85 30 rfl
theorem dX12_pieces_77 : decode cX12_pieces 77 = .ok (.aload_n 0, 1) := dall dgX12_pieces_85 31 rfl
theorem dX12_pieces_78 : decode cX12_pieces 78 = .ok (.getfield 188, 3) := dall dgX12_pieces_85 32 rfl
theorem dX12_pieces_81 : decode cX12_pieces 81 = .ok (.goto 4, 3) := dall dgX12_pieces_85 33 rfl
theorem dX12_pieces_84 : decode cX12_pieces 84 = .ok (.iload_n 2, 1) := dall dgX12_pieces_85 34 rfl
theorem dX12_pieces_85 : decode cX12_pieces 85 = .ok (.ireturn, 1) := dall dgX12_pieces_85 35 rfl
set_option maxRecDepth 20000 in
theorem ggX12_isPiece_X12_in : GoodIn wsX12_isPiece wsX12_in := goodIn_r _ [5] rfl (by decide +kernel)
set_option maxRecDepth 20000 in
theorem gX12_isPiece_X12_in : GoodIn wsX12_isPiece (va_wsS RX12 100 yX12_in wsX12_in) := goodIn_app (goodIn_of _ (by decide +kernel)) ggX12_isPiece_X12_in
def lgX12_isPiece_86 : List (Nat × Instr × Nat) := [(0, .iload_n 1, 1), (1, .iconst 0, 1), (2, .aload_n 0, 1), (3, .getfield 191, 3), (6, .iconst 1, 1), (7, .isub, 1), (8, .invokestatic 100, 3), (11, .ireturn, 1)]
theorem dgX12_isPiece_86 : ∀ q ∈ lgX12_isPiece_86, decode cX12_isPiece q.1 = .ok (q.2.1, q.2.2) := by decide +kernel
theorem dX12_isPiece_0 : decode cX12_isPiece 0 = .ok (.iload_n 1, 1) := dall dgX12_isPiece_86 0 rfl
theorem dX12_isPiece_1 : decode cX12_isPiece 1 = .ok (.iconst 0, 1) := dall dgX12_isPiece_86 1 rfl
theorem dX12_isPiece_2 : decode cX12_isPiece 2 = .ok (.aload_n 0, 1) := dall dgX12_isPiece_86 2 rfl
theorem dX12_isPiece_3 : decode cX12_isPiece 3 = .ok (.getfield 191, 3) := dall dgX12_isPiece_86 3 rfl
theorem dX12_isPiece_6 : decode cX12_isPiece 6 = .ok (.iconst 1, 1) := dall dgX12_isPiece_86 4 rfl
theorem dX12_isPiece_7 : decode cX12_isPiece 7 = .ok (.isub, 1) := dall dgX12_isPiece_86 5 rfl
theorem dX12_isPiece_8 : decode cX12_isPiece 8 = .ok (.invokestatic 100, 3) := dall dgX12_isPiece_86 6 rfl
theorem dX12_isPiece_11 : decode cX12_isPiece 11 = .ok (.ireturn, 1) := dall dgX12_isPiece_86 7 rfl
set_option maxRecDepth 20000 in
theorem ggX12_piece_X12_findPieces : GoodIn wsX12_piece wsX12_findPieces := goodIn_r _ [9, 10, 11, 12, 13, 14, 15, 16, 17, 8, 18, 19, 20, 21, 22, 23, 24, 25, 26, 27, 28, 29, 1, 2, 3, 4, 30, 31, 32, 33, 34, 35, 36, 37, 38, 39, 40, 41, 42, 43, 48, 49, 50, 51, 52, 53, 54, 55, 56, 57, 58, 59, 60, 61, 62, 63, 64, 65, 66, 67, 68, 69, 70, 71, 72, 73, 74, 75, 76, 77, 78, 79, 80, 81, 82, 83, 84, 85, 86, 87, 88, 89, 90, 91, 92] rfl (by decide +kernel)
set_option maxRecDepth 20000 in
theorem gX12_piece_X12_findPieces : GoodIn wsX12_piece (wsV RX12 203 RX12 yX12_findPieces wsX12_findPieces) := goodIn_app (goodIn_of _ (by decide +kernel)) ggX12_piece_X12_findPieces
set_option maxRecDepth 20000 in
theorem ggX12_piece_X12_isPiece : GoodIn wsX12_piece wsX12_isPiece := goodIn_r _ [47, 10, 36, 37, 8, 38, 48, 49, 50, 51, 52, 53, 54, 55, 56, 57, 58, 59, 60, 61, 62, 63, 64, 65, 66, 67, 68, 69, 70, 71, 72, 73, 74, 75, 76, 77, 78, 79, 80, 81, 82, 83, 84, 85, 86, 87, 88, 89, 90, 91, 92] rfl (by decide +kernel)
set_option maxRecDepth 20000 in
theorem gX12_piece_X12_isPiece : GoodIn wsX12_piece (wsV RX12 206 RX12 yX12_isPiece wsX12_isPiece) := goodIn_app (goodIn_of _ (by decide +kernel)) ggX12_piece_X12_isPiece
def lgX12_piece_87 : List (Nat × Instr × Nat) := [(0, .aload_n 0, 1), (1, .invokevirtual 203, 3), (4, .aload_n 0, 1), (5, .iload_n 1, 1), (6, .invokevirtual 206, 3), (9, .ifCond .eq 13, 3), (22, .iconst (-1), 1), (23, .ireturn, 1)]
theorem dgX12_piece_87 : ∀ q ∈ lgX12_piece_87, decode cX12_piece q.1 = .ok (q.2.1, q.2.2) := by decide +kernel
theorem dX12_piece_0 : decode cX12_piece 0 = .ok (.aload_n 0, 1) := dall dgX12_piece_87 0 rfl
theorem dX12_piece_1 : decode cX12_piece 1 = .ok (.invokevirtual 203, 3) := dall dgX12_piece_87 1 rfl
theorem dX12_piece_4 : decode cX12_piece 4 = .ok (.aload_n 0, 1) := dall dgX12_piece_87 2 rfl
theorem dX12_piece_5 : decode cX12_piece 5 = .ok (.iload_n 1, 1) := dall dgX12_piece_87 3 rfl
theorem dX12_piece_6 : decode cX12_piece 6 = .ok (.invokevirtual 206, 3) := dall dgX12_piece_87 4 rfl
theorem dX12_piece_9 : decode cX12_piece 9 = .ok (.ifCond .eq 13, 3) := dall dgX12_piece_87 5 rfl
theorem dX12_piece_22 : decode cX12_piece 22 = .ok (.iconst (-1), 1) := dall dgX12_piece_87 6 rfl
theorem dX12_piece_23 : decode cX12_piece 23 = .ok (.ireturn, 1) := dall dgX12_piece_87 7 rfl
set_option maxRecDepth 20000 in
theorem ggX12_of_X12_isRow : GoodIn wsX12_of wsX12_isRow := goodIn_r _ [6, 7, 8, 9, 5, 10, 48, 49, 50, 51, 52, 53, 54, 55, 56, 57, 58, 59, 60, 61, 62, 63, 64, 65, 66, 67, 68, 69, 70, 71, 72, 73, 74, 75, 76, 77, 78, 79, 80, 81, 82, 83, 84, 85, 86, 87, 88, 89, 90, 91, 92] rfl (by decide +kernel)
set_option maxRecDepth 20000 in
theorem gX12_of_X12_isRow : GoodIn wsX12_of (wsV RX12 163 RX12 yX12_isRow wsX12_isRow) := goodIn_app (goodIn_of _ (by decide +kernel)) ggX12_of_X12_isRow
def lgX12_of_88 : List (Nat × Instr × Nat) := [(0, .aload_n 0, 1), (1, .iload_n 1, 1), (2, .invokevirtual 163, 3), (5, .ifCond .ne 5, 3), (8, .iconst (-1), 1), (9, .ireturn, 1)]
theorem dgX12_of_88 : ∀ q ∈ lgX12_of_88, decode cX12_of q.1 = .ok (q.2.1, q.2.2) := by decide +kernel
theorem dX12_of_0 : decode cX12_of 0 = .ok (.aload_n 0, 1) := dall dgX12_of_88 0 rfl
theorem dX12_of_1 : decode cX12_of 1 = .ok (.iload_n 1, 1) := dall dgX12_of_88 1 rfl
theorem dX12_of_2 : decode cX12_of 2 = .ok (.invokevirtual 163, 3) := dall dgX12_of_88 2 rfl
theorem dX12_of_5 : decode cX12_of 5 = .ok (.ifCond .ne 5, 3) := dall dgX12_of_88 3 rfl
theorem dX12_of_8 : decode cX12_of 8 = .ok (.iconst (-1), 1) := dall dgX12_of_88 4 rfl
theorem dX12_of_9 : decode cX12_of 9 = .ok (.ireturn, 1) := dall dgX12_of_88 5 rfl
set_option maxRecDepth 20000 in
theorem ggX12_like_X12_findPieces : GoodIn wsX12_like wsX12_findPieces := goodIn_r _ [6, 7, 8, 9, 10, 11, 12, 13, 14, 5, 15, 16, 17, 18, 19, 20, 21, 22, 23, 24, 25, 26, 27, 28, 29, 30, 31, 32, 33, 34, 35, 36, 37, 38, 39, 40, 41, 42, 43, 44, 56, 57, 58, 59, 60, 61, 62, 63, 64, 65, 66, 67, 68, 69, 70, 71, 72, 73, 74, 75, 76, 77, 78, 79, 80, 81, 82, 83, 84, 85, 86, 87, 88, 89, 90, 91, 92, 93, 94, 95, 96, 97, 98, 99, 100] rfl (by decide +kernel)
set_option maxRecDepth 20000 in
theorem gX12_like_X12_findPieces : GoodIn wsX12_like (wsV RX12 203 RX12 yX12_findPieces wsX12_findPieces) := goodIn_app (goodIn_of _ (by decide +kernel)) ggX12_like_X12_findPieces
set_option maxRecDepth 20000 in
theorem ggX12_like_X12_isPiece : GoodIn wsX12_like wsX12_isPiece := goodIn_r _ [48, 7, 37, 38, 5, 39, 56, 57, 58, 59, 60, 61, 62, 63, 64, 65, 66, 67, 68, 69, 70, 71, 72, 73, 74, 75, 76, 77, 78, 79, 80, 81, 82, 83, 84, 85, 86, 87, 88, 89, 90, 91, 92, 93, 94, 95, 96, 97, 98, 99, 100] rfl (by decide +kernel)
set_option maxRecDepth 20000 in
theorem gX12_like_X12_isPiece : GoodIn wsX12_like (wsV RX12 206 RX12 yX12_isPiece wsX12_isPiece) := goodIn_app (goodIn_of _ (by decide +kernel)) ggX12_like_X12_isPiece
def lgX12_like_89 : List (Nat × Instr × Nat) := [(0, .aload_n 0, 1), (1, .invokevirtual 203, 3), (4, .aload_n 0, 1), (5, .iload_n 1, 1), (6, .invokevirtual 206, 3), (9, .ifCond .eq 25, 3), (34, .ldc 215, 2), (36, .ireturn, 1)]
theorem dgX12_like_89 : ∀ q ∈ lgX12_like_89, decode cX12_like q.1 = .ok (q.2.1, q.2.2) := by decide +kernel
theorem dX12_like_0 : decode cX12_like 0 = .ok (.aload_n 0, 1) := dall dgX12_like_89 0 rfl
theorem dX12_like_1 : decode cX12_like 1 = .ok (.invokevirtual 203, 3) := dall dgX12_like_89 1 rfl
theorem dX12_like_4 : decode cX12_like 4 = .ok (.aload_n 0, 1) := dall dgX12_like_89 2 rfl
theorem dX12_like_5 : decode cX12_like 5 = .ok (.iload_n 1, 1) := dall dgX12_like_89 3 rfl
theorem dX12_like_6 : decode cX12_like 6 = .ok (.invokevirtual 206, 3) := dall dgX12_like_89 4 rfl
theorem dX12_like_9 : decode cX12_like 9 = .ok (.ifCond .eq 25, 3) := dall dgX12_like_89 5 rfl
theorem dX12_like_34 : decode cX12_like 34 = .ok (.ldc 215, 2) := dall dgX12_like_89 6 rfl
theorem dX12_like_36 : decode cX12_like 36 = .ok (.ireturn, 1) := dall dgX12_like_89 7 rfl
def lgX12_findGains_90 : List (Nat × Instr × Nat) := [(0, .iconst 0, 1), (1, .istore_n 1, 1), (2, .iload_n 1, 1), (3, .aload_n 0, 1), (4, .getfield 191, 3), (7, .if_icmp .ge 71, 3), (78, .return_, 1)]
theorem dgX12_findGains_90 : ∀ q ∈ lgX12_findGains_90, decode cX12_findGains q.1 = .ok (q.2.1, q.2.2) := by decide +kernel
theorem dX12_findGains_0 : decode cX12_findGains 0 = .ok (.iconst 0, 1) := dall dgX12_findGains_90 0 rfl
theorem dX12_findGains_1 : decode cX12_findGains 1 = .ok (.istore_n 1, 1) := dall dgX12_findGains_90 1 rfl
theorem dX12_findGains_2 : decode cX12_findGains 2 = .ok (.iload_n 1, 1) := dall dgX12_findGains_90 2 rfl
theorem dX12_findGains_3 : decode cX12_findGains 3 = .ok (.aload_n 0, 1) := dall dgX12_findGains_90 3 rfl
theorem dX12_findGains_4 : decode cX12_findGains 4 = .ok (.getfield 191, 3) := dall dgX12_findGains_90 4 rfl
theorem dX12_findGains_7 : decode cX12_findGains 7 = .ok (.if_icmp .ge 71, 3) := dall dgX12_findGains_90 5 rfl
theorem dX12_findGains_78 : decode cX12_findGains 78 = .ok (.return_, 1) := dall dgX12_findGains_90 6 rfl
def lgX12_worthOf_91 : List (Nat × Instr × Nat) := [(0, .iconst 0, 1), (1, .istore_n 2, 1), (2, .iconst 0, 1), (3, .istore_n 3, 1), (4, .iload_n 3, 1), (5, .aload_n 0, 1), (6, .getfield 191, 3), (9, .if_icmp .ge 53, 3), (62, .iload_n 2, 1), (63, .ireturn, 1)]
theorem dgX12_worthOf_91 : ∀ q ∈ lgX12_worthOf_91, decode cX12_worthOf q.1 = .ok (q.2.1, q.2.2) := by decide +kernel
theorem dX12_worthOf_0 : decode cX12_worthOf 0 = .ok (.iconst 0, 1) := dall dgX12_worthOf_91 0 rfl
theorem dX12_worthOf_1 : decode cX12_worthOf 1 = .ok (.istore_n 2, 1) := dall dgX12_worthOf_91 1 rfl
theorem dX12_worthOf_2 : decode cX12_worthOf 2 = .ok (.iconst 0, 1) := dall dgX12_worthOf_91 2 rfl
theorem dX12_worthOf_3 : decode cX12_worthOf 3 = .ok (.istore_n 3, 1) := dall dgX12_worthOf_91 3 rfl
theorem dX12_worthOf_4 : decode cX12_worthOf 4 = .ok (.iload_n 3, 1) := dall dgX12_worthOf_91 4 rfl
theorem dX12_worthOf_5 : decode cX12_worthOf 5 = .ok (.aload_n 0, 1) := dall dgX12_worthOf_91 5 rfl
theorem dX12_worthOf_6 : decode cX12_worthOf 6 = .ok (.getfield 191, 3) := dall dgX12_worthOf_91 6 rfl
theorem dX12_worthOf_9 : decode cX12_worthOf 9 = .ok (.if_icmp .ge 53, 3) := dall dgX12_worthOf_91 7 rfl
theorem dX12_worthOf_62 : decode cX12_worthOf 62 = .ok (.iload_n 2, 1) := dall dgX12_worthOf_91 8 rfl
theorem dX12_worthOf_63 : decode cX12_worthOf 63 = .ok (.ireturn, 1) := dall dgX12_worthOf_91 9 rfl
def lgX12_heapsIn_92 : List (Nat × Instr × Nat) := [(0, .iconst 0, 1), (1, .istore_n 2, 1), (2, .iconst 0, 1), (3, .istore_n 3, 1), (4, .iload_n 3, 1), (5, .iload_n 1, 1), (6, .if_icmp .ge 26, 3), (32, .iload_n 2, 1), (33, .ireturn, 1)]
theorem dgX12_heapsIn_92 : ∀ q ∈ lgX12_heapsIn_92, decode cX12_heapsIn q.1 = .ok (q.2.1, q.2.2) := by decide +kernel
theorem dX12_heapsIn_0 : decode cX12_heapsIn 0 = .ok (.iconst 0, 1) := dall dgX12_heapsIn_92 0 rfl
theorem dX12_heapsIn_1 : decode cX12_heapsIn 1 = .ok (.istore_n 2, 1) := dall dgX12_heapsIn_92 1 rfl
theorem dX12_heapsIn_2 : decode cX12_heapsIn 2 = .ok (.iconst 0, 1) := dall dgX12_heapsIn_92 2 rfl
theorem dX12_heapsIn_3 : decode cX12_heapsIn 3 = .ok (.istore_n 3, 1) := dall dgX12_heapsIn_92 3 rfl
theorem dX12_heapsIn_4 : decode cX12_heapsIn 4 = .ok (.iload_n 3, 1) := dall dgX12_heapsIn_92 4 rfl
theorem dX12_heapsIn_5 : decode cX12_heapsIn 5 = .ok (.iload_n 1, 1) := dall dgX12_heapsIn_92 5 rfl
theorem dX12_heapsIn_6 : decode cX12_heapsIn 6 = .ok (.if_icmp .ge 26, 3) := dall dgX12_heapsIn_92 6 rfl
theorem dX12_heapsIn_32 : decode cX12_heapsIn 32 = .ok (.iload_n 2, 1) := dall dgX12_heapsIn_92 7 rfl
theorem dX12_heapsIn_33 : decode cX12_heapsIn 33 = .ok (.ireturn, 1) := dall dgX12_heapsIn_92 8 rfl
def lgX12_goOn_93 : List (Nat × Instr × Nat) := [(0, .aload_n 0, 1), (1, .getfield 191, 3), (4, .iconst 1, 1), (5, .isub, 1), (6, .istore_n 1, 1), (7, .iload_n 1, 1), (8, .ifCond .le 63, 3), (71, .iconst 0, 1), (72, .ireturn, 1)]
theorem dgX12_goOn_93 : ∀ q ∈ lgX12_goOn_93, decode cX12_goOn q.1 = .ok (q.2.1, q.2.2) := by decide +kernel
theorem dX12_goOn_0 : decode cX12_goOn 0 = .ok (.aload_n 0, 1) := dall dgX12_goOn_93 0 rfl
theorem dX12_goOn_1 : decode cX12_goOn 1 = .ok (.getfield 191, 3) := dall dgX12_goOn_93 1 rfl
theorem dX12_goOn_4 : decode cX12_goOn 4 = .ok (.iconst 1, 1) := dall dgX12_goOn_93 2 rfl
theorem dX12_goOn_5 : decode cX12_goOn 5 = .ok (.isub, 1) := dall dgX12_goOn_93 3 rfl
theorem dX12_goOn_6 : decode cX12_goOn 6 = .ok (.istore_n 1, 1) := dall dgX12_goOn_93 4 rfl
theorem dX12_goOn_7 : decode cX12_goOn 7 = .ok (.iload_n 1, 1) := dall dgX12_goOn_93 5 rfl
theorem dX12_goOn_8 : decode cX12_goOn 8 = .ok (.ifCond .le 63, 3) := dall dgX12_goOn_93 6 rfl
theorem dX12_goOn_71 : decode cX12_goOn 71 = .ok (.iconst 0, 1) := dall dgX12_goOn_93 7 rfl
theorem dX12_goOn_72 : decode cX12_goOn 72 = .ok (.ireturn, 1) := dall dgX12_goOn_93 8 rfl
def lgX12_begin_94 : List (Nat × Instr × Nat) := [(0, .iconst 0, 1), (1, .istore_n 1, 1), (2, .iload_n 1, 1), (3, .bipush 10, 2), (5, .if_icmp .ge 16, 3), (8, .aload_n 0, 1), (9, .getfield 69, 3), (12, .iload_n 1, 1), (13, .iconst 0, 1), (14, .iastore, 1), (15, .iinc 1 1, 3), (18, .goto (-16), 3), (21, .return_, 1)]
theorem dgX12_begin_94 : ∀ q ∈ lgX12_begin_94, decode cX12_begin q.1 = .ok (q.2.1, q.2.2) := by decide +kernel
theorem dX12_begin_0 : decode cX12_begin 0 = .ok (.iconst 0, 1) := dall dgX12_begin_94 0 rfl
theorem dX12_begin_1 : decode cX12_begin 1 = .ok (.istore_n 1, 1) := dall dgX12_begin_94 1 rfl
theorem dX12_begin_2 : decode cX12_begin 2 = .ok (.iload_n 1, 1) := dall dgX12_begin_94 2 rfl
theorem dX12_begin_3 : decode cX12_begin 3 = .ok (.bipush 10, 2) := dall dgX12_begin_94 3 rfl
theorem dX12_begin_5 : decode cX12_begin 5 = .ok (.if_icmp .ge 16, 3) := dall dgX12_begin_94 4 rfl
theorem dX12_begin_8 : decode cX12_begin 8 = .ok (.aload_n 0, 1) := dall dgX12_begin_94 5 rfl
theorem dX12_begin_9 : decode cX12_begin 9 = .ok (.getfield 69, 3) := dall dgX12_begin_94 6 rfl
theorem dX12_begin_12 : decode cX12_begin 12 = .ok (.iload_n 1, 1) := dall dgX12_begin_94 7 rfl
theorem dX12_begin_13 : decode cX12_begin 13 = .ok (.iconst 0, 1) := dall dgX12_begin_94 8 rfl
theorem dX12_begin_14 : decode cX12_begin 14 = .ok (.iastore, 1) := dall dgX12_begin_94 9 rfl
theorem dX12_begin_15 : decode cX12_begin 15 = .ok (.iinc 1 1, 3) := dall dgX12_begin_94 10 rfl
theorem dX12_begin_18 : decode cX12_begin 18 = .ok (.goto (-16), 3) := dall dgX12_begin_94 11 rfl
theorem dX12_begin_21 : decode cX12_begin 21 = .ok (.return_, 1) := dall dgX12_begin_94 12 rfl
set_option maxRecDepth 20000 in
theorem ggX12_findBest_X12_findPieces : GoodIn wsX12_findBest wsX12_findPieces := goodIn_r _ [9, 1, 10, 11, 12, 13, 14, 15, 16, 8, 17, 18, 19, 20, 21, 22, 23, 24, 25, 26, 27, 28, 29, 30, 31, 32, 33, 34, 35, 36, 37, 38, 39, 40, 41, 42, 43, 44, 45, 46, 78, 79, 80, 81, 82, 83, 84, 85, 86, 87, 88, 89, 90, 91, 92, 93, 94, 95, 96, 97, 98, 99, 100, 101, 102, 103, 104, 105, 106, 107, 108, 109, 110, 111, 112, 113, 114, 115, 116, 117, 118, 119, 120, 121, 122] rfl (by decide +kernel)
set_option maxRecDepth 20000 in
theorem gX12_findBest_X12_findPieces : GoodIn wsX12_findBest (wsV RX12 203 RX12 yX12_findPieces wsX12_findPieces) := goodIn_app (goodIn_of _ (by decide +kernel)) ggX12_findBest_X12_findPieces
set_option maxRecDepth 20000 in
theorem ggX12_findBest_X12_findGains : GoodIn wsX12_findBest wsX12_findGains := goodIn_r _ [50, 1, 51, 21, 52, 53, 54, 8, 55, 32, 30, 56, 57, 58, 59, 60, 61, 62, 29, 78, 79, 80, 81, 82, 83, 84, 85, 86, 87, 88, 89, 90, 91, 92, 93, 94, 95, 96, 97, 98, 99, 100, 101, 102, 103, 104, 105, 106, 107, 108, 109, 110, 111, 112, 113, 114, 115, 116, 117, 118, 119, 120, 121, 122] rfl (by decide +kernel)
set_option maxRecDepth 20000 in
theorem gX12_findBest_X12_findGains : GoodIn wsX12_findBest (wsV RX12 223 RX12 yX12_findGains wsX12_findGains) := goodIn_app (goodIn_of _ (by decide +kernel)) ggX12_findBest_X12_findGains
set_option maxRecDepth 20000 in
theorem ggX12_findBest_X12_begin : GoodIn wsX12_findBest wsX12_begin := goodIn_r _ [66, 2, 78, 79, 80, 81, 82, 83, 84, 85, 86, 87, 88, 89, 90, 91, 92, 93, 94, 95, 96, 97, 98, 99, 100, 101, 102, 103, 104, 105, 106, 107, 108, 109, 110, 111, 112, 113, 114, 115, 116, 117, 118, 119, 120, 121, 122] rfl (by decide +kernel)
set_option maxRecDepth 20000 in
theorem gX12_findBest_X12_begin : GoodIn wsX12_findBest (wsV RX12 226 RX12 yX12_begin wsX12_begin) := goodIn_app (goodIn_of _ (by decide +kernel)) ggX12_findBest_X12_begin
set_option maxRecDepth 20000 in
theorem ggX12_findBest_X12_worthOf : GoodIn wsX12_findBest wsX12_worthOf := goodIn_r _ [70, 1, 51, 78, 79, 80, 81, 82, 83, 84, 85, 86, 87, 88, 89, 90, 91, 92, 93, 94, 95, 96, 97, 98, 99, 100, 101, 102, 103, 104, 105, 106, 107, 108, 109, 110, 111, 112, 113, 114, 115, 116, 117, 118, 119, 120, 121, 122] rfl (by decide +kernel)
set_option maxRecDepth 20000 in
theorem gX12_findBest_X12_worthOf : GoodIn wsX12_findBest (wsV RX12 229 RX12 yX12_worthOf wsX12_worthOf) := goodIn_app (goodIn_of _ (by decide +kernel)) ggX12_findBest_X12_worthOf
set_option maxRecDepth 20000 in
theorem ggX12_findBest_X12_goOn : GoodIn wsX12_findBest wsX12_goOn := goodIn_r _ [74, 1, 2, 75, 76, 8, 77, 78, 79, 80, 81, 82, 83, 84, 85, 86, 87, 88, 89, 90, 91, 92, 93, 94, 95, 96, 97, 98, 99, 100, 101, 102, 103, 104, 105, 106, 107, 108, 109, 110, 111, 112, 113, 114, 115, 116, 117, 118, 119, 120, 121, 122] rfl (by decide +kernel)
set_option maxRecDepth 20000 in
theorem gX12_findBest_X12_goOn : GoodIn wsX12_findBest (wsV RX12 236 RX12 yX12_goOn wsX12_goOn) := goodIn_app (goodIn_of _ (by decide +kernel)) ggX12_findBest_X12_goOn
def lgX12_findBest_95 : List (Nat × Instr × Nat) := [(0, .aload_n 0, 1), (1, .invokevirtual 203, 3), (4, .aload_n 0, 1), (5, .getfield 191, 3), (8, .bipush 9, 2), (10, .if_icmp .le 5, 3), (15, .aload_n 0, 1), (16, .invokevirtual 223, 3), (19, .aload_n 0, 1), (20, .invokevirtual 226, 3), (23, .iconst 1, 1), (24, .istore_n 1, 1), (25, .iconst 0, 1), (26, .istore_n 2, 1), (27, .iload_n 1, 1), (28, .ifCond .eq 71, 3), (31, .aload_n 0, 1), (32, .aload_n 0, 1), (33, .getfield 69, 3), (36, .invokevirtual 229, 3), (39, .istore_n 3, 1), (40, .iload_n 2, 1), (41, .ifCond .eq 11, 3), (52, .aload_n 0, 1), (53, .iload_n 3, 1), (54, .putfield 233, 3), (57, .iconst 0, 1), (58, .istore 4, 2), (60, .iload 4, 2), (62, .aload_n 0, 1), (63, .getfield 191, 3), (66, .if_icmp .ge 23, 3), (89, .iconst 1, 1), (90, .istore_n 2, 1), (91, .aload_n 0, 1), (92, .invokevirtual 236, 3), (95, .istore_n 1, 1), (96, .goto (-69), 3), (99, .iconst 1, 1), (100, .ireturn, 1)]
theorem dgX12_findBest_95 : ∀ q ∈ lgX12_findBest_95, decode cX12_findBest q.1 = .ok (q.2.1, q.2.2) := by decide +kernel
theorem dX12_findBest_0 : decode cX12_findBest 0 = .ok (.aload_n 0, 1) := dall dgX12_findBest_95 0 rfl
theorem dX12_findBest_1 : decode cX12_findBest 1 = .ok (.invokevirtual 203, 3) := dall dgX12_findBest_95 1 rfl
theorem dX12_findBest_4 : decode cX12_findBest 4 = .ok (.aload_n 0, 1) := dall dgX12_findBest_95 2 rfl
theorem dX12_findBest_5 : decode cX12_findBest 5 = .ok (.getfield 191, 3) := dall dgX12_findBest_95 3 rfl
theorem dX12_findBest_8 : decode cX12_findBest 8 = .ok (.bipush 9, 2) := dall dgX12_findBest_95 4 rfl
theorem dX12_findBest_10 : decode cX12_findBest 10 = .ok (.if_icmp .le 5, 3) := dall dgX12_findBest_95 5 rfl
theorem dX12_findBest_15 : decode cX12_findBest 15 = .ok (.aload_n 0, 1) := dall dgX12_findBest_95 6 rfl
theorem dX12_findBest_16 : decode cX12_findBest 16 = .ok (.invokevirtual 223, 3) := dall dgX12_findBest_95 7 rfl
theorem dX12_findBest_19 : decode cX12_findBest 19 = .ok (.aload_n 0, 1) := dall dgX12_findBest_95 8 rfl
theorem dX12_findBest_20 : decode cX12_findBest 20 = .ok (.invokevirtual 226, 3) := dall dgX12_findBest_95 9 rfl
theorem dX12_findBest_23 : decode cX12_findBest 23 = .ok (.iconst 1, 1) := dall dgX12_findBest_95 10 rfl
theorem dX12_findBest_24 : decode cX12_findBest 24 = .ok (.istore_n 1, 1) := dall dgX12_findBest_95 11 rfl
theorem dX12_findBest_25 : decode cX12_findBest 25 = .ok (.iconst 0, 1) := dall dgX12_findBest_95 12 rfl
theorem dX12_findBest_26 : decode cX12_findBest 26 = .ok (.istore_n 2, 1) := dall dgX12_findBest_95 13 rfl
theorem dX12_findBest_27 : decode cX12_findBest 27 = .ok (.iload_n 1, 1) := dall dgX12_findBest_95 14 rfl
theorem dX12_findBest_28 : decode cX12_findBest 28 = .ok (.ifCond .eq 71, 3) := dall dgX12_findBest_95 15 rfl
theorem dX12_findBest_31 : decode cX12_findBest 31 = .ok (.aload_n 0, 1) := dall dgX12_findBest_95 16 rfl
theorem dX12_findBest_32 : decode cX12_findBest 32 = .ok (.aload_n 0, 1) := dall dgX12_findBest_95 17 rfl
theorem dX12_findBest_33 : decode cX12_findBest 33 = .ok (.getfield 69, 3) := dall dgX12_findBest_95 18 rfl
theorem dX12_findBest_36 : decode cX12_findBest 36 = .ok (.invokevirtual 229, 3) := dall dgX12_findBest_95 19 rfl
theorem dX12_findBest_39 : decode cX12_findBest 39 = .ok (.istore_n 3, 1) := dall dgX12_findBest_95 20 rfl
theorem dX12_findBest_40 : decode cX12_findBest 40 = .ok (.iload_n 2, 1) := dall dgX12_findBest_95 21 rfl
theorem dX12_findBest_41 : decode cX12_findBest 41 = .ok (.ifCond .eq 11, 3) := dall dgX12_findBest_95 22 rfl
theorem dX12_findBest_52 : decode cX12_findBest 52 = .ok (.aload_n 0, 1) := dall dgX12_findBest_95 23 rfl
theorem dX12_findBest_53 : decode cX12_findBest 53 = .ok (.iload_n 3, 1) := dall dgX12_findBest_95 24 rfl
theorem dX12_findBest_54 : decode cX12_findBest 54 = .ok (.putfield 233, 3) := dall dgX12_findBest_95 25 rfl
theorem dX12_findBest_57 : decode cX12_findBest 57 = .ok (.iconst 0, 1) := dall dgX12_findBest_95 26 rfl
theorem dX12_findBest_58 : decode cX12_findBest 58 = .ok (.istore 4, 2) := dall dgX12_findBest_95 27 rfl
theorem dX12_findBest_60 : decode cX12_findBest 60 = .ok (.iload 4, 2) := dall dgX12_findBest_95 28 rfl
theorem dX12_findBest_62 : decode cX12_findBest 62 = .ok (.aload_n 0, 1) := dall dgX12_findBest_95 29 rfl
theorem dX12_findBest_63 : decode cX12_findBest 63 = .ok (.getfield 191, 3) := dall dgX12_findBest_95 30 rfl
theorem dX12_findBest_66 : decode cX12_findBest 66 = .ok (.if_icmp .ge 23, 3) := dall dgX12_findBest_95 31 rfl
theorem dX12_findBest_89 : decode cX12_findBest 89 = .ok (.iconst 1, 1) := dall dgX12_findBest_95 32 rfl
theorem dX12_findBest_90 : decode cX12_findBest 90 = .ok (.istore_n 2, 1) := dall dgX12_findBest_95 33 rfl
theorem dX12_findBest_91 : decode cX12_findBest 91 = .ok (.aload_n 0, 1) := dall dgX12_findBest_95 34 rfl
theorem dX12_findBest_92 : decode cX12_findBest 92 = .ok (.invokevirtual 236, 3) := dall dgX12_findBest_95 35 rfl
theorem dX12_findBest_95 : decode cX12_findBest 95 = .ok (.istore_n 1, 1) := dall dgX12_findBest_95 36 rfl
theorem dX12_findBest_96 : decode cX12_findBest 96 = .ok (.goto (-69), 3) := dall dgX12_findBest_95 37 rfl
theorem dX12_findBest_99 : decode cX12_findBest 99 = .ok (.iconst 1, 1) := dall dgX12_findBest_95 38 rfl
theorem dX12_findBest_100 : decode cX12_findBest 100 = .ok (.ireturn, 1) := dall dgX12_findBest_95 39 rfl
def lgX12_join_96 : List (Nat × Instr × Nat) := [(0, .iconst 0, 1), (1, .istore_n 1, 1), (2, .iload_n 1, 1), (3, .aload_n 0, 1), (4, .getfield 191, 3), (7, .if_icmp .ge 16, 3), (23, .iconst 1, 1), (24, .istore_n 1, 1), (25, .iload_n 1, 1), (26, .ifCond .eq 243, 3), (29, .bipush (-9), 2), (31, .istore_n 2, 1), (32, .bipush (-9), 2), (34, .istore_n 3, 1), (35, .iconst 0, 1), (36, .istore 4, 2), (38, .iconst 0, 1), (39, .istore 5, 2), (41, .iload 5, 2), (43, .aload_n 0, 1), (44, .getfield 191, 3), (47, .if_icmp .ge 156, 3), (203, .iload_n 2, 1), (204, .bipush (-9), 2), (206, .if_icmp .eq 7, 3), (213, .iconst 0, 1), (214, .istore_n 1, 1), (215, .iconst 0, 1), (216, .istore 5, 2), (218, .iload 5, 2), (220, .aload_n 0, 1), (221, .getfield 191, 3), (224, .if_icmp .ge 42, 3), (266, .goto (-241), 3), (269, .iconst 0, 1), (270, .istore_n 2, 1), (271, .iconst 0, 1), (272, .istore_n 3, 1), (273, .iload_n 3, 1), (274, .aload_n 0, 1), (275, .getfield 191, 3), (278, .if_icmp .ge 58, 3), (336, .iconst 0, 1), (337, .istore_n 3, 1), (338, .iload_n 3, 1), (339, .aload_n 0, 1), (340, .getfield 191, 3), (343, .if_icmp .ge 21, 3), (364, .return_, 1)]
theorem dgX12_join_96 : ∀ q ∈ lgX12_join_96, decode cX12_join q.1 = .ok (q.2.1, q.2.2) := by decide +kernel
theorem dX12_join_0 : decode cX12_join 0 = .ok (.iconst 0, 1) := dall dgX12_join_96 0 rfl
theorem dX12_join_1 : decode cX12_join 1 = .ok (.istore_n 1, 1) := dall dgX12_join_96 1 rfl
theorem dX12_join_2 : decode cX12_join 2 = .ok (.iload_n 1, 1) := dall dgX12_join_96 2 rfl
theorem dX12_join_3 : decode cX12_join 3 = .ok (.aload_n 0, 1) := dall dgX12_join_96 3 rfl
theorem dX12_join_4 : decode cX12_join 4 = .ok (.getfield 191, 3) := dall dgX12_join_96 4 rfl
theorem dX12_join_7 : decode cX12_join 7 = .ok (.if_icmp .ge 16, 3) := dall dgX12_join_96 5 rfl
theorem dX12_join_23 : decode cX12_join 23 = .ok (.iconst 1, 1) := dall dgX12_join_96 6 rfl
theorem dX12_join_24 : decode cX12_join 24 = .ok (.istore_n 1, 1) := dall dgX12_join_96 7 rfl
theorem dX12_join_25 : decode cX12_join 25 = .ok (.iload_n 1, 1) := dall dgX12_join_96 8 rfl
theorem dX12_join_26 : decode cX12_join 26 = .ok (.ifCond .eq 243, 3) := dall dgX12_join_96 9 rfl
theorem dX12_join_29 : decode cX12_join 29 = .ok (.bipush (-9), 2) := dall dgX12_join_96 10 rfl
theorem dX12_join_31 : decode cX12_join 31 = .ok (.istore_n 2, 1) := dall dgX12_join_96 11 rfl
theorem dX12_join_32 : decode cX12_join 32 = .ok (.bipush (-9), 2) := dall dgX12_join_96 12 rfl
theorem dX12_join_34 : decode cX12_join 34 = .ok (.istore_n 3, 1) := dall dgX12_join_96 13 rfl
theorem dX12_join_35 : decode cX12_join 35 = .ok (.iconst 0, 1) := dall dgX12_join_96 14 rfl
theorem dX12_join_36 : decode cX12_join 36 = .ok (.istore 4, 2) := dall dgX12_join_96 15 rfl
theorem dX12_join_38 : decode cX12_join 38 = .ok (.iconst 0, 1) := dall dgX12_join_96 16 rfl
theorem dX12_join_39 : decode cX12_join 39 = .ok (.istore 5, 2) := dall dgX12_join_96 17 rfl
theorem dX12_join_41 : decode cX12_join 41 = .ok (.iload 5, 2) := dall dgX12_join_96 18 rfl
theorem dX12_join_43 : decode cX12_join 43 = .ok (.aload_n 0, 1) := dall dgX12_join_96 19 rfl
theorem dX12_join_44 : decode cX12_join 44 = .ok (.getfield 191, 3) := dall dgX12_join_96 20 rfl
theorem dX12_join_47 : decode cX12_join 47 = .ok (.if_icmp .ge 156, 3) := dall dgX12_join_96 21 rfl
theorem dX12_join_203 : decode cX12_join 203 = .ok (.iload_n 2, 1) := dall dgX12_join_96 22 rfl
theorem dX12_join_204 : decode cX12_join 204 = .ok (.bipush (-9), 2) := dall dgX12_join_96 23 rfl
theorem dX12_join_206 : decode cX12_join 206 = .ok (.if_icmp .eq 7, 3) := dall dgX12_join_96 24 rfl
theorem dX12_join_213 : decode cX12_join 213 = .ok (.iconst 0, 1) := dall dgX12_join_96 25 rfl
theorem dX12_join_214 : decode cX12_join 214 = .ok (.istore_n 1, 1) := dall dgX12_join_96 26 rfl
theorem dX12_join_215 : decode cX12_join 215 = .ok (.iconst 0, 1) := dall dgX12_join_96 27 rfl
theorem dX12_join_216 : decode cX12_join 216 = .ok (.istore 5, 2) := dall dgX12_join_96 28 rfl
theorem dX12_join_218 : decode cX12_join 218 = .ok (.iload 5, 2) := dall dgX12_join_96 29 rfl
theorem dX12_join_220 : decode cX12_join 220 = .ok (.aload_n 0, 1) := dall dgX12_join_96 30 rfl
theorem dX12_join_221 : decode cX12_join 221 = .ok (.getfield 191, 3) := dall dgX12_join_96 31 rfl
theorem dX12_join_224 : decode cX12_join 224 = .ok (.if_icmp .ge 42, 3) := dall dgX12_join_96 32 rfl
theorem dX12_join_266 : decode cX12_join 266 = .ok (.goto (-241), 3) := dall dgX12_join_96 33 rfl
theorem dX12_join_269 : decode cX12_join 269 = .ok (.iconst 0, 1) := dall dgX12_join_96 34 rfl
theorem dX12_join_270 : decode cX12_join 270 = .ok (.istore_n 2, 1) := dall dgX12_join_96 35 rfl
theorem dX12_join_271 : decode cX12_join 271 = .ok (.iconst 0, 1) := dall dgX12_join_96 36 rfl
theorem dX12_join_272 : decode cX12_join 272 = .ok (.istore_n 3, 1) := dall dgX12_join_96 37 rfl
theorem dX12_join_273 : decode cX12_join 273 = .ok (.iload_n 3, 1) := dall dgX12_join_96 38 rfl
theorem dX12_join_274 : decode cX12_join 274 = .ok (.aload_n 0, 1) := dall dgX12_join_96 39 rfl
theorem dX12_join_275 : decode cX12_join 275 = .ok (.getfield 191, 3) := dall dgX12_join_96 40 rfl
theorem dX12_join_278 : decode cX12_join 278 = .ok (.if_icmp .ge 58, 3) := dall dgX12_join_96 41 rfl
theorem dX12_join_336 : decode cX12_join 336 = .ok (.iconst 0, 1) := dall dgX12_join_96 42 rfl
theorem dX12_join_337 : decode cX12_join 337 = .ok (.istore_n 3, 1) := dall dgX12_join_96 43 rfl
theorem dX12_join_338 : decode cX12_join 338 = .ok (.iload_n 3, 1) := dall dgX12_join_96 44 rfl
theorem dX12_join_339 : decode cX12_join 339 = .ok (.aload_n 0, 1) := dall dgX12_join_96 45 rfl
theorem dX12_join_340 : decode cX12_join 340 = .ok (.getfield 191, 3) := dall dgX12_join_96 46 rfl
theorem dX12_join_343 : decode cX12_join 343 = .ok (.if_icmp .ge 21, 3) := dall dgX12_join_96 47 rfl
theorem dX12_join_364 : decode cX12_join 364 = .ok (.return_, 1) := dall dgX12_join_96 48 rfl
set_option maxRecDepth 20000 in
theorem ggX12_heap_X12_findPieces : GoodIn wsX12_heap wsX12_findPieces := goodIn_r _ [7, 8, 9, 10, 11, 12, 13, 14, 15, 6, 16, 17, 18, 19, 20, 21, 22, 23, 24, 25, 26, 27, 28, 29, 30, 31, 32, 33, 34, 35, 36, 37, 38, 39, 40, 41, 42, 43, 44, 45, 91, 92, 93, 94, 95, 96, 97, 98, 99, 100, 101, 102, 103, 104, 105, 106, 107, 108, 109, 110, 111, 112, 113, 114, 115, 116, 117, 118, 119, 120, 121, 122, 123, 124, 125, 126, 127, 128, 129, 130, 131, 132, 133, 134, 135] rfl (by decide +kernel)
set_option maxRecDepth 20000 in
theorem gX12_heap_X12_findPieces : GoodIn wsX12_heap (wsV RX12 203 RX12 yX12_findPieces wsX12_findPieces) := goodIn_app (goodIn_of _ (by decide +kernel)) ggX12_heap_X12_findPieces
set_option maxRecDepth 20000 in
theorem ggX12_heap_X12_isPiece : GoodIn wsX12_heap wsX12_isPiece := goodIn_r _ [49, 8, 38, 39, 6, 40, 91, 92, 93, 94, 95, 96, 97, 98, 99, 100, 101, 102, 103, 104, 105, 106, 107, 108, 109, 110, 111, 112, 113, 114, 115, 116, 117, 118, 119, 120, 121, 122, 123, 124, 125, 126, 127, 128, 129, 130, 131, 132, 133, 134, 135] rfl (by decide +kernel)
set_option maxRecDepth 20000 in
theorem gX12_heap_X12_isPiece : GoodIn wsX12_heap (wsV RX12 206 RX12 yX12_isPiece wsX12_isPiece) := goodIn_app (goodIn_of _ (by decide +kernel)) ggX12_heap_X12_isPiece
def lgX12_heap_97 : List (Nat × Instr × Nat) := [(0, .aload_n 0, 1), (1, .invokevirtual 203, 3), (4, .aload_n 0, 1), (5, .iload_n 1, 1), (6, .invokevirtual 206, 3), (9, .ifCond .eq 12, 3), (21, .iconst (-1), 1), (22, .ireturn, 1)]
theorem dgX12_heap_97 : ∀ q ∈ lgX12_heap_97, decode cX12_heap q.1 = .ok (q.2.1, q.2.2) := by decide +kernel
theorem dX12_heap_0 : decode cX12_heap 0 = .ok (.aload_n 0, 1) := dall dgX12_heap_97 0 rfl
theorem dX12_heap_1 : decode cX12_heap 1 = .ok (.invokevirtual 203, 3) := dall dgX12_heap_97 1 rfl
theorem dX12_heap_4 : decode cX12_heap 4 = .ok (.aload_n 0, 1) := dall dgX12_heap_97 2 rfl
theorem dX12_heap_5 : decode cX12_heap 5 = .ok (.iload_n 1, 1) := dall dgX12_heap_97 3 rfl
theorem dX12_heap_6 : decode cX12_heap 6 = .ok (.invokevirtual 206, 3) := dall dgX12_heap_97 4 rfl
theorem dX12_heap_9 : decode cX12_heap 9 = .ok (.ifCond .eq 12, 3) := dall dgX12_heap_97 5 rfl
theorem dX12_heap_21 : decode cX12_heap 21 = .ok (.iconst (-1), 1) := dall dgX12_heap_97 6 rfl
theorem dX12_heap_22 : decode cX12_heap 22 = .ok (.ireturn, 1) := dall dgX12_heap_97 7 rfl
set_option maxRecDepth 20000 in
theorem ggX12_worth_X12_in : GoodIn wsX12_worth wsX12_in := goodIn_r _ [7] rfl (by decide +kernel)
set_option maxRecDepth 20000 in
theorem gX12_worth_X12_in : GoodIn wsX12_worth (va_wsS RX12 100 yX12_in wsX12_in) := goodIn_app (goodIn_of _ (by decide +kernel)) ggX12_worth_X12_in
set_option maxRecDepth 20000 in
theorem ggX12_worth_X12_findBest : GoodIn wsX12_worth wsX12_findBest := goodIn_r _ [11, 12, 13, 2, 14, 15, 16, 17, 6, 18, 19, 20, 21, 22, 23, 24, 25, 26, 27, 28, 29, 30, 31, 32, 33, 34, 35, 36, 37, 38, 39, 40, 41, 42, 43, 44, 45, 46, 47, 4, 5, 7, 48, 49, 50, 51, 52, 53, 54, 55, 56, 57, 58, 59, 60, 61, 62, 63, 64, 65, 66, 67, 68, 69, 70, 71, 72, 73, 74, 75, 76, 77, 78, 79, 80, 81, 82, 83, 88, 89, 90, 91, 92, 93, 94, 95, 96, 97, 98, 99, 100, 101, 102, 103, 104, 105, 106, 107, 108, 109, 110, 111, 112, 113, 114, 115, 116, 117, 118, 119, 120, 121, 122, 123, 124, 125, 126, 127, 128, 129, 130, 131, 132] rfl (by decide +kernel)
set_option maxRecDepth 20000 in
theorem gX12_worth_X12_findBest : GoodIn wsX12_worth (wsV RX12 240 RX12 yX12_findBest wsX12_findBest) := goodIn_app (goodIn_of _ (by decide +kernel)) ggX12_worth_X12_findBest
set_option maxRecDepth 20000 in
theorem ggX12_worth_X12_join : GoodIn wsX12_worth wsX12_join := goodIn_r _ [87, 12, 3, 57, 13, 88, 89, 90, 91, 92, 93, 94, 95, 96, 97, 98, 99, 100, 101, 102, 103, 104, 105, 106, 107, 108, 109, 110, 111, 112, 113, 114, 115, 116, 117, 118, 119, 120, 121, 122, 123, 124, 125, 126, 127, 128, 129, 130, 131, 132] rfl (by decide +kernel)
set_option maxRecDepth 20000 in
theorem gX12_worth_X12_join : GoodIn wsX12_worth (wsV RX12 243 RX12 yX12_join wsX12_join) := goodIn_app (goodIn_of _ (by decide +kernel)) ggX12_worth_X12_join
set_option maxRecDepth 20000 in
theorem ggX12_worth_X12_worthOf : GoodIn wsX12_worth wsX12_worthOf := goodIn_r _ [76, 12, 57, 88, 89, 90, 91, 92, 93, 94, 95, 96, 97, 98, 99, 100, 101, 102, 103, 104, 105, 106, 107, 108, 109, 110, 111, 112, 113, 114, 115, 116, 117, 118, 119, 120, 121, 122, 123, 124, 125, 126, 127, 128, 129, 130, 131, 132] rfl (by decide +kernel)
set_option maxRecDepth 20000 in
theorem gX12_worth_X12_worthOf : GoodIn wsX12_worth (wsV RX12 229 RX12 yX12_worthOf wsX12_worthOf) := goodIn_app (goodIn_of _ (by decide +kernel)) ggX12_worth_X12_worthOf
def lgX12_worth_98 : List (Nat × Instr × Nat) := [(0, .iload_n 1, 1), (1, .iconst 0, 1), (2, .iconst 1, 1), (3, .invokestatic 100, 3), (6, .ifCond .eq 10, 3), (9, .aload_n 0, 1), (10, .invokevirtual 240, 3), (13, .ifCond .ne 6, 3), (16, .ldc 215, 2), (18, .ireturn, 1), (19, .aload_n 0, 1), (20, .invokevirtual 243, 3), (23, .iload_n 1, 1), (24, .ifCond .ne 10, 3), (27, .aload_n 0, 1), (28, .getfield 233, 3), (31, .goto 11, 3), (34, .aload_n 0, 1), (35, .aload_n 0, 1), (36, .getfield 75, 3), (39, .invokevirtual 229, 3), (42, .ireturn, 1)]
theorem dgX12_worth_98 : ∀ q ∈ lgX12_worth_98, decode cX12_worth q.1 = .ok (q.2.1, q.2.2) := by decide +kernel
theorem dX12_worth_0 : decode cX12_worth 0 = .ok (.iload_n 1, 1) := dall dgX12_worth_98 0 rfl
theorem dX12_worth_1 : decode cX12_worth 1 = .ok (.iconst 0, 1) := dall dgX12_worth_98 1 rfl
theorem dX12_worth_2 : decode cX12_worth 2 = .ok (.iconst 1, 1) := dall dgX12_worth_98 2 rfl
theorem dX12_worth_3 : decode cX12_worth 3 = .ok (.invokestatic 100, 3) := dall dgX12_worth_98 3 rfl
theorem dX12_worth_6 : decode cX12_worth 6 = .ok (.ifCond .eq 10, 3) := dall dgX12_worth_98 4 rfl
theorem dX12_worth_9 : decode cX12_worth 9 = .ok (.aload_n 0, 1) := dall dgX12_worth_98 5 rfl
theorem dX12_worth_10 : decode cX12_worth 10 = .ok (.invokevirtual 240, 3) := dall dgX12_worth_98 6 rfl
theorem dX12_worth_13 : decode cX12_worth 13 = .ok (.ifCond .ne 6, 3) := dall dgX12_worth_98 7 rfl
theorem dX12_worth_16 : decode cX12_worth 16 = .ok (.ldc 215, 2) := dall dgX12_worth_98 8 rfl
theorem dX12_worth_18 : decode cX12_worth 18 = .ok (.ireturn, 1) := dall dgX12_worth_98 9 rfl
theorem dX12_worth_19 : decode cX12_worth 19 = .ok (.aload_n 0, 1) := dall dgX12_worth_98 10 rfl
theorem dX12_worth_20 : decode cX12_worth 20 = .ok (.invokevirtual 243, 3) := dall dgX12_worth_98 11 rfl
theorem dX12_worth_23 : decode cX12_worth 23 = .ok (.iload_n 1, 1) := dall dgX12_worth_98 12 rfl
theorem dX12_worth_24 : decode cX12_worth 24 = .ok (.ifCond .ne 10, 3) := dall dgX12_worth_98 13 rfl
theorem dX12_worth_27 : decode cX12_worth 27 = .ok (.aload_n 0, 1) := dall dgX12_worth_98 14 rfl
theorem dX12_worth_28 : decode cX12_worth 28 = .ok (.getfield 233, 3) := dall dgX12_worth_98 15 rfl
theorem dX12_worth_31 : decode cX12_worth 31 = .ok (.goto 11, 3) := dall dgX12_worth_98 16 rfl
theorem dX12_worth_34 : decode cX12_worth 34 = .ok (.aload_n 0, 1) := dall dgX12_worth_98 17 rfl
theorem dX12_worth_35 : decode cX12_worth 35 = .ok (.aload_n 0, 1) := dall dgX12_worth_98 18 rfl
theorem dX12_worth_36 : decode cX12_worth 36 = .ok (.getfield 75, 3) := dall dgX12_worth_98 19 rfl
theorem dX12_worth_39 : decode cX12_worth 39 = .ok (.invokevirtual 229, 3) := dall dgX12_worth_98 20 rfl
theorem dX12_worth_42 : decode cX12_worth 42 = .ok (.ireturn, 1) := dall dgX12_worth_98 21 rfl
set_option maxRecDepth 20000 in
theorem ggX12_near_X12_in : GoodIn wsX12_near wsX12_in := goodIn_r _ [10] rfl (by decide +kernel)
set_option maxRecDepth 20000 in
theorem gX12_near_X12_in : GoodIn wsX12_near (va_wsS RX12 100 yX12_in wsX12_in) := goodIn_app (goodIn_of _ (by decide +kernel)) ggX12_near_X12_in
set_option maxRecDepth 20000 in
theorem ggX12_near_X12_findBest : GoodIn wsX12_near wsX12_findBest := goodIn_r _ [14, 2, 4, 5, 1, 15, 16, 17, 9, 18, 19, 20, 21, 22, 23, 24, 25, 26, 27, 28, 29, 6, 30, 31, 32, 33, 34, 35, 36, 37, 38, 39, 40, 41, 42, 43, 44, 45, 46, 7, 8, 10, 47, 48, 49, 50, 51, 52, 53, 54, 55, 56, 57, 58, 59, 60, 61, 62, 63, 64, 65, 66, 67, 68, 69, 70, 71, 72, 73, 74, 75, 76, 77, 78, 79, 80, 81, 82, 87, 88, 89, 90, 91, 92, 93, 94, 95, 96, 97, 98, 99, 100, 101, 102, 103, 104, 105, 106, 107, 108, 109, 110, 111, 112, 113, 114, 115, 116, 117, 118, 119, 120, 121, 122, 123, 124, 125, 126, 127, 128, 129, 130, 131] rfl (by decide +kernel)
set_option maxRecDepth 20000 in
theorem gX12_near_X12_findBest : GoodIn wsX12_near (wsV RX12 240 RX12 yX12_findBest wsX12_findBest) := goodIn_app (goodIn_of _ (by decide +kernel)) ggX12_near_X12_findBest
set_option maxRecDepth 20000 in
theorem ggX12_near_X12_join : GoodIn wsX12_near wsX12_join := goodIn_r _ [86, 2, 3, 56, 4, 87, 88, 89, 90, 91, 92, 93, 94, 95, 96, 97, 98, 99, 100, 101, 102, 103, 104, 105, 106, 107, 108, 109, 110, 111, 112, 113, 114, 115, 116, 117, 118, 119, 120, 121, 122, 123, 124, 125, 126, 127, 128, 129, 130, 131] rfl (by decide +kernel)
set_option maxRecDepth 20000 in
theorem gX12_near_X12_join : GoodIn wsX12_near (wsV RX12 243 RX12 yX12_join wsX12_join) := goodIn_app (goodIn_of _ (by decide +kernel)) ggX12_near_X12_join
set_option maxRecDepth 20000 in
theorem ggX12_near_X12_heapsIn : GoodIn wsX12_near wsX12_heapsIn := goodIn_r _ [82] rfl (by decide +kernel)
set_option maxRecDepth 20000 in
theorem gX12_near_X12_heapsIn : GoodIn wsX12_near (va_wsS RX12 219 yX12_heapsIn wsX12_heapsIn) := goodIn_app (goodIn_of _ (by decide +kernel)) ggX12_near_X12_heapsIn
set_option maxRecDepth 20000 in
theorem ggX12_near_X12_begin : GoodIn wsX12_near wsX12_begin := goodIn_r _ [71, 4, 87, 88, 89, 90, 91, 92, 93, 94, 95, 96, 97, 98, 99, 100, 101, 102, 103, 104, 105, 106, 107, 108, 109, 110, 111, 112, 113, 114, 115, 116, 117, 118, 119, 120, 121, 122, 123, 124, 125, 126, 127, 128, 129, 130, 131] rfl (by decide +kernel)
set_option maxRecDepth 20000 in
theorem gX12_near_X12_begin : GoodIn wsX12_near (wsV RX12 226 RX12 yX12_begin wsX12_begin) := goodIn_app (goodIn_of _ (by decide +kernel)) ggX12_near_X12_begin
set_option maxRecDepth 20000 in
theorem ggX12_near_X12_worthOf : GoodIn wsX12_near wsX12_worthOf := goodIn_r _ [75, 2, 56, 87, 88, 89, 90, 91, 92, 93, 94, 95, 96, 97, 98, 99, 100, 101, 102, 103, 104, 105, 106, 107, 108, 109, 110, 111, 112, 113, 114, 115, 116, 117, 118, 119, 120, 121, 122, 123, 124, 125, 126, 127, 128, 129, 130, 131] rfl (by decide +kernel)
set_option maxRecDepth 20000 in
theorem gX12_near_X12_worthOf : GoodIn wsX12_near (wsV RX12 229 RX12 yX12_worthOf wsX12_worthOf) := goodIn_app (goodIn_of _ (by decide +kernel)) ggX12_near_X12_worthOf
set_option maxRecDepth 20000 in
theorem ggX12_near_X12_goOn : GoodIn wsX12_near wsX12_goOn := goodIn_r _ [79, 2, 4, 80, 81, 9, 82, 87, 88, 89, 90, 91, 92, 93, 94, 95, 96, 97, 98, 99, 100, 101, 102, 103, 104, 105, 106, 107, 108, 109, 110, 111, 112, 113, 114, 115, 116, 117, 118, 119, 120, 121, 122, 123, 124, 125, 126, 127, 128, 129, 130, 131] rfl (by decide +kernel)
set_option maxRecDepth 20000 in
theorem gX12_near_X12_goOn : GoodIn wsX12_near (wsV RX12 236 RX12 yX12_goOn wsX12_goOn) := goodIn_app (goodIn_of _ (by decide +kernel)) ggX12_near_X12_goOn
def lgX12_near_99 : List (Nat × Instr × Nat) := [(0, .iload_n 1, 1), (1, .iconst 0, 1), (2, .iconst 4, 1), (3, .invokestatic 100, 3), (6, .ifCond .ne 5, 3), (9, .iconst (-1), 1), (10, .ireturn, 1), (11, .aload_n 0, 1), (12, .invokevirtual 240, 3), (15, .ifCond .ne 6, 3), (21, .iload_n 1, 1), (22, .iconst 2, 1), (23, .if_icmp .le 38, 3), (26, .aload_n 0, 1), (27, .invokevirtual 243, 3), (30, .iload_n 1, 1), (31, .iconst 3, 1), (32, .if_icmp .ne 17, 3), (35, .aload_n 0, 1), (36, .getfield 72, 3), (39, .aload_n 0, 1), (40, .getfield 191, 3), (43, .invokestatic 219, 3), (46, .goto 14, 3), (49, .aload_n 0, 1), (50, .getfield 75, 3), (53, .aload_n 0, 1), (54, .getfield 191, 3), (57, .invokestatic 219, 3), (60, .ireturn, 1), (61, .iconst 0, 1), (62, .istore_n 2, 1), (63, .bipush 10, 2), (65, .istore_n 3, 1), (66, .iconst (-1), 1), (67, .istore 4, 2), (69, .aload_n 0, 1), (70, .invokevirtual 226, 3), (73, .iconst 1, 1), (74, .istore 5, 2), (76, .iload 5, 2), (78, .ifCond .eq 79, 3), (81, .aload_n 0, 1), (82, .aload_n 0, 1), (83, .getfield 69, 3), (86, .invokevirtual 229, 3), (89, .aload_n 0, 1), (90, .getfield 233, 3), (93, .aload_n 0, 1), (94, .getfield 7, 3)]
theorem dgX12_near_99 : ∀ q ∈ lgX12_near_99, decode cX12_near q.1 = .ok (q.2.1, q.2.2) := by decide +kernel
theorem dX12_near_0 : decode cX12_near 0 = .ok (.iload_n 1, 1) := dall dgX12_near_99 0 rfl
theorem dX12_near_1 : decode cX12_near 1 = .ok (.iconst 0, 1) := dall dgX12_near_99 1 rfl
theorem dX12_near_2 : decode cX12_near 2 = .ok (.iconst 4, 1) := dall dgX12_near_99 2 rfl
theorem dX12_near_3 : decode cX12_near 3 = .ok (.invokestatic 100, 3) := dall dgX12_near_99 3 rfl
theorem dX12_near_6 : decode cX12_near 6 = .ok (.ifCond .ne 5, 3) := dall dgX12_near_99 4 rfl
theorem dX12_near_9 : decode cX12_near 9 = .ok (.iconst (-1), 1) := dall dgX12_near_99 5 rfl
theorem dX12_near_10 : decode cX12_near 10 = .ok (.ireturn, 1) := dall dgX12_near_99 6 rfl
theorem dX12_near_11 : decode cX12_near 11 = .ok (.aload_n 0, 1) := dall dgX12_near_99 7 rfl
theorem dX12_near_12 : decode cX12_near 12 = .ok (.invokevirtual 240, 3) := dall dgX12_near_99 8 rfl
theorem dX12_near_15 : decode cX12_near 15 = .ok (.ifCond .ne 6, 3) := dall dgX12_near_99 9 rfl
theorem dX12_near_21 : decode cX12_near 21 = .ok (.iload_n 1, 1) := dall dgX12_near_99 10 rfl
theorem dX12_near_22 : decode cX12_near 22 = .ok (.iconst 2, 1) := dall dgX12_near_99 11 rfl
theorem dX12_near_23 : decode cX12_near 23 = .ok (.if_icmp .le 38, 3) := dall dgX12_near_99 12 rfl
theorem dX12_near_26 : decode cX12_near 26 = .ok (.aload_n 0, 1) := dall dgX12_near_99 13 rfl
theorem dX12_near_27 : decode cX12_near 27 = .ok (.invokevirtual 243, 3) := dall dgX12_near_99 14 rfl
theorem dX12_near_30 : decode cX12_near 30 = .ok (.iload_n 1, 1) := dall dgX12_near_99 15 rfl
theorem dX12_near_31 : decode cX12_near 31 = .ok (.iconst 3, 1) := dall dgX12_near_99 16 rfl
theorem dX12_near_32 : decode cX12_near 32 = .ok (.if_icmp .ne 17, 3) := dall dgX12_near_99 17 rfl
theorem dX12_near_35 : decode cX12_near 35 = .ok (.aload_n 0, 1) := dall dgX12_near_99 18 rfl
theorem dX12_near_36 : decode cX12_near 36 = .ok (.getfield 72, 3) := dall dgX12_near_99 19 rfl
theorem dX12_near_39 : decode cX12_near 39 = .ok (.aload_n 0, 1) := dall dgX12_near_99 20 rfl
theorem dX12_near_40 : decode cX12_near 40 = .ok (.getfield 191, 3) := dall dgX12_near_99 21 rfl
theorem dX12_near_43 : decode cX12_near 43 = .ok (.invokestatic 219, 3) := dall dgX12_near_99 22 rfl
theorem dX12_near_46 : decode cX12_near 46 = .ok (.goto 14, 3) := dall dgX12_near_99 23 rfl
theorem dX12_near_49 : decode cX12_near 49 = .ok (.aload_n 0, 1) := dall dgX12_near_99 24 rfl
theorem dX12_near_50 : decode cX12_near 50 = .ok (.getfield 75, 3) := dall dgX12_near_99 25 rfl
theorem dX12_near_53 : decode cX12_near 53 = .ok (.aload_n 0, 1) := dall dgX12_near_99 26 rfl
theorem dX12_near_54 : decode cX12_near 54 = .ok (.getfield 191, 3) := dall dgX12_near_99 27 rfl
theorem dX12_near_57 : decode cX12_near 57 = .ok (.invokestatic 219, 3) := dall dgX12_near_99 28 rfl
theorem dX12_near_60 : decode cX12_near 60 = .ok (.ireturn, 1) := dall dgX12_near_99 29 rfl
theorem dX12_near_61 : decode cX12_near 61 = .ok (.iconst 0, 1) := dall dgX12_near_99 30 rfl
theorem dX12_near_62 : decode cX12_near 62 = .ok (.istore_n 2, 1) := dall dgX12_near_99 31 rfl
theorem dX12_near_63 : decode cX12_near 63 = .ok (.bipush 10, 2) := dall dgX12_near_99 32 rfl
theorem dX12_near_65 : decode cX12_near 65 = .ok (.istore_n 3, 1) := dall dgX12_near_99 33 rfl
theorem dX12_near_66 : decode cX12_near 66 = .ok (.iconst (-1), 1) := dall dgX12_near_99 34 rfl
theorem dX12_near_67 : decode cX12_near 67 = .ok (.istore 4, 2) := dall dgX12_near_99 35 rfl
theorem dX12_near_69 : decode cX12_near 69 = .ok (.aload_n 0, 1) := dall dgX12_near_99 36 rfl
theorem dX12_near_70 : decode cX12_near 70 = .ok (.invokevirtual 226, 3) := dall dgX12_near_99 37 rfl
theorem dX12_near_73 : decode cX12_near 73 = .ok (.iconst 1, 1) := dall dgX12_near_99 38 rfl
theorem dX12_near_74 : decode cX12_near 74 = .ok (.istore 5, 2) := dall dgX12_near_99 39 rfl
theorem dX12_near_76 : decode cX12_near 76 = .ok (.iload 5, 2) := dall dgX12_near_99 40 rfl
theorem dX12_near_78 : decode cX12_near 78 = .ok (.ifCond .eq 79, 3) := dall dgX12_near_99 41 rfl
theorem dX12_near_81 : decode cX12_near 81 = .ok (.aload_n 0, 1) := dall dgX12_near_99 42 rfl
theorem dX12_near_82 : decode cX12_near 82 = .ok (.aload_n 0, 1) := dall dgX12_near_99 43 rfl
theorem dX12_near_83 : decode cX12_near 83 = .ok (.getfield 69, 3) := dall dgX12_near_99 44 rfl
theorem dX12_near_86 : decode cX12_near 86 = .ok (.invokevirtual 229, 3) := dall dgX12_near_99 45 rfl
theorem dX12_near_89 : decode cX12_near 89 = .ok (.aload_n 0, 1) := dall dgX12_near_99 46 rfl
theorem dX12_near_90 : decode cX12_near 90 = .ok (.getfield 233, 3) := dall dgX12_near_99 47 rfl
theorem dX12_near_93 : decode cX12_near 93 = .ok (.aload_n 0, 1) := dall dgX12_near_99 48 rfl
theorem dX12_near_94 : decode cX12_near 94 = .ok (.getfield 7, 3) := dall dgX12_near_99 49 rfl
def lgX12_near_100 : List (Nat × Instr × Nat) := [(97, .iconst 3, 1), (98, .iaload, 1), (99, .isub, 1), (100, .if_icmp .lt 48, 3), (103, .aload_n 0, 1), (104, .getfield 69, 3), (107, .aload_n 0, 1), (108, .getfield 191, 3), (111, .invokestatic 219, 3), (114, .istore 6, 2), (116, .iinc 2 1, 3), (119, .iload 6, 2), (121, .iload_n 3, 1), (122, .if_icmp .ge 8, 3), (125, .iload 6, 2), (127, .goto 4, 3), (131, .istore_n 3, 1), (132, .iload 6, 2), (134, .iload 4, 2), (136, .if_icmp .le 8, 3), (139, .iload 6, 2), (141, .goto 5, 3), (146, .istore 4, 2), (148, .aload_n 0, 1), (149, .invokevirtual 236, 3), (152, .istore 5, 2), (154, .goto (-78), 3), (157, .iload_n 1, 1), (158, .ifCond .ne 7, 3), (161, .iload_n 2, 1), (162, .goto 14, 3), (165, .iload_n 1, 1), (166, .iconst 1, 1), (167, .if_icmp .ne 7, 3), (170, .iload_n 3, 1), (171, .goto 5, 3), (174, .iload 4, 2), (176, .ireturn, 1)]
theorem dgX12_near_100 : ∀ q ∈ lgX12_near_100, decode cX12_near q.1 = .ok (q.2.1, q.2.2) := by decide +kernel
theorem dX12_near_97 : decode cX12_near 97 = .ok (.iconst 3, 1) := dall dgX12_near_100 0 rfl
theorem dX12_near_98 : decode cX12_near 98 = .ok (.iaload, 1) := dall dgX12_near_100 1 rfl
theorem dX12_near_99 : decode cX12_near 99 = .ok (.isub, 1) := dall dgX12_near_100 2 rfl
theorem dX12_near_100 : decode cX12_near 100 = .ok (.if_icmp .lt 48, 3) := dall dgX12_near_100 3 rfl
theorem dX12_near_103 : decode cX12_near 103 = .ok (.aload_n 0, 1) := dall dgX12_near_100 4 rfl
theorem dX12_near_104 : decode cX12_near 104 = .ok (.getfield 69, 3) := dall dgX12_near_100 5 rfl
theorem dX12_near_107 : decode cX12_near 107 = .ok (.aload_n 0, 1) := dall dgX12_near_100 6 rfl
theorem dX12_near_108 : decode cX12_near 108 = .ok (.getfield 191, 3) := dall dgX12_near_100 7 rfl
theorem dX12_near_111 : decode cX12_near 111 = .ok (.invokestatic 219, 3) := dall dgX12_near_100 8 rfl
theorem dX12_near_114 : decode cX12_near 114 = .ok (.istore 6, 2) := dall dgX12_near_100 9 rfl
theorem dX12_near_116 : decode cX12_near 116 = .ok (.iinc 2 1, 3) := dall dgX12_near_100 10 rfl
theorem dX12_near_119 : decode cX12_near 119 = .ok (.iload 6, 2) := dall dgX12_near_100 11 rfl
theorem dX12_near_121 : decode cX12_near 121 = .ok (.iload_n 3, 1) := dall dgX12_near_100 12 rfl
theorem dX12_near_122 : decode cX12_near 122 = .ok (.if_icmp .ge 8, 3) := dall dgX12_near_100 13 rfl
theorem dX12_near_125 : decode cX12_near 125 = .ok (.iload 6, 2) := dall dgX12_near_100 14 rfl
theorem dX12_near_127 : decode cX12_near 127 = .ok (.goto 4, 3) := dall dgX12_near_100 15 rfl
theorem dX12_near_131 : decode cX12_near 131 = .ok (.istore_n 3, 1) := dall dgX12_near_100 16 rfl
theorem dX12_near_132 : decode cX12_near 132 = .ok (.iload 6, 2) := dall dgX12_near_100 17 rfl
theorem dX12_near_134 : decode cX12_near 134 = .ok (.iload 4, 2) := dall dgX12_near_100 18 rfl
theorem dX12_near_136 : decode cX12_near 136 = .ok (.if_icmp .le 8, 3) := dall dgX12_near_100 19 rfl
theorem dX12_near_139 : decode cX12_near 139 = .ok (.iload 6, 2) := dall dgX12_near_100 20 rfl
theorem dX12_near_141 : decode cX12_near 141 = .ok (.goto 5, 3) := dall dgX12_near_100 21 rfl
theorem dX12_near_146 : decode cX12_near 146 = .ok (.istore 4, 2) := dall dgX12_near_100 22 rfl
theorem dX12_near_148 : decode cX12_near 148 = .ok (.aload_n 0, 1) := dall dgX12_near_100 23 rfl
theorem dX12_near_149 : decode cX12_near 149 = .ok (.invokevirtual 236, 3) := dall dgX12_near_100 24 rfl
theorem dX12_near_152 : decode cX12_near 152 = .ok (.istore 5, 2) := dall dgX12_near_100 25 rfl
theorem dX12_near_154 : decode cX12_near 154 = .ok (.goto (-78), 3) := dall dgX12_near_100 26 rfl
theorem dX12_near_157 : decode cX12_near 157 = .ok (.iload_n 1, 1) := dall dgX12_near_100 27 rfl
theorem dX12_near_158 : decode cX12_near 158 = .ok (.ifCond .ne 7, 3) := dall dgX12_near_100 28 rfl
theorem dX12_near_161 : decode cX12_near 161 = .ok (.iload_n 2, 1) := dall dgX12_near_100 29 rfl
theorem dX12_near_162 : decode cX12_near 162 = .ok (.goto 14, 3) := dall dgX12_near_100 30 rfl
theorem dX12_near_165 : decode cX12_near 165 = .ok (.iload_n 1, 1) := dall dgX12_near_100 31 rfl
theorem dX12_near_166 : decode cX12_near 166 = .ok (.iconst 1, 1) := dall dgX12_near_100 32 rfl
theorem dX12_near_167 : decode cX12_near 167 = .ok (.if_icmp .ne 7, 3) := dall dgX12_near_100 33 rfl
theorem dX12_near_170 : decode cX12_near 170 = .ok (.iload_n 3, 1) := dall dgX12_near_100 34 rfl
theorem dX12_near_171 : decode cX12_near 171 = .ok (.goto 5, 3) := dall dgX12_near_100 35 rfl
theorem dX12_near_174 : decode cX12_near 174 = .ok (.iload 4, 2) := dall dgX12_near_100 36 rfl
theorem dX12_near_176 : decode cX12_near 176 = .ok (.ireturn, 1) := dall dgX12_near_100 37 rfl
set_option maxRecDepth 20000 in
theorem ggX12_sure_X12_findPieces : GoodIn wsX12_sure wsX12_findPieces := goodIn_r _ [8, 9, 10, 11, 12, 13, 14, 15, 16, 7, 17, 18, 19, 20, 3, 21, 22, 23, 24, 25, 26, 27, 28, 29, 30, 31, 32, 33, 34, 35, 36, 37, 38, 39, 40, 41, 42, 43, 44, 45, 86, 87, 88, 89, 90, 91, 92, 93, 94, 95, 96, 97, 98, 99, 100, 101, 102, 103, 104, 105, 106, 107, 108, 109, 110, 111, 112, 113, 114, 115, 116, 117, 118, 119, 120, 121, 122, 123, 124, 125, 126, 127, 128, 129, 130] rfl (by decide +kernel)
set_option maxRecDepth 20000 in
theorem gX12_sure_X12_findPieces : GoodIn wsX12_sure (wsV RX12 203 RX12 yX12_findPieces wsX12_findPieces) := goodIn_app (goodIn_of _ (by decide +kernel)) ggX12_sure_X12_findPieces
set_option maxRecDepth 20000 in
theorem ggX12_sure_X12_isPiece : GoodIn wsX12_sure wsX12_isPiece := goodIn_r _ [49, 9, 38, 39, 7, 40, 86, 87, 88, 89, 90, 91, 92, 93, 94, 95, 96, 97, 98, 99, 100, 101, 102, 103, 104, 105, 106, 107, 108, 109, 110, 111, 112, 113, 114, 115, 116, 117, 118, 119, 120, 121, 122, 123, 124, 125, 126, 127, 128, 129, 130] rfl (by decide +kernel)
set_option maxRecDepth 20000 in
theorem gX12_sure_X12_isPiece : GoodIn wsX12_sure (wsV RX12 206 RX12 yX12_isPiece wsX12_isPiece) := goodIn_app (goodIn_of _ (by decide +kernel)) ggX12_sure_X12_isPiece
def lgX12_sure_101 : List (Nat × Instr × Nat) := [(0, .aload_n 0, 1), (1, .invokevirtual 203, 3), (4, .aload_n 0, 1), (5, .iload_n 1, 1), (6, .invokevirtual 206, 3), (9, .ifCond .eq 16, 3), (25, .iconst (-1), 1), (26, .ireturn, 1)]
theorem dgX12_sure_101 : ∀ q ∈ lgX12_sure_101, decode cX12_sure q.1 = .ok (q.2.1, q.2.2) := by decide +kernel
theorem dX12_sure_0 : decode cX12_sure 0 = .ok (.aload_n 0, 1) := dall dgX12_sure_101 0 rfl
theorem dX12_sure_1 : decode cX12_sure 1 = .ok (.invokevirtual 203, 3) := dall dgX12_sure_101 1 rfl
theorem dX12_sure_4 : decode cX12_sure 4 = .ok (.aload_n 0, 1) := dall dgX12_sure_101 2 rfl
theorem dX12_sure_5 : decode cX12_sure 5 = .ok (.iload_n 1, 1) := dall dgX12_sure_101 3 rfl
theorem dX12_sure_6 : decode cX12_sure 6 = .ok (.invokevirtual 206, 3) := dall dgX12_sure_101 4 rfl
theorem dX12_sure_9 : decode cX12_sure 9 = .ok (.ifCond .eq 16, 3) := dall dgX12_sure_101 5 rfl
theorem dX12_sure_25 : decode cX12_sure 25 = .ok (.iconst (-1), 1) := dall dgX12_sure_101 6 rfl
theorem dX12_sure_26 : decode cX12_sure 26 = .ok (.ireturn, 1) := dall dgX12_sure_101 7 rfl
set_option maxRecDepth 20000 in
theorem ggX12_findHeapMiddles_X12_heapsIn : GoodIn wsX12_findHeapMiddles wsX12_heapsIn := goodIn_r _ [11] rfl (by decide +kernel)
set_option maxRecDepth 20000 in
theorem gX12_findHeapMiddles_X12_heapsIn : GoodIn wsX12_findHeapMiddles (va_wsS RX12 219 yX12_heapsIn wsX12_heapsIn) := goodIn_app (goodIn_of _ (by decide +kernel)) ggX12_findHeapMiddles_X12_heapsIn
def lgX12_findHeapMiddles_102 : List (Nat × Instr × Nat) := [(0, .iconst 0, 1), (1, .istore_n 1, 1), (2, .iload_n 1, 1), (3, .aload_n 0, 1), (4, .getfield 72, 3), (7, .aload_n 0, 1), (8, .getfield 191, 3), (11, .invokestatic 219, 3), (14, .if_icmp .ge 95, 3), (109, .return_, 1)]
theorem dgX12_findHeapMiddles_102 : ∀ q ∈ lgX12_findHeapMiddles_102, decode cX12_findHeapMiddles q.1 = .ok (q.2.1, q.2.2) := by decide +kernel
theorem dX12_findHeapMiddles_0 : decode cX12_findHeapMiddles 0 = .ok (.iconst 0, 1) := dall dgX12_findHeapMiddles_102 0 rfl
theorem dX12_findHeapMiddles_1 : decode cX12_findHeapMiddles 1 = .ok (.istore_n 1, 1) := dall dgX12_findHeapMiddles_102 1 rfl
theorem dX12_findHeapMiddles_2 : decode cX12_findHeapMiddles 2 = .ok (.iload_n 1, 1) := dall dgX12_findHeapMiddles_102 2 rfl
theorem dX12_findHeapMiddles_3 : decode cX12_findHeapMiddles 3 = .ok (.aload_n 0, 1) := dall dgX12_findHeapMiddles_102 3 rfl
theorem dX12_findHeapMiddles_4 : decode cX12_findHeapMiddles 4 = .ok (.getfield 72, 3) := dall dgX12_findHeapMiddles_102 4 rfl
theorem dX12_findHeapMiddles_7 : decode cX12_findHeapMiddles 7 = .ok (.aload_n 0, 1) := dall dgX12_findHeapMiddles_102 5 rfl
theorem dX12_findHeapMiddles_8 : decode cX12_findHeapMiddles 8 = .ok (.getfield 191, 3) := dall dgX12_findHeapMiddles_102 6 rfl
theorem dX12_findHeapMiddles_11 : decode cX12_findHeapMiddles 11 = .ok (.invokestatic 219, 3) := dall dgX12_findHeapMiddles_102 7 rfl
theorem dX12_findHeapMiddles_14 : decode cX12_findHeapMiddles 14 = .ok (.if_icmp .ge 95, 3) := dall dgX12_findHeapMiddles_102 8 rfl
theorem dX12_findHeapMiddles_109 : decode cX12_findHeapMiddles 109 = .ok (.return_, 1) := dall dgX12_findHeapMiddles_102 9 rfl
set_option maxRecDepth 20000 in
theorem ggX12_wrong_X12_in : GoodIn wsX12_wrong wsX12_in := goodIn_r _ [6] rfl (by decide +kernel)
set_option maxRecDepth 20000 in
theorem gX12_wrong_X12_in : GoodIn wsX12_wrong (va_wsS RX12 100 yX12_in wsX12_in) := goodIn_app (goodIn_of _ (by decide +kernel)) ggX12_wrong_X12_in
set_option maxRecDepth 20000 in
theorem ggX12_wrong_X12_findBest : GoodIn wsX12_wrong wsX12_findBest := goodIn_r _ [10, 2, 11, 12, 1, 13, 14, 15, 5, 16, 17, 18, 19, 20, 21, 22, 23, 24, 25, 26, 27, 28, 29, 30, 31, 32, 33, 34, 35, 36, 37, 38, 39, 40, 41, 42, 43, 44, 45, 3, 4, 6, 46, 47, 48, 49, 50, 51, 52, 53, 54, 55, 56, 57, 58, 59, 60, 61, 62, 63, 64, 65, 66, 67, 68, 69, 70, 71, 72, 73, 74, 75, 76, 77, 78, 79, 80, 81, 87, 88, 89, 90, 91, 92, 93, 94, 95, 96, 97, 98, 99, 100, 101, 102, 103, 104, 105, 106, 107, 108, 109, 110, 111, 112, 113, 114, 115, 116, 117, 118, 119, 120, 121, 122, 123, 124, 125, 126, 127, 128, 129, 130, 131] rfl (by decide +kernel)
set_option maxRecDepth 20000 in
theorem gX12_wrong_X12_findBest : GoodIn wsX12_wrong (wsV RX12 240 RX12 yX12_findBest wsX12_findBest) := goodIn_app (goodIn_of _ (by decide +kernel)) ggX12_wrong_X12_findBest
set_option maxRecDepth 20000 in
theorem ggX12_wrong_X12_findHeapMiddles : GoodIn wsX12_wrong wsX12_findHeapMiddles := goodIn_r _ [85, 1, 2, 19, 45, 20, 86, 40, 79, 80, 5, 81, 46, 47, 48, 49, 35, 25, 50, 87, 88, 89, 90, 91, 92, 93, 94, 95, 96, 97, 98, 99, 100, 101, 102, 103, 104, 105, 106, 107, 108, 109, 110, 111, 112, 113, 114, 115, 116, 117, 118, 119, 120, 121, 122, 123, 124, 125, 126, 127, 128, 129, 130, 131] rfl (by decide +kernel)
set_option maxRecDepth 20000 in
theorem gX12_wrong_X12_findHeapMiddles : GoodIn wsX12_wrong (wsV RX12 246 RX12 yX12_findHeapMiddles wsX12_findHeapMiddles) := goodIn_app (goodIn_of _ (by decide +kernel)) ggX12_wrong_X12_findHeapMiddles
set_option maxRecDepth 20000 in
theorem ggX12_wrong_X12_heapsIn : GoodIn wsX12_wrong wsX12_heapsIn := goodIn_r _ [81] rfl (by decide +kernel)
set_option maxRecDepth 20000 in
theorem gX12_wrong_X12_heapsIn : GoodIn wsX12_wrong (va_wsS RX12 219 yX12_heapsIn wsX12_heapsIn) := goodIn_app (goodIn_of _ (by decide +kernel)) ggX12_wrong_X12_heapsIn
def lgX12_wrong_103 : List (Nat × Instr × Nat) := [(0, .iload_n 1, 1), (1, .iconst 0, 1), (2, .bipush 8, 2), (4, .invokestatic 100, 3), (7, .ifCond .ne 5, 3), (10, .iconst (-1), 1), (11, .ireturn, 1), (12, .aload_n 0, 1), (13, .invokevirtual 240, 3), (16, .ifCond .ne 6, 3), (22, .aload_n 0, 1), (23, .invokevirtual 246, 3), (26, .iload_n 1, 1), (27, .aload_n 0, 1), (28, .getfield 72, 3), (31, .aload_n 0, 1), (32, .getfield 191, 3), (35, .invokestatic 219, 3), (38, .if_icmp .ge 7, 3), (45, .iconst (-1), 1), (46, .ireturn, 1)]
theorem dgX12_wrong_103 : ∀ q ∈ lgX12_wrong_103, decode cX12_wrong q.1 = .ok (q.2.1, q.2.2) := by decide +kernel
theorem dX12_wrong_0 : decode cX12_wrong 0 = .ok (.iload_n 1, 1) := dall dgX12_wrong_103 0 rfl
theorem dX12_wrong_1 : decode cX12_wrong 1 = .ok (.iconst 0, 1) := dall dgX12_wrong_103 1 rfl
theorem dX12_wrong_2 : decode cX12_wrong 2 = .ok (.bipush 8, 2) := dall dgX12_wrong_103 2 rfl
theorem dX12_wrong_4 : decode cX12_wrong 4 = .ok (.invokestatic 100, 3) := dall dgX12_wrong_103 3 rfl
theorem dX12_wrong_7 : decode cX12_wrong 7 = .ok (.ifCond .ne 5, 3) := dall dgX12_wrong_103 4 rfl
theorem dX12_wrong_10 : decode cX12_wrong 10 = .ok (.iconst (-1), 1) := dall dgX12_wrong_103 5 rfl
theorem dX12_wrong_11 : decode cX12_wrong 11 = .ok (.ireturn, 1) := dall dgX12_wrong_103 6 rfl
theorem dX12_wrong_12 : decode cX12_wrong 12 = .ok (.aload_n 0, 1) := dall dgX12_wrong_103 7 rfl
theorem dX12_wrong_13 : decode cX12_wrong 13 = .ok (.invokevirtual 240, 3) := dall dgX12_wrong_103 8 rfl
theorem dX12_wrong_16 : decode cX12_wrong 16 = .ok (.ifCond .ne 6, 3) := dall dgX12_wrong_103 9 rfl
theorem dX12_wrong_22 : decode cX12_wrong 22 = .ok (.aload_n 0, 1) := dall dgX12_wrong_103 10 rfl
theorem dX12_wrong_23 : decode cX12_wrong 23 = .ok (.invokevirtual 246, 3) := dall dgX12_wrong_103 11 rfl
theorem dX12_wrong_26 : decode cX12_wrong 26 = .ok (.iload_n 1, 1) := dall dgX12_wrong_103 12 rfl
theorem dX12_wrong_27 : decode cX12_wrong 27 = .ok (.aload_n 0, 1) := dall dgX12_wrong_103 13 rfl
theorem dX12_wrong_28 : decode cX12_wrong 28 = .ok (.getfield 72, 3) := dall dgX12_wrong_103 14 rfl
theorem dX12_wrong_31 : decode cX12_wrong 31 = .ok (.aload_n 0, 1) := dall dgX12_wrong_103 15 rfl
theorem dX12_wrong_32 : decode cX12_wrong 32 = .ok (.getfield 191, 3) := dall dgX12_wrong_103 16 rfl
theorem dX12_wrong_35 : decode cX12_wrong 35 = .ok (.invokestatic 219, 3) := dall dgX12_wrong_103 17 rfl
theorem dX12_wrong_38 : decode cX12_wrong 38 = .ok (.if_icmp .ge 7, 3) := dall dgX12_wrong_103 18 rfl
theorem dX12_wrong_45 : decode cX12_wrong 45 = .ok (.iconst (-1), 1) := dall dgX12_wrong_103 19 rfl
theorem dX12_wrong_46 : decode cX12_wrong 46 = .ok (.ireturn, 1) := dall dgX12_wrong_103 20 rfl
set_option maxRecDepth 20000 in
theorem ggX12_middle_X12_in : GoodIn wsX12_middle wsX12_in := goodIn_r _ [5] rfl (by decide +kernel)
set_option maxRecDepth 20000 in
theorem gX12_middle_X12_in : GoodIn wsX12_middle (va_wsS RX12 100 yX12_in wsX12_in) := goodIn_app (goodIn_of _ (by decide +kernel)) ggX12_middle_X12_in
set_option maxRecDepth 20000 in
theorem ggX12_middle_X12_wrong : GoodIn wsX12_middle wsX12_wrong := goodIn_r _ [9, 10, 11, 2, 3, 4, 5, 12, 13, 14, 15, 16, 17, 18, 19, 20, 21, 22, 23, 24, 25, 26, 27, 28, 29, 30, 31, 32, 33, 34, 35, 36, 37, 38, 39, 40, 41, 42, 43, 44, 45, 46, 47, 48, 49, 50, 51, 52, 53, 54, 55, 56, 57, 58, 59, 60, 61, 62, 63, 64, 65, 66, 67, 68, 69, 70, 71, 72, 73, 74, 75, 76, 77, 78, 79, 80, 81, 82, 83, 84, 85, 86, 87, 88, 89, 90, 1, 91, 92, 93, 94, 95, 96, 97, 98, 99, 100, 101, 102, 103, 104, 105, 106, 107, 108, 109, 110, 111, 112, 113, 114, 115, 116, 117, 118, 119, 120, 121, 122, 123, 124, 125, 126, 127, 128, 129, 130, 131, 132, 133, 134, 135] rfl (by decide +kernel)
set_option maxRecDepth 20000 in
theorem gX12_middle_X12_wrong : GoodIn wsX12_middle (wsV RX12 249 RX12 yX12_wrong wsX12_wrong) := goodIn_app (goodIn_of _ (by decide +kernel)) ggX12_middle_X12_wrong
def lgX12_middle_104 : List (Nat × Instr × Nat) := [(0, .iload_n 2, 1), (1, .iconst 0, 1), (2, .iconst 3, 1), (3, .invokestatic 100, 3), (6, .ifCond .eq 11, 3), (9, .aload_n 0, 1), (10, .iload_n 1, 1), (11, .invokevirtual 249, 3), (14, .goto 4, 3), (17, .iconst (-1), 1), (18, .istore_n 3, 1), (19, .iload_n 3, 1), (20, .ifCond .ne 16, 3), (36, .iload_n 3, 1), (37, .ireturn, 1)]
theorem dgX12_middle_104 : ∀ q ∈ lgX12_middle_104, decode cX12_middle q.1 = .ok (q.2.1, q.2.2) := by decide +kernel
theorem dX12_middle_0 : decode cX12_middle 0 = .ok (.iload_n 2, 1) := dall dgX12_middle_104 0 rfl
theorem dX12_middle_1 : decode cX12_middle 1 = .ok (.iconst 0, 1) := dall dgX12_middle_104 1 rfl
theorem dX12_middle_2 : decode cX12_middle 2 = .ok (.iconst 3, 1) := dall dgX12_middle_104 2 rfl
theorem dX12_middle_3 : decode cX12_middle 3 = .ok (.invokestatic 100, 3) := dall dgX12_middle_104 3 rfl
theorem dX12_middle_6 : decode cX12_middle 6 = .ok (.ifCond .eq 11, 3) := dall dgX12_middle_104 4 rfl
theorem dX12_middle_9 : decode cX12_middle 9 = .ok (.aload_n 0, 1) := dall dgX12_middle_104 5 rfl
theorem dX12_middle_10 : decode cX12_middle 10 = .ok (.iload_n 1, 1) := dall dgX12_middle_104 6 rfl
theorem dX12_middle_11 : decode cX12_middle 11 = .ok (.invokevirtual 249, 3) := dall dgX12_middle_104 7 rfl
theorem dX12_middle_14 : decode cX12_middle 14 = .ok (.goto 4, 3) := dall dgX12_middle_104 8 rfl
theorem dX12_middle_17 : decode cX12_middle 17 = .ok (.iconst (-1), 1) := dall dgX12_middle_104 9 rfl
theorem dX12_middle_18 : decode cX12_middle 18 = .ok (.istore_n 3, 1) := dall dgX12_middle_104 10 rfl
theorem dX12_middle_19 : decode cX12_middle 19 = .ok (.iload_n 3, 1) := dall dgX12_middle_104 11 rfl
theorem dX12_middle_20 : decode cX12_middle 20 = .ok (.ifCond .ne 16, 3) := dall dgX12_middle_104 12 rfl
theorem dX12_middle_36 : decode cX12_middle 36 = .ok (.iload_n 3, 1) := dall dgX12_middle_104 13 rfl
theorem dX12_middle_37 : decode cX12_middle 37 = .ok (.ireturn, 1) := dall dgX12_middle_104 14 rfl
set_option maxRecDepth 20000 in
theorem ggX12_twice_X12_findPieces : GoodIn wsX12_twice wsX12_findPieces := goodIn_r _ [10, 5, 11, 12, 13, 14, 15, 16, 17, 9, 18, 19, 20, 21, 4, 22, 23, 24, 25, 26, 27, 28, 29, 30, 31, 1, 32, 33, 34, 35, 36, 37, 38, 39, 40, 41, 42, 43, 44, 45, 91, 92, 93, 94, 95, 96, 97, 98, 99, 100, 101, 102, 103, 104, 105, 106, 107, 108, 109, 110, 111, 112, 113, 114, 115, 116, 117, 118, 119, 120, 121, 122, 123, 124, 125, 126, 127, 128, 129, 130, 131, 132, 133, 134, 135] rfl (by decide +kernel)
set_option maxRecDepth 20000 in
theorem gX12_twice_X12_findPieces : GoodIn wsX12_twice (wsV RX12 203 RX12 yX12_findPieces wsX12_findPieces) := goodIn_app (goodIn_of _ (by decide +kernel)) ggX12_twice_X12_findPieces
set_option maxRecDepth 20000 in
theorem ggX12_twice_X12_isPiece : GoodIn wsX12_twice wsX12_isPiece := goodIn_r _ [49, 5, 38, 39, 9, 40, 91, 92, 93, 94, 95, 96, 97, 98, 99, 100, 101, 102, 103, 104, 105, 106, 107, 108, 109, 110, 111, 112, 113, 114, 115, 116, 117, 118, 119, 120, 121, 122, 123, 124, 125, 126, 127, 128, 129, 130, 131, 132, 133, 134, 135] rfl (by decide +kernel)
set_option maxRecDepth 20000 in
theorem gX12_twice_X12_isPiece : GoodIn wsX12_twice (wsV RX12 206 RX12 yX12_isPiece wsX12_isPiece) := goodIn_app (goodIn_of _ (by decide +kernel)) ggX12_twice_X12_isPiece
def lgX12_twice_105 : List (Nat × Instr × Nat) := [(0, .aload_n 0, 1), (1, .invokevirtual 203, 3), (4, .aload_n 0, 1), (5, .iload_n 1, 1), (6, .invokevirtual 206, 3), (9, .ifCond .eq 12, 3), (21, .iconst (-1), 1), (22, .ireturn, 1)]
theorem dgX12_twice_105 : ∀ q ∈ lgX12_twice_105, decode cX12_twice q.1 = .ok (q.2.1, q.2.2) := by decide +kernel
theorem dX12_twice_0 : decode cX12_twice 0 = .ok (.aload_n 0, 1) := dall dgX12_twice_105 0 rfl
theorem dX12_twice_1 : decode cX12_twice 1 = .ok (.invokevirtual 203, 3) := dall dgX12_twice_105 1 rfl
theorem dX12_twice_4 : decode cX12_twice 4 = .ok (.aload_n 0, 1) := dall dgX12_twice_105 2 rfl
theorem dX12_twice_5 : decode cX12_twice 5 = .ok (.iload_n 1, 1) := dall dgX12_twice_105 3 rfl
theorem dX12_twice_6 : decode cX12_twice 6 = .ok (.invokevirtual 206, 3) := dall dgX12_twice_105 4 rfl
theorem dX12_twice_9 : decode cX12_twice 9 = .ok (.ifCond .eq 12, 3) := dall dgX12_twice_105 5 rfl
theorem dX12_twice_21 : decode cX12_twice 21 = .ok (.iconst (-1), 1) := dall dgX12_twice_105 6 rfl
theorem dX12_twice_22 : decode cX12_twice 22 = .ok (.ireturn, 1) := dall dgX12_twice_105 7 rfl
set_option maxRecDepth 20000 in
theorem ggX12_keep_X12_in : GoodIn wsX12_keep wsX12_in := goodIn_r _ [8] rfl (by decide +kernel)
set_option maxRecDepth 20000 in
theorem gX12_keep_X12_in : GoodIn wsX12_keep (va_wsS RX12 100 yX12_in wsX12_in) := goodIn_app (goodIn_of _ (by decide +kernel)) ggX12_keep_X12_in
set_option maxRecDepth 20000 in
theorem ggX12_keep_X12_wrong : GoodIn wsX12_keep wsX12_wrong := goodIn_r _ [12, 13, 14, 5, 6, 7, 8, 15, 16, 17, 18, 19, 20, 21, 22, 23, 24, 25, 26, 27, 28, 29, 30, 31, 32, 33, 34, 35, 36, 37, 38, 39, 40, 41, 42, 43, 44, 45, 46, 47, 48, 49, 50, 51, 52, 53, 54, 55, 56, 57, 58, 59, 60, 61, 62, 63, 64, 65, 66, 67, 68, 69, 70, 71, 72, 73, 74, 75, 76, 77, 78, 79, 80, 81, 82, 83, 84, 85, 86, 87, 88, 89, 90, 91, 92, 93, 4, 94, 95, 96, 97, 98, 99, 100, 101, 102, 103, 104, 105, 106, 107, 108, 109, 110, 111, 112, 113, 114, 115, 116, 117, 118, 119, 120, 121, 122, 123, 124, 125, 126, 127, 128, 129, 130, 131, 132, 133, 134, 135, 136, 137, 138] rfl (by decide +kernel)
set_option maxRecDepth 20000 in
theorem gX12_keep_X12_wrong : GoodIn wsX12_keep (wsV RX12 249 RX12 yX12_wrong wsX12_wrong) := goodIn_app (goodIn_of _ (by decide +kernel)) ggX12_keep_X12_wrong
def lgX12_keep_106 : List (Nat × Instr × Nat) := [(0, .iload_n 2, 1), (1, .iconst 1, 1), (2, .bipush 99, 2), (4, .invokestatic 100, 3), (7, .ifCond .eq 11, 3), (10, .aload_n 0, 1), (11, .iload_n 1, 1), (12, .invokevirtual 249, 3), (15, .goto 4, 3), (18, .iconst (-1), 1), (19, .istore_n 3, 1), (20, .iload_n 3, 1), (21, .ifCond .eq 5, 3), (24, .iload_n 3, 1), (25, .ireturn, 1)]
theorem dgX12_keep_106 : ∀ q ∈ lgX12_keep_106, decode cX12_keep q.1 = .ok (q.2.1, q.2.2) := by decide +kernel
theorem dX12_keep_0 : decode cX12_keep 0 = .ok (.iload_n 2, 1) := dall dgX12_keep_106 0 rfl
theorem dX12_keep_1 : decode cX12_keep 1 = .ok (.iconst 1, 1) := dall dgX12_keep_106 1 rfl
theorem dX12_keep_2 : decode cX12_keep 2 = .ok (.bipush 99, 2) := dall dgX12_keep_106 2 rfl
theorem dX12_keep_4 : decode cX12_keep 4 = .ok (.invokestatic 100, 3) := dall dgX12_keep_106 3 rfl
theorem dX12_keep_7 : decode cX12_keep 7 = .ok (.ifCond .eq 11, 3) := dall dgX12_keep_106 4 rfl
theorem dX12_keep_10 : decode cX12_keep 10 = .ok (.aload_n 0, 1) := dall dgX12_keep_106 5 rfl
theorem dX12_keep_11 : decode cX12_keep 11 = .ok (.iload_n 1, 1) := dall dgX12_keep_106 6 rfl
theorem dX12_keep_12 : decode cX12_keep 12 = .ok (.invokevirtual 249, 3) := dall dgX12_keep_106 7 rfl
theorem dX12_keep_15 : decode cX12_keep 15 = .ok (.goto 4, 3) := dall dgX12_keep_106 8 rfl
theorem dX12_keep_18 : decode cX12_keep 18 = .ok (.iconst (-1), 1) := dall dgX12_keep_106 9 rfl
theorem dX12_keep_19 : decode cX12_keep 19 = .ok (.istore_n 3, 1) := dall dgX12_keep_106 10 rfl
theorem dX12_keep_20 : decode cX12_keep 20 = .ok (.iload_n 3, 1) := dall dgX12_keep_106 11 rfl
theorem dX12_keep_21 : decode cX12_keep 21 = .ok (.ifCond .eq 5, 3) := dall dgX12_keep_106 12 rfl
theorem dX12_keep_24 : decode cX12_keep 24 = .ok (.iload_n 3, 1) := dall dgX12_keep_106 13 rfl
theorem dX12_keep_25 : decode cX12_keep 25 = .ok (.ireturn, 1) := dall dgX12_keep_106 14 rfl
set_option maxRecDepth 20000 in
theorem ggX12_forget_X12_in : GoodIn wsX12_forget wsX12_in := goodIn_r _ [7] rfl (by decide +kernel)
set_option maxRecDepth 20000 in
theorem gX12_forget_X12_in : GoodIn wsX12_forget (va_wsS RX12 100 yX12_in wsX12_in) := goodIn_app (goodIn_of _ (by decide +kernel)) ggX12_forget_X12_in
def lgX12_forget_107 : List (Nat × Instr × Nat) := [(0, .iload_n 1, 1), (1, .iconst 0, 1), (2, .aload_n 0, 1), (3, .getfield 252, 3), (6, .iconst 1, 1), (7, .isub, 1), (8, .invokestatic 100, 3), (11, .ifCond .ne 5, 3), (14, .iconst (-1), 1), (15, .ireturn, 1)]
theorem dgX12_forget_107 : ∀ q ∈ lgX12_forget_107, decode cX12_forget q.1 = .ok (q.2.1, q.2.2) := by decide +kernel
theorem dX12_forget_0 : decode cX12_forget 0 = .ok (.iload_n 1, 1) := dall dgX12_forget_107 0 rfl
theorem dX12_forget_1 : decode cX12_forget 1 = .ok (.iconst 0, 1) := dall dgX12_forget_107 1 rfl
theorem dX12_forget_2 : decode cX12_forget 2 = .ok (.aload_n 0, 1) := dall dgX12_forget_107 2 rfl
theorem dX12_forget_3 : decode cX12_forget 3 = .ok (.getfield 252, 3) := dall dgX12_forget_107 3 rfl
theorem dX12_forget_6 : decode cX12_forget 6 = .ok (.iconst 1, 1) := dall dgX12_forget_107 4 rfl
theorem dX12_forget_7 : decode cX12_forget 7 = .ok (.isub, 1) := dall dgX12_forget_107 5 rfl
theorem dX12_forget_8 : decode cX12_forget 8 = .ok (.invokestatic 100, 3) := dall dgX12_forget_107 6 rfl
theorem dX12_forget_11 : decode cX12_forget 11 = .ok (.ifCond .ne 5, 3) := dall dgX12_forget_107 7 rfl
theorem dX12_forget_14 : decode cX12_forget 14 = .ok (.iconst (-1), 1) := dall dgX12_forget_107 8 rfl
theorem dX12_forget_15 : decode cX12_forget 15 = .ok (.ireturn, 1) := dall dgX12_forget_107 9 rfl
set_option maxRecDepth 20000 in
theorem ggX12_back_X12_in : GoodIn wsX12_back wsX12_in := goodIn_r _ [9] rfl (by decide +kernel)
set_option maxRecDepth 20000 in
theorem gX12_back_X12_in : GoodIn wsX12_back (va_wsS RX12 100 yX12_in wsX12_in) := goodIn_app (goodIn_of _ (by decide +kernel)) ggX12_back_X12_in
set_option maxRecDepth 20000 in
theorem ggX12_back_X12_wrong : GoodIn wsX12_back wsX12_wrong := goodIn_r _ [13, 14, 15, 6, 7, 8, 9, 16, 17, 18, 19, 20, 21, 22, 23, 24, 25, 26, 27, 28, 29, 30, 31, 32, 33, 34, 35, 36, 1, 37, 38, 39, 40, 41, 42, 43, 44, 45, 46, 47, 48, 49, 50, 51, 52, 53, 54, 55, 56, 57, 58, 59, 60, 61, 62, 63, 64, 65, 66, 67, 68, 69, 70, 71, 72, 73, 74, 75, 76, 77, 78, 79, 80, 81, 82, 83, 84, 85, 86, 87, 88, 89, 90, 91, 92, 93, 3, 94, 95, 96, 97, 98, 99, 100, 101, 102, 103, 104, 105, 106, 107, 108, 109, 110, 111, 112, 113, 114, 115, 116, 117, 118, 119, 120, 121, 122, 123, 124, 125, 126, 127, 128, 129, 130, 131, 132, 133, 134, 135, 136, 137, 138] rfl (by decide +kernel)
set_option maxRecDepth 20000 in
theorem gX12_back_X12_wrong : GoodIn wsX12_back (wsV RX12 249 RX12 yX12_wrong wsX12_wrong) := goodIn_app (goodIn_of _ (by decide +kernel)) ggX12_back_X12_wrong
def lgX12_back_108 : List (Nat × Instr × Nat) := [(0, .iload_n 2, 1), (1, .iconst 0, 1), (2, .iconst 1, 1), (3, .invokestatic 100, 3), (6, .ifCond .eq 11, 3), (9, .aload_n 0, 1), (10, .iload_n 1, 1), (11, .invokevirtual 249, 3), (14, .goto 4, 3), (17, .iconst (-1), 1), (18, .istore_n 3, 1), (19, .iload_n 3, 1), (20, .ifCond .eq 5, 3), (23, .iload_n 3, 1), (24, .ireturn, 1)]
theorem dgX12_back_108 : ∀ q ∈ lgX12_back_108, decode cX12_back q.1 = .ok (q.2.1, q.2.2) := by decide +kernel
theorem dX12_back_0 : decode cX12_back 0 = .ok (.iload_n 2, 1) := dall dgX12_back_108 0 rfl
theorem dX12_back_1 : decode cX12_back 1 = .ok (.iconst 0, 1) := dall dgX12_back_108 1 rfl
theorem dX12_back_2 : decode cX12_back 2 = .ok (.iconst 1, 1) := dall dgX12_back_108 2 rfl
theorem dX12_back_3 : decode cX12_back 3 = .ok (.invokestatic 100, 3) := dall dgX12_back_108 3 rfl
theorem dX12_back_6 : decode cX12_back 6 = .ok (.ifCond .eq 11, 3) := dall dgX12_back_108 4 rfl
theorem dX12_back_9 : decode cX12_back 9 = .ok (.aload_n 0, 1) := dall dgX12_back_108 5 rfl
theorem dX12_back_10 : decode cX12_back 10 = .ok (.iload_n 1, 1) := dall dgX12_back_108 6 rfl
theorem dX12_back_11 : decode cX12_back 11 = .ok (.invokevirtual 249, 3) := dall dgX12_back_108 7 rfl
theorem dX12_back_14 : decode cX12_back 14 = .ok (.goto 4, 3) := dall dgX12_back_108 8 rfl
theorem dX12_back_17 : decode cX12_back 17 = .ok (.iconst (-1), 1) := dall dgX12_back_108 9 rfl
theorem dX12_back_18 : decode cX12_back 18 = .ok (.istore_n 3, 1) := dall dgX12_back_108 10 rfl
theorem dX12_back_19 : decode cX12_back 19 = .ok (.iload_n 3, 1) := dall dgX12_back_108 11 rfl
theorem dX12_back_20 : decode cX12_back 20 = .ok (.ifCond .eq 5, 3) := dall dgX12_back_108 12 rfl
theorem dX12_back_23 : decode cX12_back 23 = .ok (.iload_n 3, 1) := dall dgX12_back_108 13 rfl
theorem dX12_back_24 : decode cX12_back 24 = .ok (.ireturn, 1) := dall dgX12_back_108 14 rfl
set_option maxRecDepth 20000 in
theorem ggX12_odds_X12_in : GoodIn wsX12_odds wsX12_in := goodIn_r _ [7] rfl (by decide +kernel)
set_option maxRecDepth 20000 in
theorem gX12_odds_X12_in : GoodIn wsX12_odds (va_wsS RX12 100 yX12_in wsX12_in) := goodIn_app (goodIn_of _ (by decide +kernel)) ggX12_odds_X12_in
def lgX12_odds_109 : List (Nat × Instr × Nat) := [(0, .iload_n 2, 1), (1, .iconst 0, 1), (2, .aload_n 0, 1), (3, .getfield 252, 3), (6, .iconst 1, 1), (7, .isub, 1), (8, .invokestatic 100, 3), (11, .ifCond .eq 20, 3), (31, .iconst (-1), 1), (32, .istore 4, 2), (34, .iload 4, 2), (36, .ifCond .eq 6, 3), (39, .iload 4, 2), (41, .ireturn, 1)]
theorem dgX12_odds_109 : ∀ q ∈ lgX12_odds_109, decode cX12_odds q.1 = .ok (q.2.1, q.2.2) := by decide +kernel
theorem dX12_odds_0 : decode cX12_odds 0 = .ok (.iload_n 2, 1) := dall dgX12_odds_109 0 rfl
theorem dX12_odds_1 : decode cX12_odds 1 = .ok (.iconst 0, 1) := dall dgX12_odds_109 1 rfl
theorem dX12_odds_2 : decode cX12_odds 2 = .ok (.aload_n 0, 1) := dall dgX12_odds_109 2 rfl
theorem dX12_odds_3 : decode cX12_odds 3 = .ok (.getfield 252, 3) := dall dgX12_odds_109 3 rfl
theorem dX12_odds_6 : decode cX12_odds 6 = .ok (.iconst 1, 1) := dall dgX12_odds_109 4 rfl
theorem dX12_odds_7 : decode cX12_odds 7 = .ok (.isub, 1) := dall dgX12_odds_109 5 rfl
theorem dX12_odds_8 : decode cX12_odds 8 = .ok (.invokestatic 100, 3) := dall dgX12_odds_109 6 rfl
theorem dX12_odds_11 : decode cX12_odds 11 = .ok (.ifCond .eq 20, 3) := dall dgX12_odds_109 7 rfl
theorem dX12_odds_31 : decode cX12_odds 31 = .ok (.iconst (-1), 1) := dall dgX12_odds_109 8 rfl
theorem dX12_odds_32 : decode cX12_odds 32 = .ok (.istore 4, 2) := dall dgX12_odds_109 9 rfl
theorem dX12_odds_34 : decode cX12_odds 34 = .ok (.iload 4, 2) := dall dgX12_odds_109 10 rfl
theorem dX12_odds_36 : decode cX12_odds 36 = .ok (.ifCond .eq 6, 3) := dall dgX12_odds_109 11 rfl
theorem dX12_odds_39 : decode cX12_odds 39 = .ok (.iload 4, 2) := dall dgX12_odds_109 12 rfl
theorem dX12_odds_41 : decode cX12_odds 41 = .ok (.ireturn, 1) := dall dgX12_odds_109 13 rfl
set_option maxRecDepth 20000 in
theorem ggX12_show_X12_findBest : GoodIn wsX12_show wsX12_findBest := goodIn_r _ [9, 10, 11, 12, 13, 14, 15, 16, 8, 17, 18, 19, 1, 20, 21, 22, 23, 24, 25, 26, 27, 28, 29, 30, 31, 32, 33, 34, 35, 36, 37, 38, 39, 40, 41, 42, 43, 44, 45, 46, 47, 48, 49, 50, 51, 52, 53, 54, 55, 56, 57, 58, 59, 60, 61, 62, 63, 64, 65, 66, 67, 68, 69, 70, 71, 72, 73, 74, 75, 76, 77, 78, 79, 80, 81, 82, 83, 84, 89, 90, 91, 92, 93, 94, 95, 96, 97, 98, 99, 100, 101, 102, 103, 104, 105, 106, 107, 108, 109, 110, 111, 112, 113, 114, 115, 116, 117, 118, 119, 120, 121, 122, 123, 124, 125, 126, 127, 128, 129, 130, 131, 132, 133] rfl (by decide +kernel)
set_option maxRecDepth 20000 in
theorem gX12_show_X12_findBest : GoodIn wsX12_show (wsV RX12 240 RX12 yX12_findBest wsX12_findBest) := goodIn_app (goodIn_of _ (by decide +kernel)) ggX12_show_X12_findBest
def lgX12_show_110 : List (Nat × Instr × Nat) := [(0, .aload_n 0, 1), (1, .invokevirtual 240, 3), (4, .ifCond .ne 6, 3), (10, .iconst 0, 1), (11, .istore_n 1, 1), (12, .iload_n 1, 1), (13, .aload_n 0, 1), (14, .getfield 156, 3), (17, .if_icmp .ge 20, 3), (37, .aload_n 0, 1), (38, .aload_n 0, 1), (39, .getfield 156, 3), (42, .putfield 264, 3), (45, .aload_n 0, 1), (46, .iconst 1, 1), (47, .putfield 174, 3), (50, .aload_n 0, 1), (51, .getfield 156, 3), (54, .ireturn, 1)]
theorem dgX12_show_110 : ∀ q ∈ lgX12_show_110, decode cX12_show q.1 = .ok (q.2.1, q.2.2) := by decide +kernel
theorem dX12_show_0 : decode cX12_show 0 = .ok (.aload_n 0, 1) := dall dgX12_show_110 0 rfl
theorem dX12_show_1 : decode cX12_show 1 = .ok (.invokevirtual 240, 3) := dall dgX12_show_110 1 rfl
theorem dX12_show_4 : decode cX12_show 4 = .ok (.ifCond .ne 6, 3) := dall dgX12_show_110 2 rfl
theorem dX12_show_10 : decode cX12_show 10 = .ok (.iconst 0, 1) := dall dgX12_show_110 3 rfl
theorem dX12_show_11 : decode cX12_show 11 = .ok (.istore_n 1, 1) := dall dgX12_show_110 4 rfl
theorem dX12_show_12 : decode cX12_show 12 = .ok (.iload_n 1, 1) := dall dgX12_show_110 5 rfl
theorem dX12_show_13 : decode cX12_show 13 = .ok (.aload_n 0, 1) := dall dgX12_show_110 6 rfl
theorem dX12_show_14 : decode cX12_show 14 = .ok (.getfield 156, 3) := dall dgX12_show_110 7 rfl
theorem dX12_show_17 : decode cX12_show 17 = .ok (.if_icmp .ge 20, 3) := dall dgX12_show_110 8 rfl
theorem dX12_show_37 : decode cX12_show 37 = .ok (.aload_n 0, 1) := dall dgX12_show_110 9 rfl
theorem dX12_show_38 : decode cX12_show 38 = .ok (.aload_n 0, 1) := dall dgX12_show_110 10 rfl
theorem dX12_show_39 : decode cX12_show 39 = .ok (.getfield 156, 3) := dall dgX12_show_110 11 rfl
theorem dX12_show_42 : decode cX12_show 42 = .ok (.putfield 264, 3) := dall dgX12_show_110 12 rfl
theorem dX12_show_45 : decode cX12_show 45 = .ok (.aload_n 0, 1) := dall dgX12_show_110 13 rfl
theorem dX12_show_46 : decode cX12_show 46 = .ok (.iconst 1, 1) := dall dgX12_show_110 14 rfl
theorem dX12_show_47 : decode cX12_show 47 = .ok (.putfield 174, 3) := dall dgX12_show_110 15 rfl
theorem dX12_show_50 : decode cX12_show 50 = .ok (.aload_n 0, 1) := dall dgX12_show_110 16 rfl
theorem dX12_show_51 : decode cX12_show 51 = .ok (.getfield 156, 3) := dall dgX12_show_110 17 rfl
theorem dX12_show_54 : decode cX12_show 54 = .ok (.ireturn, 1) := dall dgX12_show_110 18 rfl
def lgX12_otherwise_111 : List (Nat × Instr × Nat) := [(0, .aload_n 0, 1), (1, .getfield 174, 3), (4, .ifCond .eq 10, 3), (14, .bipush (-2), 2), (16, .ireturn, 1)]
theorem dgX12_otherwise_111 : ∀ q ∈ lgX12_otherwise_111, decode cX12_otherwise q.1 = .ok (q.2.1, q.2.2) := by decide +kernel
theorem dX12_otherwise_0 : decode cX12_otherwise 0 = .ok (.aload_n 0, 1) := dall dgX12_otherwise_111 0 rfl
theorem dX12_otherwise_1 : decode cX12_otherwise 1 = .ok (.getfield 174, 3) := dall dgX12_otherwise_111 1 rfl
theorem dX12_otherwise_4 : decode cX12_otherwise 4 = .ok (.ifCond .eq 10, 3) := dall dgX12_otherwise_111 2 rfl
theorem dX12_otherwise_14 : decode cX12_otherwise 14 = .ok (.bipush (-2), 2) := dall dgX12_otherwise_111 3 rfl
theorem dX12_otherwise_16 : decode cX12_otherwise 16 = .ok (.ireturn, 1) := dall dgX12_otherwise_111 4 rfl
set_option maxRecDepth 20000 in
theorem ggX12_word_X12_areRows : GoodIn wsX12_word wsX12_areRows := goodIn_r _ [8, 9, 10, 11, 12, 7, 13, 14, 15, 16, 17, 18, 19, 20, 21, 22, 23, 24, 25, 26, 27, 28, 29, 30, 31, 32, 33, 34, 35, 36, 37, 38, 39, 40, 41, 42, 43, 44, 45, 46, 47, 48, 49, 50, 51, 52, 53, 54, 55, 56, 57, 58, 59, 60, 61] rfl (by decide +kernel)
set_option maxRecDepth 20000 in
theorem gX12_word_X12_areRows : GoodIn wsX12_word (wsV RX12 167 RX12 yX12_areRows wsX12_areRows) := goodIn_app (goodIn_of _ (by decide +kernel)) ggX12_word_X12_areRows
def lgX12_word_112 : List (Nat × Instr × Nat) := [(0, .aload_n 0, 1), (1, .iload_n 1, 1), (2, .iload_n 2, 1), (3, .invokevirtual 167, 3), (6, .ifCond .ne 5, 3), (9, .iconst (-1), 1), (10, .ireturn, 1)]
theorem dgX12_word_112 : ∀ q ∈ lgX12_word_112, decode cX12_word q.1 = .ok (q.2.1, q.2.2) := by decide +kernel
theorem dX12_word_0 : decode cX12_word 0 = .ok (.aload_n 0, 1) := dall dgX12_word_112 0 rfl
theorem dX12_word_1 : decode cX12_word 1 = .ok (.iload_n 1, 1) := dall dgX12_word_112 1 rfl
theorem dX12_word_2 : decode cX12_word 2 = .ok (.iload_n 2, 1) := dall dgX12_word_112 2 rfl
theorem dX12_word_3 : decode cX12_word 3 = .ok (.invokevirtual 167, 3) := dall dgX12_word_112 3 rfl
theorem dX12_word_6 : decode cX12_word 6 = .ok (.ifCond .ne 5, 3) := dall dgX12_word_112 4 rfl
theorem dX12_word_9 : decode cX12_word 9 = .ok (.iconst (-1), 1) := dall dgX12_word_112 5 rfl
theorem dX12_word_10 : decode cX12_word 10 = .ok (.ireturn, 1) := dall dgX12_word_112 6 rfl
set_option maxRecDepth 20000 in
theorem ggX12_hung_X12_in : GoodIn wsX12_hung wsX12_in := goodIn_r _ [10] rfl (by decide +kernel)
set_option maxRecDepth 20000 in
theorem gX12_hung_X12_in : GoodIn wsX12_hung (va_wsS RX12 100 yX12_in wsX12_in) := goodIn_app (goodIn_of _ (by decide +kernel)) ggX12_hung_X12_in
def lgX12_hung_113 : List (Nat × Instr × Nat) := [(0, .iload_n 1, 1), (1, .iconst 0, 1), (2, .aload_n 0, 1), (3, .getfield 171, 3), (6, .iconst 1, 1), (7, .isub, 1), (8, .invokestatic 100, 3), (11, .ifCond .eq 12, 3), (23, .iconst (-1), 1), (24, .ireturn, 1)]
theorem dgX12_hung_113 : ∀ q ∈ lgX12_hung_113, decode cX12_hung q.1 = .ok (q.2.1, q.2.2) := by decide +kernel
theorem dX12_hung_0 : decode cX12_hung 0 = .ok (.iload_n 1, 1) := dall dgX12_hung_113 0 rfl
theorem dX12_hung_1 : decode cX12_hung 1 = .ok (.iconst 0, 1) := dall dgX12_hung_113 1 rfl
theorem dX12_hung_2 : decode cX12_hung 2 = .ok (.aload_n 0, 1) := dall dgX12_hung_113 2 rfl
theorem dX12_hung_3 : decode cX12_hung 3 = .ok (.getfield 171, 3) := dall dgX12_hung_113 3 rfl
theorem dX12_hung_6 : decode cX12_hung 6 = .ok (.iconst 1, 1) := dall dgX12_hung_113 4 rfl
theorem dX12_hung_7 : decode cX12_hung 7 = .ok (.isub, 1) := dall dgX12_hung_113 5 rfl
theorem dX12_hung_8 : decode cX12_hung 8 = .ok (.invokestatic 100, 3) := dall dgX12_hung_113 6 rfl
theorem dX12_hung_11 : decode cX12_hung 11 = .ok (.ifCond .eq 12, 3) := dall dgX12_hung_113 7 rfl
theorem dX12_hung_23 : decode cX12_hung 23 = .ok (.iconst (-1), 1) := dall dgX12_hung_113 8 rfl
theorem dX12_hung_24 : decode cX12_hung 24 = .ok (.ireturn, 1) := dall dgX12_hung_113 9 rfl
set_option maxRecDepth 20000 in
theorem ggX12_truth_X12_areRows : GoodIn wsX12_truth wsX12_areRows := goodIn_r _ [6, 7, 8, 9, 10, 5, 11, 12, 13, 14, 15, 16, 17, 18, 19, 20, 21, 22, 23, 24, 25, 26, 27, 28, 29, 30, 31, 32, 33, 34, 35, 36, 37, 38, 39, 40, 41, 42, 43, 44, 45, 46, 47, 48, 49, 50, 51, 52, 53, 54, 55, 56, 57, 58, 59] rfl (by decide +kernel)
set_option maxRecDepth 20000 in
theorem gX12_truth_X12_areRows : GoodIn wsX12_truth (wsV RX12 167 RX12 yX12_areRows wsX12_areRows) := goodIn_app (goodIn_of _ (by decide +kernel)) ggX12_truth_X12_areRows
def lgX12_truth_114 : List (Nat × Instr × Nat) := [(0, .aload_n 0, 1), (1, .iload_n 1, 1), (2, .iload_n 2, 1), (3, .invokevirtual 167, 3), (6, .ifCond .eq 12, 3), (18, .iconst (-1), 1), (19, .ireturn, 1)]
theorem dgX12_truth_114 : ∀ q ∈ lgX12_truth_114, decode cX12_truth q.1 = .ok (q.2.1, q.2.2) := by decide +kernel
theorem dX12_truth_0 : decode cX12_truth 0 = .ok (.aload_n 0, 1) := dall dgX12_truth_114 0 rfl
theorem dX12_truth_1 : decode cX12_truth 1 = .ok (.iload_n 1, 1) := dall dgX12_truth_114 1 rfl
theorem dX12_truth_2 : decode cX12_truth 2 = .ok (.iload_n 2, 1) := dall dgX12_truth_114 2 rfl
theorem dX12_truth_3 : decode cX12_truth 3 = .ok (.invokevirtual 167, 3) := dall dgX12_truth_114 3 rfl
theorem dX12_truth_6 : decode cX12_truth 6 = .ok (.ifCond .eq 12, 3) := dall dgX12_truth_114 4 rfl
theorem dX12_truth_18 : decode cX12_truth 18 = .ok (.iconst (-1), 1) := dall dgX12_truth_114 5 rfl
theorem dX12_truth_19 : decode cX12_truth 19 = .ok (.ireturn, 1) := dall dgX12_truth_114 6 rfl
def lgX12_mostRight_115 : List (Nat × Instr × Nat) := [(0, .iconst 0, 1), (1, .istore_n 1, 1), (2, .iload_n 1, 1), (3, .bipush 54, 2), (5, .if_icmp .ge 16, 3), (8, .aload_n 0, 1), (9, .getfield 93, 3), (12, .iload_n 1, 1), (13, .iconst 0, 1), (14, .iastore, 1), (15, .iinc 1 1, 3), (18, .goto (-16), 3), (21, .iconst 0, 1), (22, .istore_n 1, 1), (23, .iload_n 1, 1), (24, .aload_n 0, 1), (25, .getfield 156, 3), (28, .if_icmp .ge 53, 3), (81, .iconst 0, 1), (82, .istore_n 1, 1), (83, .iload_n 1, 1), (84, .sipush 512, 3), (87, .if_icmp .ge 16, 3), (90, .aload_n 0, 1), (91, .getfield 90, 3), (94, .iload_n 1, 1), (95, .iconst 0, 1), (96, .iastore, 1), (97, .iinc 1 1, 3), (100, .goto (-17), 3), (103, .iconst 1, 1), (104, .istore_n 1, 1), (105, .iload_n 1, 1), (106, .bipush 6, 2), (108, .if_icmp .ge 131, 3), (111, .iconst 0, 1), (112, .istore_n 2, 1), (113, .iload_n 2, 1), (114, .sipush 512, 3), (117, .if_icmp .ge 116, 3), (120, .aload_n 0, 1), (121, .getfield 90, 3), (124, .sipush 512, 3), (127, .iload_n 1, 1), (128, .iconst 1, 1), (129, .isub, 1), (130, .imul, 1), (131, .iload_n 2, 1), (132, .iadd, 1), (133, .iaload, 1)]
theorem dgX12_mostRight_115 : ∀ q ∈ lgX12_mostRight_115, decode cX12_mostRight q.1 = .ok (q.2.1, q.2.2) := by decide +kernel
theorem dX12_mostRight_0 : decode cX12_mostRight 0 = .ok (.iconst 0, 1) := dall dgX12_mostRight_115 0 rfl
theorem dX12_mostRight_1 : decode cX12_mostRight 1 = .ok (.istore_n 1, 1) := dall dgX12_mostRight_115 1 rfl
theorem dX12_mostRight_2 : decode cX12_mostRight 2 = .ok (.iload_n 1, 1) := dall dgX12_mostRight_115 2 rfl
theorem dX12_mostRight_3 : decode cX12_mostRight 3 = .ok (.bipush 54, 2) := dall dgX12_mostRight_115 3 rfl
theorem dX12_mostRight_5 : decode cX12_mostRight 5 = .ok (.if_icmp .ge 16, 3) := dall dgX12_mostRight_115 4 rfl
theorem dX12_mostRight_8 : decode cX12_mostRight 8 = .ok (.aload_n 0, 1) := dall dgX12_mostRight_115 5 rfl
theorem dX12_mostRight_9 : decode cX12_mostRight 9 = .ok (.getfield 93, 3) := dall dgX12_mostRight_115 6 rfl
theorem dX12_mostRight_12 : decode cX12_mostRight 12 = .ok (.iload_n 1, 1) := dall dgX12_mostRight_115 7 rfl
theorem dX12_mostRight_13 : decode cX12_mostRight 13 = .ok (.iconst 0, 1) := dall dgX12_mostRight_115 8 rfl
theorem dX12_mostRight_14 : decode cX12_mostRight 14 = .ok (.iastore, 1) := dall dgX12_mostRight_115 9 rfl
theorem dX12_mostRight_15 : decode cX12_mostRight 15 = .ok (.iinc 1 1, 3) := dall dgX12_mostRight_115 10 rfl
theorem dX12_mostRight_18 : decode cX12_mostRight 18 = .ok (.goto (-16), 3) := dall dgX12_mostRight_115 11 rfl
theorem dX12_mostRight_21 : decode cX12_mostRight 21 = .ok (.iconst 0, 1) := dall dgX12_mostRight_115 12 rfl
theorem dX12_mostRight_22 : decode cX12_mostRight 22 = .ok (.istore_n 1, 1) := dall dgX12_mostRight_115 13 rfl
theorem dX12_mostRight_23 : decode cX12_mostRight 23 = .ok (.iload_n 1, 1) := dall dgX12_mostRight_115 14 rfl
theorem dX12_mostRight_24 : decode cX12_mostRight 24 = .ok (.aload_n 0, 1) := dall dgX12_mostRight_115 15 rfl
theorem dX12_mostRight_25 : decode cX12_mostRight 25 = .ok (.getfield 156, 3) := dall dgX12_mostRight_115 16 rfl
theorem dX12_mostRight_28 : decode cX12_mostRight 28 = .ok (.if_icmp .ge 53, 3) := dall dgX12_mostRight_115 17 rfl
theorem dX12_mostRight_81 : decode cX12_mostRight 81 = .ok (.iconst 0, 1) := dall dgX12_mostRight_115 18 rfl
theorem dX12_mostRight_82 : decode cX12_mostRight 82 = .ok (.istore_n 1, 1) := dall dgX12_mostRight_115 19 rfl
theorem dX12_mostRight_83 : decode cX12_mostRight 83 = .ok (.iload_n 1, 1) := dall dgX12_mostRight_115 20 rfl
theorem dX12_mostRight_84 : decode cX12_mostRight 84 = .ok (.sipush 512, 3) := dall dgX12_mostRight_115 21 rfl
theorem dX12_mostRight_87 : decode cX12_mostRight 87 = .ok (.if_icmp .ge 16, 3) := dall dgX12_mostRight_115 22 rfl
theorem dX12_mostRight_90 : decode cX12_mostRight 90 = .ok (.aload_n 0, 1) := dall dgX12_mostRight_115 23 rfl
theorem dX12_mostRight_91 : decode cX12_mostRight 91 = .ok (.getfield 90, 3) := dall dgX12_mostRight_115 24 rfl
theorem dX12_mostRight_94 : decode cX12_mostRight 94 = .ok (.iload_n 1, 1) := dall dgX12_mostRight_115 25 rfl
theorem dX12_mostRight_95 : decode cX12_mostRight 95 = .ok (.iconst 0, 1) := dall dgX12_mostRight_115 26 rfl
theorem dX12_mostRight_96 : decode cX12_mostRight 96 = .ok (.iastore, 1) := dall dgX12_mostRight_115 27 rfl
theorem dX12_mostRight_97 : decode cX12_mostRight 97 = .ok (.iinc 1 1, 3) := dall dgX12_mostRight_115 28 rfl
theorem dX12_mostRight_100 : decode cX12_mostRight 100 = .ok (.goto (-17), 3) := dall dgX12_mostRight_115 29 rfl
theorem dX12_mostRight_103 : decode cX12_mostRight 103 = .ok (.iconst 1, 1) := dall dgX12_mostRight_115 30 rfl
theorem dX12_mostRight_104 : decode cX12_mostRight 104 = .ok (.istore_n 1, 1) := dall dgX12_mostRight_115 31 rfl
theorem dX12_mostRight_105 : decode cX12_mostRight 105 = .ok (.iload_n 1, 1) := dall dgX12_mostRight_115 32 rfl
theorem dX12_mostRight_106 : decode cX12_mostRight 106 = .ok (.bipush 6, 2) := dall dgX12_mostRight_115 33 rfl
theorem dX12_mostRight_108 : decode cX12_mostRight 108 = .ok (.if_icmp .ge 131, 3) := dall dgX12_mostRight_115 34 rfl
theorem dX12_mostRight_111 : decode cX12_mostRight 111 = .ok (.iconst 0, 1) := dall dgX12_mostRight_115 35 rfl
theorem dX12_mostRight_112 : decode cX12_mostRight 112 = .ok (.istore_n 2, 1) := dall dgX12_mostRight_115 36 rfl
theorem dX12_mostRight_113 : decode cX12_mostRight 113 = .ok (.iload_n 2, 1) := dall dgX12_mostRight_115 37 rfl
theorem dX12_mostRight_114 : decode cX12_mostRight 114 = .ok (.sipush 512, 3) := dall dgX12_mostRight_115 38 rfl
theorem dX12_mostRight_117 : decode cX12_mostRight 117 = .ok (.if_icmp .ge 116, 3) := dall dgX12_mostRight_115 39 rfl
theorem dX12_mostRight_120 : decode cX12_mostRight 120 = .ok (.aload_n 0, 1) := dall dgX12_mostRight_115 40 rfl
theorem dX12_mostRight_121 : decode cX12_mostRight 121 = .ok (.getfield 90, 3) := dall dgX12_mostRight_115 41 rfl
theorem dX12_mostRight_124 : decode cX12_mostRight 124 = .ok (.sipush 512, 3) := dall dgX12_mostRight_115 42 rfl
theorem dX12_mostRight_127 : decode cX12_mostRight 127 = .ok (.iload_n 1, 1) := dall dgX12_mostRight_115 43 rfl
theorem dX12_mostRight_128 : decode cX12_mostRight 128 = .ok (.iconst 1, 1) := dall dgX12_mostRight_115 44 rfl
theorem dX12_mostRight_129 : decode cX12_mostRight 129 = .ok (.isub, 1) := dall dgX12_mostRight_115 45 rfl
theorem dX12_mostRight_130 : decode cX12_mostRight 130 = .ok (.imul, 1) := dall dgX12_mostRight_115 46 rfl
theorem dX12_mostRight_131 : decode cX12_mostRight 131 = .ok (.iload_n 2, 1) := dall dgX12_mostRight_115 47 rfl
theorem dX12_mostRight_132 : decode cX12_mostRight 132 = .ok (.iadd, 1) := dall dgX12_mostRight_115 48 rfl
theorem dX12_mostRight_133 : decode cX12_mostRight 133 = .ok (.iaload, 1) := dall dgX12_mostRight_115 49 rfl
def lgX12_mostRight_116 : List (Nat × Instr × Nat) := [(134, .istore_n 3, 1), (135, .iconst 0, 1), (136, .istore 4, 2), (138, .iload 4, 2), (140, .bipush 9, 2), (142, .if_icmp .ge 72, 3), (145, .iload_n 2, 1), (146, .iload 4, 2), (148, .ishr, 1), (149, .iconst 1, 1), (150, .iand, 1), (151, .iconst 1, 1), (152, .if_icmp .ne 40, 3), (155, .aload_n 0, 1), (156, .getfield 90, 3), (159, .sipush 512, 3), (162, .iload_n 1, 1), (163, .iconst 1, 1), (164, .isub, 1), (165, .imul, 1), (166, .iload_n 2, 1), (167, .iconst 1, 1), (168, .iload 4, 2), (170, .ishl, 1), (171, .iconst (-1), 1), (172, .ixor, 1), (173, .iand, 1), (174, .iadd, 1), (175, .iaload, 1), (176, .aload_n 0, 1), (177, .getfield 93, 3), (180, .bipush 9, 2), (182, .iload_n 1, 1), (183, .imul, 1), (184, .iload 4, 2), (186, .iadd, 1), (187, .iaload, 1), (188, .iadd, 1), (189, .goto 4, 3), (192, .iconst 0, 1), (193, .istore 5, 2), (195, .iload 5, 2), (197, .iload_n 3, 1), (198, .if_icmp .le 8, 3), (206, .iload_n 3, 1), (207, .istore_n 3, 1), (208, .iinc 4 1, 3), (211, .goto (-73), 3), (214, .aload_n 0, 1), (215, .getfield 90, 3)]
theorem dgX12_mostRight_116 : ∀ q ∈ lgX12_mostRight_116, decode cX12_mostRight q.1 = .ok (q.2.1, q.2.2) := by decide +kernel
theorem dX12_mostRight_134 : decode cX12_mostRight 134 = .ok (.istore_n 3, 1) := dall dgX12_mostRight_116 0 rfl
theorem dX12_mostRight_135 : decode cX12_mostRight 135 = .ok (.iconst 0, 1) := dall dgX12_mostRight_116 1 rfl
theorem dX12_mostRight_136 : decode cX12_mostRight 136 = .ok (.istore 4, 2) := dall dgX12_mostRight_116 2 rfl
theorem dX12_mostRight_138 : decode cX12_mostRight 138 = .ok (.iload 4, 2) := dall dgX12_mostRight_116 3 rfl
theorem dX12_mostRight_140 : decode cX12_mostRight 140 = .ok (.bipush 9, 2) := dall dgX12_mostRight_116 4 rfl
theorem dX12_mostRight_142 : decode cX12_mostRight 142 = .ok (.if_icmp .ge 72, 3) := dall dgX12_mostRight_116 5 rfl
theorem dX12_mostRight_145 : decode cX12_mostRight 145 = .ok (.iload_n 2, 1) := dall dgX12_mostRight_116 6 rfl
theorem dX12_mostRight_146 : decode cX12_mostRight 146 = .ok (.iload 4, 2) := dall dgX12_mostRight_116 7 rfl
theorem dX12_mostRight_148 : decode cX12_mostRight 148 = .ok (.ishr, 1) := dall dgX12_mostRight_116 8 rfl
theorem dX12_mostRight_149 : decode cX12_mostRight 149 = .ok (.iconst 1, 1) := dall dgX12_mostRight_116 9 rfl
theorem dX12_mostRight_150 : decode cX12_mostRight 150 = .ok (.iand, 1) := dall dgX12_mostRight_116 10 rfl
theorem dX12_mostRight_151 : decode cX12_mostRight 151 = .ok (.iconst 1, 1) := dall dgX12_mostRight_116 11 rfl
theorem dX12_mostRight_152 : decode cX12_mostRight 152 = .ok (.if_icmp .ne 40, 3) := dall dgX12_mostRight_116 12 rfl
theorem dX12_mostRight_155 : decode cX12_mostRight 155 = .ok (.aload_n 0, 1) := dall dgX12_mostRight_116 13 rfl
theorem dX12_mostRight_156 : decode cX12_mostRight 156 = .ok (.getfield 90, 3) := dall dgX12_mostRight_116 14 rfl
theorem dX12_mostRight_159 : decode cX12_mostRight 159 = .ok (.sipush 512, 3) := dall dgX12_mostRight_116 15 rfl
theorem dX12_mostRight_162 : decode cX12_mostRight 162 = .ok (.iload_n 1, 1) := dall dgX12_mostRight_116 16 rfl
theorem dX12_mostRight_163 : decode cX12_mostRight 163 = .ok (.iconst 1, 1) := dall dgX12_mostRight_116 17 rfl
theorem dX12_mostRight_164 : decode cX12_mostRight 164 = .ok (.isub, 1) := dall dgX12_mostRight_116 18 rfl
theorem dX12_mostRight_165 : decode cX12_mostRight 165 = .ok (.imul, 1) := dall dgX12_mostRight_116 19 rfl
theorem dX12_mostRight_166 : decode cX12_mostRight 166 = .ok (.iload_n 2, 1) := dall dgX12_mostRight_116 20 rfl
theorem dX12_mostRight_167 : decode cX12_mostRight 167 = .ok (.iconst 1, 1) := dall dgX12_mostRight_116 21 rfl
theorem dX12_mostRight_168 : decode cX12_mostRight 168 = .ok (.iload 4, 2) := dall dgX12_mostRight_116 22 rfl
theorem dX12_mostRight_170 : decode cX12_mostRight 170 = .ok (.ishl, 1) := dall dgX12_mostRight_116 23 rfl
theorem dX12_mostRight_171 : decode cX12_mostRight 171 = .ok (.iconst (-1), 1) := dall dgX12_mostRight_116 24 rfl
theorem dX12_mostRight_172 : decode cX12_mostRight 172 = .ok (.ixor, 1) := dall dgX12_mostRight_116 25 rfl
theorem dX12_mostRight_173 : decode cX12_mostRight 173 = .ok (.iand, 1) := dall dgX12_mostRight_116 26 rfl
theorem dX12_mostRight_174 : decode cX12_mostRight 174 = .ok (.iadd, 1) := dall dgX12_mostRight_116 27 rfl
theorem dX12_mostRight_175 : decode cX12_mostRight 175 = .ok (.iaload, 1) := dall dgX12_mostRight_116 28 rfl
theorem dX12_mostRight_176 : decode cX12_mostRight 176 = .ok (.aload_n 0, 1) := dall dgX12_mostRight_116 29 rfl
theorem dX12_mostRight_177 : decode cX12_mostRight 177 = .ok (.getfield 93, 3) := dall dgX12_mostRight_116 30 rfl
theorem dX12_mostRight_180 : decode cX12_mostRight 180 = .ok (.bipush 9, 2) := dall dgX12_mostRight_116 31 rfl
theorem dX12_mostRight_182 : decode cX12_mostRight 182 = .ok (.iload_n 1, 1) := dall dgX12_mostRight_116 32 rfl
theorem dX12_mostRight_183 : decode cX12_mostRight 183 = .ok (.imul, 1) := dall dgX12_mostRight_116 33 rfl
theorem dX12_mostRight_184 : decode cX12_mostRight 184 = .ok (.iload 4, 2) := dall dgX12_mostRight_116 34 rfl
theorem dX12_mostRight_186 : decode cX12_mostRight 186 = .ok (.iadd, 1) := dall dgX12_mostRight_116 35 rfl
theorem dX12_mostRight_187 : decode cX12_mostRight 187 = .ok (.iaload, 1) := dall dgX12_mostRight_116 36 rfl
theorem dX12_mostRight_188 : decode cX12_mostRight 188 = .ok (.iadd, 1) := dall dgX12_mostRight_116 37 rfl
theorem dX12_mostRight_189 : decode cX12_mostRight 189 = .ok (.goto 4, 3) := dall dgX12_mostRight_116 38 rfl
theorem dX12_mostRight_192 : decode cX12_mostRight 192 = .ok (.iconst 0, 1) := dall dgX12_mostRight_116 39 rfl
theorem dX12_mostRight_193 : decode cX12_mostRight 193 = .ok (.istore 5, 2) := dall dgX12_mostRight_116 40 rfl
theorem dX12_mostRight_195 : decode cX12_mostRight 195 = .ok (.iload 5, 2) := dall dgX12_mostRight_116 41 rfl
theorem dX12_mostRight_197 : decode cX12_mostRight 197 = .ok (.iload_n 3, 1) := dall dgX12_mostRight_116 42 rfl
theorem dX12_mostRight_198 : decode cX12_mostRight 198 = .ok (.if_icmp .le 8, 3) := dall dgX12_mostRight_116 43 rfl
theorem dX12_mostRight_206 : decode cX12_mostRight 206 = .ok (.iload_n 3, 1) := dall dgX12_mostRight_116 44 rfl
theorem dX12_mostRight_207 : decode cX12_mostRight 207 = .ok (.istore_n 3, 1) := dall dgX12_mostRight_116 45 rfl
theorem dX12_mostRight_208 : decode cX12_mostRight 208 = .ok (.iinc 4 1, 3) := dall dgX12_mostRight_116 46 rfl
theorem dX12_mostRight_211 : decode cX12_mostRight 211 = .ok (.goto (-73), 3) := dall dgX12_mostRight_116 47 rfl
theorem dX12_mostRight_214 : decode cX12_mostRight 214 = .ok (.aload_n 0, 1) := dall dgX12_mostRight_116 48 rfl
theorem dX12_mostRight_215 : decode cX12_mostRight 215 = .ok (.getfield 90, 3) := dall dgX12_mostRight_116 49 rfl
def lgX12_mostRight_117 : List (Nat × Instr × Nat) := [(218, .sipush 512, 3), (221, .iload_n 1, 1), (222, .imul, 1), (223, .iload_n 2, 1), (224, .iadd, 1), (225, .iload_n 3, 1), (226, .iastore, 1), (227, .iinc 2 1, 3), (230, .goto (-117), 3), (233, .iinc 1 1, 3), (236, .goto (-131), 3), (239, .aload_n 0, 1), (240, .getfield 90, 3), (243, .sipush 3071, 3), (246, .iaload, 1), (247, .ireturn, 1)]
theorem dgX12_mostRight_117 : ∀ q ∈ lgX12_mostRight_117, decode cX12_mostRight q.1 = .ok (q.2.1, q.2.2) := by decide +kernel
theorem dX12_mostRight_218 : decode cX12_mostRight 218 = .ok (.sipush 512, 3) := dall dgX12_mostRight_117 0 rfl
theorem dX12_mostRight_221 : decode cX12_mostRight 221 = .ok (.iload_n 1, 1) := dall dgX12_mostRight_117 1 rfl
theorem dX12_mostRight_222 : decode cX12_mostRight 222 = .ok (.imul, 1) := dall dgX12_mostRight_117 2 rfl
theorem dX12_mostRight_223 : decode cX12_mostRight 223 = .ok (.iload_n 2, 1) := dall dgX12_mostRight_117 3 rfl
theorem dX12_mostRight_224 : decode cX12_mostRight 224 = .ok (.iadd, 1) := dall dgX12_mostRight_117 4 rfl
theorem dX12_mostRight_225 : decode cX12_mostRight 225 = .ok (.iload_n 3, 1) := dall dgX12_mostRight_117 5 rfl
theorem dX12_mostRight_226 : decode cX12_mostRight 226 = .ok (.iastore, 1) := dall dgX12_mostRight_117 6 rfl
theorem dX12_mostRight_227 : decode cX12_mostRight 227 = .ok (.iinc 2 1, 3) := dall dgX12_mostRight_117 7 rfl
theorem dX12_mostRight_230 : decode cX12_mostRight 230 = .ok (.goto (-117), 3) := dall dgX12_mostRight_117 8 rfl
theorem dX12_mostRight_233 : decode cX12_mostRight 233 = .ok (.iinc 1 1, 3) := dall dgX12_mostRight_117 9 rfl
theorem dX12_mostRight_236 : decode cX12_mostRight 236 = .ok (.goto (-131), 3) := dall dgX12_mostRight_117 10 rfl
theorem dX12_mostRight_239 : decode cX12_mostRight 239 = .ok (.aload_n 0, 1) := dall dgX12_mostRight_117 11 rfl
theorem dX12_mostRight_240 : decode cX12_mostRight 240 = .ok (.getfield 90, 3) := dall dgX12_mostRight_117 12 rfl
theorem dX12_mostRight_243 : decode cX12_mostRight 243 = .ok (.sipush 3071, 3) := dall dgX12_mostRight_117 13 rfl
theorem dX12_mostRight_246 : decode cX12_mostRight 246 = .ok (.iaload, 1) := dall dgX12_mostRight_117 14 rfl
theorem dX12_mostRight_247 : decode cX12_mostRight 247 = .ok (.ireturn, 1) := dall dgX12_mostRight_117 15 rfl
set_option maxRecDepth 20000 in
theorem ggX12_errors_X12_in : GoodIn wsX12_errors wsX12_in := goodIn_r _ [7] rfl (by decide +kernel)
set_option maxRecDepth 20000 in
theorem gX12_errors_X12_in : GoodIn wsX12_errors (va_wsS RX12 100 yX12_in wsX12_in) := goodIn_app (goodIn_of _ (by decide +kernel)) ggX12_errors_X12_in
set_option maxRecDepth 20000 in
theorem ggX12_errors_X12_findPieces : GoodIn wsX12_errors wsX12_findPieces := goodIn_r _ [11, 12, 13, 14, 1, 2, 15, 16, 17, 6, 18, 19, 20, 21, 22, 23, 24, 25, 26, 27, 28, 29, 30, 31, 32, 33, 34, 35, 36, 37, 38, 39, 4, 5, 7, 40, 41, 42, 43, 44, 93, 94, 95, 96, 97, 98, 99, 100, 101, 102, 103, 104, 105, 106, 107, 108, 109, 110, 111, 112, 113, 114, 115, 116, 117, 118, 119, 120, 121, 122, 123, 124, 125, 126, 127, 128, 129, 130, 131, 132, 133, 134, 135, 136, 137] rfl (by decide +kernel)
set_option maxRecDepth 20000 in
theorem gX12_errors_X12_findPieces : GoodIn wsX12_errors (wsV RX12 203 RX12 yX12_findPieces wsX12_findPieces) := goodIn_app (goodIn_of _ (by decide +kernel)) ggX12_errors_X12_findPieces
set_option maxRecDepth 20000 in
theorem ggX12_errors_X12_findBest : GoodIn wsX12_errors wsX12_findBest := goodIn_r _ [48, 12, 49, 50, 51, 8, 9, 10, 6, 11, 13, 14, 1, 2, 15, 16, 17, 18, 19, 20, 21, 22, 23, 24, 25, 26, 27, 28, 29, 30, 31, 32, 33, 34, 35, 36, 37, 38, 39, 4, 5, 7, 40, 41, 42, 43, 44, 52, 53, 54, 55, 56, 57, 58, 59, 60, 61, 62, 63, 64, 65, 66, 67, 68, 69, 70, 71, 72, 73, 74, 75, 76, 77, 78, 79, 80, 81, 82, 93, 94, 95, 96, 97, 98, 99, 100, 101, 102, 103, 104, 105, 106, 107, 108, 109, 110, 111, 112, 113, 114, 115, 116, 117, 118, 119, 120, 121, 122, 123, 124, 125, 126, 127, 128, 129, 130, 131, 132, 133, 134, 135, 136, 137] rfl (by decide +kernel)
set_option maxRecDepth 20000 in
theorem gX12_errors_X12_findBest : GoodIn wsX12_errors (wsV RX12 240 RX12 yX12_findBest wsX12_findBest) := goodIn_app (goodIn_of _ (by decide +kernel)) ggX12_errors_X12_findBest
set_option maxRecDepth 20000 in
theorem ggX12_errors_X12_mostRight : GoodIn wsX12_errors wsX12_mostRight := goodIn_r _ [86, 87, 1, 2, 3, 88, 89, 90, 91, 6, 92, 51, 93, 94, 95, 96, 97, 98, 99, 100, 101, 102, 103, 104, 105, 106, 107, 108, 109, 110, 111, 112, 113, 114, 115, 116, 117, 118, 119, 120, 121, 122, 123, 124, 125, 126, 127, 128, 129, 130, 131, 132, 133, 134, 135, 136, 137] rfl (by decide +kernel)
set_option maxRecDepth 20000 in
theorem gX12_errors_X12_mostRight : GoodIn wsX12_errors (wsV RX12 267 RX12 yX12_mostRight wsX12_mostRight) := goodIn_app (goodIn_of _ (by decide +kernel)) ggX12_errors_X12_mostRight
def lgX12_errors_118 : List (Nat × Instr × Nat) := [(0, .iload_n 1, 1), (1, .iconst 0, 1), (2, .iconst 2, 1), (3, .invokestatic 100, 3), (6, .ifCond .ne 5, 3), (9, .iconst (-1), 1), (10, .ireturn, 1), (11, .aload_n 0, 1), (12, .invokevirtual 203, 3), (15, .iconst 0, 1), (16, .istore_n 2, 1), (17, .iconst 0, 1), (18, .istore_n 3, 1), (19, .iconst 0, 1), (20, .istore 4, 2), (22, .iconst 0, 1), (23, .istore 5, 2), (25, .iload 5, 2), (27, .aload_n 0, 1), (28, .getfield 156, 3), (31, .if_icmp .ge 99, 3), (130, .iload_n 1, 1), (131, .iconst 2, 1), (132, .if_icmp .ge 13, 3), (135, .iload_n 1, 1), (136, .ifCond .ne 7, 3), (139, .iload_n 2, 1), (140, .goto 4, 3), (143, .iload_n 3, 1), (144, .ireturn, 1), (145, .aload_n 0, 1), (146, .invokevirtual 240, 3), (149, .ifCond .eq 13, 3), (152, .iload 4, 2), (154, .aload_n 0, 1), (155, .invokevirtual 267, 3), (158, .isub, 1), (159, .goto 5, 3), (164, .ireturn, 1)]
theorem dgX12_errors_118 : ∀ q ∈ lgX12_errors_118, decode cX12_errors q.1 = .ok (q.2.1, q.2.2) := by decide +kernel
theorem dX12_errors_0 : decode cX12_errors 0 = .ok (.iload_n 1, 1) := dall dgX12_errors_118 0 rfl
theorem dX12_errors_1 : decode cX12_errors 1 = .ok (.iconst 0, 1) := dall dgX12_errors_118 1 rfl
theorem dX12_errors_2 : decode cX12_errors 2 = .ok (.iconst 2, 1) := dall dgX12_errors_118 2 rfl
theorem dX12_errors_3 : decode cX12_errors 3 = .ok (.invokestatic 100, 3) := dall dgX12_errors_118 3 rfl
theorem dX12_errors_6 : decode cX12_errors 6 = .ok (.ifCond .ne 5, 3) := dall dgX12_errors_118 4 rfl
theorem dX12_errors_9 : decode cX12_errors 9 = .ok (.iconst (-1), 1) := dall dgX12_errors_118 5 rfl
theorem dX12_errors_10 : decode cX12_errors 10 = .ok (.ireturn, 1) := dall dgX12_errors_118 6 rfl
theorem dX12_errors_11 : decode cX12_errors 11 = .ok (.aload_n 0, 1) := dall dgX12_errors_118 7 rfl
theorem dX12_errors_12 : decode cX12_errors 12 = .ok (.invokevirtual 203, 3) := dall dgX12_errors_118 8 rfl
theorem dX12_errors_15 : decode cX12_errors 15 = .ok (.iconst 0, 1) := dall dgX12_errors_118 9 rfl
theorem dX12_errors_16 : decode cX12_errors 16 = .ok (.istore_n 2, 1) := dall dgX12_errors_118 10 rfl
theorem dX12_errors_17 : decode cX12_errors 17 = .ok (.iconst 0, 1) := dall dgX12_errors_118 11 rfl
theorem dX12_errors_18 : decode cX12_errors 18 = .ok (.istore_n 3, 1) := dall dgX12_errors_118 12 rfl
theorem dX12_errors_19 : decode cX12_errors 19 = .ok (.iconst 0, 1) := dall dgX12_errors_118 13 rfl
theorem dX12_errors_20 : decode cX12_errors 20 = .ok (.istore 4, 2) := dall dgX12_errors_118 14 rfl
theorem dX12_errors_22 : decode cX12_errors 22 = .ok (.iconst 0, 1) := dall dgX12_errors_118 15 rfl
theorem dX12_errors_23 : decode cX12_errors 23 = .ok (.istore 5, 2) := dall dgX12_errors_118 16 rfl
theorem dX12_errors_25 : decode cX12_errors 25 = .ok (.iload 5, 2) := dall dgX12_errors_118 17 rfl
theorem dX12_errors_27 : decode cX12_errors 27 = .ok (.aload_n 0, 1) := dall dgX12_errors_118 18 rfl
theorem dX12_errors_28 : decode cX12_errors 28 = .ok (.getfield 156, 3) := dall dgX12_errors_118 19 rfl
theorem dX12_errors_31 : decode cX12_errors 31 = .ok (.if_icmp .ge 99, 3) := dall dgX12_errors_118 20 rfl
theorem dX12_errors_130 : decode cX12_errors 130 = .ok (.iload_n 1, 1) := dall dgX12_errors_118 21 rfl
theorem dX12_errors_131 : decode cX12_errors 131 = .ok (.iconst 2, 1) := dall dgX12_errors_118 22 rfl
theorem dX12_errors_132 : decode cX12_errors 132 = .ok (.if_icmp .ge 13, 3) := dall dgX12_errors_118 23 rfl
theorem dX12_errors_135 : decode cX12_errors 135 = .ok (.iload_n 1, 1) := dall dgX12_errors_118 24 rfl
theorem dX12_errors_136 : decode cX12_errors 136 = .ok (.ifCond .ne 7, 3) := dall dgX12_errors_118 25 rfl
theorem dX12_errors_139 : decode cX12_errors 139 = .ok (.iload_n 2, 1) := dall dgX12_errors_118 26 rfl
theorem dX12_errors_140 : decode cX12_errors 140 = .ok (.goto 4, 3) := dall dgX12_errors_118 27 rfl
theorem dX12_errors_143 : decode cX12_errors 143 = .ok (.iload_n 3, 1) := dall dgX12_errors_118 28 rfl
theorem dX12_errors_144 : decode cX12_errors 144 = .ok (.ireturn, 1) := dall dgX12_errors_118 29 rfl
theorem dX12_errors_145 : decode cX12_errors 145 = .ok (.aload_n 0, 1) := dall dgX12_errors_118 30 rfl
theorem dX12_errors_146 : decode cX12_errors 146 = .ok (.invokevirtual 240, 3) := dall dgX12_errors_118 31 rfl
theorem dX12_errors_149 : decode cX12_errors 149 = .ok (.ifCond .eq 13, 3) := dall dgX12_errors_118 32 rfl
theorem dX12_errors_152 : decode cX12_errors 152 = .ok (.iload 4, 2) := dall dgX12_errors_118 33 rfl
theorem dX12_errors_154 : decode cX12_errors 154 = .ok (.aload_n 0, 1) := dall dgX12_errors_118 34 rfl
theorem dX12_errors_155 : decode cX12_errors 155 = .ok (.invokevirtual 267, 3) := dall dgX12_errors_118 35 rfl
theorem dX12_errors_158 : decode cX12_errors 158 = .ok (.isub, 1) := dall dgX12_errors_118 36 rfl
theorem dX12_errors_159 : decode cX12_errors 159 = .ok (.goto 5, 3) := dall dgX12_errors_118 37 rfl
theorem dX12_errors_164 : decode cX12_errors 164 = .ok (.ireturn, 1) := dall dgX12_errors_118 38 rfl
set_option maxRecDepth 20000 in
theorem ggX12_weight_X12_findPieces : GoodIn wsX12_weight wsX12_findPieces := goodIn_r _ [17, 18, 19, 20, 21, 22, 23, 24, 25, 16, 26, 27, 28, 29, 30, 31, 32, 33, 34, 35, 36, 37, 38, 1, 3, 2, 39, 40, 41, 42, 43, 44, 45, 46, 47, 48, 49, 50, 51, 52, 57, 58, 59, 60, 61, 62, 63, 64, 65, 66, 67, 68, 69, 70, 71, 72, 73, 74, 75, 76, 77, 78, 79, 80, 81, 82, 83, 84, 85, 86, 87, 88, 89, 90, 91, 92, 93, 94, 95, 96, 97, 98, 99, 100, 101] rfl (by decide +kernel)
set_option maxRecDepth 20000 in
theorem gX12_weight_X12_findPieces : GoodIn wsX12_weight (wsV RX12 203 RX12 yX12_findPieces wsX12_findPieces) := goodIn_app (goodIn_of _ (by decide +kernel)) ggX12_weight_X12_findPieces
set_option maxRecDepth 20000 in
theorem ggX12_weight_X12_in : GoodIn wsX12_weight wsX12_in := goodIn_r _ [47] rfl (by decide +kernel)
set_option maxRecDepth 20000 in
theorem gX12_weight_X12_in : GoodIn wsX12_weight (va_wsS RX12 100 yX12_in wsX12_in) := goodIn_app (goodIn_of _ (by decide +kernel)) ggX12_weight_X12_in
set_option maxRecDepth 20000 in
theorem ggX12_weight_X12_isPiece : GoodIn wsX12_weight wsX12_isPiece := goodIn_r _ [56, 18, 45, 46, 16, 47, 57, 58, 59, 60, 61, 62, 63, 64, 65, 66, 67, 68, 69, 70, 71, 72, 73, 74, 75, 76, 77, 78, 79, 80, 81, 82, 83, 84, 85, 86, 87, 88, 89, 90, 91, 92, 93, 94, 95, 96, 97, 98, 99, 100, 101] rfl (by decide +kernel)
set_option maxRecDepth 20000 in
theorem gX12_weight_X12_isPiece : GoodIn wsX12_weight (wsV RX12 206 RX12 yX12_isPiece wsX12_isPiece) := goodIn_app (goodIn_of _ (by decide +kernel)) ggX12_weight_X12_isPiece
def lgX12_weight_119 : List (Nat × Instr × Nat) := [(0, .aload_n 0, 1), (1, .invokevirtual 203, 3), (4, .iload_n 1, 1), (5, .iconst 0, 1), (6, .bipush 7, 2), (8, .invokestatic 100, 3), (11, .ifCond .eq 11, 3), (14, .aload_n 0, 1), (15, .iload_n 2, 1), (16, .invokevirtual 206, 3), (19, .ifCond .ne 5, 3), (22, .iconst (-1), 1), (23, .ireturn, 1)]
theorem dgX12_weight_119 : ∀ q ∈ lgX12_weight_119, decode cX12_weight q.1 = .ok (q.2.1, q.2.2) := by decide +kernel
theorem dX12_weight_0 : decode cX12_weight 0 = .ok (.aload_n 0, 1) := dall dgX12_weight_119 0 rfl
theorem dX12_weight_1 : decode cX12_weight 1 = .ok (.invokevirtual 203, 3) := dall dgX12_weight_119 1 rfl
theorem dX12_weight_4 : decode cX12_weight 4 = .ok (.iload_n 1, 1) := dall dgX12_weight_119 2 rfl
theorem dX12_weight_5 : decode cX12_weight 5 = .ok (.iconst 0, 1) := dall dgX12_weight_119 3 rfl
theorem dX12_weight_6 : decode cX12_weight 6 = .ok (.bipush 7, 2) := dall dgX12_weight_119 4 rfl
theorem dX12_weight_8 : decode cX12_weight 8 = .ok (.invokestatic 100, 3) := dall dgX12_weight_119 5 rfl
theorem dX12_weight_11 : decode cX12_weight 11 = .ok (.ifCond .eq 11, 3) := dall dgX12_weight_119 6 rfl
theorem dX12_weight_14 : decode cX12_weight 14 = .ok (.aload_n 0, 1) := dall dgX12_weight_119 7 rfl
theorem dX12_weight_15 : decode cX12_weight 15 = .ok (.iload_n 2, 1) := dall dgX12_weight_119 8 rfl
theorem dX12_weight_16 : decode cX12_weight 16 = .ok (.invokevirtual 206, 3) := dall dgX12_weight_119 9 rfl
theorem dX12_weight_19 : decode cX12_weight 19 = .ok (.ifCond .ne 5, 3) := dall dgX12_weight_119 10 rfl
theorem dX12_weight_22 : decode cX12_weight 22 = .ok (.iconst (-1), 1) := dall dgX12_weight_119 11 rfl
theorem dX12_weight_23 : decode cX12_weight 23 = .ok (.ireturn, 1) := dall dgX12_weight_119 12 rfl
def lgX12_count_120 : List (Nat × Instr × Nat) := [(0, .iconst 0, 1), (1, .istore_n 2, 1), (2, .iload_n 1, 1), (3, .tableswitch 127 0 5 #[37, 42, 77, 112, 117, 122], 37), (40, .aload_n 0, 1), (41, .getfield 156, 3), (44, .ireturn, 1), (45, .iconst 0, 1), (46, .istore_n 3, 1), (47, .iload_n 3, 1), (48, .aload_n 0, 1), (49, .getfield 156, 3), (52, .if_icmp .ge 26, 3), (78, .iload_n 2, 1), (79, .ireturn, 1), (80, .iconst 0, 1), (81, .istore_n 3, 1), (82, .iload_n 3, 1), (83, .aload_n 0, 1), (84, .getfield 156, 3), (87, .if_icmp .ge 26, 3), (113, .iload_n 2, 1), (114, .ireturn, 1), (115, .aload_n 0, 1), (116, .getfield 252, 3), (119, .ireturn, 1), (120, .aload_n 0, 1), (121, .getfield 171, 3), (124, .ireturn, 1), (125, .aload_n 0, 1), (126, .getfield 104, 3), (129, .ireturn, 1), (130, .iconst (-1), 1), (131, .ireturn, 1)]
theorem dgX12_count_120 : ∀ q ∈ lgX12_count_120, decode cX12_count q.1 = .ok (q.2.1, q.2.2) := by decide +kernel
theorem dX12_count_0 : decode cX12_count 0 = .ok (.iconst 0, 1) := dall dgX12_count_120 0 rfl
theorem dX12_count_1 : decode cX12_count 1 = .ok (.istore_n 2, 1) := dall dgX12_count_120 1 rfl
theorem dX12_count_2 : decode cX12_count 2 = .ok (.iload_n 1, 1) := dall dgX12_count_120 2 rfl
theorem dX12_count_3 : decode cX12_count 3 = .ok (.tableswitch 127 0 5 #[37, 42, 77, 112, 117, 122], 37) := dall dgX12_count_120 3 rfl
theorem dX12_count_40 : decode cX12_count 40 = .ok (.aload_n 0, 1) := dall dgX12_count_120 4 rfl
theorem dX12_count_41 : decode cX12_count 41 = .ok (.getfield 156, 3) := dall dgX12_count_120 5 rfl
theorem dX12_count_44 : decode cX12_count 44 = .ok (.ireturn, 1) := dall dgX12_count_120 6 rfl
theorem dX12_count_45 : decode cX12_count 45 = .ok (.iconst 0, 1) := dall dgX12_count_120 7 rfl
theorem dX12_count_46 : decode cX12_count 46 = .ok (.istore_n 3, 1) := dall dgX12_count_120 8 rfl
theorem dX12_count_47 : decode cX12_count 47 = .ok (.iload_n 3, 1) := dall dgX12_count_120 9 rfl
theorem dX12_count_48 : decode cX12_count 48 = .ok (.aload_n 0, 1) := dall dgX12_count_120 10 rfl
theorem dX12_count_49 : decode cX12_count 49 = .ok (.getfield 156, 3) := dall dgX12_count_120 11 rfl
theorem dX12_count_52 : decode cX12_count 52 = .ok (.if_icmp .ge 26, 3) := dall dgX12_count_120 12 rfl
theorem dX12_count_78 : decode cX12_count 78 = .ok (.iload_n 2, 1) := dall dgX12_count_120 13 rfl
theorem dX12_count_79 : decode cX12_count 79 = .ok (.ireturn, 1) := dall dgX12_count_120 14 rfl
theorem dX12_count_80 : decode cX12_count 80 = .ok (.iconst 0, 1) := dall dgX12_count_120 15 rfl
theorem dX12_count_81 : decode cX12_count 81 = .ok (.istore_n 3, 1) := dall dgX12_count_120 16 rfl
theorem dX12_count_82 : decode cX12_count 82 = .ok (.iload_n 3, 1) := dall dgX12_count_120 17 rfl
theorem dX12_count_83 : decode cX12_count 83 = .ok (.aload_n 0, 1) := dall dgX12_count_120 18 rfl
theorem dX12_count_84 : decode cX12_count 84 = .ok (.getfield 156, 3) := dall dgX12_count_120 19 rfl
theorem dX12_count_87 : decode cX12_count 87 = .ok (.if_icmp .ge 26, 3) := dall dgX12_count_120 20 rfl
theorem dX12_count_113 : decode cX12_count 113 = .ok (.iload_n 2, 1) := dall dgX12_count_120 21 rfl
theorem dX12_count_114 : decode cX12_count 114 = .ok (.ireturn, 1) := dall dgX12_count_120 22 rfl
theorem dX12_count_115 : decode cX12_count 115 = .ok (.aload_n 0, 1) := dall dgX12_count_120 23 rfl
theorem dX12_count_116 : decode cX12_count 116 = .ok (.getfield 252, 3) := dall dgX12_count_120 24 rfl
theorem dX12_count_119 : decode cX12_count 119 = .ok (.ireturn, 1) := dall dgX12_count_120 25 rfl
theorem dX12_count_120 : decode cX12_count 120 = .ok (.aload_n 0, 1) := dall dgX12_count_120 26 rfl
theorem dX12_count_121 : decode cX12_count 121 = .ok (.getfield 171, 3) := dall dgX12_count_120 27 rfl
theorem dX12_count_124 : decode cX12_count 124 = .ok (.ireturn, 1) := dall dgX12_count_120 28 rfl
theorem dX12_count_125 : decode cX12_count 125 = .ok (.aload_n 0, 1) := dall dgX12_count_120 29 rfl
theorem dX12_count_126 : decode cX12_count 126 = .ok (.getfield 104, 3) := dall dgX12_count_120 30 rfl
theorem dX12_count_129 : decode cX12_count 129 = .ok (.ireturn, 1) := dall dgX12_count_120 31 rfl
theorem dX12_count_130 : decode cX12_count 130 = .ok (.iconst (-1), 1) := dall dgX12_count_120 32 rfl
theorem dX12_count_131 : decode cX12_count 131 = .ok (.ireturn, 1) := dall dgX12_count_120 33 rfl
def lgX12_trace_121 : List (Nat × Instr × Nat) := [(0, .aload_n 0, 1), (1, .getfield 270, 3), (4, .lreturn, 1)]
theorem dgX12_trace_121 : ∀ q ∈ lgX12_trace_121, decode cX12_trace q.1 = .ok (q.2.1, q.2.2) := by decide +kernel
theorem dX12_trace_0 : decode cX12_trace 0 = .ok (.aload_n 0, 1) := dall dgX12_trace_121 0 rfl
theorem dX12_trace_1 : decode cX12_trace 1 = .ok (.getfield 270, 3) := dall dgX12_trace_121 1 rfl
theorem dX12_trace_4 : decode cX12_trace 4 = .ok (.lreturn, 1) := dall dgX12_trace_121 2 rfl
def lgJ7_fill_53178_122 : List (Nat × Instr × Nat) := [(0, .iconst 0, 1), (1, .istore_n 2, 1), (2, .aload_n 0, 1), (3, .arraylength, 1), (4, .istore_n 3, 1), (5, .iload_n 2, 1), (6, .iload_n 3, 1), (7, .if_icmp .ge 13, 3), (10, .aload_n 0, 1), (11, .iload_n 2, 1), (12, .iload_n 1, 1), (13, .iastore, 1), (14, .iinc 2 1, 3), (17, .goto (-12), 3), (20, .return_, 1)]
theorem dgJ7_fill_53178_122 : ∀ q ∈ lgJ7_fill_53178_122, decode cJ7_fill_53178 q.1 = .ok (q.2.1, q.2.2) := by decide +kernel
theorem dJ7_fill_53178_0 : decode cJ7_fill_53178 0 = .ok (.iconst 0, 1) := dall dgJ7_fill_53178_122 0 rfl
theorem dJ7_fill_53178_1 : decode cJ7_fill_53178 1 = .ok (.istore_n 2, 1) := dall dgJ7_fill_53178_122 1 rfl
theorem dJ7_fill_53178_2 : decode cJ7_fill_53178 2 = .ok (.aload_n 0, 1) := dall dgJ7_fill_53178_122 2 rfl
theorem dJ7_fill_53178_3 : decode cJ7_fill_53178 3 = .ok (.arraylength, 1) := dall dgJ7_fill_53178_122 3 rfl
theorem dJ7_fill_53178_4 : decode cJ7_fill_53178 4 = .ok (.istore_n 3, 1) := dall dgJ7_fill_53178_122 4 rfl
theorem dJ7_fill_53178_5 : decode cJ7_fill_53178 5 = .ok (.iload_n 2, 1) := dall dgJ7_fill_53178_122 5 rfl
theorem dJ7_fill_53178_6 : decode cJ7_fill_53178 6 = .ok (.iload_n 3, 1) := dall dgJ7_fill_53178_122 6 rfl
theorem dJ7_fill_53178_7 : decode cJ7_fill_53178 7 = .ok (.if_icmp .ge 13, 3) := dall dgJ7_fill_53178_122 7 rfl
theorem dJ7_fill_53178_10 : decode cJ7_fill_53178 10 = .ok (.aload_n 0, 1) := dall dgJ7_fill_53178_122 8 rfl
theorem dJ7_fill_53178_11 : decode cJ7_fill_53178 11 = .ok (.iload_n 2, 1) := dall dgJ7_fill_53178_122 9 rfl
theorem dJ7_fill_53178_12 : decode cJ7_fill_53178 12 = .ok (.iload_n 1, 1) := dall dgJ7_fill_53178_122 10 rfl
theorem dJ7_fill_53178_13 : decode cJ7_fill_53178 13 = .ok (.iastore, 1) := dall dgJ7_fill_53178_122 11 rfl
theorem dJ7_fill_53178_14 : decode cJ7_fill_53178 14 = .ok (.iinc 2 1, 3) := dall dgJ7_fill_53178_122 12 rfl
theorem dJ7_fill_53178_17 : decode cJ7_fill_53178 17 = .ok (.goto (-12), 3) := dall dgJ7_fill_53178_122 13 rfl
theorem dJ7_fill_53178_20 : decode cJ7_fill_53178 20 = .ok (.return_, 1) := dall dgJ7_fill_53178_122 14 rfl
