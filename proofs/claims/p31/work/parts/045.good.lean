noncomputable def nthC (l : List Cond) : Nat → Option Cond := List.rec (fun _ => none) (fun a _ ih n => Nat.casesOn n (some a) ih) l
theorem nthC_in : ∀ (l : List Cond) (n : Nat) (w : Cond), nthC l n = some w → w ∈ l
  | [], n, w, h => by cases h
  | a :: l, 0, w, h => by
    have h2 : some a = some w := h
    rw [Option.some.inj h2]
    exact List.mem_cons_self
  | a :: l, n + 1, w, h => List.mem_cons_of_mem a (nthC_in l n w h)
theorem goodIn_m {big : List Cond} (ws : List Cond) (ps : List Nat) (hp : ws = ps.filterMap (nthC big)) (h : ws.all goodWord = true) : GoodIn big ws := by
  intro w hw
  have h1 := List.all_eq_true.mp h w hw
  rw [hp] at hw
  obtain ⟨i, _, e⟩ := List.mem_filterMap.mp hw
  exact ⟨nthC_in _ _ _ e, good_of_word h1⟩
set_option maxRecDepth 20000 in
theorem ggX0_init_X4_init : GoodIn wsX0_init wsX4_init := goodIn_m _ [12, 13, 2, 3, 8, 14, 15, 16, 17, 18, 19, 20, 21] rfl (by decide +kernel)
set_option maxRecDepth 20000 in
theorem gX0_init_X4_init_n11 : GoodIn wsX0_init (wsX4_init) := ggX0_init_X4_init
set_option maxRecDepth 20000 in
theorem ggX0_findBest_J7_fill_53178 : GoodIn wsX0_findBest wsJ7_fill_53178 := goodIn_m _ [8] rfl (by decide +kernel)
set_option maxRecDepth 20000 in
theorem gX0_findBest_J7_fill_53178 : GoodIn wsX0_findBest (va_wsS RX0 34 yJ7_fill_53178 wsJ7_fill_53178) := goodIn_app (goodIn_m [.methodLink RX0 34 yJ7_fill_53178, .static yJ7_fill_53178, .initialized RJ7] [5, 6, 7] rfl (by decide +kernel)) ggX0_findBest_J7_fill_53178
set_option maxRecDepth 20000 in
theorem ggX0_findBest_X0_deal : GoodIn wsX0_findBest wsX0_deal := goodIn_m _ [12, 4, 13, 14, 15, 16, 17, 18, 19, 20, 11, 21, 1, 2, 22, 23, 24, 25, 26, 27, 28, 29, 30, 31, 32, 33, 34, 35, 36, 37, 38, 39, 40, 41, 42, 43, 9, 10, 59, 60, 61, 62, 44, 45, 46, 47, 48, 49, 50, 51, 52, 53, 54, 55, 56, 57, 58] rfl (by decide +kernel)
set_option maxRecDepth 20000 in
theorem gX0_findBest_X0_deal : GoodIn wsX0_findBest (va_wsS RX0 40 yX0_deal wsX0_deal) := goodIn_app (goodIn_m [.methodLink RX0 40 yX0_deal, .static yX0_deal, .initialized RX0] [9, 10, 11] rfl (by decide +kernel)) ggX0_findBest_X0_deal
set_option maxRecDepth 20000 in
theorem ggX0_findNear_J7_fill_53178 : GoodIn wsX0_findNear wsJ7_fill_53178 := goodIn_m _ [14] rfl (by decide +kernel)
set_option maxRecDepth 20000 in
theorem gX0_findNear_J7_fill_53178 : GoodIn wsX0_findNear (va_wsS RX0 34 yJ7_fill_53178 wsJ7_fill_53178) := goodIn_app (goodIn_m [.methodLink RX0 34 yJ7_fill_53178, .static yJ7_fill_53178, .initialized RJ7] [11, 12, 13] rfl (by decide +kernel)) ggX0_findNear_J7_fill_53178
set_option maxRecDepth 20000 in
theorem ggX0_findNear_X0_deal : GoodIn wsX0_findNear wsX0_deal := goodIn_m _ [18, 10, 19, 20, 21, 22, 23, 24, 25, 26, 17, 27, 1, 2, 28, 29, 30, 31, 3, 4, 5, 32, 33, 34, 6, 8, 9, 35, 36, 37, 38, 39, 40, 41, 42, 43, 15, 16, 59, 60, 61, 62, 44, 45, 46, 47, 48, 49, 50, 51, 52, 53, 54, 55, 56, 57, 58] rfl (by decide +kernel)
set_option maxRecDepth 20000 in
theorem gX0_findNear_X0_deal : GoodIn wsX0_findNear (va_wsS RX0 40 yX0_deal wsX0_deal) := goodIn_app (goodIn_m [.methodLink RX0 40 yX0_deal, .static yX0_deal, .initialized RX0] [15, 16, 17] rfl (by decide +kernel)) ggX0_findNear_X0_deal
set_option maxRecDepth 20000 in
theorem ggX0_deal_X0_meet : GoodIn wsX0_deal wsX0_meet := goodIn_m _ [11, 12, 13, 2, 14, 15, 16, 10, 17, 18, 19, 20, 21, 22, 5, 23, 24, 3, 4, 6, 25, 26, 42, 43, 44, 45, 46, 47, 48, 49, 50, 51, 52, 53, 54, 55, 56] rfl (by decide +kernel)
set_option maxRecDepth 20000 in
theorem gX0_deal_X0_meet : GoodIn wsX0_deal (wsV RX0 70 RX0 yX0_meet wsX0_meet) := goodIn_app (goodIn_m [.methodLink RX0 70 yX0_meet, .instanceMethod yX0_meet, .selects RX0 yX0_meet yX0_meet, .initialized RX0] [7, 8, 9, 10] rfl (by decide +kernel)) ggX0_deal_X0_meet
set_option maxRecDepth 20000 in
theorem ggX0_deal_X1_gainOf : GoodIn wsX0_deal wsX1_gainOf := goodIn_m _ [31, 32, 38, 39, 40, 41] rfl (by decide +kernel)
set_option maxRecDepth 20000 in
theorem gX0_deal_X1_gainOf : GoodIn wsX0_deal (wsV RX0 80 RX1 yX1_gainOf wsX1_gainOf) := goodIn_app (goodIn_m [.methodLink RX0 80 yX1_gainOf, .instanceMethod yX1_gainOf, .selects RX1 yX1_gainOf yX1_gainOf, .initialized RX1] [27, 28, 29, 30] rfl (by decide +kernel)) ggX0_deal_X1_gainOf
set_option maxRecDepth 20000 in
theorem ggX0_deal_X0_placeOfPairs : GoodIn wsX0_deal wsX0_placeOfPairs := goodIn_m _ [35] rfl (by decide +kernel)
set_option maxRecDepth 20000 in
theorem gX0_deal_X0_placeOfPairs : GoodIn wsX0_deal (va_wsS RX0 83 yX0_placeOfPairs wsX0_placeOfPairs) := goodIn_app (goodIn_m [.methodLink RX0 83 yX0_placeOfPairs, .static yX0_placeOfPairs, .initialized RX0] [33, 34, 10] rfl (by decide +kernel)) ggX0_deal_X0_placeOfPairs
set_option maxRecDepth 20000 in
theorem ggX0_deal_X0_deal : GoodIn wsX0_deal wsX0_deal := goodIn_m _ [0, 1, 2, 3, 4, 5, 6, 7, 8, 9, 10, 11, 12, 13, 14, 15, 16, 17, 18, 19, 20, 21, 22, 23, 24, 25, 26, 27, 28, 29, 30, 31, 32, 33, 34, 35, 36, 37, 38, 39, 40, 41, 42, 43, 44, 45, 46, 47, 48, 49, 50, 51, 52, 53, 54, 55, 56] rfl (by decide +kernel)
set_option maxRecDepth 20000 in
theorem gX0_deal_X0_deal : GoodIn wsX0_deal (va_wsS RX0 40 yX0_deal wsX0_deal) := goodIn_app (goodIn_m [.methodLink RX0 40 yX0_deal, .static yX0_deal, .initialized RX0] [36, 37, 10] rfl (by decide +kernel)) ggX0_deal_X0_deal
set_option maxRecDepth 20000 in
theorem ggX0_meet_X0_meetNear : GoodIn wsX0_meet wsX0_meetNear := goodIn_m _ [8, 9, 10, 11, 12, 13, 14, 15, 16, 17, 18, 19, 20, 21, 22, 23, 24, 25, 26, 27, 28, 29, 30, 31] rfl (by decide +kernel)
set_option maxRecDepth 20000 in
theorem gX0_meet_X0_meetNear : GoodIn wsX0_meet (wsV RX0 87 RX0 yX0_meetNear wsX0_meetNear) := goodIn_app (goodIn_m [.methodLink RX0 87 yX0_meetNear, .instanceMethod yX0_meetNear, .selects RX0 yX0_meetNear yX0_meetNear, .initialized RX0] [4, 5, 6, 7] rfl (by decide +kernel)) ggX0_meet_X0_meetNear
set_option maxRecDepth 20000 in
theorem ggX0_sureness_X0_placeOfPairs : GoodIn wsX0_sureness wsX0_placeOfPairs := goodIn_m _ [13] rfl (by decide +kernel)
set_option maxRecDepth 20000 in
theorem gX0_sureness_X0_placeOfPairs : GoodIn wsX0_sureness (va_wsS RX0 83 yX0_placeOfPairs wsX0_placeOfPairs) := goodIn_app (goodIn_m [.methodLink RX0 83 yX0_placeOfPairs, .static yX0_placeOfPairs, .initialized RX0] [10, 11, 12] rfl (by decide +kernel)) ggX0_sureness_X0_placeOfPairs
set_option maxRecDepth 20000 in
theorem ggX1_tie_X2_likeness : GoodIn wsX1_tie wsX2_likeness := goodIn_m _ [11, 12, 13, 14, 2, 3, 4, 15, 16, 17, 18, 19, 20, 33, 34, 35, 36, 37, 38, 39, 40, 41, 42, 43, 44] rfl (by decide +kernel)
set_option maxRecDepth 20000 in
theorem gX1_tie_X2_likeness : GoodIn wsX1_tie (wsV RX1 36 RX2 yX2_likeness wsX2_likeness) := goodIn_app (goodIn_m [.methodLink RX1 36 yX2_likeness, .instanceMethod yX2_likeness, .selects RX2 yX2_likeness yX2_likeness, .initialized RX2] [7, 8, 9, 10] rfl (by decide +kernel)) ggX1_tie_X2_likeness
set_option maxRecDepth 20000 in
theorem ggX1_tie_X2_doTouch : GoodIn wsX1_tie wsX2_doTouch := goodIn_m _ [24, 25, 19, 3, 20, 26, 33, 34, 35, 36, 37, 38, 39, 40, 41, 42, 43, 44] rfl (by decide +kernel)
set_option maxRecDepth 20000 in
theorem gX1_tie_X2_doTouch : GoodIn wsX1_tie (wsV RX1 40 RX2 yX2_doTouch wsX2_doTouch) := goodIn_app (goodIn_m [.methodLink RX1 40 yX2_doTouch, .instanceMethod yX2_doTouch, .selects RX2 yX2_doTouch yX2_doTouch, .initialized RX2] [21, 22, 23, 10] rfl (by decide +kernel)) ggX1_tie_X2_doTouch
set_option maxRecDepth 20000 in
theorem ggX1_tie_X1_fillGains : GoodIn wsX1_tie wsX1_fillGains := goodIn_m _ [31, 32, 6, 45, 46, 47, 48] rfl (by decide +kernel)
set_option maxRecDepth 20000 in
theorem gX1_tie_X1_fillGains : GoodIn wsX1_tie (wsV RX1 44 RX1 yX1_fillGains wsX1_fillGains) := goodIn_app (goodIn_m [.methodLink RX1 44 yX1_fillGains, .instanceMethod yX1_fillGains, .selects RX1 yX1_fillGains yX1_fillGains, .initialized RX1] [27, 28, 29, 30] rfl (by decide +kernel)) ggX1_tie_X1_fillGains
set_option maxRecDepth 20000 in
theorem ggX1_join_X1_joinTwo : GoodIn wsX1_join wsX1_joinTwo := goodIn_m _ [8, 1, 2, 25, 26, 27, 28, 29, 30, 31, 32, 33] rfl (by decide +kernel)
set_option maxRecDepth 20000 in
theorem gX1_join_X1_joinTwo : GoodIn wsX1_join (wsV RX1 53 RX1 yX1_joinTwo wsX1_joinTwo) := goodIn_app (goodIn_m [.methodLink RX1 53 yX1_joinTwo, .instanceMethod yX1_joinTwo, .selects RX1 yX1_joinTwo yX1_joinTwo, .initialized RX1] [4, 5, 6, 7] rfl (by decide +kernel)) ggX1_join_X1_joinTwo
set_option maxRecDepth 20000 in
theorem ggX1_join_X4_numberHeaps : GoodIn wsX1_join wsX4_numberHeaps := goodIn_m _ [13, 14, 15, 16, 17, 18, 19, 20, 29, 30, 31, 32, 33] rfl (by decide +kernel)
set_option maxRecDepth 20000 in
theorem gX1_join_X4_numberHeaps : GoodIn wsX1_join (wsV RX1 57 RX4 yX4_numberHeaps wsX4_numberHeaps) := goodIn_app (goodIn_m [.methodLink RX1 57 yX4_numberHeaps, .instanceMethod yX4_numberHeaps, .selects RX4 yX4_numberHeaps yX4_numberHeaps, .initialized RX4] [9, 10, 11, 12] rfl (by decide +kernel)) ggX1_join_X4_numberHeaps
set_option maxRecDepth 20000 in
theorem ggX1_join_X1_worthOf : GoodIn wsX1_join wsX1_worthOf := goodIn_m _ [24, 1, 3, 25, 26, 27, 28, 29, 30, 31, 32, 33] rfl (by decide +kernel)
set_option maxRecDepth 20000 in
theorem gX1_join_X1_worthOf : GoodIn wsX1_join (wsV RX1 60 RX1 yX1_worthOf wsX1_worthOf) := goodIn_app (goodIn_m [.methodLink RX1 60 yX1_worthOf, .instanceMethod yX1_worthOf, .selects RX1 yX1_worthOf yX1_worthOf, .initialized RX1] [21, 22, 23, 7] rfl (by decide +kernel)) ggX1_join_X1_worthOf
set_option maxRecDepth 20000 in
theorem ggX2_cut_J7_fill_53178 : GoodIn wsX2_cut wsJ7_fill_53178 := goodIn_m _ [10] rfl (by decide +kernel)
set_option maxRecDepth 20000 in
theorem gX2_cut_J7_fill_53178 : GoodIn wsX2_cut (va_wsS RX2 49 yJ7_fill_53178 wsJ7_fill_53178) := goodIn_app (goodIn_m [.methodLink RX2 49 yJ7_fill_53178, .static yJ7_fill_53178, .initialized RJ7] [7, 8, 9] rfl (by decide +kernel)) ggX2_cut_J7_fill_53178
set_option maxRecDepth 20000 in
theorem ggX2_cut_X7_isHeard : GoodIn wsX2_cut wsX7_isHeard := goodIn_m _ [15, 16, 17, 18, 71, 72, 73, 74, 75] rfl (by decide +kernel)
set_option maxRecDepth 20000 in
theorem gX2_cut_X7_isHeard : GoodIn wsX2_cut (wsV RX2 60 RX7 yX7_isHeard wsX7_isHeard) := goodIn_app (goodIn_m [.methodLink RX2 60 yX7_isHeard, .instanceMethod yX7_isHeard, .selects RX7 yX7_isHeard yX7_isHeard, .initialized RX7] [11, 12, 13, 14] rfl (by decide +kernel)) ggX2_cut_X7_isHeard
set_option maxRecDepth 20000 in
theorem ggX2_cut_X2_findCosts : GoodIn wsX2_cut wsX2_findCosts := goodIn_m _ [23, 6, 24, 25, 26, 27, 28, 29, 30, 31, 32, 33, 34, 35, 36, 37, 38, 39, 40, 41, 59, 60, 61, 62, 63, 64, 65, 66, 67, 68, 69, 70, 76, 77, 78, 71, 72, 73, 74, 75] rfl (by decide +kernel)
set_option maxRecDepth 20000 in
theorem gX2_cut_X2_findCosts : GoodIn wsX2_cut (wsV RX2 64 RX2 yX2_findCosts wsX2_findCosts) := goodIn_app (goodIn_m [.methodLink RX2 64 yX2_findCosts, .instanceMethod yX2_findCosts, .selects RX2 yX2_findCosts yX2_findCosts, .initialized RX2] [19, 20, 21, 22] rfl (by decide +kernel)) ggX2_cut_X2_findCosts
set_option maxRecDepth 20000 in
theorem ggX2_cut_X2_addPieces : GoodIn wsX2_cut wsX2_addPieces := goodIn_m _ [45, 1, 25, 46, 39, 40, 41, 47, 48, 49, 5, 50, 51, 52, 53, 2, 54, 26, 27, 28, 29, 30, 31, 32, 33, 34, 35, 36, 37, 38, 55, 56, 57, 58, 59, 60, 61, 62, 63, 64, 65, 66, 67, 68, 69, 70, 76, 77, 78, 71, 72, 73, 74, 75] rfl (by decide +kernel)
set_option maxRecDepth 20000 in
theorem gX2_cut_X2_addPieces : GoodIn wsX2_cut (wsV RX2 68 RX2 yX2_addPieces wsX2_addPieces) := goodIn_app (goodIn_m [.methodLink RX2 68 yX2_addPieces, .instanceMethod yX2_addPieces, .selects RX2 yX2_addPieces yX2_addPieces, .initialized RX2] [42, 43, 44, 22] rfl (by decide +kernel)) ggX2_cut_X2_addPieces
set_option maxRecDepth 20000 in
theorem ggX2_findCosts_X3_empty : GoodIn wsX2_findCosts wsX3_empty := goodIn_m _ [8, 9, 10, 32, 33, 34] rfl (by decide +kernel)
set_option maxRecDepth 20000 in
theorem gX2_findCosts_X3_empty : GoodIn wsX2_findCosts (wsV RX2 72 RX3 yX3_empty wsX3_empty) := goodIn_app (goodIn_m [.methodLink RX2 72 yX3_empty, .instanceMethod yX3_empty, .selects RX3 yX3_empty yX3_empty, .initialized RX3] [4, 5, 6, 7] rfl (by decide +kernel)) ggX2_findCosts_X3_empty
set_option maxRecDepth 20000 in
theorem ggX2_findCosts_X3_take : GoodIn wsX2_findCosts wsX3_take := goodIn_m _ [14, 9, 15, 10, 16, 17, 18, 19, 32, 33, 34, 35, 36, 37, 38, 39] rfl (by decide +kernel)
set_option maxRecDepth 20000 in
theorem gX2_findCosts_X3_take : GoodIn wsX2_findCosts (wsV RX2 78 RX3 yX3_take wsX3_take) := goodIn_app (goodIn_m [.methodLink RX2 78 yX3_take, .instanceMethod yX3_take, .selects RX3 yX3_take yX3_take, .initialized RX3] [11, 12, 13, 7] rfl (by decide +kernel)) ggX2_findCosts_X3_take
set_option maxRecDepth 20000 in
theorem ggX2_addPieces_X3_empty : GoodIn wsX2_addPieces wsX3_empty := goodIn_m _ [21, 22, 23, 46, 47, 48] rfl (by decide +kernel)
set_option maxRecDepth 20000 in
theorem gX2_addPieces_X3_empty : GoodIn wsX2_addPieces (wsV RX2 72 RX3 yX3_empty wsX3_empty) := goodIn_app (goodIn_m [.methodLink RX2 72 yX3_empty, .instanceMethod yX3_empty, .selects RX3 yX3_empty yX3_empty, .initialized RX3] [17, 18, 19, 20] rfl (by decide +kernel)) ggX2_addPieces_X3_empty
set_option maxRecDepth 20000 in
theorem ggX2_addPieces_X3_take : GoodIn wsX2_addPieces wsX3_take := goodIn_m _ [27, 22, 28, 23, 29, 4, 5, 6, 46, 47, 48, 49, 50, 51, 52, 53] rfl (by decide +kernel)
set_option maxRecDepth 20000 in
theorem gX2_addPieces_X3_take : GoodIn wsX2_addPieces (wsV RX2 78 RX3 yX3_take wsX3_take) := goodIn_app (goodIn_m [.methodLink RX2 78 yX3_take, .instanceMethod yX3_take, .selects RX3 yX3_take yX3_take, .initialized RX3] [24, 25, 26, 20] rfl (by decide +kernel)) ggX2_addPieces_X3_take
set_option maxRecDepth 20000 in
theorem ggX2_addPieces_X3_writeMiddle : GoodIn wsX2_addPieces wsX3_writeMiddle := goodIn_m _ [33, 22, 28, 46, 47, 48] rfl (by decide +kernel)
set_option maxRecDepth 20000 in
theorem gX2_addPieces_X3_writeMiddle : GoodIn wsX2_addPieces (wsV RX2 93 RX3 yX3_writeMiddle wsX3_writeMiddle) := goodIn_app (goodIn_m [.methodLink RX2 93 yX3_writeMiddle, .instanceMethod yX3_writeMiddle, .selects RX3 yX3_writeMiddle yX3_writeMiddle, .initialized RX3] [30, 31, 32, 20] rfl (by decide +kernel)) ggX2_addPieces_X3_writeMiddle
set_option maxRecDepth 20000 in
theorem ggX2_likeness_X11_off : GoodIn wsX2_likeness wsX11_off := goodIn_m _ [9, 10, 11, 5, 12] rfl (by decide +kernel)
set_option maxRecDepth 20000 in
theorem gX2_likeness_X11_off_n96 : GoodIn wsX2_likeness (wsX11_off) := ggX2_likeness_X11_off
set_option maxRecDepth 20000 in
theorem ggX4_numberHeaps_J7_fill_53178 : GoodIn wsX4_numberHeaps wsJ7_fill_53178 := goodIn_m _ [7] rfl (by decide +kernel)
set_option maxRecDepth 20000 in
theorem gX4_numberHeaps_J7_fill_53178 : GoodIn wsX4_numberHeaps (va_wsS RX4 21 yJ7_fill_53178 wsJ7_fill_53178) := goodIn_app (goodIn_m [.methodLink RX4 21 yJ7_fill_53178, .static yJ7_fill_53178, .initialized RJ7] [4, 5, 6] rfl (by decide +kernel)) ggX4_numberHeaps_J7_fill_53178
set_option maxRecDepth 20000 in
theorem ggX4_findMiddles_X3_empty : GoodIn wsX4_findMiddles wsX3_empty := goodIn_m _ [8, 9, 10, 46, 47, 48] rfl (by decide +kernel)
set_option maxRecDepth 20000 in
theorem gX4_findMiddles_X3_empty : GoodIn wsX4_findMiddles (wsV RX4 31 RX3 yX3_empty wsX3_empty) := goodIn_app (goodIn_m [.methodLink RX4 31 yX3_empty, .instanceMethod yX3_empty, .selects RX3 yX3_empty yX3_empty, .initialized RX3] [4, 5, 6, 7] rfl (by decide +kernel)) ggX4_findMiddles_X3_empty
set_option maxRecDepth 20000 in
theorem ggX4_findMiddles_X3_take : GoodIn wsX4_findMiddles wsX3_take := goodIn_m _ [14, 9, 15, 10, 16, 17, 18, 19, 46, 47, 48, 29, 30, 31, 32, 33] rfl (by decide +kernel)
set_option maxRecDepth 20000 in
theorem gX4_findMiddles_X3_take : GoodIn wsX4_findMiddles (wsV RX4 46 RX3 yX3_take wsX3_take) := goodIn_app (goodIn_m [.methodLink RX4 46 yX3_take, .instanceMethod yX3_take, .selects RX3 yX3_take yX3_take, .initialized RX3] [11, 12, 13, 7] rfl (by decide +kernel)) ggX4_findMiddles_X3_take
set_option maxRecDepth 20000 in
theorem ggX4_findMiddles_X3_writeMiddle : GoodIn wsX4_findMiddles wsX3_writeMiddle := goodIn_m _ [23, 9, 15, 46, 47, 48] rfl (by decide +kernel)
set_option maxRecDepth 20000 in
theorem gX4_findMiddles_X3_writeMiddle : GoodIn wsX4_findMiddles (wsV RX4 50 RX3 yX3_writeMiddle wsX3_writeMiddle) := goodIn_app (goodIn_m [.methodLink RX4 50 yX3_writeMiddle, .instanceMethod yX3_writeMiddle, .selects RX3 yX3_writeMiddle yX3_writeMiddle, .initialized RX3] [20, 21, 22, 7] rfl (by decide +kernel)) ggX4_findMiddles_X3_writeMiddle
set_option maxRecDepth 20000 in
theorem ggX4_twoInOne_X4_offOfTwo : GoodIn wsX4_twoInOne wsX4_offOfTwo := goodIn_m _ [9, 10, 11, 12, 13, 14, 15, 16, 17, 18, 19, 8, 20, 3, 4, 21, 22, 23, 24, 25, 26, 27, 32, 33, 34, 35, 36, 37, 38, 39, 40, 41, 42, 43, 44, 45, 46, 47, 48] rfl (by decide +kernel)
set_option maxRecDepth 20000 in
theorem gX4_twoInOne_X4_offOfTwo : GoodIn wsX4_twoInOne (wsV RX4 54 RX4 yX4_offOfTwo wsX4_offOfTwo) := goodIn_app (goodIn_m [.methodLink RX4 54 yX4_offOfTwo, .instanceMethod yX4_offOfTwo, .selects RX4 yX4_offOfTwo yX4_offOfTwo, .initialized RX4] [5, 6, 7, 8] rfl (by decide +kernel)) ggX4_twoInOne_X4_offOfTwo
set_option maxRecDepth 20000 in
theorem ggX4_twoInOne_X11_off : GoodIn wsX4_twoInOne wsX11_off := goodIn_m _ [30, 31, 15, 12, 16] rfl (by decide +kernel)
set_option maxRecDepth 20000 in
theorem gX4_twoInOne_X11_off_n59 : GoodIn wsX4_twoInOne (wsX11_off) := ggX4_twoInOne_X11_off
set_option maxRecDepth 20000 in
theorem ggX4_offOfTwo_X4_middleOf : GoodIn wsX4_offOfTwo wsX4_middleOf := goodIn_m _ [12, 13, 14, 22, 23, 24, 25, 26] rfl (by decide +kernel)
set_option maxRecDepth 20000 in
theorem gX4_offOfTwo_X4_middleOf : GoodIn wsX4_offOfTwo (wsV RX4 63 RX4 yX4_middleOf wsX4_middleOf) := goodIn_app (goodIn_m [.methodLink RX4 63 yX4_middleOf, .instanceMethod yX4_middleOf, .selects RX4 yX4_middleOf yX4_middleOf, .initialized RX4] [8, 9, 10, 11] rfl (by decide +kernel)) ggX4_offOfTwo_X4_middleOf
set_option maxRecDepth 20000 in
theorem ggX4_offOfTwo_X2_middleOf : GoodIn wsX4_offOfTwo wsX2_middleOf := goodIn_m _ [19, 20, 21, 27, 28, 29, 30, 31, 32, 33, 34, 35, 36, 37, 38] rfl (by decide +kernel)
set_option maxRecDepth 20000 in
theorem gX4_offOfTwo_X2_middleOf : GoodIn wsX4_offOfTwo (wsV RX4 72 RX2 yX2_middleOf wsX2_middleOf) := goodIn_app (goodIn_m [.methodLink RX4 72 yX2_middleOf, .instanceMethod yX2_middleOf, .selects RX2 yX2_middleOf yX2_middleOf, .initialized RX2] [15, 16, 17, 18] rfl (by decide +kernel)) ggX4_offOfTwo_X2_middleOf
set_option maxRecDepth 20000 in
theorem ggX5_add_X4_middleOf : GoodIn wsX5_add wsX4_middleOf := goodIn_m _ [8, 9, 10, 15, 16, 17, 18, 19] rfl (by decide +kernel)
set_option maxRecDepth 20000 in
theorem gX5_add_X4_middleOf : GoodIn wsX5_add (wsV RX5 25 RX4 yX4_middleOf wsX4_middleOf) := goodIn_app (goodIn_m [.methodLink RX5 25 yX4_middleOf, .instanceMethod yX4_middleOf, .selects RX4 yX4_middleOf yX4_middleOf, .initialized RX4] [4, 5, 6, 7] rfl (by decide +kernel)) ggX5_add_X4_middleOf
set_option maxRecDepth 20000 in
theorem ggX5_remove_X5_has : GoodIn wsX5_remove wsX5_has := goodIn_m _ [8, 2, 9, 10, 11, 12] rfl (by decide +kernel)
set_option maxRecDepth 20000 in
theorem gX5_remove_X5_has : GoodIn wsX5_remove (wsV RX5 31 RX5 yX5_has wsX5_has) := goodIn_app (goodIn_m [.methodLink RX5 31 yX5_has, .instanceMethod yX5_has, .selects RX5 yX5_has yX5_has, .initialized RX5] [4, 5, 6, 7] rfl (by decide +kernel)) ggX5_remove_X5_has
set_option maxRecDepth 20000 in
theorem ggX5_nearestTo_X11_off : GoodIn wsX5_nearestTo wsX11_off := goodIn_m _ [5, 6, 7, 8, 9] rfl (by decide +kernel)
set_option maxRecDepth 20000 in
theorem gX5_nearestTo_X11_off_n36 : GoodIn wsX5_nearestTo (wsX11_off) := ggX5_nearestTo_X11_off
set_option maxRecDepth 20000 in
theorem ggX5_dealsOf_X5_fillOffs : GoodIn wsX5_dealsOf wsX5_fillOffs := goodIn_m _ [10, 5, 11, 12, 13, 14, 15, 16, 3, 17, 37, 38, 39, 40, 25, 26, 27, 28, 29, 30, 31, 32, 33, 34, 35, 36] rfl (by decide +kernel)
set_option maxRecDepth 20000 in
theorem gX5_dealsOf_X5_fillOffs : GoodIn wsX5_dealsOf (wsV RX5 50 RX5 yX5_fillOffs wsX5_fillOffs) := goodIn_app (goodIn_m [.methodLink RX5 50 yX5_fillOffs, .instanceMethod yX5_fillOffs, .selects RX5 yX5_fillOffs yX5_fillOffs, .initialized RX5] [6, 7, 8, 9] rfl (by decide +kernel)) ggX5_dealsOf_X5_fillOffs
set_option maxRecDepth 20000 in
theorem ggX5_dealsOf_J6_bitCount_0f7a4 : GoodIn wsX5_dealsOf wsJ6_bitCount_0f7a4 := goodIn_m _ [21, 22, 23, 24] rfl (by decide +kernel)
set_option maxRecDepth 20000 in
theorem gX5_dealsOf_J6_bitCount_0f7a4 : GoodIn wsX5_dealsOf (va_wsS RX5 54 yJ6_bitCount_0f7a4 wsJ6_bitCount_0f7a4) := goodIn_app (goodIn_m [.methodLink RX5 54 yJ6_bitCount_0f7a4, .static yJ6_bitCount_0f7a4, .initialized RJ6] [18, 19, 20] rfl (by decide +kernel)) ggX5_dealsOf_J6_bitCount_0f7a4
set_option maxRecDepth 20000 in
theorem ggX5_fillOffs_X11_off : GoodIn wsX5_fillOffs wsX11_off := goodIn_m _ [5, 6, 7, 8, 9] rfl (by decide +kernel)
set_option maxRecDepth 20000 in
theorem gX5_fillOffs_X11_off_n36 : GoodIn wsX5_fillOffs (wsX11_off) := ggX5_fillOffs_X11_off
set_option maxRecDepth 20000 in
theorem ggX6_weigh_X6_span : GoodIn wsX6_weigh wsX6_span := goodIn_m _ [5, 6, 53, 54, 55, 56, 57, 58, 59, 60, 61, 62, 63, 64, 65] rfl (by decide +kernel)
set_option maxRecDepth 20000 in
theorem gX6_weigh_X6_span : GoodIn wsX6_weigh (wsV RX6 7 RX6 yX6_span wsX6_span) := goodIn_app (goodIn_m [.methodLink RX6 7 yX6_span, .instanceMethod yX6_span, .selects RX6 yX6_span yX6_span, .initialized RX6] [1, 2, 3, 4] rfl (by decide +kernel)) ggX6_weigh_X6_span
set_option maxRecDepth 20000 in
theorem ggX6_weigh_X6_voice : GoodIn wsX6_weigh wsX6_voice := goodIn_m _ [10, 6, 11, 1, 2, 3, 4, 5, 12, 13, 14, 15, 16, 17, 18, 53, 54, 55, 56, 57, 58, 59, 60, 61, 62, 63, 64, 65] rfl (by decide +kernel)
set_option maxRecDepth 20000 in
theorem gX6_weigh_X6_voice : GoodIn wsX6_weigh (wsV RX6 13 RX6 yX6_voice wsX6_voice) := goodIn_app (goodIn_m [.methodLink RX6 13 yX6_voice, .instanceMethod yX6_voice, .selects RX6 yX6_voice yX6_voice, .initialized RX6] [7, 8, 9, 4] rfl (by decide +kernel)) ggX6_weigh_X6_voice
set_option maxRecDepth 20000 in
theorem ggX6_weigh_X6_talk : GoodIn wsX6_weigh wsX6_talk := goodIn_m _ [22, 6, 23, 7, 8, 9, 4, 10, 11, 1, 2, 3, 5, 12, 13, 14, 15, 16, 17, 18, 53, 54, 55, 56, 57, 58, 59, 60, 61, 62, 63, 64, 65] rfl (by decide +kernel)
set_option maxRecDepth 20000 in
theorem gX6_weigh_X6_talk : GoodIn wsX6_weigh (wsV RX6 16 RX6 yX6_talk wsX6_talk) := goodIn_app (goodIn_m [.methodLink RX6 16 yX6_talk, .instanceMethod yX6_talk, .selects RX6 yX6_talk yX6_talk, .initialized RX6] [19, 20, 21, 4] rfl (by decide +kernel)) ggX6_weigh_X6_talk
set_option maxRecDepth 20000 in
theorem ggX6_weigh_X6_two : GoodIn wsX6_weigh wsX6_two := goodIn_m _ [27, 6, 28, 19, 20, 21, 4, 22, 23, 7, 8, 9, 10, 11, 1, 2, 3, 5, 12, 13, 14, 15, 16, 17, 18, 53, 54, 55, 56, 57, 58, 59, 60, 61, 62, 63, 64, 65] rfl (by decide +kernel)
set_option maxRecDepth 20000 in
theorem gX6_weigh_X6_two : GoodIn wsX6_weigh (wsV RX6 19 RX6 yX6_two wsX6_two) := goodIn_app (goodIn_m [.methodLink RX6 19 yX6_two, .instanceMethod yX6_two, .selects RX6 yX6_two yX6_two, .initialized RX6] [24, 25, 26, 4] rfl (by decide +kernel)) ggX6_weigh_X6_two
set_option maxRecDepth 20000 in
theorem ggX6_weigh_X6_brief : GoodIn wsX6_weigh wsX6_brief := goodIn_m _ [32, 6, 33, 34, 35, 36, 37, 19, 20, 21, 4, 22, 23, 7, 8, 9, 10, 11, 1, 2, 3, 5, 12, 13, 14, 15, 16, 17, 18, 53, 54, 55, 56, 57, 58, 59, 60, 61, 62, 63, 64, 65] rfl (by decide +kernel)
set_option maxRecDepth 20000 in
theorem gX6_weigh_X6_brief : GoodIn wsX6_weigh (wsV RX6 22 RX6 yX6_brief wsX6_brief) := goodIn_app (goodIn_m [.methodLink RX6 22 yX6_brief, .instanceMethod yX6_brief, .selects RX6 yX6_brief yX6_brief, .initialized RX6] [29, 30, 31, 4] rfl (by decide +kernel)) ggX6_weigh_X6_brief
set_option maxRecDepth 20000 in
theorem ggX6_weigh_X6_far : GoodIn wsX6_weigh wsX6_far := goodIn_m _ [41, 6, 42, 7, 8, 9, 4, 10, 11, 1, 2, 3, 5, 12, 13, 14, 15, 16, 17, 18, 53, 54, 55, 56, 57, 58, 59, 60, 61, 62, 63, 64, 65] rfl (by decide +kernel)
set_option maxRecDepth 20000 in
theorem gX6_weigh_X6_far : GoodIn wsX6_weigh (wsV RX6 25 RX6 yX6_far wsX6_far) := goodIn_app (goodIn_m [.methodLink RX6 25 yX6_far, .instanceMethod yX6_far, .selects RX6 yX6_far yX6_far, .initialized RX6] [38, 39, 40, 4] rfl (by decide +kernel)) ggX6_weigh_X6_far
set_option maxRecDepth 20000 in
theorem ggX6_weigh_X6_known : GoodIn wsX6_weigh wsX6_known := goodIn_m _ [46, 6, 47, 7, 8, 9, 4, 10, 11, 1, 2, 3, 5, 12, 13, 14, 15, 16, 17, 18, 53, 54, 55, 56, 57, 58, 59, 60, 61, 62, 63, 64, 65] rfl (by decide +kernel)
set_option maxRecDepth 20000 in
theorem gX6_weigh_X6_known : GoodIn wsX6_weigh (wsV RX6 28 RX6 yX6_known wsX6_known) := goodIn_app (goodIn_m [.methodLink RX6 28 yX6_known, .instanceMethod yX6_known, .selects RX6 yX6_known yX6_known, .initialized RX6] [43, 44, 45, 4] rfl (by decide +kernel)) ggX6_weigh_X6_known
set_option maxRecDepth 20000 in
theorem ggX6_weigh_X6_noise : GoodIn wsX6_weigh wsX6_noise := goodIn_m _ [51, 6, 52, 1, 2, 3, 4, 5, 53, 54, 55, 56, 57, 58, 59, 60, 61, 62, 63, 64, 65] rfl (by decide +kernel)
set_option maxRecDepth 20000 in
theorem gX6_weigh_X6_noise : GoodIn wsX6_weigh (wsV RX6 32 RX6 yX6_noise wsX6_noise) := goodIn_app (goodIn_m [.methodLink RX6 32 yX6_noise, .instanceMethod yX6_noise, .selects RX6 yX6_noise yX6_noise, .initialized RX6] [48, 49, 50, 4] rfl (by decide +kernel)) ggX6_weigh_X6_noise
set_option maxRecDepth 20000 in
theorem ggX6_voice_X6_span : GoodIn wsX6_voice wsX6_span := goodIn_m _ [7, 1, 15, 16, 17, 18, 19, 20, 21, 22, 23, 24, 25, 26, 27] rfl (by decide +kernel)
set_option maxRecDepth 20000 in
theorem gX6_voice_X6_span : GoodIn wsX6_voice (wsV RX6 7 RX6 yX6_span wsX6_span) := goodIn_app (goodIn_m [.methodLink RX6 7 yX6_span, .instanceMethod yX6_span, .selects RX6 yX6_span yX6_span, .initialized RX6] [3, 4, 5, 6] rfl (by decide +kernel)) ggX6_voice_X6_span
set_option maxRecDepth 20000 in
theorem ggX6_voice_X2_middleOf : GoodIn wsX6_voice wsX2_middleOf := goodIn_m _ [12, 13, 14, 16, 17, 18, 19, 20, 21, 22, 23, 24, 25, 26, 27] rfl (by decide +kernel)
set_option maxRecDepth 20000 in
theorem gX6_voice_X2_middleOf : GoodIn wsX6_voice (wsV RX6 47 RX2 yX2_middleOf wsX2_middleOf) := goodIn_app (goodIn_m [.methodLink RX6 47 yX2_middleOf, .instanceMethod yX2_middleOf, .selects RX2 yX2_middleOf yX2_middleOf, .initialized RX2] [8, 9, 10, 11] rfl (by decide +kernel)) ggX6_voice_X2_middleOf
set_option maxRecDepth 20000 in
theorem ggX6_talk_X6_voice : GoodIn wsX6_talk wsX6_voice := goodIn_m _ [7, 1, 8, 9, 10, 11, 6, 12, 13, 14, 15, 16, 17, 18, 19, 20, 21, 22, 23, 24, 25, 26, 27, 28, 29, 30, 31, 32] rfl (by decide +kernel)
set_option maxRecDepth 20000 in
theorem gX6_talk_X6_voice : GoodIn wsX6_talk (wsV RX6 13 RX6 yX6_voice wsX6_voice) := goodIn_app (goodIn_m [.methodLink RX6 13 yX6_voice, .instanceMethod yX6_voice, .selects RX6 yX6_voice yX6_voice, .initialized RX6] [3, 4, 5, 6] rfl (by decide +kernel)) ggX6_talk_X6_voice
set_option maxRecDepth 20000 in
theorem ggX6_two_X6_talk : GoodIn wsX6_two wsX6_talk := goodIn_m _ [7, 1, 8, 9, 10, 11, 6, 12, 13, 14, 15, 16, 17, 18, 19, 20, 21, 22, 23, 24, 25, 26, 27, 28, 29, 30, 31, 32, 33, 34, 35, 36, 37] rfl (by decide +kernel)
set_option maxRecDepth 20000 in
theorem gX6_two_X6_talk : GoodIn wsX6_two (wsV RX6 16 RX6 yX6_talk wsX6_talk) := goodIn_app (goodIn_m [.methodLink RX6 16 yX6_talk, .instanceMethod yX6_talk, .selects RX6 yX6_talk yX6_talk, .initialized RX6] [3, 4, 5, 6] rfl (by decide +kernel)) ggX6_two_X6_talk
set_option maxRecDepth 20000 in
theorem ggX6_brief_X6_talk : GoodIn wsX6_brief wsX6_talk := goodIn_m _ [11, 1, 12, 13, 14, 15, 10, 16, 17, 18, 19, 20, 21, 22, 23, 24, 25, 26, 27, 28, 29, 30, 31, 32, 33, 34, 35, 36, 37, 38, 39, 40, 41] rfl (by decide +kernel)
set_option maxRecDepth 20000 in
theorem gX6_brief_X6_talk : GoodIn wsX6_brief (wsV RX6 16 RX6 yX6_talk wsX6_talk) := goodIn_app (goodIn_m [.methodLink RX6 16 yX6_talk, .instanceMethod yX6_talk, .selects RX6 yX6_talk yX6_talk, .initialized RX6] [7, 8, 9, 10] rfl (by decide +kernel)) ggX6_brief_X6_talk
set_option maxRecDepth 20000 in
theorem ggX6_far_X6_voice : GoodIn wsX6_far wsX6_voice := goodIn_m _ [7, 1, 8, 9, 10, 11, 6, 12, 13, 14, 15, 16, 17, 18, 19, 20, 21, 22, 23, 24, 25, 26, 27, 28, 29, 30, 31, 32] rfl (by decide +kernel)
set_option maxRecDepth 20000 in
theorem gX6_far_X6_voice : GoodIn wsX6_far (wsV RX6 13 RX6 yX6_voice wsX6_voice) := goodIn_app (goodIn_m [.methodLink RX6 13 yX6_voice, .instanceMethod yX6_voice, .selects RX6 yX6_voice yX6_voice, .initialized RX6] [3, 4, 5, 6] rfl (by decide +kernel)) ggX6_far_X6_voice
set_option maxRecDepth 20000 in
theorem ggX6_known_X6_voice : GoodIn wsX6_known wsX6_voice := goodIn_m _ [7, 1, 8, 9, 10, 11, 6, 12, 13, 14, 15, 16, 17, 18, 19, 20, 21, 22, 23, 24, 25, 26, 27, 28, 29, 30, 31, 32] rfl (by decide +kernel)
set_option maxRecDepth 20000 in
theorem gX6_known_X6_voice : GoodIn wsX6_known (wsV RX6 13 RX6 yX6_voice wsX6_voice) := goodIn_app (goodIn_m [.methodLink RX6 13 yX6_voice, .instanceMethod yX6_voice, .selects RX6 yX6_voice yX6_voice, .initialized RX6] [3, 4, 5, 6] rfl (by decide +kernel)) ggX6_known_X6_voice
set_option maxRecDepth 20000 in
theorem ggX6_noise_X6_span : GoodIn wsX6_noise wsX6_span := goodIn_m _ [7, 1, 8, 9, 10, 11, 12, 13, 14, 15, 16, 17, 18, 19, 20] rfl (by decide +kernel)
set_option maxRecDepth 20000 in
theorem gX6_noise_X6_span : GoodIn wsX6_noise (wsV RX6 7 RX6 yX6_span wsX6_span) := goodIn_app (goodIn_m [.methodLink RX6 7 yX6_span, .instanceMethod yX6_span, .selects RX6 yX6_span yX6_span, .initialized RX6] [3, 4, 5, 6] rfl (by decide +kernel)) ggX6_noise_X6_span
set_option maxRecDepth 20000 in
theorem ggX7_addRow_X7_addDeaf : GoodIn wsX7_addRow wsX7_addDeaf := goodIn_m _ [7, 8, 1, 9, 10, 11, 12, 13, 14, 15] rfl (by decide +kernel)
set_option maxRecDepth 20000 in
theorem gX7_addRow_X7_addDeaf : GoodIn wsX7_addRow (wsV RX7 25 RX7 yX7_addDeaf wsX7_addDeaf) := goodIn_app (goodIn_m [.methodLink RX7 25 yX7_addDeaf, .instanceMethod yX7_addDeaf, .selects RX7 yX7_addDeaf yX7_addDeaf, .initialized RX7] [3, 4, 5, 6] rfl (by decide +kernel)) ggX7_addRow_X7_addDeaf
set_option maxRecDepth 20000 in
theorem ggX8_read_J7_fill_53178 : GoodIn wsX8_read wsJ7_fill_53178 := goodIn_m _ [6] rfl (by decide +kernel)
set_option maxRecDepth 20000 in
theorem gX8_read_J7_fill_53178 : GoodIn wsX8_read (va_wsS RX8 26 yJ7_fill_53178 wsJ7_fill_53178) := goodIn_app (goodIn_m [.methodLink RX8 26 yJ7_fill_53178, .static yJ7_fill_53178, .initialized RJ7] [3, 4, 5] rfl (by decide +kernel)) ggX8_read_J7_fill_53178
set_option maxRecDepth 20000 in
theorem ggX8_read_X8_endsBehindBlanks : GoodIn wsX8_read wsX8_endsBehindBlanks := goodIn_m _ [11, 2, 12, 13, 99, 100, 101, 102, 103] rfl (by decide +kernel)
set_option maxRecDepth 20000 in
theorem gX8_read_X8_endsBehindBlanks : GoodIn wsX8_read (wsV RX8 35 RX8 yX8_endsBehindBlanks wsX8_endsBehindBlanks) := goodIn_app (goodIn_m [.methodLink RX8 35 yX8_endsBehindBlanks, .instanceMethod yX8_endsBehindBlanks, .selects RX8 yX8_endsBehindBlanks yX8_endsBehindBlanks, .initialized RX8] [7, 8, 9, 10] rfl (by decide +kernel)) ggX8_read_X8_endsBehindBlanks
set_option maxRecDepth 20000 in
theorem ggX8_read_X8_adopt : GoodIn wsX8_read wsX8_adopt := goodIn_m _ [17, 18, 1, 19, 12, 99, 100, 101, 102, 103] rfl (by decide +kernel)
set_option maxRecDepth 20000 in
theorem gX8_read_X8_adopt : GoodIn wsX8_read (wsV RX8 39 RX8 yX8_adopt wsX8_adopt) := goodIn_app (goodIn_m [.methodLink RX8 39 yX8_adopt, .instanceMethod yX8_adopt, .selects RX8 yX8_adopt yX8_adopt, .initialized RX8] [14, 15, 16, 10] rfl (by decide +kernel)) ggX8_read_X8_adopt
set_option maxRecDepth 20000 in
theorem ggX8_read_X8_readItem : GoodIn wsX8_read wsX8_readItem := goodIn_m _ [23, 2, 1, 12, 24, 13, 25, 26, 27, 10, 28, 29, 30, 31, 32, 33, 34, 35, 36, 37, 38, 39, 40, 41, 42, 43, 44, 45, 46, 47, 48, 49, 50, 51, 52, 53, 54, 55, 56, 57, 58, 59, 60, 61, 62, 63, 64, 65, 66, 67, 68, 69, 70, 71, 72, 73, 74, 75, 76, 77, 78, 79, 80, 81, 82, 83, 84, 85, 86, 87, 7, 8, 9, 11, 88, 89, 90, 91, 92, 93, 94, 95, 96, 97, 98, 99, 100, 101, 102, 103] rfl (by decide +kernel)
set_option maxRecDepth 20000 in
theorem gX8_read_X8_readItem : GoodIn wsX8_read (wsV RX8 42 RX8 yX8_readItem wsX8_readItem) := goodIn_app (goodIn_m [.methodLink RX8 42 yX8_readItem, .instanceMethod yX8_readItem, .selects RX8 yX8_readItem yX8_readItem, .initialized RX8] [20, 21, 22, 10] rfl (by decide +kernel)) ggX8_read_X8_readItem
set_option maxRecDepth 20000 in
theorem ggX8_readItem_X8_readWord : GoodIn wsX8_readItem wsX8_readWord := goodIn_m _ [10, 1, 3, 5, 11, 12, 9, 13, 14, 15, 16, 17, 18, 19, 20, 21, 22, 23, 24, 25, 26, 27, 28, 29, 30, 31, 32, 33, 34, 35, 36, 37, 38, 39, 40, 41, 42, 43, 44, 45, 46, 47, 48, 49, 50, 51, 52, 53, 54, 55, 56, 57, 58, 59, 60, 61, 62, 63, 64, 65, 66, 67, 68, 69, 85, 86, 87, 88, 89] rfl (by decide +kernel)
set_option maxRecDepth 20000 in
theorem gX8_readItem_X8_readWord : GoodIn wsX8_readItem (wsV RX8 46 RX8 yX8_readWord wsX8_readWord) := goodIn_app (goodIn_m [.methodLink RX8 46 yX8_readWord, .instanceMethod yX8_readWord, .selects RX8 yX8_readWord yX8_readWord, .initialized RX8] [6, 7, 8, 9] rfl (by decide +kernel)) ggX8_readItem_X8_readWord
set_option maxRecDepth 20000 in
theorem ggX8_readItem_X8_endsBehindBlanks : GoodIn wsX8_readItem wsX8_endsBehindBlanks := goodIn_m _ [73, 1, 3, 5, 85, 86, 87, 88, 89] rfl (by decide +kernel)
set_option maxRecDepth 20000 in
theorem gX8_readItem_X8_endsBehindBlanks : GoodIn wsX8_readItem (wsV RX8 35 RX8 yX8_endsBehindBlanks wsX8_endsBehindBlanks) := goodIn_app (goodIn_m [.methodLink RX8 35 yX8_endsBehindBlanks, .instanceMethod yX8_endsBehindBlanks, .selects RX8 yX8_endsBehindBlanks yX8_endsBehindBlanks, .initialized RX8] [70, 71, 72, 9] rfl (by decide +kernel)) ggX8_readItem_X8_endsBehindBlanks
set_option maxRecDepth 20000 in
theorem ggX8_readItem_X8_readNumber : GoodIn wsX8_readItem wsX8_readNumber := goodIn_m _ [77, 1, 3, 5, 78, 79, 80, 81, 82, 83, 9, 84, 85, 86, 87, 88, 89] rfl (by decide +kernel)
set_option maxRecDepth 20000 in
theorem gX8_readItem_X8_readNumber : GoodIn wsX8_readItem (wsV RX8 49 RX8 yX8_readNumber wsX8_readNumber) := goodIn_app (goodIn_m [.methodLink RX8 49 yX8_readNumber, .instanceMethod yX8_readNumber, .selects RX8 yX8_readNumber yX8_readNumber, .initialized RX8] [74, 75, 76, 9] rfl (by decide +kernel)) ggX8_readItem_X8_readNumber
set_option maxRecDepth 20000 in
theorem ggX8_readWord_X8_isLetter : GoodIn wsX8_readWord wsX8_isLetter := goodIn_m _ [7] rfl (by decide +kernel)
set_option maxRecDepth 20000 in
theorem gX8_readWord_X8_isLetter : GoodIn wsX8_readWord (va_wsS RX8 55 yX8_isLetter wsX8_isLetter) := goodIn_app (goodIn_m [.methodLink RX8 55 yX8_isLetter, .static yX8_isLetter, .initialized RX8] [4, 5, 6] rfl (by decide +kernel)) ggX8_readWord_X8_isLetter
set_option maxRecDepth 20000 in
theorem ggX8_readWord_X8_wordOf : GoodIn wsX8_readWord wsX8_wordOf := goodIn_m _ [10] rfl (by decide +kernel)
set_option maxRecDepth 20000 in
theorem gX8_readWord_X8_wordOf : GoodIn wsX8_readWord (va_wsS RX8 59 yX8_wordOf wsX8_wordOf) := goodIn_app (goodIn_m [.methodLink RX8 59 yX8_wordOf, .static yX8_wordOf, .initialized RX8] [8, 9, 6] rfl (by decide +kernel)) ggX8_readWord_X8_wordOf
set_option maxRecDepth 20000 in
theorem ggX8_readWord_X8_isWord : GoodIn wsX8_readWord wsX8_isWord := goodIn_m _ [14, 3, 15, 16, 17, 18, 19, 20, 21, 22, 23, 24, 25, 26, 27, 28, 29, 30, 31, 32, 33, 34, 35, 36, 37, 38, 39, 40, 41, 42, 43, 44, 45, 46, 47, 48, 49, 50, 51, 52, 53, 54, 55, 56, 57, 58, 59, 60, 61, 62, 63, 64, 65, 66, 67, 68] rfl (by decide +kernel)
set_option maxRecDepth 20000 in
theorem gX8_readWord_X8_isWord : GoodIn wsX8_readWord (wsV RX8 63 RX8 yX8_isWord wsX8_isWord) := goodIn_app (goodIn_m [.methodLink RX8 63 yX8_isWord, .instanceMethod yX8_isWord, .selects RX8 yX8_isWord yX8_isWord, .initialized RX8] [11, 12, 13, 6] rfl (by decide +kernel)) ggX8_readWord_X8_isWord
set_option maxRecDepth 20000 in
theorem ggX8_readNumber_X8_isDigit : GoodIn wsX8_readNumber wsX8_isDigit := goodIn_m _ [11] rfl (by decide +kernel)
set_option maxRecDepth 20000 in
theorem gX8_readNumber_X8_isDigit : GoodIn wsX8_readNumber (va_wsS RX8 67 yX8_isDigit wsX8_isDigit) := goodIn_app (goodIn_m [.methodLink RX8 67 yX8_isDigit, .static yX8_isDigit, .initialized RX8] [8, 9, 10] rfl (by decide +kernel)) ggX8_readNumber_X8_isDigit
set_option maxRecDepth 20000 in
theorem ggX8_isWord_J0_length_8abf5 : GoodIn wsX8_isWord wsJ0_length_8abf5 := goodIn_m _ [6, 7, 8, 9, 10, 5, 11, 12, 13] rfl (by decide +kernel)
set_option maxRecDepth 20000 in
theorem gX8_isWord_J0_length_8abf5 : GoodIn wsX8_isWord (wsV RX8 76 RJ0 yJ0_length_8abf5 wsJ0_length_8abf5) := goodIn_app (goodIn_m [.methodLink RX8 76 yJ0_length_8abf5, .instanceMethod yJ0_length_8abf5, .selects RJ0 yJ0_length_8abf5 yJ0_length_8abf5, .initialized RJ0] [2, 3, 4, 5] rfl (by decide +kernel)) ggX8_isWord_J0_length_8abf5
set_option maxRecDepth 20000 in
theorem ggX8_isWord_J0_charAt_5068e : GoodIn wsX8_isWord wsJ0_charAt_5068e := goodIn_m _ [17, 7, 18, 19, 20, 5, 21, 12, 13, 22, 23, 24, 25, 26, 27, 28, 29, 30, 31, 32, 33, 34, 35, 36, 37, 38, 39, 40, 41, 42, 43, 44, 45, 46, 47, 48, 49, 50] rfl (by decide +kernel)
set_option maxRecDepth 20000 in
theorem gX8_isWord_J0_charAt_5068e : GoodIn wsX8_isWord (wsV RX8 80 RJ0 yJ0_charAt_5068e wsJ0_charAt_5068e) := goodIn_app (goodIn_m [.methodLink RX8 80 yJ0_charAt_5068e, .instanceMethod yJ0_charAt_5068e, .selects RJ0 yJ0_charAt_5068e yJ0_charAt_5068e, .initialized RJ0] [14, 15, 16, 5] rfl (by decide +kernel)) ggX8_isWord_J0_charAt_5068e
set_option maxRecDepth 20000 in
theorem ggX9_wrong_X9_countTogether : GoodIn wsX9_wrong wsX9_countTogether := goodIn_m _ [7, 2, 8, 9, 10, 11, 20, 21, 27, 28, 29, 30, 31, 32, 33, 34, 35, 36, 37, 38, 39, 40, 41, 42, 43, 22, 23, 24, 25, 26] rfl (by decide +kernel)
set_option maxRecDepth 20000 in
theorem gX9_wrong_X9_countTogether : GoodIn wsX9_wrong (wsV RX9 34 RX9 yX9_countTogether wsX9_countTogether) := goodIn_app (goodIn_m [.methodLink RX9 34 yX9_countTogether, .instanceMethod yX9_countTogether, .selects RX9 yX9_countTogether yX9_countTogether, .initialized RX9] [3, 4, 5, 6] rfl (by decide +kernel)) ggX9_wrong_X9_countTogether
set_option maxRecDepth 20000 in
theorem ggX9_wrong_J7_fill_53178 : GoodIn wsX9_wrong wsJ7_fill_53178 := goodIn_m _ [11] rfl (by decide +kernel)
set_option maxRecDepth 20000 in
theorem gX9_wrong_J7_fill_53178 : GoodIn wsX9_wrong (va_wsS RX9 38 yJ7_fill_53178 wsJ7_fill_53178) := goodIn_app (goodIn_m [.methodLink RX9 38 yJ7_fill_53178, .static yJ7_fill_53178, .initialized RJ7] [8, 9, 10] rfl (by decide +kernel)) ggX9_wrong_J7_fill_53178
set_option maxRecDepth 20000 in
theorem ggX9_wrong_X9_giveOne : GoodIn wsX9_wrong wsX9_giveOne := goodIn_m _ [15, 1, 16, 17, 18, 19, 20, 21] rfl (by decide +kernel)
set_option maxRecDepth 20000 in
theorem gX9_wrong_X9_giveOne : GoodIn wsX9_wrong (wsV RX9 49 RX9 yX9_giveOne wsX9_giveOne) := goodIn_app (goodIn_m [.methodLink RX9 49 yX9_giveOne, .instanceMethod yX9_giveOne, .selects RX9 yX9_giveOne yX9_giveOne, .initialized RX9] [12, 13, 14, 6] rfl (by decide +kernel)) ggX9_wrong_X9_giveOne
set_option maxRecDepth 20000 in
theorem ggX9_countTogether_J7_fill_53178 : GoodIn wsX9_countTogether wsJ7_fill_53178 := goodIn_m _ [5] rfl (by decide +kernel)
set_option maxRecDepth 20000 in
theorem gX9_countTogether_J7_fill_53178 : GoodIn wsX9_countTogether (va_wsS RX9 38 yJ7_fill_53178 wsJ7_fill_53178) := goodIn_app (goodIn_m [.methodLink RX9 38 yJ7_fill_53178, .static yJ7_fill_53178, .initialized RJ7] [2, 3, 4] rfl (by decide +kernel)) ggX9_countTogether_J7_fill_53178
set_option maxRecDepth 20000 in
theorem ggX10_pieceWithMost_X10_sharedRows : GoodIn wsX10_pieceWithMost wsX10_sharedRows := goodIn_m _ [5, 6, 7, 8, 9, 10, 11, 12, 13, 14, 27, 28, 29, 15, 16, 17, 18, 19, 20, 21, 22, 23, 24, 25, 26] rfl (by decide +kernel)
set_option maxRecDepth 20000 in
theorem gX10_pieceWithMost_X10_sharedRows : GoodIn wsX10_pieceWithMost (wsV RX10 27 RX10 yX10_sharedRows wsX10_sharedRows) := goodIn_app (goodIn_m [.methodLink RX10 27 yX10_sharedRows, .instanceMethod yX10_sharedRows, .selects RX10 yX10_sharedRows yX10_sharedRows, .initialized RX10] [1, 2, 3, 4] rfl (by decide +kernel)) ggX10_pieceWithMost_X10_sharedRows
set_option maxRecDepth 20000 in
theorem ggX10_piecesWithSome_X10_sharedRows : GoodIn wsX10_piecesWithSome wsX10_sharedRows := goodIn_m _ [5, 6, 7, 8, 9, 10, 11, 12, 13, 14, 27, 28, 29, 15, 16, 17, 18, 19, 20, 21, 22, 23, 24, 25, 26] rfl (by decide +kernel)
set_option maxRecDepth 20000 in
theorem gX10_piecesWithSome_X10_sharedRows : GoodIn wsX10_piecesWithSome (wsV RX10 27 RX10 yX10_sharedRows wsX10_sharedRows) := goodIn_app (goodIn_m [.methodLink RX10 27 yX10_sharedRows, .instanceMethod yX10_sharedRows, .selects RX10 yX10_sharedRows yX10_sharedRows, .initialized RX10] [1, 2, 3, 4] rfl (by decide +kernel)) ggX10_piecesWithSome_X10_sharedRows
set_option maxRecDepth 20000 in
theorem ggX11_init_X8_init : GoodIn wsX11_init wsX8_init := goodIn_m _ [56, 57, 2, 3, 48, 58, 59, 60, 61, 126, 127, 128, 129, 130] rfl (by decide +kernel)
set_option maxRecDepth 20000 in
theorem gX11_init_X8_init : GoodIn wsX11_init (wsX8_init) := ggX11_init_X8_init
set_option maxRecDepth 20000 in
theorem ggX11_init_X7_init : GoodIn wsX11_init wsX7_init := goodIn_m _ [63, 64, 2, 3, 48, 65, 66, 67, 68, 69, 147, 148, 149, 150, 151] rfl (by decide +kernel)
set_option maxRecDepth 20000 in
theorem gX11_init_X7_init_n18 : GoodIn wsX11_init (wsX7_init) := ggX11_init_X7_init
set_option maxRecDepth 20000 in
theorem ggX11_init_X3_init : GoodIn wsX11_init wsX3_init := goodIn_m _ [71, 72, 2, 3, 73, 48, 74, 152, 153, 154] rfl (by decide +kernel)
set_option maxRecDepth 20000 in
theorem gX11_init_X3_init_n25 : GoodIn wsX11_init (wsX3_init) := ggX11_init_X3_init
set_option maxRecDepth 20000 in
theorem ggX11_init_X2_init : GoodIn wsX11_init wsX2_init := goodIn_m _ [76, 77, 2, 3, 48, 78, 79, 80, 81, 82, 83, 84, 85, 155, 156, 157, 158, 159, 160, 161, 162, 163, 164, 165, 166] rfl (by decide +kernel)
set_option maxRecDepth 20000 in
theorem gX11_init_X2_init_n32 : GoodIn wsX11_init (wsX2_init) := ggX11_init_X2_init
set_option maxRecDepth 20000 in
theorem ggX11_init_X1_init : GoodIn wsX11_init wsX1_init := goodIn_m _ [87, 88, 2, 3, 89, 48, 90, 91, 92, 167, 168, 169, 170] rfl (by decide +kernel)
set_option maxRecDepth 20000 in
theorem gX11_init_X1_init_n39 : GoodIn wsX11_init (wsX1_init) := ggX11_init_X1_init
set_option maxRecDepth 20000 in
theorem ggX11_init_X0_init : GoodIn wsX11_init wsX0_init := goodIn_m _ [94, 95, 2, 3, 96, 29, 30, 97, 48, 98, 99, 100, 101, 102, 103, 104, 105, 181, 182, 183, 184, 185, 171, 172, 173, 174, 175, 176, 177, 178, 179, 180] rfl (by decide +kernel)
set_option maxRecDepth 20000 in
theorem gX11_init_X0_init_n46 : GoodIn wsX11_init (wsX0_init) := ggX11_init_X0_init
set_option maxRecDepth 20000 in
theorem ggX11_init_X4_init : GoodIn wsX11_init wsX4_init := goodIn_m _ [101, 102, 2, 3, 48, 103, 104, 105, 181, 182, 183, 184, 185] rfl (by decide +kernel)
set_option maxRecDepth 20000 in
theorem gX11_init_X4_init_n53 : GoodIn wsX11_init (wsX4_init) := ggX11_init_X4_init
set_option maxRecDepth 20000 in
theorem ggX11_init_X5_init : GoodIn wsX11_init wsX5_init := goodIn_m _ [107, 108, 2, 3, 48, 109, 110, 111, 186, 187, 188, 189] rfl (by decide +kernel)
set_option maxRecDepth 20000 in
theorem gX11_init_X5_init_n60 : GoodIn wsX11_init (wsX5_init) := ggX11_init_X5_init
set_option maxRecDepth 20000 in
theorem ggX11_init_X10_init : GoodIn wsX11_init wsX10_init := goodIn_m _ [113, 114, 2, 3, 48, 115, 116, 190, 191, 192] rfl (by decide +kernel)
set_option maxRecDepth 20000 in
theorem gX11_init_X10_init_n67 : GoodIn wsX11_init (wsX10_init) := ggX11_init_X10_init
set_option maxRecDepth 20000 in
theorem ggX11_init_X9_init : GoodIn wsX11_init wsX9_init := goodIn_m _ [118, 119, 2, 3, 120, 48, 121, 122, 193, 194] rfl (by decide +kernel)
set_option maxRecDepth 20000 in
theorem gX11_init_X9_init_n74 : GoodIn wsX11_init (wsX9_init) := ggX11_init_X9_init
set_option maxRecDepth 20000 in
theorem ggX11_init_X6_init : GoodIn wsX11_init wsX6_init := goodIn_m _ [124, 125, 2, 3] rfl (by decide +kernel)
set_option maxRecDepth 20000 in
theorem gX11_init_X6_init_n81 : GoodIn wsX11_init (wsX6_init) := ggX11_init_X6_init
set_option maxRecDepth 20000 in
theorem ggX11_type_X11_within : GoodIn wsX11_type wsX11_within := goodIn_m _ [5] rfl (by decide +kernel)
set_option maxRecDepth 20000 in
theorem gX11_type_X11_within : GoodIn wsX11_type (va_wsS RX11 104 yX11_within wsX11_within) := goodIn_app (goodIn_m [.methodLink RX11 104 yX11_within, .static yX11_within, .initialized RX11] [2, 3, 4] rfl (by decide +kernel)) ggX11_type_X11_within
set_option maxRecDepth 20000 in
theorem ggX11_type_X8_append : GoodIn wsX11_type wsX8_append := goodIn_m _ [10, 11, 12, 29, 30, 31, 32, 33] rfl (by decide +kernel)
set_option maxRecDepth 20000 in
theorem gX11_type_X8_append : GoodIn wsX11_type (wsV RX11 108 RX8 yX8_append wsX8_append) := goodIn_app (goodIn_m [.methodLink RX11 108 yX8_append, .instanceMethod yX8_append, .selects RX8 yX8_append yX8_append, .initialized RX8] [6, 7, 8, 9] rfl (by decide +kernel)) ggX11_type_X8_append
set_option maxRecDepth 20000 in
theorem ggX11_rules_X8_read : GoodIn wsX11_rules wsX8_read := goodIn_m _ [6, 7, 8, 9, 10, 11, 12, 13, 14, 15, 5, 16, 17, 18, 19, 20, 21, 22, 23, 24, 25, 26, 27, 28, 29, 30, 31, 32, 33, 34, 35, 36, 37, 38, 39, 40, 41, 42, 43, 44, 45, 46, 47, 48, 49, 50, 51, 52, 53, 54, 55, 56, 57, 58, 59, 60, 61, 62, 63, 64, 65, 66, 67, 68, 69, 70, 71, 72, 73, 74, 75, 76, 77, 78, 79, 80, 81, 82, 83, 84, 85, 86, 87, 88, 89, 90, 91, 92, 93, 94, 95, 96, 97, 98, 99, 100, 101, 102, 103, 128, 129, 130, 131, 132] rfl (by decide +kernel)
set_option maxRecDepth 20000 in
theorem gX11_rules_X8_read : GoodIn wsX11_rules (wsV RX11 115 RX8 yX8_read wsX8_read) := goodIn_app (goodIn_m [.methodLink RX11 115 yX8_read, .instanceMethod yX8_read, .selects RX8 yX8_read yX8_read, .initialized RX8] [2, 3, 4, 5] rfl (by decide +kernel)) ggX11_rules_X8_read
set_option maxRecDepth 20000 in
theorem ggX11_rules_X11_nothingIsFound : GoodIn wsX11_rules wsX11_nothingIsFound := goodIn_m _ [108, 109, 110, 111, 112, 113, 114, 115, 116, 117, 118, 119, 120, 121, 122, 123, 124, 125, 126, 127] rfl (by decide +kernel)
set_option maxRecDepth 20000 in
theorem gX11_rules_X11_nothingIsFound : GoodIn wsX11_rules (wsV RX11 119 RX11 yX11_nothingIsFound wsX11_nothingIsFound) := goodIn_app (goodIn_m [.methodLink RX11 119 yX11_nothingIsFound, .instanceMethod yX11_nothingIsFound, .selects RX11 yX11_nothingIsFound yX11_nothingIsFound, .initialized RX11] [104, 105, 106, 107] rfl (by decide +kernel)) ggX11_rules_X11_nothingIsFound
set_option maxRecDepth 20000 in
theorem ggX11_rule_X11_within : GoodIn wsX11_rule wsX11_within := goodIn_m _ [5] rfl (by decide +kernel)
set_option maxRecDepth 20000 in
theorem gX11_rule_X11_within : GoodIn wsX11_rule (va_wsS RX11 104 yX11_within wsX11_within) := goodIn_app (goodIn_m [.methodLink RX11 104 yX11_within, .static yX11_within, .initialized RX11] [2, 3, 4] rfl (by decide +kernel)) ggX11_rule_X11_within
set_option maxRecDepth 20000 in
theorem ggX11_rule_X8_ruleNow : GoodIn wsX11_rule wsX8_ruleNow := goodIn_m _ [10, 11, 28, 29, 30, 31, 32] rfl (by decide +kernel)
set_option maxRecDepth 20000 in
theorem gX11_rule_X8_ruleNow : GoodIn wsX11_rule (wsV RX11 122 RX8 yX8_ruleNow wsX8_ruleNow) := goodIn_app (goodIn_m [.methodLink RX11 122 yX8_ruleNow, .instanceMethod yX8_ruleNow, .selects RX8 yX8_ruleNow yX8_ruleNow, .initialized RX8] [6, 7, 8, 9] rfl (by decide +kernel)) ggX11_rule_X8_ruleNow
set_option maxRecDepth 20000 in
theorem ggX11_row_X11_isLoudness : GoodIn wsX11_row wsX11_isLoudness := goodIn_m _ [5, 6, 7, 4, 8] rfl (by decide +kernel)
set_option maxRecDepth 20000 in
theorem gX11_row_X11_isLoudness : GoodIn wsX11_row (va_wsS RX11 126 yX11_isLoudness wsX11_isLoudness) := goodIn_app (goodIn_m [.methodLink RX11 126 yX11_isLoudness, .static yX11_isLoudness, .initialized RX11] [2, 3, 4] rfl (by decide +kernel)) ggX11_row_X11_isLoudness
set_option maxRecDepth 20000 in
theorem ggX11_row_X11_nothingIsFound : GoodIn wsX11_row wsX11_nothingIsFound := goodIn_m _ [12, 13, 14, 15, 30, 31, 32, 33, 34, 35, 36, 37, 38, 39, 40, 41, 42, 43, 44, 45] rfl (by decide +kernel)
set_option maxRecDepth 20000 in
theorem gX11_row_X11_nothingIsFound : GoodIn wsX11_row (wsV RX11 119 RX11 yX11_nothingIsFound wsX11_nothingIsFound) := goodIn_app (goodIn_m [.methodLink RX11 119 yX11_nothingIsFound, .instanceMethod yX11_nothingIsFound, .selects RX11 yX11_nothingIsFound yX11_nothingIsFound, .initialized RX11] [9, 10, 11, 4] rfl (by decide +kernel)) ggX11_row_X11_nothingIsFound
set_option maxRecDepth 20000 in
theorem ggX11_row_X7_addRow : GoodIn wsX11_row wsX7_addRow := goodIn_m _ [20, 21, 22, 23, 24, 25, 19, 26, 27, 28, 29, 46, 47, 48, 49, 50] rfl (by decide +kernel)
set_option maxRecDepth 20000 in
theorem gX11_row_X7_addRow : GoodIn wsX11_row (wsV RX11 133 RX7 yX7_addRow wsX7_addRow) := goodIn_app (goodIn_m [.methodLink RX11 133 yX7_addRow, .instanceMethod yX7_addRow, .selects RX7 yX7_addRow yX7_addRow, .initialized RX7] [16, 17, 18, 19] rfl (by decide +kernel)) ggX11_row_X7_addRow
set_option maxRecDepth 20000 in
theorem ggX11_deaf_X11_within : GoodIn wsX11_deaf wsX11_within := goodIn_m _ [5] rfl (by decide +kernel)
set_option maxRecDepth 20000 in
theorem gX11_deaf_X11_within : GoodIn wsX11_deaf (va_wsS RX11 104 yX11_within wsX11_within) := goodIn_app (goodIn_m [.methodLink RX11 104 yX11_within, .static yX11_within, .initialized RX11] [2, 3, 4] rfl (by decide +kernel)) ggX11_deaf_X11_within
set_option maxRecDepth 20000 in
theorem ggX11_deaf_X11_nothingIsFound : GoodIn wsX11_deaf wsX11_nothingIsFound := goodIn_m _ [9, 10, 11, 12, 22, 23, 24, 25, 26, 27, 28, 29, 30, 31, 32, 33, 34, 35, 36, 37] rfl (by decide +kernel)
set_option maxRecDepth 20000 in
theorem gX11_deaf_X11_nothingIsFound : GoodIn wsX11_deaf (wsV RX11 119 RX11 yX11_nothingIsFound wsX11_nothingIsFound) := goodIn_app (goodIn_m [.methodLink RX11 119 yX11_nothingIsFound, .instanceMethod yX11_nothingIsFound, .selects RX11 yX11_nothingIsFound yX11_nothingIsFound, .initialized RX11] [6, 7, 8, 4] rfl (by decide +kernel)) ggX11_deaf_X11_nothingIsFound
set_option maxRecDepth 20000 in
theorem ggX11_deaf_X7_addDeaf : GoodIn wsX11_deaf wsX7_addDeaf := goodIn_m _ [17, 18, 19, 20, 21, 38, 39, 40, 41, 42] rfl (by decide +kernel)
set_option maxRecDepth 20000 in
theorem gX11_deaf_X7_addDeaf : GoodIn wsX11_deaf (wsV RX11 137 RX7 yX7_addDeaf wsX7_addDeaf) := goodIn_app (goodIn_m [.methodLink RX11 137 yX7_addDeaf, .instanceMethod yX7_addDeaf, .selects RX7 yX7_addDeaf yX7_addDeaf, .initialized RX7] [13, 14, 15, 16] rfl (by decide +kernel)) ggX11_deaf_X7_addDeaf
set_option maxRecDepth 20000 in
theorem ggX11_out_X11_areRows : GoodIn wsX11_out wsX11_areRows := goodIn_m _ [6, 1, 28, 29, 30, 31, 32, 33, 34, 35, 36, 37, 38, 39, 40, 41, 42, 43, 44, 45, 46, 47, 48] rfl (by decide +kernel)
set_option maxRecDepth 20000 in
theorem gX11_out_X11_areRows : GoodIn wsX11_out (wsV RX11 140 RX11 yX11_areRows wsX11_areRows) := goodIn_app (goodIn_m [.methodLink RX11 140 yX11_areRows, .instanceMethod yX11_areRows, .selects RX11 yX11_areRows yX11_areRows, .initialized RX11] [2, 3, 4, 5] rfl (by decide +kernel)) ggX11_out_X11_areRows
set_option maxRecDepth 20000 in
theorem ggX11_out_X11_within : GoodIn wsX11_out wsX11_within := goodIn_m _ [9] rfl (by decide +kernel)
set_option maxRecDepth 20000 in
theorem gX11_out_X11_within : GoodIn wsX11_out (va_wsS RX11 104 yX11_within wsX11_within) := goodIn_app (goodIn_m [.methodLink RX11 104 yX11_within, .static yX11_within, .initialized RX11] [7, 8, 5] rfl (by decide +kernel)) ggX11_out_X11_within
set_option maxRecDepth 20000 in
theorem ggX11_out_X7_setOut : GoodIn wsX11_out wsX7_setOut := goodIn_m _ [14, 15, 16, 17, 18, 19, 20, 44, 45, 46, 47, 48] rfl (by decide +kernel)
set_option maxRecDepth 20000 in
theorem gX11_out_X7_setOut : GoodIn wsX11_out (wsV RX11 144 RX7 yX7_setOut wsX7_setOut) := goodIn_app (goodIn_m [.methodLink RX11 144 yX7_setOut, .instanceMethod yX7_setOut, .selects RX7 yX7_setOut yX7_setOut, .initialized RX7] [10, 11, 12, 13] rfl (by decide +kernel)) ggX11_out_X7_setOut
set_option maxRecDepth 20000 in
theorem ggX11_out_X11_nothingIsFound : GoodIn wsX11_out wsX11_nothingIsFound := goodIn_m _ [24, 25, 26, 27, 28, 29, 30, 31, 32, 33, 34, 35, 36, 37, 38, 39, 40, 41, 42, 43] rfl (by decide +kernel)
set_option maxRecDepth 20000 in
theorem gX11_out_X11_nothingIsFound : GoodIn wsX11_out (wsV RX11 119 RX11 yX11_nothingIsFound wsX11_nothingIsFound) := goodIn_app (goodIn_m [.methodLink RX11 119 yX11_nothingIsFound, .instanceMethod yX11_nothingIsFound, .selects RX11 yX11_nothingIsFound yX11_nothingIsFound, .initialized RX11] [21, 22, 23, 5] rfl (by decide +kernel)) ggX11_out_X11_nothingIsFound
set_option maxRecDepth 20000 in
theorem ggX11_hush_X11_nothingIsFound : GoodIn wsX11_hush wsX11_nothingIsFound := goodIn_m _ [8, 9, 10, 11, 12, 13, 14, 15, 16, 17, 18, 19, 20, 21, 22, 23, 24, 25, 26, 27] rfl (by decide +kernel)
set_option maxRecDepth 20000 in
theorem gX11_hush_X11_nothingIsFound : GoodIn wsX11_hush (wsV RX11 119 RX11 yX11_nothingIsFound wsX11_nothingIsFound) := goodIn_app (goodIn_m [.methodLink RX11 119 yX11_nothingIsFound, .instanceMethod yX11_nothingIsFound, .selects RX11 yX11_nothingIsFound yX11_nothingIsFound, .initialized RX11] [4, 5, 6, 7] rfl (by decide +kernel)) ggX11_hush_X11_nothingIsFound
set_option maxRecDepth 20000 in
theorem ggX11_pieces_X11_cutNow : GoodIn wsX11_pieces wsX11_cutNow := goodIn_m _ [6, 7, 1, 8, 9, 10, 11, 12, 13, 14, 15, 16, 17, 18, 19, 20, 21, 22, 23, 24, 25, 26, 27, 28, 29, 30, 31, 32, 33, 34, 35, 36, 37, 38, 39, 40, 41, 42, 43, 44, 45, 46, 47, 48, 49, 50, 51, 52, 53, 54, 55, 56, 57, 58, 59, 60, 61, 62, 63, 64, 65, 66, 67, 68, 69, 70, 71, 72, 73, 74, 75, 76, 77, 78, 79, 80, 81, 82, 83, 84, 85, 86, 87, 88, 89, 90, 91, 92, 93, 94, 107, 108, 109, 110, 111, 95, 96, 97, 98, 99, 100, 101, 102, 103, 104, 105, 106, 112, 113, 114, 115, 116, 117, 118, 119] rfl (by decide +kernel)
set_option maxRecDepth 20000 in
theorem gX11_pieces_X11_cutNow : GoodIn wsX11_pieces (wsV RX11 151 RX11 yX11_cutNow wsX11_cutNow) := goodIn_app (goodIn_m [.methodLink RX11 151 yX11_cutNow, .instanceMethod yX11_cutNow, .selects RX11 yX11_cutNow yX11_cutNow, .initialized RX11] [2, 3, 4, 5] rfl (by decide +kernel)) ggX11_pieces_X11_cutNow
set_option maxRecDepth 20000 in
theorem ggX11_piece_X11_isPiece : GoodIn wsX11_piece wsX11_isPiece := goodIn_m _ [6, 1, 7, 8, 9, 5, 10, 11, 12, 13, 14, 15, 16, 17, 18, 19, 20, 21, 22, 23, 24, 25, 26, 27, 28, 29, 30, 31, 32, 33, 34, 35, 36, 37, 38, 39, 40, 41, 42, 43, 44, 45, 46, 47, 48, 49, 50, 51, 52, 53, 54, 55, 56, 57, 58, 59, 60, 61, 62, 63, 64, 65, 66, 67, 68, 69, 70, 71, 72, 73, 74, 75, 76, 77, 78, 79, 80, 81, 82, 83, 84, 85, 90, 91, 92, 93, 94, 95, 96, 97, 98, 99, 100, 101, 102, 103, 104, 105, 106, 107, 108, 109, 110, 111, 112, 113, 114, 115, 116, 117, 118, 119, 120, 121, 122, 123, 124, 125, 126, 127, 128, 129, 130] rfl (by decide +kernel)
set_option maxRecDepth 20000 in
theorem gX11_piece_X11_isPiece : GoodIn wsX11_piece (wsV RX11 166 RX11 yX11_isPiece wsX11_isPiece) := goodIn_app (goodIn_m [.methodLink RX11 166 yX11_isPiece, .instanceMethod yX11_isPiece, .selects RX11 yX11_isPiece yX11_isPiece, .initialized RX11] [2, 3, 4, 5] rfl (by decide +kernel)) ggX11_piece_X11_isPiece
set_option maxRecDepth 20000 in
theorem ggX11_piece_X2_middleOf : GoodIn wsX11_piece wsX2_middleOf := goodIn_m _ [89, 26, 78, 106, 107, 108, 109, 110, 111, 112, 113, 114, 115, 116, 117] rfl (by decide +kernel)
set_option maxRecDepth 20000 in
theorem gX11_piece_X2_middleOf : GoodIn wsX11_piece (wsV RX11 178 RX2 yX2_middleOf wsX2_middleOf) := goodIn_app (goodIn_m [.methodLink RX11 178 yX2_middleOf, .instanceMethod yX2_middleOf, .selects RX2 yX2_middleOf yX2_middleOf, .initialized RX2] [86, 87, 88, 24] rfl (by decide +kernel)) ggX11_piece_X2_middleOf
set_option maxRecDepth 20000 in
theorem ggX11_of_X11_within : GoodIn wsX11_of wsX11_within := goodIn_m _ [6] rfl (by decide +kernel)
set_option maxRecDepth 20000 in
theorem gX11_of_X11_within : GoodIn wsX11_of (va_wsS RX11 104 yX11_within wsX11_within) := goodIn_app (goodIn_m [.methodLink RX11 104 yX11_within, .static yX11_within, .initialized RX11] [3, 4, 5] rfl (by decide +kernel)) ggX11_of_X11_within
set_option maxRecDepth 20000 in
theorem ggX11_of_X11_cutNow : GoodIn wsX11_of wsX11_cutNow := goodIn_m _ [10, 11, 2, 1, 12, 13, 14, 15, 16, 17, 18, 19, 20, 21, 22, 23, 24, 25, 26, 27, 28, 29, 30, 31, 32, 33, 34, 35, 36, 37, 38, 39, 40, 41, 42, 43, 44, 45, 46, 47, 48, 49, 50, 51, 52, 53, 54, 55, 56, 57, 58, 59, 60, 61, 62, 63, 64, 65, 66, 67, 68, 69, 70, 71, 72, 73, 74, 75, 76, 77, 78, 79, 80, 81, 82, 83, 84, 85, 86, 87, 88, 89, 90, 91, 92, 93, 94, 95, 96, 97, 115, 116, 117, 118, 119, 103, 104, 105, 106, 107, 108, 109, 110, 111, 112, 113, 114, 98, 99, 100, 101, 102, 120, 121, 122] rfl (by decide +kernel)
set_option maxRecDepth 20000 in
theorem gX11_of_X11_cutNow : GoodIn wsX11_of (wsV RX11 151 RX11 yX11_cutNow wsX11_cutNow) := goodIn_app (goodIn_m [.methodLink RX11 151 yX11_cutNow, .instanceMethod yX11_cutNow, .selects RX11 yX11_cutNow yX11_cutNow, .initialized RX11] [7, 8, 9, 5] rfl (by decide +kernel)) ggX11_of_X11_cutNow
set_option maxRecDepth 20000 in
theorem ggX11_like_X11_isPiece : GoodIn wsX11_like wsX11_isPiece := goodIn_m _ [8, 2, 9, 10, 11, 7, 12, 13, 14, 15, 3, 16, 17, 18, 19, 20, 21, 22, 23, 24, 25, 26, 27, 28, 29, 30, 31, 32, 33, 34, 35, 36, 37, 38, 39, 40, 41, 42, 43, 44, 45, 46, 47, 48, 49, 50, 51, 52, 53, 54, 55, 56, 57, 58, 59, 60, 61, 62, 63, 64, 65, 66, 67, 68, 69, 70, 71, 72, 73, 74, 75, 76, 77, 78, 79, 80, 81, 82, 83, 84, 85, 86, 96, 97, 98, 99, 100, 101, 102, 103, 104, 105, 106, 107, 108, 109, 110, 111, 112, 113, 114, 115, 116, 117, 118, 119, 120, 121, 122, 123, 124, 125, 126, 127, 128, 129, 130, 131, 132, 133, 134, 135, 136] rfl (by decide +kernel)
set_option maxRecDepth 20000 in
theorem gX11_like_X11_isPiece : GoodIn wsX11_like (wsV RX11 166 RX11 yX11_isPiece wsX11_isPiece) := goodIn_app (goodIn_m [.methodLink RX11 166 yX11_isPiece, .instanceMethod yX11_isPiece, .selects RX11 yX11_isPiece yX11_isPiece, .initialized RX11] [4, 5, 6, 7] rfl (by decide +kernel)) ggX11_like_X11_isPiece
set_option maxRecDepth 20000 in
theorem ggX11_like_X8_ruleNow : GoodIn wsX11_like wsX8_ruleNow := goodIn_m _ [20, 21, 124, 125, 126, 127, 128] rfl (by decide +kernel)
set_option maxRecDepth 20000 in
theorem gX11_like_X8_ruleNow : GoodIn wsX11_like (wsV RX11 122 RX8 yX8_ruleNow wsX8_ruleNow) := goodIn_app (goodIn_m [.methodLink RX11 122 yX8_ruleNow, .instanceMethod yX8_ruleNow, .selects RX8 yX8_ruleNow yX8_ruleNow, .initialized RX8] [16, 17, 18, 19] rfl (by decide +kernel)) ggX11_like_X8_ruleNow
set_option maxRecDepth 20000 in
theorem ggX11_like_X2_likeness : GoodIn wsX11_like wsX2_likeness := goodIn_m _ [90, 79, 76, 72, 73, 65, 74, 91, 7, 92, 93, 94, 95, 112, 113, 114, 115, 116, 117, 118, 119, 120, 121, 122, 123] rfl (by decide +kernel)
set_option maxRecDepth 20000 in
theorem gX11_like_X2_likeness : GoodIn wsX11_like (wsV RX11 186 RX2 yX2_likeness wsX2_likeness) := goodIn_app (goodIn_m [.methodLink RX11 186 yX2_likeness, .instanceMethod yX2_likeness, .selects RX2 yX2_likeness yX2_likeness, .initialized RX2] [87, 88, 89, 25] rfl (by decide +kernel)) ggX11_like_X2_likeness
set_option maxRecDepth 20000 in
theorem ggX11_heap_X11_isPiece : GoodIn wsX11_heap wsX11_isPiece := goodIn_m _ [5, 6, 7, 8, 9, 4, 10, 11, 12, 13, 14, 15, 16, 17, 18, 19, 20, 21, 22, 23, 24, 25, 26, 27, 28, 29, 30, 31, 32, 33, 34, 35, 36, 37, 38, 39, 40, 41, 42, 43, 44, 45, 46, 47, 48, 49, 50, 51, 52, 53, 54, 55, 56, 57, 58, 59, 60, 61, 62, 63, 64, 65, 66, 67, 68, 69, 70, 71, 72, 73, 74, 75, 76, 77, 78, 79, 80, 81, 82, 83, 84, 85, 197, 198, 199, 200, 201, 202, 203, 204, 205, 206, 207, 208, 209, 210, 211, 212, 213, 214, 215, 216, 217, 218, 219, 220, 221, 222, 223, 224, 225, 226, 227, 228, 229, 230, 231, 232, 233, 234, 235, 236, 237] rfl (by decide +kernel)
set_option maxRecDepth 20000 in
theorem gX11_heap_X11_isPiece : GoodIn wsX11_heap (wsV RX11 166 RX11 yX11_isPiece wsX11_isPiece) := goodIn_app (goodIn_m [.methodLink RX11 166 yX11_isPiece, .instanceMethod yX11_isPiece, .selects RX11 yX11_isPiece yX11_isPiece, .initialized RX11] [1, 2, 3, 4] rfl (by decide +kernel)) ggX11_heap_X11_isPiece
set_option maxRecDepth 20000 in
theorem ggX11_heap_X11_within : GoodIn wsX11_heap wsX11_within := goodIn_m _ [85] rfl (by decide +kernel)
set_option maxRecDepth 20000 in
theorem gX11_heap_X11_within : GoodIn wsX11_heap (va_wsS RX11 104 yX11_within wsX11_within) := goodIn_app (goodIn_m [.methodLink RX11 104 yX11_within, .static yX11_within, .initialized RX11] [83, 84, 4] rfl (by decide +kernel)) ggX11_heap_X11_within
set_option maxRecDepth 20000 in
theorem ggX11_heap_X11_heapNow : GoodIn wsX11_heap wsX11_heapNow := goodIn_m _ [89, 6, 90, 91, 14, 92, 12, 13, 93, 7, 8, 9, 4, 10, 11, 15, 16, 17, 18, 19, 20, 21, 22, 23, 24, 25, 26, 27, 28, 29, 30, 31, 32, 33, 34, 35, 36, 37, 38, 39, 40, 41, 42, 43, 44, 45, 46, 47, 48, 49, 50, 51, 52, 53, 54, 55, 56, 57, 58, 59, 60, 61, 62, 63, 64, 65, 66, 67, 68, 69, 70, 71, 72, 73, 74, 75, 76, 77, 78, 79, 80, 81, 82, 94, 95, 96, 97, 98, 99, 100, 101, 102, 103, 104, 105, 106, 107, 108, 109, 110, 111, 112, 113, 114, 115, 116, 117, 118, 119, 120, 121, 122, 123, 124, 125, 126, 127, 128, 129, 130, 131, 132, 133, 134, 135, 136, 137, 138, 139, 140, 141, 142, 143, 144, 145, 146, 147, 148, 149, 150, 151, 152, 153, 154, 155, 156, 157, 158, 159, 160, 161, 162, 163, 164, 165, 166, 167, 168, 169, 170, 171, 172, 173, 174, 175, 176, 177, 178, 179, 180, 181, 182, 183, 184, 185, 186, 187, 197, 198, 199, 200, 201, 202, 203, 204, 205, 206, 207, 208, 209, 210, 211, 212, 213, 214, 215, 216, 217, 218, 219, 220, 221, 222, 223, 224, 238, 239, 240, 241, 242, 243, 244, 245, 246, 247, 225, 226, 227, 228, 229, 230, 231, 232, 233, 234, 235, 236, 237, 248, 249, 250, 251, 192, 193, 194, 195, 196] rfl (by decide +kernel)
set_option maxRecDepth 20000 in
theorem gX11_heap_X11_heapNow : GoodIn wsX11_heap (wsV RX11 190 RX11 yX11_heapNow wsX11_heapNow) := goodIn_app (goodIn_m [.methodLink RX11 190 yX11_heapNow, .instanceMethod yX11_heapNow, .selects RX11 yX11_heapNow yX11_heapNow, .initialized RX11] [86, 87, 88, 4] rfl (by decide +kernel)) ggX11_heap_X11_heapNow
set_option maxRecDepth 20000 in
theorem ggX11_heap_X11_byWay : GoodIn wsX11_heap wsX11_byWay := goodIn_m _ [191, 92, 93, 197, 198, 199, 200, 201, 202, 203, 204, 205, 206, 207, 208, 209, 210, 211, 212, 238, 239, 240, 241, 242, 243, 244, 245, 246, 247] rfl (by decide +kernel)
set_option maxRecDepth 20000 in
theorem gX11_heap_X11_byWay : GoodIn wsX11_heap (wsV RX11 194 RX11 yX11_byWay wsX11_byWay) := goodIn_app (goodIn_m [.methodLink RX11 194 yX11_byWay, .instanceMethod yX11_byWay, .selects RX11 yX11_byWay yX11_byWay, .initialized RX11] [188, 189, 190, 4] rfl (by decide +kernel)) ggX11_heap_X11_byWay
set_option maxRecDepth 20000 in
theorem ggX11_worth_X11_within : GoodIn wsX11_worth wsX11_within := goodIn_m _ [5] rfl (by decide +kernel)
set_option maxRecDepth 20000 in
theorem gX11_worth_X11_within : GoodIn wsX11_worth (va_wsS RX11 104 yX11_within wsX11_within) := goodIn_app (goodIn_m [.methodLink RX11 104 yX11_within, .static yX11_within, .initialized RX11] [2, 3, 4] rfl (by decide +kernel)) ggX11_worth_X11_within
set_option maxRecDepth 20000 in
theorem ggX11_worth_X11_heapNow : GoodIn wsX11_worth wsX11_heapNow := goodIn_m _ [9, 10, 11, 12, 13, 14, 15, 16, 17, 18, 19, 20, 4, 21, 22, 23, 24, 25, 26, 27, 28, 29, 30, 31, 32, 33, 34, 35, 36, 37, 38, 39, 40, 41, 42, 43, 44, 45, 46, 47, 48, 49, 50, 51, 52, 53, 54, 55, 56, 57, 58, 59, 60, 61, 62, 63, 64, 65, 66, 67, 68, 69, 70, 71, 72, 73, 74, 75, 76, 77, 78, 79, 80, 81, 82, 83, 84, 85, 86, 87, 88, 89, 90, 91, 92, 93, 94, 95, 96, 97, 98, 99, 100, 101, 102, 103, 104, 105, 106, 107, 108, 109, 110, 111, 112, 113, 114, 115, 116, 117, 118, 119, 120, 121, 122, 123, 124, 125, 126, 127, 128, 129, 130, 131, 132, 133, 134, 135, 136, 137, 138, 139, 140, 141, 142, 143, 144, 145, 146, 147, 148, 149, 150, 151, 152, 153, 154, 155, 156, 157, 158, 159, 160, 161, 162, 163, 164, 165, 166, 167, 168, 169, 170, 171, 172, 173, 174, 175, 176, 177, 178, 179, 180, 181, 182, 183, 184, 194, 195, 196, 197, 198, 199, 200, 201, 202, 203, 204, 205, 206, 207, 208, 209, 210, 211, 212, 213, 214, 215, 216, 217, 218, 219, 220, 221, 222, 223, 224, 225, 226, 227, 228, 229, 230, 231, 232, 233, 234, 235, 236, 237, 238, 239, 240, 241, 242, 243, 244, 245, 246, 247, 248, 189, 190, 191, 192, 193] rfl (by decide +kernel)
set_option maxRecDepth 20000 in
theorem gX11_worth_X11_heapNow : GoodIn wsX11_worth (wsV RX11 190 RX11 yX11_heapNow wsX11_heapNow) := goodIn_app (goodIn_m [.methodLink RX11 190 yX11_heapNow, .instanceMethod yX11_heapNow, .selects RX11 yX11_heapNow yX11_heapNow, .initialized RX11] [6, 7, 8, 4] rfl (by decide +kernel)) ggX11_worth_X11_heapNow
set_option maxRecDepth 20000 in
theorem ggX11_worth_X11_byWay : GoodIn wsX11_worth wsX11_byWay := goodIn_m _ [188, 14, 17, 194, 195, 196, 197, 198, 199, 200, 201, 202, 203, 204, 205, 206, 207, 208, 209, 222, 223, 224, 225, 226, 227, 228, 229, 230, 231] rfl (by decide +kernel)
set_option maxRecDepth 20000 in
theorem gX11_worth_X11_byWay : GoodIn wsX11_worth (wsV RX11 194 RX11 yX11_byWay wsX11_byWay) := goodIn_app (goodIn_m [.methodLink RX11 194 yX11_byWay, .instanceMethod yX11_byWay, .selects RX11 yX11_byWay yX11_byWay, .initialized RX11] [185, 186, 187, 4] rfl (by decide +kernel)) ggX11_worth_X11_byWay
set_option maxRecDepth 20000 in
theorem ggX11_near_X11_within : GoodIn wsX11_near wsX11_within := goodIn_m _ [5] rfl (by decide +kernel)
set_option maxRecDepth 20000 in
theorem gX11_near_X11_within : GoodIn wsX11_near (va_wsS RX11 104 yX11_within wsX11_within) := goodIn_app (goodIn_m [.methodLink RX11 104 yX11_within, .static yX11_within, .initialized RX11] [2, 3, 4] rfl (by decide +kernel)) ggX11_near_X11_within
set_option maxRecDepth 20000 in
theorem ggX11_near_X11_heapNow : GoodIn wsX11_near wsX11_heapNow := goodIn_m _ [9, 10, 11, 12, 13, 1, 14, 15, 16, 17, 18, 19, 4, 20, 21, 22, 23, 24, 25, 26, 27, 28, 29, 30, 31, 32, 33, 34, 35, 36, 37, 38, 39, 40, 41, 42, 43, 44, 45, 46, 47, 48, 49, 50, 51, 52, 53, 54, 55, 56, 57, 58, 59, 60, 61, 62, 63, 64, 65, 66, 67, 68, 69, 70, 71, 72, 73, 74, 75, 76, 77, 78, 79, 80, 81, 82, 83, 84, 85, 86, 87, 88, 89, 90, 91, 92, 93, 94, 95, 96, 97, 98, 99, 100, 101, 102, 103, 104, 105, 106, 107, 108, 109, 110, 111, 112, 113, 114, 115, 116, 117, 118, 119, 120, 121, 122, 123, 124, 125, 126, 127, 128, 129, 130, 131, 132, 133, 134, 135, 136, 137, 138, 139, 140, 141, 142, 143, 144, 145, 146, 147, 148, 149, 150, 151, 152, 153, 154, 155, 156, 157, 158, 159, 160, 161, 162, 163, 164, 165, 166, 167, 168, 169, 170, 171, 172, 173, 174, 175, 176, 177, 178, 179, 180, 181, 182, 183, 203, 204, 205, 206, 207, 208, 209, 210, 211, 212, 213, 214, 215, 216, 217, 218, 229, 230, 231, 232, 233, 234, 235, 236, 237, 238, 239, 240, 219, 220, 221, 222, 223, 224, 225, 226, 227, 228, 241, 242, 243, 244, 245, 246, 247, 248, 249, 250, 251, 252, 253, 254, 255, 256, 257, 198, 199, 200, 201, 202] rfl (by decide +kernel)
set_option maxRecDepth 20000 in
theorem gX11_near_X11_heapNow : GoodIn wsX11_near (wsV RX11 190 RX11 yX11_heapNow wsX11_heapNow) := goodIn_app (goodIn_m [.methodLink RX11 190 yX11_heapNow, .instanceMethod yX11_heapNow, .selects RX11 yX11_heapNow yX11_heapNow, .initialized RX11] [6, 7, 8, 4] rfl (by decide +kernel)) ggX11_near_X11_heapNow
set_option maxRecDepth 20000 in
theorem ggX11_near_X11_byWay : GoodIn wsX11_near wsX11_byWay := goodIn_m _ [187, 1, 16, 203, 204, 205, 206, 207, 208, 209, 210, 211, 212, 213, 214, 215, 216, 217, 218, 219, 220, 221, 222, 223, 224, 225, 226, 227, 228] rfl (by decide +kernel)
set_option maxRecDepth 20000 in
theorem gX11_near_X11_byWay : GoodIn wsX11_near (wsV RX11 194 RX11 yX11_byWay wsX11_byWay) := goodIn_app (goodIn_m [.methodLink RX11 194 yX11_byWay, .instanceMethod yX11_byWay, .selects RX11 yX11_byWay yX11_byWay, .initialized RX11] [184, 185, 186, 4] rfl (by decide +kernel)) ggX11_near_X11_byWay
set_option maxRecDepth 20000 in
theorem ggX11_near_X11_nearNow : GoodIn wsX11_near wsX11_nearNow := goodIn_m _ [191, 192, 1, 12, 13, 22, 23, 24, 25, 26, 27, 193, 194, 195, 120, 196, 122, 123, 140, 141, 142, 144, 197, 145, 146, 125, 126, 40, 41, 42, 127, 128, 129, 130, 131, 70, 71, 72, 132, 133, 134, 135, 136, 137, 138, 139, 143, 79, 80, 147, 148, 149, 93, 150, 116, 151, 152, 153, 203, 204, 205, 206, 207, 208, 209, 210, 211, 212, 213, 214, 215, 216, 217, 218, 241, 242, 243, 244, 245, 219, 220, 221, 222, 223, 224, 225, 226, 227, 228, 198, 199, 200, 201, 202, 254, 255, 256, 257] rfl (by decide +kernel)
set_option maxRecDepth 20000 in
theorem gX11_near_X11_nearNow : GoodIn wsX11_near (wsV RX11 207 RX11 yX11_nearNow wsX11_nearNow) := goodIn_app (goodIn_m [.methodLink RX11 207 yX11_nearNow, .instanceMethod yX11_nearNow, .selects RX11 yX11_nearNow yX11_nearNow, .initialized RX11] [188, 189, 190, 4] rfl (by decide +kernel)) ggX11_near_X11_nearNow
set_option maxRecDepth 20000 in
theorem ggX11_sure_X11_isPiece : GoodIn wsX11_sure wsX11_isPiece := goodIn_m _ [6, 7, 8, 9, 10, 5, 11, 12, 13, 14, 15, 16, 17, 18, 19, 20, 21, 22, 23, 24, 25, 26, 27, 28, 29, 30, 31, 32, 33, 34, 35, 36, 37, 38, 39, 40, 41, 42, 43, 44, 45, 46, 47, 48, 49, 50, 51, 52, 53, 54, 55, 56, 57, 58, 59, 60, 61, 62, 63, 64, 65, 66, 67, 68, 69, 70, 71, 72, 73, 74, 75, 76, 77, 78, 79, 80, 81, 82, 83, 84, 85, 86, 202, 203, 204, 205, 206, 207, 208, 209, 210, 211, 212, 213, 214, 215, 216, 217, 218, 219, 220, 221, 222, 223, 224, 225, 226, 227, 228, 229, 230, 231, 232, 233, 234, 235, 236, 237, 238, 239, 240, 241, 242] rfl (by decide +kernel)
set_option maxRecDepth 20000 in
theorem gX11_sure_X11_isPiece : GoodIn wsX11_sure (wsV RX11 166 RX11 yX11_isPiece wsX11_isPiece) := goodIn_app (goodIn_m [.methodLink RX11 166 yX11_isPiece, .instanceMethod yX11_isPiece, .selects RX11 yX11_isPiece yX11_isPiece, .initialized RX11] [2, 3, 4, 5] rfl (by decide +kernel)) ggX11_sure_X11_isPiece
set_option maxRecDepth 20000 in
theorem ggX11_sure_X11_heapNow : GoodIn wsX11_sure wsX11_heapNow := goodIn_m _ [90, 7, 91, 92, 15, 1, 13, 14, 93, 8, 9, 10, 5, 11, 12, 16, 17, 18, 19, 20, 21, 22, 23, 24, 25, 26, 27, 28, 29, 30, 31, 32, 33, 34, 35, 36, 37, 38, 39, 40, 41, 42, 43, 44, 45, 46, 47, 48, 49, 50, 51, 52, 53, 54, 55, 56, 57, 58, 59, 60, 61, 62, 63, 64, 65, 66, 67, 68, 69, 70, 71, 72, 73, 74, 75, 76, 77, 78, 79, 80, 81, 82, 83, 94, 95, 96, 97, 98, 99, 100, 101, 102, 103, 104, 105, 106, 107, 108, 109, 110, 111, 112, 113, 114, 115, 116, 117, 118, 119, 120, 121, 122, 123, 124, 125, 126, 127, 128, 129, 130, 131, 132, 133, 134, 135, 136, 137, 138, 139, 140, 141, 142, 143, 144, 145, 146, 147, 148, 149, 150, 151, 152, 153, 154, 155, 156, 157, 158, 159, 160, 161, 162, 163, 164, 165, 166, 167, 168, 169, 170, 171, 172, 173, 174, 175, 176, 177, 178, 179, 180, 181, 182, 183, 184, 185, 186, 187, 202, 203, 204, 205, 206, 207, 208, 209, 210, 211, 212, 213, 214, 215, 216, 217, 218, 219, 220, 221, 222, 223, 224, 225, 226, 227, 228, 229, 243, 244, 245, 246, 247, 248, 249, 250, 251, 252, 230, 231, 232, 233, 234, 235, 236, 237, 238, 239, 240, 241, 242, 253, 254, 255, 256, 257, 258, 259, 260, 261] rfl (by decide +kernel)
set_option maxRecDepth 20000 in
theorem gX11_sure_X11_heapNow : GoodIn wsX11_sure (wsV RX11 190 RX11 yX11_heapNow wsX11_heapNow) := goodIn_app (goodIn_m [.methodLink RX11 190 yX11_heapNow, .instanceMethod yX11_heapNow, .selects RX11 yX11_heapNow yX11_heapNow, .initialized RX11] [87, 88, 89, 5] rfl (by decide +kernel)) ggX11_sure_X11_heapNow
set_option maxRecDepth 20000 in
theorem ggX11_sure_X11_nearNow : GoodIn wsX11_sure wsX11_nearNow := goodIn_m _ [191, 192, 1, 92, 15, 16, 17, 18, 19, 20, 21, 193, 194, 195, 124, 196, 126, 127, 144, 145, 146, 148, 197, 149, 150, 129, 130, 34, 35, 36, 131, 132, 133, 134, 135, 64, 65, 66, 136, 137, 138, 139, 140, 141, 142, 143, 147, 73, 74, 151, 152, 153, 97, 154, 120, 155, 156, 157, 202, 203, 204, 205, 206, 207, 208, 209, 210, 211, 212, 213, 214, 215, 216, 217, 230, 231, 232, 233, 234, 243, 244, 245, 246, 247, 248, 249, 250, 251, 252, 257, 258, 259, 260, 261, 253, 254, 255, 256] rfl (by decide +kernel)
set_option maxRecDepth 20000 in
theorem gX11_sure_X11_nearNow : GoodIn wsX11_sure (wsV RX11 207 RX11 yX11_nearNow wsX11_nearNow) := goodIn_app (goodIn_m [.methodLink RX11 207 yX11_nearNow, .instanceMethod yX11_nearNow, .selects RX11 yX11_nearNow yX11_nearNow, .initialized RX11] [188, 189, 190, 5] rfl (by decide +kernel)) ggX11_sure_X11_nearNow
set_option maxRecDepth 20000 in
theorem ggX11_sure_X0_sureness : GoodIn wsX11_sure wsX0_sureness := goodIn_m _ [201, 135, 64, 65, 66, 147, 73, 74, 149, 150, 155, 156, 124, 157, 243, 244, 245, 246, 247, 248, 249, 250, 251, 252] rfl (by decide +kernel)
set_option maxRecDepth 20000 in
theorem gX11_sure_X0_sureness : GoodIn wsX11_sure (wsV RX11 219 RX0 yX0_sureness wsX0_sureness) := goodIn_app (goodIn_m [.methodLink RX11 219 yX0_sureness, .instanceMethod yX0_sureness, .selects RX0 yX0_sureness yX0_sureness, .initialized RX0] [198, 199, 200, 124] rfl (by decide +kernel)) ggX11_sure_X0_sureness
set_option maxRecDepth 20000 in
theorem ggX11_middle_X11_isHeapNumber : GoodIn wsX11_middle wsX11_isHeapNumber := goodIn_m _ [5, 6, 7, 4, 8] rfl (by decide +kernel)
set_option maxRecDepth 20000 in
theorem gX11_middle_X11_isHeapNumber : GoodIn wsX11_middle (va_wsS RX11 222 yX11_isHeapNumber wsX11_isHeapNumber) := goodIn_app (goodIn_m [.methodLink RX11 222 yX11_isHeapNumber, .static yX11_isHeapNumber, .initialized RX11] [2, 3, 4] rfl (by decide +kernel)) ggX11_middle_X11_isHeapNumber
set_option maxRecDepth 20000 in
theorem ggX11_middle_X11_within : GoodIn wsX11_middle wsX11_within := goodIn_m _ [8] rfl (by decide +kernel)
set_option maxRecDepth 20000 in
theorem gX11_middle_X11_within : GoodIn wsX11_middle (va_wsS RX11 104 yX11_within wsX11_within) := goodIn_app (goodIn_m [.methodLink RX11 104 yX11_within, .static yX11_within, .initialized RX11] [6, 7, 4] rfl (by decide +kernel)) ggX11_middle_X11_within
set_option maxRecDepth 20000 in
theorem ggX11_middle_X11_refusedHeap : GoodIn wsX11_middle wsX11_refusedHeap := goodIn_m _ [12, 1, 13, 14, 15, 4, 16, 17, 18, 19, 20, 21, 22, 23, 24, 25, 26, 27, 28, 29, 30, 31, 32, 33, 34, 35, 36, 37, 38, 39, 40, 41, 42, 43, 44, 45, 46, 47, 48, 49, 50, 51, 52, 53, 54, 55, 56, 57, 58, 59, 60, 61, 62, 63, 64, 65, 66, 67, 68, 69, 70, 71, 72, 73, 74, 75, 76, 77, 78, 79, 80, 81, 82, 83, 84, 85, 86, 87, 88, 89, 90, 91, 92, 93, 94, 95, 96, 97, 98, 99, 100, 101, 102, 103, 104, 105, 106, 107, 108, 109, 110, 111, 112, 113, 114, 115, 116, 117, 118, 119, 120, 121, 122, 123, 124, 125, 126, 127, 128, 129, 130, 131, 132, 133, 134, 135, 136, 137, 138, 139, 140, 141, 142, 143, 144, 145, 146, 147, 148, 149, 150, 151, 152, 153, 154, 155, 156, 157, 158, 159, 160, 161, 162, 163, 164, 165, 166, 167, 168, 169, 170, 171, 172, 173, 174, 175, 176, 177, 178, 179, 180, 181, 182, 183, 184, 185, 186, 187, 188, 189, 190, 195, 196, 197, 198, 199, 200, 201, 202, 203, 204, 205, 206, 207, 208, 209, 210, 211, 212, 213, 214, 215, 216, 217, 218, 219, 220, 221, 222, 223, 224, 225, 226, 227, 228, 229, 230, 231, 232, 233, 234, 235, 236, 237, 238, 239, 240, 241, 242, 243, 244, 245, 246, 247, 248, 249, 250, 251, 252, 253, 254] rfl (by decide +kernel)
set_option maxRecDepth 20000 in
theorem gX11_middle_X11_refusedHeap : GoodIn wsX11_middle (wsV RX11 225 RX11 yX11_refusedHeap wsX11_refusedHeap) := goodIn_app (goodIn_m [.methodLink RX11 225 yX11_refusedHeap, .instanceMethod yX11_refusedHeap, .selects RX11 yX11_refusedHeap yX11_refusedHeap, .initialized RX11] [9, 10, 11, 4] rfl (by decide +kernel)) ggX11_middle_X11_refusedHeap
set_option maxRecDepth 20000 in
theorem ggX11_middle_X4_middleOf : GoodIn wsX11_middle wsX4_middleOf := goodIn_m _ [194, 166, 168, 221, 222, 223, 224, 225] rfl (by decide +kernel)
set_option maxRecDepth 20000 in
theorem gX11_middle_X4_middleOf : GoodIn wsX11_middle (wsV RX11 231 RX4 yX4_middleOf wsX4_middleOf) := goodIn_app (goodIn_m [.methodLink RX11 231 yX4_middleOf, .instanceMethod yX4_middleOf, .selects RX4 yX4_middleOf yX4_middleOf, .initialized RX4] [191, 192, 193, 164] rfl (by decide +kernel)) ggX11_middle_X4_middleOf
set_option maxRecDepth 20000 in
theorem ggX11_twice_X11_isPiece : GoodIn wsX11_twice wsX11_isPiece := goodIn_m _ [8, 2, 9, 10, 11, 7, 12, 13, 14, 15, 3, 16, 17, 18, 19, 20, 21, 22, 23, 24, 25, 26, 27, 28, 29, 30, 31, 32, 33, 34, 35, 36, 37, 38, 39, 40, 41, 42, 43, 44, 45, 46, 47, 48, 49, 50, 51, 52, 53, 54, 55, 56, 57, 58, 59, 60, 61, 62, 63, 64, 65, 66, 67, 68, 69, 70, 71, 72, 73, 74, 75, 76, 77, 78, 79, 80, 81, 82, 83, 84, 85, 86, 207, 208, 209, 210, 211, 212, 213, 214, 215, 216, 217, 218, 219, 220, 221, 222, 233, 234, 235, 236, 237, 238, 239, 240, 241, 242, 243, 244, 245, 246, 247, 248, 249, 250, 251, 252, 253, 254, 255, 256, 257] rfl (by decide +kernel)
set_option maxRecDepth 20000 in
theorem gX11_twice_X11_isPiece : GoodIn wsX11_twice (wsV RX11 166 RX11 yX11_isPiece wsX11_isPiece) := goodIn_app (goodIn_m [.methodLink RX11 166 yX11_isPiece, .instanceMethod yX11_isPiece, .selects RX11 yX11_isPiece yX11_isPiece, .initialized RX11] [4, 5, 6, 7] rfl (by decide +kernel)) ggX11_twice_X11_isPiece
set_option maxRecDepth 20000 in
theorem ggX11_twice_X11_within : GoodIn wsX11_twice wsX11_within := goodIn_m _ [86] rfl (by decide +kernel)
set_option maxRecDepth 20000 in
theorem gX11_twice_X11_within : GoodIn wsX11_twice (va_wsS RX11 104 yX11_within wsX11_within) := goodIn_app (goodIn_m [.methodLink RX11 104 yX11_within, .static yX11_within, .initialized RX11] [84, 85, 7] rfl (by decide +kernel)) ggX11_twice_X11_within
set_option maxRecDepth 20000 in
theorem ggX11_twice_X11_heapNow : GoodIn wsX11_twice wsX11_heapNow := goodIn_m _ [90, 2, 91, 92, 3, 1, 14, 15, 93, 9, 10, 11, 7, 12, 13, 16, 17, 18, 19, 20, 21, 22, 23, 24, 25, 26, 27, 28, 29, 30, 31, 32, 33, 34, 35, 36, 37, 38, 39, 40, 41, 42, 43, 44, 45, 46, 47, 48, 49, 50, 51, 52, 53, 54, 55, 56, 57, 58, 59, 60, 61, 62, 63, 64, 65, 66, 67, 68, 69, 70, 71, 72, 73, 74, 75, 76, 77, 78, 79, 80, 81, 82, 83, 94, 95, 96, 97, 98, 99, 100, 101, 102, 103, 104, 105, 106, 107, 108, 109, 110, 111, 112, 113, 114, 115, 116, 117, 118, 119, 120, 121, 122, 123, 124, 125, 126, 127, 128, 129, 130, 131, 132, 133, 134, 135, 136, 137, 138, 139, 140, 141, 142, 143, 144, 145, 146, 147, 148, 149, 150, 151, 152, 153, 154, 155, 156, 157, 158, 159, 160, 161, 162, 163, 164, 165, 166, 167, 168, 169, 170, 171, 172, 173, 174, 175, 176, 177, 178, 179, 180, 181, 182, 183, 184, 185, 186, 187, 207, 208, 209, 210, 211, 212, 213, 214, 215, 216, 217, 218, 219, 220, 221, 222, 233, 234, 235, 236, 237, 238, 239, 240, 241, 242, 243, 244, 223, 224, 225, 226, 227, 228, 229, 230, 231, 232, 245, 246, 247, 248, 249, 250, 251, 252, 253, 254, 255, 256, 257, 258, 259, 260, 261, 262, 263, 264, 265, 266] rfl (by decide +kernel)
set_option maxRecDepth 20000 in
theorem gX11_twice_X11_heapNow : GoodIn wsX11_twice (wsV RX11 190 RX11 yX11_heapNow wsX11_heapNow) := goodIn_app (goodIn_m [.methodLink RX11 190 yX11_heapNow, .instanceMethod yX11_heapNow, .selects RX11 yX11_heapNow yX11_heapNow, .initialized RX11] [87, 88, 89, 7] rfl (by decide +kernel)) ggX11_twice_X11_heapNow
set_option maxRecDepth 20000 in
theorem ggX11_twice_X8_ruleNow : GoodIn wsX11_twice wsX8_ruleNow := goodIn_m _ [20, 21, 245, 246, 247, 248, 249] rfl (by decide +kernel)
set_option maxRecDepth 20000 in
theorem gX11_twice_X8_ruleNow : GoodIn wsX11_twice (wsV RX11 122 RX8 yX8_ruleNow wsX8_ruleNow) := goodIn_app (goodIn_m [.methodLink RX11 122 yX8_ruleNow, .instanceMethod yX8_ruleNow, .selects RX8 yX8_ruleNow yX8_ruleNow, .initialized RX8] [16, 17, 18, 19] rfl (by decide +kernel)) ggX11_twice_X8_ruleNow
set_option maxRecDepth 20000 in
theorem ggX11_twice_X4_twoInOne : GoodIn wsX11_twice wsX4_twoInOne := goodIn_m _ [191, 164, 192, 163, 165, 193, 194, 195, 161, 196, 197, 73, 65, 74, 198, 109, 110, 199, 200, 201, 202, 203, 204, 205, 25, 206, 27, 79, 106, 7, 107, 108, 262, 263, 264, 265, 266, 233, 234, 235, 236, 237, 238, 239, 240, 241, 242, 243, 244] rfl (by decide +kernel)
set_option maxRecDepth 20000 in
theorem gX11_twice_X4_twoInOne : GoodIn wsX11_twice (wsV RX11 232 RX4 yX4_twoInOne wsX4_twoInOne) := goodIn_app (goodIn_m [.methodLink RX11 232 yX4_twoInOne, .instanceMethod yX4_twoInOne, .selects RX4 yX4_twoInOne yX4_twoInOne, .initialized RX4] [188, 189, 190, 161] rfl (by decide +kernel)) ggX11_twice_X4_twoInOne
set_option maxRecDepth 20000 in
theorem ggX11_keep_X11_isHeapNumber : GoodIn wsX11_keep wsX11_isHeapNumber := goodIn_m _ [6, 7, 8, 5, 9] rfl (by decide +kernel)
set_option maxRecDepth 20000 in
theorem gX11_keep_X11_isHeapNumber : GoodIn wsX11_keep (va_wsS RX11 222 yX11_isHeapNumber wsX11_isHeapNumber) := goodIn_app (goodIn_m [.methodLink RX11 222 yX11_isHeapNumber, .static yX11_isHeapNumber, .initialized RX11] [3, 4, 5] rfl (by decide +kernel)) ggX11_keep_X11_isHeapNumber
set_option maxRecDepth 20000 in
theorem ggX11_keep_X11_within : GoodIn wsX11_keep wsX11_within := goodIn_m _ [9] rfl (by decide +kernel)
set_option maxRecDepth 20000 in
theorem gX11_keep_X11_within : GoodIn wsX11_keep (va_wsS RX11 104 yX11_within wsX11_within) := goodIn_app (goodIn_m [.methodLink RX11 104 yX11_within, .static yX11_within, .initialized RX11] [7, 8, 5] rfl (by decide +kernel)) ggX11_keep_X11_within
set_option maxRecDepth 20000 in
theorem ggX11_keep_X11_refusedHeap : GoodIn wsX11_keep wsX11_refusedHeap := goodIn_m _ [13, 2, 14, 15, 16, 5, 17, 18, 19, 20, 21, 22, 23, 24, 25, 26, 27, 28, 29, 30, 31, 32, 33, 34, 35, 36, 37, 38, 39, 40, 41, 42, 43, 44, 45, 46, 47, 48, 49, 50, 51, 52, 53, 54, 55, 56, 57, 58, 59, 60, 61, 62, 63, 64, 65, 66, 67, 68, 69, 70, 71, 72, 73, 74, 75, 76, 77, 78, 79, 80, 81, 82, 83, 84, 85, 86, 87, 88, 89, 90, 91, 92, 93, 94, 95, 96, 97, 98, 99, 100, 101, 102, 103, 104, 105, 106, 107, 108, 109, 110, 111, 112, 113, 114, 115, 116, 117, 118, 119, 120, 121, 122, 123, 124, 125, 126, 127, 128, 129, 130, 131, 132, 133, 134, 135, 136, 137, 138, 139, 140, 141, 142, 143, 144, 145, 146, 147, 148, 149, 150, 151, 152, 153, 154, 155, 156, 157, 158, 159, 160, 161, 162, 163, 164, 165, 166, 167, 168, 169, 170, 171, 172, 173, 174, 175, 176, 177, 178, 179, 180, 181, 182, 183, 184, 185, 186, 187, 188, 189, 190, 191, 204, 205, 206, 207, 208, 209, 210, 211, 212, 213, 214, 215, 216, 217, 218, 219, 220, 221, 222, 223, 224, 225, 226, 227, 228, 229, 230, 231, 232, 233, 234, 235, 236, 237, 238, 239, 240, 241, 242, 243, 244, 245, 246, 247, 248, 249, 250, 251, 252, 253, 254, 255, 256, 257, 258, 259, 260, 261, 262, 263] rfl (by decide +kernel)
set_option maxRecDepth 20000 in
theorem gX11_keep_X11_refusedHeap : GoodIn wsX11_keep (wsV RX11 225 RX11 yX11_refusedHeap wsX11_refusedHeap) := goodIn_app (goodIn_m [.methodLink RX11 225 yX11_refusedHeap, .instanceMethod yX11_refusedHeap, .selects RX11 yX11_refusedHeap yX11_refusedHeap, .initialized RX11] [10, 11, 12, 5] rfl (by decide +kernel)) ggX11_keep_X11_refusedHeap
set_option maxRecDepth 20000 in
theorem ggX11_keep_X5_add : GoodIn wsX11_keep wsX5_add := goodIn_m _ [196, 197, 198, 199, 200, 201, 202, 165, 203, 167, 169, 264, 265, 266, 267, 230, 231, 232, 233, 234] rfl (by decide +kernel)
set_option maxRecDepth 20000 in
theorem gX11_keep_X5_add : GoodIn wsX11_keep (wsV RX11 236 RX5 yX5_add wsX5_add) := goodIn_app (goodIn_m [.methodLink RX11 236 yX5_add, .instanceMethod yX5_add, .selects RX5 yX5_add yX5_add, .initialized RX5] [192, 193, 194, 195] rfl (by decide +kernel)) ggX11_keep_X5_add
set_option maxRecDepth 20000 in
theorem ggX11_forget_X5_has : GoodIn wsX11_forget wsX5_has := goodIn_m _ [6, 7, 31, 32, 33, 34] rfl (by decide +kernel)
set_option maxRecDepth 20000 in
theorem gX11_forget_X5_has : GoodIn wsX11_forget (wsV RX11 240 RX5 yX5_has wsX5_has) := goodIn_app (goodIn_m [.methodLink RX11 240 yX5_has, .instanceMethod yX5_has, .selects RX5 yX5_has yX5_has, .initialized RX5] [2, 3, 4, 5] rfl (by decide +kernel)) ggX11_forget_X5_has
set_option maxRecDepth 20000 in
theorem ggX11_forget_X5_remove : GoodIn wsX11_forget wsX5_remove := goodIn_m _ [11, 12, 7, 13, 14, 3, 4, 5, 6, 31, 32, 33, 34] rfl (by decide +kernel)
set_option maxRecDepth 20000 in
theorem gX11_forget_X5_remove : GoodIn wsX11_forget (wsV RX11 243 RX5 yX5_remove wsX5_remove) := goodIn_app (goodIn_m [.methodLink RX11 243 yX5_remove, .instanceMethod yX5_remove, .selects RX5 yX5_remove yX5_remove, .initialized RX5] [8, 9, 10, 5] rfl (by decide +kernel)) ggX11_forget_X5_remove
set_option maxRecDepth 20000 in
theorem ggX11_back_X11_isHeapNumber : GoodIn wsX11_back wsX11_isHeapNumber := goodIn_m _ [7, 8, 9, 6, 10] rfl (by decide +kernel)
set_option maxRecDepth 20000 in
theorem gX11_back_X11_isHeapNumber : GoodIn wsX11_back (va_wsS RX11 222 yX11_isHeapNumber wsX11_isHeapNumber) := goodIn_app (goodIn_m [.methodLink RX11 222 yX11_isHeapNumber, .static yX11_isHeapNumber, .initialized RX11] [4, 5, 6] rfl (by decide +kernel)) ggX11_back_X11_isHeapNumber
set_option maxRecDepth 20000 in
theorem ggX11_back_X11_within : GoodIn wsX11_back wsX11_within := goodIn_m _ [10] rfl (by decide +kernel)
set_option maxRecDepth 20000 in
theorem gX11_back_X11_within : GoodIn wsX11_back (va_wsS RX11 104 yX11_within wsX11_within) := goodIn_app (goodIn_m [.methodLink RX11 104 yX11_within, .static yX11_within, .initialized RX11] [8, 9, 6] rfl (by decide +kernel)) ggX11_back_X11_within
set_option maxRecDepth 20000 in
theorem ggX11_back_X11_refusedHeap : GoodIn wsX11_back wsX11_refusedHeap := goodIn_m _ [14, 2, 15, 16, 17, 6, 18, 19, 20, 21, 3, 22, 23, 24, 25, 26, 27, 28, 29, 30, 31, 32, 33, 34, 35, 36, 37, 38, 39, 40, 41, 42, 43, 44, 45, 46, 47, 48, 49, 50, 51, 52, 53, 54, 55, 56, 57, 58, 59, 60, 61, 62, 63, 64, 65, 66, 67, 68, 69, 70, 71, 72, 73, 74, 75, 76, 77, 78, 79, 80, 81, 82, 83, 84, 85, 86, 87, 88, 89, 90, 91, 92, 93, 94, 95, 96, 97, 98, 99, 100, 101, 102, 103, 104, 105, 106, 107, 108, 109, 110, 111, 112, 113, 114, 115, 116, 117, 118, 119, 120, 121, 122, 123, 124, 125, 126, 127, 128, 129, 130, 131, 132, 133, 134, 135, 136, 137, 138, 139, 140, 141, 142, 143, 144, 145, 146, 147, 148, 149, 150, 151, 152, 153, 154, 155, 156, 157, 158, 159, 160, 161, 162, 163, 164, 165, 166, 167, 168, 169, 170, 171, 172, 173, 174, 175, 176, 177, 178, 179, 180, 181, 182, 183, 184, 185, 186, 187, 188, 189, 190, 191, 199, 200, 201, 202, 203, 204, 205, 206, 207, 208, 209, 210, 211, 212, 213, 214, 215, 216, 217, 218, 219, 220, 221, 222, 223, 224, 229, 230, 231, 232, 233, 234, 235, 236, 237, 238, 239, 240, 241, 242, 243, 244, 245, 246, 247, 248, 249, 250, 251, 252, 253, 254, 255, 256, 257, 258, 259, 260, 261, 262] rfl (by decide +kernel)
set_option maxRecDepth 20000 in
theorem gX11_back_X11_refusedHeap : GoodIn wsX11_back (wsV RX11 225 RX11 yX11_refusedHeap wsX11_refusedHeap) := goodIn_app (goodIn_m [.methodLink RX11 225 yX11_refusedHeap, .instanceMethod yX11_refusedHeap, .selects RX11 yX11_refusedHeap yX11_refusedHeap, .initialized RX11] [11, 12, 13, 6] rfl (by decide +kernel)) ggX11_back_X11_refusedHeap
set_option maxRecDepth 20000 in
theorem ggX11_back_X8_ruleNow : GoodIn wsX11_back wsX8_ruleNow := goodIn_m _ [34, 35, 246, 247, 248, 249, 250] rfl (by decide +kernel)
set_option maxRecDepth 20000 in
theorem gX11_back_X8_ruleNow : GoodIn wsX11_back (wsV RX11 122 RX8 yX8_ruleNow wsX8_ruleNow) := goodIn_app (goodIn_m [.methodLink RX11 122 yX8_ruleNow, .instanceMethod yX8_ruleNow, .selects RX8 yX8_ruleNow yX8_ruleNow, .initialized RX8] [30, 31, 32, 33] rfl (by decide +kernel)) ggX11_back_X8_ruleNow
set_option maxRecDepth 20000 in
theorem ggX11_back_X5_nearestTo : GoodIn wsX11_back wsX5_nearestTo := goodIn_m _ [196, 197, 198, 110, 6, 111, 112, 113, 79, 114, 225, 226, 227, 228, 229, 230, 231, 232, 233] rfl (by decide +kernel)
set_option maxRecDepth 20000 in
theorem gX11_back_X5_nearestTo : GoodIn wsX11_back (wsV RX11 246 RX5 yX5_nearestTo wsX5_nearestTo) := goodIn_app (goodIn_m [.methodLink RX11 246 yX5_nearestTo, .instanceMethod yX5_nearestTo, .selects RX5 yX5_nearestTo yX5_nearestTo, .initialized RX5] [192, 193, 194, 195] rfl (by decide +kernel)) ggX11_back_X5_nearestTo
set_option maxRecDepth 20000 in
theorem ggX11_odds_X11_isHeapNumber : GoodIn wsX11_odds wsX11_isHeapNumber := goodIn_m _ [7, 8, 9, 6, 10] rfl (by decide +kernel)
set_option maxRecDepth 20000 in
theorem gX11_odds_X11_isHeapNumber : GoodIn wsX11_odds (va_wsS RX11 222 yX11_isHeapNumber wsX11_isHeapNumber) := goodIn_app (goodIn_m [.methodLink RX11 222 yX11_isHeapNumber, .static yX11_isHeapNumber, .initialized RX11] [4, 5, 6] rfl (by decide +kernel)) ggX11_odds_X11_isHeapNumber
set_option maxRecDepth 20000 in
theorem ggX11_odds_X5_has : GoodIn wsX11_odds wsX5_has := goodIn_m _ [15, 16, 258, 259, 260, 261] rfl (by decide +kernel)
set_option maxRecDepth 20000 in
theorem gX11_odds_X5_has : GoodIn wsX11_odds (wsV RX11 240 RX5 yX5_has wsX5_has) := goodIn_app (goodIn_m [.methodLink RX11 240 yX5_has, .instanceMethod yX5_has, .selects RX5 yX5_has yX5_has, .initialized RX5] [11, 12, 13, 14] rfl (by decide +kernel)) ggX11_odds_X5_has
set_option maxRecDepth 20000 in
theorem ggX11_odds_X11_within : GoodIn wsX11_odds wsX11_within := goodIn_m _ [10] rfl (by decide +kernel)
set_option maxRecDepth 20000 in
theorem gX11_odds_X11_within : GoodIn wsX11_odds (va_wsS RX11 104 yX11_within wsX11_within) := goodIn_app (goodIn_m [.methodLink RX11 104 yX11_within, .static yX11_within, .initialized RX11] [8, 9, 6] rfl (by decide +kernel)) ggX11_odds_X11_within
set_option maxRecDepth 20000 in
theorem ggX11_odds_X11_refusedHeap : GoodIn wsX11_odds wsX11_refusedHeap := goodIn_m _ [20, 3, 21, 22, 23, 6, 24, 2, 25, 26, 27, 28, 29, 30, 31, 32, 33, 34, 35, 36, 37, 38, 39, 40, 41, 42, 43, 44, 45, 46, 47, 48, 49, 50, 51, 52, 53, 54, 55, 56, 57, 58, 59, 60, 61, 62, 63, 64, 65, 66, 67, 68, 69, 70, 71, 72, 73, 74, 75, 76, 77, 78, 79, 80, 81, 82, 83, 84, 85, 86, 87, 88, 89, 90, 91, 92, 93, 94, 95, 96, 97, 98, 99, 100, 101, 102, 103, 104, 105, 106, 107, 108, 109, 110, 111, 112, 113, 114, 115, 116, 117, 118, 119, 120, 121, 122, 123, 124, 125, 126, 127, 128, 129, 130, 131, 132, 133, 134, 135, 136, 137, 138, 139, 140, 141, 142, 143, 144, 145, 146, 147, 148, 149, 150, 151, 152, 153, 154, 155, 156, 157, 158, 159, 160, 161, 162, 163, 164, 165, 166, 167, 168, 169, 170, 171, 172, 173, 174, 175, 176, 177, 178, 179, 180, 181, 182, 183, 184, 185, 186, 187, 188, 189, 190, 191, 192, 193, 194, 195, 196, 197, 220, 221, 222, 223, 224, 225, 226, 227, 228, 229, 230, 231, 232, 233, 234, 235, 236, 237, 238, 239, 240, 241, 242, 243, 244, 245, 262, 263, 264, 265, 266, 246, 247, 248, 249, 250, 251, 252, 253, 254, 255, 256, 257, 267, 268, 269, 270, 271, 272, 273, 274, 275, 276, 277, 278, 279, 280, 281, 282, 283] rfl (by decide +kernel)
set_option maxRecDepth 20000 in
theorem gX11_odds_X11_refusedHeap : GoodIn wsX11_odds (wsV RX11 225 RX11 yX11_refusedHeap wsX11_refusedHeap) := goodIn_app (goodIn_m [.methodLink RX11 225 yX11_refusedHeap, .instanceMethod yX11_refusedHeap, .selects RX11 yX11_refusedHeap yX11_refusedHeap, .initialized RX11] [17, 18, 19, 6] rfl (by decide +kernel)) ggX11_odds_X11_refusedHeap
set_option maxRecDepth 20000 in
theorem ggX11_odds_X4_membersOf : GoodIn wsX11_odds wsX4_membersOf := goodIn_m _ [201, 174, 262, 263, 264, 265, 266] rfl (by decide +kernel)
set_option maxRecDepth 20000 in
theorem gX11_odds_X4_membersOf : GoodIn wsX11_odds (wsV RX11 252 RX4 yX4_membersOf wsX4_membersOf) := goodIn_app (goodIn_m [.methodLink RX11 252 yX4_membersOf, .instanceMethod yX4_membersOf, .selects RX4 yX4_membersOf yX4_membersOf, .initialized RX4] [198, 199, 200, 171] rfl (by decide +kernel)) ggX11_odds_X4_membersOf
set_option maxRecDepth 20000 in
theorem ggX11_odds_X5_dealsOf : GoodIn wsX11_odds wsX5_dealsOf := goodIn_m _ [205, 206, 93, 85, 94, 207, 208, 209, 210, 14, 211, 212, 116, 6, 117, 118, 119, 120, 213, 214, 215, 216, 217, 218, 219, 246, 247, 248, 249, 250, 251, 252, 253, 254, 255, 256, 257, 258, 259, 260, 261] rfl (by decide +kernel)
set_option maxRecDepth 20000 in
theorem gX11_odds_X5_dealsOf : GoodIn wsX11_odds (wsV RX11 255 RX5 yX5_dealsOf wsX5_dealsOf) := goodIn_app (goodIn_m [.methodLink RX11 255 yX5_dealsOf, .instanceMethod yX5_dealsOf, .selects RX5 yX5_dealsOf yX5_dealsOf, .initialized RX5] [202, 203, 204, 14] rfl (by decide +kernel)) ggX11_odds_X5_dealsOf
set_option maxRecDepth 20000 in
theorem ggX11_show_X11_heapNow : GoodIn wsX11_show wsX11_heapNow := goodIn_m _ [8, 9, 10, 11, 12, 13, 1, 14, 15, 16, 17, 18, 7, 19, 20, 21, 22, 23, 24, 25, 26, 27, 28, 29, 30, 31, 32, 33, 34, 35, 36, 37, 38, 39, 40, 41, 42, 43, 44, 45, 46, 47, 48, 49, 50, 51, 52, 53, 54, 55, 56, 57, 58, 59, 60, 61, 62, 63, 64, 65, 66, 67, 68, 69, 70, 71, 72, 73, 74, 75, 76, 77, 78, 79, 80, 81, 82, 83, 84, 85, 86, 87, 88, 89, 90, 91, 92, 93, 94, 95, 96, 97, 98, 99, 100, 101, 102, 103, 104, 105, 106, 107, 108, 109, 110, 111, 112, 113, 114, 115, 116, 117, 118, 119, 120, 121, 122, 123, 124, 125, 126, 127, 128, 129, 130, 131, 132, 133, 134, 135, 136, 137, 138, 139, 140, 141, 142, 143, 144, 145, 146, 147, 148, 149, 150, 151, 152, 153, 154, 155, 156, 157, 158, 159, 160, 161, 162, 163, 164, 165, 166, 167, 168, 169, 170, 171, 172, 173, 174, 175, 176, 177, 178, 179, 180, 181, 182, 190, 191, 192, 193, 194, 195, 196, 197, 198, 199, 200, 201, 202, 203, 204, 205, 211, 212, 213, 214, 215, 216, 217, 218, 219, 220, 221, 222, 223, 224, 225, 226, 227, 228, 229, 230, 231, 232, 233, 234, 235, 236, 237, 206, 207, 208, 209, 210, 238, 239, 240, 241, 242, 243, 244, 245, 246, 247, 248, 249] rfl (by decide +kernel)
set_option maxRecDepth 20000 in
theorem gX11_show_X11_heapNow : GoodIn wsX11_show (wsV RX11 190 RX11 yX11_heapNow wsX11_heapNow) := goodIn_app (goodIn_m [.methodLink RX11 190 yX11_heapNow, .instanceMethod yX11_heapNow, .selects RX11 yX11_heapNow yX11_heapNow, .initialized RX11] [4, 5, 6, 7] rfl (by decide +kernel)) ggX11_show_X11_heapNow
set_option maxRecDepth 20000 in
theorem ggX11_show_X11_heapOfRow : GoodIn wsX11_show wsX11_heapOfRow := goodIn_m _ [186, 9, 13, 187, 188, 7, 189, 190, 191, 192, 193, 194, 195, 196, 197, 198, 199, 200, 201, 202, 203, 204, 205, 211, 212, 213, 214, 215, 216, 217, 218, 219, 220, 221, 222, 223, 224, 225, 226, 227, 228, 229, 230, 231, 232, 245, 246, 247, 248, 249] rfl (by decide +kernel)
set_option maxRecDepth 20000 in
theorem gX11_show_X11_heapOfRow : GoodIn wsX11_show (wsV RX11 259 RX11 yX11_heapOfRow wsX11_heapOfRow) := goodIn_app (goodIn_m [.methodLink RX11 259 yX11_heapOfRow, .instanceMethod yX11_heapOfRow, .selects RX11 yX11_heapOfRow yX11_heapOfRow, .initialized RX11] [183, 184, 185, 7] rfl (by decide +kernel)) ggX11_show_X11_heapOfRow
set_option maxRecDepth 20000 in
theorem ggX11_otherwise_X11_heapNow : GoodIn wsX11_otherwise wsX11_heapNow := goodIn_m _ [8, 9, 10, 11, 12, 13, 2, 14, 15, 16, 17, 18, 7, 19, 20, 21, 22, 23, 24, 25, 26, 27, 28, 29, 30, 31, 32, 33, 34, 35, 36, 37, 38, 39, 40, 41, 42, 43, 44, 45, 46, 47, 48, 49, 50, 51, 52, 53, 54, 55, 56, 57, 58, 59, 60, 61, 62, 63, 64, 65, 66, 67, 68, 69, 70, 71, 72, 73, 74, 75, 76, 77, 78, 79, 80, 81, 82, 83, 84, 85, 86, 87, 88, 89, 90, 91, 92, 93, 94, 95, 96, 97, 98, 99, 100, 101, 102, 103, 104, 105, 106, 107, 108, 109, 110, 111, 112, 113, 114, 115, 116, 117, 118, 119, 120, 121, 122, 123, 124, 125, 126, 127, 128, 129, 130, 131, 132, 133, 134, 135, 136, 137, 138, 139, 140, 141, 142, 143, 144, 145, 146, 147, 148, 149, 150, 151, 152, 153, 154, 155, 156, 157, 158, 159, 160, 161, 162, 163, 164, 165, 166, 167, 168, 169, 170, 171, 172, 173, 174, 175, 176, 177, 178, 179, 180, 181, 182, 190, 191, 192, 193, 194, 195, 196, 197, 198, 199, 200, 201, 202, 203, 204, 205, 211, 212, 213, 214, 215, 216, 217, 218, 219, 220, 221, 222, 223, 224, 225, 226, 227, 228, 229, 230, 231, 232, 233, 234, 235, 236, 237, 206, 207, 208, 209, 210, 238, 239, 240, 241, 242, 243, 244, 245, 246, 247, 248, 249] rfl (by decide +kernel)
set_option maxRecDepth 20000 in
theorem gX11_otherwise_X11_heapNow : GoodIn wsX11_otherwise (wsV RX11 190 RX11 yX11_heapNow wsX11_heapNow) := goodIn_app (goodIn_m [.methodLink RX11 190 yX11_heapNow, .instanceMethod yX11_heapNow, .selects RX11 yX11_heapNow yX11_heapNow, .initialized RX11] [4, 5, 6, 7] rfl (by decide +kernel)) ggX11_otherwise_X11_heapNow
set_option maxRecDepth 20000 in
theorem ggX11_otherwise_X11_heapOfRow : GoodIn wsX11_otherwise wsX11_heapOfRow := goodIn_m _ [186, 9, 13, 187, 188, 7, 189, 190, 191, 192, 193, 194, 195, 196, 197, 198, 199, 200, 201, 202, 203, 204, 205, 211, 212, 213, 214, 215, 216, 217, 218, 219, 220, 221, 222, 223, 224, 225, 226, 227, 228, 229, 230, 231, 232, 245, 246, 247, 248, 249] rfl (by decide +kernel)
set_option maxRecDepth 20000 in
theorem gX11_otherwise_X11_heapOfRow : GoodIn wsX11_otherwise (wsV RX11 259 RX11 yX11_heapOfRow wsX11_heapOfRow) := goodIn_app (goodIn_m [.methodLink RX11 259 yX11_heapOfRow, .instanceMethod yX11_heapOfRow, .selects RX11 yX11_heapOfRow yX11_heapOfRow, .initialized RX11] [183, 184, 185, 7] rfl (by decide +kernel)) ggX11_otherwise_X11_heapOfRow
set_option maxRecDepth 20000 in
theorem ggX11_word_X11_areRows : GoodIn wsX11_word wsX11_areRows := goodIn_m _ [6, 7, 16, 17, 18, 19, 20, 21, 22, 23, 24, 25, 26, 27, 28, 29, 30, 31, 32, 33, 34, 35, 36] rfl (by decide +kernel)
set_option maxRecDepth 20000 in
theorem gX11_word_X11_areRows : GoodIn wsX11_word (wsV RX11 140 RX11 yX11_areRows wsX11_areRows) := goodIn_app (goodIn_m [.methodLink RX11 140 yX11_areRows, .instanceMethod yX11_areRows, .selects RX11 yX11_areRows yX11_areRows, .initialized RX11] [2, 3, 4, 5] rfl (by decide +kernel)) ggX11_word_X11_areRows
set_option maxRecDepth 20000 in
theorem ggX11_word_X10_add : GoodIn wsX11_word wsX10_add := goodIn_m _ [12, 13, 14, 15, 37, 38, 39] rfl (by decide +kernel)
set_option maxRecDepth 20000 in
theorem gX11_word_X10_add : GoodIn wsX11_word (wsV RX11 262 RX10 yX10_add wsX10_add) := goodIn_app (goodIn_m [.methodLink RX11 262 yX10_add, .instanceMethod yX10_add, .selects RX10 yX10_add yX10_add, .initialized RX10] [8, 9, 10, 11] rfl (by decide +kernel)) ggX11_word_X10_add
set_option maxRecDepth 20000 in
theorem ggX11_hung_X11_within : GoodIn wsX11_hung wsX11_within := goodIn_m _ [6] rfl (by decide +kernel)
set_option maxRecDepth 20000 in
theorem gX11_hung_X11_within : GoodIn wsX11_hung (va_wsS RX11 104 yX11_within wsX11_within) := goodIn_app (goodIn_m [.methodLink RX11 104 yX11_within, .static yX11_within, .initialized RX11] [3, 4, 5] rfl (by decide +kernel)) ggX11_hung_X11_within
set_option maxRecDepth 20000 in
theorem ggX11_hung_X11_cutNow : GoodIn wsX11_hung wsX11_cutNow := goodIn_m _ [10, 11, 2, 12, 13, 14, 15, 16, 17, 18, 19, 20, 21, 22, 23, 24, 25, 26, 27, 28, 29, 30, 31, 32, 33, 34, 35, 36, 37, 38, 39, 40, 41, 42, 43, 44, 45, 46, 47, 48, 49, 50, 51, 52, 53, 54, 55, 56, 57, 58, 59, 60, 61, 62, 63, 64, 65, 66, 67, 68, 69, 70, 71, 72, 73, 74, 75, 76, 77, 78, 79, 80, 81, 82, 100, 101, 102, 103, 104, 105, 106, 107, 108, 109, 110, 111, 112, 113, 114, 115, 119, 120, 121, 122, 123, 124, 125, 126, 127, 128, 129, 130, 131, 132, 133, 134, 135, 136, 137, 138, 139, 140, 141, 142, 143] rfl (by decide +kernel)
set_option maxRecDepth 20000 in
theorem gX11_hung_X11_cutNow : GoodIn wsX11_hung (wsV RX11 151 RX11 yX11_cutNow wsX11_cutNow) := goodIn_app (goodIn_m [.methodLink RX11 151 yX11_cutNow, .instanceMethod yX11_cutNow, .selects RX11 yX11_cutNow yX11_cutNow, .initialized RX11] [7, 8, 9, 5] rfl (by decide +kernel)) ggX11_hung_X11_cutNow
set_option maxRecDepth 20000 in
theorem ggX11_hung_X10_pieceWithMost : GoodIn wsX11_hung wsX10_pieceWithMost := goodIn_m _ [87, 88, 89, 90, 86, 91, 92, 93, 63, 64, 65, 94, 95, 72, 73, 124, 125, 126, 127, 128, 129, 130, 131, 132, 133, 134, 135, 116, 117, 118] rfl (by decide +kernel)
set_option maxRecDepth 20000 in
theorem gX11_hung_X10_pieceWithMost : GoodIn wsX11_hung (wsV RX11 264 RX10 yX10_pieceWithMost wsX10_pieceWithMost) := goodIn_app (goodIn_m [.methodLink RX11 264 yX10_pieceWithMost, .instanceMethod yX10_pieceWithMost, .selects RX10 yX10_pieceWithMost yX10_pieceWithMost, .initialized RX10] [83, 84, 85, 86] rfl (by decide +kernel)) ggX11_hung_X10_pieceWithMost
set_option maxRecDepth 20000 in
theorem ggX11_hung_X10_piecesWithSome : GoodIn wsX11_hung wsX10_piecesWithSome := goodIn_m _ [99, 88, 89, 90, 86, 91, 92, 93, 63, 64, 65, 94, 95, 72, 73, 124, 125, 126, 127, 128, 129, 130, 131, 132, 133, 134, 135, 116, 117, 118] rfl (by decide +kernel)
set_option maxRecDepth 20000 in
theorem gX11_hung_X10_piecesWithSome : GoodIn wsX11_hung (wsV RX11 268 RX10 yX10_piecesWithSome wsX10_piecesWithSome) := goodIn_app (goodIn_m [.methodLink RX11 268 yX10_piecesWithSome, .instanceMethod yX10_piecesWithSome, .selects RX10 yX10_piecesWithSome yX10_piecesWithSome, .initialized RX10] [96, 97, 98, 86] rfl (by decide +kernel)) ggX11_hung_X10_piecesWithSome
set_option maxRecDepth 20000 in
theorem ggX11_truth_X11_areRows : GoodIn wsX11_truth wsX11_areRows := goodIn_m _ [6, 1, 21, 22, 23, 24, 25, 26, 27, 28, 29, 30, 31, 32, 33, 34, 35, 36, 37, 38, 39, 40, 41] rfl (by decide +kernel)
set_option maxRecDepth 20000 in
theorem gX11_truth_X11_areRows : GoodIn wsX11_truth (wsV RX11 140 RX11 yX11_areRows wsX11_areRows) := goodIn_app (goodIn_m [.methodLink RX11 140 yX11_areRows, .instanceMethod yX11_areRows, .selects RX11 yX11_areRows yX11_areRows, .initialized RX11] [2, 3, 4, 5] rfl (by decide +kernel)) ggX11_truth_X11_areRows
set_option maxRecDepth 20000 in
theorem ggX11_truth_X11_within : GoodIn wsX11_truth wsX11_within := goodIn_m _ [9] rfl (by decide +kernel)
set_option maxRecDepth 20000 in
theorem gX11_truth_X11_within : GoodIn wsX11_truth (va_wsS RX11 104 yX11_within wsX11_within) := goodIn_app (goodIn_m [.methodLink RX11 104 yX11_within, .static yX11_within, .initialized RX11] [7, 8, 5] rfl (by decide +kernel)) ggX11_truth_X11_within
set_option maxRecDepth 20000 in
theorem ggX11_truth_X7_setTruth : GoodIn wsX11_truth wsX7_setTruth := goodIn_m _ [14, 15, 16, 17, 18, 19, 20, 37, 38, 39, 40, 41] rfl (by decide +kernel)
set_option maxRecDepth 20000 in
theorem gX11_truth_X7_setTruth : GoodIn wsX11_truth (wsV RX11 271 RX7 yX7_setTruth wsX7_setTruth) := goodIn_app (goodIn_m [.methodLink RX11 271 yX7_setTruth, .instanceMethod yX7_setTruth, .selects RX7 yX7_setTruth yX7_setTruth, .initialized RX7] [10, 11, 12, 13] rfl (by decide +kernel)) ggX11_truth_X7_setTruth
set_option maxRecDepth 20000 in
theorem ggX11_errors_X11_within : GoodIn wsX11_errors wsX11_within := goodIn_m _ [8] rfl (by decide +kernel)
set_option maxRecDepth 20000 in
theorem gX11_errors_X11_within : GoodIn wsX11_errors (va_wsS RX11 104 yX11_within wsX11_within) := goodIn_app (goodIn_m [.methodLink RX11 104 yX11_within, .static yX11_within, .initialized RX11] [5, 6, 7] rfl (by decide +kernel)) ggX11_errors_X11_within
set_option maxRecDepth 20000 in
theorem ggX11_errors_X11_cutNow : GoodIn wsX11_errors wsX11_cutNow := goodIn_m _ [12, 13, 3, 2, 14, 15, 16, 17, 18, 19, 20, 21, 22, 23, 24, 25, 26, 27, 28, 29, 30, 31, 32, 33, 34, 35, 36, 37, 38, 39, 40, 41, 42, 43, 44, 45, 46, 47, 48, 49, 50, 51, 52, 53, 54, 55, 56, 57, 58, 59, 60, 61, 62, 63, 64, 65, 66, 67, 68, 69, 70, 71, 72, 73, 74, 75, 76, 77, 78, 79, 80, 81, 82, 83, 210, 211, 212, 213, 214, 215, 216, 217, 218, 219, 220, 221, 222, 223, 224, 225, 236, 237, 238, 239, 240, 241, 242, 243, 244, 245, 246, 247, 248, 249, 250, 251, 252, 253, 254, 255, 256, 257, 258, 259, 260] rfl (by decide +kernel)
set_option maxRecDepth 20000 in
theorem gX11_errors_X11_cutNow : GoodIn wsX11_errors (wsV RX11 151 RX11 yX11_cutNow wsX11_cutNow) := goodIn_app (goodIn_m [.methodLink RX11 151 yX11_cutNow, .instanceMethod yX11_cutNow, .selects RX11 yX11_cutNow yX11_cutNow, .initialized RX11] [9, 10, 11, 7] rfl (by decide +kernel)) ggX11_errors_X11_cutNow
set_option maxRecDepth 20000 in
theorem ggX11_errors_X9_missed : GoodIn wsX11_errors wsX9_missed := goodIn_m _ [88, 253, 254, 255, 256, 257, 241, 242, 243, 244, 245, 246, 247, 248, 249, 250, 251, 252] rfl (by decide +kernel)
set_option maxRecDepth 20000 in
theorem gX11_errors_X9_missed : GoodIn wsX11_errors (wsV RX11 274 RX9 yX9_missed wsX9_missed) := goodIn_app (goodIn_m [.methodLink RX11 274 yX9_missed, .instanceMethod yX9_missed, .selects RX9 yX9_missed yX9_missed, .initialized RX9] [84, 85, 86, 87] rfl (by decide +kernel)) ggX11_errors_X9_missed
set_option maxRecDepth 20000 in
theorem ggX11_errors_X9_madeUp : GoodIn wsX11_errors wsX9_madeUp := goodIn_m _ [92, 253, 254, 255, 256, 257, 241, 242, 243, 244, 245, 246, 247, 248, 249, 250, 251, 252] rfl (by decide +kernel)
set_option maxRecDepth 20000 in
theorem gX11_errors_X9_madeUp : GoodIn wsX11_errors (wsV RX11 278 RX9 yX9_madeUp wsX9_madeUp) := goodIn_app (goodIn_m [.methodLink RX11 278 yX9_madeUp, .instanceMethod yX9_madeUp, .selects RX9 yX9_madeUp yX9_madeUp, .initialized RX9] [89, 90, 91, 87] rfl (by decide +kernel)) ggX11_errors_X9_madeUp
set_option maxRecDepth 20000 in
theorem ggX11_errors_X11_heapNow : GoodIn wsX11_errors wsX11_heapNow := goodIn_m _ [96, 3, 97, 98, 15, 4, 2, 14, 99, 9, 10, 11, 7, 12, 13, 16, 17, 18, 19, 20, 21, 22, 23, 24, 25, 26, 27, 28, 29, 30, 31, 32, 33, 34, 35, 36, 37, 38, 39, 40, 41, 42, 43, 44, 45, 46, 47, 48, 49, 50, 51, 52, 53, 54, 55, 56, 57, 58, 59, 60, 61, 62, 63, 64, 65, 66, 67, 68, 69, 70, 71, 72, 73, 74, 75, 76, 77, 78, 79, 80, 81, 82, 83, 100, 101, 102, 103, 104, 105, 106, 107, 108, 109, 110, 111, 112, 113, 114, 115, 116, 117, 118, 119, 120, 121, 122, 123, 124, 125, 126, 127, 128, 129, 130, 131, 132, 133, 134, 135, 136, 137, 138, 139, 140, 141, 142, 143, 144, 145, 146, 147, 148, 149, 150, 151, 152, 153, 154, 155, 156, 157, 158, 159, 160, 161, 162, 163, 164, 165, 166, 167, 168, 169, 170, 171, 172, 173, 174, 175, 176, 177, 178, 179, 180, 181, 182, 183, 184, 185, 186, 187, 188, 189, 190, 191, 192, 193, 210, 211, 212, 213, 214, 215, 216, 217, 218, 219, 220, 221, 222, 223, 224, 225, 241, 242, 243, 244, 245, 246, 247, 248, 249, 250, 251, 252, 226, 227, 228, 229, 230, 231, 232, 233, 234, 235, 236, 237, 238, 239, 240, 253, 254, 255, 256, 257, 258, 259, 260, 261, 262, 263, 264, 265, 266, 267, 268, 269] rfl (by decide +kernel)
set_option maxRecDepth 20000 in
theorem gX11_errors_X11_heapNow : GoodIn wsX11_errors (wsV RX11 190 RX11 yX11_heapNow wsX11_heapNow) := goodIn_app (goodIn_m [.methodLink RX11 190 yX11_heapNow, .instanceMethod yX11_heapNow, .selects RX11 yX11_heapNow yX11_heapNow, .initialized RX11] [93, 94, 95, 7] rfl (by decide +kernel)) ggX11_errors_X11_heapNow
set_option maxRecDepth 20000 in
theorem ggX11_errors_X9_wrong : GoodIn wsX11_errors wsX9_wrong := goodIn_m _ [197, 198, 199, 200, 201, 202, 87, 203, 204, 34, 35, 36, 205, 206, 207, 208, 209, 64, 65, 66, 270, 271, 265, 266, 267, 268, 269, 253, 254, 255, 256, 257, 241, 242, 243, 244, 245, 246, 247, 248, 249, 250, 251, 252] rfl (by decide +kernel)
set_option maxRecDepth 20000 in
theorem gX11_errors_X9_wrong : GoodIn wsX11_errors (wsV RX11 281 RX9 yX9_wrong wsX9_wrong) := goodIn_app (goodIn_m [.methodLink RX11 281 yX9_wrong, .instanceMethod yX9_wrong, .selects RX9 yX9_wrong yX9_wrong, .initialized RX9] [194, 195, 196, 87] rfl (by decide +kernel)) ggX11_errors_X9_wrong
set_option maxRecDepth 20000 in
theorem ggX11_weight_X11_within : GoodIn wsX11_weight wsX11_within := goodIn_m _ [7] rfl (by decide +kernel)
set_option maxRecDepth 20000 in
theorem gX11_weight_X11_within : GoodIn wsX11_weight (va_wsS RX11 104 yX11_within wsX11_within) := goodIn_app (goodIn_m [.methodLink RX11 104 yX11_within, .static yX11_within, .initialized RX11] [4, 5, 6] rfl (by decide +kernel)) ggX11_weight_X11_within
set_option maxRecDepth 20000 in
theorem ggX11_weight_X11_isPiece : GoodIn wsX11_weight wsX11_isPiece := goodIn_m _ [11, 2, 12, 13, 14, 6, 15, 16, 17, 18, 19, 20, 21, 22, 23, 24, 25, 26, 27, 28, 29, 30, 31, 32, 33, 34, 35, 36, 37, 38, 39, 40, 41, 42, 43, 44, 45, 46, 47, 48, 49, 50, 51, 52, 53, 54, 55, 56, 57, 58, 59, 60, 61, 62, 63, 64, 65, 66, 67, 68, 69, 70, 71, 72, 73, 74, 75, 76, 77, 78, 79, 80, 81, 82, 83, 84, 85, 86, 87, 4, 5, 7, 138, 139, 140, 141, 142, 143, 144, 145, 146, 147, 148, 149, 150, 151, 152, 153, 158, 159, 160, 161, 162, 163, 164, 165, 166, 167, 168, 169, 170, 171, 172, 173, 174, 175, 176, 177, 178, 179, 180, 181, 182] rfl (by decide +kernel)
set_option maxRecDepth 20000 in
theorem gX11_weight_X11_isPiece : GoodIn wsX11_weight (wsV RX11 166 RX11 yX11_isPiece wsX11_isPiece) := goodIn_app (goodIn_m [.methodLink RX11 166 yX11_isPiece, .instanceMethod yX11_isPiece, .selects RX11 yX11_isPiece yX11_isPiece, .initialized RX11] [8, 9, 10, 6] rfl (by decide +kernel)) ggX11_weight_X11_isPiece
set_option maxRecDepth 20000 in
theorem ggX11_weight_X6_weigh : GoodIn wsX11_weight wsX6_weigh := goodIn_m _ [92, 93, 94, 95, 91, 96, 97, 98, 99, 100, 101, 102, 103, 104, 105, 29, 106, 31, 83, 107, 108, 109, 110, 111, 112, 113, 114, 115, 116, 117, 118, 119, 120, 121, 122, 68, 69, 70, 123, 124, 125, 126, 127, 128, 129, 130, 131, 132, 133, 134, 135, 136, 137, 183, 158, 159, 160, 161, 162, 163, 164, 165, 166, 167, 168, 169] rfl (by decide +kernel)
set_option maxRecDepth 20000 in
theorem gX11_weight_X6_weigh : GoodIn wsX11_weight (wsV RX11 288 RX6 yX6_weigh wsX6_weigh) := goodIn_app (goodIn_m [.methodLink RX11 288 yX6_weigh, .instanceMethod yX6_weigh, .selects RX6 yX6_weigh yX6_weigh, .initialized RX6] [88, 89, 90, 91] rfl (by decide +kernel)) ggX11_weight_X6_weigh
set_option maxRecDepth 20000 in
theorem ggX11_count_X7_deafRows : GoodIn wsX11_count wsX7_deafRows := goodIn_m _ [9, 10, 11, 33, 34, 35, 36, 37] rfl (by decide +kernel)
set_option maxRecDepth 20000 in
theorem gX11_count_X7_deafRows : GoodIn wsX11_count (wsV RX11 292 RX7 yX7_deafRows wsX7_deafRows) := goodIn_app (goodIn_m [.methodLink RX11 292 yX7_deafRows, .instanceMethod yX7_deafRows, .selects RX7 yX7_deafRows yX7_deafRows, .initialized RX7] [5, 6, 7, 8] rfl (by decide +kernel)) ggX11_count_X7_deafRows
set_option maxRecDepth 20000 in
theorem ggX11_count_X7_outRows : GoodIn wsX11_count wsX7_outRows := goodIn_m _ [15, 10, 16, 33, 34, 35, 36, 37] rfl (by decide +kernel)
set_option maxRecDepth 20000 in
theorem gX11_count_X7_outRows : GoodIn wsX11_count (wsV RX11 295 RX7 yX7_outRows wsX7_outRows) := goodIn_app (goodIn_m [.methodLink RX11 295 yX7_outRows, .instanceMethod yX7_outRows, .selects RX7 yX7_outRows yX7_outRows, .initialized RX7] [12, 13, 14, 8] rfl (by decide +kernel)) ggX11_count_X7_outRows
set_option maxRecDepth 20000 in
theorem ggX11_isLoudness_X11_within : GoodIn wsX11_isLoudness wsX11_within := goodIn_m _ [4] rfl (by decide +kernel)
set_option maxRecDepth 20000 in
theorem gX11_isLoudness_X11_within : GoodIn wsX11_isLoudness (va_wsS RX11 104 yX11_within wsX11_within) := goodIn_app (goodIn_m [.methodLink RX11 104 yX11_within, .static yX11_within, .initialized RX11] [1, 2, 3] rfl (by decide +kernel)) ggX11_isLoudness_X11_within
set_option maxRecDepth 20000 in
theorem ggX11_isHeapNumber_X11_within : GoodIn wsX11_isHeapNumber wsX11_within := goodIn_m _ [4] rfl (by decide +kernel)
set_option maxRecDepth 20000 in
theorem gX11_isHeapNumber_X11_within : GoodIn wsX11_isHeapNumber (va_wsS RX11 104 yX11_within wsX11_within) := goodIn_app (goodIn_m [.methodLink RX11 104 yX11_within, .static yX11_within, .initialized RX11] [1, 2, 3] rfl (by decide +kernel)) ggX11_isHeapNumber_X11_within
set_option maxRecDepth 20000 in
theorem ggX11_isPiece_X11_cutNow : GoodIn wsX11_isPiece wsX11_cutNow := goodIn_m _ [6, 7, 1, 8, 9, 10, 11, 12, 13, 14, 15, 16, 17, 18, 19, 20, 21, 22, 23, 24, 25, 26, 27, 28, 29, 30, 31, 32, 33, 34, 35, 36, 37, 38, 39, 40, 41, 42, 43, 44, 45, 46, 47, 48, 49, 50, 51, 52, 53, 54, 55, 56, 57, 58, 59, 60, 61, 62, 63, 64, 65, 66, 67, 68, 69, 70, 71, 72, 73, 74, 75, 76, 77, 78, 82, 83, 84, 85, 86, 87, 88, 89, 90, 91, 92, 93, 94, 95, 96, 97, 110, 111, 112, 113, 114, 98, 99, 100, 101, 102, 103, 104, 105, 106, 107, 108, 109, 115, 116, 117, 118, 119, 120, 121, 122] rfl (by decide +kernel)
set_option maxRecDepth 20000 in
theorem gX11_isPiece_X11_cutNow : GoodIn wsX11_isPiece (wsV RX11 151 RX11 yX11_cutNow wsX11_cutNow) := goodIn_app (goodIn_m [.methodLink RX11 151 yX11_cutNow, .instanceMethod yX11_cutNow, .selects RX11 yX11_cutNow yX11_cutNow, .initialized RX11] [2, 3, 4, 5] rfl (by decide +kernel)) ggX11_isPiece_X11_cutNow
set_option maxRecDepth 20000 in
theorem ggX11_isPiece_X11_within : GoodIn wsX11_isPiece wsX11_within := goodIn_m _ [81] rfl (by decide +kernel)
set_option maxRecDepth 20000 in
theorem gX11_isPiece_X11_within : GoodIn wsX11_isPiece (va_wsS RX11 104 yX11_within wsX11_within) := goodIn_app (goodIn_m [.methodLink RX11 104 yX11_within, .static yX11_within, .initialized RX11] [79, 80, 5] rfl (by decide +kernel)) ggX11_isPiece_X11_within
set_option maxRecDepth 20000 in
theorem ggX11_refusedHeap_X11_heapNow : GoodIn wsX11_refusedHeap wsX11_heapNow := goodIn_m _ [6, 7, 8, 9, 10, 1, 11, 12, 13, 14, 15, 16, 5, 17, 18, 19, 20, 21, 22, 23, 24, 25, 26, 27, 28, 29, 30, 31, 32, 33, 34, 35, 36, 37, 38, 39, 40, 41, 42, 43, 44, 45, 46, 47, 48, 49, 50, 51, 52, 53, 54, 55, 56, 57, 58, 59, 60, 61, 62, 63, 64, 65, 66, 67, 68, 69, 70, 71, 72, 73, 74, 75, 76, 77, 78, 79, 80, 81, 82, 83, 84, 85, 86, 87, 88, 89, 90, 91, 92, 93, 94, 95, 96, 97, 98, 99, 100, 101, 102, 103, 104, 105, 106, 107, 108, 109, 110, 111, 112, 113, 114, 115, 116, 117, 118, 119, 120, 121, 122, 123, 124, 125, 126, 127, 128, 129, 130, 131, 132, 133, 134, 135, 136, 137, 138, 139, 140, 141, 142, 143, 144, 145, 146, 147, 148, 149, 150, 151, 152, 153, 154, 155, 156, 157, 158, 159, 160, 161, 162, 163, 164, 165, 166, 167, 168, 169, 170, 171, 172, 173, 174, 175, 176, 177, 178, 179, 180, 181, 182, 183, 184, 185, 186, 187, 188, 189, 190, 191, 192, 193, 194, 195, 196, 212, 213, 214, 215, 216, 217, 218, 219, 220, 221, 222, 223, 197, 198, 199, 200, 201, 202, 203, 204, 205, 206, 224, 225, 226, 227, 228, 229, 230, 231, 232, 233, 234, 235, 236, 237, 238, 239, 240, 207, 208, 209, 210, 211] rfl (by decide +kernel)
set_option maxRecDepth 20000 in
theorem gX11_refusedHeap_X11_heapNow : GoodIn wsX11_refusedHeap (wsV RX11 190 RX11 yX11_heapNow wsX11_heapNow) := goodIn_app (goodIn_m [.methodLink RX11 190 yX11_heapNow, .instanceMethod yX11_heapNow, .selects RX11 yX11_heapNow yX11_heapNow, .initialized RX11] [2, 3, 4, 5] rfl (by decide +kernel)) ggX11_refusedHeap_X11_heapNow
set_option maxRecDepth 20000 in
theorem ggX11_heapOfRow_X11_within : GoodIn wsX11_heapOfRow wsX11_within := goodIn_m _ [6] rfl (by decide +kernel)
set_option maxRecDepth 20000 in
theorem gX11_heapOfRow_X11_within : GoodIn wsX11_heapOfRow (va_wsS RX11 104 yX11_within wsX11_within) := goodIn_app (goodIn_m [.methodLink RX11 104 yX11_within, .static yX11_within, .initialized RX11] [3, 4, 5] rfl (by decide +kernel)) ggX11_heapOfRow_X11_within
set_option maxRecDepth 20000 in
theorem ggX11_cutNow_X8_ruleNow : GoodIn wsX11_cutNow wsX8_ruleNow := goodIn_m _ [10, 11, 90, 91, 92, 93, 94] rfl (by decide +kernel)
set_option maxRecDepth 20000 in
theorem gX11_cutNow_X8_ruleNow : GoodIn wsX11_cutNow (wsV RX11 122 RX8 yX8_ruleNow wsX8_ruleNow) := goodIn_app (goodIn_m [.methodLink RX11 122 yX8_ruleNow, .instanceMethod yX8_ruleNow, .selects RX8 yX8_ruleNow yX8_ruleNow, .initialized RX8] [6, 7, 8, 9] rfl (by decide +kernel)) ggX11_cutNow_X8_ruleNow
set_option maxRecDepth 20000 in
theorem ggX11_cutNow_X2_cut : GoodIn wsX11_cutNow wsX2_cut := goodIn_m _ [16, 17, 18, 19, 20, 21, 22, 23, 24, 25, 26, 27, 28, 29, 30, 31, 32, 33, 34, 35, 36, 37, 15, 38, 39, 40, 41, 42, 43, 44, 45, 46, 47, 48, 49, 50, 51, 52, 53, 54, 55, 56, 57, 58, 59, 60, 61, 62, 63, 64, 65, 66, 67, 68, 69, 70, 71, 72, 73, 95, 96, 97, 98, 99, 100, 101, 102, 103, 104, 105, 106, 107, 108, 109, 110, 111, 112, 113, 114] rfl (by decide +kernel)
set_option maxRecDepth 20000 in
theorem gX11_cutNow_X2_cut : GoodIn wsX11_cutNow (wsV RX11 302 RX2 yX2_cut wsX2_cut) := goodIn_app (goodIn_m [.methodLink RX11 302 yX2_cut, .instanceMethod yX2_cut, .selects RX2 yX2_cut yX2_cut, .initialized RX2] [12, 13, 14, 15] rfl (by decide +kernel)) ggX11_cutNow_X2_cut
set_option maxRecDepth 20000 in
theorem ggX11_heapNow_X11_cutNow : GoodIn wsX11_heapNow wsX11_cutNow := goodIn_m _ [13, 14, 1, 6, 7, 4, 15, 16, 17, 18, 19, 20, 21, 22, 23, 24, 25, 26, 27, 28, 29, 30, 31, 32, 33, 34, 35, 36, 37, 38, 39, 40, 41, 42, 43, 44, 45, 46, 47, 48, 49, 50, 51, 52, 53, 54, 55, 56, 57, 58, 59, 60, 61, 62, 63, 64, 65, 66, 67, 68, 69, 70, 71, 72, 73, 74, 75, 76, 77, 78, 79, 80, 81, 82, 177, 178, 179, 180, 181, 182, 183, 184, 185, 186, 187, 188, 189, 190, 191, 192, 215, 216, 217, 218, 219, 193, 194, 195, 196, 197, 198, 199, 200, 201, 202, 203, 204, 220, 221, 222, 223, 224, 225, 226, 227] rfl (by decide +kernel)
set_option maxRecDepth 20000 in
theorem gX11_heapNow_X11_cutNow : GoodIn wsX11_heapNow (wsV RX11 151 RX11 yX11_cutNow wsX11_cutNow) := goodIn_app (goodIn_m [.methodLink RX11 151 yX11_cutNow, .instanceMethod yX11_cutNow, .selects RX11 yX11_cutNow yX11_cutNow, .initialized RX11] [9, 10, 11, 12] rfl (by decide +kernel)) ggX11_heapNow_X11_cutNow
set_option maxRecDepth 20000 in
theorem ggX11_heapNow_X8_ruleNow : GoodIn wsX11_heapNow wsX8_ruleNow := goodIn_m _ [19, 20, 215, 216, 217, 218, 219] rfl (by decide +kernel)
set_option maxRecDepth 20000 in
theorem gX11_heapNow_X8_ruleNow : GoodIn wsX11_heapNow (wsV RX11 122 RX8 yX8_ruleNow wsX8_ruleNow) := goodIn_app (goodIn_m [.methodLink RX11 122 yX8_ruleNow, .instanceMethod yX8_ruleNow, .selects RX8 yX8_ruleNow yX8_ruleNow, .initialized RX8] [15, 16, 17, 18] rfl (by decide +kernel)) ggX11_heapNow_X8_ruleNow
set_option maxRecDepth 20000 in
theorem ggX11_heapNow_X1_tie : GoodIn wsX11_heapNow wsX1_tie := goodIn_m _ [87, 88, 72, 64, 73, 89, 90, 91, 92, 93, 24, 94, 78, 75, 71, 95, 12, 96, 97, 98, 99, 100, 101, 102, 103, 104, 77, 105, 106, 107, 86, 108, 109, 193, 194, 195, 196, 197, 198, 199, 200, 201, 202, 203, 204, 228, 229, 230, 231] rfl (by decide +kernel)
set_option maxRecDepth 20000 in
theorem gX11_heapNow_X1_tie : GoodIn wsX11_heapNow (wsV RX11 306 RX1 yX1_tie wsX1_tie) := goodIn_app (goodIn_m [.methodLink RX11 306 yX1_tie, .instanceMethod yX1_tie, .selects RX1 yX1_tie yX1_tie, .initialized RX1] [83, 84, 85, 86] rfl (by decide +kernel)) ggX11_heapNow_X1_tie
set_option maxRecDepth 20000 in
theorem ggX11_heapNow_X0_findBest : GoodIn wsX11_heapNow wsX0_findBest := goodIn_m _ [114, 115, 116, 117, 118, 119, 33, 34, 35, 120, 121, 113, 122, 123, 124, 63, 64, 65, 125, 126, 127, 128, 129, 130, 131, 132, 133, 134, 135, 136, 72, 73, 137, 138, 139, 140, 141, 142, 86, 143, 109, 144, 145, 146, 205, 206, 207, 208, 209, 210, 211, 212, 213, 214, 232, 233, 234, 235, 236, 228, 229, 230, 231] rfl (by decide +kernel)
set_option maxRecDepth 20000 in
theorem gX11_heapNow_X0_findBest : GoodIn wsX11_heapNow (wsV RX11 310 RX0 yX0_findBest wsX0_findBest) := goodIn_app (goodIn_m [.methodLink RX11 310 yX0_findBest, .instanceMethod yX0_findBest, .selects RX0 yX0_findBest yX0_findBest, .initialized RX0] [110, 111, 112, 113] rfl (by decide +kernel)) ggX11_heapNow_X0_findBest
set_option maxRecDepth 20000 in
theorem ggX11_heapNow_X4_findMiddles : GoodIn wsX11_heapNow wsX4_findMiddles := goodIn_m _ [151, 152, 153, 154, 155, 51, 52, 53, 54, 55, 56, 156, 58, 59, 60, 61, 62, 63, 64, 65, 157, 80, 81, 82, 232, 233, 234, 235, 236, 220, 221, 222, 223, 224, 193, 194, 195, 196, 197, 198, 199, 200, 201, 202, 203, 204, 225, 226, 227] rfl (by decide +kernel)
set_option maxRecDepth 20000 in
theorem gX11_heapNow_X4_findMiddles : GoodIn wsX11_heapNow (wsV RX11 314 RX4 yX4_findMiddles wsX4_findMiddles) := goodIn_app (goodIn_m [.methodLink RX11 314 yX4_findMiddles, .instanceMethod yX4_findMiddles, .selects RX4 yX4_findMiddles yX4_findMiddles, .initialized RX4] [147, 148, 149, 150] rfl (by decide +kernel)) ggX11_heapNow_X4_findMiddles
set_option maxRecDepth 20000 in
theorem ggX11_heapNow_X1_join : GoodIn wsX11_heapNow wsX1_join := goodIn_m _ [161, 89, 162, 90, 163, 164, 165, 86, 166, 167, 168, 169, 150, 170, 171, 152, 153, 172, 33, 34, 35, 173, 174, 175, 176, 228, 229, 230, 231, 232, 233, 234, 235, 236] rfl (by decide +kernel)
set_option maxRecDepth 20000 in
theorem gX11_heapNow_X1_join : GoodIn wsX11_heapNow (wsV RX11 318 RX1 yX1_join wsX1_join) := goodIn_app (goodIn_m [.methodLink RX11 318 yX1_join, .instanceMethod yX1_join, .selects RX1 yX1_join yX1_join, .initialized RX1] [158, 159, 160, 86] rfl (by decide +kernel)) ggX11_heapNow_X1_join
set_option maxRecDepth 20000 in
theorem ggX11_nearNow_X8_ruleNow : GoodIn wsX11_nearNow wsX8_ruleNow := goodIn_m _ [9, 10, 74, 75, 76, 77, 78] rfl (by decide +kernel)
set_option maxRecDepth 20000 in
theorem gX11_nearNow_X8_ruleNow : GoodIn wsX11_nearNow (wsV RX11 122 RX8 yX8_ruleNow wsX8_ruleNow) := goodIn_app (goodIn_m [.methodLink RX11 122 yX8_ruleNow, .instanceMethod yX8_ruleNow, .selects RX8 yX8_ruleNow yX8_ruleNow, .initialized RX8] [5, 6, 7, 8] rfl (by decide +kernel)) ggX11_nearNow_X8_ruleNow
set_option maxRecDepth 20000 in
theorem ggX11_nearNow_X0_findNear : GoodIn wsX11_nearNow wsX0_findNear := goodIn_m _ [15, 16, 17, 18, 19, 20, 21, 22, 23, 24, 25, 26, 27, 28, 29, 30, 31, 14, 32, 33, 34, 35, 36, 37, 38, 39, 40, 41, 42, 43, 44, 45, 46, 47, 48, 49, 50, 51, 52, 53, 54, 55, 56, 57, 79, 80, 81, 82, 83, 84, 85, 86, 87, 88, 89, 90, 91, 92, 93, 94, 95, 96, 97] rfl (by decide +kernel)
set_option maxRecDepth 20000 in
theorem gX11_nearNow_X0_findNear : GoodIn wsX11_nearNow (wsV RX11 322 RX0 yX0_findNear wsX0_findNear) := goodIn_app (goodIn_m [.methodLink RX11 322 yX0_findNear, .instanceMethod yX0_findNear, .selects RX0 yX0_findNear yX0_findNear, .initialized RX0] [11, 12, 13, 14] rfl (by decide +kernel)) ggX11_nearNow_X0_findNear
set_option maxRecDepth 20000 in
theorem ggX12_init_X12_atFirst : GoodIn wsX12_init wsX12_atFirst := goodIn_m _ [39, 5, 40, 41, 42, 43, 44, 45, 46, 47, 48, 49, 50, 51, 52, 53, 54, 55, 56, 57, 58, 59, 60, 61, 62, 63, 64, 65, 66, 67, 68, 69, 70, 71, 72, 73, 74, 75, 76, 77, 78, 79, 80, 81, 82, 83, 84] rfl (by decide +kernel)
set_option maxRecDepth 20000 in
theorem gX12_init_X12_atFirst : GoodIn wsX12_init (wsV RX12 96 RX12 yX12_atFirst wsX12_atFirst) := goodIn_app (goodIn_m [.methodLink RX12 96 yX12_atFirst, .instanceMethod yX12_atFirst, .selects RX12 yX12_atFirst yX12_atFirst, .initialized RX12] [35, 36, 37, 38] rfl (by decide +kernel)) ggX12_init_X12_atFirst
set_option maxRecDepth 20000 in
theorem ggX12_type_X12_in : GoodIn wsX12_type wsX12_in := goodIn_m _ [7] rfl (by decide +kernel)
set_option maxRecDepth 20000 in
theorem gX12_type_X12_in : GoodIn wsX12_type (va_wsS RX12 100 yX12_in wsX12_in) := goodIn_app (goodIn_m [.methodLink RX12 100 yX12_in, .static yX12_in, .initialized RX12] [4, 5, 6] rfl (by decide +kernel)) ggX12_type_X12_in
set_option maxRecDepth 20000 in
theorem ggX12_code_X12_more : GoodIn wsX12_code wsX12_more := goodIn_m _ [4, 5, 6] rfl (by decide +kernel)
set_option maxRecDepth 20000 in
theorem gX12_code_X12_more : GoodIn wsX12_code (va_wsS RX12 117 yX12_more wsX12_more) := goodIn_app (goodIn_m [.methodLink RX12 117 yX12_more, .static yX12_more, .initialized RX12] [1, 2, 3] rfl (by decide +kernel)) ggX12_code_X12_more
set_option maxRecDepth 20000 in
theorem ggX12_wordOf_X12_more : GoodIn wsX12_wordOf wsX12_more := goodIn_m _ [5, 6, 7] rfl (by decide +kernel)
set_option maxRecDepth 20000 in
theorem gX12_wordOf_X12_more : GoodIn wsX12_wordOf (va_wsS RX12 117 yX12_more wsX12_more) := goodIn_app (goodIn_m [.methodLink RX12 117 yX12_more, .static yX12_more, .initialized RX12] [2, 3, 4] rfl (by decide +kernel)) ggX12_wordOf_X12_more
set_option maxRecDepth 20000 in
theorem ggX12_wordOf_X12_code : GoodIn wsX12_wordOf wsX12_code := goodIn_m _ [10, 2, 3, 4, 5, 6, 7] rfl (by decide +kernel)
set_option maxRecDepth 20000 in
theorem gX12_wordOf_X12_code : GoodIn wsX12_wordOf (va_wsS RX12 121 yX12_code wsX12_code) := goodIn_app (goodIn_m [.methodLink RX12 121 yX12_code, .static yX12_code, .initialized RX12] [8, 9, 4] rfl (by decide +kernel)) ggX12_wordOf_X12_code
set_option maxRecDepth 20000 in
theorem ggX12_next_X12_here : GoodIn wsX12_next wsX12_here := goodIn_m _ [9, 1, 10, 11, 27, 28, 29, 30, 31, 32, 33, 34, 35, 36, 37, 38, 39, 40, 41, 42, 43, 44, 45, 46, 47, 48, 49, 50, 51, 52, 53, 54, 55, 56, 57, 58, 59, 60, 61, 62, 63, 64, 65, 66, 67, 68, 69, 70, 71] rfl (by decide +kernel)
set_option maxRecDepth 20000 in
theorem gX12_next_X12_here : GoodIn wsX12_next (wsV RX12 125 RX12 yX12_here wsX12_here) := goodIn_app (goodIn_m [.methodLink RX12 125 yX12_here, .instanceMethod yX12_here, .selects RX12 yX12_here yX12_here, .initialized RX12] [5, 6, 7, 8] rfl (by decide +kernel)) ggX12_next_X12_here
set_option maxRecDepth 20000 in
theorem ggX12_next_X12_in : GoodIn wsX12_next wsX12_in := goodIn_m _ [14] rfl (by decide +kernel)
set_option maxRecDepth 20000 in
theorem gX12_next_X12_in : GoodIn wsX12_next (va_wsS RX12 100 yX12_in wsX12_in) := goodIn_app (goodIn_m [.methodLink RX12 100 yX12_in, .static yX12_in, .initialized RX12] [12, 13, 8] rfl (by decide +kernel)) ggX12_next_X12_in
set_option maxRecDepth 20000 in
theorem ggX12_next_X12_wordOf : GoodIn wsX12_next wsX12_wordOf := goodIn_m _ [18, 11, 19, 20, 8, 21, 22, 23, 24, 25, 26, 27, 28, 29, 30, 31, 32, 33, 34, 35, 36, 37, 38, 39, 40, 41, 42, 43, 44, 45, 46, 47, 48, 49, 50, 51, 52, 53, 54, 55, 56, 57, 58, 59, 60, 61, 62, 63, 64, 65, 66, 67, 68, 69, 70, 71] rfl (by decide +kernel)
set_option maxRecDepth 20000 in
theorem gX12_next_X12_wordOf : GoodIn wsX12_next (wsV RX12 138 RX12 yX12_wordOf wsX12_wordOf) := goodIn_app (goodIn_m [.methodLink RX12 138 yX12_wordOf, .instanceMethod yX12_wordOf, .selects RX12 yX12_wordOf yX12_wordOf, .initialized RX12] [15, 16, 17, 8] rfl (by decide +kernel)) ggX12_next_X12_wordOf
set_option maxRecDepth 20000 in
theorem ggX12_due_X12_next : GoodIn wsX12_due wsX12_next := goodIn_m _ [8, 9, 3, 1, 10, 11, 12, 13, 7, 14, 15, 16, 17, 18, 19, 20, 21, 22, 23, 24, 25, 26, 27, 28, 29, 30, 31, 32, 33, 34, 35, 36, 37, 38, 39, 40, 41, 42, 43, 44, 45, 46, 47, 48, 49, 50, 51, 52, 53, 54, 55, 56, 57, 58, 59, 60, 61, 62, 63, 64, 65, 66, 67, 68, 69, 70, 71, 72, 73, 74, 75, 76] rfl (by decide +kernel)
set_option maxRecDepth 20000 in
theorem gX12_due_X12_next : GoodIn wsX12_due (wsV RX12 145 RX12 yX12_next wsX12_next) := goodIn_app (goodIn_m [.methodLink RX12 145 yX12_next, .instanceMethod yX12_next, .selects RX12 yX12_next yX12_next, .initialized RX12] [4, 5, 6, 7] rfl (by decide +kernel)) ggX12_due_X12_next
set_option maxRecDepth 20000 in
theorem ggX12_rules_X12_atFirst : GoodIn wsX12_rules wsX12_atFirst := goodIn_m _ [11, 5, 44, 45, 46, 47, 48, 49, 50, 51, 52, 53, 54, 55, 56, 57, 58, 59, 60, 61, 62, 63, 64, 65, 66, 67, 68, 69, 70, 71, 72, 73, 74, 75, 76, 77, 78, 79, 80, 81, 82, 83, 84, 85, 86, 87, 88] rfl (by decide +kernel)
set_option maxRecDepth 20000 in
theorem gX12_rules_X12_atFirst : GoodIn wsX12_rules (wsV RX12 96 RX12 yX12_atFirst wsX12_atFirst) := goodIn_app (goodIn_m [.methodLink RX12 96 yX12_atFirst, .instanceMethod yX12_atFirst, .selects RX12 yX12_atFirst yX12_atFirst, .initialized RX12] [7, 8, 9, 10] rfl (by decide +kernel)) ggX12_rules_X12_atFirst
set_option maxRecDepth 20000 in
theorem ggX12_rules_X12_next : GoodIn wsX12_rules wsX12_next := goodIn_m _ [15, 1, 16, 4, 3, 17, 18, 19, 10, 20, 6, 21, 22, 23, 24, 25, 26, 27, 28, 29, 30, 31, 32, 33, 34, 35, 36, 44, 45, 46, 47, 48, 49, 50, 51, 52, 53, 54, 55, 56, 57, 58, 59, 60, 61, 62, 63, 64, 65, 66, 67, 68, 69, 70, 71, 72, 73, 74, 75, 76, 77, 78, 79, 80, 81, 82, 83, 84, 85, 86, 87, 88] rfl (by decide +kernel)
set_option maxRecDepth 20000 in
theorem gX12_rules_X12_next : GoodIn wsX12_rules (wsV RX12 145 RX12 yX12_next wsX12_next) := goodIn_app (goodIn_m [.methodLink RX12 145 yX12_next, .instanceMethod yX12_next, .selects RX12 yX12_next yX12_next, .initialized RX12] [12, 13, 14, 10] rfl (by decide +kernel)) ggX12_rules_X12_next
set_option maxRecDepth 20000 in
theorem ggX12_rules_X12_due : GoodIn wsX12_rules wsX12_due := goodIn_m _ [40, 4, 2, 16, 12, 13, 14, 10, 15, 1, 3, 17, 18, 19, 20, 6, 21, 22, 23, 24, 25, 26, 27, 28, 29, 30, 31, 32, 33, 34, 35, 36, 44, 45, 46, 47, 48, 49, 50, 51, 52, 53, 54, 55, 56, 57, 58, 59, 60, 61, 62, 63, 64, 65, 66, 67, 68, 69, 70, 71, 72, 73, 74, 75, 76, 77, 78, 79, 80, 81, 82, 83, 84, 85, 86, 87, 88] rfl (by decide +kernel)
set_option maxRecDepth 20000 in
theorem gX12_rules_X12_due : GoodIn wsX12_rules (wsV RX12 148 RX12 yX12_due wsX12_due) := goodIn_app (goodIn_m [.methodLink RX12 148 yX12_due, .instanceMethod yX12_due, .selects RX12 yX12_due yX12_due, .initialized RX12] [37, 38, 39, 10] rfl (by decide +kernel)) ggX12_rules_X12_due
set_option maxRecDepth 20000 in
theorem ggX12_rules_X12_most : GoodIn wsX12_rules wsX12_most := goodIn_m _ [43] rfl (by decide +kernel)
set_option maxRecDepth 20000 in
theorem gX12_rules_X12_most : GoodIn wsX12_rules (va_wsS RX12 152 yX12_most wsX12_most) := goodIn_app (goodIn_m [.methodLink RX12 152 yX12_most, .static yX12_most, .initialized RX12] [41, 42, 10] rfl (by decide +kernel)) ggX12_rules_X12_most
set_option maxRecDepth 20000 in
theorem ggX12_rule_X12_in : GoodIn wsX12_rule wsX12_in := goodIn_m _ [5] rfl (by decide +kernel)
set_option maxRecDepth 20000 in
theorem gX12_rule_X12_in : GoodIn wsX12_rule (va_wsS RX12 100 yX12_in wsX12_in) := goodIn_app (goodIn_m [.methodLink RX12 100 yX12_in, .static yX12_in, .initialized RX12] [2, 3, 4] rfl (by decide +kernel)) ggX12_rule_X12_in
set_option maxRecDepth 20000 in
theorem ggX12_row_X12_in : GoodIn wsX12_row wsX12_in := goodIn_m _ [5] rfl (by decide +kernel)
set_option maxRecDepth 20000 in
theorem gX12_row_X12_in : GoodIn wsX12_row (va_wsS RX12 100 yX12_in wsX12_in) := goodIn_app (goodIn_m [.methodLink RX12 100 yX12_in, .static yX12_in, .initialized RX12] [2, 3, 4] rfl (by decide +kernel)) ggX12_row_X12_in
set_option maxRecDepth 20000 in
theorem ggX12_row_X12_addRow : GoodIn wsX12_row wsX12_addRow := goodIn_m _ [9, 10, 1, 11, 12, 13, 14, 15, 16, 17, 18, 19, 20, 21, 22, 23, 24, 25, 26, 27, 28, 29, 30, 31, 32, 33, 34, 35, 36, 37, 38, 39, 40, 41, 42, 43, 44, 45, 46, 47, 48, 49, 50, 51, 52, 53, 54, 55, 56, 57, 58] rfl (by decide +kernel)
set_option maxRecDepth 20000 in
theorem gX12_row_X12_addRow : GoodIn wsX12_row (wsV RX12 159 RX12 yX12_addRow wsX12_addRow) := goodIn_app (goodIn_m [.methodLink RX12 159 yX12_addRow, .instanceMethod yX12_addRow, .selects RX12 yX12_addRow yX12_addRow, .initialized RX12] [6, 7, 8, 4] rfl (by decide +kernel)) ggX12_row_X12_addRow
set_option maxRecDepth 20000 in
theorem ggX12_deaf_X12_in : GoodIn wsX12_deaf wsX12_in := goodIn_m _ [5] rfl (by decide +kernel)
set_option maxRecDepth 20000 in
theorem gX12_deaf_X12_in : GoodIn wsX12_deaf (va_wsS RX12 100 yX12_in wsX12_in) := goodIn_app (goodIn_m [.methodLink RX12 100 yX12_in, .static yX12_in, .initialized RX12] [2, 3, 4] rfl (by decide +kernel)) ggX12_deaf_X12_in
set_option maxRecDepth 20000 in
theorem ggX12_deaf_X12_addRow : GoodIn wsX12_deaf wsX12_addRow := goodIn_m _ [9, 10, 1, 11, 12, 13, 14, 15, 16, 17, 18, 19, 20, 21, 22, 23, 24, 25, 26, 27, 28, 29, 30, 31, 32, 33, 34, 35, 36, 37, 38, 39, 40, 41, 42, 43, 44, 45, 46, 47, 48, 49, 50, 51, 52, 53, 54, 55, 56, 57, 58] rfl (by decide +kernel)
set_option maxRecDepth 20000 in
theorem gX12_deaf_X12_addRow : GoodIn wsX12_deaf (wsV RX12 159 RX12 yX12_addRow wsX12_addRow) := goodIn_app (goodIn_m [.methodLink RX12 159 yX12_addRow, .instanceMethod yX12_addRow, .selects RX12 yX12_addRow yX12_addRow, .initialized RX12] [6, 7, 8, 4] rfl (by decide +kernel)) ggX12_deaf_X12_addRow
set_option maxRecDepth 20000 in
theorem ggX12_isRow_X12_in : GoodIn wsX12_isRow wsX12_in := goodIn_m _ [5] rfl (by decide +kernel)
set_option maxRecDepth 20000 in
theorem gX12_isRow_X12_in : GoodIn wsX12_isRow (va_wsS RX12 100 yX12_in wsX12_in) := goodIn_app (goodIn_m [.methodLink RX12 100 yX12_in, .static yX12_in, .initialized RX12] [2, 3, 4] rfl (by decide +kernel)) ggX12_isRow_X12_in
set_option maxRecDepth 20000 in
theorem ggX12_areRows_X12_isRow : GoodIn wsX12_areRows wsX12_isRow := goodIn_m _ [6, 1, 7, 8, 5, 9, 10, 11, 12, 13, 14, 15, 16, 17, 18, 19, 20, 21, 22, 23, 24, 25, 26, 27, 28, 29, 30, 31, 32, 33, 34, 35, 36, 37, 38, 39, 40, 41, 42, 43, 44, 45, 46, 47, 48, 49, 50, 51, 52, 53, 54] rfl (by decide +kernel)
set_option maxRecDepth 20000 in
theorem gX12_areRows_X12_isRow : GoodIn wsX12_areRows (wsV RX12 163 RX12 yX12_isRow wsX12_isRow) := goodIn_app (goodIn_m [.methodLink RX12 163 yX12_isRow, .instanceMethod yX12_isRow, .selects RX12 yX12_isRow yX12_isRow, .initialized RX12] [2, 3, 4, 5] rfl (by decide +kernel)) ggX12_areRows_X12_isRow
set_option maxRecDepth 20000 in
theorem ggX12_areRows_X12_in : GoodIn wsX12_areRows wsX12_in := goodIn_m _ [9] rfl (by decide +kernel)
set_option maxRecDepth 20000 in
theorem gX12_areRows_X12_in : GoodIn wsX12_areRows (va_wsS RX12 100 yX12_in wsX12_in) := goodIn_app (goodIn_m [.methodLink RX12 100 yX12_in, .static yX12_in, .initialized RX12] [7, 8, 5] rfl (by decide +kernel)) ggX12_areRows_X12_in
set_option maxRecDepth 20000 in
theorem ggX12_out_X12_areRows : GoodIn wsX12_out wsX12_areRows := goodIn_m _ [6, 7, 8, 9, 10, 5, 11, 12, 13, 14, 15, 16, 17, 18, 19, 20, 21, 22, 23, 24, 25, 26, 27, 28, 29, 30, 31, 32, 33, 34, 35, 36, 37, 38, 39, 40, 41, 42, 43, 44, 45, 46, 47, 48, 49, 50, 51, 52, 53, 54, 55, 56, 57, 58, 59] rfl (by decide +kernel)
set_option maxRecDepth 20000 in
theorem gX12_out_X12_areRows : GoodIn wsX12_out (wsV RX12 167 RX12 yX12_areRows wsX12_areRows) := goodIn_app (goodIn_m [.methodLink RX12 167 yX12_areRows, .instanceMethod yX12_areRows, .selects RX12 yX12_areRows yX12_areRows, .initialized RX12] [2, 3, 4, 5] rfl (by decide +kernel)) ggX12_out_X12_areRows
set_option maxRecDepth 20000 in
theorem ggX12_out_X12_in : GoodIn wsX12_out wsX12_in := goodIn_m _ [14] rfl (by decide +kernel)
set_option maxRecDepth 20000 in
theorem gX12_out_X12_in : GoodIn wsX12_out (va_wsS RX12 100 yX12_in wsX12_in) := goodIn_app (goodIn_m [.methodLink RX12 100 yX12_in, .static yX12_in, .initialized RX12] [12, 13, 5] rfl (by decide +kernel)) ggX12_out_X12_in
set_option maxRecDepth 20000 in
theorem ggX12_askRows_X12_in : GoodIn wsX12_askRows wsX12_in := goodIn_m _ [6] rfl (by decide +kernel)
set_option maxRecDepth 20000 in
theorem gX12_askRows_X12_in : GoodIn wsX12_askRows (va_wsS RX12 100 yX12_in wsX12_in) := goodIn_app (goodIn_m [.methodLink RX12 100 yX12_in, .static yX12_in, .initialized RX12] [3, 4, 5] rfl (by decide +kernel)) ggX12_askRows_X12_in
set_option maxRecDepth 20000 in
theorem ggX12_askRows_X12_findMiddle : GoodIn wsX12_askRows wsX12_findMiddle := goodIn_m _ [10, 11, 1, 2, 12, 13, 14, 15, 16, 17, 18, 19, 20, 21, 22, 23, 24, 25, 26, 27, 28, 29, 30, 31, 32, 33, 34, 35, 36, 37, 38, 39, 40, 41, 42, 43, 44, 45, 46, 47, 48, 49, 50, 51, 52, 53, 54, 55, 56, 57, 58, 59] rfl (by decide +kernel)
set_option maxRecDepth 20000 in
theorem gX12_askRows_X12_findMiddle : GoodIn wsX12_askRows (wsV RX12 181 RX12 yX12_findMiddle wsX12_findMiddle) := goodIn_app (goodIn_m [.methodLink RX12 181 yX12_findMiddle, .instanceMethod yX12_findMiddle, .selects RX12 yX12_findMiddle yX12_findMiddle, .initialized RX12] [7, 8, 9, 5] rfl (by decide +kernel)) ggX12_askRows_X12_findMiddle
set_option maxRecDepth 20000 in
theorem ggX12_cut_X12_askRows : GoodIn wsX12_cut wsX12_askRows := goodIn_m _ [17, 18, 19, 20, 21, 16, 22, 23, 24, 25, 26, 3, 27, 28, 11, 29, 30, 31, 32, 33, 34, 35, 36, 37, 38, 39, 40, 41, 42, 43, 44, 45, 46, 47, 48, 49, 50, 51, 52, 53, 54, 55, 56, 57, 58, 59, 60, 61, 62, 63, 64, 65, 66, 67, 68, 69, 70, 71, 72, 73] rfl (by decide +kernel)
set_option maxRecDepth 20000 in
theorem gX12_cut_X12_askRows : GoodIn wsX12_cut (wsV RX12 184 RX12 yX12_askRows wsX12_askRows) := goodIn_app (goodIn_m [.methodLink RX12 184 yX12_askRows, .instanceMethod yX12_askRows, .selects RX12 yX12_askRows yX12_askRows, .initialized RX12] [13, 14, 15, 16] rfl (by decide +kernel)) ggX12_cut_X12_askRows
set_option maxRecDepth 20000 in
theorem ggX12_findPieces_X12_isHeard : GoodIn wsX12_findPieces wsX12_isHeard := goodIn_m _ [10, 11, 12, 13, 14, 40, 41, 42, 43, 44, 45, 46, 47, 48, 49, 50, 51, 52, 53, 54, 55, 56, 57, 58, 59, 60, 61, 62, 63, 64, 65, 66, 67, 68, 69, 70, 71, 72, 73, 74, 75, 76, 77, 78, 79, 80, 81, 82, 83, 84] rfl (by decide +kernel)
set_option maxRecDepth 20000 in
theorem gX12_findPieces_X12_isHeard : GoodIn wsX12_findPieces (wsV RX12 197 RX12 yX12_isHeard wsX12_isHeard) := goodIn_app (goodIn_m [.methodLink RX12 197 yX12_isHeard, .instanceMethod yX12_isHeard, .selects RX12 yX12_isHeard yX12_isHeard, .initialized RX12] [6, 7, 8, 9] rfl (by decide +kernel)) ggX12_findPieces_X12_isHeard
set_option maxRecDepth 20000 in
theorem ggX12_findPieces_X12_cut : GoodIn wsX12_findPieces wsX12_cut := goodIn_m _ [18, 19, 20, 21, 14, 3, 22, 1, 23, 24, 25, 26, 5, 27, 28, 29, 9, 30, 4, 31, 32, 33, 34, 35, 36, 37, 38, 11, 39, 40, 41, 42, 43, 44, 45, 46, 47, 48, 49, 50, 51, 52, 53, 54, 55, 56, 57, 58, 59, 60, 61, 62, 63, 64, 65, 66, 67, 68, 69, 70, 71, 72, 73, 74, 75, 76, 77, 78, 79, 80, 81, 82, 83, 84] rfl (by decide +kernel)
set_option maxRecDepth 20000 in
theorem gX12_findPieces_X12_cut : GoodIn wsX12_findPieces (wsV RX12 200 RX12 yX12_cut wsX12_cut) := goodIn_app (goodIn_m [.methodLink RX12 200 yX12_cut, .instanceMethod yX12_cut, .selects RX12 yX12_cut yX12_cut, .initialized RX12] [15, 16, 17, 9] rfl (by decide +kernel)) ggX12_findPieces_X12_cut
set_option maxRecDepth 20000 in
theorem ggX12_pieces_X12_in : GoodIn wsX12_pieces wsX12_in := goodIn_m _ [8] rfl (by decide +kernel)
set_option maxRecDepth 20000 in
theorem gX12_pieces_X12_in : GoodIn wsX12_pieces (va_wsS RX12 100 yX12_in wsX12_in) := goodIn_app (goodIn_m [.methodLink RX12 100 yX12_in, .static yX12_in, .initialized RX12] [5, 6, 7] rfl (by decide +kernel)) ggX12_pieces_X12_in
set_option maxRecDepth 20000 in
theorem ggX12_pieces_X12_findPieces : GoodIn wsX12_pieces wsX12_findPieces := goodIn_m _ [12, 2, 3, 4, 1, 13, 14, 15, 16, 7, 17, 18, 19, 20, 21, 22, 23, 24, 25, 26, 27, 28, 29, 30, 31, 32, 33, 34, 35, 36, 37, 38, 5, 6, 8, 39, 40, 41, 42, 43, 44, 45, 46, 47, 48, 49, 50, 51, 52, 53, 54, 55, 56, 57, 58, 59, 60, 61, 62, 63, 64, 65, 66, 67, 68, 69, 70, 71, 72, 73, 74, 75, 76, 77, 78, 79, 80, 81, 82, 83, 84, 85, 86, 87, 88] rfl (by decide +kernel)
set_option maxRecDepth 20000 in
theorem gX12_pieces_X12_findPieces : GoodIn wsX12_pieces (wsV RX12 203 RX12 yX12_findPieces wsX12_findPieces) := goodIn_app (goodIn_m [.methodLink RX12 203 yX12_findPieces, .instanceMethod yX12_findPieces, .selects RX12 yX12_findPieces yX12_findPieces, .initialized RX12] [9, 10, 11, 7] rfl (by decide +kernel)) ggX12_pieces_X12_findPieces
set_option maxRecDepth 20000 in
theorem ggX12_pieces_X12_isHeard : GoodIn wsX12_pieces wsX12_isHeard := goodIn_m _ [17, 18, 19, 20, 21, 44, 45, 46, 47, 48, 49, 50, 51, 52, 53, 54, 55, 56, 57, 58, 59, 60, 61, 62, 63, 64, 65, 66, 67, 68, 69, 70, 71, 72, 73, 74, 75, 76, 77, 78, 79, 80, 81, 82, 83, 84, 85, 86, 87, 88] rfl (by decide +kernel)
set_option maxRecDepth 20000 in
theorem gX12_pieces_X12_isHeard : GoodIn wsX12_pieces (wsV RX12 197 RX12 yX12_isHeard wsX12_isHeard) := goodIn_app (goodIn_m [.methodLink RX12 197 yX12_isHeard, .instanceMethod yX12_isHeard, .selects RX12 yX12_isHeard yX12_isHeard, .initialized RX12] [14, 15, 16, 7] rfl (by decide +kernel)) ggX12_pieces_X12_isHeard
set_option maxRecDepth 20000 in
theorem ggX12_isPiece_X12_in : GoodIn wsX12_isPiece wsX12_in := goodIn_m _ [5] rfl (by decide +kernel)
set_option maxRecDepth 20000 in
theorem gX12_isPiece_X12_in : GoodIn wsX12_isPiece (va_wsS RX12 100 yX12_in wsX12_in) := goodIn_app (goodIn_m [.methodLink RX12 100 yX12_in, .static yX12_in, .initialized RX12] [2, 3, 4] rfl (by decide +kernel)) ggX12_isPiece_X12_in
set_option maxRecDepth 20000 in
theorem ggX12_piece_X12_findPieces : GoodIn wsX12_piece wsX12_findPieces := goodIn_m _ [9, 10, 11, 12, 13, 14, 15, 16, 17, 8, 18, 19, 20, 21, 22, 23, 24, 25, 26, 27, 28, 29, 1, 2, 3, 4, 30, 31, 32, 33, 34, 35, 36, 37, 38, 39, 40, 41, 42, 43, 48, 49, 50, 51, 52, 53, 54, 55, 56, 57, 58, 59, 60, 61, 62, 63, 64, 65, 66, 67, 68, 69, 70, 71, 72, 73, 74, 75, 76, 77, 78, 79, 80, 81, 82, 83, 84, 85, 86, 87, 88, 89, 90, 91, 92] rfl (by decide +kernel)
set_option maxRecDepth 20000 in
theorem gX12_piece_X12_findPieces : GoodIn wsX12_piece (wsV RX12 203 RX12 yX12_findPieces wsX12_findPieces) := goodIn_app (goodIn_m [.methodLink RX12 203 yX12_findPieces, .instanceMethod yX12_findPieces, .selects RX12 yX12_findPieces yX12_findPieces, .initialized RX12] [5, 6, 7, 8] rfl (by decide +kernel)) ggX12_piece_X12_findPieces
set_option maxRecDepth 20000 in
theorem ggX12_piece_X12_isPiece : GoodIn wsX12_piece wsX12_isPiece := goodIn_m _ [47, 10, 36, 37, 8, 38, 48, 49, 50, 51, 52, 53, 54, 55, 56, 57, 58, 59, 60, 61, 62, 63, 64, 65, 66, 67, 68, 69, 70, 71, 72, 73, 74, 75, 76, 77, 78, 79, 80, 81, 82, 83, 84, 85, 86, 87, 88, 89, 90, 91, 92] rfl (by decide +kernel)
set_option maxRecDepth 20000 in
theorem gX12_piece_X12_isPiece : GoodIn wsX12_piece (wsV RX12 206 RX12 yX12_isPiece wsX12_isPiece) := goodIn_app (goodIn_m [.methodLink RX12 206 yX12_isPiece, .instanceMethod yX12_isPiece, .selects RX12 yX12_isPiece yX12_isPiece, .initialized RX12] [44, 45, 46, 8] rfl (by decide +kernel)) ggX12_piece_X12_isPiece
set_option maxRecDepth 20000 in
theorem ggX12_piece_X12_in : GoodIn wsX12_piece wsX12_in := goodIn_m _ [38] rfl (by decide +kernel)
set_option maxRecDepth 20000 in
theorem gX12_piece_X12_in : GoodIn wsX12_piece (va_wsS RX12 100 yX12_in wsX12_in) := goodIn_app (goodIn_m [.methodLink RX12 100 yX12_in, .static yX12_in, .initialized RX12] [36, 37, 8] rfl (by decide +kernel)) ggX12_piece_X12_in
set_option maxRecDepth 20000 in
theorem ggX12_of_X12_isRow : GoodIn wsX12_of wsX12_isRow := goodIn_m _ [6, 7, 8, 9, 5, 10, 48, 49, 50, 51, 52, 53, 54, 55, 56, 57, 58, 59, 60, 61, 62, 63, 64, 65, 66, 67, 68, 69, 70, 71, 72, 73, 74, 75, 76, 77, 78, 79, 80, 81, 82, 83, 84, 85, 86, 87, 88, 89, 90, 91, 92] rfl (by decide +kernel)
set_option maxRecDepth 20000 in
theorem gX12_of_X12_isRow : GoodIn wsX12_of (wsV RX12 163 RX12 yX12_isRow wsX12_isRow) := goodIn_app (goodIn_m [.methodLink RX12 163 yX12_isRow, .instanceMethod yX12_isRow, .selects RX12 yX12_isRow yX12_isRow, .initialized RX12] [2, 3, 4, 5] rfl (by decide +kernel)) ggX12_of_X12_isRow
set_option maxRecDepth 20000 in
theorem ggX12_of_X12_findPieces : GoodIn wsX12_of wsX12_findPieces := goodIn_m _ [14, 15, 16, 17, 7, 1, 18, 19, 20, 5, 21, 22, 23, 24, 25, 26, 27, 28, 29, 30, 31, 32, 33, 34, 35, 36, 37, 38, 39, 40, 41, 42, 8, 9, 10, 43, 44, 45, 46, 47, 48, 49, 50, 51, 52, 53, 54, 55, 56, 57, 58, 59, 60, 61, 62, 63, 64, 65, 66, 67, 68, 69, 70, 71, 72, 73, 74, 75, 76, 77, 78, 79, 80, 81, 82, 83, 84, 85, 86, 87, 88, 89, 90, 91, 92] rfl (by decide +kernel)
set_option maxRecDepth 20000 in
theorem gX12_of_X12_findPieces : GoodIn wsX12_of (wsV RX12 203 RX12 yX12_findPieces wsX12_findPieces) := goodIn_app (goodIn_m [.methodLink RX12 203 yX12_findPieces, .instanceMethod yX12_findPieces, .selects RX12 yX12_findPieces yX12_findPieces, .initialized RX12] [11, 12, 13, 5] rfl (by decide +kernel)) ggX12_of_X12_findPieces
set_option maxRecDepth 20000 in
theorem ggX12_likeOf_X12_size : GoodIn wsX12_likeOf wsX12_size := goodIn_m _ [7] rfl (by decide +kernel)
set_option maxRecDepth 20000 in
theorem gX12_likeOf_X12_size : GoodIn wsX12_likeOf (va_wsS RX12 209 yX12_size wsX12_size) := goodIn_app (goodIn_m [.methodLink RX12 209 yX12_size, .static yX12_size, .initialized RX12] [4, 5, 6] rfl (by decide +kernel)) ggX12_likeOf_X12_size
set_option maxRecDepth 20000 in
theorem ggX12_like_X12_findPieces : GoodIn wsX12_like wsX12_findPieces := goodIn_m _ [6, 7, 8, 9, 10, 11, 12, 13, 14, 5, 15, 16, 17, 18, 19, 20, 21, 22, 23, 24, 25, 26, 27, 28, 29, 30, 31, 32, 33, 34, 35, 36, 37, 38, 39, 40, 41, 42, 43, 44, 56, 57, 58, 59, 60, 61, 62, 63, 64, 65, 66, 67, 68, 69, 70, 71, 72, 73, 74, 75, 76, 77, 78, 79, 80, 81, 82, 83, 84, 85, 86, 87, 88, 89, 90, 91, 92, 93, 94, 95, 96, 97, 98, 99, 100] rfl (by decide +kernel)
set_option maxRecDepth 20000 in
theorem gX12_like_X12_findPieces : GoodIn wsX12_like (wsV RX12 203 RX12 yX12_findPieces wsX12_findPieces) := goodIn_app (goodIn_m [.methodLink RX12 203 yX12_findPieces, .instanceMethod yX12_findPieces, .selects RX12 yX12_findPieces yX12_findPieces, .initialized RX12] [2, 3, 4, 5] rfl (by decide +kernel)) ggX12_like_X12_findPieces
set_option maxRecDepth 20000 in
theorem ggX12_like_X12_isPiece : GoodIn wsX12_like wsX12_isPiece := goodIn_m _ [48, 7, 37, 38, 5, 39, 56, 57, 58, 59, 60, 61, 62, 63, 64, 65, 66, 67, 68, 69, 70, 71, 72, 73, 74, 75, 76, 77, 78, 79, 80, 81, 82, 83, 84, 85, 86, 87, 88, 89, 90, 91, 92, 93, 94, 95, 96, 97, 98, 99, 100] rfl (by decide +kernel)
set_option maxRecDepth 20000 in
theorem gX12_like_X12_isPiece : GoodIn wsX12_like (wsV RX12 206 RX12 yX12_isPiece wsX12_isPiece) := goodIn_app (goodIn_m [.methodLink RX12 206 yX12_isPiece, .instanceMethod yX12_isPiece, .selects RX12 yX12_isPiece yX12_isPiece, .initialized RX12] [45, 46, 47, 5] rfl (by decide +kernel)) ggX12_like_X12_isPiece
set_option maxRecDepth 20000 in
theorem ggX12_like_X12_likeOf : GoodIn wsX12_like wsX12_likeOf := goodIn_m _ [52, 30, 19, 28, 53, 54, 5, 55, 56, 57, 58, 59, 60, 61, 62, 63, 64, 65, 66, 67, 68, 69, 70, 71, 72, 73, 74, 75, 76, 77, 78, 79, 80, 81, 82, 83, 84, 85, 86, 87, 88, 89, 90, 91, 92, 93, 94, 95, 96, 97, 98, 99, 100] rfl (by decide +kernel)
set_option maxRecDepth 20000 in
theorem gX12_like_X12_likeOf : GoodIn wsX12_like (wsV RX12 212 RX12 yX12_likeOf wsX12_likeOf) := goodIn_app (goodIn_m [.methodLink RX12 212 yX12_likeOf, .instanceMethod yX12_likeOf, .selects RX12 yX12_likeOf yX12_likeOf, .initialized RX12] [49, 50, 51, 5] rfl (by decide +kernel)) ggX12_like_X12_likeOf
set_option maxRecDepth 20000 in
theorem ggX12_touch_X12_size : GoodIn wsX12_touch wsX12_size := goodIn_m _ [6] rfl (by decide +kernel)
set_option maxRecDepth 20000 in
theorem gX12_touch_X12_size : GoodIn wsX12_touch (va_wsS RX12 209 yX12_size wsX12_size) := goodIn_app (goodIn_m [.methodLink RX12 209 yX12_size, .static yX12_size, .initialized RX12] [3, 4, 5] rfl (by decide +kernel)) ggX12_touch_X12_size
set_option maxRecDepth 20000 in
theorem ggX12_findGains_X12_likeOf : GoodIn wsX12_findGains wsX12_likeOf := goodIn_m _ [8, 9, 3, 10, 11, 12, 7, 13, 19, 20, 21, 22, 23, 24, 25, 26, 27, 28, 29, 30, 31, 32, 33, 34, 35, 36, 37, 38, 39, 40, 41, 42, 43, 44, 45, 46, 47, 48, 49, 50, 51, 52, 53, 54, 55, 56, 57, 58, 59, 60, 61, 62, 63] rfl (by decide +kernel)
set_option maxRecDepth 20000 in
theorem gX12_findGains_X12_likeOf : GoodIn wsX12_findGains (wsV RX12 212 RX12 yX12_likeOf wsX12_likeOf) := goodIn_app (goodIn_m [.methodLink RX12 212 yX12_likeOf, .instanceMethod yX12_likeOf, .selects RX12 yX12_likeOf yX12_likeOf, .initialized RX12] [4, 5, 6, 7] rfl (by decide +kernel)) ggX12_findGains_X12_likeOf
set_option maxRecDepth 20000 in
theorem ggX12_findGains_X12_touch : GoodIn wsX12_findGains wsX12_touch := goodIn_m _ [17, 18, 10, 11, 12, 7, 13, 19, 20, 21, 22, 23, 24, 25, 26, 27, 28, 29, 30, 31, 32, 33, 34, 35, 36, 37, 38, 39, 40, 41, 42, 43, 44, 45, 46, 47, 48, 49, 50, 51, 52, 53, 54, 55, 56, 57, 58, 59, 60, 61, 62, 63] rfl (by decide +kernel)
set_option maxRecDepth 20000 in
theorem gX12_findGains_X12_touch : GoodIn wsX12_findGains (wsV RX12 216 RX12 yX12_touch wsX12_touch) := goodIn_app (goodIn_m [.methodLink RX12 216 yX12_touch, .instanceMethod yX12_touch, .selects RX12 yX12_touch yX12_touch, .initialized RX12] [14, 15, 16, 7] rfl (by decide +kernel)) ggX12_findGains_X12_touch
set_option maxRecDepth 20000 in
theorem ggX12_goOn_X12_heapsIn : GoodIn wsX12_goOn wsX12_heapsIn := goodIn_m _ [6] rfl (by decide +kernel)
set_option maxRecDepth 20000 in
theorem gX12_goOn_X12_heapsIn : GoodIn wsX12_goOn (va_wsS RX12 219 yX12_heapsIn wsX12_heapsIn) := goodIn_app (goodIn_m [.methodLink RX12 219 yX12_heapsIn, .static yX12_heapsIn, .initialized RX12] [3, 4, 5] rfl (by decide +kernel)) ggX12_goOn_X12_heapsIn
set_option maxRecDepth 20000 in
theorem ggX12_findBest_X12_findPieces : GoodIn wsX12_findBest wsX12_findPieces := goodIn_m _ [9, 1, 10, 11, 12, 13, 14, 15, 16, 8, 17, 18, 19, 20, 21, 22, 23, 24, 25, 26, 27, 28, 29, 30, 31, 32, 33, 34, 35, 36, 37, 38, 39, 40, 41, 42, 43, 44, 45, 46, 78, 79, 80, 81, 82, 83, 84, 85, 86, 87, 88, 89, 90, 91, 92, 93, 94, 95, 96, 97, 98, 99, 100, 101, 102, 103, 104, 105, 106, 107, 108, 109, 110, 111, 112, 113, 114, 115, 116, 117, 118, 119, 120, 121, 122] rfl (by decide +kernel)
set_option maxRecDepth 20000 in
theorem gX12_findBest_X12_findPieces : GoodIn wsX12_findBest (wsV RX12 203 RX12 yX12_findPieces wsX12_findPieces) := goodIn_app (goodIn_m [.methodLink RX12 203 yX12_findPieces, .instanceMethod yX12_findPieces, .selects RX12 yX12_findPieces yX12_findPieces, .initialized RX12] [5, 6, 7, 8] rfl (by decide +kernel)) ggX12_findBest_X12_findPieces
set_option maxRecDepth 20000 in
theorem ggX12_findBest_X12_findGains : GoodIn wsX12_findBest wsX12_findGains := goodIn_m _ [50, 1, 51, 21, 52, 53, 54, 8, 55, 32, 30, 56, 57, 58, 59, 60, 61, 62, 29, 78, 79, 80, 81, 82, 83, 84, 85, 86, 87, 88, 89, 90, 91, 92, 93, 94, 95, 96, 97, 98, 99, 100, 101, 102, 103, 104, 105, 106, 107, 108, 109, 110, 111, 112, 113, 114, 115, 116, 117, 118, 119, 120, 121, 122] rfl (by decide +kernel)
set_option maxRecDepth 20000 in
theorem gX12_findBest_X12_findGains : GoodIn wsX12_findBest (wsV RX12 223 RX12 yX12_findGains wsX12_findGains) := goodIn_app (goodIn_m [.methodLink RX12 223 yX12_findGains, .instanceMethod yX12_findGains, .selects RX12 yX12_findGains yX12_findGains, .initialized RX12] [47, 48, 49, 8] rfl (by decide +kernel)) ggX12_findBest_X12_findGains
set_option maxRecDepth 20000 in
theorem ggX12_findBest_X12_begin : GoodIn wsX12_findBest wsX12_begin := goodIn_m _ [66, 2, 78, 79, 80, 81, 82, 83, 84, 85, 86, 87, 88, 89, 90, 91, 92, 93, 94, 95, 96, 97, 98, 99, 100, 101, 102, 103, 104, 105, 106, 107, 108, 109, 110, 111, 112, 113, 114, 115, 116, 117, 118, 119, 120, 121, 122] rfl (by decide +kernel)
set_option maxRecDepth 20000 in
theorem gX12_findBest_X12_begin : GoodIn wsX12_findBest (wsV RX12 226 RX12 yX12_begin wsX12_begin) := goodIn_app (goodIn_m [.methodLink RX12 226 yX12_begin, .instanceMethod yX12_begin, .selects RX12 yX12_begin yX12_begin, .initialized RX12] [63, 64, 65, 8] rfl (by decide +kernel)) ggX12_findBest_X12_begin
set_option maxRecDepth 20000 in
theorem ggX12_findBest_X12_worthOf : GoodIn wsX12_findBest wsX12_worthOf := goodIn_m _ [70, 1, 51, 78, 79, 80, 81, 82, 83, 84, 85, 86, 87, 88, 89, 90, 91, 92, 93, 94, 95, 96, 97, 98, 99, 100, 101, 102, 103, 104, 105, 106, 107, 108, 109, 110, 111, 112, 113, 114, 115, 116, 117, 118, 119, 120, 121, 122] rfl (by decide +kernel)
set_option maxRecDepth 20000 in
theorem gX12_findBest_X12_worthOf : GoodIn wsX12_findBest (wsV RX12 229 RX12 yX12_worthOf wsX12_worthOf) := goodIn_app (goodIn_m [.methodLink RX12 229 yX12_worthOf, .instanceMethod yX12_worthOf, .selects RX12 yX12_worthOf yX12_worthOf, .initialized RX12] [67, 68, 69, 8] rfl (by decide +kernel)) ggX12_findBest_X12_worthOf
set_option maxRecDepth 20000 in
theorem ggX12_findBest_X12_goOn : GoodIn wsX12_findBest wsX12_goOn := goodIn_m _ [74, 1, 2, 75, 76, 8, 77, 78, 79, 80, 81, 82, 83, 84, 85, 86, 87, 88, 89, 90, 91, 92, 93, 94, 95, 96, 97, 98, 99, 100, 101, 102, 103, 104, 105, 106, 107, 108, 109, 110, 111, 112, 113, 114, 115, 116, 117, 118, 119, 120, 121, 122] rfl (by decide +kernel)
set_option maxRecDepth 20000 in
theorem gX12_findBest_X12_goOn : GoodIn wsX12_findBest (wsV RX12 236 RX12 yX12_goOn wsX12_goOn) := goodIn_app (goodIn_m [.methodLink RX12 236 yX12_goOn, .instanceMethod yX12_goOn, .selects RX12 yX12_goOn yX12_goOn, .initialized RX12] [71, 72, 73, 8] rfl (by decide +kernel)) ggX12_findBest_X12_goOn
set_option maxRecDepth 20000 in
theorem ggX12_heap_X12_findPieces : GoodIn wsX12_heap wsX12_findPieces := goodIn_m _ [7, 8, 9, 10, 11, 12, 13, 14, 15, 6, 16, 17, 18, 19, 20, 21, 22, 23, 24, 25, 26, 27, 28, 29, 30, 31, 32, 33, 34, 35, 36, 37, 38, 39, 40, 41, 42, 43, 44, 45, 91, 92, 93, 94, 95, 96, 97, 98, 99, 100, 101, 102, 103, 104, 105, 106, 107, 108, 109, 110, 111, 112, 113, 114, 115, 116, 117, 118, 119, 120, 121, 122, 123, 124, 125, 126, 127, 128, 129, 130, 131, 132, 133, 134, 135] rfl (by decide +kernel)
set_option maxRecDepth 20000 in
theorem gX12_heap_X12_findPieces : GoodIn wsX12_heap (wsV RX12 203 RX12 yX12_findPieces wsX12_findPieces) := goodIn_app (goodIn_m [.methodLink RX12 203 yX12_findPieces, .instanceMethod yX12_findPieces, .selects RX12 yX12_findPieces yX12_findPieces, .initialized RX12] [3, 4, 5, 6] rfl (by decide +kernel)) ggX12_heap_X12_findPieces
set_option maxRecDepth 20000 in
theorem ggX12_heap_X12_isPiece : GoodIn wsX12_heap wsX12_isPiece := goodIn_m _ [49, 8, 38, 39, 6, 40, 91, 92, 93, 94, 95, 96, 97, 98, 99, 100, 101, 102, 103, 104, 105, 106, 107, 108, 109, 110, 111, 112, 113, 114, 115, 116, 117, 118, 119, 120, 121, 122, 123, 124, 125, 126, 127, 128, 129, 130, 131, 132, 133, 134, 135] rfl (by decide +kernel)
set_option maxRecDepth 20000 in
theorem gX12_heap_X12_isPiece : GoodIn wsX12_heap (wsV RX12 206 RX12 yX12_isPiece wsX12_isPiece) := goodIn_app (goodIn_m [.methodLink RX12 206 yX12_isPiece, .instanceMethod yX12_isPiece, .selects RX12 yX12_isPiece yX12_isPiece, .initialized RX12] [46, 47, 48, 6] rfl (by decide +kernel)) ggX12_heap_X12_isPiece
set_option maxRecDepth 20000 in
theorem ggX12_heap_X12_in : GoodIn wsX12_heap wsX12_in := goodIn_m _ [40] rfl (by decide +kernel)
set_option maxRecDepth 20000 in
theorem gX12_heap_X12_in : GoodIn wsX12_heap (va_wsS RX12 100 yX12_in wsX12_in) := goodIn_app (goodIn_m [.methodLink RX12 100 yX12_in, .static yX12_in, .initialized RX12] [38, 39, 6] rfl (by decide +kernel)) ggX12_heap_X12_in
set_option maxRecDepth 20000 in
theorem ggX12_heap_X12_findBest : GoodIn wsX12_heap wsX12_findBest := goodIn_m _ [53, 8, 54, 55, 1, 3, 4, 5, 6, 7, 9, 10, 11, 12, 13, 14, 15, 16, 17, 18, 19, 20, 21, 22, 23, 24, 25, 26, 27, 28, 29, 30, 31, 32, 33, 34, 35, 36, 37, 38, 39, 40, 41, 42, 43, 44, 45, 56, 57, 58, 59, 60, 61, 62, 63, 64, 65, 66, 67, 68, 69, 70, 71, 72, 73, 74, 75, 76, 77, 78, 79, 80, 81, 82, 83, 84, 85, 86, 91, 92, 93, 94, 95, 96, 97, 98, 99, 100, 101, 102, 103, 104, 105, 106, 107, 108, 109, 110, 111, 112, 113, 114, 115, 116, 117, 118, 119, 120, 121, 122, 123, 124, 125, 126, 127, 128, 129, 130, 131, 132, 133, 134, 135] rfl (by decide +kernel)
set_option maxRecDepth 20000 in
theorem gX12_heap_X12_findBest : GoodIn wsX12_heap (wsV RX12 240 RX12 yX12_findBest wsX12_findBest) := goodIn_app (goodIn_m [.methodLink RX12 240 yX12_findBest, .instanceMethod yX12_findBest, .selects RX12 yX12_findBest yX12_findBest, .initialized RX12] [50, 51, 52, 6] rfl (by decide +kernel)) ggX12_heap_X12_findBest
set_option maxRecDepth 20000 in
theorem ggX12_heap_X12_join : GoodIn wsX12_heap wsX12_join := goodIn_m _ [90, 8, 2, 60, 54, 91, 92, 93, 94, 95, 96, 97, 98, 99, 100, 101, 102, 103, 104, 105, 106, 107, 108, 109, 110, 111, 112, 113, 114, 115, 116, 117, 118, 119, 120, 121, 122, 123, 124, 125, 126, 127, 128, 129, 130, 131, 132, 133, 134, 135] rfl (by decide +kernel)
set_option maxRecDepth 20000 in
theorem gX12_heap_X12_join : GoodIn wsX12_heap (wsV RX12 243 RX12 yX12_join wsX12_join) := goodIn_app (goodIn_m [.methodLink RX12 243 yX12_join, .instanceMethod yX12_join, .selects RX12 yX12_join yX12_join, .initialized RX12] [87, 88, 89, 6] rfl (by decide +kernel)) ggX12_heap_X12_join
set_option maxRecDepth 20000 in
theorem ggX12_worth_X12_in : GoodIn wsX12_worth wsX12_in := goodIn_m _ [7] rfl (by decide +kernel)
set_option maxRecDepth 20000 in
theorem gX12_worth_X12_in : GoodIn wsX12_worth (va_wsS RX12 100 yX12_in wsX12_in) := goodIn_app (goodIn_m [.methodLink RX12 100 yX12_in, .static yX12_in, .initialized RX12] [4, 5, 6] rfl (by decide +kernel)) ggX12_worth_X12_in
set_option maxRecDepth 20000 in
theorem ggX12_worth_X12_findBest : GoodIn wsX12_worth wsX12_findBest := goodIn_m _ [11, 12, 13, 2, 14, 15, 16, 17, 6, 18, 19, 20, 21, 22, 23, 24, 25, 26, 27, 28, 29, 30, 31, 32, 33, 34, 35, 36, 37, 38, 39, 40, 41, 42, 43, 44, 45, 46, 47, 4, 5, 7, 48, 49, 50, 51, 52, 53, 54, 55, 56, 57, 58, 59, 60, 61, 62, 63, 64, 65, 66, 67, 68, 69, 70, 71, 72, 73, 74, 75, 76, 77, 78, 79, 80, 81, 82, 83, 88, 89, 90, 91, 92, 93, 94, 95, 96, 97, 98, 99, 100, 101, 102, 103, 104, 105, 106, 107, 108, 109, 110, 111, 112, 113, 114, 115, 116, 117, 118, 119, 120, 121, 122, 123, 124, 125, 126, 127, 128, 129, 130, 131, 132] rfl (by decide +kernel)
set_option maxRecDepth 20000 in
theorem gX12_worth_X12_findBest : GoodIn wsX12_worth (wsV RX12 240 RX12 yX12_findBest wsX12_findBest) := goodIn_app (goodIn_m [.methodLink RX12 240 yX12_findBest, .instanceMethod yX12_findBest, .selects RX12 yX12_findBest yX12_findBest, .initialized RX12] [8, 9, 10, 6] rfl (by decide +kernel)) ggX12_worth_X12_findBest
set_option maxRecDepth 20000 in
theorem ggX12_worth_X12_join : GoodIn wsX12_worth wsX12_join := goodIn_m _ [87, 12, 3, 57, 13, 88, 89, 90, 91, 92, 93, 94, 95, 96, 97, 98, 99, 100, 101, 102, 103, 104, 105, 106, 107, 108, 109, 110, 111, 112, 113, 114, 115, 116, 117, 118, 119, 120, 121, 122, 123, 124, 125, 126, 127, 128, 129, 130, 131, 132] rfl (by decide +kernel)
set_option maxRecDepth 20000 in
theorem gX12_worth_X12_join : GoodIn wsX12_worth (wsV RX12 243 RX12 yX12_join wsX12_join) := goodIn_app (goodIn_m [.methodLink RX12 243 yX12_join, .instanceMethod yX12_join, .selects RX12 yX12_join yX12_join, .initialized RX12] [84, 85, 86, 6] rfl (by decide +kernel)) ggX12_worth_X12_join
set_option maxRecDepth 20000 in
theorem ggX12_worth_X12_worthOf : GoodIn wsX12_worth wsX12_worthOf := goodIn_m _ [76, 12, 57, 88, 89, 90, 91, 92, 93, 94, 95, 96, 97, 98, 99, 100, 101, 102, 103, 104, 105, 106, 107, 108, 109, 110, 111, 112, 113, 114, 115, 116, 117, 118, 119, 120, 121, 122, 123, 124, 125, 126, 127, 128, 129, 130, 131, 132] rfl (by decide +kernel)
set_option maxRecDepth 20000 in
theorem gX12_worth_X12_worthOf : GoodIn wsX12_worth (wsV RX12 229 RX12 yX12_worthOf wsX12_worthOf) := goodIn_app (goodIn_m [.methodLink RX12 229 yX12_worthOf, .instanceMethod yX12_worthOf, .selects RX12 yX12_worthOf yX12_worthOf, .initialized RX12] [73, 74, 75, 6] rfl (by decide +kernel)) ggX12_worth_X12_worthOf
set_option maxRecDepth 20000 in
theorem ggX12_near_X12_in : GoodIn wsX12_near wsX12_in := goodIn_m _ [10] rfl (by decide +kernel)
set_option maxRecDepth 20000 in
theorem gX12_near_X12_in : GoodIn wsX12_near (va_wsS RX12 100 yX12_in wsX12_in) := goodIn_app (goodIn_m [.methodLink RX12 100 yX12_in, .static yX12_in, .initialized RX12] [7, 8, 9] rfl (by decide +kernel)) ggX12_near_X12_in
set_option maxRecDepth 20000 in
theorem ggX12_near_X12_findBest : GoodIn wsX12_near wsX12_findBest := goodIn_m _ [14, 2, 4, 5, 1, 15, 16, 17, 9, 18, 19, 20, 21, 22, 23, 24, 25, 26, 27, 28, 29, 6, 30, 31, 32, 33, 34, 35, 36, 37, 38, 39, 40, 41, 42, 43, 44, 45, 46, 7, 8, 10, 47, 48, 49, 50, 51, 52, 53, 54, 55, 56, 57, 58, 59, 60, 61, 62, 63, 64, 65, 66, 67, 68, 69, 70, 71, 72, 73, 74, 75, 76, 77, 78, 79, 80, 81, 82, 87, 88, 89, 90, 91, 92, 93, 94, 95, 96, 97, 98, 99, 100, 101, 102, 103, 104, 105, 106, 107, 108, 109, 110, 111, 112, 113, 114, 115, 116, 117, 118, 119, 120, 121, 122, 123, 124, 125, 126, 127, 128, 129, 130, 131] rfl (by decide +kernel)
set_option maxRecDepth 20000 in
theorem gX12_near_X12_findBest : GoodIn wsX12_near (wsV RX12 240 RX12 yX12_findBest wsX12_findBest) := goodIn_app (goodIn_m [.methodLink RX12 240 yX12_findBest, .instanceMethod yX12_findBest, .selects RX12 yX12_findBest yX12_findBest, .initialized RX12] [11, 12, 13, 9] rfl (by decide +kernel)) ggX12_near_X12_findBest
set_option maxRecDepth 20000 in
theorem ggX12_near_X12_join : GoodIn wsX12_near wsX12_join := goodIn_m _ [86, 2, 3, 56, 4, 87, 88, 89, 90, 91, 92, 93, 94, 95, 96, 97, 98, 99, 100, 101, 102, 103, 104, 105, 106, 107, 108, 109, 110, 111, 112, 113, 114, 115, 116, 117, 118, 119, 120, 121, 122, 123, 124, 125, 126, 127, 128, 129, 130, 131] rfl (by decide +kernel)
set_option maxRecDepth 20000 in
theorem gX12_near_X12_join : GoodIn wsX12_near (wsV RX12 243 RX12 yX12_join wsX12_join) := goodIn_app (goodIn_m [.methodLink RX12 243 yX12_join, .instanceMethod yX12_join, .selects RX12 yX12_join yX12_join, .initialized RX12] [83, 84, 85, 9] rfl (by decide +kernel)) ggX12_near_X12_join
set_option maxRecDepth 20000 in
theorem ggX12_near_X12_heapsIn : GoodIn wsX12_near wsX12_heapsIn := goodIn_m _ [82] rfl (by decide +kernel)
set_option maxRecDepth 20000 in
theorem gX12_near_X12_heapsIn : GoodIn wsX12_near (va_wsS RX12 219 yX12_heapsIn wsX12_heapsIn) := goodIn_app (goodIn_m [.methodLink RX12 219 yX12_heapsIn, .static yX12_heapsIn, .initialized RX12] [80, 81, 9] rfl (by decide +kernel)) ggX12_near_X12_heapsIn
set_option maxRecDepth 20000 in
theorem ggX12_near_X12_begin : GoodIn wsX12_near wsX12_begin := goodIn_m _ [71, 4, 87, 88, 89, 90, 91, 92, 93, 94, 95, 96, 97, 98, 99, 100, 101, 102, 103, 104, 105, 106, 107, 108, 109, 110, 111, 112, 113, 114, 115, 116, 117, 118, 119, 120, 121, 122, 123, 124, 125, 126, 127, 128, 129, 130, 131] rfl (by decide +kernel)
set_option maxRecDepth 20000 in
theorem gX12_near_X12_begin : GoodIn wsX12_near (wsV RX12 226 RX12 yX12_begin wsX12_begin) := goodIn_app (goodIn_m [.methodLink RX12 226 yX12_begin, .instanceMethod yX12_begin, .selects RX12 yX12_begin yX12_begin, .initialized RX12] [68, 69, 70, 9] rfl (by decide +kernel)) ggX12_near_X12_begin
set_option maxRecDepth 20000 in
theorem ggX12_near_X12_worthOf : GoodIn wsX12_near wsX12_worthOf := goodIn_m _ [75, 2, 56, 87, 88, 89, 90, 91, 92, 93, 94, 95, 96, 97, 98, 99, 100, 101, 102, 103, 104, 105, 106, 107, 108, 109, 110, 111, 112, 113, 114, 115, 116, 117, 118, 119, 120, 121, 122, 123, 124, 125, 126, 127, 128, 129, 130, 131] rfl (by decide +kernel)
set_option maxRecDepth 20000 in
theorem gX12_near_X12_worthOf : GoodIn wsX12_near (wsV RX12 229 RX12 yX12_worthOf wsX12_worthOf) := goodIn_app (goodIn_m [.methodLink RX12 229 yX12_worthOf, .instanceMethod yX12_worthOf, .selects RX12 yX12_worthOf yX12_worthOf, .initialized RX12] [72, 73, 74, 9] rfl (by decide +kernel)) ggX12_near_X12_worthOf
set_option maxRecDepth 20000 in
theorem ggX12_near_X12_goOn : GoodIn wsX12_near wsX12_goOn := goodIn_m _ [79, 2, 4, 80, 81, 9, 82, 87, 88, 89, 90, 91, 92, 93, 94, 95, 96, 97, 98, 99, 100, 101, 102, 103, 104, 105, 106, 107, 108, 109, 110, 111, 112, 113, 114, 115, 116, 117, 118, 119, 120, 121, 122, 123, 124, 125, 126, 127, 128, 129, 130, 131] rfl (by decide +kernel)
set_option maxRecDepth 20000 in
theorem gX12_near_X12_goOn : GoodIn wsX12_near (wsV RX12 236 RX12 yX12_goOn wsX12_goOn) := goodIn_app (goodIn_m [.methodLink RX12 236 yX12_goOn, .instanceMethod yX12_goOn, .selects RX12 yX12_goOn yX12_goOn, .initialized RX12] [76, 77, 78, 9] rfl (by decide +kernel)) ggX12_near_X12_goOn
set_option maxRecDepth 20000 in
theorem ggX12_sure_X12_findPieces : GoodIn wsX12_sure wsX12_findPieces := goodIn_m _ [8, 9, 10, 11, 12, 13, 14, 15, 16, 7, 17, 18, 19, 20, 3, 21, 22, 23, 24, 25, 26, 27, 28, 29, 30, 31, 32, 33, 34, 35, 36, 37, 38, 39, 40, 41, 42, 43, 44, 45, 86, 87, 88, 89, 90, 91, 92, 93, 94, 95, 96, 97, 98, 99, 100, 101, 102, 103, 104, 105, 106, 107, 108, 109, 110, 111, 112, 113, 114, 115, 116, 117, 118, 119, 120, 121, 122, 123, 124, 125, 126, 127, 128, 129, 130] rfl (by decide +kernel)
set_option maxRecDepth 20000 in
theorem gX12_sure_X12_findPieces : GoodIn wsX12_sure (wsV RX12 203 RX12 yX12_findPieces wsX12_findPieces) := goodIn_app (goodIn_m [.methodLink RX12 203 yX12_findPieces, .instanceMethod yX12_findPieces, .selects RX12 yX12_findPieces yX12_findPieces, .initialized RX12] [4, 5, 6, 7] rfl (by decide +kernel)) ggX12_sure_X12_findPieces
set_option maxRecDepth 20000 in
theorem ggX12_sure_X12_isPiece : GoodIn wsX12_sure wsX12_isPiece := goodIn_m _ [49, 9, 38, 39, 7, 40, 86, 87, 88, 89, 90, 91, 92, 93, 94, 95, 96, 97, 98, 99, 100, 101, 102, 103, 104, 105, 106, 107, 108, 109, 110, 111, 112, 113, 114, 115, 116, 117, 118, 119, 120, 121, 122, 123, 124, 125, 126, 127, 128, 129, 130] rfl (by decide +kernel)
set_option maxRecDepth 20000 in
theorem gX12_sure_X12_isPiece : GoodIn wsX12_sure (wsV RX12 206 RX12 yX12_isPiece wsX12_isPiece) := goodIn_app (goodIn_m [.methodLink RX12 206 yX12_isPiece, .instanceMethod yX12_isPiece, .selects RX12 yX12_isPiece yX12_isPiece, .initialized RX12] [46, 47, 48, 7] rfl (by decide +kernel)) ggX12_sure_X12_isPiece
set_option maxRecDepth 20000 in
theorem ggX12_sure_X12_findBest : GoodIn wsX12_sure wsX12_findBest := goodIn_m _ [53, 9, 1, 2, 54, 4, 5, 6, 7, 8, 10, 11, 12, 13, 14, 15, 16, 17, 18, 19, 20, 3, 21, 22, 23, 24, 25, 26, 27, 28, 29, 30, 31, 32, 33, 34, 35, 36, 37, 38, 39, 40, 41, 42, 43, 44, 45, 55, 56, 57, 58, 59, 60, 61, 62, 63, 64, 65, 66, 67, 68, 69, 70, 71, 72, 73, 74, 75, 76, 77, 78, 79, 80, 81, 82, 83, 84, 85, 86, 87, 88, 89, 90, 91, 92, 93, 94, 95, 96, 97, 98, 99, 100, 101, 102, 103, 104, 105, 106, 107, 108, 109, 110, 111, 112, 113, 114, 115, 116, 117, 118, 119, 120, 121, 122, 123, 124, 125, 126, 127, 128, 129, 130] rfl (by decide +kernel)
set_option maxRecDepth 20000 in
theorem gX12_sure_X12_findBest : GoodIn wsX12_sure (wsV RX12 240 RX12 yX12_findBest wsX12_findBest) := goodIn_app (goodIn_m [.methodLink RX12 240 yX12_findBest, .instanceMethod yX12_findBest, .selects RX12 yX12_findBest yX12_findBest, .initialized RX12] [50, 51, 52, 7] rfl (by decide +kernel)) ggX12_sure_X12_findBest
set_option maxRecDepth 20000 in
theorem ggX12_sure_X12_begin : GoodIn wsX12_sure wsX12_begin := goodIn_m _ [74, 1, 86, 87, 88, 89, 90, 91, 92, 93, 94, 95, 96, 97, 98, 99, 100, 101, 102, 103, 104, 105, 106, 107, 108, 109, 110, 111, 112, 113, 114, 115, 116, 117, 118, 119, 120, 121, 122, 123, 124, 125, 126, 127, 128, 129, 130] rfl (by decide +kernel)
set_option maxRecDepth 20000 in
theorem gX12_sure_X12_begin : GoodIn wsX12_sure (wsV RX12 226 RX12 yX12_begin wsX12_begin) := goodIn_app (goodIn_m [.methodLink RX12 226 yX12_begin, .instanceMethod yX12_begin, .selects RX12 yX12_begin yX12_begin, .initialized RX12] [71, 72, 73, 7] rfl (by decide +kernel)) ggX12_sure_X12_begin
set_option maxRecDepth 20000 in
theorem ggX12_sure_X12_worthOf : GoodIn wsX12_sure wsX12_worthOf := goodIn_m _ [78, 9, 59, 86, 87, 88, 89, 90, 91, 92, 93, 94, 95, 96, 97, 98, 99, 100, 101, 102, 103, 104, 105, 106, 107, 108, 109, 110, 111, 112, 113, 114, 115, 116, 117, 118, 119, 120, 121, 122, 123, 124, 125, 126, 127, 128, 129, 130] rfl (by decide +kernel)
set_option maxRecDepth 20000 in
theorem gX12_sure_X12_worthOf : GoodIn wsX12_sure (wsV RX12 229 RX12 yX12_worthOf wsX12_worthOf) := goodIn_app (goodIn_m [.methodLink RX12 229 yX12_worthOf, .instanceMethod yX12_worthOf, .selects RX12 yX12_worthOf yX12_worthOf, .initialized RX12] [75, 76, 77, 7] rfl (by decide +kernel)) ggX12_sure_X12_worthOf
set_option maxRecDepth 20000 in
theorem ggX12_sure_X12_goOn : GoodIn wsX12_sure wsX12_goOn := goodIn_m _ [82, 9, 1, 83, 84, 7, 85, 86, 87, 88, 89, 90, 91, 92, 93, 94, 95, 96, 97, 98, 99, 100, 101, 102, 103, 104, 105, 106, 107, 108, 109, 110, 111, 112, 113, 114, 115, 116, 117, 118, 119, 120, 121, 122, 123, 124, 125, 126, 127, 128, 129, 130] rfl (by decide +kernel)
set_option maxRecDepth 20000 in
theorem gX12_sure_X12_goOn : GoodIn wsX12_sure (wsV RX12 236 RX12 yX12_goOn wsX12_goOn) := goodIn_app (goodIn_m [.methodLink RX12 236 yX12_goOn, .instanceMethod yX12_goOn, .selects RX12 yX12_goOn yX12_goOn, .initialized RX12] [79, 80, 81, 7] rfl (by decide +kernel)) ggX12_sure_X12_goOn
set_option maxRecDepth 20000 in
theorem ggX12_findHeapMiddles_X12_heapsIn : GoodIn wsX12_findHeapMiddles wsX12_heapsIn := goodIn_m _ [11] rfl (by decide +kernel)
set_option maxRecDepth 20000 in
theorem gX12_findHeapMiddles_X12_heapsIn : GoodIn wsX12_findHeapMiddles (va_wsS RX12 219 yX12_heapsIn wsX12_heapsIn) := goodIn_app (goodIn_m [.methodLink RX12 219 yX12_heapsIn, .static yX12_heapsIn, .initialized RX12] [8, 9, 10] rfl (by decide +kernel)) ggX12_findHeapMiddles_X12_heapsIn
set_option maxRecDepth 20000 in
theorem ggX12_findHeapMiddles_X12_findMiddle : GoodIn wsX12_findHeapMiddles wsX12_findMiddle := goodIn_m _ [15, 16, 3, 4, 17, 18, 7, 19, 20, 21, 22, 23, 24, 25, 26, 27, 28, 29, 30, 31, 32, 33, 34, 35, 36, 37, 38, 39, 40, 41, 42, 43, 44, 45, 46, 47, 48, 49, 50, 51, 52, 53, 54, 55, 56, 57, 58, 59, 60, 61, 62, 63] rfl (by decide +kernel)
set_option maxRecDepth 20000 in
theorem gX12_findHeapMiddles_X12_findMiddle : GoodIn wsX12_findHeapMiddles (wsV RX12 181 RX12 yX12_findMiddle wsX12_findMiddle) := goodIn_app (goodIn_m [.methodLink RX12 181 yX12_findMiddle, .instanceMethod yX12_findMiddle, .selects RX12 yX12_findMiddle yX12_findMiddle, .initialized RX12] [12, 13, 14, 10] rfl (by decide +kernel)) ggX12_findHeapMiddles_X12_findMiddle
set_option maxRecDepth 20000 in
theorem ggX12_wrong_X12_in : GoodIn wsX12_wrong wsX12_in := goodIn_m _ [6] rfl (by decide +kernel)
set_option maxRecDepth 20000 in
theorem gX12_wrong_X12_in : GoodIn wsX12_wrong (va_wsS RX12 100 yX12_in wsX12_in) := goodIn_app (goodIn_m [.methodLink RX12 100 yX12_in, .static yX12_in, .initialized RX12] [3, 4, 5] rfl (by decide +kernel)) ggX12_wrong_X12_in
set_option maxRecDepth 20000 in
theorem ggX12_wrong_X12_findBest : GoodIn wsX12_wrong wsX12_findBest := goodIn_m _ [10, 2, 11, 12, 1, 13, 14, 15, 5, 16, 17, 18, 19, 20, 21, 22, 23, 24, 25, 26, 27, 28, 29, 30, 31, 32, 33, 34, 35, 36, 37, 38, 39, 40, 41, 42, 43, 44, 45, 3, 4, 6, 46, 47, 48, 49, 50, 51, 52, 53, 54, 55, 56, 57, 58, 59, 60, 61, 62, 63, 64, 65, 66, 67, 68, 69, 70, 71, 72, 73, 74, 75, 76, 77, 78, 79, 80, 81, 87, 88, 89, 90, 91, 92, 93, 94, 95, 96, 97, 98, 99, 100, 101, 102, 103, 104, 105, 106, 107, 108, 109, 110, 111, 112, 113, 114, 115, 116, 117, 118, 119, 120, 121, 122, 123, 124, 125, 126, 127, 128, 129, 130, 131] rfl (by decide +kernel)
set_option maxRecDepth 20000 in
theorem gX12_wrong_X12_findBest : GoodIn wsX12_wrong (wsV RX12 240 RX12 yX12_findBest wsX12_findBest) := goodIn_app (goodIn_m [.methodLink RX12 240 yX12_findBest, .instanceMethod yX12_findBest, .selects RX12 yX12_findBest yX12_findBest, .initialized RX12] [7, 8, 9, 5] rfl (by decide +kernel)) ggX12_wrong_X12_findBest
set_option maxRecDepth 20000 in
theorem ggX12_wrong_X12_findHeapMiddles : GoodIn wsX12_wrong wsX12_findHeapMiddles := goodIn_m _ [85, 1, 2, 19, 45, 20, 86, 40, 79, 80, 5, 81, 46, 47, 48, 49, 35, 25, 50, 87, 88, 89, 90, 91, 92, 93, 94, 95, 96, 97, 98, 99, 100, 101, 102, 103, 104, 105, 106, 107, 108, 109, 110, 111, 112, 113, 114, 115, 116, 117, 118, 119, 120, 121, 122, 123, 124, 125, 126, 127, 128, 129, 130, 131] rfl (by decide +kernel)
set_option maxRecDepth 20000 in
theorem gX12_wrong_X12_findHeapMiddles : GoodIn wsX12_wrong (wsV RX12 246 RX12 yX12_findHeapMiddles wsX12_findHeapMiddles) := goodIn_app (goodIn_m [.methodLink RX12 246 yX12_findHeapMiddles, .instanceMethod yX12_findHeapMiddles, .selects RX12 yX12_findHeapMiddles yX12_findHeapMiddles, .initialized RX12] [82, 83, 84, 5] rfl (by decide +kernel)) ggX12_wrong_X12_findHeapMiddles
set_option maxRecDepth 20000 in
theorem ggX12_wrong_X12_heapsIn : GoodIn wsX12_wrong wsX12_heapsIn := goodIn_m _ [81] rfl (by decide +kernel)
set_option maxRecDepth 20000 in
theorem gX12_wrong_X12_heapsIn : GoodIn wsX12_wrong (va_wsS RX12 219 yX12_heapsIn wsX12_heapsIn) := goodIn_app (goodIn_m [.methodLink RX12 219 yX12_heapsIn, .static yX12_heapsIn, .initialized RX12] [79, 80, 5] rfl (by decide +kernel)) ggX12_wrong_X12_heapsIn
set_option maxRecDepth 20000 in
theorem ggX12_middle_X12_in : GoodIn wsX12_middle wsX12_in := goodIn_m _ [5] rfl (by decide +kernel)
set_option maxRecDepth 20000 in
theorem gX12_middle_X12_in : GoodIn wsX12_middle (va_wsS RX12 100 yX12_in wsX12_in) := goodIn_app (goodIn_m [.methodLink RX12 100 yX12_in, .static yX12_in, .initialized RX12] [2, 3, 4] rfl (by decide +kernel)) ggX12_middle_X12_in
set_option maxRecDepth 20000 in
theorem ggX12_middle_X12_wrong : GoodIn wsX12_middle wsX12_wrong := goodIn_m _ [9, 10, 11, 2, 3, 4, 5, 12, 13, 14, 15, 16, 17, 18, 19, 20, 21, 22, 23, 24, 25, 26, 27, 28, 29, 30, 31, 32, 33, 34, 35, 36, 37, 38, 39, 40, 41, 42, 43, 44, 45, 46, 47, 48, 49, 50, 51, 52, 53, 54, 55, 56, 57, 58, 59, 60, 61, 62, 63, 64, 65, 66, 67, 68, 69, 70, 71, 72, 73, 74, 75, 76, 77, 78, 79, 80, 81, 82, 83, 84, 85, 86, 87, 88, 89, 90, 1, 91, 92, 93, 94, 95, 96, 97, 98, 99, 100, 101, 102, 103, 104, 105, 106, 107, 108, 109, 110, 111, 112, 113, 114, 115, 116, 117, 118, 119, 120, 121, 122, 123, 124, 125, 126, 127, 128, 129, 130, 131, 132, 133, 134, 135] rfl (by decide +kernel)
set_option maxRecDepth 20000 in
theorem gX12_middle_X12_wrong : GoodIn wsX12_middle (wsV RX12 249 RX12 yX12_wrong wsX12_wrong) := goodIn_app (goodIn_m [.methodLink RX12 249 yX12_wrong, .instanceMethod yX12_wrong, .selects RX12 yX12_wrong yX12_wrong, .initialized RX12] [6, 7, 8, 4] rfl (by decide +kernel)) ggX12_middle_X12_wrong
set_option maxRecDepth 20000 in
theorem ggX12_twice_X12_findPieces : GoodIn wsX12_twice wsX12_findPieces := goodIn_m _ [10, 5, 11, 12, 13, 14, 15, 16, 17, 9, 18, 19, 20, 21, 4, 22, 23, 24, 25, 26, 27, 28, 29, 30, 31, 1, 32, 33, 34, 35, 36, 37, 38, 39, 40, 41, 42, 43, 44, 45, 91, 92, 93, 94, 95, 96, 97, 98, 99, 100, 101, 102, 103, 104, 105, 106, 107, 108, 109, 110, 111, 112, 113, 114, 115, 116, 117, 118, 119, 120, 121, 122, 123, 124, 125, 126, 127, 128, 129, 130, 131, 132, 133, 134, 135] rfl (by decide +kernel)
set_option maxRecDepth 20000 in
theorem gX12_twice_X12_findPieces : GoodIn wsX12_twice (wsV RX12 203 RX12 yX12_findPieces wsX12_findPieces) := goodIn_app (goodIn_m [.methodLink RX12 203 yX12_findPieces, .instanceMethod yX12_findPieces, .selects RX12 yX12_findPieces yX12_findPieces, .initialized RX12] [6, 7, 8, 9] rfl (by decide +kernel)) ggX12_twice_X12_findPieces
set_option maxRecDepth 20000 in
theorem ggX12_twice_X12_isPiece : GoodIn wsX12_twice wsX12_isPiece := goodIn_m _ [49, 5, 38, 39, 9, 40, 91, 92, 93, 94, 95, 96, 97, 98, 99, 100, 101, 102, 103, 104, 105, 106, 107, 108, 109, 110, 111, 112, 113, 114, 115, 116, 117, 118, 119, 120, 121, 122, 123, 124, 125, 126, 127, 128, 129, 130, 131, 132, 133, 134, 135] rfl (by decide +kernel)
set_option maxRecDepth 20000 in
theorem gX12_twice_X12_isPiece : GoodIn wsX12_twice (wsV RX12 206 RX12 yX12_isPiece wsX12_isPiece) := goodIn_app (goodIn_m [.methodLink RX12 206 yX12_isPiece, .instanceMethod yX12_isPiece, .selects RX12 yX12_isPiece yX12_isPiece, .initialized RX12] [46, 47, 48, 9] rfl (by decide +kernel)) ggX12_twice_X12_isPiece
set_option maxRecDepth 20000 in
theorem ggX12_twice_X12_in : GoodIn wsX12_twice wsX12_in := goodIn_m _ [40] rfl (by decide +kernel)
set_option maxRecDepth 20000 in
theorem gX12_twice_X12_in : GoodIn wsX12_twice (va_wsS RX12 100 yX12_in wsX12_in) := goodIn_app (goodIn_m [.methodLink RX12 100 yX12_in, .static yX12_in, .initialized RX12] [38, 39, 9] rfl (by decide +kernel)) ggX12_twice_X12_in
set_option maxRecDepth 20000 in
theorem ggX12_twice_X12_findBest : GoodIn wsX12_twice wsX12_findBest := goodIn_m _ [53, 5, 54, 55, 3, 6, 7, 8, 9, 10, 11, 12, 13, 14, 15, 16, 17, 18, 19, 20, 21, 4, 22, 23, 24, 25, 26, 27, 28, 29, 30, 31, 1, 32, 33, 34, 35, 36, 37, 38, 39, 40, 41, 42, 43, 44, 45, 56, 57, 58, 59, 60, 61, 62, 63, 64, 65, 66, 67, 68, 69, 70, 71, 72, 73, 74, 75, 76, 77, 78, 79, 80, 81, 82, 83, 84, 85, 86, 91, 92, 93, 94, 95, 96, 97, 98, 99, 100, 101, 102, 103, 104, 105, 106, 107, 108, 109, 110, 111, 112, 113, 114, 115, 116, 117, 118, 119, 120, 121, 122, 123, 124, 125, 126, 127, 128, 129, 130, 131, 132, 133, 134, 135] rfl (by decide +kernel)
set_option maxRecDepth 20000 in
theorem gX12_twice_X12_findBest : GoodIn wsX12_twice (wsV RX12 240 RX12 yX12_findBest wsX12_findBest) := goodIn_app (goodIn_m [.methodLink RX12 240 yX12_findBest, .instanceMethod yX12_findBest, .selects RX12 yX12_findBest yX12_findBest, .initialized RX12] [50, 51, 52, 9] rfl (by decide +kernel)) ggX12_twice_X12_findBest
set_option maxRecDepth 20000 in
theorem ggX12_twice_X12_findHeapMiddles : GoodIn wsX12_twice wsX12_findHeapMiddles := goodIn_m _ [90, 3, 5, 13, 37, 14, 2, 32, 84, 85, 9, 86, 41, 42, 43, 44, 28, 19, 45, 91, 92, 93, 94, 95, 96, 97, 98, 99, 100, 101, 102, 103, 104, 105, 106, 107, 108, 109, 110, 111, 112, 113, 114, 115, 116, 117, 118, 119, 120, 121, 122, 123, 124, 125, 126, 127, 128, 129, 130, 131, 132, 133, 134, 135] rfl (by decide +kernel)
set_option maxRecDepth 20000 in
theorem gX12_twice_X12_findHeapMiddles : GoodIn wsX12_twice (wsV RX12 246 RX12 yX12_findHeapMiddles wsX12_findHeapMiddles) := goodIn_app (goodIn_m [.methodLink RX12 246 yX12_findHeapMiddles, .instanceMethod yX12_findHeapMiddles, .selects RX12 yX12_findHeapMiddles yX12_findHeapMiddles, .initialized RX12] [87, 88, 89, 9] rfl (by decide +kernel)) ggX12_twice_X12_findHeapMiddles
set_option maxRecDepth 20000 in
theorem ggX12_twice_X12_size : GoodIn wsX12_twice wsX12_size := goodIn_m _ [67] rfl (by decide +kernel)
set_option maxRecDepth 20000 in
theorem gX12_twice_X12_size : GoodIn wsX12_twice (va_wsS RX12 209 yX12_size wsX12_size) := goodIn_app (goodIn_m [.methodLink RX12 209 yX12_size, .static yX12_size, .initialized RX12] [65, 66, 9] rfl (by decide +kernel)) ggX12_twice_X12_size
set_option maxRecDepth 20000 in
theorem ggX12_twice_X12_heapsIn : GoodIn wsX12_twice wsX12_heapsIn := goodIn_m _ [86] rfl (by decide +kernel)
set_option maxRecDepth 20000 in
theorem gX12_twice_X12_heapsIn : GoodIn wsX12_twice (va_wsS RX12 219 yX12_heapsIn wsX12_heapsIn) := goodIn_app (goodIn_m [.methodLink RX12 219 yX12_heapsIn, .static yX12_heapsIn, .initialized RX12] [84, 85, 9] rfl (by decide +kernel)) ggX12_twice_X12_heapsIn
set_option maxRecDepth 20000 in
theorem ggX12_keep_X12_in : GoodIn wsX12_keep wsX12_in := goodIn_m _ [8] rfl (by decide +kernel)
set_option maxRecDepth 20000 in
theorem gX12_keep_X12_in : GoodIn wsX12_keep (va_wsS RX12 100 yX12_in wsX12_in) := goodIn_app (goodIn_m [.methodLink RX12 100 yX12_in, .static yX12_in, .initialized RX12] [5, 6, 7] rfl (by decide +kernel)) ggX12_keep_X12_in
set_option maxRecDepth 20000 in
theorem ggX12_keep_X12_wrong : GoodIn wsX12_keep wsX12_wrong := goodIn_m _ [12, 13, 14, 5, 6, 7, 8, 15, 16, 17, 18, 19, 20, 21, 22, 23, 24, 25, 26, 27, 28, 29, 30, 31, 32, 33, 34, 35, 36, 37, 38, 39, 40, 41, 42, 43, 44, 45, 46, 47, 48, 49, 50, 51, 52, 53, 54, 55, 56, 57, 58, 59, 60, 61, 62, 63, 64, 65, 66, 67, 68, 69, 70, 71, 72, 73, 74, 75, 76, 77, 78, 79, 80, 81, 82, 83, 84, 85, 86, 87, 88, 89, 90, 91, 92, 93, 4, 94, 95, 96, 97, 98, 99, 100, 101, 102, 103, 104, 105, 106, 107, 108, 109, 110, 111, 112, 113, 114, 115, 116, 117, 118, 119, 120, 121, 122, 123, 124, 125, 126, 127, 128, 129, 130, 131, 132, 133, 134, 135, 136, 137, 138] rfl (by decide +kernel)
set_option maxRecDepth 20000 in
theorem gX12_keep_X12_wrong : GoodIn wsX12_keep (wsV RX12 249 RX12 yX12_wrong wsX12_wrong) := goodIn_app (goodIn_m [.methodLink RX12 249 yX12_wrong, .instanceMethod yX12_wrong, .selects RX12 yX12_wrong yX12_wrong, .initialized RX12] [9, 10, 11, 7] rfl (by decide +kernel)) ggX12_keep_X12_wrong
set_option maxRecDepth 20000 in
theorem ggX12_forget_X12_in : GoodIn wsX12_forget wsX12_in := goodIn_m _ [7] rfl (by decide +kernel)
set_option maxRecDepth 20000 in
theorem gX12_forget_X12_in : GoodIn wsX12_forget (va_wsS RX12 100 yX12_in wsX12_in) := goodIn_app (goodIn_m [.methodLink RX12 100 yX12_in, .static yX12_in, .initialized RX12] [4, 5, 6] rfl (by decide +kernel)) ggX12_forget_X12_in
set_option maxRecDepth 20000 in
theorem ggX12_back_X12_in : GoodIn wsX12_back wsX12_in := goodIn_m _ [9] rfl (by decide +kernel)
set_option maxRecDepth 20000 in
theorem gX12_back_X12_in : GoodIn wsX12_back (va_wsS RX12 100 yX12_in wsX12_in) := goodIn_app (goodIn_m [.methodLink RX12 100 yX12_in, .static yX12_in, .initialized RX12] [6, 7, 8] rfl (by decide +kernel)) ggX12_back_X12_in
set_option maxRecDepth 20000 in
theorem ggX12_back_X12_wrong : GoodIn wsX12_back wsX12_wrong := goodIn_m _ [13, 14, 15, 6, 7, 8, 9, 16, 17, 18, 19, 20, 21, 22, 23, 24, 25, 26, 27, 28, 29, 30, 31, 32, 33, 34, 35, 36, 1, 37, 38, 39, 40, 41, 42, 43, 44, 45, 46, 47, 48, 49, 50, 51, 52, 53, 54, 55, 56, 57, 58, 59, 60, 61, 62, 63, 64, 65, 66, 67, 68, 69, 70, 71, 72, 73, 74, 75, 76, 77, 78, 79, 80, 81, 82, 83, 84, 85, 86, 87, 88, 89, 90, 91, 92, 93, 3, 94, 95, 96, 97, 98, 99, 100, 101, 102, 103, 104, 105, 106, 107, 108, 109, 110, 111, 112, 113, 114, 115, 116, 117, 118, 119, 120, 121, 122, 123, 124, 125, 126, 127, 128, 129, 130, 131, 132, 133, 134, 135, 136, 137, 138] rfl (by decide +kernel)
set_option maxRecDepth 20000 in
theorem gX12_back_X12_wrong : GoodIn wsX12_back (wsV RX12 249 RX12 yX12_wrong wsX12_wrong) := goodIn_app (goodIn_m [.methodLink RX12 249 yX12_wrong, .instanceMethod yX12_wrong, .selects RX12 yX12_wrong yX12_wrong, .initialized RX12] [10, 11, 12, 8] rfl (by decide +kernel)) ggX12_back_X12_wrong
set_option maxRecDepth 20000 in
theorem ggX12_back_X12_size : GoodIn wsX12_back wsX12_size := goodIn_m _ [70] rfl (by decide +kernel)
set_option maxRecDepth 20000 in
theorem gX12_back_X12_size : GoodIn wsX12_back (va_wsS RX12 209 yX12_size wsX12_size) := goodIn_app (goodIn_m [.methodLink RX12 209 yX12_size, .static yX12_size, .initialized RX12] [68, 69, 8] rfl (by decide +kernel)) ggX12_back_X12_size
set_option maxRecDepth 20000 in
theorem ggX12_offsOf_X12_size : GoodIn wsX12_offsOf wsX12_size := goodIn_m _ [7] rfl (by decide +kernel)
set_option maxRecDepth 20000 in
theorem gX12_offsOf_X12_size : GoodIn wsX12_offsOf (va_wsS RX12 209 yX12_size wsX12_size) := goodIn_app (goodIn_m [.methodLink RX12 209 yX12_size, .static yX12_size, .initialized RX12] [4, 5, 6] rfl (by decide +kernel)) ggX12_offsOf_X12_size
set_option maxRecDepth 20000 in
theorem ggX12_odds_X12_in : GoodIn wsX12_odds wsX12_in := goodIn_m _ [7] rfl (by decide +kernel)
set_option maxRecDepth 20000 in
theorem gX12_odds_X12_in : GoodIn wsX12_odds (va_wsS RX12 100 yX12_in wsX12_in) := goodIn_app (goodIn_m [.methodLink RX12 100 yX12_in, .static yX12_in, .initialized RX12] [4, 5, 6] rfl (by decide +kernel)) ggX12_odds_X12_in
set_option maxRecDepth 20000 in
theorem ggX12_odds_X12_wrong : GoodIn wsX12_odds wsX12_wrong := goodIn_m _ [11, 3, 2, 4, 5, 6, 7, 12, 13, 14, 15, 16, 17, 18, 19, 20, 21, 22, 23, 24, 25, 26, 27, 28, 29, 30, 31, 32, 33, 34, 35, 36, 37, 38, 39, 40, 41, 42, 43, 44, 45, 46, 47, 48, 49, 50, 51, 52, 53, 54, 55, 56, 57, 58, 59, 60, 61, 62, 63, 64, 65, 66, 67, 68, 69, 70, 71, 72, 73, 74, 75, 76, 77, 78, 79, 80, 81, 82, 83, 84, 85, 86, 87, 88, 89, 90, 91, 100, 101, 102, 103, 104, 105, 106, 107, 108, 109, 110, 111, 112, 113, 114, 115, 116, 117, 118, 119, 120, 121, 122, 123, 124, 125, 126, 127, 128, 129, 130, 131, 132, 133, 134, 135, 136, 137, 138, 139, 140, 141, 142, 143, 144] rfl (by decide +kernel)
set_option maxRecDepth 20000 in
theorem gX12_odds_X12_wrong : GoodIn wsX12_odds (wsV RX12 249 RX12 yX12_wrong wsX12_wrong) := goodIn_app (goodIn_m [.methodLink RX12 249 yX12_wrong, .instanceMethod yX12_wrong, .selects RX12 yX12_wrong yX12_wrong, .initialized RX12] [8, 9, 10, 6] rfl (by decide +kernel)) ggX12_odds_X12_wrong
set_option maxRecDepth 20000 in
theorem ggX12_odds_X12_bitsIn : GoodIn wsX12_odds wsX12_bitsIn := goodIn_m _ [94] rfl (by decide +kernel)
set_option maxRecDepth 20000 in
theorem gX12_odds_X12_bitsIn : GoodIn wsX12_odds (va_wsS RX12 255 yX12_bitsIn wsX12_bitsIn) := goodIn_app (goodIn_m [.methodLink RX12 255 yX12_bitsIn, .static yX12_bitsIn, .initialized RX12] [92, 93, 6] rfl (by decide +kernel)) ggX12_odds_X12_bitsIn
set_option maxRecDepth 20000 in
theorem ggX12_odds_X12_offsOf : GoodIn wsX12_odds wsX12_offsOf := goodIn_m _ [98, 2, 44, 99, 65, 66, 6, 67, 100, 101, 102, 103, 104, 105, 106, 107, 108, 109, 110, 111, 112, 113, 114, 115, 116, 117, 118, 119, 120, 121, 122, 123, 124, 125, 126, 127, 128, 129, 130, 131, 132, 133, 134, 135, 136, 137, 138, 139, 140, 141, 142, 143, 144] rfl (by decide +kernel)
set_option maxRecDepth 20000 in
theorem gX12_odds_X12_offsOf : GoodIn wsX12_odds (wsV RX12 258 RX12 yX12_offsOf wsX12_offsOf) := goodIn_app (goodIn_m [.methodLink RX12 258 yX12_offsOf, .instanceMethod yX12_offsOf, .selects RX12 yX12_offsOf yX12_offsOf, .initialized RX12] [95, 96, 97, 6] rfl (by decide +kernel)) ggX12_odds_X12_offsOf
set_option maxRecDepth 20000 in
theorem ggX12_show_X12_findBest : GoodIn wsX12_show wsX12_findBest := goodIn_m _ [9, 10, 11, 12, 13, 14, 15, 16, 8, 17, 18, 19, 1, 20, 21, 22, 23, 24, 25, 26, 27, 28, 29, 30, 31, 32, 33, 34, 35, 36, 37, 38, 39, 40, 41, 42, 43, 44, 45, 46, 47, 48, 49, 50, 51, 52, 53, 54, 55, 56, 57, 58, 59, 60, 61, 62, 63, 64, 65, 66, 67, 68, 69, 70, 71, 72, 73, 74, 75, 76, 77, 78, 79, 80, 81, 82, 83, 84, 89, 90, 91, 92, 93, 94, 95, 96, 97, 98, 99, 100, 101, 102, 103, 104, 105, 106, 107, 108, 109, 110, 111, 112, 113, 114, 115, 116, 117, 118, 119, 120, 121, 122, 123, 124, 125, 126, 127, 128, 129, 130, 131, 132, 133] rfl (by decide +kernel)
set_option maxRecDepth 20000 in
theorem gX12_show_X12_findBest : GoodIn wsX12_show (wsV RX12 240 RX12 yX12_findBest wsX12_findBest) := goodIn_app (goodIn_m [.methodLink RX12 240 yX12_findBest, .instanceMethod yX12_findBest, .selects RX12 yX12_findBest yX12_findBest, .initialized RX12] [5, 6, 7, 8] rfl (by decide +kernel)) ggX12_show_X12_findBest
set_option maxRecDepth 20000 in
theorem ggX12_show_X12_heapOfRow : GoodIn wsX12_show wsX12_heapOfRow := goodIn_m _ [88, 20, 13, 89, 90, 91, 92, 93, 94, 95, 96, 97, 98, 99, 100, 101, 102, 103, 104, 105, 106, 107, 108, 109, 110, 111, 112, 113, 114, 115, 116, 117, 118, 119, 120, 121, 122, 123, 124, 125, 126, 127, 128, 129, 130, 131, 132, 133] rfl (by decide +kernel)
set_option maxRecDepth 20000 in
theorem gX12_show_X12_heapOfRow : GoodIn wsX12_show (wsV RX12 261 RX12 yX12_heapOfRow wsX12_heapOfRow) := goodIn_app (goodIn_m [.methodLink RX12 261 yX12_heapOfRow, .instanceMethod yX12_heapOfRow, .selects RX12 yX12_heapOfRow yX12_heapOfRow, .initialized RX12] [85, 86, 87, 8] rfl (by decide +kernel)) ggX12_show_X12_heapOfRow
set_option maxRecDepth 20000 in
theorem ggX12_otherwise_X12_findBest : GoodIn wsX12_otherwise wsX12_findBest := goodIn_m _ [9, 10, 11, 12, 13, 14, 15, 16, 8, 17, 18, 19, 3, 20, 21, 22, 23, 24, 25, 26, 27, 28, 29, 30, 31, 32, 33, 34, 35, 36, 37, 38, 39, 40, 41, 42, 43, 44, 45, 46, 47, 48, 49, 50, 51, 52, 53, 54, 55, 56, 57, 58, 59, 60, 61, 62, 63, 64, 65, 66, 67, 68, 69, 70, 71, 72, 73, 74, 75, 76, 77, 78, 79, 80, 81, 82, 83, 84, 89, 90, 91, 92, 93, 94, 95, 96, 97, 98, 99, 100, 101, 102, 103, 104, 105, 106, 107, 108, 109, 110, 111, 112, 113, 114, 115, 116, 117, 118, 119, 120, 121, 122, 123, 124, 125, 126, 127, 128, 129, 130, 131, 132, 133] rfl (by decide +kernel)
set_option maxRecDepth 20000 in
theorem gX12_otherwise_X12_findBest : GoodIn wsX12_otherwise (wsV RX12 240 RX12 yX12_findBest wsX12_findBest) := goodIn_app (goodIn_m [.methodLink RX12 240 yX12_findBest, .instanceMethod yX12_findBest, .selects RX12 yX12_findBest yX12_findBest, .initialized RX12] [5, 6, 7, 8] rfl (by decide +kernel)) ggX12_otherwise_X12_findBest
set_option maxRecDepth 20000 in
theorem ggX12_otherwise_X12_heapOfRow : GoodIn wsX12_otherwise wsX12_heapOfRow := goodIn_m _ [88, 20, 13, 89, 90, 91, 92, 93, 94, 95, 96, 97, 98, 99, 100, 101, 102, 103, 104, 105, 106, 107, 108, 109, 110, 111, 112, 113, 114, 115, 116, 117, 118, 119, 120, 121, 122, 123, 124, 125, 126, 127, 128, 129, 130, 131, 132, 133] rfl (by decide +kernel)
set_option maxRecDepth 20000 in
theorem gX12_otherwise_X12_heapOfRow : GoodIn wsX12_otherwise (wsV RX12 261 RX12 yX12_heapOfRow wsX12_heapOfRow) := goodIn_app (goodIn_m [.methodLink RX12 261 yX12_heapOfRow, .instanceMethod yX12_heapOfRow, .selects RX12 yX12_heapOfRow yX12_heapOfRow, .initialized RX12] [85, 86, 87, 8] rfl (by decide +kernel)) ggX12_otherwise_X12_heapOfRow
set_option maxRecDepth 20000 in
theorem ggX12_word_X12_areRows : GoodIn wsX12_word wsX12_areRows := goodIn_m _ [8, 9, 10, 11, 12, 7, 13, 14, 15, 16, 17, 18, 19, 20, 21, 22, 23, 24, 25, 26, 27, 28, 29, 30, 31, 32, 33, 34, 35, 36, 37, 38, 39, 40, 41, 42, 43, 44, 45, 46, 47, 48, 49, 50, 51, 52, 53, 54, 55, 56, 57, 58, 59, 60, 61] rfl (by decide +kernel)
set_option maxRecDepth 20000 in
theorem gX12_word_X12_areRows : GoodIn wsX12_word (wsV RX12 167 RX12 yX12_areRows wsX12_areRows) := goodIn_app (goodIn_m [.methodLink RX12 167 yX12_areRows, .instanceMethod yX12_areRows, .selects RX12 yX12_areRows yX12_areRows, .initialized RX12] [4, 5, 6, 7] rfl (by decide +kernel)) ggX12_word_X12_areRows
set_option maxRecDepth 20000 in
theorem ggX12_hung_X12_in : GoodIn wsX12_hung wsX12_in := goodIn_m _ [10] rfl (by decide +kernel)
set_option maxRecDepth 20000 in
theorem gX12_hung_X12_in : GoodIn wsX12_hung (va_wsS RX12 100 yX12_in wsX12_in) := goodIn_app (goodIn_m [.methodLink RX12 100 yX12_in, .static yX12_in, .initialized RX12] [7, 8, 9] rfl (by decide +kernel)) ggX12_hung_X12_in
set_option maxRecDepth 20000 in
theorem ggX12_hung_X12_findPieces : GoodIn wsX12_hung wsX12_findPieces := goodIn_m _ [14, 2, 15, 16, 17, 18, 19, 20, 21, 9, 22, 23, 24, 25, 26, 27, 28, 29, 30, 31, 32, 33, 3, 4, 34, 35, 36, 37, 38, 39, 40, 41, 7, 8, 10, 42, 43, 44, 45, 46, 47, 48, 49, 50, 51, 52, 53, 54, 55, 56, 57, 58, 59, 60, 61, 62, 63, 64, 65, 66, 67, 68, 69, 70, 71, 72, 73, 74, 75, 76, 77, 78, 79, 80, 81, 82, 83, 84, 85, 86, 87, 88, 89, 90, 91] rfl (by decide +kernel)
set_option maxRecDepth 20000 in
theorem gX12_hung_X12_findPieces : GoodIn wsX12_hung (wsV RX12 203 RX12 yX12_findPieces wsX12_findPieces) := goodIn_app (goodIn_m [.methodLink RX12 203 yX12_findPieces, .instanceMethod yX12_findPieces, .selects RX12 yX12_findPieces yX12_findPieces, .initialized RX12] [11, 12, 13, 9] rfl (by decide +kernel)) ggX12_hung_X12_findPieces
set_option maxRecDepth 20000 in
theorem ggX12_truth_X12_areRows : GoodIn wsX12_truth wsX12_areRows := goodIn_m _ [6, 7, 8, 9, 10, 5, 11, 12, 13, 14, 15, 16, 17, 18, 19, 20, 21, 22, 23, 24, 25, 26, 27, 28, 29, 30, 31, 32, 33, 34, 35, 36, 37, 38, 39, 40, 41, 42, 43, 44, 45, 46, 47, 48, 49, 50, 51, 52, 53, 54, 55, 56, 57, 58, 59] rfl (by decide +kernel)
set_option maxRecDepth 20000 in
theorem gX12_truth_X12_areRows : GoodIn wsX12_truth (wsV RX12 167 RX12 yX12_areRows wsX12_areRows) := goodIn_app (goodIn_m [.methodLink RX12 167 yX12_areRows, .instanceMethod yX12_areRows, .selects RX12 yX12_areRows yX12_areRows, .initialized RX12] [2, 3, 4, 5] rfl (by decide +kernel)) ggX12_truth_X12_areRows
set_option maxRecDepth 20000 in
theorem ggX12_truth_X12_in : GoodIn wsX12_truth wsX12_in := goodIn_m _ [14] rfl (by decide +kernel)
set_option maxRecDepth 20000 in
theorem gX12_truth_X12_in : GoodIn wsX12_truth (va_wsS RX12 100 yX12_in wsX12_in) := goodIn_app (goodIn_m [.methodLink RX12 100 yX12_in, .static yX12_in, .initialized RX12] [12, 13, 5] rfl (by decide +kernel)) ggX12_truth_X12_in
set_option maxRecDepth 20000 in
theorem ggX12_mostRight_X12_heapOfRow : GoodIn wsX12_mostRight wsX12_heapOfRow := goodIn_m _ [10, 3, 11, 12, 13, 14, 15, 16, 17, 18, 19, 20, 21, 22, 23, 24, 25, 26, 27, 28, 29, 30, 31, 32, 33, 34, 35, 36, 37, 38, 39, 40, 41, 42, 43, 44, 45, 46, 47, 48, 49, 50, 51, 52, 53, 54, 55, 56] rfl (by decide +kernel)
set_option maxRecDepth 20000 in
theorem gX12_mostRight_X12_heapOfRow : GoodIn wsX12_mostRight (wsV RX12 261 RX12 yX12_heapOfRow wsX12_heapOfRow) := goodIn_app (goodIn_m [.methodLink RX12 261 yX12_heapOfRow, .instanceMethod yX12_heapOfRow, .selects RX12 yX12_heapOfRow yX12_heapOfRow, .initialized RX12] [6, 7, 8, 9] rfl (by decide +kernel)) ggX12_mostRight_X12_heapOfRow
set_option maxRecDepth 20000 in
theorem ggX12_errors_X12_in : GoodIn wsX12_errors wsX12_in := goodIn_m _ [7] rfl (by decide +kernel)
set_option maxRecDepth 20000 in
theorem gX12_errors_X12_in : GoodIn wsX12_errors (va_wsS RX12 100 yX12_in wsX12_in) := goodIn_app (goodIn_m [.methodLink RX12 100 yX12_in, .static yX12_in, .initialized RX12] [4, 5, 6] rfl (by decide +kernel)) ggX12_errors_X12_in
set_option maxRecDepth 20000 in
theorem ggX12_errors_X12_findPieces : GoodIn wsX12_errors wsX12_findPieces := goodIn_m _ [11, 12, 13, 14, 1, 2, 15, 16, 17, 6, 18, 19, 20, 21, 22, 23, 24, 25, 26, 27, 28, 29, 30, 31, 32, 33, 34, 35, 36, 37, 38, 39, 4, 5, 7, 40, 41, 42, 43, 44, 93, 94, 95, 96, 97, 98, 99, 100, 101, 102, 103, 104, 105, 106, 107, 108, 109, 110, 111, 112, 113, 114, 115, 116, 117, 118, 119, 120, 121, 122, 123, 124, 125, 126, 127, 128, 129, 130, 131, 132, 133, 134, 135, 136, 137] rfl (by decide +kernel)
set_option maxRecDepth 20000 in
theorem gX12_errors_X12_findPieces : GoodIn wsX12_errors (wsV RX12 203 RX12 yX12_findPieces wsX12_findPieces) := goodIn_app (goodIn_m [.methodLink RX12 203 yX12_findPieces, .instanceMethod yX12_findPieces, .selects RX12 yX12_findPieces yX12_findPieces, .initialized RX12] [8, 9, 10, 6] rfl (by decide +kernel)) ggX12_errors_X12_findPieces
set_option maxRecDepth 20000 in
theorem ggX12_errors_X12_findBest : GoodIn wsX12_errors wsX12_findBest := goodIn_m _ [48, 12, 49, 50, 51, 8, 9, 10, 6, 11, 13, 14, 1, 2, 15, 16, 17, 18, 19, 20, 21, 22, 23, 24, 25, 26, 27, 28, 29, 30, 31, 32, 33, 34, 35, 36, 37, 38, 39, 4, 5, 7, 40, 41, 42, 43, 44, 52, 53, 54, 55, 56, 57, 58, 59, 60, 61, 62, 63, 64, 65, 66, 67, 68, 69, 70, 71, 72, 73, 74, 75, 76, 77, 78, 79, 80, 81, 82, 93, 94, 95, 96, 97, 98, 99, 100, 101, 102, 103, 104, 105, 106, 107, 108, 109, 110, 111, 112, 113, 114, 115, 116, 117, 118, 119, 120, 121, 122, 123, 124, 125, 126, 127, 128, 129, 130, 131, 132, 133, 134, 135, 136, 137] rfl (by decide +kernel)
set_option maxRecDepth 20000 in
theorem gX12_errors_X12_findBest : GoodIn wsX12_errors (wsV RX12 240 RX12 yX12_findBest wsX12_findBest) := goodIn_app (goodIn_m [.methodLink RX12 240 yX12_findBest, .instanceMethod yX12_findBest, .selects RX12 yX12_findBest yX12_findBest, .initialized RX12] [45, 46, 47, 6] rfl (by decide +kernel)) ggX12_errors_X12_findBest
set_option maxRecDepth 20000 in
theorem ggX12_errors_X12_mostRight : GoodIn wsX12_errors wsX12_mostRight := goodIn_m _ [86, 87, 1, 2, 3, 88, 89, 90, 91, 6, 92, 51, 93, 94, 95, 96, 97, 98, 99, 100, 101, 102, 103, 104, 105, 106, 107, 108, 109, 110, 111, 112, 113, 114, 115, 116, 117, 118, 119, 120, 121, 122, 123, 124, 125, 126, 127, 128, 129, 130, 131, 132, 133, 134, 135, 136, 137] rfl (by decide +kernel)
set_option maxRecDepth 20000 in
theorem gX12_errors_X12_mostRight : GoodIn wsX12_errors (wsV RX12 267 RX12 yX12_mostRight wsX12_mostRight) := goodIn_app (goodIn_m [.methodLink RX12 267 yX12_mostRight, .instanceMethod yX12_mostRight, .selects RX12 yX12_mostRight yX12_mostRight, .initialized RX12] [83, 84, 85, 6] rfl (by decide +kernel)) ggX12_errors_X12_mostRight
set_option maxRecDepth 20000 in
theorem ggX12_weight_X12_findPieces : GoodIn wsX12_weight wsX12_findPieces := goodIn_m _ [17, 18, 19, 20, 21, 22, 23, 24, 25, 16, 26, 27, 28, 29, 30, 31, 32, 33, 34, 35, 36, 37, 38, 1, 3, 2, 39, 40, 41, 42, 43, 44, 45, 46, 47, 48, 49, 50, 51, 52, 57, 58, 59, 60, 61, 62, 63, 64, 65, 66, 67, 68, 69, 70, 71, 72, 73, 74, 75, 76, 77, 78, 79, 80, 81, 82, 83, 84, 85, 86, 87, 88, 89, 90, 91, 92, 93, 94, 95, 96, 97, 98, 99, 100, 101] rfl (by decide +kernel)
set_option maxRecDepth 20000 in
theorem gX12_weight_X12_findPieces : GoodIn wsX12_weight (wsV RX12 203 RX12 yX12_findPieces wsX12_findPieces) := goodIn_app (goodIn_m [.methodLink RX12 203 yX12_findPieces, .instanceMethod yX12_findPieces, .selects RX12 yX12_findPieces yX12_findPieces, .initialized RX12] [13, 14, 15, 16] rfl (by decide +kernel)) ggX12_weight_X12_findPieces
set_option maxRecDepth 20000 in
theorem ggX12_weight_X12_in : GoodIn wsX12_weight wsX12_in := goodIn_m _ [47] rfl (by decide +kernel)
set_option maxRecDepth 20000 in
theorem gX12_weight_X12_in : GoodIn wsX12_weight (va_wsS RX12 100 yX12_in wsX12_in) := goodIn_app (goodIn_m [.methodLink RX12 100 yX12_in, .static yX12_in, .initialized RX12] [45, 46, 16] rfl (by decide +kernel)) ggX12_weight_X12_in
set_option maxRecDepth 20000 in
theorem ggX12_weight_X12_isPiece : GoodIn wsX12_weight wsX12_isPiece := goodIn_m _ [56, 18, 45, 46, 16, 47, 57, 58, 59, 60, 61, 62, 63, 64, 65, 66, 67, 68, 69, 70, 71, 72, 73, 74, 75, 76, 77, 78, 79, 80, 81, 82, 83, 84, 85, 86, 87, 88, 89, 90, 91, 92, 93, 94, 95, 96, 97, 98, 99, 100, 101] rfl (by decide +kernel)
set_option maxRecDepth 20000 in
theorem gX12_weight_X12_isPiece : GoodIn wsX12_weight (wsV RX12 206 RX12 yX12_isPiece wsX12_isPiece) := goodIn_app (goodIn_m [.methodLink RX12 206 yX12_isPiece, .instanceMethod yX12_isPiece, .selects RX12 yX12_isPiece yX12_isPiece, .initialized RX12] [53, 54, 55, 16] rfl (by decide +kernel)) ggX12_weight_X12_isPiece
set_option maxRecDepth 20000 in
theorem ggJ0_length_8abf5_J0_coder_7d493 : GoodIn wsJ0_length_8abf5 wsJ0_coder_7d493 := goodIn_m _ [6, 7, 8] rfl (by decide +kernel)
set_option maxRecDepth 20000 in
theorem gJ0_length_8abf5_J0_coder_7d493 : GoodIn wsJ0_length_8abf5 (wsV RJ0 335 RJ0 yJ0_coder_7d493 wsJ0_coder_7d493) := goodIn_app (goodIn_m [.methodLink RJ0 335 yJ0_coder_7d493, .instanceMethod yJ0_coder_7d493, .selects RJ0 yJ0_coder_7d493 yJ0_coder_7d493, .initialized RJ0] [2, 3, 4, 5] rfl (by decide +kernel)) ggJ0_length_8abf5_J0_coder_7d493
set_option maxRecDepth 20000 in
theorem ggJ0_charAt_5068e_J0_isLatin1_aae02 : GoodIn wsJ0_charAt_5068e wsJ0_isLatin1_aae02 := goodIn_m _ [6, 7, 8] rfl (by decide +kernel)
set_option maxRecDepth 20000 in
theorem gJ0_charAt_5068e_J0_isLatin1_aae02 : GoodIn wsJ0_charAt_5068e (wsV RJ0 492 RJ0 yJ0_isLatin1_aae02 wsJ0_isLatin1_aae02) := goodIn_app (goodIn_m [.methodLink RJ0 492 yJ0_isLatin1_aae02, .instanceMethod yJ0_isLatin1_aae02, .selects RJ0 yJ0_isLatin1_aae02 yJ0_isLatin1_aae02, .initialized RJ0] [2, 3, 4, 5] rfl (by decide +kernel)) ggJ0_charAt_5068e_J0_isLatin1_aae02
set_option maxRecDepth 20000 in
theorem ggJ0_charAt_5068e_J1_charAt_3b067 : GoodIn wsJ0_charAt_5068e wsJ1_charAt_3b067 := goodIn_m _ [12, 13, 14, 5, 15, 16, 17, 18, 19, 20] rfl (by decide +kernel)
set_option maxRecDepth 20000 in
theorem gJ0_charAt_5068e_J1_charAt_3b067 : GoodIn wsJ0_charAt_5068e (va_wsS RJ0 495 yJ1_charAt_3b067 wsJ1_charAt_3b067) := goodIn_app (goodIn_m [.methodLink RJ0 495 yJ1_charAt_3b067, .static yJ1_charAt_3b067, .initialized RJ1] [9, 10, 11] rfl (by decide +kernel)) ggJ0_charAt_5068e_J1_charAt_3b067
set_option maxRecDepth 20000 in
theorem ggJ0_checkIndex_df160_J3_checkIndex_8e157 : GoodIn wsJ0_checkIndex_df160 wsJ3_checkIndex_8e157 := goodIn_m _ [5] rfl (by decide +kernel)
set_option maxRecDepth 20000 in
theorem gJ0_checkIndex_df160_J3_checkIndex_8e157 : GoodIn wsJ0_checkIndex_df160 (va_wsS RJ0 1059 yJ3_checkIndex_8e157 wsJ3_checkIndex_8e157) := goodIn_app (goodIn_m [.methodLink RJ0 1059 yJ3_checkIndex_8e157, .static yJ3_checkIndex_8e157, .initialized RJ3] [2, 3, 4] rfl (by decide +kernel)) ggJ0_checkIndex_df160_J3_checkIndex_8e157
set_option maxRecDepth 20000 in
theorem ggJ1_charAt_3b067_J0_checkIndex_df160 : GoodIn wsJ1_charAt_3b067 wsJ0_checkIndex_df160 := goodIn_m _ [4, 5, 6, 7, 8, 9] rfl (by decide +kernel)
set_option maxRecDepth 20000 in
theorem gJ1_charAt_3b067_J0_checkIndex_df160 : GoodIn wsJ1_charAt_3b067 (va_wsS RJ1 9 yJ0_checkIndex_df160 wsJ0_checkIndex_df160) := goodIn_app (goodIn_m [.methodLink RJ1 9 yJ0_checkIndex_df160, .static yJ0_checkIndex_df160, .initialized RJ0] [1, 2, 3] rfl (by decide +kernel)) ggJ1_charAt_3b067_J0_checkIndex_df160
