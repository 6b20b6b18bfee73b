set_option maxHeartbeats 4000000 in
set_option maxRecDepth 100000 in
theorem aX11_otherwise_0 (l : Launch) (g : CX) (σ : ST) (hI : INV σ)  : XM l g yX11_otherwise wsX11_otherwise { frames := 16, cells := 0, slots := 0, locals := 420 } [.ref (g.2.1 0)] σ (XQi g (fun r σ' => fX11_otherwise_0 σ = (r, σ') ∧ INV σ' ∧ Fr [(3, 12), (14, 18), (22, 23)] [(8, 19), (21, 29), (31, 41), (43, 47)] σ σ')) := by
  refine x_met (own := RX11) (cc := cX11_otherwise) (maxL := 3) (ret := (some .int)) (lv := [(0, .ref (g.2.1 0))]) (by decide) rfl rfl (Nat.le_of_ble_eq_true rfl) rfl ?_
  intro p e s m args below meth c ls E h hl
  have hx := E.1
  have hb := E.2.1
  have hown := E.2.2.2.1
  have hts := E.2.2.2.2.1
  have hF : Fr [(3, 12), (14, 18), (22, 23)] [(8, 19), (21, 29), (31, 41), (43, 47)] σ σ := Fr.refl σ
  obtain ⟨R, hR0⟩ : ∃ R, fX11_otherwise_0 σ = R := ⟨_, rfl⟩
  have hR : fX11_otherwise_0b0 σ = R := hR0
  have hwX11 : ∀ w ∈ wsX110, w ∈ wsX11_otherwise := by decide +kernel
  have hwX7 : ∀ w ∈ wsX70, w ∈ wsX11_otherwise := by decide +kernel
  generalize hPQ : XQi g (fun r σ' => fX11_otherwise_0 σ = (r, σ') ∧ INV σ' ∧ Fr [(3, 12), (14, 18), (22, 23)] [(8, 19), (21, 29), (31, 41), (43, 47)] σ σ') = PQz
  refine lv_aload_n hx hb dX11_otherwise_0 rfl (lv_at hl 0 rfl) ?_
  obtain ⟨x1, e1⟩ : ∃ x, σ.1 21 = x := ⟨_, rfl⟩
  refine x_getI E h (fi_vh_shownRows g) rfl hwX11 (by decide) (by decide +kernel) (v := x1) e1 dX11_otherwise_1 ?_
  replace hR := bd_to hR e1
  refine lv_iconst (v := (-1)) hx hb dX11_otherwise_4 (by decide) ?_
  refine lv_icmp_eq (tgt := 15) hx hb dX11_otherwise_5 (by decide) (fun c2 => ?_) (fun c2 => ?_)
  · skip
    replace hR := it_t hR c2
    subst c2
    refine lv_bipush (v := (-2)) hx hb dX11_otherwise_15 (by decide) ?_
    subst hPQ
    exact x_iret E h ⟨hR0.trans hR.symm, hI, hF⟩ dX11_otherwise_17
  · skip
    replace hR := it_f hR c2
    refine lv_aload_n hx hb dX11_otherwise_8 rfl (lv_at hl 0 rfl) ?_
    refine x_vi E h (na := 0) (As := []) (aX11_heapNow_1 l g σ hI) (oc_vh g) rfl gX11_otherwise_X11_heapNow rfl ⟨rfl, rfl⟩ rfl (by decide +kernel) ⟨Nat.le_of_ble_eq_true rfl, Nat.le_of_ble_eq_true rfl⟩ hl.1 rfl (Nat.le_of_ble_eq_true rfl) dX11_otherwise_9 ⟨Nat.le_of_ble_eq_true rfl, Nat.le_of_ble_eq_true rfl⟩ (fun r5 s5 H locs q5 h => ?_)
    obtain ⟨x5, d5, hI5, f5⟩ := q5
    replace hR := bp_to hR x5
    have hF5 := hF.call f5 (I := [(3, 12), (14, 18), (22, 23)]) (J := [(8, 19), (21, 29), (31, 41), (43, 47)]) rfl rfl
    have e6 : s5.1 21 = x1 := ((f5.1 21 rfl)).trans e1
    rcases d5 with ⟨rfl, m5_0P, u5_0_0, u5_0_1, u5_0_2⟩ | rfl
    · skip
      replace hR := it_f hR (by decide)
      refine lv_if_ne (tgt := 18) hx hb dX11_otherwise_12 (by decide) (fun _ => ?_) (fun c => absurd c (by decide))
      refine lv_iconst (v := 0) hx hb dX11_otherwise_18 (by decide) ?_
      refine lv_istore_n (lv' := [(1, .int 0), (0, .ref (g.2.1 0))]) hx hb dX11_otherwise_19 rfl hl (by decide) rfl (fun ls hl => ?_)
      refine lv_iconst (v := 0) hx hb dX11_otherwise_20 (by decide) ?_
      refine lv_istore_n (lv' := [(2, .int 0), (1, .int 0), (0, .ref (g.2.1 0))]) hx hb dX11_otherwise_21 rfl hl (by decide) rfl (fun ls hl => ?_)
      obtain ⟨n8, b8, e8⟩ := hI5.1 2 48 rfl
      have loop22_7 : ∀ (fu : Nat) (i7_2 : Nat) (i7_1 : Int32), i7_2 ≤ n8 → fX11_otherwise_0l22 fu i7_1 (nI i7_2) s5 = R → n8 - i7_2 < fu → ∀ (H : Heap) (locs : List Loc) (ls : Array Slot), HW g s5 s H locs → lv_has ls 3 [(2, .int (nI i7_2)), (1, .int i7_1), (0, .ref (g.2.1 0))] → W p l e { frames := 16, cells := 0, slots := 0, locals := 420 } s m args below meth c H locs 0 0 (MQ below PQz args s 0 0 (Aw g)) (F0 m 22 ls []) := by
        intro fu7
        induction fu7 with
        | zero => intro i7_2 i7_1 bi7_2 hR7 hm; exact absurd hm (Nat.not_lt_zero _)
        | succ fu7 ih =>
          have ih7 := ih
          clear ih
          intro i7_2 i7_1 bi7_2 hR7 hm7 H locs ls h hl
          replace hR7 : fX11_otherwise_0b22 (fX11_otherwise_0l22 fu7) i7_1 (nI i7_2) s5 = R := hR7
          refine lv_iload_n hx hb dX11_otherwise_22 rfl (lv_at hl 0 rfl) ?_
          refine lv_aload_n hx hb dX11_otherwise_23 rfl (lv_at hl 2 rfl) ?_
          refine x_getI E h (fi_vh_shownRows g) rfl hwX11 (by decide) (by decide +kernel) (v := x1) e6 dX11_otherwise_24 ?_
          replace hR7 := bd_to hR7 e6
          refine lv_icmp_ge (tgt := 64) hx hb dX11_otherwise_27 (by decide) (fun c9 => ?_) (fun c9 => ?_)
          · skip
            replace hR7 := it_t hR7 c9
            refine lv_iload_n hx hb dX11_otherwise_64 rfl (lv_at hl 1 rfl) ?_
            subst hPQ
            exact x_iret E h ⟨hR0.trans hR7.symm, hI5, hF5⟩ dX11_otherwise_65
          · skip
            replace hR7 := it_f hR7 c9
            refine lv_iload_n hx hb dX11_otherwise_30 rfl (lv_at hl 0 rfl) ?_
            refine lv_aload_n hx hb dX11_otherwise_31 rfl (lv_at hl 2 rfl) ?_
            refine x_getR E h (fr_vh_book g) rfl hwX11 (by decide) (by decide +kernel) dX11_otherwise_32 ?_
            refine x_getIN E h (fi_bk_rows g) rfl hwX7 (by decide) (by decide +kernel) (v := nI n8) e8 dX11_otherwise_35 ?_
            replace hR7 := bd_to hR7 e8
            refine lv_icmp_ge (tgt := 64) hx hb dX11_otherwise_38 (by decide) (fun c12 => ?_) (fun c12 => ?_)
            · skip
              replace hR7 := it_t hR7 c12
              have b13 : n8 ≤ i7_2 := y_le (a := n8) (b := i7_2) (by omega) (by omega) c12
              refine lv_iload_n hx hb dX11_otherwise_64 rfl (lv_at hl 1 rfl) ?_
              subst hPQ
              exact x_iret E h ⟨hR0.trans hR7.symm, hI5, hF5⟩ dX11_otherwise_65
            · skip
              replace hR7 := it_f hR7 c12
              have b14 : i7_2 < n8 := y_nle (a := n8) (b := i7_2) (by omega) (by omega) c12
              refine lv_aload_n hx hb dX11_otherwise_41 rfl (lv_at hl 2 rfl) ?_
              refine lv_iload_n hx hb dX11_otherwise_42 rfl (lv_at hl 0 rfl) ?_
              refine x_vi E h (na := 1) (As := [.int (nI i7_2)]) (aX11_heapOfRow_0 l g s5 hI5 i7_2 (by omega)) (oc_vh g) rfl gX11_otherwise_X11_heapOfRow rfl ⟨rfl, rfl⟩ rfl (by decide +kernel) ⟨Nat.le_of_ble_eq_true rfl, Nat.le_of_ble_eq_true rfl⟩ hl.1 rfl (Nat.le_of_ble_eq_true rfl) dX11_otherwise_43 ⟨Nat.le_of_ble_eq_true rfl, Nat.le_of_ble_eq_true rfl⟩ (fun r15 s15 H locs q15 h => ?_)
              obtain ⟨x15, rfl⟩ := q15
              replace hR7 := bd_to hR7 x15
              refine lv_aload_n hx hb dX11_otherwise_46 rfl (lv_at hl 2 rfl) ?_
              refine x_getR E h (fr_vh_shownHeap g) rfl hwX11 (by decide) (by decide +kernel) dX11_otherwise_47 ?_
              refine lv_iload_n hx hb dX11_otherwise_50 rfl (lv_at hl 0 rfl) ?_
              refine x_ldI E h (ia_vh_shownHeap g) (i := nI i7_2) (vp_in_nI (by omega) (by decide)) (v := s5.2.2 65 i7_2) (congrArg (s5.2.2 65) (nI_clamp (n := i7_2) (by omega))) dX11_otherwise_51 ?_
              replace hR7 := bd_to hR7 (congrArg (s5.2.2 65) (nI_clamp (n := i7_2) (by omega)))
              have j58_18 : ∀ (y18_l1 : Int32), fX11_otherwise_0b58 (fX11_otherwise_0l22 fu7) y18_l1 (nI i7_2) s5 = R → ∀ (H : Heap) (locs : List Loc) (ls : Array Slot), HW g s5 s H locs → lv_has ls 3 [(2, .int (nI i7_2)), (1, .int y18_l1), (0, .ref (g.2.1 0))] → W p l e { frames := 16, cells := 0, slots := 0, locals := 420 } s m args below meth c H locs 0 0 (MQ below PQz args s 0 0 (Aw g)) (F0 m 58 ls []) := by
                intro y18_l1 hR18 H locs ls h hl
                replace hR18 := bd_to hR18 (nI_add i7_2 1)
                refine lv_iinc (v := (nI (i7_2 + 1))) (lv' := [(2, .int (nI (i7_2 + 1))), (1, .int y18_l1), (0, .ref (g.2.1 0))]) hx hb dX11_otherwise_58 hl (k := 0) rfl (nI_add i7_2 1) (by decide) rfl (fun ls hl => ?_)
                refine lv_goto (tgt := 22) hx hb dX11_otherwise_61 (by decide) ?_
                exact ih7 (i7_2 + 1) y18_l1 (by omega) hR18 (by omega) _ _ _ h (lv_sub hl [0, 1, 2] rfl)
              refine lv_icmp_eq (tgt := 58) hx hb dX11_otherwise_52 (by decide) (fun c16 => ?_) (fun c16 => ?_)
              · skip
                replace hR7 := it_t hR7 c16
                exact j58_18 i7_1 hR7 _ _ _ h (lv_sub hl [0, 1, 2] rfl)
              · skip
                replace hR7 := it_f hR7 c16
                obtain ⟨z20, e20⟩ : ∃ y : Int32, y = i7_1 + 1 := ⟨_, rfl⟩
                replace hR7 := bd_to hR7 e20.symm
                refine lv_iinc (v := z20) (lv' := [(1, .int z20), (2, .int (nI i7_2)), (0, .ref (g.2.1 0))]) hx hb dX11_otherwise_55 hl (k := 1) rfl e20.symm (by decide) rfl (fun ls hl => ?_)
                exact j58_18 z20 hR7 _ _ _ h (lv_sub hl [1, 0, 2] rfl)
      exact loop22_7 4096 0 0 (Nat.zero_le _) hR (by omega) _ _ _ h (lv_sub hl [0, 1, 2] rfl)
    · skip
      replace hR := it_t hR (by decide)
      refine lv_if_ne (tgt := 18) hx hb dX11_otherwise_12 (by decide) (fun c => absurd (by decide) c) (fun _ => ?_)
      refine lv_bipush (v := (-2)) hx hb dX11_otherwise_15 (by decide) ?_
      subst hPQ
      exact x_iret E h ⟨hR0.trans hR.symm, hI5, hF5⟩ dX11_otherwise_17
set_option maxHeartbeats 4000000 in
set_option maxRecDepth 100000 in
theorem aX10_add_0 (l : Launch) (g : CX) (σ : ST) (hI : INV σ) (p1 : Int32) (p2 : Int32) : XM l g yX10_add wsX10_add { frames := 0, cells := 0, slots := 0, locals := 0 } [.ref (g.2.1 62), .int p1, .int p2] σ (XQi g (fun r σ' => fX10_add_0 p1 p2 σ = (r, σ') ∧ INV σ' ∧ Fr [(20, 20)] [(52, 53)] σ σ')) := by
  refine x_met (own := RX10) (cc := cX10_add) (maxL := 3) (ret := (some .int)) (lv := [(0, .ref (g.2.1 62)), (1, .int p1), (2, .int p2)]) (by decide) rfl rfl (Nat.le_of_ble_eq_true rfl) rfl ?_
  intro p e s m args below meth c ls E h hl
  have hx := E.1
  have hb := E.2.1
  have hown := E.2.2.2.1
  have hts := E.2.2.2.2.1
  have hF : Fr [(20, 20)] [(52, 53)] σ σ := Fr.refl σ
  obtain ⟨R, hR0⟩ : ∃ R, fX10_add_0 p1 p2 σ = R := ⟨_, rfl⟩
  have hR : fX10_add_0b0 p1 p2 σ = R := hR0
  have hwX10 : ∀ w ∈ wsX100, w ∈ wsX10_add := by decide +kernel
  generalize hPQ : XQi g (fun r σ' => fX10_add_0 p1 p2 σ = (r, σ') ∧ INV σ' ∧ Fr [(20, 20)] [(52, 53)] σ σ') = PQz
  refine lv_aload_n hx hb dX10_add_0 rfl (lv_at hl 0 rfl) ?_
  obtain ⟨n1, b1, e1⟩ := hI.1 20 12 rfl
  refine x_getI E h (fi_wb_words g) rfl hwX10 (by decide) (by decide +kernel) (v := nI n1) e1 dX10_add_1 ?_
  replace hR := bd_to hR e1
  refine lv_bipush (v := 12) hx hb dX10_add_4 (by decide) ?_
  refine lv_icmp_lt (tgt := 12) hx hb dX10_add_6 (by decide) (fun c2 => ?_) (fun c2 => ?_)
  · skip
    replace hR := it_t hR c2
    have b3 : n1 < 12 := y_lt (a := n1) (b := 12) (by omega) (by omega) c2
    refine lv_aload_n hx hb dX10_add_12 rfl (lv_at hl 0 rfl) ?_
    refine x_getR E h (fr_wb_from g) rfl hwX10 (by decide) (by decide +kernel) dX10_add_13 ?_
    refine lv_aload_n hx hb dX10_add_16 rfl (lv_at hl 0 rfl) ?_
    refine x_getI E h (fi_wb_words g) rfl hwX10 (by decide) (by decide +kernel) (v := nI n1) e1 dX10_add_17 ?_
    replace hR := bd_to hR e1
    refine lv_iload_n hx hb dX10_add_20 rfl (lv_at hl 1 rfl) ?_
    refine y_stI E h hI hF (ia_wb_from g) (i := nI n1) (vp_in_nI (by omega) (by decide)) (j := n1) (nI_clamp (by omega)) (ba_none rfl) rfl dX10_add_21 (fun s4 H locs q4 hI4 hF4 h => ?_)
    replace hR := st_to hR (nI_clamp (n := n1) (by omega)) q4
    have e5 : s4.1 20 = nI n1 := (congrArg (fun t : ST => t.1 20) q4).trans e1
    refine lv_aload_n hx hb dX10_add_22 rfl (lv_at hl 0 rfl) ?_
    refine x_getR E h (fr_wb_to g) rfl hwX10 (by decide) (by decide +kernel) dX10_add_23 ?_
    refine lv_aload_n hx hb dX10_add_26 rfl (lv_at hl 0 rfl) ?_
    refine x_getI E h (fi_wb_words g) rfl hwX10 (by decide) (by decide +kernel) (v := nI n1) e5 dX10_add_27 ?_
    replace hR := bd_to hR e5
    refine lv_iload_n hx hb dX10_add_30 rfl (lv_at hl 2 rfl) ?_
    refine y_stI E h hI4 hF4 (ia_wb_to g) (i := nI n1) (vp_in_nI (by omega) (by decide)) (j := n1) (nI_clamp (by omega)) (ba_none rfl) rfl dX10_add_31 (fun s6 H locs q6 hI6 hF6 h => ?_)
    replace hR := st_to hR (nI_clamp (n := n1) (by omega)) q6
    have e7 : s6.1 20 = nI n1 := (congrArg (fun t : ST => t.1 20) q6).trans e5
    refine lv_aload_n hx hb dX10_add_32 rfl (lv_at hl 0 rfl) ?_
    refine lv_dup hx hb dX10_add_33 rfl ?_
    refine x_getI E h (fi_wb_words g) rfl hwX10 (by decide) (by decide +kernel) (v := nI n1) e7 dX10_add_34 ?_
    replace hR := bd_to hR e7
    refine lv_iconst (v := 1) hx hb dX10_add_37 (by decide) ?_
    refine lv_iadd hx hb dX10_add_38 ?_
    refine x_topI (v2 := nI (n1 + 1)) (nI_add n1 1) ?_
    replace hR := bd_to hR (nI_add n1 1)
    refine y_putI E h hI6 hF6 (ty := .int) (v := nI (n1 + 1)) (fi_wb_words g) rfl hwX10 tyX10_ok nmX10 (by decide) (by decide +kernel) (by decide +kernel) (by decide +kernel) rfl rfl (ba_some rfl (Bd.mk (n := (n1 + 1)) (by omega))) rfl dX10_add_39 (fun s8 H locs q8 hI8 hF8 h => ?_)
    replace hR := bd_to hR q8.symm
    have e9 : s8.1 20 = nI (n1 + 1) := congrArg (fun t : ST => t.1 20) q8
    refine lv_aload_n hx hb dX10_add_42 rfl (lv_at hl 0 rfl) ?_
    refine x_getI E h (fi_wb_words g) rfl hwX10 (by decide) (by decide +kernel) (v := nI (n1 + 1)) e9 dX10_add_43 ?_
    replace hR := bd_to hR e9
    refine lv_iconst (v := 1) hx hb dX10_add_46 (by decide) ?_
    refine lv_isub hx hb dX10_add_47 ?_
    replace hR := bd_to hR rfl
    subst hPQ
    exact x_iret E h ⟨hR0.trans hR.symm, hI8, hF8⟩ dX10_add_48
  · skip
    replace hR := it_f hR c2
    have b10 : 12 ≤ n1 := y_nlt (a := n1) (b := 12) (by omega) (by omega) c2
    refine lv_bipush (v := (-3)) hx hb dX10_add_9 (by decide) ?_
    subst hPQ
    exact x_iret E h ⟨hR0.trans hR.symm, hI, hF⟩ dX10_add_11
set_option maxHeartbeats 4000000 in
set_option maxRecDepth 100000 in
theorem aX11_word_0 (l : Launch) (g : CX) (σ : ST) (hI : INV σ) (p1 : Int32) (p2 : Int32) : XM l g yX11_word wsX11_word { frames := 1, cells := 0, slots := 0, locals := 22 } [.ref (g.2.1 0), .int p1, .int p2] σ (XQi g (fun r σ' => fX11_word_0 p1 p2 σ = (r, σ') ∧ INV σ' ∧ Fr [(20, 20)] [(52, 53)] σ σ')) := by
  refine x_met (own := RX11) (cc := cX11_word) (maxL := 3) (ret := (some .int)) (lv := [(0, .ref (g.2.1 0)), (1, .int p1), (2, .int p2)]) (by decide) rfl rfl (Nat.le_of_ble_eq_true rfl) rfl ?_
  intro p e s m args below meth c ls E h hl
  have hx := E.1
  have hb := E.2.1
  have hown := E.2.2.2.1
  have hts := E.2.2.2.2.1
  have hF : Fr [(20, 20)] [(52, 53)] σ σ := Fr.refl σ
  obtain ⟨R, hR0⟩ : ∃ R, fX11_word_0 p1 p2 σ = R := ⟨_, rfl⟩
  have hR : fX11_word_0b0 p1 p2 σ = R := hR0
  have hwX11 : ∀ w ∈ wsX110, w ∈ wsX11_word := by decide +kernel
  generalize hPQ : XQi g (fun r σ' => fX11_word_0 p1 p2 σ = (r, σ') ∧ INV σ' ∧ Fr [(20, 20)] [(52, 53)] σ σ') = PQz
  refine lv_aload_n hx hb dX11_word_0 rfl (lv_at hl 0 rfl) ?_
  refine lv_iload_n hx hb dX11_word_1 rfl (lv_at hl 1 rfl) ?_
  refine lv_iload_n hx hb dX11_word_2 rfl (lv_at hl 2 rfl) ?_
  refine x_vi E h (na := 2) (As := [.int p1, .int p2]) (aX11_areRows_0 l g σ hI p1 p2) (oc_vh g) rfl gX11_word_X11_areRows rfl ⟨rfl, rfl⟩ rfl (by decide +kernel) ⟨Nat.le_of_ble_eq_true rfl, Nat.le_of_ble_eq_true rfl⟩ hl.1 rfl (Nat.le_of_ble_eq_true rfl) dX11_word_3 ⟨Nat.le_of_ble_eq_true rfl, Nat.le_of_ble_eq_true rfl⟩ (fun r1 s1 H locs q1 h => ?_)
  obtain ⟨x1, d1, rfl⟩ := q1
  replace hR := bd_to hR x1
  rcases d1 with ⟨rfl, m1_0f, m1_0t, m1_0R, u1_0_0, u1_0_1, u1_0_2, u1_0_3, rfl, rfl⟩ | rfl
  · skip
    replace hR := it_f hR (by decide)
    refine lv_if_eq (tgt := 21) hx hb dX11_word_6 (by decide) (fun c => absurd c (by decide)) (fun _ => ?_)
    refine lv_aload_n hx hb dX11_word_9 rfl (lv_at hl 0 rfl) ?_
    refine x_getR E h (fr_vh_wordBook g) rfl hwX11 (by decide) (by decide +kernel) dX11_word_10 ?_
    refine lv_iload_n hx hb dX11_word_13 rfl (lv_at hl 1 rfl) ?_
    refine lv_iload_n hx hb dX11_word_14 rfl (lv_at hl 2 rfl) ?_
    refine x_vi E h (na := 2) (As := [.int (nI m1_0f), .int (nI m1_0t)]) (aX10_add_0 l g σ hI (nI m1_0f) (nI m1_0t)) (oc_wb g) rfl gX11_word_X10_add rfl ⟨rfl, rfl⟩ rfl (by decide +kernel) ⟨Nat.le_of_ble_eq_true rfl, Nat.le_of_ble_eq_true rfl⟩ hl.1 rfl (Nat.le_of_ble_eq_true rfl) dX11_word_15 ⟨Nat.le_of_ble_eq_true rfl, Nat.le_of_ble_eq_true rfl⟩ (fun r2 s2 H locs q2 h => ?_)
    obtain ⟨x2, hI2, f2⟩ := q2
    replace hR := bp_to hR x2
    have hF2 := hF.call f2 (I := [(20, 20)]) (J := [(52, 53)]) rfl rfl
    have e3 : s2.1 2 = nI m1_0R := ((f2.1 2 rfl)).trans u1_0_0
    refine lv_goto (tgt := 22) hx hb dX11_word_18 (by decide) ?_
    subst hPQ
    exact x_iret E h ⟨hR0.trans hR.symm, hI2, hF2⟩ dX11_word_22
  · skip
    replace hR := it_t hR (by decide)
    refine lv_if_eq (tgt := 21) hx hb dX11_word_6 (by decide) (fun _ => ?_) (fun c => absurd (by decide) c)
    refine lv_iconst (v := (-1)) hx hb dX11_word_21 (by decide) ?_
    replace hR : fX11_word_0b22 (-1) σ = R := hR
    subst hPQ
    exact x_iret E h ⟨hR0.trans hR.symm, hI, hF⟩ dX11_word_22
set_option maxHeartbeats 4000000 in
set_option maxRecDepth 100000 in
theorem aX10_sharedRows_0 (l : Launch) (g : CX) (σ : ST) (hI : INV σ) (p2 : Nat) (p3 : Nat) (hh0 : p2 < 12) (hh1 : p3 < 48) : XM l g yX10_sharedRows wsX10_sharedRows { frames := 1, cells := 0, slots := 0, locals := 21 } [.ref (g.2.1 62), .ref (g.2.1 16), .int (nI p2), .int (nI p3)] σ (XQi g (fun r σ' => fX10_sharedRows_0 (nI p2) (nI p3) σ = r ∧ σ = σ')) := by
  refine x_met (own := RX10) (cc := cX10_sharedRows) (maxL := 6) (ret := (some .int)) (lv := [(0, .ref (g.2.1 62)), (1, .ref (g.2.1 16)), (2, .int (nI p2)), (3, .int (nI p3))]) (by decide) rfl rfl (Nat.le_of_ble_eq_true rfl) rfl ?_
  intro p e s m args below meth c ls E h hl
  have hx := E.1
  have hb := E.2.1
  have hown := E.2.2.2.1
  have hts := E.2.2.2.2.1
  obtain ⟨R, hR0⟩ : ∃ R, fX10_sharedRows_0 (nI p2) (nI p3) σ = R := ⟨_, rfl⟩
  have hR : fX10_sharedRows_0b0 (nI p2) (nI p3) σ = R := hR0
  have hwX10 : ∀ w ∈ wsX100, w ∈ wsX10_sharedRows := by decide +kernel
  have hwX2 : ∀ w ∈ wsX20, w ∈ wsX10_sharedRows := by decide +kernel
  generalize hPQ : XQi g (fun r σ' => fX10_sharedRows_0 (nI p2) (nI p3) σ = r ∧ σ = σ') = PQz
  refine lv_aload_n hx hb dX10_sharedRows_0 rfl (lv_at hl 0 rfl) ?_
  refine x_getR E h (fr_wb_from g) rfl hwX10 (by decide) (by decide +kernel) dX10_sharedRows_1 ?_
  refine lv_iload_n hx hb dX10_sharedRows_4 rfl (lv_at hl 2 rfl) ?_
  refine x_ldI E h (ia_wb_from g) (i := nI p2) (vp_in_nI (by omega) (by decide)) (v := σ.2.2 52 p2) (congrArg (σ.2.2 52) (nI_clamp (n := p2) (by omega))) dX10_sharedRows_5 ?_
  replace hR := bd_to hR (congrArg (σ.2.2 52) (nI_clamp (n := p2) (by omega)))
  refine lv_aload_n hx hb dX10_sharedRows_6 rfl (lv_at hl 1 rfl) ?_
  refine x_getRN E h (fr_cu_first g) rfl hwX2 (by decide) (by decide +kernel) dX10_sharedRows_7 ?_
  refine lv_iload_n hx hb dX10_sharedRows_10 rfl (lv_at hl 3 rfl) ?_
  refine x_ldI E h (ia_cu_first g) (i := nI p3) (vp_in_nI (by omega) (by decide)) (v := σ.2.2 12 p3) (congrArg (σ.2.2 12) (nI_clamp (n := p3) (by omega))) dX10_sharedRows_11 ?_
  replace hR := bd_to hR (congrArg (σ.2.2 12) (nI_clamp (n := p3) (by omega)))
  refine x_max E hl.1 (by decide +kernel) (by decide +kernel) (by decide +kernel) (by decide +kernel) ⟨Nat.le_of_ble_eq_true rfl, Nat.le_of_ble_eq_true rfl⟩ ⟨Nat.zero_le _, Nat.zero_le _⟩ dX10_sharedRows_12 ?_
  refine lv_topi (fun x1 e1 => ?_)
  replace hR := bd_to hR e1.symm
  refine lv_istore (lv' := [(4, .int x1), (0, .ref (g.2.1 62)), (1, .ref (g.2.1 16)), (2, .int (nI p2)), (3, .int (nI p3))]) hx hb dX10_sharedRows_15 hl (by decide) rfl (fun ls hl => ?_)
  refine lv_aload_n hx hb dX10_sharedRows_17 rfl (lv_at hl 1 rfl) ?_
  refine x_getR E h (fr_wb_to g) rfl hwX10 (by decide) (by decide +kernel) dX10_sharedRows_18 ?_
  refine lv_iload_n hx hb dX10_sharedRows_21 rfl (lv_at hl 3 rfl) ?_
  refine x_ldI E h (ia_wb_to g) (i := nI p2) (vp_in_nI (by omega) (by decide)) (v := σ.2.2 53 p2) (congrArg (σ.2.2 53) (nI_clamp (n := p2) (by omega))) dX10_sharedRows_22 ?_
  replace hR := bd_to hR (congrArg (σ.2.2 53) (nI_clamp (n := p2) (by omega)))
  refine lv_aload_n hx hb dX10_sharedRows_23 rfl (lv_at hl 2 rfl) ?_
  refine x_getRN E h (fr_cu_first g) rfl hwX2 (by decide) (by decide +kernel) dX10_sharedRows_24 ?_
  refine lv_iload_n hx hb dX10_sharedRows_27 rfl (lv_at hl 4 rfl) ?_
  refine x_ldI E h (ia_cu_first g) (i := nI p3) (vp_in_nI (by omega) (by decide)) (v := σ.2.2 12 p3) (congrArg (σ.2.2 12) (nI_clamp (n := p3) (by omega))) dX10_sharedRows_28 ?_
  replace hR := bd_to hR (congrArg (σ.2.2 12) (nI_clamp (n := p3) (by omega)))
  refine lv_aload_n hx hb dX10_sharedRows_29 rfl (lv_at hl 2 rfl) ?_
  refine x_getRN E h (fr_cu_size g) rfl hwX2 (by decide) (by decide +kernel) dX10_sharedRows_30 ?_
  refine lv_iload_n hx hb dX10_sharedRows_33 rfl (lv_at hl 4 rfl) ?_
  refine x_ldI E h (ia_cu_size g) (i := nI p3) (vp_in_nI (by omega) (by decide)) (v := σ.2.2 13 p3) (congrArg (σ.2.2 13) (nI_clamp (n := p3) (by omega))) dX10_sharedRows_34 ?_
  replace hR := bd_to hR (congrArg (σ.2.2 13) (nI_clamp (n := p3) (by omega)))
  refine lv_iadd hx hb dX10_sharedRows_35 ?_
  refine lv_topi (fun x2 e2 => ?_)
  replace hR := bd_to hR e2.symm
  refine lv_iconst (v := 1) hx hb dX10_sharedRows_36 (by decide) ?_
  refine lv_isub hx hb dX10_sharedRows_37 ?_
  refine lv_topi (fun x3 e3 => ?_)
  replace hR := bd_to hR e3.symm
  refine x_min E hl.1 (by decide +kernel) (by decide +kernel) (by decide +kernel) (by decide +kernel) ⟨Nat.le_of_ble_eq_true rfl, Nat.le_of_ble_eq_true rfl⟩ ⟨Nat.zero_le _, Nat.zero_le _⟩ dX10_sharedRows_38 ?_
  refine lv_topi (fun x4 e4 => ?_)
  replace hR := bd_to hR e4.symm
  refine lv_istore (lv' := [(5, .int x4), (4, .int x1), (0, .ref (g.2.1 62)), (1, .ref (g.2.1 16)), (2, .int (nI p2)), (3, .int (nI p3))]) hx hb dX10_sharedRows_41 hl (by decide) rfl (fun ls hl => ?_)
  refine lv_iconst (v := 0) hx hb dX10_sharedRows_43 (by decide) ?_
  refine lv_iload hx hb dX10_sharedRows_44 (lv_at hl 0 rfl) ?_
  refine lv_iload hx hb dX10_sharedRows_46 (lv_at hl 1 rfl) ?_
  refine lv_isub hx hb dX10_sharedRows_48 ?_
  refine lv_topi (fun x5 e5 => ?_)
  replace hR := bd_to hR e5.symm
  refine lv_iconst (v := 1) hx hb dX10_sharedRows_49 (by decide) ?_
  refine lv_iadd hx hb dX10_sharedRows_50 ?_
  refine lv_topi (fun x6 e6 => ?_)
  replace hR := bd_to hR e6.symm
  refine x_max E hl.1 (by decide +kernel) (by decide +kernel) (by decide +kernel) (by decide +kernel) ⟨Nat.le_of_ble_eq_true rfl, Nat.le_of_ble_eq_true rfl⟩ ⟨Nat.zero_le _, Nat.zero_le _⟩ dX10_sharedRows_51 ?_
  refine lv_topi (fun x7 e7 => ?_)
  replace hR := bd_to hR e7.symm
  subst hPQ
  exact x_iret E h ⟨hR0.trans hR.symm, rfl⟩ dX10_sharedRows_54
set_option maxHeartbeats 4000000 in
set_option maxRecDepth 100000 in
theorem aX10_piecesWithSome_0 (l : Launch) (g : CX) (σ : ST) (hI : INV σ) (p2 : Nat) (hh0 : p2 < 12) : XM l g yX10_piecesWithSome wsX10_piecesWithSome { frames := 2, cells := 0, slots := 0, locals := 46 } [.ref (g.2.1 62), .ref (g.2.1 16), .int (nI p2)] σ (XQi g (fun r σ' => fX10_piecesWithSome_0 (nI p2) σ = r ∧ σ = σ')) := by
  refine x_met (own := RX10) (cc := cX10_piecesWithSome) (maxL := 5) (ret := (some .int)) (lv := [(0, .ref (g.2.1 62)), (1, .ref (g.2.1 16)), (2, .int (nI p2))]) (by decide) rfl rfl (Nat.le_of_ble_eq_true rfl) rfl ?_
  intro p e s m args below meth c ls E h hl
  have hx := E.1
  have hb := E.2.1
  have hown := E.2.2.2.1
  have hts := E.2.2.2.2.1
  obtain ⟨R, hR0⟩ : ∃ R, fX10_piecesWithSome_0 (nI p2) σ = R := ⟨_, rfl⟩
  have hR : fX10_piecesWithSome_0b0 (nI p2) σ = R := hR0
  have hwX2 : ∀ w ∈ wsX20, w ∈ wsX10_piecesWithSome := by decide +kernel
  generalize hPQ : XQi g (fun r σ' => fX10_piecesWithSome_0 (nI p2) σ = r ∧ σ = σ') = PQz
  refine lv_iconst (v := 0) hx hb dX10_piecesWithSome_0 (by decide) ?_
  refine lv_istore_n (lv' := [(3, .int 0), (0, .ref (g.2.1 62)), (1, .ref (g.2.1 16)), (2, .int (nI p2))]) hx hb dX10_piecesWithSome_1 rfl hl (by decide) rfl (fun ls hl => ?_)
  refine lv_iconst (v := 0) hx hb dX10_piecesWithSome_2 (by decide) ?_
  refine lv_istore (lv' := [(4, .int 0), (3, .int 0), (0, .ref (g.2.1 62)), (1, .ref (g.2.1 16)), (2, .int (nI p2))]) hx hb dX10_piecesWithSome_3 hl (by decide) rfl (fun ls hl => ?_)
  obtain ⟨n2, b2, e2⟩ := hI.1 5 48 rfl
  have loop5_1 : ∀ (fu : Nat) (i1_4 : Nat) (i1_3 : Int32), i1_4 ≤ n2 → fX10_piecesWithSome_0l5 fu (nI p2) i1_3 (nI i1_4) σ = R → n2 - i1_4 < fu → ∀ (H : Heap) (locs : List Loc) (ls : Array Slot), HW g σ s H locs → lv_has ls 5 [(4, .int (nI i1_4)), (3, .int i1_3), (0, .ref (g.2.1 62)), (1, .ref (g.2.1 16)), (2, .int (nI p2))] → W p l e { frames := 2, cells := 0, slots := 0, locals := 46 } s m args below meth c H locs 0 0 (MQ below PQz args s 0 0 (Aw g)) (F0 m 5 ls []) := by
    intro fu1
    induction fu1 with
    | zero => intro i1_4 i1_3 bi1_4 hR1 hm; exact absurd hm (Nat.not_lt_zero _)
    | succ fu1 ih =>
      have ih1 := ih
      clear ih
      intro i1_4 i1_3 bi1_4 hR1 hm1 H locs ls h hl
      replace hR1 : fX10_piecesWithSome_0b5 (fX10_piecesWithSome_0l5 fu1) (nI p2) i1_3 (nI i1_4) σ = R := hR1
      refine lv_iload hx hb dX10_piecesWithSome_5 (lv_at hl 0 rfl) ?_
      refine lv_aload_n hx hb dX10_piecesWithSome_7 rfl (lv_at hl 3 rfl) ?_
      refine x_getIN E h (fi_cu_pieces g) rfl hwX2 (by decide) (by decide +kernel) (v := nI n2) e2 dX10_piecesWithSome_8 ?_
      replace hR1 := bd_to hR1 e2
      refine lv_icmp_ge (tgt := 39) hx hb dX10_piecesWithSome_11 (by decide) (fun c3 => ?_) (fun c3 => ?_)
      · skip
        replace hR1 := it_t hR1 c3
        have b4 : n2 ≤ i1_4 := y_le (a := n2) (b := i1_4) (by omega) (by omega) c3
        refine lv_iload_n hx hb dX10_piecesWithSome_39 rfl (lv_at hl 1 rfl) ?_
        subst hPQ
        exact x_iret E h ⟨hR0.trans hR1.symm, rfl⟩ dX10_piecesWithSome_40
      · skip
        replace hR1 := it_f hR1 c3
        have b5 : i1_4 < n2 := y_nle (a := n2) (b := i1_4) (by omega) (by omega) c3
        refine lv_iload_n hx hb dX10_piecesWithSome_14 rfl (lv_at hl 1 rfl) ?_
        refine lv_aload_n hx hb dX10_piecesWithSome_15 rfl (lv_at hl 2 rfl) ?_
        refine lv_aload_n hx hb dX10_piecesWithSome_16 rfl (lv_at hl 3 rfl) ?_
        refine lv_iload_n hx hb dX10_piecesWithSome_17 rfl (lv_at hl 4 rfl) ?_
        refine lv_iload hx hb dX10_piecesWithSome_18 (lv_at hl 0 rfl) ?_
        refine x_vi E h (na := 3) (As := [.ref (g.2.1 16), .int (nI p2), .int (nI i1_4)]) (aX10_sharedRows_0 l g σ hI p2 i1_4 (by omega) (by omega)) (oc_wb g) rfl gX10_piecesWithSome_X10_sharedRows rfl ⟨rfl, rfl⟩ rfl (by decide +kernel) ⟨Nat.le_of_ble_eq_true rfl, Nat.le_of_ble_eq_true rfl⟩ hl.1 rfl (Nat.le_of_ble_eq_true rfl) dX10_piecesWithSome_20 ⟨Nat.le_of_ble_eq_true rfl, Nat.le_of_ble_eq_true rfl⟩ (fun r6 s6 H locs q6 h => ?_)
        obtain ⟨x6, rfl⟩ := q6
        replace hR1 := bd_to hR1 x6
        have j31_9 : ∀ (y9_s0 : Int32), fX10_piecesWithSome_0b31 (fX10_piecesWithSome_0l5 fu1) (nI p2) (nI i1_4) y9_s0 i1_3 σ = R → ∀ (H : Heap) (locs : List Loc) (ls : Array Slot), HW g σ s H locs → lv_has ls 5 [(4, .int (nI i1_4)), (3, .int i1_3), (0, .ref (g.2.1 62)), (1, .ref (g.2.1 16)), (2, .int (nI p2))] → W p l e { frames := 2, cells := 0, slots := 0, locals := 46 } s m args below meth c H locs 0 0 (MQ below PQz args s 0 0 (Aw g)) (F0 m 31 ls [.int y9_s0, .int i1_3]) := by
          intro y9_s0 hR9 H locs ls h hl
          refine lv_iadd hx hb dX10_piecesWithSome_31 ?_
          refine lv_topi (fun x10 e10 => ?_)
          replace hR9 := bd_to hR9 e10.symm
          refine lv_istore_n (lv' := [(3, .int x10), (4, .int (nI i1_4)), (0, .ref (g.2.1 62)), (1, .ref (g.2.1 16)), (2, .int (nI p2))]) hx hb dX10_piecesWithSome_32 rfl hl (by decide) rfl (fun ls hl => ?_)
          replace hR9 := bd_to hR9 (nI_add i1_4 1)
          refine lv_iinc (v := (nI (i1_4 + 1))) (lv' := [(4, .int (nI (i1_4 + 1))), (3, .int x10), (0, .ref (g.2.1 62)), (1, .ref (g.2.1 16)), (2, .int (nI p2))]) hx hb dX10_piecesWithSome_33 hl (k := 1) rfl (nI_add i1_4 1) (by decide) rfl (fun ls hl => ?_)
          refine lv_goto (tgt := 5) hx hb dX10_piecesWithSome_36 (by decide) ?_
          exact ih1 (i1_4 + 1) x10 (by omega) hR9 (by omega) _ _ _ h (lv_sub hl [0, 1, 2, 3, 4] rfl)
        refine lv_if_le (tgt := 30) hx hb dX10_piecesWithSome_23 (by decide) (fun c7 => ?_) (fun c7 => ?_)
        · skip
          replace hR1 := it_t hR1 c7
          refine lv_iconst (v := 0) hx hb dX10_piecesWithSome_30 (by decide) ?_
          exact j31_9 0 hR1 _ _ _ h (lv_sub hl [0, 1, 2, 3, 4] rfl)
        · skip
          replace hR1 := it_f hR1 c7
          refine lv_iconst (v := 1) hx hb dX10_piecesWithSome_26 (by decide) ?_
          refine lv_goto (tgt := 31) hx hb dX10_piecesWithSome_27 (by decide) ?_
          exact j31_9 1 hR1 _ _ _ h (lv_sub hl [0, 1, 2, 3, 4] rfl)
  exact loop5_1 4096 0 0 (Nat.zero_le _) hR (by omega) _ _ _ h (lv_sub hl [0, 1, 2, 3, 4] rfl)
set_option maxHeartbeats 4000000 in
set_option maxRecDepth 100000 in
theorem aX10_pieceWithMost_0 (l : Launch) (g : CX) (σ : ST) (hI : INV σ) (p2 : Nat) (hh0 : p2 < 12) : XM l g yX10_pieceWithMost wsX10_pieceWithMost { frames := 2, cells := 0, slots := 0, locals := 46 } [.ref (g.2.1 62), .ref (g.2.1 16), .int (nI p2)] σ (XQi g (fun r σ' => fX10_pieceWithMost_0 (nI p2) σ = r ∧ σ = σ')) := by
  refine x_met (own := RX10) (cc := cX10_pieceWithMost) (maxL := 7) (ret := (some .int)) (lv := [(0, .ref (g.2.1 62)), (1, .ref (g.2.1 16)), (2, .int (nI p2))]) (by decide) rfl rfl (Nat.le_of_ble_eq_true rfl) rfl ?_
  intro p e s m args below meth c ls E h hl
  have hx := E.1
  have hb := E.2.1
  have hown := E.2.2.2.1
  have hts := E.2.2.2.2.1
  obtain ⟨R, hR0⟩ : ∃ R, fX10_pieceWithMost_0 (nI p2) σ = R := ⟨_, rfl⟩
  have hR : fX10_pieceWithMost_0b0 (nI p2) σ = R := hR0
  have hwX2 : ∀ w ∈ wsX20, w ∈ wsX10_pieceWithMost := by decide +kernel
  generalize hPQ : XQi g (fun r σ' => fX10_pieceWithMost_0 (nI p2) σ = r ∧ σ = σ') = PQz
  refine lv_bipush (v := (-9)) hx hb dX10_pieceWithMost_0 (by decide) ?_
  refine lv_istore_n (lv' := [(3, .int (-9)), (0, .ref (g.2.1 62)), (1, .ref (g.2.1 16)), (2, .int (nI p2))]) hx hb dX10_pieceWithMost_2 rfl hl (by decide) rfl (fun ls hl => ?_)
  refine lv_iconst (v := 0) hx hb dX10_pieceWithMost_3 (by decide) ?_
  refine lv_istore (lv' := [(4, .int 0), (3, .int (-9)), (0, .ref (g.2.1 62)), (1, .ref (g.2.1 16)), (2, .int (nI p2))]) hx hb dX10_pieceWithMost_4 hl (by decide) rfl (fun ls hl => ?_)
  refine lv_iconst (v := 0) hx hb dX10_pieceWithMost_6 (by decide) ?_
  refine lv_istore (lv' := [(5, .int 0), (4, .int 0), (3, .int (-9)), (0, .ref (g.2.1 62)), (1, .ref (g.2.1 16)), (2, .int (nI p2))]) hx hb dX10_pieceWithMost_7 hl (by decide) rfl (fun ls hl => ?_)
  obtain ⟨n2, b2, e2⟩ := hI.1 5 48 rfl
  have loop9_1 : ∀ (fu : Nat) (i1_5 : Nat) (i1_4 : Int32) (i1_3 : Int32), i1_5 ≤ n2 → fX10_pieceWithMost_0l9 fu (nI p2) i1_3 i1_4 (nI i1_5) σ = R → n2 - i1_5 < fu → ∀ (H : Heap) (locs : List Loc) (ls : Array Slot), HW g σ s H locs → lv_has ls 7 [(5, .int (nI i1_5)), (4, .int i1_4), (3, .int i1_3), (0, .ref (g.2.1 62)), (1, .ref (g.2.1 16)), (2, .int (nI p2))] → W p l e { frames := 2, cells := 0, slots := 0, locals := 46 } s m args below meth c H locs 0 0 (MQ below PQz args s 0 0 (Aw g)) (F0 m 9 ls []) := by
    intro fu1
    induction fu1 with
    | zero => intro i1_5 i1_4 i1_3 bi1_5 hR1 hm; exact absurd hm (Nat.not_lt_zero _)
    | succ fu1 ih =>
      have ih1 := ih
      clear ih
      intro i1_5 i1_4 i1_3 bi1_5 hR1 hm1 H locs ls h hl
      replace hR1 : fX10_pieceWithMost_0b9 (fX10_pieceWithMost_0l9 fu1) (nI p2) i1_3 i1_4 (nI i1_5) σ = R := hR1
      refine lv_iload hx hb dX10_pieceWithMost_9 (lv_at hl 0 rfl) ?_
      refine lv_aload_n hx hb dX10_pieceWithMost_11 rfl (lv_at hl 4 rfl) ?_
      refine x_getIN E h (fi_cu_pieces g) rfl hwX2 (by decide) (by decide +kernel) (v := nI n2) e2 dX10_pieceWithMost_12 ?_
      replace hR1 := bd_to hR1 e2
      refine lv_icmp_ge (tgt := 48) hx hb dX10_pieceWithMost_15 (by decide) (fun c3 => ?_) (fun c3 => ?_)
      · skip
        replace hR1 := it_t hR1 c3
        have b4 : n2 ≤ i1_5 := y_le (a := n2) (b := i1_5) (by omega) (by omega) c3
        refine lv_iload_n hx hb dX10_pieceWithMost_48 rfl (lv_at hl 2 rfl) ?_
        subst hPQ
        exact x_iret E h ⟨hR0.trans hR1.symm, rfl⟩ dX10_pieceWithMost_49
      · skip
        replace hR1 := it_f hR1 c3
        have b5 : i1_5 < n2 := y_nle (a := n2) (b := i1_5) (by omega) (by omega) c3
        refine lv_aload_n hx hb dX10_pieceWithMost_18 rfl (lv_at hl 3 rfl) ?_
        refine lv_aload_n hx hb dX10_pieceWithMost_19 rfl (lv_at hl 4 rfl) ?_
        refine lv_iload_n hx hb dX10_pieceWithMost_20 rfl (lv_at hl 5 rfl) ?_
        refine lv_iload hx hb dX10_pieceWithMost_21 (lv_at hl 0 rfl) ?_
        refine x_vi E h (na := 3) (As := [.ref (g.2.1 16), .int (nI p2), .int (nI i1_5)]) (aX10_sharedRows_0 l g σ hI p2 i1_5 (by omega) (by omega)) (oc_wb g) rfl gX10_pieceWithMost_X10_sharedRows rfl ⟨rfl, rfl⟩ rfl (by decide +kernel) ⟨Nat.le_of_ble_eq_true rfl, Nat.le_of_ble_eq_true rfl⟩ hl.1 rfl (Nat.le_of_ble_eq_true rfl) dX10_pieceWithMost_23 ⟨Nat.le_of_ble_eq_true rfl, Nat.le_of_ble_eq_true rfl⟩ (fun r6 s6 H locs q6 h => ?_)
        obtain ⟨x6, rfl⟩ := q6
        replace hR1 := bd_to hR1 x6
        refine lv_istore (lv' := [(6, .int r6), (5, .int (nI i1_5)), (4, .int i1_4), (3, .int i1_3), (0, .ref (g.2.1 62)), (1, .ref (g.2.1 16)), (2, .int (nI p2))]) hx hb dX10_pieceWithMost_26 hl (by decide) rfl (fun ls hl => ?_)
        refine lv_iload hx hb dX10_pieceWithMost_28 (lv_at hl 0 rfl) ?_
        refine lv_iload hx hb dX10_pieceWithMost_30 (lv_at hl 2 rfl) ?_
        have j42_9 : ∀ (y9_l4 : Int32) (y9_l3 : Int32), fX10_pieceWithMost_0b42 (fX10_pieceWithMost_0l9 fu1) (nI p2) y9_l3 y9_l4 (nI i1_5) σ = R → ∀ (H : Heap) (locs : List Loc) (ls : Array Slot), HW g σ s H locs → lv_has ls 7 [(6, .int r6), (5, .int (nI i1_5)), (4, .int y9_l4), (3, .int y9_l3), (0, .ref (g.2.1 62)), (1, .ref (g.2.1 16)), (2, .int (nI p2))] → W p l e { frames := 2, cells := 0, slots := 0, locals := 46 } s m args below meth c H locs 0 0 (MQ below PQz args s 0 0 (Aw g)) (F0 m 42 ls []) := by
          intro y9_l4 y9_l3 hR9 H locs ls h hl
          replace hR9 := bd_to hR9 (nI_add i1_5 1)
          refine lv_iinc (v := (nI (i1_5 + 1))) (lv' := [(5, .int (nI (i1_5 + 1))), (6, .int r6), (4, .int y9_l4), (3, .int y9_l3), (0, .ref (g.2.1 62)), (1, .ref (g.2.1 16)), (2, .int (nI p2))]) hx hb dX10_pieceWithMost_42 hl (k := 1) rfl (nI_add i1_5 1) (by decide) rfl (fun ls hl => ?_)
          refine lv_goto (tgt := 9) hx hb dX10_pieceWithMost_45 (by decide) ?_
          exact ih1 (i1_5 + 1) y9_l4 y9_l3 (by omega) hR9 (by omega) _ _ _ h (lv_sub hl [0, 2, 3, 4, 5, 6] rfl)
        refine lv_icmp_le (tgt := 42) hx hb dX10_pieceWithMost_32 (by decide) (fun c7 => ?_) (fun c7 => ?_)
        · skip
          replace hR1 := it_t hR1 c7
          exact j42_9 i1_4 i1_3 hR1 _ _ _ h (lv_sub hl [0, 1, 2, 3, 4, 5, 6] rfl)
        · skip
          replace hR1 := it_f hR1 c7
          refine lv_iload hx hb dX10_pieceWithMost_35 (lv_at hl 0 rfl) ?_
          refine lv_istore (lv' := [(4, .int r6), (6, .int r6), (5, .int (nI i1_5)), (3, .int i1_3), (0, .ref (g.2.1 62)), (1, .ref (g.2.1 16)), (2, .int (nI p2))]) hx hb dX10_pieceWithMost_37 hl (by decide) rfl (fun ls hl => ?_)
          refine lv_iload hx hb dX10_pieceWithMost_39 (lv_at hl 2 rfl) ?_
          refine lv_istore_n (lv' := [(3, .int (nI i1_5)), (4, .int r6), (6, .int r6), (5, .int (nI i1_5)), (0, .ref (g.2.1 62)), (1, .ref (g.2.1 16)), (2, .int (nI p2))]) hx hb dX10_pieceWithMost_41 rfl hl (by decide) rfl (fun ls hl => ?_)
          exact j42_9 r6 (nI i1_5) hR1 _ _ _ h (lv_sub hl [2, 3, 1, 0, 4, 5, 6] rfl)
  exact loop9_1 4096 0 0 (-9) (Nat.zero_le _) hR (by omega) _ _ _ h (lv_sub hl [0, 1, 2, 3, 4, 5] rfl)
set_option maxHeartbeats 4000000 in
set_option maxRecDepth 100000 in
theorem aX11_hung_0 (l : Launch) (g : CX) (σ : ST) (hI : INV σ) (p1 : Int32) (p2 : Int32) : XM l g yX11_hung wsX11_hung { frames := 5, cells := 0, slots := 0, locals := 121 } [.ref (g.2.1 0), .int p1, .int p2] σ (XQi g (fun r σ' => fX11_hung_0 p1 p2 σ = (r, σ') ∧ INV σ' ∧ Fr [(3, 8), (22, 22)] [(8, 19)] σ σ')) := by
  refine x_met (own := RX11) (cc := cX11_hung) (maxL := 3) (ret := (some .int)) (lv := [(0, .ref (g.2.1 0)), (1, .int p1), (2, .int p2)]) (by decide) rfl rfl (Nat.le_of_ble_eq_true rfl) rfl ?_
  intro p e s m args below meth c ls E h hl
  have hx := E.1
  have hb := E.2.1
  have hown := E.2.2.2.1
  have hts := E.2.2.2.2.1
  have hF : Fr [(3, 8), (22, 22)] [(8, 19)] σ σ := Fr.refl σ
  obtain ⟨R, hR0⟩ : ∃ R, fX11_hung_0 p1 p2 σ = R := ⟨_, rfl⟩
  have hR : fX11_hung_0b0 p1 p2 σ = R := hR0
  have hwX10 : ∀ w ∈ wsX100, w ∈ wsX11_hung := by decide +kernel
  have hwX11 : ∀ w ∈ wsX110, w ∈ wsX11_hung := by decide +kernel
  generalize hPQ : XQi g (fun r σ' => fX11_hung_0 p1 p2 σ = (r, σ') ∧ INV σ' ∧ Fr [(3, 8), (22, 22)] [(8, 19)] σ σ') = PQz
  refine lv_iload_n hx hb dX11_hung_0 rfl (lv_at hl 1 rfl) ?_
  refine lv_iconst (v := 0) hx hb dX11_hung_1 (by decide) ?_
  refine lv_aload_n hx hb dX11_hung_2 rfl (lv_at hl 0 rfl) ?_
  refine x_getR E h (fr_vh_wordBook g) rfl hwX11 (by decide) (by decide +kernel) dX11_hung_3 ?_
  obtain ⟨n1, b1, e1⟩ := hI.1 20 12 rfl
  refine x_getIN E h (fi_wb_words g) rfl hwX10 (by decide) (by decide +kernel) (v := nI n1) e1 dX11_hung_6 ?_
  replace hR := bd_to hR e1
  refine lv_iconst (v := 1) hx hb dX11_hung_9 (by decide) ?_
  refine lv_isub hx hb dX11_hung_10 ?_
  replace hR := bd_to hR rfl
  refine x_si E h (na := 3) (As := [.int p1, .int 0, .int (nI n1 - 1)]) (aX11_within_0 l g σ hI p1 0 (nI n1 - 1)) gX11_hung_X11_within rfl ⟨rfl, rfl⟩ rfl (by decide +kernel) ⟨Nat.le_of_ble_eq_true rfl, Nat.le_of_ble_eq_true rfl⟩ hl.1 rfl (Nat.le_of_ble_eq_true rfl) dX11_hung_11 ⟨Nat.le_of_ble_eq_true rfl, Nat.le_of_ble_eq_true rfl⟩ (fun r2 s2 H locs q2 h => ?_)
  obtain ⟨x2, d2, rfl⟩ := q2
  replace hR := bd_to hR x2
  rcases d2 with ⟨rfl, u2_0_0, u2_0_1⟩ | rfl
  · skip
    obtain ⟨n3, b3, rfl⟩ := y_rnltM (N := n1) (y_lo1 u2_0_0 (by decide)) u2_0_1 (by omega)
    have b4 : 0 ≤ n3 := y_nlt (a := n3) (b := 0) (by omega) (by omega) u2_0_0
    replace hR := it_f hR (by decide)
    refine lv_if_eq (tgt := 26) hx hb dX11_hung_14 (by decide) (fun c => absurd c (by decide)) (fun _ => ?_)
    refine lv_iload_n hx hb dX11_hung_17 rfl (lv_at hl 2 rfl) ?_
    refine lv_iconst (v := 0) hx hb dX11_hung_18 (by decide) ?_
    refine lv_iconst (v := 1) hx hb dX11_hung_19 (by decide) ?_
    refine x_si E h (na := 3) (As := [.int p2, .int 0, .int 1]) (aX11_within_0 l g σ hI p2 0 1) gX11_hung_X11_within rfl ⟨rfl, rfl⟩ rfl (by decide +kernel) ⟨Nat.le_of_ble_eq_true rfl, Nat.le_of_ble_eq_true rfl⟩ hl.1 rfl (Nat.le_of_ble_eq_true rfl) dX11_hung_20 ⟨Nat.le_of_ble_eq_true rfl, Nat.le_of_ble_eq_true rfl⟩ (fun r5 s5 H locs q5 h => ?_)
    obtain ⟨x5, d5, rfl⟩ := q5
    replace hR := bd_to hR x5
    rcases d5 with ⟨rfl, u5_0_0, u5_0_1⟩ | rfl
    · skip
      obtain ⟨n6, b6, rfl⟩ := y_rnlt (N := 1) (y_lo1 u5_0_0 (by decide)) u5_0_1 (by omega)
      have b7 : 0 ≤ n6 := y_nlt (a := n6) (b := 0) (by omega) (by omega) u5_0_0
      have b8 : n6 ≤ 1 := y_nlt (a := 1) (b := n6) (by omega) (by omega) u5_0_1
      replace hR := it_f hR (by decide)
      refine lv_if_ne (tgt := 28) hx hb dX11_hung_23 (by decide) (fun _ => ?_) (fun c => absurd c (by decide))
      refine lv_aload_n hx hb dX11_hung_28 rfl (lv_at hl 0 rfl) ?_
      refine x_vv E h (na := 0) (As := []) (aX11_cutNow_0 l g σ hI) (oc_vh g) rfl gX11_hung_X11_cutNow rfl ⟨rfl, rfl⟩ rfl (by decide +kernel) ⟨Nat.le_of_ble_eq_true rfl, Nat.le_of_ble_eq_true rfl⟩ hl.1 rfl (Nat.le_of_ble_eq_true rfl) dX11_hung_29 ⟨Nat.le_of_ble_eq_true rfl, Nat.le_of_ble_eq_true rfl⟩ (fun s9 H locs q9 h => ?_)
      obtain ⟨x9, d9, hI9, f9⟩ := q9
      replace hR := bd_to hR x9
      have hF9 := hF.call f9 (I := [(3, 8), (22, 22)]) (J := [(8, 19)]) rfl rfl
      have e10 : s9.1 20 = nI n1 := ((f9.1 20 rfl)).trans e1
      have u9_0_0 := d9
      refine lv_iload_n hx hb dX11_hung_32 rfl (lv_at hl 2 rfl) ?_
      refine lv_if_ne (tgt := 51) hx hb dX11_hung_33 (by decide) (fun c11 => ?_) (fun c11 => ?_)
      · skip
        replace hR := it_f hR c11
        have b12 : ¬ n6 = 0 := y_ne (a := n6) (b := 0) (by omega) (by omega) c11
        refine lv_aload_n hx hb dX11_hung_51 rfl (lv_at hl 0 rfl) ?_
        refine x_getR E h (fr_vh_wordBook g) rfl hwX11 (by decide) (by decide +kernel) dX11_hung_52 ?_
        refine lv_aload_n hx hb dX11_hung_55 rfl (lv_at hl 0 rfl) ?_
        refine x_getR E h (fr_vh_cutting g) rfl hwX11 (by decide) (by decide +kernel) dX11_hung_56 ?_
        refine lv_iload_n hx hb dX11_hung_59 rfl (lv_at hl 1 rfl) ?_
        refine x_vi E h (na := 2) (As := [.ref (g.2.1 16), .int (nI n3)]) (aX10_piecesWithSome_0 l g s9 hI9 n3 (by omega)) (oc_wb g) rfl gX11_hung_X10_piecesWithSome rfl ⟨rfl, rfl⟩ rfl (by decide +kernel) ⟨Nat.le_of_ble_eq_true rfl, Nat.le_of_ble_eq_true rfl⟩ hl.1 rfl (Nat.le_of_ble_eq_true rfl) dX11_hung_60 ⟨Nat.le_of_ble_eq_true rfl, Nat.le_of_ble_eq_true rfl⟩ (fun r13 s13 H locs q13 h => ?_)
        obtain ⟨x13, rfl⟩ := q13
        replace hR := bd_to hR x13
        subst hPQ
        exact x_iret E h ⟨hR0.trans hR.symm, hI9, hF9⟩ dX11_hung_63
      · skip
        replace hR := it_t hR c11
        have b14 : n6 = 0 := y_eq (a := n6) (b := 0) (by omega) (by omega) c11
        refine lv_aload_n hx hb dX11_hung_36 rfl (lv_at hl 0 rfl) ?_
        refine x_getR E h (fr_vh_wordBook g) rfl hwX11 (by decide) (by decide +kernel) dX11_hung_37 ?_
        refine lv_aload_n hx hb dX11_hung_40 rfl (lv_at hl 0 rfl) ?_
        refine x_getR E h (fr_vh_cutting g) rfl hwX11 (by decide) (by decide +kernel) dX11_hung_41 ?_
        refine lv_iload_n hx hb dX11_hung_44 rfl (lv_at hl 1 rfl) ?_
        refine x_vi E h (na := 2) (As := [.ref (g.2.1 16), .int (nI n3)]) (aX10_pieceWithMost_0 l g s9 hI9 n3 (by omega)) (oc_wb g) rfl gX11_hung_X10_pieceWithMost rfl ⟨rfl, rfl⟩ rfl (by decide +kernel) ⟨Nat.le_of_ble_eq_true rfl, Nat.le_of_ble_eq_true rfl⟩ hl.1 rfl (Nat.le_of_ble_eq_true rfl) dX11_hung_45 ⟨Nat.le_of_ble_eq_true rfl, Nat.le_of_ble_eq_true rfl⟩ (fun r15 s15 H locs q15 h => ?_)
        obtain ⟨x15, rfl⟩ := q15
        replace hR := bd_to hR x15
        refine lv_goto (tgt := 63) hx hb dX11_hung_48 (by decide) ?_
        subst hPQ
        exact x_iret E h ⟨hR0.trans hR.symm, hI9, hF9⟩ dX11_hung_63
    · skip
      replace hR := it_t hR (by decide)
      refine lv_if_ne (tgt := 28) hx hb dX11_hung_23 (by decide) (fun c => absurd (by decide) c) (fun _ => ?_)
      refine lv_iconst (v := (-1)) hx hb dX11_hung_26 (by decide) ?_
      subst hPQ
      exact x_iret E h ⟨hR0.trans hR.symm, hI, hF⟩ dX11_hung_27
  · skip
    replace hR := it_t hR (by decide)
    refine lv_if_eq (tgt := 26) hx hb dX11_hung_14 (by decide) (fun _ => ?_) (fun c => absurd (by decide) c)
    refine lv_iconst (v := (-1)) hx hb dX11_hung_26 (by decide) ?_
    subst hPQ
    exact x_iret E h ⟨hR0.trans hR.symm, hI, hF⟩ dX11_hung_27
set_option maxHeartbeats 4000000 in
set_option maxRecDepth 100000 in
theorem aX7_setTruth_0 (l : Launch) (g : CX) (σ : ST) (hI : INV σ) (p1 : Nat) (p2 : Nat) (p3 : Int32) (hh0 : p1 ≤ p2) (hh1 : p2 < 48) : XM l g yX7_setTruth wsX7_setTruth { frames := 1, cells := 0, slots := 0, locals := 21 } [.ref (g.2.1 5), .int (nI p1), .int (nI p2), .int p3] σ (XQi g (fun r σ' => fX7_setTruth_0 (nI p1) (nI p2) p3 σ = (r, σ') ∧ INV σ' ∧ Fr [] [(6, 6)] σ σ')) := by
  refine x_met (own := RX7) (cc := cX7_setTruth) (maxL := 6) (ret := (some .int)) (lv := [(0, .ref (g.2.1 5)), (1, .int (nI p1)), (2, .int (nI p2)), (3, .int p3)]) (by decide) rfl rfl (Nat.le_of_ble_eq_true rfl) rfl ?_
  intro p e s m args below meth c ls E h hl
  have hx := E.1
  have hb := E.2.1
  have hown := E.2.2.2.1
  have hts := E.2.2.2.2.1
  have hF : Fr [] [(6, 6)] σ σ := Fr.refl σ
  obtain ⟨R, hR0⟩ : ∃ R, fX7_setTruth_0 (nI p1) (nI p2) p3 σ = R := ⟨_, rfl⟩
  have hR : fX7_setTruth_0b0 (nI p1) (nI p2) p3 σ = R := hR0
  have hwX7 : ∀ w ∈ wsX70, w ∈ wsX7_setTruth := by decide +kernel
  generalize hPQ : XQi g (fun r σ' => fX7_setTruth_0 (nI p1) (nI p2) p3 σ = (r, σ') ∧ INV σ' ∧ Fr [] [(6, 6)] σ σ') = PQz
  refine lv_iconst (v := 0) hx hb dX7_setTruth_0 (by decide) ?_
  refine lv_istore (lv' := [(4, .int 0), (0, .ref (g.2.1 5)), (1, .int (nI p1)), (2, .int (nI p2)), (3, .int p3)]) hx hb dX7_setTruth_1 hl (by decide) rfl (fun ls hl => ?_)
  refine lv_iload_n hx hb dX7_setTruth_3 rfl (lv_at hl 2 rfl) ?_
  refine lv_iconst (v := 0) hx hb dX7_setTruth_4 (by decide) ?_
  refine x_max E hl.1 (by decide +kernel) (by decide +kernel) (by decide +kernel) (by decide +kernel) ⟨Nat.le_of_ble_eq_true rfl, Nat.le_of_ble_eq_true rfl⟩ ⟨Nat.zero_le _, Nat.zero_le _⟩ dX7_setTruth_5 ?_
  obtain ⟨n1, b1, e1⟩ := y_max (a := p1) (b := 0) (by omega) (by omega)
  refine x_topI (v2 := nI n1) e1 ?_
  replace hR := bd_to hR e1
  refine lv_istore (lv' := [(5, .int (nI n1)), (4, .int 0), (0, .ref (g.2.1 5)), (1, .int (nI p1)), (2, .int (nI p2)), (3, .int p3)]) hx hb dX7_setTruth_8 hl (by decide) rfl (fun ls hl => ?_)
  have loop10_2 : ∀ (fu : Nat) (t2 : ST) (i2_5 : Nat) (i2_4 : Int32), INV t2 → Fr [] [(6, 6)] σ t2 → i2_5 ≤ 49 → fX7_setTruth_0l10 fu (nI p2) p3 i2_4 (nI i2_5) t2 = R → 49 - i2_5 < fu → ∀ (H : Heap) (locs : List Loc) (ls : Array Slot), HW g t2 s H locs → lv_has ls 6 [(5, .int (nI i2_5)), (4, .int i2_4), (0, .ref (g.2.1 5)), (1, .int (nI p1)), (2, .int (nI p2)), (3, .int p3)] → W p l e { frames := 1, cells := 0, slots := 0, locals := 21 } s m args below meth c H locs 0 0 (MQ below PQz args s 0 0 (Aw g)) (F0 m 10 ls []) := by
    intro fu2
    induction fu2 with
    | zero => intro t2 i2_5 i2_4 hI_2 hF_2 bi2_5 hR2 hm; exact absurd hm (Nat.not_lt_zero _)
    | succ fu2 ih =>
      have ih2 := ih
      clear ih
      intro t2 i2_5 i2_4 hI_2 hF_2 bi2_5 hR2 hm2 H locs ls h hl
      replace hR2 : fX7_setTruth_0b10 (fX7_setTruth_0l10 fu2) (nI p2) p3 i2_4 (nI i2_5) t2 = R := hR2
      refine lv_iload hx hb dX7_setTruth_10 (lv_at hl 0 rfl) ?_
      refine lv_iload_n hx hb dX7_setTruth_12 rfl (lv_at hl 4 rfl) ?_
      refine lv_icmp_gt (tgt := 53) hx hb dX7_setTruth_13 (by decide) (fun c3 => ?_) (fun c3 => ?_)
      · skip
        replace hR2 := it_t hR2 c3
        have b4 : p2 < i2_5 := y_lt (a := p2) (b := i2_5) (by omega) (by omega) c3
        refine lv_iload hx hb dX7_setTruth_53 (lv_at hl 1 rfl) ?_
        subst hPQ
        exact x_iret E h ⟨hR0.trans hR2.symm, hI_2, hF_2⟩ dX7_setTruth_55
      · skip
        replace hR2 := it_f hR2 c3
        have b5 : i2_5 ≤ p2 := y_nlt (a := p2) (b := i2_5) (by omega) (by omega) c3
        refine lv_iload hx hb dX7_setTruth_16 (lv_at hl 0 rfl) ?_
        refine lv_aload_n hx hb dX7_setTruth_18 rfl (lv_at hl 2 rfl) ?_
        obtain ⟨n6, b6, e6⟩ := hI_2.1 2 48 rfl
        refine x_getI E h (fi_bk_rows g) rfl hwX7 (by decide) (by decide +kernel) (v := nI n6) e6 dX7_setTruth_19 ?_
        replace hR2 := bd_to hR2 e6
        refine lv_icmp_ge (tgt := 53) hx hb dX7_setTruth_22 (by decide) (fun c7 => ?_) (fun c7 => ?_)
        · skip
          replace hR2 := it_t hR2 c7
          have b8 : n6 ≤ i2_5 := y_le (a := n6) (b := i2_5) (by omega) (by omega) c7
          refine lv_iload hx hb dX7_setTruth_53 (lv_at hl 1 rfl) ?_
          subst hPQ
          exact x_iret E h ⟨hR0.trans hR2.symm, hI_2, hF_2⟩ dX7_setTruth_55
        · skip
          replace hR2 := it_f hR2 c7
          have b9 : i2_5 < n6 := y_nle (a := n6) (b := i2_5) (by omega) (by omega) c7
          refine lv_aload_n hx hb dX7_setTruth_25 rfl (lv_at hl 2 rfl) ?_
          refine x_getR E h (fr_bk_truthOf g) rfl hwX7 (by decide) (by decide +kernel) dX7_setTruth_26 ?_
          refine lv_iload hx hb dX7_setTruth_29 (lv_at hl 0 rfl) ?_
          refine x_ldI E h (ia_bk_truthOf g) (i := nI i2_5) (vp_in_nI (by omega) (by decide)) (v := t2.2.2 6 i2_5) (congrArg (t2.2.2 6) (nI_clamp (n := i2_5) (by omega))) dX7_setTruth_31 ?_
          replace hR2 := bd_to hR2 (congrArg (t2.2.2 6) (nI_clamp (n := i2_5) (by omega)))
          refine lv_iload_n hx hb dX7_setTruth_32 rfl (lv_at hl 5 rfl) ?_
          have j47_12 : ∀ (t12 : ST) (y12_l4 : Int32), INV t12 → Fr [] [(6, 6)] σ t12 → t12.1 2 = nI n6 → fX7_setTruth_0b47 (fX7_setTruth_0l10 fu2) (nI p2) p3 y12_l4 (nI i2_5) t12 = R → ∀ (H : Heap) (locs : List Loc) (ls : Array Slot), HW g t12 s H locs → lv_has ls 6 [(5, .int (nI i2_5)), (4, .int y12_l4), (0, .ref (g.2.1 5)), (1, .int (nI p1)), (2, .int (nI p2)), (3, .int p3)] → W p l e { frames := 1, cells := 0, slots := 0, locals := 21 } s m args below meth c H locs 0 0 (MQ below PQz args s 0 0 (Aw g)) (F0 m 47 ls []) := by
            intro t12 y12_l4 hI_12 hF_12 e13 hR12 H locs ls h hl
            replace hR12 := bd_to hR12 (nI_add i2_5 1)
            refine lv_iinc (v := (nI (i2_5 + 1))) (lv' := [(5, .int (nI (i2_5 + 1))), (4, .int y12_l4), (0, .ref (g.2.1 5)), (1, .int (nI p1)), (2, .int (nI p2)), (3, .int p3)]) hx hb dX7_setTruth_47 hl (k := 0) rfl (nI_add i2_5 1) (by decide) rfl (fun ls hl => ?_)
            refine lv_goto (tgt := 10) hx hb dX7_setTruth_50 (by decide) ?_
            exact ih2 t12 (i2_5 + 1) y12_l4 hI_12 hF_12 (by omega) hR12 (by omega) _ _ _ h (lv_sub hl [0, 1, 2, 3, 4, 5] rfl)
          refine lv_icmp_eq (tgt := 47) hx hb dX7_setTruth_33 (by decide) (fun c10 => ?_) (fun c10 => ?_)
          · skip
            replace hR2 := it_t hR2 c10
            exact j47_12 t2 i2_4 hI_2 hF_2 e6 hR2 _ _ _ h (lv_sub hl [0, 1, 2, 3, 4, 5] rfl)
          · skip
            replace hR2 := it_f hR2 c10
            refine lv_aload_n hx hb dX7_setTruth_36 rfl (lv_at hl 2 rfl) ?_
            refine x_getR E h (fr_bk_truthOf g) rfl hwX7 (by decide) (by decide +kernel) dX7_setTruth_37 ?_
            refine lv_iload hx hb dX7_setTruth_40 (lv_at hl 0 rfl) ?_
            refine lv_iload_n hx hb dX7_setTruth_42 rfl (lv_at hl 5 rfl) ?_
            refine y_stI E h hI_2 hF_2 (ia_bk_truthOf g) (i := nI i2_5) (vp_in_nI (by omega) (by decide)) (j := i2_5) (nI_clamp (by omega)) (ba_none rfl) rfl dX7_setTruth_43 (fun s15 H locs q15 hI15 hF15 h => ?_)
            replace hR2 := st_to hR2 (nI_clamp (n := i2_5) (by omega)) q15
            have e16 : s15.1 2 = nI n6 := (congrArg (fun t : ST => t.1 2) q15).trans e6
            obtain ⟨z17, e17⟩ : ∃ y : Int32, y = i2_4 + 1 := ⟨_, rfl⟩
            replace hR2 := bd_to hR2 e17.symm
            refine lv_iinc (v := z17) (lv' := [(4, .int z17), (5, .int (nI i2_5)), (0, .ref (g.2.1 5)), (1, .int (nI p1)), (2, .int (nI p2)), (3, .int p3)]) hx hb dX7_setTruth_44 hl (k := 1) rfl e17.symm (by decide) rfl (fun ls hl => ?_)
            exact j47_12 s15 z17 hI15 hF15 e16 hR2 _ _ _ h (lv_sub hl [1, 0, 2, 3, 4, 5] rfl)
  exact loop10_2 4096 σ n1 0 hI hF (by omega) hR (by omega) _ _ _ h (lv_sub hl [0, 1, 2, 3, 4, 5] rfl)
set_option maxHeartbeats 4000000 in
set_option maxRecDepth 100000 in
theorem aX11_truth_0 (l : Launch) (g : CX) (σ : ST) (hI : INV σ) (p1 : Int32) (p2 : Int32) (p3 : Int32) : XM l g yX11_truth wsX11_truth { frames := 2, cells := 0, slots := 0, locals := 46 } [.ref (g.2.1 0), .int p1, .int p2, .int p3] σ (XQi g (fun r σ' => fX11_truth_0 p1 p2 p3 σ = (r, σ') ∧ INV σ' ∧ Fr [] [(6, 6)] σ σ')) := by
  refine x_met (own := RX11) (cc := cX11_truth) (maxL := 4) (ret := (some .int)) (lv := [(0, .ref (g.2.1 0)), (1, .int p1), (2, .int p2), (3, .int p3)]) (by decide) rfl rfl (Nat.le_of_ble_eq_true rfl) rfl ?_
  intro p e s m args below meth c ls E h hl
  have hx := E.1
  have hb := E.2.1
  have hown := E.2.2.2.1
  have hts := E.2.2.2.2.1
  have hF : Fr [] [(6, 6)] σ σ := Fr.refl σ
  obtain ⟨R, hR0⟩ : ∃ R, fX11_truth_0 p1 p2 p3 σ = R := ⟨_, rfl⟩
  have hR : fX11_truth_0b0 p1 p2 p3 σ = R := hR0
  have hwX11 : ∀ w ∈ wsX110, w ∈ wsX11_truth := by decide +kernel
  generalize hPQ : XQi g (fun r σ' => fX11_truth_0 p1 p2 p3 σ = (r, σ') ∧ INV σ' ∧ Fr [] [(6, 6)] σ σ') = PQz
  refine lv_aload_n hx hb dX11_truth_0 rfl (lv_at hl 0 rfl) ?_
  refine lv_iload_n hx hb dX11_truth_1 rfl (lv_at hl 1 rfl) ?_
  refine lv_iload_n hx hb dX11_truth_2 rfl (lv_at hl 2 rfl) ?_
  refine x_vi E h (na := 2) (As := [.int p1, .int p2]) (aX11_areRows_0 l g σ hI p1 p2) (oc_vh g) rfl gX11_truth_X11_areRows rfl ⟨rfl, rfl⟩ rfl (by decide +kernel) ⟨Nat.le_of_ble_eq_true rfl, Nat.le_of_ble_eq_true rfl⟩ hl.1 rfl (Nat.le_of_ble_eq_true rfl) dX11_truth_3 ⟨Nat.le_of_ble_eq_true rfl, Nat.le_of_ble_eq_true rfl⟩ (fun r1 s1 H locs q1 h => ?_)
  obtain ⟨x1, d1, rfl⟩ := q1
  replace hR := bd_to hR x1
  rcases d1 with ⟨rfl, m1_0f, m1_0t, m1_0R, u1_0_0, u1_0_1, u1_0_2, u1_0_3, rfl, rfl⟩ | rfl
  · skip
    replace hR := it_f hR (by decide)
    refine lv_if_eq (tgt := 31) hx hb dX11_truth_6 (by decide) (fun c => absurd c (by decide)) (fun _ => ?_)
    refine lv_iload_n hx hb dX11_truth_9 rfl (lv_at hl 3 rfl) ?_
    refine lv_iconst (v := 0) hx hb dX11_truth_10 (by decide) ?_
    refine lv_iconst (v := 5) hx hb dX11_truth_11 (by decide) ?_
    refine x_si E h (na := 3) (As := [.int p3, .int 0, .int 5]) (aX11_within_0 l g σ hI p3 0 5) gX11_truth_X11_within rfl ⟨rfl, rfl⟩ rfl (by decide +kernel) ⟨Nat.le_of_ble_eq_true rfl, Nat.le_of_ble_eq_true rfl⟩ hl.1 rfl (Nat.le_of_ble_eq_true rfl) dX11_truth_12 ⟨Nat.le_of_ble_eq_true rfl, Nat.le_of_ble_eq_true rfl⟩ (fun r2 s2 H locs q2 h => ?_)
    obtain ⟨x2, d2, rfl⟩ := q2
    replace hR := bd_to hR x2
    rcases d2 with ⟨rfl, u2_0_0, u2_0_1⟩ | rfl
    · skip
      obtain ⟨n3, b3, rfl⟩ := y_rnlt (N := 5) (y_lo1 u2_0_0 (by decide)) u2_0_1 (by omega)
      have b4 : 0 ≤ n3 := y_nlt (a := n3) (b := 0) (by omega) (by omega) u2_0_0
      have b5 : n3 ≤ 5 := y_nlt (a := 5) (b := n3) (by omega) (by omega) u2_0_1
      replace hR := it_f hR (by decide)
      refine lv_if_eq (tgt := 31) hx hb dX11_truth_15 (by decide) (fun c => absurd c (by decide)) (fun _ => ?_)
      refine lv_aload_n hx hb dX11_truth_18 rfl (lv_at hl 0 rfl) ?_
      refine x_getR E h (fr_vh_book g) rfl hwX11 (by decide) (by decide +kernel) dX11_truth_19 ?_
      refine lv_iload_n hx hb dX11_truth_22 rfl (lv_at hl 1 rfl) ?_
      refine lv_iload_n hx hb dX11_truth_23 rfl (lv_at hl 2 rfl) ?_
      refine lv_iload_n hx hb dX11_truth_24 rfl (lv_at hl 3 rfl) ?_
      refine x_vi E h (na := 3) (As := [.int (nI m1_0f), .int (nI m1_0t), .int (nI n3)]) (aX7_setTruth_0 l g σ hI m1_0f m1_0t (nI n3) (by omega) (by omega)) (oc_bk g) rfl gX11_truth_X7_setTruth rfl ⟨rfl, rfl⟩ rfl (by decide +kernel) ⟨Nat.le_of_ble_eq_true rfl, Nat.le_of_ble_eq_true rfl⟩ hl.1 rfl (Nat.le_of_ble_eq_true rfl) dX11_truth_25 ⟨Nat.le_of_ble_eq_true rfl, Nat.le_of_ble_eq_true rfl⟩ (fun r6 s6 H locs q6 h => ?_)
      obtain ⟨x6, hI6, f6⟩ := q6
      replace hR := bp_to hR x6
      have hF6 := hF.call f6 (I := []) (J := [(6, 6)]) rfl rfl
      have e7 : s6.1 2 = nI m1_0R := ((f6.1 2 rfl)).trans u1_0_0
      refine lv_goto (tgt := 32) hx hb dX11_truth_28 (by decide) ?_
      subst hPQ
      exact x_iret E h ⟨hR0.trans hR.symm, hI6, hF6⟩ dX11_truth_32
    · skip
      replace hR := it_t hR (by decide)
      refine lv_if_eq (tgt := 31) hx hb dX11_truth_15 (by decide) (fun _ => ?_) (fun c => absurd (by decide) c)
      refine lv_iconst (v := (-1)) hx hb dX11_truth_31 (by decide) ?_
      replace hR : fX11_truth_0b32 (-1) σ = R := hR
      subst hPQ
      exact x_iret E h ⟨hR0.trans hR.symm, hI, hF⟩ dX11_truth_32
  · skip
    replace hR := it_t hR (by decide)
    refine lv_if_eq (tgt := 31) hx hb dX11_truth_6 (by decide) (fun _ => ?_) (fun c => absurd (by decide) c)
    refine lv_iconst (v := (-1)) hx hb dX11_truth_31 (by decide) ?_
    replace hR : fX11_truth_0b32 (-1) σ = R := hR
    subst hPQ
    exact x_iret E h ⟨hR0.trans hR.symm, hI, hF⟩ dX11_truth_32
set_option maxHeartbeats 4000000 in
set_option maxRecDepth 100000 in
theorem aX9_countTogether_0 (l : Launch) (g : CX) (σ : ST) (hI : INV σ)  : XM l g yX9_countTogether wsX9_countTogether { frames := 1, cells := 0, slots := 0, locals := 23 } [.ref (g.2.1 65), .ref (g.2.1 5), .ref (g.2.1 16), .ref (g.2.1 48)] σ (XQi g (fun r σ' => fX9_countTogether_0 σ = (r, σ') ∧ INV σ' ∧ Fr [] [(55, 63)] σ σ')) := by
  refine x_met (own := RX9) (cc := cX9_countTogether) (maxL := 8) (ret := (some .int)) (lv := [(0, .ref (g.2.1 65)), (1, .ref (g.2.1 5)), (2, .ref (g.2.1 16)), (3, .ref (g.2.1 48))]) (by decide) rfl rfl (Nat.le_of_ble_eq_true rfl) rfl ?_
  intro p e s m args below meth c ls E h hl
  have hx := E.1
  have hb := E.2.1
  have hown := E.2.2.2.1
  have hts := E.2.2.2.2.1
  have hF : Fr [] [(55, 63)] σ σ := Fr.refl σ
  obtain ⟨R, hR0⟩ : ∃ R, fX9_countTogether_0 σ = R := ⟨_, rfl⟩
  have hR : fX9_countTogether_0b0 σ = R := hR0
  have hwX2 : ∀ w ∈ wsX20, w ∈ wsX9_countTogether := by decide +kernel
  have hwX4 : ∀ w ∈ wsX40, w ∈ wsX9_countTogether := by decide +kernel
  have hwX7 : ∀ w ∈ wsX70, w ∈ wsX9_countTogether := by decide +kernel
  have hwX9 : ∀ w ∈ wsX90, w ∈ wsX9_countTogether := by decide +kernel
  generalize hPQ : XQi g (fun r σ' => fX9_countTogether_0 σ = (r, σ') ∧ INV σ' ∧ Fr [] [(55, 63)] σ σ') = PQz
  refine lv_iconst (v := 0) hx hb dX9_countTogether_0 (by decide) ?_
  refine lv_istore (lv' := [(4, .int 0), (0, .ref (g.2.1 65)), (1, .ref (g.2.1 5)), (2, .ref (g.2.1 16)), (3, .ref (g.2.1 48))]) hx hb dX9_countTogether_1 hl (by decide) rfl (fun ls hl => ?_)
  have loop3_1 : ∀ (fu : Nat) (t1 : ST) (i1_4 : Nat), INV t1 → Fr [] [(55, 63)] σ t1 → i1_4 ≤ 9 → fX9_countTogether_0l3 fu (nI i1_4) t1 = R → 9 - i1_4 < fu → ∀ (H : Heap) (locs : List Loc) (ls : Array Slot), HW g t1 s H locs → lv_has ls 8 [(4, .int (nI i1_4)), (0, .ref (g.2.1 65)), (1, .ref (g.2.1 5)), (2, .ref (g.2.1 16)), (3, .ref (g.2.1 48))] → W p l e { frames := 1, cells := 0, slots := 0, locals := 23 } s m args below meth c H locs 0 0 (MQ below PQz args s 0 0 (Aw g)) (F0 m 3 ls []) := by
    intro fu1
    induction fu1 with
    | zero => intro t1 i1_4 hI_1 hF_1 bi1_4 hR1 hm; exact absurd hm (Nat.not_lt_zero _)
    | succ fu1 ih =>
      have ih1 := ih
      clear ih
      intro t1 i1_4 hI_1 hF_1 bi1_4 hR1 hm1 H locs ls h hl
      replace hR1 : fX9_countTogether_0b3 (fX9_countTogether_0l3 fu1) (nI i1_4) t1 = R := hR1
      refine lv_iload hx hb dX9_countTogether_3 (lv_at hl 0 rfl) ?_
      refine lv_bipush (v := 9) hx hb dX9_countTogether_5 (by decide) ?_
      refine lv_icmp_ge (tgt := 27) hx hb dX9_countTogether_7 (by decide) (fun c2 => ?_) (fun c2 => ?_)
      · skip
        replace hR1 := it_t hR1 c2
        have b3 : 9 ≤ i1_4 := y_le (a := 9) (b := i1_4) (by omega) (by omega) c2
        refine lv_iconst (v := 0) hx hb dX9_countTogether_27 (by decide) ?_
        refine lv_istore (lv' := [(4, .int 0), (0, .ref (g.2.1 65)), (1, .ref (g.2.1 5)), (2, .ref (g.2.1 16)), (3, .ref (g.2.1 48))]) hx hb dX9_countTogether_28 hl (by decide) rfl (fun ls hl => ?_)
        refine lv_iconst (v := 0) hx hb dX9_countTogether_30 (by decide) ?_
        refine lv_istore (lv' := [(5, .int 0), (4, .int 0), (0, .ref (g.2.1 65)), (1, .ref (g.2.1 5)), (2, .ref (g.2.1 16)), (3, .ref (g.2.1 48))]) hx hb dX9_countTogether_31 hl (by decide) rfl (fun ls hl => ?_)
        obtain ⟨n5, b5, e5⟩ := hI_1.1 2 48 rfl
        have loop33_4 : ∀ (fu : Nat) (t4 : ST) (i4_5 : Nat) (i4_4 : Int32), INV t4 → Fr [] [(55, 63)] σ t4 → t4.1 2 = nI n5 → i4_5 ≤ n5 → fX9_countTogether_0l33 fu i4_4 (nI i4_5) t4 = R → n5 - i4_5 < fu → ∀ (H : Heap) (locs : List Loc) (ls : Array Slot), HW g t4 s H locs → lv_has ls 8 [(5, .int (nI i4_5)), (4, .int i4_4), (0, .ref (g.2.1 65)), (1, .ref (g.2.1 5)), (2, .ref (g.2.1 16)), (3, .ref (g.2.1 48))] → W p l e { frames := 1, cells := 0, slots := 0, locals := 23 } s m args below meth c H locs 0 0 (MQ below PQz args s 0 0 (Aw g)) (F0 m 33 ls []) := by
          intro fu4
          induction fu4 with
          | zero => intro t4 i4_5 i4_4 hI_4 hF_4 e6 bi4_5 hR4 hm; exact absurd hm (Nat.not_lt_zero _)
          | succ fu4 ih =>
            have ih4 := ih
            clear ih
            intro t4 i4_5 i4_4 hI_4 hF_4 e6 bi4_5 hR4 hm4 H locs ls h hl
            replace hR4 : fX9_countTogether_0b33 (fX9_countTogether_0l33 fu4) i4_4 (nI i4_5) t4 = R := hR4
            refine lv_iload hx hb dX9_countTogether_33 (lv_at hl 0 rfl) ?_
            refine lv_aload_n hx hb dX9_countTogether_35 rfl (lv_at hl 3 rfl) ?_
            refine x_getIN E h (fi_bk_rows g) rfl hwX7 (by decide) (by decide +kernel) (v := nI n5) e6 dX9_countTogether_36 ?_
            replace hR4 := bd_to hR4 e6
            refine lv_icmp_ge (tgt := 113) hx hb dX9_countTogether_39 (by decide) (fun c7 => ?_) (fun c7 => ?_)
            · skip
              replace hR4 := it_t hR4 c7
              have b8 : n5 ≤ i4_5 := y_le (a := n5) (b := i4_5) (by omega) (by omega) c7
              refine lv_iload hx hb dX9_countTogether_113 (lv_at hl 1 rfl) ?_
              subst hPQ
              exact x_iret E h ⟨hR0.trans hR4.symm, hI_4, hF_4⟩ dX9_countTogether_115
            · skip
              replace hR4 := it_f hR4 c7
              have b9 : i4_5 < n5 := y_nle (a := n5) (b := i4_5) (by omega) (by omega) c7
              refine lv_aload_n hx hb dX9_countTogether_42 rfl (lv_at hl 4 rfl) ?_
              refine x_getRN E h (fr_cu_pieceOf g) rfl hwX2 (by decide) (by decide +kernel) dX9_countTogether_43 ?_
              refine lv_iload hx hb dX9_countTogether_46 (lv_at hl 0 rfl) ?_
              refine x_ldI E h (ia_cu_pieceOf g) (i := nI i4_5) (vp_in_nI (by omega) (by decide)) (v := t4.2.2 17 i4_5) (congrArg (t4.2.2 17) (nI_clamp (n := i4_5) (by omega))) dX9_countTogether_48 ?_
              replace hR4 := bd_to hR4 (congrArg (t4.2.2 17) (nI_clamp (n := i4_5) (by omega)))
              refine lv_topi (fun x10 e10 => ?_)
              try rw [← e10] at hR4
              refine lv_istore (lv' := [(6, .int x10), (5, .int (nI i4_5)), (4, .int i4_4), (0, .ref (g.2.1 65)), (1, .ref (g.2.1 5)), (2, .ref (g.2.1 16)), (3, .ref (g.2.1 48))]) hx hb dX9_countTogether_49 hl (by decide) rfl (fun ls hl => ?_)
              refine lv_aload_n hx hb dX9_countTogether_51 rfl (lv_at hl 4 rfl) ?_
              refine x_getRN E h (fr_bk_truthOf g) rfl hwX7 (by decide) (by decide +kernel) dX9_countTogether_52 ?_
              refine lv_iload hx hb dX9_countTogether_55 (lv_at hl 1 rfl) ?_
              refine x_ldI E h (ia_bk_truthOf g) (i := nI i4_5) (vp_in_nI (by omega) (by decide)) (v := t4.2.2 6 i4_5) (congrArg (t4.2.2 6) (nI_clamp (n := i4_5) (by omega))) dX9_countTogether_57 ?_
              replace hR4 := bd_to hR4 (congrArg (t4.2.2 6) (nI_clamp (n := i4_5) (by omega)))
              refine lv_iconst (v := 1) hx hb dX9_countTogether_58 (by decide) ?_
              refine lv_isub hx hb dX9_countTogether_59 ?_
              refine lv_topi (fun x11 e11 => ?_)
              replace hR4 := bd_to hR4 e11.symm
              refine lv_istore (lv' := [(7, .int x11), (6, .int x10), (5, .int (nI i4_5)), (4, .int i4_4), (0, .ref (g.2.1 65)), (1, .ref (g.2.1 5)), (2, .ref (g.2.1 16)), (3, .ref (g.2.1 48))]) hx hb dX9_countTogether_60 hl (by decide) rfl (fun ls hl => ?_)
              refine lv_iload hx hb dX9_countTogether_62 (lv_at hl 1 rfl) ?_
              have j107_14 : ∀ (t14 : ST) (y14_l4 : Int32), INV t14 → Fr [] [(55, 63)] σ t14 → t14.1 2 = nI n5 → fX9_countTogether_0b107 (fX9_countTogether_0l33 fu4) y14_l4 (nI i4_5) t14 = R → ∀ (H : Heap) (locs : List Loc) (ls : Array Slot), HW g t14 s H locs → lv_has ls 8 [(7, .int x11), (6, .int x10), (5, .int (nI i4_5)), (4, .int y14_l4), (0, .ref (g.2.1 65)), (1, .ref (g.2.1 5)), (2, .ref (g.2.1 16)), (3, .ref (g.2.1 48))] → W p l e { frames := 1, cells := 0, slots := 0, locals := 23 } s m args below meth c H locs 0 0 (MQ below PQz args s 0 0 (Aw g)) (F0 m 107 ls []) := by
                intro t14 y14_l4 hI_14 hF_14 e15 hR14 H locs ls h hl
                replace hR14 := bd_to hR14 (nI_add i4_5 1)
                refine lv_iinc (v := (nI (i4_5 + 1))) (lv' := [(5, .int (nI (i4_5 + 1))), (7, .int x11), (6, .int x10), (4, .int y14_l4), (0, .ref (g.2.1 65)), (1, .ref (g.2.1 5)), (2, .ref (g.2.1 16)), (3, .ref (g.2.1 48))]) hx hb dX9_countTogether_107 hl (k := 2) rfl (nI_add i4_5 1) (by decide) rfl (fun ls hl => ?_)
                refine lv_goto (tgt := 33) hx hb dX9_countTogether_110 (by decide) ?_
                exact ih4 t14 (i4_5 + 1) y14_l4 hI_14 hF_14 e15 (by omega) hR14 (by omega) _ _ _ h (lv_sub hl [0, 3, 4, 5, 6, 7] rfl)
              refine lv_if_lt (tgt := 107) hx hb dX9_countTogether_64 (by decide) (fun c12 => ?_) (fun c12 => ?_)
              · skip
                replace hR4 := it_t hR4 c12
                exact j107_14 t4 i4_4 hI_4 hF_4 e6 hR4 _ _ _ h (lv_sub hl [0, 1, 2, 3, 4, 5, 6, 7] rfl)
              · skip
                replace hR4 := it_f hR4 c12
                refine lv_iload hx hb dX9_countTogether_67 (lv_at hl 1 rfl) ?_
                refine lv_bipush (v := 9) hx hb dX9_countTogether_69 (by decide) ?_
                refine lv_icmp_ge (tgt := 107) hx hb dX9_countTogether_71 (by decide) (fun c17 => ?_) (fun c17 => ?_)
                · skip
                  replace hR4 := it_t hR4 c17
                  exact j107_14 t4 i4_4 hI_4 hF_4 e6 hR4 _ _ _ h (lv_sub hl [0, 1, 2, 3, 4, 5, 6, 7] rfl)
                · skip
                  replace hR4 := it_f hR4 c17
                  obtain ⟨n20, b20, rfl⟩ := y_rnle (N := 9) (y_lo1 c12 (by decide)) c17 (by omega)
                  have b21 : 0 ≤ n20 := y_nlt (a := n20) (b := 0) (by omega) (by omega) c12
                  have b22 : n20 < 9 := y_nle (a := 9) (b := n20) (by omega) (by omega) c17
                  refine lv_iload hx hb dX9_countTogether_74 (lv_at hl 0 rfl) ?_
                  refine lv_if_lt (tgt := 107) hx hb dX9_countTogether_76 (by decide) (fun c23 => ?_) (fun c23 => ?_)
                  · skip
                    replace hR4 := it_t hR4 c23
                    exact j107_14 t4 i4_4 hI_4 hF_4 e6 hR4 _ _ _ h (lv_sub hl [0, 1, 2, 3, 4, 5, 6, 7] rfl)
                  · skip
                    replace hR4 := it_f hR4 c23
                    refine lv_iload hx hb dX9_countTogether_79 (lv_at hl 0 rfl) ?_
                    refine lv_iconst (v := 5) hx hb dX9_countTogether_81 (by decide) ?_
                    refine lv_icmp_ge (tgt := 107) hx hb dX9_countTogether_82 (by decide) (fun c26 => ?_) (fun c26 => ?_)
                    · skip
                      replace hR4 := it_t hR4 c26
                      exact j107_14 t4 i4_4 hI_4 hF_4 e6 hR4 _ _ _ h (lv_sub hl [0, 1, 2, 3, 4, 5, 6, 7] rfl)
                    · skip
                      replace hR4 := it_f hR4 c26
                      obtain ⟨n29, b29, rfl⟩ := y_rnle (N := 5) (y_lo1 c23 (by decide)) c26 (by omega)
                      have b30 : 0 ≤ n29 := y_nlt (a := n29) (b := 0) (by omega) (by omega) c23
                      have b31 : n29 < 5 := y_nle (a := 5) (b := n29) (by omega) (by omega) c26
                      refine lv_aload_n hx hb dX9_countTogether_85 rfl (lv_at hl 4 rfl) ?_
                      refine x_getR E h (fr_ve_together g) rfl hwX9 (by decide) (by decide +kernel) dX9_countTogether_86 ?_
                      refine lv_aload_n hx hb dX9_countTogether_89 rfl (lv_at hl 7 rfl) ?_
                      refine x_getRN E h (fr_be_heapOf g) rfl hwX4 (by decide) (by decide +kernel) dX9_countTogether_90 ?_
                      refine lv_iload hx hb dX9_countTogether_93 (lv_at hl 1 rfl) ?_
                      obtain ⟨n32, b32, e32⟩ := hI_4.2 41 8 rfl n20
                      refine x_ldI E h (ia_be_heapOf g) (i := nI n20) (vp_in_nI (by omega) (by decide)) (v := nI n32) ((congrArg (t4.2.2 41) (nI_clamp (n := n20) (by omega))).trans e32) dX9_countTogether_95 ?_
                      replace hR4 := bd_to hR4 ((congrArg (t4.2.2 41) (nI_clamp (n := n20) (by omega))).trans e32)
                      refine x_row E h (fg_ve_together g) (i := nI n32) (vp_in_nI (by omega) (by decide)) (kr := 67 + n32) (by rw [nI_clamp (by omega)]) dX9_countTogether_96 ?_
                      replace hR4 := bd_to hR4 (nI_clamp (n := n32) (by omega))
                      refine lv_iload hx hb dX9_countTogether_97 (lv_at hl 0 rfl) ?_
                      refine lv_dup2_11 hx hb dX9_countTogether_99 rfl rfl ?_
                      refine x_ldI E h (gi_ve_together g n32 (by omega)) (i := nI n29) (vp_in_nI (by omega) (by decide)) (v := t4.2.2 (55 + n32) n29) (congrArg (t4.2.2 (55 + n32)) (nI_clamp (n := n29) (by omega))) dX9_countTogether_100 ?_
                      replace hR4 := bd_to hR4 (congrArg (t4.2.2 (55 + n32)) (nI_clamp (n := n29) (by omega)))
                      refine lv_iconst (v := 1) hx hb dX9_countTogether_101 (by decide) ?_
                      refine lv_iadd hx hb dX9_countTogether_102 ?_
                      refine lv_topi (fun x33 e33 => ?_)
                      replace hR4 := bd_to hR4 e33.symm
                      refine y_stI E h hI_4 hF_4 (gi_ve_together g n32 (by omega)) (i := nI n29) (vp_in_nI (by omega) (by decide)) (j := n29) (nI_clamp (by omega)) (ba_none ((gb_ve_together n32) (by omega))) (gr_ve_together n32 [(55, 63)] (by omega) rfl) dX9_countTogether_103 (fun s34 H locs q34 hI34 hF34 h => ?_)
                      replace hR4 := st_to hR4 (nI_clamp (n := n29) (by omega)) q34
                      have e35 : s34.1 2 = nI n5 := (congrArg (fun t : ST => t.1 2) q34).trans e6
                      obtain ⟨z36, e36⟩ : ∃ y : Int32, y = i4_4 + 1 := ⟨_, rfl⟩
                      replace hR4 := bd_to hR4 e36.symm
                      refine lv_iinc (v := z36) (lv' := [(4, .int z36), (7, .int (nI n29)), (6, .int (nI n20)), (5, .int (nI i4_5)), (0, .ref (g.2.1 65)), (1, .ref (g.2.1 5)), (2, .ref (g.2.1 16)), (3, .ref (g.2.1 48))]) hx hb dX9_countTogether_104 hl (k := 3) rfl e36.symm (by decide) rfl (fun ls hl => ?_)
                      exact j107_14 s34 z36 hI34 hF34 e35 hR4 _ _ _ h (lv_sub hl [1, 2, 3, 0, 4, 5, 6, 7] rfl)
        exact loop33_4 4096 t1 0 0 hI_1 hF_1 e5 (Nat.zero_le _) hR1 (by omega) _ _ _ h (lv_sub hl [0, 1, 2, 3, 4, 5] rfl)
      · skip
        replace hR1 := it_f hR1 c2
        have b37 : i1_4 < 9 := y_nle (a := 9) (b := i1_4) (by omega) (by omega) c2
        refine lv_aload_n hx hb dX9_countTogether_10 rfl (lv_at hl 1 rfl) ?_
        refine x_getR E h (fr_ve_together g) rfl hwX9 (by decide) (by decide +kernel) dX9_countTogether_11 ?_
        refine lv_iload hx hb dX9_countTogether_14 (lv_at hl 0 rfl) ?_
        refine x_row E h (fg_ve_together g) (i := nI i1_4) (vp_in_nI (by omega) (by decide)) (kr := 67 + i1_4) (by rw [nI_clamp (by omega)]) dX9_countTogether_16 ?_
        replace hR1 := bd_to hR1 (nI_clamp (n := i1_4) (by omega))
        refine lv_iconst (v := 0) hx hb dX9_countTogether_17 (by decide) ?_
        refine x_sv E h (na := 2) (As := [.ref (g.2.1 (67 + i1_4)), .int 0]) (k_fill l g _ (67 + i1_4) 5 (55 + i1_4) (gi_ve_together g i1_4 (by omega)) (by decide) 0) gX9_countTogether_J7_fill_53178 rfl ⟨rfl, rfl⟩ rfl (by decide +kernel) ⟨Nat.le_of_ble_eq_true rfl, Nat.le_of_ble_eq_true rfl⟩ hl.1 rfl (Nat.le_of_ble_eq_true rfl) dX9_countTogether_18 ⟨Nat.le_of_ble_eq_true rfl, Nat.le_of_ble_eq_true rfl⟩ (fun s38 H locs q38 h => ?_)
        have hI38 : INV s38 := by rw [← q38]; exact hI_1.fill (gb_ve_together i1_4 (by omega)) _
        have hF38 : Fr [] [(55, 63)] σ s38 := by rw [← q38]; exact hF_1.putA (gr_ve_together i1_4 [(55, 63)] (by omega) rfl)
        replace hR1 := bd_to hR1 q38
        replace hR1 := bd_to hR1 (nI_add i1_4 1)
        refine lv_iinc (v := (nI (i1_4 + 1))) (lv' := [(4, .int (nI (i1_4 + 1))), (0, .ref (g.2.1 65)), (1, .ref (g.2.1 5)), (2, .ref (g.2.1 16)), (3, .ref (g.2.1 48))]) hx hb dX9_countTogether_21 hl (k := 0) rfl (nI_add i1_4 1) (by decide) rfl (fun ls hl => ?_)
        refine lv_goto (tgt := 3) hx hb dX9_countTogether_24 (by decide) ?_
        exact ih1 s38 (i1_4 + 1) hI38 hF38 (by omega) hR1 (by omega) _ _ _ h (lv_sub hl [0, 1, 2, 3, 4] rfl)
  exact loop3_1 4096 σ 0 hI hF (Nat.zero_le _) hR (by omega) _ _ _ h (lv_sub hl [0, 1, 2, 3, 4] rfl)
set_option maxHeartbeats 4000000 in
set_option maxRecDepth 100000 in
theorem aX9_giveOne_0 (l : Launch) (g : CX) (σ : ST) (hI : INV σ) (p1 : Nat) (p2 : Nat) (hh0 : p1 < 32) (hh1 : p2 < 9) : XM l g yX9_giveOne wsX9_giveOne { frames := 1, cells := 0, slots := 0, locals := 21 } [.ref (g.2.1 65), .int (nI p1), .ref (g.2.1 (67 + p2))] σ (XQv g (fun σ' => fX9_giveOne_0 (nI p1) p2 σ = σ' ∧ INV σ' ∧ Fr [] [(64, 64)] σ σ')) := by
  refine x_met (own := RX9) (cc := cX9_giveOne) (maxL := 5) (ret := none) (lv := [(0, .ref (g.2.1 65)), (1, .int (nI p1)), (2, .ref (g.2.1 (67 + p2)))]) (by decide) rfl rfl (Nat.le_of_ble_eq_true rfl) rfl ?_
  intro p e s m args below meth c ls E h hl
  have hx := E.1
  have hb := E.2.1
  have hown := E.2.2.2.1
  have hts := E.2.2.2.2.1
  have hF : Fr [] [(64, 64)] σ σ := Fr.refl σ
  obtain ⟨R, hR0⟩ : ∃ R, fX9_giveOne_0 (nI p1) p2 σ = R := ⟨_, rfl⟩
  have hR : fX9_giveOne_0b0 (nI p1) p2 σ = R := hR0
  have hwX9 : ∀ w ∈ wsX90, w ∈ wsX9_giveOne := by decide +kernel
  generalize hPQ : XQv g (fun σ' => fX9_giveOne_0 (nI p1) p2 σ = σ' ∧ INV σ' ∧ Fr [] [(64, 64)] σ σ') = PQz
  refine lv_iconst (v := 0) hx hb dX9_giveOne_0 (by decide) ?_
  refine lv_istore_n (lv' := [(3, .int 0), (0, .ref (g.2.1 65)), (1, .int (nI p1)), (2, .ref (g.2.1 (67 + p2)))]) hx hb dX9_giveOne_1 rfl hl (by decide) rfl (fun ls hl => ?_)
  have loop2_1 : ∀ (fu : Nat) (t1 : ST) (i1_3 : Nat), INV t1 → Fr [] [(64, 64)] σ t1 → i1_3 ≤ 5 → fX9_giveOne_0l2 fu (nI p1) p2 (nI i1_3) t1 = R → 5 - i1_3 < fu → ∀ (H : Heap) (locs : List Loc) (ls : Array Slot), HW g t1 s H locs → lv_has ls 5 [(3, .int (nI i1_3)), (0, .ref (g.2.1 65)), (1, .int (nI p1)), (2, .ref (g.2.1 (67 + p2)))] → W p l e { frames := 1, cells := 0, slots := 0, locals := 21 } s m args below meth c H locs 0 0 (MQ below PQz args s 0 0 (Aw g)) (F0 m 2 ls []) := by
    intro fu1
    induction fu1 with
    | zero => intro t1 i1_3 hI_1 hF_1 bi1_3 hR1 hm; exact absurd hm (Nat.not_lt_zero _)
    | succ fu1 ih =>
      have ih1 := ih
      clear ih
      intro t1 i1_3 hI_1 hF_1 bi1_3 hR1 hm1 H locs ls h hl
      replace hR1 : fX9_giveOne_0b2 (fX9_giveOne_0l2 fu1) (nI p1) p2 (nI i1_3) t1 = R := hR1
      refine lv_iload_n hx hb dX9_giveOne_2 rfl (lv_at hl 0 rfl) ?_
      refine lv_iconst (v := 5) hx hb dX9_giveOne_3 (by decide) ?_
      refine lv_icmp_ge (tgt := 54) hx hb dX9_giveOne_4 (by decide) (fun c2 => ?_) (fun c2 => ?_)
      · skip
        replace hR1 := it_t hR1 c2
        have b3 : 5 ≤ i1_3 := y_le (a := 5) (b := i1_3) (by omega) (by omega) c2
        subst hPQ
        exact x_vret E h ⟨hR0.trans hR1.symm, hI_1, hF_1⟩ dX9_giveOne_54
      · skip
        replace hR1 := it_f hR1 c2
        have b4 : i1_3 < 5 := y_nle (a := 5) (b := i1_3) (by omega) (by omega) c2
        refine lv_iload_n hx hb dX9_giveOne_7 rfl (lv_at hl 2 rfl) ?_
        refine lv_iconst (v := 1) hx hb dX9_giveOne_8 (by decide) ?_
        refine lv_iload_n hx hb dX9_giveOne_9 rfl (lv_at hl 0 rfl) ?_
        refine lv_ishl hx hb dX9_giveOne_10 ?_
        refine x_topI (v2 := nI (2 ^ i1_3)) (y_shl1 (p := i1_3) (by omega)) ?_
        replace hR1 := bd_to hR1 (y_shl1 (p := i1_3) (by omega))
        have b5 := y_pow (p := i1_3) (by omega)
        refine lv_iconst (v := (-1)) hx hb dX9_giveOne_11 (by decide) ?_
        refine lv_ixor hx hb dX9_giveOne_12 ?_
        refine lv_topi (fun x6 e6 => ?_)
        replace hR1 := bd_to hR1 e6.symm
        refine lv_iand hx hb dX9_giveOne_13 ?_
        obtain ⟨n7, b7, e7⟩ := x_and p1 x6 (by omega)
        refine x_topI (v2 := nI n7) e7 ?_
        replace hR1 := bd_to hR1 e7
        refine lv_istore (lv' := [(4, .int (nI n7)), (3, .int (nI i1_3)), (0, .ref (g.2.1 65)), (1, .int (nI p1)), (2, .ref (g.2.1 (67 + p2)))]) hx hb dX9_giveOne_14 hl (by decide) rfl (fun ls hl => ?_)
        refine lv_iload hx hb dX9_giveOne_16 (lv_at hl 0 rfl) ?_
        refine lv_iload_n hx hb dX9_giveOne_18 rfl (lv_at hl 3 rfl) ?_
        have j48_10 : ∀ (t10 : ST), INV t10 → Fr [] [(64, 64)] σ t10 → fX9_giveOne_0b48 (fX9_giveOne_0l2 fu1) (nI p1) p2 (nI i1_3) t10 = R → ∀ (H : Heap) (locs : List Loc) (ls : Array Slot), HW g t10 s H locs → lv_has ls 5 [(4, .int (nI n7)), (3, .int (nI i1_3)), (0, .ref (g.2.1 65)), (1, .int (nI p1)), (2, .ref (g.2.1 (67 + p2)))] → W p l e { frames := 1, cells := 0, slots := 0, locals := 21 } s m args below meth c H locs 0 0 (MQ below PQz args s 0 0 (Aw g)) (F0 m 48 ls []) := by
          intro t10 hI_10 hF_10 hR10 H locs ls h hl
          replace hR10 := bd_to hR10 (nI_add i1_3 1)
          refine lv_iinc (v := (nI (i1_3 + 1))) (lv' := [(3, .int (nI (i1_3 + 1))), (4, .int (nI n7)), (0, .ref (g.2.1 65)), (1, .int (nI p1)), (2, .ref (g.2.1 (67 + p2)))]) hx hb dX9_giveOne_48 hl (k := 1) rfl (nI_add i1_3 1) (by decide) rfl (fun ls hl => ?_)
          refine lv_goto (tgt := 2) hx hb dX9_giveOne_51 (by decide) ?_
          exact ih1 t10 (i1_3 + 1) hI_10 hF_10 (by omega) hR10 (by omega) _ _ _ h (lv_sub hl [0, 2, 3, 4] rfl)
        refine lv_icmp_eq (tgt := 48) hx hb dX9_giveOne_19 (by decide) (fun c8 => ?_) (fun c8 => ?_)
        · skip
          replace hR1 := it_t hR1 c8
          have b9 : n7 = p1 := y_eq (a := n7) (b := p1) (by omega) (by omega) c8
          exact j48_10 t1 hI_1 hF_1 hR1 _ _ _ h (lv_sub hl [0, 1, 2, 3, 4] rfl)
        · skip
          replace hR1 := it_f hR1 c8
          have b11 : ¬ n7 = p1 := y_ne (a := n7) (b := p1) (by omega) (by omega) c8
          refine lv_aload_n hx hb dX9_giveOne_22 rfl (lv_at hl 2 rfl) ?_
          refine x_getR E h (fr_ve_right g) rfl hwX9 (by decide) (by decide +kernel) dX9_giveOne_23 ?_
          refine lv_iload_n hx hb dX9_giveOne_26 rfl (lv_at hl 3 rfl) ?_
          refine lv_aload_n hx hb dX9_giveOne_27 rfl (lv_at hl 2 rfl) ?_
          refine x_getR E h (fr_ve_right g) rfl hwX9 (by decide) (by decide +kernel) dX9_giveOne_28 ?_
          refine lv_iload_n hx hb dX9_giveOne_31 rfl (lv_at hl 3 rfl) ?_
          refine x_ldI E h (ia_ve_right g) (i := nI p1) (vp_in_nI (by omega) (by decide)) (v := t1.2.2 64 p1) (congrArg (t1.2.2 64) (nI_clamp (n := p1) (by omega))) dX9_giveOne_32 ?_
          replace hR1 := bd_to hR1 (congrArg (t1.2.2 64) (nI_clamp (n := p1) (by omega)))
          refine lv_aload_n hx hb dX9_giveOne_33 rfl (lv_at hl 2 rfl) ?_
          refine x_getR E h (fr_ve_right g) rfl hwX9 (by decide) (by decide +kernel) dX9_giveOne_34 ?_
          refine lv_iload hx hb dX9_giveOne_37 (lv_at hl 0 rfl) ?_
          refine x_ldI E h (ia_ve_right g) (i := nI n7) (vp_in_nI (by omega) (by decide)) (v := t1.2.2 64 n7) (congrArg (t1.2.2 64) (nI_clamp (n := n7) (by omega))) dX9_giveOne_39 ?_
          replace hR1 := bd_to hR1 (congrArg (t1.2.2 64) (nI_clamp (n := n7) (by omega)))
          refine lv_aload_n hx hb dX9_giveOne_40 rfl (lv_at hl 4 rfl) ?_
          refine lv_iload_n hx hb dX9_giveOne_41 rfl (lv_at hl 1 rfl) ?_
          refine x_ldI E h (gi_ve_together g p2 (by omega)) (i := nI i1_3) (vp_in_nI (by omega) (by decide)) (v := t1.2.2 (55 + p2) i1_3) (congrArg (t1.2.2 (55 + p2)) (nI_clamp (n := i1_3) (by omega))) dX9_giveOne_42 ?_
          replace hR1 := bd_to hR1 (congrArg (t1.2.2 (55 + p2)) (nI_clamp (n := i1_3) (by omega)))
          refine lv_iadd hx hb dX9_giveOne_43 ?_
          refine lv_topi (fun x12 e12 => ?_)
          replace hR1 := bd_to hR1 e12.symm
          refine x_max E hl.1 (by decide +kernel) (by decide +kernel) (by decide +kernel) (by decide +kernel) ⟨Nat.le_of_ble_eq_true rfl, Nat.le_of_ble_eq_true rfl⟩ ⟨Nat.zero_le _, Nat.zero_le _⟩ dX9_giveOne_44 ?_
          refine lv_topi (fun x13 e13 => ?_)
          replace hR1 := bd_to hR1 e13.symm
          refine y_stI E h hI_1 hF_1 (ia_ve_right g) (i := nI p1) (vp_in_nI (by omega) (by decide)) (j := p1) (nI_clamp (by omega)) (ba_none rfl) rfl dX9_giveOne_47 (fun s14 H locs q14 hI14 hF14 h => ?_)
          replace hR1 := st_to hR1 (nI_clamp (n := p1) (by omega)) q14
          exact j48_10 s14 hI14 hF14 hR1 _ _ _ h (lv_sub hl [0, 1, 2, 3, 4] rfl)
  exact loop2_1 4096 σ 0 hI hF (Nat.zero_le _) hR (by omega) _ _ _ h (lv_sub hl [0, 1, 2, 3] rfl)
set_option maxHeartbeats 4000000 in
set_option maxRecDepth 100000 in
theorem aX9_wrong_0 (l : Launch) (g : CX) (σ : ST) (hI : INV σ)  : XM l g yX9_wrong wsX9_wrong { frames := 2, cells := 0, slots := 0, locals := 50 } [.ref (g.2.1 65), .ref (g.2.1 5), .ref (g.2.1 16), .ref (g.2.1 48)] σ (XQi g (fun r σ' => fX9_wrong_0 σ = (r, σ') ∧ INV σ' ∧ Fr [] [(55, 64)] σ σ')) := by
  refine x_met (own := RX9) (cc := cX9_wrong) (maxL := 7) (ret := (some .int)) (lv := [(0, .ref (g.2.1 65)), (1, .ref (g.2.1 5)), (2, .ref (g.2.1 16)), (3, .ref (g.2.1 48))]) (by decide) rfl rfl (Nat.le_of_ble_eq_true rfl) rfl ?_
  intro p e s m args below meth c ls E h hl
  have hx := E.1
  have hb := E.2.1
  have hown := E.2.2.2.1
  have hts := E.2.2.2.2.1
  have hF : Fr [] [(55, 64)] σ σ := Fr.refl σ
  obtain ⟨R, hR0⟩ : ∃ R, fX9_wrong_0 σ = R := ⟨_, rfl⟩
  have hR : fX9_wrong_0b0 σ = R := hR0
  have hwX4 : ∀ w ∈ wsX40, w ∈ wsX9_wrong := by decide +kernel
  have hwX9 : ∀ w ∈ wsX90, w ∈ wsX9_wrong := by decide +kernel
  generalize hPQ : XQi g (fun r σ' => fX9_wrong_0 σ = (r, σ') ∧ INV σ' ∧ Fr [] [(55, 64)] σ σ') = PQz
  refine lv_aload_n hx hb dX9_wrong_0 rfl (lv_at hl 0 rfl) ?_
  refine lv_aload_n hx hb dX9_wrong_1 rfl (lv_at hl 1 rfl) ?_
  refine lv_aload_n hx hb dX9_wrong_2 rfl (lv_at hl 2 rfl) ?_
  refine lv_aload_n hx hb dX9_wrong_3 rfl (lv_at hl 3 rfl) ?_
  refine x_vi E h (na := 3) (As := [.ref (g.2.1 5), .ref (g.2.1 16), .ref (g.2.1 48)]) (aX9_countTogether_0 l g σ hI) (oc_ve g) rfl gX9_wrong_X9_countTogether rfl ⟨rfl, rfl⟩ rfl (by decide +kernel) ⟨Nat.le_of_ble_eq_true rfl, Nat.le_of_ble_eq_true rfl⟩ hl.1 rfl (Nat.le_of_ble_eq_true rfl) dX9_wrong_4 ⟨Nat.le_of_ble_eq_true rfl, Nat.le_of_ble_eq_true rfl⟩ (fun r1 s1 H locs q1 h => ?_)
  obtain ⟨x1, hI1, f1⟩ := q1
  replace hR := bp_to hR x1
  have hF1 := hF.call f1 (I := []) (J := [(55, 64)]) rfl rfl
  refine lv_istore (lv' := [(4, .int r1), (0, .ref (g.2.1 65)), (1, .ref (g.2.1 5)), (2, .ref (g.2.1 16)), (3, .ref (g.2.1 48))]) hx hb dX9_wrong_7 hl (by decide) rfl (fun ls hl => ?_)
  refine lv_aload_n hx hb dX9_wrong_9 rfl (lv_at hl 1 rfl) ?_
  refine x_getR E h (fr_ve_right g) rfl hwX9 (by decide) (by decide +kernel) dX9_wrong_10 ?_
  refine lv_iconst (v := 0) hx hb dX9_wrong_13 (by decide) ?_
  refine x_sv E h (na := 2) (As := [.ref (g.2.1 76), .int 0]) (k_fill l g _ 76 32 64 (ia_ve_right g) (by decide) 0) gX9_wrong_J7_fill_53178 rfl ⟨rfl, rfl⟩ rfl (by decide +kernel) ⟨Nat.le_of_ble_eq_true rfl, Nat.le_of_ble_eq_true rfl⟩ hl.1 rfl (Nat.le_of_ble_eq_true rfl) dX9_wrong_14 ⟨Nat.le_of_ble_eq_true rfl, Nat.le_of_ble_eq_true rfl⟩ (fun s2 H locs q2 h => ?_)
  have hI2 : INV s2 := by rw [← q2]; exact hI1.fill rfl _
  have hF2 : Fr [] [(55, 64)] σ s2 := by rw [← q2]; exact hF1.putA rfl
  replace hR := bd_to hR q2
  refine lv_iconst (v := 0) hx hb dX9_wrong_17 (by decide) ?_
  refine lv_istore (lv' := [(5, .int 0), (4, .int r1), (0, .ref (g.2.1 65)), (1, .ref (g.2.1 5)), (2, .ref (g.2.1 16)), (3, .ref (g.2.1 48))]) hx hb dX9_wrong_18 hl (by decide) rfl (fun ls hl => ?_)
  obtain ⟨n4, b4, e4⟩ := hI2.1 10 9 rfl
  have loop20_3 : ∀ (fu : Nat) (t3 : ST) (i3_5 : Nat), INV t3 → Fr [] [(55, 64)] σ t3 → t3.1 10 = nI n4 → i3_5 ≤ n4 → fX9_wrong_0l20 fu r1 (nI i3_5) t3 = R → n4 - i3_5 < fu → ∀ (H : Heap) (locs : List Loc) (ls : Array Slot), HW g t3 s H locs → lv_has ls 7 [(5, .int (nI i3_5)), (4, .int r1), (0, .ref (g.2.1 65)), (1, .ref (g.2.1 5)), (2, .ref (g.2.1 16)), (3, .ref (g.2.1 48))] → W p l e { frames := 2, cells := 0, slots := 0, locals := 50 } s m args below meth c H locs 0 0 (MQ below PQz args s 0 0 (Aw g)) (F0 m 20 ls []) := by
    intro fu3
    induction fu3 with
    | zero => intro t3 i3_5 hI_3 hF_3 e5 bi3_5 hR3 hm; exact absurd hm (Nat.not_lt_zero _)
    | succ fu3 ih =>
      have ih3 := ih
      clear ih
      intro t3 i3_5 hI_3 hF_3 e5 bi3_5 hR3 hm3 H locs ls h hl
      replace hR3 : fX9_wrong_0b20 (fX9_wrong_0l20 fu3) r1 (nI i3_5) t3 = R := hR3
      refine lv_iload hx hb dX9_wrong_20 (lv_at hl 0 rfl) ?_
      refine lv_aload_n hx hb dX9_wrong_22 rfl (lv_at hl 5 rfl) ?_
      refine x_getIN E h (fi_be_heaps g) rfl hwX4 (by decide) (by decide +kernel) (v := nI n4) e5 dX9_wrong_23 ?_
      replace hR3 := bd_to hR3 e5
      refine lv_icmp_ge (tgt := 75) hx hb dX9_wrong_26 (by decide) (fun c6 => ?_) (fun c6 => ?_)
      · skip
        replace hR3 := it_t hR3 c6
        have b7 : n4 ≤ i3_5 := y_le (a := n4) (b := i3_5) (by omega) (by omega) c6
        refine lv_iload hx hb dX9_wrong_75 (lv_at hl 1 rfl) ?_
        refine lv_aload_n hx hb dX9_wrong_77 rfl (lv_at hl 2 rfl) ?_
        refine x_getR E h (fr_ve_right g) rfl hwX9 (by decide) (by decide +kernel) dX9_wrong_78 ?_
        refine lv_aload_n hx hb dX9_wrong_81 rfl (lv_at hl 2 rfl) ?_
        refine x_getR E h (fr_ve_right g) rfl hwX9 (by decide) (by decide +kernel) dX9_wrong_82 ?_
        refine x_len E h (ia_ve_right g) (v := 32) (by decide) dX9_wrong_85 ?_
        refine lv_iconst (v := 1) hx hb dX9_wrong_86 (by decide) ?_
        refine lv_isub hx hb dX9_wrong_87 ?_
        refine x_topI (v2 := 31) (by decide) ?_
        replace hR3 := bd_to hR3 (show (32 : Int32) - (1 : Int32) = 31 by decide)
        refine x_ldI E h (ia_ve_right g) (i := nI 31) (vp_in_nI (by omega) (by decide)) (v := t3.2.2 64 31) (congrArg (t3.2.2 64) (nI_clamp (n := 31) (by omega))) dX9_wrong_88 ?_
        replace hR3 := bd_to hR3 (congrArg (t3.2.2 64) (nI_clamp (n := 31) (by omega)))
        refine lv_isub hx hb dX9_wrong_89 ?_
        refine lv_topi (fun x8 e8 => ?_)
        replace hR3 := bd_to hR3 e8.symm
        subst hPQ
        exact x_iret E h ⟨hR0.trans hR3.symm, hI_3, hF_3⟩ dX9_wrong_90
      · skip
        replace hR3 := it_f hR3 c6
        have b9 : i3_5 < n4 := y_nle (a := n4) (b := i3_5) (by omega) (by omega) c6
        refine lv_iload hx hb dX9_wrong_29 (lv_at hl 0 rfl) ?_
        refine lv_bipush (v := 9) hx hb dX9_wrong_31 (by decide) ?_
        refine lv_icmp_ge (tgt := 75) hx hb dX9_wrong_33 (by decide) (fun c10 => ?_) (fun c10 => ?_)
        · skip
          replace hR3 := it_t hR3 c10
          have b11 : 9 ≤ i3_5 := y_le (a := 9) (b := i3_5) (by omega) (by omega) c10
          refine lv_iload hx hb dX9_wrong_75 (lv_at hl 1 rfl) ?_
          refine lv_aload_n hx hb dX9_wrong_77 rfl (lv_at hl 2 rfl) ?_
          refine x_getR E h (fr_ve_right g) rfl hwX9 (by decide) (by decide +kernel) dX9_wrong_78 ?_
          refine lv_aload_n hx hb dX9_wrong_81 rfl (lv_at hl 2 rfl) ?_
          refine x_getR E h (fr_ve_right g) rfl hwX9 (by decide) (by decide +kernel) dX9_wrong_82 ?_
          refine x_len E h (ia_ve_right g) (v := 32) (by decide) dX9_wrong_85 ?_
          refine lv_iconst (v := 1) hx hb dX9_wrong_86 (by decide) ?_
          refine lv_isub hx hb dX9_wrong_87 ?_
          refine x_topI (v2 := 31) (by decide) ?_
          replace hR3 := bd_to hR3 (show (32 : Int32) - (1 : Int32) = 31 by decide)
          refine x_ldI E h (ia_ve_right g) (i := nI 31) (vp_in_nI (by omega) (by decide)) (v := t3.2.2 64 31) (congrArg (t3.2.2 64) (nI_clamp (n := 31) (by omega))) dX9_wrong_88 ?_
          replace hR3 := bd_to hR3 (congrArg (t3.2.2 64) (nI_clamp (n := 31) (by omega)))
          refine lv_isub hx hb dX9_wrong_89 ?_
          refine lv_topi (fun x12 e12 => ?_)
          replace hR3 := bd_to hR3 e12.symm
          subst hPQ
          exact x_iret E h ⟨hR0.trans hR3.symm, hI_3, hF_3⟩ dX9_wrong_90
        · skip
          replace hR3 := it_f hR3 c10
          have b13 : i3_5 < 9 := y_nle (a := 9) (b := i3_5) (by omega) (by omega) c10
          refine lv_aload_n hx hb dX9_wrong_36 rfl (lv_at hl 2 rfl) ?_
          refine x_getR E h (fr_ve_right g) rfl hwX9 (by decide) (by decide +kernel) dX9_wrong_37 ?_
          refine x_len E h (ia_ve_right g) (v := 32) (by decide) dX9_wrong_40 ?_
          refine lv_iconst (v := 1) hx hb dX9_wrong_41 (by decide) ?_
          refine lv_isub hx hb dX9_wrong_42 ?_
          refine x_topI (v2 := 31) (by decide) ?_
          replace hR3 := bd_to hR3 (show (32 : Int32) - (1 : Int32) = 31 by decide)
          refine lv_istore (lv' := [(6, .int 31), (5, .int (nI i3_5)), (4, .int r1), (0, .ref (g.2.1 65)), (1, .ref (g.2.1 5)), (2, .ref (g.2.1 16)), (3, .ref (g.2.1 48))]) hx hb dX9_wrong_43 hl (by decide) rfl (fun ls hl => ?_)
          have loop45_14 : ∀ (fu : Nat) (t14 : ST) (i14_6 : Nat), INV t14 → Fr [] [(55, 64)] σ t14 → t14.1 10 = nI n4 → i14_6 ≤ 31 → fX9_wrong_0l45 (fX9_wrong_0l20 fu3) fu r1 (nI i3_5) (nI i14_6) t14 = R → i14_6 < fu → ∀ (H : Heap) (locs : List Loc) (ls : Array Slot), HW g t14 s H locs → lv_has ls 7 [(6, .int (nI i14_6)), (5, .int (nI i3_5)), (4, .int r1), (0, .ref (g.2.1 65)), (1, .ref (g.2.1 5)), (2, .ref (g.2.1 16)), (3, .ref (g.2.1 48))] → W p l e { frames := 2, cells := 0, slots := 0, locals := 50 } s m args below meth c H locs 0 0 (MQ below PQz args s 0 0 (Aw g)) (F0 m 45 ls []) := by
            intro fu14
            induction fu14 with
            | zero => intro t14 i14_6 hI_14 hF_14 e15 bi14_6 hR14 hm; exact absurd hm (Nat.not_lt_zero _)
            | succ fu14 ih =>
              have ih14 := ih
              clear ih
              intro t14 i14_6 hI_14 hF_14 e15 bi14_6 hR14 hm14 H locs ls h hl
              replace hR14 : fX9_wrong_0b45 (fX9_wrong_0l20 fu3) (fX9_wrong_0l45 (fX9_wrong_0l20 fu3) fu14) r1 (nI i3_5) (nI i14_6) t14 = R := hR14
              refine lv_iload hx hb dX9_wrong_45 (lv_at hl 0 rfl) ?_
              refine lv_if_le (tgt := 69) hx hb dX9_wrong_47 (by decide) (fun c16 => ?_) (fun c16 => ?_)
              · skip
                replace hR14 := it_t hR14 c16
                have b17 : i14_6 ≤ 0 := y_le (a := i14_6) (b := 0) (by omega) (by omega) c16
                replace hR14 := bd_to hR14 (nI_add i3_5 1)
                refine lv_iinc (v := (nI (i3_5 + 1))) (lv' := [(5, .int (nI (i3_5 + 1))), (6, .int (nI i14_6)), (4, .int r1), (0, .ref (g.2.1 65)), (1, .ref (g.2.1 5)), (2, .ref (g.2.1 16)), (3, .ref (g.2.1 48))]) hx hb dX9_wrong_69 hl (k := 1) rfl (nI_add i3_5 1) (by decide) rfl (fun ls hl => ?_)
                refine lv_goto (tgt := 20) hx hb dX9_wrong_72 (by decide) ?_
                exact ih3 t14 (i3_5 + 1) hI_14 hF_14 e15 (by omega) hR14 (by omega) _ _ _ h (lv_sub hl [0, 2, 3, 4, 5, 6] rfl)
              · skip
                replace hR14 := it_f hR14 c16
                have b18 : 0 < i14_6 := y_nle (a := i14_6) (b := 0) (by omega) (by omega) c16
                refine lv_aload_n hx hb dX9_wrong_50 rfl (lv_at hl 3 rfl) ?_
                refine lv_iload hx hb dX9_wrong_51 (lv_at hl 0 rfl) ?_
                refine lv_aload_n hx hb dX9_wrong_53 rfl (lv_at hl 3 rfl) ?_
                refine x_getR E h (fr_ve_together g) rfl hwX9 (by decide) (by decide +kernel) dX9_wrong_54 ?_
                refine lv_iload hx hb dX9_wrong_57 (lv_at hl 1 rfl) ?_
                refine x_row E h (fg_ve_together g) (i := nI i3_5) (vp_in_nI (by omega) (by decide)) (kr := 67 + i3_5) (by rw [nI_clamp (by omega)]) dX9_wrong_59 ?_
                replace hR14 := bd_to hR14 (nI_clamp (n := i3_5) (by omega))
                refine x_vv E h (na := 2) (As := [.int (nI i14_6), .ref (g.2.1 (67 + i3_5))]) (aX9_giveOne_0 l g t14 hI_14 i14_6 i3_5 (by omega) (by omega)) (oc_ve g) rfl gX9_wrong_X9_giveOne rfl ⟨rfl, rfl⟩ rfl (by decide +kernel) ⟨Nat.le_of_ble_eq_true rfl, Nat.le_of_ble_eq_true rfl⟩ hl.1 rfl (Nat.le_of_ble_eq_true rfl) dX9_wrong_60 ⟨Nat.le_of_ble_eq_true rfl, Nat.le_of_ble_eq_true rfl⟩ (fun s19 H locs q19 h => ?_)
                obtain ⟨x19, hI19, f19⟩ := q19
                replace hR14 := bd_to hR14 x19
                have hF19 := hF_14.call f19 (I := []) (J := [(55, 64)]) rfl rfl
                have e20 : s19.1 10 = nI n4 := ((f19.1 10 rfl)).trans e15
                replace hR14 := bd_to hR14 (y_dec1 (by omega))
                refine lv_iinc (v := (nI (i14_6 - 1))) (lv' := [(6, .int (nI (i14_6 - 1))), (5, .int (nI i3_5)), (4, .int r1), (0, .ref (g.2.1 65)), (1, .ref (g.2.1 5)), (2, .ref (g.2.1 16)), (3, .ref (g.2.1 48))]) hx hb dX9_wrong_63 hl (k := 0) rfl (y_dec1 (by omega)) (by decide) rfl (fun ls hl => ?_)
                refine lv_goto (tgt := 45) hx hb dX9_wrong_66 (by decide) ?_
                exact ih14 s19 (i14_6 - 1) hI19 hF19 e20 (by omega) hR14 (by omega) _ _ _ h (lv_sub hl [0, 1, 2, 3, 4, 5, 6] rfl)
          exact loop45_14 4096 t3 31 hI_3 hF_3 e5 (by omega) hR3 (by omega) _ _ _ h (lv_sub hl [0, 1, 2, 3, 4, 5, 6] rfl)
  exact loop20_3 4096 s2 0 hI2 hF2 e4 (Nat.zero_le _) hR (by omega) _ _ _ h (lv_sub hl [0, 1, 2, 3, 4, 5] rfl)
set_option maxHeartbeats 4000000 in
set_option maxRecDepth 100000 in
theorem aX9_madeUp_0 (l : Launch) (g : CX) (σ : ST) (hI : INV σ)  : XM l g yX9_madeUp wsX9_madeUp { frames := 0, cells := 0, slots := 0, locals := 0 } [.ref (g.2.1 65), .ref (g.2.1 5), .ref (g.2.1 16)] σ (XQi g (fun r σ' => fX9_madeUp_0 σ = r ∧ σ = σ')) := by
  refine x_met (own := RX9) (cc := cX9_madeUp) (maxL := 5) (ret := (some .int)) (lv := [(0, .ref (g.2.1 65)), (1, .ref (g.2.1 5)), (2, .ref (g.2.1 16))]) (by decide) rfl rfl (Nat.le_of_ble_eq_true rfl) rfl ?_
  intro p e s m args below meth c ls E h hl
  have hx := E.1
  have hb := E.2.1
  have hown := E.2.2.2.1
  have hts := E.2.2.2.2.1
  obtain ⟨R, hR0⟩ : ∃ R, fX9_madeUp_0 σ = R := ⟨_, rfl⟩
  have hR : fX9_madeUp_0b0 σ = R := hR0
  have hwX2 : ∀ w ∈ wsX20, w ∈ wsX9_madeUp := by decide +kernel
  have hwX7 : ∀ w ∈ wsX70, w ∈ wsX9_madeUp := by decide +kernel
  generalize hPQ : XQi g (fun r σ' => fX9_madeUp_0 σ = r ∧ σ = σ') = PQz
  refine lv_iconst (v := 0) hx hb dX9_madeUp_0 (by decide) ?_
  refine lv_istore_n (lv' := [(3, .int 0), (0, .ref (g.2.1 65)), (1, .ref (g.2.1 5)), (2, .ref (g.2.1 16))]) hx hb dX9_madeUp_1 rfl hl (by decide) rfl (fun ls hl => ?_)
  refine lv_iconst (v := 0) hx hb dX9_madeUp_2 (by decide) ?_
  refine lv_istore (lv' := [(4, .int 0), (3, .int 0), (0, .ref (g.2.1 65)), (1, .ref (g.2.1 5)), (2, .ref (g.2.1 16))]) hx hb dX9_madeUp_3 hl (by decide) rfl (fun ls hl => ?_)
  obtain ⟨n2, b2, e2⟩ := hI.1 2 48 rfl
  have loop5_1 : ∀ (fu : Nat) (i1_4 : Nat) (i1_3 : Int32), i1_4 ≤ n2 → fX9_madeUp_0l5 fu i1_3 (nI i1_4) σ = R → n2 - i1_4 < fu → ∀ (H : Heap) (locs : List Loc) (ls : Array Slot), HW g σ s H locs → lv_has ls 5 [(4, .int (nI i1_4)), (3, .int i1_3), (0, .ref (g.2.1 65)), (1, .ref (g.2.1 5)), (2, .ref (g.2.1 16))] → W p l e { frames := 0, cells := 0, slots := 0, locals := 0 } s m args below meth c H locs 0 0 (MQ below PQz args s 0 0 (Aw g)) (F0 m 5 ls []) := by
    intro fu1
    induction fu1 with
    | zero => intro i1_4 i1_3 bi1_4 hR1 hm; exact absurd hm (Nat.not_lt_zero _)
    | succ fu1 ih =>
      have ih1 := ih
      clear ih
      intro i1_4 i1_3 bi1_4 hR1 hm1 H locs ls h hl
      replace hR1 : fX9_madeUp_0b5 (fX9_madeUp_0l5 fu1) i1_3 (nI i1_4) σ = R := hR1
      refine lv_iload hx hb dX9_madeUp_5 (lv_at hl 0 rfl) ?_
      refine lv_aload_n hx hb dX9_madeUp_7 rfl (lv_at hl 3 rfl) ?_
      refine x_getIN E h (fi_bk_rows g) rfl hwX7 (by decide) (by decide +kernel) (v := nI n2) e2 dX9_madeUp_8 ?_
      replace hR1 := bd_to hR1 e2
      refine lv_icmp_ge (tgt := 50) hx hb dX9_madeUp_11 (by decide) (fun c3 => ?_) (fun c3 => ?_)
      · skip
        replace hR1 := it_t hR1 c3
        have b4 : n2 ≤ i1_4 := y_le (a := n2) (b := i1_4) (by omega) (by omega) c3
        refine lv_iload_n hx hb dX9_madeUp_50 rfl (lv_at hl 1 rfl) ?_
        subst hPQ
        exact x_iret E h ⟨hR0.trans hR1.symm, rfl⟩ dX9_madeUp_51
      · skip
        replace hR1 := it_f hR1 c3
        have b5 : i1_4 < n2 := y_nle (a := n2) (b := i1_4) (by omega) (by omega) c3
        refine lv_iload_n hx hb dX9_madeUp_14 rfl (lv_at hl 1 rfl) ?_
        refine lv_aload_n hx hb dX9_madeUp_15 rfl (lv_at hl 3 rfl) ?_
        refine x_getRN E h (fr_bk_truthOf g) rfl hwX7 (by decide) (by decide +kernel) dX9_madeUp_16 ?_
        refine lv_iload hx hb dX9_madeUp_19 (lv_at hl 0 rfl) ?_
        refine x_ldI E h (ia_bk_truthOf g) (i := nI i1_4) (vp_in_nI (by omega) (by decide)) (v := σ.2.2 6 i1_4) (congrArg (σ.2.2 6) (nI_clamp (n := i1_4) (by omega))) dX9_madeUp_21 ?_
        replace hR1 := bd_to hR1 (congrArg (σ.2.2 6) (nI_clamp (n := i1_4) (by omega)))
        have j42_8 : ∀ (y8_s0 : Int32), fX9_madeUp_0b42 (fX9_madeUp_0l5 fu1) (nI i1_4) y8_s0 i1_3 σ = R → ∀ (H : Heap) (locs : List Loc) (ls : Array Slot), HW g σ s H locs → lv_has ls 5 [(4, .int (nI i1_4)), (3, .int i1_3), (0, .ref (g.2.1 65)), (1, .ref (g.2.1 5)), (2, .ref (g.2.1 16))] → W p l e { frames := 0, cells := 0, slots := 0, locals := 0 } s m args below meth c H locs 0 0 (MQ below PQz args s 0 0 (Aw g)) (F0 m 42 ls [.int y8_s0, .int i1_3]) := by
          intro y8_s0 hR8 H locs ls h hl
          refine lv_iadd hx hb dX9_madeUp_42 ?_
          refine lv_topi (fun x9 e9 => ?_)
          replace hR8 := bd_to hR8 e9.symm
          refine lv_istore_n (lv' := [(3, .int x9), (4, .int (nI i1_4)), (0, .ref (g.2.1 65)), (1, .ref (g.2.1 5)), (2, .ref (g.2.1 16))]) hx hb dX9_madeUp_43 rfl hl (by decide) rfl (fun ls hl => ?_)
          replace hR8 := bd_to hR8 (nI_add i1_4 1)
          refine lv_iinc (v := (nI (i1_4 + 1))) (lv' := [(4, .int (nI (i1_4 + 1))), (3, .int x9), (0, .ref (g.2.1 65)), (1, .ref (g.2.1 5)), (2, .ref (g.2.1 16))]) hx hb dX9_madeUp_44 hl (k := 1) rfl (nI_add i1_4 1) (by decide) rfl (fun ls hl => ?_)
          refine lv_goto (tgt := 5) hx hb dX9_madeUp_47 (by decide) ?_
          exact ih1 (i1_4 + 1) x9 (by omega) hR8 (by omega) _ _ _ h (lv_sub hl [0, 1, 2, 3, 4] rfl)
        refine lv_if_ne (tgt := 41) hx hb dX9_madeUp_22 (by decide) (fun c6 => ?_) (fun c6 => ?_)
        · skip
          replace hR1 := it_f hR1 c6
          refine lv_iconst (v := 0) hx hb dX9_madeUp_41 (by decide) ?_
          exact j42_8 0 hR1 _ _ _ h (lv_sub hl [0, 1, 2, 3, 4] rfl)
        · skip
          replace hR1 := it_t hR1 c6
          refine lv_aload_n hx hb dX9_madeUp_25 rfl (lv_at hl 4 rfl) ?_
          refine x_getRN E h (fr_cu_pieceOf g) rfl hwX2 (by decide) (by decide +kernel) dX9_madeUp_26 ?_
          refine lv_iload hx hb dX9_madeUp_29 (lv_at hl 0 rfl) ?_
          refine x_ldI E h (ia_cu_pieceOf g) (i := nI i1_4) (vp_in_nI (by omega) (by decide)) (v := σ.2.2 17 i1_4) (congrArg (σ.2.2 17) (nI_clamp (n := i1_4) (by omega))) dX9_madeUp_31 ?_
          replace hR1 := bd_to hR1 (congrArg (σ.2.2 17) (nI_clamp (n := i1_4) (by omega)))
          refine lv_bipush (v := (-9)) hx hb dX9_madeUp_32 (by decide) ?_
          refine lv_icmp_eq (tgt := 41) hx hb dX9_madeUp_34 (by decide) (fun c11 => ?_) (fun c11 => ?_)
          · skip
            replace hR1 := it_t hR1 c11
            refine lv_iconst (v := 0) hx hb dX9_madeUp_41 (by decide) ?_
            exact j42_8 0 hR1 _ _ _ h (lv_sub hl [0, 1, 2, 3, 4] rfl)
          · skip
            replace hR1 := it_f hR1 c11
            refine lv_iconst (v := 1) hx hb dX9_madeUp_37 (by decide) ?_
            refine lv_goto (tgt := 42) hx hb dX9_madeUp_38 (by decide) ?_
            exact j42_8 1 hR1 _ _ _ h (lv_sub hl [0, 1, 2, 3, 4] rfl)
  exact loop5_1 4096 0 0 (Nat.zero_le _) hR (by omega) _ _ _ h (lv_sub hl [0, 1, 2, 3, 4] rfl)
set_option maxHeartbeats 4000000 in
set_option maxRecDepth 100000 in
theorem aX9_missed_0 (l : Launch) (g : CX) (σ : ST) (hI : INV σ)  : XM l g yX9_missed wsX9_missed { frames := 0, cells := 0, slots := 0, locals := 0 } [.ref (g.2.1 65), .ref (g.2.1 5), .ref (g.2.1 16)] σ (XQi g (fun r σ' => fX9_missed_0 σ = r ∧ σ = σ')) := by
  refine x_met (own := RX9) (cc := cX9_missed) (maxL := 5) (ret := (some .int)) (lv := [(0, .ref (g.2.1 65)), (1, .ref (g.2.1 5)), (2, .ref (g.2.1 16))]) (by decide) rfl rfl (Nat.le_of_ble_eq_true rfl) rfl ?_
  intro p e s m args below meth c ls E h hl
  have hx := E.1
  have hb := E.2.1
  have hown := E.2.2.2.1
  have hts := E.2.2.2.2.1
  obtain ⟨R, hR0⟩ : ∃ R, fX9_missed_0 σ = R := ⟨_, rfl⟩
  have hR : fX9_missed_0b0 σ = R := hR0
  have hwX2 : ∀ w ∈ wsX20, w ∈ wsX9_missed := by decide +kernel
  have hwX7 : ∀ w ∈ wsX70, w ∈ wsX9_missed := by decide +kernel
  generalize hPQ : XQi g (fun r σ' => fX9_missed_0 σ = r ∧ σ = σ') = PQz
  refine lv_iconst (v := 0) hx hb dX9_missed_0 (by decide) ?_
  refine lv_istore_n (lv' := [(3, .int 0), (0, .ref (g.2.1 65)), (1, .ref (g.2.1 5)), (2, .ref (g.2.1 16))]) hx hb dX9_missed_1 rfl hl (by decide) rfl (fun ls hl => ?_)
  refine lv_iconst (v := 0) hx hb dX9_missed_2 (by decide) ?_
  refine lv_istore (lv' := [(4, .int 0), (3, .int 0), (0, .ref (g.2.1 65)), (1, .ref (g.2.1 5)), (2, .ref (g.2.1 16))]) hx hb dX9_missed_3 hl (by decide) rfl (fun ls hl => ?_)
  obtain ⟨n2, b2, e2⟩ := hI.1 2 48 rfl
  have loop5_1 : ∀ (fu : Nat) (i1_4 : Nat) (i1_3 : Int32), i1_4 ≤ n2 → fX9_missed_0l5 fu i1_3 (nI i1_4) σ = R → n2 - i1_4 < fu → ∀ (H : Heap) (locs : List Loc) (ls : Array Slot), HW g σ s H locs → lv_has ls 5 [(4, .int (nI i1_4)), (3, .int i1_3), (0, .ref (g.2.1 65)), (1, .ref (g.2.1 5)), (2, .ref (g.2.1 16))] → W p l e { frames := 0, cells := 0, slots := 0, locals := 0 } s m args below meth c H locs 0 0 (MQ below PQz args s 0 0 (Aw g)) (F0 m 5 ls []) := by
    intro fu1
    induction fu1 with
    | zero => intro i1_4 i1_3 bi1_4 hR1 hm; exact absurd hm (Nat.not_lt_zero _)
    | succ fu1 ih =>
      have ih1 := ih
      clear ih
      intro i1_4 i1_3 bi1_4 hR1 hm1 H locs ls h hl
      replace hR1 : fX9_missed_0b5 (fX9_missed_0l5 fu1) i1_3 (nI i1_4) σ = R := hR1
      refine lv_iload hx hb dX9_missed_5 (lv_at hl 0 rfl) ?_
      refine lv_aload_n hx hb dX9_missed_7 rfl (lv_at hl 3 rfl) ?_
      refine x_getIN E h (fi_bk_rows g) rfl hwX7 (by decide) (by decide +kernel) (v := nI n2) e2 dX9_missed_8 ?_
      replace hR1 := bd_to hR1 e2
      refine lv_icmp_ge (tgt := 50) hx hb dX9_missed_11 (by decide) (fun c3 => ?_) (fun c3 => ?_)
      · skip
        replace hR1 := it_t hR1 c3
        have b4 : n2 ≤ i1_4 := y_le (a := n2) (b := i1_4) (by omega) (by omega) c3
        refine lv_iload_n hx hb dX9_missed_50 rfl (lv_at hl 1 rfl) ?_
        subst hPQ
        exact x_iret E h ⟨hR0.trans hR1.symm, rfl⟩ dX9_missed_51
      · skip
        replace hR1 := it_f hR1 c3
        have b5 : i1_4 < n2 := y_nle (a := n2) (b := i1_4) (by omega) (by omega) c3
        refine lv_iload_n hx hb dX9_missed_14 rfl (lv_at hl 1 rfl) ?_
        refine lv_aload_n hx hb dX9_missed_15 rfl (lv_at hl 3 rfl) ?_
        refine x_getRN E h (fr_bk_truthOf g) rfl hwX7 (by decide) (by decide +kernel) dX9_missed_16 ?_
        refine lv_iload hx hb dX9_missed_19 (lv_at hl 0 rfl) ?_
        refine x_ldI E h (ia_bk_truthOf g) (i := nI i1_4) (vp_in_nI (by omega) (by decide)) (v := σ.2.2 6 i1_4) (congrArg (σ.2.2 6) (nI_clamp (n := i1_4) (by omega))) dX9_missed_21 ?_
        replace hR1 := bd_to hR1 (congrArg (σ.2.2 6) (nI_clamp (n := i1_4) (by omega)))
        have j42_8 : ∀ (y8_s0 : Int32), fX9_missed_0b42 (fX9_missed_0l5 fu1) (nI i1_4) y8_s0 i1_3 σ = R → ∀ (H : Heap) (locs : List Loc) (ls : Array Slot), HW g σ s H locs → lv_has ls 5 [(4, .int (nI i1_4)), (3, .int i1_3), (0, .ref (g.2.1 65)), (1, .ref (g.2.1 5)), (2, .ref (g.2.1 16))] → W p l e { frames := 0, cells := 0, slots := 0, locals := 0 } s m args below meth c H locs 0 0 (MQ below PQz args s 0 0 (Aw g)) (F0 m 42 ls [.int y8_s0, .int i1_3]) := by
          intro y8_s0 hR8 H locs ls h hl
          refine lv_iadd hx hb dX9_missed_42 ?_
          refine lv_topi (fun x9 e9 => ?_)
          replace hR8 := bd_to hR8 e9.symm
          refine lv_istore_n (lv' := [(3, .int x9), (4, .int (nI i1_4)), (0, .ref (g.2.1 65)), (1, .ref (g.2.1 5)), (2, .ref (g.2.1 16))]) hx hb dX9_missed_43 rfl hl (by decide) rfl (fun ls hl => ?_)
          replace hR8 := bd_to hR8 (nI_add i1_4 1)
          refine lv_iinc (v := (nI (i1_4 + 1))) (lv' := [(4, .int (nI (i1_4 + 1))), (3, .int x9), (0, .ref (g.2.1 65)), (1, .ref (g.2.1 5)), (2, .ref (g.2.1 16))]) hx hb dX9_missed_44 hl (k := 1) rfl (nI_add i1_4 1) (by decide) rfl (fun ls hl => ?_)
          refine lv_goto (tgt := 5) hx hb dX9_missed_47 (by decide) ?_
          exact ih1 (i1_4 + 1) x9 (by omega) hR8 (by omega) _ _ _ h (lv_sub hl [0, 1, 2, 3, 4] rfl)
        refine lv_if_le (tgt := 41) hx hb dX9_missed_22 (by decide) (fun c6 => ?_) (fun c6 => ?_)
        · skip
          replace hR1 := it_t hR1 c6
          refine lv_iconst (v := 0) hx hb dX9_missed_41 (by decide) ?_
          exact j42_8 0 hR1 _ _ _ h (lv_sub hl [0, 1, 2, 3, 4] rfl)
        · skip
          replace hR1 := it_f hR1 c6
          refine lv_aload_n hx hb dX9_missed_25 rfl (lv_at hl 4 rfl) ?_
          refine x_getRN E h (fr_cu_pieceOf g) rfl hwX2 (by decide) (by decide +kernel) dX9_missed_26 ?_
          refine lv_iload hx hb dX9_missed_29 (lv_at hl 0 rfl) ?_
          refine x_ldI E h (ia_cu_pieceOf g) (i := nI i1_4) (vp_in_nI (by omega) (by decide)) (v := σ.2.2 17 i1_4) (congrArg (σ.2.2 17) (nI_clamp (n := i1_4) (by omega))) dX9_missed_31 ?_
          replace hR1 := bd_to hR1 (congrArg (σ.2.2 17) (nI_clamp (n := i1_4) (by omega)))
          refine lv_bipush (v := (-9)) hx hb dX9_missed_32 (by decide) ?_
          refine lv_icmp_ne (tgt := 41) hx hb dX9_missed_34 (by decide) (fun c11 => ?_) (fun c11 => ?_)
          · skip
            replace hR1 := it_f hR1 c11
            refine lv_iconst (v := 0) hx hb dX9_missed_41 (by decide) ?_
            exact j42_8 0 hR1 _ _ _ h (lv_sub hl [0, 1, 2, 3, 4] rfl)
          · skip
            replace hR1 := it_t hR1 c11
            refine lv_iconst (v := 1) hx hb dX9_missed_37 (by decide) ?_
            refine lv_goto (tgt := 42) hx hb dX9_missed_38 (by decide) ?_
            exact j42_8 1 hR1 _ _ _ h (lv_sub hl [0, 1, 2, 3, 4] rfl)
  exact loop5_1 4096 0 0 (Nat.zero_le _) hR (by omega) _ _ _ h (lv_sub hl [0, 1, 2, 3, 4] rfl)
set_option maxHeartbeats 4000000 in
set_option maxRecDepth 100000 in
theorem aX11_errors_0 (l : Launch) (g : CX) (σ : ST) (hI : INV σ) (p1 : Int32) : XM l g yX11_errors wsX11_errors { frames := 16, cells := 0, slots := 0, locals := 420 } [.ref (g.2.1 0), .int p1] σ (XQi g (fun r σ' => fX11_errors_0 p1 σ = (r, σ') ∧ INV σ' ∧ Fr [(3, 12), (14, 18), (22, 23)] [(8, 19), (21, 29), (31, 41), (43, 47), (55, 64)] σ σ')) := by
  refine x_met (own := RX11) (cc := cX11_errors) (maxL := 2) (ret := (some .int)) (lv := [(0, .ref (g.2.1 0)), (1, .int p1)]) (by decide) rfl rfl (Nat.le_of_ble_eq_true rfl) rfl ?_
  intro p e s m args below meth c ls E h hl
  have hx := E.1
  have hb := E.2.1
  have hown := E.2.2.2.1
  have hts := E.2.2.2.2.1
  have hF : Fr [(3, 12), (14, 18), (22, 23)] [(8, 19), (21, 29), (31, 41), (43, 47), (55, 64)] σ σ := Fr.refl σ
  obtain ⟨R, hR0⟩ : ∃ R, fX11_errors_0 p1 σ = R := ⟨_, rfl⟩
  have hR : fX11_errors_0b0 p1 σ = R := hR0
  have hwX0 : ∀ w ∈ wsX00, w ∈ wsX11_errors := by decide +kernel
  have hwX11 : ∀ w ∈ wsX110, w ∈ wsX11_errors := by decide +kernel
  generalize hPQ : XQi g (fun r σ' => fX11_errors_0 p1 σ = (r, σ') ∧ INV σ' ∧ Fr [(3, 12), (14, 18), (22, 23)] [(8, 19), (21, 29), (31, 41), (43, 47), (55, 64)] σ σ') = PQz
  refine lv_iload_n hx hb dX11_errors_0 rfl (lv_at hl 1 rfl) ?_
  refine lv_iconst (v := 0) hx hb dX11_errors_1 (by decide) ?_
  refine lv_iconst (v := 2) hx hb dX11_errors_2 (by decide) ?_
  refine x_si E h (na := 3) (As := [.int p1, .int 0, .int 2]) (aX11_within_0 l g σ hI p1 0 2) gX11_errors_X11_within rfl ⟨rfl, rfl⟩ rfl (by decide +kernel) ⟨Nat.le_of_ble_eq_true rfl, Nat.le_of_ble_eq_true rfl⟩ hl.1 rfl (Nat.le_of_ble_eq_true rfl) dX11_errors_3 ⟨Nat.le_of_ble_eq_true rfl, Nat.le_of_ble_eq_true rfl⟩ (fun r1 s1 H locs q1 h => ?_)
  obtain ⟨x1, d1, rfl⟩ := q1
  replace hR := bd_to hR x1
  rcases d1 with ⟨rfl, u1_0_0, u1_0_1⟩ | rfl
  · skip
    obtain ⟨n2, b2, rfl⟩ := y_rnlt (N := 2) (y_lo1 u1_0_0 (by decide)) u1_0_1 (by omega)
    have b3 : 0 ≤ n2 := y_nlt (a := n2) (b := 0) (by omega) (by omega) u1_0_0
    have b4 : n2 ≤ 2 := y_nlt (a := 2) (b := n2) (by omega) (by omega) u1_0_1
    replace hR := it_f hR (by decide)
    refine lv_if_ne (tgt := 11) hx hb dX11_errors_6 (by decide) (fun _ => ?_) (fun c => absurd c (by decide))
    refine lv_aload_n hx hb dX11_errors_11 rfl (lv_at hl 0 rfl) ?_
    refine x_vv E h (na := 0) (As := []) (aX11_cutNow_0 l g σ hI) (oc_vh g) rfl gX11_errors_X11_cutNow rfl ⟨rfl, rfl⟩ rfl (by decide +kernel) ⟨Nat.le_of_ble_eq_true rfl, Nat.le_of_ble_eq_true rfl⟩ hl.1 rfl (Nat.le_of_ble_eq_true rfl) dX11_errors_12 ⟨Nat.le_of_ble_eq_true rfl, Nat.le_of_ble_eq_true rfl⟩ (fun s5 H locs q5 h => ?_)
    obtain ⟨x5, d5, hI5, f5⟩ := q5
    replace hR := bd_to hR x5
    have hF5 := hF.call f5 (I := [(3, 12), (14, 18), (22, 23)]) (J := [(8, 19), (21, 29), (31, 41), (43, 47), (55, 64)]) rfl rfl
    have u5_0_0 := d5
    refine lv_iload_n hx hb dX11_errors_15 rfl (lv_at hl 1 rfl) ?_
    refine lv_if_ne (tgt := 35) hx hb dX11_errors_16 (by decide) (fun c6 => ?_) (fun c6 => ?_)
    · skip
      replace hR := it_f hR c6
      have b7 : ¬ n2 = 0 := y_ne (a := n2) (b := 0) (by omega) (by omega) c6
      refine lv_iload_n hx hb dX11_errors_35 rfl (lv_at hl 1 rfl) ?_
      refine lv_iconst (v := 1) hx hb dX11_errors_36 (by decide) ?_
      refine lv_icmp_ne (tgt := 56) hx hb dX11_errors_37 (by decide) (fun c8 => ?_) (fun c8 => ?_)
      · skip
        replace hR := it_f hR c8
        have b9 : ¬ n2 = 1 := y_ne (a := n2) (b := 1) (by omega) (by omega) c8
        refine lv_aload_n hx hb dX11_errors_56 rfl (lv_at hl 0 rfl) ?_
        refine x_vi E h (na := 0) (As := []) (aX11_heapNow_0 l g s5 hI5 u5_0_0) (oc_vh g) rfl gX11_errors_X11_heapNow rfl ⟨rfl, rfl⟩ rfl (by decide +kernel) ⟨Nat.le_of_ble_eq_true rfl, Nat.le_of_ble_eq_true rfl⟩ hl.1 rfl (Nat.le_of_ble_eq_true rfl) dX11_errors_57 ⟨Nat.le_of_ble_eq_true rfl, Nat.le_of_ble_eq_true rfl⟩ (fun r10 s10 H locs q10 h => ?_)
        obtain ⟨x10, d10, hI10, f10⟩ := q10
        replace hR := bp_to hR x10
        have hF10 := hF5.call f10 (I := [(3, 12), (14, 18), (22, 23)]) (J := [(8, 19), (21, 29), (31, 41), (43, 47), (55, 64)]) rfl rfl
        have e11 : s10.1 22 = 0 := ((f10.1 22 rfl)).trans u5_0_0
        rcases d10 with ⟨rfl, m10_0P, u10_0_0, u10_0_1, u10_0_2⟩ | rfl
        · skip
          replace hR := it_f hR (by decide)
          refine lv_if_eq (tgt := 88) hx hb dX11_errors_60 (by decide) (fun c => absurd c (by decide)) (fun _ => ?_)
          refine lv_aload_n hx hb dX11_errors_63 rfl (lv_at hl 0 rfl) ?_
          refine x_getR E h (fr_vh_verdict g) rfl hwX11 (by decide) (by decide +kernel) dX11_errors_64 ?_
          refine lv_aload_n hx hb dX11_errors_67 rfl (lv_at hl 0 rfl) ?_
          refine x_getR E h (fr_vh_book g) rfl hwX11 (by decide) (by decide +kernel) dX11_errors_68 ?_
          refine lv_aload_n hx hb dX11_errors_71 rfl (lv_at hl 0 rfl) ?_
          refine x_getR E h (fr_vh_cutting g) rfl hwX11 (by decide) (by decide +kernel) dX11_errors_72 ?_
          refine lv_aload_n hx hb dX11_errors_75 rfl (lv_at hl 0 rfl) ?_
          refine x_getR E h (fr_vh_all g) rfl hwX11 (by decide) (by decide +kernel) dX11_errors_76 ?_
          refine x_getRN E h (fr_al_best g) rfl hwX0 (by decide) (by decide +kernel) dX11_errors_79 ?_
          refine x_vi E h (na := 3) (As := [.ref (g.2.1 5), .ref (g.2.1 16), .ref (g.2.1 48)]) (aX9_wrong_0 l g s10 hI10) (oc_ve g) rfl gX11_errors_X9_wrong rfl ⟨rfl, rfl⟩ rfl (by decide +kernel) ⟨Nat.le_of_ble_eq_true rfl, Nat.le_of_ble_eq_true rfl⟩ hl.1 rfl (Nat.le_of_ble_eq_true rfl) dX11_errors_82 ⟨Nat.le_of_ble_eq_true rfl, Nat.le_of_ble_eq_true rfl⟩ (fun r12 s12 H locs q12 h => ?_)
          obtain ⟨x12, hI12, f12⟩ := q12
          replace hR := bp_to hR x12
          have hF12 := hF10.call f12 (I := [(3, 12), (14, 18), (22, 23)]) (J := [(8, 19), (21, 29), (31, 41), (43, 47), (55, 64)]) rfl rfl
          have e13 : s12.1 22 = 0 := ((f12.1 22 rfl)).trans u10_0_2
          have e14 : s12.1 5 = nI m10_0P := ((f12.1 5 rfl)).trans u10_0_0
          refine lv_goto (tgt := 90) hx hb dX11_errors_85 (by decide) ?_
          subst hPQ
          exact x_iret E h ⟨hR0.trans hR.symm, hI12, hF12⟩ dX11_errors_90
        · skip
          replace hR := it_t hR (by decide)
          refine lv_if_eq (tgt := 88) hx hb dX11_errors_60 (by decide) (fun _ => ?_) (fun c => absurd (by decide) c)
          refine lv_bipush (v := (-2)) hx hb dX11_errors_88 (by decide) ?_
          replace hR : fX11_errors_0b90 (-2) s10 = R := hR
          subst hPQ
          exact x_iret E h ⟨hR0.trans hR.symm, hI10, hF10⟩ dX11_errors_90
      · skip
        replace hR := it_t hR c8
        have b15 : n2 = 1 := y_eq (a := n2) (b := 1) (by omega) (by omega) c8
        refine lv_aload_n hx hb dX11_errors_40 rfl (lv_at hl 0 rfl) ?_
        refine x_getR E h (fr_vh_verdict g) rfl hwX11 (by decide) (by decide +kernel) dX11_errors_41 ?_
        refine lv_aload_n hx hb dX11_errors_44 rfl (lv_at hl 0 rfl) ?_
        refine x_getR E h (fr_vh_book g) rfl hwX11 (by decide) (by decide +kernel) dX11_errors_45 ?_
        refine lv_aload_n hx hb dX11_errors_48 rfl (lv_at hl 0 rfl) ?_
        refine x_getR E h (fr_vh_cutting g) rfl hwX11 (by decide) (by decide +kernel) dX11_errors_49 ?_
        refine x_vi E h (na := 2) (As := [.ref (g.2.1 5), .ref (g.2.1 16)]) (aX9_madeUp_0 l g s5 hI5) (oc_ve g) rfl gX11_errors_X9_madeUp rfl ⟨rfl, rfl⟩ rfl (by decide +kernel) ⟨Nat.le_of_ble_eq_true rfl, Nat.le_of_ble_eq_true rfl⟩ hl.1 rfl (Nat.le_of_ble_eq_true rfl) dX11_errors_52 ⟨Nat.le_of_ble_eq_true rfl, Nat.le_of_ble_eq_true rfl⟩ (fun r16 s16 H locs q16 h => ?_)
        obtain ⟨x16, rfl⟩ := q16
        replace hR := bd_to hR x16
        subst hPQ
        exact x_iret E h ⟨hR0.trans hR.symm, hI5, hF5⟩ dX11_errors_55
    · skip
      replace hR := it_t hR c6
      have b17 : n2 = 0 := y_eq (a := n2) (b := 0) (by omega) (by omega) c6
      refine lv_aload_n hx hb dX11_errors_19 rfl (lv_at hl 0 rfl) ?_
      refine x_getR E h (fr_vh_verdict g) rfl hwX11 (by decide) (by decide +kernel) dX11_errors_20 ?_
      refine lv_aload_n hx hb dX11_errors_23 rfl (lv_at hl 0 rfl) ?_
      refine x_getR E h (fr_vh_book g) rfl hwX11 (by decide) (by decide +kernel) dX11_errors_24 ?_
      refine lv_aload_n hx hb dX11_errors_27 rfl (lv_at hl 0 rfl) ?_
      refine x_getR E h (fr_vh_cutting g) rfl hwX11 (by decide) (by decide +kernel) dX11_errors_28 ?_
      refine x_vi E h (na := 2) (As := [.ref (g.2.1 5), .ref (g.2.1 16)]) (aX9_missed_0 l g s5 hI5) (oc_ve g) rfl gX11_errors_X9_missed rfl ⟨rfl, rfl⟩ rfl (by decide +kernel) ⟨Nat.le_of_ble_eq_true rfl, Nat.le_of_ble_eq_true rfl⟩ hl.1 rfl (Nat.le_of_ble_eq_true rfl) dX11_errors_31 ⟨Nat.le_of_ble_eq_true rfl, Nat.le_of_ble_eq_true rfl⟩ (fun r18 s18 H locs q18 h => ?_)
      obtain ⟨x18, rfl⟩ := q18
      replace hR := bd_to hR x18
      subst hPQ
      exact x_iret E h ⟨hR0.trans hR.symm, hI5, hF5⟩ dX11_errors_34
  · skip
    replace hR := it_t hR (by decide)
    refine lv_if_ne (tgt := 11) hx hb dX11_errors_6 (by decide) (fun c => absurd (by decide) c) (fun _ => ?_)
    refine lv_iconst (v := (-1)) hx hb dX11_errors_9 (by decide) ?_
    subst hPQ
    exact x_iret E h ⟨hR0.trans hR.symm, hI, hF⟩ dX11_errors_10
set_option maxHeartbeats 4000000 in
set_option maxRecDepth 100000 in
theorem aX6_span_0 (l : Launch) (g : CX) (σ : ST) (hI : INV σ) (p2 : Nat) (hh0 : p2 < 48) : XM l g yX6_span wsX6_span { frames := 0, cells := 0, slots := 0, locals := 0 } [.ref (g.2.1 77), .ref (g.2.1 16), .int (nI p2)] σ (XQi g (fun r σ' => fX6_span_0 (nI p2) σ = (r, σ') ∧ INV σ' ∧ Fr [] [] σ σ')) := by
  refine x_met (own := RX6) (cc := cX6_span) (maxL := 3) (ret := (some .int)) (lv := [(0, .ref (g.2.1 77)), (1, .ref (g.2.1 16)), (2, .int (nI p2))]) (by decide) rfl rfl (Nat.le_of_ble_eq_true rfl) rfl ?_
  intro p e s m args below meth c ls E h hl
  have hx := E.1
  have hb := E.2.1
  have hown := E.2.2.2.1
  have hts := E.2.2.2.2.1
  have hF : Fr [] [] σ σ := Fr.refl σ
  obtain ⟨R, hR0⟩ : ∃ R, fX6_span_0 (nI p2) σ = R := ⟨_, rfl⟩
  have hR : fX6_span_0b0 (nI p2) σ = R := hR0
  have hwX2 : ∀ w ∈ wsX20, w ∈ wsX6_span := by decide +kernel
  have hwX6 : ∀ w ∈ wsX60, w ∈ wsX6_span := by decide +kernel
  generalize hPQ : XQi g (fun r σ' => fX6_span_0 (nI p2) σ = (r, σ') ∧ INV σ' ∧ Fr [] [] σ σ') = PQz
  refine lv_aload_n hx hb dX6_span_0 rfl (lv_at hl 0 rfl) ?_
  refine lv_dup hx hb dX6_span_1 rfl ?_
  refine x_getL E h (fl_ki_asked g) rfl hwX6 (by decide) (by decide +kernel) rfl dX6_span_2 ?_
  replace hR := bd_to hR rfl
  refine lv_lconst (v := 1) hx hb dX6_span_5 (by decide) ?_
  refine lv_ladd hx hb dX6_span_6 ?_
  refine lv_topl (fun y1 e1 => ?_)
  replace hR := bd_to hR e1.symm
  refine y_putL E h hI hF (ty := .long) (v := y1) (fl_ki_asked g) rfl hwX6 tyX6_ok nmX6 (by decide) (by decide +kernel) (by decide +kernel) (by decide +kernel) rfl rfl dX6_span_7 (fun s2 H locs q2 hI2 hF2 h => ?_)
  replace hR := bd_to hR q2.symm
  refine lv_aload_n hx hb dX6_span_10 rfl (lv_at hl 1 rfl) ?_
  refine x_getRN E h (fr_cu_size g) rfl hwX2 (by decide) (by decide +kernel) dX6_span_11 ?_
  refine lv_iload_n hx hb dX6_span_14 rfl (lv_at hl 2 rfl) ?_
  refine x_ldI E h (ia_cu_size g) (i := nI p2) (vp_in_nI (by omega) (by decide)) (v := s2.2.2 13 p2) (congrArg (s2.2.2 13) (nI_clamp (n := p2) (by omega))) dX6_span_15 ?_
  replace hR := bd_to hR (congrArg (s2.2.2 13) (nI_clamp (n := p2) (by omega)))
  subst hPQ
  exact x_iret E h ⟨hR0.trans hR.symm, hI2, hF2⟩ dX6_span_16
set_option maxHeartbeats 4000000 in
set_option maxRecDepth 100000 in
theorem aX6_voice_0 (l : Launch) (g : CX) (σ : ST) (hI : INV σ) (p2 : Nat) (hh0 : p2 < 48) : XM l g yX6_voice wsX6_voice { frames := 1, cells := 0, slots := 0, locals := 22 } [.ref (g.2.1 77), .ref (g.2.1 16), .int (nI p2)] σ (XQi g (fun r σ' => fX6_voice_0 (nI p2) σ = (r, σ') ∧ INV σ' ∧ Fr [] [] σ σ')) := by
  refine x_met (own := RX6) (cc := cX6_voice) (maxL := 3) (ret := (some .int)) (lv := [(0, .ref (g.2.1 77)), (1, .ref (g.2.1 16)), (2, .int (nI p2))]) (by decide) rfl rfl (Nat.le_of_ble_eq_true rfl) rfl ?_
  intro p e s m args below meth c ls E h hl
  have hx := E.1
  have hb := E.2.1
  have hown := E.2.2.2.1
  have hts := E.2.2.2.2.1
  have hF : Fr [] [] σ σ := Fr.refl σ
  obtain ⟨R, hR0⟩ : ∃ R, fX6_voice_0 (nI p2) σ = R := ⟨_, rfl⟩
  have hR : fX6_voice_0b0 (nI p2) σ = R := hR0
  have hwX6 : ∀ w ∈ wsX60, w ∈ wsX6_voice := by decide +kernel
  generalize hPQ : XQi g (fun r σ' => fX6_voice_0 (nI p2) σ = (r, σ') ∧ INV σ' ∧ Fr [] [] σ σ') = PQz
  refine lv_aload_n hx hb dX6_voice_0 rfl (lv_at hl 0 rfl) ?_
  refine lv_dup hx hb dX6_voice_1 rfl ?_
  refine x_getL E h (fl_ki_asked g) rfl hwX6 (by decide) (by decide +kernel) rfl dX6_voice_2 ?_
  replace hR := bd_to hR rfl
  refine lv_ldc2 (v := 10) hx hb hown (hts (.constantLong RX6 45 (10)) (by decide +kernel)) dX6_voice_5 ?_
  refine lv_ladd hx hb dX6_voice_8 ?_
  refine lv_topl (fun y1 e1 => ?_)
  replace hR := bd_to hR e1.symm
  refine y_putL E h hI hF (ty := .long) (v := y1) (fl_ki_asked g) rfl hwX6 tyX6_ok nmX6 (by decide) (by decide +kernel) (by decide +kernel) (by decide +kernel) rfl rfl dX6_voice_9 (fun s2 H locs q2 hI2 hF2 h => ?_)
  replace hR := bd_to hR q2.symm
  refine lv_aload_n hx hb dX6_voice_12 rfl (lv_at hl 0 rfl) ?_
  refine lv_aload_n hx hb dX6_voice_13 rfl (lv_at hl 1 rfl) ?_
  refine lv_iload_n hx hb dX6_voice_14 rfl (lv_at hl 2 rfl) ?_
  refine x_vi E h (na := 2) (As := [.ref (g.2.1 16), .int (nI p2)]) (aX6_span_0 l g s2 hI2 p2 (by omega)) (oc_ki g) rfl gX6_voice_X6_span rfl ⟨rfl, rfl⟩ rfl (by decide +kernel) ⟨Nat.le_of_ble_eq_true rfl, Nat.le_of_ble_eq_true rfl⟩ hl.1 rfl (Nat.le_of_ble_eq_true rfl) dX6_voice_15 ⟨Nat.le_of_ble_eq_true rfl, Nat.le_of_ble_eq_true rfl⟩ (fun r3 s3 H locs q3 h => ?_)
  obtain ⟨x3, hI3, f3⟩ := q3
  replace hR := bp_to hR x3
  have hF3 := hF2.call f3 (I := []) (J := []) rfl rfl
  refine lv_aload_n hx hb dX6_voice_18 rfl (lv_at hl 1 rfl) ?_
  refine lv_iload_n hx hb dX6_voice_19 rfl (lv_at hl 2 rfl) ?_
  refine lv_iconst (v := 0) hx hb dX6_voice_20 (by decide) ?_
  refine x_vi E h (na := 2) (As := [.int (nI p2), .int 0]) (aX2_middleOf_0 l g s3 hI3 (nI p2) 0) (oc_cu g) rfl gX6_voice_X2_middleOf rfl ⟨rfl, rfl⟩ rfl (by decide +kernel) ⟨Nat.le_of_ble_eq_true rfl, Nat.le_of_ble_eq_true rfl⟩ hl.1 rfl (Nat.le_of_ble_eq_true rfl) dX6_voice_21 ⟨Nat.le_of_ble_eq_true rfl, Nat.le_of_ble_eq_true rfl⟩ (fun r4 s4 H locs q4 h => ?_)
  obtain ⟨x4, rfl⟩ := q4
  replace hR := bd_to hR x4
  refine lv_iadd hx hb dX6_voice_24 ?_
  refine lv_topi (fun x5 e5 => ?_)
  replace hR := bd_to hR e5.symm
  subst hPQ
  exact x_iret E h ⟨hR0.trans hR.symm, hI3, hF3⟩ dX6_voice_25
set_option maxHeartbeats 4000000 in
set_option maxRecDepth 100000 in
theorem aX6_talk_0 (l : Launch) (g : CX) (σ : ST) (hI : INV σ) (p2 : Nat) (hh0 : p2 < 48) : XM l g yX6_talk wsX6_talk { frames := 2, cells := 0, slots := 0, locals := 44 } [.ref (g.2.1 77), .ref (g.2.1 16), .int (nI p2)] σ (XQi g (fun r σ' => fX6_talk_0 (nI p2) σ = (r, σ') ∧ INV σ' ∧ Fr [] [] σ σ')) := by
  refine x_met (own := RX6) (cc := cX6_talk) (maxL := 3) (ret := (some .int)) (lv := [(0, .ref (g.2.1 77)), (1, .ref (g.2.1 16)), (2, .int (nI p2))]) (by decide) rfl rfl (Nat.le_of_ble_eq_true rfl) rfl ?_
  intro p e s m args below meth c ls E h hl
  have hx := E.1
  have hb := E.2.1
  have hown := E.2.2.2.1
  have hts := E.2.2.2.2.1
  have hF : Fr [] [] σ σ := Fr.refl σ
  obtain ⟨R, hR0⟩ : ∃ R, fX6_talk_0 (nI p2) σ = R := ⟨_, rfl⟩
  have hR : fX6_talk_0b0 (nI p2) σ = R := hR0
  have hwX2 : ∀ w ∈ wsX20, w ∈ wsX6_talk := by decide +kernel
  have hwX6 : ∀ w ∈ wsX60, w ∈ wsX6_talk := by decide +kernel
  generalize hPQ : XQi g (fun r σ' => fX6_talk_0 (nI p2) σ = (r, σ') ∧ INV σ' ∧ Fr [] [] σ σ') = PQz
  refine lv_aload_n hx hb dX6_talk_0 rfl (lv_at hl 0 rfl) ?_
  refine lv_dup hx hb dX6_talk_1 rfl ?_
  refine x_getL E h (fl_ki_asked g) rfl hwX6 (by decide) (by decide +kernel) rfl dX6_talk_2 ?_
  replace hR := bd_to hR rfl
  refine lv_ldc2 (v := 100) hx hb hown (hts (.constantLong RX6 51 (100)) (by decide +kernel)) dX6_talk_5 ?_
  refine lv_ladd hx hb dX6_talk_8 ?_
  refine lv_topl (fun y1 e1 => ?_)
  replace hR := bd_to hR e1.symm
  refine y_putL E h hI hF (ty := .long) (v := y1) (fl_ki_asked g) rfl hwX6 tyX6_ok nmX6 (by decide) (by decide +kernel) (by decide +kernel) (by decide +kernel) rfl rfl dX6_talk_9 (fun s2 H locs q2 hI2 hF2 h => ?_)
  replace hR := bd_to hR q2.symm
  refine lv_aload_n hx hb dX6_talk_12 rfl (lv_at hl 0 rfl) ?_
  refine lv_aload_n hx hb dX6_talk_13 rfl (lv_at hl 1 rfl) ?_
  refine lv_iload_n hx hb dX6_talk_14 rfl (lv_at hl 2 rfl) ?_
  refine x_vi E h (na := 2) (As := [.ref (g.2.1 16), .int (nI p2)]) (aX6_voice_0 l g s2 hI2 p2 (by omega)) (oc_ki g) rfl gX6_talk_X6_voice rfl ⟨rfl, rfl⟩ rfl (by decide +kernel) ⟨Nat.le_of_ble_eq_true rfl, Nat.le_of_ble_eq_true rfl⟩ hl.1 rfl (Nat.le_of_ble_eq_true rfl) dX6_talk_15 ⟨Nat.le_of_ble_eq_true rfl, Nat.le_of_ble_eq_true rfl⟩ (fun r3 s3 H locs q3 h => ?_)
  obtain ⟨x3, hI3, f3⟩ := q3
  replace hR := bp_to hR x3
  have hF3 := hF2.call f3 (I := []) (J := []) rfl rfl
  refine lv_aload_n hx hb dX6_talk_18 rfl (lv_at hl 1 rfl) ?_
  refine x_getRN E h (fr_cu_spread g) rfl hwX2 (by decide) (by decide +kernel) dX6_talk_19 ?_
  refine lv_iload_n hx hb dX6_talk_22 rfl (lv_at hl 2 rfl) ?_
  refine x_ldI E h (ia_cu_spread g) (i := nI p2) (vp_in_nI (by omega) (by decide)) (v := s3.2.2 14 p2) (congrArg (s3.2.2 14) (nI_clamp (n := p2) (by omega))) dX6_talk_23 ?_
  replace hR := bd_to hR (congrArg (s3.2.2 14) (nI_clamp (n := p2) (by omega)))
  refine lv_iadd hx hb dX6_talk_24 ?_
  refine lv_topi (fun x4 e4 => ?_)
  replace hR := bd_to hR e4.symm
  subst hPQ
  exact x_iret E h ⟨hR0.trans hR.symm, hI3, hF3⟩ dX6_talk_25
set_option maxHeartbeats 4000000 in
set_option maxRecDepth 100000 in
theorem aX6_two_0 (l : Launch) (g : CX) (σ : ST) (hI : INV σ) (p2 : Nat) (hh0 : p2 < 48) : XM l g yX6_two wsX6_two { frames := 3, cells := 0, slots := 0, locals := 66 } [.ref (g.2.1 77), .ref (g.2.1 16), .int (nI p2)] σ (XQi g (fun r σ' => fX6_two_0 (nI p2) σ = (r, σ') ∧ INV σ' ∧ Fr [] [] σ σ')) := by
  refine x_met (own := RX6) (cc := cX6_two) (maxL := 3) (ret := (some .int)) (lv := [(0, .ref (g.2.1 77)), (1, .ref (g.2.1 16)), (2, .int (nI p2))]) (by decide) rfl rfl (Nat.le_of_ble_eq_true rfl) rfl ?_
  intro p e s m args below meth c ls E h hl
  have hx := E.1
  have hb := E.2.1
  have hown := E.2.2.2.1
  have hts := E.2.2.2.2.1
  have hF : Fr [] [] σ σ := Fr.refl σ
  obtain ⟨R, hR0⟩ : ∃ R, fX6_two_0 (nI p2) σ = R := ⟨_, rfl⟩
  have hR : fX6_two_0b0 (nI p2) σ = R := hR0
  have hwX6 : ∀ w ∈ wsX60, w ∈ wsX6_two := by decide +kernel
  generalize hPQ : XQi g (fun r σ' => fX6_two_0 (nI p2) σ = (r, σ') ∧ INV σ' ∧ Fr [] [] σ σ') = PQz
  refine lv_aload_n hx hb dX6_two_0 rfl (lv_at hl 0 rfl) ?_
  refine lv_dup hx hb dX6_two_1 rfl ?_
  refine x_getL E h (fl_ki_asked g) rfl hwX6 (by decide) (by decide +kernel) rfl dX6_two_2 ?_
  replace hR := bd_to hR rfl
  refine lv_ldc2 (v := 1000) hx hb hown (hts (.constantLong RX6 56 (1000)) (by decide +kernel)) dX6_two_5 ?_
  refine lv_ladd hx hb dX6_two_8 ?_
  refine lv_topl (fun y1 e1 => ?_)
  replace hR := bd_to hR e1.symm
  refine y_putL E h hI hF (ty := .long) (v := y1) (fl_ki_asked g) rfl hwX6 tyX6_ok nmX6 (by decide) (by decide +kernel) (by decide +kernel) (by decide +kernel) rfl rfl dX6_two_9 (fun s2 H locs q2 hI2 hF2 h => ?_)
  replace hR := bd_to hR q2.symm
  refine lv_aload_n hx hb dX6_two_12 rfl (lv_at hl 0 rfl) ?_
  refine lv_aload_n hx hb dX6_two_13 rfl (lv_at hl 1 rfl) ?_
  refine lv_iload_n hx hb dX6_two_14 rfl (lv_at hl 2 rfl) ?_
  refine x_vi E h (na := 2) (As := [.ref (g.2.1 16), .int (nI p2)]) (aX6_talk_0 l g s2 hI2 p2 (by omega)) (oc_ki g) rfl gX6_two_X6_talk rfl ⟨rfl, rfl⟩ rfl (by decide +kernel) ⟨Nat.le_of_ble_eq_true rfl, Nat.le_of_ble_eq_true rfl⟩ hl.1 rfl (Nat.le_of_ble_eq_true rfl) dX6_two_15 ⟨Nat.le_of_ble_eq_true rfl, Nat.le_of_ble_eq_true rfl⟩ (fun r3 s3 H locs q3 h => ?_)
  obtain ⟨x3, hI3, f3⟩ := q3
  replace hR := bp_to hR x3
  have hF3 := hF2.call f3 (I := []) (J := []) rfl rfl
  refine lv_iconst (v := 1) hx hb dX6_two_18 (by decide) ?_
  refine lv_iadd hx hb dX6_two_19 ?_
  refine lv_topi (fun x4 e4 => ?_)
  replace hR := bd_to hR e4.symm
  refine lv_iconst (v := 2) hx hb dX6_two_20 (by decide) ?_
  refine lv_idiv hx hb dX6_two_21 (by decide) ?_
  refine lv_topi (fun x5 e5 => ?_)
  replace hR := bd_to hR e5.symm
  subst hPQ
  exact x_iret E h ⟨hR0.trans hR.symm, hI3, hF3⟩ dX6_two_22
