set_option maxHeartbeats 4000000 in
set_option maxRecDepth 100000 in
theorem aX9_giveOne_0 (l : Launch) (g : CX) (σ : ST) (hI : INV σ) (p1 : Nat) (p2 : Nat) (hh0 : p1 < 32) (hh1 : p2 < 9) : XM l g yX9_giveOne wsX9_giveOne { frames := 1, cells := 0, slots := 0, locals := 21 } [.ref (g.2.1 65), .int (nI p1), .ref (g.2.1 (67 + p2))] σ (XQv g (fun σ' => INV σ' ∧ Fr [] [(64, 64)] σ σ')) := by
  refine x_met (own := RX9) (cc := cX9_giveOne) (maxL := 5) (ret := none) (lv := [(0, .ref (g.2.1 65)), (1, .int (nI p1)), (2, .ref (g.2.1 (67 + p2)))]) (by decide) rfl rfl (Nat.le_of_ble_eq_true rfl) rfl ?_
  intro p e s m args below meth c ls E h hl
  have hx := E.1
  have hb := E.2.1
  have hown := E.2.2.2.1
  have hts := E.2.2.2.2.1
  have hF : Fr [] [(64, 64)] σ σ := Fr.refl σ
  have hwX9 : ∀ w ∈ wsX90, w ∈ wsX9_giveOne := by decide +kernel
  refine lv_iconst (v := 0) hx hb dX9_giveOne_0 (by decide) ?_
  refine lv_istore_n (lv' := [(3, .int 0), (0, .ref (g.2.1 65)), (1, .int (nI p1)), (2, .ref (g.2.1 (67 + p2)))]) hx hb dX9_giveOne_1 rfl hl (by decide) rfl (fun ls hl => ?_)
  have loop2_1 : ∀ (fu : Nat) (t1 : ST) (i1_3 : Nat), INV t1 → Fr [] [(64, 64)] σ t1 → i1_3 ≤ 5 → 5 - i1_3 < fu → ∀ (H : Heap) (locs : List Loc) (ls : Array Slot), HW g t1 s H locs → lv_has ls 5 [(3, .int (nI i1_3)), (0, .ref (g.2.1 65)), (1, .int (nI p1)), (2, .ref (g.2.1 (67 + p2)))] → W p l e { frames := 1, cells := 0, slots := 0, locals := 21 } s m args below meth c H locs 0 0 (MQ below (XQv g (fun σ' => INV σ' ∧ Fr [] [(64, 64)] σ σ')) args s 0 0 (Aw g)) (F0 m 2 ls []) := by
    intro fu
    induction fu with
    | zero => intro t1 i1_3 hI_1 hF_1 bi1_3 hm; exact absurd hm (Nat.not_lt_zero _)
    | succ fu ih =>
      have ih1 := ih
      clear ih
      intro t1 i1_3 hI_1 hF_1 bi1_3 hm1 H locs ls h hl
      refine lv_iload_n hx hb dX9_giveOne_2 rfl (lv_at hl 0 rfl) ?_
      refine lv_iconst (v := 5) hx hb dX9_giveOne_3 (by decide) ?_
      refine lv_icmp_ge (tgt := 54) hx hb dX9_giveOne_4 (by decide) (fun c2 => ?_) (fun c2 => ?_)
      · skip
        have b3 : 5 ≤ i1_3 := y_le (a := 5) (b := i1_3) (by omega) (by omega) c2
        exact x_vret E h ⟨hI_1, hF_1⟩ dX9_giveOne_54
      · skip
        have b4 : i1_3 < 5 := y_nle (a := 5) (b := i1_3) (by omega) (by omega) c2
        refine lv_iload_n hx hb dX9_giveOne_7 rfl (lv_at hl 2 rfl) ?_
        refine lv_iconst (v := 1) hx hb dX9_giveOne_8 (by decide) ?_
        refine lv_iload_n hx hb dX9_giveOne_9 rfl (lv_at hl 0 rfl) ?_
        refine lv_ishl hx hb dX9_giveOne_10 ?_
        refine x_topI (v2 := nI (2 ^ i1_3)) (y_shl1 (by omega)) ?_
        have b5 := y_pow (p := i1_3) (by omega)
        refine lv_iconst (v := (-1)) hx hb dX9_giveOne_11 (by decide) ?_
        refine lv_ixor hx hb dX9_giveOne_12 ?_
        refine lv_topi (fun x6 e6 => ?_)
        refine lv_iand hx hb dX9_giveOne_13 ?_
        obtain ⟨n7, b7, e7⟩ := x_and p1 x6 (by omega)
        refine x_topI (v2 := nI n7) e7 ?_
        refine lv_istore (lv' := [(4, .int (nI n7)), (3, .int (nI i1_3)), (0, .ref (g.2.1 65)), (1, .int (nI p1)), (2, .ref (g.2.1 (67 + p2)))]) hx hb dX9_giveOne_14 hl (by decide) rfl (fun ls hl => ?_)
        refine lv_iload hx hb dX9_giveOne_16 (lv_at hl 0 rfl) ?_
        refine lv_iload_n hx hb dX9_giveOne_18 rfl (lv_at hl 3 rfl) ?_
        have j48_10 : ∀ (t10 : ST), INV t10 → Fr [] [(64, 64)] σ t10 → ∀ (H : Heap) (locs : List Loc) (ls : Array Slot), HW g t10 s H locs → lv_has ls 5 [(4, .int (nI n7)), (3, .int (nI i1_3)), (0, .ref (g.2.1 65)), (1, .int (nI p1)), (2, .ref (g.2.1 (67 + p2)))] → W p l e { frames := 1, cells := 0, slots := 0, locals := 21 } s m args below meth c H locs 0 0 (MQ below (XQv g (fun σ' => INV σ' ∧ Fr [] [(64, 64)] σ σ')) args s 0 0 (Aw g)) (F0 m 48 ls []) := by
          intro t10 hI_10 hF_10 H locs ls h hl
          refine lv_iinc (v := (nI (i1_3 + 1))) (lv' := [(3, .int (nI (i1_3 + 1))), (4, .int (nI n7)), (0, .ref (g.2.1 65)), (1, .int (nI p1)), (2, .ref (g.2.1 (67 + p2)))]) hx hb dX9_giveOne_48 hl (k := 1) rfl (nI_add i1_3 1) (by decide) rfl (fun ls hl => ?_)
          refine lv_goto (tgt := 2) hx hb dX9_giveOne_51 (by decide) ?_
          exact ih1 t10 (i1_3 + 1) hI_10 hF_10 (by omega) (by omega) _ _ _ h (lv_sub hl [0, 2, 3, 4] rfl)
        refine lv_icmp_eq (tgt := 48) hx hb dX9_giveOne_19 (by decide) (fun c8 => ?_) (fun c8 => ?_)
        · skip
          have b9 : n7 = p1 := y_eq (a := n7) (b := p1) (by omega) (by omega) c8
          exact j48_10 t1 hI_1 hF_1 _ _ _ h (lv_sub hl [0, 1, 2, 3, 4] rfl)
        · skip
          have b11 : ¬ n7 = p1 := y_ne (a := n7) (b := p1) (by omega) (by omega) c8
          refine lv_aload_n hx hb dX9_giveOne_22 rfl (lv_at hl 2 rfl) ?_
          refine x_getR E h (fr_ve_right g) rfl hwX9 (by decide) (by decide +kernel) dX9_giveOne_23 ?_
          refine lv_iload_n hx hb dX9_giveOne_26 rfl (lv_at hl 3 rfl) ?_
          refine lv_aload_n hx hb dX9_giveOne_27 rfl (lv_at hl 2 rfl) ?_
          refine x_getR E h (fr_ve_right g) rfl hwX9 (by decide) (by decide +kernel) dX9_giveOne_28 ?_
          refine lv_iload_n hx hb dX9_giveOne_31 rfl (lv_at hl 3 rfl) ?_
          refine x_ldI E h (ia_ve_right g) (i := nI p1) (vp_in_nI (by omega) (by decide)) (v := t1.2.2 64 p1) (congrArg (t1.2.2 64) (nI_clamp (by omega))) dX9_giveOne_32 ?_
          refine lv_aload_n hx hb dX9_giveOne_33 rfl (lv_at hl 2 rfl) ?_
          refine x_getR E h (fr_ve_right g) rfl hwX9 (by decide) (by decide +kernel) dX9_giveOne_34 ?_
          refine lv_iload hx hb dX9_giveOne_37 (lv_at hl 0 rfl) ?_
          refine x_ldI E h (ia_ve_right g) (i := nI n7) (vp_in_nI (by omega) (by decide)) (v := t1.2.2 64 n7) (congrArg (t1.2.2 64) (nI_clamp (by omega))) dX9_giveOne_39 ?_
          refine lv_aload_n hx hb dX9_giveOne_40 rfl (lv_at hl 4 rfl) ?_
          refine lv_iload_n hx hb dX9_giveOne_41 rfl (lv_at hl 1 rfl) ?_
          refine x_ldI E h (gi_ve_together g p2 (by omega)) (i := nI i1_3) (vp_in_nI (by omega) (by decide)) (v := t1.2.2 (55 + p2) i1_3) (congrArg (t1.2.2 (55 + p2)) (nI_clamp (by omega))) dX9_giveOne_42 ?_
          refine lv_iadd hx hb dX9_giveOne_43 ?_
          refine lv_topi (fun x12 e12 => ?_)
          refine x_max E hl.1 (by decide +kernel) (by decide +kernel) (by decide +kernel) (by decide +kernel) ⟨Nat.le_of_ble_eq_true rfl, Nat.le_of_ble_eq_true rfl⟩ ⟨Nat.zero_le _, Nat.zero_le _⟩ dX9_giveOne_44 ?_
          refine lv_topi (fun x13 e13 => ?_)
          refine y_stI E h hI_1 hF_1 (ia_ve_right g) (i := nI p1) (vp_in_nI (by omega) (by decide)) (j := p1) (nI_clamp (by omega)) (ba_none rfl) rfl dX9_giveOne_47 (fun s14 H locs q14 hI14 hF14 h => ?_)
          exact j48_10 s14 hI14 hF14 _ _ _ h (lv_sub hl [0, 1, 2, 3, 4] rfl)
  exact loop2_1 _ σ 0 hI hF (Nat.zero_le _) (Nat.lt_succ_self _) _ _ _ h (lv_sub hl [0, 1, 2, 3] rfl)
set_option maxHeartbeats 4000000 in
set_option maxRecDepth 100000 in
theorem aX9_wrong_0 (l : Launch) (g : CX) (σ : ST) (hI : INV σ)  : XM l g yX9_wrong wsX9_wrong { frames := 2, cells := 0, slots := 0, locals := 50 } [.ref (g.2.1 65), .ref (g.2.1 5), .ref (g.2.1 16), .ref (g.2.1 48)] σ (XQi g (fun r σ' => INV σ' ∧ Fr [] [(55, 64)] σ σ')) := by
  refine x_met (own := RX9) (cc := cX9_wrong) (maxL := 7) (ret := (some .int)) (lv := [(0, .ref (g.2.1 65)), (1, .ref (g.2.1 5)), (2, .ref (g.2.1 16)), (3, .ref (g.2.1 48))]) (by decide) rfl rfl (Nat.le_of_ble_eq_true rfl) rfl ?_
  intro p e s m args below meth c ls E h hl
  have hx := E.1
  have hb := E.2.1
  have hown := E.2.2.2.1
  have hts := E.2.2.2.2.1
  have hF : Fr [] [(55, 64)] σ σ := Fr.refl σ
  have hwX4 : ∀ w ∈ wsX40, w ∈ wsX9_wrong := by decide +kernel
  have hwX9 : ∀ w ∈ wsX90, w ∈ wsX9_wrong := by decide +kernel
  refine lv_aload_n hx hb dX9_wrong_0 rfl (lv_at hl 0 rfl) ?_
  refine lv_aload_n hx hb dX9_wrong_1 rfl (lv_at hl 1 rfl) ?_
  refine lv_aload_n hx hb dX9_wrong_2 rfl (lv_at hl 2 rfl) ?_
  refine lv_aload_n hx hb dX9_wrong_3 rfl (lv_at hl 3 rfl) ?_
  refine x_vi E h (na := 3) (As := [.ref (g.2.1 5), .ref (g.2.1 16), .ref (g.2.1 48)]) (aX9_countTogether_0 l g σ hI) (oc_ve g) rfl gX9_wrong_X9_countTogether rfl ⟨rfl, rfl⟩ rfl (by decide +kernel) ⟨Nat.le_of_ble_eq_true rfl, Nat.le_of_ble_eq_true rfl⟩ hl.1 rfl (Nat.le_of_ble_eq_true rfl) dX9_wrong_4 ⟨Nat.le_of_ble_eq_true rfl, Nat.le_of_ble_eq_true rfl⟩ (fun r1 s1 H locs q1 h => ?_)
  obtain ⟨hI1, f1⟩ := q1
  have hF1 := hF.call f1 (I := []) (J := [(55, 64)]) rfl rfl
  refine lv_istore (lv' := [(4, .int r1), (0, .ref (g.2.1 65)), (1, .ref (g.2.1 5)), (2, .ref (g.2.1 16)), (3, .ref (g.2.1 48))]) hx hb dX9_wrong_7 hl (by decide) rfl (fun ls hl => ?_)
  refine lv_aload_n hx hb dX9_wrong_9 rfl (lv_at hl 1 rfl) ?_
  refine x_getR E h (fr_ve_right g) rfl hwX9 (by decide) (by decide +kernel) dX9_wrong_10 ?_
  refine lv_iconst (v := 0) hx hb dX9_wrong_13 (by decide) ?_
  refine x_sv E h (na := 2) (As := [.ref (g.2.1 76), .int 0]) (k_fill l g _ 76 32 64 (ia_ve_right g) (by decide) 0) gX9_wrong_J7_fill_53178 rfl ⟨rfl, rfl⟩ rfl (by decide +kernel) ⟨Nat.le_of_ble_eq_true rfl, Nat.le_of_ble_eq_true rfl⟩ hl.1 rfl (Nat.le_of_ble_eq_true rfl) dX9_wrong_14 ⟨Nat.le_of_ble_eq_true rfl, Nat.le_of_ble_eq_true rfl⟩ (fun s2 H locs q2 h => ?_)
  have hI2 : INV s2 := by rw [← q2]; exact hI1.fill rfl _
  have hF2 : Fr [] [(55, 64)] σ s2 := by rw [← q2]; exact hF1.putA rfl
  refine lv_iconst (v := 0) hx hb dX9_wrong_17 (by decide) ?_
  refine lv_istore (lv' := [(5, .int 0), (4, .int r1), (0, .ref (g.2.1 65)), (1, .ref (g.2.1 5)), (2, .ref (g.2.1 16)), (3, .ref (g.2.1 48))]) hx hb dX9_wrong_18 hl (by decide) rfl (fun ls hl => ?_)
  obtain ⟨n4, b4, e4⟩ := hI2.1 10 9 rfl
  have loop20_3 : ∀ (fu : Nat) (t3 : ST) (i3_5 : Nat), INV t3 → Fr [] [(55, 64)] σ t3 → t3.1 10 = nI n4 → i3_5 ≤ n4 → n4 - i3_5 < fu → ∀ (H : Heap) (locs : List Loc) (ls : Array Slot), HW g t3 s H locs → lv_has ls 7 [(5, .int (nI i3_5)), (4, .int r1), (0, .ref (g.2.1 65)), (1, .ref (g.2.1 5)), (2, .ref (g.2.1 16)), (3, .ref (g.2.1 48))] → W p l e { frames := 2, cells := 0, slots := 0, locals := 50 } s m args below meth c H locs 0 0 (MQ below (XQi g (fun r σ' => INV σ' ∧ Fr [] [(55, 64)] σ σ')) args s 0 0 (Aw g)) (F0 m 20 ls []) := by
    intro fu
    induction fu with
    | zero => intro t3 i3_5 hI_3 hF_3 e5 bi3_5 hm; exact absurd hm (Nat.not_lt_zero _)
    | succ fu ih =>
      have ih3 := ih
      clear ih
      intro t3 i3_5 hI_3 hF_3 e5 bi3_5 hm3 H locs ls h hl
      refine lv_iload hx hb dX9_wrong_20 (lv_at hl 0 rfl) ?_
      refine lv_aload_n hx hb dX9_wrong_22 rfl (lv_at hl 5 rfl) ?_
      refine x_getIN E h (fi_be_heaps g) rfl hwX4 (by decide) (by decide +kernel) (v := nI n4) e5 dX9_wrong_23 ?_
      refine lv_icmp_ge (tgt := 75) hx hb dX9_wrong_26 (by decide) (fun c6 => ?_) (fun c6 => ?_)
      · skip
        have b7 : n4 ≤ i3_5 := y_le (a := n4) (b := i3_5) (by omega) (by omega) c6
        refine lv_iload hx hb dX9_wrong_75 (lv_at hl 1 rfl) ?_
        refine lv_aload_n hx hb dX9_wrong_77 rfl (lv_at hl 2 rfl) ?_
        refine x_getR E h (fr_ve_right g) rfl hwX9 (by decide) (by decide +kernel) dX9_wrong_78 ?_
        refine lv_aload_n hx hb dX9_wrong_81 rfl (lv_at hl 2 rfl) ?_
        refine x_getR E h (fr_ve_right g) rfl hwX9 (by decide) (by decide +kernel) dX9_wrong_82 ?_
        refine x_len E h (ia_ve_right g) (v := 32) (by decide) dX9_wrong_85 ?_
        refine lv_iconst (v := 1) hx hb dX9_wrong_86 (by decide) ?_
        refine lv_isub hx hb dX9_wrong_87 ?_
        refine x_topI (v2 := 31) (by decide) ?_
        refine x_ldI E h (ia_ve_right g) (i := nI 31) (vp_in_nI (by omega) (by decide)) (v := t3.2.2 64 31) (congrArg (t3.2.2 64) (nI_clamp (by omega))) dX9_wrong_88 ?_
        refine lv_isub hx hb dX9_wrong_89 ?_
        refine lv_topi (fun x8 e8 => ?_)
        exact x_iret E h ⟨hI_3, hF_3⟩ dX9_wrong_90
      · skip
        have b9 : i3_5 < n4 := y_nle (a := n4) (b := i3_5) (by omega) (by omega) c6
        refine lv_iload hx hb dX9_wrong_29 (lv_at hl 0 rfl) ?_
        refine lv_bipush (v := 9) hx hb dX9_wrong_31 (by decide) ?_
        refine lv_icmp_ge (tgt := 75) hx hb dX9_wrong_33 (by decide) (fun c10 => ?_) (fun c10 => ?_)
        · skip
          have b11 : 9 ≤ i3_5 := y_le (a := 9) (b := i3_5) (by omega) (by omega) c10
          refine lv_iload hx hb dX9_wrong_75 (lv_at hl 1 rfl) ?_
          refine lv_aload_n hx hb dX9_wrong_77 rfl (lv_at hl 2 rfl) ?_
          refine x_getR E h (fr_ve_right g) rfl hwX9 (by decide) (by decide +kernel) dX9_wrong_78 ?_
          refine lv_aload_n hx hb dX9_wrong_81 rfl (lv_at hl 2 rfl) ?_
          refine x_getR E h (fr_ve_right g) rfl hwX9 (by decide) (by decide +kernel) dX9_wrong_82 ?_
          refine x_len E h (ia_ve_right g) (v := 32) (by decide) dX9_wrong_85 ?_
          refine lv_iconst (v := 1) hx hb dX9_wrong_86 (by decide) ?_
          refine lv_isub hx hb dX9_wrong_87 ?_
          refine x_topI (v2 := 31) (by decide) ?_
          refine x_ldI E h (ia_ve_right g) (i := nI 31) (vp_in_nI (by omega) (by decide)) (v := t3.2.2 64 31) (congrArg (t3.2.2 64) (nI_clamp (by omega))) dX9_wrong_88 ?_
          refine lv_isub hx hb dX9_wrong_89 ?_
          refine lv_topi (fun x12 e12 => ?_)
          exact x_iret E h ⟨hI_3, hF_3⟩ dX9_wrong_90
        · skip
          have b13 : i3_5 < 9 := y_nle (a := 9) (b := i3_5) (by omega) (by omega) c10
          refine lv_aload_n hx hb dX9_wrong_36 rfl (lv_at hl 2 rfl) ?_
          refine x_getR E h (fr_ve_right g) rfl hwX9 (by decide) (by decide +kernel) dX9_wrong_37 ?_
          refine x_len E h (ia_ve_right g) (v := 32) (by decide) dX9_wrong_40 ?_
          refine lv_iconst (v := 1) hx hb dX9_wrong_41 (by decide) ?_
          refine lv_isub hx hb dX9_wrong_42 ?_
          refine x_topI (v2 := 31) (by decide) ?_
          refine lv_istore (lv' := [(6, .int 31), (5, .int (nI i3_5)), (4, .int r1), (0, .ref (g.2.1 65)), (1, .ref (g.2.1 5)), (2, .ref (g.2.1 16)), (3, .ref (g.2.1 48))]) hx hb dX9_wrong_43 hl (by decide) rfl (fun ls hl => ?_)
          have loop45_14 : ∀ (fu : Nat) (t14 : ST) (i14_6 : Nat), INV t14 → Fr [] [(55, 64)] σ t14 → t14.1 10 = nI n4 → i14_6 ≤ 31 → i14_6 < fu → ∀ (H : Heap) (locs : List Loc) (ls : Array Slot), HW g t14 s H locs → lv_has ls 7 [(6, .int (nI i14_6)), (5, .int (nI i3_5)), (4, .int r1), (0, .ref (g.2.1 65)), (1, .ref (g.2.1 5)), (2, .ref (g.2.1 16)), (3, .ref (g.2.1 48))] → W p l e { frames := 2, cells := 0, slots := 0, locals := 50 } s m args below meth c H locs 0 0 (MQ below (XQi g (fun r σ' => INV σ' ∧ Fr [] [(55, 64)] σ σ')) args s 0 0 (Aw g)) (F0 m 45 ls []) := by
            intro fu
            induction fu with
            | zero => intro t14 i14_6 hI_14 hF_14 e15 bi14_6 hm; exact absurd hm (Nat.not_lt_zero _)
            | succ fu ih =>
              have ih14 := ih
              clear ih
              intro t14 i14_6 hI_14 hF_14 e15 bi14_6 hm14 H locs ls h hl
              refine lv_iload hx hb dX9_wrong_45 (lv_at hl 0 rfl) ?_
              refine lv_if_le (tgt := 69) hx hb dX9_wrong_47 (by decide) (fun c16 => ?_) (fun c16 => ?_)
              · skip
                have b17 : i14_6 ≤ 0 := y_le (a := i14_6) (b := 0) (by omega) (by omega) c16
                refine lv_iinc (v := (nI (i3_5 + 1))) (lv' := [(5, .int (nI (i3_5 + 1))), (6, .int (nI i14_6)), (4, .int r1), (0, .ref (g.2.1 65)), (1, .ref (g.2.1 5)), (2, .ref (g.2.1 16)), (3, .ref (g.2.1 48))]) hx hb dX9_wrong_69 hl (k := 1) rfl (nI_add i3_5 1) (by decide) rfl (fun ls hl => ?_)
                refine lv_goto (tgt := 20) hx hb dX9_wrong_72 (by decide) ?_
                exact ih3 t14 (i3_5 + 1) hI_14 hF_14 e15 (by omega) (by omega) _ _ _ h (lv_sub hl [0, 2, 3, 4, 5, 6] rfl)
              · skip
                have b18 : 0 < i14_6 := y_nle (a := i14_6) (b := 0) (by omega) (by omega) c16
                refine lv_aload_n hx hb dX9_wrong_50 rfl (lv_at hl 3 rfl) ?_
                refine lv_iload hx hb dX9_wrong_51 (lv_at hl 0 rfl) ?_
                refine lv_aload_n hx hb dX9_wrong_53 rfl (lv_at hl 3 rfl) ?_
                refine x_getR E h (fr_ve_together g) rfl hwX9 (by decide) (by decide +kernel) dX9_wrong_54 ?_
                refine lv_iload hx hb dX9_wrong_57 (lv_at hl 1 rfl) ?_
                refine x_row E h (fg_ve_together g) (i := nI i3_5) (vp_in_nI (by omega) (by decide)) (kr := 67 + i3_5) (by rw [nI_clamp (by omega)]) dX9_wrong_59 ?_
                refine x_vv E h (na := 2) (As := [.int (nI i14_6), .ref (g.2.1 (67 + i3_5))]) (aX9_giveOne_0 l g t14 hI_14 i14_6 i3_5 (by omega) (by omega)) (oc_ve g) rfl gX9_wrong_X9_giveOne rfl ⟨rfl, rfl⟩ rfl (by decide +kernel) ⟨Nat.le_of_ble_eq_true rfl, Nat.le_of_ble_eq_true rfl⟩ hl.1 rfl (Nat.le_of_ble_eq_true rfl) dX9_wrong_60 ⟨Nat.le_of_ble_eq_true rfl, Nat.le_of_ble_eq_true rfl⟩ (fun s19 H locs q19 h => ?_)
                obtain ⟨hI19, f19⟩ := q19
                have hF19 := hF_14.call f19 (I := []) (J := [(55, 64)]) rfl rfl
                have e20 : s19.1 10 = nI n4 := ((f19.1 10 rfl)).trans e15
                refine lv_iinc (v := (nI (i14_6 - 1))) (lv' := [(6, .int (nI (i14_6 - 1))), (5, .int (nI i3_5)), (4, .int r1), (0, .ref (g.2.1 65)), (1, .ref (g.2.1 5)), (2, .ref (g.2.1 16)), (3, .ref (g.2.1 48))]) hx hb dX9_wrong_63 hl (k := 0) rfl (y_dec1 (by omega)) (by decide) rfl (fun ls hl => ?_)
                refine lv_goto (tgt := 45) hx hb dX9_wrong_66 (by decide) ?_
                exact ih14 s19 (i14_6 - 1) hI19 hF19 e20 (by omega) (by omega) _ _ _ h (lv_sub hl [0, 1, 2, 3, 4, 5, 6] rfl)
          exact loop45_14 _ t3 31 hI_3 hF_3 e5 (by omega) (Nat.lt_succ_self _) _ _ _ h (lv_sub hl [0, 1, 2, 3, 4, 5, 6] rfl)
  exact loop20_3 _ s2 0 hI2 hF2 e4 (Nat.zero_le _) (Nat.lt_succ_self _) _ _ _ h (lv_sub hl [0, 1, 2, 3, 4, 5] rfl)
set_option maxHeartbeats 4000000 in
set_option maxRecDepth 100000 in
theorem aX9_madeUp_0 (l : Launch) (g : CX) (σ : ST) (hI : INV σ)  : XM l g yX9_madeUp wsX9_madeUp { frames := 0, cells := 0, slots := 0, locals := 0 } [.ref (g.2.1 65), .ref (g.2.1 5), .ref (g.2.1 16)] σ (XQi g (fun r σ' => σ = σ')) := by
  refine x_met (own := RX9) (cc := cX9_madeUp) (maxL := 5) (ret := (some .int)) (lv := [(0, .ref (g.2.1 65)), (1, .ref (g.2.1 5)), (2, .ref (g.2.1 16))]) (by decide) rfl rfl (Nat.le_of_ble_eq_true rfl) rfl ?_
  intro p e s m args below meth c ls E h hl
  have hx := E.1
  have hb := E.2.1
  have hown := E.2.2.2.1
  have hts := E.2.2.2.2.1
  have hwX2 : ∀ w ∈ wsX20, w ∈ wsX9_madeUp := by decide +kernel
  have hwX7 : ∀ w ∈ wsX70, w ∈ wsX9_madeUp := by decide +kernel
  refine lv_iconst (v := 0) hx hb dX9_madeUp_0 (by decide) ?_
  refine lv_istore_n (lv' := [(3, .int 0), (0, .ref (g.2.1 65)), (1, .ref (g.2.1 5)), (2, .ref (g.2.1 16))]) hx hb dX9_madeUp_1 rfl hl (by decide) rfl (fun ls hl => ?_)
  refine lv_iconst (v := 0) hx hb dX9_madeUp_2 (by decide) ?_
  refine lv_istore (lv' := [(4, .int 0), (3, .int 0), (0, .ref (g.2.1 65)), (1, .ref (g.2.1 5)), (2, .ref (g.2.1 16))]) hx hb dX9_madeUp_3 hl (by decide) rfl (fun ls hl => ?_)
  obtain ⟨n2, b2, e2⟩ := hI.1 2 48 rfl
  have loop5_1 : ∀ (fu : Nat) (i1_4 : Nat) (i1_3 : Int32), i1_4 ≤ n2 → n2 - i1_4 < fu → ∀ (H : Heap) (locs : List Loc) (ls : Array Slot), HW g σ s H locs → lv_has ls 5 [(4, .int (nI i1_4)), (3, .int i1_3), (0, .ref (g.2.1 65)), (1, .ref (g.2.1 5)), (2, .ref (g.2.1 16))] → W p l e { frames := 0, cells := 0, slots := 0, locals := 0 } s m args below meth c H locs 0 0 (MQ below (XQi g (fun r σ' => σ = σ')) args s 0 0 (Aw g)) (F0 m 5 ls []) := by
    intro fu
    induction fu with
    | zero => intro i1_4 i1_3 bi1_4 hm; exact absurd hm (Nat.not_lt_zero _)
    | succ fu ih =>
      have ih1 := ih
      clear ih
      intro i1_4 i1_3 bi1_4 hm1 H locs ls h hl
      refine lv_iload hx hb dX9_madeUp_5 (lv_at hl 0 rfl) ?_
      refine lv_aload_n hx hb dX9_madeUp_7 rfl (lv_at hl 3 rfl) ?_
      refine x_getIN E h (fi_bk_rows g) rfl hwX7 (by decide) (by decide +kernel) (v := nI n2) e2 dX9_madeUp_8 ?_
      refine lv_icmp_ge (tgt := 50) hx hb dX9_madeUp_11 (by decide) (fun c3 => ?_) (fun c3 => ?_)
      · skip
        have b4 : n2 ≤ i1_4 := y_le (a := n2) (b := i1_4) (by omega) (by omega) c3
        refine lv_iload_n hx hb dX9_madeUp_50 rfl (lv_at hl 1 rfl) ?_
        exact x_iret E h rfl dX9_madeUp_51
      · skip
        have b5 : i1_4 < n2 := y_nle (a := n2) (b := i1_4) (by omega) (by omega) c3
        refine lv_iload_n hx hb dX9_madeUp_14 rfl (lv_at hl 1 rfl) ?_
        refine lv_aload_n hx hb dX9_madeUp_15 rfl (lv_at hl 3 rfl) ?_
        refine x_getRN E h (fr_bk_truthOf g) rfl hwX7 (by decide) (by decide +kernel) dX9_madeUp_16 ?_
        refine lv_iload hx hb dX9_madeUp_19 (lv_at hl 0 rfl) ?_
        refine x_ldI E h (ia_bk_truthOf g) (i := nI i1_4) (vp_in_nI (by omega) (by decide)) (v := σ.2.2 6 i1_4) (congrArg (σ.2.2 6) (nI_clamp (by omega))) dX9_madeUp_21 ?_
        have j42_8 : ∀ (y8_s0 : Int32), ∀ (H : Heap) (locs : List Loc) (ls : Array Slot), HW g σ s H locs → lv_has ls 5 [(4, .int (nI i1_4)), (3, .int i1_3), (0, .ref (g.2.1 65)), (1, .ref (g.2.1 5)), (2, .ref (g.2.1 16))] → W p l e { frames := 0, cells := 0, slots := 0, locals := 0 } s m args below meth c H locs 0 0 (MQ below (XQi g (fun r σ' => σ = σ')) args s 0 0 (Aw g)) (F0 m 42 ls [.int y8_s0, .int i1_3]) := by
          intro y8_s0 H locs ls h hl
          refine lv_iadd hx hb dX9_madeUp_42 ?_
          refine lv_topi (fun x9 e9 => ?_)
          refine lv_istore_n (lv' := [(3, .int x9), (4, .int (nI i1_4)), (0, .ref (g.2.1 65)), (1, .ref (g.2.1 5)), (2, .ref (g.2.1 16))]) hx hb dX9_madeUp_43 rfl hl (by decide) rfl (fun ls hl => ?_)
          refine lv_iinc (v := (nI (i1_4 + 1))) (lv' := [(4, .int (nI (i1_4 + 1))), (3, .int x9), (0, .ref (g.2.1 65)), (1, .ref (g.2.1 5)), (2, .ref (g.2.1 16))]) hx hb dX9_madeUp_44 hl (k := 1) rfl (nI_add i1_4 1) (by decide) rfl (fun ls hl => ?_)
          refine lv_goto (tgt := 5) hx hb dX9_madeUp_47 (by decide) ?_
          exact ih1 (i1_4 + 1) x9 (by omega) (by omega) _ _ _ h (lv_sub hl [0, 1, 2, 3, 4] rfl)
        refine lv_if_ne (tgt := 41) hx hb dX9_madeUp_22 (by decide) (fun c6 => ?_) (fun c6 => ?_)
        · skip
          refine lv_iconst (v := 0) hx hb dX9_madeUp_41 (by decide) ?_
          exact j42_8 0 _ _ _ h (lv_sub hl [0, 1, 2, 3, 4] rfl)
        · skip
          refine lv_aload_n hx hb dX9_madeUp_25 rfl (lv_at hl 4 rfl) ?_
          refine x_getRN E h (fr_cu_pieceOf g) rfl hwX2 (by decide) (by decide +kernel) dX9_madeUp_26 ?_
          refine lv_iload hx hb dX9_madeUp_29 (lv_at hl 0 rfl) ?_
          refine x_ldI E h (ia_cu_pieceOf g) (i := nI i1_4) (vp_in_nI (by omega) (by decide)) (v := σ.2.2 17 i1_4) (congrArg (σ.2.2 17) (nI_clamp (by omega))) dX9_madeUp_31 ?_
          refine lv_bipush (v := (-9)) hx hb dX9_madeUp_32 (by decide) ?_
          refine lv_icmp_eq (tgt := 41) hx hb dX9_madeUp_34 (by decide) (fun c11 => ?_) (fun c11 => ?_)
          · skip
            refine lv_iconst (v := 0) hx hb dX9_madeUp_41 (by decide) ?_
            exact j42_8 0 _ _ _ h (lv_sub hl [0, 1, 2, 3, 4] rfl)
          · skip
            refine lv_iconst (v := 1) hx hb dX9_madeUp_37 (by decide) ?_
            refine lv_goto (tgt := 42) hx hb dX9_madeUp_38 (by decide) ?_
            exact j42_8 1 _ _ _ h (lv_sub hl [0, 1, 2, 3, 4] rfl)
  exact loop5_1 _ 0 0 (Nat.zero_le _) (Nat.lt_succ_self _) _ _ _ h (lv_sub hl [0, 1, 2, 3, 4] rfl)
set_option maxHeartbeats 4000000 in
set_option maxRecDepth 100000 in
theorem aX9_missed_0 (l : Launch) (g : CX) (σ : ST) (hI : INV σ)  : XM l g yX9_missed wsX9_missed { frames := 0, cells := 0, slots := 0, locals := 0 } [.ref (g.2.1 65), .ref (g.2.1 5), .ref (g.2.1 16)] σ (XQi g (fun r σ' => σ = σ')) := by
  refine x_met (own := RX9) (cc := cX9_missed) (maxL := 5) (ret := (some .int)) (lv := [(0, .ref (g.2.1 65)), (1, .ref (g.2.1 5)), (2, .ref (g.2.1 16))]) (by decide) rfl rfl (Nat.le_of_ble_eq_true rfl) rfl ?_
  intro p e s m args below meth c ls E h hl
  have hx := E.1
  have hb := E.2.1
  have hown := E.2.2.2.1
  have hts := E.2.2.2.2.1
  have hwX2 : ∀ w ∈ wsX20, w ∈ wsX9_missed := by decide +kernel
  have hwX7 : ∀ w ∈ wsX70, w ∈ wsX9_missed := by decide +kernel
  refine lv_iconst (v := 0) hx hb dX9_missed_0 (by decide) ?_
  refine lv_istore_n (lv' := [(3, .int 0), (0, .ref (g.2.1 65)), (1, .ref (g.2.1 5)), (2, .ref (g.2.1 16))]) hx hb dX9_missed_1 rfl hl (by decide) rfl (fun ls hl => ?_)
  refine lv_iconst (v := 0) hx hb dX9_missed_2 (by decide) ?_
  refine lv_istore (lv' := [(4, .int 0), (3, .int 0), (0, .ref (g.2.1 65)), (1, .ref (g.2.1 5)), (2, .ref (g.2.1 16))]) hx hb dX9_missed_3 hl (by decide) rfl (fun ls hl => ?_)
  obtain ⟨n2, b2, e2⟩ := hI.1 2 48 rfl
  have loop5_1 : ∀ (fu : Nat) (i1_4 : Nat) (i1_3 : Int32), i1_4 ≤ n2 → n2 - i1_4 < fu → ∀ (H : Heap) (locs : List Loc) (ls : Array Slot), HW g σ s H locs → lv_has ls 5 [(4, .int (nI i1_4)), (3, .int i1_3), (0, .ref (g.2.1 65)), (1, .ref (g.2.1 5)), (2, .ref (g.2.1 16))] → W p l e { frames := 0, cells := 0, slots := 0, locals := 0 } s m args below meth c H locs 0 0 (MQ below (XQi g (fun r σ' => σ = σ')) args s 0 0 (Aw g)) (F0 m 5 ls []) := by
    intro fu
    induction fu with
    | zero => intro i1_4 i1_3 bi1_4 hm; exact absurd hm (Nat.not_lt_zero _)
    | succ fu ih =>
      have ih1 := ih
      clear ih
      intro i1_4 i1_3 bi1_4 hm1 H locs ls h hl
      refine lv_iload hx hb dX9_missed_5 (lv_at hl 0 rfl) ?_
      refine lv_aload_n hx hb dX9_missed_7 rfl (lv_at hl 3 rfl) ?_
      refine x_getIN E h (fi_bk_rows g) rfl hwX7 (by decide) (by decide +kernel) (v := nI n2) e2 dX9_missed_8 ?_
      refine lv_icmp_ge (tgt := 50) hx hb dX9_missed_11 (by decide) (fun c3 => ?_) (fun c3 => ?_)
      · skip
        have b4 : n2 ≤ i1_4 := y_le (a := n2) (b := i1_4) (by omega) (by omega) c3
        refine lv_iload_n hx hb dX9_missed_50 rfl (lv_at hl 1 rfl) ?_
        exact x_iret E h rfl dX9_missed_51
      · skip
        have b5 : i1_4 < n2 := y_nle (a := n2) (b := i1_4) (by omega) (by omega) c3
        refine lv_iload_n hx hb dX9_missed_14 rfl (lv_at hl 1 rfl) ?_
        refine lv_aload_n hx hb dX9_missed_15 rfl (lv_at hl 3 rfl) ?_
        refine x_getRN E h (fr_bk_truthOf g) rfl hwX7 (by decide) (by decide +kernel) dX9_missed_16 ?_
        refine lv_iload hx hb dX9_missed_19 (lv_at hl 0 rfl) ?_
        refine x_ldI E h (ia_bk_truthOf g) (i := nI i1_4) (vp_in_nI (by omega) (by decide)) (v := σ.2.2 6 i1_4) (congrArg (σ.2.2 6) (nI_clamp (by omega))) dX9_missed_21 ?_
        have j42_8 : ∀ (y8_s0 : Int32), ∀ (H : Heap) (locs : List Loc) (ls : Array Slot), HW g σ s H locs → lv_has ls 5 [(4, .int (nI i1_4)), (3, .int i1_3), (0, .ref (g.2.1 65)), (1, .ref (g.2.1 5)), (2, .ref (g.2.1 16))] → W p l e { frames := 0, cells := 0, slots := 0, locals := 0 } s m args below meth c H locs 0 0 (MQ below (XQi g (fun r σ' => σ = σ')) args s 0 0 (Aw g)) (F0 m 42 ls [.int y8_s0, .int i1_3]) := by
          intro y8_s0 H locs ls h hl
          refine lv_iadd hx hb dX9_missed_42 ?_
          refine lv_topi (fun x9 e9 => ?_)
          refine lv_istore_n (lv' := [(3, .int x9), (4, .int (nI i1_4)), (0, .ref (g.2.1 65)), (1, .ref (g.2.1 5)), (2, .ref (g.2.1 16))]) hx hb dX9_missed_43 rfl hl (by decide) rfl (fun ls hl => ?_)
          refine lv_iinc (v := (nI (i1_4 + 1))) (lv' := [(4, .int (nI (i1_4 + 1))), (3, .int x9), (0, .ref (g.2.1 65)), (1, .ref (g.2.1 5)), (2, .ref (g.2.1 16))]) hx hb dX9_missed_44 hl (k := 1) rfl (nI_add i1_4 1) (by decide) rfl (fun ls hl => ?_)
          refine lv_goto (tgt := 5) hx hb dX9_missed_47 (by decide) ?_
          exact ih1 (i1_4 + 1) x9 (by omega) (by omega) _ _ _ h (lv_sub hl [0, 1, 2, 3, 4] rfl)
        refine lv_if_le (tgt := 41) hx hb dX9_missed_22 (by decide) (fun c6 => ?_) (fun c6 => ?_)
        · skip
          refine lv_iconst (v := 0) hx hb dX9_missed_41 (by decide) ?_
          exact j42_8 0 _ _ _ h (lv_sub hl [0, 1, 2, 3, 4] rfl)
        · skip
          refine lv_aload_n hx hb dX9_missed_25 rfl (lv_at hl 4 rfl) ?_
          refine x_getRN E h (fr_cu_pieceOf g) rfl hwX2 (by decide) (by decide +kernel) dX9_missed_26 ?_
          refine lv_iload hx hb dX9_missed_29 (lv_at hl 0 rfl) ?_
          refine x_ldI E h (ia_cu_pieceOf g) (i := nI i1_4) (vp_in_nI (by omega) (by decide)) (v := σ.2.2 17 i1_4) (congrArg (σ.2.2 17) (nI_clamp (by omega))) dX9_missed_31 ?_
          refine lv_bipush (v := (-9)) hx hb dX9_missed_32 (by decide) ?_
          refine lv_icmp_ne (tgt := 41) hx hb dX9_missed_34 (by decide) (fun c11 => ?_) (fun c11 => ?_)
          · skip
            refine lv_iconst (v := 0) hx hb dX9_missed_41 (by decide) ?_
            exact j42_8 0 _ _ _ h (lv_sub hl [0, 1, 2, 3, 4] rfl)
          · skip
            refine lv_iconst (v := 1) hx hb dX9_missed_37 (by decide) ?_
            refine lv_goto (tgt := 42) hx hb dX9_missed_38 (by decide) ?_
            exact j42_8 1 _ _ _ h (lv_sub hl [0, 1, 2, 3, 4] rfl)
  exact loop5_1 _ 0 0 (Nat.zero_le _) (Nat.lt_succ_self _) _ _ _ h (lv_sub hl [0, 1, 2, 3, 4] rfl)
set_option maxHeartbeats 4000000 in
set_option maxRecDepth 100000 in
theorem aX11_errors_0 (l : Launch) (g : CX) (σ : ST) (hI : INV σ) (p1 : Int32) : XM l g yX11_errors wsX11_errors { frames := 16, cells := 0, slots := 0, locals := 420 } [.ref (g.2.1 0), .int p1] σ (XQi g (fun r σ' => INV σ' ∧ Fr [(3, 12), (14, 18), (22, 23)] [(8, 19), (21, 29), (31, 41), (43, 47), (55, 64)] σ σ')) := by
  refine x_met (own := RX11) (cc := cX11_errors) (maxL := 2) (ret := (some .int)) (lv := [(0, .ref (g.2.1 0)), (1, .int p1)]) (by decide) rfl rfl (Nat.le_of_ble_eq_true rfl) rfl ?_
  intro p e s m args below meth c ls E h hl
  have hx := E.1
  have hb := E.2.1
  have hown := E.2.2.2.1
  have hts := E.2.2.2.2.1
  have hF : Fr [(3, 12), (14, 18), (22, 23)] [(8, 19), (21, 29), (31, 41), (43, 47), (55, 64)] σ σ := Fr.refl σ
  have hwX0 : ∀ w ∈ wsX00, w ∈ wsX11_errors := by decide +kernel
  have hwX11 : ∀ w ∈ wsX110, w ∈ wsX11_errors := by decide +kernel
  refine lv_iload_n hx hb dX11_errors_0 rfl (lv_at hl 1 rfl) ?_
  refine lv_iconst (v := 0) hx hb dX11_errors_1 (by decide) ?_
  refine lv_iconst (v := 2) hx hb dX11_errors_2 (by decide) ?_
  refine x_si E h (na := 3) (As := [.int p1, .int 0, .int 2]) (aX11_within_0 l g σ hI p1 0 2) gX11_errors_X11_within rfl ⟨rfl, rfl⟩ rfl (by decide +kernel) ⟨Nat.le_of_ble_eq_true rfl, Nat.le_of_ble_eq_true rfl⟩ hl.1 rfl (Nat.le_of_ble_eq_true rfl) dX11_errors_3 ⟨Nat.le_of_ble_eq_true rfl, Nat.le_of_ble_eq_true rfl⟩ (fun r1 s1 H locs q1 h => ?_)
  obtain ⟨d1, rfl⟩ := q1
  rcases d1 with ⟨rfl, u1_0_0, u1_0_1⟩ | ⟨rfl, u1_1_0⟩
  · skip
    obtain ⟨n2, b2, rfl⟩ := y_rnlt (N := 2) (y_lo1 u1_0_0 (by decide)) u1_0_1 (by omega)
    have b3 : 0 ≤ n2 := y_nlt (a := n2) (b := 0) (by omega) (by omega) u1_0_0
    have b4 : n2 ≤ 2 := y_nlt (a := 2) (b := n2) (by omega) (by omega) u1_0_1
    refine lv_if_ne (tgt := 11) hx hb dX11_errors_6 (by decide) (fun _ => ?_) (fun c => absurd c (by decide))
    refine lv_aload_n hx hb dX11_errors_11 rfl (lv_at hl 0 rfl) ?_
    refine x_vv E h (na := 0) (As := []) (aX11_cutNow_0 l g σ hI) (oc_vh g) rfl gX11_errors_X11_cutNow rfl ⟨rfl, rfl⟩ rfl (by decide +kernel) ⟨Nat.le_of_ble_eq_true rfl, Nat.le_of_ble_eq_true rfl⟩ hl.1 rfl (Nat.le_of_ble_eq_true rfl) dX11_errors_12 ⟨Nat.le_of_ble_eq_true rfl, Nat.le_of_ble_eq_true rfl⟩ (fun s5 H locs q5 h => ?_)
    obtain ⟨d5, hI5, f5⟩ := q5
    have hF5 := hF.call f5 (I := [(3, 12), (14, 18), (22, 23)]) (J := [(8, 19), (21, 29), (31, 41), (43, 47), (55, 64)]) rfl rfl
    have u5_0_0 := d5
    refine lv_iload_n hx hb dX11_errors_15 rfl (lv_at hl 1 rfl) ?_
    refine lv_if_ne (tgt := 35) hx hb dX11_errors_16 (by decide) (fun c6 => ?_) (fun c6 => ?_)
    · skip
      have b7 : ¬ n2 = 0 := y_ne (a := n2) (b := 0) (by omega) (by omega) c6
      refine lv_iload_n hx hb dX11_errors_35 rfl (lv_at hl 1 rfl) ?_
      refine lv_iconst (v := 1) hx hb dX11_errors_36 (by decide) ?_
      refine lv_icmp_ne (tgt := 56) hx hb dX11_errors_37 (by decide) (fun c8 => ?_) (fun c8 => ?_)
      · skip
        have b9 : ¬ n2 = 1 := y_ne (a := n2) (b := 1) (by omega) (by omega) c8
        refine lv_aload_n hx hb dX11_errors_56 rfl (lv_at hl 0 rfl) ?_
        refine x_vi E h (na := 0) (As := []) (aX11_heapNow_0 l g s5 hI5 u5_0_0) (oc_vh g) rfl gX11_errors_X11_heapNow rfl ⟨rfl, rfl⟩ rfl (by decide +kernel) ⟨Nat.le_of_ble_eq_true rfl, Nat.le_of_ble_eq_true rfl⟩ hl.1 rfl (Nat.le_of_ble_eq_true rfl) dX11_errors_57 ⟨Nat.le_of_ble_eq_true rfl, Nat.le_of_ble_eq_true rfl⟩ (fun r10 s10 H locs q10 h => ?_)
        obtain ⟨d10, hI10, f10⟩ := q10
        have hF10 := hF5.call f10 (I := [(3, 12), (14, 18), (22, 23)]) (J := [(8, 19), (21, 29), (31, 41), (43, 47), (55, 64)]) rfl rfl
        have e11 : s10.1 22 = 0 := ((f10.1 22 rfl)).trans u5_0_0
        rcases d10 with ⟨rfl, m10_0P, u10_0_0, u10_0_1, u10_0_2⟩ | rfl
        · skip
          refine lv_if_eq (tgt := 88) hx hb dX11_errors_60 (by decide) (fun c => absurd c (by decide)) (fun _ => ?_)
          refine lv_aload_n hx hb dX11_errors_63 rfl (lv_at hl 0 rfl) ?_
          refine x_getR E h (fr_vh_verdict g) rfl hwX11 (by decide) (by decide +kernel) dX11_errors_64 ?_
          refine lv_aload_n hx hb dX11_errors_67 rfl (lv_at hl 0 rfl) ?_
          refine x_getR E h (fr_vh_book g) rfl hwX11 (by decide) (by decide +kernel) dX11_errors_68 ?_
          refine lv_aload_n hx hb dX11_errors_71 rfl (lv_at hl 0 rfl) ?_
          refine x_getR E h (fr_vh_cutting g) rfl hwX11 (by decide) (by decide +kernel) dX11_errors_72 ?_
          refine lv_aload_n hx hb dX11_errors_75 rfl (lv_at hl 0 rfl) ?_
          refine x_getR E h (fr_vh_all g) rfl hwX11 (by decide) (by decide +kernel) dX11_errors_76 ?_
          refine x_getRN E h (fr_al_best g) rfl hwX0 (by decide) (by decide +kernel) dX11_errors_79 ?_
          refine x_vi E h (na := 3) (As := [.ref (g.2.1 5), .ref (g.2.1 16), .ref (g.2.1 48)]) (aX9_wrong_0 l g s10 hI10) (oc_ve g) rfl gX11_errors_X9_wrong rfl ⟨rfl, rfl⟩ rfl (by decide +kernel) ⟨Nat.le_of_ble_eq_true rfl, Nat.le_of_ble_eq_true rfl⟩ hl.1 rfl (Nat.le_of_ble_eq_true rfl) dX11_errors_82 ⟨Nat.le_of_ble_eq_true rfl, Nat.le_of_ble_eq_true rfl⟩ (fun r12 s12 H locs q12 h => ?_)
          obtain ⟨hI12, f12⟩ := q12
          have hF12 := hF10.call f12 (I := [(3, 12), (14, 18), (22, 23)]) (J := [(8, 19), (21, 29), (31, 41), (43, 47), (55, 64)]) rfl rfl
          have e13 : s12.1 22 = 0 := ((f12.1 22 rfl)).trans u10_0_2
          have e14 : s12.1 5 = nI m10_0P := ((f12.1 5 rfl)).trans u10_0_0
          refine lv_goto (tgt := 90) hx hb dX11_errors_85 (by decide) ?_
          exact x_iret E h ⟨hI12, hF12⟩ dX11_errors_90
        · skip
          refine lv_if_eq (tgt := 88) hx hb dX11_errors_60 (by decide) (fun _ => ?_) (fun c => absurd (by decide) c)
          refine lv_bipush (v := (-2)) hx hb dX11_errors_88 (by decide) ?_
          exact x_iret E h ⟨hI10, hF10⟩ dX11_errors_90
      · skip
        have b15 : n2 = 1 := y_eq (a := n2) (b := 1) (by omega) (by omega) c8
        refine lv_aload_n hx hb dX11_errors_40 rfl (lv_at hl 0 rfl) ?_
        refine x_getR E h (fr_vh_verdict g) rfl hwX11 (by decide) (by decide +kernel) dX11_errors_41 ?_
        refine lv_aload_n hx hb dX11_errors_44 rfl (lv_at hl 0 rfl) ?_
        refine x_getR E h (fr_vh_book g) rfl hwX11 (by decide) (by decide +kernel) dX11_errors_45 ?_
        refine lv_aload_n hx hb dX11_errors_48 rfl (lv_at hl 0 rfl) ?_
        refine x_getR E h (fr_vh_cutting g) rfl hwX11 (by decide) (by decide +kernel) dX11_errors_49 ?_
        refine x_vi E h (na := 2) (As := [.ref (g.2.1 5), .ref (g.2.1 16)]) (aX9_madeUp_0 l g s5 hI5) (oc_ve g) rfl gX11_errors_X9_madeUp rfl ⟨rfl, rfl⟩ rfl (by decide +kernel) ⟨Nat.le_of_ble_eq_true rfl, Nat.le_of_ble_eq_true rfl⟩ hl.1 rfl (Nat.le_of_ble_eq_true rfl) dX11_errors_52 ⟨Nat.le_of_ble_eq_true rfl, Nat.le_of_ble_eq_true rfl⟩ (fun r16 s16 H locs q16 h => ?_)
        subst q16
        exact x_iret E h ⟨hI5, hF5⟩ dX11_errors_55
    · skip
      have b17 : n2 = 0 := y_eq (a := n2) (b := 0) (by omega) (by omega) c6
      refine lv_aload_n hx hb dX11_errors_19 rfl (lv_at hl 0 rfl) ?_
      refine x_getR E h (fr_vh_verdict g) rfl hwX11 (by decide) (by decide +kernel) dX11_errors_20 ?_
      refine lv_aload_n hx hb dX11_errors_23 rfl (lv_at hl 0 rfl) ?_
      refine x_getR E h (fr_vh_book g) rfl hwX11 (by decide) (by decide +kernel) dX11_errors_24 ?_
      refine lv_aload_n hx hb dX11_errors_27 rfl (lv_at hl 0 rfl) ?_
      refine x_getR E h (fr_vh_cutting g) rfl hwX11 (by decide) (by decide +kernel) dX11_errors_28 ?_
      refine x_vi E h (na := 2) (As := [.ref (g.2.1 5), .ref (g.2.1 16)]) (aX9_missed_0 l g s5 hI5) (oc_ve g) rfl gX11_errors_X9_missed rfl ⟨rfl, rfl⟩ rfl (by decide +kernel) ⟨Nat.le_of_ble_eq_true rfl, Nat.le_of_ble_eq_true rfl⟩ hl.1 rfl (Nat.le_of_ble_eq_true rfl) dX11_errors_31 ⟨Nat.le_of_ble_eq_true rfl, Nat.le_of_ble_eq_true rfl⟩ (fun r18 s18 H locs q18 h => ?_)
      subst q18
      exact x_iret E h ⟨hI5, hF5⟩ dX11_errors_34
  · skip
    refine lv_if_ne (tgt := 11) hx hb dX11_errors_6 (by decide) (fun c => absurd (by decide) c) (fun _ => ?_)
    refine lv_iconst (v := (-1)) hx hb dX11_errors_9 (by decide) ?_
    exact x_iret E h ⟨hI, hF⟩ dX11_errors_10
set_option maxHeartbeats 4000000 in
set_option maxRecDepth 100000 in
theorem aX6_span_0 (l : Launch) (g : CX) (σ : ST) (hI : INV σ) (p2 : Nat) (hh0 : p2 < 48) : XM l g yX6_span wsX6_span { frames := 0, cells := 0, slots := 0, locals := 0 } [.ref (g.2.1 77), .ref (g.2.1 16), .int (nI p2)] σ (XQi g (fun r σ' => INV σ' ∧ Fr [] [] σ σ')) := by
  refine x_met (own := RX6) (cc := cX6_span) (maxL := 3) (ret := (some .int)) (lv := [(0, .ref (g.2.1 77)), (1, .ref (g.2.1 16)), (2, .int (nI p2))]) (by decide) rfl rfl (Nat.le_of_ble_eq_true rfl) rfl ?_
  intro p e s m args below meth c ls E h hl
  have hx := E.1
  have hb := E.2.1
  have hown := E.2.2.2.1
  have hts := E.2.2.2.2.1
  have hF : Fr [] [] σ σ := Fr.refl σ
  have hwX2 : ∀ w ∈ wsX20, w ∈ wsX6_span := by decide +kernel
  have hwX6 : ∀ w ∈ wsX60, w ∈ wsX6_span := by decide +kernel
  refine lv_aload_n hx hb dX6_span_0 rfl (lv_at hl 0 rfl) ?_
  refine lv_dup hx hb dX6_span_1 rfl ?_
  refine x_getL E h (fl_ki_asked g) rfl hwX6 (by decide) (by decide +kernel) rfl dX6_span_2 ?_
  refine lv_lconst (v := 1) hx hb dX6_span_5 (by decide) ?_
  refine lv_ladd hx hb dX6_span_6 ?_
  refine lv_topl (fun y1 e1 => ?_)
  refine y_putL E h hI hF (ty := .long) (v := y1) (fl_ki_asked g) rfl hwX6 tyX6_ok nmX6 (by decide) (by decide +kernel) (by decide +kernel) (by decide +kernel) rfl rfl dX6_span_7 (fun s2 H locs q2 hI2 hF2 h => ?_)
  refine lv_aload_n hx hb dX6_span_10 rfl (lv_at hl 1 rfl) ?_
  refine x_getRN E h (fr_cu_size g) rfl hwX2 (by decide) (by decide +kernel) dX6_span_11 ?_
  refine lv_iload_n hx hb dX6_span_14 rfl (lv_at hl 2 rfl) ?_
  refine x_ldI E h (ia_cu_size g) (i := nI p2) (vp_in_nI (by omega) (by decide)) (v := s2.2.2 13 p2) (congrArg (s2.2.2 13) (nI_clamp (by omega))) dX6_span_15 ?_
  exact x_iret E h ⟨hI2, hF2⟩ dX6_span_16
set_option maxHeartbeats 4000000 in
set_option maxRecDepth 100000 in
theorem aX6_voice_0 (l : Launch) (g : CX) (σ : ST) (hI : INV σ) (p2 : Nat) (hh0 : p2 < 48) : XM l g yX6_voice wsX6_voice { frames := 1, cells := 0, slots := 0, locals := 22 } [.ref (g.2.1 77), .ref (g.2.1 16), .int (nI p2)] σ (XQi g (fun r σ' => INV σ' ∧ Fr [] [] σ σ')) := by
  refine x_met (own := RX6) (cc := cX6_voice) (maxL := 3) (ret := (some .int)) (lv := [(0, .ref (g.2.1 77)), (1, .ref (g.2.1 16)), (2, .int (nI p2))]) (by decide) rfl rfl (Nat.le_of_ble_eq_true rfl) rfl ?_
  intro p e s m args below meth c ls E h hl
  have hx := E.1
  have hb := E.2.1
  have hown := E.2.2.2.1
  have hts := E.2.2.2.2.1
  have hF : Fr [] [] σ σ := Fr.refl σ
  have hwX6 : ∀ w ∈ wsX60, w ∈ wsX6_voice := by decide +kernel
  refine lv_aload_n hx hb dX6_voice_0 rfl (lv_at hl 0 rfl) ?_
  refine lv_dup hx hb dX6_voice_1 rfl ?_
  refine x_getL E h (fl_ki_asked g) rfl hwX6 (by decide) (by decide +kernel) rfl dX6_voice_2 ?_
  refine lv_ldc2 (v := 10) hx hb hown (hts (.constantLong RX6 45 (10)) (by decide +kernel)) dX6_voice_5 ?_
  refine lv_ladd hx hb dX6_voice_8 ?_
  refine lv_topl (fun y1 e1 => ?_)
  refine y_putL E h hI hF (ty := .long) (v := y1) (fl_ki_asked g) rfl hwX6 tyX6_ok nmX6 (by decide) (by decide +kernel) (by decide +kernel) (by decide +kernel) rfl rfl dX6_voice_9 (fun s2 H locs q2 hI2 hF2 h => ?_)
  refine lv_aload_n hx hb dX6_voice_12 rfl (lv_at hl 0 rfl) ?_
  refine lv_aload_n hx hb dX6_voice_13 rfl (lv_at hl 1 rfl) ?_
  refine lv_iload_n hx hb dX6_voice_14 rfl (lv_at hl 2 rfl) ?_
  refine x_vi E h (na := 2) (As := [.ref (g.2.1 16), .int (nI p2)]) (aX6_span_0 l g s2 hI2 p2 (by omega)) (oc_ki g) rfl gX6_voice_X6_span rfl ⟨rfl, rfl⟩ rfl (by decide +kernel) ⟨Nat.le_of_ble_eq_true rfl, Nat.le_of_ble_eq_true rfl⟩ hl.1 rfl (Nat.le_of_ble_eq_true rfl) dX6_voice_15 ⟨Nat.le_of_ble_eq_true rfl, Nat.le_of_ble_eq_true rfl⟩ (fun r3 s3 H locs q3 h => ?_)
  obtain ⟨hI3, f3⟩ := q3
  have hF3 := hF2.call f3 (I := []) (J := []) rfl rfl
  refine lv_aload_n hx hb dX6_voice_18 rfl (lv_at hl 1 rfl) ?_
  refine lv_iload_n hx hb dX6_voice_19 rfl (lv_at hl 2 rfl) ?_
  refine lv_iconst (v := 0) hx hb dX6_voice_20 (by decide) ?_
  refine x_vi E h (na := 2) (As := [.int (nI p2), .int 0]) (aX2_middleOf_0 l g s3 hI3 (nI p2) 0) (oc_cu g) rfl gX6_voice_X2_middleOf rfl ⟨rfl, rfl⟩ rfl (by decide +kernel) ⟨Nat.le_of_ble_eq_true rfl, Nat.le_of_ble_eq_true rfl⟩ hl.1 rfl (Nat.le_of_ble_eq_true rfl) dX6_voice_21 ⟨Nat.le_of_ble_eq_true rfl, Nat.le_of_ble_eq_true rfl⟩ (fun r4 s4 H locs q4 h => ?_)
  subst q4
  refine lv_iadd hx hb dX6_voice_24 ?_
  refine lv_topi (fun x5 e5 => ?_)
  exact x_iret E h ⟨hI3, hF3⟩ dX6_voice_25
set_option maxHeartbeats 4000000 in
set_option maxRecDepth 100000 in
theorem aX6_talk_0 (l : Launch) (g : CX) (σ : ST) (hI : INV σ) (p2 : Nat) (hh0 : p2 < 48) : XM l g yX6_talk wsX6_talk { frames := 2, cells := 0, slots := 0, locals := 44 } [.ref (g.2.1 77), .ref (g.2.1 16), .int (nI p2)] σ (XQi g (fun r σ' => INV σ' ∧ Fr [] [] σ σ')) := by
  refine x_met (own := RX6) (cc := cX6_talk) (maxL := 3) (ret := (some .int)) (lv := [(0, .ref (g.2.1 77)), (1, .ref (g.2.1 16)), (2, .int (nI p2))]) (by decide) rfl rfl (Nat.le_of_ble_eq_true rfl) rfl ?_
  intro p e s m args below meth c ls E h hl
  have hx := E.1
  have hb := E.2.1
  have hown := E.2.2.2.1
  have hts := E.2.2.2.2.1
  have hF : Fr [] [] σ σ := Fr.refl σ
  have hwX2 : ∀ w ∈ wsX20, w ∈ wsX6_talk := by decide +kernel
  have hwX6 : ∀ w ∈ wsX60, w ∈ wsX6_talk := by decide +kernel
  refine lv_aload_n hx hb dX6_talk_0 rfl (lv_at hl 0 rfl) ?_
  refine lv_dup hx hb dX6_talk_1 rfl ?_
  refine x_getL E h (fl_ki_asked g) rfl hwX6 (by decide) (by decide +kernel) rfl dX6_talk_2 ?_
  refine lv_ldc2 (v := 100) hx hb hown (hts (.constantLong RX6 51 (100)) (by decide +kernel)) dX6_talk_5 ?_
  refine lv_ladd hx hb dX6_talk_8 ?_
  refine lv_topl (fun y1 e1 => ?_)
  refine y_putL E h hI hF (ty := .long) (v := y1) (fl_ki_asked g) rfl hwX6 tyX6_ok nmX6 (by decide) (by decide +kernel) (by decide +kernel) (by decide +kernel) rfl rfl dX6_talk_9 (fun s2 H locs q2 hI2 hF2 h => ?_)
  refine lv_aload_n hx hb dX6_talk_12 rfl (lv_at hl 0 rfl) ?_
  refine lv_aload_n hx hb dX6_talk_13 rfl (lv_at hl 1 rfl) ?_
  refine lv_iload_n hx hb dX6_talk_14 rfl (lv_at hl 2 rfl) ?_
  refine x_vi E h (na := 2) (As := [.ref (g.2.1 16), .int (nI p2)]) (aX6_voice_0 l g s2 hI2 p2 (by omega)) (oc_ki g) rfl gX6_talk_X6_voice rfl ⟨rfl, rfl⟩ rfl (by decide +kernel) ⟨Nat.le_of_ble_eq_true rfl, Nat.le_of_ble_eq_true rfl⟩ hl.1 rfl (Nat.le_of_ble_eq_true rfl) dX6_talk_15 ⟨Nat.le_of_ble_eq_true rfl, Nat.le_of_ble_eq_true rfl⟩ (fun r3 s3 H locs q3 h => ?_)
  obtain ⟨hI3, f3⟩ := q3
  have hF3 := hF2.call f3 (I := []) (J := []) rfl rfl
  refine lv_aload_n hx hb dX6_talk_18 rfl (lv_at hl 1 rfl) ?_
  refine x_getRN E h (fr_cu_spread g) rfl hwX2 (by decide) (by decide +kernel) dX6_talk_19 ?_
  refine lv_iload_n hx hb dX6_talk_22 rfl (lv_at hl 2 rfl) ?_
  refine x_ldI E h (ia_cu_spread g) (i := nI p2) (vp_in_nI (by omega) (by decide)) (v := s3.2.2 14 p2) (congrArg (s3.2.2 14) (nI_clamp (by omega))) dX6_talk_23 ?_
  refine lv_iadd hx hb dX6_talk_24 ?_
  refine lv_topi (fun x4 e4 => ?_)
  exact x_iret E h ⟨hI3, hF3⟩ dX6_talk_25
set_option maxHeartbeats 4000000 in
set_option maxRecDepth 100000 in
theorem aX6_two_0 (l : Launch) (g : CX) (σ : ST) (hI : INV σ) (p2 : Nat) (hh0 : p2 < 48) : XM l g yX6_two wsX6_two { frames := 3, cells := 0, slots := 0, locals := 66 } [.ref (g.2.1 77), .ref (g.2.1 16), .int (nI p2)] σ (XQi g (fun r σ' => INV σ' ∧ Fr [] [] σ σ')) := by
  refine x_met (own := RX6) (cc := cX6_two) (maxL := 3) (ret := (some .int)) (lv := [(0, .ref (g.2.1 77)), (1, .ref (g.2.1 16)), (2, .int (nI p2))]) (by decide) rfl rfl (Nat.le_of_ble_eq_true rfl) rfl ?_
  intro p e s m args below meth c ls E h hl
  have hx := E.1
  have hb := E.2.1
  have hown := E.2.2.2.1
  have hts := E.2.2.2.2.1
  have hF : Fr [] [] σ σ := Fr.refl σ
  have hwX6 : ∀ w ∈ wsX60, w ∈ wsX6_two := by decide +kernel
  refine lv_aload_n hx hb dX6_two_0 rfl (lv_at hl 0 rfl) ?_
  refine lv_dup hx hb dX6_two_1 rfl ?_
  refine x_getL E h (fl_ki_asked g) rfl hwX6 (by decide) (by decide +kernel) rfl dX6_two_2 ?_
  refine lv_ldc2 (v := 1000) hx hb hown (hts (.constantLong RX6 56 (1000)) (by decide +kernel)) dX6_two_5 ?_
  refine lv_ladd hx hb dX6_two_8 ?_
  refine lv_topl (fun y1 e1 => ?_)
  refine y_putL E h hI hF (ty := .long) (v := y1) (fl_ki_asked g) rfl hwX6 tyX6_ok nmX6 (by decide) (by decide +kernel) (by decide +kernel) (by decide +kernel) rfl rfl dX6_two_9 (fun s2 H locs q2 hI2 hF2 h => ?_)
  refine lv_aload_n hx hb dX6_two_12 rfl (lv_at hl 0 rfl) ?_
  refine lv_aload_n hx hb dX6_two_13 rfl (lv_at hl 1 rfl) ?_
  refine lv_iload_n hx hb dX6_two_14 rfl (lv_at hl 2 rfl) ?_
  refine x_vi E h (na := 2) (As := [.ref (g.2.1 16), .int (nI p2)]) (aX6_talk_0 l g s2 hI2 p2 (by omega)) (oc_ki g) rfl gX6_two_X6_talk rfl ⟨rfl, rfl⟩ rfl (by decide +kernel) ⟨Nat.le_of_ble_eq_true rfl, Nat.le_of_ble_eq_true rfl⟩ hl.1 rfl (Nat.le_of_ble_eq_true rfl) dX6_two_15 ⟨Nat.le_of_ble_eq_true rfl, Nat.le_of_ble_eq_true rfl⟩ (fun r3 s3 H locs q3 h => ?_)
  obtain ⟨hI3, f3⟩ := q3
  have hF3 := hF2.call f3 (I := []) (J := []) rfl rfl
  refine lv_iconst (v := 1) hx hb dX6_two_18 (by decide) ?_
  refine lv_iadd hx hb dX6_two_19 ?_
  refine lv_topi (fun x4 e4 => ?_)
  refine lv_iconst (v := 2) hx hb dX6_two_20 (by decide) ?_
  refine lv_idiv hx hb dX6_two_21 (by decide) ?_
  refine lv_topi (fun x5 e5 => ?_)
  exact x_iret E h ⟨hI3, hF3⟩ dX6_two_22
set_option maxHeartbeats 4000000 in
set_option maxRecDepth 100000 in
theorem aX6_brief_0 (l : Launch) (g : CX) (σ : ST) (hI : INV σ) (p2 : Nat) (hh0 : p2 < 48) : XM l g yX6_brief wsX6_brief { frames := 3, cells := 0, slots := 0, locals := 66 } [.ref (g.2.1 77), .ref (g.2.1 16), .int (nI p2)] σ (XQi g (fun r σ' => INV σ' ∧ Fr [] [] σ σ')) := by
  refine x_met (own := RX6) (cc := cX6_brief) (maxL := 3) (ret := (some .int)) (lv := [(0, .ref (g.2.1 77)), (1, .ref (g.2.1 16)), (2, .int (nI p2))]) (by decide) rfl rfl (Nat.le_of_ble_eq_true rfl) rfl ?_
  intro p e s m args below meth c ls E h hl
  have hx := E.1
  have hb := E.2.1
  have hown := E.2.2.2.1
  have hts := E.2.2.2.2.1
  have hF : Fr [] [] σ σ := Fr.refl σ
  have hwX6 : ∀ w ∈ wsX60, w ∈ wsX6_brief := by decide +kernel
  refine lv_aload_n hx hb dX6_brief_0 rfl (lv_at hl 0 rfl) ?_
  refine lv_dup hx hb dX6_brief_1 rfl ?_
  refine x_getL E h (fl_ki_asked g) rfl hwX6 (by decide) (by decide +kernel) rfl dX6_brief_2 ?_
  refine lv_ldc2 (v := 10000) hx hb hown (hts (.constantLong RX6 58 (10000)) (by decide +kernel)) dX6_brief_5 ?_
  refine lv_ladd hx hb dX6_brief_8 ?_
  refine lv_topl (fun y1 e1 => ?_)
  refine y_putL E h hI hF (ty := .long) (v := y1) (fl_ki_asked g) rfl hwX6 tyX6_ok nmX6 (by decide) (by decide +kernel) (by decide +kernel) (by decide +kernel) rfl rfl dX6_brief_9 (fun s2 H locs q2 hI2 hF2 h => ?_)
  refine lv_iconst (v := 0) hx hb dX6_brief_12 (by decide) ?_
  refine lv_aload_n hx hb dX6_brief_13 rfl (lv_at hl 0 rfl) ?_
  refine lv_aload_n hx hb dX6_brief_14 rfl (lv_at hl 1 rfl) ?_
  refine lv_iload_n hx hb dX6_brief_15 rfl (lv_at hl 2 rfl) ?_
  refine x_vi E h (na := 2) (As := [.ref (g.2.1 16), .int (nI p2)]) (aX6_talk_0 l g s2 hI2 p2 (by omega)) (oc_ki g) rfl gX6_brief_X6_talk rfl ⟨rfl, rfl⟩ rfl (by decide +kernel) ⟨Nat.le_of_ble_eq_true rfl, Nat.le_of_ble_eq_true rfl⟩ hl.1 rfl (Nat.le_of_ble_eq_true rfl) dX6_brief_16 ⟨Nat.le_of_ble_eq_true rfl, Nat.le_of_ble_eq_true rfl⟩ (fun r3 s3 H locs q3 h => ?_)
  obtain ⟨hI3, f3⟩ := q3
  have hF3 := hF2.call f3 (I := []) (J := []) rfl rfl
  refine lv_iconst (v := 3) hx hb dX6_brief_19 (by decide) ?_
  refine lv_isub hx hb dX6_brief_20 ?_
  refine lv_topi (fun x4 e4 => ?_)
  refine x_max E hl.1 (by decide +kernel) (by decide +kernel) (by decide +kernel) (by decide +kernel) ⟨Nat.le_of_ble_eq_true rfl, Nat.le_of_ble_eq_true rfl⟩ ⟨Nat.zero_le _, Nat.zero_le _⟩ dX6_brief_21 ?_
  refine lv_topi (fun x5 e5 => ?_)
  exact x_iret E h ⟨hI3, hF3⟩ dX6_brief_24
set_option maxHeartbeats 4000000 in
set_option maxRecDepth 100000 in
theorem aX6_far_0 (l : Launch) (g : CX) (σ : ST) (hI : INV σ) (p2 : Nat) (hh0 : p2 < 48) : XM l g yX6_far wsX6_far { frames := 2, cells := 0, slots := 0, locals := 44 } [.ref (g.2.1 77), .ref (g.2.1 16), .int (nI p2)] σ (XQi g (fun r σ' => INV σ' ∧ Fr [] [] σ σ')) := by
  refine x_met (own := RX6) (cc := cX6_far) (maxL := 3) (ret := (some .int)) (lv := [(0, .ref (g.2.1 77)), (1, .ref (g.2.1 16)), (2, .int (nI p2))]) (by decide) rfl rfl (Nat.le_of_ble_eq_true rfl) rfl ?_
  intro p e s m args below meth c ls E h hl
  have hx := E.1
  have hb := E.2.1
  have hown := E.2.2.2.1
  have hts := E.2.2.2.2.1
  have hF : Fr [] [] σ σ := Fr.refl σ
  have hwX6 : ∀ w ∈ wsX60, w ∈ wsX6_far := by decide +kernel
  refine lv_aload_n hx hb dX6_far_0 rfl (lv_at hl 0 rfl) ?_
  refine lv_dup hx hb dX6_far_1 rfl ?_
  refine x_getL E h (fl_ki_asked g) rfl hwX6 (by decide) (by decide +kernel) rfl dX6_far_2 ?_
  refine lv_ldc2 (v := 100000) hx hb hown (hts (.constantLong RX6 65 (100000)) (by decide +kernel)) dX6_far_5 ?_
  refine lv_ladd hx hb dX6_far_8 ?_
  refine lv_topl (fun y1 e1 => ?_)
  refine y_putL E h hI hF (ty := .long) (v := y1) (fl_ki_asked g) rfl hwX6 tyX6_ok nmX6 (by decide) (by decide +kernel) (by decide +kernel) (by decide +kernel) rfl rfl dX6_far_9 (fun s2 H locs q2 hI2 hF2 h => ?_)
  refine lv_aload_n hx hb dX6_far_12 rfl (lv_at hl 0 rfl) ?_
  refine lv_aload_n hx hb dX6_far_13 rfl (lv_at hl 1 rfl) ?_
  refine lv_iload_n hx hb dX6_far_14 rfl (lv_at hl 2 rfl) ?_
  refine x_vi E h (na := 2) (As := [.ref (g.2.1 16), .int (nI p2)]) (aX6_voice_0 l g s2 hI2 p2 (by omega)) (oc_ki g) rfl gX6_far_X6_voice rfl ⟨rfl, rfl⟩ rfl (by decide +kernel) ⟨Nat.le_of_ble_eq_true rfl, Nat.le_of_ble_eq_true rfl⟩ hl.1 rfl (Nat.le_of_ble_eq_true rfl) dX6_far_15 ⟨Nat.le_of_ble_eq_true rfl, Nat.le_of_ble_eq_true rfl⟩ (fun r3 s3 H locs q3 h => ?_)
  obtain ⟨hI3, f3⟩ := q3
  have hF3 := hF2.call f3 (I := []) (J := []) rfl rfl
  refine lv_iconst (v := 3) hx hb dX6_far_18 (by decide) ?_
  refine lv_idiv hx hb dX6_far_19 (by decide) ?_
  refine lv_topi (fun x4 e4 => ?_)
  exact x_iret E h ⟨hI3, hF3⟩ dX6_far_20
set_option maxHeartbeats 4000000 in
set_option maxRecDepth 100000 in
theorem aX6_known_0 (l : Launch) (g : CX) (σ : ST) (hI : INV σ) (p2 : Nat) (p3 : Int32) (hh0 : p2 < 48) : XM l g yX6_known wsX6_known { frames := 2, cells := 0, slots := 0, locals := 44 } [.ref (g.2.1 77), .ref (g.2.1 16), .int (nI p2), .int p3] σ (XQi g (fun r σ' => INV σ' ∧ Fr [] [] σ σ')) := by
  refine x_met (own := RX6) (cc := cX6_known) (maxL := 4) (ret := (some .int)) (lv := [(0, .ref (g.2.1 77)), (1, .ref (g.2.1 16)), (2, .int (nI p2)), (3, .int p3)]) (by decide) rfl rfl (Nat.le_of_ble_eq_true rfl) rfl ?_
  intro p e s m args below meth c ls E h hl
  have hx := E.1
  have hb := E.2.1
  have hown := E.2.2.2.1
  have hts := E.2.2.2.2.1
  have hF : Fr [] [] σ σ := Fr.refl σ
  have hwX6 : ∀ w ∈ wsX60, w ∈ wsX6_known := by decide +kernel
  refine lv_aload_n hx hb dX6_known_0 rfl (lv_at hl 0 rfl) ?_
  refine lv_dup hx hb dX6_known_1 rfl ?_
  refine x_getL E h (fl_ki_asked g) rfl hwX6 (by decide) (by decide +kernel) rfl dX6_known_2 ?_
  refine lv_ldc2 (v := 1000000) hx hb hown (hts (.constantLong RX6 67 (1000000)) (by decide +kernel)) dX6_known_5 ?_
  refine lv_ladd hx hb dX6_known_8 ?_
  refine lv_topl (fun y1 e1 => ?_)
  refine y_putL E h hI hF (ty := .long) (v := y1) (fl_ki_asked g) rfl hwX6 tyX6_ok nmX6 (by decide) (by decide +kernel) (by decide +kernel) (by decide +kernel) rfl rfl dX6_known_9 (fun s2 H locs q2 hI2 hF2 h => ?_)
  refine lv_aload_n hx hb dX6_known_12 rfl (lv_at hl 0 rfl) ?_
  refine lv_aload_n hx hb dX6_known_13 rfl (lv_at hl 1 rfl) ?_
  refine lv_iload_n hx hb dX6_known_14 rfl (lv_at hl 2 rfl) ?_
  refine x_vi E h (na := 2) (As := [.ref (g.2.1 16), .int (nI p2)]) (aX6_voice_0 l g s2 hI2 p2 (by omega)) (oc_ki g) rfl gX6_known_X6_voice rfl ⟨rfl, rfl⟩ rfl (by decide +kernel) ⟨Nat.le_of_ble_eq_true rfl, Nat.le_of_ble_eq_true rfl⟩ hl.1 rfl (Nat.le_of_ble_eq_true rfl) dX6_known_15 ⟨Nat.le_of_ble_eq_true rfl, Nat.le_of_ble_eq_true rfl⟩ (fun r3 s3 H locs q3 h => ?_)
  obtain ⟨hI3, f3⟩ := q3
  have hF3 := hF2.call f3 (I := []) (J := []) rfl rfl
  refine lv_bipush (v := 7) hx hb dX6_known_18 (by decide) ?_
  refine lv_iload_n hx hb dX6_known_20 rfl (lv_at hl 3 rfl) ?_
  refine lv_imul hx hb dX6_known_21 ?_
  refine lv_topi (fun x4 e4 => ?_)
  refine lv_iadd hx hb dX6_known_22 ?_
  refine lv_topi (fun x5 e5 => ?_)
  exact x_iret E h ⟨hI3, hF3⟩ dX6_known_23
set_option maxHeartbeats 4000000 in
set_option maxRecDepth 100000 in
theorem aX6_noise_0 (l : Launch) (g : CX) (σ : ST) (hI : INV σ) (p2 : Nat) (hh0 : p2 < 48) : XM l g yX6_noise wsX6_noise { frames := 1, cells := 0, slots := 0, locals := 22 } [.ref (g.2.1 77), .ref (g.2.1 16), .int (nI p2)] σ (XQi g (fun r σ' => INV σ' ∧ Fr [] [] σ σ')) := by
  refine x_met (own := RX6) (cc := cX6_noise) (maxL := 4) (ret := (some .int)) (lv := [(0, .ref (g.2.1 77)), (1, .ref (g.2.1 16)), (2, .int (nI p2))]) (by decide) rfl rfl (Nat.le_of_ble_eq_true rfl) rfl ?_
  intro p e s m args below meth c ls E h hl
  have hx := E.1
  have hb := E.2.1
  have hown := E.2.2.2.1
  have hts := E.2.2.2.2.1
  have hF : Fr [] [] σ σ := Fr.refl σ
  have hwX6 : ∀ w ∈ wsX60, w ∈ wsX6_noise := by decide +kernel
  refine lv_aload_n hx hb dX6_noise_0 rfl (lv_at hl 0 rfl) ?_
  refine lv_dup hx hb dX6_noise_1 rfl ?_
  refine x_getL E h (fl_ki_asked g) rfl hwX6 (by decide) (by decide +kernel) rfl dX6_noise_2 ?_
  refine lv_ldc2 (v := 10000000) hx hb hown (hts (.constantLong RX6 69 (10000000)) (by decide +kernel)) dX6_noise_5 ?_
  refine lv_ladd hx hb dX6_noise_8 ?_
  refine lv_topl (fun y1 e1 => ?_)
  refine y_putL E h hI hF (ty := .long) (v := y1) (fl_ki_asked g) rfl hwX6 tyX6_ok nmX6 (by decide) (by decide +kernel) (by decide +kernel) (by decide +kernel) rfl rfl dX6_noise_9 (fun s2 H locs q2 hI2 hF2 h => ?_)
  refine lv_aload_n hx hb dX6_noise_12 rfl (lv_at hl 0 rfl) ?_
  refine lv_aload_n hx hb dX6_noise_13 rfl (lv_at hl 1 rfl) ?_
  refine lv_iload_n hx hb dX6_noise_14 rfl (lv_at hl 2 rfl) ?_
  refine x_vi E h (na := 2) (As := [.ref (g.2.1 16), .int (nI p2)]) (aX6_span_0 l g s2 hI2 p2 (by omega)) (oc_ki g) rfl gX6_noise_X6_span rfl ⟨rfl, rfl⟩ rfl (by decide +kernel) ⟨Nat.le_of_ble_eq_true rfl, Nat.le_of_ble_eq_true rfl⟩ hl.1 rfl (Nat.le_of_ble_eq_true rfl) dX6_noise_15 ⟨Nat.le_of_ble_eq_true rfl, Nat.le_of_ble_eq_true rfl⟩ (fun r3 s3 H locs q3 h => ?_)
  obtain ⟨hI3, f3⟩ := q3
  have hF3 := hF2.call f3 (I := []) (J := []) rfl rfl
  refine lv_istore_n (lv' := [(3, .int r3), (0, .ref (g.2.1 77)), (1, .ref (g.2.1 16)), (2, .int (nI p2))]) hx hb dX6_noise_18 rfl hl (by decide) rfl (fun ls hl => ?_)
  refine lv_iload_n hx hb dX6_noise_19 rfl (lv_at hl 0 rfl) ?_
  refine lv_iload_n hx hb dX6_noise_20 rfl (lv_at hl 0 rfl) ?_
  refine lv_imul hx hb dX6_noise_21 ?_
  refine lv_topi (fun x4 e4 => ?_)
  refine lv_bipush (v := 89) hx hb dX6_noise_22 (by decide) ?_
  refine lv_irem hx hb dX6_noise_24 (by decide) ?_
  refine lv_topi (fun x5 e5 => ?_)
  exact x_iret E h ⟨hI3, hF3⟩ dX6_noise_25
set_option maxHeartbeats 4000000 in
set_option maxRecDepth 100000 in
theorem aX6_weigh_0 (l : Launch) (g : CX) (σ : ST) (hI : INV σ) (p1 : Int32) (p3 : Nat) (p4 : Int32) (hh0 : p3 < 48) : XM l g yX6_weigh wsX6_weigh { frames := 4, cells := 0, slots := 0, locals := 88 } [.ref (g.2.1 77), .int p1, .ref (g.2.1 16), .int (nI p3), .int p4] σ (XQi g (fun r σ' => INV σ' ∧ Fr [] [] σ σ')) := by
  refine x_met (own := RX6) (cc := cX6_weigh) (maxL := 5) (ret := (some .int)) (lv := [(0, .ref (g.2.1 77)), (1, .int p1), (2, .ref (g.2.1 16)), (3, .int (nI p3)), (4, .int p4)]) (by decide) rfl rfl (Nat.le_of_ble_eq_true rfl) rfl ?_
  intro p e s m args below meth c ls E h hl
  have hx := E.1
  have hb := E.2.1
  have hown := E.2.2.2.1
  have hts := E.2.2.2.2.1
  have hF : Fr [] [] σ σ := Fr.refl σ
  refine lv_iload_n hx hb dX6_weigh_0 rfl (lv_at hl 1 rfl) ?_
  by_cases c_1_0 : p1 = 0
  · refine x_topI (v2 := 0) c_1_0 ?_
    refine lv_tableIn (tgt := 44) (off := 43) hx hb dX6_weigh_1 (by decide) (by decide) (by decide) (by decide) ?_
    refine lv_aload_n hx hb dX6_weigh_44 rfl (lv_at hl 0 rfl) ?_
    refine lv_aload_n hx hb dX6_weigh_45 rfl (lv_at hl 2 rfl) ?_
    refine lv_iload_n hx hb dX6_weigh_46 rfl (lv_at hl 3 rfl) ?_
    refine x_vi E h (na := 2) (As := [.ref (g.2.1 16), .int (nI p3)]) (aX6_span_0 l g σ hI p3 (by omega)) (oc_ki g) rfl gX6_weigh_X6_span rfl ⟨rfl, rfl⟩ rfl (by decide +kernel) ⟨Nat.le_of_ble_eq_true rfl, Nat.le_of_ble_eq_true rfl⟩ hl.1 rfl (Nat.le_of_ble_eq_true rfl) dX6_weigh_47 ⟨Nat.le_of_ble_eq_true rfl, Nat.le_of_ble_eq_true rfl⟩ (fun r1 s1 H locs q1 h => ?_)
    obtain ⟨hI1, f1⟩ := q1
    have hF1 := hF.call f1 (I := []) (J := []) rfl rfl
    exact x_iret E h ⟨hI1, hF1⟩ dX6_weigh_50
  by_cases c_1_1 : p1 = 1
  · refine x_topI (v2 := 1) c_1_1 ?_
    refine lv_tableIn (tgt := 51) (off := 50) hx hb dX6_weigh_1 (by decide) (by decide) (by decide) (by decide) ?_
    refine lv_aload_n hx hb dX6_weigh_51 rfl (lv_at hl 0 rfl) ?_
    refine lv_aload_n hx hb dX6_weigh_52 rfl (lv_at hl 2 rfl) ?_
    refine lv_iload_n hx hb dX6_weigh_53 rfl (lv_at hl 3 rfl) ?_
    refine x_vi E h (na := 2) (As := [.ref (g.2.1 16), .int (nI p3)]) (aX6_voice_0 l g σ hI p3 (by omega)) (oc_ki g) rfl gX6_weigh_X6_voice rfl ⟨rfl, rfl⟩ rfl (by decide +kernel) ⟨Nat.le_of_ble_eq_true rfl, Nat.le_of_ble_eq_true rfl⟩ hl.1 rfl (Nat.le_of_ble_eq_true rfl) dX6_weigh_54 ⟨Nat.le_of_ble_eq_true rfl, Nat.le_of_ble_eq_true rfl⟩ (fun r2 s2 H locs q2 h => ?_)
    obtain ⟨hI2, f2⟩ := q2
    have hF2 := hF.call f2 (I := []) (J := []) rfl rfl
    exact x_iret E h ⟨hI2, hF2⟩ dX6_weigh_57
  by_cases c_1_2 : p1 = 2
  · refine x_topI (v2 := 2) c_1_2 ?_
    refine lv_tableIn (tgt := 58) (off := 57) hx hb dX6_weigh_1 (by decide) (by decide) (by decide) (by decide) ?_
    refine lv_aload_n hx hb dX6_weigh_58 rfl (lv_at hl 0 rfl) ?_
    refine lv_aload_n hx hb dX6_weigh_59 rfl (lv_at hl 2 rfl) ?_
    refine lv_iload_n hx hb dX6_weigh_60 rfl (lv_at hl 3 rfl) ?_
    refine x_vi E h (na := 2) (As := [.ref (g.2.1 16), .int (nI p3)]) (aX6_talk_0 l g σ hI p3 (by omega)) (oc_ki g) rfl gX6_weigh_X6_talk rfl ⟨rfl, rfl⟩ rfl (by decide +kernel) ⟨Nat.le_of_ble_eq_true rfl, Nat.le_of_ble_eq_true rfl⟩ hl.1 rfl (Nat.le_of_ble_eq_true rfl) dX6_weigh_61 ⟨Nat.le_of_ble_eq_true rfl, Nat.le_of_ble_eq_true rfl⟩ (fun r3 s3 H locs q3 h => ?_)
    obtain ⟨hI3, f3⟩ := q3
    have hF3 := hF.call f3 (I := []) (J := []) rfl rfl
    exact x_iret E h ⟨hI3, hF3⟩ dX6_weigh_64
  by_cases c_1_3 : p1 = 3
  · refine x_topI (v2 := 3) c_1_3 ?_
    refine lv_tableIn (tgt := 65) (off := 64) hx hb dX6_weigh_1 (by decide) (by decide) (by decide) (by decide) ?_
    refine lv_aload_n hx hb dX6_weigh_65 rfl (lv_at hl 0 rfl) ?_
    refine lv_aload_n hx hb dX6_weigh_66 rfl (lv_at hl 2 rfl) ?_
    refine lv_iload_n hx hb dX6_weigh_67 rfl (lv_at hl 3 rfl) ?_
    refine x_vi E h (na := 2) (As := [.ref (g.2.1 16), .int (nI p3)]) (aX6_two_0 l g σ hI p3 (by omega)) (oc_ki g) rfl gX6_weigh_X6_two rfl ⟨rfl, rfl⟩ rfl (by decide +kernel) ⟨Nat.le_of_ble_eq_true rfl, Nat.le_of_ble_eq_true rfl⟩ hl.1 rfl (Nat.le_of_ble_eq_true rfl) dX6_weigh_68 ⟨Nat.le_of_ble_eq_true rfl, Nat.le_of_ble_eq_true rfl⟩ (fun r4 s4 H locs q4 h => ?_)
    obtain ⟨hI4, f4⟩ := q4
    have hF4 := hF.call f4 (I := []) (J := []) rfl rfl
    exact x_iret E h ⟨hI4, hF4⟩ dX6_weigh_71
  by_cases c_1_4 : p1 = 4
  · refine x_topI (v2 := 4) c_1_4 ?_
    refine lv_tableIn (tgt := 72) (off := 71) hx hb dX6_weigh_1 (by decide) (by decide) (by decide) (by decide) ?_
    refine lv_aload_n hx hb dX6_weigh_72 rfl (lv_at hl 0 rfl) ?_
    refine lv_aload_n hx hb dX6_weigh_73 rfl (lv_at hl 2 rfl) ?_
    refine lv_iload_n hx hb dX6_weigh_74 rfl (lv_at hl 3 rfl) ?_
    refine x_vi E h (na := 2) (As := [.ref (g.2.1 16), .int (nI p3)]) (aX6_brief_0 l g σ hI p3 (by omega)) (oc_ki g) rfl gX6_weigh_X6_brief rfl ⟨rfl, rfl⟩ rfl (by decide +kernel) ⟨Nat.le_of_ble_eq_true rfl, Nat.le_of_ble_eq_true rfl⟩ hl.1 rfl (Nat.le_of_ble_eq_true rfl) dX6_weigh_75 ⟨Nat.le_of_ble_eq_true rfl, Nat.le_of_ble_eq_true rfl⟩ (fun r5 s5 H locs q5 h => ?_)
    obtain ⟨hI5, f5⟩ := q5
    have hF5 := hF.call f5 (I := []) (J := []) rfl rfl
    exact x_iret E h ⟨hI5, hF5⟩ dX6_weigh_78
  by_cases c_1_5 : p1 = 5
  · refine x_topI (v2 := 5) c_1_5 ?_
    refine lv_tableIn (tgt := 79) (off := 78) hx hb dX6_weigh_1 (by decide) (by decide) (by decide) (by decide) ?_
    refine lv_aload_n hx hb dX6_weigh_79 rfl (lv_at hl 0 rfl) ?_
    refine lv_aload_n hx hb dX6_weigh_80 rfl (lv_at hl 2 rfl) ?_
    refine lv_iload_n hx hb dX6_weigh_81 rfl (lv_at hl 3 rfl) ?_
    refine x_vi E h (na := 2) (As := [.ref (g.2.1 16), .int (nI p3)]) (aX6_far_0 l g σ hI p3 (by omega)) (oc_ki g) rfl gX6_weigh_X6_far rfl ⟨rfl, rfl⟩ rfl (by decide +kernel) ⟨Nat.le_of_ble_eq_true rfl, Nat.le_of_ble_eq_true rfl⟩ hl.1 rfl (Nat.le_of_ble_eq_true rfl) dX6_weigh_82 ⟨Nat.le_of_ble_eq_true rfl, Nat.le_of_ble_eq_true rfl⟩ (fun r6 s6 H locs q6 h => ?_)
    obtain ⟨hI6, f6⟩ := q6
    have hF6 := hF.call f6 (I := []) (J := []) rfl rfl
    exact x_iret E h ⟨hI6, hF6⟩ dX6_weigh_85
  by_cases c_1_6 : p1 = 6
  · refine x_topI (v2 := 6) c_1_6 ?_
    refine lv_tableIn (tgt := 86) (off := 85) hx hb dX6_weigh_1 (by decide) (by decide) (by decide) (by decide) ?_
    refine lv_aload_n hx hb dX6_weigh_86 rfl (lv_at hl 0 rfl) ?_
    refine lv_aload_n hx hb dX6_weigh_87 rfl (lv_at hl 2 rfl) ?_
    refine lv_iload_n hx hb dX6_weigh_88 rfl (lv_at hl 3 rfl) ?_
    refine lv_iload hx hb dX6_weigh_89 (lv_at hl 4 rfl) ?_
    refine x_vi E h (na := 3) (As := [.ref (g.2.1 16), .int (nI p3), .int p4]) (aX6_known_0 l g σ hI p3 p4 (by omega)) (oc_ki g) rfl gX6_weigh_X6_known rfl ⟨rfl, rfl⟩ rfl (by decide +kernel) ⟨Nat.le_of_ble_eq_true rfl, Nat.le_of_ble_eq_true rfl⟩ hl.1 rfl (Nat.le_of_ble_eq_true rfl) dX6_weigh_91 ⟨Nat.le_of_ble_eq_true rfl, Nat.le_of_ble_eq_true rfl⟩ (fun r7 s7 H locs q7 h => ?_)
    obtain ⟨hI7, f7⟩ := q7
    have hF7 := hF.call f7 (I := []) (J := []) rfl rfl
    exact x_iret E h ⟨hI7, hF7⟩ dX6_weigh_94
  refine lv_tableOut (tgt := 95) hx hb dX6_weigh_1 (x_out6 c_1_0 c_1_1 c_1_2 c_1_3 c_1_4 c_1_5 c_1_6) (by decide) ?_
  refine lv_aload_n hx hb dX6_weigh_95 rfl (lv_at hl 0 rfl) ?_
  refine lv_aload_n hx hb dX6_weigh_96 rfl (lv_at hl 2 rfl) ?_
  refine lv_iload_n hx hb dX6_weigh_97 rfl (lv_at hl 3 rfl) ?_
  refine x_vi E h (na := 2) (As := [.ref (g.2.1 16), .int (nI p3)]) (aX6_noise_0 l g σ hI p3 (by omega)) (oc_ki g) rfl gX6_weigh_X6_noise rfl ⟨rfl, rfl⟩ rfl (by decide +kernel) ⟨Nat.le_of_ble_eq_true rfl, Nat.le_of_ble_eq_true rfl⟩ hl.1 rfl (Nat.le_of_ble_eq_true rfl) dX6_weigh_98 ⟨Nat.le_of_ble_eq_true rfl, Nat.le_of_ble_eq_true rfl⟩ (fun r8 s8 H locs q8 h => ?_)
  obtain ⟨hI8, f8⟩ := q8
  have hF8 := hF.call f8 (I := []) (J := []) rfl rfl
  exact x_iret E h ⟨hI8, hF8⟩ dX6_weigh_101
set_option maxHeartbeats 4000000 in
set_option maxRecDepth 100000 in
theorem aX11_weight_0 (l : Launch) (g : CX) (σ : ST) (hI : INV σ) (p1 : Int32) (p2 : Int32) : XM l g yX11_weight wsX11_weight { frames := 6, cells := 0, slots := 0, locals := 142 } [.ref (g.2.1 0), .int p1, .int p2] σ (XQi g (fun r σ' => INV σ' ∧ Fr [(3, 8), (22, 22)] [(8, 19)] σ σ')) := by
  refine x_met (own := RX11) (cc := cX11_weight) (maxL := 3) (ret := (some .int)) (lv := [(0, .ref (g.2.1 0)), (1, .int p1), (2, .int p2)]) (by decide) rfl rfl (Nat.le_of_ble_eq_true rfl) rfl ?_
  intro p e s m args below meth c ls E h hl
  have hx := E.1
  have hb := E.2.1
  have hown := E.2.2.2.1
  have hts := E.2.2.2.2.1
  have hF : Fr [(3, 8), (22, 22)] [(8, 19)] σ σ := Fr.refl σ
  have hwX11 : ∀ w ∈ wsX110, w ∈ wsX11_weight := by decide +kernel
  have hwX5 : ∀ w ∈ wsX50, w ∈ wsX11_weight := by decide +kernel
  refine lv_iload_n hx hb dX11_weight_0 rfl (lv_at hl 1 rfl) ?_
  refine lv_iconst (v := 0) hx hb dX11_weight_1 (by decide) ?_
  refine lv_bipush (v := 7) hx hb dX11_weight_2 (by decide) ?_
  refine x_si E h (na := 3) (As := [.int p1, .int 0, .int 7]) (aX11_within_0 l g σ hI p1 0 7) gX11_weight_X11_within rfl ⟨rfl, rfl⟩ rfl (by decide +kernel) ⟨Nat.le_of_ble_eq_true rfl, Nat.le_of_ble_eq_true rfl⟩ hl.1 rfl (Nat.le_of_ble_eq_true rfl) dX11_weight_4 ⟨Nat.le_of_ble_eq_true rfl, Nat.le_of_ble_eq_true rfl⟩ (fun r1 s1 H locs q1 h => ?_)
  obtain ⟨d1, rfl⟩ := q1
  rcases d1 with ⟨rfl, u1_0_0, u1_0_1⟩ | ⟨rfl, u1_1_0⟩
  · skip
    obtain ⟨n2, b2, rfl⟩ := y_rnlt (N := 7) (y_lo1 u1_0_0 (by decide)) u1_0_1 (by omega)
    have b3 : 0 ≤ n2 := y_nlt (a := n2) (b := 0) (by omega) (by omega) u1_0_0
    have b4 : n2 ≤ 7 := y_nlt (a := 7) (b := n2) (by omega) (by omega) u1_0_1
    refine lv_if_eq (tgt := 18) hx hb dX11_weight_7 (by decide) (fun c => absurd c (by decide)) (fun _ => ?_)
    refine lv_aload_n hx hb dX11_weight_10 rfl (lv_at hl 0 rfl) ?_
    refine lv_iload_n hx hb dX11_weight_11 rfl (lv_at hl 2 rfl) ?_
    refine x_vi E h (na := 1) (As := [.int p2]) (aX11_isPiece_0 l g σ hI p2) (oc_vh g) rfl gX11_weight_X11_isPiece rfl ⟨rfl, rfl⟩ rfl (by decide +kernel) ⟨Nat.le_of_ble_eq_true rfl, Nat.le_of_ble_eq_true rfl⟩ hl.1 rfl (Nat.le_of_ble_eq_true rfl) dX11_weight_12 ⟨Nat.le_of_ble_eq_true rfl, Nat.le_of_ble_eq_true rfl⟩ (fun r5 s5 H locs q5 h => ?_)
    obtain ⟨d5, hI5, f5⟩ := q5
    have hF5 := hF.call f5 (I := [(3, 8), (22, 22)]) (J := [(8, 19)]) rfl rfl
    rcases d5 with ⟨rfl, m5_0n, m5_0P, u5_0_0, u5_0_1, u5_0_2, u5_0_3, rfl⟩ | rfl
    · skip
      refine lv_if_ne (tgt := 20) hx hb dX11_weight_15 (by decide) (fun _ => ?_) (fun c => absurd c (by decide))
      refine lv_aload_n hx hb dX11_weight_20 rfl (lv_at hl 0 rfl) ?_
      refine x_getR E h (fr_vh_kinds g) rfl hwX11 (by decide) (by decide +kernel) dX11_weight_21 ?_
      refine lv_iload_n hx hb dX11_weight_24 rfl (lv_at hl 1 rfl) ?_
      refine lv_aload_n hx hb dX11_weight_25 rfl (lv_at hl 0 rfl) ?_
      refine x_getR E h (fr_vh_cutting g) rfl hwX11 (by decide) (by decide +kernel) dX11_weight_26 ?_
      refine lv_iload_n hx hb dX11_weight_29 rfl (lv_at hl 2 rfl) ?_
      refine lv_aload_n hx hb dX11_weight_30 rfl (lv_at hl 0 rfl) ?_
      refine x_getR E h (fr_vh_kept g) rfl hwX11 (by decide) (by decide +kernel) dX11_weight_31 ?_
      obtain ⟨n6, b6, e6⟩ := hI5.1 19 6 rfl
      refine x_getIN E h (fi_ke_voices g) rfl hwX5 (by decide) (by decide +kernel) (v := nI n6) e6 dX11_weight_34 ?_
      refine x_vi E h (na := 4) (As := [.int (nI n2), .ref (g.2.1 16), .int (nI m5_0n), .int (nI n6)]) (aX6_weigh_0 l g s5 hI5 (nI n2) m5_0n (nI n6) (by omega)) (oc_ki g) rfl gX11_weight_X6_weigh rfl ⟨rfl, rfl⟩ rfl (by decide +kernel) ⟨Nat.le_of_ble_eq_true rfl, Nat.le_of_ble_eq_true rfl⟩ hl.1 rfl (Nat.le_of_ble_eq_true rfl) dX11_weight_37 ⟨Nat.le_of_ble_eq_true rfl, Nat.le_of_ble_eq_true rfl⟩ (fun r7 s7 H locs q7 h => ?_)
      obtain ⟨hI7, f7⟩ := q7
      have hF7 := hF5.call f7 (I := [(3, 8), (22, 22)]) (J := [(8, 19)]) rfl rfl
      have e8 : s7.1 22 = 0 := ((f7.1 22 rfl)).trans u5_0_0
      have e9 : s7.1 5 = nI m5_0P := ((f7.1 5 rfl)).trans u5_0_1
      have e10 : s7.1 19 = nI n6 := ((f7.1 19 rfl)).trans e6
      exact x_iret E h ⟨hI7, hF7⟩ dX11_weight_40
    · skip
      refine lv_if_ne (tgt := 20) hx hb dX11_weight_15 (by decide) (fun c => absurd (by decide) c) (fun _ => ?_)
      refine lv_iconst (v := (-1)) hx hb dX11_weight_18 (by decide) ?_
      exact x_iret E h ⟨hI5, hF5⟩ dX11_weight_19
  · skip
    refine lv_if_eq (tgt := 18) hx hb dX11_weight_7 (by decide) (fun _ => ?_) (fun c => absurd (by decide) c)
    refine lv_iconst (v := (-1)) hx hb dX11_weight_18 (by decide) ?_
    exact x_iret E h ⟨hI, hF⟩ dX11_weight_19
set_option maxHeartbeats 4000000 in
set_option maxRecDepth 100000 in
theorem aX7_deafRows_0 (l : Launch) (g : CX) (σ : ST) (hI : INV σ)  : XM l g yX7_deafRows wsX7_deafRows { frames := 0, cells := 0, slots := 0, locals := 0 } [.ref (g.2.1 5)] σ (XQi g (fun r σ' => σ = σ')) := by
  refine x_met (own := RX7) (cc := cX7_deafRows) (maxL := 3) (ret := (some .int)) (lv := [(0, .ref (g.2.1 5))]) (by decide) rfl rfl (Nat.le_of_ble_eq_true rfl) rfl ?_
  intro p e s m args below meth c ls E h hl
  have hx := E.1
  have hb := E.2.1
  have hown := E.2.2.2.1
  have hts := E.2.2.2.2.1
  have hwX7 : ∀ w ∈ wsX70, w ∈ wsX7_deafRows := by decide +kernel
  refine lv_iconst (v := 0) hx hb dX7_deafRows_0 (by decide) ?_
  refine lv_istore_n (lv' := [(1, .int 0), (0, .ref (g.2.1 5))]) hx hb dX7_deafRows_1 rfl hl (by decide) rfl (fun ls hl => ?_)
  refine lv_iconst (v := 0) hx hb dX7_deafRows_2 (by decide) ?_
  refine lv_istore_n (lv' := [(2, .int 0), (1, .int 0), (0, .ref (g.2.1 5))]) hx hb dX7_deafRows_3 rfl hl (by decide) rfl (fun ls hl => ?_)
  obtain ⟨n2, b2, e2⟩ := hI.1 2 48 rfl
  have loop4_1 : ∀ (fu : Nat) (i1_2 : Nat) (i1_1 : Int32), i1_2 ≤ n2 → n2 - i1_2 < fu → ∀ (H : Heap) (locs : List Loc) (ls : Array Slot), HW g σ s H locs → lv_has ls 3 [(2, .int (nI i1_2)), (1, .int i1_1), (0, .ref (g.2.1 5))] → W p l e { frames := 0, cells := 0, slots := 0, locals := 0 } s m args below meth c H locs 0 0 (MQ below (XQi g (fun r σ' => σ = σ')) args s 0 0 (Aw g)) (F0 m 4 ls []) := by
    intro fu
    induction fu with
    | zero => intro i1_2 i1_1 bi1_2 hm; exact absurd hm (Nat.not_lt_zero _)
    | succ fu ih =>
      have ih1 := ih
      clear ih
      intro i1_2 i1_1 bi1_2 hm1 H locs ls h hl
      refine lv_iload_n hx hb dX7_deafRows_4 rfl (lv_at hl 0 rfl) ?_
      refine lv_aload_n hx hb dX7_deafRows_5 rfl (lv_at hl 2 rfl) ?_
      refine x_getI E h (fi_bk_rows g) rfl hwX7 (by decide) (by decide +kernel) (v := nI n2) e2 dX7_deafRows_6 ?_
      refine lv_icmp_ge (tgt := 35) hx hb dX7_deafRows_9 (by decide) (fun c3 => ?_) (fun c3 => ?_)
      · skip
        have b4 : n2 ≤ i1_2 := y_le (a := n2) (b := i1_2) (by omega) (by omega) c3
        refine lv_iload_n hx hb dX7_deafRows_35 rfl (lv_at hl 1 rfl) ?_
        exact x_iret E h rfl dX7_deafRows_36
      · skip
        have b5 : i1_2 < n2 := y_nle (a := n2) (b := i1_2) (by omega) (by omega) c3
        refine lv_iload_n hx hb dX7_deafRows_12 rfl (lv_at hl 1 rfl) ?_
        refine lv_aload_n hx hb dX7_deafRows_13 rfl (lv_at hl 2 rfl) ?_
        refine x_getR E h (fr_bk_isDeaf g) rfl hwX7 (by decide) (by decide +kernel) dX7_deafRows_14 ?_
        refine lv_iload_n hx hb dX7_deafRows_17 rfl (lv_at hl 0 rfl) ?_
        refine x_ldZ E h (ia_bk_isDeaf g) (i := nI i1_2) (vp_in_nI (by omega) (by decide)) (v := σ.2.2 4 i1_2) (congrArg (σ.2.2 4) (nI_clamp (by omega))) dX7_deafRows_18 ?_
        have j27_8 : ∀ (y8_s0 : Int32), ∀ (H : Heap) (locs : List Loc) (ls : Array Slot), HW g σ s H locs → lv_has ls 3 [(2, .int (nI i1_2)), (1, .int i1_1), (0, .ref (g.2.1 5))] → W p l e { frames := 0, cells := 0, slots := 0, locals := 0 } s m args below meth c H locs 0 0 (MQ below (XQi g (fun r σ' => σ = σ')) args s 0 0 (Aw g)) (F0 m 27 ls [.int y8_s0, .int i1_1]) := by
          intro y8_s0 H locs ls h hl
          refine lv_iadd hx hb dX7_deafRows_27 ?_
          refine lv_topi (fun x9 e9 => ?_)
          refine lv_istore_n (lv' := [(1, .int x9), (2, .int (nI i1_2)), (0, .ref (g.2.1 5))]) hx hb dX7_deafRows_28 rfl hl (by decide) rfl (fun ls hl => ?_)
          refine lv_iinc (v := (nI (i1_2 + 1))) (lv' := [(2, .int (nI (i1_2 + 1))), (1, .int x9), (0, .ref (g.2.1 5))]) hx hb dX7_deafRows_29 hl (k := 1) rfl (nI_add i1_2 1) (by decide) rfl (fun ls hl => ?_)
          refine lv_goto (tgt := 4) hx hb dX7_deafRows_32 (by decide) ?_
          exact ih1 (i1_2 + 1) x9 (by omega) (by omega) _ _ _ h (lv_sub hl [0, 1, 2] rfl)
        refine lv_if_eq (tgt := 26) hx hb dX7_deafRows_19 (by decide) (fun c6 => ?_) (fun c6 => ?_)
        · skip
          refine lv_iconst (v := 0) hx hb dX7_deafRows_26 (by decide) ?_
          exact j27_8 0 _ _ _ h (lv_sub hl [0, 1, 2] rfl)
        · skip
          refine lv_iconst (v := 1) hx hb dX7_deafRows_22 (by decide) ?_
          refine lv_goto (tgt := 27) hx hb dX7_deafRows_23 (by decide) ?_
          exact j27_8 1 _ _ _ h (lv_sub hl [0, 1, 2] rfl)
  exact loop4_1 _ 0 0 (Nat.zero_le _) (Nat.lt_succ_self _) _ _ _ h (lv_sub hl [0, 1, 2] rfl)
set_option maxHeartbeats 4000000 in
set_option maxRecDepth 100000 in
theorem aX7_outRows_0 (l : Launch) (g : CX) (σ : ST) (hI : INV σ)  : XM l g yX7_outRows wsX7_outRows { frames := 0, cells := 0, slots := 0, locals := 0 } [.ref (g.2.1 5)] σ (XQi g (fun r σ' => σ = σ')) := by
  refine x_met (own := RX7) (cc := cX7_outRows) (maxL := 3) (ret := (some .int)) (lv := [(0, .ref (g.2.1 5))]) (by decide) rfl rfl (Nat.le_of_ble_eq_true rfl) rfl ?_
  intro p e s m args below meth c ls E h hl
  have hx := E.1
  have hb := E.2.1
  have hown := E.2.2.2.1
  have hts := E.2.2.2.2.1
  have hwX7 : ∀ w ∈ wsX70, w ∈ wsX7_outRows := by decide +kernel
  refine lv_iconst (v := 0) hx hb dX7_outRows_0 (by decide) ?_
  refine lv_istore_n (lv' := [(1, .int 0), (0, .ref (g.2.1 5))]) hx hb dX7_outRows_1 rfl hl (by decide) rfl (fun ls hl => ?_)
  refine lv_iconst (v := 0) hx hb dX7_outRows_2 (by decide) ?_
  refine lv_istore_n (lv' := [(2, .int 0), (1, .int 0), (0, .ref (g.2.1 5))]) hx hb dX7_outRows_3 rfl hl (by decide) rfl (fun ls hl => ?_)
  obtain ⟨n2, b2, e2⟩ := hI.1 2 48 rfl
  have loop4_1 : ∀ (fu : Nat) (i1_2 : Nat) (i1_1 : Int32), i1_2 ≤ n2 → n2 - i1_2 < fu → ∀ (H : Heap) (locs : List Loc) (ls : Array Slot), HW g σ s H locs → lv_has ls 3 [(2, .int (nI i1_2)), (1, .int i1_1), (0, .ref (g.2.1 5))] → W p l e { frames := 0, cells := 0, slots := 0, locals := 0 } s m args below meth c H locs 0 0 (MQ below (XQi g (fun r σ' => σ = σ')) args s 0 0 (Aw g)) (F0 m 4 ls []) := by
    intro fu
    induction fu with
    | zero => intro i1_2 i1_1 bi1_2 hm; exact absurd hm (Nat.not_lt_zero _)
    | succ fu ih =>
      have ih1 := ih
      clear ih
      intro i1_2 i1_1 bi1_2 hm1 H locs ls h hl
      refine lv_iload_n hx hb dX7_outRows_4 rfl (lv_at hl 0 rfl) ?_
      refine lv_aload_n hx hb dX7_outRows_5 rfl (lv_at hl 2 rfl) ?_
      refine x_getI E h (fi_bk_rows g) rfl hwX7 (by decide) (by decide +kernel) (v := nI n2) e2 dX7_outRows_6 ?_
      refine lv_icmp_ge (tgt := 35) hx hb dX7_outRows_9 (by decide) (fun c3 => ?_) (fun c3 => ?_)
      · skip
        have b4 : n2 ≤ i1_2 := y_le (a := n2) (b := i1_2) (by omega) (by omega) c3
        refine lv_iload_n hx hb dX7_outRows_35 rfl (lv_at hl 1 rfl) ?_
        exact x_iret E h rfl dX7_outRows_36
      · skip
        have b5 : i1_2 < n2 := y_nle (a := n2) (b := i1_2) (by omega) (by omega) c3
        refine lv_iload_n hx hb dX7_outRows_12 rfl (lv_at hl 1 rfl) ?_
        refine lv_aload_n hx hb dX7_outRows_13 rfl (lv_at hl 2 rfl) ?_
        refine x_getR E h (fr_bk_isOut g) rfl hwX7 (by decide) (by decide +kernel) dX7_outRows_14 ?_
        refine lv_iload_n hx hb dX7_outRows_17 rfl (lv_at hl 0 rfl) ?_
        refine x_ldZ E h (ia_bk_isOut g) (i := nI i1_2) (vp_in_nI (by omega) (by decide)) (v := σ.2.2 5 i1_2) (congrArg (σ.2.2 5) (nI_clamp (by omega))) dX7_outRows_18 ?_
        have j27_8 : ∀ (y8_s0 : Int32), ∀ (H : Heap) (locs : List Loc) (ls : Array Slot), HW g σ s H locs → lv_has ls 3 [(2, .int (nI i1_2)), (1, .int i1_1), (0, .ref (g.2.1 5))] → W p l e { frames := 0, cells := 0, slots := 0, locals := 0 } s m args below meth c H locs 0 0 (MQ below (XQi g (fun r σ' => σ = σ')) args s 0 0 (Aw g)) (F0 m 27 ls [.int y8_s0, .int i1_1]) := by
          intro y8_s0 H locs ls h hl
          refine lv_iadd hx hb dX7_outRows_27 ?_
          refine lv_topi (fun x9 e9 => ?_)
          refine lv_istore_n (lv' := [(1, .int x9), (2, .int (nI i1_2)), (0, .ref (g.2.1 5))]) hx hb dX7_outRows_28 rfl hl (by decide) rfl (fun ls hl => ?_)
          refine lv_iinc (v := (nI (i1_2 + 1))) (lv' := [(2, .int (nI (i1_2 + 1))), (1, .int x9), (0, .ref (g.2.1 5))]) hx hb dX7_outRows_29 hl (k := 1) rfl (nI_add i1_2 1) (by decide) rfl (fun ls hl => ?_)
          refine lv_goto (tgt := 4) hx hb dX7_outRows_32 (by decide) ?_
          exact ih1 (i1_2 + 1) x9 (by omega) (by omega) _ _ _ h (lv_sub hl [0, 1, 2] rfl)
        refine lv_if_eq (tgt := 26) hx hb dX7_outRows_19 (by decide) (fun c6 => ?_) (fun c6 => ?_)
        · skip
          refine lv_iconst (v := 0) hx hb dX7_outRows_26 (by decide) ?_
          exact j27_8 0 _ _ _ h (lv_sub hl [0, 1, 2] rfl)
        · skip
          refine lv_iconst (v := 1) hx hb dX7_outRows_22 (by decide) ?_
          refine lv_goto (tgt := 27) hx hb dX7_outRows_23 (by decide) ?_
          exact j27_8 1 _ _ _ h (lv_sub hl [0, 1, 2] rfl)
  exact loop4_1 _ 0 0 (Nat.zero_le _) (Nat.lt_succ_self _) _ _ _ h (lv_sub hl [0, 1, 2] rfl)
set_option maxHeartbeats 4000000 in
set_option maxRecDepth 100000 in
theorem aX11_count_0 (l : Launch) (g : CX) (σ : ST) (hI : INV σ) (p1 : Int32) : XM l g yX11_count wsX11_count { frames := 1, cells := 0, slots := 0, locals := 22 } [.ref (g.2.1 0), .int p1] σ (XQi g (fun r σ' => σ = σ')) := by
  refine x_met (own := RX11) (cc := cX11_count) (maxL := 2) (ret := (some .int)) (lv := [(0, .ref (g.2.1 0)), (1, .int p1)]) (by decide) rfl rfl (Nat.le_of_ble_eq_true rfl) rfl ?_
  intro p e s m args below meth c ls E h hl
  have hx := E.1
  have hb := E.2.1
  have hown := E.2.2.2.1
  have hts := E.2.2.2.2.1
  have hwX10 : ∀ w ∈ wsX100, w ∈ wsX11_count := by decide +kernel
  have hwX11 : ∀ w ∈ wsX110, w ∈ wsX11_count := by decide +kernel
  have hwX5 : ∀ w ∈ wsX50, w ∈ wsX11_count := by decide +kernel
  have hwX7 : ∀ w ∈ wsX70, w ∈ wsX11_count := by decide +kernel
  have hwX8 : ∀ w ∈ wsX80, w ∈ wsX11_count := by decide +kernel
  refine lv_iload_n hx hb dX11_count_0 rfl (lv_at hl 1 rfl) ?_
  by_cases c_1_0 : p1 = 0
  · refine x_topI (v2 := 0) c_1_0 ?_
    refine lv_tableIn (tgt := 40) (off := 39) hx hb dX11_count_1 (by decide) (by decide) (by decide) (by decide) ?_
    refine lv_aload_n hx hb dX11_count_40 rfl (lv_at hl 0 rfl) ?_
    refine x_getR E h (fr_vh_book g) rfl hwX11 (by decide) (by decide +kernel) dX11_count_41 ?_
    obtain ⟨n1, b1, e1⟩ := hI.1 2 48 rfl
    refine x_getIN E h (fi_bk_rows g) rfl hwX7 (by decide) (by decide +kernel) (v := nI n1) e1 dX11_count_44 ?_
    exact x_iret E h rfl dX11_count_47
  by_cases c_1_1 : p1 = 1
  · refine x_topI (v2 := 1) c_1_1 ?_
    refine lv_tableIn (tgt := 48) (off := 47) hx hb dX11_count_1 (by decide) (by decide) (by decide) (by decide) ?_
    refine lv_aload_n hx hb dX11_count_48 rfl (lv_at hl 0 rfl) ?_
    refine x_getR E h (fr_vh_book g) rfl hwX11 (by decide) (by decide +kernel) dX11_count_49 ?_
    refine x_vi E h (na := 0) (As := []) (aX7_deafRows_0 l g σ hI) (oc_bk g) rfl gX11_count_X7_deafRows rfl ⟨rfl, rfl⟩ rfl (by decide +kernel) ⟨Nat.le_of_ble_eq_true rfl, Nat.le_of_ble_eq_true rfl⟩ hl.1 rfl (Nat.le_of_ble_eq_true rfl) dX11_count_52 ⟨Nat.le_of_ble_eq_true rfl, Nat.le_of_ble_eq_true rfl⟩ (fun r2 s2 H locs q2 h => ?_)
    subst q2
    exact x_iret E h rfl dX11_count_55
  by_cases c_1_2 : p1 = 2
  · refine x_topI (v2 := 2) c_1_2 ?_
    refine lv_tableIn (tgt := 56) (off := 55) hx hb dX11_count_1 (by decide) (by decide) (by decide) (by decide) ?_
    refine lv_aload_n hx hb dX11_count_56 rfl (lv_at hl 0 rfl) ?_
    refine x_getR E h (fr_vh_book g) rfl hwX11 (by decide) (by decide +kernel) dX11_count_57 ?_
    refine x_vi E h (na := 0) (As := []) (aX7_outRows_0 l g σ hI) (oc_bk g) rfl gX11_count_X7_outRows rfl ⟨rfl, rfl⟩ rfl (by decide +kernel) ⟨Nat.le_of_ble_eq_true rfl, Nat.le_of_ble_eq_true rfl⟩ hl.1 rfl (Nat.le_of_ble_eq_true rfl) dX11_count_60 ⟨Nat.le_of_ble_eq_true rfl, Nat.le_of_ble_eq_true rfl⟩ (fun r3 s3 H locs q3 h => ?_)
    subst q3
    exact x_iret E h rfl dX11_count_63
  by_cases c_1_3 : p1 = 3
  · refine x_topI (v2 := 3) c_1_3 ?_
    refine lv_tableIn (tgt := 64) (off := 63) hx hb dX11_count_1 (by decide) (by decide) (by decide) (by decide) ?_
    refine lv_aload_n hx hb dX11_count_64 rfl (lv_at hl 0 rfl) ?_
    refine x_getR E h (fr_vh_kept g) rfl hwX11 (by decide) (by decide +kernel) dX11_count_65 ?_
    obtain ⟨n4, b4, e4⟩ := hI.1 19 6 rfl
    refine x_getIN E h (fi_ke_voices g) rfl hwX5 (by decide) (by decide +kernel) (v := nI n4) e4 dX11_count_68 ?_
    exact x_iret E h rfl dX11_count_71
  by_cases c_1_4 : p1 = 4
  · refine x_topI (v2 := 4) c_1_4 ?_
    refine lv_tableIn (tgt := 72) (off := 71) hx hb dX11_count_1 (by decide) (by decide) (by decide) (by decide) ?_
    refine lv_aload_n hx hb dX11_count_72 rfl (lv_at hl 0 rfl) ?_
    refine x_getR E h (fr_vh_wordBook g) rfl hwX11 (by decide) (by decide +kernel) dX11_count_73 ?_
    obtain ⟨n5, b5, e5⟩ := hI.1 20 12 rfl
    refine x_getIN E h (fi_wb_words g) rfl hwX10 (by decide) (by decide +kernel) (v := nI n5) e5 dX11_count_76 ?_
    exact x_iret E h rfl dX11_count_79
  by_cases c_1_5 : p1 = 5
  · refine x_topI (v2 := 5) c_1_5 ?_
    refine lv_tableIn (tgt := 80) (off := 79) hx hb dX11_count_1 (by decide) (by decide) (by decide) (by decide) ?_
    refine lv_aload_n hx hb dX11_count_80 rfl (lv_at hl 0 rfl) ?_
    refine x_getR E h (fr_vh_ruleText g) rfl hwX11 (by decide) (by decide +kernel) dX11_count_81 ?_
    obtain ⟨n6, b6, e6⟩ := hI.1 0 200 rfl
    refine x_getIN E h (fi_rt_length g) rfl hwX8 (by decide) (by decide +kernel) (v := nI n6) e6 dX11_count_84 ?_
    exact x_iret E h rfl dX11_count_87
  refine lv_tableOut (tgt := 88) hx hb dX11_count_1 (x_out5 c_1_0 c_1_1 c_1_2 c_1_3 c_1_4 c_1_5) (by decide) ?_
  refine lv_iconst (v := (-1)) hx hb dX11_count_88 (by decide) ?_
  exact x_iret E h rfl dX11_count_89
set_option maxHeartbeats 4000000 in
set_option maxRecDepth 100000 in
theorem aX11_trace_0 (l : Launch) (g : CX) (σ : ST) (hI : INV σ)  : XM l g yX11_trace wsX11_trace { frames := 0, cells := 0, slots := 0, locals := 0 } [.ref (g.2.1 0)] σ (XQl g (fun r σ' => σ = σ')) := by
  refine x_met (own := RX11) (cc := cX11_trace) (maxL := 1) (ret := (some .long)) (lv := [(0, .ref (g.2.1 0))]) (by decide) rfl rfl (Nat.le_of_ble_eq_true rfl) rfl ?_
  intro p e s m args below meth c ls E h hl
  have hx := E.1
  have hb := E.2.1
  have hown := E.2.2.2.1
  have hts := E.2.2.2.2.1
  have hwX11 : ∀ w ∈ wsX110, w ∈ wsX11_trace := by decide +kernel
  have hwX6 : ∀ w ∈ wsX60, w ∈ wsX11_trace := by decide +kernel
  refine lv_aload_n hx hb dX11_trace_0 rfl (lv_at hl 0 rfl) ?_
  refine x_getR E h (fr_vh_kinds g) rfl hwX11 (by decide) (by decide +kernel) dX11_trace_1 ?_
  refine x_getLN E h (fl_ki_asked g) rfl hwX6 (by decide) (by decide +kernel) rfl dX11_trace_4 ?_
  exact x_lret E h rfl dX11_trace_7
set_option maxHeartbeats 4000000 in
set_option maxRecDepth 100000 in
theorem aX12_in_0 (l : Launch) (g : CX) (σ : ST) (hI : INV σ) (p0 : Int32) (p1 : Int32) (p2 : Int32) : XM l g yX12_in wsX12_in { frames := 0, cells := 0, slots := 0, locals := 0 } [.int p0, .int p1, .int p2] σ (XQi g (fun r σ' => ((1 = r ∧ ¬ p0 < p1 ∧ ¬ p2 < p0) ∨ (0 = r ∧ ¬ (¬ p0 < p1 ∧ ¬ p2 < p0))) ∧ σ = σ')) := by
  refine x_met (own := RX12) (cc := cX12_in) (maxL := 3) (ret := (some .boolean)) (lv := [(0, .int p0), (1, .int p1), (2, .int p2)]) (by decide) rfl rfl (Nat.le_of_ble_eq_true rfl) rfl ?_
  intro p e s m args below meth c ls E h hl
  have hx := E.1
  have hb := E.2.1
  have hown := E.2.2.2.1
  have hts := E.2.2.2.2.1
  refine lv_iload_n hx hb dX12_in_0 rfl (lv_at hl 0 rfl) ?_
  refine lv_iload_n hx hb dX12_in_1 rfl (lv_at hl 1 rfl) ?_
  refine lv_icmp_lt (tgt := 14) hx hb dX12_in_2 (by decide) (fun c1 => ?_) (fun c1 => ?_)
  · skip
    refine lv_iconst (v := 0) hx hb dX12_in_14 (by decide) ?_
    exact x_zret E h rfl ⟨(Or.inr (⟨rfl, (fun q9 => q9.1 c1)⟩)), rfl⟩ dX12_in_15
  · skip
    refine lv_iload_n hx hb dX12_in_5 rfl (lv_at hl 0 rfl) ?_
    refine lv_iload_n hx hb dX12_in_6 rfl (lv_at hl 2 rfl) ?_
    refine lv_icmp_gt (tgt := 14) hx hb dX12_in_7 (by decide) (fun c4 => ?_) (fun c4 => ?_)
    · skip
      refine lv_iconst (v := 0) hx hb dX12_in_14 (by decide) ?_
      exact x_zret E h rfl ⟨(Or.inr (⟨rfl, (fun q9 => q9.2 c4)⟩)), rfl⟩ dX12_in_15
    · skip
      refine lv_iconst (v := 1) hx hb dX12_in_10 (by decide) ?_
      refine lv_goto (tgt := 15) hx hb dX12_in_11 (by decide) ?_
      exact x_zret E h rfl ⟨(Or.inl ⟨rfl, c1, c4⟩), rfl⟩ dX12_in_15
set_option maxHeartbeats 4000000 in
set_option maxRecDepth 100000 in
theorem aX12_type_0 (l : Launch) (g : CX) (σ : ST) (hI : INV σ) (p1 : Int64) (p2 : Int32) : XM l g yX12_type wsX12_type { frames := 1, cells := 0, slots := 0, locals := 22 } [.ref (g.2.1 79), .long p1, .int p2] σ (XQi g (fun r σ' => INV σ' ∧ Fr [(25, 25)] [(67, 67)] σ σ')) := by
  refine x_met (own := RX12) (cc := cX12_type) (maxL := 5) (ret := (some .int)) (lv := [(0, .ref (g.2.1 79)), (1, .long p1), (3, .int p2)]) (by decide) rfl rfl (Nat.le_of_ble_eq_true rfl) rfl ?_
  intro p e s m args below meth c ls E h hl
  have hx := E.1
  have hb := E.2.1
  have hown := E.2.2.2.1
  have hts := E.2.2.2.2.1
  have hF : Fr [(25, 25)] [(67, 67)] σ σ := Fr.refl σ
  have hwX12 : ∀ w ∈ wsX120, w ∈ wsX12_type := by decide +kernel
  refine lv_iload_n hx hb dX12_type_0 rfl (lv_at hl 2 rfl) ?_
  refine lv_iconst (v := 1) hx hb dX12_type_1 (by decide) ?_
  refine lv_bipush (v := 8) hx hb dX12_type_2 (by decide) ?_
  refine x_si E h (na := 3) (As := [.int p2, .int 1, .int 8]) (aX12_in_0 l g σ hI p2 1 8) gX12_type_X12_in rfl ⟨rfl, rfl⟩ rfl (by decide +kernel) ⟨Nat.le_of_ble_eq_true rfl, Nat.le_of_ble_eq_true rfl⟩ hl.1 rfl (Nat.le_of_ble_eq_true rfl) dX12_type_4 ⟨Nat.le_of_ble_eq_true rfl, Nat.le_of_ble_eq_true rfl⟩ (fun r1 s1 H locs q1 h => ?_)
  obtain ⟨d1, rfl⟩ := q1
  rcases d1 with ⟨rfl, u1_0_0, u1_0_1⟩ | ⟨rfl, u1_1_0⟩
  · skip
    obtain ⟨n2, b2, rfl⟩ := y_rnlt (N := 8) (y_lo1 u1_0_0 (by decide)) u1_0_1 (by omega)
    have b3 : 1 ≤ n2 := y_nlt (a := n2) (b := 1) (by omega) (by omega) u1_0_0
    have b4 : n2 ≤ 8 := y_nlt (a := 8) (b := n2) (by omega) (by omega) u1_0_1
    refine lv_if_ne (tgt := 12) hx hb dX12_type_7 (by decide) (fun _ => ?_) (fun c => absurd c (by decide))
    refine lv_aload_n hx hb dX12_type_12 rfl (lv_at hl 0 rfl) ?_
    obtain ⟨n5, b5, e5⟩ := hI.1 25 200 rfl
    refine x_getI E h (fi_mo_typed g) rfl hwX12 (by decide) (by decide +kernel) (v := nI n5) e5 dX12_type_13 ?_
    refine lv_iload_n hx hb dX12_type_16 rfl (lv_at hl 2 rfl) ?_
    refine lv_iadd hx hb dX12_type_17 ?_
    refine x_topI (v2 := nI (n5 + n2)) (nI_add n5 n2) ?_
    refine lv_sipush (v := 200) hx hb dX12_type_18 (by decide) ?_
    refine lv_icmp_le (tgt := 27) hx hb dX12_type_21 (by decide) (fun c6 => ?_) (fun c6 => ?_)
    · skip
      have b7 : (n5 + n2) ≤ 200 := y_le (a := (n5 + n2)) (b := 200) (by omega) (by omega) c6
      refine lv_iload_n hx hb dX12_type_27 rfl (lv_at hl 2 rfl) ?_
      refine lv_iconst (v := 1) hx hb dX12_type_28 (by decide) ?_
      refine lv_isub hx hb dX12_type_29 ?_
      refine lv_istore (lv' := [(4, .int (nI n2 - 1)), (0, .ref (g.2.1 79)), (1, .long p1), (3, .int (nI n2))]) hx hb dX12_type_30 hl (by decide) rfl (fun ls hl => ?_)
      have loop32_8 : ∀ (fu : Nat) (t8 : ST) (f8_25 : Nat) (i8_4 : Nat), INV t8 → Fr [(25, 25)] [(67, 67)] σ t8 → t8.1 25 = nI f8_25 → i8_4 ≤ 8 → f8_25 + i8_4 ≤ 200 → i8_4 < fu → ∀ (H : Heap) (locs : List Loc) (ls : Array Slot), HW g t8 s H locs → lv_has ls 5 [(4, .int (nI i8_4 - 1)), (0, .ref (g.2.1 79)), (1, .long p1), (3, .int (nI n2))] → W p l e { frames := 1, cells := 0, slots := 0, locals := 22 } s m args below meth c H locs 0 0 (MQ below (XQi g (fun r σ' => INV σ' ∧ Fr [(25, 25)] [(67, 67)] σ σ')) args s 0 0 (Aw g)) (F0 m 32 ls []) := by
        intro fu
        induction fu with
        | zero => intro t8 f8_25 i8_4 hI_8 hF_8 ef8_25 bi8_4 pp8_0 hm; exact absurd hm (Nat.not_lt_zero _)
        | succ fu ih =>
          have ih8 := ih
          clear ih
          intro t8 f8_25 i8_4 hI_8 hF_8 ef8_25 bi8_4 pp8_0 hm8 H locs ls h hl
          refine lv_iload hx hb dX12_type_32 (lv_at hl 0 rfl) ?_
          refine lv_if_lt (tgt := 75) hx hb dX12_type_34 (by decide) (fun c9 => ?_) (fun c9 => ?_)
          · skip
            have b10 : i8_4 < 0 + 1 := y_ltL (a := i8_4) (b := 0) (by omega) (by omega) c9
            refine lv_aload_n hx hb dX12_type_75 rfl (lv_at hl 1 rfl) ?_
            refine x_getI E h (fi_mo_typed g) rfl hwX12 (by decide) (by decide +kernel) (v := nI f8_25) ef8_25 dX12_type_76 ?_
            exact x_iret E h ⟨hI_8, hF_8⟩ dX12_type_79
          · skip
            have b11 : 0 + 1 ≤ i8_4 := y_nltL (a := i8_4) (b := 0) (by omega) (by omega) c9
            obtain ⟨n12, rfl⟩ : ∃ z, i8_4 = z + 1 := ⟨i8_4 - 1, by omega⟩
            rw [nI_pred] at hl
            refine lv_aload_n hx hb dX12_type_37 rfl (lv_at hl 1 rfl) ?_
            refine x_getR E h (fr_mo_text g) rfl hwX12 (by decide) (by decide +kernel) dX12_type_38 ?_
            refine lv_aload_n hx hb dX12_type_41 rfl (lv_at hl 1 rfl) ?_
            refine x_getI E h (fi_mo_typed g) rfl hwX12 (by decide) (by decide +kernel) (v := nI f8_25) ef8_25 dX12_type_42 ?_
            refine lv_lload_n hx hb dX12_type_45 rfl (lv_at hl 2 rfl) ?_
            refine lv_bipush (v := 8) hx hb dX12_type_46 (by decide) ?_
            refine lv_iload hx hb dX12_type_48 (lv_at hl 0 rfl) ?_
            refine lv_imul hx hb dX12_type_50 ?_
            refine x_topI (v2 := nI (8 * n12)) (pk_mul 8 n12) ?_
            refine lv_lshr hx hb dX12_type_51 rfl ?_
            refine lv_topl (fun y13 e13 => ?_)
            refine lv_ldc2 (v := 255) hx hb hown (hts (.constantLong RX12 108 (255)) (by decide +kernel)) dX12_type_52 ?_
            refine lv_land hx hb dX12_type_55 ?_
            refine lv_topl (fun y14 e14 => ?_)
            refine lv_l2i hx hb dX12_type_56 rfl ?_
            refine lv_topi (fun x15 e15 => ?_)
            refine lv_i2b hx hb dX12_type_57 rfl ?_
            refine lv_topi (fun x16 e16 => ?_)
            refine y_stB E h hI_8 hF_8 (ia_mo_text g) (i := nI f8_25) (vp_in_nI (by omega) (by decide)) (j := f8_25) (nI_clamp (by omega)) (ba_none rfl) rfl dX12_type_58 (fun s17 H locs q17 hI17 hF17 h => ?_)
            have e18 : s17.1 25 = nI f8_25 := (congrArg (fun t : ST => t.1 25) q17).trans ef8_25
            refine lv_aload_n hx hb dX12_type_59 rfl (lv_at hl 1 rfl) ?_
            refine lv_dup hx hb dX12_type_60 rfl ?_
            refine x_getI E h (fi_mo_typed g) rfl hwX12 (by decide) (by decide +kernel) (v := nI f8_25) e18 dX12_type_61 ?_
            refine lv_iconst (v := 1) hx hb dX12_type_64 (by decide) ?_
            refine lv_iadd hx hb dX12_type_65 ?_
            refine x_topI (v2 := nI (f8_25 + 1)) (nI_add f8_25 1) ?_
            refine y_putI E h hI17 hF17 (ty := .int) (v := nI (f8_25 + 1)) (fi_mo_typed g) rfl hwX12 tyX12_ok nmX12 (by decide) (by decide +kernel) (by decide +kernel) (by decide +kernel) rfl rfl (ba_some rfl (Bd.mk (n := (f8_25 + 1)) (by omega))) rfl dX12_type_66 (fun s19 H locs q19 hI19 hF19 h => ?_)
            have e20 : s19.1 25 = nI (f8_25 + 1) := congrArg (fun t : ST => t.1 25) q19
            refine lv_iinc (v := (nI n12 - 1)) (lv' := [(4, .int (nI n12 - 1)), (0, .ref (g.2.1 79)), (1, .long p1), (3, .int (nI n2))]) hx hb dX12_type_69 hl (k := 0) rfl (y_m1 n12) (by decide) rfl (fun ls hl => ?_)
            refine lv_goto (tgt := 32) hx hb dX12_type_72 (by decide) ?_
            exact ih8 s19 (f8_25 + 1) n12 hI19 hF19 e20 (by omega) (by omega) (by omega) _ _ _ h (lv_sub hl [0, 1, 2, 3] rfl)
      exact loop32_8 _ σ n5 n2 hI hF e5 (by omega) (by omega) (Nat.lt_succ_self _) _ _ _ h (lv_sub hl [0, 1, 2, 3] rfl)
    · skip
      have b21 : 200 < (n5 + n2) := y_nle (a := (n5 + n2)) (b := 200) (by omega) (by omega) c6
      refine lv_bipush (v := (-3)) hx hb dX12_type_24 (by decide) ?_
      exact x_iret E h ⟨hI, hF⟩ dX12_type_26
  · skip
    refine lv_if_ne (tgt := 12) hx hb dX12_type_7 (by decide) (fun c => absurd (by decide) c) (fun _ => ?_)
    refine lv_iconst (v := (-1)) hx hb dX12_type_10 (by decide) ?_
    exact x_iret E h ⟨hI, hF⟩ dX12_type_11
set_option maxHeartbeats 4000000 in
set_option maxRecDepth 100000 in
theorem aX12_clear_0 (l : Launch) (g : CX) (σ : ST) (hI : INV σ)  : XM l g yX12_clear wsX12_clear { frames := 0, cells := 0, slots := 0, locals := 0 } [.ref (g.2.1 79)] σ (XQi g (fun r σ' => INV σ' ∧ Fr [(25, 25)] [] σ σ')) := by
  refine x_met (own := RX12) (cc := cX12_clear) (maxL := 2) (ret := (some .int)) (lv := [(0, .ref (g.2.1 79))]) (by decide) rfl rfl (Nat.le_of_ble_eq_true rfl) rfl ?_
  intro p e s m args below meth c ls E h hl
  have hx := E.1
  have hb := E.2.1
  have hown := E.2.2.2.1
  have hts := E.2.2.2.2.1
  have hF : Fr [(25, 25)] [] σ σ := Fr.refl σ
  have hwX12 : ∀ w ∈ wsX120, w ∈ wsX12_clear := by decide +kernel
  refine lv_aload_n hx hb dX12_clear_0 rfl (lv_at hl 0 rfl) ?_
  obtain ⟨n1, b1, e1⟩ := hI.1 25 200 rfl
  refine x_getI E h (fi_mo_typed g) rfl hwX12 (by decide) (by decide +kernel) (v := nI n1) e1 dX12_clear_1 ?_
  refine lv_istore_n (lv' := [(1, .int (nI n1)), (0, .ref (g.2.1 79))]) hx hb dX12_clear_4 rfl hl (by decide) rfl (fun ls hl => ?_)
  refine lv_aload_n hx hb dX12_clear_5 rfl (lv_at hl 1 rfl) ?_
  refine lv_iconst (v := 0) hx hb dX12_clear_6 (by decide) ?_
  refine y_putI E h hI hF (ty := .int) (v := nI 0) (fi_mo_typed g) rfl hwX12 tyX12_ok nmX12 (by decide) (by decide +kernel) (by decide +kernel) (by decide +kernel) rfl rfl (ba_some rfl (Bd.mk (n := 0) (by omega))) rfl dX12_clear_7 (fun s2 H locs q2 hI2 hF2 h => ?_)
  have e3 : s2.1 25 = nI 0 := congrArg (fun t : ST => t.1 25) q2
  refine lv_iload_n hx hb dX12_clear_10 rfl (lv_at hl 0 rfl) ?_
  exact x_iret E h ⟨hI2, hF2⟩ dX12_clear_11
set_option maxHeartbeats 4000000 in
set_option maxRecDepth 100000 in
theorem aX12_atFirst_0 (l : Launch) (g : CX) (σ : ST) (hI : INV σ)  : XM l g yX12_atFirst wsX12_atFirst { frames := 0, cells := 0, slots := 0, locals := 0 } [.ref (g.2.1 79), .int 6] σ (XQv g (fun σ' => INV σ' ∧ Fr [] [(66, 66)] σ σ')) := by
  refine x_met (own := RX12) (cc := cX12_atFirst) (maxL := 2) (ret := none) (lv := [(0, .ref (g.2.1 79)), (1, .int 6)]) (by decide) rfl rfl (Nat.le_of_ble_eq_true rfl) rfl ?_
  intro p e s m args below meth c ls E h hl
  have hx := E.1
  have hb := E.2.1
  have hown := E.2.2.2.1
  have hts := E.2.2.2.2.1
  have hF : Fr [] [(66, 66)] σ σ := Fr.refl σ
  have hwX12 : ∀ w ∈ wsX120, w ∈ wsX12_atFirst := by decide +kernel
  refine lv_aload_n hx hb dX12_atFirst_0 rfl (lv_at hl 0 rfl) ?_
  refine x_getR E h (fr_mo_rule g) rfl hwX12 (by decide) (by decide +kernel) dX12_atFirst_1 ?_
  refine lv_iload_n hx hb dX12_atFirst_4 rfl (lv_at hl 1 rfl) ?_
  refine lv_iconst (v := 0) hx hb dX12_atFirst_5 (by decide) ?_
  refine lv_iadd hx hb dX12_atFirst_6 ?_
  refine x_topI (v2 := 6) (by decide) ?_
  refine lv_bipush (v := 20) hx hb dX12_atFirst_7 (by decide) ?_
  refine y_stI E h hI hF (ia_mo_rule g) (i := nI 6) (vp_in_nI (by omega) (by decide)) (j := 6) (nI_clamp (by omega)) (ba_none rfl) rfl dX12_atFirst_9 (fun s1 H locs q1 hI1 hF1 h => ?_)
  refine lv_aload_n hx hb dX12_atFirst_10 rfl (lv_at hl 0 rfl) ?_
  refine x_getR E h (fr_mo_rule g) rfl hwX12 (by decide) (by decide +kernel) dX12_atFirst_11 ?_
  refine lv_iload_n hx hb dX12_atFirst_14 rfl (lv_at hl 1 rfl) ?_
  refine lv_iconst (v := 1) hx hb dX12_atFirst_15 (by decide) ?_
  refine lv_iadd hx hb dX12_atFirst_16 ?_
  refine x_topI (v2 := 7) (by decide) ?_
  refine lv_bipush (v := 10) hx hb dX12_atFirst_17 (by decide) ?_
  refine y_stI E h hI1 hF1 (ia_mo_rule g) (i := nI 7) (vp_in_nI (by omega) (by decide)) (j := 7) (nI_clamp (by omega)) (ba_none rfl) rfl dX12_atFirst_19 (fun s2 H locs q2 hI2 hF2 h => ?_)
  refine lv_aload_n hx hb dX12_atFirst_20 rfl (lv_at hl 0 rfl) ?_
  refine x_getR E h (fr_mo_rule g) rfl hwX12 (by decide) (by decide +kernel) dX12_atFirst_21 ?_
  refine lv_iload_n hx hb dX12_atFirst_24 rfl (lv_at hl 1 rfl) ?_
  refine lv_iconst (v := 2) hx hb dX12_atFirst_25 (by decide) ?_
  refine lv_iadd hx hb dX12_atFirst_26 ?_
  refine x_topI (v2 := 8) (by decide) ?_
  refine lv_bipush (v := 40) hx hb dX12_atFirst_27 (by decide) ?_
  refine y_stI E h hI2 hF2 (ia_mo_rule g) (i := nI 8) (vp_in_nI (by omega) (by decide)) (j := 8) (nI_clamp (by omega)) (ba_none rfl) rfl dX12_atFirst_29 (fun s3 H locs q3 hI3 hF3 h => ?_)
  refine lv_aload_n hx hb dX12_atFirst_30 rfl (lv_at hl 0 rfl) ?_
  refine x_getR E h (fr_mo_rule g) rfl hwX12 (by decide) (by decide +kernel) dX12_atFirst_31 ?_
  refine lv_iload_n hx hb dX12_atFirst_34 rfl (lv_at hl 1 rfl) ?_
  refine lv_iconst (v := 3) hx hb dX12_atFirst_35 (by decide) ?_
  refine lv_iadd hx hb dX12_atFirst_36 ?_
  refine x_topI (v2 := 9) (by decide) ?_
  refine lv_iconst (v := 0) hx hb dX12_atFirst_37 (by decide) ?_
  refine y_stI E h hI3 hF3 (ia_mo_rule g) (i := nI 9) (vp_in_nI (by omega) (by decide)) (j := 9) (nI_clamp (by omega)) (ba_none rfl) rfl dX12_atFirst_38 (fun s4 H locs q4 hI4 hF4 h => ?_)
  refine lv_aload_n hx hb dX12_atFirst_39 rfl (lv_at hl 0 rfl) ?_
  refine x_getR E h (fr_mo_rule g) rfl hwX12 (by decide) (by decide +kernel) dX12_atFirst_40 ?_
  refine lv_iload_n hx hb dX12_atFirst_43 rfl (lv_at hl 1 rfl) ?_
  refine lv_iconst (v := 4) hx hb dX12_atFirst_44 (by decide) ?_
  refine lv_iadd hx hb dX12_atFirst_45 ?_
  refine x_topI (v2 := 10) (by decide) ?_
  refine lv_iconst (v := 0) hx hb dX12_atFirst_46 (by decide) ?_
  refine y_stI E h hI4 hF4 (ia_mo_rule g) (i := nI 10) (vp_in_nI (by omega) (by decide)) (j := 10) (nI_clamp (by omega)) (ba_none rfl) rfl dX12_atFirst_47 (fun s5 H locs q5 hI5 hF5 h => ?_)
  refine lv_aload_n hx hb dX12_atFirst_48 rfl (lv_at hl 0 rfl) ?_
  refine x_getR E h (fr_mo_rule g) rfl hwX12 (by decide) (by decide +kernel) dX12_atFirst_49 ?_
  refine lv_iload_n hx hb dX12_atFirst_52 rfl (lv_at hl 1 rfl) ?_
  refine lv_iconst (v := 5) hx hb dX12_atFirst_53 (by decide) ?_
  refine lv_iadd hx hb dX12_atFirst_54 ?_
  refine x_topI (v2 := 11) (by decide) ?_
  refine lv_bipush (v := 10) hx hb dX12_atFirst_55 (by decide) ?_
  refine y_stI E h hI5 hF5 (ia_mo_rule g) (i := nI 11) (vp_in_nI (by omega) (by decide)) (j := 11) (nI_clamp (by omega)) (ba_none rfl) rfl dX12_atFirst_57 (fun s6 H locs q6 hI6 hF6 h => ?_)
  exact x_vret E h ⟨hI6, hF6⟩ dX12_atFirst_58
set_option maxHeartbeats 4000000 in
set_option maxRecDepth 100000 in
theorem aX12_here_0 (l : Launch) (g : CX) (σ : ST) (hI : INV σ)  : XM l g yX12_here wsX12_here { frames := 0, cells := 0, slots := 0, locals := 0 } [.ref (g.2.1 79)] σ (XQi g (fun r σ' => (((-1) = r) ∨ (∃ a T n : Nat, σ.1 26 = nI a ∧ σ.1 25 = nI T ∧ T ≤ 200 ∧ a < T ∧ n < 256 ∧ r = nI n)) ∧ σ = σ')) := by
  refine x_met (own := RX12) (cc := cX12_here) (maxL := 1) (ret := (some .int)) (lv := [(0, .ref (g.2.1 79))]) (by decide) rfl rfl (Nat.le_of_ble_eq_true rfl) rfl ?_
  intro p e s m args below meth c ls E h hl
  have hx := E.1
  have hb := E.2.1
  have hown := E.2.2.2.1
  have hts := E.2.2.2.2.1
  have hwX12 : ∀ w ∈ wsX120, w ∈ wsX12_here := by decide +kernel
  refine lv_aload_n hx hb dX12_here_0 rfl (lv_at hl 0 rfl) ?_
  obtain ⟨n1, b1, e1⟩ := hI.1 26 200 rfl
  refine x_getI E h (fi_mo_at g) rfl hwX12 (by decide) (by decide +kernel) (v := nI n1) e1 dX12_here_1 ?_
  refine lv_aload_n hx hb dX12_here_4 rfl (lv_at hl 0 rfl) ?_
  obtain ⟨n2, b2, e2⟩ := hI.1 25 200 rfl
  refine x_getI E h (fi_mo_typed g) rfl hwX12 (by decide) (by decide +kernel) (v := nI n2) e2 dX12_here_5 ?_
  refine lv_icmp_ge (tgt := 27) hx hb dX12_here_8 (by decide) (fun c3 => ?_) (fun c3 => ?_)
  · skip
    have b4 : n2 ≤ n1 := y_le (a := n2) (b := n1) (by omega) (by omega) c3
    refine lv_iconst (v := (-1)) hx hb dX12_here_27 (by decide) ?_
    exact x_iret E h ⟨(Or.inl rfl), rfl⟩ dX12_here_28
  · skip
    have b5 : n1 < n2 := y_nle (a := n2) (b := n1) (by omega) (by omega) c3
    refine lv_aload_n hx hb dX12_here_11 rfl (lv_at hl 0 rfl) ?_
    refine x_getR E h (fr_mo_text g) rfl hwX12 (by decide) (by decide +kernel) dX12_here_12 ?_
    refine lv_aload_n hx hb dX12_here_15 rfl (lv_at hl 0 rfl) ?_
    refine x_getI E h (fi_mo_at g) rfl hwX12 (by decide) (by decide +kernel) (v := nI n1) e1 dX12_here_16 ?_
    refine x_ldB E h (ia_mo_text g) (i := nI n1) (vp_in_nI (by omega) (by decide)) (v := σ.2.2 67 n1) (congrArg (σ.2.2 67) (nI_clamp (by omega))) dX12_here_19 ?_
    refine lv_sipush (v := 255) hx hb dX12_here_20 (by decide) ?_
    refine lv_iand hx hb dX12_here_23 ?_
    obtain ⟨n6, b6, e6⟩ := pk_andE (σ.2.2 67 n1) (m := 255) 8 (by decide)
    refine x_topI (v2 := nI n6) e6 ?_
    refine lv_goto (tgt := 28) hx hb dX12_here_24 (by decide) ?_
    exact x_iret E h ⟨(Or.inr (⟨n1, n2, n6, e1, e2, (by omega), (by omega), (by omega), rfl⟩)), rfl⟩ dX12_here_28
set_option maxHeartbeats 4000000 in
set_option maxRecDepth 100000 in
theorem aX12_more_0 (l : Launch) (g : CX) (σ : ST) (hI : INV σ) (p0 : Int64) (p1 : Int32) : XM l g yX12_more wsX12_more { frames := 0, cells := 0, slots := 0, locals := 0 } [.long p0, .int p1] σ (XQl g (fun r σ' => σ = σ')) := by
  refine x_met (own := RX12) (cc := cX12_more) (maxL := 3) (ret := (some .long)) (lv := [(0, .long p0), (2, .int p1)]) (by decide) rfl rfl (Nat.le_of_ble_eq_true rfl) rfl ?_
  intro p e s m args below meth c ls E h hl
  have hx := E.1
  have hb := E.2.1
  have hown := E.2.2.2.1
  have hts := E.2.2.2.2.1
  refine lv_iload_n hx hb dX12_more_0 rfl (lv_at hl 1 rfl) ?_
  refine lv_if_ne (tgt := 8) hx hb dX12_more_1 (by decide) (fun c1 => ?_) (fun c1 => ?_)
  · skip
    refine lv_lload_n hx hb dX12_more_8 rfl (lv_at hl 0 rfl) ?_
    refine lv_ldc2 (v := 27) hx hb hown (hts (.constantLong RX12 113 (27)) (by decide +kernel)) dX12_more_9 ?_
    refine lv_lmul hx hb dX12_more_12 ?_
    refine lv_topl (fun y3 e3 => ?_)
    refine lv_iload_n hx hb dX12_more_13 rfl (lv_at hl 1 rfl) ?_
    refine lv_i2l hx hb dX12_more_14 rfl ?_
    refine lv_topl (fun y4 e4 => ?_)
    refine lv_ladd hx hb dX12_more_15 ?_
    refine lv_topl (fun y5 e5 => ?_)
    refine lv_ldc2 (v := 97) hx hb hown (hts (.constantLong RX12 115 (97)) (by decide +kernel)) dX12_more_16 ?_
    refine lv_lsub hx hb dX12_more_19 ?_
    refine lv_topl (fun y6 e6 => ?_)
    refine lv_lconst (v := 1) hx hb dX12_more_20 (by decide) ?_
    refine lv_ladd hx hb dX12_more_21 ?_
    refine lv_topl (fun y7 e7 => ?_)
    exact x_lret E h rfl dX12_more_22
  · skip
    refine lv_lload_n hx hb dX12_more_4 rfl (lv_at hl 0 rfl) ?_
    refine lv_goto (tgt := 22) hx hb dX12_more_5 (by decide) ?_
    exact x_lret E h rfl dX12_more_22
set_option maxHeartbeats 4000000 in
set_option maxRecDepth 100000 in
theorem aX12_code_0 (l : Launch) (g : CX) (σ : ST) (hI : INV σ) (p0 : Int32) (p1 : Int32) (p2 : Int32) (p3 : Int32) (p4 : Int32) : XM l g yX12_code wsX12_code { frames := 1, cells := 0, slots := 0, locals := 22 } [.int p0, .int p1, .int p2, .int p3, .int p4] σ (XQl g (fun r σ' => σ = σ')) := by
  refine x_met (own := RX12) (cc := cX12_code) (maxL := 5) (ret := (some .long)) (lv := [(0, .int p0), (1, .int p1), (2, .int p2), (3, .int p3), (4, .int p4)]) (by decide) rfl rfl (Nat.le_of_ble_eq_true rfl) rfl ?_
  intro p e s m args below meth c ls E h hl
  have hx := E.1
  have hb := E.2.1
  have hown := E.2.2.2.1
  have hts := E.2.2.2.2.1
  refine lv_lconst (v := 0) hx hb dX12_code_0 (by decide) ?_
  refine lv_iload_n hx hb dX12_code_1 rfl (lv_at hl 0 rfl) ?_
  refine x_sl E h (na := 2) (As := [.long 0, .int p0]) (aX12_more_0 l g σ hI 0 p0) gX12_code_X12_more rfl ⟨rfl, rfl⟩ rfl (by decide +kernel) ⟨Nat.le_of_ble_eq_true rfl, Nat.le_of_ble_eq_true rfl⟩ hl.1 rfl (Nat.le_of_ble_eq_true rfl) dX12_code_2 ⟨Nat.le_of_ble_eq_true rfl, Nat.le_of_ble_eq_true rfl⟩ (fun r1 s1 H locs q1 h => ?_)
  subst q1
  refine lv_iload_n hx hb dX12_code_5 rfl (lv_at hl 1 rfl) ?_
  refine x_sl E h (na := 2) (As := [.long r1, .int p1]) (aX12_more_0 l g σ hI r1 p1) gX12_code_X12_more rfl ⟨rfl, rfl⟩ rfl (by decide +kernel) ⟨Nat.le_of_ble_eq_true rfl, Nat.le_of_ble_eq_true rfl⟩ hl.1 rfl (Nat.le_of_ble_eq_true rfl) dX12_code_6 ⟨Nat.le_of_ble_eq_true rfl, Nat.le_of_ble_eq_true rfl⟩ (fun r2 s2 H locs q2 h => ?_)
  subst q2
  refine lv_iload_n hx hb dX12_code_9 rfl (lv_at hl 2 rfl) ?_
  refine x_sl E h (na := 2) (As := [.long r2, .int p2]) (aX12_more_0 l g σ hI r2 p2) gX12_code_X12_more rfl ⟨rfl, rfl⟩ rfl (by decide +kernel) ⟨Nat.le_of_ble_eq_true rfl, Nat.le_of_ble_eq_true rfl⟩ hl.1 rfl (Nat.le_of_ble_eq_true rfl) dX12_code_10 ⟨Nat.le_of_ble_eq_true rfl, Nat.le_of_ble_eq_true rfl⟩ (fun r3 s3 H locs q3 h => ?_)
  subst q3
  refine lv_iload_n hx hb dX12_code_13 rfl (lv_at hl 3 rfl) ?_
  refine x_sl E h (na := 2) (As := [.long r3, .int p3]) (aX12_more_0 l g σ hI r3 p3) gX12_code_X12_more rfl ⟨rfl, rfl⟩ rfl (by decide +kernel) ⟨Nat.le_of_ble_eq_true rfl, Nat.le_of_ble_eq_true rfl⟩ hl.1 rfl (Nat.le_of_ble_eq_true rfl) dX12_code_14 ⟨Nat.le_of_ble_eq_true rfl, Nat.le_of_ble_eq_true rfl⟩ (fun r4 s4 H locs q4 h => ?_)
  subst q4
  refine lv_iload hx hb dX12_code_17 (lv_at hl 4 rfl) ?_
  refine x_sl E h (na := 2) (As := [.long r4, .int p4]) (aX12_more_0 l g σ hI r4 p4) gX12_code_X12_more rfl ⟨rfl, rfl⟩ rfl (by decide +kernel) ⟨Nat.le_of_ble_eq_true rfl, Nat.le_of_ble_eq_true rfl⟩ hl.1 rfl (Nat.le_of_ble_eq_true rfl) dX12_code_19 ⟨Nat.le_of_ble_eq_true rfl, Nat.le_of_ble_eq_true rfl⟩ (fun r5 s5 H locs q5 h => ?_)
  subst q5
  exact x_lret E h rfl dX12_code_22
set_option maxHeartbeats 4000000 in
set_option maxRecDepth 100000 in
theorem aX12_wordOf_0 (l : Launch) (g : CX) (σ : ST) (hI : INV σ) (p1 : Nat) (p2 : Nat) (hh0 : p1 ≤ p2) (hh1 : p2 ≤ 200) : XM l g yX12_wordOf wsX12_wordOf { frames := 2, cells := 0, slots := 0, locals := 46 } [.ref (g.2.1 79), .int (nI p1), .int (nI p2)] σ (XQi g (fun r σ' => Opt (-9) 6 r ∧ σ = σ')) := by
  refine x_met (own := RX12) (cc := cX12_wordOf) (maxL := 6) (ret := (some .int)) (lv := [(0, .ref (g.2.1 79)), (1, .int (nI p1)), (2, .int (nI p2))]) (by decide) rfl rfl (Nat.le_of_ble_eq_true rfl) rfl ?_
  intro p e s m args below meth c ls E h hl
  have hx := E.1
  have hb := E.2.1
  have hown := E.2.2.2.1
  have hts := E.2.2.2.2.1
  have hwX12 : ∀ w ∈ wsX120, w ∈ wsX12_wordOf := by decide +kernel
  refine lv_lconst (v := 0) hx hb dX12_wordOf_0 (by decide) ?_
  refine lv_lstore_n (lv' := [(3, .long 0), (0, .ref (g.2.1 79)), (1, .int (nI p1)), (2, .int (nI p2))]) hx hb dX12_wordOf_1 rfl hl (by decide) rfl (fun ls hl => ?_)
  refine lv_iload_n hx hb dX12_wordOf_2 rfl (lv_at hl 2 rfl) ?_
  refine lv_istore (lv' := [(5, .int (nI p1)), (3, .long 0), (0, .ref (g.2.1 79)), (1, .int (nI p1)), (2, .int (nI p2))]) hx hb dX12_wordOf_3 hl (by decide) rfl (fun ls hl => ?_)
  have loop5_1 : ∀ (fu : Nat) (i1_5 : Nat) (i1_3 : Int64), i1_5 ≤ p2 → p2 - i1_5 < fu → ∀ (H : Heap) (locs : List Loc) (ls : Array Slot), HW g σ s H locs → lv_has ls 6 [(5, .int (nI i1_5)), (3, .long i1_3), (0, .ref (g.2.1 79)), (1, .int (nI p1)), (2, .int (nI p2))] → W p l e { frames := 2, cells := 0, slots := 0, locals := 46 } s m args below meth c H locs 0 0 (MQ below (XQi g (fun r σ' => Opt (-9) 6 r ∧ σ = σ')) args s 0 0 (Aw g)) (F0 m 5 ls []) := by
    intro fu
    induction fu with
    | zero => intro i1_5 i1_3 bi1_5 hm; exact absurd hm (Nat.not_lt_zero _)
    | succ fu ih =>
      have ih1 := ih
      clear ih
      intro i1_5 i1_3 bi1_5 hm1 H locs ls h hl
      refine lv_iload hx hb dX12_wordOf_5 (lv_at hl 0 rfl) ?_
      refine lv_iload_n hx hb dX12_wordOf_7 rfl (lv_at hl 4 rfl) ?_
      refine lv_icmp_ge (tgt := 38) hx hb dX12_wordOf_8 (by decide) (fun c2 => ?_) (fun c2 => ?_)
      · skip
        have b3 : p2 ≤ i1_5 := y_le (a := p2) (b := i1_5) (by omega) (by omega) c2
        refine lv_bipush (v := (-9)) hx hb dX12_wordOf_38 (by decide) ?_
        refine lv_istore (lv' := [(5, .int (-9)), (3, .long i1_3), (0, .ref (g.2.1 79)), (1, .int (nI p1)), (2, .int (nI p2))]) hx hb dX12_wordOf_40 hl (by decide) rfl (fun ls hl => ?_)
        refine lv_lload_n hx hb dX12_wordOf_42 rfl (lv_at hl 1 rfl) ?_
        refine lv_bipush (v := 112) hx hb dX12_wordOf_43 (by decide) ?_
        refine lv_bipush (v := 114) hx hb dX12_wordOf_45 (by decide) ?_
        refine lv_bipush (v := 105) hx hb dX12_wordOf_47 (by decide) ?_
        refine lv_bipush (v := 99) hx hb dX12_wordOf_49 (by decide) ?_
        refine lv_bipush (v := 101) hx hb dX12_wordOf_51 (by decide) ?_
        refine x_sl E h (na := 5) (As := [.int 112, .int 114, .int 105, .int 99, .int 101]) (aX12_code_0 l g σ hI 112 114 105 99 101) gX12_wordOf_X12_code rfl ⟨rfl, rfl⟩ rfl (by decide +kernel) ⟨Nat.le_of_ble_eq_true rfl, Nat.le_of_ble_eq_true rfl⟩ hl.1 rfl (Nat.le_of_ble_eq_true rfl) dX12_wordOf_53 ⟨Nat.le_of_ble_eq_true rfl, Nat.le_of_ble_eq_true rfl⟩ (fun r4 s4 H locs q4 h => ?_)
        subst q4
        refine W.lcmp hx hb dX12_wordOf_56 ?_
        refine lv_topi (fun x5 e5 => ?_)
        have j66_8 : ∀ (y8_s0 : Int32), Opt (-9) 6 y8_s0 → ∀ (H : Heap) (locs : List Loc) (ls : Array Slot), HW g σ s H locs → lv_has ls 6 [(5, .int (-9)), (3, .long i1_3), (0, .ref (g.2.1 79)), (1, .int (nI p1)), (2, .int (nI p2))] → W p l e { frames := 2, cells := 0, slots := 0, locals := 46 } s m args below meth c H locs 0 0 (MQ below (XQi g (fun r σ' => Opt (-9) 6 r ∧ σ = σ')) args s 0 0 (Aw g)) (F0 m 66 ls [.int y8_s0]) := by
          intro y8_s0 oy8_s0 H locs ls h hl
          refine lv_istore (lv' := [(5, .int y8_s0), (3, .long i1_3), (0, .ref (g.2.1 79)), (1, .int (nI p1)), (2, .int (nI p2))]) hx hb dX12_wordOf_66 hl (by decide) rfl (fun ls hl => ?_)
          refine lv_lload_n hx hb dX12_wordOf_68 rfl (lv_at hl 1 rfl) ?_
          refine lv_bipush (v := 104) hx hb dX12_wordOf_69 (by decide) ?_
          refine lv_bipush (v := 117) hx hb dX12_wordOf_71 (by decide) ?_
          refine lv_bipush (v := 115) hx hb dX12_wordOf_73 (by decide) ?_
          refine lv_bipush (v := 104) hx hb dX12_wordOf_75 (by decide) ?_
          refine lv_iconst (v := 0) hx hb dX12_wordOf_77 (by decide) ?_
          refine x_sl E h (na := 5) (As := [.int 104, .int 117, .int 115, .int 104, .int 0]) (aX12_code_0 l g σ hI 104 117 115 104 0) gX12_wordOf_X12_code rfl ⟨rfl, rfl⟩ rfl (by decide +kernel) ⟨Nat.le_of_ble_eq_true rfl, Nat.le_of_ble_eq_true rfl⟩ hl.1 rfl (Nat.le_of_ble_eq_true rfl) dX12_wordOf_78 ⟨Nat.le_of_ble_eq_true rfl, Nat.le_of_ble_eq_true rfl⟩ (fun r9 s9 H locs q9 h => ?_)
          subst q9
          refine W.lcmp hx hb dX12_wordOf_81 ?_
          refine lv_topi (fun x10 e10 => ?_)
          have j91_13 : ∀ (y13_s0 : Int32), Opt (-9) 6 y13_s0 → ∀ (H : Heap) (locs : List Loc) (ls : Array Slot), HW g σ s H locs → lv_has ls 6 [(5, .int y8_s0), (3, .long i1_3), (0, .ref (g.2.1 79)), (1, .int (nI p1)), (2, .int (nI p2))] → W p l e { frames := 2, cells := 0, slots := 0, locals := 46 } s m args below meth c H locs 0 0 (MQ below (XQi g (fun r σ' => Opt (-9) 6 r ∧ σ = σ')) args s 0 0 (Aw g)) (F0 m 91 ls [.int y13_s0]) := by
            intro y13_s0 oy13_s0 H locs ls h hl
            refine lv_istore (lv' := [(5, .int y13_s0), (3, .long i1_3), (0, .ref (g.2.1 79)), (1, .int (nI p1)), (2, .int (nI p2))]) hx hb dX12_wordOf_91 hl (by decide) rfl (fun ls hl => ?_)
            refine lv_lload_n hx hb dX12_wordOf_93 rfl (lv_at hl 1 rfl) ?_
            refine lv_bipush (v := 108) hx hb dX12_wordOf_94 (by decide) ?_
            refine lv_bipush (v := 105) hx hb dX12_wordOf_96 (by decide) ?_
            refine lv_bipush (v := 107) hx hb dX12_wordOf_98 (by decide) ?_
            refine lv_bipush (v := 101) hx hb dX12_wordOf_100 (by decide) ?_
            refine lv_iconst (v := 0) hx hb dX12_wordOf_102 (by decide) ?_
            refine x_sl E h (na := 5) (As := [.int 108, .int 105, .int 107, .int 101, .int 0]) (aX12_code_0 l g σ hI 108 105 107 101 0) gX12_wordOf_X12_code rfl ⟨rfl, rfl⟩ rfl (by decide +kernel) ⟨Nat.le_of_ble_eq_true rfl, Nat.le_of_ble_eq_true rfl⟩ hl.1 rfl (Nat.le_of_ble_eq_true rfl) dX12_wordOf_103 ⟨Nat.le_of_ble_eq_true rfl, Nat.le_of_ble_eq_true rfl⟩ (fun r14 s14 H locs q14 h => ?_)
            subst q14
            refine W.lcmp hx hb dX12_wordOf_106 ?_
            refine lv_topi (fun x15 e15 => ?_)
            have j116_18 : ∀ (y18_s0 : Int32), Opt (-9) 6 y18_s0 → ∀ (H : Heap) (locs : List Loc) (ls : Array Slot), HW g σ s H locs → lv_has ls 6 [(5, .int y13_s0), (3, .long i1_3), (0, .ref (g.2.1 79)), (1, .int (nI p1)), (2, .int (nI p2))] → W p l e { frames := 2, cells := 0, slots := 0, locals := 46 } s m args below meth c H locs 0 0 (MQ below (XQi g (fun r σ' => Opt (-9) 6 r ∧ σ = σ')) args s 0 0 (Aw g)) (F0 m 116 ls [.int y18_s0]) := by
              intro y18_s0 oy18_s0 H locs ls h hl
              refine lv_istore (lv' := [(5, .int y18_s0), (3, .long i1_3), (0, .ref (g.2.1 79)), (1, .int (nI p1)), (2, .int (nI p2))]) hx hb dX12_wordOf_116 hl (by decide) rfl (fun ls hl => ?_)
              refine lv_lload_n hx hb dX12_wordOf_118 rfl (lv_at hl 1 rfl) ?_
              refine lv_bipush (v := 110) hx hb dX12_wordOf_119 (by decide) ?_
              refine lv_bipush (v := 101) hx hb dX12_wordOf_121 (by decide) ?_
              refine lv_bipush (v := 97) hx hb dX12_wordOf_123 (by decide) ?_
              refine lv_bipush (v := 114) hx hb dX12_wordOf_125 (by decide) ?_
              refine lv_iconst (v := 0) hx hb dX12_wordOf_127 (by decide) ?_
              refine x_sl E h (na := 5) (As := [.int 110, .int 101, .int 97, .int 114, .int 0]) (aX12_code_0 l g σ hI 110 101 97 114 0) gX12_wordOf_X12_code rfl ⟨rfl, rfl⟩ rfl (by decide +kernel) ⟨Nat.le_of_ble_eq_true rfl, Nat.le_of_ble_eq_true rfl⟩ hl.1 rfl (Nat.le_of_ble_eq_true rfl) dX12_wordOf_128 ⟨Nat.le_of_ble_eq_true rfl, Nat.le_of_ble_eq_true rfl⟩ (fun r19 s19 H locs q19 h => ?_)
              subst q19
              refine W.lcmp hx hb dX12_wordOf_131 ?_
              refine lv_topi (fun x20 e20 => ?_)
              have j141_23 : ∀ (y23_s0 : Int32), Opt (-9) 6 y23_s0 → ∀ (H : Heap) (locs : List Loc) (ls : Array Slot), HW g σ s H locs → lv_has ls 6 [(5, .int y18_s0), (3, .long i1_3), (0, .ref (g.2.1 79)), (1, .int (nI p1)), (2, .int (nI p2))] → W p l e { frames := 2, cells := 0, slots := 0, locals := 46 } s m args below meth c H locs 0 0 (MQ below (XQi g (fun r σ' => Opt (-9) 6 r ∧ σ = σ')) args s 0 0 (Aw g)) (F0 m 141 ls [.int y23_s0]) := by
                intro y23_s0 oy23_s0 H locs ls h hl
                refine lv_istore (lv' := [(5, .int y23_s0), (3, .long i1_3), (0, .ref (g.2.1 79)), (1, .int (nI p1)), (2, .int (nI p2))]) hx hb dX12_wordOf_141 hl (by decide) rfl (fun ls hl => ?_)
                refine lv_lload_n hx hb dX12_wordOf_143 rfl (lv_at hl 1 rfl) ?_
                refine lv_bipush (v := 116) hx hb dX12_wordOf_144 (by decide) ?_
                refine lv_bipush (v := 117) hx hb dX12_wordOf_146 (by decide) ?_
                refine lv_bipush (v := 114) hx hb dX12_wordOf_148 (by decide) ?_
                refine lv_bipush (v := 110) hx hb dX12_wordOf_150 (by decide) ?_
                refine lv_iconst (v := 0) hx hb dX12_wordOf_152 (by decide) ?_
                refine x_sl E h (na := 5) (As := [.int 116, .int 117, .int 114, .int 110, .int 0]) (aX12_code_0 l g σ hI 116 117 114 110 0) gX12_wordOf_X12_code rfl ⟨rfl, rfl⟩ rfl (by decide +kernel) ⟨Nat.le_of_ble_eq_true rfl, Nat.le_of_ble_eq_true rfl⟩ hl.1 rfl (Nat.le_of_ble_eq_true rfl) dX12_wordOf_153 ⟨Nat.le_of_ble_eq_true rfl, Nat.le_of_ble_eq_true rfl⟩ (fun r24 s24 H locs q24 h => ?_)
                subst q24
                refine W.lcmp hx hb dX12_wordOf_156 ?_
                refine lv_topi (fun x25 e25 => ?_)
                have j166_28 : ∀ (y28_s0 : Int32), Opt (-9) 6 y28_s0 → ∀ (H : Heap) (locs : List Loc) (ls : Array Slot), HW g σ s H locs → lv_has ls 6 [(5, .int y23_s0), (3, .long i1_3), (0, .ref (g.2.1 79)), (1, .int (nI p1)), (2, .int (nI p2))] → W p l e { frames := 2, cells := 0, slots := 0, locals := 46 } s m args below meth c H locs 0 0 (MQ below (XQi g (fun r σ' => Opt (-9) 6 r ∧ σ = σ')) args s 0 0 (Aw g)) (F0 m 166 ls [.int y28_s0]) := by
                  intro y28_s0 oy28_s0 H locs ls h hl
                  refine lv_istore (lv' := [(5, .int y28_s0), (3, .long i1_3), (0, .ref (g.2.1 79)), (1, .int (nI p1)), (2, .int (nI p2))]) hx hb dX12_wordOf_166 hl (by decide) rfl (fun ls hl => ?_)
                  refine lv_lload_n hx hb dX12_wordOf_168 rfl (lv_at hl 1 rfl) ?_
                  refine lv_bipush (v := 116) hx hb dX12_wordOf_169 (by decide) ?_
                  refine lv_bipush (v := 119) hx hb dX12_wordOf_171 (by decide) ?_
                  refine lv_bipush (v := 105) hx hb dX12_wordOf_173 (by decide) ?_
                  refine lv_bipush (v := 99) hx hb dX12_wordOf_175 (by decide) ?_
                  refine lv_bipush (v := 101) hx hb dX12_wordOf_177 (by decide) ?_
                  refine x_sl E h (na := 5) (As := [.int 116, .int 119, .int 105, .int 99, .int 101]) (aX12_code_0 l g σ hI 116 119 105 99 101) gX12_wordOf_X12_code rfl ⟨rfl, rfl⟩ rfl (by decide +kernel) ⟨Nat.le_of_ble_eq_true rfl, Nat.le_of_ble_eq_true rfl⟩ hl.1 rfl (Nat.le_of_ble_eq_true rfl) dX12_wordOf_179 ⟨Nat.le_of_ble_eq_true rfl, Nat.le_of_ble_eq_true rfl⟩ (fun r29 s29 H locs q29 h => ?_)
                  subst q29
                  refine W.lcmp hx hb dX12_wordOf_182 ?_
                  refine lv_topi (fun x30 e30 => ?_)
                  have j192_33 : ∀ (y33_s0 : Int32), Opt (-9) 6 y33_s0 → ∀ (H : Heap) (locs : List Loc) (ls : Array Slot), HW g σ s H locs → lv_has ls 6 [(5, .int y28_s0), (3, .long i1_3), (0, .ref (g.2.1 79)), (1, .int (nI p1)), (2, .int (nI p2))] → W p l e { frames := 2, cells := 0, slots := 0, locals := 46 } s m args below meth c H locs 0 0 (MQ below (XQi g (fun r σ' => Opt (-9) 6 r ∧ σ = σ')) args s 0 0 (Aw g)) (F0 m 192 ls [.int y33_s0]) := by
                    intro y33_s0 oy33_s0 H locs ls h hl
                    refine lv_istore (lv' := [(5, .int y33_s0), (3, .long i1_3), (0, .ref (g.2.1 79)), (1, .int (nI p1)), (2, .int (nI p2))]) hx hb dX12_wordOf_192 hl (by decide) rfl (fun ls hl => ?_)
                    refine lv_iload_n hx hb dX12_wordOf_194 rfl (lv_at hl 4 rfl) ?_
                    refine lv_iload_n hx hb dX12_wordOf_195 rfl (lv_at hl 3 rfl) ?_
                    refine lv_isub hx hb dX12_wordOf_196 ?_
                    refine lv_iconst (v := 5) hx hb dX12_wordOf_197 (by decide) ?_
                    refine lv_icmp_le (tgt := 206) hx hb dX12_wordOf_198 (by decide) (fun c34 => ?_) (fun c34 => ?_)
                    · skip
                      refine lv_iload hx hb dX12_wordOf_206 (lv_at hl 0 rfl) ?_
                      exact x_iret E h ⟨oy33_s0, rfl⟩ dX12_wordOf_208
                    · skip
                      refine lv_bipush (v := (-9)) hx hb dX12_wordOf_201 (by decide) ?_
                      refine lv_goto (tgt := 208) hx hb dX12_wordOf_203 (by decide) ?_
                      exact x_iret E h ⟨(Or.inl rfl), rfl⟩ dX12_wordOf_208
                  refine lv_if_ne (tgt := 190) hx hb dX12_wordOf_183 (by decide) (fun c31 => ?_) (fun c31 => ?_)
                  · skip
                    refine lv_iload hx hb dX12_wordOf_190 (lv_at hl 0 rfl) ?_
                    exact j192_33 y28_s0 oy28_s0 _ _ _ h (lv_sub hl [0, 1, 2, 3, 4] rfl)
                  · skip
                    subst c31
                    refine lv_iconst (v := 5) hx hb dX12_wordOf_186 (by decide) ?_
                    refine lv_goto (tgt := 192) hx hb dX12_wordOf_187 (by decide) ?_
                    exact j192_33 5 (Or.inr ⟨5, by omega, rfl⟩) _ _ _ h (lv_sub hl [0, 1, 2, 3, 4] rfl)
                refine lv_if_ne (tgt := 164) hx hb dX12_wordOf_157 (by decide) (fun c26 => ?_) (fun c26 => ?_)
                · skip
                  refine lv_iload hx hb dX12_wordOf_164 (lv_at hl 0 rfl) ?_
                  exact j166_28 y23_s0 oy23_s0 _ _ _ h (lv_sub hl [0, 1, 2, 3, 4] rfl)
                · skip
                  subst c26
                  refine lv_iconst (v := 4) hx hb dX12_wordOf_160 (by decide) ?_
                  refine lv_goto (tgt := 166) hx hb dX12_wordOf_161 (by decide) ?_
                  exact j166_28 4 (Or.inr ⟨4, by omega, rfl⟩) _ _ _ h (lv_sub hl [0, 1, 2, 3, 4] rfl)
              refine lv_if_ne (tgt := 139) hx hb dX12_wordOf_132 (by decide) (fun c21 => ?_) (fun c21 => ?_)
              · skip
                refine lv_iload hx hb dX12_wordOf_139 (lv_at hl 0 rfl) ?_
                exact j141_23 y18_s0 oy18_s0 _ _ _ h (lv_sub hl [0, 1, 2, 3, 4] rfl)
              · skip
                subst c21
                refine lv_iconst (v := 3) hx hb dX12_wordOf_135 (by decide) ?_
                refine lv_goto (tgt := 141) hx hb dX12_wordOf_136 (by decide) ?_
                exact j141_23 3 (Or.inr ⟨3, by omega, rfl⟩) _ _ _ h (lv_sub hl [0, 1, 2, 3, 4] rfl)
            refine lv_if_ne (tgt := 114) hx hb dX12_wordOf_107 (by decide) (fun c16 => ?_) (fun c16 => ?_)
            · skip
              refine lv_iload hx hb dX12_wordOf_114 (lv_at hl 0 rfl) ?_
              exact j116_18 y13_s0 oy13_s0 _ _ _ h (lv_sub hl [0, 1, 2, 3, 4] rfl)
            · skip
              subst c16
              refine lv_iconst (v := 2) hx hb dX12_wordOf_110 (by decide) ?_
              refine lv_goto (tgt := 116) hx hb dX12_wordOf_111 (by decide) ?_
              exact j116_18 2 (Or.inr ⟨2, by omega, rfl⟩) _ _ _ h (lv_sub hl [0, 1, 2, 3, 4] rfl)
          refine lv_if_ne (tgt := 89) hx hb dX12_wordOf_82 (by decide) (fun c11 => ?_) (fun c11 => ?_)
          · skip
            refine lv_iload hx hb dX12_wordOf_89 (lv_at hl 0 rfl) ?_
            exact j91_13 y8_s0 oy8_s0 _ _ _ h (lv_sub hl [0, 1, 2, 3, 4] rfl)
          · skip
            subst c11
            refine lv_iconst (v := 1) hx hb dX12_wordOf_85 (by decide) ?_
            refine lv_goto (tgt := 91) hx hb dX12_wordOf_86 (by decide) ?_
            exact j91_13 1 (Or.inr ⟨1, by omega, rfl⟩) _ _ _ h (lv_sub hl [0, 1, 2, 3, 4] rfl)
        refine lv_if_ne (tgt := 64) hx hb dX12_wordOf_57 (by decide) (fun c6 => ?_) (fun c6 => ?_)
        · skip
          refine lv_iload hx hb dX12_wordOf_64 (lv_at hl 0 rfl) ?_
          exact j66_8 (-9) (Or.inl rfl) _ _ _ h (lv_sub hl [0, 1, 2, 3, 4] rfl)
        · skip
          subst c6
          refine lv_iconst (v := 0) hx hb dX12_wordOf_60 (by decide) ?_
          refine lv_goto (tgt := 66) hx hb dX12_wordOf_61 (by decide) ?_
          exact j66_8 0 (Or.inr ⟨0, by omega, rfl⟩) _ _ _ h (lv_sub hl [0, 1, 2, 3, 4] rfl)
      · skip
        have b43 : i1_5 < p2 := y_nle (a := p2) (b := i1_5) (by omega) (by omega) c2
        refine lv_iload hx hb dX12_wordOf_11 (lv_at hl 0 rfl) ?_
        refine lv_iload_n hx hb dX12_wordOf_13 rfl (lv_at hl 3 rfl) ?_
        refine lv_bipush (v := 6) hx hb dX12_wordOf_14 (by decide) ?_
        refine lv_iadd hx hb dX12_wordOf_16 ?_
        refine x_topI (v2 := nI (p1 + 6)) (nI_add p1 6) ?_
        refine lv_icmp_ge (tgt := 38) hx hb dX12_wordOf_17 (by decide) (fun c44 => ?_) (fun c44 => ?_)
        · skip
          have b45 : (p1 + 6) ≤ i1_5 := y_le (a := (p1 + 6)) (b := i1_5) (by omega) (by omega) c44
          refine lv_bipush (v := (-9)) hx hb dX12_wordOf_38 (by decide) ?_
          refine lv_istore (lv' := [(5, .int (-9)), (3, .long i1_3), (0, .ref (g.2.1 79)), (1, .int (nI p1)), (2, .int (nI p2))]) hx hb dX12_wordOf_40 hl (by decide) rfl (fun ls hl => ?_)
          refine lv_lload_n hx hb dX12_wordOf_42 rfl (lv_at hl 1 rfl) ?_
          refine lv_bipush (v := 112) hx hb dX12_wordOf_43 (by decide) ?_
          refine lv_bipush (v := 114) hx hb dX12_wordOf_45 (by decide) ?_
          refine lv_bipush (v := 105) hx hb dX12_wordOf_47 (by decide) ?_
          refine lv_bipush (v := 99) hx hb dX12_wordOf_49 (by decide) ?_
          refine lv_bipush (v := 101) hx hb dX12_wordOf_51 (by decide) ?_
          refine x_sl E h (na := 5) (As := [.int 112, .int 114, .int 105, .int 99, .int 101]) (aX12_code_0 l g σ hI 112 114 105 99 101) gX12_wordOf_X12_code rfl ⟨rfl, rfl⟩ rfl (by decide +kernel) ⟨Nat.le_of_ble_eq_true rfl, Nat.le_of_ble_eq_true rfl⟩ hl.1 rfl (Nat.le_of_ble_eq_true rfl) dX12_wordOf_53 ⟨Nat.le_of_ble_eq_true rfl, Nat.le_of_ble_eq_true rfl⟩ (fun r46 s46 H locs q46 h => ?_)
          subst q46
          refine W.lcmp hx hb dX12_wordOf_56 ?_
          refine lv_topi (fun x47 e47 => ?_)
          have j66_50 : ∀ (y50_s0 : Int32), Opt (-9) 6 y50_s0 → ∀ (H : Heap) (locs : List Loc) (ls : Array Slot), HW g σ s H locs → lv_has ls 6 [(5, .int (-9)), (3, .long i1_3), (0, .ref (g.2.1 79)), (1, .int (nI p1)), (2, .int (nI p2))] → W p l e { frames := 2, cells := 0, slots := 0, locals := 46 } s m args below meth c H locs 0 0 (MQ below (XQi g (fun r σ' => Opt (-9) 6 r ∧ σ = σ')) args s 0 0 (Aw g)) (F0 m 66 ls [.int y50_s0]) := by
            intro y50_s0 oy50_s0 H locs ls h hl
            refine lv_istore (lv' := [(5, .int y50_s0), (3, .long i1_3), (0, .ref (g.2.1 79)), (1, .int (nI p1)), (2, .int (nI p2))]) hx hb dX12_wordOf_66 hl (by decide) rfl (fun ls hl => ?_)
            refine lv_lload_n hx hb dX12_wordOf_68 rfl (lv_at hl 1 rfl) ?_
            refine lv_bipush (v := 104) hx hb dX12_wordOf_69 (by decide) ?_
            refine lv_bipush (v := 117) hx hb dX12_wordOf_71 (by decide) ?_
            refine lv_bipush (v := 115) hx hb dX12_wordOf_73 (by decide) ?_
            refine lv_bipush (v := 104) hx hb dX12_wordOf_75 (by decide) ?_
            refine lv_iconst (v := 0) hx hb dX12_wordOf_77 (by decide) ?_
            refine x_sl E h (na := 5) (As := [.int 104, .int 117, .int 115, .int 104, .int 0]) (aX12_code_0 l g σ hI 104 117 115 104 0) gX12_wordOf_X12_code rfl ⟨rfl, rfl⟩ rfl (by decide +kernel) ⟨Nat.le_of_ble_eq_true rfl, Nat.le_of_ble_eq_true rfl⟩ hl.1 rfl (Nat.le_of_ble_eq_true rfl) dX12_wordOf_78 ⟨Nat.le_of_ble_eq_true rfl, Nat.le_of_ble_eq_true rfl⟩ (fun r51 s51 H locs q51 h => ?_)
            subst q51
            refine W.lcmp hx hb dX12_wordOf_81 ?_
            refine lv_topi (fun x52 e52 => ?_)
            have j91_55 : ∀ (y55_s0 : Int32), Opt (-9) 6 y55_s0 → ∀ (H : Heap) (locs : List Loc) (ls : Array Slot), HW g σ s H locs → lv_has ls 6 [(5, .int y50_s0), (3, .long i1_3), (0, .ref (g.2.1 79)), (1, .int (nI p1)), (2, .int (nI p2))] → W p l e { frames := 2, cells := 0, slots := 0, locals := 46 } s m args below meth c H locs 0 0 (MQ below (XQi g (fun r σ' => Opt (-9) 6 r ∧ σ = σ')) args s 0 0 (Aw g)) (F0 m 91 ls [.int y55_s0]) := by
              intro y55_s0 oy55_s0 H locs ls h hl
              refine lv_istore (lv' := [(5, .int y55_s0), (3, .long i1_3), (0, .ref (g.2.1 79)), (1, .int (nI p1)), (2, .int (nI p2))]) hx hb dX12_wordOf_91 hl (by decide) rfl (fun ls hl => ?_)
              refine lv_lload_n hx hb dX12_wordOf_93 rfl (lv_at hl 1 rfl) ?_
              refine lv_bipush (v := 108) hx hb dX12_wordOf_94 (by decide) ?_
              refine lv_bipush (v := 105) hx hb dX12_wordOf_96 (by decide) ?_
              refine lv_bipush (v := 107) hx hb dX12_wordOf_98 (by decide) ?_
              refine lv_bipush (v := 101) hx hb dX12_wordOf_100 (by decide) ?_
              refine lv_iconst (v := 0) hx hb dX12_wordOf_102 (by decide) ?_
              refine x_sl E h (na := 5) (As := [.int 108, .int 105, .int 107, .int 101, .int 0]) (aX12_code_0 l g σ hI 108 105 107 101 0) gX12_wordOf_X12_code rfl ⟨rfl, rfl⟩ rfl (by decide +kernel) ⟨Nat.le_of_ble_eq_true rfl, Nat.le_of_ble_eq_true rfl⟩ hl.1 rfl (Nat.le_of_ble_eq_true rfl) dX12_wordOf_103 ⟨Nat.le_of_ble_eq_true rfl, Nat.le_of_ble_eq_true rfl⟩ (fun r56 s56 H locs q56 h => ?_)
              subst q56
              refine W.lcmp hx hb dX12_wordOf_106 ?_
              refine lv_topi (fun x57 e57 => ?_)
              have j116_60 : ∀ (y60_s0 : Int32), Opt (-9) 6 y60_s0 → ∀ (H : Heap) (locs : List Loc) (ls : Array Slot), HW g σ s H locs → lv_has ls 6 [(5, .int y55_s0), (3, .long i1_3), (0, .ref (g.2.1 79)), (1, .int (nI p1)), (2, .int (nI p2))] → W p l e { frames := 2, cells := 0, slots := 0, locals := 46 } s m args below meth c H locs 0 0 (MQ below (XQi g (fun r σ' => Opt (-9) 6 r ∧ σ = σ')) args s 0 0 (Aw g)) (F0 m 116 ls [.int y60_s0]) := by
                intro y60_s0 oy60_s0 H locs ls h hl
                refine lv_istore (lv' := [(5, .int y60_s0), (3, .long i1_3), (0, .ref (g.2.1 79)), (1, .int (nI p1)), (2, .int (nI p2))]) hx hb dX12_wordOf_116 hl (by decide) rfl (fun ls hl => ?_)
                refine lv_lload_n hx hb dX12_wordOf_118 rfl (lv_at hl 1 rfl) ?_
                refine lv_bipush (v := 110) hx hb dX12_wordOf_119 (by decide) ?_
                refine lv_bipush (v := 101) hx hb dX12_wordOf_121 (by decide) ?_
                refine lv_bipush (v := 97) hx hb dX12_wordOf_123 (by decide) ?_
                refine lv_bipush (v := 114) hx hb dX12_wordOf_125 (by decide) ?_
                refine lv_iconst (v := 0) hx hb dX12_wordOf_127 (by decide) ?_
                refine x_sl E h (na := 5) (As := [.int 110, .int 101, .int 97, .int 114, .int 0]) (aX12_code_0 l g σ hI 110 101 97 114 0) gX12_wordOf_X12_code rfl ⟨rfl, rfl⟩ rfl (by decide +kernel) ⟨Nat.le_of_ble_eq_true rfl, Nat.le_of_ble_eq_true rfl⟩ hl.1 rfl (Nat.le_of_ble_eq_true rfl) dX12_wordOf_128 ⟨Nat.le_of_ble_eq_true rfl, Nat.le_of_ble_eq_true rfl⟩ (fun r61 s61 H locs q61 h => ?_)
                subst q61
                refine W.lcmp hx hb dX12_wordOf_131 ?_
                refine lv_topi (fun x62 e62 => ?_)
                have j141_65 : ∀ (y65_s0 : Int32), Opt (-9) 6 y65_s0 → ∀ (H : Heap) (locs : List Loc) (ls : Array Slot), HW g σ s H locs → lv_has ls 6 [(5, .int y60_s0), (3, .long i1_3), (0, .ref (g.2.1 79)), (1, .int (nI p1)), (2, .int (nI p2))] → W p l e { frames := 2, cells := 0, slots := 0, locals := 46 } s m args below meth c H locs 0 0 (MQ below (XQi g (fun r σ' => Opt (-9) 6 r ∧ σ = σ')) args s 0 0 (Aw g)) (F0 m 141 ls [.int y65_s0]) := by
                  intro y65_s0 oy65_s0 H locs ls h hl
                  refine lv_istore (lv' := [(5, .int y65_s0), (3, .long i1_3), (0, .ref (g.2.1 79)), (1, .int (nI p1)), (2, .int (nI p2))]) hx hb dX12_wordOf_141 hl (by decide) rfl (fun ls hl => ?_)
                  refine lv_lload_n hx hb dX12_wordOf_143 rfl (lv_at hl 1 rfl) ?_
                  refine lv_bipush (v := 116) hx hb dX12_wordOf_144 (by decide) ?_
                  refine lv_bipush (v := 117) hx hb dX12_wordOf_146 (by decide) ?_
                  refine lv_bipush (v := 114) hx hb dX12_wordOf_148 (by decide) ?_
                  refine lv_bipush (v := 110) hx hb dX12_wordOf_150 (by decide) ?_
                  refine lv_iconst (v := 0) hx hb dX12_wordOf_152 (by decide) ?_
                  refine x_sl E h (na := 5) (As := [.int 116, .int 117, .int 114, .int 110, .int 0]) (aX12_code_0 l g σ hI 116 117 114 110 0) gX12_wordOf_X12_code rfl ⟨rfl, rfl⟩ rfl (by decide +kernel) ⟨Nat.le_of_ble_eq_true rfl, Nat.le_of_ble_eq_true rfl⟩ hl.1 rfl (Nat.le_of_ble_eq_true rfl) dX12_wordOf_153 ⟨Nat.le_of_ble_eq_true rfl, Nat.le_of_ble_eq_true rfl⟩ (fun r66 s66 H locs q66 h => ?_)
                  subst q66
                  refine W.lcmp hx hb dX12_wordOf_156 ?_
                  refine lv_topi (fun x67 e67 => ?_)
                  have j166_70 : ∀ (y70_s0 : Int32), Opt (-9) 6 y70_s0 → ∀ (H : Heap) (locs : List Loc) (ls : Array Slot), HW g σ s H locs → lv_has ls 6 [(5, .int y65_s0), (3, .long i1_3), (0, .ref (g.2.1 79)), (1, .int (nI p1)), (2, .int (nI p2))] → W p l e { frames := 2, cells := 0, slots := 0, locals := 46 } s m args below meth c H locs 0 0 (MQ below (XQi g (fun r σ' => Opt (-9) 6 r ∧ σ = σ')) args s 0 0 (Aw g)) (F0 m 166 ls [.int y70_s0]) := by
                    intro y70_s0 oy70_s0 H locs ls h hl
                    refine lv_istore (lv' := [(5, .int y70_s0), (3, .long i1_3), (0, .ref (g.2.1 79)), (1, .int (nI p1)), (2, .int (nI p2))]) hx hb dX12_wordOf_166 hl (by decide) rfl (fun ls hl => ?_)
                    refine lv_lload_n hx hb dX12_wordOf_168 rfl (lv_at hl 1 rfl) ?_
                    refine lv_bipush (v := 116) hx hb dX12_wordOf_169 (by decide) ?_
                    refine lv_bipush (v := 119) hx hb dX12_wordOf_171 (by decide) ?_
                    refine lv_bipush (v := 105) hx hb dX12_wordOf_173 (by decide) ?_
                    refine lv_bipush (v := 99) hx hb dX12_wordOf_175 (by decide) ?_
                    refine lv_bipush (v := 101) hx hb dX12_wordOf_177 (by decide) ?_
                    refine x_sl E h (na := 5) (As := [.int 116, .int 119, .int 105, .int 99, .int 101]) (aX12_code_0 l g σ hI 116 119 105 99 101) gX12_wordOf_X12_code rfl ⟨rfl, rfl⟩ rfl (by decide +kernel) ⟨Nat.le_of_ble_eq_true rfl, Nat.le_of_ble_eq_true rfl⟩ hl.1 rfl (Nat.le_of_ble_eq_true rfl) dX12_wordOf_179 ⟨Nat.le_of_ble_eq_true rfl, Nat.le_of_ble_eq_true rfl⟩ (fun r71 s71 H locs q71 h => ?_)
                    subst q71
                    refine W.lcmp hx hb dX12_wordOf_182 ?_
                    refine lv_topi (fun x72 e72 => ?_)
                    have j192_75 : ∀ (y75_s0 : Int32), Opt (-9) 6 y75_s0 → ∀ (H : Heap) (locs : List Loc) (ls : Array Slot), HW g σ s H locs → lv_has ls 6 [(5, .int y70_s0), (3, .long i1_3), (0, .ref (g.2.1 79)), (1, .int (nI p1)), (2, .int (nI p2))] → W p l e { frames := 2, cells := 0, slots := 0, locals := 46 } s m args below meth c H locs 0 0 (MQ below (XQi g (fun r σ' => Opt (-9) 6 r ∧ σ = σ')) args s 0 0 (Aw g)) (F0 m 192 ls [.int y75_s0]) := by
                      intro y75_s0 oy75_s0 H locs ls h hl
                      refine lv_istore (lv' := [(5, .int y75_s0), (3, .long i1_3), (0, .ref (g.2.1 79)), (1, .int (nI p1)), (2, .int (nI p2))]) hx hb dX12_wordOf_192 hl (by decide) rfl (fun ls hl => ?_)
                      refine lv_iload_n hx hb dX12_wordOf_194 rfl (lv_at hl 4 rfl) ?_
                      refine lv_iload_n hx hb dX12_wordOf_195 rfl (lv_at hl 3 rfl) ?_
                      refine lv_isub hx hb dX12_wordOf_196 ?_
                      refine lv_iconst (v := 5) hx hb dX12_wordOf_197 (by decide) ?_
                      refine lv_icmp_le (tgt := 206) hx hb dX12_wordOf_198 (by decide) (fun c76 => ?_) (fun c76 => ?_)
                      · skip
                        refine lv_iload hx hb dX12_wordOf_206 (lv_at hl 0 rfl) ?_
                        exact x_iret E h ⟨oy75_s0, rfl⟩ dX12_wordOf_208
                      · skip
                        refine lv_bipush (v := (-9)) hx hb dX12_wordOf_201 (by decide) ?_
                        refine lv_goto (tgt := 208) hx hb dX12_wordOf_203 (by decide) ?_
                        exact x_iret E h ⟨(Or.inl rfl), rfl⟩ dX12_wordOf_208
                    refine lv_if_ne (tgt := 190) hx hb dX12_wordOf_183 (by decide) (fun c73 => ?_) (fun c73 => ?_)
                    · skip
                      refine lv_iload hx hb dX12_wordOf_190 (lv_at hl 0 rfl) ?_
                      exact j192_75 y70_s0 oy70_s0 _ _ _ h (lv_sub hl [0, 1, 2, 3, 4] rfl)
                    · skip
                      subst c73
                      refine lv_iconst (v := 5) hx hb dX12_wordOf_186 (by decide) ?_
                      refine lv_goto (tgt := 192) hx hb dX12_wordOf_187 (by decide) ?_
                      exact j192_75 5 (Or.inr ⟨5, by omega, rfl⟩) _ _ _ h (lv_sub hl [0, 1, 2, 3, 4] rfl)
                  refine lv_if_ne (tgt := 164) hx hb dX12_wordOf_157 (by decide) (fun c68 => ?_) (fun c68 => ?_)
                  · skip
                    refine lv_iload hx hb dX12_wordOf_164 (lv_at hl 0 rfl) ?_
                    exact j166_70 y65_s0 oy65_s0 _ _ _ h (lv_sub hl [0, 1, 2, 3, 4] rfl)
                  · skip
                    subst c68
                    refine lv_iconst (v := 4) hx hb dX12_wordOf_160 (by decide) ?_
                    refine lv_goto (tgt := 166) hx hb dX12_wordOf_161 (by decide) ?_
                    exact j166_70 4 (Or.inr ⟨4, by omega, rfl⟩) _ _ _ h (lv_sub hl [0, 1, 2, 3, 4] rfl)
                refine lv_if_ne (tgt := 139) hx hb dX12_wordOf_132 (by decide) (fun c63 => ?_) (fun c63 => ?_)
                · skip
                  refine lv_iload hx hb dX12_wordOf_139 (lv_at hl 0 rfl) ?_
                  exact j141_65 y60_s0 oy60_s0 _ _ _ h (lv_sub hl [0, 1, 2, 3, 4] rfl)
                · skip
                  subst c63
                  refine lv_iconst (v := 3) hx hb dX12_wordOf_135 (by decide) ?_
                  refine lv_goto (tgt := 141) hx hb dX12_wordOf_136 (by decide) ?_
                  exact j141_65 3 (Or.inr ⟨3, by omega, rfl⟩) _ _ _ h (lv_sub hl [0, 1, 2, 3, 4] rfl)
              refine lv_if_ne (tgt := 114) hx hb dX12_wordOf_107 (by decide) (fun c58 => ?_) (fun c58 => ?_)
              · skip
                refine lv_iload hx hb dX12_wordOf_114 (lv_at hl 0 rfl) ?_
                exact j116_60 y55_s0 oy55_s0 _ _ _ h (lv_sub hl [0, 1, 2, 3, 4] rfl)
              · skip
                subst c58
                refine lv_iconst (v := 2) hx hb dX12_wordOf_110 (by decide) ?_
                refine lv_goto (tgt := 116) hx hb dX12_wordOf_111 (by decide) ?_
                exact j116_60 2 (Or.inr ⟨2, by omega, rfl⟩) _ _ _ h (lv_sub hl [0, 1, 2, 3, 4] rfl)
            refine lv_if_ne (tgt := 89) hx hb dX12_wordOf_82 (by decide) (fun c53 => ?_) (fun c53 => ?_)
            · skip
              refine lv_iload hx hb dX12_wordOf_89 (lv_at hl 0 rfl) ?_
              exact j91_55 y50_s0 oy50_s0 _ _ _ h (lv_sub hl [0, 1, 2, 3, 4] rfl)
            · skip
              subst c53
              refine lv_iconst (v := 1) hx hb dX12_wordOf_85 (by decide) ?_
              refine lv_goto (tgt := 91) hx hb dX12_wordOf_86 (by decide) ?_
              exact j91_55 1 (Or.inr ⟨1, by omega, rfl⟩) _ _ _ h (lv_sub hl [0, 1, 2, 3, 4] rfl)
          refine lv_if_ne (tgt := 64) hx hb dX12_wordOf_57 (by decide) (fun c48 => ?_) (fun c48 => ?_)
          · skip
            refine lv_iload hx hb dX12_wordOf_64 (lv_at hl 0 rfl) ?_
            exact j66_50 (-9) (Or.inl rfl) _ _ _ h (lv_sub hl [0, 1, 2, 3, 4] rfl)
          · skip
            subst c48
            refine lv_iconst (v := 0) hx hb dX12_wordOf_60 (by decide) ?_
            refine lv_goto (tgt := 66) hx hb dX12_wordOf_61 (by decide) ?_
            exact j66_50 0 (Or.inr ⟨0, by omega, rfl⟩) _ _ _ h (lv_sub hl [0, 1, 2, 3, 4] rfl)
        · skip
          have b85 : i1_5 < (p1 + 6) := y_nle (a := (p1 + 6)) (b := i1_5) (by omega) (by omega) c44
          refine lv_lload_n hx hb dX12_wordOf_20 rfl (lv_at hl 1 rfl) ?_
          refine lv_aload_n hx hb dX12_wordOf_21 rfl (lv_at hl 2 rfl) ?_
          refine x_getR E h (fr_mo_text g) rfl hwX12 (by decide) (by decide +kernel) dX12_wordOf_22 ?_
          refine lv_iload hx hb dX12_wordOf_25 (lv_at hl 0 rfl) ?_
          refine x_ldB E h (ia_mo_text g) (i := nI i1_5) (vp_in_nI (by omega) (by decide)) (v := σ.2.2 67 i1_5) (congrArg (σ.2.2 67) (nI_clamp (by omega))) dX12_wordOf_27 ?_
          refine x_sl E h (na := 2) (As := [.long i1_3, .int (σ.2.2 67 i1_5)]) (aX12_more_0 l g σ hI i1_3 (σ.2.2 67 i1_5)) gX12_wordOf_X12_more rfl ⟨rfl, rfl⟩ rfl (by decide +kernel) ⟨Nat.le_of_ble_eq_true rfl, Nat.le_of_ble_eq_true rfl⟩ hl.1 rfl (Nat.le_of_ble_eq_true rfl) dX12_wordOf_28 ⟨Nat.le_of_ble_eq_true rfl, Nat.le_of_ble_eq_true rfl⟩ (fun r86 s86 H locs q86 h => ?_)
          subst q86
          refine lv_lstore_n (lv' := [(3, .long r86), (5, .int (nI i1_5)), (0, .ref (g.2.1 79)), (1, .int (nI p1)), (2, .int (nI p2))]) hx hb dX12_wordOf_31 rfl hl (by decide) rfl (fun ls hl => ?_)
          refine lv_iinc (v := (nI (i1_5 + 1))) (lv' := [(5, .int (nI (i1_5 + 1))), (3, .long r86), (0, .ref (g.2.1 79)), (1, .int (nI p1)), (2, .int (nI p2))]) hx hb dX12_wordOf_32 hl (k := 1) rfl (nI_add i1_5 1) (by decide) rfl (fun ls hl => ?_)
          refine lv_goto (tgt := 5) hx hb dX12_wordOf_35 (by decide) ?_
          exact ih1 (i1_5 + 1) r86 (by omega) (by omega) _ _ _ h (lv_sub hl [0, 1, 2, 3, 4] rfl)
  exact loop5_1 _ p1 0 (by omega) (Nat.lt_succ_self _) _ _ _ h (lv_sub hl [0, 1, 2, 3, 4] rfl)
