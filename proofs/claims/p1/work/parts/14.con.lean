set_option maxHeartbeats 4000000 in
set_option maxRecDepth 100000 in
theorem kX12_rule_0 (l : Launch) (g : CX) (σ : ST) (p1 : Int32) (fA_66_0 : σ.2.2 66 0 = 20) (fA_66_1 : σ.2.2 66 1 = 10) (fA_66_2 : σ.2.2 66 2 = 40) (fA_66_3 : σ.2.2 66 3 = 0) (fA_66_4 : σ.2.2 66 4 = 0) (fA_66_5 : σ.2.2 66 5 = 10) : XM l g yX12_rule wsX12_rule { frames := 1, cells := 0, slots := 0, locals := 22 } [.ref (g.2.1 79), .int p1] σ (XQi g (fun r σ' => (bB p1 0 5 = 1 ∧ p1 = 0 ∧ 20 = r) ∨ (bB p1 0 5 = 1 ∧ p1 = 1 ∧ 10 = r) ∨ (bB p1 0 5 = 1 ∧ p1 = 2 ∧ 40 = r) ∨ (bB p1 0 5 = 1 ∧ p1 = 3 ∧ 0 = r) ∨ (bB p1 0 5 = 1 ∧ p1 = 4 ∧ 0 = r) ∨ (bB p1 0 5 = 1 ∧ p1 = 5 ∧ 10 = r) ∨ (bB p1 0 5 = 0 ∧ (-1) = r))) := by
  refine x_met (own := RX12) (cc := cX12_rule) (maxL := 2) (ret := (some .int)) (lv := [(0, .ref (g.2.1 79)), (1, .int p1)]) (by decide) rfl rfl (Nat.le_of_ble_eq_true rfl) rfl ?_
  intro p e s m args below meth c ls E h hl
  have hx := E.1
  have hb := E.2.1
  have hown := E.2.2.2.1
  have hts := E.2.2.2.2.1
  have hwX12 : ∀ w ∈ wsX120, w ∈ wsX12_rule := by decide +kernel
  refine lv_iload_n hx hb dX12_rule_0 rfl (lv_at hl 1 rfl) ?_
  refine lv_iconst (v := 0) hx hb dX12_rule_1 (by decide) ?_
  refine lv_iconst (v := 5) hx hb dX12_rule_2 (by decide) ?_
  refine x_si E h (na := 3) (As := [.int p1, .int 0, .int 5]) (kX12_in_0 l g _ p1 0 5) gX12_rule_X12_in rfl ⟨rfl, rfl⟩ rfl (by decide +kernel) ⟨Nat.le_of_ble_eq_true rfl, Nat.le_of_ble_eq_true rfl⟩ hl.1 rfl (Nat.le_of_ble_eq_true rfl) dX12_rule_3 ⟨Nat.le_of_ble_eq_true rfl, Nat.le_of_ble_eq_true rfl⟩ (fun r1 s1 H locs q1 h => ?_)
  rcases q1 with ⟨k1_0, rfl, rfl⟩ | ⟨k1_0, rfl, rfl⟩
  · skip
    refine lv_if_eq (tgt := 18) hx hb dX12_rule_6 (by decide) (fun c => absurd c (by decide)) (fun _ => ?_)
    rcases (bB_0_5 k1_0) with rfl | rfl | rfl | rfl | rfl | rfl
    · skip
      refine lv_aload_n hx hb dX12_rule_9 rfl (lv_at hl 0 rfl) ?_
      refine x_getR E h (fr_mo_rule g) rfl hwX12 (by decide) (by decide +kernel) dX12_rule_10 ?_
      refine lv_iload_n hx hb dX12_rule_13 rfl (lv_at hl 1 rfl) ?_
      refine x_ldI E h (ia_mo_rule g) (i := 0) (by unfold vp_in; decide) (v := 20) fA_66_0 dX12_rule_14 ?_
      refine lv_goto (tgt := 19) hx hb dX12_rule_15 (by decide) ?_
      exact x_iret E h (Or.inl ⟨k1_0, rfl, rfl⟩) dX12_rule_19
    · skip
      refine lv_aload_n hx hb dX12_rule_9 rfl (lv_at hl 0 rfl) ?_
      refine x_getR E h (fr_mo_rule g) rfl hwX12 (by decide) (by decide +kernel) dX12_rule_10 ?_
      refine lv_iload_n hx hb dX12_rule_13 rfl (lv_at hl 1 rfl) ?_
      refine x_ldI E h (ia_mo_rule g) (i := 1) (by unfold vp_in; decide) (v := 10) fA_66_1 dX12_rule_14 ?_
      refine lv_goto (tgt := 19) hx hb dX12_rule_15 (by decide) ?_
      exact x_iret E h (Or.inr (Or.inl ⟨k1_0, rfl, rfl⟩)) dX12_rule_19
    · skip
      refine lv_aload_n hx hb dX12_rule_9 rfl (lv_at hl 0 rfl) ?_
      refine x_getR E h (fr_mo_rule g) rfl hwX12 (by decide) (by decide +kernel) dX12_rule_10 ?_
      refine lv_iload_n hx hb dX12_rule_13 rfl (lv_at hl 1 rfl) ?_
      refine x_ldI E h (ia_mo_rule g) (i := 2) (by unfold vp_in; decide) (v := 40) fA_66_2 dX12_rule_14 ?_
      refine lv_goto (tgt := 19) hx hb dX12_rule_15 (by decide) ?_
      exact x_iret E h (Or.inr (Or.inr (Or.inl ⟨k1_0, rfl, rfl⟩))) dX12_rule_19
    · skip
      refine lv_aload_n hx hb dX12_rule_9 rfl (lv_at hl 0 rfl) ?_
      refine x_getR E h (fr_mo_rule g) rfl hwX12 (by decide) (by decide +kernel) dX12_rule_10 ?_
      refine lv_iload_n hx hb dX12_rule_13 rfl (lv_at hl 1 rfl) ?_
      refine x_ldI E h (ia_mo_rule g) (i := 3) (by unfold vp_in; decide) (v := 0) fA_66_3 dX12_rule_14 ?_
      refine lv_goto (tgt := 19) hx hb dX12_rule_15 (by decide) ?_
      exact x_iret E h (Or.inr (Or.inr (Or.inr (Or.inl ⟨k1_0, rfl, rfl⟩)))) dX12_rule_19
    · skip
      refine lv_aload_n hx hb dX12_rule_9 rfl (lv_at hl 0 rfl) ?_
      refine x_getR E h (fr_mo_rule g) rfl hwX12 (by decide) (by decide +kernel) dX12_rule_10 ?_
      refine lv_iload_n hx hb dX12_rule_13 rfl (lv_at hl 1 rfl) ?_
      refine x_ldI E h (ia_mo_rule g) (i := 4) (by unfold vp_in; decide) (v := 0) fA_66_4 dX12_rule_14 ?_
      refine lv_goto (tgt := 19) hx hb dX12_rule_15 (by decide) ?_
      exact x_iret E h (Or.inr (Or.inr (Or.inr (Or.inr (Or.inl ⟨k1_0, rfl, rfl⟩))))) dX12_rule_19
    · skip
      refine lv_aload_n hx hb dX12_rule_9 rfl (lv_at hl 0 rfl) ?_
      refine x_getR E h (fr_mo_rule g) rfl hwX12 (by decide) (by decide +kernel) dX12_rule_10 ?_
      refine lv_iload_n hx hb dX12_rule_13 rfl (lv_at hl 1 rfl) ?_
      refine x_ldI E h (ia_mo_rule g) (i := 5) (by unfold vp_in; decide) (v := 10) fA_66_5 dX12_rule_14 ?_
      refine lv_goto (tgt := 19) hx hb dX12_rule_15 (by decide) ?_
      exact x_iret E h (Or.inr (Or.inr (Or.inr (Or.inr (Or.inr (Or.inl ⟨k1_0, rfl, rfl⟩)))))) dX12_rule_19
  · skip
    refine lv_if_eq (tgt := 18) hx hb dX12_rule_6 (by decide) (fun _ => ?_) (fun c => absurd (by decide) c)
    refine lv_iconst (v := (-1)) hx hb dX12_rule_18 (by decide) ?_
    exact x_iret E h (Or.inr (Or.inr (Or.inr (Or.inr (Or.inr (Or.inr (⟨k1_0, rfl⟩))))))) dX12_rule_19
set_option maxHeartbeats 4000000 in
set_option maxRecDepth 100000 in
theorem kX12_addRow_0 (l : Launch) (g : CX) (σ : ST) (p1 : Int32) (p2 : Int32) (p3 : Int32) (p4 : Int32) (fI_31 : σ.1 31 = 0) : XM l g yX12_addRow wsX12_addRow { frames := 0, cells := 0, slots := 0, locals := 0 } [.ref (g.2.1 79), .int p1, .int p2, .int p3, .int p4, .int 0] σ (XQv g (fun σ' => ((sI (sA (sA (sA (sA (sA (sA (sA σ 68 (upd (σ.2.2 68) 0 p1)) 68 (upd (upd (σ.2.2 68) 0 p1) 1 p2)) 68 (upd (upd (upd (σ.2.2 68) 0 p1) 1 p2) 2 p3)) 68 (upd (upd (upd (upd (σ.2.2 68) 0 p1) 1 p2) 2 p3) 3 p4)) 69 (upd (σ.2.2 69) 0 (vp_nar .boolean 0))) 70 (upd (σ.2.2 70) 0 (vp_nar .boolean 0))) 71 (upd (σ.2.2 71) 0 0)) 31 1) = σ'))) := by
  refine x_met (own := RX12) (cc := cX12_addRow) (maxL := 6) (ret := none) (lv := [(0, .ref (g.2.1 79)), (1, .int p1), (2, .int p2), (3, .int p3), (4, .int p4), (5, .int 0)]) (by decide) rfl rfl (Nat.le_of_ble_eq_true rfl) rfl ?_
  intro p e s m args below meth c ls E h hl
  have hx := E.1
  have hb := E.2.1
  have hown := E.2.2.2.1
  have hts := E.2.2.2.2.1
  have hwX12 : ∀ w ∈ wsX120, w ∈ wsX12_addRow := by decide +kernel
  refine lv_aload_n hx hb dX12_addRow_0 rfl (lv_at hl 0 rfl) ?_
  refine x_getR E h (fr_mo_number g) rfl hwX12 (by decide) (by decide +kernel) dX12_addRow_1 ?_
  refine lv_iconst (v := 4) hx hb dX12_addRow_4 (by decide) ?_
  refine lv_aload_n hx hb dX12_addRow_5 rfl (lv_at hl 0 rfl) ?_
  refine x_getI E h (fi_mo_rows g) rfl hwX12 (by decide) (by decide +kernel) (v := 0) fI_31 dX12_addRow_6 ?_
  refine lv_imul hx hb dX12_addRow_9 ?_
  refine x_topI (v2 := 0) (by decide) ?_
  refine lv_iload_n hx hb dX12_addRow_10 rfl (lv_at hl 1 rfl) ?_
  refine x_stI E h (ia_mo_number g) (i := 0) (by unfold vp_in; decide) (j := (0)) rfl rfl dX12_addRow_11 (fun H locs h => ?_)
  refine lv_aload_n hx hb dX12_addRow_12 rfl (lv_at hl 0 rfl) ?_
  refine x_getR E h (fr_mo_number g) rfl hwX12 (by decide) (by decide +kernel) dX12_addRow_13 ?_
  refine lv_iconst (v := 4) hx hb dX12_addRow_16 (by decide) ?_
  refine lv_aload_n hx hb dX12_addRow_17 rfl (lv_at hl 0 rfl) ?_
  refine x_getI E h (fi_mo_rows g) rfl hwX12 (by decide) (by decide +kernel) (v := 0) fI_31 dX12_addRow_18 ?_
  refine lv_imul hx hb dX12_addRow_21 ?_
  refine x_topI (v2 := 0) (by decide) ?_
  refine lv_iconst (v := 1) hx hb dX12_addRow_22 (by decide) ?_
  refine lv_iadd hx hb dX12_addRow_23 ?_
  refine x_topI (v2 := 1) (by decide) ?_
  refine lv_iload_n hx hb dX12_addRow_24 rfl (lv_at hl 2 rfl) ?_
  refine x_stI E h (ia_mo_number g) (i := 1) (by unfold vp_in; decide) (j := (1)) rfl rfl dX12_addRow_25 (fun H locs h => ?_)
  refine lv_aload_n hx hb dX12_addRow_26 rfl (lv_at hl 0 rfl) ?_
  refine x_getR E h (fr_mo_number g) rfl hwX12 (by decide) (by decide +kernel) dX12_addRow_27 ?_
  refine lv_iconst (v := 4) hx hb dX12_addRow_30 (by decide) ?_
  refine lv_aload_n hx hb dX12_addRow_31 rfl (lv_at hl 0 rfl) ?_
  refine x_getI E h (fi_mo_rows g) rfl hwX12 (by decide) (by decide +kernel) (v := 0) fI_31 dX12_addRow_32 ?_
  refine lv_imul hx hb dX12_addRow_35 ?_
  refine x_topI (v2 := 0) (by decide) ?_
  refine lv_iconst (v := 2) hx hb dX12_addRow_36 (by decide) ?_
  refine lv_iadd hx hb dX12_addRow_37 ?_
  refine x_topI (v2 := 2) (by decide) ?_
  refine lv_iload_n hx hb dX12_addRow_38 rfl (lv_at hl 3 rfl) ?_
  refine x_stI E h (ia_mo_number g) (i := 2) (by unfold vp_in; decide) (j := (2)) rfl rfl dX12_addRow_39 (fun H locs h => ?_)
  refine lv_aload_n hx hb dX12_addRow_40 rfl (lv_at hl 0 rfl) ?_
  refine x_getR E h (fr_mo_number g) rfl hwX12 (by decide) (by decide +kernel) dX12_addRow_41 ?_
  refine lv_iconst (v := 4) hx hb dX12_addRow_44 (by decide) ?_
  refine lv_aload_n hx hb dX12_addRow_45 rfl (lv_at hl 0 rfl) ?_
  refine x_getI E h (fi_mo_rows g) rfl hwX12 (by decide) (by decide +kernel) (v := 0) fI_31 dX12_addRow_46 ?_
  refine lv_imul hx hb dX12_addRow_49 ?_
  refine x_topI (v2 := 0) (by decide) ?_
  refine lv_iconst (v := 3) hx hb dX12_addRow_50 (by decide) ?_
  refine lv_iadd hx hb dX12_addRow_51 ?_
  refine x_topI (v2 := 3) (by decide) ?_
  refine lv_iload hx hb dX12_addRow_52 (lv_at hl 4 rfl) ?_
  refine x_stI E h (ia_mo_number g) (i := 3) (by unfold vp_in; decide) (j := (3)) rfl rfl dX12_addRow_54 (fun H locs h => ?_)
  refine lv_aload_n hx hb dX12_addRow_55 rfl (lv_at hl 0 rfl) ?_
  refine x_getR E h (fr_mo_isDeaf g) rfl hwX12 (by decide) (by decide +kernel) dX12_addRow_56 ?_
  refine lv_aload_n hx hb dX12_addRow_59 rfl (lv_at hl 0 rfl) ?_
  refine x_getI E h (fi_mo_rows g) rfl hwX12 (by decide) (by decide +kernel) (v := 0) fI_31 dX12_addRow_60 ?_
  refine lv_iload hx hb dX12_addRow_63 (lv_at hl 5 rfl) ?_
  refine x_stZ E h (ia_mo_isDeaf g) (i := 0) (by unfold vp_in; decide) (j := (0)) rfl rfl dX12_addRow_65 (fun H locs h => ?_)
  refine lv_aload_n hx hb dX12_addRow_66 rfl (lv_at hl 0 rfl) ?_
  refine x_getR E h (fr_mo_isOut g) rfl hwX12 (by decide) (by decide +kernel) dX12_addRow_67 ?_
  refine lv_aload_n hx hb dX12_addRow_70 rfl (lv_at hl 0 rfl) ?_
  refine x_getI E h (fi_mo_rows g) rfl hwX12 (by decide) (by decide +kernel) (v := 0) fI_31 dX12_addRow_71 ?_
  refine lv_iconst (v := 0) hx hb dX12_addRow_74 (by decide) ?_
  refine x_stZ E h (ia_mo_isOut g) (i := 0) (by unfold vp_in; decide) (j := (0)) rfl rfl dX12_addRow_75 (fun H locs h => ?_)
  refine lv_aload_n hx hb dX12_addRow_76 rfl (lv_at hl 0 rfl) ?_
  refine x_getR E h (fr_mo_truth g) rfl hwX12 (by decide) (by decide +kernel) dX12_addRow_77 ?_
  refine lv_aload_n hx hb dX12_addRow_80 rfl (lv_at hl 0 rfl) ?_
  refine x_getI E h (fi_mo_rows g) rfl hwX12 (by decide) (by decide +kernel) (v := 0) fI_31 dX12_addRow_81 ?_
  refine lv_iconst (v := 0) hx hb dX12_addRow_84 (by decide) ?_
  refine x_stI E h (ia_mo_truth g) (i := 0) (by unfold vp_in; decide) (j := (0)) rfl rfl dX12_addRow_85 (fun H locs h => ?_)
  refine lv_aload_n hx hb dX12_addRow_86 rfl (lv_at hl 0 rfl) ?_
  refine lv_dup hx hb dX12_addRow_87 rfl ?_
  refine x_getI E h (fi_mo_rows g) rfl hwX12 (by decide) (by decide +kernel) (v := 0) fI_31 dX12_addRow_88 ?_
  refine lv_iconst (v := 1) hx hb dX12_addRow_91 (by decide) ?_
  refine lv_iadd hx hb dX12_addRow_92 ?_
  refine x_topI (v2 := 1) (by decide) ?_
  refine x_putI E h (ty := .int) (v := 1) (fi_mo_rows g) rfl hwX12 tyX12_ok nmX12 (by decide) (by decide +kernel) (by decide +kernel) (by decide +kernel) rfl rfl dX12_addRow_93 (fun H locs h => ?_)
  exact x_vret E h rfl dX12_addRow_96
set_option maxHeartbeats 4000000 in
set_option maxRecDepth 100000 in
theorem kX12_row_0 (l : Launch) (g : CX) (σ : ST) (p1 : Int32) (p2 : Int32) (p3 : Int32) (p4 : Int32) (fI_31 : σ.1 31 = 0) : XM l g yX12_row wsX12_row { frames := 1, cells := 0, slots := 0, locals := 25 } [.ref (g.2.1 79), .int p1, .int p2, .int p3, .int p4] σ (XQi g (fun r σ' => (bB p1 0 99 = 1 ∧ bB p2 0 99 = 1 ∧ bB p3 0 99 = 1 ∧ bB p4 0 99 = 1 ∧ 0 = r) ∨ (bB p1 0 99 = 1 ∧ bB p2 0 99 = 1 ∧ bB p3 0 99 = 1 ∧ bB p4 0 99 = 0 ∧ (-1) = r) ∨ (bB p1 0 99 = 1 ∧ bB p2 0 99 = 1 ∧ bB p3 0 99 = 0 ∧ (-1) = r) ∨ (bB p1 0 99 = 1 ∧ bB p2 0 99 = 0 ∧ (-1) = r) ∨ (bB p1 0 99 = 0 ∧ (-1) = r))) := by
  refine x_met (own := RX12) (cc := cX12_row) (maxL := 5) (ret := (some .int)) (lv := [(0, .ref (g.2.1 79)), (1, .int p1), (2, .int p2), (3, .int p3), (4, .int p4)]) (by decide) rfl rfl (Nat.le_of_ble_eq_true rfl) rfl ?_
  intro p e s m args below meth c ls E h hl
  have hx := E.1
  have hb := E.2.1
  have hown := E.2.2.2.1
  have hts := E.2.2.2.2.1
  have hwX12 : ∀ w ∈ wsX120, w ∈ wsX12_row := by decide +kernel
  refine lv_iload_n hx hb dX12_row_0 rfl (lv_at hl 1 rfl) ?_
  refine lv_iconst (v := 0) hx hb dX12_row_1 (by decide) ?_
  refine lv_bipush (v := 99) hx hb dX12_row_2 (by decide) ?_
  refine x_si E h (na := 3) (As := [.int p1, .int 0, .int 99]) (kX12_in_0 l g _ p1 0 99) gX12_row_X12_in rfl ⟨rfl, rfl⟩ rfl (by decide +kernel) ⟨Nat.le_of_ble_eq_true rfl, Nat.le_of_ble_eq_true rfl⟩ hl.1 rfl (Nat.le_of_ble_eq_true rfl) dX12_row_4 ⟨Nat.le_of_ble_eq_true rfl, Nat.le_of_ble_eq_true rfl⟩ (fun r1 s1 H locs q1 h => ?_)
  rcases q1 with ⟨k1_0, rfl, rfl⟩ | ⟨k1_0, rfl, rfl⟩
  · skip
    refine lv_if_eq (tgt := 41) hx hb dX12_row_7 (by decide) (fun c => absurd c (by decide)) (fun _ => ?_)
    refine lv_iload_n hx hb dX12_row_10 rfl (lv_at hl 2 rfl) ?_
    refine lv_iconst (v := 0) hx hb dX12_row_11 (by decide) ?_
    refine lv_bipush (v := 99) hx hb dX12_row_12 (by decide) ?_
    refine x_si E h (na := 3) (As := [.int p2, .int 0, .int 99]) (kX12_in_0 l g _ p2 0 99) gX12_row_X12_in rfl ⟨rfl, rfl⟩ rfl (by decide +kernel) ⟨Nat.le_of_ble_eq_true rfl, Nat.le_of_ble_eq_true rfl⟩ hl.1 rfl (Nat.le_of_ble_eq_true rfl) dX12_row_14 ⟨Nat.le_of_ble_eq_true rfl, Nat.le_of_ble_eq_true rfl⟩ (fun r2 s2 H locs q2 h => ?_)
    rcases q2 with ⟨k2_0, rfl, rfl⟩ | ⟨k2_0, rfl, rfl⟩
    · skip
      refine lv_if_eq (tgt := 41) hx hb dX12_row_17 (by decide) (fun c => absurd c (by decide)) (fun _ => ?_)
      refine lv_iload_n hx hb dX12_row_20 rfl (lv_at hl 3 rfl) ?_
      refine lv_iconst (v := 0) hx hb dX12_row_21 (by decide) ?_
      refine lv_bipush (v := 99) hx hb dX12_row_22 (by decide) ?_
      refine x_si E h (na := 3) (As := [.int p3, .int 0, .int 99]) (kX12_in_0 l g _ p3 0 99) gX12_row_X12_in rfl ⟨rfl, rfl⟩ rfl (by decide +kernel) ⟨Nat.le_of_ble_eq_true rfl, Nat.le_of_ble_eq_true rfl⟩ hl.1 rfl (Nat.le_of_ble_eq_true rfl) dX12_row_24 ⟨Nat.le_of_ble_eq_true rfl, Nat.le_of_ble_eq_true rfl⟩ (fun r3 s3 H locs q3 h => ?_)
      rcases q3 with ⟨k3_0, rfl, rfl⟩ | ⟨k3_0, rfl, rfl⟩
      · skip
        refine lv_if_eq (tgt := 41) hx hb dX12_row_27 (by decide) (fun c => absurd c (by decide)) (fun _ => ?_)
        refine lv_iload hx hb dX12_row_30 (lv_at hl 4 rfl) ?_
        refine lv_iconst (v := 0) hx hb dX12_row_32 (by decide) ?_
        refine lv_bipush (v := 99) hx hb dX12_row_33 (by decide) ?_
        refine x_si E h (na := 3) (As := [.int p4, .int 0, .int 99]) (kX12_in_0 l g _ p4 0 99) gX12_row_X12_in rfl ⟨rfl, rfl⟩ rfl (by decide +kernel) ⟨Nat.le_of_ble_eq_true rfl, Nat.le_of_ble_eq_true rfl⟩ hl.1 rfl (Nat.le_of_ble_eq_true rfl) dX12_row_35 ⟨Nat.le_of_ble_eq_true rfl, Nat.le_of_ble_eq_true rfl⟩ (fun r4 s4 H locs q4 h => ?_)
        rcases q4 with ⟨k4_0, rfl, rfl⟩ | ⟨k4_0, rfl, rfl⟩
        · skip
          refine lv_if_ne (tgt := 43) hx hb dX12_row_38 (by decide) (fun _ => ?_) (fun c => absurd c (by decide))
          refine lv_aload_n hx hb dX12_row_43 rfl (lv_at hl 0 rfl) ?_
          refine x_getI E h (fi_mo_rows g) rfl hwX12 (by decide) (by decide +kernel) (v := 0) fI_31 dX12_row_44 ?_
          refine lv_bipush (v := 48) hx hb dX12_row_47 (by decide) ?_
          refine lv_icmp_ne (tgt := 55) hx hb dX12_row_49 (by decide) (fun _ => ?_) (fun c => absurd c (by decide))
          refine lv_aload_n hx hb dX12_row_55 rfl (lv_at hl 0 rfl) ?_
          refine lv_iload_n hx hb dX12_row_56 rfl (lv_at hl 1 rfl) ?_
          refine lv_iload_n hx hb dX12_row_57 rfl (lv_at hl 2 rfl) ?_
          refine lv_iload_n hx hb dX12_row_58 rfl (lv_at hl 3 rfl) ?_
          refine lv_iload hx hb dX12_row_59 (lv_at hl 4 rfl) ?_
          refine lv_iconst (v := 0) hx hb dX12_row_61 (by decide) ?_
          refine x_vv E h (na := 5) (As := [.int p1, .int p2, .int p3, .int p4, .int 0]) (kX12_addRow_0 l g _ p1 p2 p3 p4 fI_31) (oc_mo g) rfl gX12_row_X12_addRow rfl ⟨rfl, rfl⟩ rfl (by decide +kernel) ⟨Nat.le_of_ble_eq_true rfl, Nat.le_of_ble_eq_true rfl⟩ hl.1 rfl (Nat.le_of_ble_eq_true rfl) dX12_row_62 ⟨Nat.le_of_ble_eq_true rfl, Nat.le_of_ble_eq_true rfl⟩ (fun s5 H locs q5 h => ?_)
          rcases q5 with rfl
          refine lv_aload_n hx hb dX12_row_65 rfl (lv_at hl 0 rfl) ?_
          refine x_getI E h (fi_mo_rows g) rfl hwX12 (by decide) (by decide +kernel) (v := 1) rfl dX12_row_66 ?_
          refine lv_iconst (v := 1) hx hb dX12_row_69 (by decide) ?_
          refine lv_isub hx hb dX12_row_70 ?_
          refine x_topI (v2 := 0) (by decide) ?_
          exact x_iret E h (Or.inl ⟨k1_0, k2_0, k3_0, k4_0, rfl⟩) dX12_row_71
        · skip
          refine lv_if_ne (tgt := 43) hx hb dX12_row_38 (by decide) (fun c => absurd (by decide) c) (fun _ => ?_)
          refine lv_iconst (v := (-1)) hx hb dX12_row_41 (by decide) ?_
          exact x_iret E h (Or.inr (Or.inl ⟨k1_0, k2_0, k3_0, k4_0, rfl⟩)) dX12_row_42
      · skip
        refine lv_if_eq (tgt := 41) hx hb dX12_row_27 (by decide) (fun _ => ?_) (fun c => absurd (by decide) c)
        refine lv_iconst (v := (-1)) hx hb dX12_row_41 (by decide) ?_
        exact x_iret E h (Or.inr (Or.inr (Or.inl ⟨k1_0, k2_0, k3_0, rfl⟩))) dX12_row_42
    · skip
      refine lv_if_eq (tgt := 41) hx hb dX12_row_17 (by decide) (fun _ => ?_) (fun c => absurd (by decide) c)
      refine lv_iconst (v := (-1)) hx hb dX12_row_41 (by decide) ?_
      exact x_iret E h (Or.inr (Or.inr (Or.inr (Or.inl ⟨k1_0, k2_0, rfl⟩)))) dX12_row_42
  · skip
    refine lv_if_eq (tgt := 41) hx hb dX12_row_7 (by decide) (fun _ => ?_) (fun c => absurd (by decide) c)
    refine lv_iconst (v := (-1)) hx hb dX12_row_41 (by decide) ?_
    exact x_iret E h (Or.inr (Or.inr (Or.inr (Or.inr (⟨k1_0, rfl⟩))))) dX12_row_42
set_option maxHeartbeats 4000000 in
set_option maxRecDepth 100000 in
theorem kX12_addRow_1 (l : Launch) (g : CX) (σ : ST) (fI_31 : σ.1 31 = 0) : XM l g yX12_addRow wsX12_addRow { frames := 0, cells := 0, slots := 0, locals := 0 } [.ref (g.2.1 79), .int 0, .int 0, .int 0, .int 0, .int 1] σ (XQv g (fun σ' => ((sI (sA (sA (sA (sA (sA (sA (sA σ 68 (upd (σ.2.2 68) 0 0)) 68 (upd (upd (σ.2.2 68) 0 0) 1 0)) 68 (upd (upd (upd (σ.2.2 68) 0 0) 1 0) 2 0)) 68 (upd (upd (upd (upd (σ.2.2 68) 0 0) 1 0) 2 0) 3 0)) 69 (upd (σ.2.2 69) 0 (vp_nar .boolean 1))) 70 (upd (σ.2.2 70) 0 (vp_nar .boolean 0))) 71 (upd (σ.2.2 71) 0 0)) 31 1) = σ'))) := by
  refine x_met (own := RX12) (cc := cX12_addRow) (maxL := 6) (ret := none) (lv := [(0, .ref (g.2.1 79)), (1, .int 0), (2, .int 0), (3, .int 0), (4, .int 0), (5, .int 1)]) (by decide) rfl rfl (Nat.le_of_ble_eq_true rfl) rfl ?_
  intro p e s m args below meth c ls E h hl
  have hx := E.1
  have hb := E.2.1
  have hown := E.2.2.2.1
  have hts := E.2.2.2.2.1
  have hwX12 : ∀ w ∈ wsX120, w ∈ wsX12_addRow := by decide +kernel
  refine lv_aload_n hx hb dX12_addRow_0 rfl (lv_at hl 0 rfl) ?_
  refine x_getR E h (fr_mo_number g) rfl hwX12 (by decide) (by decide +kernel) dX12_addRow_1 ?_
  refine lv_iconst (v := 4) hx hb dX12_addRow_4 (by decide) ?_
  refine lv_aload_n hx hb dX12_addRow_5 rfl (lv_at hl 0 rfl) ?_
  refine x_getI E h (fi_mo_rows g) rfl hwX12 (by decide) (by decide +kernel) (v := 0) fI_31 dX12_addRow_6 ?_
  refine lv_imul hx hb dX12_addRow_9 ?_
  refine x_topI (v2 := 0) (by decide) ?_
  refine lv_iload_n hx hb dX12_addRow_10 rfl (lv_at hl 1 rfl) ?_
  refine x_stI E h (ia_mo_number g) (i := 0) (by unfold vp_in; decide) (j := (0)) rfl rfl dX12_addRow_11 (fun H locs h => ?_)
  refine lv_aload_n hx hb dX12_addRow_12 rfl (lv_at hl 0 rfl) ?_
  refine x_getR E h (fr_mo_number g) rfl hwX12 (by decide) (by decide +kernel) dX12_addRow_13 ?_
  refine lv_iconst (v := 4) hx hb dX12_addRow_16 (by decide) ?_
  refine lv_aload_n hx hb dX12_addRow_17 rfl (lv_at hl 0 rfl) ?_
  refine x_getI E h (fi_mo_rows g) rfl hwX12 (by decide) (by decide +kernel) (v := 0) fI_31 dX12_addRow_18 ?_
  refine lv_imul hx hb dX12_addRow_21 ?_
  refine x_topI (v2 := 0) (by decide) ?_
  refine lv_iconst (v := 1) hx hb dX12_addRow_22 (by decide) ?_
  refine lv_iadd hx hb dX12_addRow_23 ?_
  refine x_topI (v2 := 1) (by decide) ?_
  refine lv_iload_n hx hb dX12_addRow_24 rfl (lv_at hl 2 rfl) ?_
  refine x_stI E h (ia_mo_number g) (i := 1) (by unfold vp_in; decide) (j := (1)) rfl rfl dX12_addRow_25 (fun H locs h => ?_)
  refine lv_aload_n hx hb dX12_addRow_26 rfl (lv_at hl 0 rfl) ?_
  refine x_getR E h (fr_mo_number g) rfl hwX12 (by decide) (by decide +kernel) dX12_addRow_27 ?_
  refine lv_iconst (v := 4) hx hb dX12_addRow_30 (by decide) ?_
  refine lv_aload_n hx hb dX12_addRow_31 rfl (lv_at hl 0 rfl) ?_
  refine x_getI E h (fi_mo_rows g) rfl hwX12 (by decide) (by decide +kernel) (v := 0) fI_31 dX12_addRow_32 ?_
  refine lv_imul hx hb dX12_addRow_35 ?_
  refine x_topI (v2 := 0) (by decide) ?_
  refine lv_iconst (v := 2) hx hb dX12_addRow_36 (by decide) ?_
  refine lv_iadd hx hb dX12_addRow_37 ?_
  refine x_topI (v2 := 2) (by decide) ?_
  refine lv_iload_n hx hb dX12_addRow_38 rfl (lv_at hl 3 rfl) ?_
  refine x_stI E h (ia_mo_number g) (i := 2) (by unfold vp_in; decide) (j := (2)) rfl rfl dX12_addRow_39 (fun H locs h => ?_)
  refine lv_aload_n hx hb dX12_addRow_40 rfl (lv_at hl 0 rfl) ?_
  refine x_getR E h (fr_mo_number g) rfl hwX12 (by decide) (by decide +kernel) dX12_addRow_41 ?_
  refine lv_iconst (v := 4) hx hb dX12_addRow_44 (by decide) ?_
  refine lv_aload_n hx hb dX12_addRow_45 rfl (lv_at hl 0 rfl) ?_
  refine x_getI E h (fi_mo_rows g) rfl hwX12 (by decide) (by decide +kernel) (v := 0) fI_31 dX12_addRow_46 ?_
  refine lv_imul hx hb dX12_addRow_49 ?_
  refine x_topI (v2 := 0) (by decide) ?_
  refine lv_iconst (v := 3) hx hb dX12_addRow_50 (by decide) ?_
  refine lv_iadd hx hb dX12_addRow_51 ?_
  refine x_topI (v2 := 3) (by decide) ?_
  refine lv_iload hx hb dX12_addRow_52 (lv_at hl 4 rfl) ?_
  refine x_stI E h (ia_mo_number g) (i := 3) (by unfold vp_in; decide) (j := (3)) rfl rfl dX12_addRow_54 (fun H locs h => ?_)
  refine lv_aload_n hx hb dX12_addRow_55 rfl (lv_at hl 0 rfl) ?_
  refine x_getR E h (fr_mo_isDeaf g) rfl hwX12 (by decide) (by decide +kernel) dX12_addRow_56 ?_
  refine lv_aload_n hx hb dX12_addRow_59 rfl (lv_at hl 0 rfl) ?_
  refine x_getI E h (fi_mo_rows g) rfl hwX12 (by decide) (by decide +kernel) (v := 0) fI_31 dX12_addRow_60 ?_
  refine lv_iload hx hb dX12_addRow_63 (lv_at hl 5 rfl) ?_
  refine x_stZ E h (ia_mo_isDeaf g) (i := 0) (by unfold vp_in; decide) (j := (0)) rfl rfl dX12_addRow_65 (fun H locs h => ?_)
  refine lv_aload_n hx hb dX12_addRow_66 rfl (lv_at hl 0 rfl) ?_
  refine x_getR E h (fr_mo_isOut g) rfl hwX12 (by decide) (by decide +kernel) dX12_addRow_67 ?_
  refine lv_aload_n hx hb dX12_addRow_70 rfl (lv_at hl 0 rfl) ?_
  refine x_getI E h (fi_mo_rows g) rfl hwX12 (by decide) (by decide +kernel) (v := 0) fI_31 dX12_addRow_71 ?_
  refine lv_iconst (v := 0) hx hb dX12_addRow_74 (by decide) ?_
  refine x_stZ E h (ia_mo_isOut g) (i := 0) (by unfold vp_in; decide) (j := (0)) rfl rfl dX12_addRow_75 (fun H locs h => ?_)
  refine lv_aload_n hx hb dX12_addRow_76 rfl (lv_at hl 0 rfl) ?_
  refine x_getR E h (fr_mo_truth g) rfl hwX12 (by decide) (by decide +kernel) dX12_addRow_77 ?_
  refine lv_aload_n hx hb dX12_addRow_80 rfl (lv_at hl 0 rfl) ?_
  refine x_getI E h (fi_mo_rows g) rfl hwX12 (by decide) (by decide +kernel) (v := 0) fI_31 dX12_addRow_81 ?_
  refine lv_iconst (v := 0) hx hb dX12_addRow_84 (by decide) ?_
  refine x_stI E h (ia_mo_truth g) (i := 0) (by unfold vp_in; decide) (j := (0)) rfl rfl dX12_addRow_85 (fun H locs h => ?_)
  refine lv_aload_n hx hb dX12_addRow_86 rfl (lv_at hl 0 rfl) ?_
  refine lv_dup hx hb dX12_addRow_87 rfl ?_
  refine x_getI E h (fi_mo_rows g) rfl hwX12 (by decide) (by decide +kernel) (v := 0) fI_31 dX12_addRow_88 ?_
  refine lv_iconst (v := 1) hx hb dX12_addRow_91 (by decide) ?_
  refine lv_iadd hx hb dX12_addRow_92 ?_
  refine x_topI (v2 := 1) (by decide) ?_
  refine x_putI E h (ty := .int) (v := 1) (fi_mo_rows g) rfl hwX12 tyX12_ok nmX12 (by decide) (by decide +kernel) (by decide +kernel) (by decide +kernel) rfl rfl dX12_addRow_93 (fun H locs h => ?_)
  exact x_vret E h rfl dX12_addRow_96
set_option maxHeartbeats 4000000 in
set_option maxRecDepth 100000 in
theorem kX12_addRow_2 (l : Launch) (g : CX) (σ : ST) (fI_31 : σ.1 31 = 1) : XM l g yX12_addRow wsX12_addRow { frames := 0, cells := 0, slots := 0, locals := 0 } [.ref (g.2.1 79), .int 0, .int 0, .int 0, .int 0, .int 1] σ (XQv g (fun σ' => ((sI (sA (sA (sA (sA (sA (sA (sA σ 68 (upd (σ.2.2 68) 4 0)) 68 (upd (upd (σ.2.2 68) 4 0) 5 0)) 68 (upd (upd (upd (σ.2.2 68) 4 0) 5 0) 6 0)) 68 (upd (upd (upd (upd (σ.2.2 68) 4 0) 5 0) 6 0) 7 0)) 69 (upd (σ.2.2 69) 1 (vp_nar .boolean 1))) 70 (upd (σ.2.2 70) 1 (vp_nar .boolean 0))) 71 (upd (σ.2.2 71) 1 0)) 31 2) = σ'))) := by
  refine x_met (own := RX12) (cc := cX12_addRow) (maxL := 6) (ret := none) (lv := [(0, .ref (g.2.1 79)), (1, .int 0), (2, .int 0), (3, .int 0), (4, .int 0), (5, .int 1)]) (by decide) rfl rfl (Nat.le_of_ble_eq_true rfl) rfl ?_
  intro p e s m args below meth c ls E h hl
  have hx := E.1
  have hb := E.2.1
  have hown := E.2.2.2.1
  have hts := E.2.2.2.2.1
  have hwX12 : ∀ w ∈ wsX120, w ∈ wsX12_addRow := by decide +kernel
  refine lv_aload_n hx hb dX12_addRow_0 rfl (lv_at hl 0 rfl) ?_
  refine x_getR E h (fr_mo_number g) rfl hwX12 (by decide) (by decide +kernel) dX12_addRow_1 ?_
  refine lv_iconst (v := 4) hx hb dX12_addRow_4 (by decide) ?_
  refine lv_aload_n hx hb dX12_addRow_5 rfl (lv_at hl 0 rfl) ?_
  refine x_getI E h (fi_mo_rows g) rfl hwX12 (by decide) (by decide +kernel) (v := 1) fI_31 dX12_addRow_6 ?_
  refine lv_imul hx hb dX12_addRow_9 ?_
  refine x_topI (v2 := 4) (by decide) ?_
  refine lv_iload_n hx hb dX12_addRow_10 rfl (lv_at hl 1 rfl) ?_
  refine x_stI E h (ia_mo_number g) (i := 4) (by unfold vp_in; decide) (j := (4)) rfl rfl dX12_addRow_11 (fun H locs h => ?_)
  refine lv_aload_n hx hb dX12_addRow_12 rfl (lv_at hl 0 rfl) ?_
  refine x_getR E h (fr_mo_number g) rfl hwX12 (by decide) (by decide +kernel) dX12_addRow_13 ?_
  refine lv_iconst (v := 4) hx hb dX12_addRow_16 (by decide) ?_
  refine lv_aload_n hx hb dX12_addRow_17 rfl (lv_at hl 0 rfl) ?_
  refine x_getI E h (fi_mo_rows g) rfl hwX12 (by decide) (by decide +kernel) (v := 1) fI_31 dX12_addRow_18 ?_
  refine lv_imul hx hb dX12_addRow_21 ?_
  refine x_topI (v2 := 4) (by decide) ?_
  refine lv_iconst (v := 1) hx hb dX12_addRow_22 (by decide) ?_
  refine lv_iadd hx hb dX12_addRow_23 ?_
  refine x_topI (v2 := 5) (by decide) ?_
  refine lv_iload_n hx hb dX12_addRow_24 rfl (lv_at hl 2 rfl) ?_
  refine x_stI E h (ia_mo_number g) (i := 5) (by unfold vp_in; decide) (j := (5)) rfl rfl dX12_addRow_25 (fun H locs h => ?_)
  refine lv_aload_n hx hb dX12_addRow_26 rfl (lv_at hl 0 rfl) ?_
  refine x_getR E h (fr_mo_number g) rfl hwX12 (by decide) (by decide +kernel) dX12_addRow_27 ?_
  refine lv_iconst (v := 4) hx hb dX12_addRow_30 (by decide) ?_
  refine lv_aload_n hx hb dX12_addRow_31 rfl (lv_at hl 0 rfl) ?_
  refine x_getI E h (fi_mo_rows g) rfl hwX12 (by decide) (by decide +kernel) (v := 1) fI_31 dX12_addRow_32 ?_
  refine lv_imul hx hb dX12_addRow_35 ?_
  refine x_topI (v2 := 4) (by decide) ?_
  refine lv_iconst (v := 2) hx hb dX12_addRow_36 (by decide) ?_
  refine lv_iadd hx hb dX12_addRow_37 ?_
  refine x_topI (v2 := 6) (by decide) ?_
  refine lv_iload_n hx hb dX12_addRow_38 rfl (lv_at hl 3 rfl) ?_
  refine x_stI E h (ia_mo_number g) (i := 6) (by unfold vp_in; decide) (j := (6)) rfl rfl dX12_addRow_39 (fun H locs h => ?_)
  refine lv_aload_n hx hb dX12_addRow_40 rfl (lv_at hl 0 rfl) ?_
  refine x_getR E h (fr_mo_number g) rfl hwX12 (by decide) (by decide +kernel) dX12_addRow_41 ?_
  refine lv_iconst (v := 4) hx hb dX12_addRow_44 (by decide) ?_
  refine lv_aload_n hx hb dX12_addRow_45 rfl (lv_at hl 0 rfl) ?_
  refine x_getI E h (fi_mo_rows g) rfl hwX12 (by decide) (by decide +kernel) (v := 1) fI_31 dX12_addRow_46 ?_
  refine lv_imul hx hb dX12_addRow_49 ?_
  refine x_topI (v2 := 4) (by decide) ?_
  refine lv_iconst (v := 3) hx hb dX12_addRow_50 (by decide) ?_
  refine lv_iadd hx hb dX12_addRow_51 ?_
  refine x_topI (v2 := 7) (by decide) ?_
  refine lv_iload hx hb dX12_addRow_52 (lv_at hl 4 rfl) ?_
  refine x_stI E h (ia_mo_number g) (i := 7) (by unfold vp_in; decide) (j := (7)) rfl rfl dX12_addRow_54 (fun H locs h => ?_)
  refine lv_aload_n hx hb dX12_addRow_55 rfl (lv_at hl 0 rfl) ?_
  refine x_getR E h (fr_mo_isDeaf g) rfl hwX12 (by decide) (by decide +kernel) dX12_addRow_56 ?_
  refine lv_aload_n hx hb dX12_addRow_59 rfl (lv_at hl 0 rfl) ?_
  refine x_getI E h (fi_mo_rows g) rfl hwX12 (by decide) (by decide +kernel) (v := 1) fI_31 dX12_addRow_60 ?_
  refine lv_iload hx hb dX12_addRow_63 (lv_at hl 5 rfl) ?_
  refine x_stZ E h (ia_mo_isDeaf g) (i := 1) (by unfold vp_in; decide) (j := (1)) rfl rfl dX12_addRow_65 (fun H locs h => ?_)
  refine lv_aload_n hx hb dX12_addRow_66 rfl (lv_at hl 0 rfl) ?_
  refine x_getR E h (fr_mo_isOut g) rfl hwX12 (by decide) (by decide +kernel) dX12_addRow_67 ?_
  refine lv_aload_n hx hb dX12_addRow_70 rfl (lv_at hl 0 rfl) ?_
  refine x_getI E h (fi_mo_rows g) rfl hwX12 (by decide) (by decide +kernel) (v := 1) fI_31 dX12_addRow_71 ?_
  refine lv_iconst (v := 0) hx hb dX12_addRow_74 (by decide) ?_
  refine x_stZ E h (ia_mo_isOut g) (i := 1) (by unfold vp_in; decide) (j := (1)) rfl rfl dX12_addRow_75 (fun H locs h => ?_)
  refine lv_aload_n hx hb dX12_addRow_76 rfl (lv_at hl 0 rfl) ?_
  refine x_getR E h (fr_mo_truth g) rfl hwX12 (by decide) (by decide +kernel) dX12_addRow_77 ?_
  refine lv_aload_n hx hb dX12_addRow_80 rfl (lv_at hl 0 rfl) ?_
  refine x_getI E h (fi_mo_rows g) rfl hwX12 (by decide) (by decide +kernel) (v := 1) fI_31 dX12_addRow_81 ?_
  refine lv_iconst (v := 0) hx hb dX12_addRow_84 (by decide) ?_
  refine x_stI E h (ia_mo_truth g) (i := 1) (by unfold vp_in; decide) (j := (1)) rfl rfl dX12_addRow_85 (fun H locs h => ?_)
  refine lv_aload_n hx hb dX12_addRow_86 rfl (lv_at hl 0 rfl) ?_
  refine lv_dup hx hb dX12_addRow_87 rfl ?_
  refine x_getI E h (fi_mo_rows g) rfl hwX12 (by decide) (by decide +kernel) (v := 1) fI_31 dX12_addRow_88 ?_
  refine lv_iconst (v := 1) hx hb dX12_addRow_91 (by decide) ?_
  refine lv_iadd hx hb dX12_addRow_92 ?_
  refine x_topI (v2 := 2) (by decide) ?_
  refine x_putI E h (ty := .int) (v := 2) (fi_mo_rows g) rfl hwX12 tyX12_ok nmX12 (by decide) (by decide +kernel) (by decide +kernel) (by decide +kernel) rfl rfl dX12_addRow_93 (fun H locs h => ?_)
  exact x_vret E h rfl dX12_addRow_96
set_option maxHeartbeats 4000000 in
set_option maxRecDepth 100000 in
theorem kX12_addRow_3 (l : Launch) (g : CX) (σ : ST) (fI_31 : σ.1 31 = 2) : XM l g yX12_addRow wsX12_addRow { frames := 0, cells := 0, slots := 0, locals := 0 } [.ref (g.2.1 79), .int 0, .int 0, .int 0, .int 0, .int 1] σ (XQv g (fun σ' => ((sI (sA (sA (sA (sA (sA (sA (sA σ 68 (upd (σ.2.2 68) 8 0)) 68 (upd (upd (σ.2.2 68) 8 0) 9 0)) 68 (upd (upd (upd (σ.2.2 68) 8 0) 9 0) 10 0)) 68 (upd (upd (upd (upd (σ.2.2 68) 8 0) 9 0) 10 0) 11 0)) 69 (upd (σ.2.2 69) 2 (vp_nar .boolean 1))) 70 (upd (σ.2.2 70) 2 (vp_nar .boolean 0))) 71 (upd (σ.2.2 71) 2 0)) 31 3) = σ'))) := by
  refine x_met (own := RX12) (cc := cX12_addRow) (maxL := 6) (ret := none) (lv := [(0, .ref (g.2.1 79)), (1, .int 0), (2, .int 0), (3, .int 0), (4, .int 0), (5, .int 1)]) (by decide) rfl rfl (Nat.le_of_ble_eq_true rfl) rfl ?_
  intro p e s m args below meth c ls E h hl
  have hx := E.1
  have hb := E.2.1
  have hown := E.2.2.2.1
  have hts := E.2.2.2.2.1
  have hwX12 : ∀ w ∈ wsX120, w ∈ wsX12_addRow := by decide +kernel
  refine lv_aload_n hx hb dX12_addRow_0 rfl (lv_at hl 0 rfl) ?_
  refine x_getR E h (fr_mo_number g) rfl hwX12 (by decide) (by decide +kernel) dX12_addRow_1 ?_
  refine lv_iconst (v := 4) hx hb dX12_addRow_4 (by decide) ?_
  refine lv_aload_n hx hb dX12_addRow_5 rfl (lv_at hl 0 rfl) ?_
  refine x_getI E h (fi_mo_rows g) rfl hwX12 (by decide) (by decide +kernel) (v := 2) fI_31 dX12_addRow_6 ?_
  refine lv_imul hx hb dX12_addRow_9 ?_
  refine x_topI (v2 := 8) (by decide) ?_
  refine lv_iload_n hx hb dX12_addRow_10 rfl (lv_at hl 1 rfl) ?_
  refine x_stI E h (ia_mo_number g) (i := 8) (by unfold vp_in; decide) (j := (8)) rfl rfl dX12_addRow_11 (fun H locs h => ?_)
  refine lv_aload_n hx hb dX12_addRow_12 rfl (lv_at hl 0 rfl) ?_
  refine x_getR E h (fr_mo_number g) rfl hwX12 (by decide) (by decide +kernel) dX12_addRow_13 ?_
  refine lv_iconst (v := 4) hx hb dX12_addRow_16 (by decide) ?_
  refine lv_aload_n hx hb dX12_addRow_17 rfl (lv_at hl 0 rfl) ?_
  refine x_getI E h (fi_mo_rows g) rfl hwX12 (by decide) (by decide +kernel) (v := 2) fI_31 dX12_addRow_18 ?_
  refine lv_imul hx hb dX12_addRow_21 ?_
  refine x_topI (v2 := 8) (by decide) ?_
  refine lv_iconst (v := 1) hx hb dX12_addRow_22 (by decide) ?_
  refine lv_iadd hx hb dX12_addRow_23 ?_
  refine x_topI (v2 := 9) (by decide) ?_
  refine lv_iload_n hx hb dX12_addRow_24 rfl (lv_at hl 2 rfl) ?_
  refine x_stI E h (ia_mo_number g) (i := 9) (by unfold vp_in; decide) (j := (9)) rfl rfl dX12_addRow_25 (fun H locs h => ?_)
  refine lv_aload_n hx hb dX12_addRow_26 rfl (lv_at hl 0 rfl) ?_
  refine x_getR E h (fr_mo_number g) rfl hwX12 (by decide) (by decide +kernel) dX12_addRow_27 ?_
  refine lv_iconst (v := 4) hx hb dX12_addRow_30 (by decide) ?_
  refine lv_aload_n hx hb dX12_addRow_31 rfl (lv_at hl 0 rfl) ?_
  refine x_getI E h (fi_mo_rows g) rfl hwX12 (by decide) (by decide +kernel) (v := 2) fI_31 dX12_addRow_32 ?_
  refine lv_imul hx hb dX12_addRow_35 ?_
  refine x_topI (v2 := 8) (by decide) ?_
  refine lv_iconst (v := 2) hx hb dX12_addRow_36 (by decide) ?_
  refine lv_iadd hx hb dX12_addRow_37 ?_
  refine x_topI (v2 := 10) (by decide) ?_
  refine lv_iload_n hx hb dX12_addRow_38 rfl (lv_at hl 3 rfl) ?_
  refine x_stI E h (ia_mo_number g) (i := 10) (by unfold vp_in; decide) (j := (10)) rfl rfl dX12_addRow_39 (fun H locs h => ?_)
  refine lv_aload_n hx hb dX12_addRow_40 rfl (lv_at hl 0 rfl) ?_
  refine x_getR E h (fr_mo_number g) rfl hwX12 (by decide) (by decide +kernel) dX12_addRow_41 ?_
  refine lv_iconst (v := 4) hx hb dX12_addRow_44 (by decide) ?_
  refine lv_aload_n hx hb dX12_addRow_45 rfl (lv_at hl 0 rfl) ?_
  refine x_getI E h (fi_mo_rows g) rfl hwX12 (by decide) (by decide +kernel) (v := 2) fI_31 dX12_addRow_46 ?_
  refine lv_imul hx hb dX12_addRow_49 ?_
  refine x_topI (v2 := 8) (by decide) ?_
  refine lv_iconst (v := 3) hx hb dX12_addRow_50 (by decide) ?_
  refine lv_iadd hx hb dX12_addRow_51 ?_
  refine x_topI (v2 := 11) (by decide) ?_
  refine lv_iload hx hb dX12_addRow_52 (lv_at hl 4 rfl) ?_
  refine x_stI E h (ia_mo_number g) (i := 11) (by unfold vp_in; decide) (j := (11)) rfl rfl dX12_addRow_54 (fun H locs h => ?_)
  refine lv_aload_n hx hb dX12_addRow_55 rfl (lv_at hl 0 rfl) ?_
  refine x_getR E h (fr_mo_isDeaf g) rfl hwX12 (by decide) (by decide +kernel) dX12_addRow_56 ?_
  refine lv_aload_n hx hb dX12_addRow_59 rfl (lv_at hl 0 rfl) ?_
  refine x_getI E h (fi_mo_rows g) rfl hwX12 (by decide) (by decide +kernel) (v := 2) fI_31 dX12_addRow_60 ?_
  refine lv_iload hx hb dX12_addRow_63 (lv_at hl 5 rfl) ?_
  refine x_stZ E h (ia_mo_isDeaf g) (i := 2) (by unfold vp_in; decide) (j := (2)) rfl rfl dX12_addRow_65 (fun H locs h => ?_)
  refine lv_aload_n hx hb dX12_addRow_66 rfl (lv_at hl 0 rfl) ?_
  refine x_getR E h (fr_mo_isOut g) rfl hwX12 (by decide) (by decide +kernel) dX12_addRow_67 ?_
  refine lv_aload_n hx hb dX12_addRow_70 rfl (lv_at hl 0 rfl) ?_
  refine x_getI E h (fi_mo_rows g) rfl hwX12 (by decide) (by decide +kernel) (v := 2) fI_31 dX12_addRow_71 ?_
  refine lv_iconst (v := 0) hx hb dX12_addRow_74 (by decide) ?_
  refine x_stZ E h (ia_mo_isOut g) (i := 2) (by unfold vp_in; decide) (j := (2)) rfl rfl dX12_addRow_75 (fun H locs h => ?_)
  refine lv_aload_n hx hb dX12_addRow_76 rfl (lv_at hl 0 rfl) ?_
  refine x_getR E h (fr_mo_truth g) rfl hwX12 (by decide) (by decide +kernel) dX12_addRow_77 ?_
  refine lv_aload_n hx hb dX12_addRow_80 rfl (lv_at hl 0 rfl) ?_
  refine x_getI E h (fi_mo_rows g) rfl hwX12 (by decide) (by decide +kernel) (v := 2) fI_31 dX12_addRow_81 ?_
  refine lv_iconst (v := 0) hx hb dX12_addRow_84 (by decide) ?_
  refine x_stI E h (ia_mo_truth g) (i := 2) (by unfold vp_in; decide) (j := (2)) rfl rfl dX12_addRow_85 (fun H locs h => ?_)
  refine lv_aload_n hx hb dX12_addRow_86 rfl (lv_at hl 0 rfl) ?_
  refine lv_dup hx hb dX12_addRow_87 rfl ?_
  refine x_getI E h (fi_mo_rows g) rfl hwX12 (by decide) (by decide +kernel) (v := 2) fI_31 dX12_addRow_88 ?_
  refine lv_iconst (v := 1) hx hb dX12_addRow_91 (by decide) ?_
  refine lv_iadd hx hb dX12_addRow_92 ?_
  refine x_topI (v2 := 3) (by decide) ?_
  refine x_putI E h (ty := .int) (v := 3) (fi_mo_rows g) rfl hwX12 tyX12_ok nmX12 (by decide) (by decide +kernel) (by decide +kernel) (by decide +kernel) rfl rfl dX12_addRow_93 (fun H locs h => ?_)
  exact x_vret E h rfl dX12_addRow_96
set_option maxHeartbeats 4000000 in
set_option maxRecDepth 100000 in
theorem kX12_addRow_4 (l : Launch) (g : CX) (σ : ST) (fI_31 : σ.1 31 = 3) : XM l g yX12_addRow wsX12_addRow { frames := 0, cells := 0, slots := 0, locals := 0 } [.ref (g.2.1 79), .int 0, .int 0, .int 0, .int 0, .int 1] σ (XQv g (fun σ' => ((sI (sA (sA (sA (sA (sA (sA (sA σ 68 (upd (σ.2.2 68) 12 0)) 68 (upd (upd (σ.2.2 68) 12 0) 13 0)) 68 (upd (upd (upd (σ.2.2 68) 12 0) 13 0) 14 0)) 68 (upd (upd (upd (upd (σ.2.2 68) 12 0) 13 0) 14 0) 15 0)) 69 (upd (σ.2.2 69) 3 (vp_nar .boolean 1))) 70 (upd (σ.2.2 70) 3 (vp_nar .boolean 0))) 71 (upd (σ.2.2 71) 3 0)) 31 4) = σ'))) := by
  refine x_met (own := RX12) (cc := cX12_addRow) (maxL := 6) (ret := none) (lv := [(0, .ref (g.2.1 79)), (1, .int 0), (2, .int 0), (3, .int 0), (4, .int 0), (5, .int 1)]) (by decide) rfl rfl (Nat.le_of_ble_eq_true rfl) rfl ?_
  intro p e s m args below meth c ls E h hl
  have hx := E.1
  have hb := E.2.1
  have hown := E.2.2.2.1
  have hts := E.2.2.2.2.1
  have hwX12 : ∀ w ∈ wsX120, w ∈ wsX12_addRow := by decide +kernel
  refine lv_aload_n hx hb dX12_addRow_0 rfl (lv_at hl 0 rfl) ?_
  refine x_getR E h (fr_mo_number g) rfl hwX12 (by decide) (by decide +kernel) dX12_addRow_1 ?_
  refine lv_iconst (v := 4) hx hb dX12_addRow_4 (by decide) ?_
  refine lv_aload_n hx hb dX12_addRow_5 rfl (lv_at hl 0 rfl) ?_
  refine x_getI E h (fi_mo_rows g) rfl hwX12 (by decide) (by decide +kernel) (v := 3) fI_31 dX12_addRow_6 ?_
  refine lv_imul hx hb dX12_addRow_9 ?_
  refine x_topI (v2 := 12) (by decide) ?_
  refine lv_iload_n hx hb dX12_addRow_10 rfl (lv_at hl 1 rfl) ?_
  refine x_stI E h (ia_mo_number g) (i := 12) (by unfold vp_in; decide) (j := (12)) rfl rfl dX12_addRow_11 (fun H locs h => ?_)
  refine lv_aload_n hx hb dX12_addRow_12 rfl (lv_at hl 0 rfl) ?_
  refine x_getR E h (fr_mo_number g) rfl hwX12 (by decide) (by decide +kernel) dX12_addRow_13 ?_
  refine lv_iconst (v := 4) hx hb dX12_addRow_16 (by decide) ?_
  refine lv_aload_n hx hb dX12_addRow_17 rfl (lv_at hl 0 rfl) ?_
  refine x_getI E h (fi_mo_rows g) rfl hwX12 (by decide) (by decide +kernel) (v := 3) fI_31 dX12_addRow_18 ?_
  refine lv_imul hx hb dX12_addRow_21 ?_
  refine x_topI (v2 := 12) (by decide) ?_
  refine lv_iconst (v := 1) hx hb dX12_addRow_22 (by decide) ?_
  refine lv_iadd hx hb dX12_addRow_23 ?_
  refine x_topI (v2 := 13) (by decide) ?_
  refine lv_iload_n hx hb dX12_addRow_24 rfl (lv_at hl 2 rfl) ?_
  refine x_stI E h (ia_mo_number g) (i := 13) (by unfold vp_in; decide) (j := (13)) rfl rfl dX12_addRow_25 (fun H locs h => ?_)
  refine lv_aload_n hx hb dX12_addRow_26 rfl (lv_at hl 0 rfl) ?_
  refine x_getR E h (fr_mo_number g) rfl hwX12 (by decide) (by decide +kernel) dX12_addRow_27 ?_
  refine lv_iconst (v := 4) hx hb dX12_addRow_30 (by decide) ?_
  refine lv_aload_n hx hb dX12_addRow_31 rfl (lv_at hl 0 rfl) ?_
  refine x_getI E h (fi_mo_rows g) rfl hwX12 (by decide) (by decide +kernel) (v := 3) fI_31 dX12_addRow_32 ?_
  refine lv_imul hx hb dX12_addRow_35 ?_
  refine x_topI (v2 := 12) (by decide) ?_
  refine lv_iconst (v := 2) hx hb dX12_addRow_36 (by decide) ?_
  refine lv_iadd hx hb dX12_addRow_37 ?_
  refine x_topI (v2 := 14) (by decide) ?_
  refine lv_iload_n hx hb dX12_addRow_38 rfl (lv_at hl 3 rfl) ?_
  refine x_stI E h (ia_mo_number g) (i := 14) (by unfold vp_in; decide) (j := (14)) rfl rfl dX12_addRow_39 (fun H locs h => ?_)
  refine lv_aload_n hx hb dX12_addRow_40 rfl (lv_at hl 0 rfl) ?_
  refine x_getR E h (fr_mo_number g) rfl hwX12 (by decide) (by decide +kernel) dX12_addRow_41 ?_
  refine lv_iconst (v := 4) hx hb dX12_addRow_44 (by decide) ?_
  refine lv_aload_n hx hb dX12_addRow_45 rfl (lv_at hl 0 rfl) ?_
  refine x_getI E h (fi_mo_rows g) rfl hwX12 (by decide) (by decide +kernel) (v := 3) fI_31 dX12_addRow_46 ?_
  refine lv_imul hx hb dX12_addRow_49 ?_
  refine x_topI (v2 := 12) (by decide) ?_
  refine lv_iconst (v := 3) hx hb dX12_addRow_50 (by decide) ?_
  refine lv_iadd hx hb dX12_addRow_51 ?_
  refine x_topI (v2 := 15) (by decide) ?_
  refine lv_iload hx hb dX12_addRow_52 (lv_at hl 4 rfl) ?_
  refine x_stI E h (ia_mo_number g) (i := 15) (by unfold vp_in; decide) (j := (15)) rfl rfl dX12_addRow_54 (fun H locs h => ?_)
  refine lv_aload_n hx hb dX12_addRow_55 rfl (lv_at hl 0 rfl) ?_
  refine x_getR E h (fr_mo_isDeaf g) rfl hwX12 (by decide) (by decide +kernel) dX12_addRow_56 ?_
  refine lv_aload_n hx hb dX12_addRow_59 rfl (lv_at hl 0 rfl) ?_
  refine x_getI E h (fi_mo_rows g) rfl hwX12 (by decide) (by decide +kernel) (v := 3) fI_31 dX12_addRow_60 ?_
  refine lv_iload hx hb dX12_addRow_63 (lv_at hl 5 rfl) ?_
  refine x_stZ E h (ia_mo_isDeaf g) (i := 3) (by unfold vp_in; decide) (j := (3)) rfl rfl dX12_addRow_65 (fun H locs h => ?_)
  refine lv_aload_n hx hb dX12_addRow_66 rfl (lv_at hl 0 rfl) ?_
  refine x_getR E h (fr_mo_isOut g) rfl hwX12 (by decide) (by decide +kernel) dX12_addRow_67 ?_
  refine lv_aload_n hx hb dX12_addRow_70 rfl (lv_at hl 0 rfl) ?_
  refine x_getI E h (fi_mo_rows g) rfl hwX12 (by decide) (by decide +kernel) (v := 3) fI_31 dX12_addRow_71 ?_
  refine lv_iconst (v := 0) hx hb dX12_addRow_74 (by decide) ?_
  refine x_stZ E h (ia_mo_isOut g) (i := 3) (by unfold vp_in; decide) (j := (3)) rfl rfl dX12_addRow_75 (fun H locs h => ?_)
  refine lv_aload_n hx hb dX12_addRow_76 rfl (lv_at hl 0 rfl) ?_
  refine x_getR E h (fr_mo_truth g) rfl hwX12 (by decide) (by decide +kernel) dX12_addRow_77 ?_
  refine lv_aload_n hx hb dX12_addRow_80 rfl (lv_at hl 0 rfl) ?_
  refine x_getI E h (fi_mo_rows g) rfl hwX12 (by decide) (by decide +kernel) (v := 3) fI_31 dX12_addRow_81 ?_
  refine lv_iconst (v := 0) hx hb dX12_addRow_84 (by decide) ?_
  refine x_stI E h (ia_mo_truth g) (i := 3) (by unfold vp_in; decide) (j := (3)) rfl rfl dX12_addRow_85 (fun H locs h => ?_)
  refine lv_aload_n hx hb dX12_addRow_86 rfl (lv_at hl 0 rfl) ?_
  refine lv_dup hx hb dX12_addRow_87 rfl ?_
  refine x_getI E h (fi_mo_rows g) rfl hwX12 (by decide) (by decide +kernel) (v := 3) fI_31 dX12_addRow_88 ?_
  refine lv_iconst (v := 1) hx hb dX12_addRow_91 (by decide) ?_
  refine lv_iadd hx hb dX12_addRow_92 ?_
  refine x_topI (v2 := 4) (by decide) ?_
  refine x_putI E h (ty := .int) (v := 4) (fi_mo_rows g) rfl hwX12 tyX12_ok nmX12 (by decide) (by decide +kernel) (by decide +kernel) (by decide +kernel) rfl rfl dX12_addRow_93 (fun H locs h => ?_)
  exact x_vret E h rfl dX12_addRow_96
set_option maxHeartbeats 4000000 in
set_option maxRecDepth 100000 in
theorem kX12_addRow_5 (l : Launch) (g : CX) (σ : ST) (fI_31 : σ.1 31 = 4) : XM l g yX12_addRow wsX12_addRow { frames := 0, cells := 0, slots := 0, locals := 0 } [.ref (g.2.1 79), .int 0, .int 0, .int 0, .int 0, .int 1] σ (XQv g (fun σ' => ((sI (sA (sA (sA (sA (sA (sA (sA σ 68 (upd (σ.2.2 68) 16 0)) 68 (upd (upd (σ.2.2 68) 16 0) 17 0)) 68 (upd (upd (upd (σ.2.2 68) 16 0) 17 0) 18 0)) 68 (upd (upd (upd (upd (σ.2.2 68) 16 0) 17 0) 18 0) 19 0)) 69 (upd (σ.2.2 69) 4 (vp_nar .boolean 1))) 70 (upd (σ.2.2 70) 4 (vp_nar .boolean 0))) 71 (upd (σ.2.2 71) 4 0)) 31 5) = σ'))) := by
  refine x_met (own := RX12) (cc := cX12_addRow) (maxL := 6) (ret := none) (lv := [(0, .ref (g.2.1 79)), (1, .int 0), (2, .int 0), (3, .int 0), (4, .int 0), (5, .int 1)]) (by decide) rfl rfl (Nat.le_of_ble_eq_true rfl) rfl ?_
  intro p e s m args below meth c ls E h hl
  have hx := E.1
  have hb := E.2.1
  have hown := E.2.2.2.1
  have hts := E.2.2.2.2.1
  have hwX12 : ∀ w ∈ wsX120, w ∈ wsX12_addRow := by decide +kernel
  refine lv_aload_n hx hb dX12_addRow_0 rfl (lv_at hl 0 rfl) ?_
  refine x_getR E h (fr_mo_number g) rfl hwX12 (by decide) (by decide +kernel) dX12_addRow_1 ?_
  refine lv_iconst (v := 4) hx hb dX12_addRow_4 (by decide) ?_
  refine lv_aload_n hx hb dX12_addRow_5 rfl (lv_at hl 0 rfl) ?_
  refine x_getI E h (fi_mo_rows g) rfl hwX12 (by decide) (by decide +kernel) (v := 4) fI_31 dX12_addRow_6 ?_
  refine lv_imul hx hb dX12_addRow_9 ?_
  refine x_topI (v2 := 16) (by decide) ?_
  refine lv_iload_n hx hb dX12_addRow_10 rfl (lv_at hl 1 rfl) ?_
  refine x_stI E h (ia_mo_number g) (i := 16) (by unfold vp_in; decide) (j := (16)) rfl rfl dX12_addRow_11 (fun H locs h => ?_)
  refine lv_aload_n hx hb dX12_addRow_12 rfl (lv_at hl 0 rfl) ?_
  refine x_getR E h (fr_mo_number g) rfl hwX12 (by decide) (by decide +kernel) dX12_addRow_13 ?_
  refine lv_iconst (v := 4) hx hb dX12_addRow_16 (by decide) ?_
  refine lv_aload_n hx hb dX12_addRow_17 rfl (lv_at hl 0 rfl) ?_
  refine x_getI E h (fi_mo_rows g) rfl hwX12 (by decide) (by decide +kernel) (v := 4) fI_31 dX12_addRow_18 ?_
  refine lv_imul hx hb dX12_addRow_21 ?_
  refine x_topI (v2 := 16) (by decide) ?_
  refine lv_iconst (v := 1) hx hb dX12_addRow_22 (by decide) ?_
  refine lv_iadd hx hb dX12_addRow_23 ?_
  refine x_topI (v2 := 17) (by decide) ?_
  refine lv_iload_n hx hb dX12_addRow_24 rfl (lv_at hl 2 rfl) ?_
  refine x_stI E h (ia_mo_number g) (i := 17) (by unfold vp_in; decide) (j := (17)) rfl rfl dX12_addRow_25 (fun H locs h => ?_)
  refine lv_aload_n hx hb dX12_addRow_26 rfl (lv_at hl 0 rfl) ?_
  refine x_getR E h (fr_mo_number g) rfl hwX12 (by decide) (by decide +kernel) dX12_addRow_27 ?_
  refine lv_iconst (v := 4) hx hb dX12_addRow_30 (by decide) ?_
  refine lv_aload_n hx hb dX12_addRow_31 rfl (lv_at hl 0 rfl) ?_
  refine x_getI E h (fi_mo_rows g) rfl hwX12 (by decide) (by decide +kernel) (v := 4) fI_31 dX12_addRow_32 ?_
  refine lv_imul hx hb dX12_addRow_35 ?_
  refine x_topI (v2 := 16) (by decide) ?_
  refine lv_iconst (v := 2) hx hb dX12_addRow_36 (by decide) ?_
  refine lv_iadd hx hb dX12_addRow_37 ?_
  refine x_topI (v2 := 18) (by decide) ?_
  refine lv_iload_n hx hb dX12_addRow_38 rfl (lv_at hl 3 rfl) ?_
  refine x_stI E h (ia_mo_number g) (i := 18) (by unfold vp_in; decide) (j := (18)) rfl rfl dX12_addRow_39 (fun H locs h => ?_)
  refine lv_aload_n hx hb dX12_addRow_40 rfl (lv_at hl 0 rfl) ?_
  refine x_getR E h (fr_mo_number g) rfl hwX12 (by decide) (by decide +kernel) dX12_addRow_41 ?_
  refine lv_iconst (v := 4) hx hb dX12_addRow_44 (by decide) ?_
  refine lv_aload_n hx hb dX12_addRow_45 rfl (lv_at hl 0 rfl) ?_
  refine x_getI E h (fi_mo_rows g) rfl hwX12 (by decide) (by decide +kernel) (v := 4) fI_31 dX12_addRow_46 ?_
  refine lv_imul hx hb dX12_addRow_49 ?_
  refine x_topI (v2 := 16) (by decide) ?_
  refine lv_iconst (v := 3) hx hb dX12_addRow_50 (by decide) ?_
  refine lv_iadd hx hb dX12_addRow_51 ?_
  refine x_topI (v2 := 19) (by decide) ?_
  refine lv_iload hx hb dX12_addRow_52 (lv_at hl 4 rfl) ?_
  refine x_stI E h (ia_mo_number g) (i := 19) (by unfold vp_in; decide) (j := (19)) rfl rfl dX12_addRow_54 (fun H locs h => ?_)
  refine lv_aload_n hx hb dX12_addRow_55 rfl (lv_at hl 0 rfl) ?_
  refine x_getR E h (fr_mo_isDeaf g) rfl hwX12 (by decide) (by decide +kernel) dX12_addRow_56 ?_
  refine lv_aload_n hx hb dX12_addRow_59 rfl (lv_at hl 0 rfl) ?_
  refine x_getI E h (fi_mo_rows g) rfl hwX12 (by decide) (by decide +kernel) (v := 4) fI_31 dX12_addRow_60 ?_
  refine lv_iload hx hb dX12_addRow_63 (lv_at hl 5 rfl) ?_
  refine x_stZ E h (ia_mo_isDeaf g) (i := 4) (by unfold vp_in; decide) (j := (4)) rfl rfl dX12_addRow_65 (fun H locs h => ?_)
  refine lv_aload_n hx hb dX12_addRow_66 rfl (lv_at hl 0 rfl) ?_
  refine x_getR E h (fr_mo_isOut g) rfl hwX12 (by decide) (by decide +kernel) dX12_addRow_67 ?_
  refine lv_aload_n hx hb dX12_addRow_70 rfl (lv_at hl 0 rfl) ?_
  refine x_getI E h (fi_mo_rows g) rfl hwX12 (by decide) (by decide +kernel) (v := 4) fI_31 dX12_addRow_71 ?_
  refine lv_iconst (v := 0) hx hb dX12_addRow_74 (by decide) ?_
  refine x_stZ E h (ia_mo_isOut g) (i := 4) (by unfold vp_in; decide) (j := (4)) rfl rfl dX12_addRow_75 (fun H locs h => ?_)
  refine lv_aload_n hx hb dX12_addRow_76 rfl (lv_at hl 0 rfl) ?_
  refine x_getR E h (fr_mo_truth g) rfl hwX12 (by decide) (by decide +kernel) dX12_addRow_77 ?_
  refine lv_aload_n hx hb dX12_addRow_80 rfl (lv_at hl 0 rfl) ?_
  refine x_getI E h (fi_mo_rows g) rfl hwX12 (by decide) (by decide +kernel) (v := 4) fI_31 dX12_addRow_81 ?_
  refine lv_iconst (v := 0) hx hb dX12_addRow_84 (by decide) ?_
  refine x_stI E h (ia_mo_truth g) (i := 4) (by unfold vp_in; decide) (j := (4)) rfl rfl dX12_addRow_85 (fun H locs h => ?_)
  refine lv_aload_n hx hb dX12_addRow_86 rfl (lv_at hl 0 rfl) ?_
  refine lv_dup hx hb dX12_addRow_87 rfl ?_
  refine x_getI E h (fi_mo_rows g) rfl hwX12 (by decide) (by decide +kernel) (v := 4) fI_31 dX12_addRow_88 ?_
  refine lv_iconst (v := 1) hx hb dX12_addRow_91 (by decide) ?_
  refine lv_iadd hx hb dX12_addRow_92 ?_
  refine x_topI (v2 := 5) (by decide) ?_
  refine x_putI E h (ty := .int) (v := 5) (fi_mo_rows g) rfl hwX12 tyX12_ok nmX12 (by decide) (by decide +kernel) (by decide +kernel) (by decide +kernel) rfl rfl dX12_addRow_93 (fun H locs h => ?_)
  exact x_vret E h rfl dX12_addRow_96
set_option maxHeartbeats 4000000 in
set_option maxRecDepth 100000 in
theorem kX12_addRow_6 (l : Launch) (g : CX) (σ : ST) (fI_31 : σ.1 31 = 5) : XM l g yX12_addRow wsX12_addRow { frames := 0, cells := 0, slots := 0, locals := 0 } [.ref (g.2.1 79), .int 0, .int 0, .int 0, .int 0, .int 1] σ (XQv g (fun σ' => ((sI (sA (sA (sA (sA (sA (sA (sA σ 68 (upd (σ.2.2 68) 20 0)) 68 (upd (upd (σ.2.2 68) 20 0) 21 0)) 68 (upd (upd (upd (σ.2.2 68) 20 0) 21 0) 22 0)) 68 (upd (upd (upd (upd (σ.2.2 68) 20 0) 21 0) 22 0) 23 0)) 69 (upd (σ.2.2 69) 5 (vp_nar .boolean 1))) 70 (upd (σ.2.2 70) 5 (vp_nar .boolean 0))) 71 (upd (σ.2.2 71) 5 0)) 31 6) = σ'))) := by
  refine x_met (own := RX12) (cc := cX12_addRow) (maxL := 6) (ret := none) (lv := [(0, .ref (g.2.1 79)), (1, .int 0), (2, .int 0), (3, .int 0), (4, .int 0), (5, .int 1)]) (by decide) rfl rfl (Nat.le_of_ble_eq_true rfl) rfl ?_
  intro p e s m args below meth c ls E h hl
  have hx := E.1
  have hb := E.2.1
  have hown := E.2.2.2.1
  have hts := E.2.2.2.2.1
  have hwX12 : ∀ w ∈ wsX120, w ∈ wsX12_addRow := by decide +kernel
  refine lv_aload_n hx hb dX12_addRow_0 rfl (lv_at hl 0 rfl) ?_
  refine x_getR E h (fr_mo_number g) rfl hwX12 (by decide) (by decide +kernel) dX12_addRow_1 ?_
  refine lv_iconst (v := 4) hx hb dX12_addRow_4 (by decide) ?_
  refine lv_aload_n hx hb dX12_addRow_5 rfl (lv_at hl 0 rfl) ?_
  refine x_getI E h (fi_mo_rows g) rfl hwX12 (by decide) (by decide +kernel) (v := 5) fI_31 dX12_addRow_6 ?_
  refine lv_imul hx hb dX12_addRow_9 ?_
  refine x_topI (v2 := 20) (by decide) ?_
  refine lv_iload_n hx hb dX12_addRow_10 rfl (lv_at hl 1 rfl) ?_
  refine x_stI E h (ia_mo_number g) (i := 20) (by unfold vp_in; decide) (j := (20)) rfl rfl dX12_addRow_11 (fun H locs h => ?_)
  refine lv_aload_n hx hb dX12_addRow_12 rfl (lv_at hl 0 rfl) ?_
  refine x_getR E h (fr_mo_number g) rfl hwX12 (by decide) (by decide +kernel) dX12_addRow_13 ?_
  refine lv_iconst (v := 4) hx hb dX12_addRow_16 (by decide) ?_
  refine lv_aload_n hx hb dX12_addRow_17 rfl (lv_at hl 0 rfl) ?_
  refine x_getI E h (fi_mo_rows g) rfl hwX12 (by decide) (by decide +kernel) (v := 5) fI_31 dX12_addRow_18 ?_
  refine lv_imul hx hb dX12_addRow_21 ?_
  refine x_topI (v2 := 20) (by decide) ?_
  refine lv_iconst (v := 1) hx hb dX12_addRow_22 (by decide) ?_
  refine lv_iadd hx hb dX12_addRow_23 ?_
  refine x_topI (v2 := 21) (by decide) ?_
  refine lv_iload_n hx hb dX12_addRow_24 rfl (lv_at hl 2 rfl) ?_
  refine x_stI E h (ia_mo_number g) (i := 21) (by unfold vp_in; decide) (j := (21)) rfl rfl dX12_addRow_25 (fun H locs h => ?_)
  refine lv_aload_n hx hb dX12_addRow_26 rfl (lv_at hl 0 rfl) ?_
  refine x_getR E h (fr_mo_number g) rfl hwX12 (by decide) (by decide +kernel) dX12_addRow_27 ?_
  refine lv_iconst (v := 4) hx hb dX12_addRow_30 (by decide) ?_
  refine lv_aload_n hx hb dX12_addRow_31 rfl (lv_at hl 0 rfl) ?_
  refine x_getI E h (fi_mo_rows g) rfl hwX12 (by decide) (by decide +kernel) (v := 5) fI_31 dX12_addRow_32 ?_
  refine lv_imul hx hb dX12_addRow_35 ?_
  refine x_topI (v2 := 20) (by decide) ?_
  refine lv_iconst (v := 2) hx hb dX12_addRow_36 (by decide) ?_
  refine lv_iadd hx hb dX12_addRow_37 ?_
  refine x_topI (v2 := 22) (by decide) ?_
  refine lv_iload_n hx hb dX12_addRow_38 rfl (lv_at hl 3 rfl) ?_
  refine x_stI E h (ia_mo_number g) (i := 22) (by unfold vp_in; decide) (j := (22)) rfl rfl dX12_addRow_39 (fun H locs h => ?_)
  refine lv_aload_n hx hb dX12_addRow_40 rfl (lv_at hl 0 rfl) ?_
  refine x_getR E h (fr_mo_number g) rfl hwX12 (by decide) (by decide +kernel) dX12_addRow_41 ?_
  refine lv_iconst (v := 4) hx hb dX12_addRow_44 (by decide) ?_
  refine lv_aload_n hx hb dX12_addRow_45 rfl (lv_at hl 0 rfl) ?_
  refine x_getI E h (fi_mo_rows g) rfl hwX12 (by decide) (by decide +kernel) (v := 5) fI_31 dX12_addRow_46 ?_
  refine lv_imul hx hb dX12_addRow_49 ?_
  refine x_topI (v2 := 20) (by decide) ?_
  refine lv_iconst (v := 3) hx hb dX12_addRow_50 (by decide) ?_
  refine lv_iadd hx hb dX12_addRow_51 ?_
  refine x_topI (v2 := 23) (by decide) ?_
  refine lv_iload hx hb dX12_addRow_52 (lv_at hl 4 rfl) ?_
  refine x_stI E h (ia_mo_number g) (i := 23) (by unfold vp_in; decide) (j := (23)) rfl rfl dX12_addRow_54 (fun H locs h => ?_)
  refine lv_aload_n hx hb dX12_addRow_55 rfl (lv_at hl 0 rfl) ?_
  refine x_getR E h (fr_mo_isDeaf g) rfl hwX12 (by decide) (by decide +kernel) dX12_addRow_56 ?_
  refine lv_aload_n hx hb dX12_addRow_59 rfl (lv_at hl 0 rfl) ?_
  refine x_getI E h (fi_mo_rows g) rfl hwX12 (by decide) (by decide +kernel) (v := 5) fI_31 dX12_addRow_60 ?_
  refine lv_iload hx hb dX12_addRow_63 (lv_at hl 5 rfl) ?_
  refine x_stZ E h (ia_mo_isDeaf g) (i := 5) (by unfold vp_in; decide) (j := (5)) rfl rfl dX12_addRow_65 (fun H locs h => ?_)
  refine lv_aload_n hx hb dX12_addRow_66 rfl (lv_at hl 0 rfl) ?_
  refine x_getR E h (fr_mo_isOut g) rfl hwX12 (by decide) (by decide +kernel) dX12_addRow_67 ?_
  refine lv_aload_n hx hb dX12_addRow_70 rfl (lv_at hl 0 rfl) ?_
  refine x_getI E h (fi_mo_rows g) rfl hwX12 (by decide) (by decide +kernel) (v := 5) fI_31 dX12_addRow_71 ?_
  refine lv_iconst (v := 0) hx hb dX12_addRow_74 (by decide) ?_
  refine x_stZ E h (ia_mo_isOut g) (i := 5) (by unfold vp_in; decide) (j := (5)) rfl rfl dX12_addRow_75 (fun H locs h => ?_)
  refine lv_aload_n hx hb dX12_addRow_76 rfl (lv_at hl 0 rfl) ?_
  refine x_getR E h (fr_mo_truth g) rfl hwX12 (by decide) (by decide +kernel) dX12_addRow_77 ?_
  refine lv_aload_n hx hb dX12_addRow_80 rfl (lv_at hl 0 rfl) ?_
  refine x_getI E h (fi_mo_rows g) rfl hwX12 (by decide) (by decide +kernel) (v := 5) fI_31 dX12_addRow_81 ?_
  refine lv_iconst (v := 0) hx hb dX12_addRow_84 (by decide) ?_
  refine x_stI E h (ia_mo_truth g) (i := 5) (by unfold vp_in; decide) (j := (5)) rfl rfl dX12_addRow_85 (fun H locs h => ?_)
  refine lv_aload_n hx hb dX12_addRow_86 rfl (lv_at hl 0 rfl) ?_
  refine lv_dup hx hb dX12_addRow_87 rfl ?_
  refine x_getI E h (fi_mo_rows g) rfl hwX12 (by decide) (by decide +kernel) (v := 5) fI_31 dX12_addRow_88 ?_
  refine lv_iconst (v := 1) hx hb dX12_addRow_91 (by decide) ?_
  refine lv_iadd hx hb dX12_addRow_92 ?_
  refine x_topI (v2 := 6) (by decide) ?_
  refine x_putI E h (ty := .int) (v := 6) (fi_mo_rows g) rfl hwX12 tyX12_ok nmX12 (by decide) (by decide +kernel) (by decide +kernel) (by decide +kernel) rfl rfl dX12_addRow_93 (fun H locs h => ?_)
  exact x_vret E h rfl dX12_addRow_96
set_option maxHeartbeats 4000000 in
set_option maxRecDepth 100000 in
theorem kX12_addRow_7 (l : Launch) (g : CX) (σ : ST) (fI_31 : σ.1 31 = 6) : XM l g yX12_addRow wsX12_addRow { frames := 0, cells := 0, slots := 0, locals := 0 } [.ref (g.2.1 79), .int 0, .int 0, .int 0, .int 0, .int 1] σ (XQv g (fun σ' => ((sI (sA (sA (sA (sA (sA (sA (sA σ 68 (upd (σ.2.2 68) 24 0)) 68 (upd (upd (σ.2.2 68) 24 0) 25 0)) 68 (upd (upd (upd (σ.2.2 68) 24 0) 25 0) 26 0)) 68 (upd (upd (upd (upd (σ.2.2 68) 24 0) 25 0) 26 0) 27 0)) 69 (upd (σ.2.2 69) 6 (vp_nar .boolean 1))) 70 (upd (σ.2.2 70) 6 (vp_nar .boolean 0))) 71 (upd (σ.2.2 71) 6 0)) 31 7) = σ'))) := by
  refine x_met (own := RX12) (cc := cX12_addRow) (maxL := 6) (ret := none) (lv := [(0, .ref (g.2.1 79)), (1, .int 0), (2, .int 0), (3, .int 0), (4, .int 0), (5, .int 1)]) (by decide) rfl rfl (Nat.le_of_ble_eq_true rfl) rfl ?_
  intro p e s m args below meth c ls E h hl
  have hx := E.1
  have hb := E.2.1
  have hown := E.2.2.2.1
  have hts := E.2.2.2.2.1
  have hwX12 : ∀ w ∈ wsX120, w ∈ wsX12_addRow := by decide +kernel
  refine lv_aload_n hx hb dX12_addRow_0 rfl (lv_at hl 0 rfl) ?_
  refine x_getR E h (fr_mo_number g) rfl hwX12 (by decide) (by decide +kernel) dX12_addRow_1 ?_
  refine lv_iconst (v := 4) hx hb dX12_addRow_4 (by decide) ?_
  refine lv_aload_n hx hb dX12_addRow_5 rfl (lv_at hl 0 rfl) ?_
  refine x_getI E h (fi_mo_rows g) rfl hwX12 (by decide) (by decide +kernel) (v := 6) fI_31 dX12_addRow_6 ?_
  refine lv_imul hx hb dX12_addRow_9 ?_
  refine x_topI (v2 := 24) (by decide) ?_
  refine lv_iload_n hx hb dX12_addRow_10 rfl (lv_at hl 1 rfl) ?_
  refine x_stI E h (ia_mo_number g) (i := 24) (by unfold vp_in; decide) (j := (24)) rfl rfl dX12_addRow_11 (fun H locs h => ?_)
  refine lv_aload_n hx hb dX12_addRow_12 rfl (lv_at hl 0 rfl) ?_
  refine x_getR E h (fr_mo_number g) rfl hwX12 (by decide) (by decide +kernel) dX12_addRow_13 ?_
  refine lv_iconst (v := 4) hx hb dX12_addRow_16 (by decide) ?_
  refine lv_aload_n hx hb dX12_addRow_17 rfl (lv_at hl 0 rfl) ?_
  refine x_getI E h (fi_mo_rows g) rfl hwX12 (by decide) (by decide +kernel) (v := 6) fI_31 dX12_addRow_18 ?_
  refine lv_imul hx hb dX12_addRow_21 ?_
  refine x_topI (v2 := 24) (by decide) ?_
  refine lv_iconst (v := 1) hx hb dX12_addRow_22 (by decide) ?_
  refine lv_iadd hx hb dX12_addRow_23 ?_
  refine x_topI (v2 := 25) (by decide) ?_
  refine lv_iload_n hx hb dX12_addRow_24 rfl (lv_at hl 2 rfl) ?_
  refine x_stI E h (ia_mo_number g) (i := 25) (by unfold vp_in; decide) (j := (25)) rfl rfl dX12_addRow_25 (fun H locs h => ?_)
  refine lv_aload_n hx hb dX12_addRow_26 rfl (lv_at hl 0 rfl) ?_
  refine x_getR E h (fr_mo_number g) rfl hwX12 (by decide) (by decide +kernel) dX12_addRow_27 ?_
  refine lv_iconst (v := 4) hx hb dX12_addRow_30 (by decide) ?_
  refine lv_aload_n hx hb dX12_addRow_31 rfl (lv_at hl 0 rfl) ?_
  refine x_getI E h (fi_mo_rows g) rfl hwX12 (by decide) (by decide +kernel) (v := 6) fI_31 dX12_addRow_32 ?_
  refine lv_imul hx hb dX12_addRow_35 ?_
  refine x_topI (v2 := 24) (by decide) ?_
  refine lv_iconst (v := 2) hx hb dX12_addRow_36 (by decide) ?_
  refine lv_iadd hx hb dX12_addRow_37 ?_
  refine x_topI (v2 := 26) (by decide) ?_
  refine lv_iload_n hx hb dX12_addRow_38 rfl (lv_at hl 3 rfl) ?_
  refine x_stI E h (ia_mo_number g) (i := 26) (by unfold vp_in; decide) (j := (26)) rfl rfl dX12_addRow_39 (fun H locs h => ?_)
  refine lv_aload_n hx hb dX12_addRow_40 rfl (lv_at hl 0 rfl) ?_
  refine x_getR E h (fr_mo_number g) rfl hwX12 (by decide) (by decide +kernel) dX12_addRow_41 ?_
  refine lv_iconst (v := 4) hx hb dX12_addRow_44 (by decide) ?_
  refine lv_aload_n hx hb dX12_addRow_45 rfl (lv_at hl 0 rfl) ?_
  refine x_getI E h (fi_mo_rows g) rfl hwX12 (by decide) (by decide +kernel) (v := 6) fI_31 dX12_addRow_46 ?_
  refine lv_imul hx hb dX12_addRow_49 ?_
  refine x_topI (v2 := 24) (by decide) ?_
  refine lv_iconst (v := 3) hx hb dX12_addRow_50 (by decide) ?_
  refine lv_iadd hx hb dX12_addRow_51 ?_
  refine x_topI (v2 := 27) (by decide) ?_
  refine lv_iload hx hb dX12_addRow_52 (lv_at hl 4 rfl) ?_
  refine x_stI E h (ia_mo_number g) (i := 27) (by unfold vp_in; decide) (j := (27)) rfl rfl dX12_addRow_54 (fun H locs h => ?_)
  refine lv_aload_n hx hb dX12_addRow_55 rfl (lv_at hl 0 rfl) ?_
  refine x_getR E h (fr_mo_isDeaf g) rfl hwX12 (by decide) (by decide +kernel) dX12_addRow_56 ?_
  refine lv_aload_n hx hb dX12_addRow_59 rfl (lv_at hl 0 rfl) ?_
  refine x_getI E h (fi_mo_rows g) rfl hwX12 (by decide) (by decide +kernel) (v := 6) fI_31 dX12_addRow_60 ?_
  refine lv_iload hx hb dX12_addRow_63 (lv_at hl 5 rfl) ?_
  refine x_stZ E h (ia_mo_isDeaf g) (i := 6) (by unfold vp_in; decide) (j := (6)) rfl rfl dX12_addRow_65 (fun H locs h => ?_)
  refine lv_aload_n hx hb dX12_addRow_66 rfl (lv_at hl 0 rfl) ?_
  refine x_getR E h (fr_mo_isOut g) rfl hwX12 (by decide) (by decide +kernel) dX12_addRow_67 ?_
  refine lv_aload_n hx hb dX12_addRow_70 rfl (lv_at hl 0 rfl) ?_
  refine x_getI E h (fi_mo_rows g) rfl hwX12 (by decide) (by decide +kernel) (v := 6) fI_31 dX12_addRow_71 ?_
  refine lv_iconst (v := 0) hx hb dX12_addRow_74 (by decide) ?_
  refine x_stZ E h (ia_mo_isOut g) (i := 6) (by unfold vp_in; decide) (j := (6)) rfl rfl dX12_addRow_75 (fun H locs h => ?_)
  refine lv_aload_n hx hb dX12_addRow_76 rfl (lv_at hl 0 rfl) ?_
  refine x_getR E h (fr_mo_truth g) rfl hwX12 (by decide) (by decide +kernel) dX12_addRow_77 ?_
  refine lv_aload_n hx hb dX12_addRow_80 rfl (lv_at hl 0 rfl) ?_
  refine x_getI E h (fi_mo_rows g) rfl hwX12 (by decide) (by decide +kernel) (v := 6) fI_31 dX12_addRow_81 ?_
  refine lv_iconst (v := 0) hx hb dX12_addRow_84 (by decide) ?_
  refine x_stI E h (ia_mo_truth g) (i := 6) (by unfold vp_in; decide) (j := (6)) rfl rfl dX12_addRow_85 (fun H locs h => ?_)
  refine lv_aload_n hx hb dX12_addRow_86 rfl (lv_at hl 0 rfl) ?_
  refine lv_dup hx hb dX12_addRow_87 rfl ?_
  refine x_getI E h (fi_mo_rows g) rfl hwX12 (by decide) (by decide +kernel) (v := 6) fI_31 dX12_addRow_88 ?_
  refine lv_iconst (v := 1) hx hb dX12_addRow_91 (by decide) ?_
  refine lv_iadd hx hb dX12_addRow_92 ?_
  refine x_topI (v2 := 7) (by decide) ?_
  refine x_putI E h (ty := .int) (v := 7) (fi_mo_rows g) rfl hwX12 tyX12_ok nmX12 (by decide) (by decide +kernel) (by decide +kernel) (by decide +kernel) rfl rfl dX12_addRow_93 (fun H locs h => ?_)
  exact x_vret E h rfl dX12_addRow_96
set_option maxHeartbeats 4000000 in
set_option maxRecDepth 100000 in
theorem kX12_addRow_8 (l : Launch) (g : CX) (σ : ST) (fI_31 : σ.1 31 = 7) : XM l g yX12_addRow wsX12_addRow { frames := 0, cells := 0, slots := 0, locals := 0 } [.ref (g.2.1 79), .int 0, .int 0, .int 0, .int 0, .int 1] σ (XQv g (fun σ' => ((sI (sA (sA (sA (sA (sA (sA (sA σ 68 (upd (σ.2.2 68) 28 0)) 68 (upd (upd (σ.2.2 68) 28 0) 29 0)) 68 (upd (upd (upd (σ.2.2 68) 28 0) 29 0) 30 0)) 68 (upd (upd (upd (upd (σ.2.2 68) 28 0) 29 0) 30 0) 31 0)) 69 (upd (σ.2.2 69) 7 (vp_nar .boolean 1))) 70 (upd (σ.2.2 70) 7 (vp_nar .boolean 0))) 71 (upd (σ.2.2 71) 7 0)) 31 8) = σ'))) := by
  refine x_met (own := RX12) (cc := cX12_addRow) (maxL := 6) (ret := none) (lv := [(0, .ref (g.2.1 79)), (1, .int 0), (2, .int 0), (3, .int 0), (4, .int 0), (5, .int 1)]) (by decide) rfl rfl (Nat.le_of_ble_eq_true rfl) rfl ?_
  intro p e s m args below meth c ls E h hl
  have hx := E.1
  have hb := E.2.1
  have hown := E.2.2.2.1
  have hts := E.2.2.2.2.1
  have hwX12 : ∀ w ∈ wsX120, w ∈ wsX12_addRow := by decide +kernel
  refine lv_aload_n hx hb dX12_addRow_0 rfl (lv_at hl 0 rfl) ?_
  refine x_getR E h (fr_mo_number g) rfl hwX12 (by decide) (by decide +kernel) dX12_addRow_1 ?_
  refine lv_iconst (v := 4) hx hb dX12_addRow_4 (by decide) ?_
  refine lv_aload_n hx hb dX12_addRow_5 rfl (lv_at hl 0 rfl) ?_
  refine x_getI E h (fi_mo_rows g) rfl hwX12 (by decide) (by decide +kernel) (v := 7) fI_31 dX12_addRow_6 ?_
  refine lv_imul hx hb dX12_addRow_9 ?_
  refine x_topI (v2 := 28) (by decide) ?_
  refine lv_iload_n hx hb dX12_addRow_10 rfl (lv_at hl 1 rfl) ?_
  refine x_stI E h (ia_mo_number g) (i := 28) (by unfold vp_in; decide) (j := (28)) rfl rfl dX12_addRow_11 (fun H locs h => ?_)
  refine lv_aload_n hx hb dX12_addRow_12 rfl (lv_at hl 0 rfl) ?_
  refine x_getR E h (fr_mo_number g) rfl hwX12 (by decide) (by decide +kernel) dX12_addRow_13 ?_
  refine lv_iconst (v := 4) hx hb dX12_addRow_16 (by decide) ?_
  refine lv_aload_n hx hb dX12_addRow_17 rfl (lv_at hl 0 rfl) ?_
  refine x_getI E h (fi_mo_rows g) rfl hwX12 (by decide) (by decide +kernel) (v := 7) fI_31 dX12_addRow_18 ?_
  refine lv_imul hx hb dX12_addRow_21 ?_
  refine x_topI (v2 := 28) (by decide) ?_
  refine lv_iconst (v := 1) hx hb dX12_addRow_22 (by decide) ?_
  refine lv_iadd hx hb dX12_addRow_23 ?_
  refine x_topI (v2 := 29) (by decide) ?_
  refine lv_iload_n hx hb dX12_addRow_24 rfl (lv_at hl 2 rfl) ?_
  refine x_stI E h (ia_mo_number g) (i := 29) (by unfold vp_in; decide) (j := (29)) rfl rfl dX12_addRow_25 (fun H locs h => ?_)
  refine lv_aload_n hx hb dX12_addRow_26 rfl (lv_at hl 0 rfl) ?_
  refine x_getR E h (fr_mo_number g) rfl hwX12 (by decide) (by decide +kernel) dX12_addRow_27 ?_
  refine lv_iconst (v := 4) hx hb dX12_addRow_30 (by decide) ?_
  refine lv_aload_n hx hb dX12_addRow_31 rfl (lv_at hl 0 rfl) ?_
  refine x_getI E h (fi_mo_rows g) rfl hwX12 (by decide) (by decide +kernel) (v := 7) fI_31 dX12_addRow_32 ?_
  refine lv_imul hx hb dX12_addRow_35 ?_
  refine x_topI (v2 := 28) (by decide) ?_
  refine lv_iconst (v := 2) hx hb dX12_addRow_36 (by decide) ?_
  refine lv_iadd hx hb dX12_addRow_37 ?_
  refine x_topI (v2 := 30) (by decide) ?_
  refine lv_iload_n hx hb dX12_addRow_38 rfl (lv_at hl 3 rfl) ?_
  refine x_stI E h (ia_mo_number g) (i := 30) (by unfold vp_in; decide) (j := (30)) rfl rfl dX12_addRow_39 (fun H locs h => ?_)
  refine lv_aload_n hx hb dX12_addRow_40 rfl (lv_at hl 0 rfl) ?_
  refine x_getR E h (fr_mo_number g) rfl hwX12 (by decide) (by decide +kernel) dX12_addRow_41 ?_
  refine lv_iconst (v := 4) hx hb dX12_addRow_44 (by decide) ?_
  refine lv_aload_n hx hb dX12_addRow_45 rfl (lv_at hl 0 rfl) ?_
  refine x_getI E h (fi_mo_rows g) rfl hwX12 (by decide) (by decide +kernel) (v := 7) fI_31 dX12_addRow_46 ?_
  refine lv_imul hx hb dX12_addRow_49 ?_
  refine x_topI (v2 := 28) (by decide) ?_
  refine lv_iconst (v := 3) hx hb dX12_addRow_50 (by decide) ?_
  refine lv_iadd hx hb dX12_addRow_51 ?_
  refine x_topI (v2 := 31) (by decide) ?_
  refine lv_iload hx hb dX12_addRow_52 (lv_at hl 4 rfl) ?_
  refine x_stI E h (ia_mo_number g) (i := 31) (by unfold vp_in; decide) (j := (31)) rfl rfl dX12_addRow_54 (fun H locs h => ?_)
  refine lv_aload_n hx hb dX12_addRow_55 rfl (lv_at hl 0 rfl) ?_
  refine x_getR E h (fr_mo_isDeaf g) rfl hwX12 (by decide) (by decide +kernel) dX12_addRow_56 ?_
  refine lv_aload_n hx hb dX12_addRow_59 rfl (lv_at hl 0 rfl) ?_
  refine x_getI E h (fi_mo_rows g) rfl hwX12 (by decide) (by decide +kernel) (v := 7) fI_31 dX12_addRow_60 ?_
  refine lv_iload hx hb dX12_addRow_63 (lv_at hl 5 rfl) ?_
  refine x_stZ E h (ia_mo_isDeaf g) (i := 7) (by unfold vp_in; decide) (j := (7)) rfl rfl dX12_addRow_65 (fun H locs h => ?_)
  refine lv_aload_n hx hb dX12_addRow_66 rfl (lv_at hl 0 rfl) ?_
  refine x_getR E h (fr_mo_isOut g) rfl hwX12 (by decide) (by decide +kernel) dX12_addRow_67 ?_
  refine lv_aload_n hx hb dX12_addRow_70 rfl (lv_at hl 0 rfl) ?_
  refine x_getI E h (fi_mo_rows g) rfl hwX12 (by decide) (by decide +kernel) (v := 7) fI_31 dX12_addRow_71 ?_
  refine lv_iconst (v := 0) hx hb dX12_addRow_74 (by decide) ?_
  refine x_stZ E h (ia_mo_isOut g) (i := 7) (by unfold vp_in; decide) (j := (7)) rfl rfl dX12_addRow_75 (fun H locs h => ?_)
  refine lv_aload_n hx hb dX12_addRow_76 rfl (lv_at hl 0 rfl) ?_
  refine x_getR E h (fr_mo_truth g) rfl hwX12 (by decide) (by decide +kernel) dX12_addRow_77 ?_
  refine lv_aload_n hx hb dX12_addRow_80 rfl (lv_at hl 0 rfl) ?_
  refine x_getI E h (fi_mo_rows g) rfl hwX12 (by decide) (by decide +kernel) (v := 7) fI_31 dX12_addRow_81 ?_
  refine lv_iconst (v := 0) hx hb dX12_addRow_84 (by decide) ?_
  refine x_stI E h (ia_mo_truth g) (i := 7) (by unfold vp_in; decide) (j := (7)) rfl rfl dX12_addRow_85 (fun H locs h => ?_)
  refine lv_aload_n hx hb dX12_addRow_86 rfl (lv_at hl 0 rfl) ?_
  refine lv_dup hx hb dX12_addRow_87 rfl ?_
  refine x_getI E h (fi_mo_rows g) rfl hwX12 (by decide) (by decide +kernel) (v := 7) fI_31 dX12_addRow_88 ?_
  refine lv_iconst (v := 1) hx hb dX12_addRow_91 (by decide) ?_
  refine lv_iadd hx hb dX12_addRow_92 ?_
  refine x_topI (v2 := 8) (by decide) ?_
  refine x_putI E h (ty := .int) (v := 8) (fi_mo_rows g) rfl hwX12 tyX12_ok nmX12 (by decide) (by decide +kernel) (by decide +kernel) (by decide +kernel) rfl rfl dX12_addRow_93 (fun H locs h => ?_)
  exact x_vret E h rfl dX12_addRow_96
set_option maxHeartbeats 4000000 in
set_option maxRecDepth 100000 in
theorem kX12_addRow_9 (l : Launch) (g : CX) (σ : ST) (fI_31 : σ.1 31 = 8) : XM l g yX12_addRow wsX12_addRow { frames := 0, cells := 0, slots := 0, locals := 0 } [.ref (g.2.1 79), .int 0, .int 0, .int 0, .int 0, .int 1] σ (XQv g (fun σ' => ((sI (sA (sA (sA (sA (sA (sA (sA σ 68 (upd (σ.2.2 68) 32 0)) 68 (upd (upd (σ.2.2 68) 32 0) 33 0)) 68 (upd (upd (upd (σ.2.2 68) 32 0) 33 0) 34 0)) 68 (upd (upd (upd (upd (σ.2.2 68) 32 0) 33 0) 34 0) 35 0)) 69 (upd (σ.2.2 69) 8 (vp_nar .boolean 1))) 70 (upd (σ.2.2 70) 8 (vp_nar .boolean 0))) 71 (upd (σ.2.2 71) 8 0)) 31 9) = σ'))) := by
  refine x_met (own := RX12) (cc := cX12_addRow) (maxL := 6) (ret := none) (lv := [(0, .ref (g.2.1 79)), (1, .int 0), (2, .int 0), (3, .int 0), (4, .int 0), (5, .int 1)]) (by decide) rfl rfl (Nat.le_of_ble_eq_true rfl) rfl ?_
  intro p e s m args below meth c ls E h hl
  have hx := E.1
  have hb := E.2.1
  have hown := E.2.2.2.1
  have hts := E.2.2.2.2.1
  have hwX12 : ∀ w ∈ wsX120, w ∈ wsX12_addRow := by decide +kernel
  refine lv_aload_n hx hb dX12_addRow_0 rfl (lv_at hl 0 rfl) ?_
  refine x_getR E h (fr_mo_number g) rfl hwX12 (by decide) (by decide +kernel) dX12_addRow_1 ?_
  refine lv_iconst (v := 4) hx hb dX12_addRow_4 (by decide) ?_
  refine lv_aload_n hx hb dX12_addRow_5 rfl (lv_at hl 0 rfl) ?_
  refine x_getI E h (fi_mo_rows g) rfl hwX12 (by decide) (by decide +kernel) (v := 8) fI_31 dX12_addRow_6 ?_
  refine lv_imul hx hb dX12_addRow_9 ?_
  refine x_topI (v2 := 32) (by decide) ?_
  refine lv_iload_n hx hb dX12_addRow_10 rfl (lv_at hl 1 rfl) ?_
  refine x_stI E h (ia_mo_number g) (i := 32) (by unfold vp_in; decide) (j := (32)) rfl rfl dX12_addRow_11 (fun H locs h => ?_)
  refine lv_aload_n hx hb dX12_addRow_12 rfl (lv_at hl 0 rfl) ?_
  refine x_getR E h (fr_mo_number g) rfl hwX12 (by decide) (by decide +kernel) dX12_addRow_13 ?_
  refine lv_iconst (v := 4) hx hb dX12_addRow_16 (by decide) ?_
  refine lv_aload_n hx hb dX12_addRow_17 rfl (lv_at hl 0 rfl) ?_
  refine x_getI E h (fi_mo_rows g) rfl hwX12 (by decide) (by decide +kernel) (v := 8) fI_31 dX12_addRow_18 ?_
  refine lv_imul hx hb dX12_addRow_21 ?_
  refine x_topI (v2 := 32) (by decide) ?_
  refine lv_iconst (v := 1) hx hb dX12_addRow_22 (by decide) ?_
  refine lv_iadd hx hb dX12_addRow_23 ?_
  refine x_topI (v2 := 33) (by decide) ?_
  refine lv_iload_n hx hb dX12_addRow_24 rfl (lv_at hl 2 rfl) ?_
  refine x_stI E h (ia_mo_number g) (i := 33) (by unfold vp_in; decide) (j := (33)) rfl rfl dX12_addRow_25 (fun H locs h => ?_)
  refine lv_aload_n hx hb dX12_addRow_26 rfl (lv_at hl 0 rfl) ?_
  refine x_getR E h (fr_mo_number g) rfl hwX12 (by decide) (by decide +kernel) dX12_addRow_27 ?_
  refine lv_iconst (v := 4) hx hb dX12_addRow_30 (by decide) ?_
  refine lv_aload_n hx hb dX12_addRow_31 rfl (lv_at hl 0 rfl) ?_
  refine x_getI E h (fi_mo_rows g) rfl hwX12 (by decide) (by decide +kernel) (v := 8) fI_31 dX12_addRow_32 ?_
  refine lv_imul hx hb dX12_addRow_35 ?_
  refine x_topI (v2 := 32) (by decide) ?_
  refine lv_iconst (v := 2) hx hb dX12_addRow_36 (by decide) ?_
  refine lv_iadd hx hb dX12_addRow_37 ?_
  refine x_topI (v2 := 34) (by decide) ?_
  refine lv_iload_n hx hb dX12_addRow_38 rfl (lv_at hl 3 rfl) ?_
  refine x_stI E h (ia_mo_number g) (i := 34) (by unfold vp_in; decide) (j := (34)) rfl rfl dX12_addRow_39 (fun H locs h => ?_)
  refine lv_aload_n hx hb dX12_addRow_40 rfl (lv_at hl 0 rfl) ?_
  refine x_getR E h (fr_mo_number g) rfl hwX12 (by decide) (by decide +kernel) dX12_addRow_41 ?_
  refine lv_iconst (v := 4) hx hb dX12_addRow_44 (by decide) ?_
  refine lv_aload_n hx hb dX12_addRow_45 rfl (lv_at hl 0 rfl) ?_
  refine x_getI E h (fi_mo_rows g) rfl hwX12 (by decide) (by decide +kernel) (v := 8) fI_31 dX12_addRow_46 ?_
  refine lv_imul hx hb dX12_addRow_49 ?_
  refine x_topI (v2 := 32) (by decide) ?_
  refine lv_iconst (v := 3) hx hb dX12_addRow_50 (by decide) ?_
  refine lv_iadd hx hb dX12_addRow_51 ?_
  refine x_topI (v2 := 35) (by decide) ?_
  refine lv_iload hx hb dX12_addRow_52 (lv_at hl 4 rfl) ?_
  refine x_stI E h (ia_mo_number g) (i := 35) (by unfold vp_in; decide) (j := (35)) rfl rfl dX12_addRow_54 (fun H locs h => ?_)
  refine lv_aload_n hx hb dX12_addRow_55 rfl (lv_at hl 0 rfl) ?_
  refine x_getR E h (fr_mo_isDeaf g) rfl hwX12 (by decide) (by decide +kernel) dX12_addRow_56 ?_
  refine lv_aload_n hx hb dX12_addRow_59 rfl (lv_at hl 0 rfl) ?_
  refine x_getI E h (fi_mo_rows g) rfl hwX12 (by decide) (by decide +kernel) (v := 8) fI_31 dX12_addRow_60 ?_
  refine lv_iload hx hb dX12_addRow_63 (lv_at hl 5 rfl) ?_
  refine x_stZ E h (ia_mo_isDeaf g) (i := 8) (by unfold vp_in; decide) (j := (8)) rfl rfl dX12_addRow_65 (fun H locs h => ?_)
  refine lv_aload_n hx hb dX12_addRow_66 rfl (lv_at hl 0 rfl) ?_
  refine x_getR E h (fr_mo_isOut g) rfl hwX12 (by decide) (by decide +kernel) dX12_addRow_67 ?_
  refine lv_aload_n hx hb dX12_addRow_70 rfl (lv_at hl 0 rfl) ?_
  refine x_getI E h (fi_mo_rows g) rfl hwX12 (by decide) (by decide +kernel) (v := 8) fI_31 dX12_addRow_71 ?_
  refine lv_iconst (v := 0) hx hb dX12_addRow_74 (by decide) ?_
  refine x_stZ E h (ia_mo_isOut g) (i := 8) (by unfold vp_in; decide) (j := (8)) rfl rfl dX12_addRow_75 (fun H locs h => ?_)
  refine lv_aload_n hx hb dX12_addRow_76 rfl (lv_at hl 0 rfl) ?_
  refine x_getR E h (fr_mo_truth g) rfl hwX12 (by decide) (by decide +kernel) dX12_addRow_77 ?_
  refine lv_aload_n hx hb dX12_addRow_80 rfl (lv_at hl 0 rfl) ?_
  refine x_getI E h (fi_mo_rows g) rfl hwX12 (by decide) (by decide +kernel) (v := 8) fI_31 dX12_addRow_81 ?_
  refine lv_iconst (v := 0) hx hb dX12_addRow_84 (by decide) ?_
  refine x_stI E h (ia_mo_truth g) (i := 8) (by unfold vp_in; decide) (j := (8)) rfl rfl dX12_addRow_85 (fun H locs h => ?_)
  refine lv_aload_n hx hb dX12_addRow_86 rfl (lv_at hl 0 rfl) ?_
  refine lv_dup hx hb dX12_addRow_87 rfl ?_
  refine x_getI E h (fi_mo_rows g) rfl hwX12 (by decide) (by decide +kernel) (v := 8) fI_31 dX12_addRow_88 ?_
  refine lv_iconst (v := 1) hx hb dX12_addRow_91 (by decide) ?_
  refine lv_iadd hx hb dX12_addRow_92 ?_
  refine x_topI (v2 := 9) (by decide) ?_
  refine x_putI E h (ty := .int) (v := 9) (fi_mo_rows g) rfl hwX12 tyX12_ok nmX12 (by decide) (by decide +kernel) (by decide +kernel) (by decide +kernel) rfl rfl dX12_addRow_93 (fun H locs h => ?_)
  exact x_vret E h rfl dX12_addRow_96
set_option maxHeartbeats 4000000 in
set_option maxRecDepth 100000 in
theorem kX12_deaf_0 (l : Launch) (g : CX) (σ : ST) (p1 : Int32) (fI_31 : σ.1 31 = 0) : XM l g yX12_deaf wsX12_deaf { frames := 1, cells := 0, slots := 0, locals := 25 } [.ref (g.2.1 79), .int p1] σ (XQi g (fun r σ' => (bB p1 1 9 = 1 ∧ p1 = r) ∨ (bB p1 1 9 = 0 ∧ (-1) = r))) := by
  refine x_met (own := RX12) (cc := cX12_deaf) (maxL := 3) (ret := (some .int)) (lv := [(0, .ref (g.2.1 79)), (1, .int p1)]) (by decide) rfl rfl (Nat.le_of_ble_eq_true rfl) rfl ?_
  intro p e s m args below meth c ls E h hl
  have hx := E.1
  have hb := E.2.1
  have hown := E.2.2.2.1
  have hts := E.2.2.2.2.1
  have hwX12 : ∀ w ∈ wsX120, w ∈ wsX12_deaf := by decide +kernel
  refine lv_iload_n hx hb dX12_deaf_0 rfl (lv_at hl 1 rfl) ?_
  refine lv_iconst (v := 1) hx hb dX12_deaf_1 (by decide) ?_
  refine lv_bipush (v := 9) hx hb dX12_deaf_2 (by decide) ?_
  refine x_si E h (na := 3) (As := [.int p1, .int 1, .int 9]) (kX12_in_0 l g _ p1 1 9) gX12_deaf_X12_in rfl ⟨rfl, rfl⟩ rfl (by decide +kernel) ⟨Nat.le_of_ble_eq_true rfl, Nat.le_of_ble_eq_true rfl⟩ hl.1 rfl (Nat.le_of_ble_eq_true rfl) dX12_deaf_4 ⟨Nat.le_of_ble_eq_true rfl, Nat.le_of_ble_eq_true rfl⟩ (fun r1 s1 H locs q1 h => ?_)
  rcases q1 with ⟨k1_0, rfl, rfl⟩ | ⟨k1_0, rfl, rfl⟩
  · skip
    refine lv_if_ne (tgt := 12) hx hb dX12_deaf_7 (by decide) (fun _ => ?_) (fun c => absurd c (by decide))
    rcases (bB_1_9 k1_0) with rfl | rfl | rfl | rfl | rfl | rfl | rfl | rfl | rfl
    · skip
      refine lv_aload_n hx hb dX12_deaf_12 rfl (lv_at hl 0 rfl) ?_
      refine x_getI E h (fi_mo_rows g) rfl hwX12 (by decide) (by decide +kernel) (v := 0) fI_31 dX12_deaf_13 ?_
      refine lv_iload_n hx hb dX12_deaf_16 rfl (lv_at hl 1 rfl) ?_
      refine lv_iadd hx hb dX12_deaf_17 ?_
      refine x_topI (v2 := 1) (by decide) ?_
      refine lv_bipush (v := 48) hx hb dX12_deaf_18 (by decide) ?_
      refine lv_icmp_le (tgt := 26) hx hb dX12_deaf_20 (by decide) (fun _ => ?_) (fun c => absurd (by decide) c)
      refine lv_iconst (v := 0) hx hb dX12_deaf_26 (by decide) ?_
      refine lv_istore_n (lv' := [(2, .int 0), (0, .ref (g.2.1 79)), (1, .int 1)]) hx hb dX12_deaf_27 rfl hl (by decide) rfl (fun ls hl => ?_)
      refine lv_iload_n hx hb dX12_deaf_28 rfl (lv_at hl 0 rfl) ?_
      refine lv_iload_n hx hb dX12_deaf_29 rfl (lv_at hl 2 rfl) ?_
      refine lv_icmp_ge (tgt := 48) hx hb dX12_deaf_30 (by decide) (fun c => absurd c (by decide)) (fun _ => ?_)
      refine lv_aload_n hx hb dX12_deaf_33 rfl (lv_at hl 1 rfl) ?_
      refine lv_iconst (v := 0) hx hb dX12_deaf_34 (by decide) ?_
      refine lv_iconst (v := 0) hx hb dX12_deaf_35 (by decide) ?_
      refine lv_iconst (v := 0) hx hb dX12_deaf_36 (by decide) ?_
      refine lv_iconst (v := 0) hx hb dX12_deaf_37 (by decide) ?_
      refine lv_iconst (v := 1) hx hb dX12_deaf_38 (by decide) ?_
      refine x_vv E h (na := 5) (As := [.int 0, .int 0, .int 0, .int 0, .int 1]) (kX12_addRow_1 l g _  fI_31) (oc_mo g) rfl gX12_deaf_X12_addRow rfl ⟨rfl, rfl⟩ rfl (by decide +kernel) ⟨Nat.le_of_ble_eq_true rfl, Nat.le_of_ble_eq_true rfl⟩ hl.1 rfl (Nat.le_of_ble_eq_true rfl) dX12_deaf_39 ⟨Nat.le_of_ble_eq_true rfl, Nat.le_of_ble_eq_true rfl⟩ (fun s2 H locs q2 h => ?_)
      rcases q2 with rfl
      refine lv_iinc (v := 1) (lv' := [(2, .int 1), (0, .ref (g.2.1 79)), (1, .int 1)]) hx hb dX12_deaf_42 hl (k := 0) rfl (by decide) (by decide) rfl (fun ls hl => ?_)
      refine lv_goto (tgt := 28) hx hb dX12_deaf_45 (by decide) ?_
      refine lv_iload_n hx hb dX12_deaf_28 rfl (lv_at hl 0 rfl) ?_
      refine lv_iload_n hx hb dX12_deaf_29 rfl (lv_at hl 2 rfl) ?_
      refine lv_icmp_ge (tgt := 48) hx hb dX12_deaf_30 (by decide) (fun _ => ?_) (fun c => absurd (by decide) c)
      refine lv_aload_n hx hb dX12_deaf_48 rfl (lv_at hl 1 rfl) ?_
      refine x_getI E h (fi_mo_rows g) rfl hwX12 (by decide) (by decide +kernel) (v := 1) rfl dX12_deaf_49 ?_
      exact x_iret E h (Or.inl ⟨k1_0, rfl⟩) dX12_deaf_52
    · skip
      refine lv_aload_n hx hb dX12_deaf_12 rfl (lv_at hl 0 rfl) ?_
      refine x_getI E h (fi_mo_rows g) rfl hwX12 (by decide) (by decide +kernel) (v := 0) fI_31 dX12_deaf_13 ?_
      refine lv_iload_n hx hb dX12_deaf_16 rfl (lv_at hl 1 rfl) ?_
      refine lv_iadd hx hb dX12_deaf_17 ?_
      refine x_topI (v2 := 2) (by decide) ?_
      refine lv_bipush (v := 48) hx hb dX12_deaf_18 (by decide) ?_
      refine lv_icmp_le (tgt := 26) hx hb dX12_deaf_20 (by decide) (fun _ => ?_) (fun c => absurd (by decide) c)
      refine lv_iconst (v := 0) hx hb dX12_deaf_26 (by decide) ?_
      refine lv_istore_n (lv' := [(2, .int 0), (0, .ref (g.2.1 79)), (1, .int 2)]) hx hb dX12_deaf_27 rfl hl (by decide) rfl (fun ls hl => ?_)
      refine lv_iload_n hx hb dX12_deaf_28 rfl (lv_at hl 0 rfl) ?_
      refine lv_iload_n hx hb dX12_deaf_29 rfl (lv_at hl 2 rfl) ?_
      refine lv_icmp_ge (tgt := 48) hx hb dX12_deaf_30 (by decide) (fun c => absurd c (by decide)) (fun _ => ?_)
      refine lv_aload_n hx hb dX12_deaf_33 rfl (lv_at hl 1 rfl) ?_
      refine lv_iconst (v := 0) hx hb dX12_deaf_34 (by decide) ?_
      refine lv_iconst (v := 0) hx hb dX12_deaf_35 (by decide) ?_
      refine lv_iconst (v := 0) hx hb dX12_deaf_36 (by decide) ?_
      refine lv_iconst (v := 0) hx hb dX12_deaf_37 (by decide) ?_
      refine lv_iconst (v := 1) hx hb dX12_deaf_38 (by decide) ?_
      refine x_vv E h (na := 5) (As := [.int 0, .int 0, .int 0, .int 0, .int 1]) (kX12_addRow_1 l g _  fI_31) (oc_mo g) rfl gX12_deaf_X12_addRow rfl ⟨rfl, rfl⟩ rfl (by decide +kernel) ⟨Nat.le_of_ble_eq_true rfl, Nat.le_of_ble_eq_true rfl⟩ hl.1 rfl (Nat.le_of_ble_eq_true rfl) dX12_deaf_39 ⟨Nat.le_of_ble_eq_true rfl, Nat.le_of_ble_eq_true rfl⟩ (fun s3 H locs q3 h => ?_)
      rcases q3 with rfl
      refine lv_iinc (v := 1) (lv' := [(2, .int 1), (0, .ref (g.2.1 79)), (1, .int 2)]) hx hb dX12_deaf_42 hl (k := 0) rfl (by decide) (by decide) rfl (fun ls hl => ?_)
      refine lv_goto (tgt := 28) hx hb dX12_deaf_45 (by decide) ?_
      refine lv_iload_n hx hb dX12_deaf_28 rfl (lv_at hl 0 rfl) ?_
      refine lv_iload_n hx hb dX12_deaf_29 rfl (lv_at hl 2 rfl) ?_
      refine lv_icmp_ge (tgt := 48) hx hb dX12_deaf_30 (by decide) (fun c => absurd c (by decide)) (fun _ => ?_)
      refine lv_aload_n hx hb dX12_deaf_33 rfl (lv_at hl 1 rfl) ?_
      refine lv_iconst (v := 0) hx hb dX12_deaf_34 (by decide) ?_
      refine lv_iconst (v := 0) hx hb dX12_deaf_35 (by decide) ?_
      refine lv_iconst (v := 0) hx hb dX12_deaf_36 (by decide) ?_
      refine lv_iconst (v := 0) hx hb dX12_deaf_37 (by decide) ?_
      refine lv_iconst (v := 1) hx hb dX12_deaf_38 (by decide) ?_
      refine x_vv E h (na := 5) (As := [.int 0, .int 0, .int 0, .int 0, .int 1]) (kX12_addRow_2 l g _  rfl) (oc_mo g) rfl gX12_deaf_X12_addRow rfl ⟨rfl, rfl⟩ rfl (by decide +kernel) ⟨Nat.le_of_ble_eq_true rfl, Nat.le_of_ble_eq_true rfl⟩ hl.1 rfl (Nat.le_of_ble_eq_true rfl) dX12_deaf_39 ⟨Nat.le_of_ble_eq_true rfl, Nat.le_of_ble_eq_true rfl⟩ (fun s4 H locs q4 h => ?_)
      rcases q4 with rfl
      refine lv_iinc (v := 2) (lv' := [(2, .int 2), (0, .ref (g.2.1 79)), (1, .int 2)]) hx hb dX12_deaf_42 hl (k := 0) rfl (by decide) (by decide) rfl (fun ls hl => ?_)
      refine lv_goto (tgt := 28) hx hb dX12_deaf_45 (by decide) ?_
      refine lv_iload_n hx hb dX12_deaf_28 rfl (lv_at hl 0 rfl) ?_
      refine lv_iload_n hx hb dX12_deaf_29 rfl (lv_at hl 2 rfl) ?_
      refine lv_icmp_ge (tgt := 48) hx hb dX12_deaf_30 (by decide) (fun _ => ?_) (fun c => absurd (by decide) c)
      refine lv_aload_n hx hb dX12_deaf_48 rfl (lv_at hl 1 rfl) ?_
      refine x_getI E h (fi_mo_rows g) rfl hwX12 (by decide) (by decide +kernel) (v := 2) rfl dX12_deaf_49 ?_
      exact x_iret E h (Or.inl ⟨k1_0, rfl⟩) dX12_deaf_52
    · skip
      refine lv_aload_n hx hb dX12_deaf_12 rfl (lv_at hl 0 rfl) ?_
      refine x_getI E h (fi_mo_rows g) rfl hwX12 (by decide) (by decide +kernel) (v := 0) fI_31 dX12_deaf_13 ?_
      refine lv_iload_n hx hb dX12_deaf_16 rfl (lv_at hl 1 rfl) ?_
      refine lv_iadd hx hb dX12_deaf_17 ?_
      refine x_topI (v2 := 3) (by decide) ?_
      refine lv_bipush (v := 48) hx hb dX12_deaf_18 (by decide) ?_
      refine lv_icmp_le (tgt := 26) hx hb dX12_deaf_20 (by decide) (fun _ => ?_) (fun c => absurd (by decide) c)
      refine lv_iconst (v := 0) hx hb dX12_deaf_26 (by decide) ?_
      refine lv_istore_n (lv' := [(2, .int 0), (0, .ref (g.2.1 79)), (1, .int 3)]) hx hb dX12_deaf_27 rfl hl (by decide) rfl (fun ls hl => ?_)
      refine lv_iload_n hx hb dX12_deaf_28 rfl (lv_at hl 0 rfl) ?_
      refine lv_iload_n hx hb dX12_deaf_29 rfl (lv_at hl 2 rfl) ?_
      refine lv_icmp_ge (tgt := 48) hx hb dX12_deaf_30 (by decide) (fun c => absurd c (by decide)) (fun _ => ?_)
      refine lv_aload_n hx hb dX12_deaf_33 rfl (lv_at hl 1 rfl) ?_
      refine lv_iconst (v := 0) hx hb dX12_deaf_34 (by decide) ?_
      refine lv_iconst (v := 0) hx hb dX12_deaf_35 (by decide) ?_
      refine lv_iconst (v := 0) hx hb dX12_deaf_36 (by decide) ?_
      refine lv_iconst (v := 0) hx hb dX12_deaf_37 (by decide) ?_
      refine lv_iconst (v := 1) hx hb dX12_deaf_38 (by decide) ?_
      refine x_vv E h (na := 5) (As := [.int 0, .int 0, .int 0, .int 0, .int 1]) (kX12_addRow_1 l g _  fI_31) (oc_mo g) rfl gX12_deaf_X12_addRow rfl ⟨rfl, rfl⟩ rfl (by decide +kernel) ⟨Nat.le_of_ble_eq_true rfl, Nat.le_of_ble_eq_true rfl⟩ hl.1 rfl (Nat.le_of_ble_eq_true rfl) dX12_deaf_39 ⟨Nat.le_of_ble_eq_true rfl, Nat.le_of_ble_eq_true rfl⟩ (fun s5 H locs q5 h => ?_)
      rcases q5 with rfl
      refine lv_iinc (v := 1) (lv' := [(2, .int 1), (0, .ref (g.2.1 79)), (1, .int 3)]) hx hb dX12_deaf_42 hl (k := 0) rfl (by decide) (by decide) rfl (fun ls hl => ?_)
      refine lv_goto (tgt := 28) hx hb dX12_deaf_45 (by decide) ?_
      refine lv_iload_n hx hb dX12_deaf_28 rfl (lv_at hl 0 rfl) ?_
      refine lv_iload_n hx hb dX12_deaf_29 rfl (lv_at hl 2 rfl) ?_
      refine lv_icmp_ge (tgt := 48) hx hb dX12_deaf_30 (by decide) (fun c => absurd c (by decide)) (fun _ => ?_)
      refine lv_aload_n hx hb dX12_deaf_33 rfl (lv_at hl 1 rfl) ?_
      refine lv_iconst (v := 0) hx hb dX12_deaf_34 (by decide) ?_
      refine lv_iconst (v := 0) hx hb dX12_deaf_35 (by decide) ?_
      refine lv_iconst (v := 0) hx hb dX12_deaf_36 (by decide) ?_
      refine lv_iconst (v := 0) hx hb dX12_deaf_37 (by decide) ?_
      refine lv_iconst (v := 1) hx hb dX12_deaf_38 (by decide) ?_
      refine x_vv E h (na := 5) (As := [.int 0, .int 0, .int 0, .int 0, .int 1]) (kX12_addRow_2 l g _  rfl) (oc_mo g) rfl gX12_deaf_X12_addRow rfl ⟨rfl, rfl⟩ rfl (by decide +kernel) ⟨Nat.le_of_ble_eq_true rfl, Nat.le_of_ble_eq_true rfl⟩ hl.1 rfl (Nat.le_of_ble_eq_true rfl) dX12_deaf_39 ⟨Nat.le_of_ble_eq_true rfl, Nat.le_of_ble_eq_true rfl⟩ (fun s6 H locs q6 h => ?_)
      rcases q6 with rfl
      refine lv_iinc (v := 2) (lv' := [(2, .int 2), (0, .ref (g.2.1 79)), (1, .int 3)]) hx hb dX12_deaf_42 hl (k := 0) rfl (by decide) (by decide) rfl (fun ls hl => ?_)
      refine lv_goto (tgt := 28) hx hb dX12_deaf_45 (by decide) ?_
      refine lv_iload_n hx hb dX12_deaf_28 rfl (lv_at hl 0 rfl) ?_
      refine lv_iload_n hx hb dX12_deaf_29 rfl (lv_at hl 2 rfl) ?_
      refine lv_icmp_ge (tgt := 48) hx hb dX12_deaf_30 (by decide) (fun c => absurd c (by decide)) (fun _ => ?_)
      refine lv_aload_n hx hb dX12_deaf_33 rfl (lv_at hl 1 rfl) ?_
      refine lv_iconst (v := 0) hx hb dX12_deaf_34 (by decide) ?_
      refine lv_iconst (v := 0) hx hb dX12_deaf_35 (by decide) ?_
      refine lv_iconst (v := 0) hx hb dX12_deaf_36 (by decide) ?_
      refine lv_iconst (v := 0) hx hb dX12_deaf_37 (by decide) ?_
      refine lv_iconst (v := 1) hx hb dX12_deaf_38 (by decide) ?_
      refine x_vv E h (na := 5) (As := [.int 0, .int 0, .int 0, .int 0, .int 1]) (kX12_addRow_3 l g _  rfl) (oc_mo g) rfl gX12_deaf_X12_addRow rfl ⟨rfl, rfl⟩ rfl (by decide +kernel) ⟨Nat.le_of_ble_eq_true rfl, Nat.le_of_ble_eq_true rfl⟩ hl.1 rfl (Nat.le_of_ble_eq_true rfl) dX12_deaf_39 ⟨Nat.le_of_ble_eq_true rfl, Nat.le_of_ble_eq_true rfl⟩ (fun s7 H locs q7 h => ?_)
      rcases q7 with rfl
      refine lv_iinc (v := 3) (lv' := [(2, .int 3), (0, .ref (g.2.1 79)), (1, .int 3)]) hx hb dX12_deaf_42 hl (k := 0) rfl (by decide) (by decide) rfl (fun ls hl => ?_)
      refine lv_goto (tgt := 28) hx hb dX12_deaf_45 (by decide) ?_
      refine lv_iload_n hx hb dX12_deaf_28 rfl (lv_at hl 0 rfl) ?_
      refine lv_iload_n hx hb dX12_deaf_29 rfl (lv_at hl 2 rfl) ?_
      refine lv_icmp_ge (tgt := 48) hx hb dX12_deaf_30 (by decide) (fun _ => ?_) (fun c => absurd (by decide) c)
      refine lv_aload_n hx hb dX12_deaf_48 rfl (lv_at hl 1 rfl) ?_
      refine x_getI E h (fi_mo_rows g) rfl hwX12 (by decide) (by decide +kernel) (v := 3) rfl dX12_deaf_49 ?_
      exact x_iret E h (Or.inl ⟨k1_0, rfl⟩) dX12_deaf_52
    · skip
      refine lv_aload_n hx hb dX12_deaf_12 rfl (lv_at hl 0 rfl) ?_
      refine x_getI E h (fi_mo_rows g) rfl hwX12 (by decide) (by decide +kernel) (v := 0) fI_31 dX12_deaf_13 ?_
      refine lv_iload_n hx hb dX12_deaf_16 rfl (lv_at hl 1 rfl) ?_
      refine lv_iadd hx hb dX12_deaf_17 ?_
      refine x_topI (v2 := 4) (by decide) ?_
      refine lv_bipush (v := 48) hx hb dX12_deaf_18 (by decide) ?_
      refine lv_icmp_le (tgt := 26) hx hb dX12_deaf_20 (by decide) (fun _ => ?_) (fun c => absurd (by decide) c)
      refine lv_iconst (v := 0) hx hb dX12_deaf_26 (by decide) ?_
      refine lv_istore_n (lv' := [(2, .int 0), (0, .ref (g.2.1 79)), (1, .int 4)]) hx hb dX12_deaf_27 rfl hl (by decide) rfl (fun ls hl => ?_)
      refine lv_iload_n hx hb dX12_deaf_28 rfl (lv_at hl 0 rfl) ?_
      refine lv_iload_n hx hb dX12_deaf_29 rfl (lv_at hl 2 rfl) ?_
      refine lv_icmp_ge (tgt := 48) hx hb dX12_deaf_30 (by decide) (fun c => absurd c (by decide)) (fun _ => ?_)
      refine lv_aload_n hx hb dX12_deaf_33 rfl (lv_at hl 1 rfl) ?_
      refine lv_iconst (v := 0) hx hb dX12_deaf_34 (by decide) ?_
      refine lv_iconst (v := 0) hx hb dX12_deaf_35 (by decide) ?_
      refine lv_iconst (v := 0) hx hb dX12_deaf_36 (by decide) ?_
      refine lv_iconst (v := 0) hx hb dX12_deaf_37 (by decide) ?_
      refine lv_iconst (v := 1) hx hb dX12_deaf_38 (by decide) ?_
      refine x_vv E h (na := 5) (As := [.int 0, .int 0, .int 0, .int 0, .int 1]) (kX12_addRow_1 l g _  fI_31) (oc_mo g) rfl gX12_deaf_X12_addRow rfl ⟨rfl, rfl⟩ rfl (by decide +kernel) ⟨Nat.le_of_ble_eq_true rfl, Nat.le_of_ble_eq_true rfl⟩ hl.1 rfl (Nat.le_of_ble_eq_true rfl) dX12_deaf_39 ⟨Nat.le_of_ble_eq_true rfl, Nat.le_of_ble_eq_true rfl⟩ (fun s8 H locs q8 h => ?_)
      rcases q8 with rfl
      refine lv_iinc (v := 1) (lv' := [(2, .int 1), (0, .ref (g.2.1 79)), (1, .int 4)]) hx hb dX12_deaf_42 hl (k := 0) rfl (by decide) (by decide) rfl (fun ls hl => ?_)
      refine lv_goto (tgt := 28) hx hb dX12_deaf_45 (by decide) ?_
      refine lv_iload_n hx hb dX12_deaf_28 rfl (lv_at hl 0 rfl) ?_
      refine lv_iload_n hx hb dX12_deaf_29 rfl (lv_at hl 2 rfl) ?_
      refine lv_icmp_ge (tgt := 48) hx hb dX12_deaf_30 (by decide) (fun c => absurd c (by decide)) (fun _ => ?_)
      refine lv_aload_n hx hb dX12_deaf_33 rfl (lv_at hl 1 rfl) ?_
      refine lv_iconst (v := 0) hx hb dX12_deaf_34 (by decide) ?_
      refine lv_iconst (v := 0) hx hb dX12_deaf_35 (by decide) ?_
      refine lv_iconst (v := 0) hx hb dX12_deaf_36 (by decide) ?_
      refine lv_iconst (v := 0) hx hb dX12_deaf_37 (by decide) ?_
      refine lv_iconst (v := 1) hx hb dX12_deaf_38 (by decide) ?_
      refine x_vv E h (na := 5) (As := [.int 0, .int 0, .int 0, .int 0, .int 1]) (kX12_addRow_2 l g _  rfl) (oc_mo g) rfl gX12_deaf_X12_addRow rfl ⟨rfl, rfl⟩ rfl (by decide +kernel) ⟨Nat.le_of_ble_eq_true rfl, Nat.le_of_ble_eq_true rfl⟩ hl.1 rfl (Nat.le_of_ble_eq_true rfl) dX12_deaf_39 ⟨Nat.le_of_ble_eq_true rfl, Nat.le_of_ble_eq_true rfl⟩ (fun s9 H locs q9 h => ?_)
      rcases q9 with rfl
      refine lv_iinc (v := 2) (lv' := [(2, .int 2), (0, .ref (g.2.1 79)), (1, .int 4)]) hx hb dX12_deaf_42 hl (k := 0) rfl (by decide) (by decide) rfl (fun ls hl => ?_)
      refine lv_goto (tgt := 28) hx hb dX12_deaf_45 (by decide) ?_
      refine lv_iload_n hx hb dX12_deaf_28 rfl (lv_at hl 0 rfl) ?_
      refine lv_iload_n hx hb dX12_deaf_29 rfl (lv_at hl 2 rfl) ?_
      refine lv_icmp_ge (tgt := 48) hx hb dX12_deaf_30 (by decide) (fun c => absurd c (by decide)) (fun _ => ?_)
      refine lv_aload_n hx hb dX12_deaf_33 rfl (lv_at hl 1 rfl) ?_
      refine lv_iconst (v := 0) hx hb dX12_deaf_34 (by decide) ?_
      refine lv_iconst (v := 0) hx hb dX12_deaf_35 (by decide) ?_
      refine lv_iconst (v := 0) hx hb dX12_deaf_36 (by decide) ?_
      refine lv_iconst (v := 0) hx hb dX12_deaf_37 (by decide) ?_
      refine lv_iconst (v := 1) hx hb dX12_deaf_38 (by decide) ?_
      refine x_vv E h (na := 5) (As := [.int 0, .int 0, .int 0, .int 0, .int 1]) (kX12_addRow_3 l g _  rfl) (oc_mo g) rfl gX12_deaf_X12_addRow rfl ⟨rfl, rfl⟩ rfl (by decide +kernel) ⟨Nat.le_of_ble_eq_true rfl, Nat.le_of_ble_eq_true rfl⟩ hl.1 rfl (Nat.le_of_ble_eq_true rfl) dX12_deaf_39 ⟨Nat.le_of_ble_eq_true rfl, Nat.le_of_ble_eq_true rfl⟩ (fun s10 H locs q10 h => ?_)
      rcases q10 with rfl
      refine lv_iinc (v := 3) (lv' := [(2, .int 3), (0, .ref (g.2.1 79)), (1, .int 4)]) hx hb dX12_deaf_42 hl (k := 0) rfl (by decide) (by decide) rfl (fun ls hl => ?_)
      refine lv_goto (tgt := 28) hx hb dX12_deaf_45 (by decide) ?_
      refine lv_iload_n hx hb dX12_deaf_28 rfl (lv_at hl 0 rfl) ?_
      refine lv_iload_n hx hb dX12_deaf_29 rfl (lv_at hl 2 rfl) ?_
      refine lv_icmp_ge (tgt := 48) hx hb dX12_deaf_30 (by decide) (fun c => absurd c (by decide)) (fun _ => ?_)
      refine lv_aload_n hx hb dX12_deaf_33 rfl (lv_at hl 1 rfl) ?_
      refine lv_iconst (v := 0) hx hb dX12_deaf_34 (by decide) ?_
      refine lv_iconst (v := 0) hx hb dX12_deaf_35 (by decide) ?_
      refine lv_iconst (v := 0) hx hb dX12_deaf_36 (by decide) ?_
      refine lv_iconst (v := 0) hx hb dX12_deaf_37 (by decide) ?_
      refine lv_iconst (v := 1) hx hb dX12_deaf_38 (by decide) ?_
      refine x_vv E h (na := 5) (As := [.int 0, .int 0, .int 0, .int 0, .int 1]) (kX12_addRow_4 l g _  rfl) (oc_mo g) rfl gX12_deaf_X12_addRow rfl ⟨rfl, rfl⟩ rfl (by decide +kernel) ⟨Nat.le_of_ble_eq_true rfl, Nat.le_of_ble_eq_true rfl⟩ hl.1 rfl (Nat.le_of_ble_eq_true rfl) dX12_deaf_39 ⟨Nat.le_of_ble_eq_true rfl, Nat.le_of_ble_eq_true rfl⟩ (fun s11 H locs q11 h => ?_)
      rcases q11 with rfl
      refine lv_iinc (v := 4) (lv' := [(2, .int 4), (0, .ref (g.2.1 79)), (1, .int 4)]) hx hb dX12_deaf_42 hl (k := 0) rfl (by decide) (by decide) rfl (fun ls hl => ?_)
      refine lv_goto (tgt := 28) hx hb dX12_deaf_45 (by decide) ?_
      refine lv_iload_n hx hb dX12_deaf_28 rfl (lv_at hl 0 rfl) ?_
      refine lv_iload_n hx hb dX12_deaf_29 rfl (lv_at hl 2 rfl) ?_
      refine lv_icmp_ge (tgt := 48) hx hb dX12_deaf_30 (by decide) (fun _ => ?_) (fun c => absurd (by decide) c)
      refine lv_aload_n hx hb dX12_deaf_48 rfl (lv_at hl 1 rfl) ?_
      refine x_getI E h (fi_mo_rows g) rfl hwX12 (by decide) (by decide +kernel) (v := 4) rfl dX12_deaf_49 ?_
      exact x_iret E h (Or.inl ⟨k1_0, rfl⟩) dX12_deaf_52
    · skip
      refine lv_aload_n hx hb dX12_deaf_12 rfl (lv_at hl 0 rfl) ?_
      refine x_getI E h (fi_mo_rows g) rfl hwX12 (by decide) (by decide +kernel) (v := 0) fI_31 dX12_deaf_13 ?_
      refine lv_iload_n hx hb dX12_deaf_16 rfl (lv_at hl 1 rfl) ?_
      refine lv_iadd hx hb dX12_deaf_17 ?_
      refine x_topI (v2 := 5) (by decide) ?_
      refine lv_bipush (v := 48) hx hb dX12_deaf_18 (by decide) ?_
      refine lv_icmp_le (tgt := 26) hx hb dX12_deaf_20 (by decide) (fun _ => ?_) (fun c => absurd (by decide) c)
      refine lv_iconst (v := 0) hx hb dX12_deaf_26 (by decide) ?_
      refine lv_istore_n (lv' := [(2, .int 0), (0, .ref (g.2.1 79)), (1, .int 5)]) hx hb dX12_deaf_27 rfl hl (by decide) rfl (fun ls hl => ?_)
      refine lv_iload_n hx hb dX12_deaf_28 rfl (lv_at hl 0 rfl) ?_
      refine lv_iload_n hx hb dX12_deaf_29 rfl (lv_at hl 2 rfl) ?_
      refine lv_icmp_ge (tgt := 48) hx hb dX12_deaf_30 (by decide) (fun c => absurd c (by decide)) (fun _ => ?_)
      refine lv_aload_n hx hb dX12_deaf_33 rfl (lv_at hl 1 rfl) ?_
      refine lv_iconst (v := 0) hx hb dX12_deaf_34 (by decide) ?_
      refine lv_iconst (v := 0) hx hb dX12_deaf_35 (by decide) ?_
      refine lv_iconst (v := 0) hx hb dX12_deaf_36 (by decide) ?_
      refine lv_iconst (v := 0) hx hb dX12_deaf_37 (by decide) ?_
      refine lv_iconst (v := 1) hx hb dX12_deaf_38 (by decide) ?_
      refine x_vv E h (na := 5) (As := [.int 0, .int 0, .int 0, .int 0, .int 1]) (kX12_addRow_1 l g _  fI_31) (oc_mo g) rfl gX12_deaf_X12_addRow rfl ⟨rfl, rfl⟩ rfl (by decide +kernel) ⟨Nat.le_of_ble_eq_true rfl, Nat.le_of_ble_eq_true rfl⟩ hl.1 rfl (Nat.le_of_ble_eq_true rfl) dX12_deaf_39 ⟨Nat.le_of_ble_eq_true rfl, Nat.le_of_ble_eq_true rfl⟩ (fun s12 H locs q12 h => ?_)
      rcases q12 with rfl
      refine lv_iinc (v := 1) (lv' := [(2, .int 1), (0, .ref (g.2.1 79)), (1, .int 5)]) hx hb dX12_deaf_42 hl (k := 0) rfl (by decide) (by decide) rfl (fun ls hl => ?_)
      refine lv_goto (tgt := 28) hx hb dX12_deaf_45 (by decide) ?_
      refine lv_iload_n hx hb dX12_deaf_28 rfl (lv_at hl 0 rfl) ?_
      refine lv_iload_n hx hb dX12_deaf_29 rfl (lv_at hl 2 rfl) ?_
      refine lv_icmp_ge (tgt := 48) hx hb dX12_deaf_30 (by decide) (fun c => absurd c (by decide)) (fun _ => ?_)
      refine lv_aload_n hx hb dX12_deaf_33 rfl (lv_at hl 1 rfl) ?_
      refine lv_iconst (v := 0) hx hb dX12_deaf_34 (by decide) ?_
      refine lv_iconst (v := 0) hx hb dX12_deaf_35 (by decide) ?_
      refine lv_iconst (v := 0) hx hb dX12_deaf_36 (by decide) ?_
      refine lv_iconst (v := 0) hx hb dX12_deaf_37 (by decide) ?_
      refine lv_iconst (v := 1) hx hb dX12_deaf_38 (by decide) ?_
      refine x_vv E h (na := 5) (As := [.int 0, .int 0, .int 0, .int 0, .int 1]) (kX12_addRow_2 l g _  rfl) (oc_mo g) rfl gX12_deaf_X12_addRow rfl ⟨rfl, rfl⟩ rfl (by decide +kernel) ⟨Nat.le_of_ble_eq_true rfl, Nat.le_of_ble_eq_true rfl⟩ hl.1 rfl (Nat.le_of_ble_eq_true rfl) dX12_deaf_39 ⟨Nat.le_of_ble_eq_true rfl, Nat.le_of_ble_eq_true rfl⟩ (fun s13 H locs q13 h => ?_)
      rcases q13 with rfl
      refine lv_iinc (v := 2) (lv' := [(2, .int 2), (0, .ref (g.2.1 79)), (1, .int 5)]) hx hb dX12_deaf_42 hl (k := 0) rfl (by decide) (by decide) rfl (fun ls hl => ?_)
      refine lv_goto (tgt := 28) hx hb dX12_deaf_45 (by decide) ?_
      refine lv_iload_n hx hb dX12_deaf_28 rfl (lv_at hl 0 rfl) ?_
      refine lv_iload_n hx hb dX12_deaf_29 rfl (lv_at hl 2 rfl) ?_
      refine lv_icmp_ge (tgt := 48) hx hb dX12_deaf_30 (by decide) (fun c => absurd c (by decide)) (fun _ => ?_)
      refine lv_aload_n hx hb dX12_deaf_33 rfl (lv_at hl 1 rfl) ?_
      refine lv_iconst (v := 0) hx hb dX12_deaf_34 (by decide) ?_
      refine lv_iconst (v := 0) hx hb dX12_deaf_35 (by decide) ?_
      refine lv_iconst (v := 0) hx hb dX12_deaf_36 (by decide) ?_
      refine lv_iconst (v := 0) hx hb dX12_deaf_37 (by decide) ?_
      refine lv_iconst (v := 1) hx hb dX12_deaf_38 (by decide) ?_
      refine x_vv E h (na := 5) (As := [.int 0, .int 0, .int 0, .int 0, .int 1]) (kX12_addRow_3 l g _  rfl) (oc_mo g) rfl gX12_deaf_X12_addRow rfl ⟨rfl, rfl⟩ rfl (by decide +kernel) ⟨Nat.le_of_ble_eq_true rfl, Nat.le_of_ble_eq_true rfl⟩ hl.1 rfl (Nat.le_of_ble_eq_true rfl) dX12_deaf_39 ⟨Nat.le_of_ble_eq_true rfl, Nat.le_of_ble_eq_true rfl⟩ (fun s14 H locs q14 h => ?_)
      rcases q14 with rfl
      refine lv_iinc (v := 3) (lv' := [(2, .int 3), (0, .ref (g.2.1 79)), (1, .int 5)]) hx hb dX12_deaf_42 hl (k := 0) rfl (by decide) (by decide) rfl (fun ls hl => ?_)
      refine lv_goto (tgt := 28) hx hb dX12_deaf_45 (by decide) ?_
      refine lv_iload_n hx hb dX12_deaf_28 rfl (lv_at hl 0 rfl) ?_
      refine lv_iload_n hx hb dX12_deaf_29 rfl (lv_at hl 2 rfl) ?_
      refine lv_icmp_ge (tgt := 48) hx hb dX12_deaf_30 (by decide) (fun c => absurd c (by decide)) (fun _ => ?_)
      refine lv_aload_n hx hb dX12_deaf_33 rfl (lv_at hl 1 rfl) ?_
      refine lv_iconst (v := 0) hx hb dX12_deaf_34 (by decide) ?_
      refine lv_iconst (v := 0) hx hb dX12_deaf_35 (by decide) ?_
      refine lv_iconst (v := 0) hx hb dX12_deaf_36 (by decide) ?_
      refine lv_iconst (v := 0) hx hb dX12_deaf_37 (by decide) ?_
      refine lv_iconst (v := 1) hx hb dX12_deaf_38 (by decide) ?_
      refine x_vv E h (na := 5) (As := [.int 0, .int 0, .int 0, .int 0, .int 1]) (kX12_addRow_4 l g _  rfl) (oc_mo g) rfl gX12_deaf_X12_addRow rfl ⟨rfl, rfl⟩ rfl (by decide +kernel) ⟨Nat.le_of_ble_eq_true rfl, Nat.le_of_ble_eq_true rfl⟩ hl.1 rfl (Nat.le_of_ble_eq_true rfl) dX12_deaf_39 ⟨Nat.le_of_ble_eq_true rfl, Nat.le_of_ble_eq_true rfl⟩ (fun s15 H locs q15 h => ?_)
      rcases q15 with rfl
      refine lv_iinc (v := 4) (lv' := [(2, .int 4), (0, .ref (g.2.1 79)), (1, .int 5)]) hx hb dX12_deaf_42 hl (k := 0) rfl (by decide) (by decide) rfl (fun ls hl => ?_)
      refine lv_goto (tgt := 28) hx hb dX12_deaf_45 (by decide) ?_
      refine lv_iload_n hx hb dX12_deaf_28 rfl (lv_at hl 0 rfl) ?_
      refine lv_iload_n hx hb dX12_deaf_29 rfl (lv_at hl 2 rfl) ?_
      refine lv_icmp_ge (tgt := 48) hx hb dX12_deaf_30 (by decide) (fun c => absurd c (by decide)) (fun _ => ?_)
      refine lv_aload_n hx hb dX12_deaf_33 rfl (lv_at hl 1 rfl) ?_
      refine lv_iconst (v := 0) hx hb dX12_deaf_34 (by decide) ?_
      refine lv_iconst (v := 0) hx hb dX12_deaf_35 (by decide) ?_
      refine lv_iconst (v := 0) hx hb dX12_deaf_36 (by decide) ?_
      refine lv_iconst (v := 0) hx hb dX12_deaf_37 (by decide) ?_
      refine lv_iconst (v := 1) hx hb dX12_deaf_38 (by decide) ?_
      refine x_vv E h (na := 5) (As := [.int 0, .int 0, .int 0, .int 0, .int 1]) (kX12_addRow_5 l g _  rfl) (oc_mo g) rfl gX12_deaf_X12_addRow rfl ⟨rfl, rfl⟩ rfl (by decide +kernel) ⟨Nat.le_of_ble_eq_true rfl, Nat.le_of_ble_eq_true rfl⟩ hl.1 rfl (Nat.le_of_ble_eq_true rfl) dX12_deaf_39 ⟨Nat.le_of_ble_eq_true rfl, Nat.le_of_ble_eq_true rfl⟩ (fun s16 H locs q16 h => ?_)
      rcases q16 with rfl
      refine lv_iinc (v := 5) (lv' := [(2, .int 5), (0, .ref (g.2.1 79)), (1, .int 5)]) hx hb dX12_deaf_42 hl (k := 0) rfl (by decide) (by decide) rfl (fun ls hl => ?_)
      refine lv_goto (tgt := 28) hx hb dX12_deaf_45 (by decide) ?_
      refine lv_iload_n hx hb dX12_deaf_28 rfl (lv_at hl 0 rfl) ?_
      refine lv_iload_n hx hb dX12_deaf_29 rfl (lv_at hl 2 rfl) ?_
      refine lv_icmp_ge (tgt := 48) hx hb dX12_deaf_30 (by decide) (fun _ => ?_) (fun c => absurd (by decide) c)
      refine lv_aload_n hx hb dX12_deaf_48 rfl (lv_at hl 1 rfl) ?_
      refine x_getI E h (fi_mo_rows g) rfl hwX12 (by decide) (by decide +kernel) (v := 5) rfl dX12_deaf_49 ?_
      exact x_iret E h (Or.inl ⟨k1_0, rfl⟩) dX12_deaf_52
    · skip
      refine lv_aload_n hx hb dX12_deaf_12 rfl (lv_at hl 0 rfl) ?_
      refine x_getI E h (fi_mo_rows g) rfl hwX12 (by decide) (by decide +kernel) (v := 0) fI_31 dX12_deaf_13 ?_
      refine lv_iload_n hx hb dX12_deaf_16 rfl (lv_at hl 1 rfl) ?_
      refine lv_iadd hx hb dX12_deaf_17 ?_
      refine x_topI (v2 := 6) (by decide) ?_
      refine lv_bipush (v := 48) hx hb dX12_deaf_18 (by decide) ?_
      refine lv_icmp_le (tgt := 26) hx hb dX12_deaf_20 (by decide) (fun _ => ?_) (fun c => absurd (by decide) c)
      refine lv_iconst (v := 0) hx hb dX12_deaf_26 (by decide) ?_
      refine lv_istore_n (lv' := [(2, .int 0), (0, .ref (g.2.1 79)), (1, .int 6)]) hx hb dX12_deaf_27 rfl hl (by decide) rfl (fun ls hl => ?_)
      refine lv_iload_n hx hb dX12_deaf_28 rfl (lv_at hl 0 rfl) ?_
      refine lv_iload_n hx hb dX12_deaf_29 rfl (lv_at hl 2 rfl) ?_
      refine lv_icmp_ge (tgt := 48) hx hb dX12_deaf_30 (by decide) (fun c => absurd c (by decide)) (fun _ => ?_)
      refine lv_aload_n hx hb dX12_deaf_33 rfl (lv_at hl 1 rfl) ?_
      refine lv_iconst (v := 0) hx hb dX12_deaf_34 (by decide) ?_
      refine lv_iconst (v := 0) hx hb dX12_deaf_35 (by decide) ?_
      refine lv_iconst (v := 0) hx hb dX12_deaf_36 (by decide) ?_
      refine lv_iconst (v := 0) hx hb dX12_deaf_37 (by decide) ?_
      refine lv_iconst (v := 1) hx hb dX12_deaf_38 (by decide) ?_
      refine x_vv E h (na := 5) (As := [.int 0, .int 0, .int 0, .int 0, .int 1]) (kX12_addRow_1 l g _  fI_31) (oc_mo g) rfl gX12_deaf_X12_addRow rfl ⟨rfl, rfl⟩ rfl (by decide +kernel) ⟨Nat.le_of_ble_eq_true rfl, Nat.le_of_ble_eq_true rfl⟩ hl.1 rfl (Nat.le_of_ble_eq_true rfl) dX12_deaf_39 ⟨Nat.le_of_ble_eq_true rfl, Nat.le_of_ble_eq_true rfl⟩ (fun s17 H locs q17 h => ?_)
      rcases q17 with rfl
      refine lv_iinc (v := 1) (lv' := [(2, .int 1), (0, .ref (g.2.1 79)), (1, .int 6)]) hx hb dX12_deaf_42 hl (k := 0) rfl (by decide) (by decide) rfl (fun ls hl => ?_)
      refine lv_goto (tgt := 28) hx hb dX12_deaf_45 (by decide) ?_
      refine lv_iload_n hx hb dX12_deaf_28 rfl (lv_at hl 0 rfl) ?_
      refine lv_iload_n hx hb dX12_deaf_29 rfl (lv_at hl 2 rfl) ?_
      refine lv_icmp_ge (tgt := 48) hx hb dX12_deaf_30 (by decide) (fun c => absurd c (by decide)) (fun _ => ?_)
      refine lv_aload_n hx hb dX12_deaf_33 rfl (lv_at hl 1 rfl) ?_
      refine lv_iconst (v := 0) hx hb dX12_deaf_34 (by decide) ?_
      refine lv_iconst (v := 0) hx hb dX12_deaf_35 (by decide) ?_
      refine lv_iconst (v := 0) hx hb dX12_deaf_36 (by decide) ?_
      refine lv_iconst (v := 0) hx hb dX12_deaf_37 (by decide) ?_
      refine lv_iconst (v := 1) hx hb dX12_deaf_38 (by decide) ?_
      refine x_vv E h (na := 5) (As := [.int 0, .int 0, .int 0, .int 0, .int 1]) (kX12_addRow_2 l g _  rfl) (oc_mo g) rfl gX12_deaf_X12_addRow rfl ⟨rfl, rfl⟩ rfl (by decide +kernel) ⟨Nat.le_of_ble_eq_true rfl, Nat.le_of_ble_eq_true rfl⟩ hl.1 rfl (Nat.le_of_ble_eq_true rfl) dX12_deaf_39 ⟨Nat.le_of_ble_eq_true rfl, Nat.le_of_ble_eq_true rfl⟩ (fun s18 H locs q18 h => ?_)
      rcases q18 with rfl
      refine lv_iinc (v := 2) (lv' := [(2, .int 2), (0, .ref (g.2.1 79)), (1, .int 6)]) hx hb dX12_deaf_42 hl (k := 0) rfl (by decide) (by decide) rfl (fun ls hl => ?_)
      refine lv_goto (tgt := 28) hx hb dX12_deaf_45 (by decide) ?_
      refine lv_iload_n hx hb dX12_deaf_28 rfl (lv_at hl 0 rfl) ?_
      refine lv_iload_n hx hb dX12_deaf_29 rfl (lv_at hl 2 rfl) ?_
      refine lv_icmp_ge (tgt := 48) hx hb dX12_deaf_30 (by decide) (fun c => absurd c (by decide)) (fun _ => ?_)
      refine lv_aload_n hx hb dX12_deaf_33 rfl (lv_at hl 1 rfl) ?_
      refine lv_iconst (v := 0) hx hb dX12_deaf_34 (by decide) ?_
      refine lv_iconst (v := 0) hx hb dX12_deaf_35 (by decide) ?_
      refine lv_iconst (v := 0) hx hb dX12_deaf_36 (by decide) ?_
      refine lv_iconst (v := 0) hx hb dX12_deaf_37 (by decide) ?_
      refine lv_iconst (v := 1) hx hb dX12_deaf_38 (by decide) ?_
      refine x_vv E h (na := 5) (As := [.int 0, .int 0, .int 0, .int 0, .int 1]) (kX12_addRow_3 l g _  rfl) (oc_mo g) rfl gX12_deaf_X12_addRow rfl ⟨rfl, rfl⟩ rfl (by decide +kernel) ⟨Nat.le_of_ble_eq_true rfl, Nat.le_of_ble_eq_true rfl⟩ hl.1 rfl (Nat.le_of_ble_eq_true rfl) dX12_deaf_39 ⟨Nat.le_of_ble_eq_true rfl, Nat.le_of_ble_eq_true rfl⟩ (fun s19 H locs q19 h => ?_)
      rcases q19 with rfl
      refine lv_iinc (v := 3) (lv' := [(2, .int 3), (0, .ref (g.2.1 79)), (1, .int 6)]) hx hb dX12_deaf_42 hl (k := 0) rfl (by decide) (by decide) rfl (fun ls hl => ?_)
      refine lv_goto (tgt := 28) hx hb dX12_deaf_45 (by decide) ?_
      refine lv_iload_n hx hb dX12_deaf_28 rfl (lv_at hl 0 rfl) ?_
      refine lv_iload_n hx hb dX12_deaf_29 rfl (lv_at hl 2 rfl) ?_
      refine lv_icmp_ge (tgt := 48) hx hb dX12_deaf_30 (by decide) (fun c => absurd c (by decide)) (fun _ => ?_)
      refine lv_aload_n hx hb dX12_deaf_33 rfl (lv_at hl 1 rfl) ?_
      refine lv_iconst (v := 0) hx hb dX12_deaf_34 (by decide) ?_
      refine lv_iconst (v := 0) hx hb dX12_deaf_35 (by decide) ?_
      refine lv_iconst (v := 0) hx hb dX12_deaf_36 (by decide) ?_
      refine lv_iconst (v := 0) hx hb dX12_deaf_37 (by decide) ?_
      refine lv_iconst (v := 1) hx hb dX12_deaf_38 (by decide) ?_
      refine x_vv E h (na := 5) (As := [.int 0, .int 0, .int 0, .int 0, .int 1]) (kX12_addRow_4 l g _  rfl) (oc_mo g) rfl gX12_deaf_X12_addRow rfl ⟨rfl, rfl⟩ rfl (by decide +kernel) ⟨Nat.le_of_ble_eq_true rfl, Nat.le_of_ble_eq_true rfl⟩ hl.1 rfl (Nat.le_of_ble_eq_true rfl) dX12_deaf_39 ⟨Nat.le_of_ble_eq_true rfl, Nat.le_of_ble_eq_true rfl⟩ (fun s20 H locs q20 h => ?_)
      rcases q20 with rfl
      refine lv_iinc (v := 4) (lv' := [(2, .int 4), (0, .ref (g.2.1 79)), (1, .int 6)]) hx hb dX12_deaf_42 hl (k := 0) rfl (by decide) (by decide) rfl (fun ls hl => ?_)
      refine lv_goto (tgt := 28) hx hb dX12_deaf_45 (by decide) ?_
      refine lv_iload_n hx hb dX12_deaf_28 rfl (lv_at hl 0 rfl) ?_
      refine lv_iload_n hx hb dX12_deaf_29 rfl (lv_at hl 2 rfl) ?_
      refine lv_icmp_ge (tgt := 48) hx hb dX12_deaf_30 (by decide) (fun c => absurd c (by decide)) (fun _ => ?_)
      refine lv_aload_n hx hb dX12_deaf_33 rfl (lv_at hl 1 rfl) ?_
      refine lv_iconst (v := 0) hx hb dX12_deaf_34 (by decide) ?_
      refine lv_iconst (v := 0) hx hb dX12_deaf_35 (by decide) ?_
      refine lv_iconst (v := 0) hx hb dX12_deaf_36 (by decide) ?_
      refine lv_iconst (v := 0) hx hb dX12_deaf_37 (by decide) ?_
      refine lv_iconst (v := 1) hx hb dX12_deaf_38 (by decide) ?_
      refine x_vv E h (na := 5) (As := [.int 0, .int 0, .int 0, .int 0, .int 1]) (kX12_addRow_5 l g _  rfl) (oc_mo g) rfl gX12_deaf_X12_addRow rfl ⟨rfl, rfl⟩ rfl (by decide +kernel) ⟨Nat.le_of_ble_eq_true rfl, Nat.le_of_ble_eq_true rfl⟩ hl.1 rfl (Nat.le_of_ble_eq_true rfl) dX12_deaf_39 ⟨Nat.le_of_ble_eq_true rfl, Nat.le_of_ble_eq_true rfl⟩ (fun s21 H locs q21 h => ?_)
      rcases q21 with rfl
      refine lv_iinc (v := 5) (lv' := [(2, .int 5), (0, .ref (g.2.1 79)), (1, .int 6)]) hx hb dX12_deaf_42 hl (k := 0) rfl (by decide) (by decide) rfl (fun ls hl => ?_)
      refine lv_goto (tgt := 28) hx hb dX12_deaf_45 (by decide) ?_
      refine lv_iload_n hx hb dX12_deaf_28 rfl (lv_at hl 0 rfl) ?_
      refine lv_iload_n hx hb dX12_deaf_29 rfl (lv_at hl 2 rfl) ?_
      refine lv_icmp_ge (tgt := 48) hx hb dX12_deaf_30 (by decide) (fun c => absurd c (by decide)) (fun _ => ?_)
      refine lv_aload_n hx hb dX12_deaf_33 rfl (lv_at hl 1 rfl) ?_
      refine lv_iconst (v := 0) hx hb dX12_deaf_34 (by decide) ?_
      refine lv_iconst (v := 0) hx hb dX12_deaf_35 (by decide) ?_
      refine lv_iconst (v := 0) hx hb dX12_deaf_36 (by decide) ?_
      refine lv_iconst (v := 0) hx hb dX12_deaf_37 (by decide) ?_
      refine lv_iconst (v := 1) hx hb dX12_deaf_38 (by decide) ?_
      refine x_vv E h (na := 5) (As := [.int 0, .int 0, .int 0, .int 0, .int 1]) (kX12_addRow_6 l g _  rfl) (oc_mo g) rfl gX12_deaf_X12_addRow rfl ⟨rfl, rfl⟩ rfl (by decide +kernel) ⟨Nat.le_of_ble_eq_true rfl, Nat.le_of_ble_eq_true rfl⟩ hl.1 rfl (Nat.le_of_ble_eq_true rfl) dX12_deaf_39 ⟨Nat.le_of_ble_eq_true rfl, Nat.le_of_ble_eq_true rfl⟩ (fun s22 H locs q22 h => ?_)
      rcases q22 with rfl
      refine lv_iinc (v := 6) (lv' := [(2, .int 6), (0, .ref (g.2.1 79)), (1, .int 6)]) hx hb dX12_deaf_42 hl (k := 0) rfl (by decide) (by decide) rfl (fun ls hl => ?_)
      refine lv_goto (tgt := 28) hx hb dX12_deaf_45 (by decide) ?_
      refine lv_iload_n hx hb dX12_deaf_28 rfl (lv_at hl 0 rfl) ?_
      refine lv_iload_n hx hb dX12_deaf_29 rfl (lv_at hl 2 rfl) ?_
      refine lv_icmp_ge (tgt := 48) hx hb dX12_deaf_30 (by decide) (fun _ => ?_) (fun c => absurd (by decide) c)
      refine lv_aload_n hx hb dX12_deaf_48 rfl (lv_at hl 1 rfl) ?_
      refine x_getI E h (fi_mo_rows g) rfl hwX12 (by decide) (by decide +kernel) (v := 6) rfl dX12_deaf_49 ?_
      exact x_iret E h (Or.inl ⟨k1_0, rfl⟩) dX12_deaf_52
    · skip
      refine lv_aload_n hx hb dX12_deaf_12 rfl (lv_at hl 0 rfl) ?_
      refine x_getI E h (fi_mo_rows g) rfl hwX12 (by decide) (by decide +kernel) (v := 0) fI_31 dX12_deaf_13 ?_
      refine lv_iload_n hx hb dX12_deaf_16 rfl (lv_at hl 1 rfl) ?_
      refine lv_iadd hx hb dX12_deaf_17 ?_
      refine x_topI (v2 := 7) (by decide) ?_
      refine lv_bipush (v := 48) hx hb dX12_deaf_18 (by decide) ?_
      refine lv_icmp_le (tgt := 26) hx hb dX12_deaf_20 (by decide) (fun _ => ?_) (fun c => absurd (by decide) c)
      refine lv_iconst (v := 0) hx hb dX12_deaf_26 (by decide) ?_
      refine lv_istore_n (lv' := [(2, .int 0), (0, .ref (g.2.1 79)), (1, .int 7)]) hx hb dX12_deaf_27 rfl hl (by decide) rfl (fun ls hl => ?_)
      refine lv_iload_n hx hb dX12_deaf_28 rfl (lv_at hl 0 rfl) ?_
      refine lv_iload_n hx hb dX12_deaf_29 rfl (lv_at hl 2 rfl) ?_
      refine lv_icmp_ge (tgt := 48) hx hb dX12_deaf_30 (by decide) (fun c => absurd c (by decide)) (fun _ => ?_)
      refine lv_aload_n hx hb dX12_deaf_33 rfl (lv_at hl 1 rfl) ?_
      refine lv_iconst (v := 0) hx hb dX12_deaf_34 (by decide) ?_
      refine lv_iconst (v := 0) hx hb dX12_deaf_35 (by decide) ?_
      refine lv_iconst (v := 0) hx hb dX12_deaf_36 (by decide) ?_
      refine lv_iconst (v := 0) hx hb dX12_deaf_37 (by decide) ?_
      refine lv_iconst (v := 1) hx hb dX12_deaf_38 (by decide) ?_
      refine x_vv E h (na := 5) (As := [.int 0, .int 0, .int 0, .int 0, .int 1]) (kX12_addRow_1 l g _  fI_31) (oc_mo g) rfl gX12_deaf_X12_addRow rfl ⟨rfl, rfl⟩ rfl (by decide +kernel) ⟨Nat.le_of_ble_eq_true rfl, Nat.le_of_ble_eq_true rfl⟩ hl.1 rfl (Nat.le_of_ble_eq_true rfl) dX12_deaf_39 ⟨Nat.le_of_ble_eq_true rfl, Nat.le_of_ble_eq_true rfl⟩ (fun s23 H locs q23 h => ?_)
      rcases q23 with rfl
      refine lv_iinc (v := 1) (lv' := [(2, .int 1), (0, .ref (g.2.1 79)), (1, .int 7)]) hx hb dX12_deaf_42 hl (k := 0) rfl (by decide) (by decide) rfl (fun ls hl => ?_)
      refine lv_goto (tgt := 28) hx hb dX12_deaf_45 (by decide) ?_
      refine lv_iload_n hx hb dX12_deaf_28 rfl (lv_at hl 0 rfl) ?_
      refine lv_iload_n hx hb dX12_deaf_29 rfl (lv_at hl 2 rfl) ?_
      refine lv_icmp_ge (tgt := 48) hx hb dX12_deaf_30 (by decide) (fun c => absurd c (by decide)) (fun _ => ?_)
      refine lv_aload_n hx hb dX12_deaf_33 rfl (lv_at hl 1 rfl) ?_
      refine lv_iconst (v := 0) hx hb dX12_deaf_34 (by decide) ?_
      refine lv_iconst (v := 0) hx hb dX12_deaf_35 (by decide) ?_
      refine lv_iconst (v := 0) hx hb dX12_deaf_36 (by decide) ?_
      refine lv_iconst (v := 0) hx hb dX12_deaf_37 (by decide) ?_
      refine lv_iconst (v := 1) hx hb dX12_deaf_38 (by decide) ?_
      refine x_vv E h (na := 5) (As := [.int 0, .int 0, .int 0, .int 0, .int 1]) (kX12_addRow_2 l g _  rfl) (oc_mo g) rfl gX12_deaf_X12_addRow rfl ⟨rfl, rfl⟩ rfl (by decide +kernel) ⟨Nat.le_of_ble_eq_true rfl, Nat.le_of_ble_eq_true rfl⟩ hl.1 rfl (Nat.le_of_ble_eq_true rfl) dX12_deaf_39 ⟨Nat.le_of_ble_eq_true rfl, Nat.le_of_ble_eq_true rfl⟩ (fun s24 H locs q24 h => ?_)
      rcases q24 with rfl
      refine lv_iinc (v := 2) (lv' := [(2, .int 2), (0, .ref (g.2.1 79)), (1, .int 7)]) hx hb dX12_deaf_42 hl (k := 0) rfl (by decide) (by decide) rfl (fun ls hl => ?_)
      refine lv_goto (tgt := 28) hx hb dX12_deaf_45 (by decide) ?_
      refine lv_iload_n hx hb dX12_deaf_28 rfl (lv_at hl 0 rfl) ?_
      refine lv_iload_n hx hb dX12_deaf_29 rfl (lv_at hl 2 rfl) ?_
      refine lv_icmp_ge (tgt := 48) hx hb dX12_deaf_30 (by decide) (fun c => absurd c (by decide)) (fun _ => ?_)
      refine lv_aload_n hx hb dX12_deaf_33 rfl (lv_at hl 1 rfl) ?_
      refine lv_iconst (v := 0) hx hb dX12_deaf_34 (by decide) ?_
      refine lv_iconst (v := 0) hx hb dX12_deaf_35 (by decide) ?_
      refine lv_iconst (v := 0) hx hb dX12_deaf_36 (by decide) ?_
      refine lv_iconst (v := 0) hx hb dX12_deaf_37 (by decide) ?_
      refine lv_iconst (v := 1) hx hb dX12_deaf_38 (by decide) ?_
      refine x_vv E h (na := 5) (As := [.int 0, .int 0, .int 0, .int 0, .int 1]) (kX12_addRow_3 l g _  rfl) (oc_mo g) rfl gX12_deaf_X12_addRow rfl ⟨rfl, rfl⟩ rfl (by decide +kernel) ⟨Nat.le_of_ble_eq_true rfl, Nat.le_of_ble_eq_true rfl⟩ hl.1 rfl (Nat.le_of_ble_eq_true rfl) dX12_deaf_39 ⟨Nat.le_of_ble_eq_true rfl, Nat.le_of_ble_eq_true rfl⟩ (fun s25 H locs q25 h => ?_)
      rcases q25 with rfl
      refine lv_iinc (v := 3) (lv' := [(2, .int 3), (0, .ref (g.2.1 79)), (1, .int 7)]) hx hb dX12_deaf_42 hl (k := 0) rfl (by decide) (by decide) rfl (fun ls hl => ?_)
      refine lv_goto (tgt := 28) hx hb dX12_deaf_45 (by decide) ?_
      refine lv_iload_n hx hb dX12_deaf_28 rfl (lv_at hl 0 rfl) ?_
      refine lv_iload_n hx hb dX12_deaf_29 rfl (lv_at hl 2 rfl) ?_
      refine lv_icmp_ge (tgt := 48) hx hb dX12_deaf_30 (by decide) (fun c => absurd c (by decide)) (fun _ => ?_)
      refine lv_aload_n hx hb dX12_deaf_33 rfl (lv_at hl 1 rfl) ?_
      refine lv_iconst (v := 0) hx hb dX12_deaf_34 (by decide) ?_
      refine lv_iconst (v := 0) hx hb dX12_deaf_35 (by decide) ?_
      refine lv_iconst (v := 0) hx hb dX12_deaf_36 (by decide) ?_
      refine lv_iconst (v := 0) hx hb dX12_deaf_37 (by decide) ?_
      refine lv_iconst (v := 1) hx hb dX12_deaf_38 (by decide) ?_
      refine x_vv E h (na := 5) (As := [.int 0, .int 0, .int 0, .int 0, .int 1]) (kX12_addRow_4 l g _  rfl) (oc_mo g) rfl gX12_deaf_X12_addRow rfl ⟨rfl, rfl⟩ rfl (by decide +kernel) ⟨Nat.le_of_ble_eq_true rfl, Nat.le_of_ble_eq_true rfl⟩ hl.1 rfl (Nat.le_of_ble_eq_true rfl) dX12_deaf_39 ⟨Nat.le_of_ble_eq_true rfl, Nat.le_of_ble_eq_true rfl⟩ (fun s26 H locs q26 h => ?_)
      rcases q26 with rfl
      refine lv_iinc (v := 4) (lv' := [(2, .int 4), (0, .ref (g.2.1 79)), (1, .int 7)]) hx hb dX12_deaf_42 hl (k := 0) rfl (by decide) (by decide) rfl (fun ls hl => ?_)
      refine lv_goto (tgt := 28) hx hb dX12_deaf_45 (by decide) ?_
      refine lv_iload_n hx hb dX12_deaf_28 rfl (lv_at hl 0 rfl) ?_
      refine lv_iload_n hx hb dX12_deaf_29 rfl (lv_at hl 2 rfl) ?_
      refine lv_icmp_ge (tgt := 48) hx hb dX12_deaf_30 (by decide) (fun c => absurd c (by decide)) (fun _ => ?_)
      refine lv_aload_n hx hb dX12_deaf_33 rfl (lv_at hl 1 rfl) ?_
      refine lv_iconst (v := 0) hx hb dX12_deaf_34 (by decide) ?_
      refine lv_iconst (v := 0) hx hb dX12_deaf_35 (by decide) ?_
      refine lv_iconst (v := 0) hx hb dX12_deaf_36 (by decide) ?_
      refine lv_iconst (v := 0) hx hb dX12_deaf_37 (by decide) ?_
      refine lv_iconst (v := 1) hx hb dX12_deaf_38 (by decide) ?_
      refine x_vv E h (na := 5) (As := [.int 0, .int 0, .int 0, .int 0, .int 1]) (kX12_addRow_5 l g _  rfl) (oc_mo g) rfl gX12_deaf_X12_addRow rfl ⟨rfl, rfl⟩ rfl (by decide +kernel) ⟨Nat.le_of_ble_eq_true rfl, Nat.le_of_ble_eq_true rfl⟩ hl.1 rfl (Nat.le_of_ble_eq_true rfl) dX12_deaf_39 ⟨Nat.le_of_ble_eq_true rfl, Nat.le_of_ble_eq_true rfl⟩ (fun s27 H locs q27 h => ?_)
      rcases q27 with rfl
      refine lv_iinc (v := 5) (lv' := [(2, .int 5), (0, .ref (g.2.1 79)), (1, .int 7)]) hx hb dX12_deaf_42 hl (k := 0) rfl (by decide) (by decide) rfl (fun ls hl => ?_)
      refine lv_goto (tgt := 28) hx hb dX12_deaf_45 (by decide) ?_
      refine lv_iload_n hx hb dX12_deaf_28 rfl (lv_at hl 0 rfl) ?_
      refine lv_iload_n hx hb dX12_deaf_29 rfl (lv_at hl 2 rfl) ?_
      refine lv_icmp_ge (tgt := 48) hx hb dX12_deaf_30 (by decide) (fun c => absurd c (by decide)) (fun _ => ?_)
      refine lv_aload_n hx hb dX12_deaf_33 rfl (lv_at hl 1 rfl) ?_
      refine lv_iconst (v := 0) hx hb dX12_deaf_34 (by decide) ?_
      refine lv_iconst (v := 0) hx hb dX12_deaf_35 (by decide) ?_
      refine lv_iconst (v := 0) hx hb dX12_deaf_36 (by decide) ?_
      refine lv_iconst (v := 0) hx hb dX12_deaf_37 (by decide) ?_
      refine lv_iconst (v := 1) hx hb dX12_deaf_38 (by decide) ?_
      refine x_vv E h (na := 5) (As := [.int 0, .int 0, .int 0, .int 0, .int 1]) (kX12_addRow_6 l g _  rfl) (oc_mo g) rfl gX12_deaf_X12_addRow rfl ⟨rfl, rfl⟩ rfl (by decide +kernel) ⟨Nat.le_of_ble_eq_true rfl, Nat.le_of_ble_eq_true rfl⟩ hl.1 rfl (Nat.le_of_ble_eq_true rfl) dX12_deaf_39 ⟨Nat.le_of_ble_eq_true rfl, Nat.le_of_ble_eq_true rfl⟩ (fun s28 H locs q28 h => ?_)
      rcases q28 with rfl
      refine lv_iinc (v := 6) (lv' := [(2, .int 6), (0, .ref (g.2.1 79)), (1, .int 7)]) hx hb dX12_deaf_42 hl (k := 0) rfl (by decide) (by decide) rfl (fun ls hl => ?_)
      refine lv_goto (tgt := 28) hx hb dX12_deaf_45 (by decide) ?_
      refine lv_iload_n hx hb dX12_deaf_28 rfl (lv_at hl 0 rfl) ?_
      refine lv_iload_n hx hb dX12_deaf_29 rfl (lv_at hl 2 rfl) ?_
      refine lv_icmp_ge (tgt := 48) hx hb dX12_deaf_30 (by decide) (fun c => absurd c (by decide)) (fun _ => ?_)
      refine lv_aload_n hx hb dX12_deaf_33 rfl (lv_at hl 1 rfl) ?_
      refine lv_iconst (v := 0) hx hb dX12_deaf_34 (by decide) ?_
      refine lv_iconst (v := 0) hx hb dX12_deaf_35 (by decide) ?_
      refine lv_iconst (v := 0) hx hb dX12_deaf_36 (by decide) ?_
      refine lv_iconst (v := 0) hx hb dX12_deaf_37 (by decide) ?_
      refine lv_iconst (v := 1) hx hb dX12_deaf_38 (by decide) ?_
      refine x_vv E h (na := 5) (As := [.int 0, .int 0, .int 0, .int 0, .int 1]) (kX12_addRow_7 l g _  rfl) (oc_mo g) rfl gX12_deaf_X12_addRow rfl ⟨rfl, rfl⟩ rfl (by decide +kernel) ⟨Nat.le_of_ble_eq_true rfl, Nat.le_of_ble_eq_true rfl⟩ hl.1 rfl (Nat.le_of_ble_eq_true rfl) dX12_deaf_39 ⟨Nat.le_of_ble_eq_true rfl, Nat.le_of_ble_eq_true rfl⟩ (fun s29 H locs q29 h => ?_)
      rcases q29 with rfl
      refine lv_iinc (v := 7) (lv' := [(2, .int 7), (0, .ref (g.2.1 79)), (1, .int 7)]) hx hb dX12_deaf_42 hl (k := 0) rfl (by decide) (by decide) rfl (fun ls hl => ?_)
      refine lv_goto (tgt := 28) hx hb dX12_deaf_45 (by decide) ?_
      refine lv_iload_n hx hb dX12_deaf_28 rfl (lv_at hl 0 rfl) ?_
      refine lv_iload_n hx hb dX12_deaf_29 rfl (lv_at hl 2 rfl) ?_
      refine lv_icmp_ge (tgt := 48) hx hb dX12_deaf_30 (by decide) (fun _ => ?_) (fun c => absurd (by decide) c)
      refine lv_aload_n hx hb dX12_deaf_48 rfl (lv_at hl 1 rfl) ?_
      refine x_getI E h (fi_mo_rows g) rfl hwX12 (by decide) (by decide +kernel) (v := 7) rfl dX12_deaf_49 ?_
      exact x_iret E h (Or.inl ⟨k1_0, rfl⟩) dX12_deaf_52
    · skip
      refine lv_aload_n hx hb dX12_deaf_12 rfl (lv_at hl 0 rfl) ?_
      refine x_getI E h (fi_mo_rows g) rfl hwX12 (by decide) (by decide +kernel) (v := 0) fI_31 dX12_deaf_13 ?_
      refine lv_iload_n hx hb dX12_deaf_16 rfl (lv_at hl 1 rfl) ?_
      refine lv_iadd hx hb dX12_deaf_17 ?_
      refine x_topI (v2 := 8) (by decide) ?_
      refine lv_bipush (v := 48) hx hb dX12_deaf_18 (by decide) ?_
      refine lv_icmp_le (tgt := 26) hx hb dX12_deaf_20 (by decide) (fun _ => ?_) (fun c => absurd (by decide) c)
      refine lv_iconst (v := 0) hx hb dX12_deaf_26 (by decide) ?_
      refine lv_istore_n (lv' := [(2, .int 0), (0, .ref (g.2.1 79)), (1, .int 8)]) hx hb dX12_deaf_27 rfl hl (by decide) rfl (fun ls hl => ?_)
      refine lv_iload_n hx hb dX12_deaf_28 rfl (lv_at hl 0 rfl) ?_
      refine lv_iload_n hx hb dX12_deaf_29 rfl (lv_at hl 2 rfl) ?_
      refine lv_icmp_ge (tgt := 48) hx hb dX12_deaf_30 (by decide) (fun c => absurd c (by decide)) (fun _ => ?_)
      refine lv_aload_n hx hb dX12_deaf_33 rfl (lv_at hl 1 rfl) ?_
      refine lv_iconst (v := 0) hx hb dX12_deaf_34 (by decide) ?_
      refine lv_iconst (v := 0) hx hb dX12_deaf_35 (by decide) ?_
      refine lv_iconst (v := 0) hx hb dX12_deaf_36 (by decide) ?_
      refine lv_iconst (v := 0) hx hb dX12_deaf_37 (by decide) ?_
      refine lv_iconst (v := 1) hx hb dX12_deaf_38 (by decide) ?_
      refine x_vv E h (na := 5) (As := [.int 0, .int 0, .int 0, .int 0, .int 1]) (kX12_addRow_1 l g _  fI_31) (oc_mo g) rfl gX12_deaf_X12_addRow rfl ⟨rfl, rfl⟩ rfl (by decide +kernel) ⟨Nat.le_of_ble_eq_true rfl, Nat.le_of_ble_eq_true rfl⟩ hl.1 rfl (Nat.le_of_ble_eq_true rfl) dX12_deaf_39 ⟨Nat.le_of_ble_eq_true rfl, Nat.le_of_ble_eq_true rfl⟩ (fun s30 H locs q30 h => ?_)
      rcases q30 with rfl
      refine lv_iinc (v := 1) (lv' := [(2, .int 1), (0, .ref (g.2.1 79)), (1, .int 8)]) hx hb dX12_deaf_42 hl (k := 0) rfl (by decide) (by decide) rfl (fun ls hl => ?_)
      refine lv_goto (tgt := 28) hx hb dX12_deaf_45 (by decide) ?_
      refine lv_iload_n hx hb dX12_deaf_28 rfl (lv_at hl 0 rfl) ?_
      refine lv_iload_n hx hb dX12_deaf_29 rfl (lv_at hl 2 rfl) ?_
      refine lv_icmp_ge (tgt := 48) hx hb dX12_deaf_30 (by decide) (fun c => absurd c (by decide)) (fun _ => ?_)
      refine lv_aload_n hx hb dX12_deaf_33 rfl (lv_at hl 1 rfl) ?_
      refine lv_iconst (v := 0) hx hb dX12_deaf_34 (by decide) ?_
      refine lv_iconst (v := 0) hx hb dX12_deaf_35 (by decide) ?_
      refine lv_iconst (v := 0) hx hb dX12_deaf_36 (by decide) ?_
      refine lv_iconst (v := 0) hx hb dX12_deaf_37 (by decide) ?_
      refine lv_iconst (v := 1) hx hb dX12_deaf_38 (by decide) ?_
      refine x_vv E h (na := 5) (As := [.int 0, .int 0, .int 0, .int 0, .int 1]) (kX12_addRow_2 l g _  rfl) (oc_mo g) rfl gX12_deaf_X12_addRow rfl ⟨rfl, rfl⟩ rfl (by decide +kernel) ⟨Nat.le_of_ble_eq_true rfl, Nat.le_of_ble_eq_true rfl⟩ hl.1 rfl (Nat.le_of_ble_eq_true rfl) dX12_deaf_39 ⟨Nat.le_of_ble_eq_true rfl, Nat.le_of_ble_eq_true rfl⟩ (fun s31 H locs q31 h => ?_)
      rcases q31 with rfl
      refine lv_iinc (v := 2) (lv' := [(2, .int 2), (0, .ref (g.2.1 79)), (1, .int 8)]) hx hb dX12_deaf_42 hl (k := 0) rfl (by decide) (by decide) rfl (fun ls hl => ?_)
      refine lv_goto (tgt := 28) hx hb dX12_deaf_45 (by decide) ?_
      refine lv_iload_n hx hb dX12_deaf_28 rfl (lv_at hl 0 rfl) ?_
      refine lv_iload_n hx hb dX12_deaf_29 rfl (lv_at hl 2 rfl) ?_
      refine lv_icmp_ge (tgt := 48) hx hb dX12_deaf_30 (by decide) (fun c => absurd c (by decide)) (fun _ => ?_)
      refine lv_aload_n hx hb dX12_deaf_33 rfl (lv_at hl 1 rfl) ?_
      refine lv_iconst (v := 0) hx hb dX12_deaf_34 (by decide) ?_
      refine lv_iconst (v := 0) hx hb dX12_deaf_35 (by decide) ?_
      refine lv_iconst (v := 0) hx hb dX12_deaf_36 (by decide) ?_
      refine lv_iconst (v := 0) hx hb dX12_deaf_37 (by decide) ?_
      refine lv_iconst (v := 1) hx hb dX12_deaf_38 (by decide) ?_
      refine x_vv E h (na := 5) (As := [.int 0, .int 0, .int 0, .int 0, .int 1]) (kX12_addRow_3 l g _  rfl) (oc_mo g) rfl gX12_deaf_X12_addRow rfl ⟨rfl, rfl⟩ rfl (by decide +kernel) ⟨Nat.le_of_ble_eq_true rfl, Nat.le_of_ble_eq_true rfl⟩ hl.1 rfl (Nat.le_of_ble_eq_true rfl) dX12_deaf_39 ⟨Nat.le_of_ble_eq_true rfl, Nat.le_of_ble_eq_true rfl⟩ (fun s32 H locs q32 h => ?_)
      rcases q32 with rfl
      refine lv_iinc (v := 3) (lv' := [(2, .int 3), (0, .ref (g.2.1 79)), (1, .int 8)]) hx hb dX12_deaf_42 hl (k := 0) rfl (by decide) (by decide) rfl (fun ls hl => ?_)
      refine lv_goto (tgt := 28) hx hb dX12_deaf_45 (by decide) ?_
      refine lv_iload_n hx hb dX12_deaf_28 rfl (lv_at hl 0 rfl) ?_
      refine lv_iload_n hx hb dX12_deaf_29 rfl (lv_at hl 2 rfl) ?_
      refine lv_icmp_ge (tgt := 48) hx hb dX12_deaf_30 (by decide) (fun c => absurd c (by decide)) (fun _ => ?_)
      refine lv_aload_n hx hb dX12_deaf_33 rfl (lv_at hl 1 rfl) ?_
      refine lv_iconst (v := 0) hx hb dX12_deaf_34 (by decide) ?_
      refine lv_iconst (v := 0) hx hb dX12_deaf_35 (by decide) ?_
      refine lv_iconst (v := 0) hx hb dX12_deaf_36 (by decide) ?_
      refine lv_iconst (v := 0) hx hb dX12_deaf_37 (by decide) ?_
      refine lv_iconst (v := 1) hx hb dX12_deaf_38 (by decide) ?_
      refine x_vv E h (na := 5) (As := [.int 0, .int 0, .int 0, .int 0, .int 1]) (kX12_addRow_4 l g _  rfl) (oc_mo g) rfl gX12_deaf_X12_addRow rfl ⟨rfl, rfl⟩ rfl (by decide +kernel) ⟨Nat.le_of_ble_eq_true rfl, Nat.le_of_ble_eq_true rfl⟩ hl.1 rfl (Nat.le_of_ble_eq_true rfl) dX12_deaf_39 ⟨Nat.le_of_ble_eq_true rfl, Nat.le_of_ble_eq_true rfl⟩ (fun s33 H locs q33 h => ?_)
      rcases q33 with rfl
      refine lv_iinc (v := 4) (lv' := [(2, .int 4), (0, .ref (g.2.1 79)), (1, .int 8)]) hx hb dX12_deaf_42 hl (k := 0) rfl (by decide) (by decide) rfl (fun ls hl => ?_)
      refine lv_goto (tgt := 28) hx hb dX12_deaf_45 (by decide) ?_
      refine lv_iload_n hx hb dX12_deaf_28 rfl (lv_at hl 0 rfl) ?_
      refine lv_iload_n hx hb dX12_deaf_29 rfl (lv_at hl 2 rfl) ?_
      refine lv_icmp_ge (tgt := 48) hx hb dX12_deaf_30 (by decide) (fun c => absurd c (by decide)) (fun _ => ?_)
      refine lv_aload_n hx hb dX12_deaf_33 rfl (lv_at hl 1 rfl) ?_
      refine lv_iconst (v := 0) hx hb dX12_deaf_34 (by decide) ?_
      refine lv_iconst (v := 0) hx hb dX12_deaf_35 (by decide) ?_
      refine lv_iconst (v := 0) hx hb dX12_deaf_36 (by decide) ?_
      refine lv_iconst (v := 0) hx hb dX12_deaf_37 (by decide) ?_
      refine lv_iconst (v := 1) hx hb dX12_deaf_38 (by decide) ?_
      refine x_vv E h (na := 5) (As := [.int 0, .int 0, .int 0, .int 0, .int 1]) (kX12_addRow_5 l g _  rfl) (oc_mo g) rfl gX12_deaf_X12_addRow rfl ⟨rfl, rfl⟩ rfl (by decide +kernel) ⟨Nat.le_of_ble_eq_true rfl, Nat.le_of_ble_eq_true rfl⟩ hl.1 rfl (Nat.le_of_ble_eq_true rfl) dX12_deaf_39 ⟨Nat.le_of_ble_eq_true rfl, Nat.le_of_ble_eq_true rfl⟩ (fun s34 H locs q34 h => ?_)
      rcases q34 with rfl
      refine lv_iinc (v := 5) (lv' := [(2, .int 5), (0, .ref (g.2.1 79)), (1, .int 8)]) hx hb dX12_deaf_42 hl (k := 0) rfl (by decide) (by decide) rfl (fun ls hl => ?_)
      refine lv_goto (tgt := 28) hx hb dX12_deaf_45 (by decide) ?_
      refine lv_iload_n hx hb dX12_deaf_28 rfl (lv_at hl 0 rfl) ?_
      refine lv_iload_n hx hb dX12_deaf_29 rfl (lv_at hl 2 rfl) ?_
      refine lv_icmp_ge (tgt := 48) hx hb dX12_deaf_30 (by decide) (fun c => absurd c (by decide)) (fun _ => ?_)
      refine lv_aload_n hx hb dX12_deaf_33 rfl (lv_at hl 1 rfl) ?_
      refine lv_iconst (v := 0) hx hb dX12_deaf_34 (by decide) ?_
      refine lv_iconst (v := 0) hx hb dX12_deaf_35 (by decide) ?_
      refine lv_iconst (v := 0) hx hb dX12_deaf_36 (by decide) ?_
      refine lv_iconst (v := 0) hx hb dX12_deaf_37 (by decide) ?_
      refine lv_iconst (v := 1) hx hb dX12_deaf_38 (by decide) ?_
      refine x_vv E h (na := 5) (As := [.int 0, .int 0, .int 0, .int 0, .int 1]) (kX12_addRow_6 l g _  rfl) (oc_mo g) rfl gX12_deaf_X12_addRow rfl ⟨rfl, rfl⟩ rfl (by decide +kernel) ⟨Nat.le_of_ble_eq_true rfl, Nat.le_of_ble_eq_true rfl⟩ hl.1 rfl (Nat.le_of_ble_eq_true rfl) dX12_deaf_39 ⟨Nat.le_of_ble_eq_true rfl, Nat.le_of_ble_eq_true rfl⟩ (fun s35 H locs q35 h => ?_)
      rcases q35 with rfl
      refine lv_iinc (v := 6) (lv' := [(2, .int 6), (0, .ref (g.2.1 79)), (1, .int 8)]) hx hb dX12_deaf_42 hl (k := 0) rfl (by decide) (by decide) rfl (fun ls hl => ?_)
      refine lv_goto (tgt := 28) hx hb dX12_deaf_45 (by decide) ?_
      refine lv_iload_n hx hb dX12_deaf_28 rfl (lv_at hl 0 rfl) ?_
      refine lv_iload_n hx hb dX12_deaf_29 rfl (lv_at hl 2 rfl) ?_
      refine lv_icmp_ge (tgt := 48) hx hb dX12_deaf_30 (by decide) (fun c => absurd c (by decide)) (fun _ => ?_)
      refine lv_aload_n hx hb dX12_deaf_33 rfl (lv_at hl 1 rfl) ?_
      refine lv_iconst (v := 0) hx hb dX12_deaf_34 (by decide) ?_
      refine lv_iconst (v := 0) hx hb dX12_deaf_35 (by decide) ?_
      refine lv_iconst (v := 0) hx hb dX12_deaf_36 (by decide) ?_
      refine lv_iconst (v := 0) hx hb dX12_deaf_37 (by decide) ?_
      refine lv_iconst (v := 1) hx hb dX12_deaf_38 (by decide) ?_
      refine x_vv E h (na := 5) (As := [.int 0, .int 0, .int 0, .int 0, .int 1]) (kX12_addRow_7 l g _  rfl) (oc_mo g) rfl gX12_deaf_X12_addRow rfl ⟨rfl, rfl⟩ rfl (by decide +kernel) ⟨Nat.le_of_ble_eq_true rfl, Nat.le_of_ble_eq_true rfl⟩ hl.1 rfl (Nat.le_of_ble_eq_true rfl) dX12_deaf_39 ⟨Nat.le_of_ble_eq_true rfl, Nat.le_of_ble_eq_true rfl⟩ (fun s36 H locs q36 h => ?_)
      rcases q36 with rfl
      refine lv_iinc (v := 7) (lv' := [(2, .int 7), (0, .ref (g.2.1 79)), (1, .int 8)]) hx hb dX12_deaf_42 hl (k := 0) rfl (by decide) (by decide) rfl (fun ls hl => ?_)
      refine lv_goto (tgt := 28) hx hb dX12_deaf_45 (by decide) ?_
      refine lv_iload_n hx hb dX12_deaf_28 rfl (lv_at hl 0 rfl) ?_
      refine lv_iload_n hx hb dX12_deaf_29 rfl (lv_at hl 2 rfl) ?_
      refine lv_icmp_ge (tgt := 48) hx hb dX12_deaf_30 (by decide) (fun c => absurd c (by decide)) (fun _ => ?_)
      refine lv_aload_n hx hb dX12_deaf_33 rfl (lv_at hl 1 rfl) ?_
      refine lv_iconst (v := 0) hx hb dX12_deaf_34 (by decide) ?_
      refine lv_iconst (v := 0) hx hb dX12_deaf_35 (by decide) ?_
      refine lv_iconst (v := 0) hx hb dX12_deaf_36 (by decide) ?_
      refine lv_iconst (v := 0) hx hb dX12_deaf_37 (by decide) ?_
      refine lv_iconst (v := 1) hx hb dX12_deaf_38 (by decide) ?_
      refine x_vv E h (na := 5) (As := [.int 0, .int 0, .int 0, .int 0, .int 1]) (kX12_addRow_8 l g _  rfl) (oc_mo g) rfl gX12_deaf_X12_addRow rfl ⟨rfl, rfl⟩ rfl (by decide +kernel) ⟨Nat.le_of_ble_eq_true rfl, Nat.le_of_ble_eq_true rfl⟩ hl.1 rfl (Nat.le_of_ble_eq_true rfl) dX12_deaf_39 ⟨Nat.le_of_ble_eq_true rfl, Nat.le_of_ble_eq_true rfl⟩ (fun s37 H locs q37 h => ?_)
      rcases q37 with rfl
      refine lv_iinc (v := 8) (lv' := [(2, .int 8), (0, .ref (g.2.1 79)), (1, .int 8)]) hx hb dX12_deaf_42 hl (k := 0) rfl (by decide) (by decide) rfl (fun ls hl => ?_)
      refine lv_goto (tgt := 28) hx hb dX12_deaf_45 (by decide) ?_
      refine lv_iload_n hx hb dX12_deaf_28 rfl (lv_at hl 0 rfl) ?_
      refine lv_iload_n hx hb dX12_deaf_29 rfl (lv_at hl 2 rfl) ?_
      refine lv_icmp_ge (tgt := 48) hx hb dX12_deaf_30 (by decide) (fun _ => ?_) (fun c => absurd (by decide) c)
      refine lv_aload_n hx hb dX12_deaf_48 rfl (lv_at hl 1 rfl) ?_
      refine x_getI E h (fi_mo_rows g) rfl hwX12 (by decide) (by decide +kernel) (v := 8) rfl dX12_deaf_49 ?_
      exact x_iret E h (Or.inl ⟨k1_0, rfl⟩) dX12_deaf_52
    · skip
      refine lv_aload_n hx hb dX12_deaf_12 rfl (lv_at hl 0 rfl) ?_
      refine x_getI E h (fi_mo_rows g) rfl hwX12 (by decide) (by decide +kernel) (v := 0) fI_31 dX12_deaf_13 ?_
      refine lv_iload_n hx hb dX12_deaf_16 rfl (lv_at hl 1 rfl) ?_
      refine lv_iadd hx hb dX12_deaf_17 ?_
      refine x_topI (v2 := 9) (by decide) ?_
      refine lv_bipush (v := 48) hx hb dX12_deaf_18 (by decide) ?_
      refine lv_icmp_le (tgt := 26) hx hb dX12_deaf_20 (by decide) (fun _ => ?_) (fun c => absurd (by decide) c)
      refine lv_iconst (v := 0) hx hb dX12_deaf_26 (by decide) ?_
      refine lv_istore_n (lv' := [(2, .int 0), (0, .ref (g.2.1 79)), (1, .int 9)]) hx hb dX12_deaf_27 rfl hl (by decide) rfl (fun ls hl => ?_)
      refine lv_iload_n hx hb dX12_deaf_28 rfl (lv_at hl 0 rfl) ?_
      refine lv_iload_n hx hb dX12_deaf_29 rfl (lv_at hl 2 rfl) ?_
      refine lv_icmp_ge (tgt := 48) hx hb dX12_deaf_30 (by decide) (fun c => absurd c (by decide)) (fun _ => ?_)
      refine lv_aload_n hx hb dX12_deaf_33 rfl (lv_at hl 1 rfl) ?_
      refine lv_iconst (v := 0) hx hb dX12_deaf_34 (by decide) ?_
      refine lv_iconst (v := 0) hx hb dX12_deaf_35 (by decide) ?_
      refine lv_iconst (v := 0) hx hb dX12_deaf_36 (by decide) ?_
      refine lv_iconst (v := 0) hx hb dX12_deaf_37 (by decide) ?_
      refine lv_iconst (v := 1) hx hb dX12_deaf_38 (by decide) ?_
      refine x_vv E h (na := 5) (As := [.int 0, .int 0, .int 0, .int 0, .int 1]) (kX12_addRow_1 l g _  fI_31) (oc_mo g) rfl gX12_deaf_X12_addRow rfl ⟨rfl, rfl⟩ rfl (by decide +kernel) ⟨Nat.le_of_ble_eq_true rfl, Nat.le_of_ble_eq_true rfl⟩ hl.1 rfl (Nat.le_of_ble_eq_true rfl) dX12_deaf_39 ⟨Nat.le_of_ble_eq_true rfl, Nat.le_of_ble_eq_true rfl⟩ (fun s38 H locs q38 h => ?_)
      rcases q38 with rfl
      refine lv_iinc (v := 1) (lv' := [(2, .int 1), (0, .ref (g.2.1 79)), (1, .int 9)]) hx hb dX12_deaf_42 hl (k := 0) rfl (by decide) (by decide) rfl (fun ls hl => ?_)
      refine lv_goto (tgt := 28) hx hb dX12_deaf_45 (by decide) ?_
      refine lv_iload_n hx hb dX12_deaf_28 rfl (lv_at hl 0 rfl) ?_
      refine lv_iload_n hx hb dX12_deaf_29 rfl (lv_at hl 2 rfl) ?_
      refine lv_icmp_ge (tgt := 48) hx hb dX12_deaf_30 (by decide) (fun c => absurd c (by decide)) (fun _ => ?_)
      refine lv_aload_n hx hb dX12_deaf_33 rfl (lv_at hl 1 rfl) ?_
      refine lv_iconst (v := 0) hx hb dX12_deaf_34 (by decide) ?_
      refine lv_iconst (v := 0) hx hb dX12_deaf_35 (by decide) ?_
      refine lv_iconst (v := 0) hx hb dX12_deaf_36 (by decide) ?_
      refine lv_iconst (v := 0) hx hb dX12_deaf_37 (by decide) ?_
      refine lv_iconst (v := 1) hx hb dX12_deaf_38 (by decide) ?_
      refine x_vv E h (na := 5) (As := [.int 0, .int 0, .int 0, .int 0, .int 1]) (kX12_addRow_2 l g _  rfl) (oc_mo g) rfl gX12_deaf_X12_addRow rfl ⟨rfl, rfl⟩ rfl (by decide +kernel) ⟨Nat.le_of_ble_eq_true rfl, Nat.le_of_ble_eq_true rfl⟩ hl.1 rfl (Nat.le_of_ble_eq_true rfl) dX12_deaf_39 ⟨Nat.le_of_ble_eq_true rfl, Nat.le_of_ble_eq_true rfl⟩ (fun s39 H locs q39 h => ?_)
      rcases q39 with rfl
      refine lv_iinc (v := 2) (lv' := [(2, .int 2), (0, .ref (g.2.1 79)), (1, .int 9)]) hx hb dX12_deaf_42 hl (k := 0) rfl (by decide) (by decide) rfl (fun ls hl => ?_)
      refine lv_goto (tgt := 28) hx hb dX12_deaf_45 (by decide) ?_
      refine lv_iload_n hx hb dX12_deaf_28 rfl (lv_at hl 0 rfl) ?_
      refine lv_iload_n hx hb dX12_deaf_29 rfl (lv_at hl 2 rfl) ?_
      refine lv_icmp_ge (tgt := 48) hx hb dX12_deaf_30 (by decide) (fun c => absurd c (by decide)) (fun _ => ?_)
      refine lv_aload_n hx hb dX12_deaf_33 rfl (lv_at hl 1 rfl) ?_
      refine lv_iconst (v := 0) hx hb dX12_deaf_34 (by decide) ?_
      refine lv_iconst (v := 0) hx hb dX12_deaf_35 (by decide) ?_
      refine lv_iconst (v := 0) hx hb dX12_deaf_36 (by decide) ?_
      refine lv_iconst (v := 0) hx hb dX12_deaf_37 (by decide) ?_
      refine lv_iconst (v := 1) hx hb dX12_deaf_38 (by decide) ?_
      refine x_vv E h (na := 5) (As := [.int 0, .int 0, .int 0, .int 0, .int 1]) (kX12_addRow_3 l g _  rfl) (oc_mo g) rfl gX12_deaf_X12_addRow rfl ⟨rfl, rfl⟩ rfl (by decide +kernel) ⟨Nat.le_of_ble_eq_true rfl, Nat.le_of_ble_eq_true rfl⟩ hl.1 rfl (Nat.le_of_ble_eq_true rfl) dX12_deaf_39 ⟨Nat.le_of_ble_eq_true rfl, Nat.le_of_ble_eq_true rfl⟩ (fun s40 H locs q40 h => ?_)
      rcases q40 with rfl
      refine lv_iinc (v := 3) (lv' := [(2, .int 3), (0, .ref (g.2.1 79)), (1, .int 9)]) hx hb dX12_deaf_42 hl (k := 0) rfl (by decide) (by decide) rfl (fun ls hl => ?_)
      refine lv_goto (tgt := 28) hx hb dX12_deaf_45 (by decide) ?_
      refine lv_iload_n hx hb dX12_deaf_28 rfl (lv_at hl 0 rfl) ?_
      refine lv_iload_n hx hb dX12_deaf_29 rfl (lv_at hl 2 rfl) ?_
      refine lv_icmp_ge (tgt := 48) hx hb dX12_deaf_30 (by decide) (fun c => absurd c (by decide)) (fun _ => ?_)
      refine lv_aload_n hx hb dX12_deaf_33 rfl (lv_at hl 1 rfl) ?_
      refine lv_iconst (v := 0) hx hb dX12_deaf_34 (by decide) ?_
      refine lv_iconst (v := 0) hx hb dX12_deaf_35 (by decide) ?_
      refine lv_iconst (v := 0) hx hb dX12_deaf_36 (by decide) ?_
      refine lv_iconst (v := 0) hx hb dX12_deaf_37 (by decide) ?_
      refine lv_iconst (v := 1) hx hb dX12_deaf_38 (by decide) ?_
      refine x_vv E h (na := 5) (As := [.int 0, .int 0, .int 0, .int 0, .int 1]) (kX12_addRow_4 l g _  rfl) (oc_mo g) rfl gX12_deaf_X12_addRow rfl ⟨rfl, rfl⟩ rfl (by decide +kernel) ⟨Nat.le_of_ble_eq_true rfl, Nat.le_of_ble_eq_true rfl⟩ hl.1 rfl (Nat.le_of_ble_eq_true rfl) dX12_deaf_39 ⟨Nat.le_of_ble_eq_true rfl, Nat.le_of_ble_eq_true rfl⟩ (fun s41 H locs q41 h => ?_)
      rcases q41 with rfl
      refine lv_iinc (v := 4) (lv' := [(2, .int 4), (0, .ref (g.2.1 79)), (1, .int 9)]) hx hb dX12_deaf_42 hl (k := 0) rfl (by decide) (by decide) rfl (fun ls hl => ?_)
      refine lv_goto (tgt := 28) hx hb dX12_deaf_45 (by decide) ?_
      refine lv_iload_n hx hb dX12_deaf_28 rfl (lv_at hl 0 rfl) ?_
      refine lv_iload_n hx hb dX12_deaf_29 rfl (lv_at hl 2 rfl) ?_
      refine lv_icmp_ge (tgt := 48) hx hb dX12_deaf_30 (by decide) (fun c => absurd c (by decide)) (fun _ => ?_)
      refine lv_aload_n hx hb dX12_deaf_33 rfl (lv_at hl 1 rfl) ?_
      refine lv_iconst (v := 0) hx hb dX12_deaf_34 (by decide) ?_
      refine lv_iconst (v := 0) hx hb dX12_deaf_35 (by decide) ?_
      refine lv_iconst (v := 0) hx hb dX12_deaf_36 (by decide) ?_
      refine lv_iconst (v := 0) hx hb dX12_deaf_37 (by decide) ?_
      refine lv_iconst (v := 1) hx hb dX12_deaf_38 (by decide) ?_
      refine x_vv E h (na := 5) (As := [.int 0, .int 0, .int 0, .int 0, .int 1]) (kX12_addRow_5 l g _  rfl) (oc_mo g) rfl gX12_deaf_X12_addRow rfl ⟨rfl, rfl⟩ rfl (by decide +kernel) ⟨Nat.le_of_ble_eq_true rfl, Nat.le_of_ble_eq_true rfl⟩ hl.1 rfl (Nat.le_of_ble_eq_true rfl) dX12_deaf_39 ⟨Nat.le_of_ble_eq_true rfl, Nat.le_of_ble_eq_true rfl⟩ (fun s42 H locs q42 h => ?_)
      rcases q42 with rfl
      refine lv_iinc (v := 5) (lv' := [(2, .int 5), (0, .ref (g.2.1 79)), (1, .int 9)]) hx hb dX12_deaf_42 hl (k := 0) rfl (by decide) (by decide) rfl (fun ls hl => ?_)
      refine lv_goto (tgt := 28) hx hb dX12_deaf_45 (by decide) ?_
      refine lv_iload_n hx hb dX12_deaf_28 rfl (lv_at hl 0 rfl) ?_
      refine lv_iload_n hx hb dX12_deaf_29 rfl (lv_at hl 2 rfl) ?_
      refine lv_icmp_ge (tgt := 48) hx hb dX12_deaf_30 (by decide) (fun c => absurd c (by decide)) (fun _ => ?_)
      refine lv_aload_n hx hb dX12_deaf_33 rfl (lv_at hl 1 rfl) ?_
      refine lv_iconst (v := 0) hx hb dX12_deaf_34 (by decide) ?_
      refine lv_iconst (v := 0) hx hb dX12_deaf_35 (by decide) ?_
      refine lv_iconst (v := 0) hx hb dX12_deaf_36 (by decide) ?_
      refine lv_iconst (v := 0) hx hb dX12_deaf_37 (by decide) ?_
      refine lv_iconst (v := 1) hx hb dX12_deaf_38 (by decide) ?_
      refine x_vv E h (na := 5) (As := [.int 0, .int 0, .int 0, .int 0, .int 1]) (kX12_addRow_6 l g _  rfl) (oc_mo g) rfl gX12_deaf_X12_addRow rfl ⟨rfl, rfl⟩ rfl (by decide +kernel) ⟨Nat.le_of_ble_eq_true rfl, Nat.le_of_ble_eq_true rfl⟩ hl.1 rfl (Nat.le_of_ble_eq_true rfl) dX12_deaf_39 ⟨Nat.le_of_ble_eq_true rfl, Nat.le_of_ble_eq_true rfl⟩ (fun s43 H locs q43 h => ?_)
      rcases q43 with rfl
      refine lv_iinc (v := 6) (lv' := [(2, .int 6), (0, .ref (g.2.1 79)), (1, .int 9)]) hx hb dX12_deaf_42 hl (k := 0) rfl (by decide) (by decide) rfl (fun ls hl => ?_)
      refine lv_goto (tgt := 28) hx hb dX12_deaf_45 (by decide) ?_
      refine lv_iload_n hx hb dX12_deaf_28 rfl (lv_at hl 0 rfl) ?_
      refine lv_iload_n hx hb dX12_deaf_29 rfl (lv_at hl 2 rfl) ?_
      refine lv_icmp_ge (tgt := 48) hx hb dX12_deaf_30 (by decide) (fun c => absurd c (by decide)) (fun _ => ?_)
      refine lv_aload_n hx hb dX12_deaf_33 rfl (lv_at hl 1 rfl) ?_
      refine lv_iconst (v := 0) hx hb dX12_deaf_34 (by decide) ?_
      refine lv_iconst (v := 0) hx hb dX12_deaf_35 (by decide) ?_
      refine lv_iconst (v := 0) hx hb dX12_deaf_36 (by decide) ?_
      refine lv_iconst (v := 0) hx hb dX12_deaf_37 (by decide) ?_
      refine lv_iconst (v := 1) hx hb dX12_deaf_38 (by decide) ?_
      refine x_vv E h (na := 5) (As := [.int 0, .int 0, .int 0, .int 0, .int 1]) (kX12_addRow_7 l g _  rfl) (oc_mo g) rfl gX12_deaf_X12_addRow rfl ⟨rfl, rfl⟩ rfl (by decide +kernel) ⟨Nat.le_of_ble_eq_true rfl, Nat.le_of_ble_eq_true rfl⟩ hl.1 rfl (Nat.le_of_ble_eq_true rfl) dX12_deaf_39 ⟨Nat.le_of_ble_eq_true rfl, Nat.le_of_ble_eq_true rfl⟩ (fun s44 H locs q44 h => ?_)
      rcases q44 with rfl
      refine lv_iinc (v := 7) (lv' := [(2, .int 7), (0, .ref (g.2.1 79)), (1, .int 9)]) hx hb dX12_deaf_42 hl (k := 0) rfl (by decide) (by decide) rfl (fun ls hl => ?_)
      refine lv_goto (tgt := 28) hx hb dX12_deaf_45 (by decide) ?_
      refine lv_iload_n hx hb dX12_deaf_28 rfl (lv_at hl 0 rfl) ?_
      refine lv_iload_n hx hb dX12_deaf_29 rfl (lv_at hl 2 rfl) ?_
      refine lv_icmp_ge (tgt := 48) hx hb dX12_deaf_30 (by decide) (fun c => absurd c (by decide)) (fun _ => ?_)
      refine lv_aload_n hx hb dX12_deaf_33 rfl (lv_at hl 1 rfl) ?_
      refine lv_iconst (v := 0) hx hb dX12_deaf_34 (by decide) ?_
      refine lv_iconst (v := 0) hx hb dX12_deaf_35 (by decide) ?_
      refine lv_iconst (v := 0) hx hb dX12_deaf_36 (by decide) ?_
      refine lv_iconst (v := 0) hx hb dX12_deaf_37 (by decide) ?_
      refine lv_iconst (v := 1) hx hb dX12_deaf_38 (by decide) ?_
      refine x_vv E h (na := 5) (As := [.int 0, .int 0, .int 0, .int 0, .int 1]) (kX12_addRow_8 l g _  rfl) (oc_mo g) rfl gX12_deaf_X12_addRow rfl ⟨rfl, rfl⟩ rfl (by decide +kernel) ⟨Nat.le_of_ble_eq_true rfl, Nat.le_of_ble_eq_true rfl⟩ hl.1 rfl (Nat.le_of_ble_eq_true rfl) dX12_deaf_39 ⟨Nat.le_of_ble_eq_true rfl, Nat.le_of_ble_eq_true rfl⟩ (fun s45 H locs q45 h => ?_)
      rcases q45 with rfl
      refine lv_iinc (v := 8) (lv' := [(2, .int 8), (0, .ref (g.2.1 79)), (1, .int 9)]) hx hb dX12_deaf_42 hl (k := 0) rfl (by decide) (by decide) rfl (fun ls hl => ?_)
      refine lv_goto (tgt := 28) hx hb dX12_deaf_45 (by decide) ?_
      refine lv_iload_n hx hb dX12_deaf_28 rfl (lv_at hl 0 rfl) ?_
      refine lv_iload_n hx hb dX12_deaf_29 rfl (lv_at hl 2 rfl) ?_
      refine lv_icmp_ge (tgt := 48) hx hb dX12_deaf_30 (by decide) (fun c => absurd c (by decide)) (fun _ => ?_)
      refine lv_aload_n hx hb dX12_deaf_33 rfl (lv_at hl 1 rfl) ?_
      refine lv_iconst (v := 0) hx hb dX12_deaf_34 (by decide) ?_
      refine lv_iconst (v := 0) hx hb dX12_deaf_35 (by decide) ?_
      refine lv_iconst (v := 0) hx hb dX12_deaf_36 (by decide) ?_
      refine lv_iconst (v := 0) hx hb dX12_deaf_37 (by decide) ?_
      refine lv_iconst (v := 1) hx hb dX12_deaf_38 (by decide) ?_
      refine x_vv E h (na := 5) (As := [.int 0, .int 0, .int 0, .int 0, .int 1]) (kX12_addRow_9 l g _  rfl) (oc_mo g) rfl gX12_deaf_X12_addRow rfl ⟨rfl, rfl⟩ rfl (by decide +kernel) ⟨Nat.le_of_ble_eq_true rfl, Nat.le_of_ble_eq_true rfl⟩ hl.1 rfl (Nat.le_of_ble_eq_true rfl) dX12_deaf_39 ⟨Nat.le_of_ble_eq_true rfl, Nat.le_of_ble_eq_true rfl⟩ (fun s46 H locs q46 h => ?_)
      rcases q46 with rfl
      refine lv_iinc (v := 9) (lv' := [(2, .int 9), (0, .ref (g.2.1 79)), (1, .int 9)]) hx hb dX12_deaf_42 hl (k := 0) rfl (by decide) (by decide) rfl (fun ls hl => ?_)
      refine lv_goto (tgt := 28) hx hb dX12_deaf_45 (by decide) ?_
      refine lv_iload_n hx hb dX12_deaf_28 rfl (lv_at hl 0 rfl) ?_
      refine lv_iload_n hx hb dX12_deaf_29 rfl (lv_at hl 2 rfl) ?_
      refine lv_icmp_ge (tgt := 48) hx hb dX12_deaf_30 (by decide) (fun _ => ?_) (fun c => absurd (by decide) c)
      refine lv_aload_n hx hb dX12_deaf_48 rfl (lv_at hl 1 rfl) ?_
      refine x_getI E h (fi_mo_rows g) rfl hwX12 (by decide) (by decide +kernel) (v := 9) rfl dX12_deaf_49 ?_
      exact x_iret E h (Or.inl ⟨k1_0, rfl⟩) dX12_deaf_52
  · skip
    refine lv_if_ne (tgt := 12) hx hb dX12_deaf_7 (by decide) (fun c => absurd (by decide) c) (fun _ => ?_)
    refine lv_iconst (v := (-1)) hx hb dX12_deaf_10 (by decide) ?_
    exact x_iret E h (Or.inr (⟨k1_0, rfl⟩)) dX12_deaf_11
