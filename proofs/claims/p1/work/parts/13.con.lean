set_option maxHeartbeats 4000000 in
set_option maxRecDepth 100000 in
theorem kX7_deafRows_0 (l : Launch) (g : CX) (σ : ST) (fI_2 : σ.1 2 = 0) : XM l g yX7_deafRows wsX7_deafRows { frames := 0, cells := 0, slots := 0, locals := 0 } [.ref (g.2.1 5)] σ (XQi g (fun r σ' => (0 = r ∧ σ = σ'))) := by
  refine x_met (own := RX7) (cc := cX7_deafRows) (maxL := 3) (ret := (some .int)) (lv := [(0, .ref (g.2.1 5))]) (by decide) rfl rfl (Nat.le_of_ble_eq_true rfl) rfl ?_
  intro p e s m args below meth c ls E h hl
  have hx := E.1
  have hb := E.2.1
  have hown := E.2.2.2.1
  have hts := E.2.2.2.2.1
  have hwX7 : ∀ w ∈ wsX70, w ∈ wsX7_deafRows := by decide +kernel
  refine lv_iconst (v := 0) hx hb dX7_deafRows_0 (by decide) ?_
  refine lv_istore_n (lv' := [(1, .int 0), (0, .ref (g.2.1 5))]) hx hb dX7_deafRows_1 rfl hl (by decide) rfl (fun ls hl => ?_)
  refine lv_iconst (v := 0) hx hb dX7_deafRows_2 (by decide) ?_
  refine lv_istore_n (lv' := [(2, .int 0), (1, .int 0), (0, .ref (g.2.1 5))]) hx hb dX7_deafRows_3 rfl hl (by decide) rfl (fun ls hl => ?_)
  refine lv_iload_n hx hb dX7_deafRows_4 rfl (lv_at hl 0 rfl) ?_
  refine lv_aload_n hx hb dX7_deafRows_5 rfl (lv_at hl 2 rfl) ?_
  refine x_getI E h (fi_bk_rows g) rfl hwX7 (by decide) (by decide +kernel) (v := 0) fI_2 dX7_deafRows_6 ?_
  refine lv_icmp_ge (tgt := 35) hx hb dX7_deafRows_9 (by decide) (fun _ => ?_) (fun c => absurd (by decide) c)
  refine lv_iload_n hx hb dX7_deafRows_35 rfl (lv_at hl 1 rfl) ?_
  exact x_iret E h ⟨rfl, rfl⟩ dX7_deafRows_36
set_option maxHeartbeats 4000000 in
set_option maxRecDepth 100000 in
theorem kX7_outRows_0 (l : Launch) (g : CX) (σ : ST) (fI_2 : σ.1 2 = 0) : XM l g yX7_outRows wsX7_outRows { frames := 0, cells := 0, slots := 0, locals := 0 } [.ref (g.2.1 5)] σ (XQi g (fun r σ' => (0 = r ∧ σ = σ'))) := by
  refine x_met (own := RX7) (cc := cX7_outRows) (maxL := 3) (ret := (some .int)) (lv := [(0, .ref (g.2.1 5))]) (by decide) rfl rfl (Nat.le_of_ble_eq_true rfl) rfl ?_
  intro p e s m args below meth c ls E h hl
  have hx := E.1
  have hb := E.2.1
  have hown := E.2.2.2.1
  have hts := E.2.2.2.2.1
  have hwX7 : ∀ w ∈ wsX70, w ∈ wsX7_outRows := by decide +kernel
  refine lv_iconst (v := 0) hx hb dX7_outRows_0 (by decide) ?_
  refine lv_istore_n (lv' := [(1, .int 0), (0, .ref (g.2.1 5))]) hx hb dX7_outRows_1 rfl hl (by decide) rfl (fun ls hl => ?_)
  refine lv_iconst (v := 0) hx hb dX7_outRows_2 (by decide) ?_
  refine lv_istore_n (lv' := [(2, .int 0), (1, .int 0), (0, .ref (g.2.1 5))]) hx hb dX7_outRows_3 rfl hl (by decide) rfl (fun ls hl => ?_)
  refine lv_iload_n hx hb dX7_outRows_4 rfl (lv_at hl 0 rfl) ?_
  refine lv_aload_n hx hb dX7_outRows_5 rfl (lv_at hl 2 rfl) ?_
  refine x_getI E h (fi_bk_rows g) rfl hwX7 (by decide) (by decide +kernel) (v := 0) fI_2 dX7_outRows_6 ?_
  refine lv_icmp_ge (tgt := 35) hx hb dX7_outRows_9 (by decide) (fun _ => ?_) (fun c => absurd (by decide) c)
  refine lv_iload_n hx hb dX7_outRows_35 rfl (lv_at hl 1 rfl) ?_
  exact x_iret E h ⟨rfl, rfl⟩ dX7_outRows_36
set_option maxHeartbeats 4000000 in
set_option maxRecDepth 100000 in
theorem kX11_count_0 (l : Launch) (g : CX) (σ : ST) (p1 : Int32) (fI_0 : σ.1 0 = 0) (fI_2 : σ.1 2 = 0) (fI_19 : σ.1 19 = 0) (fI_20 : σ.1 20 = 0) : XM l g yX11_count wsX11_count { frames := 1, cells := 0, slots := 0, locals := 22 } [.ref (g.2.1 0), .int p1] σ (XQi g (fun r σ' => (p1 = 0 ∧ 0 = r ∧ MO σ' σ) ∨ (¬ p1 = 0 ∧ p1 = 1 ∧ 0 = r ∧ MO σ' σ) ∨ (¬ p1 = 0 ∧ ¬ p1 = 1 ∧ p1 = 2 ∧ 0 = r ∧ MO σ' σ) ∨ (¬ p1 = 0 ∧ ¬ p1 = 1 ∧ ¬ p1 = 2 ∧ p1 = 3 ∧ 0 = r ∧ MO σ' σ) ∨ (¬ p1 = 0 ∧ ¬ p1 = 1 ∧ ¬ p1 = 2 ∧ ¬ p1 = 3 ∧ p1 = 4 ∧ 0 = r ∧ MO σ' σ) ∨ (¬ p1 = 0 ∧ ¬ p1 = 1 ∧ ¬ p1 = 2 ∧ ¬ p1 = 3 ∧ ¬ p1 = 4 ∧ p1 = 5 ∧ 0 = r ∧ MO σ' σ) ∨ (¬ p1 = 0 ∧ ¬ p1 = 1 ∧ ¬ p1 = 2 ∧ ¬ p1 = 3 ∧ ¬ p1 = 4 ∧ ¬ p1 = 5 ∧ (-1) = r ∧ MO σ' σ))) := by
  refine x_met (own := RX11) (cc := cX11_count) (maxL := 2) (ret := (some .int)) (lv := [(0, .ref (g.2.1 0)), (1, .int p1)]) (by decide) rfl rfl (Nat.le_of_ble_eq_true rfl) rfl ?_
  intro p e s m args below meth c ls E h hl
  have hx := E.1
  have hb := E.2.1
  have hown := E.2.2.2.1
  have hts := E.2.2.2.2.1
  have hwX10 : ∀ w ∈ wsX100, w ∈ wsX11_count := by decide +kernel
  have hwX11 : ∀ w ∈ wsX110, w ∈ wsX11_count := by decide +kernel
  have hwX5 : ∀ w ∈ wsX50, w ∈ wsX11_count := by decide +kernel
  have hwX7 : ∀ w ∈ wsX70, w ∈ wsX11_count := by decide +kernel
  have hwX8 : ∀ w ∈ wsX80, w ∈ wsX11_count := by decide +kernel
  refine lv_iload_n hx hb dX11_count_0 rfl (lv_at hl 1 rfl) ?_
  by_cases c_1_0 : p1 = 0
  · refine x_topI (v2 := 0) c_1_0 ?_
    refine lv_tableIn (tgt := 40) (off := 39) hx hb dX11_count_1 (by decide) (by decide) (by decide) (by decide) ?_
    refine lv_aload_n hx hb dX11_count_40 rfl (lv_at hl 0 rfl) ?_
    refine x_getR E h (fr_vh_book g) rfl hwX11 (by decide) (by decide +kernel) dX11_count_41 ?_
    refine x_getIN E h (fi_bk_rows g) rfl hwX7 (by decide) (by decide +kernel) (v := 0) fI_2 dX11_count_44 ?_
    exact x_iret E h (Or.inl ⟨c_1_0, rfl, (MO.refl σ)⟩) dX11_count_47
  by_cases c_1_1 : p1 = 1
  · refine x_topI (v2 := 1) c_1_1 ?_
    refine lv_tableIn (tgt := 48) (off := 47) hx hb dX11_count_1 (by decide) (by decide) (by decide) (by decide) ?_
    refine lv_aload_n hx hb dX11_count_48 rfl (lv_at hl 0 rfl) ?_
    refine x_getR E h (fr_vh_book g) rfl hwX11 (by decide) (by decide +kernel) dX11_count_49 ?_
    refine x_vi E h (na := 0) (As := []) (kX7_deafRows_0 l g _  fI_2) (oc_bk g) rfl gX11_count_X7_deafRows rfl ⟨rfl, rfl⟩ rfl (by decide +kernel) ⟨Nat.le_of_ble_eq_true rfl, Nat.le_of_ble_eq_true rfl⟩ hl.1 rfl (Nat.le_of_ble_eq_true rfl) dX11_count_52 ⟨Nat.le_of_ble_eq_true rfl, Nat.le_of_ble_eq_true rfl⟩ (fun r1 s1 H locs q1 h => ?_)
    rcases q1 with ⟨rfl, rfl⟩
    exact x_iret E h (Or.inr (Or.inl ⟨c_1_0, c_1_1, rfl, (MO.refl σ)⟩)) dX11_count_55
  by_cases c_1_2 : p1 = 2
  · refine x_topI (v2 := 2) c_1_2 ?_
    refine lv_tableIn (tgt := 56) (off := 55) hx hb dX11_count_1 (by decide) (by decide) (by decide) (by decide) ?_
    refine lv_aload_n hx hb dX11_count_56 rfl (lv_at hl 0 rfl) ?_
    refine x_getR E h (fr_vh_book g) rfl hwX11 (by decide) (by decide +kernel) dX11_count_57 ?_
    refine x_vi E h (na := 0) (As := []) (kX7_outRows_0 l g _  fI_2) (oc_bk g) rfl gX11_count_X7_outRows rfl ⟨rfl, rfl⟩ rfl (by decide +kernel) ⟨Nat.le_of_ble_eq_true rfl, Nat.le_of_ble_eq_true rfl⟩ hl.1 rfl (Nat.le_of_ble_eq_true rfl) dX11_count_60 ⟨Nat.le_of_ble_eq_true rfl, Nat.le_of_ble_eq_true rfl⟩ (fun r2 s2 H locs q2 h => ?_)
    rcases q2 with ⟨rfl, rfl⟩
    exact x_iret E h (Or.inr (Or.inr (Or.inl ⟨c_1_0, c_1_1, c_1_2, rfl, (MO.refl σ)⟩))) dX11_count_63
  by_cases c_1_3 : p1 = 3
  · refine x_topI (v2 := 3) c_1_3 ?_
    refine lv_tableIn (tgt := 64) (off := 63) hx hb dX11_count_1 (by decide) (by decide) (by decide) (by decide) ?_
    refine lv_aload_n hx hb dX11_count_64 rfl (lv_at hl 0 rfl) ?_
    refine x_getR E h (fr_vh_kept g) rfl hwX11 (by decide) (by decide +kernel) dX11_count_65 ?_
    refine x_getIN E h (fi_ke_voices g) rfl hwX5 (by decide) (by decide +kernel) (v := 0) fI_19 dX11_count_68 ?_
    exact x_iret E h (Or.inr (Or.inr (Or.inr (Or.inl ⟨c_1_0, c_1_1, c_1_2, c_1_3, rfl, (MO.refl σ)⟩)))) dX11_count_71
  by_cases c_1_4 : p1 = 4
  · refine x_topI (v2 := 4) c_1_4 ?_
    refine lv_tableIn (tgt := 72) (off := 71) hx hb dX11_count_1 (by decide) (by decide) (by decide) (by decide) ?_
    refine lv_aload_n hx hb dX11_count_72 rfl (lv_at hl 0 rfl) ?_
    refine x_getR E h (fr_vh_wordBook g) rfl hwX11 (by decide) (by decide +kernel) dX11_count_73 ?_
    refine x_getIN E h (fi_wb_words g) rfl hwX10 (by decide) (by decide +kernel) (v := 0) fI_20 dX11_count_76 ?_
    exact x_iret E h (Or.inr (Or.inr (Or.inr (Or.inr (Or.inl ⟨c_1_0, c_1_1, c_1_2, c_1_3, c_1_4, rfl, (MO.refl σ)⟩))))) dX11_count_79
  by_cases c_1_5 : p1 = 5
  · refine x_topI (v2 := 5) c_1_5 ?_
    refine lv_tableIn (tgt := 80) (off := 79) hx hb dX11_count_1 (by decide) (by decide) (by decide) (by decide) ?_
    refine lv_aload_n hx hb dX11_count_80 rfl (lv_at hl 0 rfl) ?_
    refine x_getR E h (fr_vh_ruleText g) rfl hwX11 (by decide) (by decide +kernel) dX11_count_81 ?_
    refine x_getIN E h (fi_rt_length g) rfl hwX8 (by decide) (by decide +kernel) (v := 0) fI_0 dX11_count_84 ?_
    exact x_iret E h (Or.inr (Or.inr (Or.inr (Or.inr (Or.inr (Or.inl ⟨c_1_0, c_1_1, c_1_2, c_1_3, c_1_4, c_1_5, rfl, (MO.refl σ)⟩)))))) dX11_count_87
  refine lv_tableOut (tgt := 88) hx hb dX11_count_1 (x_out5 c_1_0 c_1_1 c_1_2 c_1_3 c_1_4 c_1_5) (by decide) ?_
  refine lv_iconst (v := (-1)) hx hb dX11_count_88 (by decide) ?_
  exact x_iret E h (Or.inr (Or.inr (Or.inr (Or.inr (Or.inr (Or.inr (⟨c_1_0, c_1_1, c_1_2, c_1_3, c_1_4, c_1_5, rfl, (MO.refl σ)⟩))))))) dX11_count_89
set_option maxHeartbeats 4000000 in
set_option maxRecDepth 100000 in
theorem kX11_trace_0 (l : Launch) (g : CX) (σ : ST) (fL_2 : σ.2.1 2 = 0) : XM l g yX11_trace wsX11_trace { frames := 0, cells := 0, slots := 0, locals := 0 } [.ref (g.2.1 0)] σ (XQl g (fun r σ' => (0 = r ∧ MO σ' σ))) := by
  refine x_met (own := RX11) (cc := cX11_trace) (maxL := 1) (ret := (some .long)) (lv := [(0, .ref (g.2.1 0))]) (by decide) rfl rfl (Nat.le_of_ble_eq_true rfl) rfl ?_
  intro p e s m args below meth c ls E h hl
  have hx := E.1
  have hb := E.2.1
  have hown := E.2.2.2.1
  have hts := E.2.2.2.2.1
  have hwX11 : ∀ w ∈ wsX110, w ∈ wsX11_trace := by decide +kernel
  have hwX6 : ∀ w ∈ wsX60, w ∈ wsX11_trace := by decide +kernel
  refine lv_aload_n hx hb dX11_trace_0 rfl (lv_at hl 0 rfl) ?_
  refine x_getR E h (fr_vh_kinds g) rfl hwX11 (by decide) (by decide +kernel) dX11_trace_1 ?_
  refine x_getLN E h (fl_ki_asked g) rfl hwX6 (by decide) (by decide +kernel) (v := 0) fL_2 dX11_trace_4 ?_
  exact x_lret E h ⟨rfl, (MO.refl σ)⟩ dX11_trace_7
set_option maxHeartbeats 4000000 in
set_option maxRecDepth 100000 in
theorem kX12_in_0 (l : Launch) (g : CX) (σ : ST) (p0 : Int32) (p1 : Int32) (p2 : Int32) : XM l g yX12_in wsX12_in { frames := 0, cells := 0, slots := 0, locals := 0 } [.int p0, .int p1, .int p2] σ (XQi g (fun r σ' => (bB p0 p1 p2 = 1 ∧ 1 = r ∧ σ = σ') ∨ (bB p0 p1 p2 = 0 ∧ 0 = r ∧ σ = σ'))) := by
  refine x_met (own := RX12) (cc := cX12_in) (maxL := 3) (ret := (some .boolean)) (lv := [(0, .int p0), (1, .int p1), (2, .int p2)]) (by decide) rfl rfl (Nat.le_of_ble_eq_true rfl) rfl ?_
  intro p e s m args below meth c ls E h hl
  have hx := E.1
  have hb := E.2.1
  have hown := E.2.2.2.1
  have hts := E.2.2.2.2.1
  refine lv_iload_n hx hb dX12_in_0 rfl (lv_at hl 0 rfl) ?_
  refine lv_iload_n hx hb dX12_in_1 rfl (lv_at hl 1 rfl) ?_
  refine lv_icmp_lt (tgt := 14) hx hb dX12_in_2 (by decide) (fun c2_1 => ?_) (fun c2_1 => ?_)
  · skip
    refine lv_iconst (v := 0) hx hb dX12_in_14 (by decide) ?_
    exact x_zret E h rfl (Or.inr ⟨by simp [bB, c2_1], rfl, rfl⟩) dX12_in_15
  · skip
    refine lv_iload_n hx hb dX12_in_5 rfl (lv_at hl 0 rfl) ?_
    refine lv_iload_n hx hb dX12_in_6 rfl (lv_at hl 2 rfl) ?_
    refine lv_icmp_gt (tgt := 14) hx hb dX12_in_7 (by decide) (fun c7_2 => ?_) (fun c7_2 => ?_)
    · skip
      refine lv_iconst (v := 0) hx hb dX12_in_14 (by decide) ?_
      exact x_zret E h rfl (Or.inr ⟨by simp [bB, c2_1, c7_2], rfl, rfl⟩) dX12_in_15
    · skip
      refine lv_iconst (v := 1) hx hb dX12_in_10 (by decide) ?_
      refine lv_goto (tgt := 15) hx hb dX12_in_11 (by decide) ?_
      exact x_zret E h rfl (Or.inl ⟨by simp [bB, c2_1, c7_2], rfl, rfl⟩) dX12_in_15
set_option maxHeartbeats 4000000 in
set_option maxRecDepth 100000 in
theorem kX12_type_0 (l : Launch) (g : CX) (σ : ST) (p1 : Int64) (p2 : Int32) (fI_25 : σ.1 25 = 0) : XM l g yX12_type wsX12_type { frames := 1, cells := 0, slots := 0, locals := 22 } [.ref (g.2.1 79), .long p1, .int p2] σ (XQi g (fun r σ' => (bB p2 1 8 = 1 ∧ p2 = r) ∨ (bB p2 1 8 = 0 ∧ (-1) = r))) := by
  refine x_met (own := RX12) (cc := cX12_type) (maxL := 5) (ret := (some .int)) (lv := [(0, .ref (g.2.1 79)), (1, .long p1), (3, .int p2)]) (by decide) rfl rfl (Nat.le_of_ble_eq_true rfl) rfl ?_
  intro p e s m args below meth c ls E h hl
  have hx := E.1
  have hb := E.2.1
  have hown := E.2.2.2.1
  have hts := E.2.2.2.2.1
  have hwX12 : ∀ w ∈ wsX120, w ∈ wsX12_type := by decide +kernel
  refine lv_iload_n hx hb dX12_type_0 rfl (lv_at hl 2 rfl) ?_
  refine lv_iconst (v := 1) hx hb dX12_type_1 (by decide) ?_
  refine lv_bipush (v := 8) hx hb dX12_type_2 (by decide) ?_
  refine x_si E h (na := 3) (As := [.int p2, .int 1, .int 8]) (kX12_in_0 l g _ p2 1 8) gX12_type_X12_in rfl ⟨rfl, rfl⟩ rfl (by decide +kernel) ⟨Nat.le_of_ble_eq_true rfl, Nat.le_of_ble_eq_true rfl⟩ hl.1 rfl (Nat.le_of_ble_eq_true rfl) dX12_type_4 ⟨Nat.le_of_ble_eq_true rfl, Nat.le_of_ble_eq_true rfl⟩ (fun r1 s1 H locs q1 h => ?_)
  rcases q1 with ⟨k1_0, rfl, rfl⟩ | ⟨k1_0, rfl, rfl⟩
  · skip
    refine lv_if_ne (tgt := 12) hx hb dX12_type_7 (by decide) (fun _ => ?_) (fun c => absurd c (by decide))
    rcases (bB_1_8 k1_0) with rfl | rfl | rfl | rfl | rfl | rfl | rfl | rfl
    · skip
      refine lv_aload_n hx hb dX12_type_12 rfl (lv_at hl 0 rfl) ?_
      refine x_getI E h (fi_mo_typed g) rfl hwX12 (by decide) (by decide +kernel) (v := 0) fI_25 dX12_type_13 ?_
      refine lv_iload_n hx hb dX12_type_16 rfl (lv_at hl 2 rfl) ?_
      refine lv_iadd hx hb dX12_type_17 ?_
      refine x_topI (v2 := 1) (by decide) ?_
      refine lv_sipush (v := 200) hx hb dX12_type_18 (by decide) ?_
      refine lv_icmp_le (tgt := 27) hx hb dX12_type_21 (by decide) (fun _ => ?_) (fun c => absurd (by decide) c)
      refine lv_iload_n hx hb dX12_type_27 rfl (lv_at hl 2 rfl) ?_
      refine lv_iconst (v := 1) hx hb dX12_type_28 (by decide) ?_
      refine lv_isub hx hb dX12_type_29 ?_
      refine x_topI (v2 := 0) (by decide) ?_
      refine lv_istore (lv' := [(4, .int 0), (0, .ref (g.2.1 79)), (1, .long p1), (3, .int 1)]) hx hb dX12_type_30 hl (by decide) rfl (fun ls hl => ?_)
      refine lv_iload hx hb dX12_type_32 (lv_at hl 0 rfl) ?_
      refine lv_if_lt (tgt := 75) hx hb dX12_type_34 (by decide) (fun c => absurd c (by decide)) (fun _ => ?_)
      refine lv_aload_n hx hb dX12_type_37 rfl (lv_at hl 1 rfl) ?_
      refine x_getR E h (fr_mo_text g) rfl hwX12 (by decide) (by decide +kernel) dX12_type_38 ?_
      refine lv_aload_n hx hb dX12_type_41 rfl (lv_at hl 1 rfl) ?_
      refine x_getI E h (fi_mo_typed g) rfl hwX12 (by decide) (by decide +kernel) (v := 0) fI_25 dX12_type_42 ?_
      refine lv_lload_n hx hb dX12_type_45 rfl (lv_at hl 2 rfl) ?_
      refine lv_bipush (v := 8) hx hb dX12_type_46 (by decide) ?_
      refine lv_iload hx hb dX12_type_48 (lv_at hl 0 rfl) ?_
      refine lv_imul hx hb dX12_type_50 ?_
      refine x_topI (v2 := 0) (by decide) ?_
      refine lv_lshr hx hb dX12_type_51 rfl ?_
      refine lv_topl (fun y2 ey2 => ?_)
      refine lv_ldc2 (v := 255) hx hb hown (hts (.constantLong RX12 108 (255)) (by decide +kernel)) dX12_type_52 ?_
      refine lv_land hx hb dX12_type_55 ?_
      refine lv_l2i hx hb dX12_type_56 rfl ?_
      refine lv_topi (fun x3 ex3 => ?_)
      refine lv_i2b hx hb dX12_type_57 rfl ?_
      refine lv_topi (fun x4 ex4 => ?_)
      refine x_stB E h (ia_mo_text g) (i := 0) (by unfold vp_in; decide) (j := (0)) rfl rfl dX12_type_58 (fun H locs h => ?_)
      refine lv_aload_n hx hb dX12_type_59 rfl (lv_at hl 1 rfl) ?_
      refine lv_dup hx hb dX12_type_60 rfl ?_
      refine x_getI E h (fi_mo_typed g) rfl hwX12 (by decide) (by decide +kernel) (v := 0) fI_25 dX12_type_61 ?_
      refine lv_iconst (v := 1) hx hb dX12_type_64 (by decide) ?_
      refine lv_iadd hx hb dX12_type_65 ?_
      refine x_topI (v2 := 1) (by decide) ?_
      refine x_putI E h (ty := .int) (v := 1) (fi_mo_typed g) rfl hwX12 tyX12_ok nmX12 (by decide) (by decide +kernel) (by decide +kernel) (by decide +kernel) rfl rfl dX12_type_66 (fun H locs h => ?_)
      refine lv_iinc (v := (-1)) (lv' := [(4, .int (-1)), (0, .ref (g.2.1 79)), (1, .long p1), (3, .int 1)]) hx hb dX12_type_69 hl (k := 0) rfl (by decide) (by decide) rfl (fun ls hl => ?_)
      refine lv_goto (tgt := 32) hx hb dX12_type_72 (by decide) ?_
      refine lv_iload hx hb dX12_type_32 (lv_at hl 0 rfl) ?_
      refine lv_if_lt (tgt := 75) hx hb dX12_type_34 (by decide) (fun _ => ?_) (fun c => absurd (by decide) c)
      refine lv_aload_n hx hb dX12_type_75 rfl (lv_at hl 1 rfl) ?_
      refine x_getI E h (fi_mo_typed g) rfl hwX12 (by decide) (by decide +kernel) (v := 1) rfl dX12_type_76 ?_
      exact x_iret E h (Or.inl ⟨k1_0, rfl⟩) dX12_type_79
    · skip
      refine lv_aload_n hx hb dX12_type_12 rfl (lv_at hl 0 rfl) ?_
      refine x_getI E h (fi_mo_typed g) rfl hwX12 (by decide) (by decide +kernel) (v := 0) fI_25 dX12_type_13 ?_
      refine lv_iload_n hx hb dX12_type_16 rfl (lv_at hl 2 rfl) ?_
      refine lv_iadd hx hb dX12_type_17 ?_
      refine x_topI (v2 := 2) (by decide) ?_
      refine lv_sipush (v := 200) hx hb dX12_type_18 (by decide) ?_
      refine lv_icmp_le (tgt := 27) hx hb dX12_type_21 (by decide) (fun _ => ?_) (fun c => absurd (by decide) c)
      refine lv_iload_n hx hb dX12_type_27 rfl (lv_at hl 2 rfl) ?_
      refine lv_iconst (v := 1) hx hb dX12_type_28 (by decide) ?_
      refine lv_isub hx hb dX12_type_29 ?_
      refine x_topI (v2 := 1) (by decide) ?_
      refine lv_istore (lv' := [(4, .int 1), (0, .ref (g.2.1 79)), (1, .long p1), (3, .int 2)]) hx hb dX12_type_30 hl (by decide) rfl (fun ls hl => ?_)
      refine lv_iload hx hb dX12_type_32 (lv_at hl 0 rfl) ?_
      refine lv_if_lt (tgt := 75) hx hb dX12_type_34 (by decide) (fun c => absurd c (by decide)) (fun _ => ?_)
      refine lv_aload_n hx hb dX12_type_37 rfl (lv_at hl 1 rfl) ?_
      refine x_getR E h (fr_mo_text g) rfl hwX12 (by decide) (by decide +kernel) dX12_type_38 ?_
      refine lv_aload_n hx hb dX12_type_41 rfl (lv_at hl 1 rfl) ?_
      refine x_getI E h (fi_mo_typed g) rfl hwX12 (by decide) (by decide +kernel) (v := 0) fI_25 dX12_type_42 ?_
      refine lv_lload_n hx hb dX12_type_45 rfl (lv_at hl 2 rfl) ?_
      refine lv_bipush (v := 8) hx hb dX12_type_46 (by decide) ?_
      refine lv_iload hx hb dX12_type_48 (lv_at hl 0 rfl) ?_
      refine lv_imul hx hb dX12_type_50 ?_
      refine x_topI (v2 := 8) (by decide) ?_
      refine lv_lshr hx hb dX12_type_51 rfl ?_
      refine lv_topl (fun y5 ey5 => ?_)
      refine lv_ldc2 (v := 255) hx hb hown (hts (.constantLong RX12 108 (255)) (by decide +kernel)) dX12_type_52 ?_
      refine lv_land hx hb dX12_type_55 ?_
      refine lv_l2i hx hb dX12_type_56 rfl ?_
      refine lv_topi (fun x6 ex6 => ?_)
      refine lv_i2b hx hb dX12_type_57 rfl ?_
      refine lv_topi (fun x7 ex7 => ?_)
      refine x_stB E h (ia_mo_text g) (i := 0) (by unfold vp_in; decide) (j := (0)) rfl rfl dX12_type_58 (fun H locs h => ?_)
      refine lv_aload_n hx hb dX12_type_59 rfl (lv_at hl 1 rfl) ?_
      refine lv_dup hx hb dX12_type_60 rfl ?_
      refine x_getI E h (fi_mo_typed g) rfl hwX12 (by decide) (by decide +kernel) (v := 0) fI_25 dX12_type_61 ?_
      refine lv_iconst (v := 1) hx hb dX12_type_64 (by decide) ?_
      refine lv_iadd hx hb dX12_type_65 ?_
      refine x_topI (v2 := 1) (by decide) ?_
      refine x_putI E h (ty := .int) (v := 1) (fi_mo_typed g) rfl hwX12 tyX12_ok nmX12 (by decide) (by decide +kernel) (by decide +kernel) (by decide +kernel) rfl rfl dX12_type_66 (fun H locs h => ?_)
      refine lv_iinc (v := 0) (lv' := [(4, .int 0), (0, .ref (g.2.1 79)), (1, .long p1), (3, .int 2)]) hx hb dX12_type_69 hl (k := 0) rfl (by decide) (by decide) rfl (fun ls hl => ?_)
      refine lv_goto (tgt := 32) hx hb dX12_type_72 (by decide) ?_
      refine lv_iload hx hb dX12_type_32 (lv_at hl 0 rfl) ?_
      refine lv_if_lt (tgt := 75) hx hb dX12_type_34 (by decide) (fun c => absurd c (by decide)) (fun _ => ?_)
      refine lv_aload_n hx hb dX12_type_37 rfl (lv_at hl 1 rfl) ?_
      refine x_getR E h (fr_mo_text g) rfl hwX12 (by decide) (by decide +kernel) dX12_type_38 ?_
      refine lv_aload_n hx hb dX12_type_41 rfl (lv_at hl 1 rfl) ?_
      refine x_getI E h (fi_mo_typed g) rfl hwX12 (by decide) (by decide +kernel) (v := 1) rfl dX12_type_42 ?_
      refine lv_lload_n hx hb dX12_type_45 rfl (lv_at hl 2 rfl) ?_
      refine lv_bipush (v := 8) hx hb dX12_type_46 (by decide) ?_
      refine lv_iload hx hb dX12_type_48 (lv_at hl 0 rfl) ?_
      refine lv_imul hx hb dX12_type_50 ?_
      refine x_topI (v2 := 0) (by decide) ?_
      refine lv_lshr hx hb dX12_type_51 rfl ?_
      refine lv_topl (fun y8 ey8 => ?_)
      refine lv_ldc2 (v := 255) hx hb hown (hts (.constantLong RX12 108 (255)) (by decide +kernel)) dX12_type_52 ?_
      refine lv_land hx hb dX12_type_55 ?_
      refine lv_l2i hx hb dX12_type_56 rfl ?_
      refine lv_topi (fun x9 ex9 => ?_)
      refine lv_i2b hx hb dX12_type_57 rfl ?_
      refine lv_topi (fun x10 ex10 => ?_)
      refine x_stB E h (ia_mo_text g) (i := 1) (by unfold vp_in; decide) (j := (1)) rfl rfl dX12_type_58 (fun H locs h => ?_)
      refine lv_aload_n hx hb dX12_type_59 rfl (lv_at hl 1 rfl) ?_
      refine lv_dup hx hb dX12_type_60 rfl ?_
      refine x_getI E h (fi_mo_typed g) rfl hwX12 (by decide) (by decide +kernel) (v := 1) rfl dX12_type_61 ?_
      refine lv_iconst (v := 1) hx hb dX12_type_64 (by decide) ?_
      refine lv_iadd hx hb dX12_type_65 ?_
      refine x_topI (v2 := 2) (by decide) ?_
      refine x_putI E h (ty := .int) (v := 2) (fi_mo_typed g) rfl hwX12 tyX12_ok nmX12 (by decide) (by decide +kernel) (by decide +kernel) (by decide +kernel) rfl rfl dX12_type_66 (fun H locs h => ?_)
      refine lv_iinc (v := (-1)) (lv' := [(4, .int (-1)), (0, .ref (g.2.1 79)), (1, .long p1), (3, .int 2)]) hx hb dX12_type_69 hl (k := 0) rfl (by decide) (by decide) rfl (fun ls hl => ?_)
      refine lv_goto (tgt := 32) hx hb dX12_type_72 (by decide) ?_
      refine lv_iload hx hb dX12_type_32 (lv_at hl 0 rfl) ?_
      refine lv_if_lt (tgt := 75) hx hb dX12_type_34 (by decide) (fun _ => ?_) (fun c => absurd (by decide) c)
      refine lv_aload_n hx hb dX12_type_75 rfl (lv_at hl 1 rfl) ?_
      refine x_getI E h (fi_mo_typed g) rfl hwX12 (by decide) (by decide +kernel) (v := 2) rfl dX12_type_76 ?_
      exact x_iret E h (Or.inl ⟨k1_0, rfl⟩) dX12_type_79
    · skip
      refine lv_aload_n hx hb dX12_type_12 rfl (lv_at hl 0 rfl) ?_
      refine x_getI E h (fi_mo_typed g) rfl hwX12 (by decide) (by decide +kernel) (v := 0) fI_25 dX12_type_13 ?_
      refine lv_iload_n hx hb dX12_type_16 rfl (lv_at hl 2 rfl) ?_
      refine lv_iadd hx hb dX12_type_17 ?_
      refine x_topI (v2 := 3) (by decide) ?_
      refine lv_sipush (v := 200) hx hb dX12_type_18 (by decide) ?_
      refine lv_icmp_le (tgt := 27) hx hb dX12_type_21 (by decide) (fun _ => ?_) (fun c => absurd (by decide) c)
      refine lv_iload_n hx hb dX12_type_27 rfl (lv_at hl 2 rfl) ?_
      refine lv_iconst (v := 1) hx hb dX12_type_28 (by decide) ?_
      refine lv_isub hx hb dX12_type_29 ?_
      refine x_topI (v2 := 2) (by decide) ?_
      refine lv_istore (lv' := [(4, .int 2), (0, .ref (g.2.1 79)), (1, .long p1), (3, .int 3)]) hx hb dX12_type_30 hl (by decide) rfl (fun ls hl => ?_)
      refine lv_iload hx hb dX12_type_32 (lv_at hl 0 rfl) ?_
      refine lv_if_lt (tgt := 75) hx hb dX12_type_34 (by decide) (fun c => absurd c (by decide)) (fun _ => ?_)
      refine lv_aload_n hx hb dX12_type_37 rfl (lv_at hl 1 rfl) ?_
      refine x_getR E h (fr_mo_text g) rfl hwX12 (by decide) (by decide +kernel) dX12_type_38 ?_
      refine lv_aload_n hx hb dX12_type_41 rfl (lv_at hl 1 rfl) ?_
      refine x_getI E h (fi_mo_typed g) rfl hwX12 (by decide) (by decide +kernel) (v := 0) fI_25 dX12_type_42 ?_
      refine lv_lload_n hx hb dX12_type_45 rfl (lv_at hl 2 rfl) ?_
      refine lv_bipush (v := 8) hx hb dX12_type_46 (by decide) ?_
      refine lv_iload hx hb dX12_type_48 (lv_at hl 0 rfl) ?_
      refine lv_imul hx hb dX12_type_50 ?_
      refine x_topI (v2 := 16) (by decide) ?_
      refine lv_lshr hx hb dX12_type_51 rfl ?_
      refine lv_topl (fun y11 ey11 => ?_)
      refine lv_ldc2 (v := 255) hx hb hown (hts (.constantLong RX12 108 (255)) (by decide +kernel)) dX12_type_52 ?_
      refine lv_land hx hb dX12_type_55 ?_
      refine lv_l2i hx hb dX12_type_56 rfl ?_
      refine lv_topi (fun x12 ex12 => ?_)
      refine lv_i2b hx hb dX12_type_57 rfl ?_
      refine lv_topi (fun x13 ex13 => ?_)
      refine x_stB E h (ia_mo_text g) (i := 0) (by unfold vp_in; decide) (j := (0)) rfl rfl dX12_type_58 (fun H locs h => ?_)
      refine lv_aload_n hx hb dX12_type_59 rfl (lv_at hl 1 rfl) ?_
      refine lv_dup hx hb dX12_type_60 rfl ?_
      refine x_getI E h (fi_mo_typed g) rfl hwX12 (by decide) (by decide +kernel) (v := 0) fI_25 dX12_type_61 ?_
      refine lv_iconst (v := 1) hx hb dX12_type_64 (by decide) ?_
      refine lv_iadd hx hb dX12_type_65 ?_
      refine x_topI (v2 := 1) (by decide) ?_
      refine x_putI E h (ty := .int) (v := 1) (fi_mo_typed g) rfl hwX12 tyX12_ok nmX12 (by decide) (by decide +kernel) (by decide +kernel) (by decide +kernel) rfl rfl dX12_type_66 (fun H locs h => ?_)
      refine lv_iinc (v := 1) (lv' := [(4, .int 1), (0, .ref (g.2.1 79)), (1, .long p1), (3, .int 3)]) hx hb dX12_type_69 hl (k := 0) rfl (by decide) (by decide) rfl (fun ls hl => ?_)
      refine lv_goto (tgt := 32) hx hb dX12_type_72 (by decide) ?_
      refine lv_iload hx hb dX12_type_32 (lv_at hl 0 rfl) ?_
      refine lv_if_lt (tgt := 75) hx hb dX12_type_34 (by decide) (fun c => absurd c (by decide)) (fun _ => ?_)
      refine lv_aload_n hx hb dX12_type_37 rfl (lv_at hl 1 rfl) ?_
      refine x_getR E h (fr_mo_text g) rfl hwX12 (by decide) (by decide +kernel) dX12_type_38 ?_
      refine lv_aload_n hx hb dX12_type_41 rfl (lv_at hl 1 rfl) ?_
      refine x_getI E h (fi_mo_typed g) rfl hwX12 (by decide) (by decide +kernel) (v := 1) rfl dX12_type_42 ?_
      refine lv_lload_n hx hb dX12_type_45 rfl (lv_at hl 2 rfl) ?_
      refine lv_bipush (v := 8) hx hb dX12_type_46 (by decide) ?_
      refine lv_iload hx hb dX12_type_48 (lv_at hl 0 rfl) ?_
      refine lv_imul hx hb dX12_type_50 ?_
      refine x_topI (v2 := 8) (by decide) ?_
      refine lv_lshr hx hb dX12_type_51 rfl ?_
      refine lv_topl (fun y14 ey14 => ?_)
      refine lv_ldc2 (v := 255) hx hb hown (hts (.constantLong RX12 108 (255)) (by decide +kernel)) dX12_type_52 ?_
      refine lv_land hx hb dX12_type_55 ?_
      refine lv_l2i hx hb dX12_type_56 rfl ?_
      refine lv_topi (fun x15 ex15 => ?_)
      refine lv_i2b hx hb dX12_type_57 rfl ?_
      refine lv_topi (fun x16 ex16 => ?_)
      refine x_stB E h (ia_mo_text g) (i := 1) (by unfold vp_in; decide) (j := (1)) rfl rfl dX12_type_58 (fun H locs h => ?_)
      refine lv_aload_n hx hb dX12_type_59 rfl (lv_at hl 1 rfl) ?_
      refine lv_dup hx hb dX12_type_60 rfl ?_
      refine x_getI E h (fi_mo_typed g) rfl hwX12 (by decide) (by decide +kernel) (v := 1) rfl dX12_type_61 ?_
      refine lv_iconst (v := 1) hx hb dX12_type_64 (by decide) ?_
      refine lv_iadd hx hb dX12_type_65 ?_
      refine x_topI (v2 := 2) (by decide) ?_
      refine x_putI E h (ty := .int) (v := 2) (fi_mo_typed g) rfl hwX12 tyX12_ok nmX12 (by decide) (by decide +kernel) (by decide +kernel) (by decide +kernel) rfl rfl dX12_type_66 (fun H locs h => ?_)
      refine lv_iinc (v := 0) (lv' := [(4, .int 0), (0, .ref (g.2.1 79)), (1, .long p1), (3, .int 3)]) hx hb dX12_type_69 hl (k := 0) rfl (by decide) (by decide) rfl (fun ls hl => ?_)
      refine lv_goto (tgt := 32) hx hb dX12_type_72 (by decide) ?_
      refine lv_iload hx hb dX12_type_32 (lv_at hl 0 rfl) ?_
      refine lv_if_lt (tgt := 75) hx hb dX12_type_34 (by decide) (fun c => absurd c (by decide)) (fun _ => ?_)
      refine lv_aload_n hx hb dX12_type_37 rfl (lv_at hl 1 rfl) ?_
      refine x_getR E h (fr_mo_text g) rfl hwX12 (by decide) (by decide +kernel) dX12_type_38 ?_
      refine lv_aload_n hx hb dX12_type_41 rfl (lv_at hl 1 rfl) ?_
      refine x_getI E h (fi_mo_typed g) rfl hwX12 (by decide) (by decide +kernel) (v := 2) rfl dX12_type_42 ?_
      refine lv_lload_n hx hb dX12_type_45 rfl (lv_at hl 2 rfl) ?_
      refine lv_bipush (v := 8) hx hb dX12_type_46 (by decide) ?_
      refine lv_iload hx hb dX12_type_48 (lv_at hl 0 rfl) ?_
      refine lv_imul hx hb dX12_type_50 ?_
      refine x_topI (v2 := 0) (by decide) ?_
      refine lv_lshr hx hb dX12_type_51 rfl ?_
      refine lv_topl (fun y17 ey17 => ?_)
      refine lv_ldc2 (v := 255) hx hb hown (hts (.constantLong RX12 108 (255)) (by decide +kernel)) dX12_type_52 ?_
      refine lv_land hx hb dX12_type_55 ?_
      refine lv_l2i hx hb dX12_type_56 rfl ?_
      refine lv_topi (fun x18 ex18 => ?_)
      refine lv_i2b hx hb dX12_type_57 rfl ?_
      refine lv_topi (fun x19 ex19 => ?_)
      refine x_stB E h (ia_mo_text g) (i := 2) (by unfold vp_in; decide) (j := (2)) rfl rfl dX12_type_58 (fun H locs h => ?_)
      refine lv_aload_n hx hb dX12_type_59 rfl (lv_at hl 1 rfl) ?_
      refine lv_dup hx hb dX12_type_60 rfl ?_
      refine x_getI E h (fi_mo_typed g) rfl hwX12 (by decide) (by decide +kernel) (v := 2) rfl dX12_type_61 ?_
      refine lv_iconst (v := 1) hx hb dX12_type_64 (by decide) ?_
      refine lv_iadd hx hb dX12_type_65 ?_
      refine x_topI (v2 := 3) (by decide) ?_
      refine x_putI E h (ty := .int) (v := 3) (fi_mo_typed g) rfl hwX12 tyX12_ok nmX12 (by decide) (by decide +kernel) (by decide +kernel) (by decide +kernel) rfl rfl dX12_type_66 (fun H locs h => ?_)
      refine lv_iinc (v := (-1)) (lv' := [(4, .int (-1)), (0, .ref (g.2.1 79)), (1, .long p1), (3, .int 3)]) hx hb dX12_type_69 hl (k := 0) rfl (by decide) (by decide) rfl (fun ls hl => ?_)
      refine lv_goto (tgt := 32) hx hb dX12_type_72 (by decide) ?_
      refine lv_iload hx hb dX12_type_32 (lv_at hl 0 rfl) ?_
      refine lv_if_lt (tgt := 75) hx hb dX12_type_34 (by decide) (fun _ => ?_) (fun c => absurd (by decide) c)
      refine lv_aload_n hx hb dX12_type_75 rfl (lv_at hl 1 rfl) ?_
      refine x_getI E h (fi_mo_typed g) rfl hwX12 (by decide) (by decide +kernel) (v := 3) rfl dX12_type_76 ?_
      exact x_iret E h (Or.inl ⟨k1_0, rfl⟩) dX12_type_79
    · skip
      refine lv_aload_n hx hb dX12_type_12 rfl (lv_at hl 0 rfl) ?_
      refine x_getI E h (fi_mo_typed g) rfl hwX12 (by decide) (by decide +kernel) (v := 0) fI_25 dX12_type_13 ?_
      refine lv_iload_n hx hb dX12_type_16 rfl (lv_at hl 2 rfl) ?_
      refine lv_iadd hx hb dX12_type_17 ?_
      refine x_topI (v2 := 4) (by decide) ?_
      refine lv_sipush (v := 200) hx hb dX12_type_18 (by decide) ?_
      refine lv_icmp_le (tgt := 27) hx hb dX12_type_21 (by decide) (fun _ => ?_) (fun c => absurd (by decide) c)
      refine lv_iload_n hx hb dX12_type_27 rfl (lv_at hl 2 rfl) ?_
      refine lv_iconst (v := 1) hx hb dX12_type_28 (by decide) ?_
      refine lv_isub hx hb dX12_type_29 ?_
      refine x_topI (v2 := 3) (by decide) ?_
      refine lv_istore (lv' := [(4, .int 3), (0, .ref (g.2.1 79)), (1, .long p1), (3, .int 4)]) hx hb dX12_type_30 hl (by decide) rfl (fun ls hl => ?_)
      refine lv_iload hx hb dX12_type_32 (lv_at hl 0 rfl) ?_
      refine lv_if_lt (tgt := 75) hx hb dX12_type_34 (by decide) (fun c => absurd c (by decide)) (fun _ => ?_)
      refine lv_aload_n hx hb dX12_type_37 rfl (lv_at hl 1 rfl) ?_
      refine x_getR E h (fr_mo_text g) rfl hwX12 (by decide) (by decide +kernel) dX12_type_38 ?_
      refine lv_aload_n hx hb dX12_type_41 rfl (lv_at hl 1 rfl) ?_
      refine x_getI E h (fi_mo_typed g) rfl hwX12 (by decide) (by decide +kernel) (v := 0) fI_25 dX12_type_42 ?_
      refine lv_lload_n hx hb dX12_type_45 rfl (lv_at hl 2 rfl) ?_
      refine lv_bipush (v := 8) hx hb dX12_type_46 (by decide) ?_
      refine lv_iload hx hb dX12_type_48 (lv_at hl 0 rfl) ?_
      refine lv_imul hx hb dX12_type_50 ?_
      refine x_topI (v2 := 24) (by decide) ?_
      refine lv_lshr hx hb dX12_type_51 rfl ?_
      refine lv_topl (fun y20 ey20 => ?_)
      refine lv_ldc2 (v := 255) hx hb hown (hts (.constantLong RX12 108 (255)) (by decide +kernel)) dX12_type_52 ?_
      refine lv_land hx hb dX12_type_55 ?_
      refine lv_l2i hx hb dX12_type_56 rfl ?_
      refine lv_topi (fun x21 ex21 => ?_)
      refine lv_i2b hx hb dX12_type_57 rfl ?_
      refine lv_topi (fun x22 ex22 => ?_)
      refine x_stB E h (ia_mo_text g) (i := 0) (by unfold vp_in; decide) (j := (0)) rfl rfl dX12_type_58 (fun H locs h => ?_)
      refine lv_aload_n hx hb dX12_type_59 rfl (lv_at hl 1 rfl) ?_
      refine lv_dup hx hb dX12_type_60 rfl ?_
      refine x_getI E h (fi_mo_typed g) rfl hwX12 (by decide) (by decide +kernel) (v := 0) fI_25 dX12_type_61 ?_
      refine lv_iconst (v := 1) hx hb dX12_type_64 (by decide) ?_
      refine lv_iadd hx hb dX12_type_65 ?_
      refine x_topI (v2 := 1) (by decide) ?_
      refine x_putI E h (ty := .int) (v := 1) (fi_mo_typed g) rfl hwX12 tyX12_ok nmX12 (by decide) (by decide +kernel) (by decide +kernel) (by decide +kernel) rfl rfl dX12_type_66 (fun H locs h => ?_)
      refine lv_iinc (v := 2) (lv' := [(4, .int 2), (0, .ref (g.2.1 79)), (1, .long p1), (3, .int 4)]) hx hb dX12_type_69 hl (k := 0) rfl (by decide) (by decide) rfl (fun ls hl => ?_)
      refine lv_goto (tgt := 32) hx hb dX12_type_72 (by decide) ?_
      refine lv_iload hx hb dX12_type_32 (lv_at hl 0 rfl) ?_
      refine lv_if_lt (tgt := 75) hx hb dX12_type_34 (by decide) (fun c => absurd c (by decide)) (fun _ => ?_)
      refine lv_aload_n hx hb dX12_type_37 rfl (lv_at hl 1 rfl) ?_
      refine x_getR E h (fr_mo_text g) rfl hwX12 (by decide) (by decide +kernel) dX12_type_38 ?_
      refine lv_aload_n hx hb dX12_type_41 rfl (lv_at hl 1 rfl) ?_
      refine x_getI E h (fi_mo_typed g) rfl hwX12 (by decide) (by decide +kernel) (v := 1) rfl dX12_type_42 ?_
      refine lv_lload_n hx hb dX12_type_45 rfl (lv_at hl 2 rfl) ?_
      refine lv_bipush (v := 8) hx hb dX12_type_46 (by decide) ?_
      refine lv_iload hx hb dX12_type_48 (lv_at hl 0 rfl) ?_
      refine lv_imul hx hb dX12_type_50 ?_
      refine x_topI (v2 := 16) (by decide) ?_
      refine lv_lshr hx hb dX12_type_51 rfl ?_
      refine lv_topl (fun y23 ey23 => ?_)
      refine lv_ldc2 (v := 255) hx hb hown (hts (.constantLong RX12 108 (255)) (by decide +kernel)) dX12_type_52 ?_
      refine lv_land hx hb dX12_type_55 ?_
      refine lv_l2i hx hb dX12_type_56 rfl ?_
      refine lv_topi (fun x24 ex24 => ?_)
      refine lv_i2b hx hb dX12_type_57 rfl ?_
      refine lv_topi (fun x25 ex25 => ?_)
      refine x_stB E h (ia_mo_text g) (i := 1) (by unfold vp_in; decide) (j := (1)) rfl rfl dX12_type_58 (fun H locs h => ?_)
      refine lv_aload_n hx hb dX12_type_59 rfl (lv_at hl 1 rfl) ?_
      refine lv_dup hx hb dX12_type_60 rfl ?_
      refine x_getI E h (fi_mo_typed g) rfl hwX12 (by decide) (by decide +kernel) (v := 1) rfl dX12_type_61 ?_
      refine lv_iconst (v := 1) hx hb dX12_type_64 (by decide) ?_
      refine lv_iadd hx hb dX12_type_65 ?_
      refine x_topI (v2 := 2) (by decide) ?_
      refine x_putI E h (ty := .int) (v := 2) (fi_mo_typed g) rfl hwX12 tyX12_ok nmX12 (by decide) (by decide +kernel) (by decide +kernel) (by decide +kernel) rfl rfl dX12_type_66 (fun H locs h => ?_)
      refine lv_iinc (v := 1) (lv' := [(4, .int 1), (0, .ref (g.2.1 79)), (1, .long p1), (3, .int 4)]) hx hb dX12_type_69 hl (k := 0) rfl (by decide) (by decide) rfl (fun ls hl => ?_)
      refine lv_goto (tgt := 32) hx hb dX12_type_72 (by decide) ?_
      refine lv_iload hx hb dX12_type_32 (lv_at hl 0 rfl) ?_
      refine lv_if_lt (tgt := 75) hx hb dX12_type_34 (by decide) (fun c => absurd c (by decide)) (fun _ => ?_)
      refine lv_aload_n hx hb dX12_type_37 rfl (lv_at hl 1 rfl) ?_
      refine x_getR E h (fr_mo_text g) rfl hwX12 (by decide) (by decide +kernel) dX12_type_38 ?_
      refine lv_aload_n hx hb dX12_type_41 rfl (lv_at hl 1 rfl) ?_
      refine x_getI E h (fi_mo_typed g) rfl hwX12 (by decide) (by decide +kernel) (v := 2) rfl dX12_type_42 ?_
      refine lv_lload_n hx hb dX12_type_45 rfl (lv_at hl 2 rfl) ?_
      refine lv_bipush (v := 8) hx hb dX12_type_46 (by decide) ?_
      refine lv_iload hx hb dX12_type_48 (lv_at hl 0 rfl) ?_
      refine lv_imul hx hb dX12_type_50 ?_
      refine x_topI (v2 := 8) (by decide) ?_
      refine lv_lshr hx hb dX12_type_51 rfl ?_
      refine lv_topl (fun y26 ey26 => ?_)
      refine lv_ldc2 (v := 255) hx hb hown (hts (.constantLong RX12 108 (255)) (by decide +kernel)) dX12_type_52 ?_
      refine lv_land hx hb dX12_type_55 ?_
      refine lv_l2i hx hb dX12_type_56 rfl ?_
      refine lv_topi (fun x27 ex27 => ?_)
      refine lv_i2b hx hb dX12_type_57 rfl ?_
      refine lv_topi (fun x28 ex28 => ?_)
      refine x_stB E h (ia_mo_text g) (i := 2) (by unfold vp_in; decide) (j := (2)) rfl rfl dX12_type_58 (fun H locs h => ?_)
      refine lv_aload_n hx hb dX12_type_59 rfl (lv_at hl 1 rfl) ?_
      refine lv_dup hx hb dX12_type_60 rfl ?_
      refine x_getI E h (fi_mo_typed g) rfl hwX12 (by decide) (by decide +kernel) (v := 2) rfl dX12_type_61 ?_
      refine lv_iconst (v := 1) hx hb dX12_type_64 (by decide) ?_
      refine lv_iadd hx hb dX12_type_65 ?_
      refine x_topI (v2 := 3) (by decide) ?_
      refine x_putI E h (ty := .int) (v := 3) (fi_mo_typed g) rfl hwX12 tyX12_ok nmX12 (by decide) (by decide +kernel) (by decide +kernel) (by decide +kernel) rfl rfl dX12_type_66 (fun H locs h => ?_)
      refine lv_iinc (v := 0) (lv' := [(4, .int 0), (0, .ref (g.2.1 79)), (1, .long p1), (3, .int 4)]) hx hb dX12_type_69 hl (k := 0) rfl (by decide) (by decide) rfl (fun ls hl => ?_)
      refine lv_goto (tgt := 32) hx hb dX12_type_72 (by decide) ?_
      refine lv_iload hx hb dX12_type_32 (lv_at hl 0 rfl) ?_
      refine lv_if_lt (tgt := 75) hx hb dX12_type_34 (by decide) (fun c => absurd c (by decide)) (fun _ => ?_)
      refine lv_aload_n hx hb dX12_type_37 rfl (lv_at hl 1 rfl) ?_
      refine x_getR E h (fr_mo_text g) rfl hwX12 (by decide) (by decide +kernel) dX12_type_38 ?_
      refine lv_aload_n hx hb dX12_type_41 rfl (lv_at hl 1 rfl) ?_
      refine x_getI E h (fi_mo_typed g) rfl hwX12 (by decide) (by decide +kernel) (v := 3) rfl dX12_type_42 ?_
      refine lv_lload_n hx hb dX12_type_45 rfl (lv_at hl 2 rfl) ?_
      refine lv_bipush (v := 8) hx hb dX12_type_46 (by decide) ?_
      refine lv_iload hx hb dX12_type_48 (lv_at hl 0 rfl) ?_
      refine lv_imul hx hb dX12_type_50 ?_
      refine x_topI (v2 := 0) (by decide) ?_
      refine lv_lshr hx hb dX12_type_51 rfl ?_
      refine lv_topl (fun y29 ey29 => ?_)
      refine lv_ldc2 (v := 255) hx hb hown (hts (.constantLong RX12 108 (255)) (by decide +kernel)) dX12_type_52 ?_
      refine lv_land hx hb dX12_type_55 ?_
      refine lv_l2i hx hb dX12_type_56 rfl ?_
      refine lv_topi (fun x30 ex30 => ?_)
      refine lv_i2b hx hb dX12_type_57 rfl ?_
      refine lv_topi (fun x31 ex31 => ?_)
      refine x_stB E h (ia_mo_text g) (i := 3) (by unfold vp_in; decide) (j := (3)) rfl rfl dX12_type_58 (fun H locs h => ?_)
      refine lv_aload_n hx hb dX12_type_59 rfl (lv_at hl 1 rfl) ?_
      refine lv_dup hx hb dX12_type_60 rfl ?_
      refine x_getI E h (fi_mo_typed g) rfl hwX12 (by decide) (by decide +kernel) (v := 3) rfl dX12_type_61 ?_
      refine lv_iconst (v := 1) hx hb dX12_type_64 (by decide) ?_
      refine lv_iadd hx hb dX12_type_65 ?_
      refine x_topI (v2 := 4) (by decide) ?_
      refine x_putI E h (ty := .int) (v := 4) (fi_mo_typed g) rfl hwX12 tyX12_ok nmX12 (by decide) (by decide +kernel) (by decide +kernel) (by decide +kernel) rfl rfl dX12_type_66 (fun H locs h => ?_)
      refine lv_iinc (v := (-1)) (lv' := [(4, .int (-1)), (0, .ref (g.2.1 79)), (1, .long p1), (3, .int 4)]) hx hb dX12_type_69 hl (k := 0) rfl (by decide) (by decide) rfl (fun ls hl => ?_)
      refine lv_goto (tgt := 32) hx hb dX12_type_72 (by decide) ?_
      refine lv_iload hx hb dX12_type_32 (lv_at hl 0 rfl) ?_
      refine lv_if_lt (tgt := 75) hx hb dX12_type_34 (by decide) (fun _ => ?_) (fun c => absurd (by decide) c)
      refine lv_aload_n hx hb dX12_type_75 rfl (lv_at hl 1 rfl) ?_
      refine x_getI E h (fi_mo_typed g) rfl hwX12 (by decide) (by decide +kernel) (v := 4) rfl dX12_type_76 ?_
      exact x_iret E h (Or.inl ⟨k1_0, rfl⟩) dX12_type_79
    · skip
      refine lv_aload_n hx hb dX12_type_12 rfl (lv_at hl 0 rfl) ?_
      refine x_getI E h (fi_mo_typed g) rfl hwX12 (by decide) (by decide +kernel) (v := 0) fI_25 dX12_type_13 ?_
      refine lv_iload_n hx hb dX12_type_16 rfl (lv_at hl 2 rfl) ?_
      refine lv_iadd hx hb dX12_type_17 ?_
      refine x_topI (v2 := 5) (by decide) ?_
      refine lv_sipush (v := 200) hx hb dX12_type_18 (by decide) ?_
      refine lv_icmp_le (tgt := 27) hx hb dX12_type_21 (by decide) (fun _ => ?_) (fun c => absurd (by decide) c)
      refine lv_iload_n hx hb dX12_type_27 rfl (lv_at hl 2 rfl) ?_
      refine lv_iconst (v := 1) hx hb dX12_type_28 (by decide) ?_
      refine lv_isub hx hb dX12_type_29 ?_
      refine x_topI (v2 := 4) (by decide) ?_
      refine lv_istore (lv' := [(4, .int 4), (0, .ref (g.2.1 79)), (1, .long p1), (3, .int 5)]) hx hb dX12_type_30 hl (by decide) rfl (fun ls hl => ?_)
      refine lv_iload hx hb dX12_type_32 (lv_at hl 0 rfl) ?_
      refine lv_if_lt (tgt := 75) hx hb dX12_type_34 (by decide) (fun c => absurd c (by decide)) (fun _ => ?_)
      refine lv_aload_n hx hb dX12_type_37 rfl (lv_at hl 1 rfl) ?_
      refine x_getR E h (fr_mo_text g) rfl hwX12 (by decide) (by decide +kernel) dX12_type_38 ?_
      refine lv_aload_n hx hb dX12_type_41 rfl (lv_at hl 1 rfl) ?_
      refine x_getI E h (fi_mo_typed g) rfl hwX12 (by decide) (by decide +kernel) (v := 0) fI_25 dX12_type_42 ?_
      refine lv_lload_n hx hb dX12_type_45 rfl (lv_at hl 2 rfl) ?_
      refine lv_bipush (v := 8) hx hb dX12_type_46 (by decide) ?_
      refine lv_iload hx hb dX12_type_48 (lv_at hl 0 rfl) ?_
      refine lv_imul hx hb dX12_type_50 ?_
      refine x_topI (v2 := 32) (by decide) ?_
      refine lv_lshr hx hb dX12_type_51 rfl ?_
      refine lv_topl (fun y32 ey32 => ?_)
      refine lv_ldc2 (v := 255) hx hb hown (hts (.constantLong RX12 108 (255)) (by decide +kernel)) dX12_type_52 ?_
      refine lv_land hx hb dX12_type_55 ?_
      refine lv_l2i hx hb dX12_type_56 rfl ?_
      refine lv_topi (fun x33 ex33 => ?_)
      refine lv_i2b hx hb dX12_type_57 rfl ?_
      refine lv_topi (fun x34 ex34 => ?_)
      refine x_stB E h (ia_mo_text g) (i := 0) (by unfold vp_in; decide) (j := (0)) rfl rfl dX12_type_58 (fun H locs h => ?_)
      refine lv_aload_n hx hb dX12_type_59 rfl (lv_at hl 1 rfl) ?_
      refine lv_dup hx hb dX12_type_60 rfl ?_
      refine x_getI E h (fi_mo_typed g) rfl hwX12 (by decide) (by decide +kernel) (v := 0) fI_25 dX12_type_61 ?_
      refine lv_iconst (v := 1) hx hb dX12_type_64 (by decide) ?_
      refine lv_iadd hx hb dX12_type_65 ?_
      refine x_topI (v2 := 1) (by decide) ?_
      refine x_putI E h (ty := .int) (v := 1) (fi_mo_typed g) rfl hwX12 tyX12_ok nmX12 (by decide) (by decide +kernel) (by decide +kernel) (by decide +kernel) rfl rfl dX12_type_66 (fun H locs h => ?_)
      refine lv_iinc (v := 3) (lv' := [(4, .int 3), (0, .ref (g.2.1 79)), (1, .long p1), (3, .int 5)]) hx hb dX12_type_69 hl (k := 0) rfl (by decide) (by decide) rfl (fun ls hl => ?_)
      refine lv_goto (tgt := 32) hx hb dX12_type_72 (by decide) ?_
      refine lv_iload hx hb dX12_type_32 (lv_at hl 0 rfl) ?_
      refine lv_if_lt (tgt := 75) hx hb dX12_type_34 (by decide) (fun c => absurd c (by decide)) (fun _ => ?_)
      refine lv_aload_n hx hb dX12_type_37 rfl (lv_at hl 1 rfl) ?_
      refine x_getR E h (fr_mo_text g) rfl hwX12 (by decide) (by decide +kernel) dX12_type_38 ?_
      refine lv_aload_n hx hb dX12_type_41 rfl (lv_at hl 1 rfl) ?_
      refine x_getI E h (fi_mo_typed g) rfl hwX12 (by decide) (by decide +kernel) (v := 1) rfl dX12_type_42 ?_
      refine lv_lload_n hx hb dX12_type_45 rfl (lv_at hl 2 rfl) ?_
      refine lv_bipush (v := 8) hx hb dX12_type_46 (by decide) ?_
      refine lv_iload hx hb dX12_type_48 (lv_at hl 0 rfl) ?_
      refine lv_imul hx hb dX12_type_50 ?_
      refine x_topI (v2 := 24) (by decide) ?_
      refine lv_lshr hx hb dX12_type_51 rfl ?_
      refine lv_topl (fun y35 ey35 => ?_)
      refine lv_ldc2 (v := 255) hx hb hown (hts (.constantLong RX12 108 (255)) (by decide +kernel)) dX12_type_52 ?_
      refine lv_land hx hb dX12_type_55 ?_
      refine lv_l2i hx hb dX12_type_56 rfl ?_
      refine lv_topi (fun x36 ex36 => ?_)
      refine lv_i2b hx hb dX12_type_57 rfl ?_
      refine lv_topi (fun x37 ex37 => ?_)
      refine x_stB E h (ia_mo_text g) (i := 1) (by unfold vp_in; decide) (j := (1)) rfl rfl dX12_type_58 (fun H locs h => ?_)
      refine lv_aload_n hx hb dX12_type_59 rfl (lv_at hl 1 rfl) ?_
      refine lv_dup hx hb dX12_type_60 rfl ?_
      refine x_getI E h (fi_mo_typed g) rfl hwX12 (by decide) (by decide +kernel) (v := 1) rfl dX12_type_61 ?_
      refine lv_iconst (v := 1) hx hb dX12_type_64 (by decide) ?_
      refine lv_iadd hx hb dX12_type_65 ?_
      refine x_topI (v2 := 2) (by decide) ?_
      refine x_putI E h (ty := .int) (v := 2) (fi_mo_typed g) rfl hwX12 tyX12_ok nmX12 (by decide) (by decide +kernel) (by decide +kernel) (by decide +kernel) rfl rfl dX12_type_66 (fun H locs h => ?_)
      refine lv_iinc (v := 2) (lv' := [(4, .int 2), (0, .ref (g.2.1 79)), (1, .long p1), (3, .int 5)]) hx hb dX12_type_69 hl (k := 0) rfl (by decide) (by decide) rfl (fun ls hl => ?_)
      refine lv_goto (tgt := 32) hx hb dX12_type_72 (by decide) ?_
      refine lv_iload hx hb dX12_type_32 (lv_at hl 0 rfl) ?_
      refine lv_if_lt (tgt := 75) hx hb dX12_type_34 (by decide) (fun c => absurd c (by decide)) (fun _ => ?_)
      refine lv_aload_n hx hb dX12_type_37 rfl (lv_at hl 1 rfl) ?_
      refine x_getR E h (fr_mo_text g) rfl hwX12 (by decide) (by decide +kernel) dX12_type_38 ?_
      refine lv_aload_n hx hb dX12_type_41 rfl (lv_at hl 1 rfl) ?_
      refine x_getI E h (fi_mo_typed g) rfl hwX12 (by decide) (by decide +kernel) (v := 2) rfl dX12_type_42 ?_
      refine lv_lload_n hx hb dX12_type_45 rfl (lv_at hl 2 rfl) ?_
      refine lv_bipush (v := 8) hx hb dX12_type_46 (by decide) ?_
      refine lv_iload hx hb dX12_type_48 (lv_at hl 0 rfl) ?_
      refine lv_imul hx hb dX12_type_50 ?_
      refine x_topI (v2 := 16) (by decide) ?_
      refine lv_lshr hx hb dX12_type_51 rfl ?_
      refine lv_topl (fun y38 ey38 => ?_)
      refine lv_ldc2 (v := 255) hx hb hown (hts (.constantLong RX12 108 (255)) (by decide +kernel)) dX12_type_52 ?_
      refine lv_land hx hb dX12_type_55 ?_
      refine lv_l2i hx hb dX12_type_56 rfl ?_
      refine lv_topi (fun x39 ex39 => ?_)
      refine lv_i2b hx hb dX12_type_57 rfl ?_
      refine lv_topi (fun x40 ex40 => ?_)
      refine x_stB E h (ia_mo_text g) (i := 2) (by unfold vp_in; decide) (j := (2)) rfl rfl dX12_type_58 (fun H locs h => ?_)
      refine lv_aload_n hx hb dX12_type_59 rfl (lv_at hl 1 rfl) ?_
      refine lv_dup hx hb dX12_type_60 rfl ?_
      refine x_getI E h (fi_mo_typed g) rfl hwX12 (by decide) (by decide +kernel) (v := 2) rfl dX12_type_61 ?_
      refine lv_iconst (v := 1) hx hb dX12_type_64 (by decide) ?_
      refine lv_iadd hx hb dX12_type_65 ?_
      refine x_topI (v2 := 3) (by decide) ?_
      refine x_putI E h (ty := .int) (v := 3) (fi_mo_typed g) rfl hwX12 tyX12_ok nmX12 (by decide) (by decide +kernel) (by decide +kernel) (by decide +kernel) rfl rfl dX12_type_66 (fun H locs h => ?_)
      refine lv_iinc (v := 1) (lv' := [(4, .int 1), (0, .ref (g.2.1 79)), (1, .long p1), (3, .int 5)]) hx hb dX12_type_69 hl (k := 0) rfl (by decide) (by decide) rfl (fun ls hl => ?_)
      refine lv_goto (tgt := 32) hx hb dX12_type_72 (by decide) ?_
      refine lv_iload hx hb dX12_type_32 (lv_at hl 0 rfl) ?_
      refine lv_if_lt (tgt := 75) hx hb dX12_type_34 (by decide) (fun c => absurd c (by decide)) (fun _ => ?_)
      refine lv_aload_n hx hb dX12_type_37 rfl (lv_at hl 1 rfl) ?_
      refine x_getR E h (fr_mo_text g) rfl hwX12 (by decide) (by decide +kernel) dX12_type_38 ?_
      refine lv_aload_n hx hb dX12_type_41 rfl (lv_at hl 1 rfl) ?_
      refine x_getI E h (fi_mo_typed g) rfl hwX12 (by decide) (by decide +kernel) (v := 3) rfl dX12_type_42 ?_
      refine lv_lload_n hx hb dX12_type_45 rfl (lv_at hl 2 rfl) ?_
      refine lv_bipush (v := 8) hx hb dX12_type_46 (by decide) ?_
      refine lv_iload hx hb dX12_type_48 (lv_at hl 0 rfl) ?_
      refine lv_imul hx hb dX12_type_50 ?_
      refine x_topI (v2 := 8) (by decide) ?_
      refine lv_lshr hx hb dX12_type_51 rfl ?_
      refine lv_topl (fun y41 ey41 => ?_)
      refine lv_ldc2 (v := 255) hx hb hown (hts (.constantLong RX12 108 (255)) (by decide +kernel)) dX12_type_52 ?_
      refine lv_land hx hb dX12_type_55 ?_
      refine lv_l2i hx hb dX12_type_56 rfl ?_
      refine lv_topi (fun x42 ex42 => ?_)
      refine lv_i2b hx hb dX12_type_57 rfl ?_
      refine lv_topi (fun x43 ex43 => ?_)
      refine x_stB E h (ia_mo_text g) (i := 3) (by unfold vp_in; decide) (j := (3)) rfl rfl dX12_type_58 (fun H locs h => ?_)
      refine lv_aload_n hx hb dX12_type_59 rfl (lv_at hl 1 rfl) ?_
      refine lv_dup hx hb dX12_type_60 rfl ?_
      refine x_getI E h (fi_mo_typed g) rfl hwX12 (by decide) (by decide +kernel) (v := 3) rfl dX12_type_61 ?_
      refine lv_iconst (v := 1) hx hb dX12_type_64 (by decide) ?_
      refine lv_iadd hx hb dX12_type_65 ?_
      refine x_topI (v2 := 4) (by decide) ?_
      refine x_putI E h (ty := .int) (v := 4) (fi_mo_typed g) rfl hwX12 tyX12_ok nmX12 (by decide) (by decide +kernel) (by decide +kernel) (by decide +kernel) rfl rfl dX12_type_66 (fun H locs h => ?_)
      refine lv_iinc (v := 0) (lv' := [(4, .int 0), (0, .ref (g.2.1 79)), (1, .long p1), (3, .int 5)]) hx hb dX12_type_69 hl (k := 0) rfl (by decide) (by decide) rfl (fun ls hl => ?_)
      refine lv_goto (tgt := 32) hx hb dX12_type_72 (by decide) ?_
      refine lv_iload hx hb dX12_type_32 (lv_at hl 0 rfl) ?_
      refine lv_if_lt (tgt := 75) hx hb dX12_type_34 (by decide) (fun c => absurd c (by decide)) (fun _ => ?_)
      refine lv_aload_n hx hb dX12_type_37 rfl (lv_at hl 1 rfl) ?_
      refine x_getR E h (fr_mo_text g) rfl hwX12 (by decide) (by decide +kernel) dX12_type_38 ?_
      refine lv_aload_n hx hb dX12_type_41 rfl (lv_at hl 1 rfl) ?_
      refine x_getI E h (fi_mo_typed g) rfl hwX12 (by decide) (by decide +kernel) (v := 4) rfl dX12_type_42 ?_
      refine lv_lload_n hx hb dX12_type_45 rfl (lv_at hl 2 rfl) ?_
      refine lv_bipush (v := 8) hx hb dX12_type_46 (by decide) ?_
      refine lv_iload hx hb dX12_type_48 (lv_at hl 0 rfl) ?_
      refine lv_imul hx hb dX12_type_50 ?_
      refine x_topI (v2 := 0) (by decide) ?_
      refine lv_lshr hx hb dX12_type_51 rfl ?_
      refine lv_topl (fun y44 ey44 => ?_)
      refine lv_ldc2 (v := 255) hx hb hown (hts (.constantLong RX12 108 (255)) (by decide +kernel)) dX12_type_52 ?_
      refine lv_land hx hb dX12_type_55 ?_
      refine lv_l2i hx hb dX12_type_56 rfl ?_
      refine lv_topi (fun x45 ex45 => ?_)
      refine lv_i2b hx hb dX12_type_57 rfl ?_
      refine lv_topi (fun x46 ex46 => ?_)
      refine x_stB E h (ia_mo_text g) (i := 4) (by unfold vp_in; decide) (j := (4)) rfl rfl dX12_type_58 (fun H locs h => ?_)
      refine lv_aload_n hx hb dX12_type_59 rfl (lv_at hl 1 rfl) ?_
      refine lv_dup hx hb dX12_type_60 rfl ?_
      refine x_getI E h (fi_mo_typed g) rfl hwX12 (by decide) (by decide +kernel) (v := 4) rfl dX12_type_61 ?_
      refine lv_iconst (v := 1) hx hb dX12_type_64 (by decide) ?_
      refine lv_iadd hx hb dX12_type_65 ?_
      refine x_topI (v2 := 5) (by decide) ?_
      refine x_putI E h (ty := .int) (v := 5) (fi_mo_typed g) rfl hwX12 tyX12_ok nmX12 (by decide) (by decide +kernel) (by decide +kernel) (by decide +kernel) rfl rfl dX12_type_66 (fun H locs h => ?_)
      refine lv_iinc (v := (-1)) (lv' := [(4, .int (-1)), (0, .ref (g.2.1 79)), (1, .long p1), (3, .int 5)]) hx hb dX12_type_69 hl (k := 0) rfl (by decide) (by decide) rfl (fun ls hl => ?_)
      refine lv_goto (tgt := 32) hx hb dX12_type_72 (by decide) ?_
      refine lv_iload hx hb dX12_type_32 (lv_at hl 0 rfl) ?_
      refine lv_if_lt (tgt := 75) hx hb dX12_type_34 (by decide) (fun _ => ?_) (fun c => absurd (by decide) c)
      refine lv_aload_n hx hb dX12_type_75 rfl (lv_at hl 1 rfl) ?_
      refine x_getI E h (fi_mo_typed g) rfl hwX12 (by decide) (by decide +kernel) (v := 5) rfl dX12_type_76 ?_
      exact x_iret E h (Or.inl ⟨k1_0, rfl⟩) dX12_type_79
    · skip
      refine lv_aload_n hx hb dX12_type_12 rfl (lv_at hl 0 rfl) ?_
      refine x_getI E h (fi_mo_typed g) rfl hwX12 (by decide) (by decide +kernel) (v := 0) fI_25 dX12_type_13 ?_
      refine lv_iload_n hx hb dX12_type_16 rfl (lv_at hl 2 rfl) ?_
      refine lv_iadd hx hb dX12_type_17 ?_
      refine x_topI (v2 := 6) (by decide) ?_
      refine lv_sipush (v := 200) hx hb dX12_type_18 (by decide) ?_
      refine lv_icmp_le (tgt := 27) hx hb dX12_type_21 (by decide) (fun _ => ?_) (fun c => absurd (by decide) c)
      refine lv_iload_n hx hb dX12_type_27 rfl (lv_at hl 2 rfl) ?_
      refine lv_iconst (v := 1) hx hb dX12_type_28 (by decide) ?_
      refine lv_isub hx hb dX12_type_29 ?_
      refine x_topI (v2 := 5) (by decide) ?_
      refine lv_istore (lv' := [(4, .int 5), (0, .ref (g.2.1 79)), (1, .long p1), (3, .int 6)]) hx hb dX12_type_30 hl (by decide) rfl (fun ls hl => ?_)
      refine lv_iload hx hb dX12_type_32 (lv_at hl 0 rfl) ?_
      refine lv_if_lt (tgt := 75) hx hb dX12_type_34 (by decide) (fun c => absurd c (by decide)) (fun _ => ?_)
      refine lv_aload_n hx hb dX12_type_37 rfl (lv_at hl 1 rfl) ?_
      refine x_getR E h (fr_mo_text g) rfl hwX12 (by decide) (by decide +kernel) dX12_type_38 ?_
      refine lv_aload_n hx hb dX12_type_41 rfl (lv_at hl 1 rfl) ?_
      refine x_getI E h (fi_mo_typed g) rfl hwX12 (by decide) (by decide +kernel) (v := 0) fI_25 dX12_type_42 ?_
      refine lv_lload_n hx hb dX12_type_45 rfl (lv_at hl 2 rfl) ?_
      refine lv_bipush (v := 8) hx hb dX12_type_46 (by decide) ?_
      refine lv_iload hx hb dX12_type_48 (lv_at hl 0 rfl) ?_
      refine lv_imul hx hb dX12_type_50 ?_
      refine x_topI (v2 := 40) (by decide) ?_
      refine lv_lshr hx hb dX12_type_51 rfl ?_
      refine lv_topl (fun y47 ey47 => ?_)
      refine lv_ldc2 (v := 255) hx hb hown (hts (.constantLong RX12 108 (255)) (by decide +kernel)) dX12_type_52 ?_
      refine lv_land hx hb dX12_type_55 ?_
      refine lv_l2i hx hb dX12_type_56 rfl ?_
      refine lv_topi (fun x48 ex48 => ?_)
      refine lv_i2b hx hb dX12_type_57 rfl ?_
      refine lv_topi (fun x49 ex49 => ?_)
      refine x_stB E h (ia_mo_text g) (i := 0) (by unfold vp_in; decide) (j := (0)) rfl rfl dX12_type_58 (fun H locs h => ?_)
      refine lv_aload_n hx hb dX12_type_59 rfl (lv_at hl 1 rfl) ?_
      refine lv_dup hx hb dX12_type_60 rfl ?_
      refine x_getI E h (fi_mo_typed g) rfl hwX12 (by decide) (by decide +kernel) (v := 0) fI_25 dX12_type_61 ?_
      refine lv_iconst (v := 1) hx hb dX12_type_64 (by decide) ?_
      refine lv_iadd hx hb dX12_type_65 ?_
      refine x_topI (v2 := 1) (by decide) ?_
      refine x_putI E h (ty := .int) (v := 1) (fi_mo_typed g) rfl hwX12 tyX12_ok nmX12 (by decide) (by decide +kernel) (by decide +kernel) (by decide +kernel) rfl rfl dX12_type_66 (fun H locs h => ?_)
      refine lv_iinc (v := 4) (lv' := [(4, .int 4), (0, .ref (g.2.1 79)), (1, .long p1), (3, .int 6)]) hx hb dX12_type_69 hl (k := 0) rfl (by decide) (by decide) rfl (fun ls hl => ?_)
      refine lv_goto (tgt := 32) hx hb dX12_type_72 (by decide) ?_
      refine lv_iload hx hb dX12_type_32 (lv_at hl 0 rfl) ?_
      refine lv_if_lt (tgt := 75) hx hb dX12_type_34 (by decide) (fun c => absurd c (by decide)) (fun _ => ?_)
      refine lv_aload_n hx hb dX12_type_37 rfl (lv_at hl 1 rfl) ?_
      refine x_getR E h (fr_mo_text g) rfl hwX12 (by decide) (by decide +kernel) dX12_type_38 ?_
      refine lv_aload_n hx hb dX12_type_41 rfl (lv_at hl 1 rfl) ?_
      refine x_getI E h (fi_mo_typed g) rfl hwX12 (by decide) (by decide +kernel) (v := 1) rfl dX12_type_42 ?_
      refine lv_lload_n hx hb dX12_type_45 rfl (lv_at hl 2 rfl) ?_
      refine lv_bipush (v := 8) hx hb dX12_type_46 (by decide) ?_
      refine lv_iload hx hb dX12_type_48 (lv_at hl 0 rfl) ?_
      refine lv_imul hx hb dX12_type_50 ?_
      refine x_topI (v2 := 32) (by decide) ?_
      refine lv_lshr hx hb dX12_type_51 rfl ?_
      refine lv_topl (fun y50 ey50 => ?_)
      refine lv_ldc2 (v := 255) hx hb hown (hts (.constantLong RX12 108 (255)) (by decide +kernel)) dX12_type_52 ?_
      refine lv_land hx hb dX12_type_55 ?_
      refine lv_l2i hx hb dX12_type_56 rfl ?_
      refine lv_topi (fun x51 ex51 => ?_)
      refine lv_i2b hx hb dX12_type_57 rfl ?_
      refine lv_topi (fun x52 ex52 => ?_)
      refine x_stB E h (ia_mo_text g) (i := 1) (by unfold vp_in; decide) (j := (1)) rfl rfl dX12_type_58 (fun H locs h => ?_)
      refine lv_aload_n hx hb dX12_type_59 rfl (lv_at hl 1 rfl) ?_
      refine lv_dup hx hb dX12_type_60 rfl ?_
      refine x_getI E h (fi_mo_typed g) rfl hwX12 (by decide) (by decide +kernel) (v := 1) rfl dX12_type_61 ?_
      refine lv_iconst (v := 1) hx hb dX12_type_64 (by decide) ?_
      refine lv_iadd hx hb dX12_type_65 ?_
      refine x_topI (v2 := 2) (by decide) ?_
      refine x_putI E h (ty := .int) (v := 2) (fi_mo_typed g) rfl hwX12 tyX12_ok nmX12 (by decide) (by decide +kernel) (by decide +kernel) (by decide +kernel) rfl rfl dX12_type_66 (fun H locs h => ?_)
      refine lv_iinc (v := 3) (lv' := [(4, .int 3), (0, .ref (g.2.1 79)), (1, .long p1), (3, .int 6)]) hx hb dX12_type_69 hl (k := 0) rfl (by decide) (by decide) rfl (fun ls hl => ?_)
      refine lv_goto (tgt := 32) hx hb dX12_type_72 (by decide) ?_
      refine lv_iload hx hb dX12_type_32 (lv_at hl 0 rfl) ?_
      refine lv_if_lt (tgt := 75) hx hb dX12_type_34 (by decide) (fun c => absurd c (by decide)) (fun _ => ?_)
      refine lv_aload_n hx hb dX12_type_37 rfl (lv_at hl 1 rfl) ?_
      refine x_getR E h (fr_mo_text g) rfl hwX12 (by decide) (by decide +kernel) dX12_type_38 ?_
      refine lv_aload_n hx hb dX12_type_41 rfl (lv_at hl 1 rfl) ?_
      refine x_getI E h (fi_mo_typed g) rfl hwX12 (by decide) (by decide +kernel) (v := 2) rfl dX12_type_42 ?_
      refine lv_lload_n hx hb dX12_type_45 rfl (lv_at hl 2 rfl) ?_
      refine lv_bipush (v := 8) hx hb dX12_type_46 (by decide) ?_
      refine lv_iload hx hb dX12_type_48 (lv_at hl 0 rfl) ?_
      refine lv_imul hx hb dX12_type_50 ?_
      refine x_topI (v2 := 24) (by decide) ?_
      refine lv_lshr hx hb dX12_type_51 rfl ?_
      refine lv_topl (fun y53 ey53 => ?_)
      refine lv_ldc2 (v := 255) hx hb hown (hts (.constantLong RX12 108 (255)) (by decide +kernel)) dX12_type_52 ?_
      refine lv_land hx hb dX12_type_55 ?_
      refine lv_l2i hx hb dX12_type_56 rfl ?_
      refine lv_topi (fun x54 ex54 => ?_)
      refine lv_i2b hx hb dX12_type_57 rfl ?_
      refine lv_topi (fun x55 ex55 => ?_)
      refine x_stB E h (ia_mo_text g) (i := 2) (by unfold vp_in; decide) (j := (2)) rfl rfl dX12_type_58 (fun H locs h => ?_)
      refine lv_aload_n hx hb dX12_type_59 rfl (lv_at hl 1 rfl) ?_
      refine lv_dup hx hb dX12_type_60 rfl ?_
      refine x_getI E h (fi_mo_typed g) rfl hwX12 (by decide) (by decide +kernel) (v := 2) rfl dX12_type_61 ?_
      refine lv_iconst (v := 1) hx hb dX12_type_64 (by decide) ?_
      refine lv_iadd hx hb dX12_type_65 ?_
      refine x_topI (v2 := 3) (by decide) ?_
      refine x_putI E h (ty := .int) (v := 3) (fi_mo_typed g) rfl hwX12 tyX12_ok nmX12 (by decide) (by decide +kernel) (by decide +kernel) (by decide +kernel) rfl rfl dX12_type_66 (fun H locs h => ?_)
      refine lv_iinc (v := 2) (lv' := [(4, .int 2), (0, .ref (g.2.1 79)), (1, .long p1), (3, .int 6)]) hx hb dX12_type_69 hl (k := 0) rfl (by decide) (by decide) rfl (fun ls hl => ?_)
      refine lv_goto (tgt := 32) hx hb dX12_type_72 (by decide) ?_
      refine lv_iload hx hb dX12_type_32 (lv_at hl 0 rfl) ?_
      refine lv_if_lt (tgt := 75) hx hb dX12_type_34 (by decide) (fun c => absurd c (by decide)) (fun _ => ?_)
      refine lv_aload_n hx hb dX12_type_37 rfl (lv_at hl 1 rfl) ?_
      refine x_getR E h (fr_mo_text g) rfl hwX12 (by decide) (by decide +kernel) dX12_type_38 ?_
      refine lv_aload_n hx hb dX12_type_41 rfl (lv_at hl 1 rfl) ?_
      refine x_getI E h (fi_mo_typed g) rfl hwX12 (by decide) (by decide +kernel) (v := 3) rfl dX12_type_42 ?_
      refine lv_lload_n hx hb dX12_type_45 rfl (lv_at hl 2 rfl) ?_
      refine lv_bipush (v := 8) hx hb dX12_type_46 (by decide) ?_
      refine lv_iload hx hb dX12_type_48 (lv_at hl 0 rfl) ?_
      refine lv_imul hx hb dX12_type_50 ?_
      refine x_topI (v2 := 16) (by decide) ?_
      refine lv_lshr hx hb dX12_type_51 rfl ?_
      refine lv_topl (fun y56 ey56 => ?_)
      refine lv_ldc2 (v := 255) hx hb hown (hts (.constantLong RX12 108 (255)) (by decide +kernel)) dX12_type_52 ?_
      refine lv_land hx hb dX12_type_55 ?_
      refine lv_l2i hx hb dX12_type_56 rfl ?_
      refine lv_topi (fun x57 ex57 => ?_)
      refine lv_i2b hx hb dX12_type_57 rfl ?_
      refine lv_topi (fun x58 ex58 => ?_)
      refine x_stB E h (ia_mo_text g) (i := 3) (by unfold vp_in; decide) (j := (3)) rfl rfl dX12_type_58 (fun H locs h => ?_)
      refine lv_aload_n hx hb dX12_type_59 rfl (lv_at hl 1 rfl) ?_
      refine lv_dup hx hb dX12_type_60 rfl ?_
      refine x_getI E h (fi_mo_typed g) rfl hwX12 (by decide) (by decide +kernel) (v := 3) rfl dX12_type_61 ?_
      refine lv_iconst (v := 1) hx hb dX12_type_64 (by decide) ?_
      refine lv_iadd hx hb dX12_type_65 ?_
      refine x_topI (v2 := 4) (by decide) ?_
      refine x_putI E h (ty := .int) (v := 4) (fi_mo_typed g) rfl hwX12 tyX12_ok nmX12 (by decide) (by decide +kernel) (by decide +kernel) (by decide +kernel) rfl rfl dX12_type_66 (fun H locs h => ?_)
      refine lv_iinc (v := 1) (lv' := [(4, .int 1), (0, .ref (g.2.1 79)), (1, .long p1), (3, .int 6)]) hx hb dX12_type_69 hl (k := 0) rfl (by decide) (by decide) rfl (fun ls hl => ?_)
      refine lv_goto (tgt := 32) hx hb dX12_type_72 (by decide) ?_
      refine lv_iload hx hb dX12_type_32 (lv_at hl 0 rfl) ?_
      refine lv_if_lt (tgt := 75) hx hb dX12_type_34 (by decide) (fun c => absurd c (by decide)) (fun _ => ?_)
      refine lv_aload_n hx hb dX12_type_37 rfl (lv_at hl 1 rfl) ?_
      refine x_getR E h (fr_mo_text g) rfl hwX12 (by decide) (by decide +kernel) dX12_type_38 ?_
      refine lv_aload_n hx hb dX12_type_41 rfl (lv_at hl 1 rfl) ?_
      refine x_getI E h (fi_mo_typed g) rfl hwX12 (by decide) (by decide +kernel) (v := 4) rfl dX12_type_42 ?_
      refine lv_lload_n hx hb dX12_type_45 rfl (lv_at hl 2 rfl) ?_
      refine lv_bipush (v := 8) hx hb dX12_type_46 (by decide) ?_
      refine lv_iload hx hb dX12_type_48 (lv_at hl 0 rfl) ?_
      refine lv_imul hx hb dX12_type_50 ?_
      refine x_topI (v2 := 8) (by decide) ?_
      refine lv_lshr hx hb dX12_type_51 rfl ?_
      refine lv_topl (fun y59 ey59 => ?_)
      refine lv_ldc2 (v := 255) hx hb hown (hts (.constantLong RX12 108 (255)) (by decide +kernel)) dX12_type_52 ?_
      refine lv_land hx hb dX12_type_55 ?_
      refine lv_l2i hx hb dX12_type_56 rfl ?_
      refine lv_topi (fun x60 ex60 => ?_)
      refine lv_i2b hx hb dX12_type_57 rfl ?_
      refine lv_topi (fun x61 ex61 => ?_)
      refine x_stB E h (ia_mo_text g) (i := 4) (by unfold vp_in; decide) (j := (4)) rfl rfl dX12_type_58 (fun H locs h => ?_)
      refine lv_aload_n hx hb dX12_type_59 rfl (lv_at hl 1 rfl) ?_
      refine lv_dup hx hb dX12_type_60 rfl ?_
      refine x_getI E h (fi_mo_typed g) rfl hwX12 (by decide) (by decide +kernel) (v := 4) rfl dX12_type_61 ?_
      refine lv_iconst (v := 1) hx hb dX12_type_64 (by decide) ?_
      refine lv_iadd hx hb dX12_type_65 ?_
      refine x_topI (v2 := 5) (by decide) ?_
      refine x_putI E h (ty := .int) (v := 5) (fi_mo_typed g) rfl hwX12 tyX12_ok nmX12 (by decide) (by decide +kernel) (by decide +kernel) (by decide +kernel) rfl rfl dX12_type_66 (fun H locs h => ?_)
      refine lv_iinc (v := 0) (lv' := [(4, .int 0), (0, .ref (g.2.1 79)), (1, .long p1), (3, .int 6)]) hx hb dX12_type_69 hl (k := 0) rfl (by decide) (by decide) rfl (fun ls hl => ?_)
      refine lv_goto (tgt := 32) hx hb dX12_type_72 (by decide) ?_
      refine lv_iload hx hb dX12_type_32 (lv_at hl 0 rfl) ?_
      refine lv_if_lt (tgt := 75) hx hb dX12_type_34 (by decide) (fun c => absurd c (by decide)) (fun _ => ?_)
      refine lv_aload_n hx hb dX12_type_37 rfl (lv_at hl 1 rfl) ?_
      refine x_getR E h (fr_mo_text g) rfl hwX12 (by decide) (by decide +kernel) dX12_type_38 ?_
      refine lv_aload_n hx hb dX12_type_41 rfl (lv_at hl 1 rfl) ?_
      refine x_getI E h (fi_mo_typed g) rfl hwX12 (by decide) (by decide +kernel) (v := 5) rfl dX12_type_42 ?_
      refine lv_lload_n hx hb dX12_type_45 rfl (lv_at hl 2 rfl) ?_
      refine lv_bipush (v := 8) hx hb dX12_type_46 (by decide) ?_
      refine lv_iload hx hb dX12_type_48 (lv_at hl 0 rfl) ?_
      refine lv_imul hx hb dX12_type_50 ?_
      refine x_topI (v2 := 0) (by decide) ?_
      refine lv_lshr hx hb dX12_type_51 rfl ?_
      refine lv_topl (fun y62 ey62 => ?_)
      refine lv_ldc2 (v := 255) hx hb hown (hts (.constantLong RX12 108 (255)) (by decide +kernel)) dX12_type_52 ?_
      refine lv_land hx hb dX12_type_55 ?_
      refine lv_l2i hx hb dX12_type_56 rfl ?_
      refine lv_topi (fun x63 ex63 => ?_)
      refine lv_i2b hx hb dX12_type_57 rfl ?_
      refine lv_topi (fun x64 ex64 => ?_)
      refine x_stB E h (ia_mo_text g) (i := 5) (by unfold vp_in; decide) (j := (5)) rfl rfl dX12_type_58 (fun H locs h => ?_)
      refine lv_aload_n hx hb dX12_type_59 rfl (lv_at hl 1 rfl) ?_
      refine lv_dup hx hb dX12_type_60 rfl ?_
      refine x_getI E h (fi_mo_typed g) rfl hwX12 (by decide) (by decide +kernel) (v := 5) rfl dX12_type_61 ?_
      refine lv_iconst (v := 1) hx hb dX12_type_64 (by decide) ?_
      refine lv_iadd hx hb dX12_type_65 ?_
      refine x_topI (v2 := 6) (by decide) ?_
      refine x_putI E h (ty := .int) (v := 6) (fi_mo_typed g) rfl hwX12 tyX12_ok nmX12 (by decide) (by decide +kernel) (by decide +kernel) (by decide +kernel) rfl rfl dX12_type_66 (fun H locs h => ?_)
      refine lv_iinc (v := (-1)) (lv' := [(4, .int (-1)), (0, .ref (g.2.1 79)), (1, .long p1), (3, .int 6)]) hx hb dX12_type_69 hl (k := 0) rfl (by decide) (by decide) rfl (fun ls hl => ?_)
      refine lv_goto (tgt := 32) hx hb dX12_type_72 (by decide) ?_
      refine lv_iload hx hb dX12_type_32 (lv_at hl 0 rfl) ?_
      refine lv_if_lt (tgt := 75) hx hb dX12_type_34 (by decide) (fun _ => ?_) (fun c => absurd (by decide) c)
      refine lv_aload_n hx hb dX12_type_75 rfl (lv_at hl 1 rfl) ?_
      refine x_getI E h (fi_mo_typed g) rfl hwX12 (by decide) (by decide +kernel) (v := 6) rfl dX12_type_76 ?_
      exact x_iret E h (Or.inl ⟨k1_0, rfl⟩) dX12_type_79
    · skip
      refine lv_aload_n hx hb dX12_type_12 rfl (lv_at hl 0 rfl) ?_
      refine x_getI E h (fi_mo_typed g) rfl hwX12 (by decide) (by decide +kernel) (v := 0) fI_25 dX12_type_13 ?_
      refine lv_iload_n hx hb dX12_type_16 rfl (lv_at hl 2 rfl) ?_
      refine lv_iadd hx hb dX12_type_17 ?_
      refine x_topI (v2 := 7) (by decide) ?_
      refine lv_sipush (v := 200) hx hb dX12_type_18 (by decide) ?_
      refine lv_icmp_le (tgt := 27) hx hb dX12_type_21 (by decide) (fun _ => ?_) (fun c => absurd (by decide) c)
      refine lv_iload_n hx hb dX12_type_27 rfl (lv_at hl 2 rfl) ?_
      refine lv_iconst (v := 1) hx hb dX12_type_28 (by decide) ?_
      refine lv_isub hx hb dX12_type_29 ?_
      refine x_topI (v2 := 6) (by decide) ?_
      refine lv_istore (lv' := [(4, .int 6), (0, .ref (g.2.1 79)), (1, .long p1), (3, .int 7)]) hx hb dX12_type_30 hl (by decide) rfl (fun ls hl => ?_)
      refine lv_iload hx hb dX12_type_32 (lv_at hl 0 rfl) ?_
      refine lv_if_lt (tgt := 75) hx hb dX12_type_34 (by decide) (fun c => absurd c (by decide)) (fun _ => ?_)
      refine lv_aload_n hx hb dX12_type_37 rfl (lv_at hl 1 rfl) ?_
      refine x_getR E h (fr_mo_text g) rfl hwX12 (by decide) (by decide +kernel) dX12_type_38 ?_
      refine lv_aload_n hx hb dX12_type_41 rfl (lv_at hl 1 rfl) ?_
      refine x_getI E h (fi_mo_typed g) rfl hwX12 (by decide) (by decide +kernel) (v := 0) fI_25 dX12_type_42 ?_
      refine lv_lload_n hx hb dX12_type_45 rfl (lv_at hl 2 rfl) ?_
      refine lv_bipush (v := 8) hx hb dX12_type_46 (by decide) ?_
      refine lv_iload hx hb dX12_type_48 (lv_at hl 0 rfl) ?_
      refine lv_imul hx hb dX12_type_50 ?_
      refine x_topI (v2 := 48) (by decide) ?_
      refine lv_lshr hx hb dX12_type_51 rfl ?_
      refine lv_topl (fun y65 ey65 => ?_)
      refine lv_ldc2 (v := 255) hx hb hown (hts (.constantLong RX12 108 (255)) (by decide +kernel)) dX12_type_52 ?_
      refine lv_land hx hb dX12_type_55 ?_
      refine lv_l2i hx hb dX12_type_56 rfl ?_
      refine lv_topi (fun x66 ex66 => ?_)
      refine lv_i2b hx hb dX12_type_57 rfl ?_
      refine lv_topi (fun x67 ex67 => ?_)
      refine x_stB E h (ia_mo_text g) (i := 0) (by unfold vp_in; decide) (j := (0)) rfl rfl dX12_type_58 (fun H locs h => ?_)
      refine lv_aload_n hx hb dX12_type_59 rfl (lv_at hl 1 rfl) ?_
      refine lv_dup hx hb dX12_type_60 rfl ?_
      refine x_getI E h (fi_mo_typed g) rfl hwX12 (by decide) (by decide +kernel) (v := 0) fI_25 dX12_type_61 ?_
      refine lv_iconst (v := 1) hx hb dX12_type_64 (by decide) ?_
      refine lv_iadd hx hb dX12_type_65 ?_
      refine x_topI (v2 := 1) (by decide) ?_
      refine x_putI E h (ty := .int) (v := 1) (fi_mo_typed g) rfl hwX12 tyX12_ok nmX12 (by decide) (by decide +kernel) (by decide +kernel) (by decide +kernel) rfl rfl dX12_type_66 (fun H locs h => ?_)
      refine lv_iinc (v := 5) (lv' := [(4, .int 5), (0, .ref (g.2.1 79)), (1, .long p1), (3, .int 7)]) hx hb dX12_type_69 hl (k := 0) rfl (by decide) (by decide) rfl (fun ls hl => ?_)
      refine lv_goto (tgt := 32) hx hb dX12_type_72 (by decide) ?_
      refine lv_iload hx hb dX12_type_32 (lv_at hl 0 rfl) ?_
      refine lv_if_lt (tgt := 75) hx hb dX12_type_34 (by decide) (fun c => absurd c (by decide)) (fun _ => ?_)
      refine lv_aload_n hx hb dX12_type_37 rfl (lv_at hl 1 rfl) ?_
      refine x_getR E h (fr_mo_text g) rfl hwX12 (by decide) (by decide +kernel) dX12_type_38 ?_
      refine lv_aload_n hx hb dX12_type_41 rfl (lv_at hl 1 rfl) ?_
      refine x_getI E h (fi_mo_typed g) rfl hwX12 (by decide) (by decide +kernel) (v := 1) rfl dX12_type_42 ?_
      refine lv_lload_n hx hb dX12_type_45 rfl (lv_at hl 2 rfl) ?_
      refine lv_bipush (v := 8) hx hb dX12_type_46 (by decide) ?_
      refine lv_iload hx hb dX12_type_48 (lv_at hl 0 rfl) ?_
      refine lv_imul hx hb dX12_type_50 ?_
      refine x_topI (v2 := 40) (by decide) ?_
      refine lv_lshr hx hb dX12_type_51 rfl ?_
      refine lv_topl (fun y68 ey68 => ?_)
      refine lv_ldc2 (v := 255) hx hb hown (hts (.constantLong RX12 108 (255)) (by decide +kernel)) dX12_type_52 ?_
      refine lv_land hx hb dX12_type_55 ?_
      refine lv_l2i hx hb dX12_type_56 rfl ?_
      refine lv_topi (fun x69 ex69 => ?_)
      refine lv_i2b hx hb dX12_type_57 rfl ?_
      refine lv_topi (fun x70 ex70 => ?_)
      refine x_stB E h (ia_mo_text g) (i := 1) (by unfold vp_in; decide) (j := (1)) rfl rfl dX12_type_58 (fun H locs h => ?_)
      refine lv_aload_n hx hb dX12_type_59 rfl (lv_at hl 1 rfl) ?_
      refine lv_dup hx hb dX12_type_60 rfl ?_
      refine x_getI E h (fi_mo_typed g) rfl hwX12 (by decide) (by decide +kernel) (v := 1) rfl dX12_type_61 ?_
      refine lv_iconst (v := 1) hx hb dX12_type_64 (by decide) ?_
      refine lv_iadd hx hb dX12_type_65 ?_
      refine x_topI (v2 := 2) (by decide) ?_
      refine x_putI E h (ty := .int) (v := 2) (fi_mo_typed g) rfl hwX12 tyX12_ok nmX12 (by decide) (by decide +kernel) (by decide +kernel) (by decide +kernel) rfl rfl dX12_type_66 (fun H locs h => ?_)
      refine lv_iinc (v := 4) (lv' := [(4, .int 4), (0, .ref (g.2.1 79)), (1, .long p1), (3, .int 7)]) hx hb dX12_type_69 hl (k := 0) rfl (by decide) (by decide) rfl (fun ls hl => ?_)
      refine lv_goto (tgt := 32) hx hb dX12_type_72 (by decide) ?_
      refine lv_iload hx hb dX12_type_32 (lv_at hl 0 rfl) ?_
      refine lv_if_lt (tgt := 75) hx hb dX12_type_34 (by decide) (fun c => absurd c (by decide)) (fun _ => ?_)
      refine lv_aload_n hx hb dX12_type_37 rfl (lv_at hl 1 rfl) ?_
      refine x_getR E h (fr_mo_text g) rfl hwX12 (by decide) (by decide +kernel) dX12_type_38 ?_
      refine lv_aload_n hx hb dX12_type_41 rfl (lv_at hl 1 rfl) ?_
      refine x_getI E h (fi_mo_typed g) rfl hwX12 (by decide) (by decide +kernel) (v := 2) rfl dX12_type_42 ?_
      refine lv_lload_n hx hb dX12_type_45 rfl (lv_at hl 2 rfl) ?_
      refine lv_bipush (v := 8) hx hb dX12_type_46 (by decide) ?_
      refine lv_iload hx hb dX12_type_48 (lv_at hl 0 rfl) ?_
      refine lv_imul hx hb dX12_type_50 ?_
      refine x_topI (v2 := 32) (by decide) ?_
      refine lv_lshr hx hb dX12_type_51 rfl ?_
      refine lv_topl (fun y71 ey71 => ?_)
      refine lv_ldc2 (v := 255) hx hb hown (hts (.constantLong RX12 108 (255)) (by decide +kernel)) dX12_type_52 ?_
      refine lv_land hx hb dX12_type_55 ?_
      refine lv_l2i hx hb dX12_type_56 rfl ?_
      refine lv_topi (fun x72 ex72 => ?_)
      refine lv_i2b hx hb dX12_type_57 rfl ?_
      refine lv_topi (fun x73 ex73 => ?_)
      refine x_stB E h (ia_mo_text g) (i := 2) (by unfold vp_in; decide) (j := (2)) rfl rfl dX12_type_58 (fun H locs h => ?_)
      refine lv_aload_n hx hb dX12_type_59 rfl (lv_at hl 1 rfl) ?_
      refine lv_dup hx hb dX12_type_60 rfl ?_
      refine x_getI E h (fi_mo_typed g) rfl hwX12 (by decide) (by decide +kernel) (v := 2) rfl dX12_type_61 ?_
      refine lv_iconst (v := 1) hx hb dX12_type_64 (by decide) ?_
      refine lv_iadd hx hb dX12_type_65 ?_
      refine x_topI (v2 := 3) (by decide) ?_
      refine x_putI E h (ty := .int) (v := 3) (fi_mo_typed g) rfl hwX12 tyX12_ok nmX12 (by decide) (by decide +kernel) (by decide +kernel) (by decide +kernel) rfl rfl dX12_type_66 (fun H locs h => ?_)
      refine lv_iinc (v := 3) (lv' := [(4, .int 3), (0, .ref (g.2.1 79)), (1, .long p1), (3, .int 7)]) hx hb dX12_type_69 hl (k := 0) rfl (by decide) (by decide) rfl (fun ls hl => ?_)
      refine lv_goto (tgt := 32) hx hb dX12_type_72 (by decide) ?_
      refine lv_iload hx hb dX12_type_32 (lv_at hl 0 rfl) ?_
      refine lv_if_lt (tgt := 75) hx hb dX12_type_34 (by decide) (fun c => absurd c (by decide)) (fun _ => ?_)
      refine lv_aload_n hx hb dX12_type_37 rfl (lv_at hl 1 rfl) ?_
      refine x_getR E h (fr_mo_text g) rfl hwX12 (by decide) (by decide +kernel) dX12_type_38 ?_
      refine lv_aload_n hx hb dX12_type_41 rfl (lv_at hl 1 rfl) ?_
      refine x_getI E h (fi_mo_typed g) rfl hwX12 (by decide) (by decide +kernel) (v := 3) rfl dX12_type_42 ?_
      refine lv_lload_n hx hb dX12_type_45 rfl (lv_at hl 2 rfl) ?_
      refine lv_bipush (v := 8) hx hb dX12_type_46 (by decide) ?_
      refine lv_iload hx hb dX12_type_48 (lv_at hl 0 rfl) ?_
      refine lv_imul hx hb dX12_type_50 ?_
      refine x_topI (v2 := 24) (by decide) ?_
      refine lv_lshr hx hb dX12_type_51 rfl ?_
      refine lv_topl (fun y74 ey74 => ?_)
      refine lv_ldc2 (v := 255) hx hb hown (hts (.constantLong RX12 108 (255)) (by decide +kernel)) dX12_type_52 ?_
      refine lv_land hx hb dX12_type_55 ?_
      refine lv_l2i hx hb dX12_type_56 rfl ?_
      refine lv_topi (fun x75 ex75 => ?_)
      refine lv_i2b hx hb dX12_type_57 rfl ?_
      refine lv_topi (fun x76 ex76 => ?_)
      refine x_stB E h (ia_mo_text g) (i := 3) (by unfold vp_in; decide) (j := (3)) rfl rfl dX12_type_58 (fun H locs h => ?_)
      refine lv_aload_n hx hb dX12_type_59 rfl (lv_at hl 1 rfl) ?_
      refine lv_dup hx hb dX12_type_60 rfl ?_
      refine x_getI E h (fi_mo_typed g) rfl hwX12 (by decide) (by decide +kernel) (v := 3) rfl dX12_type_61 ?_
      refine lv_iconst (v := 1) hx hb dX12_type_64 (by decide) ?_
      refine lv_iadd hx hb dX12_type_65 ?_
      refine x_topI (v2 := 4) (by decide) ?_
      refine x_putI E h (ty := .int) (v := 4) (fi_mo_typed g) rfl hwX12 tyX12_ok nmX12 (by decide) (by decide +kernel) (by decide +kernel) (by decide +kernel) rfl rfl dX12_type_66 (fun H locs h => ?_)
      refine lv_iinc (v := 2) (lv' := [(4, .int 2), (0, .ref (g.2.1 79)), (1, .long p1), (3, .int 7)]) hx hb dX12_type_69 hl (k := 0) rfl (by decide) (by decide) rfl (fun ls hl => ?_)
      refine lv_goto (tgt := 32) hx hb dX12_type_72 (by decide) ?_
      refine lv_iload hx hb dX12_type_32 (lv_at hl 0 rfl) ?_
      refine lv_if_lt (tgt := 75) hx hb dX12_type_34 (by decide) (fun c => absurd c (by decide)) (fun _ => ?_)
      refine lv_aload_n hx hb dX12_type_37 rfl (lv_at hl 1 rfl) ?_
      refine x_getR E h (fr_mo_text g) rfl hwX12 (by decide) (by decide +kernel) dX12_type_38 ?_
      refine lv_aload_n hx hb dX12_type_41 rfl (lv_at hl 1 rfl) ?_
      refine x_getI E h (fi_mo_typed g) rfl hwX12 (by decide) (by decide +kernel) (v := 4) rfl dX12_type_42 ?_
      refine lv_lload_n hx hb dX12_type_45 rfl (lv_at hl 2 rfl) ?_
      refine lv_bipush (v := 8) hx hb dX12_type_46 (by decide) ?_
      refine lv_iload hx hb dX12_type_48 (lv_at hl 0 rfl) ?_
      refine lv_imul hx hb dX12_type_50 ?_
      refine x_topI (v2 := 16) (by decide) ?_
      refine lv_lshr hx hb dX12_type_51 rfl ?_
      refine lv_topl (fun y77 ey77 => ?_)
      refine lv_ldc2 (v := 255) hx hb hown (hts (.constantLong RX12 108 (255)) (by decide +kernel)) dX12_type_52 ?_
      refine lv_land hx hb dX12_type_55 ?_
      refine lv_l2i hx hb dX12_type_56 rfl ?_
      refine lv_topi (fun x78 ex78 => ?_)
      refine lv_i2b hx hb dX12_type_57 rfl ?_
      refine lv_topi (fun x79 ex79 => ?_)
      refine x_stB E h (ia_mo_text g) (i := 4) (by unfold vp_in; decide) (j := (4)) rfl rfl dX12_type_58 (fun H locs h => ?_)
      refine lv_aload_n hx hb dX12_type_59 rfl (lv_at hl 1 rfl) ?_
      refine lv_dup hx hb dX12_type_60 rfl ?_
      refine x_getI E h (fi_mo_typed g) rfl hwX12 (by decide) (by decide +kernel) (v := 4) rfl dX12_type_61 ?_
      refine lv_iconst (v := 1) hx hb dX12_type_64 (by decide) ?_
      refine lv_iadd hx hb dX12_type_65 ?_
      refine x_topI (v2 := 5) (by decide) ?_
      refine x_putI E h (ty := .int) (v := 5) (fi_mo_typed g) rfl hwX12 tyX12_ok nmX12 (by decide) (by decide +kernel) (by decide +kernel) (by decide +kernel) rfl rfl dX12_type_66 (fun H locs h => ?_)
      refine lv_iinc (v := 1) (lv' := [(4, .int 1), (0, .ref (g.2.1 79)), (1, .long p1), (3, .int 7)]) hx hb dX12_type_69 hl (k := 0) rfl (by decide) (by decide) rfl (fun ls hl => ?_)
      refine lv_goto (tgt := 32) hx hb dX12_type_72 (by decide) ?_
      refine lv_iload hx hb dX12_type_32 (lv_at hl 0 rfl) ?_
      refine lv_if_lt (tgt := 75) hx hb dX12_type_34 (by decide) (fun c => absurd c (by decide)) (fun _ => ?_)
      refine lv_aload_n hx hb dX12_type_37 rfl (lv_at hl 1 rfl) ?_
      refine x_getR E h (fr_mo_text g) rfl hwX12 (by decide) (by decide +kernel) dX12_type_38 ?_
      refine lv_aload_n hx hb dX12_type_41 rfl (lv_at hl 1 rfl) ?_
      refine x_getI E h (fi_mo_typed g) rfl hwX12 (by decide) (by decide +kernel) (v := 5) rfl dX12_type_42 ?_
      refine lv_lload_n hx hb dX12_type_45 rfl (lv_at hl 2 rfl) ?_
      refine lv_bipush (v := 8) hx hb dX12_type_46 (by decide) ?_
      refine lv_iload hx hb dX12_type_48 (lv_at hl 0 rfl) ?_
      refine lv_imul hx hb dX12_type_50 ?_
      refine x_topI (v2 := 8) (by decide) ?_
      refine lv_lshr hx hb dX12_type_51 rfl ?_
      refine lv_topl (fun y80 ey80 => ?_)
      refine lv_ldc2 (v := 255) hx hb hown (hts (.constantLong RX12 108 (255)) (by decide +kernel)) dX12_type_52 ?_
      refine lv_land hx hb dX12_type_55 ?_
      refine lv_l2i hx hb dX12_type_56 rfl ?_
      refine lv_topi (fun x81 ex81 => ?_)
      refine lv_i2b hx hb dX12_type_57 rfl ?_
      refine lv_topi (fun x82 ex82 => ?_)
      refine x_stB E h (ia_mo_text g) (i := 5) (by unfold vp_in; decide) (j := (5)) rfl rfl dX12_type_58 (fun H locs h => ?_)
      refine lv_aload_n hx hb dX12_type_59 rfl (lv_at hl 1 rfl) ?_
      refine lv_dup hx hb dX12_type_60 rfl ?_
      refine x_getI E h (fi_mo_typed g) rfl hwX12 (by decide) (by decide +kernel) (v := 5) rfl dX12_type_61 ?_
      refine lv_iconst (v := 1) hx hb dX12_type_64 (by decide) ?_
      refine lv_iadd hx hb dX12_type_65 ?_
      refine x_topI (v2 := 6) (by decide) ?_
      refine x_putI E h (ty := .int) (v := 6) (fi_mo_typed g) rfl hwX12 tyX12_ok nmX12 (by decide) (by decide +kernel) (by decide +kernel) (by decide +kernel) rfl rfl dX12_type_66 (fun H locs h => ?_)
      refine lv_iinc (v := 0) (lv' := [(4, .int 0), (0, .ref (g.2.1 79)), (1, .long p1), (3, .int 7)]) hx hb dX12_type_69 hl (k := 0) rfl (by decide) (by decide) rfl (fun ls hl => ?_)
      refine lv_goto (tgt := 32) hx hb dX12_type_72 (by decide) ?_
      refine lv_iload hx hb dX12_type_32 (lv_at hl 0 rfl) ?_
      refine lv_if_lt (tgt := 75) hx hb dX12_type_34 (by decide) (fun c => absurd c (by decide)) (fun _ => ?_)
      refine lv_aload_n hx hb dX12_type_37 rfl (lv_at hl 1 rfl) ?_
      refine x_getR E h (fr_mo_text g) rfl hwX12 (by decide) (by decide +kernel) dX12_type_38 ?_
      refine lv_aload_n hx hb dX12_type_41 rfl (lv_at hl 1 rfl) ?_
      refine x_getI E h (fi_mo_typed g) rfl hwX12 (by decide) (by decide +kernel) (v := 6) rfl dX12_type_42 ?_
      refine lv_lload_n hx hb dX12_type_45 rfl (lv_at hl 2 rfl) ?_
      refine lv_bipush (v := 8) hx hb dX12_type_46 (by decide) ?_
      refine lv_iload hx hb dX12_type_48 (lv_at hl 0 rfl) ?_
      refine lv_imul hx hb dX12_type_50 ?_
      refine x_topI (v2 := 0) (by decide) ?_
      refine lv_lshr hx hb dX12_type_51 rfl ?_
      refine lv_topl (fun y83 ey83 => ?_)
      refine lv_ldc2 (v := 255) hx hb hown (hts (.constantLong RX12 108 (255)) (by decide +kernel)) dX12_type_52 ?_
      refine lv_land hx hb dX12_type_55 ?_
      refine lv_l2i hx hb dX12_type_56 rfl ?_
      refine lv_topi (fun x84 ex84 => ?_)
      refine lv_i2b hx hb dX12_type_57 rfl ?_
      refine lv_topi (fun x85 ex85 => ?_)
      refine x_stB E h (ia_mo_text g) (i := 6) (by unfold vp_in; decide) (j := (6)) rfl rfl dX12_type_58 (fun H locs h => ?_)
      refine lv_aload_n hx hb dX12_type_59 rfl (lv_at hl 1 rfl) ?_
      refine lv_dup hx hb dX12_type_60 rfl ?_
      refine x_getI E h (fi_mo_typed g) rfl hwX12 (by decide) (by decide +kernel) (v := 6) rfl dX12_type_61 ?_
      refine lv_iconst (v := 1) hx hb dX12_type_64 (by decide) ?_
      refine lv_iadd hx hb dX12_type_65 ?_
      refine x_topI (v2 := 7) (by decide) ?_
      refine x_putI E h (ty := .int) (v := 7) (fi_mo_typed g) rfl hwX12 tyX12_ok nmX12 (by decide) (by decide +kernel) (by decide +kernel) (by decide +kernel) rfl rfl dX12_type_66 (fun H locs h => ?_)
      refine lv_iinc (v := (-1)) (lv' := [(4, .int (-1)), (0, .ref (g.2.1 79)), (1, .long p1), (3, .int 7)]) hx hb dX12_type_69 hl (k := 0) rfl (by decide) (by decide) rfl (fun ls hl => ?_)
      refine lv_goto (tgt := 32) hx hb dX12_type_72 (by decide) ?_
      refine lv_iload hx hb dX12_type_32 (lv_at hl 0 rfl) ?_
      refine lv_if_lt (tgt := 75) hx hb dX12_type_34 (by decide) (fun _ => ?_) (fun c => absurd (by decide) c)
      refine lv_aload_n hx hb dX12_type_75 rfl (lv_at hl 1 rfl) ?_
      refine x_getI E h (fi_mo_typed g) rfl hwX12 (by decide) (by decide +kernel) (v := 7) rfl dX12_type_76 ?_
      exact x_iret E h (Or.inl ⟨k1_0, rfl⟩) dX12_type_79
    · skip
      refine lv_aload_n hx hb dX12_type_12 rfl (lv_at hl 0 rfl) ?_
      refine x_getI E h (fi_mo_typed g) rfl hwX12 (by decide) (by decide +kernel) (v := 0) fI_25 dX12_type_13 ?_
      refine lv_iload_n hx hb dX12_type_16 rfl (lv_at hl 2 rfl) ?_
      refine lv_iadd hx hb dX12_type_17 ?_
      refine x_topI (v2 := 8) (by decide) ?_
      refine lv_sipush (v := 200) hx hb dX12_type_18 (by decide) ?_
      refine lv_icmp_le (tgt := 27) hx hb dX12_type_21 (by decide) (fun _ => ?_) (fun c => absurd (by decide) c)
      refine lv_iload_n hx hb dX12_type_27 rfl (lv_at hl 2 rfl) ?_
      refine lv_iconst (v := 1) hx hb dX12_type_28 (by decide) ?_
      refine lv_isub hx hb dX12_type_29 ?_
      refine x_topI (v2 := 7) (by decide) ?_
      refine lv_istore (lv' := [(4, .int 7), (0, .ref (g.2.1 79)), (1, .long p1), (3, .int 8)]) hx hb dX12_type_30 hl (by decide) rfl (fun ls hl => ?_)
      refine lv_iload hx hb dX12_type_32 (lv_at hl 0 rfl) ?_
      refine lv_if_lt (tgt := 75) hx hb dX12_type_34 (by decide) (fun c => absurd c (by decide)) (fun _ => ?_)
      refine lv_aload_n hx hb dX12_type_37 rfl (lv_at hl 1 rfl) ?_
      refine x_getR E h (fr_mo_text g) rfl hwX12 (by decide) (by decide +kernel) dX12_type_38 ?_
      refine lv_aload_n hx hb dX12_type_41 rfl (lv_at hl 1 rfl) ?_
      refine x_getI E h (fi_mo_typed g) rfl hwX12 (by decide) (by decide +kernel) (v := 0) fI_25 dX12_type_42 ?_
      refine lv_lload_n hx hb dX12_type_45 rfl (lv_at hl 2 rfl) ?_
      refine lv_bipush (v := 8) hx hb dX12_type_46 (by decide) ?_
      refine lv_iload hx hb dX12_type_48 (lv_at hl 0 rfl) ?_
      refine lv_imul hx hb dX12_type_50 ?_
      refine x_topI (v2 := 56) (by decide) ?_
      refine lv_lshr hx hb dX12_type_51 rfl ?_
      refine lv_topl (fun y86 ey86 => ?_)
      refine lv_ldc2 (v := 255) hx hb hown (hts (.constantLong RX12 108 (255)) (by decide +kernel)) dX12_type_52 ?_
      refine lv_land hx hb dX12_type_55 ?_
      refine lv_l2i hx hb dX12_type_56 rfl ?_
      refine lv_topi (fun x87 ex87 => ?_)
      refine lv_i2b hx hb dX12_type_57 rfl ?_
      refine lv_topi (fun x88 ex88 => ?_)
      refine x_stB E h (ia_mo_text g) (i := 0) (by unfold vp_in; decide) (j := (0)) rfl rfl dX12_type_58 (fun H locs h => ?_)
      refine lv_aload_n hx hb dX12_type_59 rfl (lv_at hl 1 rfl) ?_
      refine lv_dup hx hb dX12_type_60 rfl ?_
      refine x_getI E h (fi_mo_typed g) rfl hwX12 (by decide) (by decide +kernel) (v := 0) fI_25 dX12_type_61 ?_
      refine lv_iconst (v := 1) hx hb dX12_type_64 (by decide) ?_
      refine lv_iadd hx hb dX12_type_65 ?_
      refine x_topI (v2 := 1) (by decide) ?_
      refine x_putI E h (ty := .int) (v := 1) (fi_mo_typed g) rfl hwX12 tyX12_ok nmX12 (by decide) (by decide +kernel) (by decide +kernel) (by decide +kernel) rfl rfl dX12_type_66 (fun H locs h => ?_)
      refine lv_iinc (v := 6) (lv' := [(4, .int 6), (0, .ref (g.2.1 79)), (1, .long p1), (3, .int 8)]) hx hb dX12_type_69 hl (k := 0) rfl (by decide) (by decide) rfl (fun ls hl => ?_)
      refine lv_goto (tgt := 32) hx hb dX12_type_72 (by decide) ?_
      refine lv_iload hx hb dX12_type_32 (lv_at hl 0 rfl) ?_
      refine lv_if_lt (tgt := 75) hx hb dX12_type_34 (by decide) (fun c => absurd c (by decide)) (fun _ => ?_)
      refine lv_aload_n hx hb dX12_type_37 rfl (lv_at hl 1 rfl) ?_
      refine x_getR E h (fr_mo_text g) rfl hwX12 (by decide) (by decide +kernel) dX12_type_38 ?_
      refine lv_aload_n hx hb dX12_type_41 rfl (lv_at hl 1 rfl) ?_
      refine x_getI E h (fi_mo_typed g) rfl hwX12 (by decide) (by decide +kernel) (v := 1) rfl dX12_type_42 ?_
      refine lv_lload_n hx hb dX12_type_45 rfl (lv_at hl 2 rfl) ?_
      refine lv_bipush (v := 8) hx hb dX12_type_46 (by decide) ?_
      refine lv_iload hx hb dX12_type_48 (lv_at hl 0 rfl) ?_
      refine lv_imul hx hb dX12_type_50 ?_
      refine x_topI (v2 := 48) (by decide) ?_
      refine lv_lshr hx hb dX12_type_51 rfl ?_
      refine lv_topl (fun y89 ey89 => ?_)
      refine lv_ldc2 (v := 255) hx hb hown (hts (.constantLong RX12 108 (255)) (by decide +kernel)) dX12_type_52 ?_
      refine lv_land hx hb dX12_type_55 ?_
      refine lv_l2i hx hb dX12_type_56 rfl ?_
      refine lv_topi (fun x90 ex90 => ?_)
      refine lv_i2b hx hb dX12_type_57 rfl ?_
      refine lv_topi (fun x91 ex91 => ?_)
      refine x_stB E h (ia_mo_text g) (i := 1) (by unfold vp_in; decide) (j := (1)) rfl rfl dX12_type_58 (fun H locs h => ?_)
      refine lv_aload_n hx hb dX12_type_59 rfl (lv_at hl 1 rfl) ?_
      refine lv_dup hx hb dX12_type_60 rfl ?_
      refine x_getI E h (fi_mo_typed g) rfl hwX12 (by decide) (by decide +kernel) (v := 1) rfl dX12_type_61 ?_
      refine lv_iconst (v := 1) hx hb dX12_type_64 (by decide) ?_
      refine lv_iadd hx hb dX12_type_65 ?_
      refine x_topI (v2 := 2) (by decide) ?_
      refine x_putI E h (ty := .int) (v := 2) (fi_mo_typed g) rfl hwX12 tyX12_ok nmX12 (by decide) (by decide +kernel) (by decide +kernel) (by decide +kernel) rfl rfl dX12_type_66 (fun H locs h => ?_)
      refine lv_iinc (v := 5) (lv' := [(4, .int 5), (0, .ref (g.2.1 79)), (1, .long p1), (3, .int 8)]) hx hb dX12_type_69 hl (k := 0) rfl (by decide) (by decide) rfl (fun ls hl => ?_)
      refine lv_goto (tgt := 32) hx hb dX12_type_72 (by decide) ?_
      refine lv_iload hx hb dX12_type_32 (lv_at hl 0 rfl) ?_
      refine lv_if_lt (tgt := 75) hx hb dX12_type_34 (by decide) (fun c => absurd c (by decide)) (fun _ => ?_)
      refine lv_aload_n hx hb dX12_type_37 rfl (lv_at hl 1 rfl) ?_
      refine x_getR E h (fr_mo_text g) rfl hwX12 (by decide) (by decide +kernel) dX12_type_38 ?_
      refine lv_aload_n hx hb dX12_type_41 rfl (lv_at hl 1 rfl) ?_
      refine x_getI E h (fi_mo_typed g) rfl hwX12 (by decide) (by decide +kernel) (v := 2) rfl dX12_type_42 ?_
      refine lv_lload_n hx hb dX12_type_45 rfl (lv_at hl 2 rfl) ?_
      refine lv_bipush (v := 8) hx hb dX12_type_46 (by decide) ?_
      refine lv_iload hx hb dX12_type_48 (lv_at hl 0 rfl) ?_
      refine lv_imul hx hb dX12_type_50 ?_
      refine x_topI (v2 := 40) (by decide) ?_
      refine lv_lshr hx hb dX12_type_51 rfl ?_
      refine lv_topl (fun y92 ey92 => ?_)
      refine lv_ldc2 (v := 255) hx hb hown (hts (.constantLong RX12 108 (255)) (by decide +kernel)) dX12_type_52 ?_
      refine lv_land hx hb dX12_type_55 ?_
      refine lv_l2i hx hb dX12_type_56 rfl ?_
      refine lv_topi (fun x93 ex93 => ?_)
      refine lv_i2b hx hb dX12_type_57 rfl ?_
      refine lv_topi (fun x94 ex94 => ?_)
      refine x_stB E h (ia_mo_text g) (i := 2) (by unfold vp_in; decide) (j := (2)) rfl rfl dX12_type_58 (fun H locs h => ?_)
      refine lv_aload_n hx hb dX12_type_59 rfl (lv_at hl 1 rfl) ?_
      refine lv_dup hx hb dX12_type_60 rfl ?_
      refine x_getI E h (fi_mo_typed g) rfl hwX12 (by decide) (by decide +kernel) (v := 2) rfl dX12_type_61 ?_
      refine lv_iconst (v := 1) hx hb dX12_type_64 (by decide) ?_
      refine lv_iadd hx hb dX12_type_65 ?_
      refine x_topI (v2 := 3) (by decide) ?_
      refine x_putI E h (ty := .int) (v := 3) (fi_mo_typed g) rfl hwX12 tyX12_ok nmX12 (by decide) (by decide +kernel) (by decide +kernel) (by decide +kernel) rfl rfl dX12_type_66 (fun H locs h => ?_)
      refine lv_iinc (v := 4) (lv' := [(4, .int 4), (0, .ref (g.2.1 79)), (1, .long p1), (3, .int 8)]) hx hb dX12_type_69 hl (k := 0) rfl (by decide) (by decide) rfl (fun ls hl => ?_)
      refine lv_goto (tgt := 32) hx hb dX12_type_72 (by decide) ?_
      refine lv_iload hx hb dX12_type_32 (lv_at hl 0 rfl) ?_
      refine lv_if_lt (tgt := 75) hx hb dX12_type_34 (by decide) (fun c => absurd c (by decide)) (fun _ => ?_)
      refine lv_aload_n hx hb dX12_type_37 rfl (lv_at hl 1 rfl) ?_
      refine x_getR E h (fr_mo_text g) rfl hwX12 (by decide) (by decide +kernel) dX12_type_38 ?_
      refine lv_aload_n hx hb dX12_type_41 rfl (lv_at hl 1 rfl) ?_
      refine x_getI E h (fi_mo_typed g) rfl hwX12 (by decide) (by decide +kernel) (v := 3) rfl dX12_type_42 ?_
      refine lv_lload_n hx hb dX12_type_45 rfl (lv_at hl 2 rfl) ?_
      refine lv_bipush (v := 8) hx hb dX12_type_46 (by decide) ?_
      refine lv_iload hx hb dX12_type_48 (lv_at hl 0 rfl) ?_
      refine lv_imul hx hb dX12_type_50 ?_
      refine x_topI (v2 := 32) (by decide) ?_
      refine lv_lshr hx hb dX12_type_51 rfl ?_
      refine lv_topl (fun y95 ey95 => ?_)
      refine lv_ldc2 (v := 255) hx hb hown (hts (.constantLong RX12 108 (255)) (by decide +kernel)) dX12_type_52 ?_
      refine lv_land hx hb dX12_type_55 ?_
      refine lv_l2i hx hb dX12_type_56 rfl ?_
      refine lv_topi (fun x96 ex96 => ?_)
      refine lv_i2b hx hb dX12_type_57 rfl ?_
      refine lv_topi (fun x97 ex97 => ?_)
      refine x_stB E h (ia_mo_text g) (i := 3) (by unfold vp_in; decide) (j := (3)) rfl rfl dX12_type_58 (fun H locs h => ?_)
      refine lv_aload_n hx hb dX12_type_59 rfl (lv_at hl 1 rfl) ?_
      refine lv_dup hx hb dX12_type_60 rfl ?_
      refine x_getI E h (fi_mo_typed g) rfl hwX12 (by decide) (by decide +kernel) (v := 3) rfl dX12_type_61 ?_
      refine lv_iconst (v := 1) hx hb dX12_type_64 (by decide) ?_
      refine lv_iadd hx hb dX12_type_65 ?_
      refine x_topI (v2 := 4) (by decide) ?_
      refine x_putI E h (ty := .int) (v := 4) (fi_mo_typed g) rfl hwX12 tyX12_ok nmX12 (by decide) (by decide +kernel) (by decide +kernel) (by decide +kernel) rfl rfl dX12_type_66 (fun H locs h => ?_)
      refine lv_iinc (v := 3) (lv' := [(4, .int 3), (0, .ref (g.2.1 79)), (1, .long p1), (3, .int 8)]) hx hb dX12_type_69 hl (k := 0) rfl (by decide) (by decide) rfl (fun ls hl => ?_)
      refine lv_goto (tgt := 32) hx hb dX12_type_72 (by decide) ?_
      refine lv_iload hx hb dX12_type_32 (lv_at hl 0 rfl) ?_
      refine lv_if_lt (tgt := 75) hx hb dX12_type_34 (by decide) (fun c => absurd c (by decide)) (fun _ => ?_)
      refine lv_aload_n hx hb dX12_type_37 rfl (lv_at hl 1 rfl) ?_
      refine x_getR E h (fr_mo_text g) rfl hwX12 (by decide) (by decide +kernel) dX12_type_38 ?_
      refine lv_aload_n hx hb dX12_type_41 rfl (lv_at hl 1 rfl) ?_
      refine x_getI E h (fi_mo_typed g) rfl hwX12 (by decide) (by decide +kernel) (v := 4) rfl dX12_type_42 ?_
      refine lv_lload_n hx hb dX12_type_45 rfl (lv_at hl 2 rfl) ?_
      refine lv_bipush (v := 8) hx hb dX12_type_46 (by decide) ?_
      refine lv_iload hx hb dX12_type_48 (lv_at hl 0 rfl) ?_
      refine lv_imul hx hb dX12_type_50 ?_
      refine x_topI (v2 := 24) (by decide) ?_
      refine lv_lshr hx hb dX12_type_51 rfl ?_
      refine lv_topl (fun y98 ey98 => ?_)
      refine lv_ldc2 (v := 255) hx hb hown (hts (.constantLong RX12 108 (255)) (by decide +kernel)) dX12_type_52 ?_
      refine lv_land hx hb dX12_type_55 ?_
      refine lv_l2i hx hb dX12_type_56 rfl ?_
      refine lv_topi (fun x99 ex99 => ?_)
      refine lv_i2b hx hb dX12_type_57 rfl ?_
      refine lv_topi (fun x100 ex100 => ?_)
      refine x_stB E h (ia_mo_text g) (i := 4) (by unfold vp_in; decide) (j := (4)) rfl rfl dX12_type_58 (fun H locs h => ?_)
      refine lv_aload_n hx hb dX12_type_59 rfl (lv_at hl 1 rfl) ?_
      refine lv_dup hx hb dX12_type_60 rfl ?_
      refine x_getI E h (fi_mo_typed g) rfl hwX12 (by decide) (by decide +kernel) (v := 4) rfl dX12_type_61 ?_
      refine lv_iconst (v := 1) hx hb dX12_type_64 (by decide) ?_
      refine lv_iadd hx hb dX12_type_65 ?_
      refine x_topI (v2 := 5) (by decide) ?_
      refine x_putI E h (ty := .int) (v := 5) (fi_mo_typed g) rfl hwX12 tyX12_ok nmX12 (by decide) (by decide +kernel) (by decide +kernel) (by decide +kernel) rfl rfl dX12_type_66 (fun H locs h => ?_)
      refine lv_iinc (v := 2) (lv' := [(4, .int 2), (0, .ref (g.2.1 79)), (1, .long p1), (3, .int 8)]) hx hb dX12_type_69 hl (k := 0) rfl (by decide) (by decide) rfl (fun ls hl => ?_)
      refine lv_goto (tgt := 32) hx hb dX12_type_72 (by decide) ?_
      refine lv_iload hx hb dX12_type_32 (lv_at hl 0 rfl) ?_
      refine lv_if_lt (tgt := 75) hx hb dX12_type_34 (by decide) (fun c => absurd c (by decide)) (fun _ => ?_)
      refine lv_aload_n hx hb dX12_type_37 rfl (lv_at hl 1 rfl) ?_
      refine x_getR E h (fr_mo_text g) rfl hwX12 (by decide) (by decide +kernel) dX12_type_38 ?_
      refine lv_aload_n hx hb dX12_type_41 rfl (lv_at hl 1 rfl) ?_
      refine x_getI E h (fi_mo_typed g) rfl hwX12 (by decide) (by decide +kernel) (v := 5) rfl dX12_type_42 ?_
      refine lv_lload_n hx hb dX12_type_45 rfl (lv_at hl 2 rfl) ?_
      refine lv_bipush (v := 8) hx hb dX12_type_46 (by decide) ?_
      refine lv_iload hx hb dX12_type_48 (lv_at hl 0 rfl) ?_
      refine lv_imul hx hb dX12_type_50 ?_
      refine x_topI (v2 := 16) (by decide) ?_
      refine lv_lshr hx hb dX12_type_51 rfl ?_
      refine lv_topl (fun y101 ey101 => ?_)
      refine lv_ldc2 (v := 255) hx hb hown (hts (.constantLong RX12 108 (255)) (by decide +kernel)) dX12_type_52 ?_
      refine lv_land hx hb dX12_type_55 ?_
      refine lv_l2i hx hb dX12_type_56 rfl ?_
      refine lv_topi (fun x102 ex102 => ?_)
      refine lv_i2b hx hb dX12_type_57 rfl ?_
      refine lv_topi (fun x103 ex103 => ?_)
      refine x_stB E h (ia_mo_text g) (i := 5) (by unfold vp_in; decide) (j := (5)) rfl rfl dX12_type_58 (fun H locs h => ?_)
      refine lv_aload_n hx hb dX12_type_59 rfl (lv_at hl 1 rfl) ?_
      refine lv_dup hx hb dX12_type_60 rfl ?_
      refine x_getI E h (fi_mo_typed g) rfl hwX12 (by decide) (by decide +kernel) (v := 5) rfl dX12_type_61 ?_
      refine lv_iconst (v := 1) hx hb dX12_type_64 (by decide) ?_
      refine lv_iadd hx hb dX12_type_65 ?_
      refine x_topI (v2 := 6) (by decide) ?_
      refine x_putI E h (ty := .int) (v := 6) (fi_mo_typed g) rfl hwX12 tyX12_ok nmX12 (by decide) (by decide +kernel) (by decide +kernel) (by decide +kernel) rfl rfl dX12_type_66 (fun H locs h => ?_)
      refine lv_iinc (v := 1) (lv' := [(4, .int 1), (0, .ref (g.2.1 79)), (1, .long p1), (3, .int 8)]) hx hb dX12_type_69 hl (k := 0) rfl (by decide) (by decide) rfl (fun ls hl => ?_)
      refine lv_goto (tgt := 32) hx hb dX12_type_72 (by decide) ?_
      refine lv_iload hx hb dX12_type_32 (lv_at hl 0 rfl) ?_
      refine lv_if_lt (tgt := 75) hx hb dX12_type_34 (by decide) (fun c => absurd c (by decide)) (fun _ => ?_)
      refine lv_aload_n hx hb dX12_type_37 rfl (lv_at hl 1 rfl) ?_
      refine x_getR E h (fr_mo_text g) rfl hwX12 (by decide) (by decide +kernel) dX12_type_38 ?_
      refine lv_aload_n hx hb dX12_type_41 rfl (lv_at hl 1 rfl) ?_
      refine x_getI E h (fi_mo_typed g) rfl hwX12 (by decide) (by decide +kernel) (v := 6) rfl dX12_type_42 ?_
      refine lv_lload_n hx hb dX12_type_45 rfl (lv_at hl 2 rfl) ?_
      refine lv_bipush (v := 8) hx hb dX12_type_46 (by decide) ?_
      refine lv_iload hx hb dX12_type_48 (lv_at hl 0 rfl) ?_
      refine lv_imul hx hb dX12_type_50 ?_
      refine x_topI (v2 := 8) (by decide) ?_
      refine lv_lshr hx hb dX12_type_51 rfl ?_
      refine lv_topl (fun y104 ey104 => ?_)
      refine lv_ldc2 (v := 255) hx hb hown (hts (.constantLong RX12 108 (255)) (by decide +kernel)) dX12_type_52 ?_
      refine lv_land hx hb dX12_type_55 ?_
      refine lv_l2i hx hb dX12_type_56 rfl ?_
      refine lv_topi (fun x105 ex105 => ?_)
      refine lv_i2b hx hb dX12_type_57 rfl ?_
      refine lv_topi (fun x106 ex106 => ?_)
      refine x_stB E h (ia_mo_text g) (i := 6) (by unfold vp_in; decide) (j := (6)) rfl rfl dX12_type_58 (fun H locs h => ?_)
      refine lv_aload_n hx hb dX12_type_59 rfl (lv_at hl 1 rfl) ?_
      refine lv_dup hx hb dX12_type_60 rfl ?_
      refine x_getI E h (fi_mo_typed g) rfl hwX12 (by decide) (by decide +kernel) (v := 6) rfl dX12_type_61 ?_
      refine lv_iconst (v := 1) hx hb dX12_type_64 (by decide) ?_
      refine lv_iadd hx hb dX12_type_65 ?_
      refine x_topI (v2 := 7) (by decide) ?_
      refine x_putI E h (ty := .int) (v := 7) (fi_mo_typed g) rfl hwX12 tyX12_ok nmX12 (by decide) (by decide +kernel) (by decide +kernel) (by decide +kernel) rfl rfl dX12_type_66 (fun H locs h => ?_)
      refine lv_iinc (v := 0) (lv' := [(4, .int 0), (0, .ref (g.2.1 79)), (1, .long p1), (3, .int 8)]) hx hb dX12_type_69 hl (k := 0) rfl (by decide) (by decide) rfl (fun ls hl => ?_)
      refine lv_goto (tgt := 32) hx hb dX12_type_72 (by decide) ?_
      refine lv_iload hx hb dX12_type_32 (lv_at hl 0 rfl) ?_
      refine lv_if_lt (tgt := 75) hx hb dX12_type_34 (by decide) (fun c => absurd c (by decide)) (fun _ => ?_)
      refine lv_aload_n hx hb dX12_type_37 rfl (lv_at hl 1 rfl) ?_
      refine x_getR E h (fr_mo_text g) rfl hwX12 (by decide) (by decide +kernel) dX12_type_38 ?_
      refine lv_aload_n hx hb dX12_type_41 rfl (lv_at hl 1 rfl) ?_
      refine x_getI E h (fi_mo_typed g) rfl hwX12 (by decide) (by decide +kernel) (v := 7) rfl dX12_type_42 ?_
      refine lv_lload_n hx hb dX12_type_45 rfl (lv_at hl 2 rfl) ?_
      refine lv_bipush (v := 8) hx hb dX12_type_46 (by decide) ?_
      refine lv_iload hx hb dX12_type_48 (lv_at hl 0 rfl) ?_
      refine lv_imul hx hb dX12_type_50 ?_
      refine x_topI (v2 := 0) (by decide) ?_
      refine lv_lshr hx hb dX12_type_51 rfl ?_
      refine lv_topl (fun y107 ey107 => ?_)
      refine lv_ldc2 (v := 255) hx hb hown (hts (.constantLong RX12 108 (255)) (by decide +kernel)) dX12_type_52 ?_
      refine lv_land hx hb dX12_type_55 ?_
      refine lv_l2i hx hb dX12_type_56 rfl ?_
      refine lv_topi (fun x108 ex108 => ?_)
      refine lv_i2b hx hb dX12_type_57 rfl ?_
      refine lv_topi (fun x109 ex109 => ?_)
      refine x_stB E h (ia_mo_text g) (i := 7) (by unfold vp_in; decide) (j := (7)) rfl rfl dX12_type_58 (fun H locs h => ?_)
      refine lv_aload_n hx hb dX12_type_59 rfl (lv_at hl 1 rfl) ?_
      refine lv_dup hx hb dX12_type_60 rfl ?_
      refine x_getI E h (fi_mo_typed g) rfl hwX12 (by decide) (by decide +kernel) (v := 7) rfl dX12_type_61 ?_
      refine lv_iconst (v := 1) hx hb dX12_type_64 (by decide) ?_
      refine lv_iadd hx hb dX12_type_65 ?_
      refine x_topI (v2 := 8) (by decide) ?_
      refine x_putI E h (ty := .int) (v := 8) (fi_mo_typed g) rfl hwX12 tyX12_ok nmX12 (by decide) (by decide +kernel) (by decide +kernel) (by decide +kernel) rfl rfl dX12_type_66 (fun H locs h => ?_)
      refine lv_iinc (v := (-1)) (lv' := [(4, .int (-1)), (0, .ref (g.2.1 79)), (1, .long p1), (3, .int 8)]) hx hb dX12_type_69 hl (k := 0) rfl (by decide) (by decide) rfl (fun ls hl => ?_)
      refine lv_goto (tgt := 32) hx hb dX12_type_72 (by decide) ?_
      refine lv_iload hx hb dX12_type_32 (lv_at hl 0 rfl) ?_
      refine lv_if_lt (tgt := 75) hx hb dX12_type_34 (by decide) (fun _ => ?_) (fun c => absurd (by decide) c)
      refine lv_aload_n hx hb dX12_type_75 rfl (lv_at hl 1 rfl) ?_
      refine x_getI E h (fi_mo_typed g) rfl hwX12 (by decide) (by decide +kernel) (v := 8) rfl dX12_type_76 ?_
      exact x_iret E h (Or.inl ⟨k1_0, rfl⟩) dX12_type_79
  · skip
    refine lv_if_ne (tgt := 12) hx hb dX12_type_7 (by decide) (fun c => absurd (by decide) c) (fun _ => ?_)
    refine lv_iconst (v := (-1)) hx hb dX12_type_10 (by decide) ?_
    exact x_iret E h (Or.inr (⟨k1_0, rfl⟩)) dX12_type_11
set_option maxHeartbeats 4000000 in
set_option maxRecDepth 100000 in
theorem kX12_clear_0 (l : Launch) (g : CX) (σ : ST) (fI_25 : σ.1 25 = 0) : XM l g yX12_clear wsX12_clear { frames := 0, cells := 0, slots := 0, locals := 0 } [.ref (g.2.1 79)] σ (XQi g (fun r σ' => (0 = r))) := by
  refine x_met (own := RX12) (cc := cX12_clear) (maxL := 2) (ret := (some .int)) (lv := [(0, .ref (g.2.1 79))]) (by decide) rfl rfl (Nat.le_of_ble_eq_true rfl) rfl ?_
  intro p e s m args below meth c ls E h hl
  have hx := E.1
  have hb := E.2.1
  have hown := E.2.2.2.1
  have hts := E.2.2.2.2.1
  have hwX12 : ∀ w ∈ wsX120, w ∈ wsX12_clear := by decide +kernel
  refine lv_aload_n hx hb dX12_clear_0 rfl (lv_at hl 0 rfl) ?_
  refine x_getI E h (fi_mo_typed g) rfl hwX12 (by decide) (by decide +kernel) (v := 0) fI_25 dX12_clear_1 ?_
  refine lv_istore_n (lv' := [(1, .int 0), (0, .ref (g.2.1 79))]) hx hb dX12_clear_4 rfl hl (by decide) rfl (fun ls hl => ?_)
  refine lv_aload_n hx hb dX12_clear_5 rfl (lv_at hl 1 rfl) ?_
  refine lv_iconst (v := 0) hx hb dX12_clear_6 (by decide) ?_
  refine x_putI E h (ty := .int) (v := 0) (fi_mo_typed g) rfl hwX12 tyX12_ok nmX12 (by decide) (by decide +kernel) (by decide +kernel) (by decide +kernel) rfl rfl dX12_clear_7 (fun H locs h => ?_)
  refine lv_iload_n hx hb dX12_clear_10 rfl (lv_at hl 0 rfl) ?_
  exact x_iret E h rfl dX12_clear_11
set_option maxHeartbeats 4000000 in
set_option maxRecDepth 100000 in
theorem kX12_atFirst_0 (l : Launch) (g : CX) (σ : ST) : XM l g yX12_atFirst wsX12_atFirst { frames := 0, cells := 0, slots := 0, locals := 0 } [.ref (g.2.1 79), .int 6] σ (XQv g (fun σ' => ((sA (sA (sA (sA (sA (sA σ 66 (upd (σ.2.2 66) 6 20)) 66 (upd (upd (σ.2.2 66) 6 20) 7 10)) 66 (upd (upd (upd (σ.2.2 66) 6 20) 7 10) 8 40)) 66 (upd (upd (upd (upd (σ.2.2 66) 6 20) 7 10) 8 40) 9 0)) 66 (upd (upd (upd (upd (upd (σ.2.2 66) 6 20) 7 10) 8 40) 9 0) 10 0)) 66 (upd (upd (upd (upd (upd (upd (σ.2.2 66) 6 20) 7 10) 8 40) 9 0) 10 0) 11 10)) = σ'))) := by
  refine x_met (own := RX12) (cc := cX12_atFirst) (maxL := 2) (ret := none) (lv := [(0, .ref (g.2.1 79)), (1, .int 6)]) (by decide) rfl rfl (Nat.le_of_ble_eq_true rfl) rfl ?_
  intro p e s m args below meth c ls E h hl
  have hx := E.1
  have hb := E.2.1
  have hown := E.2.2.2.1
  have hts := E.2.2.2.2.1
  have hwX12 : ∀ w ∈ wsX120, w ∈ wsX12_atFirst := by decide +kernel
  refine lv_aload_n hx hb dX12_atFirst_0 rfl (lv_at hl 0 rfl) ?_
  refine x_getR E h (fr_mo_rule g) rfl hwX12 (by decide) (by decide +kernel) dX12_atFirst_1 ?_
  refine lv_iload_n hx hb dX12_atFirst_4 rfl (lv_at hl 1 rfl) ?_
  refine lv_iconst (v := 0) hx hb dX12_atFirst_5 (by decide) ?_
  refine lv_iadd hx hb dX12_atFirst_6 ?_
  refine x_topI (v2 := 6) (by decide) ?_
  refine lv_bipush (v := 20) hx hb dX12_atFirst_7 (by decide) ?_
  refine x_stI E h (ia_mo_rule g) (i := 6) (by unfold vp_in; decide) (j := (6)) rfl rfl dX12_atFirst_9 (fun H locs h => ?_)
  refine lv_aload_n hx hb dX12_atFirst_10 rfl (lv_at hl 0 rfl) ?_
  refine x_getR E h (fr_mo_rule g) rfl hwX12 (by decide) (by decide +kernel) dX12_atFirst_11 ?_
  refine lv_iload_n hx hb dX12_atFirst_14 rfl (lv_at hl 1 rfl) ?_
  refine lv_iconst (v := 1) hx hb dX12_atFirst_15 (by decide) ?_
  refine lv_iadd hx hb dX12_atFirst_16 ?_
  refine x_topI (v2 := 7) (by decide) ?_
  refine lv_bipush (v := 10) hx hb dX12_atFirst_17 (by decide) ?_
  refine x_stI E h (ia_mo_rule g) (i := 7) (by unfold vp_in; decide) (j := (7)) rfl rfl dX12_atFirst_19 (fun H locs h => ?_)
  refine lv_aload_n hx hb dX12_atFirst_20 rfl (lv_at hl 0 rfl) ?_
  refine x_getR E h (fr_mo_rule g) rfl hwX12 (by decide) (by decide +kernel) dX12_atFirst_21 ?_
  refine lv_iload_n hx hb dX12_atFirst_24 rfl (lv_at hl 1 rfl) ?_
  refine lv_iconst (v := 2) hx hb dX12_atFirst_25 (by decide) ?_
  refine lv_iadd hx hb dX12_atFirst_26 ?_
  refine x_topI (v2 := 8) (by decide) ?_
  refine lv_bipush (v := 40) hx hb dX12_atFirst_27 (by decide) ?_
  refine x_stI E h (ia_mo_rule g) (i := 8) (by unfold vp_in; decide) (j := (8)) rfl rfl dX12_atFirst_29 (fun H locs h => ?_)
  refine lv_aload_n hx hb dX12_atFirst_30 rfl (lv_at hl 0 rfl) ?_
  refine x_getR E h (fr_mo_rule g) rfl hwX12 (by decide) (by decide +kernel) dX12_atFirst_31 ?_
  refine lv_iload_n hx hb dX12_atFirst_34 rfl (lv_at hl 1 rfl) ?_
  refine lv_iconst (v := 3) hx hb dX12_atFirst_35 (by decide) ?_
  refine lv_iadd hx hb dX12_atFirst_36 ?_
  refine x_topI (v2 := 9) (by decide) ?_
  refine lv_iconst (v := 0) hx hb dX12_atFirst_37 (by decide) ?_
  refine x_stI E h (ia_mo_rule g) (i := 9) (by unfold vp_in; decide) (j := (9)) rfl rfl dX12_atFirst_38 (fun H locs h => ?_)
  refine lv_aload_n hx hb dX12_atFirst_39 rfl (lv_at hl 0 rfl) ?_
  refine x_getR E h (fr_mo_rule g) rfl hwX12 (by decide) (by decide +kernel) dX12_atFirst_40 ?_
  refine lv_iload_n hx hb dX12_atFirst_43 rfl (lv_at hl 1 rfl) ?_
  refine lv_iconst (v := 4) hx hb dX12_atFirst_44 (by decide) ?_
  refine lv_iadd hx hb dX12_atFirst_45 ?_
  refine x_topI (v2 := 10) (by decide) ?_
  refine lv_iconst (v := 0) hx hb dX12_atFirst_46 (by decide) ?_
  refine x_stI E h (ia_mo_rule g) (i := 10) (by unfold vp_in; decide) (j := (10)) rfl rfl dX12_atFirst_47 (fun H locs h => ?_)
  refine lv_aload_n hx hb dX12_atFirst_48 rfl (lv_at hl 0 rfl) ?_
  refine x_getR E h (fr_mo_rule g) rfl hwX12 (by decide) (by decide +kernel) dX12_atFirst_49 ?_
  refine lv_iload_n hx hb dX12_atFirst_52 rfl (lv_at hl 1 rfl) ?_
  refine lv_iconst (v := 5) hx hb dX12_atFirst_53 (by decide) ?_
  refine lv_iadd hx hb dX12_atFirst_54 ?_
  refine x_topI (v2 := 11) (by decide) ?_
  refine lv_bipush (v := 10) hx hb dX12_atFirst_55 (by decide) ?_
  refine x_stI E h (ia_mo_rule g) (i := 11) (by unfold vp_in; decide) (j := (11)) rfl rfl dX12_atFirst_57 (fun H locs h => ?_)
  exact x_vret E h rfl dX12_atFirst_58
set_option maxHeartbeats 4000000 in
set_option maxRecDepth 100000 in
theorem kX12_here_0 (l : Launch) (g : CX) (σ : ST) (fI_25 : σ.1 25 = 0) (fI_26 : σ.1 26 = 0) : XM l g yX12_here wsX12_here { frames := 0, cells := 0, slots := 0, locals := 0 } [.ref (g.2.1 79)] σ (XQi g (fun r σ' => ((-1) = r ∧ σ = σ'))) := by
  refine x_met (own := RX12) (cc := cX12_here) (maxL := 1) (ret := (some .int)) (lv := [(0, .ref (g.2.1 79))]) (by decide) rfl rfl (Nat.le_of_ble_eq_true rfl) rfl ?_
  intro p e s m args below meth c ls E h hl
  have hx := E.1
  have hb := E.2.1
  have hown := E.2.2.2.1
  have hts := E.2.2.2.2.1
  have hwX12 : ∀ w ∈ wsX120, w ∈ wsX12_here := by decide +kernel
  refine lv_aload_n hx hb dX12_here_0 rfl (lv_at hl 0 rfl) ?_
  refine x_getI E h (fi_mo_at g) rfl hwX12 (by decide) (by decide +kernel) (v := 0) fI_26 dX12_here_1 ?_
  refine lv_aload_n hx hb dX12_here_4 rfl (lv_at hl 0 rfl) ?_
  refine x_getI E h (fi_mo_typed g) rfl hwX12 (by decide) (by decide +kernel) (v := 0) fI_25 dX12_here_5 ?_
  refine lv_icmp_ge (tgt := 27) hx hb dX12_here_8 (by decide) (fun _ => ?_) (fun c => absurd (by decide) c)
  refine lv_iconst (v := (-1)) hx hb dX12_here_27 (by decide) ?_
  exact x_iret E h ⟨rfl, rfl⟩ dX12_here_28
set_option maxHeartbeats 4000000 in
set_option maxRecDepth 100000 in
theorem kX12_next_0 (l : Launch) (g : CX) (σ : ST) (fI_25 : σ.1 25 = 0) (fI_26 : σ.1 26 = 0) : XM l g yX12_next wsX12_next { frames := 1, cells := 0, slots := 0, locals := 20 } [.ref (g.2.1 79)] σ (XQv g (fun σ' => ((sI (sI (sI σ 27 0) 29 0) 28 0) = σ'))) := by
  refine x_met (own := RX12) (cc := cX12_next) (maxL := 2) (ret := none) (lv := [(0, .ref (g.2.1 79))]) (by decide) rfl rfl (Nat.le_of_ble_eq_true rfl) rfl ?_
  intro p e s m args below meth c ls E h hl
  have hx := E.1
  have hb := E.2.1
  have hown := E.2.2.2.1
  have hts := E.2.2.2.2.1
  have hwX12 : ∀ w ∈ wsX120, w ∈ wsX12_next := by decide +kernel
  refine lv_aload_n hx hb dX12_next_0 rfl (lv_at hl 0 rfl) ?_
  refine x_vi E h (na := 0) (As := []) (kX12_here_0 l g _  fI_25 fI_26) (oc_mo g) rfl gX12_next_X12_here rfl ⟨rfl, rfl⟩ rfl (by decide +kernel) ⟨Nat.le_of_ble_eq_true rfl, Nat.le_of_ble_eq_true rfl⟩ hl.1 rfl (Nat.le_of_ble_eq_true rfl) dX12_next_1 ⟨Nat.le_of_ble_eq_true rfl, Nat.le_of_ble_eq_true rfl⟩ (fun r1 s1 H locs q1 h => ?_)
  rcases q1 with ⟨rfl, rfl⟩
  refine lv_bipush (v := 32) hx hb dX12_next_4 (by decide) ?_
  refine lv_icmp_ne (tgt := 22) hx hb dX12_next_6 (by decide) (fun _ => ?_) (fun c => absurd c (by decide))
  refine lv_aload_n hx hb dX12_next_22 rfl (lv_at hl 0 rfl) ?_
  refine lv_aload_n hx hb dX12_next_23 rfl (lv_at hl 0 rfl) ?_
  refine x_getI E h (fi_mo_at g) rfl hwX12 (by decide) (by decide +kernel) (v := 0) fI_26 dX12_next_24 ?_
  refine x_putI E h (ty := .int) (v := 0) (fi_mo_start g) rfl hwX12 tyX12_ok nmX12 (by decide) (by decide +kernel) (by decide +kernel) (by decide +kernel) rfl rfl dX12_next_27 (fun H locs h => ?_)
  refine lv_aload_n hx hb dX12_next_30 rfl (lv_at hl 0 rfl) ?_
  refine lv_iconst (v := 0) hx hb dX12_next_31 (by decide) ?_
  refine x_putI E h (ty := .int) (v := 0) (fi_mo_value g) rfl hwX12 tyX12_ok nmX12 (by decide) (by decide +kernel) (by decide +kernel) (by decide +kernel) rfl rfl dX12_next_32 (fun H locs h => ?_)
  refine lv_aload_n hx hb dX12_next_35 rfl (lv_at hl 0 rfl) ?_
  refine x_vi E h (na := 0) (As := []) (kX12_here_0 l g _  fI_25 fI_26) (oc_mo g) rfl gX12_next_X12_here rfl ⟨rfl, rfl⟩ rfl (by decide +kernel) ⟨Nat.le_of_ble_eq_true rfl, Nat.le_of_ble_eq_true rfl⟩ hl.1 rfl (Nat.le_of_ble_eq_true rfl) dX12_next_36 ⟨Nat.le_of_ble_eq_true rfl, Nat.le_of_ble_eq_true rfl⟩ (fun r2 s2 H locs q2 h => ?_)
  rcases q2 with ⟨rfl, rfl⟩
  refine lv_istore_n (lv' := [(1, .int (-1)), (0, .ref (g.2.1 79))]) hx hb dX12_next_39 rfl hl (by decide) rfl (fun ls hl => ?_)
  refine lv_iload_n hx hb dX12_next_40 rfl (lv_at hl 0 rfl) ?_
  refine lv_if_ge (tgt := 52) hx hb dX12_next_41 (by decide) (fun c => absurd c (by decide)) (fun _ => ?_)
  refine lv_aload_n hx hb dX12_next_44 rfl (lv_at hl 1 rfl) ?_
  refine lv_iconst (v := 0) hx hb dX12_next_45 (by decide) ?_
  refine x_putI E h (ty := .int) (v := 0) (fi_mo_sort g) rfl hwX12 tyX12_ok nmX12 (by decide) (by decide +kernel) (by decide +kernel) (by decide +kernel) rfl rfl dX12_next_46 (fun H locs h => ?_)
  refine lv_goto (tgt := 267) hx hb dX12_next_49 (by decide) ?_
  exact x_vret E h rfl dX12_next_267
set_option maxHeartbeats 4000000 in
set_option maxRecDepth 100000 in
theorem kX12_rules_0 (l : Launch) (g : CX) (σ : ST) (fI_25 : σ.1 25 = 0) : XM l g yX12_rules wsX12_rules { frames := 2, cells := 0, slots := 0, locals := 41 } [.ref (g.2.1 79)] σ (XQi g (fun r σ' => (0 = r))) := by
  refine x_met (own := RX12) (cc := cX12_rules) (maxL := 5) (ret := (some .int)) (lv := [(0, .ref (g.2.1 79))]) (by decide) rfl rfl (Nat.le_of_ble_eq_true rfl) rfl ?_
  intro p e s m args below meth c ls E h hl
  have hx := E.1
  have hb := E.2.1
  have hown := E.2.2.2.1
  have hts := E.2.2.2.2.1
  have hwX12 : ∀ w ∈ wsX120, w ∈ wsX12_rules := by decide +kernel
  refine lv_aload_n hx hb dX12_rules_0 rfl (lv_at hl 0 rfl) ?_
  refine lv_iconst (v := 0) hx hb dX12_rules_1 (by decide) ?_
  refine x_putI E h (ty := .int) (v := 0) (fi_mo_at g) rfl hwX12 tyX12_ok nmX12 (by decide) (by decide +kernel) (by decide +kernel) (by decide +kernel) rfl rfl dX12_rules_2 (fun H locs h => ?_)
  refine lv_aload_n hx hb dX12_rules_5 rfl (lv_at hl 0 rfl) ?_
  refine lv_bipush (v := (-9)) hx hb dX12_rules_6 (by decide) ?_
  refine x_putI E h (ty := .int) (v := (-9)) (fi_mo_fault g) rfl hwX12 tyX12_ok nmX12 (by decide) (by decide +kernel) (by decide +kernel) (by decide +kernel) rfl rfl dX12_rules_8 (fun H locs h => ?_)
  refine lv_iconst (v := 0) hx hb dX12_rules_11 (by decide) ?_
  refine lv_istore_n (lv' := [(1, .int 0), (0, .ref (g.2.1 79))]) hx hb dX12_rules_12 rfl hl (by decide) rfl (fun ls hl => ?_)
  refine lv_iconst (v := 0) hx hb dX12_rules_13 (by decide) ?_
  refine lv_istore_n (lv' := [(2, .int 0), (1, .int 0), (0, .ref (g.2.1 79))]) hx hb dX12_rules_14 rfl hl (by decide) rfl (fun ls hl => ?_)
  refine lv_aload_n hx hb dX12_rules_15 rfl (lv_at hl 2 rfl) ?_
  refine lv_bipush (v := 6) hx hb dX12_rules_16 (by decide) ?_
  refine x_vv E h (na := 1) (As := [.int 6]) (kX12_atFirst_0 l g _  ) (oc_mo g) rfl gX12_rules_X12_atFirst rfl ⟨rfl, rfl⟩ rfl (by decide +kernel) ⟨Nat.le_of_ble_eq_true rfl, Nat.le_of_ble_eq_true rfl⟩ hl.1 rfl (Nat.le_of_ble_eq_true rfl) dX12_rules_18 ⟨Nat.le_of_ble_eq_true rfl, Nat.le_of_ble_eq_true rfl⟩ (fun s1 H locs q1 h => ?_)
  rcases q1 with rfl
  refine lv_aload_n hx hb dX12_rules_21 rfl (lv_at hl 2 rfl) ?_
  refine x_vv E h (na := 0) (As := []) (kX12_next_0 l g _  fI_25 rfl) (oc_mo g) rfl gX12_rules_X12_next rfl ⟨rfl, rfl⟩ rfl (by decide +kernel) ⟨Nat.le_of_ble_eq_true rfl, Nat.le_of_ble_eq_true rfl⟩ hl.1 rfl (Nat.le_of_ble_eq_true rfl) dX12_rules_22 ⟨Nat.le_of_ble_eq_true rfl, Nat.le_of_ble_eq_true rfl⟩ (fun s2 H locs q2 h => ?_)
  rcases q2 with rfl
  refine lv_aload_n hx hb dX12_rules_25 rfl (lv_at hl 2 rfl) ?_
  refine x_getI E h (fi_mo_fault g) rfl hwX12 (by decide) (by decide +kernel) (v := (-9)) rfl dX12_rules_26 ?_
  refine lv_bipush (v := (-9)) hx hb dX12_rules_29 (by decide) ?_
  refine lv_icmp_ne (tgt := 150) hx hb dX12_rules_31 (by decide) (fun c => absurd (by decide) c) (fun _ => ?_)
  refine lv_aload_n hx hb dX12_rules_34 rfl (lv_at hl 2 rfl) ?_
  refine x_getI E h (fi_mo_sort g) rfl hwX12 (by decide) (by decide +kernel) (v := 0) rfl dX12_rules_35 ?_
  refine lv_if_eq (tgt := 150) hx hb dX12_rules_38 (by decide) (fun _ => ?_) (fun c => absurd (by decide) c)
  refine lv_aload_n hx hb dX12_rules_150 rfl (lv_at hl 2 rfl) ?_
  refine x_getI E h (fi_mo_fault g) rfl hwX12 (by decide) (by decide +kernel) (v := (-9)) rfl dX12_rules_151 ?_
  refine lv_bipush (v := (-9)) hx hb dX12_rules_154 (by decide) ?_
  refine lv_icmp_eq (tgt := 167) hx hb dX12_rules_156 (by decide) (fun _ => ?_) (fun c => absurd (by decide) c)
  refine lv_iconst (v := 0) hx hb dX12_rules_167 (by decide) ?_
  refine lv_istore_n (lv' := [(3, .int 0), (2, .int 0), (1, .int 0), (0, .ref (g.2.1 79))]) hx hb dX12_rules_168 rfl hl (by decide) rfl (fun ls hl => ?_)
  refine lv_iload_n hx hb dX12_rules_169 rfl (lv_at hl 0 rfl) ?_
  refine lv_bipush (v := 6) hx hb dX12_rules_170 (by decide) ?_
  refine lv_icmp_ge (tgt := 196) hx hb dX12_rules_172 (by decide) (fun c => absurd c (by decide)) (fun _ => ?_)
  refine lv_aload_n hx hb dX12_rules_175 rfl (lv_at hl 3 rfl) ?_
  refine x_getR E h (fr_mo_rule g) rfl hwX12 (by decide) (by decide +kernel) dX12_rules_176 ?_
  refine lv_iload_n hx hb dX12_rules_179 rfl (lv_at hl 0 rfl) ?_
  refine lv_aload_n hx hb dX12_rules_180 rfl (lv_at hl 3 rfl) ?_
  refine x_getR E h (fr_mo_rule g) rfl hwX12 (by decide) (by decide +kernel) dX12_rules_181 ?_
  refine lv_bipush (v := 6) hx hb dX12_rules_184 (by decide) ?_
  refine lv_iload_n hx hb dX12_rules_186 rfl (lv_at hl 0 rfl) ?_
  refine lv_iadd hx hb dX12_rules_187 ?_
  refine x_topI (v2 := 6) (by decide) ?_
  refine x_ldI E h (ia_mo_rule g) (i := 6) (by unfold vp_in; decide) (v := 20) rfl dX12_rules_188 ?_
  refine x_stI E h (ia_mo_rule g) (i := 0) (by unfold vp_in; decide) (j := (0)) rfl rfl dX12_rules_189 (fun H locs h => ?_)
  refine lv_iinc (v := 1) (lv' := [(3, .int 1), (2, .int 0), (1, .int 0), (0, .ref (g.2.1 79))]) hx hb dX12_rules_190 hl (k := 0) rfl (by decide) (by decide) rfl (fun ls hl => ?_)
  refine lv_goto (tgt := 169) hx hb dX12_rules_193 (by decide) ?_
  refine lv_iload_n hx hb dX12_rules_169 rfl (lv_at hl 0 rfl) ?_
  refine lv_bipush (v := 6) hx hb dX12_rules_170 (by decide) ?_
  refine lv_icmp_ge (tgt := 196) hx hb dX12_rules_172 (by decide) (fun c => absurd c (by decide)) (fun _ => ?_)
  refine lv_aload_n hx hb dX12_rules_175 rfl (lv_at hl 3 rfl) ?_
  refine x_getR E h (fr_mo_rule g) rfl hwX12 (by decide) (by decide +kernel) dX12_rules_176 ?_
  refine lv_iload_n hx hb dX12_rules_179 rfl (lv_at hl 0 rfl) ?_
  refine lv_aload_n hx hb dX12_rules_180 rfl (lv_at hl 3 rfl) ?_
  refine x_getR E h (fr_mo_rule g) rfl hwX12 (by decide) (by decide +kernel) dX12_rules_181 ?_
  refine lv_bipush (v := 6) hx hb dX12_rules_184 (by decide) ?_
  refine lv_iload_n hx hb dX12_rules_186 rfl (lv_at hl 0 rfl) ?_
  refine lv_iadd hx hb dX12_rules_187 ?_
  refine x_topI (v2 := 7) (by decide) ?_
  refine x_ldI E h (ia_mo_rule g) (i := 7) (by unfold vp_in; decide) (v := 10) rfl dX12_rules_188 ?_
  refine x_stI E h (ia_mo_rule g) (i := 1) (by unfold vp_in; decide) (j := (1)) rfl rfl dX12_rules_189 (fun H locs h => ?_)
  refine lv_iinc (v := 2) (lv' := [(3, .int 2), (2, .int 0), (1, .int 0), (0, .ref (g.2.1 79))]) hx hb dX12_rules_190 hl (k := 0) rfl (by decide) (by decide) rfl (fun ls hl => ?_)
  refine lv_goto (tgt := 169) hx hb dX12_rules_193 (by decide) ?_
  refine lv_iload_n hx hb dX12_rules_169 rfl (lv_at hl 0 rfl) ?_
  refine lv_bipush (v := 6) hx hb dX12_rules_170 (by decide) ?_
  refine lv_icmp_ge (tgt := 196) hx hb dX12_rules_172 (by decide) (fun c => absurd c (by decide)) (fun _ => ?_)
  refine lv_aload_n hx hb dX12_rules_175 rfl (lv_at hl 3 rfl) ?_
  refine x_getR E h (fr_mo_rule g) rfl hwX12 (by decide) (by decide +kernel) dX12_rules_176 ?_
  refine lv_iload_n hx hb dX12_rules_179 rfl (lv_at hl 0 rfl) ?_
  refine lv_aload_n hx hb dX12_rules_180 rfl (lv_at hl 3 rfl) ?_
  refine x_getR E h (fr_mo_rule g) rfl hwX12 (by decide) (by decide +kernel) dX12_rules_181 ?_
  refine lv_bipush (v := 6) hx hb dX12_rules_184 (by decide) ?_
  refine lv_iload_n hx hb dX12_rules_186 rfl (lv_at hl 0 rfl) ?_
  refine lv_iadd hx hb dX12_rules_187 ?_
  refine x_topI (v2 := 8) (by decide) ?_
  refine x_ldI E h (ia_mo_rule g) (i := 8) (by unfold vp_in; decide) (v := 40) rfl dX12_rules_188 ?_
  refine x_stI E h (ia_mo_rule g) (i := 2) (by unfold vp_in; decide) (j := (2)) rfl rfl dX12_rules_189 (fun H locs h => ?_)
  refine lv_iinc (v := 3) (lv' := [(3, .int 3), (2, .int 0), (1, .int 0), (0, .ref (g.2.1 79))]) hx hb dX12_rules_190 hl (k := 0) rfl (by decide) (by decide) rfl (fun ls hl => ?_)
  refine lv_goto (tgt := 169) hx hb dX12_rules_193 (by decide) ?_
  refine lv_iload_n hx hb dX12_rules_169 rfl (lv_at hl 0 rfl) ?_
  refine lv_bipush (v := 6) hx hb dX12_rules_170 (by decide) ?_
  refine lv_icmp_ge (tgt := 196) hx hb dX12_rules_172 (by decide) (fun c => absurd c (by decide)) (fun _ => ?_)
  refine lv_aload_n hx hb dX12_rules_175 rfl (lv_at hl 3 rfl) ?_
  refine x_getR E h (fr_mo_rule g) rfl hwX12 (by decide) (by decide +kernel) dX12_rules_176 ?_
  refine lv_iload_n hx hb dX12_rules_179 rfl (lv_at hl 0 rfl) ?_
  refine lv_aload_n hx hb dX12_rules_180 rfl (lv_at hl 3 rfl) ?_
  refine x_getR E h (fr_mo_rule g) rfl hwX12 (by decide) (by decide +kernel) dX12_rules_181 ?_
  refine lv_bipush (v := 6) hx hb dX12_rules_184 (by decide) ?_
  refine lv_iload_n hx hb dX12_rules_186 rfl (lv_at hl 0 rfl) ?_
  refine lv_iadd hx hb dX12_rules_187 ?_
  refine x_topI (v2 := 9) (by decide) ?_
  refine x_ldI E h (ia_mo_rule g) (i := 9) (by unfold vp_in; decide) (v := 0) rfl dX12_rules_188 ?_
  refine x_stI E h (ia_mo_rule g) (i := 3) (by unfold vp_in; decide) (j := (3)) rfl rfl dX12_rules_189 (fun H locs h => ?_)
  refine lv_iinc (v := 4) (lv' := [(3, .int 4), (2, .int 0), (1, .int 0), (0, .ref (g.2.1 79))]) hx hb dX12_rules_190 hl (k := 0) rfl (by decide) (by decide) rfl (fun ls hl => ?_)
  refine lv_goto (tgt := 169) hx hb dX12_rules_193 (by decide) ?_
  refine lv_iload_n hx hb dX12_rules_169 rfl (lv_at hl 0 rfl) ?_
  refine lv_bipush (v := 6) hx hb dX12_rules_170 (by decide) ?_
  refine lv_icmp_ge (tgt := 196) hx hb dX12_rules_172 (by decide) (fun c => absurd c (by decide)) (fun _ => ?_)
  refine lv_aload_n hx hb dX12_rules_175 rfl (lv_at hl 3 rfl) ?_
  refine x_getR E h (fr_mo_rule g) rfl hwX12 (by decide) (by decide +kernel) dX12_rules_176 ?_
  refine lv_iload_n hx hb dX12_rules_179 rfl (lv_at hl 0 rfl) ?_
  refine lv_aload_n hx hb dX12_rules_180 rfl (lv_at hl 3 rfl) ?_
  refine x_getR E h (fr_mo_rule g) rfl hwX12 (by decide) (by decide +kernel) dX12_rules_181 ?_
  refine lv_bipush (v := 6) hx hb dX12_rules_184 (by decide) ?_
  refine lv_iload_n hx hb dX12_rules_186 rfl (lv_at hl 0 rfl) ?_
  refine lv_iadd hx hb dX12_rules_187 ?_
  refine x_topI (v2 := 10) (by decide) ?_
  refine x_ldI E h (ia_mo_rule g) (i := 10) (by unfold vp_in; decide) (v := 0) rfl dX12_rules_188 ?_
  refine x_stI E h (ia_mo_rule g) (i := 4) (by unfold vp_in; decide) (j := (4)) rfl rfl dX12_rules_189 (fun H locs h => ?_)
  refine lv_iinc (v := 5) (lv' := [(3, .int 5), (2, .int 0), (1, .int 0), (0, .ref (g.2.1 79))]) hx hb dX12_rules_190 hl (k := 0) rfl (by decide) (by decide) rfl (fun ls hl => ?_)
  refine lv_goto (tgt := 169) hx hb dX12_rules_193 (by decide) ?_
  refine lv_iload_n hx hb dX12_rules_169 rfl (lv_at hl 0 rfl) ?_
  refine lv_bipush (v := 6) hx hb dX12_rules_170 (by decide) ?_
  refine lv_icmp_ge (tgt := 196) hx hb dX12_rules_172 (by decide) (fun c => absurd c (by decide)) (fun _ => ?_)
  refine lv_aload_n hx hb dX12_rules_175 rfl (lv_at hl 3 rfl) ?_
  refine x_getR E h (fr_mo_rule g) rfl hwX12 (by decide) (by decide +kernel) dX12_rules_176 ?_
  refine lv_iload_n hx hb dX12_rules_179 rfl (lv_at hl 0 rfl) ?_
  refine lv_aload_n hx hb dX12_rules_180 rfl (lv_at hl 3 rfl) ?_
  refine x_getR E h (fr_mo_rule g) rfl hwX12 (by decide) (by decide +kernel) dX12_rules_181 ?_
  refine lv_bipush (v := 6) hx hb dX12_rules_184 (by decide) ?_
  refine lv_iload_n hx hb dX12_rules_186 rfl (lv_at hl 0 rfl) ?_
  refine lv_iadd hx hb dX12_rules_187 ?_
  refine x_topI (v2 := 11) (by decide) ?_
  refine x_ldI E h (ia_mo_rule g) (i := 11) (by unfold vp_in; decide) (v := 10) rfl dX12_rules_188 ?_
  refine x_stI E h (ia_mo_rule g) (i := 5) (by unfold vp_in; decide) (j := (5)) rfl rfl dX12_rules_189 (fun H locs h => ?_)
  refine lv_iinc (v := 6) (lv' := [(3, .int 6), (2, .int 0), (1, .int 0), (0, .ref (g.2.1 79))]) hx hb dX12_rules_190 hl (k := 0) rfl (by decide) (by decide) rfl (fun ls hl => ?_)
  refine lv_goto (tgt := 169) hx hb dX12_rules_193 (by decide) ?_
  refine lv_iload_n hx hb dX12_rules_169 rfl (lv_at hl 0 rfl) ?_
  refine lv_bipush (v := 6) hx hb dX12_rules_170 (by decide) ?_
  refine lv_icmp_ge (tgt := 196) hx hb dX12_rules_172 (by decide) (fun _ => ?_) (fun c => absurd (by decide) c)
  refine lv_aload_n hx hb dX12_rules_196 rfl (lv_at hl 3 rfl) ?_
  refine lv_iconst (v := 0) hx hb dX12_rules_197 (by decide) ?_
  refine x_putI E h (ty := .int) (v := 0) (fi_mo_typed g) rfl hwX12 tyX12_ok nmX12 (by decide) (by decide +kernel) (by decide +kernel) (by decide +kernel) rfl rfl dX12_rules_198 (fun H locs h => ?_)
  refine lv_iload_n hx hb dX12_rules_201 rfl (lv_at hl 1 rfl) ?_
  exact x_iret E h rfl dX12_rules_202
