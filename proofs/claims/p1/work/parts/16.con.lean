set_option maxHeartbeats 4000000 in
set_option maxRecDepth 100000 in
theorem kX12_errors_0 (l : Launch) (g : CX) (σ : ST) (p1 : Int32) (fI_31 : σ.1 31 = 0) : XM l g yX12_errors wsX12_errors { frames := 2, cells := 0, slots := 0, locals := 48 } [.ref (g.2.1 79), .int p1] σ (XQi g (fun r σ' => (bB p1 0 2 = 1 ∧ 2 ≤ p1 ∧ 0 = r) ∨ (bB p1 0 2 = 1 ∧ ¬ 2 ≤ p1 ∧ ¬ p1 = 0 ∧ 0 = r) ∨ (bB p1 0 2 = 1 ∧ ¬ 2 ≤ p1 ∧ p1 = 0 ∧ 0 = r) ∨ (bB p1 0 2 = 0 ∧ (-1) = r))) := by
  refine x_met (own := RX12) (cc := cX12_errors) (maxL := 7) (ret := (some .int)) (lv := [(0, .ref (g.2.1 79)), (1, .int p1)]) (by decide) rfl rfl (Nat.le_of_ble_eq_true rfl) rfl ?_
  intro p e s m args below meth c ls E h hl
  have hx := E.1
  have hb := E.2.1
  have hown := E.2.2.2.1
  have hts := E.2.2.2.2.1
  have hwX12 : ∀ w ∈ wsX120, w ∈ wsX12_errors := by decide +kernel
  refine lv_iload_n hx hb dX12_errors_0 rfl (lv_at hl 1 rfl) ?_
  refine lv_iconst (v := 0) hx hb dX12_errors_1 (by decide) ?_
  refine lv_iconst (v := 2) hx hb dX12_errors_2 (by decide) ?_
  refine x_si E h (na := 3) (As := [.int p1, .int 0, .int 2]) (kX12_in_0 l g _ p1 0 2) gX12_errors_X12_in rfl ⟨rfl, rfl⟩ rfl (by decide +kernel) ⟨Nat.le_of_ble_eq_true rfl, Nat.le_of_ble_eq_true rfl⟩ hl.1 rfl (Nat.le_of_ble_eq_true rfl) dX12_errors_3 ⟨Nat.le_of_ble_eq_true rfl, Nat.le_of_ble_eq_true rfl⟩ (fun r1 s1 H locs q1 h => ?_)
  rcases q1 with ⟨k1_0, rfl, rfl⟩ | ⟨k1_0, rfl, rfl⟩
  · skip
    refine lv_if_ne (tgt := 11) hx hb dX12_errors_6 (by decide) (fun _ => ?_) (fun c => absurd c (by decide))
    refine lv_aload_n hx hb dX12_errors_11 rfl (lv_at hl 0 rfl) ?_
    refine x_vv E h (na := 0) (As := []) (kX12_findPieces_0 l g _  fI_31) (oc_mo g) rfl gX12_errors_X12_findPieces rfl ⟨rfl, rfl⟩ rfl (by decide +kernel) ⟨Nat.le_of_ble_eq_true rfl, Nat.le_of_ble_eq_true rfl⟩ hl.1 rfl (Nat.le_of_ble_eq_true rfl) dX12_errors_12 ⟨Nat.le_of_ble_eq_true rfl, Nat.le_of_ble_eq_true rfl⟩ (fun s2 H locs q2 h => ?_)
    rcases q2 with rfl
    refine lv_iconst (v := 0) hx hb dX12_errors_15 (by decide) ?_
    refine lv_istore_n (lv' := [(2, .int 0), (0, .ref (g.2.1 79)), (1, .int p1)]) hx hb dX12_errors_16 rfl hl (by decide) rfl (fun ls hl => ?_)
    refine lv_iconst (v := 0) hx hb dX12_errors_17 (by decide) ?_
    refine lv_istore_n (lv' := [(3, .int 0), (2, .int 0), (0, .ref (g.2.1 79)), (1, .int p1)]) hx hb dX12_errors_18 rfl hl (by decide) rfl (fun ls hl => ?_)
    refine lv_iconst (v := 0) hx hb dX12_errors_19 (by decide) ?_
    refine lv_istore (lv' := [(4, .int 0), (3, .int 0), (2, .int 0), (0, .ref (g.2.1 79)), (1, .int p1)]) hx hb dX12_errors_20 hl (by decide) rfl (fun ls hl => ?_)
    refine lv_iconst (v := 0) hx hb dX12_errors_22 (by decide) ?_
    refine lv_istore (lv' := [(5, .int 0), (4, .int 0), (3, .int 0), (2, .int 0), (0, .ref (g.2.1 79)), (1, .int p1)]) hx hb dX12_errors_23 hl (by decide) rfl (fun ls hl => ?_)
    refine lv_iload hx hb dX12_errors_25 (lv_at hl 0 rfl) ?_
    refine lv_aload_n hx hb dX12_errors_27 rfl (lv_at hl 4 rfl) ?_
    refine x_getI E h (fi_mo_rows g) rfl hwX12 (by decide) (by decide +kernel) (v := 0) fI_31 dX12_errors_28 ?_
    refine lv_icmp_ge (tgt := 130) hx hb dX12_errors_31 (by decide) (fun _ => ?_) (fun c => absurd (by decide) c)
    refine lv_iload_n hx hb dX12_errors_130 rfl (lv_at hl 5 rfl) ?_
    refine lv_iconst (v := 2) hx hb dX12_errors_131 (by decide) ?_
    refine lv_icmp_ge (tgt := 145) hx hb dX12_errors_132 (by decide) (fun c132_3 => ?_) (fun c132_3 => ?_)
    · skip
      refine lv_aload_n hx hb dX12_errors_145 rfl (lv_at hl 4 rfl) ?_
      refine x_vi E h (na := 0) (As := []) (kX12_findBest_0 l g _  fI_31) (oc_mo g) rfl gX12_errors_X12_findBest rfl ⟨rfl, rfl⟩ rfl (by decide +kernel) ⟨Nat.le_of_ble_eq_true rfl, Nat.le_of_ble_eq_true rfl⟩ hl.1 rfl (Nat.le_of_ble_eq_true rfl) dX12_errors_146 ⟨Nat.le_of_ble_eq_true rfl, Nat.le_of_ble_eq_true rfl⟩ (fun r4 s4 H locs q4 h => ?_)
      rcases q4 with ⟨rfl, rfl⟩
      refine lv_if_eq (tgt := 162) hx hb dX12_errors_149 (by decide) (fun c => absurd c (by decide)) (fun _ => ?_)
      refine lv_iload hx hb dX12_errors_152 (lv_at hl 1 rfl) ?_
      refine lv_aload_n hx hb dX12_errors_154 rfl (lv_at hl 4 rfl) ?_
      refine x_vi E h (na := 0) (As := []) (kX12_mostRight_0 l g _  fI_31) (oc_mo g) rfl gX12_errors_X12_mostRight rfl ⟨rfl, rfl⟩ rfl (by decide +kernel) ⟨Nat.le_of_ble_eq_true rfl, Nat.le_of_ble_eq_true rfl⟩ hl.1 rfl (Nat.le_of_ble_eq_true rfl) dX12_errors_155 ⟨Nat.le_of_ble_eq_true rfl, Nat.le_of_ble_eq_true rfl⟩ (fun r5 s5 H locs q5 h => ?_)
      rcases q5 with rfl
      refine lv_isub hx hb dX12_errors_158 ?_
      refine x_topI (v2 := 0) (by decide) ?_
      refine lv_goto (tgt := 164) hx hb dX12_errors_159 (by decide) ?_
      exact x_iret E h (Or.inl ⟨k1_0, c132_3, rfl⟩) dX12_errors_164
    · skip
      refine lv_iload_n hx hb dX12_errors_135 rfl (lv_at hl 5 rfl) ?_
      refine lv_if_ne (tgt := 143) hx hb dX12_errors_136 (by decide) (fun c136_6 => ?_) (fun c136_6 => ?_)
      · skip
        refine lv_iload_n hx hb dX12_errors_143 rfl (lv_at hl 2 rfl) ?_
        exact x_iret E h (Or.inr (Or.inl ⟨k1_0, c132_3, c136_6, rfl⟩)) dX12_errors_144
      · skip
        refine lv_iload_n hx hb dX12_errors_139 rfl (lv_at hl 3 rfl) ?_
        refine lv_goto (tgt := 144) hx hb dX12_errors_140 (by decide) ?_
        exact x_iret E h (Or.inr (Or.inr (Or.inl ⟨k1_0, c132_3, c136_6, rfl⟩))) dX12_errors_144
  · skip
    refine lv_if_ne (tgt := 11) hx hb dX12_errors_6 (by decide) (fun c => absurd (by decide) c) (fun _ => ?_)
    refine lv_iconst (v := (-1)) hx hb dX12_errors_9 (by decide) ?_
    exact x_iret E h (Or.inr (Or.inr (Or.inr (⟨k1_0, rfl⟩)))) dX12_errors_10
set_option maxHeartbeats 4000000 in
set_option maxRecDepth 100000 in
theorem kX12_weight_0 (l : Launch) (g : CX) (σ : ST) (p1 : Int32) (p2 : Int32) (fI_31 : σ.1 31 = 0) : XM l g yX12_weight wsX12_weight { frames := 2, cells := 0, slots := 0, locals := 43 } [.ref (g.2.1 79), .int p1, .int p2] σ (XQi g (fun r σ' => (bB p1 0 7 = 1 ∧ bB p2 0 (-1) = 0 ∧ (-1) = r) ∨ (bB p1 0 7 = 0 ∧ (-1) = r))) := by
  refine x_met (own := RX12) (cc := cX12_weight) (maxL := 6) (ret := (some .int)) (lv := [(0, .ref (g.2.1 79)), (1, .int p1), (2, .int p2)]) (by decide) rfl rfl (Nat.le_of_ble_eq_true rfl) rfl ?_
  intro p e s m args below meth c ls E h hl
  have hx := E.1
  have hb := E.2.1
  have hown := E.2.2.2.1
  have hts := E.2.2.2.2.1
  refine lv_aload_n hx hb dX12_weight_0 rfl (lv_at hl 0 rfl) ?_
  refine x_vv E h (na := 0) (As := []) (kX12_findPieces_0 l g _  fI_31) (oc_mo g) rfl gX12_weight_X12_findPieces rfl ⟨rfl, rfl⟩ rfl (by decide +kernel) ⟨Nat.le_of_ble_eq_true rfl, Nat.le_of_ble_eq_true rfl⟩ hl.1 rfl (Nat.le_of_ble_eq_true rfl) dX12_weight_1 ⟨Nat.le_of_ble_eq_true rfl, Nat.le_of_ble_eq_true rfl⟩ (fun s1 H locs q1 h => ?_)
  rcases q1 with rfl
  refine lv_iload_n hx hb dX12_weight_4 rfl (lv_at hl 1 rfl) ?_
  refine lv_iconst (v := 0) hx hb dX12_weight_5 (by decide) ?_
  refine lv_bipush (v := 7) hx hb dX12_weight_6 (by decide) ?_
  refine x_si E h (na := 3) (As := [.int p1, .int 0, .int 7]) (kX12_in_0 l g _ p1 0 7) gX12_weight_X12_in rfl ⟨rfl, rfl⟩ rfl (by decide +kernel) ⟨Nat.le_of_ble_eq_true rfl, Nat.le_of_ble_eq_true rfl⟩ hl.1 rfl (Nat.le_of_ble_eq_true rfl) dX12_weight_8 ⟨Nat.le_of_ble_eq_true rfl, Nat.le_of_ble_eq_true rfl⟩ (fun r2 s2 H locs q2 h => ?_)
  rcases q2 with ⟨k2_0, rfl, rfl⟩ | ⟨k2_0, rfl, rfl⟩
  · skip
    refine lv_if_eq (tgt := 22) hx hb dX12_weight_11 (by decide) (fun c => absurd c (by decide)) (fun _ => ?_)
    refine lv_aload_n hx hb dX12_weight_14 rfl (lv_at hl 0 rfl) ?_
    refine lv_iload_n hx hb dX12_weight_15 rfl (lv_at hl 2 rfl) ?_
    refine x_vi E h (na := 1) (As := [.int p2]) (kX12_isPiece_0 l g _ p2 rfl) (oc_mo g) rfl gX12_weight_X12_isPiece rfl ⟨rfl, rfl⟩ rfl (by decide +kernel) ⟨Nat.le_of_ble_eq_true rfl, Nat.le_of_ble_eq_true rfl⟩ hl.1 rfl (Nat.le_of_ble_eq_true rfl) dX12_weight_16 ⟨Nat.le_of_ble_eq_true rfl, Nat.le_of_ble_eq_true rfl⟩ (fun r3 s3 H locs q3 h => ?_)
    rcases q3 with ⟨k3_0, rfl, rfl⟩
    refine lv_if_ne (tgt := 24) hx hb dX12_weight_19 (by decide) (fun c => absurd (by decide) c) (fun _ => ?_)
    refine lv_iconst (v := (-1)) hx hb dX12_weight_22 (by decide) ?_
    exact x_iret E h (Or.inl ⟨k2_0, k3_0, rfl⟩) dX12_weight_23
  · skip
    refine lv_if_eq (tgt := 22) hx hb dX12_weight_11 (by decide) (fun _ => ?_) (fun c => absurd (by decide) c)
    refine lv_iconst (v := (-1)) hx hb dX12_weight_22 (by decide) ?_
    exact x_iret E h (Or.inr (⟨k2_0, rfl⟩)) dX12_weight_23
set_option maxHeartbeats 4000000 in
set_option maxRecDepth 100000 in
theorem kX12_count_0 (l : Launch) (g : CX) (σ : ST) (p1 : Int32) (fI_25 : σ.1 25 = 0) (fI_31 : σ.1 31 = 0) (fI_32 : σ.1 32 = 0) (fI_40 : σ.1 40 = 0) : XM l g yX12_count wsX12_count { frames := 0, cells := 0, slots := 0, locals := 0 } [.ref (g.2.1 79), .int p1] σ (XQi g (fun r σ' => (p1 = 0 ∧ 0 = r) ∨ (¬ p1 = 0 ∧ p1 = 1 ∧ 0 = r) ∨ (¬ p1 = 0 ∧ ¬ p1 = 1 ∧ p1 = 2 ∧ 0 = r) ∨ (¬ p1 = 0 ∧ ¬ p1 = 1 ∧ ¬ p1 = 2 ∧ p1 = 3 ∧ 0 = r) ∨ (¬ p1 = 0 ∧ ¬ p1 = 1 ∧ ¬ p1 = 2 ∧ ¬ p1 = 3 ∧ p1 = 4 ∧ 0 = r) ∨ (¬ p1 = 0 ∧ ¬ p1 = 1 ∧ ¬ p1 = 2 ∧ ¬ p1 = 3 ∧ ¬ p1 = 4 ∧ p1 = 5 ∧ 0 = r) ∨ (¬ p1 = 0 ∧ ¬ p1 = 1 ∧ ¬ p1 = 2 ∧ ¬ p1 = 3 ∧ ¬ p1 = 4 ∧ ¬ p1 = 5 ∧ (-1) = r))) := by
  refine x_met (own := RX12) (cc := cX12_count) (maxL := 4) (ret := (some .int)) (lv := [(0, .ref (g.2.1 79)), (1, .int p1)]) (by decide) rfl rfl (Nat.le_of_ble_eq_true rfl) rfl ?_
  intro p e s m args below meth c ls E h hl
  have hx := E.1
  have hb := E.2.1
  have hown := E.2.2.2.1
  have hts := E.2.2.2.2.1
  have hwX12 : ∀ w ∈ wsX120, w ∈ wsX12_count := by decide +kernel
  refine lv_iconst (v := 0) hx hb dX12_count_0 (by decide) ?_
  refine lv_istore_n (lv' := [(2, .int 0), (0, .ref (g.2.1 79)), (1, .int p1)]) hx hb dX12_count_1 rfl hl (by decide) rfl (fun ls hl => ?_)
  refine lv_iload_n hx hb dX12_count_2 rfl (lv_at hl 2 rfl) ?_
  by_cases c_3_0 : p1 = 0
  · refine x_topI (v2 := 0) c_3_0 ?_
    refine lv_tableIn (tgt := 40) (off := 37) hx hb dX12_count_3 (by decide) (by decide) (by decide) (by decide) ?_
    refine lv_aload_n hx hb dX12_count_40 rfl (lv_at hl 1 rfl) ?_
    refine x_getI E h (fi_mo_rows g) rfl hwX12 (by decide) (by decide +kernel) (v := 0) fI_31 dX12_count_41 ?_
    exact x_iret E h (Or.inl ⟨c_3_0, rfl⟩) dX12_count_44
  by_cases c_3_1 : p1 = 1
  · refine x_topI (v2 := 1) c_3_1 ?_
    refine lv_tableIn (tgt := 45) (off := 42) hx hb dX12_count_3 (by decide) (by decide) (by decide) (by decide) ?_
    refine lv_iconst (v := 0) hx hb dX12_count_45 (by decide) ?_
    refine lv_istore_n (lv' := [(3, .int 0), (2, .int 0), (0, .ref (g.2.1 79)), (1, .int p1)]) hx hb dX12_count_46 rfl hl (by decide) rfl (fun ls hl => ?_)
    refine lv_iload_n hx hb dX12_count_47 rfl (lv_at hl 0 rfl) ?_
    refine lv_aload_n hx hb dX12_count_48 rfl (lv_at hl 2 rfl) ?_
    refine x_getI E h (fi_mo_rows g) rfl hwX12 (by decide) (by decide +kernel) (v := 0) fI_31 dX12_count_49 ?_
    refine lv_icmp_ge (tgt := 78) hx hb dX12_count_52 (by decide) (fun _ => ?_) (fun c => absurd (by decide) c)
    refine lv_iload_n hx hb dX12_count_78 rfl (lv_at hl 1 rfl) ?_
    exact x_iret E h (Or.inr (Or.inl ⟨c_3_0, c_3_1, rfl⟩)) dX12_count_79
  by_cases c_3_2 : p1 = 2
  · refine x_topI (v2 := 2) c_3_2 ?_
    refine lv_tableIn (tgt := 80) (off := 77) hx hb dX12_count_3 (by decide) (by decide) (by decide) (by decide) ?_
    refine lv_iconst (v := 0) hx hb dX12_count_80 (by decide) ?_
    refine lv_istore_n (lv' := [(3, .int 0), (2, .int 0), (0, .ref (g.2.1 79)), (1, .int p1)]) hx hb dX12_count_81 rfl hl (by decide) rfl (fun ls hl => ?_)
    refine lv_iload_n hx hb dX12_count_82 rfl (lv_at hl 0 rfl) ?_
    refine lv_aload_n hx hb dX12_count_83 rfl (lv_at hl 2 rfl) ?_
    refine x_getI E h (fi_mo_rows g) rfl hwX12 (by decide) (by decide +kernel) (v := 0) fI_31 dX12_count_84 ?_
    refine lv_icmp_ge (tgt := 113) hx hb dX12_count_87 (by decide) (fun _ => ?_) (fun c => absurd (by decide) c)
    refine lv_iload_n hx hb dX12_count_113 rfl (lv_at hl 1 rfl) ?_
    exact x_iret E h (Or.inr (Or.inr (Or.inl ⟨c_3_0, c_3_1, c_3_2, rfl⟩))) dX12_count_114
  by_cases c_3_3 : p1 = 3
  · refine x_topI (v2 := 3) c_3_3 ?_
    refine lv_tableIn (tgt := 115) (off := 112) hx hb dX12_count_3 (by decide) (by decide) (by decide) (by decide) ?_
    refine lv_aload_n hx hb dX12_count_115 rfl (lv_at hl 1 rfl) ?_
    refine x_getI E h (fi_mo_kept g) rfl hwX12 (by decide) (by decide +kernel) (v := 0) fI_40 dX12_count_116 ?_
    exact x_iret E h (Or.inr (Or.inr (Or.inr (Or.inl ⟨c_3_0, c_3_1, c_3_2, c_3_3, rfl⟩)))) dX12_count_119
  by_cases c_3_4 : p1 = 4
  · refine x_topI (v2 := 4) c_3_4 ?_
    refine lv_tableIn (tgt := 120) (off := 117) hx hb dX12_count_3 (by decide) (by decide) (by decide) (by decide) ?_
    refine lv_aload_n hx hb dX12_count_120 rfl (lv_at hl 1 rfl) ?_
    refine x_getI E h (fi_mo_words g) rfl hwX12 (by decide) (by decide +kernel) (v := 0) fI_32 dX12_count_121 ?_
    exact x_iret E h (Or.inr (Or.inr (Or.inr (Or.inr (Or.inl ⟨c_3_0, c_3_1, c_3_2, c_3_3, c_3_4, rfl⟩))))) dX12_count_124
  by_cases c_3_5 : p1 = 5
  · refine x_topI (v2 := 5) c_3_5 ?_
    refine lv_tableIn (tgt := 125) (off := 122) hx hb dX12_count_3 (by decide) (by decide) (by decide) (by decide) ?_
    refine lv_aload_n hx hb dX12_count_125 rfl (lv_at hl 1 rfl) ?_
    refine x_getI E h (fi_mo_typed g) rfl hwX12 (by decide) (by decide +kernel) (v := 0) fI_25 dX12_count_126 ?_
    exact x_iret E h (Or.inr (Or.inr (Or.inr (Or.inr (Or.inr (Or.inl ⟨c_3_0, c_3_1, c_3_2, c_3_3, c_3_4, c_3_5, rfl⟩)))))) dX12_count_129
  refine lv_tableOut (tgt := 130) hx hb dX12_count_3 (x_out5 c_3_0 c_3_1 c_3_2 c_3_3 c_3_4 c_3_5) (by decide) ?_
  refine lv_iconst (v := (-1)) hx hb dX12_count_130 (by decide) ?_
  exact x_iret E h (Or.inr (Or.inr (Or.inr (Or.inr (Or.inr (Or.inr (⟨c_3_0, c_3_1, c_3_2, c_3_3, c_3_4, c_3_5, rfl⟩))))))) dX12_count_131
set_option maxHeartbeats 4000000 in
set_option maxRecDepth 100000 in
theorem kX12_trace_0 (l : Launch) (g : CX) (σ : ST) (fL_3 : σ.2.1 3 = 0) : XM l g yX12_trace wsX12_trace { frames := 0, cells := 0, slots := 0, locals := 0 } [.ref (g.2.1 79)] σ (XQl g (fun r σ' => (0 = r))) := by
  refine x_met (own := RX12) (cc := cX12_trace) (maxL := 1) (ret := (some .long)) (lv := [(0, .ref (g.2.1 79))]) (by decide) rfl rfl (Nat.le_of_ble_eq_true rfl) rfl ?_
  intro p e s m args below meth c ls E h hl
  have hx := E.1
  have hb := E.2.1
  have hown := E.2.2.2.1
  have hts := E.2.2.2.2.1
  have hwX12 : ∀ w ∈ wsX120, w ∈ wsX12_trace := by decide +kernel
  refine lv_aload_n hx hb dX12_trace_0 rfl (lv_at hl 0 rfl) ?_
  refine x_getL E h (fl_mo_trace g) rfl hwX12 (by decide) (by decide +kernel) (v := 0) fL_3 dX12_trace_1 ?_
  exact x_lret E h rfl dX12_trace_4
