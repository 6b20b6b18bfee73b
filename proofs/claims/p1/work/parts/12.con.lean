set_option maxHeartbeats 4000000 in
set_option maxRecDepth 100000 in
theorem kX2_cut_0 (l : Launch) (g : CX) (σ : ST) (fI_2 : σ.1 2 = 0) : XM l g yX2_cut wsX2_cut { frames := 1, cells := 0, slots := 0, locals := 23 } [.ref (g.2.1 16), .ref (g.2.1 5), .ref (g.2.1 10), .int 20, .int 10] σ (XQv g (fun σ' => ((sA (sI (sI (sI (sI σ 5 0) 6 0) 7 0) 8 0) 17 (fun j => if j < 48 then (-9) else (sI (sI (sI (sI σ 5 0) 6 0) 7 0) 8 0).2.2 17 j)) = σ'))) := by
  refine x_met (own := RX2) (cc := cX2_cut) (maxL := 7) (ret := none) (lv := [(0, .ref (g.2.1 16)), (1, .ref (g.2.1 5)), (2, .ref (g.2.1 10)), (3, .int 20), (4, .int 10)]) (by decide) rfl rfl (Nat.le_of_ble_eq_true rfl) rfl ?_
  intro p e s m args below meth c ls E h hl
  have hx := E.1
  have hb := E.2.1
  have hown := E.2.2.2.1
  have hts := E.2.2.2.2.1
  have hwX2 : ∀ w ∈ wsX20, w ∈ wsX2_cut := by decide +kernel
  have hwX7 : ∀ w ∈ wsX70, w ∈ wsX2_cut := by decide +kernel
  refine lv_aload_n hx hb dX2_cut_0 rfl (lv_at hl 0 rfl) ?_
  refine lv_iconst (v := 0) hx hb dX2_cut_1 (by decide) ?_
  refine x_putI E h (ty := .int) (v := 0) (fi_cu_pieces g) rfl hwX2 tyX2_ok nmX2 (by decide) (by decide +kernel) (by decide +kernel) (by decide +kernel) rfl rfl dX2_cut_2 (fun H locs h => ?_)
  refine lv_aload_n hx hb dX2_cut_5 rfl (lv_at hl 0 rfl) ?_
  refine lv_iconst (v := 0) hx hb dX2_cut_6 (by decide) ?_
  refine x_putI E h (ty := .int) (v := 0) (fi_cu_stretches g) rfl hwX2 tyX2_ok nmX2 (by decide) (by decide +kernel) (by decide +kernel) (by decide +kernel) rfl rfl dX2_cut_7 (fun H locs h => ?_)
  refine lv_aload_n hx hb dX2_cut_10 rfl (lv_at hl 0 rfl) ?_
  refine lv_iconst (v := 0) hx hb dX2_cut_11 (by decide) ?_
  refine x_putI E h (ty := .int) (v := 0) (fi_cu_total g) rfl hwX2 tyX2_ok nmX2 (by decide) (by decide +kernel) (by decide +kernel) (by decide +kernel) rfl rfl dX2_cut_12 (fun H locs h => ?_)
  refine lv_aload_n hx hb dX2_cut_15 rfl (lv_at hl 0 rfl) ?_
  refine lv_iconst (v := 0) hx hb dX2_cut_16 (by decide) ?_
  refine x_putI E h (ty := .int) (v := 0) (fi_cu_heardRows g) rfl hwX2 tyX2_ok nmX2 (by decide) (by decide +kernel) (by decide +kernel) (by decide +kernel) rfl rfl dX2_cut_17 (fun H locs h => ?_)
  refine lv_aload_n hx hb dX2_cut_20 rfl (lv_at hl 0 rfl) ?_
  refine x_getR E h (fr_cu_pieceOf g) rfl hwX2 (by decide) (by decide +kernel) dX2_cut_21 ?_
  refine lv_bipush (v := (-9)) hx hb dX2_cut_24 (by decide) ?_
  refine x_sv E h (na := 2) (As := [.ref (g.2.1 22), .int (-9)]) (k_fill l g _ 22 48 17 (ia_cu_pieceOf g) (by decide) (-9)) gX2_cut_J7_fill_53178 rfl ⟨rfl, rfl⟩ rfl (by decide +kernel) ⟨Nat.le_of_ble_eq_true rfl, Nat.le_of_ble_eq_true rfl⟩ hl.1 rfl (Nat.le_of_ble_eq_true rfl) dX2_cut_26 ⟨Nat.le_of_ble_eq_true rfl, Nat.le_of_ble_eq_true rfl⟩ (fun s1 H locs q1 h => ?_)
  rcases q1 with rfl
  refine lv_iconst (v := 0) hx hb dX2_cut_29 (by decide) ?_
  refine lv_istore (lv' := [(5, .int 0), (0, .ref (g.2.1 16)), (1, .ref (g.2.1 5)), (2, .ref (g.2.1 10)), (3, .int 20), (4, .int 10)]) hx hb dX2_cut_30 hl (by decide) rfl (fun ls hl => ?_)
  refine lv_iload hx hb dX2_cut_32 (lv_at hl 0 rfl) ?_
  refine lv_aload_n hx hb dX2_cut_34 rfl (lv_at hl 2 rfl) ?_
  refine x_getIN E h (fi_bk_rows g) rfl hwX7 (by decide) (by decide +kernel) (v := 0) fI_2 dX2_cut_35 ?_
  refine lv_icmp_ge (tgt := 148) hx hb dX2_cut_38 (by decide) (fun _ => ?_) (fun c => absurd (by decide) c)
  exact x_vret E h rfl dX2_cut_148
set_option maxHeartbeats 4000000 in
set_option maxRecDepth 100000 in
theorem kX11_cutNow_0 (l : Launch) (g : CX) (σ : ST) (fA_1_0 : σ.2.2 1 0 = 20) (fA_1_1 : σ.2.2 1 1 = 10) (fI_2 : σ.1 2 = 0) (fI_22 : σ.1 22 = 1) : XM l g yX11_cutNow wsX11_cutNow { frames := 2, cells := 0, slots := 0, locals := 49 } [.ref (g.2.1 0)] σ (XQv g (fun σ' => ((sI (sA (sI (sI (sI (sI σ 5 0) 6 0) 7 0) 8 0) 17 (fun j => if j < 48 then (-9) else (sI (sI (sI (sI σ 5 0) 6 0) 7 0) 8 0).2.2 17 j)) 22 0) = σ'))) := by
  refine x_met (own := RX11) (cc := cX11_cutNow) (maxL := 1) (ret := none) (lv := [(0, .ref (g.2.1 0))]) (by decide) rfl rfl (Nat.le_of_ble_eq_true rfl) rfl ?_
  intro p e s m args below meth c ls E h hl
  have hx := E.1
  have hb := E.2.1
  have hown := E.2.2.2.1
  have hts := E.2.2.2.2.1
  have hwX11 : ∀ w ∈ wsX110, w ∈ wsX11_cutNow := by decide +kernel
  refine lv_aload_n hx hb dX11_cutNow_0 rfl (lv_at hl 0 rfl) ?_
  refine x_getI E h (fi_vh_cutIsOld g) rfl hwX11 (by decide) (by decide +kernel) (v := 1) fI_22 dX11_cutNow_1 ?_
  refine lv_if_eq (tgt := 43) hx hb dX11_cutNow_4 (by decide) (fun c => absurd c (by decide)) (fun _ => ?_)
  refine lv_aload_n hx hb dX11_cutNow_7 rfl (lv_at hl 0 rfl) ?_
  refine x_getR E h (fr_vh_cutting g) rfl hwX11 (by decide) (by decide +kernel) dX11_cutNow_8 ?_
  refine lv_aload_n hx hb dX11_cutNow_11 rfl (lv_at hl 0 rfl) ?_
  refine x_getR E h (fr_vh_book g) rfl hwX11 (by decide) (by decide +kernel) dX11_cutNow_12 ?_
  refine lv_aload_n hx hb dX11_cutNow_15 rfl (lv_at hl 0 rfl) ?_
  refine x_getR E h (fr_vh_gathering g) rfl hwX11 (by decide) (by decide +kernel) dX11_cutNow_16 ?_
  refine lv_aload_n hx hb dX11_cutNow_19 rfl (lv_at hl 0 rfl) ?_
  refine x_getR E h (fr_vh_ruleText g) rfl hwX11 (by decide) (by decide +kernel) dX11_cutNow_20 ?_
  refine lv_iconst (v := 0) hx hb dX11_cutNow_23 (by decide) ?_
  refine x_vi E h (na := 1) (As := [.int 0]) (kX8_ruleNow_0 l g _  fA_1_0) (oc_rt g) rfl gX11_cutNow_X8_ruleNow rfl ⟨rfl, rfl⟩ rfl (by decide +kernel) ⟨Nat.le_of_ble_eq_true rfl, Nat.le_of_ble_eq_true rfl⟩ hl.1 rfl (Nat.le_of_ble_eq_true rfl) dX11_cutNow_24 ⟨Nat.le_of_ble_eq_true rfl, Nat.le_of_ble_eq_true rfl⟩ (fun r1 s1 H locs q1 h => ?_)
  rcases q1 with ⟨rfl, rfl⟩
  refine lv_aload_n hx hb dX11_cutNow_27 rfl (lv_at hl 0 rfl) ?_
  refine x_getR E h (fr_vh_ruleText g) rfl hwX11 (by decide) (by decide +kernel) dX11_cutNow_28 ?_
  refine lv_iconst (v := 1) hx hb dX11_cutNow_31 (by decide) ?_
  refine x_vi E h (na := 1) (As := [.int 1]) (kX8_ruleNow_1 l g _  fA_1_1) (oc_rt g) rfl gX11_cutNow_X8_ruleNow rfl ⟨rfl, rfl⟩ rfl (by decide +kernel) ⟨Nat.le_of_ble_eq_true rfl, Nat.le_of_ble_eq_true rfl⟩ hl.1 rfl (Nat.le_of_ble_eq_true rfl) dX11_cutNow_32 ⟨Nat.le_of_ble_eq_true rfl, Nat.le_of_ble_eq_true rfl⟩ (fun r2 s2 H locs q2 h => ?_)
  rcases q2 with ⟨rfl, rfl⟩
  refine x_vv E h (na := 4) (As := [.ref (g.2.1 5), .ref (g.2.1 10), .int 20, .int 10]) (kX2_cut_0 l g _  fI_2) (oc_cu g) rfl gX11_cutNow_X2_cut rfl ⟨rfl, rfl⟩ rfl (by decide +kernel) ⟨Nat.le_of_ble_eq_true rfl, Nat.le_of_ble_eq_true rfl⟩ hl.1 rfl (Nat.le_of_ble_eq_true rfl) dX11_cutNow_35 ⟨Nat.le_of_ble_eq_true rfl, Nat.le_of_ble_eq_true rfl⟩ (fun s3 H locs q3 h => ?_)
  rcases q3 with rfl
  refine lv_aload_n hx hb dX11_cutNow_38 rfl (lv_at hl 0 rfl) ?_
  refine lv_iconst (v := 0) hx hb dX11_cutNow_39 (by decide) ?_
  refine x_putI E h (ty := .boolean) (v := 0) (fi_vh_cutIsOld g) rfl hwX11 tyX11_ok nmX11 (by decide) (by decide +kernel) (by decide +kernel) (by decide +kernel) rfl rfl dX11_cutNow_40 (fun H locs h => ?_)
  exact x_vret E h rfl dX11_cutNow_43
set_option maxHeartbeats 4000000 in
set_option maxRecDepth 100000 in
theorem kX11_pieces_0 (l : Launch) (g : CX) (σ : ST) (p1 : Int32) (fA_1_0 : σ.2.2 1 0 = 20) (fA_1_1 : σ.2.2 1 1 = 10) (fI_2 : σ.1 2 = 0) (fI_22 : σ.1 22 = 1) : XM l g yX11_pieces wsX11_pieces { frames := 3, cells := 0, slots := 0, locals := 69 } [.ref (g.2.1 0), .int p1] σ (XQi g (fun r σ' => (p1 = 0 ∧ 0 = r ∧ MO σ' σ) ∨ (¬ p1 = 0 ∧ p1 = 1 ∧ 0 = r ∧ MO σ' σ) ∨ (¬ p1 = 0 ∧ ¬ p1 = 1 ∧ p1 = 2 ∧ 0 = r ∧ MO σ' σ) ∨ (¬ p1 = 0 ∧ ¬ p1 = 1 ∧ ¬ p1 = 2 ∧ p1 = 3 ∧ 0 = r ∧ MO σ' σ) ∨ (¬ p1 = 0 ∧ ¬ p1 = 1 ∧ ¬ p1 = 2 ∧ ¬ p1 = 3 ∧ (-1) = r ∧ MO σ' σ))) := by
  refine x_met (own := RX11) (cc := cX11_pieces) (maxL := 2) (ret := (some .int)) (lv := [(0, .ref (g.2.1 0)), (1, .int p1)]) (by decide) rfl rfl (Nat.le_of_ble_eq_true rfl) rfl ?_
  intro p e s m args below meth c ls E h hl
  have hx := E.1
  have hb := E.2.1
  have hown := E.2.2.2.1
  have hts := E.2.2.2.2.1
  have hwX11 : ∀ w ∈ wsX110, w ∈ wsX11_pieces := by decide +kernel
  have hwX2 : ∀ w ∈ wsX20, w ∈ wsX11_pieces := by decide +kernel
  refine lv_aload_n hx hb dX11_pieces_0 rfl (lv_at hl 0 rfl) ?_
  refine x_vv E h (na := 0) (As := []) (kX11_cutNow_0 l g _  fA_1_0 fA_1_1 fI_2 fI_22) (oc_vh g) rfl gX11_pieces_X11_cutNow rfl ⟨rfl, rfl⟩ rfl (by decide +kernel) ⟨Nat.le_of_ble_eq_true rfl, Nat.le_of_ble_eq_true rfl⟩ hl.1 rfl (Nat.le_of_ble_eq_true rfl) dX11_pieces_1 ⟨Nat.le_of_ble_eq_true rfl, Nat.le_of_ble_eq_true rfl⟩ (fun s1 H locs q1 h => ?_)
  rcases q1 with rfl
  refine lv_iload_n hx hb dX11_pieces_4 rfl (lv_at hl 1 rfl) ?_
  by_cases c_5_0 : p1 = 0
  · refine x_topI (v2 := 0) c_5_0 ?_
    refine lv_tableIn (tgt := 36) (off := 31) hx hb dX11_pieces_5 (by decide) (by decide) (by decide) (by decide) ?_
    refine lv_aload_n hx hb dX11_pieces_36 rfl (lv_at hl 0 rfl) ?_
    refine x_getR E h (fr_vh_cutting g) rfl hwX11 (by decide) (by decide +kernel) dX11_pieces_37 ?_
    refine x_getIN E h (fi_cu_pieces g) rfl hwX2 (by decide) (by decide +kernel) (v := 0) rfl dX11_pieces_40 ?_
    exact x_iret E h (Or.inl ⟨c_5_0, rfl, (MO.refl σ)⟩) dX11_pieces_43
  by_cases c_5_1 : p1 = 1
  · refine x_topI (v2 := 1) c_5_1 ?_
    refine lv_tableIn (tgt := 44) (off := 39) hx hb dX11_pieces_5 (by decide) (by decide) (by decide) (by decide) ?_
    refine lv_aload_n hx hb dX11_pieces_44 rfl (lv_at hl 0 rfl) ?_
    refine x_getR E h (fr_vh_cutting g) rfl hwX11 (by decide) (by decide +kernel) dX11_pieces_45 ?_
    refine x_getIN E h (fi_cu_stretches g) rfl hwX2 (by decide) (by decide +kernel) (v := 0) rfl dX11_pieces_48 ?_
    exact x_iret E h (Or.inr (Or.inl ⟨c_5_0, c_5_1, rfl, (MO.refl σ)⟩)) dX11_pieces_51
  by_cases c_5_2 : p1 = 2
  · refine x_topI (v2 := 2) c_5_2 ?_
    refine lv_tableIn (tgt := 52) (off := 47) hx hb dX11_pieces_5 (by decide) (by decide) (by decide) (by decide) ?_
    refine lv_aload_n hx hb dX11_pieces_52 rfl (lv_at hl 0 rfl) ?_
    refine x_getR E h (fr_vh_cutting g) rfl hwX11 (by decide) (by decide +kernel) dX11_pieces_53 ?_
    refine x_getIN E h (fi_cu_total g) rfl hwX2 (by decide) (by decide +kernel) (v := 0) rfl dX11_pieces_56 ?_
    exact x_iret E h (Or.inr (Or.inr (Or.inl ⟨c_5_0, c_5_1, c_5_2, rfl, (MO.refl σ)⟩))) dX11_pieces_59
  by_cases c_5_3 : p1 = 3
  · refine x_topI (v2 := 3) c_5_3 ?_
    refine lv_tableIn (tgt := 60) (off := 55) hx hb dX11_pieces_5 (by decide) (by decide) (by decide) (by decide) ?_
    refine lv_aload_n hx hb dX11_pieces_60 rfl (lv_at hl 0 rfl) ?_
    refine x_getR E h (fr_vh_cutting g) rfl hwX11 (by decide) (by decide +kernel) dX11_pieces_61 ?_
    refine x_getIN E h (fi_cu_heardRows g) rfl hwX2 (by decide) (by decide +kernel) (v := 0) rfl dX11_pieces_64 ?_
    exact x_iret E h (Or.inr (Or.inr (Or.inr (Or.inl ⟨c_5_0, c_5_1, c_5_2, c_5_3, rfl, (MO.refl σ)⟩)))) dX11_pieces_67
  refine lv_tableOut (tgt := 68) hx hb dX11_pieces_5 (x_out3 c_5_0 c_5_1 c_5_2 c_5_3) (by decide) ?_
  refine lv_iconst (v := (-1)) hx hb dX11_pieces_68 (by decide) ?_
  exact x_iret E h (Or.inr (Or.inr (Or.inr (Or.inr (⟨c_5_0, c_5_1, c_5_2, c_5_3, rfl, (MO.refl σ)⟩))))) dX11_pieces_69
set_option maxHeartbeats 4000000 in
set_option maxRecDepth 100000 in
theorem kX11_isPiece_0 (l : Launch) (g : CX) (σ : ST) (p1 : Int32) (fA_1_0 : σ.2.2 1 0 = 20) (fA_1_1 : σ.2.2 1 1 = 10) (fI_2 : σ.1 2 = 0) (fI_22 : σ.1 22 = 1) : XM l g yX11_isPiece wsX11_isPiece { frames := 3, cells := 0, slots := 0, locals := 69 } [.ref (g.2.1 0), .int p1] σ (XQi g (fun r σ' => (bB p1 0 (-1) = 0 ∧ 0 = r ∧ (sI (sA (sI (sI (sI (sI σ 5 0) 6 0) 7 0) 8 0) 17 (fun j => if j < 48 then (-9) else (sI (sI (sI (sI σ 5 0) 6 0) 7 0) 8 0).2.2 17 j)) 22 0) = σ'))) := by
  refine x_met (own := RX11) (cc := cX11_isPiece) (maxL := 2) (ret := (some .boolean)) (lv := [(0, .ref (g.2.1 0)), (1, .int p1)]) (by decide) rfl rfl (Nat.le_of_ble_eq_true rfl) rfl ?_
  intro p e s m args below meth c ls E h hl
  have hx := E.1
  have hb := E.2.1
  have hown := E.2.2.2.1
  have hts := E.2.2.2.2.1
  have hwX11 : ∀ w ∈ wsX110, w ∈ wsX11_isPiece := by decide +kernel
  have hwX2 : ∀ w ∈ wsX20, w ∈ wsX11_isPiece := by decide +kernel
  refine lv_aload_n hx hb dX11_isPiece_0 rfl (lv_at hl 0 rfl) ?_
  refine x_vv E h (na := 0) (As := []) (kX11_cutNow_0 l g _  fA_1_0 fA_1_1 fI_2 fI_22) (oc_vh g) rfl gX11_isPiece_X11_cutNow rfl ⟨rfl, rfl⟩ rfl (by decide +kernel) ⟨Nat.le_of_ble_eq_true rfl, Nat.le_of_ble_eq_true rfl⟩ hl.1 rfl (Nat.le_of_ble_eq_true rfl) dX11_isPiece_1 ⟨Nat.le_of_ble_eq_true rfl, Nat.le_of_ble_eq_true rfl⟩ (fun s1 H locs q1 h => ?_)
  rcases q1 with rfl
  refine lv_iload_n hx hb dX11_isPiece_4 rfl (lv_at hl 1 rfl) ?_
  refine lv_iconst (v := 0) hx hb dX11_isPiece_5 (by decide) ?_
  refine lv_aload_n hx hb dX11_isPiece_6 rfl (lv_at hl 0 rfl) ?_
  refine x_getR E h (fr_vh_cutting g) rfl hwX11 (by decide) (by decide +kernel) dX11_isPiece_7 ?_
  refine x_getIN E h (fi_cu_pieces g) rfl hwX2 (by decide) (by decide +kernel) (v := 0) rfl dX11_isPiece_10 ?_
  refine lv_iconst (v := 1) hx hb dX11_isPiece_13 (by decide) ?_
  refine lv_isub hx hb dX11_isPiece_14 ?_
  refine x_topI (v2 := (-1)) (by decide) ?_
  refine x_si E h (na := 3) (As := [.int p1, .int 0, .int (-1)]) (kX11_within_0 l g _ p1 0 (-1)) gX11_isPiece_X11_within rfl ⟨rfl, rfl⟩ rfl (by decide +kernel) ⟨Nat.le_of_ble_eq_true rfl, Nat.le_of_ble_eq_true rfl⟩ hl.1 rfl (Nat.le_of_ble_eq_true rfl) dX11_isPiece_15 ⟨Nat.le_of_ble_eq_true rfl, Nat.le_of_ble_eq_true rfl⟩ (fun r2 s2 H locs q2 h => ?_)
  rcases q2 with ⟨k2_0, rfl, rfl⟩ | ⟨k2_0, rfl, rfl⟩
  · exact absurd trivial (fun _ => (bB_n1 k2_0))
  exact x_zret E h rfl ⟨k2_0, rfl, rfl⟩ dX11_isPiece_18
set_option maxHeartbeats 4000000 in
set_option maxRecDepth 100000 in
theorem kX11_piece_0 (l : Launch) (g : CX) (σ : ST) (p1 : Int32) (p2 : Int32) (fA_1_0 : σ.2.2 1 0 = 20) (fA_1_1 : σ.2.2 1 1 = 10) (fI_2 : σ.1 2 = 0) (fI_22 : σ.1 22 = 1) : XM l g yX11_piece wsX11_piece { frames := 4, cells := 0, slots := 0, locals := 90 } [.ref (g.2.1 0), .int p1, .int p2] σ (XQi g (fun r σ' => (bB p1 0 (-1) = 0 ∧ (-1) = r ∧ MO σ' σ))) := by
  refine x_met (own := RX11) (cc := cX11_piece) (maxL := 3) (ret := (some .int)) (lv := [(0, .ref (g.2.1 0)), (1, .int p1), (2, .int p2)]) (by decide) rfl rfl (Nat.le_of_ble_eq_true rfl) rfl ?_
  intro p e s m args below meth c ls E h hl
  have hx := E.1
  have hb := E.2.1
  have hown := E.2.2.2.1
  have hts := E.2.2.2.2.1
  refine lv_aload_n hx hb dX11_piece_0 rfl (lv_at hl 0 rfl) ?_
  refine lv_iload_n hx hb dX11_piece_1 rfl (lv_at hl 1 rfl) ?_
  refine x_vi E h (na := 1) (As := [.int p1]) (kX11_isPiece_0 l g _ p1 fA_1_0 fA_1_1 fI_2 fI_22) (oc_vh g) rfl gX11_piece_X11_isPiece rfl ⟨rfl, rfl⟩ rfl (by decide +kernel) ⟨Nat.le_of_ble_eq_true rfl, Nat.le_of_ble_eq_true rfl⟩ hl.1 rfl (Nat.le_of_ble_eq_true rfl) dX11_piece_2 ⟨Nat.le_of_ble_eq_true rfl, Nat.le_of_ble_eq_true rfl⟩ (fun r1 s1 H locs q1 h => ?_)
  rcases q1 with ⟨k1_0, rfl, rfl⟩
  refine lv_if_ne (tgt := 10) hx hb dX11_piece_5 (by decide) (fun c => absurd (by decide) c) (fun _ => ?_)
  refine lv_iconst (v := (-1)) hx hb dX11_piece_8 (by decide) ?_
  exact x_iret E h ⟨k1_0, rfl, (MO.refl σ)⟩ dX11_piece_9
set_option maxHeartbeats 4000000 in
set_option maxRecDepth 100000 in
theorem kX11_of_0 (l : Launch) (g : CX) (σ : ST) (p1 : Int32) (fI_2 : σ.1 2 = 0) : XM l g yX11_of wsX11_of { frames := 1, cells := 0, slots := 0, locals := 22 } [.ref (g.2.1 0), .int p1] σ (XQi g (fun r σ' => (bB p1 0 (-1) = 0 ∧ (-1) = r ∧ MO σ' σ))) := by
  refine x_met (own := RX11) (cc := cX11_of) (maxL := 2) (ret := (some .int)) (lv := [(0, .ref (g.2.1 0)), (1, .int p1)]) (by decide) rfl rfl (Nat.le_of_ble_eq_true rfl) rfl ?_
  intro p e s m args below meth c ls E h hl
  have hx := E.1
  have hb := E.2.1
  have hown := E.2.2.2.1
  have hts := E.2.2.2.2.1
  have hwX11 : ∀ w ∈ wsX110, w ∈ wsX11_of := by decide +kernel
  have hwX7 : ∀ w ∈ wsX70, w ∈ wsX11_of := by decide +kernel
  refine lv_iload_n hx hb dX11_of_0 rfl (lv_at hl 1 rfl) ?_
  refine lv_iconst (v := 0) hx hb dX11_of_1 (by decide) ?_
  refine lv_aload_n hx hb dX11_of_2 rfl (lv_at hl 0 rfl) ?_
  refine x_getR E h (fr_vh_book g) rfl hwX11 (by decide) (by decide +kernel) dX11_of_3 ?_
  refine x_getIN E h (fi_bk_rows g) rfl hwX7 (by decide) (by decide +kernel) (v := 0) fI_2 dX11_of_6 ?_
  refine lv_iconst (v := 1) hx hb dX11_of_9 (by decide) ?_
  refine lv_isub hx hb dX11_of_10 ?_
  refine x_topI (v2 := (-1)) (by decide) ?_
  refine x_si E h (na := 3) (As := [.int p1, .int 0, .int (-1)]) (kX11_within_0 l g _ p1 0 (-1)) gX11_of_X11_within rfl ⟨rfl, rfl⟩ rfl (by decide +kernel) ⟨Nat.le_of_ble_eq_true rfl, Nat.le_of_ble_eq_true rfl⟩ hl.1 rfl (Nat.le_of_ble_eq_true rfl) dX11_of_11 ⟨Nat.le_of_ble_eq_true rfl, Nat.le_of_ble_eq_true rfl⟩ (fun r1 s1 H locs q1 h => ?_)
  rcases q1 with ⟨k1_0, rfl, rfl⟩ | ⟨k1_0, rfl, rfl⟩
  · exact absurd trivial (fun _ => (bB_n1 k1_0))
  refine lv_if_ne (tgt := 19) hx hb dX11_of_14 (by decide) (fun c => absurd (by decide) c) (fun _ => ?_)
  refine lv_iconst (v := (-1)) hx hb dX11_of_17 (by decide) ?_
  exact x_iret E h ⟨k1_0, rfl, (MO.refl σ)⟩ dX11_of_18
set_option maxHeartbeats 4000000 in
set_option maxRecDepth 100000 in
theorem kX11_like_0 (l : Launch) (g : CX) (σ : ST) (p1 : Int32) (p2 : Int32) (fA_1_0 : σ.2.2 1 0 = 20) (fA_1_1 : σ.2.2 1 1 = 10) (fI_2 : σ.1 2 = 0) (fI_22 : σ.1 22 = 1) : XM l g yX11_like wsX11_like { frames := 4, cells := 0, slots := 0, locals := 90 } [.ref (g.2.1 0), .int p1, .int p2] σ (XQi g (fun r σ' => (bB p1 0 (-1) = 0 ∧ (-1000000) = r ∧ MO σ' σ))) := by
  refine x_met (own := RX11) (cc := cX11_like) (maxL := 3) (ret := (some .int)) (lv := [(0, .ref (g.2.1 0)), (1, .int p1), (2, .int p2)]) (by decide) rfl rfl (Nat.le_of_ble_eq_true rfl) rfl ?_
  intro p e s m args below meth c ls E h hl
  have hx := E.1
  have hb := E.2.1
  have hown := E.2.2.2.1
  have hts := E.2.2.2.2.1
  refine lv_aload_n hx hb dX11_like_0 rfl (lv_at hl 0 rfl) ?_
  refine lv_iload_n hx hb dX11_like_1 rfl (lv_at hl 1 rfl) ?_
  refine x_vi E h (na := 1) (As := [.int p1]) (kX11_isPiece_0 l g _ p1 fA_1_0 fA_1_1 fI_2 fI_22) (oc_vh g) rfl gX11_like_X11_isPiece rfl ⟨rfl, rfl⟩ rfl (by decide +kernel) ⟨Nat.le_of_ble_eq_true rfl, Nat.le_of_ble_eq_true rfl⟩ hl.1 rfl (Nat.le_of_ble_eq_true rfl) dX11_like_2 ⟨Nat.le_of_ble_eq_true rfl, Nat.le_of_ble_eq_true rfl⟩ (fun r1 s1 H locs q1 h => ?_)
  rcases q1 with ⟨k1_0, rfl, rfl⟩
  refine lv_if_eq (tgt := 21) hx hb dX11_like_5 (by decide) (fun _ => ?_) (fun c => absurd (by decide) c)
  refine lv_ldc (v := (-1000000)) hx hb hown (hts (.constant RX11 185 (-1000000)) (by decide +kernel)) dX11_like_21 ?_
  exact x_iret E h ⟨k1_0, rfl, (MO.refl σ)⟩ dX11_like_23
set_option maxHeartbeats 4000000 in
set_option maxRecDepth 100000 in
theorem kX11_heap_0 (l : Launch) (g : CX) (σ : ST) (p1 : Int32) (p2 : Int32) (fA_1_0 : σ.2.2 1 0 = 20) (fA_1_1 : σ.2.2 1 1 = 10) (fI_2 : σ.1 2 = 0) (fI_22 : σ.1 22 = 1) : XM l g yX11_heap wsX11_heap { frames := 4, cells := 0, slots := 0, locals := 90 } [.ref (g.2.1 0), .int p1, .int p2] σ (XQi g (fun r σ' => (bB p1 0 (-1) = 0 ∧ (-1) = r ∧ MO σ' σ))) := by
  refine x_met (own := RX11) (cc := cX11_heap) (maxL := 3) (ret := (some .int)) (lv := [(0, .ref (g.2.1 0)), (1, .int p1), (2, .int p2)]) (by decide) rfl rfl (Nat.le_of_ble_eq_true rfl) rfl ?_
  intro p e s m args below meth c ls E h hl
  have hx := E.1
  have hb := E.2.1
  have hown := E.2.2.2.1
  have hts := E.2.2.2.2.1
  refine lv_aload_n hx hb dX11_heap_0 rfl (lv_at hl 0 rfl) ?_
  refine lv_iload_n hx hb dX11_heap_1 rfl (lv_at hl 1 rfl) ?_
  refine x_vi E h (na := 1) (As := [.int p1]) (kX11_isPiece_0 l g _ p1 fA_1_0 fA_1_1 fI_2 fI_22) (oc_vh g) rfl gX11_heap_X11_isPiece rfl ⟨rfl, rfl⟩ rfl (by decide +kernel) ⟨Nat.le_of_ble_eq_true rfl, Nat.le_of_ble_eq_true rfl⟩ hl.1 rfl (Nat.le_of_ble_eq_true rfl) dX11_heap_2 ⟨Nat.le_of_ble_eq_true rfl, Nat.le_of_ble_eq_true rfl⟩ (fun r1 s1 H locs q1 h => ?_)
  rcases q1 with ⟨k1_0, rfl, rfl⟩
  refine lv_if_eq (tgt := 17) hx hb dX11_heap_5 (by decide) (fun _ => ?_) (fun c => absurd (by decide) c)
  refine lv_iconst (v := (-1)) hx hb dX11_heap_17 (by decide) ?_
  exact x_iret E h ⟨k1_0, rfl, (MO.refl σ)⟩ dX11_heap_18
set_option maxHeartbeats 4000000 in
set_option maxRecDepth 100000 in
theorem kX1_tie_0 (l : Launch) (g : CX) (σ : ST) (fI_5 : σ.1 5 = 0) : XM l g yX1_tie wsX1_tie { frames := 1, cells := 0, slots := 0, locals := 21 } [.ref (g.2.1 25), .ref (g.2.1 16), .int 40, .int 0] σ (XQv g (fun σ' => ((sI σ 9 0) = σ'))) := by
  refine x_met (own := RX1) (cc := cX1_tie) (maxL := 7) (ret := none) (lv := [(0, .ref (g.2.1 25)), (1, .ref (g.2.1 16)), (2, .int 40), (3, .int 0)]) (by decide) rfl rfl (Nat.le_of_ble_eq_true rfl) rfl ?_
  intro p e s m args below meth c ls E h hl
  have hx := E.1
  have hb := E.2.1
  have hown := E.2.2.2.1
  have hts := E.2.2.2.2.1
  have hwX1 : ∀ w ∈ wsX10, w ∈ wsX1_tie := by decide +kernel
  have hwX2 : ∀ w ∈ wsX20, w ∈ wsX1_tie := by decide +kernel
  refine lv_aload_n hx hb dX1_tie_0 rfl (lv_at hl 0 rfl) ?_
  refine lv_aload_n hx hb dX1_tie_1 rfl (lv_at hl 1 rfl) ?_
  refine x_getIN E h (fi_cu_pieces g) rfl hwX2 (by decide) (by decide +kernel) (v := 0) fI_5 dX1_tie_2 ?_
  refine lv_bipush (v := 9) hx hb dX1_tie_5 (by decide) ?_
  refine x_min E hl.1 (by decide +kernel) (by decide +kernel) (by decide +kernel) (by decide +kernel) ⟨Nat.le_of_ble_eq_true rfl, Nat.le_of_ble_eq_true rfl⟩ ⟨Nat.zero_le _, Nat.zero_le _⟩ dX1_tie_7 ?_
  refine x_topI (v2 := 0) (by decide) ?_
  refine x_putI E h (ty := .int) (v := 0) (fi_bo_pieces g) rfl hwX1 tyX1_ok nmX1 (by decide) (by decide +kernel) (by decide +kernel) (by decide +kernel) rfl rfl dX1_tie_10 (fun H locs h => ?_)
  refine lv_iconst (v := 0) hx hb dX1_tie_13 (by decide) ?_
  refine lv_istore (lv' := [(4, .int 0), (0, .ref (g.2.1 25)), (1, .ref (g.2.1 16)), (2, .int 40), (3, .int 0)]) hx hb dX1_tie_14 hl (by decide) rfl (fun ls hl => ?_)
  refine lv_iload hx hb dX1_tie_16 (lv_at hl 0 rfl) ?_
  refine lv_aload_n hx hb dX1_tie_18 rfl (lv_at hl 1 rfl) ?_
  refine x_getI E h (fi_bo_pieces g) rfl hwX1 (by decide) (by decide +kernel) (v := 0) rfl dX1_tie_19 ?_
  refine lv_icmp_ge (tgt := 104) hx hb dX1_tie_22 (by decide) (fun _ => ?_) (fun c => absurd (by decide) c)
  refine lv_iconst (v := 0) hx hb dX1_tie_104 (by decide) ?_
  refine lv_istore (lv' := [(4, .int 0), (0, .ref (g.2.1 25)), (1, .ref (g.2.1 16)), (2, .int 40), (3, .int 0)]) hx hb dX1_tie_105 hl (by decide) rfl (fun ls hl => ?_)
  refine lv_iload hx hb dX1_tie_107 (lv_at hl 0 rfl) ?_
  refine lv_aload_n hx hb dX1_tie_109 rfl (lv_at hl 1 rfl) ?_
  refine x_getI E h (fi_bo_pieces g) rfl hwX1 (by decide) (by decide +kernel) (v := 0) rfl dX1_tie_110 ?_
  refine lv_icmp_ge (tgt := 128) hx hb dX1_tie_113 (by decide) (fun _ => ?_) (fun c => absurd (by decide) c)
  exact x_vret E h rfl dX1_tie_128
set_option maxHeartbeats 4000000 in
set_option maxRecDepth 100000 in
theorem kX0_meet_0 (l : Launch) (g : CX) (σ : ST) (fI_11 : σ.1 11 = (-1000000000)) (fI_12 : σ.1 12 = 0) : XM l g yX0_meet wsX0_meet { frames := 0, cells := 0, slots := 0, locals := 0 } [.ref (g.2.1 47), .int 0, .int 0, .int 0, .long 0] σ (XQv g (fun σ' => ((sI (sI σ 11 0) 10 0) = σ'))) := by
  refine x_met (own := RX0) (cc := cX0_meet) (maxL := 7) (ret := none) (lv := [(0, .ref (g.2.1 47)), (1, .int 0), (2, .int 0), (3, .int 0), (4, .long 0)]) (by decide) rfl rfl (Nat.le_of_ble_eq_true rfl) rfl ?_
  intro p e s m args below meth c ls E h hl
  have hx := E.1
  have hb := E.2.1
  have hown := E.2.2.2.1
  have hts := E.2.2.2.2.1
  have hwX0 : ∀ w ∈ wsX00, w ∈ wsX0_meet := by decide +kernel
  have hwX4 : ∀ w ∈ wsX40, w ∈ wsX0_meet := by decide +kernel
  refine lv_aload_n hx hb dX0_meet_0 rfl (lv_at hl 0 rfl) ?_
  refine x_getI E h (fi_al_isForNear g) rfl hwX0 (by decide) (by decide +kernel) (v := 0) fI_12 dX0_meet_1 ?_
  refine lv_if_eq (tgt := 18) hx hb dX0_meet_4 (by decide) (fun _ => ?_) (fun c => absurd (by decide) c)
  refine lv_iload_n hx hb dX0_meet_18 rfl (lv_at hl 3 rfl) ?_
  refine lv_aload_n hx hb dX0_meet_19 rfl (lv_at hl 0 rfl) ?_
  refine x_getR E h (fr_al_best g) rfl hwX0 (by decide) (by decide +kernel) dX0_meet_20 ?_
  refine x_getIN E h (fi_be_value g) rfl hwX4 (by decide) (by decide +kernel) (v := (-1000000000)) fI_11 dX0_meet_23 ?_
  refine lv_icmp_le (tgt := 84) hx hb dX0_meet_26 (by decide) (fun c => absurd c (by decide)) (fun _ => ?_)
  refine lv_aload_n hx hb dX0_meet_29 rfl (lv_at hl 0 rfl) ?_
  refine x_getR E h (fr_al_best g) rfl hwX0 (by decide) (by decide +kernel) dX0_meet_30 ?_
  refine lv_iload_n hx hb dX0_meet_33 rfl (lv_at hl 3 rfl) ?_
  refine x_putIN E h (ty := .int) (v := 0) (fi_be_value g) rfl hwX4 tyX4_ok nmX4 (by decide) (by decide +kernel) (by decide +kernel) (by decide +kernel) rfl rfl dX0_meet_34 (fun H locs h => ?_)
  refine lv_aload_n hx hb dX0_meet_37 rfl (lv_at hl 0 rfl) ?_
  refine x_getR E h (fr_al_best g) rfl hwX0 (by decide) (by decide +kernel) dX0_meet_38 ?_
  refine lv_iload_n hx hb dX0_meet_41 rfl (lv_at hl 2 rfl) ?_
  refine x_putIN E h (ty := .int) (v := 0) (fi_be_heaps g) rfl hwX4 tyX4_ok nmX4 (by decide) (by decide +kernel) (by decide +kernel) (by decide +kernel) rfl rfl dX0_meet_42 (fun H locs h => ?_)
  refine lv_iconst (v := 0) hx hb dX0_meet_45 (by decide) ?_
  refine lv_istore (lv' := [(6, .int 0), (0, .ref (g.2.1 47)), (1, .int 0), (2, .int 0), (3, .int 0), (4, .long 0)]) hx hb dX0_meet_46 hl (by decide) rfl (fun ls hl => ?_)
  refine lv_iload hx hb dX0_meet_48 (lv_at hl 0 rfl) ?_
  refine lv_iload_n hx hb dX0_meet_50 rfl (lv_at hl 2 rfl) ?_
  refine lv_icmp_ge (tgt := 84) hx hb dX0_meet_51 (by decide) (fun _ => ?_) (fun c => absurd (by decide) c)
  exact x_vret E h rfl dX0_meet_84
set_option maxHeartbeats 4000000 in
set_option maxRecDepth 100000 in
theorem kX0_deal_0 (l : Launch) (g : CX) (σ : ST) (fI_9 : σ.1 9 = 0) (fI_11 : σ.1 11 = (-1000000000)) (fI_12 : σ.1 12 = 0) : XM l g yX0_deal wsX0_deal { frames := 1, cells := 0, slots := 0, locals := 26 } [.ref (g.2.1 47), .ref (g.2.1 25), .int 0, .int 0, .int 0, .long 0] σ (XQv g (fun σ' => ((sI (sI σ 11 0) 10 0) = σ'))) := by
  refine x_met (own := RX0) (cc := cX0_deal) (maxL := 9) (ret := none) (lv := [(0, .ref (g.2.1 47)), (1, .ref (g.2.1 25)), (2, .int 0), (3, .int 0), (4, .int 0), (5, .long 0)]) (by decide) rfl rfl (Nat.le_of_ble_eq_true rfl) rfl ?_
  intro p e s m args below meth c ls E h hl
  have hx := E.1
  have hb := E.2.1
  have hown := E.2.2.2.1
  have hts := E.2.2.2.2.1
  have hwX1 : ∀ w ∈ wsX10, w ∈ wsX0_deal := by decide +kernel
  refine lv_iload_n hx hb dX0_deal_0 rfl (lv_at hl 2 rfl) ?_
  refine lv_aload_n hx hb dX0_deal_1 rfl (lv_at hl 1 rfl) ?_
  refine x_getIN E h (fi_bo_pieces g) rfl hwX1 (by decide) (by decide +kernel) (v := 0) fI_9 dX0_deal_2 ?_
  refine lv_icmp_ge (tgt := 14) hx hb dX0_deal_5 (by decide) (fun _ => ?_) (fun c => absurd (by decide) c)
  refine lv_aload_n hx hb dX0_deal_14 rfl (lv_at hl 0 rfl) ?_
  refine lv_aload_n hx hb dX0_deal_15 rfl (lv_at hl 1 rfl) ?_
  refine x_getIN E h (fi_bo_pieces g) rfl hwX1 (by decide) (by decide +kernel) (v := 0) fI_9 dX0_deal_16 ?_
  refine lv_iload_n hx hb dX0_deal_19 rfl (lv_at hl 3 rfl) ?_
  refine lv_iload hx hb dX0_deal_20 (lv_at hl 4 rfl) ?_
  refine lv_lload hx hb dX0_deal_22 (lv_at hl 5 rfl) ?_
  refine x_vv E h (na := 4) (As := [.int 0, .int 0, .int 0, .long 0]) (kX0_meet_0 l g _  fI_11 fI_12) (oc_al g) rfl gX0_deal_X0_meet rfl ⟨rfl, rfl⟩ rfl (by decide +kernel) ⟨Nat.le_of_ble_eq_true rfl, Nat.le_of_ble_eq_true rfl⟩ hl.1 rfl (Nat.le_of_ble_eq_true rfl) dX0_deal_24 ⟨Nat.le_of_ble_eq_true rfl, Nat.le_of_ble_eq_true rfl⟩ (fun s1 H locs q1 h => ?_)
  rcases q1 with rfl
  exact x_vret E h rfl dX0_deal_27
set_option maxHeartbeats 4000000 in
set_option maxRecDepth 100000 in
theorem kX0_findBest_0 (l : Launch) (g : CX) (σ : ST) (fI_9 : σ.1 9 = 0) : XM l g yX0_findBest wsX0_findBest { frames := 2, cells := 0, slots := 0, locals := 54 } [.ref (g.2.1 47), .ref (g.2.1 25)] σ (XQv g (fun σ' => ((sI (sI (sA (sI (sI σ 12 0) 11 (-1000000000)) 45 (fun j => if j < 9 then 0 else (sI (sI σ 12 0) 11 (-1000000000)).2.2 45 j)) 11 0) 10 0) = σ'))) := by
  refine x_met (own := RX0) (cc := cX0_findBest) (maxL := 2) (ret := none) (lv := [(0, .ref (g.2.1 47)), (1, .ref (g.2.1 25))]) (by decide) rfl rfl (Nat.le_of_ble_eq_true rfl) rfl ?_
  intro p e s m args below meth c ls E h hl
  have hx := E.1
  have hb := E.2.1
  have hown := E.2.2.2.1
  have hts := E.2.2.2.2.1
  have hwX0 : ∀ w ∈ wsX00, w ∈ wsX0_findBest := by decide +kernel
  have hwX4 : ∀ w ∈ wsX40, w ∈ wsX0_findBest := by decide +kernel
  refine lv_aload_n hx hb dX0_findBest_0 rfl (lv_at hl 0 rfl) ?_
  refine lv_iconst (v := 0) hx hb dX0_findBest_1 (by decide) ?_
  refine x_putI E h (ty := .boolean) (v := 0) (fi_al_isForNear g) rfl hwX0 tyX0_ok nmX0 (by decide) (by decide +kernel) (by decide +kernel) (by decide +kernel) rfl rfl dX0_findBest_2 (fun H locs h => ?_)
  refine lv_aload_n hx hb dX0_findBest_5 rfl (lv_at hl 0 rfl) ?_
  refine x_getR E h (fr_al_best g) rfl hwX0 (by decide) (by decide +kernel) dX0_findBest_6 ?_
  refine lv_ldc (v := (-1000000000)) hx hb hown (hts (.constant RX0 29 (-1000000000)) (by decide +kernel)) dX0_findBest_9 ?_
  refine x_putIN E h (ty := .int) (v := (-1000000000)) (fi_be_value g) rfl hwX4 tyX4_ok nmX4 (by decide) (by decide +kernel) (by decide +kernel) (by decide +kernel) rfl rfl dX0_findBest_11 (fun H locs h => ?_)
  refine lv_aload_n hx hb dX0_findBest_14 rfl (lv_at hl 0 rfl) ?_
  refine x_getR E h (fr_al_members g) rfl hwX0 (by decide) (by decide +kernel) dX0_findBest_15 ?_
  refine lv_iconst (v := 0) hx hb dX0_findBest_18 (by decide) ?_
  refine x_sv E h (na := 2) (As := [.ref (g.2.1 53), .int 0]) (k_fill l g _ 53 9 45 (ia_al_members g) (by decide) 0) gX0_findBest_J7_fill_53178 rfl ⟨rfl, rfl⟩ rfl (by decide +kernel) ⟨Nat.le_of_ble_eq_true rfl, Nat.le_of_ble_eq_true rfl⟩ hl.1 rfl (Nat.le_of_ble_eq_true rfl) dX0_findBest_19 ⟨Nat.le_of_ble_eq_true rfl, Nat.le_of_ble_eq_true rfl⟩ (fun s1 H locs q1 h => ?_)
  rcases q1 with rfl
  refine lv_aload_n hx hb dX0_findBest_22 rfl (lv_at hl 0 rfl) ?_
  refine lv_aload_n hx hb dX0_findBest_23 rfl (lv_at hl 1 rfl) ?_
  refine lv_iconst (v := 0) hx hb dX0_findBest_24 (by decide) ?_
  refine lv_iconst (v := 0) hx hb dX0_findBest_25 (by decide) ?_
  refine lv_iconst (v := 0) hx hb dX0_findBest_26 (by decide) ?_
  refine lv_lconst (v := 0) hx hb dX0_findBest_27 (by decide) ?_
  refine x_sv E h (na := 6) (As := [.ref (g.2.1 47), .ref (g.2.1 25), .int 0, .int 0, .int 0, .long 0]) (kX0_deal_0 l g _  fI_9 rfl rfl) gX0_findBest_X0_deal rfl ⟨rfl, rfl⟩ rfl (by decide +kernel) ⟨Nat.le_of_ble_eq_true rfl, Nat.le_of_ble_eq_true rfl⟩ hl.1 rfl (Nat.le_of_ble_eq_true rfl) dX0_findBest_28 ⟨Nat.le_of_ble_eq_true rfl, Nat.le_of_ble_eq_true rfl⟩ (fun s2 H locs q2 h => ?_)
  rcases q2 with rfl
  exact x_vret E h rfl dX0_findBest_31
set_option maxHeartbeats 4000000 in
set_option maxRecDepth 100000 in
theorem kX4_findMiddles_0 (l : Launch) (g : CX) (σ : ST) (fI_10 : σ.1 10 = 0) : XM l g yX4_findMiddles wsX4_findMiddles { frames := 0, cells := 0, slots := 0, locals := 0 } [.ref (g.2.1 48), .ref (g.2.1 5), .ref (g.2.1 10), .ref (g.2.1 16)] σ (XQv g (fun σ' => (σ = σ'))) := by
  refine x_met (own := RX4) (cc := cX4_findMiddles) (maxL := 7) (ret := none) (lv := [(0, .ref (g.2.1 48)), (1, .ref (g.2.1 5)), (2, .ref (g.2.1 10)), (3, .ref (g.2.1 16))]) (by decide) rfl rfl (Nat.le_of_ble_eq_true rfl) rfl ?_
  intro p e s m args below meth c ls E h hl
  have hx := E.1
  have hb := E.2.1
  have hown := E.2.2.2.1
  have hts := E.2.2.2.2.1
  have hwX4 : ∀ w ∈ wsX40, w ∈ wsX4_findMiddles := by decide +kernel
  refine lv_iconst (v := 0) hx hb dX4_findMiddles_0 (by decide) ?_
  refine lv_istore (lv' := [(4, .int 0), (0, .ref (g.2.1 48)), (1, .ref (g.2.1 5)), (2, .ref (g.2.1 10)), (3, .ref (g.2.1 16))]) hx hb dX4_findMiddles_1 hl (by decide) rfl (fun ls hl => ?_)
  refine lv_iload hx hb dX4_findMiddles_3 (lv_at hl 0 rfl) ?_
  refine lv_aload_n hx hb dX4_findMiddles_5 rfl (lv_at hl 1 rfl) ?_
  refine x_getI E h (fi_be_heaps g) rfl hwX4 (by decide) (by decide +kernel) (v := 0) fI_10 dX4_findMiddles_6 ?_
  refine lv_icmp_ge (tgt := 106) hx hb dX4_findMiddles_9 (by decide) (fun _ => ?_) (fun c => absurd (by decide) c)
  exact x_vret E h rfl dX4_findMiddles_106
set_option maxHeartbeats 4000000 in
set_option maxRecDepth 100000 in
theorem kX4_numberHeaps_0 (l : Launch) (g : CX) (σ : ST) : XM l g yX4_numberHeaps wsX4_numberHeaps { frames := 1, cells := 0, slots := 0, locals := 23 } [.ref (g.2.1 54), .int 0] σ (XQv g (fun σ' => ((sI (sA σ 47 (fun j => if j < 9 then (-9) else σ.2.2 47 j)) 17 0) = σ'))) := by
  refine x_met (own := RX4) (cc := cX4_numberHeaps) (maxL := 4) (ret := none) (lv := [(0, .ref (g.2.1 54)), (1, .int 0)]) (by decide) rfl rfl (Nat.le_of_ble_eq_true rfl) rfl ?_
  intro p e s m args below meth c ls E h hl
  have hx := E.1
  have hb := E.2.1
  have hown := E.2.2.2.1
  have hts := E.2.2.2.2.1
  have hwX4 : ∀ w ∈ wsX40, w ∈ wsX4_numberHeaps := by decide +kernel
  refine lv_aload_n hx hb dX4_numberHeaps_0 rfl (lv_at hl 0 rfl) ?_
  refine x_getR E h (fr_jo_renamed g) rfl hwX4 (by decide) (by decide +kernel) dX4_numberHeaps_1 ?_
  refine lv_bipush (v := (-9)) hx hb dX4_numberHeaps_4 (by decide) ?_
  refine x_sv E h (na := 2) (As := [.ref (g.2.1 56), .int (-9)]) (k_fill l g _ 56 9 47 (ia_jo_renamed g) (by decide) (-9)) gX4_numberHeaps_J7_fill_53178 rfl ⟨rfl, rfl⟩ rfl (by decide +kernel) ⟨Nat.le_of_ble_eq_true rfl, Nat.le_of_ble_eq_true rfl⟩ hl.1 rfl (Nat.le_of_ble_eq_true rfl) dX4_numberHeaps_6 ⟨Nat.le_of_ble_eq_true rfl, Nat.le_of_ble_eq_true rfl⟩ (fun s1 H locs q1 h => ?_)
  rcases q1 with rfl
  refine lv_aload_n hx hb dX4_numberHeaps_9 rfl (lv_at hl 0 rfl) ?_
  refine lv_iconst (v := 0) hx hb dX4_numberHeaps_10 (by decide) ?_
  refine x_putI E h (ty := .int) (v := 0) (fi_jo_heaps g) rfl hwX4 tyX4_ok nmX4 (by decide) (by decide +kernel) (by decide +kernel) (by decide +kernel) rfl rfl dX4_numberHeaps_11 (fun H locs h => ?_)
  refine lv_iconst (v := 0) hx hb dX4_numberHeaps_14 (by decide) ?_
  refine lv_istore_n (lv' := [(2, .int 0), (0, .ref (g.2.1 54)), (1, .int 0)]) hx hb dX4_numberHeaps_15 rfl hl (by decide) rfl (fun ls hl => ?_)
  refine lv_iload_n hx hb dX4_numberHeaps_16 rfl (lv_at hl 0 rfl) ?_
  refine lv_iload_n hx hb dX4_numberHeaps_17 rfl (lv_at hl 2 rfl) ?_
  refine lv_icmp_ge (tgt := 107) hx hb dX4_numberHeaps_18 (by decide) (fun _ => ?_) (fun c => absurd (by decide) c)
  exact x_vret E h rfl dX4_numberHeaps_107
set_option maxHeartbeats 4000000 in
set_option maxRecDepth 100000 in
theorem kX1_worthOf_0 (l : Launch) (g : CX) (σ : ST) (fI_9 : σ.1 9 = 0) : XM l g yX1_worthOf wsX1_worthOf { frames := 0, cells := 0, slots := 0, locals := 0 } [.ref (g.2.1 25), .ref (g.2.1 54)] σ (XQi g (fun r σ' => (0 = r ∧ σ = σ'))) := by
  refine x_met (own := RX1) (cc := cX1_worthOf) (maxL := 5) (ret := (some .int)) (lv := [(0, .ref (g.2.1 25)), (1, .ref (g.2.1 54))]) (by decide) rfl rfl (Nat.le_of_ble_eq_true rfl) rfl ?_
  intro p e s m args below meth c ls E h hl
  have hx := E.1
  have hb := E.2.1
  have hown := E.2.2.2.1
  have hts := E.2.2.2.2.1
  have hwX1 : ∀ w ∈ wsX10, w ∈ wsX1_worthOf := by decide +kernel
  refine lv_iconst (v := 0) hx hb dX1_worthOf_0 (by decide) ?_
  refine lv_istore_n (lv' := [(2, .int 0), (0, .ref (g.2.1 25)), (1, .ref (g.2.1 54))]) hx hb dX1_worthOf_1 rfl hl (by decide) rfl (fun ls hl => ?_)
  refine lv_iconst (v := 0) hx hb dX1_worthOf_2 (by decide) ?_
  refine lv_istore_n (lv' := [(3, .int 0), (2, .int 0), (0, .ref (g.2.1 25)), (1, .ref (g.2.1 54))]) hx hb dX1_worthOf_3 rfl hl (by decide) rfl (fun ls hl => ?_)
  refine lv_iload_n hx hb dX1_worthOf_4 rfl (lv_at hl 0 rfl) ?_
  refine lv_aload_n hx hb dX1_worthOf_5 rfl (lv_at hl 2 rfl) ?_
  refine x_getI E h (fi_bo_pieces g) rfl hwX1 (by decide) (by decide +kernel) (v := 0) fI_9 dX1_worthOf_6 ?_
  refine lv_icmp_ge (tgt := 70) hx hb dX1_worthOf_9 (by decide) (fun _ => ?_) (fun c => absurd (by decide) c)
  refine lv_iload_n hx hb dX1_worthOf_70 rfl (lv_at hl 1 rfl) ?_
  exact x_iret E h ⟨rfl, rfl⟩ dX1_worthOf_71
set_option maxHeartbeats 4000000 in
set_option maxRecDepth 100000 in
theorem kX1_join_0 (l : Launch) (g : CX) (σ : ST) (fI_9 : σ.1 9 = 0) : XM l g yX1_join wsX1_join { frames := 2, cells := 0, slots := 0, locals := 46 } [.ref (g.2.1 25), .ref (g.2.1 54)] σ (XQv g (fun σ' => ((sI (sI (sA σ 47 (fun j => if j < 9 then (-9) else σ.2.2 47 j)) 17 0) 18 0) = σ'))) := by
  refine x_met (own := RX1) (cc := cX1_join) (maxL := 4) (ret := none) (lv := [(0, .ref (g.2.1 25)), (1, .ref (g.2.1 54))]) (by decide) rfl rfl (Nat.le_of_ble_eq_true rfl) rfl ?_
  intro p e s m args below meth c ls E h hl
  have hx := E.1
  have hb := E.2.1
  have hown := E.2.2.2.1
  have hts := E.2.2.2.2.1
  have hwX1 : ∀ w ∈ wsX10, w ∈ wsX1_join := by decide +kernel
  have hwX4 : ∀ w ∈ wsX40, w ∈ wsX1_join := by decide +kernel
  refine lv_iconst (v := 0) hx hb dX1_join_0 (by decide) ?_
  refine lv_istore_n (lv' := [(2, .int 0), (0, .ref (g.2.1 25)), (1, .ref (g.2.1 54))]) hx hb dX1_join_1 rfl hl (by decide) rfl (fun ls hl => ?_)
  refine lv_iload_n hx hb dX1_join_2 rfl (lv_at hl 0 rfl) ?_
  refine lv_aload_n hx hb dX1_join_3 rfl (lv_at hl 1 rfl) ?_
  refine x_getI E h (fi_bo_pieces g) rfl hwX1 (by decide) (by decide +kernel) (v := 0) fI_9 dX1_join_4 ?_
  refine lv_icmp_ge (tgt := 55) hx hb dX1_join_7 (by decide) (fun _ => ?_) (fun c => absurd (by decide) c)
  refine lv_iconst (v := 1) hx hb dX1_join_55 (by decide) ?_
  refine lv_istore_n (lv' := [(2, .int 1), (0, .ref (g.2.1 25)), (1, .ref (g.2.1 54))]) hx hb dX1_join_56 rfl hl (by decide) rfl (fun ls hl => ?_)
  refine lv_iconst (v := 0) hx hb dX1_join_57 (by decide) ?_
  refine lv_istore_n (lv' := [(3, .int 0), (2, .int 1), (0, .ref (g.2.1 25)), (1, .ref (g.2.1 54))]) hx hb dX1_join_58 rfl hl (by decide) rfl (fun ls hl => ?_)
  refine lv_iload_n hx hb dX1_join_59 rfl (lv_at hl 0 rfl) ?_
  refine lv_aload_n hx hb dX1_join_60 rfl (lv_at hl 2 rfl) ?_
  refine x_getI E h (fi_bo_pieces g) rfl hwX1 (by decide) (by decide +kernel) (v := 0) fI_9 dX1_join_61 ?_
  refine lv_icmp_ge (tgt := 83) hx hb dX1_join_64 (by decide) (fun _ => ?_) (fun c => absurd (by decide) c)
  refine lv_aload_n hx hb dX1_join_83 rfl (lv_at hl 3 rfl) ?_
  refine lv_aload_n hx hb dX1_join_84 rfl (lv_at hl 2 rfl) ?_
  refine x_getI E h (fi_bo_pieces g) rfl hwX1 (by decide) (by decide +kernel) (v := 0) fI_9 dX1_join_85 ?_
  refine x_vv E h (na := 1) (As := [.int 0]) (kX4_numberHeaps_0 l g _  ) (oc_jo g) rfl gX1_join_X4_numberHeaps rfl ⟨rfl, rfl⟩ rfl (by decide +kernel) ⟨Nat.le_of_ble_eq_true rfl, Nat.le_of_ble_eq_true rfl⟩ hl.1 rfl (Nat.le_of_ble_eq_true rfl) dX1_join_88 ⟨Nat.le_of_ble_eq_true rfl, Nat.le_of_ble_eq_true rfl⟩ (fun s1 H locs q1 h => ?_)
  rcases q1 with rfl
  refine lv_aload_n hx hb dX1_join_91 rfl (lv_at hl 3 rfl) ?_
  refine lv_aload_n hx hb dX1_join_92 rfl (lv_at hl 2 rfl) ?_
  refine lv_aload_n hx hb dX1_join_93 rfl (lv_at hl 3 rfl) ?_
  refine x_vi E h (na := 1) (As := [.ref (g.2.1 54)]) (kX1_worthOf_0 l g _  fI_9) (oc_bo g) rfl gX1_join_X1_worthOf rfl ⟨rfl, rfl⟩ rfl (by decide +kernel) ⟨Nat.le_of_ble_eq_true rfl, Nat.le_of_ble_eq_true rfl⟩ hl.1 rfl (Nat.le_of_ble_eq_true rfl) dX1_join_94 ⟨Nat.le_of_ble_eq_true rfl, Nat.le_of_ble_eq_true rfl⟩ (fun r2 s2 H locs q2 h => ?_)
  rcases q2 with ⟨rfl, rfl⟩
  refine x_putIN E h (ty := .int) (v := 0) (fi_jo_value g) rfl hwX4 tyX4_ok nmX4 (by decide) (by decide +kernel) (by decide +kernel) (by decide +kernel) rfl rfl dX1_join_97 (fun H locs h => ?_)
  exact x_vret E h rfl dX1_join_100
set_option maxHeartbeats 4000000 in
set_option maxRecDepth 100000 in
theorem kX11_heapNow_0 (l : Launch) (g : CX) (σ : ST) (fA_1_0 : σ.2.2 1 0 = 20) (fA_1_1 : σ.2.2 1 1 = 10) (fA_1_2 : σ.2.2 1 2 = 40) (fA_1_4 : σ.2.2 1 4 = 0) (fI_2 : σ.1 2 = 0) (fI_22 : σ.1 22 = 1) (fI_23 : σ.1 23 = 1) : XM l g yX11_heapNow wsX11_heapNow { frames := 3, cells := 0, slots := 0, locals := 75 } [.ref (g.2.1 0)] σ (XQi g (fun r σ' => (1 = r ∧ (sI (sI (sI (sA (sI (sI (sA (sI (sI (sI (sI (sA (sI (sI (sI (sI σ 5 0) 6 0) 7 0) 8 0) 17 (fun j => if j < 48 then (-9) else (sI (sI (sI (sI σ 5 0) 6 0) 7 0) 8 0).2.2 17 j)) 22 0) 9 0) 12 0) 11 (-1000000000)) 45 (fun j => if j < 9 then 0 else (sI (sI (sI (sI (sA (sI (sI (sI (sI σ 5 0) 6 0) 7 0) 8 0) 17 (fun j => if j < 48 then (-9) else (sI (sI (sI (sI σ 5 0) 6 0) 7 0) 8 0).2.2 17 j)) 22 0) 9 0) 12 0) 11 (-1000000000)).2.2 45 j)) 11 0) 10 0) 47 (fun j => if j < 9 then (-9) else (sI (sI (sA (sI (sI (sI (sI (sA (sI (sI (sI (sI σ 5 0) 6 0) 7 0) 8 0) 17 (fun j => if j < 48 then (-9) else (sI (sI (sI (sI σ 5 0) 6 0) 7 0) 8 0).2.2 17 j)) 22 0) 9 0) 12 0) 11 (-1000000000)) 45 (fun j => if j < 9 then 0 else (sI (sI (sI (sI (sA (sI (sI (sI (sI σ 5 0) 6 0) 7 0) 8 0) 17 (fun j => if j < 48 then (-9) else (sI (sI (sI (sI σ 5 0) 6 0) 7 0) 8 0).2.2 17 j)) 22 0) 9 0) 12 0) 11 (-1000000000)).2.2 45 j)) 11 0) 10 0).2.2 47 j)) 17 0) 18 0) 23 0) = σ'))) := by
  refine x_met (own := RX11) (cc := cX11_heapNow) (maxL := 1) (ret := (some .boolean)) (lv := [(0, .ref (g.2.1 0))]) (by decide) rfl rfl (Nat.le_of_ble_eq_true rfl) rfl ?_
  intro p e s m args below meth c ls E h hl
  have hx := E.1
  have hb := E.2.1
  have hown := E.2.2.2.1
  have hts := E.2.2.2.2.1
  have hwX0 : ∀ w ∈ wsX00, w ∈ wsX11_heapNow := by decide +kernel
  have hwX11 : ∀ w ∈ wsX110, w ∈ wsX11_heapNow := by decide +kernel
  have hwX2 : ∀ w ∈ wsX20, w ∈ wsX11_heapNow := by decide +kernel
  refine lv_aload_n hx hb dX11_heapNow_0 rfl (lv_at hl 0 rfl) ?_
  refine x_vv E h (na := 0) (As := []) (kX11_cutNow_0 l g _  fA_1_0 fA_1_1 fI_2 fI_22) (oc_vh g) rfl gX11_heapNow_X11_cutNow rfl ⟨rfl, rfl⟩ rfl (by decide +kernel) ⟨Nat.le_of_ble_eq_true rfl, Nat.le_of_ble_eq_true rfl⟩ hl.1 rfl (Nat.le_of_ble_eq_true rfl) dX11_heapNow_1 ⟨Nat.le_of_ble_eq_true rfl, Nat.le_of_ble_eq_true rfl⟩ (fun s1 H locs q1 h => ?_)
  rcases q1 with rfl
  refine lv_aload_n hx hb dX11_heapNow_4 rfl (lv_at hl 0 rfl) ?_
  refine x_getR E h (fr_vh_cutting g) rfl hwX11 (by decide) (by decide +kernel) dX11_heapNow_5 ?_
  refine x_getIN E h (fi_cu_pieces g) rfl hwX2 (by decide) (by decide +kernel) (v := 0) rfl dX11_heapNow_8 ?_
  refine lv_bipush (v := 9) hx hb dX11_heapNow_11 (by decide) ?_
  refine lv_icmp_le (tgt := 18) hx hb dX11_heapNow_13 (by decide) (fun _ => ?_) (fun c => absurd (by decide) c)
  refine lv_aload_n hx hb dX11_heapNow_18 rfl (lv_at hl 0 rfl) ?_
  refine x_getI E h (fi_vh_heapsAreOld g) rfl hwX11 (by decide) (by decide +kernel) (v := 1) fI_23 dX11_heapNow_19 ?_
  refine lv_if_eq (tgt := 101) hx hb dX11_heapNow_22 (by decide) (fun c => absurd c (by decide)) (fun _ => ?_)
  refine lv_aload_n hx hb dX11_heapNow_25 rfl (lv_at hl 0 rfl) ?_
  refine x_getR E h (fr_vh_bonds g) rfl hwX11 (by decide) (by decide +kernel) dX11_heapNow_26 ?_
  refine lv_aload_n hx hb dX11_heapNow_29 rfl (lv_at hl 0 rfl) ?_
  refine x_getR E h (fr_vh_cutting g) rfl hwX11 (by decide) (by decide +kernel) dX11_heapNow_30 ?_
  refine lv_aload_n hx hb dX11_heapNow_33 rfl (lv_at hl 0 rfl) ?_
  refine x_getR E h (fr_vh_ruleText g) rfl hwX11 (by decide) (by decide +kernel) dX11_heapNow_34 ?_
  refine lv_iconst (v := 2) hx hb dX11_heapNow_37 (by decide) ?_
  refine x_vi E h (na := 1) (As := [.int 2]) (kX8_ruleNow_2 l g _  fA_1_2) (oc_rt g) rfl gX11_heapNow_X8_ruleNow rfl ⟨rfl, rfl⟩ rfl (by decide +kernel) ⟨Nat.le_of_ble_eq_true rfl, Nat.le_of_ble_eq_true rfl⟩ hl.1 rfl (Nat.le_of_ble_eq_true rfl) dX11_heapNow_38 ⟨Nat.le_of_ble_eq_true rfl, Nat.le_of_ble_eq_true rfl⟩ (fun r2 s2 H locs q2 h => ?_)
  rcases q2 with ⟨rfl, rfl⟩
  refine lv_aload_n hx hb dX11_heapNow_41 rfl (lv_at hl 0 rfl) ?_
  refine x_getR E h (fr_vh_ruleText g) rfl hwX11 (by decide) (by decide +kernel) dX11_heapNow_42 ?_
  refine lv_iconst (v := 4) hx hb dX11_heapNow_45 (by decide) ?_
  refine x_vi E h (na := 1) (As := [.int 4]) (kX8_ruleNow_4 l g _  fA_1_4) (oc_rt g) rfl gX11_heapNow_X8_ruleNow rfl ⟨rfl, rfl⟩ rfl (by decide +kernel) ⟨Nat.le_of_ble_eq_true rfl, Nat.le_of_ble_eq_true rfl⟩ hl.1 rfl (Nat.le_of_ble_eq_true rfl) dX11_heapNow_46 ⟨Nat.le_of_ble_eq_true rfl, Nat.le_of_ble_eq_true rfl⟩ (fun r3 s3 H locs q3 h => ?_)
  rcases q3 with ⟨rfl, rfl⟩
  refine x_vv E h (na := 3) (As := [.ref (g.2.1 16), .int 40, .int 0]) (kX1_tie_0 l g _  rfl) (oc_bo g) rfl gX11_heapNow_X1_tie rfl ⟨rfl, rfl⟩ rfl (by decide +kernel) ⟨Nat.le_of_ble_eq_true rfl, Nat.le_of_ble_eq_true rfl⟩ hl.1 rfl (Nat.le_of_ble_eq_true rfl) dX11_heapNow_49 ⟨Nat.le_of_ble_eq_true rfl, Nat.le_of_ble_eq_true rfl⟩ (fun s4 H locs q4 h => ?_)
  rcases q4 with rfl
  refine lv_aload_n hx hb dX11_heapNow_52 rfl (lv_at hl 0 rfl) ?_
  refine x_getR E h (fr_vh_all g) rfl hwX11 (by decide) (by decide +kernel) dX11_heapNow_53 ?_
  refine lv_aload_n hx hb dX11_heapNow_56 rfl (lv_at hl 0 rfl) ?_
  refine x_getR E h (fr_vh_bonds g) rfl hwX11 (by decide) (by decide +kernel) dX11_heapNow_57 ?_
  refine x_vv E h (na := 1) (As := [.ref (g.2.1 25)]) (kX0_findBest_0 l g _  rfl) (oc_al g) rfl gX11_heapNow_X0_findBest rfl ⟨rfl, rfl⟩ rfl (by decide +kernel) ⟨Nat.le_of_ble_eq_true rfl, Nat.le_of_ble_eq_true rfl⟩ hl.1 rfl (Nat.le_of_ble_eq_true rfl) dX11_heapNow_60 ⟨Nat.le_of_ble_eq_true rfl, Nat.le_of_ble_eq_true rfl⟩ (fun s5 H locs q5 h => ?_)
  rcases q5 with rfl
  refine lv_aload_n hx hb dX11_heapNow_63 rfl (lv_at hl 0 rfl) ?_
  refine x_getR E h (fr_vh_all g) rfl hwX11 (by decide) (by decide +kernel) dX11_heapNow_64 ?_
  refine x_getRN E h (fr_al_best g) rfl hwX0 (by decide) (by decide +kernel) dX11_heapNow_67 ?_
  refine lv_aload_n hx hb dX11_heapNow_70 rfl (lv_at hl 0 rfl) ?_
  refine x_getR E h (fr_vh_book g) rfl hwX11 (by decide) (by decide +kernel) dX11_heapNow_71 ?_
  refine lv_aload_n hx hb dX11_heapNow_74 rfl (lv_at hl 0 rfl) ?_
  refine x_getR E h (fr_vh_gathering g) rfl hwX11 (by decide) (by decide +kernel) dX11_heapNow_75 ?_
  refine lv_aload_n hx hb dX11_heapNow_78 rfl (lv_at hl 0 rfl) ?_
  refine x_getR E h (fr_vh_cutting g) rfl hwX11 (by decide) (by decide +kernel) dX11_heapNow_79 ?_
  refine x_vv E h (na := 3) (As := [.ref (g.2.1 5), .ref (g.2.1 10), .ref (g.2.1 16)]) (kX4_findMiddles_0 l g _  rfl) (oc_be g) rfl gX11_heapNow_X4_findMiddles rfl ⟨rfl, rfl⟩ rfl (by decide +kernel) ⟨Nat.le_of_ble_eq_true rfl, Nat.le_of_ble_eq_true rfl⟩ hl.1 rfl (Nat.le_of_ble_eq_true rfl) dX11_heapNow_82 ⟨Nat.le_of_ble_eq_true rfl, Nat.le_of_ble_eq_true rfl⟩ (fun s6 H locs q6 h => ?_)
  rcases q6 with rfl
  refine lv_aload_n hx hb dX11_heapNow_85 rfl (lv_at hl 0 rfl) ?_
  refine x_getR E h (fr_vh_bonds g) rfl hwX11 (by decide) (by decide +kernel) dX11_heapNow_86 ?_
  refine lv_aload_n hx hb dX11_heapNow_89 rfl (lv_at hl 0 rfl) ?_
  refine x_getR E h (fr_vh_joined g) rfl hwX11 (by decide) (by decide +kernel) dX11_heapNow_90 ?_
  refine x_vv E h (na := 1) (As := [.ref (g.2.1 54)]) (kX1_join_0 l g _  rfl) (oc_bo g) rfl gX11_heapNow_X1_join rfl ⟨rfl, rfl⟩ rfl (by decide +kernel) ⟨Nat.le_of_ble_eq_true rfl, Nat.le_of_ble_eq_true rfl⟩ hl.1 rfl (Nat.le_of_ble_eq_true rfl) dX11_heapNow_93 ⟨Nat.le_of_ble_eq_true rfl, Nat.le_of_ble_eq_true rfl⟩ (fun s7 H locs q7 h => ?_)
  rcases q7 with rfl
  refine lv_aload_n hx hb dX11_heapNow_96 rfl (lv_at hl 0 rfl) ?_
  refine lv_iconst (v := 0) hx hb dX11_heapNow_97 (by decide) ?_
  refine x_putI E h (ty := .boolean) (v := 0) (fi_vh_heapsAreOld g) rfl hwX11 tyX11_ok nmX11 (by decide) (by decide +kernel) (by decide +kernel) (by decide +kernel) rfl rfl dX11_heapNow_98 (fun H locs h => ?_)
  refine lv_iconst (v := 1) hx hb dX11_heapNow_101 (by decide) ?_
  exact x_zret E h rfl ⟨rfl, rfl⟩ dX11_heapNow_102
set_option maxHeartbeats 4000000 in
set_option maxRecDepth 100000 in
theorem kX11_byWay_0 (l : Launch) (g : CX) (σ : ST) (p1 : Int32) : XM l g yX11_byWay wsX11_byWay { frames := 0, cells := 0, slots := 0, locals := 0 } [.ref (g.2.1 0), .int p1] σ (XQr g (fun r σ' => (¬ p1 = 0 ∧ 54 = r ∧ σ = σ') ∨ (p1 = 0 ∧ 48 = r ∧ σ = σ'))) := by
  refine x_met (own := RX11) (cc := cX11_byWay) (maxL := 2) (ret := (some (.object "VoiceHeaps$Heaping"))) (lv := [(0, .ref (g.2.1 0)), (1, .int p1)]) (by decide) rfl rfl (Nat.le_of_ble_eq_true rfl) rfl ?_
  intro p e s m args below meth c ls E h hl
  have hx := E.1
  have hb := E.2.1
  have hown := E.2.2.2.1
  have hts := E.2.2.2.2.1
  have hwX0 : ∀ w ∈ wsX00, w ∈ wsX11_byWay := by decide +kernel
  have hwX11 : ∀ w ∈ wsX110, w ∈ wsX11_byWay := by decide +kernel
  refine lv_iload_n hx hb dX11_byWay_0 rfl (lv_at hl 1 rfl) ?_
  refine lv_if_ne (tgt := 14) hx hb dX11_byWay_1 (by decide) (fun c1_1 => ?_) (fun c1_1 => ?_)
  · skip
    refine lv_aload_n hx hb dX11_byWay_14 rfl (lv_at hl 0 rfl) ?_
    refine x_getR E h (fr_vh_joined g) rfl hwX11 (by decide) (by decide +kernel) dX11_byWay_15 ?_
    exact x_aret E h (Or.inl ⟨_, rfl⟩) (Or.inl ⟨c1_1, rfl, rfl⟩) dX11_byWay_18
  · skip
    refine lv_aload_n hx hb dX11_byWay_4 rfl (lv_at hl 0 rfl) ?_
    refine x_getR E h (fr_vh_all g) rfl hwX11 (by decide) (by decide +kernel) dX11_byWay_5 ?_
    refine x_getRN E h (fr_al_best g) rfl hwX0 (by decide) (by decide +kernel) dX11_byWay_8 ?_
    refine lv_goto (tgt := 18) hx hb dX11_byWay_11 (by decide) ?_
    exact x_aret E h (Or.inl ⟨_, rfl⟩) (Or.inr (⟨c1_1, rfl, rfl⟩)) dX11_byWay_18
set_option maxHeartbeats 4000000 in
set_option maxRecDepth 100000 in
theorem kX11_worth_0 (l : Launch) (g : CX) (σ : ST) (p1 : Int32) (fA_1_0 : σ.2.2 1 0 = 20) (fA_1_1 : σ.2.2 1 1 = 10) (fA_1_2 : σ.2.2 1 2 = 40) (fA_1_4 : σ.2.2 1 4 = 0) (fI_2 : σ.1 2 = 0) (fI_22 : σ.1 22 = 1) (fI_23 : σ.1 23 = 1) : XM l g yX11_worth wsX11_worth { frames := 4, cells := 0, slots := 0, locals := 95 } [.ref (g.2.1 0), .int p1] σ (XQi g (fun r σ' => (bB p1 0 1 = 1 ∧ ¬ p1 = 0 ∧ 0 = r ∧ MO σ' σ) ∨ (bB p1 0 1 = 1 ∧ p1 = 0 ∧ 0 = r ∧ MO σ' σ) ∨ (bB p1 0 1 = 0 ∧ (-1000000) = r ∧ MO σ' σ))) := by
  refine x_met (own := RX11) (cc := cX11_worth) (maxL := 2) (ret := (some .int)) (lv := [(0, .ref (g.2.1 0)), (1, .int p1)]) (by decide) rfl rfl (Nat.le_of_ble_eq_true rfl) rfl ?_
  intro p e s m args below meth c ls E h hl
  have hx := E.1
  have hb := E.2.1
  have hown := E.2.2.2.1
  have hts := E.2.2.2.2.1
  have hwX4 : ∀ w ∈ wsX40, w ∈ wsX11_worth := by decide +kernel
  refine lv_iload_n hx hb dX11_worth_0 rfl (lv_at hl 1 rfl) ?_
  refine lv_iconst (v := 0) hx hb dX11_worth_1 (by decide) ?_
  refine lv_iconst (v := 1) hx hb dX11_worth_2 (by decide) ?_
  refine x_si E h (na := 3) (As := [.int p1, .int 0, .int 1]) (kX11_within_0 l g _ p1 0 1) gX11_worth_X11_within rfl ⟨rfl, rfl⟩ rfl (by decide +kernel) ⟨Nat.le_of_ble_eq_true rfl, Nat.le_of_ble_eq_true rfl⟩ hl.1 rfl (Nat.le_of_ble_eq_true rfl) dX11_worth_3 ⟨Nat.le_of_ble_eq_true rfl, Nat.le_of_ble_eq_true rfl⟩ (fun r1 s1 H locs q1 h => ?_)
  rcases q1 with ⟨k1_0, rfl, rfl⟩ | ⟨k1_0, rfl, rfl⟩
  · skip
    refine lv_if_eq (tgt := 16) hx hb dX11_worth_6 (by decide) (fun c => absurd c (by decide)) (fun _ => ?_)
    refine lv_aload_n hx hb dX11_worth_9 rfl (lv_at hl 0 rfl) ?_
    refine x_vi E h (na := 0) (As := []) (kX11_heapNow_0 l g _  fA_1_0 fA_1_1 fA_1_2 fA_1_4 fI_2 fI_22 fI_23) (oc_vh g) rfl gX11_worth_X11_heapNow rfl ⟨rfl, rfl⟩ rfl (by decide +kernel) ⟨Nat.le_of_ble_eq_true rfl, Nat.le_of_ble_eq_true rfl⟩ hl.1 rfl (Nat.le_of_ble_eq_true rfl) dX11_worth_10 ⟨Nat.le_of_ble_eq_true rfl, Nat.le_of_ble_eq_true rfl⟩ (fun r2 s2 H locs q2 h => ?_)
    rcases q2 with ⟨rfl, rfl⟩
    refine lv_if_ne (tgt := 19) hx hb dX11_worth_13 (by decide) (fun _ => ?_) (fun c => absurd c (by decide))
    refine lv_aload_n hx hb dX11_worth_19 rfl (lv_at hl 0 rfl) ?_
    refine lv_iload_n hx hb dX11_worth_20 rfl (lv_at hl 1 rfl) ?_
    refine x_vr E h (na := 1) (As := [.int p1]) (kX11_byWay_0 l g _ p1 ) (oc_vh g) rfl gX11_worth_X11_byWay rfl ⟨rfl, rfl⟩ rfl (by decide +kernel) ⟨Nat.le_of_ble_eq_true rfl, Nat.le_of_ble_eq_true rfl⟩ hl.1 rfl (Nat.le_of_ble_eq_true rfl) dX11_worth_21 ⟨Nat.le_of_ble_eq_true rfl, Nat.le_of_ble_eq_true rfl⟩ (fun r3 s3 H locs q3 h => ?_)
    rcases q3 with ⟨k3_0, rfl, rfl⟩ | ⟨k3_0, rfl, rfl⟩
    · skip
      refine x_getIN E h (fi_jo_value g) rfl hwX4 (by decide) (by decide +kernel) (v := 0) rfl dX11_worth_24 ?_
      exact x_iret E h (Or.inl ⟨k1_0, k3_0, rfl, (MO.refl σ)⟩) dX11_worth_27
    · skip
      refine x_getIN E h (fi_be_value g) rfl hwX4 (by decide) (by decide +kernel) (v := 0) rfl dX11_worth_24 ?_
      exact x_iret E h (Or.inr (Or.inl ⟨k1_0, k3_0, rfl, (MO.refl σ)⟩)) dX11_worth_27
  · skip
    refine lv_if_eq (tgt := 16) hx hb dX11_worth_6 (by decide) (fun _ => ?_) (fun c => absurd (by decide) c)
    refine lv_ldc (v := (-1000000)) hx hb hown (hts (.constant RX11 185 (-1000000)) (by decide +kernel)) dX11_worth_16 ?_
    exact x_iret E h (Or.inr (Or.inr (⟨k1_0, rfl, (MO.refl σ)⟩))) dX11_worth_18
set_option maxHeartbeats 4000000 in
set_option maxRecDepth 100000 in
theorem kX0_meetNear_0 (l : Launch) (g : CX) (σ : ST) (fI_13 : σ.1 13 = 0) (fI_14 : σ.1 14 = 0) (fI_15 : σ.1 15 = 9) (fI_16 : σ.1 16 = 0) : XM l g yX0_meetNear wsX0_meetNear { frames := 1, cells := 0, slots := 0, locals := 21 } [.ref (g.2.1 47), .int 0, .int 0, .long 0] σ (XQv g (fun σ' => ((sL (sL (sI (sI (sI σ 14 1) 15 0) 16 0) 0 ((σ.2.1 0) &&& 0)) 1 ((σ.2.1 1) ||| 0)) = σ'))) := by
  refine x_met (own := RX0) (cc := cX0_meetNear) (maxL := 5) (ret := none) (lv := [(0, .ref (g.2.1 47)), (1, .int 0), (2, .int 0), (3, .long 0)]) (by decide) rfl rfl (Nat.le_of_ble_eq_true rfl) rfl ?_
  intro p e s m args below meth c ls E h hl
  have hx := E.1
  have hb := E.2.1
  have hown := E.2.2.2.1
  have hts := E.2.2.2.2.1
  have hwX0 : ∀ w ∈ wsX00, w ∈ wsX0_meetNear := by decide +kernel
  refine lv_iload_n hx hb dX0_meetNear_0 rfl (lv_at hl 2 rfl) ?_
  refine lv_aload_n hx hb dX0_meetNear_1 rfl (lv_at hl 0 rfl) ?_
  refine x_getI E h (fi_al_least g) rfl hwX0 (by decide) (by decide +kernel) (v := 0) fI_13 dX0_meetNear_2 ?_
  refine lv_icmp_lt (tgt := 62) hx hb dX0_meetNear_5 (by decide) (fun c => absurd c (by decide)) (fun _ => ?_)
  refine lv_aload_n hx hb dX0_meetNear_8 rfl (lv_at hl 0 rfl) ?_
  refine lv_dup hx hb dX0_meetNear_9 rfl ?_
  refine x_getI E h (fi_al_nearOnes g) rfl hwX0 (by decide) (by decide +kernel) (v := 0) fI_14 dX0_meetNear_10 ?_
  refine lv_iconst (v := 1) hx hb dX0_meetNear_13 (by decide) ?_
  refine lv_iadd hx hb dX0_meetNear_14 ?_
  refine x_topI (v2 := 1) (by decide) ?_
  refine x_putI E h (ty := .int) (v := 1) (fi_al_nearOnes g) rfl hwX0 tyX0_ok nmX0 (by decide) (by decide +kernel) (by decide +kernel) (by decide +kernel) rfl rfl dX0_meetNear_15 (fun H locs h => ?_)
  refine lv_aload_n hx hb dX0_meetNear_18 rfl (lv_at hl 0 rfl) ?_
  refine lv_aload_n hx hb dX0_meetNear_19 rfl (lv_at hl 0 rfl) ?_
  refine x_getI E h (fi_al_fewest g) rfl hwX0 (by decide) (by decide +kernel) (v := 9) fI_15 dX0_meetNear_20 ?_
  refine lv_iload_n hx hb dX0_meetNear_23 rfl (lv_at hl 1 rfl) ?_
  refine x_min E hl.1 (by decide +kernel) (by decide +kernel) (by decide +kernel) (by decide +kernel) ⟨Nat.le_of_ble_eq_true rfl, Nat.le_of_ble_eq_true rfl⟩ ⟨Nat.zero_le _, Nat.zero_le _⟩ dX0_meetNear_24 ?_
  refine x_topI (v2 := 0) (by decide) ?_
  refine x_putI E h (ty := .int) (v := 0) (fi_al_fewest g) rfl hwX0 tyX0_ok nmX0 (by decide) (by decide +kernel) (by decide +kernel) (by decide +kernel) rfl rfl dX0_meetNear_27 (fun H locs h => ?_)
  refine lv_aload_n hx hb dX0_meetNear_30 rfl (lv_at hl 0 rfl) ?_
  refine lv_aload_n hx hb dX0_meetNear_31 rfl (lv_at hl 0 rfl) ?_
  refine x_getI E h (fi_al_most g) rfl hwX0 (by decide) (by decide +kernel) (v := 0) fI_16 dX0_meetNear_32 ?_
  refine lv_iload_n hx hb dX0_meetNear_35 rfl (lv_at hl 1 rfl) ?_
  refine x_max E hl.1 (by decide +kernel) (by decide +kernel) (by decide +kernel) (by decide +kernel) ⟨Nat.le_of_ble_eq_true rfl, Nat.le_of_ble_eq_true rfl⟩ ⟨Nat.zero_le _, Nat.zero_le _⟩ dX0_meetNear_36 ?_
  refine x_topI (v2 := 0) (by decide) ?_
  refine x_putI E h (ty := .int) (v := 0) (fi_al_most g) rfl hwX0 tyX0_ok nmX0 (by decide) (by decide +kernel) (by decide +kernel) (by decide +kernel) rfl rfl dX0_meetNear_39 (fun H locs h => ?_)
  refine lv_aload_n hx hb dX0_meetNear_42 rfl (lv_at hl 0 rfl) ?_
  refine lv_dup hx hb dX0_meetNear_43 rfl ?_
  refine x_getL E h (fl_al_always g) rfl hwX0 (by decide) (by decide +kernel) (v := σ.2.1 0) rfl dX0_meetNear_44 ?_
  refine lv_lload_n hx hb dX0_meetNear_47 rfl (lv_at hl 3 rfl) ?_
  refine lv_land hx hb dX0_meetNear_48 ?_
  refine x_putL E h (ty := .long) (v := (σ.2.1 0) &&& 0) (fl_al_always g) rfl hwX0 tyX0_ok nmX0 (by decide) (by decide +kernel) (by decide +kernel) (by decide +kernel) rfl rfl dX0_meetNear_49 (fun H locs h => ?_)
  refine lv_aload_n hx hb dX0_meetNear_52 rfl (lv_at hl 0 rfl) ?_
  refine lv_dup hx hb dX0_meetNear_53 rfl ?_
  refine x_getL E h (fl_al_ever g) rfl hwX0 (by decide) (by decide +kernel) (v := σ.2.1 1) rfl dX0_meetNear_54 ?_
  refine lv_lload_n hx hb dX0_meetNear_57 rfl (lv_at hl 3 rfl) ?_
  refine lv_lor hx hb dX0_meetNear_58 ?_
  refine x_putL E h (ty := .long) (v := (σ.2.1 1) ||| 0) (fl_al_ever g) rfl hwX0 tyX0_ok nmX0 (by decide) (by decide +kernel) (by decide +kernel) (by decide +kernel) rfl rfl dX0_meetNear_59 (fun H locs h => ?_)
  exact x_vret E h rfl dX0_meetNear_62
set_option maxHeartbeats 4000000 in
set_option maxRecDepth 100000 in
theorem kX0_meet_1 (l : Launch) (g : CX) (σ : ST) (fI_12 : σ.1 12 = 1) (fI_13 : σ.1 13 = 0) (fI_14 : σ.1 14 = 0) (fI_15 : σ.1 15 = 9) (fI_16 : σ.1 16 = 0) : XM l g yX0_meet wsX0_meet { frames := 2, cells := 0, slots := 0, locals := 45 } [.ref (g.2.1 47), .int 0, .int 0, .int 0, .long 0] σ (XQv g (fun σ' => ((sL (sL (sI (sI (sI σ 14 1) 15 0) 16 0) 0 ((σ.2.1 0) &&& 0)) 1 ((σ.2.1 1) ||| 0)) = σ'))) := by
  refine x_met (own := RX0) (cc := cX0_meet) (maxL := 7) (ret := none) (lv := [(0, .ref (g.2.1 47)), (1, .int 0), (2, .int 0), (3, .int 0), (4, .long 0)]) (by decide) rfl rfl (Nat.le_of_ble_eq_true rfl) rfl ?_
  intro p e s m args below meth c ls E h hl
  have hx := E.1
  have hb := E.2.1
  have hown := E.2.2.2.1
  have hts := E.2.2.2.2.1
  have hwX0 : ∀ w ∈ wsX00, w ∈ wsX0_meet := by decide +kernel
  refine lv_aload_n hx hb dX0_meet_0 rfl (lv_at hl 0 rfl) ?_
  refine x_getI E h (fi_al_isForNear g) rfl hwX0 (by decide) (by decide +kernel) (v := 1) fI_12 dX0_meet_1 ?_
  refine lv_if_eq (tgt := 18) hx hb dX0_meet_4 (by decide) (fun c => absurd c (by decide)) (fun _ => ?_)
  refine lv_aload_n hx hb dX0_meet_7 rfl (lv_at hl 0 rfl) ?_
  refine lv_iload_n hx hb dX0_meet_8 rfl (lv_at hl 2 rfl) ?_
  refine lv_iload_n hx hb dX0_meet_9 rfl (lv_at hl 3 rfl) ?_
  refine lv_lload hx hb dX0_meet_10 (lv_at hl 4 rfl) ?_
  refine x_vv E h (na := 3) (As := [.int 0, .int 0, .long 0]) (kX0_meetNear_0 l g _  fI_13 fI_14 fI_15 fI_16) (oc_al g) rfl gX0_meet_X0_meetNear rfl ⟨rfl, rfl⟩ rfl (by decide +kernel) ⟨Nat.le_of_ble_eq_true rfl, Nat.le_of_ble_eq_true rfl⟩ hl.1 rfl (Nat.le_of_ble_eq_true rfl) dX0_meet_12 ⟨Nat.le_of_ble_eq_true rfl, Nat.le_of_ble_eq_true rfl⟩ (fun s1 H locs q1 h => ?_)
  rcases q1 with rfl
  refine lv_goto (tgt := 84) hx hb dX0_meet_15 (by decide) ?_
  exact x_vret E h rfl dX0_meet_84
set_option maxHeartbeats 4000000 in
set_option maxRecDepth 100000 in
theorem kX0_deal_1 (l : Launch) (g : CX) (σ : ST) (fI_9 : σ.1 9 = 0) (fI_11 : σ.1 11 = 0) (fI_12 : σ.1 12 = 1) (fI_13 : σ.1 13 = 0) (fI_14 : σ.1 14 = 0) (fI_15 : σ.1 15 = 9) (fI_16 : σ.1 16 = 0) : XM l g yX0_deal wsX0_deal { frames := 3, cells := 0, slots := 0, locals := 71 } [.ref (g.2.1 47), .ref (g.2.1 25), .int 0, .int 0, .int 0, .long 0] σ (XQv g (fun σ' => ((sL (sL (sI (sI (sI σ 14 1) 15 0) 16 0) 0 ((σ.2.1 0) &&& 0)) 1 ((σ.2.1 1) ||| 0)) = σ'))) := by
  refine x_met (own := RX0) (cc := cX0_deal) (maxL := 9) (ret := none) (lv := [(0, .ref (g.2.1 47)), (1, .ref (g.2.1 25)), (2, .int 0), (3, .int 0), (4, .int 0), (5, .long 0)]) (by decide) rfl rfl (Nat.le_of_ble_eq_true rfl) rfl ?_
  intro p e s m args below meth c ls E h hl
  have hx := E.1
  have hb := E.2.1
  have hown := E.2.2.2.1
  have hts := E.2.2.2.2.1
  have hwX1 : ∀ w ∈ wsX10, w ∈ wsX0_deal := by decide +kernel
  refine lv_iload_n hx hb dX0_deal_0 rfl (lv_at hl 2 rfl) ?_
  refine lv_aload_n hx hb dX0_deal_1 rfl (lv_at hl 1 rfl) ?_
  refine x_getIN E h (fi_bo_pieces g) rfl hwX1 (by decide) (by decide +kernel) (v := 0) fI_9 dX0_deal_2 ?_
  refine lv_icmp_ge (tgt := 14) hx hb dX0_deal_5 (by decide) (fun _ => ?_) (fun c => absurd (by decide) c)
  refine lv_aload_n hx hb dX0_deal_14 rfl (lv_at hl 0 rfl) ?_
  refine lv_aload_n hx hb dX0_deal_15 rfl (lv_at hl 1 rfl) ?_
  refine x_getIN E h (fi_bo_pieces g) rfl hwX1 (by decide) (by decide +kernel) (v := 0) fI_9 dX0_deal_16 ?_
  refine lv_iload_n hx hb dX0_deal_19 rfl (lv_at hl 3 rfl) ?_
  refine lv_iload hx hb dX0_deal_20 (lv_at hl 4 rfl) ?_
  refine lv_lload hx hb dX0_deal_22 (lv_at hl 5 rfl) ?_
  refine x_vv E h (na := 4) (As := [.int 0, .int 0, .int 0, .long 0]) (kX0_meet_1 l g _  fI_12 fI_13 fI_14 fI_15 fI_16) (oc_al g) rfl gX0_deal_X0_meet rfl ⟨rfl, rfl⟩ rfl (by decide +kernel) ⟨Nat.le_of_ble_eq_true rfl, Nat.le_of_ble_eq_true rfl⟩ hl.1 rfl (Nat.le_of_ble_eq_true rfl) dX0_deal_24 ⟨Nat.le_of_ble_eq_true rfl, Nat.le_of_ble_eq_true rfl⟩ (fun s1 H locs q1 h => ?_)
  rcases q1 with rfl
  exact x_vret E h rfl dX0_deal_27
set_option maxHeartbeats 4000000 in
set_option maxRecDepth 100000 in
theorem kX0_findNear_0 (l : Launch) (g : CX) (σ : ST) (fI_9 : σ.1 9 = 0) (fI_11 : σ.1 11 = 0) : XM l g yX0_findNear wsX0_findNear { frames := 4, cells := 0, slots := 0, locals := 99 } [.ref (g.2.1 47), .ref (g.2.1 25), .int 0] σ (XQv g (fun σ' => ((sL (sL (sI (sI (sI (sA (sL (sL (sI (sI (sI (sI (sI σ 12 1) 13 0) 14 0) 15 9) 16 0) 0 (-1)) 1 0) 45 (fun j => if j < 9 then 0 else (sL (sL (sI (sI (sI (sI (sI σ 12 1) 13 0) 14 0) 15 9) 16 0) 0 (-1)) 1 0).2.2 45 j)) 14 1) 15 0) 16 0) 0 (((sA (sL (sL (sI (sI (sI (sI (sI σ 12 1) 13 0) 14 0) 15 9) 16 0) 0 (-1)) 1 0) 45 (fun j => if j < 9 then 0 else (sL (sL (sI (sI (sI (sI (sI σ 12 1) 13 0) 14 0) 15 9) 16 0) 0 (-1)) 1 0).2.2 45 j)).2.1 0) &&& 0)) 1 (((sA (sL (sL (sI (sI (sI (sI (sI σ 12 1) 13 0) 14 0) 15 9) 16 0) 0 (-1)) 1 0) 45 (fun j => if j < 9 then 0 else (sL (sL (sI (sI (sI (sI (sI σ 12 1) 13 0) 14 0) 15 9) 16 0) 0 (-1)) 1 0).2.2 45 j)).2.1 1) ||| 0)) = σ'))) := by
  refine x_met (own := RX0) (cc := cX0_findNear) (maxL := 3) (ret := none) (lv := [(0, .ref (g.2.1 47)), (1, .ref (g.2.1 25)), (2, .int 0)]) (by decide) rfl rfl (Nat.le_of_ble_eq_true rfl) rfl ?_
  intro p e s m args below meth c ls E h hl
  have hx := E.1
  have hb := E.2.1
  have hown := E.2.2.2.1
  have hts := E.2.2.2.2.1
  have hwX0 : ∀ w ∈ wsX00, w ∈ wsX0_findNear := by decide +kernel
  have hwX4 : ∀ w ∈ wsX40, w ∈ wsX0_findNear := by decide +kernel
  refine lv_aload_n hx hb dX0_findNear_0 rfl (lv_at hl 0 rfl) ?_
  refine lv_iconst (v := 1) hx hb dX0_findNear_1 (by decide) ?_
  refine x_putI E h (ty := .boolean) (v := 1) (fi_al_isForNear g) rfl hwX0 tyX0_ok nmX0 (by decide) (by decide +kernel) (by decide +kernel) (by decide +kernel) rfl rfl dX0_findNear_2 (fun H locs h => ?_)
  refine lv_aload_n hx hb dX0_findNear_5 rfl (lv_at hl 0 rfl) ?_
  refine lv_aload_n hx hb dX0_findNear_6 rfl (lv_at hl 0 rfl) ?_
  refine x_getR E h (fr_al_best g) rfl hwX0 (by decide) (by decide +kernel) dX0_findNear_7 ?_
  refine x_getIN E h (fi_be_value g) rfl hwX4 (by decide) (by decide +kernel) (v := 0) fI_11 dX0_findNear_10 ?_
  refine lv_iload_n hx hb dX0_findNear_13 rfl (lv_at hl 2 rfl) ?_
  refine lv_isub hx hb dX0_findNear_14 ?_
  refine x_topI (v2 := 0) (by decide) ?_
  refine x_putI E h (ty := .int) (v := 0) (fi_al_least g) rfl hwX0 tyX0_ok nmX0 (by decide) (by decide +kernel) (by decide +kernel) (by decide +kernel) rfl rfl dX0_findNear_15 (fun H locs h => ?_)
  refine lv_aload_n hx hb dX0_findNear_18 rfl (lv_at hl 0 rfl) ?_
  refine lv_iconst (v := 0) hx hb dX0_findNear_19 (by decide) ?_
  refine x_putI E h (ty := .int) (v := 0) (fi_al_nearOnes g) rfl hwX0 tyX0_ok nmX0 (by decide) (by decide +kernel) (by decide +kernel) (by decide +kernel) rfl rfl dX0_findNear_20 (fun H locs h => ?_)
  refine lv_aload_n hx hb dX0_findNear_23 rfl (lv_at hl 0 rfl) ?_
  refine lv_bipush (v := 9) hx hb dX0_findNear_24 (by decide) ?_
  refine x_putI E h (ty := .int) (v := 9) (fi_al_fewest g) rfl hwX0 tyX0_ok nmX0 (by decide) (by decide +kernel) (by decide +kernel) (by decide +kernel) rfl rfl dX0_findNear_26 (fun H locs h => ?_)
  refine lv_aload_n hx hb dX0_findNear_29 rfl (lv_at hl 0 rfl) ?_
  refine lv_iconst (v := 0) hx hb dX0_findNear_30 (by decide) ?_
  refine x_putI E h (ty := .int) (v := 0) (fi_al_most g) rfl hwX0 tyX0_ok nmX0 (by decide) (by decide +kernel) (by decide +kernel) (by decide +kernel) rfl rfl dX0_findNear_31 (fun H locs h => ?_)
  refine lv_aload_n hx hb dX0_findNear_34 rfl (lv_at hl 0 rfl) ?_
  refine lv_ldc2 (v := (-1)) hx hb hown (hts (.constantLong RX0 56 (-1)) (by decide +kernel)) dX0_findNear_35 ?_
  refine x_putL E h (ty := .long) (v := (-1)) (fl_al_always g) rfl hwX0 tyX0_ok nmX0 (by decide) (by decide +kernel) (by decide +kernel) (by decide +kernel) rfl rfl dX0_findNear_38 (fun H locs h => ?_)
  refine lv_aload_n hx hb dX0_findNear_41 rfl (lv_at hl 0 rfl) ?_
  refine lv_lconst (v := 0) hx hb dX0_findNear_42 (by decide) ?_
  refine x_putL E h (ty := .long) (v := 0) (fl_al_ever g) rfl hwX0 tyX0_ok nmX0 (by decide) (by decide +kernel) (by decide +kernel) (by decide +kernel) rfl rfl dX0_findNear_43 (fun H locs h => ?_)
  refine lv_aload_n hx hb dX0_findNear_46 rfl (lv_at hl 0 rfl) ?_
  refine x_getR E h (fr_al_members g) rfl hwX0 (by decide) (by decide +kernel) dX0_findNear_47 ?_
  refine lv_iconst (v := 0) hx hb dX0_findNear_50 (by decide) ?_
  refine x_sv E h (na := 2) (As := [.ref (g.2.1 53), .int 0]) (k_fill l g _ 53 9 45 (ia_al_members g) (by decide) 0) gX0_findNear_J7_fill_53178 rfl ⟨rfl, rfl⟩ rfl (by decide +kernel) ⟨Nat.le_of_ble_eq_true rfl, Nat.le_of_ble_eq_true rfl⟩ hl.1 rfl (Nat.le_of_ble_eq_true rfl) dX0_findNear_51 ⟨Nat.le_of_ble_eq_true rfl, Nat.le_of_ble_eq_true rfl⟩ (fun s1 H locs q1 h => ?_)
  rcases q1 with rfl
  refine lv_aload_n hx hb dX0_findNear_54 rfl (lv_at hl 0 rfl) ?_
  refine lv_aload_n hx hb dX0_findNear_55 rfl (lv_at hl 1 rfl) ?_
  refine lv_iconst (v := 0) hx hb dX0_findNear_56 (by decide) ?_
  refine lv_iconst (v := 0) hx hb dX0_findNear_57 (by decide) ?_
  refine lv_iconst (v := 0) hx hb dX0_findNear_58 (by decide) ?_
  refine lv_lconst (v := 0) hx hb dX0_findNear_59 (by decide) ?_
  refine x_sv E h (na := 6) (As := [.ref (g.2.1 47), .ref (g.2.1 25), .int 0, .int 0, .int 0, .long 0]) (kX0_deal_1 l g _  fI_9 fI_11 rfl rfl rfl rfl rfl) gX0_findNear_X0_deal rfl ⟨rfl, rfl⟩ rfl (by decide +kernel) ⟨Nat.le_of_ble_eq_true rfl, Nat.le_of_ble_eq_true rfl⟩ hl.1 rfl (Nat.le_of_ble_eq_true rfl) dX0_findNear_60 ⟨Nat.le_of_ble_eq_true rfl, Nat.le_of_ble_eq_true rfl⟩ (fun s2 H locs q2 h => ?_)
  rcases q2 with rfl
  exact x_vret E h rfl dX0_findNear_63
set_option maxHeartbeats 4000000 in
set_option maxRecDepth 100000 in
theorem kX11_nearNow_0 (l : Launch) (g : CX) (σ : ST) (fA_1_3 : σ.2.2 1 3 = 0) (fI_9 : σ.1 9 = 0) (fI_11 : σ.1 11 = 0) (fI_24 : σ.1 24 = 1) : XM l g yX11_nearNow wsX11_nearNow { frames := 5, cells := 0, slots := 0, locals := 121 } [.ref (g.2.1 0)] σ (XQv g (fun σ' => ((sI (sL (sL (sI (sI (sI (sA (sL (sL (sI (sI (sI (sI (sI σ 12 1) 13 0) 14 0) 15 9) 16 0) 0 (-1)) 1 0) 45 (fun j => if j < 9 then 0 else (sL (sL (sI (sI (sI (sI (sI σ 12 1) 13 0) 14 0) 15 9) 16 0) 0 (-1)) 1 0).2.2 45 j)) 14 1) 15 0) 16 0) 0 (((sA (sL (sL (sI (sI (sI (sI (sI σ 12 1) 13 0) 14 0) 15 9) 16 0) 0 (-1)) 1 0) 45 (fun j => if j < 9 then 0 else (sL (sL (sI (sI (sI (sI (sI σ 12 1) 13 0) 14 0) 15 9) 16 0) 0 (-1)) 1 0).2.2 45 j)).2.1 0) &&& 0)) 1 (((sA (sL (sL (sI (sI (sI (sI (sI σ 12 1) 13 0) 14 0) 15 9) 16 0) 0 (-1)) 1 0) 45 (fun j => if j < 9 then 0 else (sL (sL (sI (sI (sI (sI (sI σ 12 1) 13 0) 14 0) 15 9) 16 0) 0 (-1)) 1 0).2.2 45 j)).2.1 1) ||| 0)) 24 0) = σ'))) := by
  refine x_met (own := RX11) (cc := cX11_nearNow) (maxL := 1) (ret := none) (lv := [(0, .ref (g.2.1 0))]) (by decide) rfl rfl (Nat.le_of_ble_eq_true rfl) rfl ?_
  intro p e s m args below meth c ls E h hl
  have hx := E.1
  have hb := E.2.1
  have hown := E.2.2.2.1
  have hts := E.2.2.2.2.1
  have hwX11 : ∀ w ∈ wsX110, w ∈ wsX11_nearNow := by decide +kernel
  refine lv_aload_n hx hb dX11_nearNow_0 rfl (lv_at hl 0 rfl) ?_
  refine x_getI E h (fi_vh_nearIsOld g) rfl hwX11 (by decide) (by decide +kernel) (v := 1) fI_24 dX11_nearNow_1 ?_
  refine lv_if_eq (tgt := 31) hx hb dX11_nearNow_4 (by decide) (fun c => absurd c (by decide)) (fun _ => ?_)
  refine lv_aload_n hx hb dX11_nearNow_7 rfl (lv_at hl 0 rfl) ?_
  refine x_getR E h (fr_vh_all g) rfl hwX11 (by decide) (by decide +kernel) dX11_nearNow_8 ?_
  refine lv_aload_n hx hb dX11_nearNow_11 rfl (lv_at hl 0 rfl) ?_
  refine x_getR E h (fr_vh_bonds g) rfl hwX11 (by decide) (by decide +kernel) dX11_nearNow_12 ?_
  refine lv_aload_n hx hb dX11_nearNow_15 rfl (lv_at hl 0 rfl) ?_
  refine x_getR E h (fr_vh_ruleText g) rfl hwX11 (by decide) (by decide +kernel) dX11_nearNow_16 ?_
  refine lv_iconst (v := 3) hx hb dX11_nearNow_19 (by decide) ?_
  refine x_vi E h (na := 1) (As := [.int 3]) (kX8_ruleNow_3 l g _  fA_1_3) (oc_rt g) rfl gX11_nearNow_X8_ruleNow rfl ⟨rfl, rfl⟩ rfl (by decide +kernel) ⟨Nat.le_of_ble_eq_true rfl, Nat.le_of_ble_eq_true rfl⟩ hl.1 rfl (Nat.le_of_ble_eq_true rfl) dX11_nearNow_20 ⟨Nat.le_of_ble_eq_true rfl, Nat.le_of_ble_eq_true rfl⟩ (fun r1 s1 H locs q1 h => ?_)
  rcases q1 with ⟨rfl, rfl⟩
  refine x_vv E h (na := 2) (As := [.ref (g.2.1 25), .int 0]) (kX0_findNear_0 l g _  fI_9 fI_11) (oc_al g) rfl gX11_nearNow_X0_findNear rfl ⟨rfl, rfl⟩ rfl (by decide +kernel) ⟨Nat.le_of_ble_eq_true rfl, Nat.le_of_ble_eq_true rfl⟩ hl.1 rfl (Nat.le_of_ble_eq_true rfl) dX11_nearNow_23 ⟨Nat.le_of_ble_eq_true rfl, Nat.le_of_ble_eq_true rfl⟩ (fun s2 H locs q2 h => ?_)
  rcases q2 with rfl
  refine lv_aload_n hx hb dX11_nearNow_26 rfl (lv_at hl 0 rfl) ?_
  refine lv_iconst (v := 0) hx hb dX11_nearNow_27 (by decide) ?_
  refine x_putI E h (ty := .boolean) (v := 0) (fi_vh_nearIsOld g) rfl hwX11 tyX11_ok nmX11 (by decide) (by decide +kernel) (by decide +kernel) (by decide +kernel) rfl rfl dX11_nearNow_28 (fun H locs h => ?_)
  exact x_vret E h rfl dX11_nearNow_31
set_option maxHeartbeats 4000000 in
set_option maxRecDepth 100000 in
theorem kX11_near_0 (l : Launch) (g : CX) (σ : ST) (p1 : Int32) (fA_1_0 : σ.2.2 1 0 = 20) (fA_1_1 : σ.2.2 1 1 = 10) (fA_1_2 : σ.2.2 1 2 = 40) (fA_1_3 : σ.2.2 1 3 = 0) (fA_1_4 : σ.2.2 1 4 = 0) (fI_2 : σ.1 2 = 0) (fI_22 : σ.1 22 = 1) (fI_23 : σ.1 23 = 1) (fI_24 : σ.1 24 = 1) : XM l g yX11_near wsX11_near { frames := 6, cells := 0, slots := 0, locals := 141 } [.ref (g.2.1 0), .int p1] σ (XQi g (fun r σ' => (bB p1 0 4 = 1 ∧ p1 ≤ 2 ∧ ¬ p1 = 0 ∧ ¬ p1 = 1 ∧ 0 = r ∧ MO σ' σ) ∨ (bB p1 0 4 = 1 ∧ p1 ≤ 2 ∧ ¬ p1 = 0 ∧ p1 = 1 ∧ 0 = r ∧ MO σ' σ) ∨ (bB p1 0 4 = 1 ∧ p1 ≤ 2 ∧ p1 = 0 ∧ 1 = r ∧ MO σ' σ) ∨ (bB p1 0 4 = 1 ∧ ¬ p1 ≤ 2 ∧ ¬ (p1 - 3) = 0 ∧ 0 = r ∧ MO σ' σ) ∨ (bB p1 0 4 = 1 ∧ ¬ p1 ≤ 2 ∧ (p1 - 3) = 0 ∧ 0 = r ∧ MO σ' σ) ∨ (bB p1 0 4 = 0 ∧ (-1) = r ∧ MO σ' σ))) := by
  refine x_met (own := RX11) (cc := cX11_near) (maxL := 2) (ret := (some .int)) (lv := [(0, .ref (g.2.1 0)), (1, .int p1)]) (by decide) rfl rfl (Nat.le_of_ble_eq_true rfl) rfl ?_
  intro p e s m args below meth c ls E h hl
  have hx := E.1
  have hb := E.2.1
  have hown := E.2.2.2.1
  have hts := E.2.2.2.2.1
  have hwX0 : ∀ w ∈ wsX00, w ∈ wsX11_near := by decide +kernel
  have hwX11 : ∀ w ∈ wsX110, w ∈ wsX11_near := by decide +kernel
  have hwX4 : ∀ w ∈ wsX40, w ∈ wsX11_near := by decide +kernel
  refine lv_iload_n hx hb dX11_near_0 rfl (lv_at hl 1 rfl) ?_
  refine lv_iconst (v := 0) hx hb dX11_near_1 (by decide) ?_
  refine lv_iconst (v := 4) hx hb dX11_near_2 (by decide) ?_
  refine x_si E h (na := 3) (As := [.int p1, .int 0, .int 4]) (kX11_within_0 l g _ p1 0 4) gX11_near_X11_within rfl ⟨rfl, rfl⟩ rfl (by decide +kernel) ⟨Nat.le_of_ble_eq_true rfl, Nat.le_of_ble_eq_true rfl⟩ hl.1 rfl (Nat.le_of_ble_eq_true rfl) dX11_near_3 ⟨Nat.le_of_ble_eq_true rfl, Nat.le_of_ble_eq_true rfl⟩ (fun r1 s1 H locs q1 h => ?_)
  rcases q1 with ⟨k1_0, rfl, rfl⟩ | ⟨k1_0, rfl, rfl⟩
  · skip
    refine lv_if_ne (tgt := 11) hx hb dX11_near_6 (by decide) (fun _ => ?_) (fun c => absurd c (by decide))
    refine lv_aload_n hx hb dX11_near_11 rfl (lv_at hl 0 rfl) ?_
    refine x_vi E h (na := 0) (As := []) (kX11_heapNow_0 l g _  fA_1_0 fA_1_1 fA_1_2 fA_1_4 fI_2 fI_22 fI_23) (oc_vh g) rfl gX11_near_X11_heapNow rfl ⟨rfl, rfl⟩ rfl (by decide +kernel) ⟨Nat.le_of_ble_eq_true rfl, Nat.le_of_ble_eq_true rfl⟩ hl.1 rfl (Nat.le_of_ble_eq_true rfl) dX11_near_12 ⟨Nat.le_of_ble_eq_true rfl, Nat.le_of_ble_eq_true rfl⟩ (fun r2 s2 H locs q2 h => ?_)
    rcases q2 with ⟨rfl, rfl⟩
    refine lv_if_ne (tgt := 21) hx hb dX11_near_15 (by decide) (fun _ => ?_) (fun c => absurd c (by decide))
    refine lv_iload_n hx hb dX11_near_21 rfl (lv_at hl 1 rfl) ?_
    refine lv_iconst (v := 2) hx hb dX11_near_22 (by decide) ?_
    refine lv_icmp_le (tgt := 37) hx hb dX11_near_23 (by decide) (fun c23_3 => ?_) (fun c23_3 => ?_)
    · skip
      refine lv_aload_n hx hb dX11_near_37 rfl (lv_at hl 0 rfl) ?_
      refine x_vv E h (na := 0) (As := []) (kX11_nearNow_0 l g _  fA_1_3 rfl rfl fI_24) (oc_vh g) rfl gX11_near_X11_nearNow rfl ⟨rfl, rfl⟩ rfl (by decide +kernel) ⟨Nat.le_of_ble_eq_true rfl, Nat.le_of_ble_eq_true rfl⟩ hl.1 rfl (Nat.le_of_ble_eq_true rfl) dX11_near_38 ⟨Nat.le_of_ble_eq_true rfl, Nat.le_of_ble_eq_true rfl⟩ (fun s4 H locs q4 h => ?_)
      rcases q4 with rfl
      refine lv_iload_n hx hb dX11_near_41 rfl (lv_at hl 1 rfl) ?_
      refine lv_if_ne (tgt := 53) hx hb dX11_near_42 (by decide) (fun c42_5 => ?_) (fun c42_5 => ?_)
      · skip
        refine lv_iload_n hx hb dX11_near_53 rfl (lv_at hl 1 rfl) ?_
        refine lv_iconst (v := 1) hx hb dX11_near_54 (by decide) ?_
        refine lv_icmp_ne (tgt := 68) hx hb dX11_near_55 (by decide) (fun c55_6 => ?_) (fun c55_6 => ?_)
        · skip
          refine lv_aload_n hx hb dX11_near_68 rfl (lv_at hl 0 rfl) ?_
          refine x_getR E h (fr_vh_all g) rfl hwX11 (by decide) (by decide +kernel) dX11_near_69 ?_
          refine x_getIN E h (fi_al_most g) rfl hwX0 (by decide) (by decide +kernel) (v := 0) rfl dX11_near_72 ?_
          exact x_iret E h (Or.inl ⟨k1_0, c23_3, c42_5, c55_6, rfl, (MO.refl σ)⟩) dX11_near_75
        · skip
          refine lv_aload_n hx hb dX11_near_58 rfl (lv_at hl 0 rfl) ?_
          refine x_getR E h (fr_vh_all g) rfl hwX11 (by decide) (by decide +kernel) dX11_near_59 ?_
          refine x_getIN E h (fi_al_fewest g) rfl hwX0 (by decide) (by decide +kernel) (v := 0) rfl dX11_near_62 ?_
          refine lv_goto (tgt := 75) hx hb dX11_near_65 (by decide) ?_
          exact x_iret E h (Or.inr (Or.inl ⟨k1_0, c23_3, c42_5, c55_6, rfl, (MO.refl σ)⟩)) dX11_near_75
      · skip
        refine lv_aload_n hx hb dX11_near_45 rfl (lv_at hl 0 rfl) ?_
        refine x_getR E h (fr_vh_all g) rfl hwX11 (by decide) (by decide +kernel) dX11_near_46 ?_
        refine x_getIN E h (fi_al_nearOnes g) rfl hwX0 (by decide) (by decide +kernel) (v := 1) rfl dX11_near_49 ?_
        exact x_iret E h (Or.inr (Or.inr (Or.inl ⟨k1_0, c23_3, c42_5, rfl, (MO.refl σ)⟩))) dX11_near_52
    · skip
      refine lv_aload_n hx hb dX11_near_26 rfl (lv_at hl 0 rfl) ?_
      refine lv_iload_n hx hb dX11_near_27 rfl (lv_at hl 1 rfl) ?_
      refine lv_iconst (v := 3) hx hb dX11_near_28 (by decide) ?_
      refine lv_isub hx hb dX11_near_29 ?_
      refine x_vr E h (na := 1) (As := [.int (p1 - 3)]) (kX11_byWay_0 l g _ (p1 - 3) ) (oc_vh g) rfl gX11_near_X11_byWay rfl ⟨rfl, rfl⟩ rfl (by decide +kernel) ⟨Nat.le_of_ble_eq_true rfl, Nat.le_of_ble_eq_true rfl⟩ hl.1 rfl (Nat.le_of_ble_eq_true rfl) dX11_near_30 ⟨Nat.le_of_ble_eq_true rfl, Nat.le_of_ble_eq_true rfl⟩ (fun r7 s7 H locs q7 h => ?_)
      rcases q7 with ⟨k7_0, rfl, rfl⟩ | ⟨k7_0, rfl, rfl⟩
      · skip
        refine x_getIN E h (fi_jo_heaps g) rfl hwX4 (by decide) (by decide +kernel) (v := 0) rfl dX11_near_33 ?_
        exact x_iret E h (Or.inr (Or.inr (Or.inr (Or.inl ⟨k1_0, c23_3, k7_0, rfl, (MO.refl σ)⟩)))) dX11_near_36
      · skip
        refine x_getIN E h (fi_be_heaps g) rfl hwX4 (by decide) (by decide +kernel) (v := 0) rfl dX11_near_33 ?_
        exact x_iret E h (Or.inr (Or.inr (Or.inr (Or.inr (Or.inl ⟨k1_0, c23_3, k7_0, rfl, (MO.refl σ)⟩))))) dX11_near_36
  · skip
    refine lv_if_ne (tgt := 11) hx hb dX11_near_6 (by decide) (fun c => absurd (by decide) c) (fun _ => ?_)
    refine lv_iconst (v := (-1)) hx hb dX11_near_9 (by decide) ?_
    exact x_iret E h (Or.inr (Or.inr (Or.inr (Or.inr (Or.inr (⟨k1_0, rfl, (MO.refl σ)⟩)))))) dX11_near_10
set_option maxHeartbeats 4000000 in
set_option maxRecDepth 100000 in
theorem kX11_sure_0 (l : Launch) (g : CX) (σ : ST) (p1 : Int32) (p2 : Int32) (fA_1_0 : σ.2.2 1 0 = 20) (fA_1_1 : σ.2.2 1 1 = 10) (fI_2 : σ.1 2 = 0) (fI_22 : σ.1 22 = 1) : XM l g yX11_sure wsX11_sure { frames := 4, cells := 0, slots := 0, locals := 90 } [.ref (g.2.1 0), .int p1, .int p2] σ (XQi g (fun r σ' => (bB p1 0 (-1) = 0 ∧ (-1) = r ∧ MO σ' σ))) := by
  refine x_met (own := RX11) (cc := cX11_sure) (maxL := 3) (ret := (some .int)) (lv := [(0, .ref (g.2.1 0)), (1, .int p1), (2, .int p2)]) (by decide) rfl rfl (Nat.le_of_ble_eq_true rfl) rfl ?_
  intro p e s m args below meth c ls E h hl
  have hx := E.1
  have hb := E.2.1
  have hown := E.2.2.2.1
  have hts := E.2.2.2.2.1
  refine lv_aload_n hx hb dX11_sure_0 rfl (lv_at hl 0 rfl) ?_
  refine lv_iload_n hx hb dX11_sure_1 rfl (lv_at hl 1 rfl) ?_
  refine x_vi E h (na := 1) (As := [.int p1]) (kX11_isPiece_0 l g _ p1 fA_1_0 fA_1_1 fI_2 fI_22) (oc_vh g) rfl gX11_sure_X11_isPiece rfl ⟨rfl, rfl⟩ rfl (by decide +kernel) ⟨Nat.le_of_ble_eq_true rfl, Nat.le_of_ble_eq_true rfl⟩ hl.1 rfl (Nat.le_of_ble_eq_true rfl) dX11_sure_2 ⟨Nat.le_of_ble_eq_true rfl, Nat.le_of_ble_eq_true rfl⟩ (fun r1 s1 H locs q1 h => ?_)
  rcases q1 with ⟨k1_0, rfl, rfl⟩
  refine lv_if_eq (tgt := 21) hx hb dX11_sure_5 (by decide) (fun _ => ?_) (fun c => absurd (by decide) c)
  refine lv_iconst (v := (-1)) hx hb dX11_sure_21 (by decide) ?_
  exact x_iret E h ⟨k1_0, rfl, (MO.refl σ)⟩ dX11_sure_22
set_option maxHeartbeats 4000000 in
set_option maxRecDepth 100000 in
theorem kX11_isHeapNumber_0 (l : Launch) (g : CX) (σ : ST) (p0 : Int32) : XM l g yX11_isHeapNumber wsX11_isHeapNumber { frames := 1, cells := 0, slots := 0, locals := 22 } [.int p0] σ (XQi g (fun r σ' => (bB p0 0 8 = 1 ∧ 1 = r ∧ σ = σ') ∨ (bB p0 0 8 = 0 ∧ 0 = r ∧ σ = σ'))) := by
  refine x_met (own := RX11) (cc := cX11_isHeapNumber) (maxL := 1) (ret := (some .boolean)) (lv := [(0, .int p0)]) (by decide) rfl rfl (Nat.le_of_ble_eq_true rfl) rfl ?_
  intro p e s m args below meth c ls E h hl
  have hx := E.1
  have hb := E.2.1
  have hown := E.2.2.2.1
  have hts := E.2.2.2.2.1
  refine lv_iload_n hx hb dX11_isHeapNumber_0 rfl (lv_at hl 0 rfl) ?_
  refine lv_iconst (v := 0) hx hb dX11_isHeapNumber_1 (by decide) ?_
  refine lv_bipush (v := 8) hx hb dX11_isHeapNumber_2 (by decide) ?_
  refine x_si E h (na := 3) (As := [.int p0, .int 0, .int 8]) (kX11_within_0 l g _ p0 0 8) gX11_isHeapNumber_X11_within rfl ⟨rfl, rfl⟩ rfl (by decide +kernel) ⟨Nat.le_of_ble_eq_true rfl, Nat.le_of_ble_eq_true rfl⟩ hl.1 rfl (Nat.le_of_ble_eq_true rfl) dX11_isHeapNumber_4 ⟨Nat.le_of_ble_eq_true rfl, Nat.le_of_ble_eq_true rfl⟩ (fun r1 s1 H locs q1 h => ?_)
  rcases q1 with ⟨k1_0, rfl, rfl⟩ | ⟨k1_0, rfl, rfl⟩
  · skip
    exact x_zret E h rfl (Or.inl ⟨k1_0, rfl, rfl⟩) dX11_isHeapNumber_7
  · skip
    exact x_zret E h rfl (Or.inr (⟨k1_0, rfl, rfl⟩)) dX11_isHeapNumber_7
set_option maxHeartbeats 4000000 in
set_option maxRecDepth 100000 in
theorem kX11_refusedHeap_0 (l : Launch) (g : CX) (σ : ST) (p1 : Int32) (fA_1_0 : σ.2.2 1 0 = 20) (fA_1_1 : σ.2.2 1 1 = 10) (fA_1_2 : σ.2.2 1 2 = 40) (fA_1_4 : σ.2.2 1 4 = 0) (fI_2 : σ.1 2 = 0) (fI_22 : σ.1 22 = 1) (fI_23 : σ.1 23 = 1) : XM l g yX11_refusedHeap wsX11_refusedHeap { frames := 4, cells := 0, slots := 0, locals := 95 } [.ref (g.2.1 0), .int p1] σ (XQi g (fun r σ' => (0 ≤ p1 ∧ (-1) = r ∧ (sI (sI (sI (sA (sI (sI (sA (sI (sI (sI (sI (sA (sI (sI (sI (sI σ 5 0) 6 0) 7 0) 8 0) 17 (fun j => if j < 48 then (-9) else (sI (sI (sI (sI σ 5 0) 6 0) 7 0) 8 0).2.2 17 j)) 22 0) 9 0) 12 0) 11 (-1000000000)) 45 (fun j => if j < 9 then 0 else (sI (sI (sI (sI (sA (sI (sI (sI (sI σ 5 0) 6 0) 7 0) 8 0) 17 (fun j => if j < 48 then (-9) else (sI (sI (sI (sI σ 5 0) 6 0) 7 0) 8 0).2.2 17 j)) 22 0) 9 0) 12 0) 11 (-1000000000)).2.2 45 j)) 11 0) 10 0) 47 (fun j => if j < 9 then (-9) else (sI (sI (sA (sI (sI (sI (sI (sA (sI (sI (sI (sI σ 5 0) 6 0) 7 0) 8 0) 17 (fun j => if j < 48 then (-9) else (sI (sI (sI (sI σ 5 0) 6 0) 7 0) 8 0).2.2 17 j)) 22 0) 9 0) 12 0) 11 (-1000000000)) 45 (fun j => if j < 9 then 0 else (sI (sI (sI (sI (sA (sI (sI (sI (sI σ 5 0) 6 0) 7 0) 8 0) 17 (fun j => if j < 48 then (-9) else (sI (sI (sI (sI σ 5 0) 6 0) 7 0) 8 0).2.2 17 j)) 22 0) 9 0) 12 0) 11 (-1000000000)).2.2 45 j)) 11 0) 10 0).2.2 47 j)) 17 0) 18 0) 23 0) = σ') ∨ (¬ 0 ≤ p1 ∧ 0 = r ∧ (sI (sI (sI (sA (sI (sI (sA (sI (sI (sI (sI (sA (sI (sI (sI (sI σ 5 0) 6 0) 7 0) 8 0) 17 (fun j => if j < 48 then (-9) else (sI (sI (sI (sI σ 5 0) 6 0) 7 0) 8 0).2.2 17 j)) 22 0) 9 0) 12 0) 11 (-1000000000)) 45 (fun j => if j < 9 then 0 else (sI (sI (sI (sI (sA (sI (sI (sI (sI σ 5 0) 6 0) 7 0) 8 0) 17 (fun j => if j < 48 then (-9) else (sI (sI (sI (sI σ 5 0) 6 0) 7 0) 8 0).2.2 17 j)) 22 0) 9 0) 12 0) 11 (-1000000000)).2.2 45 j)) 11 0) 10 0) 47 (fun j => if j < 9 then (-9) else (sI (sI (sA (sI (sI (sI (sI (sA (sI (sI (sI (sI σ 5 0) 6 0) 7 0) 8 0) 17 (fun j => if j < 48 then (-9) else (sI (sI (sI (sI σ 5 0) 6 0) 7 0) 8 0).2.2 17 j)) 22 0) 9 0) 12 0) 11 (-1000000000)) 45 (fun j => if j < 9 then 0 else (sI (sI (sI (sI (sA (sI (sI (sI (sI σ 5 0) 6 0) 7 0) 8 0) 17 (fun j => if j < 48 then (-9) else (sI (sI (sI (sI σ 5 0) 6 0) 7 0) 8 0).2.2 17 j)) 22 0) 9 0) 12 0) 11 (-1000000000)).2.2 45 j)) 11 0) 10 0).2.2 47 j)) 17 0) 18 0) 23 0) = σ'))) := by
  refine x_met (own := RX11) (cc := cX11_refusedHeap) (maxL := 2) (ret := (some .int)) (lv := [(0, .ref (g.2.1 0)), (1, .int p1)]) (by decide) rfl rfl (Nat.le_of_ble_eq_true rfl) rfl ?_
  intro p e s m args below meth c ls E h hl
  have hx := E.1
  have hb := E.2.1
  have hown := E.2.2.2.1
  have hts := E.2.2.2.2.1
  have hwX0 : ∀ w ∈ wsX00, w ∈ wsX11_refusedHeap := by decide +kernel
  have hwX11 : ∀ w ∈ wsX110, w ∈ wsX11_refusedHeap := by decide +kernel
  have hwX4 : ∀ w ∈ wsX40, w ∈ wsX11_refusedHeap := by decide +kernel
  refine lv_aload_n hx hb dX11_refusedHeap_0 rfl (lv_at hl 0 rfl) ?_
  refine x_vi E h (na := 0) (As := []) (kX11_heapNow_0 l g _  fA_1_0 fA_1_1 fA_1_2 fA_1_4 fI_2 fI_22 fI_23) (oc_vh g) rfl gX11_refusedHeap_X11_heapNow rfl ⟨rfl, rfl⟩ rfl (by decide +kernel) ⟨Nat.le_of_ble_eq_true rfl, Nat.le_of_ble_eq_true rfl⟩ hl.1 rfl (Nat.le_of_ble_eq_true rfl) dX11_refusedHeap_1 ⟨Nat.le_of_ble_eq_true rfl, Nat.le_of_ble_eq_true rfl⟩ (fun r1 s1 H locs q1 h => ?_)
  rcases q1 with ⟨rfl, rfl⟩
  refine lv_if_ne (tgt := 10) hx hb dX11_refusedHeap_4 (by decide) (fun _ => ?_) (fun c => absurd c (by decide))
  refine lv_iload_n hx hb dX11_refusedHeap_10 rfl (lv_at hl 1 rfl) ?_
  refine lv_aload_n hx hb dX11_refusedHeap_11 rfl (lv_at hl 0 rfl) ?_
  refine x_getR E h (fr_vh_all g) rfl hwX11 (by decide) (by decide +kernel) dX11_refusedHeap_12 ?_
  refine x_getRN E h (fr_al_best g) rfl hwX0 (by decide) (by decide +kernel) dX11_refusedHeap_15 ?_
  refine x_getIN E h (fi_be_heaps g) rfl hwX4 (by decide) (by decide +kernel) (v := 0) rfl dX11_refusedHeap_18 ?_
  refine lv_icmp_ge (tgt := 28) hx hb dX11_refusedHeap_21 (by decide) (fun c21_2 => ?_) (fun c21_2 => ?_)
  · skip
    refine lv_iconst (v := (-1)) hx hb dX11_refusedHeap_28 (by decide) ?_
    exact x_iret E h (Or.inl ⟨c21_2, rfl, rfl⟩) dX11_refusedHeap_29
  · skip
    refine lv_iconst (v := 0) hx hb dX11_refusedHeap_24 (by decide) ?_
    refine lv_goto (tgt := 29) hx hb dX11_refusedHeap_25 (by decide) ?_
    exact x_iret E h (Or.inr (⟨c21_2, rfl, rfl⟩)) dX11_refusedHeap_29
set_option maxHeartbeats 4000000 in
set_option maxRecDepth 100000 in
theorem kX11_middle_0 (l : Launch) (g : CX) (σ : ST) (p1 : Int32) (p2 : Int32) (fA_1_0 : σ.2.2 1 0 = 20) (fA_1_1 : σ.2.2 1 1 = 10) (fA_1_2 : σ.2.2 1 2 = 40) (fA_1_4 : σ.2.2 1 4 = 0) (fI_2 : σ.1 2 = 0) (fI_22 : σ.1 22 = 1) (fI_23 : σ.1 23 = 1) : XM l g yX11_middle wsX11_middle { frames := 5, cells := 0, slots := 0, locals := 116 } [.ref (g.2.1 0), .int p1, .int p2] σ (XQi g (fun r σ' => (bB p1 0 8 = 1 ∧ bB p2 0 3 = 1 ∧ 0 ≤ p1 ∧ (-1) = r ∧ MO σ' σ) ∨ (bB p1 0 8 = 1 ∧ bB p2 0 3 = 0 ∧ (-1) = r ∧ MO σ' σ) ∨ (bB p1 0 8 = 0 ∧ (-1) = r ∧ MO σ' σ))) := by
  refine x_met (own := RX11) (cc := cX11_middle) (maxL := 4) (ret := (some .int)) (lv := [(0, .ref (g.2.1 0)), (1, .int p1), (2, .int p2)]) (by decide) rfl rfl (Nat.le_of_ble_eq_true rfl) rfl ?_
  intro p e s m args below meth c ls E h hl
  have hx := E.1
  have hb := E.2.1
  have hown := E.2.2.2.1
  have hts := E.2.2.2.2.1
  refine lv_iload_n hx hb dX11_middle_0 rfl (lv_at hl 1 rfl) ?_
  refine x_si E h (na := 1) (As := [.int p1]) (kX11_isHeapNumber_0 l g _ p1 ) gX11_middle_X11_isHeapNumber rfl ⟨rfl, rfl⟩ rfl (by decide +kernel) ⟨Nat.le_of_ble_eq_true rfl, Nat.le_of_ble_eq_true rfl⟩ hl.1 rfl (Nat.le_of_ble_eq_true rfl) dX11_middle_1 ⟨Nat.le_of_ble_eq_true rfl, Nat.le_of_ble_eq_true rfl⟩ (fun r1 s1 H locs q1 h => ?_)
  rcases q1 with ⟨k1_0, rfl, rfl⟩ | ⟨k1_0, rfl, rfl⟩
  · skip
    refine lv_if_eq (tgt := 16) hx hb dX11_middle_4 (by decide) (fun c => absurd c (by decide)) (fun _ => ?_)
    refine lv_iload_n hx hb dX11_middle_7 rfl (lv_at hl 2 rfl) ?_
    refine lv_iconst (v := 0) hx hb dX11_middle_8 (by decide) ?_
    refine lv_iconst (v := 3) hx hb dX11_middle_9 (by decide) ?_
    refine x_si E h (na := 3) (As := [.int p2, .int 0, .int 3]) (kX11_within_0 l g _ p2 0 3) gX11_middle_X11_within rfl ⟨rfl, rfl⟩ rfl (by decide +kernel) ⟨Nat.le_of_ble_eq_true rfl, Nat.le_of_ble_eq_true rfl⟩ hl.1 rfl (Nat.le_of_ble_eq_true rfl) dX11_middle_10 ⟨Nat.le_of_ble_eq_true rfl, Nat.le_of_ble_eq_true rfl⟩ (fun r2 s2 H locs q2 h => ?_)
    rcases q2 with ⟨k2_0, rfl, rfl⟩ | ⟨k2_0, rfl, rfl⟩
    · skip
      refine lv_if_ne (tgt := 18) hx hb dX11_middle_13 (by decide) (fun _ => ?_) (fun c => absurd c (by decide))
      refine lv_aload_n hx hb dX11_middle_18 rfl (lv_at hl 0 rfl) ?_
      refine lv_iload_n hx hb dX11_middle_19 rfl (lv_at hl 1 rfl) ?_
      refine x_vi E h (na := 1) (As := [.int p1]) (kX11_refusedHeap_0 l g _ p1 fA_1_0 fA_1_1 fA_1_2 fA_1_4 fI_2 fI_22 fI_23) (oc_vh g) rfl gX11_middle_X11_refusedHeap rfl ⟨rfl, rfl⟩ rfl (by decide +kernel) ⟨Nat.le_of_ble_eq_true rfl, Nat.le_of_ble_eq_true rfl⟩ hl.1 rfl (Nat.le_of_ble_eq_true rfl) dX11_middle_20 ⟨Nat.le_of_ble_eq_true rfl, Nat.le_of_ble_eq_true rfl⟩ (fun r3 s3 H locs q3 h => ?_)
      rcases q3 with ⟨k3_0, rfl, rfl⟩ | ⟨k3_0, rfl, rfl⟩
      · skip
        refine lv_istore_n (lv' := [(3, .int (-1)), (0, .ref (g.2.1 0)), (1, .int p1), (2, .int p2)]) hx hb dX11_middle_23 rfl hl (by decide) rfl (fun ls hl => ?_)
        refine lv_iload_n hx hb dX11_middle_24 rfl (lv_at hl 0 rfl) ?_
        refine lv_if_ge (tgt := 32) hx hb dX11_middle_25 (by decide) (fun c => absurd c (by decide)) (fun _ => ?_)
        refine lv_iload_n hx hb dX11_middle_28 rfl (lv_at hl 0 rfl) ?_
        refine lv_goto (tgt := 44) hx hb dX11_middle_29 (by decide) ?_
        exact x_iret E h (Or.inl ⟨k1_0, k2_0, k3_0, rfl, (MO.refl σ)⟩) dX11_middle_44
      · exact absurd trivial (fun _ => (bB_ge k1_0 k3_0))
    · skip
      refine lv_if_ne (tgt := 18) hx hb dX11_middle_13 (by decide) (fun c => absurd (by decide) c) (fun _ => ?_)
      refine lv_iconst (v := (-1)) hx hb dX11_middle_16 (by decide) ?_
      exact x_iret E h (Or.inr (Or.inl ⟨k1_0, k2_0, rfl, (MO.refl σ)⟩)) dX11_middle_17
  · skip
    refine lv_if_eq (tgt := 16) hx hb dX11_middle_4 (by decide) (fun _ => ?_) (fun c => absurd (by decide) c)
    refine lv_iconst (v := (-1)) hx hb dX11_middle_16 (by decide) ?_
    exact x_iret E h (Or.inr (Or.inr (⟨k1_0, rfl, (MO.refl σ)⟩))) dX11_middle_17
set_option maxHeartbeats 4000000 in
set_option maxRecDepth 100000 in
theorem kX11_twice_0 (l : Launch) (g : CX) (σ : ST) (p1 : Int32) (p2 : Int32) (fA_1_0 : σ.2.2 1 0 = 20) (fA_1_1 : σ.2.2 1 1 = 10) (fI_2 : σ.1 2 = 0) (fI_22 : σ.1 22 = 1) : XM l g yX11_twice wsX11_twice { frames := 4, cells := 0, slots := 0, locals := 90 } [.ref (g.2.1 0), .int p1, .int p2] σ (XQi g (fun r σ' => (bB p1 0 (-1) = 0 ∧ (-1) = r ∧ MO σ' σ))) := by
  refine x_met (own := RX11) (cc := cX11_twice) (maxL := 4) (ret := (some .int)) (lv := [(0, .ref (g.2.1 0)), (1, .int p1), (2, .int p2)]) (by decide) rfl rfl (Nat.le_of_ble_eq_true rfl) rfl ?_
  intro p e s m args below meth c ls E h hl
  have hx := E.1
  have hb := E.2.1
  have hown := E.2.2.2.1
  have hts := E.2.2.2.2.1
  refine lv_aload_n hx hb dX11_twice_0 rfl (lv_at hl 0 rfl) ?_
  refine lv_iload_n hx hb dX11_twice_1 rfl (lv_at hl 1 rfl) ?_
  refine x_vi E h (na := 1) (As := [.int p1]) (kX11_isPiece_0 l g _ p1 fA_1_0 fA_1_1 fI_2 fI_22) (oc_vh g) rfl gX11_twice_X11_isPiece rfl ⟨rfl, rfl⟩ rfl (by decide +kernel) ⟨Nat.le_of_ble_eq_true rfl, Nat.le_of_ble_eq_true rfl⟩ hl.1 rfl (Nat.le_of_ble_eq_true rfl) dX11_twice_2 ⟨Nat.le_of_ble_eq_true rfl, Nat.le_of_ble_eq_true rfl⟩ (fun r1 s1 H locs q1 h => ?_)
  rcases q1 with ⟨k1_0, rfl, rfl⟩
  refine lv_if_eq (tgt := 17) hx hb dX11_twice_5 (by decide) (fun _ => ?_) (fun c => absurd (by decide) c)
  refine lv_iconst (v := (-1)) hx hb dX11_twice_17 (by decide) ?_
  exact x_iret E h ⟨k1_0, rfl, (MO.refl σ)⟩ dX11_twice_18
set_option maxHeartbeats 4000000 in
set_option maxRecDepth 100000 in
theorem kX11_keep_0 (l : Launch) (g : CX) (σ : ST) (p1 : Int32) (p2 : Int32) (fA_1_0 : σ.2.2 1 0 = 20) (fA_1_1 : σ.2.2 1 1 = 10) (fA_1_2 : σ.2.2 1 2 = 40) (fA_1_4 : σ.2.2 1 4 = 0) (fI_2 : σ.1 2 = 0) (fI_22 : σ.1 22 = 1) (fI_23 : σ.1 23 = 1) : XM l g yX11_keep wsX11_keep { frames := 5, cells := 0, slots := 0, locals := 116 } [.ref (g.2.1 0), .int p1, .int p2] σ (XQi g (fun r σ' => (bB p1 0 8 = 1 ∧ bB p2 1 99 = 1 ∧ 0 ≤ p1 ∧ (-1) = r ∧ MO σ' σ) ∨ (bB p1 0 8 = 1 ∧ bB p2 1 99 = 0 ∧ (-1) = r ∧ MO σ' σ) ∨ (bB p1 0 8 = 0 ∧ (-1) = r ∧ MO σ' σ))) := by
  refine x_met (own := RX11) (cc := cX11_keep) (maxL := 4) (ret := (some .int)) (lv := [(0, .ref (g.2.1 0)), (1, .int p1), (2, .int p2)]) (by decide) rfl rfl (Nat.le_of_ble_eq_true rfl) rfl ?_
  intro p e s m args below meth c ls E h hl
  have hx := E.1
  have hb := E.2.1
  have hown := E.2.2.2.1
  have hts := E.2.2.2.2.1
  refine lv_iload_n hx hb dX11_keep_0 rfl (lv_at hl 1 rfl) ?_
  refine x_si E h (na := 1) (As := [.int p1]) (kX11_isHeapNumber_0 l g _ p1 ) gX11_keep_X11_isHeapNumber rfl ⟨rfl, rfl⟩ rfl (by decide +kernel) ⟨Nat.le_of_ble_eq_true rfl, Nat.le_of_ble_eq_true rfl⟩ hl.1 rfl (Nat.le_of_ble_eq_true rfl) dX11_keep_1 ⟨Nat.le_of_ble_eq_true rfl, Nat.le_of_ble_eq_true rfl⟩ (fun r1 s1 H locs q1 h => ?_)
  rcases q1 with ⟨k1_0, rfl, rfl⟩ | ⟨k1_0, rfl, rfl⟩
  · skip
    refine lv_if_eq (tgt := 17) hx hb dX11_keep_4 (by decide) (fun c => absurd c (by decide)) (fun _ => ?_)
    refine lv_iload_n hx hb dX11_keep_7 rfl (lv_at hl 2 rfl) ?_
    refine lv_iconst (v := 1) hx hb dX11_keep_8 (by decide) ?_
    refine lv_bipush (v := 99) hx hb dX11_keep_9 (by decide) ?_
    refine x_si E h (na := 3) (As := [.int p2, .int 1, .int 99]) (kX11_within_0 l g _ p2 1 99) gX11_keep_X11_within rfl ⟨rfl, rfl⟩ rfl (by decide +kernel) ⟨Nat.le_of_ble_eq_true rfl, Nat.le_of_ble_eq_true rfl⟩ hl.1 rfl (Nat.le_of_ble_eq_true rfl) dX11_keep_11 ⟨Nat.le_of_ble_eq_true rfl, Nat.le_of_ble_eq_true rfl⟩ (fun r2 s2 H locs q2 h => ?_)
    rcases q2 with ⟨k2_0, rfl, rfl⟩ | ⟨k2_0, rfl, rfl⟩
    · skip
      refine lv_if_ne (tgt := 19) hx hb dX11_keep_14 (by decide) (fun _ => ?_) (fun c => absurd c (by decide))
      refine lv_aload_n hx hb dX11_keep_19 rfl (lv_at hl 0 rfl) ?_
      refine lv_iload_n hx hb dX11_keep_20 rfl (lv_at hl 1 rfl) ?_
      refine x_vi E h (na := 1) (As := [.int p1]) (kX11_refusedHeap_0 l g _ p1 fA_1_0 fA_1_1 fA_1_2 fA_1_4 fI_2 fI_22 fI_23) (oc_vh g) rfl gX11_keep_X11_refusedHeap rfl ⟨rfl, rfl⟩ rfl (by decide +kernel) ⟨Nat.le_of_ble_eq_true rfl, Nat.le_of_ble_eq_true rfl⟩ hl.1 rfl (Nat.le_of_ble_eq_true rfl) dX11_keep_21 ⟨Nat.le_of_ble_eq_true rfl, Nat.le_of_ble_eq_true rfl⟩ (fun r3 s3 H locs q3 h => ?_)
      rcases q3 with ⟨k3_0, rfl, rfl⟩ | ⟨k3_0, rfl, rfl⟩
      · skip
        refine lv_istore_n (lv' := [(3, .int (-1)), (0, .ref (g.2.1 0)), (1, .int p1), (2, .int p2)]) hx hb dX11_keep_24 rfl hl (by decide) rfl (fun ls hl => ?_)
        refine lv_iload_n hx hb dX11_keep_25 rfl (lv_at hl 0 rfl) ?_
        refine lv_if_ge (tgt := 31) hx hb dX11_keep_26 (by decide) (fun c => absurd c (by decide)) (fun _ => ?_)
        refine lv_iload_n hx hb dX11_keep_29 rfl (lv_at hl 0 rfl) ?_
        exact x_iret E h (Or.inl ⟨k1_0, k2_0, k3_0, rfl, (MO.refl σ)⟩) dX11_keep_30
      · exact absurd trivial (fun _ => (bB_ge k1_0 k3_0))
    · skip
      refine lv_if_ne (tgt := 19) hx hb dX11_keep_14 (by decide) (fun c => absurd (by decide) c) (fun _ => ?_)
      refine lv_iconst (v := (-1)) hx hb dX11_keep_17 (by decide) ?_
      exact x_iret E h (Or.inr (Or.inl ⟨k1_0, k2_0, rfl, (MO.refl σ)⟩)) dX11_keep_18
  · skip
    refine lv_if_eq (tgt := 17) hx hb dX11_keep_4 (by decide) (fun _ => ?_) (fun c => absurd (by decide) c)
    refine lv_iconst (v := (-1)) hx hb dX11_keep_17 (by decide) ?_
    exact x_iret E h (Or.inr (Or.inr (⟨k1_0, rfl, (MO.refl σ)⟩))) dX11_keep_18
set_option maxHeartbeats 4000000 in
set_option maxRecDepth 100000 in
theorem kX5_has_0 (l : Launch) (g : CX) (σ : ST) (p1 : Int32) (fI_19 : σ.1 19 = 0) : XM l g yX5_has wsX5_has { frames := 0, cells := 0, slots := 0, locals := 0 } [.ref (g.2.1 58), .int p1] σ (XQi g (fun r σ' => (p1 < 0 ∧ 0 = r ∧ σ = σ') ∨ (¬ p1 < 0 ∧ 0 = r ∧ σ = σ'))) := by
  refine x_met (own := RX5) (cc := cX5_has) (maxL := 2) (ret := (some .boolean)) (lv := [(0, .ref (g.2.1 58)), (1, .int p1)]) (by decide) rfl rfl (Nat.le_of_ble_eq_true rfl) rfl ?_
  intro p e s m args below meth c ls E h hl
  have hx := E.1
  have hb := E.2.1
  have hown := E.2.2.2.1
  have hts := E.2.2.2.2.1
  have hwX5 : ∀ w ∈ wsX50, w ∈ wsX5_has := by decide +kernel
  refine lv_iload_n hx hb dX5_has_0 rfl (lv_at hl 1 rfl) ?_
  refine lv_if_lt (tgt := 22) hx hb dX5_has_1 (by decide) (fun c1_1 => ?_) (fun c1_1 => ?_)
  · skip
    refine lv_iconst (v := 0) hx hb dX5_has_22 (by decide) ?_
    exact x_zret E h rfl (Or.inl ⟨c1_1, rfl, rfl⟩) dX5_has_23
  · skip
    refine lv_iload_n hx hb dX5_has_4 rfl (lv_at hl 1 rfl) ?_
    refine lv_aload_n hx hb dX5_has_5 rfl (lv_at hl 0 rfl) ?_
    refine x_getI E h (fi_ke_voices g) rfl hwX5 (by decide) (by decide +kernel) (v := 0) fI_19 dX5_has_6 ?_
    refine lv_icmp_ge (tgt := 22) hx hb dX5_has_9 (by decide) (fun _ => ?_) (fun c9_2 => absurd trivial (fun _ => (x_ge0 c1_1 c9_2)))
    refine lv_iconst (v := 0) hx hb dX5_has_22 (by decide) ?_
    exact x_zret E h rfl (Or.inr (⟨c1_1, rfl, rfl⟩)) dX5_has_23
set_option maxHeartbeats 4000000 in
set_option maxRecDepth 100000 in
theorem kX11_forget_0 (l : Launch) (g : CX) (σ : ST) (p1 : Int32) (fI_19 : σ.1 19 = 0) : XM l g yX11_forget wsX11_forget { frames := 1, cells := 0, slots := 0, locals := 21 } [.ref (g.2.1 0), .int p1] σ (XQi g (fun r σ' => (p1 < 0 ∧ (-1) = r ∧ MO σ' σ) ∨ (¬ p1 < 0 ∧ (-1) = r ∧ MO σ' σ))) := by
  refine x_met (own := RX11) (cc := cX11_forget) (maxL := 2) (ret := (some .int)) (lv := [(0, .ref (g.2.1 0)), (1, .int p1)]) (by decide) rfl rfl (Nat.le_of_ble_eq_true rfl) rfl ?_
  intro p e s m args below meth c ls E h hl
  have hx := E.1
  have hb := E.2.1
  have hown := E.2.2.2.1
  have hts := E.2.2.2.2.1
  have hwX11 : ∀ w ∈ wsX110, w ∈ wsX11_forget := by decide +kernel
  refine lv_aload_n hx hb dX11_forget_0 rfl (lv_at hl 0 rfl) ?_
  refine x_getR E h (fr_vh_kept g) rfl hwX11 (by decide) (by decide +kernel) dX11_forget_1 ?_
  refine lv_iload_n hx hb dX11_forget_4 rfl (lv_at hl 1 rfl) ?_
  refine x_vi E h (na := 1) (As := [.int p1]) (kX5_has_0 l g _ p1 fI_19) (oc_ke g) rfl gX11_forget_X5_has rfl ⟨rfl, rfl⟩ rfl (by decide +kernel) ⟨Nat.le_of_ble_eq_true rfl, Nat.le_of_ble_eq_true rfl⟩ hl.1 rfl (Nat.le_of_ble_eq_true rfl) dX11_forget_5 ⟨Nat.le_of_ble_eq_true rfl, Nat.le_of_ble_eq_true rfl⟩ (fun r1 s1 H locs q1 h => ?_)
  rcases q1 with ⟨k1_0, rfl, rfl⟩ | ⟨k1_0, rfl, rfl⟩
  · skip
    refine lv_if_eq (tgt := 22) hx hb dX11_forget_8 (by decide) (fun _ => ?_) (fun c => absurd (by decide) c)
    refine lv_iconst (v := (-1)) hx hb dX11_forget_22 (by decide) ?_
    exact x_iret E h (Or.inl ⟨k1_0, rfl, (MO.refl σ)⟩) dX11_forget_23
  · skip
    refine lv_if_eq (tgt := 22) hx hb dX11_forget_8 (by decide) (fun _ => ?_) (fun c => absurd (by decide) c)
    refine lv_iconst (v := (-1)) hx hb dX11_forget_22 (by decide) ?_
    exact x_iret E h (Or.inr (⟨k1_0, rfl, (MO.refl σ)⟩)) dX11_forget_23
set_option maxHeartbeats 4000000 in
set_option maxRecDepth 100000 in
theorem kX11_back_0 (l : Launch) (g : CX) (σ : ST) (p1 : Int32) (p2 : Int32) (fA_1_0 : σ.2.2 1 0 = 20) (fA_1_1 : σ.2.2 1 1 = 10) (fA_1_2 : σ.2.2 1 2 = 40) (fA_1_4 : σ.2.2 1 4 = 0) (fI_2 : σ.1 2 = 0) (fI_22 : σ.1 22 = 1) (fI_23 : σ.1 23 = 1) : XM l g yX11_back wsX11_back { frames := 5, cells := 0, slots := 0, locals := 116 } [.ref (g.2.1 0), .int p1, .int p2] σ (XQi g (fun r σ' => (bB p1 0 8 = 1 ∧ bB p2 0 1 = 1 ∧ 0 ≤ p1 ∧ (-1) = r ∧ MO σ' σ) ∨ (bB p1 0 8 = 1 ∧ bB p2 0 1 = 0 ∧ (-1) = r ∧ MO σ' σ) ∨ (bB p1 0 8 = 0 ∧ (-1) = r ∧ MO σ' σ))) := by
  refine x_met (own := RX11) (cc := cX11_back) (maxL := 5) (ret := (some .int)) (lv := [(0, .ref (g.2.1 0)), (1, .int p1), (2, .int p2)]) (by decide) rfl rfl (Nat.le_of_ble_eq_true rfl) rfl ?_
  intro p e s m args below meth c ls E h hl
  have hx := E.1
  have hb := E.2.1
  have hown := E.2.2.2.1
  have hts := E.2.2.2.2.1
  refine lv_iload_n hx hb dX11_back_0 rfl (lv_at hl 1 rfl) ?_
  refine x_si E h (na := 1) (As := [.int p1]) (kX11_isHeapNumber_0 l g _ p1 ) gX11_back_X11_isHeapNumber rfl ⟨rfl, rfl⟩ rfl (by decide +kernel) ⟨Nat.le_of_ble_eq_true rfl, Nat.le_of_ble_eq_true rfl⟩ hl.1 rfl (Nat.le_of_ble_eq_true rfl) dX11_back_1 ⟨Nat.le_of_ble_eq_true rfl, Nat.le_of_ble_eq_true rfl⟩ (fun r1 s1 H locs q1 h => ?_)
  rcases q1 with ⟨k1_0, rfl, rfl⟩ | ⟨k1_0, rfl, rfl⟩
  · skip
    refine lv_if_eq (tgt := 16) hx hb dX11_back_4 (by decide) (fun c => absurd c (by decide)) (fun _ => ?_)
    refine lv_iload_n hx hb dX11_back_7 rfl (lv_at hl 2 rfl) ?_
    refine lv_iconst (v := 0) hx hb dX11_back_8 (by decide) ?_
    refine lv_iconst (v := 1) hx hb dX11_back_9 (by decide) ?_
    refine x_si E h (na := 3) (As := [.int p2, .int 0, .int 1]) (kX11_within_0 l g _ p2 0 1) gX11_back_X11_within rfl ⟨rfl, rfl⟩ rfl (by decide +kernel) ⟨Nat.le_of_ble_eq_true rfl, Nat.le_of_ble_eq_true rfl⟩ hl.1 rfl (Nat.le_of_ble_eq_true rfl) dX11_back_10 ⟨Nat.le_of_ble_eq_true rfl, Nat.le_of_ble_eq_true rfl⟩ (fun r2 s2 H locs q2 h => ?_)
    rcases q2 with ⟨k2_0, rfl, rfl⟩ | ⟨k2_0, rfl, rfl⟩
    · skip
      refine lv_if_ne (tgt := 18) hx hb dX11_back_13 (by decide) (fun _ => ?_) (fun c => absurd c (by decide))
      refine lv_aload_n hx hb dX11_back_18 rfl (lv_at hl 0 rfl) ?_
      refine lv_iload_n hx hb dX11_back_19 rfl (lv_at hl 1 rfl) ?_
      refine x_vi E h (na := 1) (As := [.int p1]) (kX11_refusedHeap_0 l g _ p1 fA_1_0 fA_1_1 fA_1_2 fA_1_4 fI_2 fI_22 fI_23) (oc_vh g) rfl gX11_back_X11_refusedHeap rfl ⟨rfl, rfl⟩ rfl (by decide +kernel) ⟨Nat.le_of_ble_eq_true rfl, Nat.le_of_ble_eq_true rfl⟩ hl.1 rfl (Nat.le_of_ble_eq_true rfl) dX11_back_20 ⟨Nat.le_of_ble_eq_true rfl, Nat.le_of_ble_eq_true rfl⟩ (fun r3 s3 H locs q3 h => ?_)
      rcases q3 with ⟨k3_0, rfl, rfl⟩ | ⟨k3_0, rfl, rfl⟩
      · skip
        refine lv_istore_n (lv' := [(3, .int (-1)), (0, .ref (g.2.1 0)), (1, .int p1), (2, .int p2)]) hx hb dX11_back_23 rfl hl (by decide) rfl (fun ls hl => ?_)
        refine lv_iload_n hx hb dX11_back_24 rfl (lv_at hl 0 rfl) ?_
        refine lv_if_ge (tgt := 30) hx hb dX11_back_25 (by decide) (fun c => absurd c (by decide)) (fun _ => ?_)
        refine lv_iload_n hx hb dX11_back_28 rfl (lv_at hl 0 rfl) ?_
        exact x_iret E h (Or.inl ⟨k1_0, k2_0, k3_0, rfl, (MO.refl σ)⟩) dX11_back_29
      · exact absurd trivial (fun _ => (bB_ge k1_0 k3_0))
    · skip
      refine lv_if_ne (tgt := 18) hx hb dX11_back_13 (by decide) (fun c => absurd (by decide) c) (fun _ => ?_)
      refine lv_iconst (v := (-1)) hx hb dX11_back_16 (by decide) ?_
      exact x_iret E h (Or.inr (Or.inl ⟨k1_0, k2_0, rfl, (MO.refl σ)⟩)) dX11_back_17
  · skip
    refine lv_if_eq (tgt := 16) hx hb dX11_back_4 (by decide) (fun _ => ?_) (fun c => absurd (by decide) c)
    refine lv_iconst (v := (-1)) hx hb dX11_back_16 (by decide) ?_
    exact x_iret E h (Or.inr (Or.inr (⟨k1_0, rfl, (MO.refl σ)⟩))) dX11_back_17
set_option maxHeartbeats 4000000 in
set_option maxRecDepth 100000 in
theorem kX11_odds_0 (l : Launch) (g : CX) (σ : ST) (p1 : Int32) (p2 : Int32) (p3 : Int32) (fI_19 : σ.1 19 = 0) : XM l g yX11_odds wsX11_odds { frames := 2, cells := 0, slots := 0, locals := 42 } [.ref (g.2.1 0), .int p1, .int p2, .int p3] σ (XQi g (fun r σ' => (bB p1 0 8 = 1 ∧ p2 < 0 ∧ (-1) = r ∧ MO σ' σ) ∨ (bB p1 0 8 = 1 ∧ ¬ p2 < 0 ∧ (-1) = r ∧ MO σ' σ) ∨ (bB p1 0 8 = 0 ∧ (-1) = r ∧ MO σ' σ))) := by
  refine x_met (own := RX11) (cc := cX11_odds) (maxL := 5) (ret := (some .int)) (lv := [(0, .ref (g.2.1 0)), (1, .int p1), (2, .int p2), (3, .int p3)]) (by decide) rfl rfl (Nat.le_of_ble_eq_true rfl) rfl ?_
  intro p e s m args below meth c ls E h hl
  have hx := E.1
  have hb := E.2.1
  have hown := E.2.2.2.1
  have hts := E.2.2.2.2.1
  have hwX11 : ∀ w ∈ wsX110, w ∈ wsX11_odds := by decide +kernel
  refine lv_iload_n hx hb dX11_odds_0 rfl (lv_at hl 1 rfl) ?_
  refine x_si E h (na := 1) (As := [.int p1]) (kX11_isHeapNumber_0 l g _ p1 ) gX11_odds_X11_isHeapNumber rfl ⟨rfl, rfl⟩ rfl (by decide +kernel) ⟨Nat.le_of_ble_eq_true rfl, Nat.le_of_ble_eq_true rfl⟩ hl.1 rfl (Nat.le_of_ble_eq_true rfl) dX11_odds_1 ⟨Nat.le_of_ble_eq_true rfl, Nat.le_of_ble_eq_true rfl⟩ (fun r1 s1 H locs q1 h => ?_)
  rcases q1 with ⟨k1_0, rfl, rfl⟩ | ⟨k1_0, rfl, rfl⟩
  · skip
    refine lv_if_eq (tgt := 27) hx hb dX11_odds_4 (by decide) (fun c => absurd c (by decide)) (fun _ => ?_)
    refine lv_aload_n hx hb dX11_odds_7 rfl (lv_at hl 0 rfl) ?_
    refine x_getR E h (fr_vh_kept g) rfl hwX11 (by decide) (by decide +kernel) dX11_odds_8 ?_
    refine lv_iload_n hx hb dX11_odds_11 rfl (lv_at hl 2 rfl) ?_
    refine x_vi E h (na := 1) (As := [.int p2]) (kX5_has_0 l g _ p2 fI_19) (oc_ke g) rfl gX11_odds_X5_has rfl ⟨rfl, rfl⟩ rfl (by decide +kernel) ⟨Nat.le_of_ble_eq_true rfl, Nat.le_of_ble_eq_true rfl⟩ hl.1 rfl (Nat.le_of_ble_eq_true rfl) dX11_odds_12 ⟨Nat.le_of_ble_eq_true rfl, Nat.le_of_ble_eq_true rfl⟩ (fun r2 s2 H locs q2 h => ?_)
    rcases q2 with ⟨k2_0, rfl, rfl⟩ | ⟨k2_0, rfl, rfl⟩
    · skip
      refine lv_if_eq (tgt := 27) hx hb dX11_odds_15 (by decide) (fun _ => ?_) (fun c => absurd (by decide) c)
      refine lv_iconst (v := (-1)) hx hb dX11_odds_27 (by decide) ?_
      exact x_iret E h (Or.inl ⟨k1_0, k2_0, rfl, (MO.refl σ)⟩) dX11_odds_28
    · skip
      refine lv_if_eq (tgt := 27) hx hb dX11_odds_15 (by decide) (fun _ => ?_) (fun c => absurd (by decide) c)
      refine lv_iconst (v := (-1)) hx hb dX11_odds_27 (by decide) ?_
      exact x_iret E h (Or.inr (Or.inl ⟨k1_0, k2_0, rfl, (MO.refl σ)⟩)) dX11_odds_28
  · skip
    refine lv_if_eq (tgt := 27) hx hb dX11_odds_4 (by decide) (fun _ => ?_) (fun c => absurd (by decide) c)
    refine lv_iconst (v := (-1)) hx hb dX11_odds_27 (by decide) ?_
    exact x_iret E h (Or.inr (Or.inr (⟨k1_0, rfl, (MO.refl σ)⟩))) dX11_odds_28
set_option maxHeartbeats 4000000 in
set_option maxRecDepth 100000 in
theorem kX11_show_0 (l : Launch) (g : CX) (σ : ST) (fA_1_0 : σ.2.2 1 0 = 20) (fA_1_1 : σ.2.2 1 1 = 10) (fA_1_2 : σ.2.2 1 2 = 40) (fA_1_4 : σ.2.2 1 4 = 0) (fI_2 : σ.1 2 = 0) (fI_22 : σ.1 22 = 1) (fI_23 : σ.1 23 = 1) : XM l g yX11_show wsX11_show { frames := 4, cells := 0, slots := 0, locals := 95 } [.ref (g.2.1 0)] σ (XQi g (fun r σ' => (0 = r ∧ MO σ' σ))) := by
  refine x_met (own := RX11) (cc := cX11_show) (maxL := 2) (ret := (some .int)) (lv := [(0, .ref (g.2.1 0))]) (by decide) rfl rfl (Nat.le_of_ble_eq_true rfl) rfl ?_
  intro p e s m args below meth c ls E h hl
  have hx := E.1
  have hb := E.2.1
  have hown := E.2.2.2.1
  have hts := E.2.2.2.2.1
  have hwX11 : ∀ w ∈ wsX110, w ∈ wsX11_show := by decide +kernel
  have hwX7 : ∀ w ∈ wsX70, w ∈ wsX11_show := by decide +kernel
  refine lv_aload_n hx hb dX11_show_0 rfl (lv_at hl 0 rfl) ?_
  refine x_vi E h (na := 0) (As := []) (kX11_heapNow_0 l g _  fA_1_0 fA_1_1 fA_1_2 fA_1_4 fI_2 fI_22 fI_23) (oc_vh g) rfl gX11_show_X11_heapNow rfl ⟨rfl, rfl⟩ rfl (by decide +kernel) ⟨Nat.le_of_ble_eq_true rfl, Nat.le_of_ble_eq_true rfl⟩ hl.1 rfl (Nat.le_of_ble_eq_true rfl) dX11_show_1 ⟨Nat.le_of_ble_eq_true rfl, Nat.le_of_ble_eq_true rfl⟩ (fun r1 s1 H locs q1 h => ?_)
  rcases q1 with ⟨rfl, rfl⟩
  refine lv_if_ne (tgt := 10) hx hb dX11_show_4 (by decide) (fun _ => ?_) (fun c => absurd c (by decide))
  refine lv_iconst (v := 0) hx hb dX11_show_10 (by decide) ?_
  refine lv_istore_n (lv' := [(1, .int 0), (0, .ref (g.2.1 0))]) hx hb dX11_show_11 rfl hl (by decide) rfl (fun ls hl => ?_)
  refine lv_iload_n hx hb dX11_show_12 rfl (lv_at hl 0 rfl) ?_
  refine lv_aload_n hx hb dX11_show_13 rfl (lv_at hl 1 rfl) ?_
  refine x_getR E h (fr_vh_book g) rfl hwX11 (by decide) (by decide +kernel) dX11_show_14 ?_
  refine x_getIN E h (fi_bk_rows g) rfl hwX7 (by decide) (by decide +kernel) (v := 0) fI_2 dX11_show_17 ?_
  refine lv_icmp_ge (tgt := 40) hx hb dX11_show_20 (by decide) (fun _ => ?_) (fun c => absurd (by decide) c)
  refine lv_aload_n hx hb dX11_show_40 rfl (lv_at hl 1 rfl) ?_
  refine lv_aload_n hx hb dX11_show_41 rfl (lv_at hl 1 rfl) ?_
  refine x_getR E h (fr_vh_book g) rfl hwX11 (by decide) (by decide +kernel) dX11_show_42 ?_
  refine x_getIN E h (fi_bk_rows g) rfl hwX7 (by decide) (by decide +kernel) (v := 0) fI_2 dX11_show_45 ?_
  refine x_putI E h (ty := .int) (v := 0) (fi_vh_shownRows g) rfl hwX11 tyX11_ok nmX11 (by decide) (by decide +kernel) (by decide +kernel) (by decide +kernel) rfl rfl dX11_show_48 (fun H locs h => ?_)
  refine lv_aload_n hx hb dX11_show_51 rfl (lv_at hl 1 rfl) ?_
  refine x_getI E h (fi_vh_shownRows g) rfl hwX11 (by decide) (by decide +kernel) (v := 0) rfl dX11_show_52 ?_
  exact x_iret E h ⟨rfl, (MO.refl σ)⟩ dX11_show_55
set_option maxHeartbeats 4000000 in
set_option maxRecDepth 100000 in
theorem kX11_otherwise_0 (l : Launch) (g : CX) (σ : ST) (fI_21 : σ.1 21 = (-1)) : XM l g yX11_otherwise wsX11_otherwise { frames := 0, cells := 0, slots := 0, locals := 0 } [.ref (g.2.1 0)] σ (XQi g (fun r σ' => ((-2) = r ∧ MO σ' σ))) := by
  refine x_met (own := RX11) (cc := cX11_otherwise) (maxL := 3) (ret := (some .int)) (lv := [(0, .ref (g.2.1 0))]) (by decide) rfl rfl (Nat.le_of_ble_eq_true rfl) rfl ?_
  intro p e s m args below meth c ls E h hl
  have hx := E.1
  have hb := E.2.1
  have hown := E.2.2.2.1
  have hts := E.2.2.2.2.1
  have hwX11 : ∀ w ∈ wsX110, w ∈ wsX11_otherwise := by decide +kernel
  refine lv_aload_n hx hb dX11_otherwise_0 rfl (lv_at hl 0 rfl) ?_
  refine x_getI E h (fi_vh_shownRows g) rfl hwX11 (by decide) (by decide +kernel) (v := (-1)) fI_21 dX11_otherwise_1 ?_
  refine lv_iconst (v := (-1)) hx hb dX11_otherwise_4 (by decide) ?_
  refine lv_icmp_eq (tgt := 15) hx hb dX11_otherwise_5 (by decide) (fun _ => ?_) (fun c => absurd (by decide) c)
  refine lv_bipush (v := (-2)) hx hb dX11_otherwise_15 (by decide) ?_
  exact x_iret E h ⟨rfl, (MO.refl σ)⟩ dX11_otherwise_17
set_option maxHeartbeats 4000000 in
set_option maxRecDepth 100000 in
theorem kX11_word_0 (l : Launch) (g : CX) (σ : ST) (p1 : Int32) (p2 : Int32) (fI_2 : σ.1 2 = 0) : XM l g yX11_word wsX11_word { frames := 1, cells := 0, slots := 0, locals := 22 } [.ref (g.2.1 0), .int p1, .int p2] σ (XQi g (fun r σ' => ((-1) = r ∧ MO σ' σ))) := by
  refine x_met (own := RX11) (cc := cX11_word) (maxL := 3) (ret := (some .int)) (lv := [(0, .ref (g.2.1 0)), (1, .int p1), (2, .int p2)]) (by decide) rfl rfl (Nat.le_of_ble_eq_true rfl) rfl ?_
  intro p e s m args below meth c ls E h hl
  have hx := E.1
  have hb := E.2.1
  have hown := E.2.2.2.1
  have hts := E.2.2.2.2.1
  refine lv_aload_n hx hb dX11_word_0 rfl (lv_at hl 0 rfl) ?_
  refine lv_iload_n hx hb dX11_word_1 rfl (lv_at hl 1 rfl) ?_
  refine lv_iload_n hx hb dX11_word_2 rfl (lv_at hl 2 rfl) ?_
  refine x_vi E h (na := 2) (As := [.int p1, .int p2]) (kX11_areRows_0 l g _ p1 p2 fI_2) (oc_vh g) rfl gX11_word_X11_areRows rfl ⟨rfl, rfl⟩ rfl (by decide +kernel) ⟨Nat.le_of_ble_eq_true rfl, Nat.le_of_ble_eq_true rfl⟩ hl.1 rfl (Nat.le_of_ble_eq_true rfl) dX11_word_3 ⟨Nat.le_of_ble_eq_true rfl, Nat.le_of_ble_eq_true rfl⟩ (fun r1 s1 H locs q1 h => ?_)
  rcases q1 with ⟨rfl, rfl⟩
  refine lv_if_eq (tgt := 21) hx hb dX11_word_6 (by decide) (fun _ => ?_) (fun c => absurd (by decide) c)
  refine lv_iconst (v := (-1)) hx hb dX11_word_21 (by decide) ?_
  exact x_iret E h ⟨rfl, (MO.refl σ)⟩ dX11_word_22
set_option maxHeartbeats 4000000 in
set_option maxRecDepth 100000 in
theorem kX11_hung_0 (l : Launch) (g : CX) (σ : ST) (p1 : Int32) (p2 : Int32) (fI_20 : σ.1 20 = 0) : XM l g yX11_hung wsX11_hung { frames := 1, cells := 0, slots := 0, locals := 22 } [.ref (g.2.1 0), .int p1, .int p2] σ (XQi g (fun r σ' => (bB p1 0 (-1) = 0 ∧ (-1) = r ∧ MO σ' σ))) := by
  refine x_met (own := RX11) (cc := cX11_hung) (maxL := 3) (ret := (some .int)) (lv := [(0, .ref (g.2.1 0)), (1, .int p1), (2, .int p2)]) (by decide) rfl rfl (Nat.le_of_ble_eq_true rfl) rfl ?_
  intro p e s m args below meth c ls E h hl
  have hx := E.1
  have hb := E.2.1
  have hown := E.2.2.2.1
  have hts := E.2.2.2.2.1
  have hwX10 : ∀ w ∈ wsX100, w ∈ wsX11_hung := by decide +kernel
  have hwX11 : ∀ w ∈ wsX110, w ∈ wsX11_hung := by decide +kernel
  refine lv_iload_n hx hb dX11_hung_0 rfl (lv_at hl 1 rfl) ?_
  refine lv_iconst (v := 0) hx hb dX11_hung_1 (by decide) ?_
  refine lv_aload_n hx hb dX11_hung_2 rfl (lv_at hl 0 rfl) ?_
  refine x_getR E h (fr_vh_wordBook g) rfl hwX11 (by decide) (by decide +kernel) dX11_hung_3 ?_
  refine x_getIN E h (fi_wb_words g) rfl hwX10 (by decide) (by decide +kernel) (v := 0) fI_20 dX11_hung_6 ?_
  refine lv_iconst (v := 1) hx hb dX11_hung_9 (by decide) ?_
  refine lv_isub hx hb dX11_hung_10 ?_
  refine x_topI (v2 := (-1)) (by decide) ?_
  refine x_si E h (na := 3) (As := [.int p1, .int 0, .int (-1)]) (kX11_within_0 l g _ p1 0 (-1)) gX11_hung_X11_within rfl ⟨rfl, rfl⟩ rfl (by decide +kernel) ⟨Nat.le_of_ble_eq_true rfl, Nat.le_of_ble_eq_true rfl⟩ hl.1 rfl (Nat.le_of_ble_eq_true rfl) dX11_hung_11 ⟨Nat.le_of_ble_eq_true rfl, Nat.le_of_ble_eq_true rfl⟩ (fun r1 s1 H locs q1 h => ?_)
  rcases q1 with ⟨k1_0, rfl, rfl⟩ | ⟨k1_0, rfl, rfl⟩
  · exact absurd trivial (fun _ => (bB_n1 k1_0))
  refine lv_if_eq (tgt := 26) hx hb dX11_hung_14 (by decide) (fun _ => ?_) (fun c => absurd (by decide) c)
  refine lv_iconst (v := (-1)) hx hb dX11_hung_26 (by decide) ?_
  exact x_iret E h ⟨k1_0, rfl, (MO.refl σ)⟩ dX11_hung_27
set_option maxHeartbeats 4000000 in
set_option maxRecDepth 100000 in
theorem kX11_truth_0 (l : Launch) (g : CX) (σ : ST) (p1 : Int32) (p2 : Int32) (p3 : Int32) (fI_2 : σ.1 2 = 0) : XM l g yX11_truth wsX11_truth { frames := 1, cells := 0, slots := 0, locals := 22 } [.ref (g.2.1 0), .int p1, .int p2, .int p3] σ (XQi g (fun r σ' => ((-1) = r ∧ MO σ' σ))) := by
  refine x_met (own := RX11) (cc := cX11_truth) (maxL := 4) (ret := (some .int)) (lv := [(0, .ref (g.2.1 0)), (1, .int p1), (2, .int p2), (3, .int p3)]) (by decide) rfl rfl (Nat.le_of_ble_eq_true rfl) rfl ?_
  intro p e s m args below meth c ls E h hl
  have hx := E.1
  have hb := E.2.1
  have hown := E.2.2.2.1
  have hts := E.2.2.2.2.1
  refine lv_aload_n hx hb dX11_truth_0 rfl (lv_at hl 0 rfl) ?_
  refine lv_iload_n hx hb dX11_truth_1 rfl (lv_at hl 1 rfl) ?_
  refine lv_iload_n hx hb dX11_truth_2 rfl (lv_at hl 2 rfl) ?_
  refine x_vi E h (na := 2) (As := [.int p1, .int p2]) (kX11_areRows_0 l g _ p1 p2 fI_2) (oc_vh g) rfl gX11_truth_X11_areRows rfl ⟨rfl, rfl⟩ rfl (by decide +kernel) ⟨Nat.le_of_ble_eq_true rfl, Nat.le_of_ble_eq_true rfl⟩ hl.1 rfl (Nat.le_of_ble_eq_true rfl) dX11_truth_3 ⟨Nat.le_of_ble_eq_true rfl, Nat.le_of_ble_eq_true rfl⟩ (fun r1 s1 H locs q1 h => ?_)
  rcases q1 with ⟨rfl, rfl⟩
  refine lv_if_eq (tgt := 31) hx hb dX11_truth_6 (by decide) (fun _ => ?_) (fun c => absurd (by decide) c)
  refine lv_iconst (v := (-1)) hx hb dX11_truth_31 (by decide) ?_
  exact x_iret E h ⟨rfl, (MO.refl σ)⟩ dX11_truth_32
set_option maxHeartbeats 4000000 in
set_option maxRecDepth 100000 in
theorem kX11_cutNow_1 (l : Launch) (g : CX) (σ : ST) (fI_22 : σ.1 22 = 0) : XM l g yX11_cutNow wsX11_cutNow { frames := 0, cells := 0, slots := 0, locals := 0 } [.ref (g.2.1 0)] σ (XQv g (fun σ' => (σ = σ'))) := by
  refine x_met (own := RX11) (cc := cX11_cutNow) (maxL := 1) (ret := none) (lv := [(0, .ref (g.2.1 0))]) (by decide) rfl rfl (Nat.le_of_ble_eq_true rfl) rfl ?_
  intro p e s m args below meth c ls E h hl
  have hx := E.1
  have hb := E.2.1
  have hown := E.2.2.2.1
  have hts := E.2.2.2.2.1
  have hwX11 : ∀ w ∈ wsX110, w ∈ wsX11_cutNow := by decide +kernel
  refine lv_aload_n hx hb dX11_cutNow_0 rfl (lv_at hl 0 rfl) ?_
  refine x_getI E h (fi_vh_cutIsOld g) rfl hwX11 (by decide) (by decide +kernel) (v := 0) fI_22 dX11_cutNow_1 ?_
  refine lv_if_eq (tgt := 43) hx hb dX11_cutNow_4 (by decide) (fun _ => ?_) (fun c => absurd (by decide) c)
  exact x_vret E h rfl dX11_cutNow_43
set_option maxHeartbeats 4000000 in
set_option maxRecDepth 100000 in
theorem kX11_heapNow_1 (l : Launch) (g : CX) (σ : ST) (fA_1_0 : σ.2.2 1 0 = 20) (fA_1_1 : σ.2.2 1 1 = 10) (fA_1_2 : σ.2.2 1 2 = 40) (fA_1_4 : σ.2.2 1 4 = 0) (fI_2 : σ.1 2 = 0) (fI_5 : σ.1 5 = 0) (fI_22 : σ.1 22 = 0) (fI_23 : σ.1 23 = 1) : XM l g yX11_heapNow wsX11_heapNow { frames := 3, cells := 0, slots := 0, locals := 75 } [.ref (g.2.1 0)] σ (XQi g (fun r σ' => (1 = r ∧ (sI (sI (sI (sA (sI (sI (sA (sI (sI (sI σ 9 0) 12 0) 11 (-1000000000)) 45 (fun j => if j < 9 then 0 else (sI (sI (sI σ 9 0) 12 0) 11 (-1000000000)).2.2 45 j)) 11 0) 10 0) 47 (fun j => if j < 9 then (-9) else (sI (sI (sA (sI (sI (sI σ 9 0) 12 0) 11 (-1000000000)) 45 (fun j => if j < 9 then 0 else (sI (sI (sI σ 9 0) 12 0) 11 (-1000000000)).2.2 45 j)) 11 0) 10 0).2.2 47 j)) 17 0) 18 0) 23 0) = σ'))) := by
  refine x_met (own := RX11) (cc := cX11_heapNow) (maxL := 1) (ret := (some .boolean)) (lv := [(0, .ref (g.2.1 0))]) (by decide) rfl rfl (Nat.le_of_ble_eq_true rfl) rfl ?_
  intro p e s m args below meth c ls E h hl
  have hx := E.1
  have hb := E.2.1
  have hown := E.2.2.2.1
  have hts := E.2.2.2.2.1
  have hwX0 : ∀ w ∈ wsX00, w ∈ wsX11_heapNow := by decide +kernel
  have hwX11 : ∀ w ∈ wsX110, w ∈ wsX11_heapNow := by decide +kernel
  have hwX2 : ∀ w ∈ wsX20, w ∈ wsX11_heapNow := by decide +kernel
  refine lv_aload_n hx hb dX11_heapNow_0 rfl (lv_at hl 0 rfl) ?_
  refine x_vv E h (na := 0) (As := []) (kX11_cutNow_1 l g _  fI_22) (oc_vh g) rfl gX11_heapNow_X11_cutNow rfl ⟨rfl, rfl⟩ rfl (by decide +kernel) ⟨Nat.le_of_ble_eq_true rfl, Nat.le_of_ble_eq_true rfl⟩ hl.1 rfl (Nat.le_of_ble_eq_true rfl) dX11_heapNow_1 ⟨Nat.le_of_ble_eq_true rfl, Nat.le_of_ble_eq_true rfl⟩ (fun s1 H locs q1 h => ?_)
  rcases q1 with rfl
  refine lv_aload_n hx hb dX11_heapNow_4 rfl (lv_at hl 0 rfl) ?_
  refine x_getR E h (fr_vh_cutting g) rfl hwX11 (by decide) (by decide +kernel) dX11_heapNow_5 ?_
  refine x_getIN E h (fi_cu_pieces g) rfl hwX2 (by decide) (by decide +kernel) (v := 0) fI_5 dX11_heapNow_8 ?_
  refine lv_bipush (v := 9) hx hb dX11_heapNow_11 (by decide) ?_
  refine lv_icmp_le (tgt := 18) hx hb dX11_heapNow_13 (by decide) (fun _ => ?_) (fun c => absurd (by decide) c)
  refine lv_aload_n hx hb dX11_heapNow_18 rfl (lv_at hl 0 rfl) ?_
  refine x_getI E h (fi_vh_heapsAreOld g) rfl hwX11 (by decide) (by decide +kernel) (v := 1) fI_23 dX11_heapNow_19 ?_
  refine lv_if_eq (tgt := 101) hx hb dX11_heapNow_22 (by decide) (fun c => absurd c (by decide)) (fun _ => ?_)
  refine lv_aload_n hx hb dX11_heapNow_25 rfl (lv_at hl 0 rfl) ?_
  refine x_getR E h (fr_vh_bonds g) rfl hwX11 (by decide) (by decide +kernel) dX11_heapNow_26 ?_
  refine lv_aload_n hx hb dX11_heapNow_29 rfl (lv_at hl 0 rfl) ?_
  refine x_getR E h (fr_vh_cutting g) rfl hwX11 (by decide) (by decide +kernel) dX11_heapNow_30 ?_
  refine lv_aload_n hx hb dX11_heapNow_33 rfl (lv_at hl 0 rfl) ?_
  refine x_getR E h (fr_vh_ruleText g) rfl hwX11 (by decide) (by decide +kernel) dX11_heapNow_34 ?_
  refine lv_iconst (v := 2) hx hb dX11_heapNow_37 (by decide) ?_
  refine x_vi E h (na := 1) (As := [.int 2]) (kX8_ruleNow_2 l g _  fA_1_2) (oc_rt g) rfl gX11_heapNow_X8_ruleNow rfl ⟨rfl, rfl⟩ rfl (by decide +kernel) ⟨Nat.le_of_ble_eq_true rfl, Nat.le_of_ble_eq_true rfl⟩ hl.1 rfl (Nat.le_of_ble_eq_true rfl) dX11_heapNow_38 ⟨Nat.le_of_ble_eq_true rfl, Nat.le_of_ble_eq_true rfl⟩ (fun r2 s2 H locs q2 h => ?_)
  rcases q2 with ⟨rfl, rfl⟩
  refine lv_aload_n hx hb dX11_heapNow_41 rfl (lv_at hl 0 rfl) ?_
  refine x_getR E h (fr_vh_ruleText g) rfl hwX11 (by decide) (by decide +kernel) dX11_heapNow_42 ?_
  refine lv_iconst (v := 4) hx hb dX11_heapNow_45 (by decide) ?_
  refine x_vi E h (na := 1) (As := [.int 4]) (kX8_ruleNow_4 l g _  fA_1_4) (oc_rt g) rfl gX11_heapNow_X8_ruleNow rfl ⟨rfl, rfl⟩ rfl (by decide +kernel) ⟨Nat.le_of_ble_eq_true rfl, Nat.le_of_ble_eq_true rfl⟩ hl.1 rfl (Nat.le_of_ble_eq_true rfl) dX11_heapNow_46 ⟨Nat.le_of_ble_eq_true rfl, Nat.le_of_ble_eq_true rfl⟩ (fun r3 s3 H locs q3 h => ?_)
  rcases q3 with ⟨rfl, rfl⟩
  refine x_vv E h (na := 3) (As := [.ref (g.2.1 16), .int 40, .int 0]) (kX1_tie_0 l g _  fI_5) (oc_bo g) rfl gX11_heapNow_X1_tie rfl ⟨rfl, rfl⟩ rfl (by decide +kernel) ⟨Nat.le_of_ble_eq_true rfl, Nat.le_of_ble_eq_true rfl⟩ hl.1 rfl (Nat.le_of_ble_eq_true rfl) dX11_heapNow_49 ⟨Nat.le_of_ble_eq_true rfl, Nat.le_of_ble_eq_true rfl⟩ (fun s4 H locs q4 h => ?_)
  rcases q4 with rfl
  refine lv_aload_n hx hb dX11_heapNow_52 rfl (lv_at hl 0 rfl) ?_
  refine x_getR E h (fr_vh_all g) rfl hwX11 (by decide) (by decide +kernel) dX11_heapNow_53 ?_
  refine lv_aload_n hx hb dX11_heapNow_56 rfl (lv_at hl 0 rfl) ?_
  refine x_getR E h (fr_vh_bonds g) rfl hwX11 (by decide) (by decide +kernel) dX11_heapNow_57 ?_
  refine x_vv E h (na := 1) (As := [.ref (g.2.1 25)]) (kX0_findBest_0 l g _  rfl) (oc_al g) rfl gX11_heapNow_X0_findBest rfl ⟨rfl, rfl⟩ rfl (by decide +kernel) ⟨Nat.le_of_ble_eq_true rfl, Nat.le_of_ble_eq_true rfl⟩ hl.1 rfl (Nat.le_of_ble_eq_true rfl) dX11_heapNow_60 ⟨Nat.le_of_ble_eq_true rfl, Nat.le_of_ble_eq_true rfl⟩ (fun s5 H locs q5 h => ?_)
  rcases q5 with rfl
  refine lv_aload_n hx hb dX11_heapNow_63 rfl (lv_at hl 0 rfl) ?_
  refine x_getR E h (fr_vh_all g) rfl hwX11 (by decide) (by decide +kernel) dX11_heapNow_64 ?_
  refine x_getRN E h (fr_al_best g) rfl hwX0 (by decide) (by decide +kernel) dX11_heapNow_67 ?_
  refine lv_aload_n hx hb dX11_heapNow_70 rfl (lv_at hl 0 rfl) ?_
  refine x_getR E h (fr_vh_book g) rfl hwX11 (by decide) (by decide +kernel) dX11_heapNow_71 ?_
  refine lv_aload_n hx hb dX11_heapNow_74 rfl (lv_at hl 0 rfl) ?_
  refine x_getR E h (fr_vh_gathering g) rfl hwX11 (by decide) (by decide +kernel) dX11_heapNow_75 ?_
  refine lv_aload_n hx hb dX11_heapNow_78 rfl (lv_at hl 0 rfl) ?_
  refine x_getR E h (fr_vh_cutting g) rfl hwX11 (by decide) (by decide +kernel) dX11_heapNow_79 ?_
  refine x_vv E h (na := 3) (As := [.ref (g.2.1 5), .ref (g.2.1 10), .ref (g.2.1 16)]) (kX4_findMiddles_0 l g _  rfl) (oc_be g) rfl gX11_heapNow_X4_findMiddles rfl ⟨rfl, rfl⟩ rfl (by decide +kernel) ⟨Nat.le_of_ble_eq_true rfl, Nat.le_of_ble_eq_true rfl⟩ hl.1 rfl (Nat.le_of_ble_eq_true rfl) dX11_heapNow_82 ⟨Nat.le_of_ble_eq_true rfl, Nat.le_of_ble_eq_true rfl⟩ (fun s6 H locs q6 h => ?_)
  rcases q6 with rfl
  refine lv_aload_n hx hb dX11_heapNow_85 rfl (lv_at hl 0 rfl) ?_
  refine x_getR E h (fr_vh_bonds g) rfl hwX11 (by decide) (by decide +kernel) dX11_heapNow_86 ?_
  refine lv_aload_n hx hb dX11_heapNow_89 rfl (lv_at hl 0 rfl) ?_
  refine x_getR E h (fr_vh_joined g) rfl hwX11 (by decide) (by decide +kernel) dX11_heapNow_90 ?_
  refine x_vv E h (na := 1) (As := [.ref (g.2.1 54)]) (kX1_join_0 l g _  rfl) (oc_bo g) rfl gX11_heapNow_X1_join rfl ⟨rfl, rfl⟩ rfl (by decide +kernel) ⟨Nat.le_of_ble_eq_true rfl, Nat.le_of_ble_eq_true rfl⟩ hl.1 rfl (Nat.le_of_ble_eq_true rfl) dX11_heapNow_93 ⟨Nat.le_of_ble_eq_true rfl, Nat.le_of_ble_eq_true rfl⟩ (fun s7 H locs q7 h => ?_)
  rcases q7 with rfl
  refine lv_aload_n hx hb dX11_heapNow_96 rfl (lv_at hl 0 rfl) ?_
  refine lv_iconst (v := 0) hx hb dX11_heapNow_97 (by decide) ?_
  refine x_putI E h (ty := .boolean) (v := 0) (fi_vh_heapsAreOld g) rfl hwX11 tyX11_ok nmX11 (by decide) (by decide +kernel) (by decide +kernel) (by decide +kernel) rfl rfl dX11_heapNow_98 (fun H locs h => ?_)
  refine lv_iconst (v := 1) hx hb dX11_heapNow_101 (by decide) ?_
  exact x_zret E h rfl ⟨rfl, rfl⟩ dX11_heapNow_102
set_option maxHeartbeats 4000000 in
set_option maxRecDepth 100000 in
theorem kX9_countTogether_0 (l : Launch) (g : CX) (σ : ST) (fI_2 : σ.1 2 = 0) : XM l g yX9_countTogether wsX9_countTogether { frames := 1, cells := 0, slots := 0, locals := 23 } [.ref (g.2.1 65), .ref (g.2.1 5), .ref (g.2.1 16), .ref (g.2.1 48)] σ (XQi g (fun r σ' => (0 = r ∧ (sA (sA (sA (sA (sA (sA (sA (sA (sA σ 55 (fun j => if j < 5 then 0 else σ.2.2 55 j)) 56 (fun j => if j < 5 then 0 else (sA σ 55 (fun j => if j < 5 then 0 else σ.2.2 55 j)).2.2 56 j)) 57 (fun j => if j < 5 then 0 else (sA (sA σ 55 (fun j => if j < 5 then 0 else σ.2.2 55 j)) 56 (fun j => if j < 5 then 0 else (sA σ 55 (fun j => if j < 5 then 0 else σ.2.2 55 j)).2.2 56 j)).2.2 57 j)) 58 (fun j => if j < 5 then 0 else (sA (sA (sA σ 55 (fun j => if j < 5 then 0 else σ.2.2 55 j)) 56 (fun j => if j < 5 then 0 else (sA σ 55 (fun j => if j < 5 then 0 else σ.2.2 55 j)).2.2 56 j)) 57 (fun j => if j < 5 then 0 else (sA (sA σ 55 (fun j => if j < 5 then 0 else σ.2.2 55 j)) 56 (fun j => if j < 5 then 0 else (sA σ 55 (fun j => if j < 5 then 0 else σ.2.2 55 j)).2.2 56 j)).2.2 57 j)).2.2 58 j)) 59 (fun j => if j < 5 then 0 else (sA (sA (sA (sA σ 55 (fun j => if j < 5 then 0 else σ.2.2 55 j)) 56 (fun j => if j < 5 then 0 else (sA σ 55 (fun j => if j < 5 then 0 else σ.2.2 55 j)).2.2 56 j)) 57 (fun j => if j < 5 then 0 else (sA (sA σ 55 (fun j => if j < 5 then 0 else σ.2.2 55 j)) 56 (fun j => if j < 5 then 0 else (sA σ 55 (fun j => if j < 5 then 0 else σ.2.2 55 j)).2.2 56 j)).2.2 57 j)) 58 (fun j => if j < 5 then 0 else (sA (sA (sA σ 55 (fun j => if j < 5 then 0 else σ.2.2 55 j)) 56 (fun j => if j < 5 then 0 else (sA σ 55 (fun j => if j < 5 then 0 else σ.2.2 55 j)).2.2 56 j)) 57 (fun j => if j < 5 then 0 else (sA (sA σ 55 (fun j => if j < 5 then 0 else σ.2.2 55 j)) 56 (fun j => if j < 5 then 0 else (sA σ 55 (fun j => if j < 5 then 0 else σ.2.2 55 j)).2.2 56 j)).2.2 57 j)).2.2 58 j)).2.2 59 j)) 60 (fun j => if j < 5 then 0 else (sA (sA (sA (sA (sA σ 55 (fun j => if j < 5 then 0 else σ.2.2 55 j)) 56 (fun j => if j < 5 then 0 else (sA σ 55 (fun j => if j < 5 then 0 else σ.2.2 55 j)).2.2 56 j)) 57 (fun j => if j < 5 then 0 else (sA (sA σ 55 (fun j => if j < 5 then 0 else σ.2.2 55 j)) 56 (fun j => if j < 5 then 0 else (sA σ 55 (fun j => if j < 5 then 0 else σ.2.2 55 j)).2.2 56 j)).2.2 57 j)) 58 (fun j => if j < 5 then 0 else (sA (sA (sA σ 55 (fun j => if j < 5 then 0 else σ.2.2 55 j)) 56 (fun j => if j < 5 then 0 else (sA σ 55 (fun j => if j < 5 then 0 else σ.2.2 55 j)).2.2 56 j)) 57 (fun j => if j < 5 then 0 else (sA (sA σ 55 (fun j => if j < 5 then 0 else σ.2.2 55 j)) 56 (fun j => if j < 5 then 0 else (sA σ 55 (fun j => if j < 5 then 0 else σ.2.2 55 j)).2.2 56 j)).2.2 57 j)).2.2 58 j)) 59 (fun j => if j < 5 then 0 else (sA (sA (sA (sA σ 55 (fun j => if j < 5 then 0 else σ.2.2 55 j)) 56 (fun j => if j < 5 then 0 else (sA σ 55 (fun j => if j < 5 then 0 else σ.2.2 55 j)).2.2 56 j)) 57 (fun j => if j < 5 then 0 else (sA (sA σ 55 (fun j => if j < 5 then 0 else σ.2.2 55 j)) 56 (fun j => if j < 5 then 0 else (sA σ 55 (fun j => if j < 5 then 0 else σ.2.2 55 j)).2.2 56 j)).2.2 57 j)) 58 (fun j => if j < 5 then 0 else (sA (sA (sA σ 55 (fun j => if j < 5 then 0 else σ.2.2 55 j)) 56 (fun j => if j < 5 then 0 else (sA σ 55 (fun j => if j < 5 then 0 else σ.2.2 55 j)).2.2 56 j)) 57 (fun j => if j < 5 then 0 else (sA (sA σ 55 (fun j => if j < 5 then 0 else σ.2.2 55 j)) 56 (fun j => if j < 5 then 0 else (sA σ 55 (fun j => if j < 5 then 0 else σ.2.2 55 j)).2.2 56 j)).2.2 57 j)).2.2 58 j)).2.2 59 j)).2.2 60 j)) 61 (fun j => if j < 5 then 0 else (sA (sA (sA (sA (sA (sA σ 55 (fun j => if j < 5 then 0 else σ.2.2 55 j)) 56 (fun j => if j < 5 then 0 else (sA σ 55 (fun j => if j < 5 then 0 else σ.2.2 55 j)).2.2 56 j)) 57 (fun j => if j < 5 then 0 else (sA (sA σ 55 (fun j => if j < 5 then 0 else σ.2.2 55 j)) 56 (fun j => if j < 5 then 0 else (sA σ 55 (fun j => if j < 5 then 0 else σ.2.2 55 j)).2.2 56 j)).2.2 57 j)) 58 (fun j => if j < 5 then 0 else (sA (sA (sA σ 55 (fun j => if j < 5 then 0 else σ.2.2 55 j)) 56 (fun j => if j < 5 then 0 else (sA σ 55 (fun j => if j < 5 then 0 else σ.2.2 55 j)).2.2 56 j)) 57 (fun j => if j < 5 then 0 else (sA (sA σ 55 (fun j => if j < 5 then 0 else σ.2.2 55 j)) 56 (fun j => if j < 5 then 0 else (sA σ 55 (fun j => if j < 5 then 0 else σ.2.2 55 j)).2.2 56 j)).2.2 57 j)).2.2 58 j)) 59 (fun j => if j < 5 then 0 else (sA (sA (sA (sA σ 55 (fun j => if j < 5 then 0 else σ.2.2 55 j)) 56 (fun j => if j < 5 then 0 else (sA σ 55 (fun j => if j < 5 then 0 else σ.2.2 55 j)).2.2 56 j)) 57 (fun j => if j < 5 then 0 else (sA (sA σ 55 (fun j => if j < 5 then 0 else σ.2.2 55 j)) 56 (fun j => if j < 5 then 0 else (sA σ 55 (fun j => if j < 5 then 0 else σ.2.2 55 j)).2.2 56 j)).2.2 57 j)) 58 (fun j => if j < 5 then 0 else (sA (sA (sA σ 55 (fun j => if j < 5 then 0 else σ.2.2 55 j)) 56 (fun j => if j < 5 then 0 else (sA σ 55 (fun j => if j < 5 then 0 else σ.2.2 55 j)).2.2 56 j)) 57 (fun j => if j < 5 then 0 else (sA (sA σ 55 (fun j => if j < 5 then 0 else σ.2.2 55 j)) 56 (fun j => if j < 5 then 0 else (sA σ 55 (fun j => if j < 5 then 0 else σ.2.2 55 j)).2.2 56 j)).2.2 57 j)).2.2 58 j)).2.2 59 j)) 60 (fun j => if j < 5 then 0 else (sA (sA (sA (sA (sA σ 55 (fun j => if j < 5 then 0 else σ.2.2 55 j)) 56 (fun j => if j < 5 then 0 else (sA σ 55 (fun j => if j < 5 then 0 else σ.2.2 55 j)).2.2 56 j)) 57 (fun j => if j < 5 then 0 else (sA (sA σ 55 (fun j => if j < 5 then 0 else σ.2.2 55 j)) 56 (fun j => if j < 5 then 0 else (sA σ 55 (fun j => if j < 5 then 0 else σ.2.2 55 j)).2.2 56 j)).2.2 57 j)) 58 (fun j => if j < 5 then 0 else (sA (sA (sA σ 55 (fun j => if j < 5 then 0 else σ.2.2 55 j)) 56 (fun j => if j < 5 then 0 else (sA σ 55 (fun j => if j < 5 then 0 else σ.2.2 55 j)).2.2 56 j)) 57 (fun j => if j < 5 then 0 else (sA (sA σ 55 (fun j => if j < 5 then 0 else σ.2.2 55 j)) 56 (fun j => if j < 5 then 0 else (sA σ 55 (fun j => if j < 5 then 0 else σ.2.2 55 j)).2.2 56 j)).2.2 57 j)).2.2 58 j)) 59 (fun j => if j < 5 then 0 else (sA (sA (sA (sA σ 55 (fun j => if j < 5 then 0 else σ.2.2 55 j)) 56 (fun j => if j < 5 then 0 else (sA σ 55 (fun j => if j < 5 then 0 else σ.2.2 55 j)).2.2 56 j)) 57 (fun j => if j < 5 then 0 else (sA (sA σ 55 (fun j => if j < 5 then 0 else σ.2.2 55 j)) 56 (fun j => if j < 5 then 0 else (sA σ 55 (fun j => if j < 5 then 0 else σ.2.2 55 j)).2.2 56 j)).2.2 57 j)) 58 (fun j => if j < 5 then 0 else (sA (sA (sA σ 55 (fun j => if j < 5 then 0 else σ.2.2 55 j)) 56 (fun j => if j < 5 then 0 else (sA σ 55 (fun j => if j < 5 then 0 else σ.2.2 55 j)).2.2 56 j)) 57 (fun j => if j < 5 then 0 else (sA (sA σ 55 (fun j => if j < 5 then 0 else σ.2.2 55 j)) 56 (fun j => if j < 5 then 0 else (sA σ 55 (fun j => if j < 5 then 0 else σ.2.2 55 j)).2.2 56 j)).2.2 57 j)).2.2 58 j)).2.2 59 j)).2.2 60 j)).2.2 61 j)) 62 (fun j => if j < 5 then 0 else (sA (sA (sA (sA (sA (sA (sA σ 55 (fun j => if j < 5 then 0 else σ.2.2 55 j)) 56 (fun j => if j < 5 then 0 else (sA σ 55 (fun j => if j < 5 then 0 else σ.2.2 55 j)).2.2 56 j)) 57 (fun j => if j < 5 then 0 else (sA (sA σ 55 (fun j => if j < 5 then 0 else σ.2.2 55 j)) 56 (fun j => if j < 5 then 0 else (sA σ 55 (fun j => if j < 5 then 0 else σ.2.2 55 j)).2.2 56 j)).2.2 57 j)) 58 (fun j => if j < 5 then 0 else (sA (sA (sA σ 55 (fun j => if j < 5 then 0 else σ.2.2 55 j)) 56 (fun j => if j < 5 then 0 else (sA σ 55 (fun j => if j < 5 then 0 else σ.2.2 55 j)).2.2 56 j)) 57 (fun j => if j < 5 then 0 else (sA (sA σ 55 (fun j => if j < 5 then 0 else σ.2.2 55 j)) 56 (fun j => if j < 5 then 0 else (sA σ 55 (fun j => if j < 5 then 0 else σ.2.2 55 j)).2.2 56 j)).2.2 57 j)).2.2 58 j)) 59 (fun j => if j < 5 then 0 else (sA (sA (sA (sA σ 55 (fun j => if j < 5 then 0 else σ.2.2 55 j)) 56 (fun j => if j < 5 then 0 else (sA σ 55 (fun j => if j < 5 then 0 else σ.2.2 55 j)).2.2 56 j)) 57 (fun j => if j < 5 then 0 else (sA (sA σ 55 (fun j => if j < 5 then 0 else σ.2.2 55 j)) 56 (fun j => if j < 5 then 0 else (sA σ 55 (fun j => if j < 5 then 0 else σ.2.2 55 j)).2.2 56 j)).2.2 57 j)) 58 (fun j => if j < 5 then 0 else (sA (sA (sA σ 55 (fun j => if j < 5 then 0 else σ.2.2 55 j)) 56 (fun j => if j < 5 then 0 else (sA σ 55 (fun j => if j < 5 then 0 else σ.2.2 55 j)).2.2 56 j)) 57 (fun j => if j < 5 then 0 else (sA (sA σ 55 (fun j => if j < 5 then 0 else σ.2.2 55 j)) 56 (fun j => if j < 5 then 0 else (sA σ 55 (fun j => if j < 5 then 0 else σ.2.2 55 j)).2.2 56 j)).2.2 57 j)).2.2 58 j)).2.2 59 j)) 60 (fun j => if j < 5 then 0 else (sA (sA (sA (sA (sA σ 55 (fun j => if j < 5 then 0 else σ.2.2 55 j)) 56 (fun j => if j < 5 then 0 else (sA σ 55 (fun j => if j < 5 then 0 else σ.2.2 55 j)).2.2 56 j)) 57 (fun j => if j < 5 then 0 else (sA (sA σ 55 (fun j => if j < 5 then 0 else σ.2.2 55 j)) 56 (fun j => if j < 5 then 0 else (sA σ 55 (fun j => if j < 5 then 0 else σ.2.2 55 j)).2.2 56 j)).2.2 57 j)) 58 (fun j => if j < 5 then 0 else (sA (sA (sA σ 55 (fun j => if j < 5 then 0 else σ.2.2 55 j)) 56 (fun j => if j < 5 then 0 else (sA σ 55 (fun j => if j < 5 then 0 else σ.2.2 55 j)).2.2 56 j)) 57 (fun j => if j < 5 then 0 else (sA (sA σ 55 (fun j => if j < 5 then 0 else σ.2.2 55 j)) 56 (fun j => if j < 5 then 0 else (sA σ 55 (fun j => if j < 5 then 0 else σ.2.2 55 j)).2.2 56 j)).2.2 57 j)).2.2 58 j)) 59 (fun j => if j < 5 then 0 else (sA (sA (sA (sA σ 55 (fun j => if j < 5 then 0 else σ.2.2 55 j)) 56 (fun j => if j < 5 then 0 else (sA σ 55 (fun j => if j < 5 then 0 else σ.2.2 55 j)).2.2 56 j)) 57 (fun j => if j < 5 then 0 else (sA (sA σ 55 (fun j => if j < 5 then 0 else σ.2.2 55 j)) 56 (fun j => if j < 5 then 0 else (sA σ 55 (fun j => if j < 5 then 0 else σ.2.2 55 j)).2.2 56 j)).2.2 57 j)) 58 (fun j => if j < 5 then 0 else (sA (sA (sA σ 55 (fun j => if j < 5 then 0 else σ.2.2 55 j)) 56 (fun j => if j < 5 then 0 else (sA σ 55 (fun j => if j < 5 then 0 else σ.2.2 55 j)).2.2 56 j)) 57 (fun j => if j < 5 then 0 else (sA (sA σ 55 (fun j => if j < 5 then 0 else σ.2.2 55 j)) 56 (fun j => if j < 5 then 0 else (sA σ 55 (fun j => if j < 5 then 0 else σ.2.2 55 j)).2.2 56 j)).2.2 57 j)).2.2 58 j)).2.2 59 j)).2.2 60 j)) 61 (fun j => if j < 5 then 0 else (sA (sA (sA (sA (sA (sA σ 55 (fun j => if j < 5 then 0 else σ.2.2 55 j)) 56 (fun j => if j < 5 then 0 else (sA σ 55 (fun j => if j < 5 then 0 else σ.2.2 55 j)).2.2 56 j)) 57 (fun j => if j < 5 then 0 else (sA (sA σ 55 (fun j => if j < 5 then 0 else σ.2.2 55 j)) 56 (fun j => if j < 5 then 0 else (sA σ 55 (fun j => if j < 5 then 0 else σ.2.2 55 j)).2.2 56 j)).2.2 57 j)) 58 (fun j => if j < 5 then 0 else (sA (sA (sA σ 55 (fun j => if j < 5 then 0 else σ.2.2 55 j)) 56 (fun j => if j < 5 then 0 else (sA σ 55 (fun j => if j < 5 then 0 else σ.2.2 55 j)).2.2 56 j)) 57 (fun j => if j < 5 then 0 else (sA (sA σ 55 (fun j => if j < 5 then 0 else σ.2.2 55 j)) 56 (fun j => if j < 5 then 0 else (sA σ 55 (fun j => if j < 5 then 0 else σ.2.2 55 j)).2.2 56 j)).2.2 57 j)).2.2 58 j)) 59 (fun j => if j < 5 then 0 else (sA (sA (sA (sA σ 55 (fun j => if j < 5 then 0 else σ.2.2 55 j)) 56 (fun j => if j < 5 then 0 else (sA σ 55 (fun j => if j < 5 then 0 else σ.2.2 55 j)).2.2 56 j)) 57 (fun j => if j < 5 then 0 else (sA (sA σ 55 (fun j => if j < 5 then 0 else σ.2.2 55 j)) 56 (fun j => if j < 5 then 0 else (sA σ 55 (fun j => if j < 5 then 0 else σ.2.2 55 j)).2.2 56 j)).2.2 57 j)) 58 (fun j => if j < 5 then 0 else (sA (sA (sA σ 55 (fun j => if j < 5 then 0 else σ.2.2 55 j)) 56 (fun j => if j < 5 then 0 else (sA σ 55 (fun j => if j < 5 then 0 else σ.2.2 55 j)).2.2 56 j)) 57 (fun j => if j < 5 then 0 else (sA (sA σ 55 (fun j => if j < 5 then 0 else σ.2.2 55 j)) 56 (fun j => if j < 5 then 0 else (sA σ 55 (fun j => if j < 5 then 0 else σ.2.2 55 j)).2.2 56 j)).2.2 57 j)).2.2 58 j)).2.2 59 j)) 60 (fun j => if j < 5 then 0 else (sA (sA (sA (sA (sA σ 55 (fun j => if j < 5 then 0 else σ.2.2 55 j)) 56 (fun j => if j < 5 then 0 else (sA σ 55 (fun j => if j < 5 then 0 else σ.2.2 55 j)).2.2 56 j)) 57 (fun j => if j < 5 then 0 else (sA (sA σ 55 (fun j => if j < 5 then 0 else σ.2.2 55 j)) 56 (fun j => if j < 5 then 0 else (sA σ 55 (fun j => if j < 5 then 0 else σ.2.2 55 j)).2.2 56 j)).2.2 57 j)) 58 (fun j => if j < 5 then 0 else (sA (sA (sA σ 55 (fun j => if j < 5 then 0 else σ.2.2 55 j)) 56 (fun j => if j < 5 then 0 else (sA σ 55 (fun j => if j < 5 then 0 else σ.2.2 55 j)).2.2 56 j)) 57 (fun j => if j < 5 then 0 else (sA (sA σ 55 (fun j => if j < 5 then 0 else σ.2.2 55 j)) 56 (fun j => if j < 5 then 0 else (sA σ 55 (fun j => if j < 5 then 0 else σ.2.2 55 j)).2.2 56 j)).2.2 57 j)).2.2 58 j)) 59 (fun j => if j < 5 then 0 else (sA (sA (sA (sA σ 55 (fun j => if j < 5 then 0 else σ.2.2 55 j)) 56 (fun j => if j < 5 then 0 else (sA σ 55 (fun j => if j < 5 then 0 else σ.2.2 55 j)).2.2 56 j)) 57 (fun j => if j < 5 then 0 else (sA (sA σ 55 (fun j => if j < 5 then 0 else σ.2.2 55 j)) 56 (fun j => if j < 5 then 0 else (sA σ 55 (fun j => if j < 5 then 0 else σ.2.2 55 j)).2.2 56 j)).2.2 57 j)) 58 (fun j => if j < 5 then 0 else (sA (sA (sA σ 55 (fun j => if j < 5 then 0 else σ.2.2 55 j)) 56 (fun j => if j < 5 then 0 else (sA σ 55 (fun j => if j < 5 then 0 else σ.2.2 55 j)).2.2 56 j)) 57 (fun j => if j < 5 then 0 else (sA (sA σ 55 (fun j => if j < 5 then 0 else σ.2.2 55 j)) 56 (fun j => if j < 5 then 0 else (sA σ 55 (fun j => if j < 5 then 0 else σ.2.2 55 j)).2.2 56 j)).2.2 57 j)).2.2 58 j)).2.2 59 j)).2.2 60 j)).2.2 61 j)).2.2 62 j)) 63 (fun j => if j < 5 then 0 else (sA (sA (sA (sA (sA (sA (sA (sA σ 55 (fun j => if j < 5 then 0 else σ.2.2 55 j)) 56 (fun j => if j < 5 then 0 else (sA σ 55 (fun j => if j < 5 then 0 else σ.2.2 55 j)).2.2 56 j)) 57 (fun j => if j < 5 then 0 else (sA (sA σ 55 (fun j => if j < 5 then 0 else σ.2.2 55 j)) 56 (fun j => if j < 5 then 0 else (sA σ 55 (fun j => if j < 5 then 0 else σ.2.2 55 j)).2.2 56 j)).2.2 57 j)) 58 (fun j => if j < 5 then 0 else (sA (sA (sA σ 55 (fun j => if j < 5 then 0 else σ.2.2 55 j)) 56 (fun j => if j < 5 then 0 else (sA σ 55 (fun j => if j < 5 then 0 else σ.2.2 55 j)).2.2 56 j)) 57 (fun j => if j < 5 then 0 else (sA (sA σ 55 (fun j => if j < 5 then 0 else σ.2.2 55 j)) 56 (fun j => if j < 5 then 0 else (sA σ 55 (fun j => if j < 5 then 0 else σ.2.2 55 j)).2.2 56 j)).2.2 57 j)).2.2 58 j)) 59 (fun j => if j < 5 then 0 else (sA (sA (sA (sA σ 55 (fun j => if j < 5 then 0 else σ.2.2 55 j)) 56 (fun j => if j < 5 then 0 else (sA σ 55 (fun j => if j < 5 then 0 else σ.2.2 55 j)).2.2 56 j)) 57 (fun j => if j < 5 then 0 else (sA (sA σ 55 (fun j => if j < 5 then 0 else σ.2.2 55 j)) 56 (fun j => if j < 5 then 0 else (sA σ 55 (fun j => if j < 5 then 0 else σ.2.2 55 j)).2.2 56 j)).2.2 57 j)) 58 (fun j => if j < 5 then 0 else (sA (sA (sA σ 55 (fun j => if j < 5 then 0 else σ.2.2 55 j)) 56 (fun j => if j < 5 then 0 else (sA σ 55 (fun j => if j < 5 then 0 else σ.2.2 55 j)).2.2 56 j)) 57 (fun j => if j < 5 then 0 else (sA (sA σ 55 (fun j => if j < 5 then 0 else σ.2.2 55 j)) 56 (fun j => if j < 5 then 0 else (sA σ 55 (fun j => if j < 5 then 0 else σ.2.2 55 j)).2.2 56 j)).2.2 57 j)).2.2 58 j)).2.2 59 j)) 60 (fun j => if j < 5 then 0 else (sA (sA (sA (sA (sA σ 55 (fun j => if j < 5 then 0 else σ.2.2 55 j)) 56 (fun j => if j < 5 then 0 else (sA σ 55 (fun j => if j < 5 then 0 else σ.2.2 55 j)).2.2 56 j)) 57 (fun j => if j < 5 then 0 else (sA (sA σ 55 (fun j => if j < 5 then 0 else σ.2.2 55 j)) 56 (fun j => if j < 5 then 0 else (sA σ 55 (fun j => if j < 5 then 0 else σ.2.2 55 j)).2.2 56 j)).2.2 57 j)) 58 (fun j => if j < 5 then 0 else (sA (sA (sA σ 55 (fun j => if j < 5 then 0 else σ.2.2 55 j)) 56 (fun j => if j < 5 then 0 else (sA σ 55 (fun j => if j < 5 then 0 else σ.2.2 55 j)).2.2 56 j)) 57 (fun j => if j < 5 then 0 else (sA (sA σ 55 (fun j => if j < 5 then 0 else σ.2.2 55 j)) 56 (fun j => if j < 5 then 0 else (sA σ 55 (fun j => if j < 5 then 0 else σ.2.2 55 j)).2.2 56 j)).2.2 57 j)).2.2 58 j)) 59 (fun j => if j < 5 then 0 else (sA (sA (sA (sA σ 55 (fun j => if j < 5 then 0 else σ.2.2 55 j)) 56 (fun j => if j < 5 then 0 else (sA σ 55 (fun j => if j < 5 then 0 else σ.2.2 55 j)).2.2 56 j)) 57 (fun j => if j < 5 then 0 else (sA (sA σ 55 (fun j => if j < 5 then 0 else σ.2.2 55 j)) 56 (fun j => if j < 5 then 0 else (sA σ 55 (fun j => if j < 5 then 0 else σ.2.2 55 j)).2.2 56 j)).2.2 57 j)) 58 (fun j => if j < 5 then 0 else (sA (sA (sA σ 55 (fun j => if j < 5 then 0 else σ.2.2 55 j)) 56 (fun j => if j < 5 then 0 else (sA σ 55 (fun j => if j < 5 then 0 else σ.2.2 55 j)).2.2 56 j)) 57 (fun j => if j < 5 then 0 else (sA (sA σ 55 (fun j => if j < 5 then 0 else σ.2.2 55 j)) 56 (fun j => if j < 5 then 0 else (sA σ 55 (fun j => if j < 5 then 0 else σ.2.2 55 j)).2.2 56 j)).2.2 57 j)).2.2 58 j)).2.2 59 j)).2.2 60 j)) 61 (fun j => if j < 5 then 0 else (sA (sA (sA (sA (sA (sA σ 55 (fun j => if j < 5 then 0 else σ.2.2 55 j)) 56 (fun j => if j < 5 then 0 else (sA σ 55 (fun j => if j < 5 then 0 else σ.2.2 55 j)).2.2 56 j)) 57 (fun j => if j < 5 then 0 else (sA (sA σ 55 (fun j => if j < 5 then 0 else σ.2.2 55 j)) 56 (fun j => if j < 5 then 0 else (sA σ 55 (fun j => if j < 5 then 0 else σ.2.2 55 j)).2.2 56 j)).2.2 57 j)) 58 (fun j => if j < 5 then 0 else (sA (sA (sA σ 55 (fun j => if j < 5 then 0 else σ.2.2 55 j)) 56 (fun j => if j < 5 then 0 else (sA σ 55 (fun j => if j < 5 then 0 else σ.2.2 55 j)).2.2 56 j)) 57 (fun j => if j < 5 then 0 else (sA (sA σ 55 (fun j => if j < 5 then 0 else σ.2.2 55 j)) 56 (fun j => if j < 5 then 0 else (sA σ 55 (fun j => if j < 5 then 0 else σ.2.2 55 j)).2.2 56 j)).2.2 57 j)).2.2 58 j)) 59 (fun j => if j < 5 then 0 else (sA (sA (sA (sA σ 55 (fun j => if j < 5 then 0 else σ.2.2 55 j)) 56 (fun j => if j < 5 then 0 else (sA σ 55 (fun j => if j < 5 then 0 else σ.2.2 55 j)).2.2 56 j)) 57 (fun j => if j < 5 then 0 else (sA (sA σ 55 (fun j => if j < 5 then 0 else σ.2.2 55 j)) 56 (fun j => if j < 5 then 0 else (sA σ 55 (fun j => if j < 5 then 0 else σ.2.2 55 j)).2.2 56 j)).2.2 57 j)) 58 (fun j => if j < 5 then 0 else (sA (sA (sA σ 55 (fun j => if j < 5 then 0 else σ.2.2 55 j)) 56 (fun j => if j < 5 then 0 else (sA σ 55 (fun j => if j < 5 then 0 else σ.2.2 55 j)).2.2 56 j)) 57 (fun j => if j < 5 then 0 else (sA (sA σ 55 (fun j => if j < 5 then 0 else σ.2.2 55 j)) 56 (fun j => if j < 5 then 0 else (sA σ 55 (fun j => if j < 5 then 0 else σ.2.2 55 j)).2.2 56 j)).2.2 57 j)).2.2 58 j)).2.2 59 j)) 60 (fun j => if j < 5 then 0 else (sA (sA (sA (sA (sA σ 55 (fun j => if j < 5 then 0 else σ.2.2 55 j)) 56 (fun j => if j < 5 then 0 else (sA σ 55 (fun j => if j < 5 then 0 else σ.2.2 55 j)).2.2 56 j)) 57 (fun j => if j < 5 then 0 else (sA (sA σ 55 (fun j => if j < 5 then 0 else σ.2.2 55 j)) 56 (fun j => if j < 5 then 0 else (sA σ 55 (fun j => if j < 5 then 0 else σ.2.2 55 j)).2.2 56 j)).2.2 57 j)) 58 (fun j => if j < 5 then 0 else (sA (sA (sA σ 55 (fun j => if j < 5 then 0 else σ.2.2 55 j)) 56 (fun j => if j < 5 then 0 else (sA σ 55 (fun j => if j < 5 then 0 else σ.2.2 55 j)).2.2 56 j)) 57 (fun j => if j < 5 then 0 else (sA (sA σ 55 (fun j => if j < 5 then 0 else σ.2.2 55 j)) 56 (fun j => if j < 5 then 0 else (sA σ 55 (fun j => if j < 5 then 0 else σ.2.2 55 j)).2.2 56 j)).2.2 57 j)).2.2 58 j)) 59 (fun j => if j < 5 then 0 else (sA (sA (sA (sA σ 55 (fun j => if j < 5 then 0 else σ.2.2 55 j)) 56 (fun j => if j < 5 then 0 else (sA σ 55 (fun j => if j < 5 then 0 else σ.2.2 55 j)).2.2 56 j)) 57 (fun j => if j < 5 then 0 else (sA (sA σ 55 (fun j => if j < 5 then 0 else σ.2.2 55 j)) 56 (fun j => if j < 5 then 0 else (sA σ 55 (fun j => if j < 5 then 0 else σ.2.2 55 j)).2.2 56 j)).2.2 57 j)) 58 (fun j => if j < 5 then 0 else (sA (sA (sA σ 55 (fun j => if j < 5 then 0 else σ.2.2 55 j)) 56 (fun j => if j < 5 then 0 else (sA σ 55 (fun j => if j < 5 then 0 else σ.2.2 55 j)).2.2 56 j)) 57 (fun j => if j < 5 then 0 else (sA (sA σ 55 (fun j => if j < 5 then 0 else σ.2.2 55 j)) 56 (fun j => if j < 5 then 0 else (sA σ 55 (fun j => if j < 5 then 0 else σ.2.2 55 j)).2.2 56 j)).2.2 57 j)).2.2 58 j)).2.2 59 j)).2.2 60 j)).2.2 61 j)) 62 (fun j => if j < 5 then 0 else (sA (sA (sA (sA (sA (sA (sA σ 55 (fun j => if j < 5 then 0 else σ.2.2 55 j)) 56 (fun j => if j < 5 then 0 else (sA σ 55 (fun j => if j < 5 then 0 else σ.2.2 55 j)).2.2 56 j)) 57 (fun j => if j < 5 then 0 else (sA (sA σ 55 (fun j => if j < 5 then 0 else σ.2.2 55 j)) 56 (fun j => if j < 5 then 0 else (sA σ 55 (fun j => if j < 5 then 0 else σ.2.2 55 j)).2.2 56 j)).2.2 57 j)) 58 (fun j => if j < 5 then 0 else (sA (sA (sA σ 55 (fun j => if j < 5 then 0 else σ.2.2 55 j)) 56 (fun j => if j < 5 then 0 else (sA σ 55 (fun j => if j < 5 then 0 else σ.2.2 55 j)).2.2 56 j)) 57 (fun j => if j < 5 then 0 else (sA (sA σ 55 (fun j => if j < 5 then 0 else σ.2.2 55 j)) 56 (fun j => if j < 5 then 0 else (sA σ 55 (fun j => if j < 5 then 0 else σ.2.2 55 j)).2.2 56 j)).2.2 57 j)).2.2 58 j)) 59 (fun j => if j < 5 then 0 else (sA (sA (sA (sA σ 55 (fun j => if j < 5 then 0 else σ.2.2 55 j)) 56 (fun j => if j < 5 then 0 else (sA σ 55 (fun j => if j < 5 then 0 else σ.2.2 55 j)).2.2 56 j)) 57 (fun j => if j < 5 then 0 else (sA (sA σ 55 (fun j => if j < 5 then 0 else σ.2.2 55 j)) 56 (fun j => if j < 5 then 0 else (sA σ 55 (fun j => if j < 5 then 0 else σ.2.2 55 j)).2.2 56 j)).2.2 57 j)) 58 (fun j => if j < 5 then 0 else (sA (sA (sA σ 55 (fun j => if j < 5 then 0 else σ.2.2 55 j)) 56 (fun j => if j < 5 then 0 else (sA σ 55 (fun j => if j < 5 then 0 else σ.2.2 55 j)).2.2 56 j)) 57 (fun j => if j < 5 then 0 else (sA (sA σ 55 (fun j => if j < 5 then 0 else σ.2.2 55 j)) 56 (fun j => if j < 5 then 0 else (sA σ 55 (fun j => if j < 5 then 0 else σ.2.2 55 j)).2.2 56 j)).2.2 57 j)).2.2 58 j)).2.2 59 j)) 60 (fun j => if j < 5 then 0 else (sA (sA (sA (sA (sA σ 55 (fun j => if j < 5 then 0 else σ.2.2 55 j)) 56 (fun j => if j < 5 then 0 else (sA σ 55 (fun j => if j < 5 then 0 else σ.2.2 55 j)).2.2 56 j)) 57 (fun j => if j < 5 then 0 else (sA (sA σ 55 (fun j => if j < 5 then 0 else σ.2.2 55 j)) 56 (fun j => if j < 5 then 0 else (sA σ 55 (fun j => if j < 5 then 0 else σ.2.2 55 j)).2.2 56 j)).2.2 57 j)) 58 (fun j => if j < 5 then 0 else (sA (sA (sA σ 55 (fun j => if j < 5 then 0 else σ.2.2 55 j)) 56 (fun j => if j < 5 then 0 else (sA σ 55 (fun j => if j < 5 then 0 else σ.2.2 55 j)).2.2 56 j)) 57 (fun j => if j < 5 then 0 else (sA (sA σ 55 (fun j => if j < 5 then 0 else σ.2.2 55 j)) 56 (fun j => if j < 5 then 0 else (sA σ 55 (fun j => if j < 5 then 0 else σ.2.2 55 j)).2.2 56 j)).2.2 57 j)).2.2 58 j)) 59 (fun j => if j < 5 then 0 else (sA (sA (sA (sA σ 55 (fun j => if j < 5 then 0 else σ.2.2 55 j)) 56 (fun j => if j < 5 then 0 else (sA σ 55 (fun j => if j < 5 then 0 else σ.2.2 55 j)).2.2 56 j)) 57 (fun j => if j < 5 then 0 else (sA (sA σ 55 (fun j => if j < 5 then 0 else σ.2.2 55 j)) 56 (fun j => if j < 5 then 0 else (sA σ 55 (fun j => if j < 5 then 0 else σ.2.2 55 j)).2.2 56 j)).2.2 57 j)) 58 (fun j => if j < 5 then 0 else (sA (sA (sA σ 55 (fun j => if j < 5 then 0 else σ.2.2 55 j)) 56 (fun j => if j < 5 then 0 else (sA σ 55 (fun j => if j < 5 then 0 else σ.2.2 55 j)).2.2 56 j)) 57 (fun j => if j < 5 then 0 else (sA (sA σ 55 (fun j => if j < 5 then 0 else σ.2.2 55 j)) 56 (fun j => if j < 5 then 0 else (sA σ 55 (fun j => if j < 5 then 0 else σ.2.2 55 j)).2.2 56 j)).2.2 57 j)).2.2 58 j)).2.2 59 j)).2.2 60 j)) 61 (fun j => if j < 5 then 0 else (sA (sA (sA (sA (sA (sA σ 55 (fun j => if j < 5 then 0 else σ.2.2 55 j)) 56 (fun j => if j < 5 then 0 else (sA σ 55 (fun j => if j < 5 then 0 else σ.2.2 55 j)).2.2 56 j)) 57 (fun j => if j < 5 then 0 else (sA (sA σ 55 (fun j => if j < 5 then 0 else σ.2.2 55 j)) 56 (fun j => if j < 5 then 0 else (sA σ 55 (fun j => if j < 5 then 0 else σ.2.2 55 j)).2.2 56 j)).2.2 57 j)) 58 (fun j => if j < 5 then 0 else (sA (sA (sA σ 55 (fun j => if j < 5 then 0 else σ.2.2 55 j)) 56 (fun j => if j < 5 then 0 else (sA σ 55 (fun j => if j < 5 then 0 else σ.2.2 55 j)).2.2 56 j)) 57 (fun j => if j < 5 then 0 else (sA (sA σ 55 (fun j => if j < 5 then 0 else σ.2.2 55 j)) 56 (fun j => if j < 5 then 0 else (sA σ 55 (fun j => if j < 5 then 0 else σ.2.2 55 j)).2.2 56 j)).2.2 57 j)).2.2 58 j)) 59 (fun j => if j < 5 then 0 else (sA (sA (sA (sA σ 55 (fun j => if j < 5 then 0 else σ.2.2 55 j)) 56 (fun j => if j < 5 then 0 else (sA σ 55 (fun j => if j < 5 then 0 else σ.2.2 55 j)).2.2 56 j)) 57 (fun j => if j < 5 then 0 else (sA (sA σ 55 (fun j => if j < 5 then 0 else σ.2.2 55 j)) 56 (fun j => if j < 5 then 0 else (sA σ 55 (fun j => if j < 5 then 0 else σ.2.2 55 j)).2.2 56 j)).2.2 57 j)) 58 (fun j => if j < 5 then 0 else (sA (sA (sA σ 55 (fun j => if j < 5 then 0 else σ.2.2 55 j)) 56 (fun j => if j < 5 then 0 else (sA σ 55 (fun j => if j < 5 then 0 else σ.2.2 55 j)).2.2 56 j)) 57 (fun j => if j < 5 then 0 else (sA (sA σ 55 (fun j => if j < 5 then 0 else σ.2.2 55 j)) 56 (fun j => if j < 5 then 0 else (sA σ 55 (fun j => if j < 5 then 0 else σ.2.2 55 j)).2.2 56 j)).2.2 57 j)).2.2 58 j)).2.2 59 j)) 60 (fun j => if j < 5 then 0 else (sA (sA (sA (sA (sA σ 55 (fun j => if j < 5 then 0 else σ.2.2 55 j)) 56 (fun j => if j < 5 then 0 else (sA σ 55 (fun j => if j < 5 then 0 else σ.2.2 55 j)).2.2 56 j)) 57 (fun j => if j < 5 then 0 else (sA (sA σ 55 (fun j => if j < 5 then 0 else σ.2.2 55 j)) 56 (fun j => if j < 5 then 0 else (sA σ 55 (fun j => if j < 5 then 0 else σ.2.2 55 j)).2.2 56 j)).2.2 57 j)) 58 (fun j => if j < 5 then 0 else (sA (sA (sA σ 55 (fun j => if j < 5 then 0 else σ.2.2 55 j)) 56 (fun j => if j < 5 then 0 else (sA σ 55 (fun j => if j < 5 then 0 else σ.2.2 55 j)).2.2 56 j)) 57 (fun j => if j < 5 then 0 else (sA (sA σ 55 (fun j => if j < 5 then 0 else σ.2.2 55 j)) 56 (fun j => if j < 5 then 0 else (sA σ 55 (fun j => if j < 5 then 0 else σ.2.2 55 j)).2.2 56 j)).2.2 57 j)).2.2 58 j)) 59 (fun j => if j < 5 then 0 else (sA (sA (sA (sA σ 55 (fun j => if j < 5 then 0 else σ.2.2 55 j)) 56 (fun j => if j < 5 then 0 else (sA σ 55 (fun j => if j < 5 then 0 else σ.2.2 55 j)).2.2 56 j)) 57 (fun j => if j < 5 then 0 else (sA (sA σ 55 (fun j => if j < 5 then 0 else σ.2.2 55 j)) 56 (fun j => if j < 5 then 0 else (sA σ 55 (fun j => if j < 5 then 0 else σ.2.2 55 j)).2.2 56 j)).2.2 57 j)) 58 (fun j => if j < 5 then 0 else (sA (sA (sA σ 55 (fun j => if j < 5 then 0 else σ.2.2 55 j)) 56 (fun j => if j < 5 then 0 else (sA σ 55 (fun j => if j < 5 then 0 else σ.2.2 55 j)).2.2 56 j)) 57 (fun j => if j < 5 then 0 else (sA (sA σ 55 (fun j => if j < 5 then 0 else σ.2.2 55 j)) 56 (fun j => if j < 5 then 0 else (sA σ 55 (fun j => if j < 5 then 0 else σ.2.2 55 j)).2.2 56 j)).2.2 57 j)).2.2 58 j)).2.2 59 j)).2.2 60 j)).2.2 61 j)).2.2 62 j)).2.2 63 j)) = σ'))) := by
  refine x_met (own := RX9) (cc := cX9_countTogether) (maxL := 8) (ret := (some .int)) (lv := [(0, .ref (g.2.1 65)), (1, .ref (g.2.1 5)), (2, .ref (g.2.1 16)), (3, .ref (g.2.1 48))]) (by decide) rfl rfl (Nat.le_of_ble_eq_true rfl) rfl ?_
  intro p e s m args below meth c ls E h hl
  have hx := E.1
  have hb := E.2.1
  have hown := E.2.2.2.1
  have hts := E.2.2.2.2.1
  have hwX7 : ∀ w ∈ wsX70, w ∈ wsX9_countTogether := by decide +kernel
  have hwX9 : ∀ w ∈ wsX90, w ∈ wsX9_countTogether := by decide +kernel
  refine lv_iconst (v := 0) hx hb dX9_countTogether_0 (by decide) ?_
  refine lv_istore (lv' := [(4, .int 0), (0, .ref (g.2.1 65)), (1, .ref (g.2.1 5)), (2, .ref (g.2.1 16)), (3, .ref (g.2.1 48))]) hx hb dX9_countTogether_1 hl (by decide) rfl (fun ls hl => ?_)
  refine lv_iload hx hb dX9_countTogether_3 (lv_at hl 0 rfl) ?_
  refine lv_bipush (v := 9) hx hb dX9_countTogether_5 (by decide) ?_
  refine lv_icmp_ge (tgt := 27) hx hb dX9_countTogether_7 (by decide) (fun c => absurd c (by decide)) (fun _ => ?_)
  refine lv_aload_n hx hb dX9_countTogether_10 rfl (lv_at hl 1 rfl) ?_
  refine x_getR E h (fr_ve_together g) rfl hwX9 (by decide) (by decide +kernel) dX9_countTogether_11 ?_
  refine lv_iload hx hb dX9_countTogether_14 (lv_at hl 0 rfl) ?_
  refine x_row E h (fg_ve_together g) (i := 0) (by unfold vp_in; decide) (kr := 67) (by decide) dX9_countTogether_16 ?_
  refine lv_iconst (v := 0) hx hb dX9_countTogether_17 (by decide) ?_
  refine x_sv E h (na := 2) (As := [.ref (g.2.1 67), .int 0]) (k_fill l g _ 67 5 55 (ia_ve_together_0 g) (by decide) 0) gX9_countTogether_J7_fill_53178 rfl ⟨rfl, rfl⟩ rfl (by decide +kernel) ⟨Nat.le_of_ble_eq_true rfl, Nat.le_of_ble_eq_true rfl⟩ hl.1 rfl (Nat.le_of_ble_eq_true rfl) dX9_countTogether_18 ⟨Nat.le_of_ble_eq_true rfl, Nat.le_of_ble_eq_true rfl⟩ (fun s1 H locs q1 h => ?_)
  rcases q1 with rfl
  refine lv_iinc (v := 1) (lv' := [(4, .int 1), (0, .ref (g.2.1 65)), (1, .ref (g.2.1 5)), (2, .ref (g.2.1 16)), (3, .ref (g.2.1 48))]) hx hb dX9_countTogether_21 hl (k := 0) rfl (by decide) (by decide) rfl (fun ls hl => ?_)
  refine lv_goto (tgt := 3) hx hb dX9_countTogether_24 (by decide) ?_
  refine lv_iload hx hb dX9_countTogether_3 (lv_at hl 0 rfl) ?_
  refine lv_bipush (v := 9) hx hb dX9_countTogether_5 (by decide) ?_
  refine lv_icmp_ge (tgt := 27) hx hb dX9_countTogether_7 (by decide) (fun c => absurd c (by decide)) (fun _ => ?_)
  refine lv_aload_n hx hb dX9_countTogether_10 rfl (lv_at hl 1 rfl) ?_
  refine x_getR E h (fr_ve_together g) rfl hwX9 (by decide) (by decide +kernel) dX9_countTogether_11 ?_
  refine lv_iload hx hb dX9_countTogether_14 (lv_at hl 0 rfl) ?_
  refine x_row E h (fg_ve_together g) (i := 1) (by unfold vp_in; decide) (kr := 68) (by decide) dX9_countTogether_16 ?_
  refine lv_iconst (v := 0) hx hb dX9_countTogether_17 (by decide) ?_
  refine x_sv E h (na := 2) (As := [.ref (g.2.1 68), .int 0]) (k_fill l g _ 68 5 56 (ia_ve_together_1 g) (by decide) 0) gX9_countTogether_J7_fill_53178 rfl ⟨rfl, rfl⟩ rfl (by decide +kernel) ⟨Nat.le_of_ble_eq_true rfl, Nat.le_of_ble_eq_true rfl⟩ hl.1 rfl (Nat.le_of_ble_eq_true rfl) dX9_countTogether_18 ⟨Nat.le_of_ble_eq_true rfl, Nat.le_of_ble_eq_true rfl⟩ (fun s2 H locs q2 h => ?_)
  rcases q2 with rfl
  refine lv_iinc (v := 2) (lv' := [(4, .int 2), (0, .ref (g.2.1 65)), (1, .ref (g.2.1 5)), (2, .ref (g.2.1 16)), (3, .ref (g.2.1 48))]) hx hb dX9_countTogether_21 hl (k := 0) rfl (by decide) (by decide) rfl (fun ls hl => ?_)
  refine lv_goto (tgt := 3) hx hb dX9_countTogether_24 (by decide) ?_
  refine lv_iload hx hb dX9_countTogether_3 (lv_at hl 0 rfl) ?_
  refine lv_bipush (v := 9) hx hb dX9_countTogether_5 (by decide) ?_
  refine lv_icmp_ge (tgt := 27) hx hb dX9_countTogether_7 (by decide) (fun c => absurd c (by decide)) (fun _ => ?_)
  refine lv_aload_n hx hb dX9_countTogether_10 rfl (lv_at hl 1 rfl) ?_
  refine x_getR E h (fr_ve_together g) rfl hwX9 (by decide) (by decide +kernel) dX9_countTogether_11 ?_
  refine lv_iload hx hb dX9_countTogether_14 (lv_at hl 0 rfl) ?_
  refine x_row E h (fg_ve_together g) (i := 2) (by unfold vp_in; decide) (kr := 69) (by decide) dX9_countTogether_16 ?_
  refine lv_iconst (v := 0) hx hb dX9_countTogether_17 (by decide) ?_
  refine x_sv E h (na := 2) (As := [.ref (g.2.1 69), .int 0]) (k_fill l g _ 69 5 57 (ia_ve_together_2 g) (by decide) 0) gX9_countTogether_J7_fill_53178 rfl ⟨rfl, rfl⟩ rfl (by decide +kernel) ⟨Nat.le_of_ble_eq_true rfl, Nat.le_of_ble_eq_true rfl⟩ hl.1 rfl (Nat.le_of_ble_eq_true rfl) dX9_countTogether_18 ⟨Nat.le_of_ble_eq_true rfl, Nat.le_of_ble_eq_true rfl⟩ (fun s3 H locs q3 h => ?_)
  rcases q3 with rfl
  refine lv_iinc (v := 3) (lv' := [(4, .int 3), (0, .ref (g.2.1 65)), (1, .ref (g.2.1 5)), (2, .ref (g.2.1 16)), (3, .ref (g.2.1 48))]) hx hb dX9_countTogether_21 hl (k := 0) rfl (by decide) (by decide) rfl (fun ls hl => ?_)
  refine lv_goto (tgt := 3) hx hb dX9_countTogether_24 (by decide) ?_
  refine lv_iload hx hb dX9_countTogether_3 (lv_at hl 0 rfl) ?_
  refine lv_bipush (v := 9) hx hb dX9_countTogether_5 (by decide) ?_
  refine lv_icmp_ge (tgt := 27) hx hb dX9_countTogether_7 (by decide) (fun c => absurd c (by decide)) (fun _ => ?_)
  refine lv_aload_n hx hb dX9_countTogether_10 rfl (lv_at hl 1 rfl) ?_
  refine x_getR E h (fr_ve_together g) rfl hwX9 (by decide) (by decide +kernel) dX9_countTogether_11 ?_
  refine lv_iload hx hb dX9_countTogether_14 (lv_at hl 0 rfl) ?_
  refine x_row E h (fg_ve_together g) (i := 3) (by unfold vp_in; decide) (kr := 70) (by decide) dX9_countTogether_16 ?_
  refine lv_iconst (v := 0) hx hb dX9_countTogether_17 (by decide) ?_
  refine x_sv E h (na := 2) (As := [.ref (g.2.1 70), .int 0]) (k_fill l g _ 70 5 58 (ia_ve_together_3 g) (by decide) 0) gX9_countTogether_J7_fill_53178 rfl ⟨rfl, rfl⟩ rfl (by decide +kernel) ⟨Nat.le_of_ble_eq_true rfl, Nat.le_of_ble_eq_true rfl⟩ hl.1 rfl (Nat.le_of_ble_eq_true rfl) dX9_countTogether_18 ⟨Nat.le_of_ble_eq_true rfl, Nat.le_of_ble_eq_true rfl⟩ (fun s4 H locs q4 h => ?_)
  rcases q4 with rfl
  refine lv_iinc (v := 4) (lv' := [(4, .int 4), (0, .ref (g.2.1 65)), (1, .ref (g.2.1 5)), (2, .ref (g.2.1 16)), (3, .ref (g.2.1 48))]) hx hb dX9_countTogether_21 hl (k := 0) rfl (by decide) (by decide) rfl (fun ls hl => ?_)
  refine lv_goto (tgt := 3) hx hb dX9_countTogether_24 (by decide) ?_
  refine lv_iload hx hb dX9_countTogether_3 (lv_at hl 0 rfl) ?_
  refine lv_bipush (v := 9) hx hb dX9_countTogether_5 (by decide) ?_
  refine lv_icmp_ge (tgt := 27) hx hb dX9_countTogether_7 (by decide) (fun c => absurd c (by decide)) (fun _ => ?_)
  refine lv_aload_n hx hb dX9_countTogether_10 rfl (lv_at hl 1 rfl) ?_
  refine x_getR E h (fr_ve_together g) rfl hwX9 (by decide) (by decide +kernel) dX9_countTogether_11 ?_
  refine lv_iload hx hb dX9_countTogether_14 (lv_at hl 0 rfl) ?_
  refine x_row E h (fg_ve_together g) (i := 4) (by unfold vp_in; decide) (kr := 71) (by decide) dX9_countTogether_16 ?_
  refine lv_iconst (v := 0) hx hb dX9_countTogether_17 (by decide) ?_
  refine x_sv E h (na := 2) (As := [.ref (g.2.1 71), .int 0]) (k_fill l g _ 71 5 59 (ia_ve_together_4 g) (by decide) 0) gX9_countTogether_J7_fill_53178 rfl ⟨rfl, rfl⟩ rfl (by decide +kernel) ⟨Nat.le_of_ble_eq_true rfl, Nat.le_of_ble_eq_true rfl⟩ hl.1 rfl (Nat.le_of_ble_eq_true rfl) dX9_countTogether_18 ⟨Nat.le_of_ble_eq_true rfl, Nat.le_of_ble_eq_true rfl⟩ (fun s5 H locs q5 h => ?_)
  rcases q5 with rfl
  refine lv_iinc (v := 5) (lv' := [(4, .int 5), (0, .ref (g.2.1 65)), (1, .ref (g.2.1 5)), (2, .ref (g.2.1 16)), (3, .ref (g.2.1 48))]) hx hb dX9_countTogether_21 hl (k := 0) rfl (by decide) (by decide) rfl (fun ls hl => ?_)
  refine lv_goto (tgt := 3) hx hb dX9_countTogether_24 (by decide) ?_
  refine lv_iload hx hb dX9_countTogether_3 (lv_at hl 0 rfl) ?_
  refine lv_bipush (v := 9) hx hb dX9_countTogether_5 (by decide) ?_
  refine lv_icmp_ge (tgt := 27) hx hb dX9_countTogether_7 (by decide) (fun c => absurd c (by decide)) (fun _ => ?_)
  refine lv_aload_n hx hb dX9_countTogether_10 rfl (lv_at hl 1 rfl) ?_
  refine x_getR E h (fr_ve_together g) rfl hwX9 (by decide) (by decide +kernel) dX9_countTogether_11 ?_
  refine lv_iload hx hb dX9_countTogether_14 (lv_at hl 0 rfl) ?_
  refine x_row E h (fg_ve_together g) (i := 5) (by unfold vp_in; decide) (kr := 72) (by decide) dX9_countTogether_16 ?_
  refine lv_iconst (v := 0) hx hb dX9_countTogether_17 (by decide) ?_
  refine x_sv E h (na := 2) (As := [.ref (g.2.1 72), .int 0]) (k_fill l g _ 72 5 60 (ia_ve_together_5 g) (by decide) 0) gX9_countTogether_J7_fill_53178 rfl ⟨rfl, rfl⟩ rfl (by decide +kernel) ⟨Nat.le_of_ble_eq_true rfl, Nat.le_of_ble_eq_true rfl⟩ hl.1 rfl (Nat.le_of_ble_eq_true rfl) dX9_countTogether_18 ⟨Nat.le_of_ble_eq_true rfl, Nat.le_of_ble_eq_true rfl⟩ (fun s6 H locs q6 h => ?_)
  rcases q6 with rfl
  refine lv_iinc (v := 6) (lv' := [(4, .int 6), (0, .ref (g.2.1 65)), (1, .ref (g.2.1 5)), (2, .ref (g.2.1 16)), (3, .ref (g.2.1 48))]) hx hb dX9_countTogether_21 hl (k := 0) rfl (by decide) (by decide) rfl (fun ls hl => ?_)
  refine lv_goto (tgt := 3) hx hb dX9_countTogether_24 (by decide) ?_
  refine lv_iload hx hb dX9_countTogether_3 (lv_at hl 0 rfl) ?_
  refine lv_bipush (v := 9) hx hb dX9_countTogether_5 (by decide) ?_
  refine lv_icmp_ge (tgt := 27) hx hb dX9_countTogether_7 (by decide) (fun c => absurd c (by decide)) (fun _ => ?_)
  refine lv_aload_n hx hb dX9_countTogether_10 rfl (lv_at hl 1 rfl) ?_
  refine x_getR E h (fr_ve_together g) rfl hwX9 (by decide) (by decide +kernel) dX9_countTogether_11 ?_
  refine lv_iload hx hb dX9_countTogether_14 (lv_at hl 0 rfl) ?_
  refine x_row E h (fg_ve_together g) (i := 6) (by unfold vp_in; decide) (kr := 73) (by decide) dX9_countTogether_16 ?_
  refine lv_iconst (v := 0) hx hb dX9_countTogether_17 (by decide) ?_
  refine x_sv E h (na := 2) (As := [.ref (g.2.1 73), .int 0]) (k_fill l g _ 73 5 61 (ia_ve_together_6 g) (by decide) 0) gX9_countTogether_J7_fill_53178 rfl ⟨rfl, rfl⟩ rfl (by decide +kernel) ⟨Nat.le_of_ble_eq_true rfl, Nat.le_of_ble_eq_true rfl⟩ hl.1 rfl (Nat.le_of_ble_eq_true rfl) dX9_countTogether_18 ⟨Nat.le_of_ble_eq_true rfl, Nat.le_of_ble_eq_true rfl⟩ (fun s7 H locs q7 h => ?_)
  rcases q7 with rfl
  refine lv_iinc (v := 7) (lv' := [(4, .int 7), (0, .ref (g.2.1 65)), (1, .ref (g.2.1 5)), (2, .ref (g.2.1 16)), (3, .ref (g.2.1 48))]) hx hb dX9_countTogether_21 hl (k := 0) rfl (by decide) (by decide) rfl (fun ls hl => ?_)
  refine lv_goto (tgt := 3) hx hb dX9_countTogether_24 (by decide) ?_
  refine lv_iload hx hb dX9_countTogether_3 (lv_at hl 0 rfl) ?_
  refine lv_bipush (v := 9) hx hb dX9_countTogether_5 (by decide) ?_
  refine lv_icmp_ge (tgt := 27) hx hb dX9_countTogether_7 (by decide) (fun c => absurd c (by decide)) (fun _ => ?_)
  refine lv_aload_n hx hb dX9_countTogether_10 rfl (lv_at hl 1 rfl) ?_
  refine x_getR E h (fr_ve_together g) rfl hwX9 (by decide) (by decide +kernel) dX9_countTogether_11 ?_
  refine lv_iload hx hb dX9_countTogether_14 (lv_at hl 0 rfl) ?_
  refine x_row E h (fg_ve_together g) (i := 7) (by unfold vp_in; decide) (kr := 74) (by decide) dX9_countTogether_16 ?_
  refine lv_iconst (v := 0) hx hb dX9_countTogether_17 (by decide) ?_
  refine x_sv E h (na := 2) (As := [.ref (g.2.1 74), .int 0]) (k_fill l g _ 74 5 62 (ia_ve_together_7 g) (by decide) 0) gX9_countTogether_J7_fill_53178 rfl ⟨rfl, rfl⟩ rfl (by decide +kernel) ⟨Nat.le_of_ble_eq_true rfl, Nat.le_of_ble_eq_true rfl⟩ hl.1 rfl (Nat.le_of_ble_eq_true rfl) dX9_countTogether_18 ⟨Nat.le_of_ble_eq_true rfl, Nat.le_of_ble_eq_true rfl⟩ (fun s8 H locs q8 h => ?_)
  rcases q8 with rfl
  refine lv_iinc (v := 8) (lv' := [(4, .int 8), (0, .ref (g.2.1 65)), (1, .ref (g.2.1 5)), (2, .ref (g.2.1 16)), (3, .ref (g.2.1 48))]) hx hb dX9_countTogether_21 hl (k := 0) rfl (by decide) (by decide) rfl (fun ls hl => ?_)
  refine lv_goto (tgt := 3) hx hb dX9_countTogether_24 (by decide) ?_
  refine lv_iload hx hb dX9_countTogether_3 (lv_at hl 0 rfl) ?_
  refine lv_bipush (v := 9) hx hb dX9_countTogether_5 (by decide) ?_
  refine lv_icmp_ge (tgt := 27) hx hb dX9_countTogether_7 (by decide) (fun c => absurd c (by decide)) (fun _ => ?_)
  refine lv_aload_n hx hb dX9_countTogether_10 rfl (lv_at hl 1 rfl) ?_
  refine x_getR E h (fr_ve_together g) rfl hwX9 (by decide) (by decide +kernel) dX9_countTogether_11 ?_
  refine lv_iload hx hb dX9_countTogether_14 (lv_at hl 0 rfl) ?_
  refine x_row E h (fg_ve_together g) (i := 8) (by unfold vp_in; decide) (kr := 75) (by decide) dX9_countTogether_16 ?_
  refine lv_iconst (v := 0) hx hb dX9_countTogether_17 (by decide) ?_
  refine x_sv E h (na := 2) (As := [.ref (g.2.1 75), .int 0]) (k_fill l g _ 75 5 63 (ia_ve_together_8 g) (by decide) 0) gX9_countTogether_J7_fill_53178 rfl ⟨rfl, rfl⟩ rfl (by decide +kernel) ⟨Nat.le_of_ble_eq_true rfl, Nat.le_of_ble_eq_true rfl⟩ hl.1 rfl (Nat.le_of_ble_eq_true rfl) dX9_countTogether_18 ⟨Nat.le_of_ble_eq_true rfl, Nat.le_of_ble_eq_true rfl⟩ (fun s9 H locs q9 h => ?_)
  rcases q9 with rfl
  refine lv_iinc (v := 9) (lv' := [(4, .int 9), (0, .ref (g.2.1 65)), (1, .ref (g.2.1 5)), (2, .ref (g.2.1 16)), (3, .ref (g.2.1 48))]) hx hb dX9_countTogether_21 hl (k := 0) rfl (by decide) (by decide) rfl (fun ls hl => ?_)
  refine lv_goto (tgt := 3) hx hb dX9_countTogether_24 (by decide) ?_
  refine lv_iload hx hb dX9_countTogether_3 (lv_at hl 0 rfl) ?_
  refine lv_bipush (v := 9) hx hb dX9_countTogether_5 (by decide) ?_
  refine lv_icmp_ge (tgt := 27) hx hb dX9_countTogether_7 (by decide) (fun _ => ?_) (fun c => absurd (by decide) c)
  refine lv_iconst (v := 0) hx hb dX9_countTogether_27 (by decide) ?_
  refine lv_istore (lv' := [(4, .int 0), (0, .ref (g.2.1 65)), (1, .ref (g.2.1 5)), (2, .ref (g.2.1 16)), (3, .ref (g.2.1 48))]) hx hb dX9_countTogether_28 hl (by decide) rfl (fun ls hl => ?_)
  refine lv_iconst (v := 0) hx hb dX9_countTogether_30 (by decide) ?_
  refine lv_istore (lv' := [(5, .int 0), (4, .int 0), (0, .ref (g.2.1 65)), (1, .ref (g.2.1 5)), (2, .ref (g.2.1 16)), (3, .ref (g.2.1 48))]) hx hb dX9_countTogether_31 hl (by decide) rfl (fun ls hl => ?_)
  refine lv_iload hx hb dX9_countTogether_33 (lv_at hl 0 rfl) ?_
  refine lv_aload_n hx hb dX9_countTogether_35 rfl (lv_at hl 3 rfl) ?_
  refine x_getIN E h (fi_bk_rows g) rfl hwX7 (by decide) (by decide +kernel) (v := 0) fI_2 dX9_countTogether_36 ?_
  refine lv_icmp_ge (tgt := 113) hx hb dX9_countTogether_39 (by decide) (fun _ => ?_) (fun c => absurd (by decide) c)
  refine lv_iload hx hb dX9_countTogether_113 (lv_at hl 1 rfl) ?_
  exact x_iret E h ⟨rfl, rfl⟩ dX9_countTogether_115
set_option maxHeartbeats 4000000 in
set_option maxRecDepth 100000 in
theorem kX9_wrong_0 (l : Launch) (g : CX) (σ : ST) (fI_2 : σ.1 2 = 0) (fI_10 : σ.1 10 = 0) : XM l g yX9_wrong wsX9_wrong { frames := 2, cells := 0, slots := 0, locals := 50 } [.ref (g.2.1 65), .ref (g.2.1 5), .ref (g.2.1 16), .ref (g.2.1 48)] σ (XQi g (fun r σ' => (0 = r ∧ (sA (sA (sA (sA (sA (sA (sA (sA (sA (sA σ 55 (fun j => if j < 5 then 0 else σ.2.2 55 j)) 56 (fun j => if j < 5 then 0 else (sA σ 55 (fun j => if j < 5 then 0 else σ.2.2 55 j)).2.2 56 j)) 57 (fun j => if j < 5 then 0 else (sA (sA σ 55 (fun j => if j < 5 then 0 else σ.2.2 55 j)) 56 (fun j => if j < 5 then 0 else (sA σ 55 (fun j => if j < 5 then 0 else σ.2.2 55 j)).2.2 56 j)).2.2 57 j)) 58 (fun j => if j < 5 then 0 else (sA (sA (sA σ 55 (fun j => if j < 5 then 0 else σ.2.2 55 j)) 56 (fun j => if j < 5 then 0 else (sA σ 55 (fun j => if j < 5 then 0 else σ.2.2 55 j)).2.2 56 j)) 57 (fun j => if j < 5 then 0 else (sA (sA σ 55 (fun j => if j < 5 then 0 else σ.2.2 55 j)) 56 (fun j => if j < 5 then 0 else (sA σ 55 (fun j => if j < 5 then 0 else σ.2.2 55 j)).2.2 56 j)).2.2 57 j)).2.2 58 j)) 59 (fun j => if j < 5 then 0 else (sA (sA (sA (sA σ 55 (fun j => if j < 5 then 0 else σ.2.2 55 j)) 56 (fun j => if j < 5 then 0 else (sA σ 55 (fun j => if j < 5 then 0 else σ.2.2 55 j)).2.2 56 j)) 57 (fun j => if j < 5 then 0 else (sA (sA σ 55 (fun j => if j < 5 then 0 else σ.2.2 55 j)) 56 (fun j => if j < 5 then 0 else (sA σ 55 (fun j => if j < 5 then 0 else σ.2.2 55 j)).2.2 56 j)).2.2 57 j)) 58 (fun j => if j < 5 then 0 else (sA (sA (sA σ 55 (fun j => if j < 5 then 0 else σ.2.2 55 j)) 56 (fun j => if j < 5 then 0 else (sA σ 55 (fun j => if j < 5 then 0 else σ.2.2 55 j)).2.2 56 j)) 57 (fun j => if j < 5 then 0 else (sA (sA σ 55 (fun j => if j < 5 then 0 else σ.2.2 55 j)) 56 (fun j => if j < 5 then 0 else (sA σ 55 (fun j => if j < 5 then 0 else σ.2.2 55 j)).2.2 56 j)).2.2 57 j)).2.2 58 j)).2.2 59 j)) 60 (fun j => if j < 5 then 0 else (sA (sA (sA (sA (sA σ 55 (fun j => if j < 5 then 0 else σ.2.2 55 j)) 56 (fun j => if j < 5 then 0 else (sA σ 55 (fun j => if j < 5 then 0 else σ.2.2 55 j)).2.2 56 j)) 57 (fun j => if j < 5 then 0 else (sA (sA σ 55 (fun j => if j < 5 then 0 else σ.2.2 55 j)) 56 (fun j => if j < 5 then 0 else (sA σ 55 (fun j => if j < 5 then 0 else σ.2.2 55 j)).2.2 56 j)).2.2 57 j)) 58 (fun j => if j < 5 then 0 else (sA (sA (sA σ 55 (fun j => if j < 5 then 0 else σ.2.2 55 j)) 56 (fun j => if j < 5 then 0 else (sA σ 55 (fun j => if j < 5 then 0 else σ.2.2 55 j)).2.2 56 j)) 57 (fun j => if j < 5 then 0 else (sA (sA σ 55 (fun j => if j < 5 then 0 else σ.2.2 55 j)) 56 (fun j => if j < 5 then 0 else (sA σ 55 (fun j => if j < 5 then 0 else σ.2.2 55 j)).2.2 56 j)).2.2 57 j)).2.2 58 j)) 59 (fun j => if j < 5 then 0 else (sA (sA (sA (sA σ 55 (fun j => if j < 5 then 0 else σ.2.2 55 j)) 56 (fun j => if j < 5 then 0 else (sA σ 55 (fun j => if j < 5 then 0 else σ.2.2 55 j)).2.2 56 j)) 57 (fun j => if j < 5 then 0 else (sA (sA σ 55 (fun j => if j < 5 then 0 else σ.2.2 55 j)) 56 (fun j => if j < 5 then 0 else (sA σ 55 (fun j => if j < 5 then 0 else σ.2.2 55 j)).2.2 56 j)).2.2 57 j)) 58 (fun j => if j < 5 then 0 else (sA (sA (sA σ 55 (fun j => if j < 5 then 0 else σ.2.2 55 j)) 56 (fun j => if j < 5 then 0 else (sA σ 55 (fun j => if j < 5 then 0 else σ.2.2 55 j)).2.2 56 j)) 57 (fun j => if j < 5 then 0 else (sA (sA σ 55 (fun j => if j < 5 then 0 else σ.2.2 55 j)) 56 (fun j => if j < 5 then 0 else (sA σ 55 (fun j => if j < 5 then 0 else σ.2.2 55 j)).2.2 56 j)).2.2 57 j)).2.2 58 j)).2.2 59 j)).2.2 60 j)) 61 (fun j => if j < 5 then 0 else (sA (sA (sA (sA (sA (sA σ 55 (fun j => if j < 5 then 0 else σ.2.2 55 j)) 56 (fun j => if j < 5 then 0 else (sA σ 55 (fun j => if j < 5 then 0 else σ.2.2 55 j)).2.2 56 j)) 57 (fun j => if j < 5 then 0 else (sA (sA σ 55 (fun j => if j < 5 then 0 else σ.2.2 55 j)) 56 (fun j => if j < 5 then 0 else (sA σ 55 (fun j => if j < 5 then 0 else σ.2.2 55 j)).2.2 56 j)).2.2 57 j)) 58 (fun j => if j < 5 then 0 else (sA (sA (sA σ 55 (fun j => if j < 5 then 0 else σ.2.2 55 j)) 56 (fun j => if j < 5 then 0 else (sA σ 55 (fun j => if j < 5 then 0 else σ.2.2 55 j)).2.2 56 j)) 57 (fun j => if j < 5 then 0 else (sA (sA σ 55 (fun j => if j < 5 then 0 else σ.2.2 55 j)) 56 (fun j => if j < 5 then 0 else (sA σ 55 (fun j => if j < 5 then 0 else σ.2.2 55 j)).2.2 56 j)).2.2 57 j)).2.2 58 j)) 59 (fun j => if j < 5 then 0 else (sA (sA (sA (sA σ 55 (fun j => if j < 5 then 0 else σ.2.2 55 j)) 56 (fun j => if j < 5 then 0 else (sA σ 55 (fun j => if j < 5 then 0 else σ.2.2 55 j)).2.2 56 j)) 57 (fun j => if j < 5 then 0 else (sA (sA σ 55 (fun j => if j < 5 then 0 else σ.2.2 55 j)) 56 (fun j => if j < 5 then 0 else (sA σ 55 (fun j => if j < 5 then 0 else σ.2.2 55 j)).2.2 56 j)).2.2 57 j)) 58 (fun j => if j < 5 then 0 else (sA (sA (sA σ 55 (fun j => if j < 5 then 0 else σ.2.2 55 j)) 56 (fun j => if j < 5 then 0 else (sA σ 55 (fun j => if j < 5 then 0 else σ.2.2 55 j)).2.2 56 j)) 57 (fun j => if j < 5 then 0 else (sA (sA σ 55 (fun j => if j < 5 then 0 else σ.2.2 55 j)) 56 (fun j => if j < 5 then 0 else (sA σ 55 (fun j => if j < 5 then 0 else σ.2.2 55 j)).2.2 56 j)).2.2 57 j)).2.2 58 j)).2.2 59 j)) 60 (fun j => if j < 5 then 0 else (sA (sA (sA (sA (sA σ 55 (fun j => if j < 5 then 0 else σ.2.2 55 j)) 56 (fun j => if j < 5 then 0 else (sA σ 55 (fun j => if j < 5 then 0 else σ.2.2 55 j)).2.2 56 j)) 57 (fun j => if j < 5 then 0 else (sA (sA σ 55 (fun j => if j < 5 then 0 else σ.2.2 55 j)) 56 (fun j => if j < 5 then 0 else (sA σ 55 (fun j => if j < 5 then 0 else σ.2.2 55 j)).2.2 56 j)).2.2 57 j)) 58 (fun j => if j < 5 then 0 else (sA (sA (sA σ 55 (fun j => if j < 5 then 0 else σ.2.2 55 j)) 56 (fun j => if j < 5 then 0 else (sA σ 55 (fun j => if j < 5 then 0 else σ.2.2 55 j)).2.2 56 j)) 57 (fun j => if j < 5 then 0 else (sA (sA σ 55 (fun j => if j < 5 then 0 else σ.2.2 55 j)) 56 (fun j => if j < 5 then 0 else (sA σ 55 (fun j => if j < 5 then 0 else σ.2.2 55 j)).2.2 56 j)).2.2 57 j)).2.2 58 j)) 59 (fun j => if j < 5 then 0 else (sA (sA (sA (sA σ 55 (fun j => if j < 5 then 0 else σ.2.2 55 j)) 56 (fun j => if j < 5 then 0 else (sA σ 55 (fun j => if j < 5 then 0 else σ.2.2 55 j)).2.2 56 j)) 57 (fun j => if j < 5 then 0 else (sA (sA σ 55 (fun j => if j < 5 then 0 else σ.2.2 55 j)) 56 (fun j => if j < 5 then 0 else (sA σ 55 (fun j => if j < 5 then 0 else σ.2.2 55 j)).2.2 56 j)).2.2 57 j)) 58 (fun j => if j < 5 then 0 else (sA (sA (sA σ 55 (fun j => if j < 5 then 0 else σ.2.2 55 j)) 56 (fun j => if j < 5 then 0 else (sA σ 55 (fun j => if j < 5 then 0 else σ.2.2 55 j)).2.2 56 j)) 57 (fun j => if j < 5 then 0 else (sA (sA σ 55 (fun j => if j < 5 then 0 else σ.2.2 55 j)) 56 (fun j => if j < 5 then 0 else (sA σ 55 (fun j => if j < 5 then 0 else σ.2.2 55 j)).2.2 56 j)).2.2 57 j)).2.2 58 j)).2.2 59 j)).2.2 60 j)).2.2 61 j)) 62 (fun j => if j < 5 then 0 else (sA (sA (sA (sA (sA (sA (sA σ 55 (fun j => if j < 5 then 0 else σ.2.2 55 j)) 56 (fun j => if j < 5 then 0 else (sA σ 55 (fun j => if j < 5 then 0 else σ.2.2 55 j)).2.2 56 j)) 57 (fun j => if j < 5 then 0 else (sA (sA σ 55 (fun j => if j < 5 then 0 else σ.2.2 55 j)) 56 (fun j => if j < 5 then 0 else (sA σ 55 (fun j => if j < 5 then 0 else σ.2.2 55 j)).2.2 56 j)).2.2 57 j)) 58 (fun j => if j < 5 then 0 else (sA (sA (sA σ 55 (fun j => if j < 5 then 0 else σ.2.2 55 j)) 56 (fun j => if j < 5 then 0 else (sA σ 55 (fun j => if j < 5 then 0 else σ.2.2 55 j)).2.2 56 j)) 57 (fun j => if j < 5 then 0 else (sA (sA σ 55 (fun j => if j < 5 then 0 else σ.2.2 55 j)) 56 (fun j => if j < 5 then 0 else (sA σ 55 (fun j => if j < 5 then 0 else σ.2.2 55 j)).2.2 56 j)).2.2 57 j)).2.2 58 j)) 59 (fun j => if j < 5 then 0 else (sA (sA (sA (sA σ 55 (fun j => if j < 5 then 0 else σ.2.2 55 j)) 56 (fun j => if j < 5 then 0 else (sA σ 55 (fun j => if j < 5 then 0 else σ.2.2 55 j)).2.2 56 j)) 57 (fun j => if j < 5 then 0 else (sA (sA σ 55 (fun j => if j < 5 then 0 else σ.2.2 55 j)) 56 (fun j => if j < 5 then 0 else (sA σ 55 (fun j => if j < 5 then 0 else σ.2.2 55 j)).2.2 56 j)).2.2 57 j)) 58 (fun j => if j < 5 then 0 else (sA (sA (sA σ 55 (fun j => if j < 5 then 0 else σ.2.2 55 j)) 56 (fun j => if j < 5 then 0 else (sA σ 55 (fun j => if j < 5 then 0 else σ.2.2 55 j)).2.2 56 j)) 57 (fun j => if j < 5 then 0 else (sA (sA σ 55 (fun j => if j < 5 then 0 else σ.2.2 55 j)) 56 (fun j => if j < 5 then 0 else (sA σ 55 (fun j => if j < 5 then 0 else σ.2.2 55 j)).2.2 56 j)).2.2 57 j)).2.2 58 j)).2.2 59 j)) 60 (fun j => if j < 5 then 0 else (sA (sA (sA (sA (sA σ 55 (fun j => if j < 5 then 0 else σ.2.2 55 j)) 56 (fun j => if j < 5 then 0 else (sA σ 55 (fun j => if j < 5 then 0 else σ.2.2 55 j)).2.2 56 j)) 57 (fun j => if j < 5 then 0 else (sA (sA σ 55 (fun j => if j < 5 then 0 else σ.2.2 55 j)) 56 (fun j => if j < 5 then 0 else (sA σ 55 (fun j => if j < 5 then 0 else σ.2.2 55 j)).2.2 56 j)).2.2 57 j)) 58 (fun j => if j < 5 then 0 else (sA (sA (sA σ 55 (fun j => if j < 5 then 0 else σ.2.2 55 j)) 56 (fun j => if j < 5 then 0 else (sA σ 55 (fun j => if j < 5 then 0 else σ.2.2 55 j)).2.2 56 j)) 57 (fun j => if j < 5 then 0 else (sA (sA σ 55 (fun j => if j < 5 then 0 else σ.2.2 55 j)) 56 (fun j => if j < 5 then 0 else (sA σ 55 (fun j => if j < 5 then 0 else σ.2.2 55 j)).2.2 56 j)).2.2 57 j)).2.2 58 j)) 59 (fun j => if j < 5 then 0 else (sA (sA (sA (sA σ 55 (fun j => if j < 5 then 0 else σ.2.2 55 j)) 56 (fun j => if j < 5 then 0 else (sA σ 55 (fun j => if j < 5 then 0 else σ.2.2 55 j)).2.2 56 j)) 57 (fun j => if j < 5 then 0 else (sA (sA σ 55 (fun j => if j < 5 then 0 else σ.2.2 55 j)) 56 (fun j => if j < 5 then 0 else (sA σ 55 (fun j => if j < 5 then 0 else σ.2.2 55 j)).2.2 56 j)).2.2 57 j)) 58 (fun j => if j < 5 then 0 else (sA (sA (sA σ 55 (fun j => if j < 5 then 0 else σ.2.2 55 j)) 56 (fun j => if j < 5 then 0 else (sA σ 55 (fun j => if j < 5 then 0 else σ.2.2 55 j)).2.2 56 j)) 57 (fun j => if j < 5 then 0 else (sA (sA σ 55 (fun j => if j < 5 then 0 else σ.2.2 55 j)) 56 (fun j => if j < 5 then 0 else (sA σ 55 (fun j => if j < 5 then 0 else σ.2.2 55 j)).2.2 56 j)).2.2 57 j)).2.2 58 j)).2.2 59 j)).2.2 60 j)) 61 (fun j => if j < 5 then 0 else (sA (sA (sA (sA (sA (sA σ 55 (fun j => if j < 5 then 0 else σ.2.2 55 j)) 56 (fun j => if j < 5 then 0 else (sA σ 55 (fun j => if j < 5 then 0 else σ.2.2 55 j)).2.2 56 j)) 57 (fun j => if j < 5 then 0 else (sA (sA σ 55 (fun j => if j < 5 then 0 else σ.2.2 55 j)) 56 (fun j => if j < 5 then 0 else (sA σ 55 (fun j => if j < 5 then 0 else σ.2.2 55 j)).2.2 56 j)).2.2 57 j)) 58 (fun j => if j < 5 then 0 else (sA (sA (sA σ 55 (fun j => if j < 5 then 0 else σ.2.2 55 j)) 56 (fun j => if j < 5 then 0 else (sA σ 55 (fun j => if j < 5 then 0 else σ.2.2 55 j)).2.2 56 j)) 57 (fun j => if j < 5 then 0 else (sA (sA σ 55 (fun j => if j < 5 then 0 else σ.2.2 55 j)) 56 (fun j => if j < 5 then 0 else (sA σ 55 (fun j => if j < 5 then 0 else σ.2.2 55 j)).2.2 56 j)).2.2 57 j)).2.2 58 j)) 59 (fun j => if j < 5 then 0 else (sA (sA (sA (sA σ 55 (fun j => if j < 5 then 0 else σ.2.2 55 j)) 56 (fun j => if j < 5 then 0 else (sA σ 55 (fun j => if j < 5 then 0 else σ.2.2 55 j)).2.2 56 j)) 57 (fun j => if j < 5 then 0 else (sA (sA σ 55 (fun j => if j < 5 then 0 else σ.2.2 55 j)) 56 (fun j => if j < 5 then 0 else (sA σ 55 (fun j => if j < 5 then 0 else σ.2.2 55 j)).2.2 56 j)).2.2 57 j)) 58 (fun j => if j < 5 then 0 else (sA (sA (sA σ 55 (fun j => if j < 5 then 0 else σ.2.2 55 j)) 56 (fun j => if j < 5 then 0 else (sA σ 55 (fun j => if j < 5 then 0 else σ.2.2 55 j)).2.2 56 j)) 57 (fun j => if j < 5 then 0 else (sA (sA σ 55 (fun j => if j < 5 then 0 else σ.2.2 55 j)) 56 (fun j => if j < 5 then 0 else (sA σ 55 (fun j => if j < 5 then 0 else σ.2.2 55 j)).2.2 56 j)).2.2 57 j)).2.2 58 j)).2.2 59 j)) 60 (fun j => if j < 5 then 0 else (sA (sA (sA (sA (sA σ 55 (fun j => if j < 5 then 0 else σ.2.2 55 j)) 56 (fun j => if j < 5 then 0 else (sA σ 55 (fun j => if j < 5 then 0 else σ.2.2 55 j)).2.2 56 j)) 57 (fun j => if j < 5 then 0 else (sA (sA σ 55 (fun j => if j < 5 then 0 else σ.2.2 55 j)) 56 (fun j => if j < 5 then 0 else (sA σ 55 (fun j => if j < 5 then 0 else σ.2.2 55 j)).2.2 56 j)).2.2 57 j)) 58 (fun j => if j < 5 then 0 else (sA (sA (sA σ 55 (fun j => if j < 5 then 0 else σ.2.2 55 j)) 56 (fun j => if j < 5 then 0 else (sA σ 55 (fun j => if j < 5 then 0 else σ.2.2 55 j)).2.2 56 j)) 57 (fun j => if j < 5 then 0 else (sA (sA σ 55 (fun j => if j < 5 then 0 else σ.2.2 55 j)) 56 (fun j => if j < 5 then 0 else (sA σ 55 (fun j => if j < 5 then 0 else σ.2.2 55 j)).2.2 56 j)).2.2 57 j)).2.2 58 j)) 59 (fun j => if j < 5 then 0 else (sA (sA (sA (sA σ 55 (fun j => if j < 5 then 0 else σ.2.2 55 j)) 56 (fun j => if j < 5 then 0 else (sA σ 55 (fun j => if j < 5 then 0 else σ.2.2 55 j)).2.2 56 j)) 57 (fun j => if j < 5 then 0 else (sA (sA σ 55 (fun j => if j < 5 then 0 else σ.2.2 55 j)) 56 (fun j => if j < 5 then 0 else (sA σ 55 (fun j => if j < 5 then 0 else σ.2.2 55 j)).2.2 56 j)).2.2 57 j)) 58 (fun j => if j < 5 then 0 else (sA (sA (sA σ 55 (fun j => if j < 5 then 0 else σ.2.2 55 j)) 56 (fun j => if j < 5 then 0 else (sA σ 55 (fun j => if j < 5 then 0 else σ.2.2 55 j)).2.2 56 j)) 57 (fun j => if j < 5 then 0 else (sA (sA σ 55 (fun j => if j < 5 then 0 else σ.2.2 55 j)) 56 (fun j => if j < 5 then 0 else (sA σ 55 (fun j => if j < 5 then 0 else σ.2.2 55 j)).2.2 56 j)).2.2 57 j)).2.2 58 j)).2.2 59 j)).2.2 60 j)).2.2 61 j)).2.2 62 j)) 63 (fun j => if j < 5 then 0 else (sA (sA (sA (sA (sA (sA (sA (sA σ 55 (fun j => if j < 5 then 0 else σ.2.2 55 j)) 56 (fun j => if j < 5 then 0 else (sA σ 55 (fun j => if j < 5 then 0 else σ.2.2 55 j)).2.2 56 j)) 57 (fun j => if j < 5 then 0 else (sA (sA σ 55 (fun j => if j < 5 then 0 else σ.2.2 55 j)) 56 (fun j => if j < 5 then 0 else (sA σ 55 (fun j => if j < 5 then 0 else σ.2.2 55 j)).2.2 56 j)).2.2 57 j)) 58 (fun j => if j < 5 then 0 else (sA (sA (sA σ 55 (fun j => if j < 5 then 0 else σ.2.2 55 j)) 56 (fun j => if j < 5 then 0 else (sA σ 55 (fun j => if j < 5 then 0 else σ.2.2 55 j)).2.2 56 j)) 57 (fun j => if j < 5 then 0 else (sA (sA σ 55 (fun j => if j < 5 then 0 else σ.2.2 55 j)) 56 (fun j => if j < 5 then 0 else (sA σ 55 (fun j => if j < 5 then 0 else σ.2.2 55 j)).2.2 56 j)).2.2 57 j)).2.2 58 j)) 59 (fun j => if j < 5 then 0 else (sA (sA (sA (sA σ 55 (fun j => if j < 5 then 0 else σ.2.2 55 j)) 56 (fun j => if j < 5 then 0 else (sA σ 55 (fun j => if j < 5 then 0 else σ.2.2 55 j)).2.2 56 j)) 57 (fun j => if j < 5 then 0 else (sA (sA σ 55 (fun j => if j < 5 then 0 else σ.2.2 55 j)) 56 (fun j => if j < 5 then 0 else (sA σ 55 (fun j => if j < 5 then 0 else σ.2.2 55 j)).2.2 56 j)).2.2 57 j)) 58 (fun j => if j < 5 then 0 else (sA (sA (sA σ 55 (fun j => if j < 5 then 0 else σ.2.2 55 j)) 56 (fun j => if j < 5 then 0 else (sA σ 55 (fun j => if j < 5 then 0 else σ.2.2 55 j)).2.2 56 j)) 57 (fun j => if j < 5 then 0 else (sA (sA σ 55 (fun j => if j < 5 then 0 else σ.2.2 55 j)) 56 (fun j => if j < 5 then 0 else (sA σ 55 (fun j => if j < 5 then 0 else σ.2.2 55 j)).2.2 56 j)).2.2 57 j)).2.2 58 j)).2.2 59 j)) 60 (fun j => if j < 5 then 0 else (sA (sA (sA (sA (sA σ 55 (fun j => if j < 5 then 0 else σ.2.2 55 j)) 56 (fun j => if j < 5 then 0 else (sA σ 55 (fun j => if j < 5 then 0 else σ.2.2 55 j)).2.2 56 j)) 57 (fun j => if j < 5 then 0 else (sA (sA σ 55 (fun j => if j < 5 then 0 else σ.2.2 55 j)) 56 (fun j => if j < 5 then 0 else (sA σ 55 (fun j => if j < 5 then 0 else σ.2.2 55 j)).2.2 56 j)).2.2 57 j)) 58 (fun j => if j < 5 then 0 else (sA (sA (sA σ 55 (fun j => if j < 5 then 0 else σ.2.2 55 j)) 56 (fun j => if j < 5 then 0 else (sA σ 55 (fun j => if j < 5 then 0 else σ.2.2 55 j)).2.2 56 j)) 57 (fun j => if j < 5 then 0 else (sA (sA σ 55 (fun j => if j < 5 then 0 else σ.2.2 55 j)) 56 (fun j => if j < 5 then 0 else (sA σ 55 (fun j => if j < 5 then 0 else σ.2.2 55 j)).2.2 56 j)).2.2 57 j)).2.2 58 j)) 59 (fun j => if j < 5 then 0 else (sA (sA (sA (sA σ 55 (fun j => if j < 5 then 0 else σ.2.2 55 j)) 56 (fun j => if j < 5 then 0 else (sA σ 55 (fun j => if j < 5 then 0 else σ.2.2 55 j)).2.2 56 j)) 57 (fun j => if j < 5 then 0 else (sA (sA σ 55 (fun j => if j < 5 then 0 else σ.2.2 55 j)) 56 (fun j => if j < 5 then 0 else (sA σ 55 (fun j => if j < 5 then 0 else σ.2.2 55 j)).2.2 56 j)).2.2 57 j)) 58 (fun j => if j < 5 then 0 else (sA (sA (sA σ 55 (fun j => if j < 5 then 0 else σ.2.2 55 j)) 56 (fun j => if j < 5 then 0 else (sA σ 55 (fun j => if j < 5 then 0 else σ.2.2 55 j)).2.2 56 j)) 57 (fun j => if j < 5 then 0 else (sA (sA σ 55 (fun j => if j < 5 then 0 else σ.2.2 55 j)) 56 (fun j => if j < 5 then 0 else (sA σ 55 (fun j => if j < 5 then 0 else σ.2.2 55 j)).2.2 56 j)).2.2 57 j)).2.2 58 j)).2.2 59 j)).2.2 60 j)) 61 (fun j => if j < 5 then 0 else (sA (sA (sA (sA (sA (sA σ 55 (fun j => if j < 5 then 0 else σ.2.2 55 j)) 56 (fun j => if j < 5 then 0 else (sA σ 55 (fun j => if j < 5 then 0 else σ.2.2 55 j)).2.2 56 j)) 57 (fun j => if j < 5 then 0 else (sA (sA σ 55 (fun j => if j < 5 then 0 else σ.2.2 55 j)) 56 (fun j => if j < 5 then 0 else (sA σ 55 (fun j => if j < 5 then 0 else σ.2.2 55 j)).2.2 56 j)).2.2 57 j)) 58 (fun j => if j < 5 then 0 else (sA (sA (sA σ 55 (fun j => if j < 5 then 0 else σ.2.2 55 j)) 56 (fun j => if j < 5 then 0 else (sA σ 55 (fun j => if j < 5 then 0 else σ.2.2 55 j)).2.2 56 j)) 57 (fun j => if j < 5 then 0 else (sA (sA σ 55 (fun j => if j < 5 then 0 else σ.2.2 55 j)) 56 (fun j => if j < 5 then 0 else (sA σ 55 (fun j => if j < 5 then 0 else σ.2.2 55 j)).2.2 56 j)).2.2 57 j)).2.2 58 j)) 59 (fun j => if j < 5 then 0 else (sA (sA (sA (sA σ 55 (fun j => if j < 5 then 0 else σ.2.2 55 j)) 56 (fun j => if j < 5 then 0 else (sA σ 55 (fun j => if j < 5 then 0 else σ.2.2 55 j)).2.2 56 j)) 57 (fun j => if j < 5 then 0 else (sA (sA σ 55 (fun j => if j < 5 then 0 else σ.2.2 55 j)) 56 (fun j => if j < 5 then 0 else (sA σ 55 (fun j => if j < 5 then 0 else σ.2.2 55 j)).2.2 56 j)).2.2 57 j)) 58 (fun j => if j < 5 then 0 else (sA (sA (sA σ 55 (fun j => if j < 5 then 0 else σ.2.2 55 j)) 56 (fun j => if j < 5 then 0 else (sA σ 55 (fun j => if j < 5 then 0 else σ.2.2 55 j)).2.2 56 j)) 57 (fun j => if j < 5 then 0 else (sA (sA σ 55 (fun j => if j < 5 then 0 else σ.2.2 55 j)) 56 (fun j => if j < 5 then 0 else (sA σ 55 (fun j => if j < 5 then 0 else σ.2.2 55 j)).2.2 56 j)).2.2 57 j)).2.2 58 j)).2.2 59 j)) 60 (fun j => if j < 5 then 0 else (sA (sA (sA (sA (sA σ 55 (fun j => if j < 5 then 0 else σ.2.2 55 j)) 56 (fun j => if j < 5 then 0 else (sA σ 55 (fun j => if j < 5 then 0 else σ.2.2 55 j)).2.2 56 j)) 57 (fun j => if j < 5 then 0 else (sA (sA σ 55 (fun j => if j < 5 then 0 else σ.2.2 55 j)) 56 (fun j => if j < 5 then 0 else (sA σ 55 (fun j => if j < 5 then 0 else σ.2.2 55 j)).2.2 56 j)).2.2 57 j)) 58 (fun j => if j < 5 then 0 else (sA (sA (sA σ 55 (fun j => if j < 5 then 0 else σ.2.2 55 j)) 56 (fun j => if j < 5 then 0 else (sA σ 55 (fun j => if j < 5 then 0 else σ.2.2 55 j)).2.2 56 j)) 57 (fun j => if j < 5 then 0 else (sA (sA σ 55 (fun j => if j < 5 then 0 else σ.2.2 55 j)) 56 (fun j => if j < 5 then 0 else (sA σ 55 (fun j => if j < 5 then 0 else σ.2.2 55 j)).2.2 56 j)).2.2 57 j)).2.2 58 j)) 59 (fun j => if j < 5 then 0 else (sA (sA (sA (sA σ 55 (fun j => if j < 5 then 0 else σ.2.2 55 j)) 56 (fun j => if j < 5 then 0 else (sA σ 55 (fun j => if j < 5 then 0 else σ.2.2 55 j)).2.2 56 j)) 57 (fun j => if j < 5 then 0 else (sA (sA σ 55 (fun j => if j < 5 then 0 else σ.2.2 55 j)) 56 (fun j => if j < 5 then 0 else (sA σ 55 (fun j => if j < 5 then 0 else σ.2.2 55 j)).2.2 56 j)).2.2 57 j)) 58 (fun j => if j < 5 then 0 else (sA (sA (sA σ 55 (fun j => if j < 5 then 0 else σ.2.2 55 j)) 56 (fun j => if j < 5 then 0 else (sA σ 55 (fun j => if j < 5 then 0 else σ.2.2 55 j)).2.2 56 j)) 57 (fun j => if j < 5 then 0 else (sA (sA σ 55 (fun j => if j < 5 then 0 else σ.2.2 55 j)) 56 (fun j => if j < 5 then 0 else (sA σ 55 (fun j => if j < 5 then 0 else σ.2.2 55 j)).2.2 56 j)).2.2 57 j)).2.2 58 j)).2.2 59 j)).2.2 60 j)).2.2 61 j)) 62 (fun j => if j < 5 then 0 else (sA (sA (sA (sA (sA (sA (sA σ 55 (fun j => if j < 5 then 0 else σ.2.2 55 j)) 56 (fun j => if j < 5 then 0 else (sA σ 55 (fun j => if j < 5 then 0 else σ.2.2 55 j)).2.2 56 j)) 57 (fun j => if j < 5 then 0 else (sA (sA σ 55 (fun j => if j < 5 then 0 else σ.2.2 55 j)) 56 (fun j => if j < 5 then 0 else (sA σ 55 (fun j => if j < 5 then 0 else σ.2.2 55 j)).2.2 56 j)).2.2 57 j)) 58 (fun j => if j < 5 then 0 else (sA (sA (sA σ 55 (fun j => if j < 5 then 0 else σ.2.2 55 j)) 56 (fun j => if j < 5 then 0 else (sA σ 55 (fun j => if j < 5 then 0 else σ.2.2 55 j)).2.2 56 j)) 57 (fun j => if j < 5 then 0 else (sA (sA σ 55 (fun j => if j < 5 then 0 else σ.2.2 55 j)) 56 (fun j => if j < 5 then 0 else (sA σ 55 (fun j => if j < 5 then 0 else σ.2.2 55 j)).2.2 56 j)).2.2 57 j)).2.2 58 j)) 59 (fun j => if j < 5 then 0 else (sA (sA (sA (sA σ 55 (fun j => if j < 5 then 0 else σ.2.2 55 j)) 56 (fun j => if j < 5 then 0 else (sA σ 55 (fun j => if j < 5 then 0 else σ.2.2 55 j)).2.2 56 j)) 57 (fun j => if j < 5 then 0 else (sA (sA σ 55 (fun j => if j < 5 then 0 else σ.2.2 55 j)) 56 (fun j => if j < 5 then 0 else (sA σ 55 (fun j => if j < 5 then 0 else σ.2.2 55 j)).2.2 56 j)).2.2 57 j)) 58 (fun j => if j < 5 then 0 else (sA (sA (sA σ 55 (fun j => if j < 5 then 0 else σ.2.2 55 j)) 56 (fun j => if j < 5 then 0 else (sA σ 55 (fun j => if j < 5 then 0 else σ.2.2 55 j)).2.2 56 j)) 57 (fun j => if j < 5 then 0 else (sA (sA σ 55 (fun j => if j < 5 then 0 else σ.2.2 55 j)) 56 (fun j => if j < 5 then 0 else (sA σ 55 (fun j => if j < 5 then 0 else σ.2.2 55 j)).2.2 56 j)).2.2 57 j)).2.2 58 j)).2.2 59 j)) 60 (fun j => if j < 5 then 0 else (sA (sA (sA (sA (sA σ 55 (fun j => if j < 5 then 0 else σ.2.2 55 j)) 56 (fun j => if j < 5 then 0 else (sA σ 55 (fun j => if j < 5 then 0 else σ.2.2 55 j)).2.2 56 j)) 57 (fun j => if j < 5 then 0 else (sA (sA σ 55 (fun j => if j < 5 then 0 else σ.2.2 55 j)) 56 (fun j => if j < 5 then 0 else (sA σ 55 (fun j => if j < 5 then 0 else σ.2.2 55 j)).2.2 56 j)).2.2 57 j)) 58 (fun j => if j < 5 then 0 else (sA (sA (sA σ 55 (fun j => if j < 5 then 0 else σ.2.2 55 j)) 56 (fun j => if j < 5 then 0 else (sA σ 55 (fun j => if j < 5 then 0 else σ.2.2 55 j)).2.2 56 j)) 57 (fun j => if j < 5 then 0 else (sA (sA σ 55 (fun j => if j < 5 then 0 else σ.2.2 55 j)) 56 (fun j => if j < 5 then 0 else (sA σ 55 (fun j => if j < 5 then 0 else σ.2.2 55 j)).2.2 56 j)).2.2 57 j)).2.2 58 j)) 59 (fun j => if j < 5 then 0 else (sA (sA (sA (sA σ 55 (fun j => if j < 5 then 0 else σ.2.2 55 j)) 56 (fun j => if j < 5 then 0 else (sA σ 55 (fun j => if j < 5 then 0 else σ.2.2 55 j)).2.2 56 j)) 57 (fun j => if j < 5 then 0 else (sA (sA σ 55 (fun j => if j < 5 then 0 else σ.2.2 55 j)) 56 (fun j => if j < 5 then 0 else (sA σ 55 (fun j => if j < 5 then 0 else σ.2.2 55 j)).2.2 56 j)).2.2 57 j)) 58 (fun j => if j < 5 then 0 else (sA (sA (sA σ 55 (fun j => if j < 5 then 0 else σ.2.2 55 j)) 56 (fun j => if j < 5 then 0 else (sA σ 55 (fun j => if j < 5 then 0 else σ.2.2 55 j)).2.2 56 j)) 57 (fun j => if j < 5 then 0 else (sA (sA σ 55 (fun j => if j < 5 then 0 else σ.2.2 55 j)) 56 (fun j => if j < 5 then 0 else (sA σ 55 (fun j => if j < 5 then 0 else σ.2.2 55 j)).2.2 56 j)).2.2 57 j)).2.2 58 j)).2.2 59 j)).2.2 60 j)) 61 (fun j => if j < 5 then 0 else (sA (sA (sA (sA (sA (sA σ 55 (fun j => if j < 5 then 0 else σ.2.2 55 j)) 56 (fun j => if j < 5 then 0 else (sA σ 55 (fun j => if j < 5 then 0 else σ.2.2 55 j)).2.2 56 j)) 57 (fun j => if j < 5 then 0 else (sA (sA σ 55 (fun j => if j < 5 then 0 else σ.2.2 55 j)) 56 (fun j => if j < 5 then 0 else (sA σ 55 (fun j => if j < 5 then 0 else σ.2.2 55 j)).2.2 56 j)).2.2 57 j)) 58 (fun j => if j < 5 then 0 else (sA (sA (sA σ 55 (fun j => if j < 5 then 0 else σ.2.2 55 j)) 56 (fun j => if j < 5 then 0 else (sA σ 55 (fun j => if j < 5 then 0 else σ.2.2 55 j)).2.2 56 j)) 57 (fun j => if j < 5 then 0 else (sA (sA σ 55 (fun j => if j < 5 then 0 else σ.2.2 55 j)) 56 (fun j => if j < 5 then 0 else (sA σ 55 (fun j => if j < 5 then 0 else σ.2.2 55 j)).2.2 56 j)).2.2 57 j)).2.2 58 j)) 59 (fun j => if j < 5 then 0 else (sA (sA (sA (sA σ 55 (fun j => if j < 5 then 0 else σ.2.2 55 j)) 56 (fun j => if j < 5 then 0 else (sA σ 55 (fun j => if j < 5 then 0 else σ.2.2 55 j)).2.2 56 j)) 57 (fun j => if j < 5 then 0 else (sA (sA σ 55 (fun j => if j < 5 then 0 else σ.2.2 55 j)) 56 (fun j => if j < 5 then 0 else (sA σ 55 (fun j => if j < 5 then 0 else σ.2.2 55 j)).2.2 56 j)).2.2 57 j)) 58 (fun j => if j < 5 then 0 else (sA (sA (sA σ 55 (fun j => if j < 5 then 0 else σ.2.2 55 j)) 56 (fun j => if j < 5 then 0 else (sA σ 55 (fun j => if j < 5 then 0 else σ.2.2 55 j)).2.2 56 j)) 57 (fun j => if j < 5 then 0 else (sA (sA σ 55 (fun j => if j < 5 then 0 else σ.2.2 55 j)) 56 (fun j => if j < 5 then 0 else (sA σ 55 (fun j => if j < 5 then 0 else σ.2.2 55 j)).2.2 56 j)).2.2 57 j)).2.2 58 j)).2.2 59 j)) 60 (fun j => if j < 5 then 0 else (sA (sA (sA (sA (sA σ 55 (fun j => if j < 5 then 0 else σ.2.2 55 j)) 56 (fun j => if j < 5 then 0 else (sA σ 55 (fun j => if j < 5 then 0 else σ.2.2 55 j)).2.2 56 j)) 57 (fun j => if j < 5 then 0 else (sA (sA σ 55 (fun j => if j < 5 then 0 else σ.2.2 55 j)) 56 (fun j => if j < 5 then 0 else (sA σ 55 (fun j => if j < 5 then 0 else σ.2.2 55 j)).2.2 56 j)).2.2 57 j)) 58 (fun j => if j < 5 then 0 else (sA (sA (sA σ 55 (fun j => if j < 5 then 0 else σ.2.2 55 j)) 56 (fun j => if j < 5 then 0 else (sA σ 55 (fun j => if j < 5 then 0 else σ.2.2 55 j)).2.2 56 j)) 57 (fun j => if j < 5 then 0 else (sA (sA σ 55 (fun j => if j < 5 then 0 else σ.2.2 55 j)) 56 (fun j => if j < 5 then 0 else (sA σ 55 (fun j => if j < 5 then 0 else σ.2.2 55 j)).2.2 56 j)).2.2 57 j)).2.2 58 j)) 59 (fun j => if j < 5 then 0 else (sA (sA (sA (sA σ 55 (fun j => if j < 5 then 0 else σ.2.2 55 j)) 56 (fun j => if j < 5 then 0 else (sA σ 55 (fun j => if j < 5 then 0 else σ.2.2 55 j)).2.2 56 j)) 57 (fun j => if j < 5 then 0 else (sA (sA σ 55 (fun j => if j < 5 then 0 else σ.2.2 55 j)) 56 (fun j => if j < 5 then 0 else (sA σ 55 (fun j => if j < 5 then 0 else σ.2.2 55 j)).2.2 56 j)).2.2 57 j)) 58 (fun j => if j < 5 then 0 else (sA (sA (sA σ 55 (fun j => if j < 5 then 0 else σ.2.2 55 j)) 56 (fun j => if j < 5 then 0 else (sA σ 55 (fun j => if j < 5 then 0 else σ.2.2 55 j)).2.2 56 j)) 57 (fun j => if j < 5 then 0 else (sA (sA σ 55 (fun j => if j < 5 then 0 else σ.2.2 55 j)) 56 (fun j => if j < 5 then 0 else (sA σ 55 (fun j => if j < 5 then 0 else σ.2.2 55 j)).2.2 56 j)).2.2 57 j)).2.2 58 j)).2.2 59 j)).2.2 60 j)).2.2 61 j)).2.2 62 j)).2.2 63 j)) 64 (fun j => if j < 32 then 0 else (sA (sA (sA (sA (sA (sA (sA (sA (sA σ 55 (fun j => if j < 5 then 0 else σ.2.2 55 j)) 56 (fun j => if j < 5 then 0 else (sA σ 55 (fun j => if j < 5 then 0 else σ.2.2 55 j)).2.2 56 j)) 57 (fun j => if j < 5 then 0 else (sA (sA σ 55 (fun j => if j < 5 then 0 else σ.2.2 55 j)) 56 (fun j => if j < 5 then 0 else (sA σ 55 (fun j => if j < 5 then 0 else σ.2.2 55 j)).2.2 56 j)).2.2 57 j)) 58 (fun j => if j < 5 then 0 else (sA (sA (sA σ 55 (fun j => if j < 5 then 0 else σ.2.2 55 j)) 56 (fun j => if j < 5 then 0 else (sA σ 55 (fun j => if j < 5 then 0 else σ.2.2 55 j)).2.2 56 j)) 57 (fun j => if j < 5 then 0 else (sA (sA σ 55 (fun j => if j < 5 then 0 else σ.2.2 55 j)) 56 (fun j => if j < 5 then 0 else (sA σ 55 (fun j => if j < 5 then 0 else σ.2.2 55 j)).2.2 56 j)).2.2 57 j)).2.2 58 j)) 59 (fun j => if j < 5 then 0 else (sA (sA (sA (sA σ 55 (fun j => if j < 5 then 0 else σ.2.2 55 j)) 56 (fun j => if j < 5 then 0 else (sA σ 55 (fun j => if j < 5 then 0 else σ.2.2 55 j)).2.2 56 j)) 57 (fun j => if j < 5 then 0 else (sA (sA σ 55 (fun j => if j < 5 then 0 else σ.2.2 55 j)) 56 (fun j => if j < 5 then 0 else (sA σ 55 (fun j => if j < 5 then 0 else σ.2.2 55 j)).2.2 56 j)).2.2 57 j)) 58 (fun j => if j < 5 then 0 else (sA (sA (sA σ 55 (fun j => if j < 5 then 0 else σ.2.2 55 j)) 56 (fun j => if j < 5 then 0 else (sA σ 55 (fun j => if j < 5 then 0 else σ.2.2 55 j)).2.2 56 j)) 57 (fun j => if j < 5 then 0 else (sA (sA σ 55 (fun j => if j < 5 then 0 else σ.2.2 55 j)) 56 (fun j => if j < 5 then 0 else (sA σ 55 (fun j => if j < 5 then 0 else σ.2.2 55 j)).2.2 56 j)).2.2 57 j)).2.2 58 j)).2.2 59 j)) 60 (fun j => if j < 5 then 0 else (sA (sA (sA (sA (sA σ 55 (fun j => if j < 5 then 0 else σ.2.2 55 j)) 56 (fun j => if j < 5 then 0 else (sA σ 55 (fun j => if j < 5 then 0 else σ.2.2 55 j)).2.2 56 j)) 57 (fun j => if j < 5 then 0 else (sA (sA σ 55 (fun j => if j < 5 then 0 else σ.2.2 55 j)) 56 (fun j => if j < 5 then 0 else (sA σ 55 (fun j => if j < 5 then 0 else σ.2.2 55 j)).2.2 56 j)).2.2 57 j)) 58 (fun j => if j < 5 then 0 else (sA (sA (sA σ 55 (fun j => if j < 5 then 0 else σ.2.2 55 j)) 56 (fun j => if j < 5 then 0 else (sA σ 55 (fun j => if j < 5 then 0 else σ.2.2 55 j)).2.2 56 j)) 57 (fun j => if j < 5 then 0 else (sA (sA σ 55 (fun j => if j < 5 then 0 else σ.2.2 55 j)) 56 (fun j => if j < 5 then 0 else (sA σ 55 (fun j => if j < 5 then 0 else σ.2.2 55 j)).2.2 56 j)).2.2 57 j)).2.2 58 j)) 59 (fun j => if j < 5 then 0 else (sA (sA (sA (sA σ 55 (fun j => if j < 5 then 0 else σ.2.2 55 j)) 56 (fun j => if j < 5 then 0 else (sA σ 55 (fun j => if j < 5 then 0 else σ.2.2 55 j)).2.2 56 j)) 57 (fun j => if j < 5 then 0 else (sA (sA σ 55 (fun j => if j < 5 then 0 else σ.2.2 55 j)) 56 (fun j => if j < 5 then 0 else (sA σ 55 (fun j => if j < 5 then 0 else σ.2.2 55 j)).2.2 56 j)).2.2 57 j)) 58 (fun j => if j < 5 then 0 else (sA (sA (sA σ 55 (fun j => if j < 5 then 0 else σ.2.2 55 j)) 56 (fun j => if j < 5 then 0 else (sA σ 55 (fun j => if j < 5 then 0 else σ.2.2 55 j)).2.2 56 j)) 57 (fun j => if j < 5 then 0 else (sA (sA σ 55 (fun j => if j < 5 then 0 else σ.2.2 55 j)) 56 (fun j => if j < 5 then 0 else (sA σ 55 (fun j => if j < 5 then 0 else σ.2.2 55 j)).2.2 56 j)).2.2 57 j)).2.2 58 j)).2.2 59 j)).2.2 60 j)) 61 (fun j => if j < 5 then 0 else (sA (sA (sA (sA (sA (sA σ 55 (fun j => if j < 5 then 0 else σ.2.2 55 j)) 56 (fun j => if j < 5 then 0 else (sA σ 55 (fun j => if j < 5 then 0 else σ.2.2 55 j)).2.2 56 j)) 57 (fun j => if j < 5 then 0 else (sA (sA σ 55 (fun j => if j < 5 then 0 else σ.2.2 55 j)) 56 (fun j => if j < 5 then 0 else (sA σ 55 (fun j => if j < 5 then 0 else σ.2.2 55 j)).2.2 56 j)).2.2 57 j)) 58 (fun j => if j < 5 then 0 else (sA (sA (sA σ 55 (fun j => if j < 5 then 0 else σ.2.2 55 j)) 56 (fun j => if j < 5 then 0 else (sA σ 55 (fun j => if j < 5 then 0 else σ.2.2 55 j)).2.2 56 j)) 57 (fun j => if j < 5 then 0 else (sA (sA σ 55 (fun j => if j < 5 then 0 else σ.2.2 55 j)) 56 (fun j => if j < 5 then 0 else (sA σ 55 (fun j => if j < 5 then 0 else σ.2.2 55 j)).2.2 56 j)).2.2 57 j)).2.2 58 j)) 59 (fun j => if j < 5 then 0 else (sA (sA (sA (sA σ 55 (fun j => if j < 5 then 0 else σ.2.2 55 j)) 56 (fun j => if j < 5 then 0 else (sA σ 55 (fun j => if j < 5 then 0 else σ.2.2 55 j)).2.2 56 j)) 57 (fun j => if j < 5 then 0 else (sA (sA σ 55 (fun j => if j < 5 then 0 else σ.2.2 55 j)) 56 (fun j => if j < 5 then 0 else (sA σ 55 (fun j => if j < 5 then 0 else σ.2.2 55 j)).2.2 56 j)).2.2 57 j)) 58 (fun j => if j < 5 then 0 else (sA (sA (sA σ 55 (fun j => if j < 5 then 0 else σ.2.2 55 j)) 56 (fun j => if j < 5 then 0 else (sA σ 55 (fun j => if j < 5 then 0 else σ.2.2 55 j)).2.2 56 j)) 57 (fun j => if j < 5 then 0 else (sA (sA σ 55 (fun j => if j < 5 then 0 else σ.2.2 55 j)) 56 (fun j => if j < 5 then 0 else (sA σ 55 (fun j => if j < 5 then 0 else σ.2.2 55 j)).2.2 56 j)).2.2 57 j)).2.2 58 j)).2.2 59 j)) 60 (fun j => if j < 5 then 0 else (sA (sA (sA (sA (sA σ 55 (fun j => if j < 5 then 0 else σ.2.2 55 j)) 56 (fun j => if j < 5 then 0 else (sA σ 55 (fun j => if j < 5 then 0 else σ.2.2 55 j)).2.2 56 j)) 57 (fun j => if j < 5 then 0 else (sA (sA σ 55 (fun j => if j < 5 then 0 else σ.2.2 55 j)) 56 (fun j => if j < 5 then 0 else (sA σ 55 (fun j => if j < 5 then 0 else σ.2.2 55 j)).2.2 56 j)).2.2 57 j)) 58 (fun j => if j < 5 then 0 else (sA (sA (sA σ 55 (fun j => if j < 5 then 0 else σ.2.2 55 j)) 56 (fun j => if j < 5 then 0 else (sA σ 55 (fun j => if j < 5 then 0 else σ.2.2 55 j)).2.2 56 j)) 57 (fun j => if j < 5 then 0 else (sA (sA σ 55 (fun j => if j < 5 then 0 else σ.2.2 55 j)) 56 (fun j => if j < 5 then 0 else (sA σ 55 (fun j => if j < 5 then 0 else σ.2.2 55 j)).2.2 56 j)).2.2 57 j)).2.2 58 j)) 59 (fun j => if j < 5 then 0 else (sA (sA (sA (sA σ 55 (fun j => if j < 5 then 0 else σ.2.2 55 j)) 56 (fun j => if j < 5 then 0 else (sA σ 55 (fun j => if j < 5 then 0 else σ.2.2 55 j)).2.2 56 j)) 57 (fun j => if j < 5 then 0 else (sA (sA σ 55 (fun j => if j < 5 then 0 else σ.2.2 55 j)) 56 (fun j => if j < 5 then 0 else (sA σ 55 (fun j => if j < 5 then 0 else σ.2.2 55 j)).2.2 56 j)).2.2 57 j)) 58 (fun j => if j < 5 then 0 else (sA (sA (sA σ 55 (fun j => if j < 5 then 0 else σ.2.2 55 j)) 56 (fun j => if j < 5 then 0 else (sA σ 55 (fun j => if j < 5 then 0 else σ.2.2 55 j)).2.2 56 j)) 57 (fun j => if j < 5 then 0 else (sA (sA σ 55 (fun j => if j < 5 then 0 else σ.2.2 55 j)) 56 (fun j => if j < 5 then 0 else (sA σ 55 (fun j => if j < 5 then 0 else σ.2.2 55 j)).2.2 56 j)).2.2 57 j)).2.2 58 j)).2.2 59 j)).2.2 60 j)).2.2 61 j)) 62 (fun j => if j < 5 then 0 else (sA (sA (sA (sA (sA (sA (sA σ 55 (fun j => if j < 5 then 0 else σ.2.2 55 j)) 56 (fun j => if j < 5 then 0 else (sA σ 55 (fun j => if j < 5 then 0 else σ.2.2 55 j)).2.2 56 j)) 57 (fun j => if j < 5 then 0 else (sA (sA σ 55 (fun j => if j < 5 then 0 else σ.2.2 55 j)) 56 (fun j => if j < 5 then 0 else (sA σ 55 (fun j => if j < 5 then 0 else σ.2.2 55 j)).2.2 56 j)).2.2 57 j)) 58 (fun j => if j < 5 then 0 else (sA (sA (sA σ 55 (fun j => if j < 5 then 0 else σ.2.2 55 j)) 56 (fun j => if j < 5 then 0 else (sA σ 55 (fun j => if j < 5 then 0 else σ.2.2 55 j)).2.2 56 j)) 57 (fun j => if j < 5 then 0 else (sA (sA σ 55 (fun j => if j < 5 then 0 else σ.2.2 55 j)) 56 (fun j => if j < 5 then 0 else (sA σ 55 (fun j => if j < 5 then 0 else σ.2.2 55 j)).2.2 56 j)).2.2 57 j)).2.2 58 j)) 59 (fun j => if j < 5 then 0 else (sA (sA (sA (sA σ 55 (fun j => if j < 5 then 0 else σ.2.2 55 j)) 56 (fun j => if j < 5 then 0 else (sA σ 55 (fun j => if j < 5 then 0 else σ.2.2 55 j)).2.2 56 j)) 57 (fun j => if j < 5 then 0 else (sA (sA σ 55 (fun j => if j < 5 then 0 else σ.2.2 55 j)) 56 (fun j => if j < 5 then 0 else (sA σ 55 (fun j => if j < 5 then 0 else σ.2.2 55 j)).2.2 56 j)).2.2 57 j)) 58 (fun j => if j < 5 then 0 else (sA (sA (sA σ 55 (fun j => if j < 5 then 0 else σ.2.2 55 j)) 56 (fun j => if j < 5 then 0 else (sA σ 55 (fun j => if j < 5 then 0 else σ.2.2 55 j)).2.2 56 j)) 57 (fun j => if j < 5 then 0 else (sA (sA σ 55 (fun j => if j < 5 then 0 else σ.2.2 55 j)) 56 (fun j => if j < 5 then 0 else (sA σ 55 (fun j => if j < 5 then 0 else σ.2.2 55 j)).2.2 56 j)).2.2 57 j)).2.2 58 j)).2.2 59 j)) 60 (fun j => if j < 5 then 0 else (sA (sA (sA (sA (sA σ 55 (fun j => if j < 5 then 0 else σ.2.2 55 j)) 56 (fun j => if j < 5 then 0 else (sA σ 55 (fun j => if j < 5 then 0 else σ.2.2 55 j)).2.2 56 j)) 57 (fun j => if j < 5 then 0 else (sA (sA σ 55 (fun j => if j < 5 then 0 else σ.2.2 55 j)) 56 (fun j => if j < 5 then 0 else (sA σ 55 (fun j => if j < 5 then 0 else σ.2.2 55 j)).2.2 56 j)).2.2 57 j)) 58 (fun j => if j < 5 then 0 else (sA (sA (sA σ 55 (fun j => if j < 5 then 0 else σ.2.2 55 j)) 56 (fun j => if j < 5 then 0 else (sA σ 55 (fun j => if j < 5 then 0 else σ.2.2 55 j)).2.2 56 j)) 57 (fun j => if j < 5 then 0 else (sA (sA σ 55 (fun j => if j < 5 then 0 else σ.2.2 55 j)) 56 (fun j => if j < 5 then 0 else (sA σ 55 (fun j => if j < 5 then 0 else σ.2.2 55 j)).2.2 56 j)).2.2 57 j)).2.2 58 j)) 59 (fun j => if j < 5 then 0 else (sA (sA (sA (sA σ 55 (fun j => if j < 5 then 0 else σ.2.2 55 j)) 56 (fun j => if j < 5 then 0 else (sA σ 55 (fun j => if j < 5 then 0 else σ.2.2 55 j)).2.2 56 j)) 57 (fun j => if j < 5 then 0 else (sA (sA σ 55 (fun j => if j < 5 then 0 else σ.2.2 55 j)) 56 (fun j => if j < 5 then 0 else (sA σ 55 (fun j => if j < 5 then 0 else σ.2.2 55 j)).2.2 56 j)).2.2 57 j)) 58 (fun j => if j < 5 then 0 else (sA (sA (sA σ 55 (fun j => if j < 5 then 0 else σ.2.2 55 j)) 56 (fun j => if j < 5 then 0 else (sA σ 55 (fun j => if j < 5 then 0 else σ.2.2 55 j)).2.2 56 j)) 57 (fun j => if j < 5 then 0 else (sA (sA σ 55 (fun j => if j < 5 then 0 else σ.2.2 55 j)) 56 (fun j => if j < 5 then 0 else (sA σ 55 (fun j => if j < 5 then 0 else σ.2.2 55 j)).2.2 56 j)).2.2 57 j)).2.2 58 j)).2.2 59 j)).2.2 60 j)) 61 (fun j => if j < 5 then 0 else (sA (sA (sA (sA (sA (sA σ 55 (fun j => if j < 5 then 0 else σ.2.2 55 j)) 56 (fun j => if j < 5 then 0 else (sA σ 55 (fun j => if j < 5 then 0 else σ.2.2 55 j)).2.2 56 j)) 57 (fun j => if j < 5 then 0 else (sA (sA σ 55 (fun j => if j < 5 then 0 else σ.2.2 55 j)) 56 (fun j => if j < 5 then 0 else (sA σ 55 (fun j => if j < 5 then 0 else σ.2.2 55 j)).2.2 56 j)).2.2 57 j)) 58 (fun j => if j < 5 then 0 else (sA (sA (sA σ 55 (fun j => if j < 5 then 0 else σ.2.2 55 j)) 56 (fun j => if j < 5 then 0 else (sA σ 55 (fun j => if j < 5 then 0 else σ.2.2 55 j)).2.2 56 j)) 57 (fun j => if j < 5 then 0 else (sA (sA σ 55 (fun j => if j < 5 then 0 else σ.2.2 55 j)) 56 (fun j => if j < 5 then 0 else (sA σ 55 (fun j => if j < 5 then 0 else σ.2.2 55 j)).2.2 56 j)).2.2 57 j)).2.2 58 j)) 59 (fun j => if j < 5 then 0 else (sA (sA (sA (sA σ 55 (fun j => if j < 5 then 0 else σ.2.2 55 j)) 56 (fun j => if j < 5 then 0 else (sA σ 55 (fun j => if j < 5 then 0 else σ.2.2 55 j)).2.2 56 j)) 57 (fun j => if j < 5 then 0 else (sA (sA σ 55 (fun j => if j < 5 then 0 else σ.2.2 55 j)) 56 (fun j => if j < 5 then 0 else (sA σ 55 (fun j => if j < 5 then 0 else σ.2.2 55 j)).2.2 56 j)).2.2 57 j)) 58 (fun j => if j < 5 then 0 else (sA (sA (sA σ 55 (fun j => if j < 5 then 0 else σ.2.2 55 j)) 56 (fun j => if j < 5 then 0 else (sA σ 55 (fun j => if j < 5 then 0 else σ.2.2 55 j)).2.2 56 j)) 57 (fun j => if j < 5 then 0 else (sA (sA σ 55 (fun j => if j < 5 then 0 else σ.2.2 55 j)) 56 (fun j => if j < 5 then 0 else (sA σ 55 (fun j => if j < 5 then 0 else σ.2.2 55 j)).2.2 56 j)).2.2 57 j)).2.2 58 j)).2.2 59 j)) 60 (fun j => if j < 5 then 0 else (sA (sA (sA (sA (sA σ 55 (fun j => if j < 5 then 0 else σ.2.2 55 j)) 56 (fun j => if j < 5 then 0 else (sA σ 55 (fun j => if j < 5 then 0 else σ.2.2 55 j)).2.2 56 j)) 57 (fun j => if j < 5 then 0 else (sA (sA σ 55 (fun j => if j < 5 then 0 else σ.2.2 55 j)) 56 (fun j => if j < 5 then 0 else (sA σ 55 (fun j => if j < 5 then 0 else σ.2.2 55 j)).2.2 56 j)).2.2 57 j)) 58 (fun j => if j < 5 then 0 else (sA (sA (sA σ 55 (fun j => if j < 5 then 0 else σ.2.2 55 j)) 56 (fun j => if j < 5 then 0 else (sA σ 55 (fun j => if j < 5 then 0 else σ.2.2 55 j)).2.2 56 j)) 57 (fun j => if j < 5 then 0 else (sA (sA σ 55 (fun j => if j < 5 then 0 else σ.2.2 55 j)) 56 (fun j => if j < 5 then 0 else (sA σ 55 (fun j => if j < 5 then 0 else σ.2.2 55 j)).2.2 56 j)).2.2 57 j)).2.2 58 j)) 59 (fun j => if j < 5 then 0 else (sA (sA (sA (sA σ 55 (fun j => if j < 5 then 0 else σ.2.2 55 j)) 56 (fun j => if j < 5 then 0 else (sA σ 55 (fun j => if j < 5 then 0 else σ.2.2 55 j)).2.2 56 j)) 57 (fun j => if j < 5 then 0 else (sA (sA σ 55 (fun j => if j < 5 then 0 else σ.2.2 55 j)) 56 (fun j => if j < 5 then 0 else (sA σ 55 (fun j => if j < 5 then 0 else σ.2.2 55 j)).2.2 56 j)).2.2 57 j)) 58 (fun j => if j < 5 then 0 else (sA (sA (sA σ 55 (fun j => if j < 5 then 0 else σ.2.2 55 j)) 56 (fun j => if j < 5 then 0 else (sA σ 55 (fun j => if j < 5 then 0 else σ.2.2 55 j)).2.2 56 j)) 57 (fun j => if j < 5 then 0 else (sA (sA σ 55 (fun j => if j < 5 then 0 else σ.2.2 55 j)) 56 (fun j => if j < 5 then 0 else (sA σ 55 (fun j => if j < 5 then 0 else σ.2.2 55 j)).2.2 56 j)).2.2 57 j)).2.2 58 j)).2.2 59 j)).2.2 60 j)).2.2 61 j)).2.2 62 j)) 63 (fun j => if j < 5 then 0 else (sA (sA (sA (sA (sA (sA (sA (sA σ 55 (fun j => if j < 5 then 0 else σ.2.2 55 j)) 56 (fun j => if j < 5 then 0 else (sA σ 55 (fun j => if j < 5 then 0 else σ.2.2 55 j)).2.2 56 j)) 57 (fun j => if j < 5 then 0 else (sA (sA σ 55 (fun j => if j < 5 then 0 else σ.2.2 55 j)) 56 (fun j => if j < 5 then 0 else (sA σ 55 (fun j => if j < 5 then 0 else σ.2.2 55 j)).2.2 56 j)).2.2 57 j)) 58 (fun j => if j < 5 then 0 else (sA (sA (sA σ 55 (fun j => if j < 5 then 0 else σ.2.2 55 j)) 56 (fun j => if j < 5 then 0 else (sA σ 55 (fun j => if j < 5 then 0 else σ.2.2 55 j)).2.2 56 j)) 57 (fun j => if j < 5 then 0 else (sA (sA σ 55 (fun j => if j < 5 then 0 else σ.2.2 55 j)) 56 (fun j => if j < 5 then 0 else (sA σ 55 (fun j => if j < 5 then 0 else σ.2.2 55 j)).2.2 56 j)).2.2 57 j)).2.2 58 j)) 59 (fun j => if j < 5 then 0 else (sA (sA (sA (sA σ 55 (fun j => if j < 5 then 0 else σ.2.2 55 j)) 56 (fun j => if j < 5 then 0 else (sA σ 55 (fun j => if j < 5 then 0 else σ.2.2 55 j)).2.2 56 j)) 57 (fun j => if j < 5 then 0 else (sA (sA σ 55 (fun j => if j < 5 then 0 else σ.2.2 55 j)) 56 (fun j => if j < 5 then 0 else (sA σ 55 (fun j => if j < 5 then 0 else σ.2.2 55 j)).2.2 56 j)).2.2 57 j)) 58 (fun j => if j < 5 then 0 else (sA (sA (sA σ 55 (fun j => if j < 5 then 0 else σ.2.2 55 j)) 56 (fun j => if j < 5 then 0 else (sA σ 55 (fun j => if j < 5 then 0 else σ.2.2 55 j)).2.2 56 j)) 57 (fun j => if j < 5 then 0 else (sA (sA σ 55 (fun j => if j < 5 then 0 else σ.2.2 55 j)) 56 (fun j => if j < 5 then 0 else (sA σ 55 (fun j => if j < 5 then 0 else σ.2.2 55 j)).2.2 56 j)).2.2 57 j)).2.2 58 j)).2.2 59 j)) 60 (fun j => if j < 5 then 0 else (sA (sA (sA (sA (sA σ 55 (fun j => if j < 5 then 0 else σ.2.2 55 j)) 56 (fun j => if j < 5 then 0 else (sA σ 55 (fun j => if j < 5 then 0 else σ.2.2 55 j)).2.2 56 j)) 57 (fun j => if j < 5 then 0 else (sA (sA σ 55 (fun j => if j < 5 then 0 else σ.2.2 55 j)) 56 (fun j => if j < 5 then 0 else (sA σ 55 (fun j => if j < 5 then 0 else σ.2.2 55 j)).2.2 56 j)).2.2 57 j)) 58 (fun j => if j < 5 then 0 else (sA (sA (sA σ 55 (fun j => if j < 5 then 0 else σ.2.2 55 j)) 56 (fun j => if j < 5 then 0 else (sA σ 55 (fun j => if j < 5 then 0 else σ.2.2 55 j)).2.2 56 j)) 57 (fun j => if j < 5 then 0 else (sA (sA σ 55 (fun j => if j < 5 then 0 else σ.2.2 55 j)) 56 (fun j => if j < 5 then 0 else (sA σ 55 (fun j => if j < 5 then 0 else σ.2.2 55 j)).2.2 56 j)).2.2 57 j)).2.2 58 j)) 59 (fun j => if j < 5 then 0 else (sA (sA (sA (sA σ 55 (fun j => if j < 5 then 0 else σ.2.2 55 j)) 56 (fun j => if j < 5 then 0 else (sA σ 55 (fun j => if j < 5 then 0 else σ.2.2 55 j)).2.2 56 j)) 57 (fun j => if j < 5 then 0 else (sA (sA σ 55 (fun j => if j < 5 then 0 else σ.2.2 55 j)) 56 (fun j => if j < 5 then 0 else (sA σ 55 (fun j => if j < 5 then 0 else σ.2.2 55 j)).2.2 56 j)).2.2 57 j)) 58 (fun j => if j < 5 then 0 else (sA (sA (sA σ 55 (fun j => if j < 5 then 0 else σ.2.2 55 j)) 56 (fun j => if j < 5 then 0 else (sA σ 55 (fun j => if j < 5 then 0 else σ.2.2 55 j)).2.2 56 j)) 57 (fun j => if j < 5 then 0 else (sA (sA σ 55 (fun j => if j < 5 then 0 else σ.2.2 55 j)) 56 (fun j => if j < 5 then 0 else (sA σ 55 (fun j => if j < 5 then 0 else σ.2.2 55 j)).2.2 56 j)).2.2 57 j)).2.2 58 j)).2.2 59 j)).2.2 60 j)) 61 (fun j => if j < 5 then 0 else (sA (sA (sA (sA (sA (sA σ 55 (fun j => if j < 5 then 0 else σ.2.2 55 j)) 56 (fun j => if j < 5 then 0 else (sA σ 55 (fun j => if j < 5 then 0 else σ.2.2 55 j)).2.2 56 j)) 57 (fun j => if j < 5 then 0 else (sA (sA σ 55 (fun j => if j < 5 then 0 else σ.2.2 55 j)) 56 (fun j => if j < 5 then 0 else (sA σ 55 (fun j => if j < 5 then 0 else σ.2.2 55 j)).2.2 56 j)).2.2 57 j)) 58 (fun j => if j < 5 then 0 else (sA (sA (sA σ 55 (fun j => if j < 5 then 0 else σ.2.2 55 j)) 56 (fun j => if j < 5 then 0 else (sA σ 55 (fun j => if j < 5 then 0 else σ.2.2 55 j)).2.2 56 j)) 57 (fun j => if j < 5 then 0 else (sA (sA σ 55 (fun j => if j < 5 then 0 else σ.2.2 55 j)) 56 (fun j => if j < 5 then 0 else (sA σ 55 (fun j => if j < 5 then 0 else σ.2.2 55 j)).2.2 56 j)).2.2 57 j)).2.2 58 j)) 59 (fun j => if j < 5 then 0 else (sA (sA (sA (sA σ 55 (fun j => if j < 5 then 0 else σ.2.2 55 j)) 56 (fun j => if j < 5 then 0 else (sA σ 55 (fun j => if j < 5 then 0 else σ.2.2 55 j)).2.2 56 j)) 57 (fun j => if j < 5 then 0 else (sA (sA σ 55 (fun j => if j < 5 then 0 else σ.2.2 55 j)) 56 (fun j => if j < 5 then 0 else (sA σ 55 (fun j => if j < 5 then 0 else σ.2.2 55 j)).2.2 56 j)).2.2 57 j)) 58 (fun j => if j < 5 then 0 else (sA (sA (sA σ 55 (fun j => if j < 5 then 0 else σ.2.2 55 j)) 56 (fun j => if j < 5 then 0 else (sA σ 55 (fun j => if j < 5 then 0 else σ.2.2 55 j)).2.2 56 j)) 57 (fun j => if j < 5 then 0 else (sA (sA σ 55 (fun j => if j < 5 then 0 else σ.2.2 55 j)) 56 (fun j => if j < 5 then 0 else (sA σ 55 (fun j => if j < 5 then 0 else σ.2.2 55 j)).2.2 56 j)).2.2 57 j)).2.2 58 j)).2.2 59 j)) 60 (fun j => if j < 5 then 0 else (sA (sA (sA (sA (sA σ 55 (fun j => if j < 5 then 0 else σ.2.2 55 j)) 56 (fun j => if j < 5 then 0 else (sA σ 55 (fun j => if j < 5 then 0 else σ.2.2 55 j)).2.2 56 j)) 57 (fun j => if j < 5 then 0 else (sA (sA σ 55 (fun j => if j < 5 then 0 else σ.2.2 55 j)) 56 (fun j => if j < 5 then 0 else (sA σ 55 (fun j => if j < 5 then 0 else σ.2.2 55 j)).2.2 56 j)).2.2 57 j)) 58 (fun j => if j < 5 then 0 else (sA (sA (sA σ 55 (fun j => if j < 5 then 0 else σ.2.2 55 j)) 56 (fun j => if j < 5 then 0 else (sA σ 55 (fun j => if j < 5 then 0 else σ.2.2 55 j)).2.2 56 j)) 57 (fun j => if j < 5 then 0 else (sA (sA σ 55 (fun j => if j < 5 then 0 else σ.2.2 55 j)) 56 (fun j => if j < 5 then 0 else (sA σ 55 (fun j => if j < 5 then 0 else σ.2.2 55 j)).2.2 56 j)).2.2 57 j)).2.2 58 j)) 59 (fun j => if j < 5 then 0 else (sA (sA (sA (sA σ 55 (fun j => if j < 5 then 0 else σ.2.2 55 j)) 56 (fun j => if j < 5 then 0 else (sA σ 55 (fun j => if j < 5 then 0 else σ.2.2 55 j)).2.2 56 j)) 57 (fun j => if j < 5 then 0 else (sA (sA σ 55 (fun j => if j < 5 then 0 else σ.2.2 55 j)) 56 (fun j => if j < 5 then 0 else (sA σ 55 (fun j => if j < 5 then 0 else σ.2.2 55 j)).2.2 56 j)).2.2 57 j)) 58 (fun j => if j < 5 then 0 else (sA (sA (sA σ 55 (fun j => if j < 5 then 0 else σ.2.2 55 j)) 56 (fun j => if j < 5 then 0 else (sA σ 55 (fun j => if j < 5 then 0 else σ.2.2 55 j)).2.2 56 j)) 57 (fun j => if j < 5 then 0 else (sA (sA σ 55 (fun j => if j < 5 then 0 else σ.2.2 55 j)) 56 (fun j => if j < 5 then 0 else (sA σ 55 (fun j => if j < 5 then 0 else σ.2.2 55 j)).2.2 56 j)).2.2 57 j)).2.2 58 j)).2.2 59 j)).2.2 60 j)).2.2 61 j)) 62 (fun j => if j < 5 then 0 else (sA (sA (sA (sA (sA (sA (sA σ 55 (fun j => if j < 5 then 0 else σ.2.2 55 j)) 56 (fun j => if j < 5 then 0 else (sA σ 55 (fun j => if j < 5 then 0 else σ.2.2 55 j)).2.2 56 j)) 57 (fun j => if j < 5 then 0 else (sA (sA σ 55 (fun j => if j < 5 then 0 else σ.2.2 55 j)) 56 (fun j => if j < 5 then 0 else (sA σ 55 (fun j => if j < 5 then 0 else σ.2.2 55 j)).2.2 56 j)).2.2 57 j)) 58 (fun j => if j < 5 then 0 else (sA (sA (sA σ 55 (fun j => if j < 5 then 0 else σ.2.2 55 j)) 56 (fun j => if j < 5 then 0 else (sA σ 55 (fun j => if j < 5 then 0 else σ.2.2 55 j)).2.2 56 j)) 57 (fun j => if j < 5 then 0 else (sA (sA σ 55 (fun j => if j < 5 then 0 else σ.2.2 55 j)) 56 (fun j => if j < 5 then 0 else (sA σ 55 (fun j => if j < 5 then 0 else σ.2.2 55 j)).2.2 56 j)).2.2 57 j)).2.2 58 j)) 59 (fun j => if j < 5 then 0 else (sA (sA (sA (sA σ 55 (fun j => if j < 5 then 0 else σ.2.2 55 j)) 56 (fun j => if j < 5 then 0 else (sA σ 55 (fun j => if j < 5 then 0 else σ.2.2 55 j)).2.2 56 j)) 57 (fun j => if j < 5 then 0 else (sA (sA σ 55 (fun j => if j < 5 then 0 else σ.2.2 55 j)) 56 (fun j => if j < 5 then 0 else (sA σ 55 (fun j => if j < 5 then 0 else σ.2.2 55 j)).2.2 56 j)).2.2 57 j)) 58 (fun j => if j < 5 then 0 else (sA (sA (sA σ 55 (fun j => if j < 5 then 0 else σ.2.2 55 j)) 56 (fun j => if j < 5 then 0 else (sA σ 55 (fun j => if j < 5 then 0 else σ.2.2 55 j)).2.2 56 j)) 57 (fun j => if j < 5 then 0 else (sA (sA σ 55 (fun j => if j < 5 then 0 else σ.2.2 55 j)) 56 (fun j => if j < 5 then 0 else (sA σ 55 (fun j => if j < 5 then 0 else σ.2.2 55 j)).2.2 56 j)).2.2 57 j)).2.2 58 j)).2.2 59 j)) 60 (fun j => if j < 5 then 0 else (sA (sA (sA (sA (sA σ 55 (fun j => if j < 5 then 0 else σ.2.2 55 j)) 56 (fun j => if j < 5 then 0 else (sA σ 55 (fun j => if j < 5 then 0 else σ.2.2 55 j)).2.2 56 j)) 57 (fun j => if j < 5 then 0 else (sA (sA σ 55 (fun j => if j < 5 then 0 else σ.2.2 55 j)) 56 (fun j => if j < 5 then 0 else (sA σ 55 (fun j => if j < 5 then 0 else σ.2.2 55 j)).2.2 56 j)).2.2 57 j)) 58 (fun j => if j < 5 then 0 else (sA (sA (sA σ 55 (fun j => if j < 5 then 0 else σ.2.2 55 j)) 56 (fun j => if j < 5 then 0 else (sA σ 55 (fun j => if j < 5 then 0 else σ.2.2 55 j)).2.2 56 j)) 57 (fun j => if j < 5 then 0 else (sA (sA σ 55 (fun j => if j < 5 then 0 else σ.2.2 55 j)) 56 (fun j => if j < 5 then 0 else (sA σ 55 (fun j => if j < 5 then 0 else σ.2.2 55 j)).2.2 56 j)).2.2 57 j)).2.2 58 j)) 59 (fun j => if j < 5 then 0 else (sA (sA (sA (sA σ 55 (fun j => if j < 5 then 0 else σ.2.2 55 j)) 56 (fun j => if j < 5 then 0 else (sA σ 55 (fun j => if j < 5 then 0 else σ.2.2 55 j)).2.2 56 j)) 57 (fun j => if j < 5 then 0 else (sA (sA σ 55 (fun j => if j < 5 then 0 else σ.2.2 55 j)) 56 (fun j => if j < 5 then 0 else (sA σ 55 (fun j => if j < 5 then 0 else σ.2.2 55 j)).2.2 56 j)).2.2 57 j)) 58 (fun j => if j < 5 then 0 else (sA (sA (sA σ 55 (fun j => if j < 5 then 0 else σ.2.2 55 j)) 56 (fun j => if j < 5 then 0 else (sA σ 55 (fun j => if j < 5 then 0 else σ.2.2 55 j)).2.2 56 j)) 57 (fun j => if j < 5 then 0 else (sA (sA σ 55 (fun j => if j < 5 then 0 else σ.2.2 55 j)) 56 (fun j => if j < 5 then 0 else (sA σ 55 (fun j => if j < 5 then 0 else σ.2.2 55 j)).2.2 56 j)).2.2 57 j)).2.2 58 j)).2.2 59 j)).2.2 60 j)) 61 (fun j => if j < 5 then 0 else (sA (sA (sA (sA (sA (sA σ 55 (fun j => if j < 5 then 0 else σ.2.2 55 j)) 56 (fun j => if j < 5 then 0 else (sA σ 55 (fun j => if j < 5 then 0 else σ.2.2 55 j)).2.2 56 j)) 57 (fun j => if j < 5 then 0 else (sA (sA σ 55 (fun j => if j < 5 then 0 else σ.2.2 55 j)) 56 (fun j => if j < 5 then 0 else (sA σ 55 (fun j => if j < 5 then 0 else σ.2.2 55 j)).2.2 56 j)).2.2 57 j)) 58 (fun j => if j < 5 then 0 else (sA (sA (sA σ 55 (fun j => if j < 5 then 0 else σ.2.2 55 j)) 56 (fun j => if j < 5 then 0 else (sA σ 55 (fun j => if j < 5 then 0 else σ.2.2 55 j)).2.2 56 j)) 57 (fun j => if j < 5 then 0 else (sA (sA σ 55 (fun j => if j < 5 then 0 else σ.2.2 55 j)) 56 (fun j => if j < 5 then 0 else (sA σ 55 (fun j => if j < 5 then 0 else σ.2.2 55 j)).2.2 56 j)).2.2 57 j)).2.2 58 j)) 59 (fun j => if j < 5 then 0 else (sA (sA (sA (sA σ 55 (fun j => if j < 5 then 0 else σ.2.2 55 j)) 56 (fun j => if j < 5 then 0 else (sA σ 55 (fun j => if j < 5 then 0 else σ.2.2 55 j)).2.2 56 j)) 57 (fun j => if j < 5 then 0 else (sA (sA σ 55 (fun j => if j < 5 then 0 else σ.2.2 55 j)) 56 (fun j => if j < 5 then 0 else (sA σ 55 (fun j => if j < 5 then 0 else σ.2.2 55 j)).2.2 56 j)).2.2 57 j)) 58 (fun j => if j < 5 then 0 else (sA (sA (sA σ 55 (fun j => if j < 5 then 0 else σ.2.2 55 j)) 56 (fun j => if j < 5 then 0 else (sA σ 55 (fun j => if j < 5 then 0 else σ.2.2 55 j)).2.2 56 j)) 57 (fun j => if j < 5 then 0 else (sA (sA σ 55 (fun j => if j < 5 then 0 else σ.2.2 55 j)) 56 (fun j => if j < 5 then 0 else (sA σ 55 (fun j => if j < 5 then 0 else σ.2.2 55 j)).2.2 56 j)).2.2 57 j)).2.2 58 j)).2.2 59 j)) 60 (fun j => if j < 5 then 0 else (sA (sA (sA (sA (sA σ 55 (fun j => if j < 5 then 0 else σ.2.2 55 j)) 56 (fun j => if j < 5 then 0 else (sA σ 55 (fun j => if j < 5 then 0 else σ.2.2 55 j)).2.2 56 j)) 57 (fun j => if j < 5 then 0 else (sA (sA σ 55 (fun j => if j < 5 then 0 else σ.2.2 55 j)) 56 (fun j => if j < 5 then 0 else (sA σ 55 (fun j => if j < 5 then 0 else σ.2.2 55 j)).2.2 56 j)).2.2 57 j)) 58 (fun j => if j < 5 then 0 else (sA (sA (sA σ 55 (fun j => if j < 5 then 0 else σ.2.2 55 j)) 56 (fun j => if j < 5 then 0 else (sA σ 55 (fun j => if j < 5 then 0 else σ.2.2 55 j)).2.2 56 j)) 57 (fun j => if j < 5 then 0 else (sA (sA σ 55 (fun j => if j < 5 then 0 else σ.2.2 55 j)) 56 (fun j => if j < 5 then 0 else (sA σ 55 (fun j => if j < 5 then 0 else σ.2.2 55 j)).2.2 56 j)).2.2 57 j)).2.2 58 j)) 59 (fun j => if j < 5 then 0 else (sA (sA (sA (sA σ 55 (fun j => if j < 5 then 0 else σ.2.2 55 j)) 56 (fun j => if j < 5 then 0 else (sA σ 55 (fun j => if j < 5 then 0 else σ.2.2 55 j)).2.2 56 j)) 57 (fun j => if j < 5 then 0 else (sA (sA σ 55 (fun j => if j < 5 then 0 else σ.2.2 55 j)) 56 (fun j => if j < 5 then 0 else (sA σ 55 (fun j => if j < 5 then 0 else σ.2.2 55 j)).2.2 56 j)).2.2 57 j)) 58 (fun j => if j < 5 then 0 else (sA (sA (sA σ 55 (fun j => if j < 5 then 0 else σ.2.2 55 j)) 56 (fun j => if j < 5 then 0 else (sA σ 55 (fun j => if j < 5 then 0 else σ.2.2 55 j)).2.2 56 j)) 57 (fun j => if j < 5 then 0 else (sA (sA σ 55 (fun j => if j < 5 then 0 else σ.2.2 55 j)) 56 (fun j => if j < 5 then 0 else (sA σ 55 (fun j => if j < 5 then 0 else σ.2.2 55 j)).2.2 56 j)).2.2 57 j)).2.2 58 j)).2.2 59 j)).2.2 60 j)).2.2 61 j)).2.2 62 j)).2.2 63 j)).2.2 64 j)) = σ'))) := by
  refine x_met (own := RX9) (cc := cX9_wrong) (maxL := 7) (ret := (some .int)) (lv := [(0, .ref (g.2.1 65)), (1, .ref (g.2.1 5)), (2, .ref (g.2.1 16)), (3, .ref (g.2.1 48))]) (by decide) rfl rfl (Nat.le_of_ble_eq_true rfl) rfl ?_
  intro p e s m args below meth c ls E h hl
  have hx := E.1
  have hb := E.2.1
  have hown := E.2.2.2.1
  have hts := E.2.2.2.2.1
  have hwX4 : ∀ w ∈ wsX40, w ∈ wsX9_wrong := by decide +kernel
  have hwX9 : ∀ w ∈ wsX90, w ∈ wsX9_wrong := by decide +kernel
  refine lv_aload_n hx hb dX9_wrong_0 rfl (lv_at hl 0 rfl) ?_
  refine lv_aload_n hx hb dX9_wrong_1 rfl (lv_at hl 1 rfl) ?_
  refine lv_aload_n hx hb dX9_wrong_2 rfl (lv_at hl 2 rfl) ?_
  refine lv_aload_n hx hb dX9_wrong_3 rfl (lv_at hl 3 rfl) ?_
  refine x_vi E h (na := 3) (As := [.ref (g.2.1 5), .ref (g.2.1 16), .ref (g.2.1 48)]) (kX9_countTogether_0 l g _  fI_2) (oc_ve g) rfl gX9_wrong_X9_countTogether rfl ⟨rfl, rfl⟩ rfl (by decide +kernel) ⟨Nat.le_of_ble_eq_true rfl, Nat.le_of_ble_eq_true rfl⟩ hl.1 rfl (Nat.le_of_ble_eq_true rfl) dX9_wrong_4 ⟨Nat.le_of_ble_eq_true rfl, Nat.le_of_ble_eq_true rfl⟩ (fun r1 s1 H locs q1 h => ?_)
  rcases q1 with ⟨rfl, rfl⟩
  refine lv_istore (lv' := [(4, .int 0), (0, .ref (g.2.1 65)), (1, .ref (g.2.1 5)), (2, .ref (g.2.1 16)), (3, .ref (g.2.1 48))]) hx hb dX9_wrong_7 hl (by decide) rfl (fun ls hl => ?_)
  refine lv_aload_n hx hb dX9_wrong_9 rfl (lv_at hl 1 rfl) ?_
  refine x_getR E h (fr_ve_right g) rfl hwX9 (by decide) (by decide +kernel) dX9_wrong_10 ?_
  refine lv_iconst (v := 0) hx hb dX9_wrong_13 (by decide) ?_
  refine x_sv E h (na := 2) (As := [.ref (g.2.1 76), .int 0]) (k_fill l g _ 76 32 64 (ia_ve_right g) (by decide) 0) gX9_wrong_J7_fill_53178 rfl ⟨rfl, rfl⟩ rfl (by decide +kernel) ⟨Nat.le_of_ble_eq_true rfl, Nat.le_of_ble_eq_true rfl⟩ hl.1 rfl (Nat.le_of_ble_eq_true rfl) dX9_wrong_14 ⟨Nat.le_of_ble_eq_true rfl, Nat.le_of_ble_eq_true rfl⟩ (fun s2 H locs q2 h => ?_)
  rcases q2 with rfl
  refine lv_iconst (v := 0) hx hb dX9_wrong_17 (by decide) ?_
  refine lv_istore (lv' := [(5, .int 0), (4, .int 0), (0, .ref (g.2.1 65)), (1, .ref (g.2.1 5)), (2, .ref (g.2.1 16)), (3, .ref (g.2.1 48))]) hx hb dX9_wrong_18 hl (by decide) rfl (fun ls hl => ?_)
  refine lv_iload hx hb dX9_wrong_20 (lv_at hl 0 rfl) ?_
  refine lv_aload_n hx hb dX9_wrong_22 rfl (lv_at hl 5 rfl) ?_
  refine x_getIN E h (fi_be_heaps g) rfl hwX4 (by decide) (by decide +kernel) (v := 0) fI_10 dX9_wrong_23 ?_
  refine lv_icmp_ge (tgt := 75) hx hb dX9_wrong_26 (by decide) (fun _ => ?_) (fun c => absurd (by decide) c)
  refine lv_iload hx hb dX9_wrong_75 (lv_at hl 1 rfl) ?_
  refine lv_aload_n hx hb dX9_wrong_77 rfl (lv_at hl 2 rfl) ?_
  refine x_getR E h (fr_ve_right g) rfl hwX9 (by decide) (by decide +kernel) dX9_wrong_78 ?_
  refine lv_aload_n hx hb dX9_wrong_81 rfl (lv_at hl 2 rfl) ?_
  refine x_getR E h (fr_ve_right g) rfl hwX9 (by decide) (by decide +kernel) dX9_wrong_82 ?_
  refine x_len E h (ia_ve_right g) (v := 32) (by decide) dX9_wrong_85 ?_
  refine lv_iconst (v := 1) hx hb dX9_wrong_86 (by decide) ?_
  refine lv_isub hx hb dX9_wrong_87 ?_
  refine x_topI (v2 := 31) (by decide) ?_
  refine x_ldI E h (ia_ve_right g) (i := 31) (by unfold vp_in; decide) (v := 0) rfl dX9_wrong_88 ?_
  refine lv_isub hx hb dX9_wrong_89 ?_
  refine x_topI (v2 := 0) (by decide) ?_
  exact x_iret E h ⟨rfl, rfl⟩ dX9_wrong_90
set_option maxHeartbeats 4000000 in
set_option maxRecDepth 100000 in
theorem kX9_madeUp_0 (l : Launch) (g : CX) (σ : ST) (fI_2 : σ.1 2 = 0) : XM l g yX9_madeUp wsX9_madeUp { frames := 0, cells := 0, slots := 0, locals := 0 } [.ref (g.2.1 65), .ref (g.2.1 5), .ref (g.2.1 16)] σ (XQi g (fun r σ' => (0 = r ∧ σ = σ'))) := by
  refine x_met (own := RX9) (cc := cX9_madeUp) (maxL := 5) (ret := (some .int)) (lv := [(0, .ref (g.2.1 65)), (1, .ref (g.2.1 5)), (2, .ref (g.2.1 16))]) (by decide) rfl rfl (Nat.le_of_ble_eq_true rfl) rfl ?_
  intro p e s m args below meth c ls E h hl
  have hx := E.1
  have hb := E.2.1
  have hown := E.2.2.2.1
  have hts := E.2.2.2.2.1
  have hwX7 : ∀ w ∈ wsX70, w ∈ wsX9_madeUp := by decide +kernel
  refine lv_iconst (v := 0) hx hb dX9_madeUp_0 (by decide) ?_
  refine lv_istore_n (lv' := [(3, .int 0), (0, .ref (g.2.1 65)), (1, .ref (g.2.1 5)), (2, .ref (g.2.1 16))]) hx hb dX9_madeUp_1 rfl hl (by decide) rfl (fun ls hl => ?_)
  refine lv_iconst (v := 0) hx hb dX9_madeUp_2 (by decide) ?_
  refine lv_istore (lv' := [(4, .int 0), (3, .int 0), (0, .ref (g.2.1 65)), (1, .ref (g.2.1 5)), (2, .ref (g.2.1 16))]) hx hb dX9_madeUp_3 hl (by decide) rfl (fun ls hl => ?_)
  refine lv_iload hx hb dX9_madeUp_5 (lv_at hl 0 rfl) ?_
  refine lv_aload_n hx hb dX9_madeUp_7 rfl (lv_at hl 3 rfl) ?_
  refine x_getIN E h (fi_bk_rows g) rfl hwX7 (by decide) (by decide +kernel) (v := 0) fI_2 dX9_madeUp_8 ?_
  refine lv_icmp_ge (tgt := 50) hx hb dX9_madeUp_11 (by decide) (fun _ => ?_) (fun c => absurd (by decide) c)
  refine lv_iload_n hx hb dX9_madeUp_50 rfl (lv_at hl 1 rfl) ?_
  exact x_iret E h ⟨rfl, rfl⟩ dX9_madeUp_51
set_option maxHeartbeats 4000000 in
set_option maxRecDepth 100000 in
theorem kX9_missed_0 (l : Launch) (g : CX) (σ : ST) (fI_2 : σ.1 2 = 0) : XM l g yX9_missed wsX9_missed { frames := 0, cells := 0, slots := 0, locals := 0 } [.ref (g.2.1 65), .ref (g.2.1 5), .ref (g.2.1 16)] σ (XQi g (fun r σ' => (0 = r ∧ σ = σ'))) := by
  refine x_met (own := RX9) (cc := cX9_missed) (maxL := 5) (ret := (some .int)) (lv := [(0, .ref (g.2.1 65)), (1, .ref (g.2.1 5)), (2, .ref (g.2.1 16))]) (by decide) rfl rfl (Nat.le_of_ble_eq_true rfl) rfl ?_
  intro p e s m args below meth c ls E h hl
  have hx := E.1
  have hb := E.2.1
  have hown := E.2.2.2.1
  have hts := E.2.2.2.2.1
  have hwX7 : ∀ w ∈ wsX70, w ∈ wsX9_missed := by decide +kernel
  refine lv_iconst (v := 0) hx hb dX9_missed_0 (by decide) ?_
  refine lv_istore_n (lv' := [(3, .int 0), (0, .ref (g.2.1 65)), (1, .ref (g.2.1 5)), (2, .ref (g.2.1 16))]) hx hb dX9_missed_1 rfl hl (by decide) rfl (fun ls hl => ?_)
  refine lv_iconst (v := 0) hx hb dX9_missed_2 (by decide) ?_
  refine lv_istore (lv' := [(4, .int 0), (3, .int 0), (0, .ref (g.2.1 65)), (1, .ref (g.2.1 5)), (2, .ref (g.2.1 16))]) hx hb dX9_missed_3 hl (by decide) rfl (fun ls hl => ?_)
  refine lv_iload hx hb dX9_missed_5 (lv_at hl 0 rfl) ?_
  refine lv_aload_n hx hb dX9_missed_7 rfl (lv_at hl 3 rfl) ?_
  refine x_getIN E h (fi_bk_rows g) rfl hwX7 (by decide) (by decide +kernel) (v := 0) fI_2 dX9_missed_8 ?_
  refine lv_icmp_ge (tgt := 50) hx hb dX9_missed_11 (by decide) (fun _ => ?_) (fun c => absurd (by decide) c)
  refine lv_iload_n hx hb dX9_missed_50 rfl (lv_at hl 1 rfl) ?_
  exact x_iret E h ⟨rfl, rfl⟩ dX9_missed_51
set_option maxHeartbeats 4000000 in
set_option maxRecDepth 100000 in
theorem kX11_errors_0 (l : Launch) (g : CX) (σ : ST) (p1 : Int32) (fA_1_0 : σ.2.2 1 0 = 20) (fA_1_1 : σ.2.2 1 1 = 10) (fA_1_2 : σ.2.2 1 2 = 40) (fA_1_4 : σ.2.2 1 4 = 0) (fI_2 : σ.1 2 = 0) (fI_22 : σ.1 22 = 1) (fI_23 : σ.1 23 = 1) : XM l g yX11_errors wsX11_errors { frames := 4, cells := 0, slots := 0, locals := 95 } [.ref (g.2.1 0), .int p1] σ (XQi g (fun r σ' => (bB p1 0 2 = 1 ∧ ¬ p1 = 0 ∧ ¬ p1 = 1 ∧ 0 = r ∧ MO σ' σ) ∨ (bB p1 0 2 = 1 ∧ ¬ p1 = 0 ∧ p1 = 1 ∧ 0 = r ∧ MO σ' σ) ∨ (bB p1 0 2 = 1 ∧ p1 = 0 ∧ 0 = r ∧ MO σ' σ) ∨ (bB p1 0 2 = 0 ∧ (-1) = r ∧ MO σ' σ))) := by
  refine x_met (own := RX11) (cc := cX11_errors) (maxL := 2) (ret := (some .int)) (lv := [(0, .ref (g.2.1 0)), (1, .int p1)]) (by decide) rfl rfl (Nat.le_of_ble_eq_true rfl) rfl ?_
  intro p e s m args below meth c ls E h hl
  have hx := E.1
  have hb := E.2.1
  have hown := E.2.2.2.1
  have hts := E.2.2.2.2.1
  have hwX0 : ∀ w ∈ wsX00, w ∈ wsX11_errors := by decide +kernel
  have hwX11 : ∀ w ∈ wsX110, w ∈ wsX11_errors := by decide +kernel
  refine lv_iload_n hx hb dX11_errors_0 rfl (lv_at hl 1 rfl) ?_
  refine lv_iconst (v := 0) hx hb dX11_errors_1 (by decide) ?_
  refine lv_iconst (v := 2) hx hb dX11_errors_2 (by decide) ?_
  refine x_si E h (na := 3) (As := [.int p1, .int 0, .int 2]) (kX11_within_0 l g _ p1 0 2) gX11_errors_X11_within rfl ⟨rfl, rfl⟩ rfl (by decide +kernel) ⟨Nat.le_of_ble_eq_true rfl, Nat.le_of_ble_eq_true rfl⟩ hl.1 rfl (Nat.le_of_ble_eq_true rfl) dX11_errors_3 ⟨Nat.le_of_ble_eq_true rfl, Nat.le_of_ble_eq_true rfl⟩ (fun r1 s1 H locs q1 h => ?_)
  rcases q1 with ⟨k1_0, rfl, rfl⟩ | ⟨k1_0, rfl, rfl⟩
  · skip
    refine lv_if_ne (tgt := 11) hx hb dX11_errors_6 (by decide) (fun _ => ?_) (fun c => absurd c (by decide))
    refine lv_aload_n hx hb dX11_errors_11 rfl (lv_at hl 0 rfl) ?_
    refine x_vv E h (na := 0) (As := []) (kX11_cutNow_0 l g _  fA_1_0 fA_1_1 fI_2 fI_22) (oc_vh g) rfl gX11_errors_X11_cutNow rfl ⟨rfl, rfl⟩ rfl (by decide +kernel) ⟨Nat.le_of_ble_eq_true rfl, Nat.le_of_ble_eq_true rfl⟩ hl.1 rfl (Nat.le_of_ble_eq_true rfl) dX11_errors_12 ⟨Nat.le_of_ble_eq_true rfl, Nat.le_of_ble_eq_true rfl⟩ (fun s2 H locs q2 h => ?_)
    rcases q2 with rfl
    refine lv_iload_n hx hb dX11_errors_15 rfl (lv_at hl 1 rfl) ?_
    refine lv_if_ne (tgt := 35) hx hb dX11_errors_16 (by decide) (fun c16_3 => ?_) (fun c16_3 => ?_)
    · skip
      refine lv_iload_n hx hb dX11_errors_35 rfl (lv_at hl 1 rfl) ?_
      refine lv_iconst (v := 1) hx hb dX11_errors_36 (by decide) ?_
      refine lv_icmp_ne (tgt := 56) hx hb dX11_errors_37 (by decide) (fun c37_4 => ?_) (fun c37_4 => ?_)
      · skip
        refine lv_aload_n hx hb dX11_errors_56 rfl (lv_at hl 0 rfl) ?_
        refine x_vi E h (na := 0) (As := []) (kX11_heapNow_1 l g _  fA_1_0 fA_1_1 fA_1_2 fA_1_4 fI_2 rfl rfl fI_23) (oc_vh g) rfl gX11_errors_X11_heapNow rfl ⟨rfl, rfl⟩ rfl (by decide +kernel) ⟨Nat.le_of_ble_eq_true rfl, Nat.le_of_ble_eq_true rfl⟩ hl.1 rfl (Nat.le_of_ble_eq_true rfl) dX11_errors_57 ⟨Nat.le_of_ble_eq_true rfl, Nat.le_of_ble_eq_true rfl⟩ (fun r5 s5 H locs q5 h => ?_)
        rcases q5 with ⟨rfl, rfl⟩
        refine lv_if_eq (tgt := 88) hx hb dX11_errors_60 (by decide) (fun c => absurd c (by decide)) (fun _ => ?_)
        refine lv_aload_n hx hb dX11_errors_63 rfl (lv_at hl 0 rfl) ?_
        refine x_getR E h (fr_vh_verdict g) rfl hwX11 (by decide) (by decide +kernel) dX11_errors_64 ?_
        refine lv_aload_n hx hb dX11_errors_67 rfl (lv_at hl 0 rfl) ?_
        refine x_getR E h (fr_vh_book g) rfl hwX11 (by decide) (by decide +kernel) dX11_errors_68 ?_
        refine lv_aload_n hx hb dX11_errors_71 rfl (lv_at hl 0 rfl) ?_
        refine x_getR E h (fr_vh_cutting g) rfl hwX11 (by decide) (by decide +kernel) dX11_errors_72 ?_
        refine lv_aload_n hx hb dX11_errors_75 rfl (lv_at hl 0 rfl) ?_
        refine x_getR E h (fr_vh_all g) rfl hwX11 (by decide) (by decide +kernel) dX11_errors_76 ?_
        refine x_getRN E h (fr_al_best g) rfl hwX0 (by decide) (by decide +kernel) dX11_errors_79 ?_
        refine x_vi E h (na := 3) (As := [.ref (g.2.1 5), .ref (g.2.1 16), .ref (g.2.1 48)]) (kX9_wrong_0 l g _  fI_2 rfl) (oc_ve g) rfl gX11_errors_X9_wrong rfl ⟨rfl, rfl⟩ rfl (by decide +kernel) ⟨Nat.le_of_ble_eq_true rfl, Nat.le_of_ble_eq_true rfl⟩ hl.1 rfl (Nat.le_of_ble_eq_true rfl) dX11_errors_82 ⟨Nat.le_of_ble_eq_true rfl, Nat.le_of_ble_eq_true rfl⟩ (fun r6 s6 H locs q6 h => ?_)
        rcases q6 with ⟨rfl, rfl⟩
        refine lv_goto (tgt := 90) hx hb dX11_errors_85 (by decide) ?_
        exact x_iret E h (Or.inl ⟨k1_0, c16_3, c37_4, rfl, (MO.refl σ)⟩) dX11_errors_90
      · skip
        refine lv_aload_n hx hb dX11_errors_40 rfl (lv_at hl 0 rfl) ?_
        refine x_getR E h (fr_vh_verdict g) rfl hwX11 (by decide) (by decide +kernel) dX11_errors_41 ?_
        refine lv_aload_n hx hb dX11_errors_44 rfl (lv_at hl 0 rfl) ?_
        refine x_getR E h (fr_vh_book g) rfl hwX11 (by decide) (by decide +kernel) dX11_errors_45 ?_
        refine lv_aload_n hx hb dX11_errors_48 rfl (lv_at hl 0 rfl) ?_
        refine x_getR E h (fr_vh_cutting g) rfl hwX11 (by decide) (by decide +kernel) dX11_errors_49 ?_
        refine x_vi E h (na := 2) (As := [.ref (g.2.1 5), .ref (g.2.1 16)]) (kX9_madeUp_0 l g _  fI_2) (oc_ve g) rfl gX11_errors_X9_madeUp rfl ⟨rfl, rfl⟩ rfl (by decide +kernel) ⟨Nat.le_of_ble_eq_true rfl, Nat.le_of_ble_eq_true rfl⟩ hl.1 rfl (Nat.le_of_ble_eq_true rfl) dX11_errors_52 ⟨Nat.le_of_ble_eq_true rfl, Nat.le_of_ble_eq_true rfl⟩ (fun r7 s7 H locs q7 h => ?_)
        rcases q7 with ⟨rfl, rfl⟩
        exact x_iret E h (Or.inr (Or.inl ⟨k1_0, c16_3, c37_4, rfl, (MO.refl σ)⟩)) dX11_errors_55
    · skip
      refine lv_aload_n hx hb dX11_errors_19 rfl (lv_at hl 0 rfl) ?_
      refine x_getR E h (fr_vh_verdict g) rfl hwX11 (by decide) (by decide +kernel) dX11_errors_20 ?_
      refine lv_aload_n hx hb dX11_errors_23 rfl (lv_at hl 0 rfl) ?_
      refine x_getR E h (fr_vh_book g) rfl hwX11 (by decide) (by decide +kernel) dX11_errors_24 ?_
      refine lv_aload_n hx hb dX11_errors_27 rfl (lv_at hl 0 rfl) ?_
      refine x_getR E h (fr_vh_cutting g) rfl hwX11 (by decide) (by decide +kernel) dX11_errors_28 ?_
      refine x_vi E h (na := 2) (As := [.ref (g.2.1 5), .ref (g.2.1 16)]) (kX9_missed_0 l g _  fI_2) (oc_ve g) rfl gX11_errors_X9_missed rfl ⟨rfl, rfl⟩ rfl (by decide +kernel) ⟨Nat.le_of_ble_eq_true rfl, Nat.le_of_ble_eq_true rfl⟩ hl.1 rfl (Nat.le_of_ble_eq_true rfl) dX11_errors_31 ⟨Nat.le_of_ble_eq_true rfl, Nat.le_of_ble_eq_true rfl⟩ (fun r8 s8 H locs q8 h => ?_)
      rcases q8 with ⟨rfl, rfl⟩
      exact x_iret E h (Or.inr (Or.inr (Or.inl ⟨k1_0, c16_3, rfl, (MO.refl σ)⟩))) dX11_errors_34
  · skip
    refine lv_if_ne (tgt := 11) hx hb dX11_errors_6 (by decide) (fun c => absurd (by decide) c) (fun _ => ?_)
    refine lv_iconst (v := (-1)) hx hb dX11_errors_9 (by decide) ?_
    exact x_iret E h (Or.inr (Or.inr (Or.inr (⟨k1_0, rfl, (MO.refl σ)⟩)))) dX11_errors_10
set_option maxHeartbeats 4000000 in
set_option maxRecDepth 100000 in
theorem kX11_weight_0 (l : Launch) (g : CX) (σ : ST) (p1 : Int32) (p2 : Int32) (fA_1_0 : σ.2.2 1 0 = 20) (fA_1_1 : σ.2.2 1 1 = 10) (fI_2 : σ.1 2 = 0) (fI_22 : σ.1 22 = 1) : XM l g yX11_weight wsX11_weight { frames := 4, cells := 0, slots := 0, locals := 90 } [.ref (g.2.1 0), .int p1, .int p2] σ (XQi g (fun r σ' => (bB p1 0 7 = 1 ∧ bB p2 0 (-1) = 0 ∧ (-1) = r ∧ MO σ' σ) ∨ (bB p1 0 7 = 0 ∧ (-1) = r ∧ MO σ' σ))) := by
  refine x_met (own := RX11) (cc := cX11_weight) (maxL := 3) (ret := (some .int)) (lv := [(0, .ref (g.2.1 0)), (1, .int p1), (2, .int p2)]) (by decide) rfl rfl (Nat.le_of_ble_eq_true rfl) rfl ?_
  intro p e s m args below meth c ls E h hl
  have hx := E.1
  have hb := E.2.1
  have hown := E.2.2.2.1
  have hts := E.2.2.2.2.1
  refine lv_iload_n hx hb dX11_weight_0 rfl (lv_at hl 1 rfl) ?_
  refine lv_iconst (v := 0) hx hb dX11_weight_1 (by decide) ?_
  refine lv_bipush (v := 7) hx hb dX11_weight_2 (by decide) ?_
  refine x_si E h (na := 3) (As := [.int p1, .int 0, .int 7]) (kX11_within_0 l g _ p1 0 7) gX11_weight_X11_within rfl ⟨rfl, rfl⟩ rfl (by decide +kernel) ⟨Nat.le_of_ble_eq_true rfl, Nat.le_of_ble_eq_true rfl⟩ hl.1 rfl (Nat.le_of_ble_eq_true rfl) dX11_weight_4 ⟨Nat.le_of_ble_eq_true rfl, Nat.le_of_ble_eq_true rfl⟩ (fun r1 s1 H locs q1 h => ?_)
  rcases q1 with ⟨k1_0, rfl, rfl⟩ | ⟨k1_0, rfl, rfl⟩
  · skip
    refine lv_if_eq (tgt := 18) hx hb dX11_weight_7 (by decide) (fun c => absurd c (by decide)) (fun _ => ?_)
    refine lv_aload_n hx hb dX11_weight_10 rfl (lv_at hl 0 rfl) ?_
    refine lv_iload_n hx hb dX11_weight_11 rfl (lv_at hl 2 rfl) ?_
    refine x_vi E h (na := 1) (As := [.int p2]) (kX11_isPiece_0 l g _ p2 fA_1_0 fA_1_1 fI_2 fI_22) (oc_vh g) rfl gX11_weight_X11_isPiece rfl ⟨rfl, rfl⟩ rfl (by decide +kernel) ⟨Nat.le_of_ble_eq_true rfl, Nat.le_of_ble_eq_true rfl⟩ hl.1 rfl (Nat.le_of_ble_eq_true rfl) dX11_weight_12 ⟨Nat.le_of_ble_eq_true rfl, Nat.le_of_ble_eq_true rfl⟩ (fun r2 s2 H locs q2 h => ?_)
    rcases q2 with ⟨k2_0, rfl, rfl⟩
    refine lv_if_ne (tgt := 20) hx hb dX11_weight_15 (by decide) (fun c => absurd (by decide) c) (fun _ => ?_)
    refine lv_iconst (v := (-1)) hx hb dX11_weight_18 (by decide) ?_
    exact x_iret E h (Or.inl ⟨k1_0, k2_0, rfl, (MO.refl σ)⟩) dX11_weight_19
  · skip
    refine lv_if_eq (tgt := 18) hx hb dX11_weight_7 (by decide) (fun _ => ?_) (fun c => absurd (by decide) c)
    refine lv_iconst (v := (-1)) hx hb dX11_weight_18 (by decide) ?_
    exact x_iret E h (Or.inr (⟨k1_0, rfl, (MO.refl σ)⟩)) dX11_weight_19
