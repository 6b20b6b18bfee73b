set_option maxHeartbeats 4000000 in
set_option maxRecDepth 100000 in
theorem kX12_isRow_0 (l : Launch) (g : CX) (σ : ST) (p1 : Int32) (fI_31 : σ.1 31 = 0) : XM l g yX12_isRow wsX12_isRow { frames := 1, cells := 0, slots := 0, locals := 22 } [.ref (g.2.1 79), .int p1] σ (XQi g (fun r σ' => (bB p1 0 (-1) = 0 ∧ 0 = r ∧ σ = σ'))) := by
  refine x_met (own := RX12) (cc := cX12_isRow) (maxL := 2) (ret := (some .boolean)) (lv := [(0, .ref (g.2.1 79)), (1, .int p1)]) (by decide) rfl rfl (Nat.le_of_ble_eq_true rfl) rfl ?_
  intro p e s m args below meth c ls E h hl
  have hx := E.1
  have hb := E.2.1
  have hown := E.2.2.2.1
  have hts := E.2.2.2.2.1
  have hwX12 : ∀ w ∈ wsX120, w ∈ wsX12_isRow := by decide +kernel
  refine lv_iload_n hx hb dX12_isRow_0 rfl (lv_at hl 1 rfl) ?_
  refine lv_iconst (v := 0) hx hb dX12_isRow_1 (by decide) ?_
  refine lv_aload_n hx hb dX12_isRow_2 rfl (lv_at hl 0 rfl) ?_
  refine x_getI E h (fi_mo_rows g) rfl hwX12 (by decide) (by decide +kernel) (v := 0) fI_31 dX12_isRow_3 ?_
  refine lv_iconst (v := 1) hx hb dX12_isRow_6 (by decide) ?_
  refine lv_isub hx hb dX12_isRow_7 ?_
  refine x_topI (v2 := (-1)) (by decide) ?_
  refine x_si E h (na := 3) (As := [.int p1, .int 0, .int (-1)]) (kX12_in_0 l g _ p1 0 (-1)) gX12_isRow_X12_in rfl ⟨rfl, rfl⟩ rfl (by decide +kernel) ⟨Nat.le_of_ble_eq_true rfl, Nat.le_of_ble_eq_true rfl⟩ hl.1 rfl (Nat.le_of_ble_eq_true rfl) dX12_isRow_8 ⟨Nat.le_of_ble_eq_true rfl, Nat.le_of_ble_eq_true rfl⟩ (fun r1 s1 H locs q1 h => ?_)
  rcases q1 with ⟨k1_0, rfl, rfl⟩ | ⟨k1_0, rfl, rfl⟩
  · exact absurd trivial (fun _ => (bB_n1 k1_0))
  exact x_zret E h rfl ⟨k1_0, rfl, rfl⟩ dX12_isRow_11
set_option maxHeartbeats 4000000 in
set_option maxRecDepth 100000 in
theorem kX12_areRows_0 (l : Launch) (g : CX) (σ : ST) (p1 : Int32) (p2 : Int32) (fI_31 : σ.1 31 = 0) : XM l g yX12_areRows wsX12_areRows { frames := 2, cells := 0, slots := 0, locals := 43 } [.ref (g.2.1 79), .int p1, .int p2] σ (XQi g (fun r σ' => (bB p1 0 (-1) = 0 ∧ 0 = r ∧ σ = σ'))) := by
  refine x_met (own := RX12) (cc := cX12_areRows) (maxL := 3) (ret := (some .boolean)) (lv := [(0, .ref (g.2.1 79)), (1, .int p1), (2, .int p2)]) (by decide) rfl rfl (Nat.le_of_ble_eq_true rfl) rfl ?_
  intro p e s m args below meth c ls E h hl
  have hx := E.1
  have hb := E.2.1
  have hown := E.2.2.2.1
  have hts := E.2.2.2.2.1
  refine lv_aload_n hx hb dX12_areRows_0 rfl (lv_at hl 0 rfl) ?_
  refine lv_iload_n hx hb dX12_areRows_1 rfl (lv_at hl 1 rfl) ?_
  refine x_vi E h (na := 1) (As := [.int p1]) (kX12_isRow_0 l g _ p1 fI_31) (oc_mo g) rfl gX12_areRows_X12_isRow rfl ⟨rfl, rfl⟩ rfl (by decide +kernel) ⟨Nat.le_of_ble_eq_true rfl, Nat.le_of_ble_eq_true rfl⟩ hl.1 rfl (Nat.le_of_ble_eq_true rfl) dX12_areRows_2 ⟨Nat.le_of_ble_eq_true rfl, Nat.le_of_ble_eq_true rfl⟩ (fun r1 s1 H locs q1 h => ?_)
  rcases q1 with ⟨k1_0, rfl, rfl⟩
  refine lv_if_eq (tgt := 26) hx hb dX12_areRows_5 (by decide) (fun _ => ?_) (fun c => absurd (by decide) c)
  refine lv_iconst (v := 0) hx hb dX12_areRows_26 (by decide) ?_
  exact x_zret E h rfl ⟨k1_0, rfl, rfl⟩ dX12_areRows_27
set_option maxHeartbeats 4000000 in
set_option maxRecDepth 100000 in
theorem kX12_out_0 (l : Launch) (g : CX) (σ : ST) (p1 : Int32) (p2 : Int32) (p3 : Int32) (fI_31 : σ.1 31 = 0) : XM l g yX12_out wsX12_out { frames := 3, cells := 0, slots := 0, locals := 65 } [.ref (g.2.1 79), .int p1, .int p2, .int p3] σ (XQi g (fun r σ' => (bB p1 0 (-1) = 0 ∧ (-1) = r))) := by
  refine x_met (own := RX12) (cc := cX12_out) (maxL := 6) (ret := (some .int)) (lv := [(0, .ref (g.2.1 79)), (1, .int p1), (2, .int p2), (3, .int p3)]) (by decide) rfl rfl (Nat.le_of_ble_eq_true rfl) rfl ?_
  intro p e s m args below meth c ls E h hl
  have hx := E.1
  have hb := E.2.1
  have hown := E.2.2.2.1
  have hts := E.2.2.2.2.1
  refine lv_aload_n hx hb dX12_out_0 rfl (lv_at hl 0 rfl) ?_
  refine lv_iload_n hx hb dX12_out_1 rfl (lv_at hl 1 rfl) ?_
  refine lv_iload_n hx hb dX12_out_2 rfl (lv_at hl 2 rfl) ?_
  refine x_vi E h (na := 2) (As := [.int p1, .int p2]) (kX12_areRows_0 l g _ p1 p2 fI_31) (oc_mo g) rfl gX12_out_X12_areRows rfl ⟨rfl, rfl⟩ rfl (by decide +kernel) ⟨Nat.le_of_ble_eq_true rfl, Nat.le_of_ble_eq_true rfl⟩ hl.1 rfl (Nat.le_of_ble_eq_true rfl) dX12_out_3 ⟨Nat.le_of_ble_eq_true rfl, Nat.le_of_ble_eq_true rfl⟩ (fun r1 s1 H locs q1 h => ?_)
  rcases q1 with ⟨k1_0, rfl, rfl⟩
  refine lv_if_eq (tgt := 18) hx hb dX12_out_6 (by decide) (fun _ => ?_) (fun c => absurd (by decide) c)
  refine lv_iconst (v := (-1)) hx hb dX12_out_18 (by decide) ?_
  exact x_iret E h ⟨k1_0, rfl⟩ dX12_out_19
set_option maxHeartbeats 4000000 in
set_option maxRecDepth 100000 in
theorem kX12_hush_0 (l : Launch) (g : CX) (σ : ST) (fI_31 : σ.1 31 = 0) : XM l g yX12_hush wsX12_hush { frames := 0, cells := 0, slots := 0, locals := 0 } [.ref (g.2.1 79)] σ (XQi g (fun r σ' => (0 = r))) := by
  refine x_met (own := RX12) (cc := cX12_hush) (maxL := 2) (ret := (some .int)) (lv := [(0, .ref (g.2.1 79))]) (by decide) rfl rfl (Nat.le_of_ble_eq_true rfl) rfl ?_
  intro p e s m args below meth c ls E h hl
  have hx := E.1
  have hb := E.2.1
  have hown := E.2.2.2.1
  have hts := E.2.2.2.2.1
  have hwX12 : ∀ w ∈ wsX120, w ∈ wsX12_hush := by decide +kernel
  refine lv_aload_n hx hb dX12_hush_0 rfl (lv_at hl 0 rfl) ?_
  refine x_getI E h (fi_mo_rows g) rfl hwX12 (by decide) (by decide +kernel) (v := 0) fI_31 dX12_hush_1 ?_
  refine lv_istore_n (lv' := [(1, .int 0), (0, .ref (g.2.1 79))]) hx hb dX12_hush_4 rfl hl (by decide) rfl (fun ls hl => ?_)
  refine lv_aload_n hx hb dX12_hush_5 rfl (lv_at hl 1 rfl) ?_
  refine lv_iconst (v := 0) hx hb dX12_hush_6 (by decide) ?_
  refine x_putI E h (ty := .int) (v := 0) (fi_mo_rows g) rfl hwX12 tyX12_ok nmX12 (by decide) (by decide +kernel) (by decide +kernel) (by decide +kernel) rfl rfl dX12_hush_7 (fun H locs h => ?_)
  refine lv_aload_n hx hb dX12_hush_10 rfl (lv_at hl 1 rfl) ?_
  refine lv_iconst (v := 0) hx hb dX12_hush_11 (by decide) ?_
  refine x_putI E h (ty := .int) (v := 0) (fi_mo_words g) rfl hwX12 tyX12_ok nmX12 (by decide) (by decide +kernel) (by decide +kernel) (by decide +kernel) rfl rfl dX12_hush_12 (fun H locs h => ?_)
  refine lv_aload_n hx hb dX12_hush_15 rfl (lv_at hl 1 rfl) ?_
  refine lv_iconst (v := 0) hx hb dX12_hush_16 (by decide) ?_
  refine x_putI E h (ty := .boolean) (v := 0) (fi_mo_isShown g) rfl hwX12 tyX12_ok nmX12 (by decide) (by decide +kernel) (by decide +kernel) (by decide +kernel) rfl rfl dX12_hush_17 (fun H locs h => ?_)
  refine lv_iload_n hx hb dX12_hush_20 rfl (lv_at hl 0 rfl) ?_
  exact x_iret E h rfl dX12_hush_21
set_option maxHeartbeats 4000000 in
set_option maxRecDepth 100000 in
theorem kX12_findPieces_0 (l : Launch) (g : CX) (σ : ST) (fI_31 : σ.1 31 = 0) : XM l g yX12_findPieces wsX12_findPieces { frames := 0, cells := 0, slots := 0, locals := 0 } [.ref (g.2.1 79)] σ (XQv g (fun σ' => ((sI (sI (sI σ 35 0) 36 0) 37 0) = σ'))) := by
  refine x_met (own := RX12) (cc := cX12_findPieces) (maxL := 3) (ret := none) (lv := [(0, .ref (g.2.1 79))]) (by decide) rfl rfl (Nat.le_of_ble_eq_true rfl) rfl ?_
  intro p e s m args below meth c ls E h hl
  have hx := E.1
  have hb := E.2.1
  have hown := E.2.2.2.1
  have hts := E.2.2.2.2.1
  have hwX12 : ∀ w ∈ wsX120, w ∈ wsX12_findPieces := by decide +kernel
  refine lv_aload_n hx hb dX12_findPieces_0 rfl (lv_at hl 0 rfl) ?_
  refine lv_iconst (v := 0) hx hb dX12_findPieces_1 (by decide) ?_
  refine x_putI E h (ty := .int) (v := 0) (fi_mo_pieces g) rfl hwX12 tyX12_ok nmX12 (by decide) (by decide +kernel) (by decide +kernel) (by decide +kernel) rfl rfl dX12_findPieces_2 (fun H locs h => ?_)
  refine lv_aload_n hx hb dX12_findPieces_5 rfl (lv_at hl 0 rfl) ?_
  refine lv_iconst (v := 0) hx hb dX12_findPieces_6 (by decide) ?_
  refine x_putI E h (ty := .int) (v := 0) (fi_mo_stretches g) rfl hwX12 tyX12_ok nmX12 (by decide) (by decide +kernel) (by decide +kernel) (by decide +kernel) rfl rfl dX12_findPieces_7 (fun H locs h => ?_)
  refine lv_aload_n hx hb dX12_findPieces_10 rfl (lv_at hl 0 rfl) ?_
  refine lv_iconst (v := 0) hx hb dX12_findPieces_11 (by decide) ?_
  refine x_putI E h (ty := .int) (v := 0) (fi_mo_price g) rfl hwX12 tyX12_ok nmX12 (by decide) (by decide +kernel) (by decide +kernel) (by decide +kernel) rfl rfl dX12_findPieces_12 (fun H locs h => ?_)
  refine lv_iconst (v := 0) hx hb dX12_findPieces_15 (by decide) ?_
  refine lv_istore_n (lv' := [(1, .int 0), (0, .ref (g.2.1 79))]) hx hb dX12_findPieces_16 rfl hl (by decide) rfl (fun ls hl => ?_)
  refine lv_iload_n hx hb dX12_findPieces_17 rfl (lv_at hl 0 rfl) ?_
  refine lv_aload_n hx hb dX12_findPieces_18 rfl (lv_at hl 1 rfl) ?_
  refine x_getI E h (fi_mo_rows g) rfl hwX12 (by decide) (by decide +kernel) (v := 0) fI_31 dX12_findPieces_19 ?_
  refine lv_icmp_ge (tgt := 96) hx hb dX12_findPieces_22 (by decide) (fun _ => ?_) (fun c => absurd (by decide) c)
  exact x_vret E h rfl dX12_findPieces_96
set_option maxHeartbeats 4000000 in
set_option maxRecDepth 100000 in
theorem kX12_pieces_0 (l : Launch) (g : CX) (σ : ST) (p1 : Int32) (fI_31 : σ.1 31 = 0) : XM l g yX12_pieces wsX12_pieces { frames := 1, cells := 0, slots := 0, locals := 22 } [.ref (g.2.1 79), .int p1] σ (XQi g (fun r σ' => (bB p1 0 3 = 1 ∧ ¬ p1 = 0 ∧ ¬ p1 = 1 ∧ ¬ p1 = 2 ∧ 0 = r) ∨ (bB p1 0 3 = 1 ∧ ¬ p1 = 0 ∧ ¬ p1 = 1 ∧ p1 = 2 ∧ 0 = r) ∨ (bB p1 0 3 = 1 ∧ ¬ p1 = 0 ∧ p1 = 1 ∧ 0 = r) ∨ (bB p1 0 3 = 1 ∧ p1 = 0 ∧ 0 = r) ∨ (bB p1 0 3 = 0 ∧ (-1) = r))) := by
  refine x_met (own := RX12) (cc := cX12_pieces) (maxL := 4) (ret := (some .int)) (lv := [(0, .ref (g.2.1 79)), (1, .int p1)]) (by decide) rfl rfl (Nat.le_of_ble_eq_true rfl) rfl ?_
  intro p e s m args below meth c ls E h hl
  have hx := E.1
  have hb := E.2.1
  have hown := E.2.2.2.1
  have hts := E.2.2.2.2.1
  have hwX12 : ∀ w ∈ wsX120, w ∈ wsX12_pieces := by decide +kernel
  refine lv_iload_n hx hb dX12_pieces_0 rfl (lv_at hl 1 rfl) ?_
  refine lv_iconst (v := 0) hx hb dX12_pieces_1 (by decide) ?_
  refine lv_iconst (v := 3) hx hb dX12_pieces_2 (by decide) ?_
  refine x_si E h (na := 3) (As := [.int p1, .int 0, .int 3]) (kX12_in_0 l g _ p1 0 3) gX12_pieces_X12_in rfl ⟨rfl, rfl⟩ rfl (by decide +kernel) ⟨Nat.le_of_ble_eq_true rfl, Nat.le_of_ble_eq_true rfl⟩ hl.1 rfl (Nat.le_of_ble_eq_true rfl) dX12_pieces_3 ⟨Nat.le_of_ble_eq_true rfl, Nat.le_of_ble_eq_true rfl⟩ (fun r1 s1 H locs q1 h => ?_)
  rcases q1 with ⟨k1_0, rfl, rfl⟩ | ⟨k1_0, rfl, rfl⟩
  · skip
    refine lv_if_ne (tgt := 11) hx hb dX12_pieces_6 (by decide) (fun _ => ?_) (fun c => absurd c (by decide))
    refine lv_aload_n hx hb dX12_pieces_11 rfl (lv_at hl 0 rfl) ?_
    refine x_vv E h (na := 0) (As := []) (kX12_findPieces_0 l g _  fI_31) (oc_mo g) rfl gX12_pieces_X12_findPieces rfl ⟨rfl, rfl⟩ rfl (by decide +kernel) ⟨Nat.le_of_ble_eq_true rfl, Nat.le_of_ble_eq_true rfl⟩ hl.1 rfl (Nat.le_of_ble_eq_true rfl) dX12_pieces_12 ⟨Nat.le_of_ble_eq_true rfl, Nat.le_of_ble_eq_true rfl⟩ (fun s2 H locs q2 h => ?_)
    rcases q2 with rfl
    refine lv_iconst (v := 0) hx hb dX12_pieces_15 (by decide) ?_
    refine lv_istore_n (lv' := [(2, .int 0), (0, .ref (g.2.1 79)), (1, .int p1)]) hx hb dX12_pieces_16 rfl hl (by decide) rfl (fun ls hl => ?_)
    refine lv_iconst (v := 0) hx hb dX12_pieces_17 (by decide) ?_
    refine lv_istore_n (lv' := [(3, .int 0), (2, .int 0), (0, .ref (g.2.1 79)), (1, .int p1)]) hx hb dX12_pieces_18 rfl hl (by decide) rfl (fun ls hl => ?_)
    refine lv_iload_n hx hb dX12_pieces_19 rfl (lv_at hl 0 rfl) ?_
    refine lv_aload_n hx hb dX12_pieces_20 rfl (lv_at hl 2 rfl) ?_
    refine x_getI E h (fi_mo_rows g) rfl hwX12 (by decide) (by decide +kernel) (v := 0) fI_31 dX12_pieces_21 ?_
    refine lv_icmp_ge (tgt := 49) hx hb dX12_pieces_24 (by decide) (fun _ => ?_) (fun c => absurd (by decide) c)
    refine lv_iload_n hx hb dX12_pieces_49 rfl (lv_at hl 3 rfl) ?_
    refine lv_if_ne (tgt := 60) hx hb dX12_pieces_50 (by decide) (fun c50_3 => ?_) (fun c50_3 => ?_)
    · skip
      refine lv_iload_n hx hb dX12_pieces_60 rfl (lv_at hl 3 rfl) ?_
      refine lv_iconst (v := 1) hx hb dX12_pieces_61 (by decide) ?_
      refine lv_icmp_ne (tgt := 72) hx hb dX12_pieces_62 (by decide) (fun c62_4 => ?_) (fun c62_4 => ?_)
      · skip
        refine lv_iload_n hx hb dX12_pieces_72 rfl (lv_at hl 3 rfl) ?_
        refine lv_iconst (v := 2) hx hb dX12_pieces_73 (by decide) ?_
        refine lv_icmp_ne (tgt := 84) hx hb dX12_pieces_74 (by decide) (fun c74_5 => ?_) (fun c74_5 => ?_)
        · skip
          refine lv_iload_n hx hb dX12_pieces_84 rfl (lv_at hl 1 rfl) ?_
          exact x_iret E h (Or.inl ⟨k1_0, c50_3, c62_4, c74_5, rfl⟩) dX12_pieces_85
        · skip
          refine lv_aload_n hx hb dX12_pieces_77 rfl (lv_at hl 2 rfl) ?_
          refine x_getI E h (fi_mo_price g) rfl hwX12 (by decide) (by decide +kernel) (v := 0) rfl dX12_pieces_78 ?_
          refine lv_goto (tgt := 85) hx hb dX12_pieces_81 (by decide) ?_
          exact x_iret E h (Or.inr (Or.inl ⟨k1_0, c50_3, c62_4, c74_5, rfl⟩)) dX12_pieces_85
      · skip
        refine lv_aload_n hx hb dX12_pieces_65 rfl (lv_at hl 2 rfl) ?_
        refine x_getI E h (fi_mo_stretches g) rfl hwX12 (by decide) (by decide +kernel) (v := 0) rfl dX12_pieces_66 ?_
        refine lv_goto (tgt := 85) hx hb dX12_pieces_69 (by decide) ?_
        exact x_iret E h (Or.inr (Or.inr (Or.inl ⟨k1_0, c50_3, c62_4, rfl⟩))) dX12_pieces_85
    · skip
      refine lv_aload_n hx hb dX12_pieces_53 rfl (lv_at hl 2 rfl) ?_
      refine x_getI E h (fi_mo_pieces g) rfl hwX12 (by decide) (by decide +kernel) (v := 0) rfl dX12_pieces_54 ?_
      refine lv_goto (tgt := 85) hx hb dX12_pieces_57 (by decide) ?_
      exact x_iret E h (Or.inr (Or.inr (Or.inr (Or.inl ⟨k1_0, c50_3, rfl⟩)))) dX12_pieces_85
  · skip
    refine lv_if_ne (tgt := 11) hx hb dX12_pieces_6 (by decide) (fun c => absurd (by decide) c) (fun _ => ?_)
    refine lv_iconst (v := (-1)) hx hb dX12_pieces_9 (by decide) ?_
    exact x_iret E h (Or.inr (Or.inr (Or.inr (Or.inr (⟨k1_0, rfl⟩))))) dX12_pieces_10
set_option maxHeartbeats 4000000 in
set_option maxRecDepth 100000 in
theorem kX12_isPiece_0 (l : Launch) (g : CX) (σ : ST) (p1 : Int32) (fI_35 : σ.1 35 = 0) : XM l g yX12_isPiece wsX12_isPiece { frames := 1, cells := 0, slots := 0, locals := 22 } [.ref (g.2.1 79), .int p1] σ (XQi g (fun r σ' => (bB p1 0 (-1) = 0 ∧ 0 = r ∧ σ = σ'))) := by
  refine x_met (own := RX12) (cc := cX12_isPiece) (maxL := 2) (ret := (some .boolean)) (lv := [(0, .ref (g.2.1 79)), (1, .int p1)]) (by decide) rfl rfl (Nat.le_of_ble_eq_true rfl) rfl ?_
  intro p e s m args below meth c ls E h hl
  have hx := E.1
  have hb := E.2.1
  have hown := E.2.2.2.1
  have hts := E.2.2.2.2.1
  have hwX12 : ∀ w ∈ wsX120, w ∈ wsX12_isPiece := by decide +kernel
  refine lv_iload_n hx hb dX12_isPiece_0 rfl (lv_at hl 1 rfl) ?_
  refine lv_iconst (v := 0) hx hb dX12_isPiece_1 (by decide) ?_
  refine lv_aload_n hx hb dX12_isPiece_2 rfl (lv_at hl 0 rfl) ?_
  refine x_getI E h (fi_mo_pieces g) rfl hwX12 (by decide) (by decide +kernel) (v := 0) fI_35 dX12_isPiece_3 ?_
  refine lv_iconst (v := 1) hx hb dX12_isPiece_6 (by decide) ?_
  refine lv_isub hx hb dX12_isPiece_7 ?_
  refine x_topI (v2 := (-1)) (by decide) ?_
  refine x_si E h (na := 3) (As := [.int p1, .int 0, .int (-1)]) (kX12_in_0 l g _ p1 0 (-1)) gX12_isPiece_X12_in rfl ⟨rfl, rfl⟩ rfl (by decide +kernel) ⟨Nat.le_of_ble_eq_true rfl, Nat.le_of_ble_eq_true rfl⟩ hl.1 rfl (Nat.le_of_ble_eq_true rfl) dX12_isPiece_8 ⟨Nat.le_of_ble_eq_true rfl, Nat.le_of_ble_eq_true rfl⟩ (fun r1 s1 H locs q1 h => ?_)
  rcases q1 with ⟨k1_0, rfl, rfl⟩ | ⟨k1_0, rfl, rfl⟩
  · exact absurd trivial (fun _ => (bB_n1 k1_0))
  exact x_zret E h rfl ⟨k1_0, rfl, rfl⟩ dX12_isPiece_11
set_option maxHeartbeats 4000000 in
set_option maxRecDepth 100000 in
theorem kX12_piece_0 (l : Launch) (g : CX) (σ : ST) (p1 : Int32) (p2 : Int32) (fI_31 : σ.1 31 = 0) : XM l g yX12_piece wsX12_piece { frames := 2, cells := 0, slots := 0, locals := 43 } [.ref (g.2.1 79), .int p1, .int p2] σ (XQi g (fun r σ' => (bB p1 0 (-1) = 0 ∧ (-1) = r))) := by
  refine x_met (own := RX12) (cc := cX12_piece) (maxL := 3) (ret := (some .int)) (lv := [(0, .ref (g.2.1 79)), (1, .int p1), (2, .int p2)]) (by decide) rfl rfl (Nat.le_of_ble_eq_true rfl) rfl ?_
  intro p e s m args below meth c ls E h hl
  have hx := E.1
  have hb := E.2.1
  have hown := E.2.2.2.1
  have hts := E.2.2.2.2.1
  refine lv_aload_n hx hb dX12_piece_0 rfl (lv_at hl 0 rfl) ?_
  refine x_vv E h (na := 0) (As := []) (kX12_findPieces_0 l g _  fI_31) (oc_mo g) rfl gX12_piece_X12_findPieces rfl ⟨rfl, rfl⟩ rfl (by decide +kernel) ⟨Nat.le_of_ble_eq_true rfl, Nat.le_of_ble_eq_true rfl⟩ hl.1 rfl (Nat.le_of_ble_eq_true rfl) dX12_piece_1 ⟨Nat.le_of_ble_eq_true rfl, Nat.le_of_ble_eq_true rfl⟩ (fun s1 H locs q1 h => ?_)
  rcases q1 with rfl
  refine lv_aload_n hx hb dX12_piece_4 rfl (lv_at hl 0 rfl) ?_
  refine lv_iload_n hx hb dX12_piece_5 rfl (lv_at hl 1 rfl) ?_
  refine x_vi E h (na := 1) (As := [.int p1]) (kX12_isPiece_0 l g _ p1 rfl) (oc_mo g) rfl gX12_piece_X12_isPiece rfl ⟨rfl, rfl⟩ rfl (by decide +kernel) ⟨Nat.le_of_ble_eq_true rfl, Nat.le_of_ble_eq_true rfl⟩ hl.1 rfl (Nat.le_of_ble_eq_true rfl) dX12_piece_6 ⟨Nat.le_of_ble_eq_true rfl, Nat.le_of_ble_eq_true rfl⟩ (fun r2 s2 H locs q2 h => ?_)
  rcases q2 with ⟨k2_0, rfl, rfl⟩
  refine lv_if_eq (tgt := 22) hx hb dX12_piece_9 (by decide) (fun _ => ?_) (fun c => absurd (by decide) c)
  refine lv_iconst (v := (-1)) hx hb dX12_piece_22 (by decide) ?_
  exact x_iret E h ⟨k2_0, rfl⟩ dX12_piece_23
set_option maxHeartbeats 4000000 in
set_option maxRecDepth 100000 in
theorem kX12_of_0 (l : Launch) (g : CX) (σ : ST) (p1 : Int32) (fI_31 : σ.1 31 = 0) : XM l g yX12_of wsX12_of { frames := 2, cells := 0, slots := 0, locals := 43 } [.ref (g.2.1 79), .int p1] σ (XQi g (fun r σ' => (bB p1 0 (-1) = 0 ∧ (-1) = r))) := by
  refine x_met (own := RX12) (cc := cX12_of) (maxL := 2) (ret := (some .int)) (lv := [(0, .ref (g.2.1 79)), (1, .int p1)]) (by decide) rfl rfl (Nat.le_of_ble_eq_true rfl) rfl ?_
  intro p e s m args below meth c ls E h hl
  have hx := E.1
  have hb := E.2.1
  have hown := E.2.2.2.1
  have hts := E.2.2.2.2.1
  refine lv_aload_n hx hb dX12_of_0 rfl (lv_at hl 0 rfl) ?_
  refine lv_iload_n hx hb dX12_of_1 rfl (lv_at hl 1 rfl) ?_
  refine x_vi E h (na := 1) (As := [.int p1]) (kX12_isRow_0 l g _ p1 fI_31) (oc_mo g) rfl gX12_of_X12_isRow rfl ⟨rfl, rfl⟩ rfl (by decide +kernel) ⟨Nat.le_of_ble_eq_true rfl, Nat.le_of_ble_eq_true rfl⟩ hl.1 rfl (Nat.le_of_ble_eq_true rfl) dX12_of_2 ⟨Nat.le_of_ble_eq_true rfl, Nat.le_of_ble_eq_true rfl⟩ (fun r1 s1 H locs q1 h => ?_)
  rcases q1 with ⟨k1_0, rfl, rfl⟩
  refine lv_if_ne (tgt := 10) hx hb dX12_of_5 (by decide) (fun c => absurd (by decide) c) (fun _ => ?_)
  refine lv_iconst (v := (-1)) hx hb dX12_of_8 (by decide) ?_
  exact x_iret E h ⟨k1_0, rfl⟩ dX12_of_9
set_option maxHeartbeats 4000000 in
set_option maxRecDepth 100000 in
theorem kX12_like_0 (l : Launch) (g : CX) (σ : ST) (p1 : Int32) (p2 : Int32) (fI_31 : σ.1 31 = 0) : XM l g yX12_like wsX12_like { frames := 2, cells := 0, slots := 0, locals := 43 } [.ref (g.2.1 79), .int p1, .int p2] σ (XQi g (fun r σ' => (bB p1 0 (-1) = 0 ∧ (-1000000) = r))) := by
  refine x_met (own := RX12) (cc := cX12_like) (maxL := 3) (ret := (some .int)) (lv := [(0, .ref (g.2.1 79)), (1, .int p1), (2, .int p2)]) (by decide) rfl rfl (Nat.le_of_ble_eq_true rfl) rfl ?_
  intro p e s m args below meth c ls E h hl
  have hx := E.1
  have hb := E.2.1
  have hown := E.2.2.2.1
  have hts := E.2.2.2.2.1
  refine lv_aload_n hx hb dX12_like_0 rfl (lv_at hl 0 rfl) ?_
  refine x_vv E h (na := 0) (As := []) (kX12_findPieces_0 l g _  fI_31) (oc_mo g) rfl gX12_like_X12_findPieces rfl ⟨rfl, rfl⟩ rfl (by decide +kernel) ⟨Nat.le_of_ble_eq_true rfl, Nat.le_of_ble_eq_true rfl⟩ hl.1 rfl (Nat.le_of_ble_eq_true rfl) dX12_like_1 ⟨Nat.le_of_ble_eq_true rfl, Nat.le_of_ble_eq_true rfl⟩ (fun s1 H locs q1 h => ?_)
  rcases q1 with rfl
  refine lv_aload_n hx hb dX12_like_4 rfl (lv_at hl 0 rfl) ?_
  refine lv_iload_n hx hb dX12_like_5 rfl (lv_at hl 1 rfl) ?_
  refine x_vi E h (na := 1) (As := [.int p1]) (kX12_isPiece_0 l g _ p1 rfl) (oc_mo g) rfl gX12_like_X12_isPiece rfl ⟨rfl, rfl⟩ rfl (by decide +kernel) ⟨Nat.le_of_ble_eq_true rfl, Nat.le_of_ble_eq_true rfl⟩ hl.1 rfl (Nat.le_of_ble_eq_true rfl) dX12_like_6 ⟨Nat.le_of_ble_eq_true rfl, Nat.le_of_ble_eq_true rfl⟩ (fun r2 s2 H locs q2 h => ?_)
  rcases q2 with ⟨k2_0, rfl, rfl⟩
  refine lv_if_eq (tgt := 34) hx hb dX12_like_9 (by decide) (fun _ => ?_) (fun c => absurd (by decide) c)
  refine lv_ldc (v := (-1000000)) hx hb hown (hts (.constant RX12 215 (-1000000)) (by decide +kernel)) dX12_like_34 ?_
  exact x_iret E h ⟨k2_0, rfl⟩ dX12_like_36
set_option maxHeartbeats 4000000 in
set_option maxRecDepth 100000 in
theorem kX12_heap_0 (l : Launch) (g : CX) (σ : ST) (p1 : Int32) (p2 : Int32) (fI_31 : σ.1 31 = 0) : XM l g yX12_heap wsX12_heap { frames := 2, cells := 0, slots := 0, locals := 43 } [.ref (g.2.1 79), .int p1, .int p2] σ (XQi g (fun r σ' => (bB p1 0 (-1) = 0 ∧ (-1) = r))) := by
  refine x_met (own := RX12) (cc := cX12_heap) (maxL := 3) (ret := (some .int)) (lv := [(0, .ref (g.2.1 79)), (1, .int p1), (2, .int p2)]) (by decide) rfl rfl (Nat.le_of_ble_eq_true rfl) rfl ?_
  intro p e s m args below meth c ls E h hl
  have hx := E.1
  have hb := E.2.1
  have hown := E.2.2.2.1
  have hts := E.2.2.2.2.1
  refine lv_aload_n hx hb dX12_heap_0 rfl (lv_at hl 0 rfl) ?_
  refine x_vv E h (na := 0) (As := []) (kX12_findPieces_0 l g _  fI_31) (oc_mo g) rfl gX12_heap_X12_findPieces rfl ⟨rfl, rfl⟩ rfl (by decide +kernel) ⟨Nat.le_of_ble_eq_true rfl, Nat.le_of_ble_eq_true rfl⟩ hl.1 rfl (Nat.le_of_ble_eq_true rfl) dX12_heap_1 ⟨Nat.le_of_ble_eq_true rfl, Nat.le_of_ble_eq_true rfl⟩ (fun s1 H locs q1 h => ?_)
  rcases q1 with rfl
  refine lv_aload_n hx hb dX12_heap_4 rfl (lv_at hl 0 rfl) ?_
  refine lv_iload_n hx hb dX12_heap_5 rfl (lv_at hl 1 rfl) ?_
  refine x_vi E h (na := 1) (As := [.int p1]) (kX12_isPiece_0 l g _ p1 rfl) (oc_mo g) rfl gX12_heap_X12_isPiece rfl ⟨rfl, rfl⟩ rfl (by decide +kernel) ⟨Nat.le_of_ble_eq_true rfl, Nat.le_of_ble_eq_true rfl⟩ hl.1 rfl (Nat.le_of_ble_eq_true rfl) dX12_heap_6 ⟨Nat.le_of_ble_eq_true rfl, Nat.le_of_ble_eq_true rfl⟩ (fun r2 s2 H locs q2 h => ?_)
  rcases q2 with ⟨k2_0, rfl, rfl⟩
  refine lv_if_eq (tgt := 21) hx hb dX12_heap_9 (by decide) (fun _ => ?_) (fun c => absurd (by decide) c)
  refine lv_iconst (v := (-1)) hx hb dX12_heap_21 (by decide) ?_
  exact x_iret E h ⟨k2_0, rfl⟩ dX12_heap_22
set_option maxHeartbeats 4000000 in
set_option maxRecDepth 100000 in
theorem kX12_findGains_0 (l : Launch) (g : CX) (σ : ST) (fI_35 : σ.1 35 = 0) : XM l g yX12_findGains wsX12_findGains { frames := 0, cells := 0, slots := 0, locals := 0 } [.ref (g.2.1 79)] σ (XQv g (fun σ' => (σ = σ'))) := by
  refine x_met (own := RX12) (cc := cX12_findGains) (maxL := 3) (ret := none) (lv := [(0, .ref (g.2.1 79))]) (by decide) rfl rfl (Nat.le_of_ble_eq_true rfl) rfl ?_
  intro p e s m args below meth c ls E h hl
  have hx := E.1
  have hb := E.2.1
  have hown := E.2.2.2.1
  have hts := E.2.2.2.2.1
  have hwX12 : ∀ w ∈ wsX120, w ∈ wsX12_findGains := by decide +kernel
  refine lv_iconst (v := 0) hx hb dX12_findGains_0 (by decide) ?_
  refine lv_istore_n (lv' := [(1, .int 0), (0, .ref (g.2.1 79))]) hx hb dX12_findGains_1 rfl hl (by decide) rfl (fun ls hl => ?_)
  refine lv_iload_n hx hb dX12_findGains_2 rfl (lv_at hl 0 rfl) ?_
  refine lv_aload_n hx hb dX12_findGains_3 rfl (lv_at hl 1 rfl) ?_
  refine x_getI E h (fi_mo_pieces g) rfl hwX12 (by decide) (by decide +kernel) (v := 0) fI_35 dX12_findGains_4 ?_
  refine lv_icmp_ge (tgt := 78) hx hb dX12_findGains_7 (by decide) (fun _ => ?_) (fun c => absurd (by decide) c)
  exact x_vret E h rfl dX12_findGains_78
set_option maxHeartbeats 4000000 in
set_option maxRecDepth 100000 in
theorem kX12_begin_0 (l : Launch) (g : CX) (σ : ST) : XM l g yX12_begin wsX12_begin { frames := 0, cells := 0, slots := 0, locals := 0 } [.ref (g.2.1 79)] σ (XQv g (fun σ' => ((sA (sA (sA (sA (sA (sA (sA (sA (sA (sA σ 85 (upd (σ.2.2 85) 0 0)) 85 (upd (upd (σ.2.2 85) 0 0) 1 0)) 85 (upd (upd (upd (σ.2.2 85) 0 0) 1 0) 2 0)) 85 (upd (upd (upd (upd (σ.2.2 85) 0 0) 1 0) 2 0) 3 0)) 85 (upd (upd (upd (upd (upd (σ.2.2 85) 0 0) 1 0) 2 0) 3 0) 4 0)) 85 (upd (upd (upd (upd (upd (upd (σ.2.2 85) 0 0) 1 0) 2 0) 3 0) 4 0) 5 0)) 85 (upd (upd (upd (upd (upd (upd (upd (σ.2.2 85) 0 0) 1 0) 2 0) 3 0) 4 0) 5 0) 6 0)) 85 (upd (upd (upd (upd (upd (upd (upd (upd (σ.2.2 85) 0 0) 1 0) 2 0) 3 0) 4 0) 5 0) 6 0) 7 0)) 85 (upd (upd (upd (upd (upd (upd (upd (upd (upd (σ.2.2 85) 0 0) 1 0) 2 0) 3 0) 4 0) 5 0) 6 0) 7 0) 8 0)) 85 (upd (upd (upd (upd (upd (upd (upd (upd (upd (upd (σ.2.2 85) 0 0) 1 0) 2 0) 3 0) 4 0) 5 0) 6 0) 7 0) 8 0) 9 0)) = σ'))) := by
  refine x_met (own := RX12) (cc := cX12_begin) (maxL := 2) (ret := none) (lv := [(0, .ref (g.2.1 79))]) (by decide) rfl rfl (Nat.le_of_ble_eq_true rfl) rfl ?_
  intro p e s m args below meth c ls E h hl
  have hx := E.1
  have hb := E.2.1
  have hown := E.2.2.2.1
  have hts := E.2.2.2.2.1
  have hwX12 : ∀ w ∈ wsX120, w ∈ wsX12_begin := by decide +kernel
  refine lv_iconst (v := 0) hx hb dX12_begin_0 (by decide) ?_
  refine lv_istore_n (lv' := [(1, .int 0), (0, .ref (g.2.1 79))]) hx hb dX12_begin_1 rfl hl (by decide) rfl (fun ls hl => ?_)
  refine lv_iload_n hx hb dX12_begin_2 rfl (lv_at hl 0 rfl) ?_
  refine lv_bipush (v := 10) hx hb dX12_begin_3 (by decide) ?_
  refine lv_icmp_ge (tgt := 21) hx hb dX12_begin_5 (by decide) (fun c => absurd c (by decide)) (fun _ => ?_)
  refine lv_aload_n hx hb dX12_begin_8 rfl (lv_at hl 1 rfl) ?_
  refine x_getR E h (fr_mo_heap g) rfl hwX12 (by decide) (by decide +kernel) dX12_begin_9 ?_
  refine lv_iload_n hx hb dX12_begin_12 rfl (lv_at hl 0 rfl) ?_
  refine lv_iconst (v := 0) hx hb dX12_begin_13 (by decide) ?_
  refine x_stI E h (ia_mo_heap g) (i := 0) (by unfold vp_in; decide) (j := (0)) rfl rfl dX12_begin_14 (fun H locs h => ?_)
  refine lv_iinc (v := 1) (lv' := [(1, .int 1), (0, .ref (g.2.1 79))]) hx hb dX12_begin_15 hl (k := 0) rfl (by decide) (by decide) rfl (fun ls hl => ?_)
  refine lv_goto (tgt := 2) hx hb dX12_begin_18 (by decide) ?_
  refine lv_iload_n hx hb dX12_begin_2 rfl (lv_at hl 0 rfl) ?_
  refine lv_bipush (v := 10) hx hb dX12_begin_3 (by decide) ?_
  refine lv_icmp_ge (tgt := 21) hx hb dX12_begin_5 (by decide) (fun c => absurd c (by decide)) (fun _ => ?_)
  refine lv_aload_n hx hb dX12_begin_8 rfl (lv_at hl 1 rfl) ?_
  refine x_getR E h (fr_mo_heap g) rfl hwX12 (by decide) (by decide +kernel) dX12_begin_9 ?_
  refine lv_iload_n hx hb dX12_begin_12 rfl (lv_at hl 0 rfl) ?_
  refine lv_iconst (v := 0) hx hb dX12_begin_13 (by decide) ?_
  refine x_stI E h (ia_mo_heap g) (i := 1) (by unfold vp_in; decide) (j := (1)) rfl rfl dX12_begin_14 (fun H locs h => ?_)
  refine lv_iinc (v := 2) (lv' := [(1, .int 2), (0, .ref (g.2.1 79))]) hx hb dX12_begin_15 hl (k := 0) rfl (by decide) (by decide) rfl (fun ls hl => ?_)
  refine lv_goto (tgt := 2) hx hb dX12_begin_18 (by decide) ?_
  refine lv_iload_n hx hb dX12_begin_2 rfl (lv_at hl 0 rfl) ?_
  refine lv_bipush (v := 10) hx hb dX12_begin_3 (by decide) ?_
  refine lv_icmp_ge (tgt := 21) hx hb dX12_begin_5 (by decide) (fun c => absurd c (by decide)) (fun _ => ?_)
  refine lv_aload_n hx hb dX12_begin_8 rfl (lv_at hl 1 rfl) ?_
  refine x_getR E h (fr_mo_heap g) rfl hwX12 (by decide) (by decide +kernel) dX12_begin_9 ?_
  refine lv_iload_n hx hb dX12_begin_12 rfl (lv_at hl 0 rfl) ?_
  refine lv_iconst (v := 0) hx hb dX12_begin_13 (by decide) ?_
  refine x_stI E h (ia_mo_heap g) (i := 2) (by unfold vp_in; decide) (j := (2)) rfl rfl dX12_begin_14 (fun H locs h => ?_)
  refine lv_iinc (v := 3) (lv' := [(1, .int 3), (0, .ref (g.2.1 79))]) hx hb dX12_begin_15 hl (k := 0) rfl (by decide) (by decide) rfl (fun ls hl => ?_)
  refine lv_goto (tgt := 2) hx hb dX12_begin_18 (by decide) ?_
  refine lv_iload_n hx hb dX12_begin_2 rfl (lv_at hl 0 rfl) ?_
  refine lv_bipush (v := 10) hx hb dX12_begin_3 (by decide) ?_
  refine lv_icmp_ge (tgt := 21) hx hb dX12_begin_5 (by decide) (fun c => absurd c (by decide)) (fun _ => ?_)
  refine lv_aload_n hx hb dX12_begin_8 rfl (lv_at hl 1 rfl) ?_
  refine x_getR E h (fr_mo_heap g) rfl hwX12 (by decide) (by decide +kernel) dX12_begin_9 ?_
  refine lv_iload_n hx hb dX12_begin_12 rfl (lv_at hl 0 rfl) ?_
  refine lv_iconst (v := 0) hx hb dX12_begin_13 (by decide) ?_
  refine x_stI E h (ia_mo_heap g) (i := 3) (by unfold vp_in; decide) (j := (3)) rfl rfl dX12_begin_14 (fun H locs h => ?_)
  refine lv_iinc (v := 4) (lv' := [(1, .int 4), (0, .ref (g.2.1 79))]) hx hb dX12_begin_15 hl (k := 0) rfl (by decide) (by decide) rfl (fun ls hl => ?_)
  refine lv_goto (tgt := 2) hx hb dX12_begin_18 (by decide) ?_
  refine lv_iload_n hx hb dX12_begin_2 rfl (lv_at hl 0 rfl) ?_
  refine lv_bipush (v := 10) hx hb dX12_begin_3 (by decide) ?_
  refine lv_icmp_ge (tgt := 21) hx hb dX12_begin_5 (by decide) (fun c => absurd c (by decide)) (fun _ => ?_)
  refine lv_aload_n hx hb dX12_begin_8 rfl (lv_at hl 1 rfl) ?_
  refine x_getR E h (fr_mo_heap g) rfl hwX12 (by decide) (by decide +kernel) dX12_begin_9 ?_
  refine lv_iload_n hx hb dX12_begin_12 rfl (lv_at hl 0 rfl) ?_
  refine lv_iconst (v := 0) hx hb dX12_begin_13 (by decide) ?_
  refine x_stI E h (ia_mo_heap g) (i := 4) (by unfold vp_in; decide) (j := (4)) rfl rfl dX12_begin_14 (fun H locs h => ?_)
  refine lv_iinc (v := 5) (lv' := [(1, .int 5), (0, .ref (g.2.1 79))]) hx hb dX12_begin_15 hl (k := 0) rfl (by decide) (by decide) rfl (fun ls hl => ?_)
  refine lv_goto (tgt := 2) hx hb dX12_begin_18 (by decide) ?_
  refine lv_iload_n hx hb dX12_begin_2 rfl (lv_at hl 0 rfl) ?_
  refine lv_bipush (v := 10) hx hb dX12_begin_3 (by decide) ?_
  refine lv_icmp_ge (tgt := 21) hx hb dX12_begin_5 (by decide) (fun c => absurd c (by decide)) (fun _ => ?_)
  refine lv_aload_n hx hb dX12_begin_8 rfl (lv_at hl 1 rfl) ?_
  refine x_getR E h (fr_mo_heap g) rfl hwX12 (by decide) (by decide +kernel) dX12_begin_9 ?_
  refine lv_iload_n hx hb dX12_begin_12 rfl (lv_at hl 0 rfl) ?_
  refine lv_iconst (v := 0) hx hb dX12_begin_13 (by decide) ?_
  refine x_stI E h (ia_mo_heap g) (i := 5) (by unfold vp_in; decide) (j := (5)) rfl rfl dX12_begin_14 (fun H locs h => ?_)
  refine lv_iinc (v := 6) (lv' := [(1, .int 6), (0, .ref (g.2.1 79))]) hx hb dX12_begin_15 hl (k := 0) rfl (by decide) (by decide) rfl (fun ls hl => ?_)
  refine lv_goto (tgt := 2) hx hb dX12_begin_18 (by decide) ?_
  refine lv_iload_n hx hb dX12_begin_2 rfl (lv_at hl 0 rfl) ?_
  refine lv_bipush (v := 10) hx hb dX12_begin_3 (by decide) ?_
  refine lv_icmp_ge (tgt := 21) hx hb dX12_begin_5 (by decide) (fun c => absurd c (by decide)) (fun _ => ?_)
  refine lv_aload_n hx hb dX12_begin_8 rfl (lv_at hl 1 rfl) ?_
  refine x_getR E h (fr_mo_heap g) rfl hwX12 (by decide) (by decide +kernel) dX12_begin_9 ?_
  refine lv_iload_n hx hb dX12_begin_12 rfl (lv_at hl 0 rfl) ?_
  refine lv_iconst (v := 0) hx hb dX12_begin_13 (by decide) ?_
  refine x_stI E h (ia_mo_heap g) (i := 6) (by unfold vp_in; decide) (j := (6)) rfl rfl dX12_begin_14 (fun H locs h => ?_)
  refine lv_iinc (v := 7) (lv' := [(1, .int 7), (0, .ref (g.2.1 79))]) hx hb dX12_begin_15 hl (k := 0) rfl (by decide) (by decide) rfl (fun ls hl => ?_)
  refine lv_goto (tgt := 2) hx hb dX12_begin_18 (by decide) ?_
  refine lv_iload_n hx hb dX12_begin_2 rfl (lv_at hl 0 rfl) ?_
  refine lv_bipush (v := 10) hx hb dX12_begin_3 (by decide) ?_
  refine lv_icmp_ge (tgt := 21) hx hb dX12_begin_5 (by decide) (fun c => absurd c (by decide)) (fun _ => ?_)
  refine lv_aload_n hx hb dX12_begin_8 rfl (lv_at hl 1 rfl) ?_
  refine x_getR E h (fr_mo_heap g) rfl hwX12 (by decide) (by decide +kernel) dX12_begin_9 ?_
  refine lv_iload_n hx hb dX12_begin_12 rfl (lv_at hl 0 rfl) ?_
  refine lv_iconst (v := 0) hx hb dX12_begin_13 (by decide) ?_
  refine x_stI E h (ia_mo_heap g) (i := 7) (by unfold vp_in; decide) (j := (7)) rfl rfl dX12_begin_14 (fun H locs h => ?_)
  refine lv_iinc (v := 8) (lv' := [(1, .int 8), (0, .ref (g.2.1 79))]) hx hb dX12_begin_15 hl (k := 0) rfl (by decide) (by decide) rfl (fun ls hl => ?_)
  refine lv_goto (tgt := 2) hx hb dX12_begin_18 (by decide) ?_
  refine lv_iload_n hx hb dX12_begin_2 rfl (lv_at hl 0 rfl) ?_
  refine lv_bipush (v := 10) hx hb dX12_begin_3 (by decide) ?_
  refine lv_icmp_ge (tgt := 21) hx hb dX12_begin_5 (by decide) (fun c => absurd c (by decide)) (fun _ => ?_)
  refine lv_aload_n hx hb dX12_begin_8 rfl (lv_at hl 1 rfl) ?_
  refine x_getR E h (fr_mo_heap g) rfl hwX12 (by decide) (by decide +kernel) dX12_begin_9 ?_
  refine lv_iload_n hx hb dX12_begin_12 rfl (lv_at hl 0 rfl) ?_
  refine lv_iconst (v := 0) hx hb dX12_begin_13 (by decide) ?_
  refine x_stI E h (ia_mo_heap g) (i := 8) (by unfold vp_in; decide) (j := (8)) rfl rfl dX12_begin_14 (fun H locs h => ?_)
  refine lv_iinc (v := 9) (lv' := [(1, .int 9), (0, .ref (g.2.1 79))]) hx hb dX12_begin_15 hl (k := 0) rfl (by decide) (by decide) rfl (fun ls hl => ?_)
  refine lv_goto (tgt := 2) hx hb dX12_begin_18 (by decide) ?_
  refine lv_iload_n hx hb dX12_begin_2 rfl (lv_at hl 0 rfl) ?_
  refine lv_bipush (v := 10) hx hb dX12_begin_3 (by decide) ?_
  refine lv_icmp_ge (tgt := 21) hx hb dX12_begin_5 (by decide) (fun c => absurd c (by decide)) (fun _ => ?_)
  refine lv_aload_n hx hb dX12_begin_8 rfl (lv_at hl 1 rfl) ?_
  refine x_getR E h (fr_mo_heap g) rfl hwX12 (by decide) (by decide +kernel) dX12_begin_9 ?_
  refine lv_iload_n hx hb dX12_begin_12 rfl (lv_at hl 0 rfl) ?_
  refine lv_iconst (v := 0) hx hb dX12_begin_13 (by decide) ?_
  refine x_stI E h (ia_mo_heap g) (i := 9) (by unfold vp_in; decide) (j := (9)) rfl rfl dX12_begin_14 (fun H locs h => ?_)
  refine lv_iinc (v := 10) (lv' := [(1, .int 10), (0, .ref (g.2.1 79))]) hx hb dX12_begin_15 hl (k := 0) rfl (by decide) (by decide) rfl (fun ls hl => ?_)
  refine lv_goto (tgt := 2) hx hb dX12_begin_18 (by decide) ?_
  refine lv_iload_n hx hb dX12_begin_2 rfl (lv_at hl 0 rfl) ?_
  refine lv_bipush (v := 10) hx hb dX12_begin_3 (by decide) ?_
  refine lv_icmp_ge (tgt := 21) hx hb dX12_begin_5 (by decide) (fun _ => ?_) (fun c => absurd (by decide) c)
  exact x_vret E h rfl dX12_begin_21
set_option maxHeartbeats 4000000 in
set_option maxRecDepth 100000 in
theorem kX12_worthOf_0 (l : Launch) (g : CX) (σ : ST) (fI_35 : σ.1 35 = 0) : XM l g yX12_worthOf wsX12_worthOf { frames := 0, cells := 0, slots := 0, locals := 0 } [.ref (g.2.1 79), .ref (g.2.1 99)] σ (XQi g (fun r σ' => (0 = r ∧ σ = σ'))) := by
  refine x_met (own := RX12) (cc := cX12_worthOf) (maxL := 5) (ret := (some .int)) (lv := [(0, .ref (g.2.1 79)), (1, .ref (g.2.1 99))]) (by decide) rfl rfl (Nat.le_of_ble_eq_true rfl) rfl ?_
  intro p e s m args below meth c ls E h hl
  have hx := E.1
  have hb := E.2.1
  have hown := E.2.2.2.1
  have hts := E.2.2.2.2.1
  have hwX12 : ∀ w ∈ wsX120, w ∈ wsX12_worthOf := by decide +kernel
  refine lv_iconst (v := 0) hx hb dX12_worthOf_0 (by decide) ?_
  refine lv_istore_n (lv' := [(2, .int 0), (0, .ref (g.2.1 79)), (1, .ref (g.2.1 99))]) hx hb dX12_worthOf_1 rfl hl (by decide) rfl (fun ls hl => ?_)
  refine lv_iconst (v := 0) hx hb dX12_worthOf_2 (by decide) ?_
  refine lv_istore_n (lv' := [(3, .int 0), (2, .int 0), (0, .ref (g.2.1 79)), (1, .ref (g.2.1 99))]) hx hb dX12_worthOf_3 rfl hl (by decide) rfl (fun ls hl => ?_)
  refine lv_iload_n hx hb dX12_worthOf_4 rfl (lv_at hl 0 rfl) ?_
  refine lv_aload_n hx hb dX12_worthOf_5 rfl (lv_at hl 2 rfl) ?_
  refine x_getI E h (fi_mo_pieces g) rfl hwX12 (by decide) (by decide +kernel) (v := 0) fI_35 dX12_worthOf_6 ?_
  refine lv_icmp_ge (tgt := 62) hx hb dX12_worthOf_9 (by decide) (fun _ => ?_) (fun c => absurd (by decide) c)
  refine lv_iload_n hx hb dX12_worthOf_62 rfl (lv_at hl 1 rfl) ?_
  exact x_iret E h ⟨rfl, rfl⟩ dX12_worthOf_63
set_option maxHeartbeats 4000000 in
set_option maxRecDepth 100000 in
theorem kX12_goOn_0 (l : Launch) (g : CX) (σ : ST) (fI_35 : σ.1 35 = 0) : XM l g yX12_goOn wsX12_goOn { frames := 0, cells := 0, slots := 0, locals := 0 } [.ref (g.2.1 79)] σ (XQi g (fun r σ' => (0 = r ∧ σ = σ'))) := by
  refine x_met (own := RX12) (cc := cX12_goOn) (maxL := 3) (ret := (some .boolean)) (lv := [(0, .ref (g.2.1 79))]) (by decide) rfl rfl (Nat.le_of_ble_eq_true rfl) rfl ?_
  intro p e s m args below meth c ls E h hl
  have hx := E.1
  have hb := E.2.1
  have hown := E.2.2.2.1
  have hts := E.2.2.2.2.1
  have hwX12 : ∀ w ∈ wsX120, w ∈ wsX12_goOn := by decide +kernel
  refine lv_aload_n hx hb dX12_goOn_0 rfl (lv_at hl 0 rfl) ?_
  refine x_getI E h (fi_mo_pieces g) rfl hwX12 (by decide) (by decide +kernel) (v := 0) fI_35 dX12_goOn_1 ?_
  refine lv_iconst (v := 1) hx hb dX12_goOn_4 (by decide) ?_
  refine lv_isub hx hb dX12_goOn_5 ?_
  refine x_topI (v2 := (-1)) (by decide) ?_
  refine lv_istore_n (lv' := [(1, .int (-1)), (0, .ref (g.2.1 79))]) hx hb dX12_goOn_6 rfl hl (by decide) rfl (fun ls hl => ?_)
  refine lv_iload_n hx hb dX12_goOn_7 rfl (lv_at hl 0 rfl) ?_
  refine lv_if_le (tgt := 71) hx hb dX12_goOn_8 (by decide) (fun _ => ?_) (fun c => absurd (by decide) c)
  refine lv_iconst (v := 0) hx hb dX12_goOn_71 (by decide) ?_
  exact x_zret E h rfl ⟨rfl, rfl⟩ dX12_goOn_72
set_option maxHeartbeats 4000000 in
set_option maxRecDepth 100000 in
theorem kX12_findBest_0 (l : Launch) (g : CX) (σ : ST) (fI_31 : σ.1 31 = 0) : XM l g yX12_findBest wsX12_findBest { frames := 1, cells := 0, slots := 0, locals := 24 } [.ref (g.2.1 79)] σ (XQi g (fun r σ' => (1 = r ∧ (sI (sA (sA (sA (sA (sA (sA (sA (sA (sA (sA (sI (sI (sI σ 35 0) 36 0) 37 0) 85 (upd ((sI (sI (sI σ 35 0) 36 0) 37 0).2.2 85) 0 0)) 85 (upd (upd ((sI (sI (sI σ 35 0) 36 0) 37 0).2.2 85) 0 0) 1 0)) 85 (upd (upd (upd ((sI (sI (sI σ 35 0) 36 0) 37 0).2.2 85) 0 0) 1 0) 2 0)) 85 (upd (upd (upd (upd ((sI (sI (sI σ 35 0) 36 0) 37 0).2.2 85) 0 0) 1 0) 2 0) 3 0)) 85 (upd (upd (upd (upd (upd ((sI (sI (sI σ 35 0) 36 0) 37 0).2.2 85) 0 0) 1 0) 2 0) 3 0) 4 0)) 85 (upd (upd (upd (upd (upd (upd ((sI (sI (sI σ 35 0) 36 0) 37 0).2.2 85) 0 0) 1 0) 2 0) 3 0) 4 0) 5 0)) 85 (upd (upd (upd (upd (upd (upd (upd ((sI (sI (sI σ 35 0) 36 0) 37 0).2.2 85) 0 0) 1 0) 2 0) 3 0) 4 0) 5 0) 6 0)) 85 (upd (upd (upd (upd (upd (upd (upd (upd ((sI (sI (sI σ 35 0) 36 0) 37 0).2.2 85) 0 0) 1 0) 2 0) 3 0) 4 0) 5 0) 6 0) 7 0)) 85 (upd (upd (upd (upd (upd (upd (upd (upd (upd ((sI (sI (sI σ 35 0) 36 0) 37 0).2.2 85) 0 0) 1 0) 2 0) 3 0) 4 0) 5 0) 6 0) 7 0) 8 0)) 85 (upd (upd (upd (upd (upd (upd (upd (upd (upd (upd ((sI (sI (sI σ 35 0) 36 0) 37 0).2.2 85) 0 0) 1 0) 2 0) 3 0) 4 0) 5 0) 6 0) 7 0) 8 0) 9 0)) 39 0) = σ'))) := by
  refine x_met (own := RX12) (cc := cX12_findBest) (maxL := 5) (ret := (some .boolean)) (lv := [(0, .ref (g.2.1 79))]) (by decide) rfl rfl (Nat.le_of_ble_eq_true rfl) rfl ?_
  intro p e s m args below meth c ls E h hl
  have hx := E.1
  have hb := E.2.1
  have hown := E.2.2.2.1
  have hts := E.2.2.2.2.1
  have hwX12 : ∀ w ∈ wsX120, w ∈ wsX12_findBest := by decide +kernel
  refine lv_aload_n hx hb dX12_findBest_0 rfl (lv_at hl 0 rfl) ?_
  refine x_vv E h (na := 0) (As := []) (kX12_findPieces_0 l g _  fI_31) (oc_mo g) rfl gX12_findBest_X12_findPieces rfl ⟨rfl, rfl⟩ rfl (by decide +kernel) ⟨Nat.le_of_ble_eq_true rfl, Nat.le_of_ble_eq_true rfl⟩ hl.1 rfl (Nat.le_of_ble_eq_true rfl) dX12_findBest_1 ⟨Nat.le_of_ble_eq_true rfl, Nat.le_of_ble_eq_true rfl⟩ (fun s1 H locs q1 h => ?_)
  rcases q1 with rfl
  refine lv_aload_n hx hb dX12_findBest_4 rfl (lv_at hl 0 rfl) ?_
  refine x_getI E h (fi_mo_pieces g) rfl hwX12 (by decide) (by decide +kernel) (v := 0) rfl dX12_findBest_5 ?_
  refine lv_bipush (v := 9) hx hb dX12_findBest_8 (by decide) ?_
  refine lv_icmp_le (tgt := 15) hx hb dX12_findBest_10 (by decide) (fun _ => ?_) (fun c => absurd (by decide) c)
  refine lv_aload_n hx hb dX12_findBest_15 rfl (lv_at hl 0 rfl) ?_
  refine x_vv E h (na := 0) (As := []) (kX12_findGains_0 l g _  rfl) (oc_mo g) rfl gX12_findBest_X12_findGains rfl ⟨rfl, rfl⟩ rfl (by decide +kernel) ⟨Nat.le_of_ble_eq_true rfl, Nat.le_of_ble_eq_true rfl⟩ hl.1 rfl (Nat.le_of_ble_eq_true rfl) dX12_findBest_16 ⟨Nat.le_of_ble_eq_true rfl, Nat.le_of_ble_eq_true rfl⟩ (fun s2 H locs q2 h => ?_)
  rcases q2 with rfl
  refine lv_aload_n hx hb dX12_findBest_19 rfl (lv_at hl 0 rfl) ?_
  refine x_vv E h (na := 0) (As := []) (kX12_begin_0 l g _  ) (oc_mo g) rfl gX12_findBest_X12_begin rfl ⟨rfl, rfl⟩ rfl (by decide +kernel) ⟨Nat.le_of_ble_eq_true rfl, Nat.le_of_ble_eq_true rfl⟩ hl.1 rfl (Nat.le_of_ble_eq_true rfl) dX12_findBest_20 ⟨Nat.le_of_ble_eq_true rfl, Nat.le_of_ble_eq_true rfl⟩ (fun s3 H locs q3 h => ?_)
  rcases q3 with rfl
  refine lv_iconst (v := 1) hx hb dX12_findBest_23 (by decide) ?_
  refine lv_istore_n (lv' := [(1, .int 1), (0, .ref (g.2.1 79))]) hx hb dX12_findBest_24 rfl hl (by decide) rfl (fun ls hl => ?_)
  refine lv_iconst (v := 0) hx hb dX12_findBest_25 (by decide) ?_
  refine lv_istore_n (lv' := [(2, .int 0), (1, .int 1), (0, .ref (g.2.1 79))]) hx hb dX12_findBest_26 rfl hl (by decide) rfl (fun ls hl => ?_)
  refine lv_iload_n hx hb dX12_findBest_27 rfl (lv_at hl 1 rfl) ?_
  refine lv_if_eq (tgt := 99) hx hb dX12_findBest_28 (by decide) (fun c => absurd c (by decide)) (fun _ => ?_)
  refine lv_aload_n hx hb dX12_findBest_31 rfl (lv_at hl 2 rfl) ?_
  refine lv_aload_n hx hb dX12_findBest_32 rfl (lv_at hl 2 rfl) ?_
  refine x_getR E h (fr_mo_heap g) rfl hwX12 (by decide) (by decide +kernel) dX12_findBest_33 ?_
  refine x_vi E h (na := 1) (As := [.ref (g.2.1 99)]) (kX12_worthOf_0 l g _  rfl) (oc_mo g) rfl gX12_findBest_X12_worthOf rfl ⟨rfl, rfl⟩ rfl (by decide +kernel) ⟨Nat.le_of_ble_eq_true rfl, Nat.le_of_ble_eq_true rfl⟩ hl.1 rfl (Nat.le_of_ble_eq_true rfl) dX12_findBest_36 ⟨Nat.le_of_ble_eq_true rfl, Nat.le_of_ble_eq_true rfl⟩ (fun r4 s4 H locs q4 h => ?_)
  rcases q4 with ⟨rfl, rfl⟩
  refine lv_istore_n (lv' := [(3, .int 0), (2, .int 0), (1, .int 1), (0, .ref (g.2.1 79))]) hx hb dX12_findBest_39 rfl hl (by decide) rfl (fun ls hl => ?_)
  refine lv_iload_n hx hb dX12_findBest_40 rfl (lv_at hl 1 rfl) ?_
  refine lv_if_eq (tgt := 52) hx hb dX12_findBest_41 (by decide) (fun _ => ?_) (fun c => absurd (by decide) c)
  refine lv_aload_n hx hb dX12_findBest_52 rfl (lv_at hl 3 rfl) ?_
  refine lv_iload_n hx hb dX12_findBest_53 rfl (lv_at hl 0 rfl) ?_
  refine x_putI E h (ty := .int) (v := 0) (fi_mo_bestWorth g) rfl hwX12 tyX12_ok nmX12 (by decide) (by decide +kernel) (by decide +kernel) (by decide +kernel) rfl rfl dX12_findBest_54 (fun H locs h => ?_)
  refine lv_iconst (v := 0) hx hb dX12_findBest_57 (by decide) ?_
  refine lv_istore (lv' := [(4, .int 0), (3, .int 0), (2, .int 0), (1, .int 1), (0, .ref (g.2.1 79))]) hx hb dX12_findBest_58 hl (by decide) rfl (fun ls hl => ?_)
  refine lv_iload hx hb dX12_findBest_60 (lv_at hl 0 rfl) ?_
  refine lv_aload_n hx hb dX12_findBest_62 rfl (lv_at hl 4 rfl) ?_
  refine x_getI E h (fi_mo_pieces g) rfl hwX12 (by decide) (by decide +kernel) (v := 0) rfl dX12_findBest_63 ?_
  refine lv_icmp_ge (tgt := 89) hx hb dX12_findBest_66 (by decide) (fun _ => ?_) (fun c => absurd (by decide) c)
  refine lv_iconst (v := 1) hx hb dX12_findBest_89 (by decide) ?_
  refine lv_istore_n (lv' := [(2, .int 1), (4, .int 0), (3, .int 0), (1, .int 1), (0, .ref (g.2.1 79))]) hx hb dX12_findBest_90 rfl hl (by decide) rfl (fun ls hl => ?_)
  refine lv_aload_n hx hb dX12_findBest_91 rfl (lv_at hl 4 rfl) ?_
  refine x_vi E h (na := 0) (As := []) (kX12_goOn_0 l g _  rfl) (oc_mo g) rfl gX12_findBest_X12_goOn rfl ⟨rfl, rfl⟩ rfl (by decide +kernel) ⟨Nat.le_of_ble_eq_true rfl, Nat.le_of_ble_eq_true rfl⟩ hl.1 rfl (Nat.le_of_ble_eq_true rfl) dX12_findBest_92 ⟨Nat.le_of_ble_eq_true rfl, Nat.le_of_ble_eq_true rfl⟩ (fun r5 s5 H locs q5 h => ?_)
  rcases q5 with ⟨rfl, rfl⟩
  refine lv_istore_n (lv' := [(1, .int 0), (2, .int 1), (4, .int 0), (3, .int 0), (0, .ref (g.2.1 79))]) hx hb dX12_findBest_95 rfl hl (by decide) rfl (fun ls hl => ?_)
  refine lv_goto (tgt := 27) hx hb dX12_findBest_96 (by decide) ?_
  refine lv_iload_n hx hb dX12_findBest_27 rfl (lv_at hl 0 rfl) ?_
  refine lv_if_eq (tgt := 99) hx hb dX12_findBest_28 (by decide) (fun _ => ?_) (fun c => absurd (by decide) c)
  refine lv_iconst (v := 1) hx hb dX12_findBest_99 (by decide) ?_
  exact x_zret E h rfl ⟨rfl, rfl⟩ dX12_findBest_100
set_option maxHeartbeats 4000000 in
set_option maxRecDepth 100000 in
theorem kX12_join_0 (l : Launch) (g : CX) (σ : ST) (fI_35 : σ.1 35 = 0) : XM l g yX12_join wsX12_join { frames := 0, cells := 0, slots := 0, locals := 0 } [.ref (g.2.1 79)] σ (XQv g (fun σ' => (σ = σ'))) := by
  refine x_met (own := RX12) (cc := cX12_join) (maxL := 10) (ret := none) (lv := [(0, .ref (g.2.1 79))]) (by decide) rfl rfl (Nat.le_of_ble_eq_true rfl) rfl ?_
  intro p e s m args below meth c ls E h hl
  have hx := E.1
  have hb := E.2.1
  have hown := E.2.2.2.1
  have hts := E.2.2.2.2.1
  have hwX12 : ∀ w ∈ wsX120, w ∈ wsX12_join := by decide +kernel
  refine lv_iconst (v := 0) hx hb dX12_join_0 (by decide) ?_
  refine lv_istore_n (lv' := [(1, .int 0), (0, .ref (g.2.1 79))]) hx hb dX12_join_1 rfl hl (by decide) rfl (fun ls hl => ?_)
  refine lv_iload_n hx hb dX12_join_2 rfl (lv_at hl 0 rfl) ?_
  refine lv_aload_n hx hb dX12_join_3 rfl (lv_at hl 1 rfl) ?_
  refine x_getI E h (fi_mo_pieces g) rfl hwX12 (by decide) (by decide +kernel) (v := 0) fI_35 dX12_join_4 ?_
  refine lv_icmp_ge (tgt := 23) hx hb dX12_join_7 (by decide) (fun _ => ?_) (fun c => absurd (by decide) c)
  refine lv_iconst (v := 1) hx hb dX12_join_23 (by decide) ?_
  refine lv_istore_n (lv' := [(1, .int 1), (0, .ref (g.2.1 79))]) hx hb dX12_join_24 rfl hl (by decide) rfl (fun ls hl => ?_)
  refine lv_iload_n hx hb dX12_join_25 rfl (lv_at hl 0 rfl) ?_
  refine lv_if_eq (tgt := 269) hx hb dX12_join_26 (by decide) (fun c => absurd c (by decide)) (fun _ => ?_)
  refine lv_bipush (v := (-9)) hx hb dX12_join_29 (by decide) ?_
  refine lv_istore_n (lv' := [(2, .int (-9)), (1, .int 1), (0, .ref (g.2.1 79))]) hx hb dX12_join_31 rfl hl (by decide) rfl (fun ls hl => ?_)
  refine lv_bipush (v := (-9)) hx hb dX12_join_32 (by decide) ?_
  refine lv_istore_n (lv' := [(3, .int (-9)), (2, .int (-9)), (1, .int 1), (0, .ref (g.2.1 79))]) hx hb dX12_join_34 rfl hl (by decide) rfl (fun ls hl => ?_)
  refine lv_iconst (v := 0) hx hb dX12_join_35 (by decide) ?_
  refine lv_istore (lv' := [(4, .int 0), (3, .int (-9)), (2, .int (-9)), (1, .int 1), (0, .ref (g.2.1 79))]) hx hb dX12_join_36 hl (by decide) rfl (fun ls hl => ?_)
  refine lv_iconst (v := 0) hx hb dX12_join_38 (by decide) ?_
  refine lv_istore (lv' := [(5, .int 0), (4, .int 0), (3, .int (-9)), (2, .int (-9)), (1, .int 1), (0, .ref (g.2.1 79))]) hx hb dX12_join_39 hl (by decide) rfl (fun ls hl => ?_)
  refine lv_iload hx hb dX12_join_41 (lv_at hl 0 rfl) ?_
  refine lv_aload_n hx hb dX12_join_43 rfl (lv_at hl 5 rfl) ?_
  refine x_getI E h (fi_mo_pieces g) rfl hwX12 (by decide) (by decide +kernel) (v := 0) fI_35 dX12_join_44 ?_
  refine lv_icmp_ge (tgt := 203) hx hb dX12_join_47 (by decide) (fun _ => ?_) (fun c => absurd (by decide) c)
  refine lv_iload_n hx hb dX12_join_203 rfl (lv_at hl 3 rfl) ?_
  refine lv_bipush (v := (-9)) hx hb dX12_join_204 (by decide) ?_
  refine lv_icmp_eq (tgt := 213) hx hb dX12_join_206 (by decide) (fun _ => ?_) (fun c => absurd (by decide) c)
  refine lv_iconst (v := 0) hx hb dX12_join_213 (by decide) ?_
  refine lv_istore_n (lv' := [(1, .int 0), (5, .int 0), (4, .int 0), (3, .int (-9)), (2, .int (-9)), (0, .ref (g.2.1 79))]) hx hb dX12_join_214 rfl hl (by decide) rfl (fun ls hl => ?_)
  refine lv_iconst (v := 0) hx hb dX12_join_215 (by decide) ?_
  refine lv_istore (lv' := [(5, .int 0), (1, .int 0), (4, .int 0), (3, .int (-9)), (2, .int (-9)), (0, .ref (g.2.1 79))]) hx hb dX12_join_216 hl (by decide) rfl (fun ls hl => ?_)
  refine lv_iload hx hb dX12_join_218 (lv_at hl 0 rfl) ?_
  refine lv_aload_n hx hb dX12_join_220 rfl (lv_at hl 5 rfl) ?_
  refine x_getI E h (fi_mo_pieces g) rfl hwX12 (by decide) (by decide +kernel) (v := 0) fI_35 dX12_join_221 ?_
  refine lv_icmp_ge (tgt := 266) hx hb dX12_join_224 (by decide) (fun _ => ?_) (fun c => absurd (by decide) c)
  refine lv_goto (tgt := 25) hx hb dX12_join_266 (by decide) ?_
  refine lv_iload_n hx hb dX12_join_25 rfl (lv_at hl 1 rfl) ?_
  refine lv_if_eq (tgt := 269) hx hb dX12_join_26 (by decide) (fun _ => ?_) (fun c => absurd (by decide) c)
  refine lv_iconst (v := 0) hx hb dX12_join_269 (by decide) ?_
  refine lv_istore_n (lv' := [(2, .int 0), (5, .int 0), (1, .int 0), (4, .int 0), (3, .int (-9)), (0, .ref (g.2.1 79))]) hx hb dX12_join_270 rfl hl (by decide) rfl (fun ls hl => ?_)
  refine lv_iconst (v := 0) hx hb dX12_join_271 (by decide) ?_
  refine lv_istore_n (lv' := [(3, .int 0), (2, .int 0), (5, .int 0), (1, .int 0), (4, .int 0), (0, .ref (g.2.1 79))]) hx hb dX12_join_272 rfl hl (by decide) rfl (fun ls hl => ?_)
  refine lv_iload_n hx hb dX12_join_273 rfl (lv_at hl 0 rfl) ?_
  refine lv_aload_n hx hb dX12_join_274 rfl (lv_at hl 5 rfl) ?_
  refine x_getI E h (fi_mo_pieces g) rfl hwX12 (by decide) (by decide +kernel) (v := 0) fI_35 dX12_join_275 ?_
  refine lv_icmp_ge (tgt := 336) hx hb dX12_join_278 (by decide) (fun _ => ?_) (fun c => absurd (by decide) c)
  refine lv_iconst (v := 0) hx hb dX12_join_336 (by decide) ?_
  refine lv_istore_n (lv' := [(3, .int 0), (2, .int 0), (5, .int 0), (1, .int 0), (4, .int 0), (0, .ref (g.2.1 79))]) hx hb dX12_join_337 rfl hl (by decide) rfl (fun ls hl => ?_)
  refine lv_iload_n hx hb dX12_join_338 rfl (lv_at hl 0 rfl) ?_
  refine lv_aload_n hx hb dX12_join_339 rfl (lv_at hl 5 rfl) ?_
  refine x_getI E h (fi_mo_pieces g) rfl hwX12 (by decide) (by decide +kernel) (v := 0) fI_35 dX12_join_340 ?_
  refine lv_icmp_ge (tgt := 364) hx hb dX12_join_343 (by decide) (fun _ => ?_) (fun c => absurd (by decide) c)
  exact x_vret E h rfl dX12_join_364
set_option maxHeartbeats 4000000 in
set_option maxRecDepth 100000 in
theorem kX12_worthOf_1 (l : Launch) (g : CX) (σ : ST) (fI_35 : σ.1 35 = 0) : XM l g yX12_worthOf wsX12_worthOf { frames := 0, cells := 0, slots := 0, locals := 0 } [.ref (g.2.1 79), .ref (g.2.1 101)] σ (XQi g (fun r σ' => (0 = r ∧ σ = σ'))) := by
  refine x_met (own := RX12) (cc := cX12_worthOf) (maxL := 5) (ret := (some .int)) (lv := [(0, .ref (g.2.1 79)), (1, .ref (g.2.1 101))]) (by decide) rfl rfl (Nat.le_of_ble_eq_true rfl) rfl ?_
  intro p e s m args below meth c ls E h hl
  have hx := E.1
  have hb := E.2.1
  have hown := E.2.2.2.1
  have hts := E.2.2.2.2.1
  have hwX12 : ∀ w ∈ wsX120, w ∈ wsX12_worthOf := by decide +kernel
  refine lv_iconst (v := 0) hx hb dX12_worthOf_0 (by decide) ?_
  refine lv_istore_n (lv' := [(2, .int 0), (0, .ref (g.2.1 79)), (1, .ref (g.2.1 101))]) hx hb dX12_worthOf_1 rfl hl (by decide) rfl (fun ls hl => ?_)
  refine lv_iconst (v := 0) hx hb dX12_worthOf_2 (by decide) ?_
  refine lv_istore_n (lv' := [(3, .int 0), (2, .int 0), (0, .ref (g.2.1 79)), (1, .ref (g.2.1 101))]) hx hb dX12_worthOf_3 rfl hl (by decide) rfl (fun ls hl => ?_)
  refine lv_iload_n hx hb dX12_worthOf_4 rfl (lv_at hl 0 rfl) ?_
  refine lv_aload_n hx hb dX12_worthOf_5 rfl (lv_at hl 2 rfl) ?_
  refine x_getI E h (fi_mo_pieces g) rfl hwX12 (by decide) (by decide +kernel) (v := 0) fI_35 dX12_worthOf_6 ?_
  refine lv_icmp_ge (tgt := 62) hx hb dX12_worthOf_9 (by decide) (fun _ => ?_) (fun c => absurd (by decide) c)
  refine lv_iload_n hx hb dX12_worthOf_62 rfl (lv_at hl 1 rfl) ?_
  exact x_iret E h ⟨rfl, rfl⟩ dX12_worthOf_63
set_option maxHeartbeats 4000000 in
set_option maxRecDepth 100000 in
theorem kX12_worth_0 (l : Launch) (g : CX) (σ : ST) (p1 : Int32) (fI_31 : σ.1 31 = 0) : XM l g yX12_worth wsX12_worth { frames := 2, cells := 0, slots := 0, locals := 48 } [.ref (g.2.1 79), .int p1] σ (XQi g (fun r σ' => (bB p1 0 1 = 1 ∧ ¬ p1 = 0 ∧ 0 = r) ∨ (bB p1 0 1 = 1 ∧ p1 = 0 ∧ 0 = r) ∨ (bB p1 0 1 = 0 ∧ (-1000000) = r))) := by
  refine x_met (own := RX12) (cc := cX12_worth) (maxL := 2) (ret := (some .int)) (lv := [(0, .ref (g.2.1 79)), (1, .int p1)]) (by decide) rfl rfl (Nat.le_of_ble_eq_true rfl) rfl ?_
  intro p e s m args below meth c ls E h hl
  have hx := E.1
  have hb := E.2.1
  have hown := E.2.2.2.1
  have hts := E.2.2.2.2.1
  have hwX12 : ∀ w ∈ wsX120, w ∈ wsX12_worth := by decide +kernel
  refine lv_iload_n hx hb dX12_worth_0 rfl (lv_at hl 1 rfl) ?_
  refine lv_iconst (v := 0) hx hb dX12_worth_1 (by decide) ?_
  refine lv_iconst (v := 1) hx hb dX12_worth_2 (by decide) ?_
  refine x_si E h (na := 3) (As := [.int p1, .int 0, .int 1]) (kX12_in_0 l g _ p1 0 1) gX12_worth_X12_in rfl ⟨rfl, rfl⟩ rfl (by decide +kernel) ⟨Nat.le_of_ble_eq_true rfl, Nat.le_of_ble_eq_true rfl⟩ hl.1 rfl (Nat.le_of_ble_eq_true rfl) dX12_worth_3 ⟨Nat.le_of_ble_eq_true rfl, Nat.le_of_ble_eq_true rfl⟩ (fun r1 s1 H locs q1 h => ?_)
  rcases q1 with ⟨k1_0, rfl, rfl⟩ | ⟨k1_0, rfl, rfl⟩
  · skip
    refine lv_if_eq (tgt := 16) hx hb dX12_worth_6 (by decide) (fun c => absurd c (by decide)) (fun _ => ?_)
    refine lv_aload_n hx hb dX12_worth_9 rfl (lv_at hl 0 rfl) ?_
    refine x_vi E h (na := 0) (As := []) (kX12_findBest_0 l g _  fI_31) (oc_mo g) rfl gX12_worth_X12_findBest rfl ⟨rfl, rfl⟩ rfl (by decide +kernel) ⟨Nat.le_of_ble_eq_true rfl, Nat.le_of_ble_eq_true rfl⟩ hl.1 rfl (Nat.le_of_ble_eq_true rfl) dX12_worth_10 ⟨Nat.le_of_ble_eq_true rfl, Nat.le_of_ble_eq_true rfl⟩ (fun r2 s2 H locs q2 h => ?_)
    rcases q2 with ⟨rfl, rfl⟩
    refine lv_if_ne (tgt := 19) hx hb dX12_worth_13 (by decide) (fun _ => ?_) (fun c => absurd c (by decide))
    refine lv_aload_n hx hb dX12_worth_19 rfl (lv_at hl 0 rfl) ?_
    refine x_vv E h (na := 0) (As := []) (kX12_join_0 l g _  rfl) (oc_mo g) rfl gX12_worth_X12_join rfl ⟨rfl, rfl⟩ rfl (by decide +kernel) ⟨Nat.le_of_ble_eq_true rfl, Nat.le_of_ble_eq_true rfl⟩ hl.1 rfl (Nat.le_of_ble_eq_true rfl) dX12_worth_20 ⟨Nat.le_of_ble_eq_true rfl, Nat.le_of_ble_eq_true rfl⟩ (fun s3 H locs q3 h => ?_)
    rcases q3 with rfl
    refine lv_iload_n hx hb dX12_worth_23 rfl (lv_at hl 1 rfl) ?_
    refine lv_if_ne (tgt := 34) hx hb dX12_worth_24 (by decide) (fun c24_4 => ?_) (fun c24_4 => ?_)
    · skip
      refine lv_aload_n hx hb dX12_worth_34 rfl (lv_at hl 0 rfl) ?_
      refine lv_aload_n hx hb dX12_worth_35 rfl (lv_at hl 0 rfl) ?_
      refine x_getR E h (fr_mo_joined g) rfl hwX12 (by decide) (by decide +kernel) dX12_worth_36 ?_
      refine x_vi E h (na := 1) (As := [.ref (g.2.1 101)]) (kX12_worthOf_1 l g _  rfl) (oc_mo g) rfl gX12_worth_X12_worthOf rfl ⟨rfl, rfl⟩ rfl (by decide +kernel) ⟨Nat.le_of_ble_eq_true rfl, Nat.le_of_ble_eq_true rfl⟩ hl.1 rfl (Nat.le_of_ble_eq_true rfl) dX12_worth_39 ⟨Nat.le_of_ble_eq_true rfl, Nat.le_of_ble_eq_true rfl⟩ (fun r5 s5 H locs q5 h => ?_)
      rcases q5 with ⟨rfl, rfl⟩
      exact x_iret E h (Or.inl ⟨k1_0, c24_4, rfl⟩) dX12_worth_42
    · skip
      refine lv_aload_n hx hb dX12_worth_27 rfl (lv_at hl 0 rfl) ?_
      refine x_getI E h (fi_mo_bestWorth g) rfl hwX12 (by decide) (by decide +kernel) (v := 0) rfl dX12_worth_28 ?_
      refine lv_goto (tgt := 42) hx hb dX12_worth_31 (by decide) ?_
      exact x_iret E h (Or.inr (Or.inl ⟨k1_0, c24_4, rfl⟩)) dX12_worth_42
  · skip
    refine lv_if_eq (tgt := 16) hx hb dX12_worth_6 (by decide) (fun _ => ?_) (fun c => absurd (by decide) c)
    refine lv_ldc (v := (-1000000)) hx hb hown (hts (.constant RX12 215 (-1000000)) (by decide +kernel)) dX12_worth_16 ?_
    exact x_iret E h (Or.inr (Or.inr (⟨k1_0, rfl⟩))) dX12_worth_18
set_option maxHeartbeats 4000000 in
set_option maxRecDepth 100000 in
theorem kX12_heapsIn_0 (l : Launch) (g : CX) (σ : ST) : XM l g yX12_heapsIn wsX12_heapsIn { frames := 0, cells := 0, slots := 0, locals := 0 } [.ref (g.2.1 99), .int 0] σ (XQi g (fun r σ' => (0 = r ∧ σ = σ'))) := by
  refine x_met (own := RX12) (cc := cX12_heapsIn) (maxL := 4) (ret := (some .int)) (lv := [(0, .ref (g.2.1 99)), (1, .int 0)]) (by decide) rfl rfl (Nat.le_of_ble_eq_true rfl) rfl ?_
  intro p e s m args below meth c ls E h hl
  have hx := E.1
  have hb := E.2.1
  have hown := E.2.2.2.1
  have hts := E.2.2.2.2.1
  refine lv_iconst (v := 0) hx hb dX12_heapsIn_0 (by decide) ?_
  refine lv_istore_n (lv' := [(2, .int 0), (0, .ref (g.2.1 99)), (1, .int 0)]) hx hb dX12_heapsIn_1 rfl hl (by decide) rfl (fun ls hl => ?_)
  refine lv_iconst (v := 0) hx hb dX12_heapsIn_2 (by decide) ?_
  refine lv_istore_n (lv' := [(3, .int 0), (2, .int 0), (0, .ref (g.2.1 99)), (1, .int 0)]) hx hb dX12_heapsIn_3 rfl hl (by decide) rfl (fun ls hl => ?_)
  refine lv_iload_n hx hb dX12_heapsIn_4 rfl (lv_at hl 0 rfl) ?_
  refine lv_iload_n hx hb dX12_heapsIn_5 rfl (lv_at hl 3 rfl) ?_
  refine lv_icmp_ge (tgt := 32) hx hb dX12_heapsIn_6 (by decide) (fun _ => ?_) (fun c => absurd (by decide) c)
  refine lv_iload_n hx hb dX12_heapsIn_32 rfl (lv_at hl 1 rfl) ?_
  exact x_iret E h ⟨rfl, rfl⟩ dX12_heapsIn_33
set_option maxHeartbeats 4000000 in
set_option maxRecDepth 100000 in
theorem kX12_heapsIn_1 (l : Launch) (g : CX) (σ : ST) : XM l g yX12_heapsIn wsX12_heapsIn { frames := 0, cells := 0, slots := 0, locals := 0 } [.ref (g.2.1 101), .int 0] σ (XQi g (fun r σ' => (0 = r ∧ σ = σ'))) := by
  refine x_met (own := RX12) (cc := cX12_heapsIn) (maxL := 4) (ret := (some .int)) (lv := [(0, .ref (g.2.1 101)), (1, .int 0)]) (by decide) rfl rfl (Nat.le_of_ble_eq_true rfl) rfl ?_
  intro p e s m args below meth c ls E h hl
  have hx := E.1
  have hb := E.2.1
  have hown := E.2.2.2.1
  have hts := E.2.2.2.2.1
  refine lv_iconst (v := 0) hx hb dX12_heapsIn_0 (by decide) ?_
  refine lv_istore_n (lv' := [(2, .int 0), (0, .ref (g.2.1 101)), (1, .int 0)]) hx hb dX12_heapsIn_1 rfl hl (by decide) rfl (fun ls hl => ?_)
  refine lv_iconst (v := 0) hx hb dX12_heapsIn_2 (by decide) ?_
  refine lv_istore_n (lv' := [(3, .int 0), (2, .int 0), (0, .ref (g.2.1 101)), (1, .int 0)]) hx hb dX12_heapsIn_3 rfl hl (by decide) rfl (fun ls hl => ?_)
  refine lv_iload_n hx hb dX12_heapsIn_4 rfl (lv_at hl 0 rfl) ?_
  refine lv_iload_n hx hb dX12_heapsIn_5 rfl (lv_at hl 3 rfl) ?_
  refine lv_icmp_ge (tgt := 32) hx hb dX12_heapsIn_6 (by decide) (fun _ => ?_) (fun c => absurd (by decide) c)
  refine lv_iload_n hx hb dX12_heapsIn_32 rfl (lv_at hl 1 rfl) ?_
  exact x_iret E h ⟨rfl, rfl⟩ dX12_heapsIn_33
set_option maxHeartbeats 4000000 in
set_option maxRecDepth 100000 in
theorem kX12_heapsIn_2 (l : Launch) (g : CX) (σ : ST) : XM l g yX12_heapsIn wsX12_heapsIn { frames := 0, cells := 0, slots := 0, locals := 0 } [.ref (g.2.1 100), .int 0] σ (XQi g (fun r σ' => (0 = r ∧ σ = σ'))) := by
  refine x_met (own := RX12) (cc := cX12_heapsIn) (maxL := 4) (ret := (some .int)) (lv := [(0, .ref (g.2.1 100)), (1, .int 0)]) (by decide) rfl rfl (Nat.le_of_ble_eq_true rfl) rfl ?_
  intro p e s m args below meth c ls E h hl
  have hx := E.1
  have hb := E.2.1
  have hown := E.2.2.2.1
  have hts := E.2.2.2.2.1
  refine lv_iconst (v := 0) hx hb dX12_heapsIn_0 (by decide) ?_
  refine lv_istore_n (lv' := [(2, .int 0), (0, .ref (g.2.1 100)), (1, .int 0)]) hx hb dX12_heapsIn_1 rfl hl (by decide) rfl (fun ls hl => ?_)
  refine lv_iconst (v := 0) hx hb dX12_heapsIn_2 (by decide) ?_
  refine lv_istore_n (lv' := [(3, .int 0), (2, .int 0), (0, .ref (g.2.1 100)), (1, .int 0)]) hx hb dX12_heapsIn_3 rfl hl (by decide) rfl (fun ls hl => ?_)
  refine lv_iload_n hx hb dX12_heapsIn_4 rfl (lv_at hl 0 rfl) ?_
  refine lv_iload_n hx hb dX12_heapsIn_5 rfl (lv_at hl 3 rfl) ?_
  refine lv_icmp_ge (tgt := 32) hx hb dX12_heapsIn_6 (by decide) (fun _ => ?_) (fun c => absurd (by decide) c)
  refine lv_iload_n hx hb dX12_heapsIn_32 rfl (lv_at hl 1 rfl) ?_
  exact x_iret E h ⟨rfl, rfl⟩ dX12_heapsIn_33
set_option maxHeartbeats 4000000 in
set_option maxRecDepth 100000 in
theorem kX12_near_0 (l : Launch) (g : CX) (σ : ST) (p1 : Int32) (fA_66_3 : σ.2.2 66 3 = 0) (fI_31 : σ.1 31 = 0) : XM l g yX12_near wsX12_near { frames := 2, cells := 0, slots := 0, locals := 48 } [.ref (g.2.1 79), .int p1] σ (XQi g (fun r σ' => (bB p1 0 4 = 1 ∧ p1 ≤ 2 ∧ ¬ p1 = 0 ∧ ¬ p1 = 1 ∧ 0 = r) ∨ (bB p1 0 4 = 1 ∧ p1 ≤ 2 ∧ ¬ p1 = 0 ∧ p1 = 1 ∧ 0 = r) ∨ (bB p1 0 4 = 1 ∧ p1 ≤ 2 ∧ p1 = 0 ∧ 1 = r) ∨ (bB p1 0 4 = 1 ∧ ¬ p1 ≤ 2 ∧ ¬ p1 = 3 ∧ 0 = r) ∨ (bB p1 0 4 = 1 ∧ ¬ p1 ≤ 2 ∧ p1 = 3 ∧ 0 = r) ∨ (bB p1 0 4 = 0 ∧ (-1) = r))) := by
  refine x_met (own := RX12) (cc := cX12_near) (maxL := 7) (ret := (some .int)) (lv := [(0, .ref (g.2.1 79)), (1, .int p1)]) (by decide) rfl rfl (Nat.le_of_ble_eq_true rfl) rfl ?_
  intro p e s m args below meth c ls E h hl
  have hx := E.1
  have hb := E.2.1
  have hown := E.2.2.2.1
  have hts := E.2.2.2.2.1
  have hwX12 : ∀ w ∈ wsX120, w ∈ wsX12_near := by decide +kernel
  refine lv_iload_n hx hb dX12_near_0 rfl (lv_at hl 1 rfl) ?_
  refine lv_iconst (v := 0) hx hb dX12_near_1 (by decide) ?_
  refine lv_iconst (v := 4) hx hb dX12_near_2 (by decide) ?_
  refine x_si E h (na := 3) (As := [.int p1, .int 0, .int 4]) (kX12_in_0 l g _ p1 0 4) gX12_near_X12_in rfl ⟨rfl, rfl⟩ rfl (by decide +kernel) ⟨Nat.le_of_ble_eq_true rfl, Nat.le_of_ble_eq_true rfl⟩ hl.1 rfl (Nat.le_of_ble_eq_true rfl) dX12_near_3 ⟨Nat.le_of_ble_eq_true rfl, Nat.le_of_ble_eq_true rfl⟩ (fun r1 s1 H locs q1 h => ?_)
  rcases q1 with ⟨k1_0, rfl, rfl⟩ | ⟨k1_0, rfl, rfl⟩
  · skip
    refine lv_if_ne (tgt := 11) hx hb dX12_near_6 (by decide) (fun _ => ?_) (fun c => absurd c (by decide))
    refine lv_aload_n hx hb dX12_near_11 rfl (lv_at hl 0 rfl) ?_
    refine x_vi E h (na := 0) (As := []) (kX12_findBest_0 l g _  fI_31) (oc_mo g) rfl gX12_near_X12_findBest rfl ⟨rfl, rfl⟩ rfl (by decide +kernel) ⟨Nat.le_of_ble_eq_true rfl, Nat.le_of_ble_eq_true rfl⟩ hl.1 rfl (Nat.le_of_ble_eq_true rfl) dX12_near_12 ⟨Nat.le_of_ble_eq_true rfl, Nat.le_of_ble_eq_true rfl⟩ (fun r2 s2 H locs q2 h => ?_)
    rcases q2 with ⟨rfl, rfl⟩
    refine lv_if_ne (tgt := 21) hx hb dX12_near_15 (by decide) (fun _ => ?_) (fun c => absurd c (by decide))
    refine lv_iload_n hx hb dX12_near_21 rfl (lv_at hl 1 rfl) ?_
    refine lv_iconst (v := 2) hx hb dX12_near_22 (by decide) ?_
    refine lv_icmp_le (tgt := 61) hx hb dX12_near_23 (by decide) (fun c23_3 => ?_) (fun c23_3 => ?_)
    · skip
      refine lv_iconst (v := 0) hx hb dX12_near_61 (by decide) ?_
      refine lv_istore_n (lv' := [(2, .int 0), (0, .ref (g.2.1 79)), (1, .int p1)]) hx hb dX12_near_62 rfl hl (by decide) rfl (fun ls hl => ?_)
      refine lv_bipush (v := 10) hx hb dX12_near_63 (by decide) ?_
      refine lv_istore_n (lv' := [(3, .int 10), (2, .int 0), (0, .ref (g.2.1 79)), (1, .int p1)]) hx hb dX12_near_65 rfl hl (by decide) rfl (fun ls hl => ?_)
      refine lv_iconst (v := (-1)) hx hb dX12_near_66 (by decide) ?_
      refine lv_istore (lv' := [(4, .int (-1)), (3, .int 10), (2, .int 0), (0, .ref (g.2.1 79)), (1, .int p1)]) hx hb dX12_near_67 hl (by decide) rfl (fun ls hl => ?_)
      refine lv_aload_n hx hb dX12_near_69 rfl (lv_at hl 3 rfl) ?_
      refine x_vv E h (na := 0) (As := []) (kX12_begin_0 l g _  ) (oc_mo g) rfl gX12_near_X12_begin rfl ⟨rfl, rfl⟩ rfl (by decide +kernel) ⟨Nat.le_of_ble_eq_true rfl, Nat.le_of_ble_eq_true rfl⟩ hl.1 rfl (Nat.le_of_ble_eq_true rfl) dX12_near_70 ⟨Nat.le_of_ble_eq_true rfl, Nat.le_of_ble_eq_true rfl⟩ (fun s4 H locs q4 h => ?_)
      rcases q4 with rfl
      refine lv_iconst (v := 1) hx hb dX12_near_73 (by decide) ?_
      refine lv_istore (lv' := [(5, .int 1), (4, .int (-1)), (3, .int 10), (2, .int 0), (0, .ref (g.2.1 79)), (1, .int p1)]) hx hb dX12_near_74 hl (by decide) rfl (fun ls hl => ?_)
      refine lv_iload hx hb dX12_near_76 (lv_at hl 0 rfl) ?_
      refine lv_if_eq (tgt := 157) hx hb dX12_near_78 (by decide) (fun c => absurd c (by decide)) (fun _ => ?_)
      refine lv_aload_n hx hb dX12_near_81 rfl (lv_at hl 4 rfl) ?_
      refine lv_aload_n hx hb dX12_near_82 rfl (lv_at hl 4 rfl) ?_
      refine x_getR E h (fr_mo_heap g) rfl hwX12 (by decide) (by decide +kernel) dX12_near_83 ?_
      refine x_vi E h (na := 1) (As := [.ref (g.2.1 99)]) (kX12_worthOf_0 l g _  rfl) (oc_mo g) rfl gX12_near_X12_worthOf rfl ⟨rfl, rfl⟩ rfl (by decide +kernel) ⟨Nat.le_of_ble_eq_true rfl, Nat.le_of_ble_eq_true rfl⟩ hl.1 rfl (Nat.le_of_ble_eq_true rfl) dX12_near_86 ⟨Nat.le_of_ble_eq_true rfl, Nat.le_of_ble_eq_true rfl⟩ (fun r5 s5 H locs q5 h => ?_)
      rcases q5 with ⟨rfl, rfl⟩
      refine lv_aload_n hx hb dX12_near_89 rfl (lv_at hl 4 rfl) ?_
      refine x_getI E h (fi_mo_bestWorth g) rfl hwX12 (by decide) (by decide +kernel) (v := 0) rfl dX12_near_90 ?_
      refine lv_aload_n hx hb dX12_near_93 rfl (lv_at hl 4 rfl) ?_
      refine x_getR E h (fr_mo_rule g) rfl hwX12 (by decide) (by decide +kernel) dX12_near_94 ?_
      refine lv_iconst (v := 3) hx hb dX12_near_97 (by decide) ?_
      refine x_ldI E h (ia_mo_rule g) (i := 3) (by unfold vp_in; decide) (v := 0) fA_66_3 dX12_near_98 ?_
      refine lv_isub hx hb dX12_near_99 ?_
      refine x_topI (v2 := 0) (by decide) ?_
      refine lv_icmp_lt (tgt := 148) hx hb dX12_near_100 (by decide) (fun c => absurd c (by decide)) (fun _ => ?_)
      refine lv_aload_n hx hb dX12_near_103 rfl (lv_at hl 4 rfl) ?_
      refine x_getR E h (fr_mo_heap g) rfl hwX12 (by decide) (by decide +kernel) dX12_near_104 ?_
      refine lv_aload_n hx hb dX12_near_107 rfl (lv_at hl 4 rfl) ?_
      refine x_getI E h (fi_mo_pieces g) rfl hwX12 (by decide) (by decide +kernel) (v := 0) rfl dX12_near_108 ?_
      refine x_si E h (na := 2) (As := [.ref (g.2.1 99), .int 0]) (kX12_heapsIn_0 l g _  ) gX12_near_X12_heapsIn rfl ⟨rfl, rfl⟩ rfl (by decide +kernel) ⟨Nat.le_of_ble_eq_true rfl, Nat.le_of_ble_eq_true rfl⟩ hl.1 rfl (Nat.le_of_ble_eq_true rfl) dX12_near_111 ⟨Nat.le_of_ble_eq_true rfl, Nat.le_of_ble_eq_true rfl⟩ (fun r6 s6 H locs q6 h => ?_)
      rcases q6 with ⟨rfl, rfl⟩
      refine lv_istore (lv' := [(6, .int 0), (5, .int 1), (4, .int (-1)), (3, .int 10), (2, .int 0), (0, .ref (g.2.1 79)), (1, .int p1)]) hx hb dX12_near_114 hl (by decide) rfl (fun ls hl => ?_)
      refine lv_iinc (v := 1) (lv' := [(2, .int 1), (6, .int 0), (5, .int 1), (4, .int (-1)), (3, .int 10), (0, .ref (g.2.1 79)), (1, .int p1)]) hx hb dX12_near_116 hl (k := 4) rfl (by decide) (by decide) rfl (fun ls hl => ?_)
      refine lv_iload hx hb dX12_near_119 (lv_at hl 1 rfl) ?_
      refine lv_iload_n hx hb dX12_near_121 rfl (lv_at hl 4 rfl) ?_
      refine lv_icmp_ge (tgt := 130) hx hb dX12_near_122 (by decide) (fun c => absurd c (by decide)) (fun _ => ?_)
      refine lv_iload hx hb dX12_near_125 (lv_at hl 1 rfl) ?_
      refine lv_goto (tgt := 131) hx hb dX12_near_127 (by decide) ?_
      refine lv_istore_n (lv' := [(3, .int 0), (2, .int 1), (6, .int 0), (5, .int 1), (4, .int (-1)), (0, .ref (g.2.1 79)), (1, .int p1)]) hx hb dX12_near_131 rfl hl (by decide) rfl (fun ls hl => ?_)
      refine lv_iload hx hb dX12_near_132 (lv_at hl 2 rfl) ?_
      refine lv_iload hx hb dX12_near_134 (lv_at hl 4 rfl) ?_
      refine lv_icmp_le (tgt := 144) hx hb dX12_near_136 (by decide) (fun c => absurd c (by decide)) (fun _ => ?_)
      refine lv_iload hx hb dX12_near_139 (lv_at hl 2 rfl) ?_
      refine lv_goto (tgt := 146) hx hb dX12_near_141 (by decide) ?_
      refine lv_istore (lv' := [(4, .int 0), (3, .int 0), (2, .int 1), (6, .int 0), (5, .int 1), (0, .ref (g.2.1 79)), (1, .int p1)]) hx hb dX12_near_146 hl (by decide) rfl (fun ls hl => ?_)
      refine lv_aload_n hx hb dX12_near_148 rfl (lv_at hl 5 rfl) ?_
      refine x_vi E h (na := 0) (As := []) (kX12_goOn_0 l g _  rfl) (oc_mo g) rfl gX12_near_X12_goOn rfl ⟨rfl, rfl⟩ rfl (by decide +kernel) ⟨Nat.le_of_ble_eq_true rfl, Nat.le_of_ble_eq_true rfl⟩ hl.1 rfl (Nat.le_of_ble_eq_true rfl) dX12_near_149 ⟨Nat.le_of_ble_eq_true rfl, Nat.le_of_ble_eq_true rfl⟩ (fun r7 s7 H locs q7 h => ?_)
      rcases q7 with ⟨rfl, rfl⟩
      refine lv_istore (lv' := [(5, .int 0), (4, .int 0), (3, .int 0), (2, .int 1), (6, .int 0), (0, .ref (g.2.1 79)), (1, .int p1)]) hx hb dX12_near_152 hl (by decide) rfl (fun ls hl => ?_)
      refine lv_goto (tgt := 76) hx hb dX12_near_154 (by decide) ?_
      refine lv_iload hx hb dX12_near_76 (lv_at hl 0 rfl) ?_
      refine lv_if_eq (tgt := 157) hx hb dX12_near_78 (by decide) (fun _ => ?_) (fun c => absurd (by decide) c)
      refine lv_iload_n hx hb dX12_near_157 rfl (lv_at hl 6 rfl) ?_
      refine lv_if_ne (tgt := 165) hx hb dX12_near_158 (by decide) (fun c158_8 => ?_) (fun c158_8 => ?_)
      · skip
        refine lv_iload_n hx hb dX12_near_165 rfl (lv_at hl 6 rfl) ?_
        refine lv_iconst (v := 1) hx hb dX12_near_166 (by decide) ?_
        refine lv_icmp_ne (tgt := 174) hx hb dX12_near_167 (by decide) (fun c167_9 => ?_) (fun c167_9 => ?_)
        · skip
          refine lv_iload hx hb dX12_near_174 (lv_at hl 1 rfl) ?_
          exact x_iret E h (Or.inl ⟨k1_0, c23_3, c158_8, c167_9, rfl⟩) dX12_near_176
        · skip
          refine lv_iload_n hx hb dX12_near_170 rfl (lv_at hl 2 rfl) ?_
          refine lv_goto (tgt := 176) hx hb dX12_near_171 (by decide) ?_
          exact x_iret E h (Or.inr (Or.inl ⟨k1_0, c23_3, c158_8, c167_9, rfl⟩)) dX12_near_176
      · skip
        refine lv_iload_n hx hb dX12_near_161 rfl (lv_at hl 3 rfl) ?_
        refine lv_goto (tgt := 176) hx hb dX12_near_162 (by decide) ?_
        exact x_iret E h (Or.inr (Or.inr (Or.inl ⟨k1_0, c23_3, c158_8, rfl⟩))) dX12_near_176
    · skip
      refine lv_aload_n hx hb dX12_near_26 rfl (lv_at hl 0 rfl) ?_
      refine x_vv E h (na := 0) (As := []) (kX12_join_0 l g _  rfl) (oc_mo g) rfl gX12_near_X12_join rfl ⟨rfl, rfl⟩ rfl (by decide +kernel) ⟨Nat.le_of_ble_eq_true rfl, Nat.le_of_ble_eq_true rfl⟩ hl.1 rfl (Nat.le_of_ble_eq_true rfl) dX12_near_27 ⟨Nat.le_of_ble_eq_true rfl, Nat.le_of_ble_eq_true rfl⟩ (fun s10 H locs q10 h => ?_)
      rcases q10 with rfl
      refine lv_iload_n hx hb dX12_near_30 rfl (lv_at hl 1 rfl) ?_
      refine lv_iconst (v := 3) hx hb dX12_near_31 (by decide) ?_
      refine lv_icmp_ne (tgt := 49) hx hb dX12_near_32 (by decide) (fun c32_11 => ?_) (fun c32_11 => ?_)
      · skip
        refine lv_aload_n hx hb dX12_near_49 rfl (lv_at hl 0 rfl) ?_
        refine x_getR E h (fr_mo_joined g) rfl hwX12 (by decide) (by decide +kernel) dX12_near_50 ?_
        refine lv_aload_n hx hb dX12_near_53 rfl (lv_at hl 0 rfl) ?_
        refine x_getI E h (fi_mo_pieces g) rfl hwX12 (by decide) (by decide +kernel) (v := 0) rfl dX12_near_54 ?_
        refine x_si E h (na := 2) (As := [.ref (g.2.1 101), .int 0]) (kX12_heapsIn_1 l g _  ) gX12_near_X12_heapsIn rfl ⟨rfl, rfl⟩ rfl (by decide +kernel) ⟨Nat.le_of_ble_eq_true rfl, Nat.le_of_ble_eq_true rfl⟩ hl.1 rfl (Nat.le_of_ble_eq_true rfl) dX12_near_57 ⟨Nat.le_of_ble_eq_true rfl, Nat.le_of_ble_eq_true rfl⟩ (fun r12 s12 H locs q12 h => ?_)
        rcases q12 with ⟨rfl, rfl⟩
        exact x_iret E h (Or.inr (Or.inr (Or.inr (Or.inl ⟨k1_0, c23_3, c32_11, rfl⟩)))) dX12_near_60
      · skip
        refine lv_aload_n hx hb dX12_near_35 rfl (lv_at hl 0 rfl) ?_
        refine x_getR E h (fr_mo_best g) rfl hwX12 (by decide) (by decide +kernel) dX12_near_36 ?_
        refine lv_aload_n hx hb dX12_near_39 rfl (lv_at hl 0 rfl) ?_
        refine x_getI E h (fi_mo_pieces g) rfl hwX12 (by decide) (by decide +kernel) (v := 0) rfl dX12_near_40 ?_
        refine x_si E h (na := 2) (As := [.ref (g.2.1 100), .int 0]) (kX12_heapsIn_2 l g _  ) gX12_near_X12_heapsIn rfl ⟨rfl, rfl⟩ rfl (by decide +kernel) ⟨Nat.le_of_ble_eq_true rfl, Nat.le_of_ble_eq_true rfl⟩ hl.1 rfl (Nat.le_of_ble_eq_true rfl) dX12_near_43 ⟨Nat.le_of_ble_eq_true rfl, Nat.le_of_ble_eq_true rfl⟩ (fun r13 s13 H locs q13 h => ?_)
        rcases q13 with ⟨rfl, rfl⟩
        refine lv_goto (tgt := 60) hx hb dX12_near_46 (by decide) ?_
        exact x_iret E h (Or.inr (Or.inr (Or.inr (Or.inr (Or.inl ⟨k1_0, c23_3, c32_11, rfl⟩))))) dX12_near_60
  · skip
    refine lv_if_ne (tgt := 11) hx hb dX12_near_6 (by decide) (fun c => absurd (by decide) c) (fun _ => ?_)
    refine lv_iconst (v := (-1)) hx hb dX12_near_9 (by decide) ?_
    exact x_iret E h (Or.inr (Or.inr (Or.inr (Or.inr (Or.inr (⟨k1_0, rfl⟩)))))) dX12_near_10
set_option maxHeartbeats 4000000 in
set_option maxRecDepth 100000 in
theorem kX12_sure_0 (l : Launch) (g : CX) (σ : ST) (p1 : Int32) (p2 : Int32) (fI_31 : σ.1 31 = 0) : XM l g yX12_sure wsX12_sure { frames := 2, cells := 0, slots := 0, locals := 43 } [.ref (g.2.1 79), .int p1, .int p2] σ (XQi g (fun r σ' => (bB p1 0 (-1) = 0 ∧ (-1) = r))) := by
  refine x_met (own := RX12) (cc := cX12_sure) (maxL := 6) (ret := (some .int)) (lv := [(0, .ref (g.2.1 79)), (1, .int p1), (2, .int p2)]) (by decide) rfl rfl (Nat.le_of_ble_eq_true rfl) rfl ?_
  intro p e s m args below meth c ls E h hl
  have hx := E.1
  have hb := E.2.1
  have hown := E.2.2.2.1
  have hts := E.2.2.2.2.1
  refine lv_aload_n hx hb dX12_sure_0 rfl (lv_at hl 0 rfl) ?_
  refine x_vv E h (na := 0) (As := []) (kX12_findPieces_0 l g _  fI_31) (oc_mo g) rfl gX12_sure_X12_findPieces rfl ⟨rfl, rfl⟩ rfl (by decide +kernel) ⟨Nat.le_of_ble_eq_true rfl, Nat.le_of_ble_eq_true rfl⟩ hl.1 rfl (Nat.le_of_ble_eq_true rfl) dX12_sure_1 ⟨Nat.le_of_ble_eq_true rfl, Nat.le_of_ble_eq_true rfl⟩ (fun s1 H locs q1 h => ?_)
  rcases q1 with rfl
  refine lv_aload_n hx hb dX12_sure_4 rfl (lv_at hl 0 rfl) ?_
  refine lv_iload_n hx hb dX12_sure_5 rfl (lv_at hl 1 rfl) ?_
  refine x_vi E h (na := 1) (As := [.int p1]) (kX12_isPiece_0 l g _ p1 rfl) (oc_mo g) rfl gX12_sure_X12_isPiece rfl ⟨rfl, rfl⟩ rfl (by decide +kernel) ⟨Nat.le_of_ble_eq_true rfl, Nat.le_of_ble_eq_true rfl⟩ hl.1 rfl (Nat.le_of_ble_eq_true rfl) dX12_sure_6 ⟨Nat.le_of_ble_eq_true rfl, Nat.le_of_ble_eq_true rfl⟩ (fun r2 s2 H locs q2 h => ?_)
  rcases q2 with ⟨k2_0, rfl, rfl⟩
  refine lv_if_eq (tgt := 25) hx hb dX12_sure_9 (by decide) (fun _ => ?_) (fun c => absurd (by decide) c)
  refine lv_iconst (v := (-1)) hx hb dX12_sure_25 (by decide) ?_
  exact x_iret E h ⟨k2_0, rfl⟩ dX12_sure_26
set_option maxHeartbeats 4000000 in
set_option maxRecDepth 100000 in
theorem kX12_findHeapMiddles_0 (l : Launch) (g : CX) (σ : ST) (fI_35 : σ.1 35 = 0) : XM l g yX12_findHeapMiddles wsX12_findHeapMiddles { frames := 1, cells := 0, slots := 0, locals := 23 } [.ref (g.2.1 79)] σ (XQv g (fun σ' => (σ = σ'))) := by
  refine x_met (own := RX12) (cc := cX12_findHeapMiddles) (maxL := 3) (ret := none) (lv := [(0, .ref (g.2.1 79))]) (by decide) rfl rfl (Nat.le_of_ble_eq_true rfl) rfl ?_
  intro p e s m args below meth c ls E h hl
  have hx := E.1
  have hb := E.2.1
  have hown := E.2.2.2.1
  have hts := E.2.2.2.2.1
  have hwX12 : ∀ w ∈ wsX120, w ∈ wsX12_findHeapMiddles := by decide +kernel
  refine lv_iconst (v := 0) hx hb dX12_findHeapMiddles_0 (by decide) ?_
  refine lv_istore_n (lv' := [(1, .int 0), (0, .ref (g.2.1 79))]) hx hb dX12_findHeapMiddles_1 rfl hl (by decide) rfl (fun ls hl => ?_)
  refine lv_iload_n hx hb dX12_findHeapMiddles_2 rfl (lv_at hl 0 rfl) ?_
  refine lv_aload_n hx hb dX12_findHeapMiddles_3 rfl (lv_at hl 1 rfl) ?_
  refine x_getR E h (fr_mo_best g) rfl hwX12 (by decide) (by decide +kernel) dX12_findHeapMiddles_4 ?_
  refine lv_aload_n hx hb dX12_findHeapMiddles_7 rfl (lv_at hl 1 rfl) ?_
  refine x_getI E h (fi_mo_pieces g) rfl hwX12 (by decide) (by decide +kernel) (v := 0) fI_35 dX12_findHeapMiddles_8 ?_
  refine x_si E h (na := 2) (As := [.ref (g.2.1 100), .int 0]) (kX12_heapsIn_2 l g _  ) gX12_findHeapMiddles_X12_heapsIn rfl ⟨rfl, rfl⟩ rfl (by decide +kernel) ⟨Nat.le_of_ble_eq_true rfl, Nat.le_of_ble_eq_true rfl⟩ hl.1 rfl (Nat.le_of_ble_eq_true rfl) dX12_findHeapMiddles_11 ⟨Nat.le_of_ble_eq_true rfl, Nat.le_of_ble_eq_true rfl⟩ (fun r1 s1 H locs q1 h => ?_)
  rcases q1 with ⟨rfl, rfl⟩
  refine lv_icmp_ge (tgt := 109) hx hb dX12_findHeapMiddles_14 (by decide) (fun _ => ?_) (fun c => absurd (by decide) c)
  exact x_vret E h rfl dX12_findHeapMiddles_109
set_option maxHeartbeats 4000000 in
set_option maxRecDepth 100000 in
theorem kX12_wrong_0 (l : Launch) (g : CX) (σ : ST) (p1 : Int32) (fI_31 : σ.1 31 = 0) : XM l g yX12_wrong wsX12_wrong { frames := 2, cells := 0, slots := 0, locals := 48 } [.ref (g.2.1 79), .int p1] σ (XQi g (fun r σ' => (bB p1 0 8 = 1 ∧ (-1) = r ∧ (sI (sA (sA (sA (sA (sA (sA (sA (sA (sA (sA (sI (sI (sI σ 35 0) 36 0) 37 0) 85 (upd ((sI (sI (sI σ 35 0) 36 0) 37 0).2.2 85) 0 0)) 85 (upd (upd ((sI (sI (sI σ 35 0) 36 0) 37 0).2.2 85) 0 0) 1 0)) 85 (upd (upd (upd ((sI (sI (sI σ 35 0) 36 0) 37 0).2.2 85) 0 0) 1 0) 2 0)) 85 (upd (upd (upd (upd ((sI (sI (sI σ 35 0) 36 0) 37 0).2.2 85) 0 0) 1 0) 2 0) 3 0)) 85 (upd (upd (upd (upd (upd ((sI (sI (sI σ 35 0) 36 0) 37 0).2.2 85) 0 0) 1 0) 2 0) 3 0) 4 0)) 85 (upd (upd (upd (upd (upd (upd ((sI (sI (sI σ 35 0) 36 0) 37 0).2.2 85) 0 0) 1 0) 2 0) 3 0) 4 0) 5 0)) 85 (upd (upd (upd (upd (upd (upd (upd ((sI (sI (sI σ 35 0) 36 0) 37 0).2.2 85) 0 0) 1 0) 2 0) 3 0) 4 0) 5 0) 6 0)) 85 (upd (upd (upd (upd (upd (upd (upd (upd ((sI (sI (sI σ 35 0) 36 0) 37 0).2.2 85) 0 0) 1 0) 2 0) 3 0) 4 0) 5 0) 6 0) 7 0)) 85 (upd (upd (upd (upd (upd (upd (upd (upd (upd ((sI (sI (sI σ 35 0) 36 0) 37 0).2.2 85) 0 0) 1 0) 2 0) 3 0) 4 0) 5 0) 6 0) 7 0) 8 0)) 85 (upd (upd (upd (upd (upd (upd (upd (upd (upd (upd ((sI (sI (sI σ 35 0) 36 0) 37 0).2.2 85) 0 0) 1 0) 2 0) 3 0) 4 0) 5 0) 6 0) 7 0) 8 0) 9 0)) 39 0) = σ') ∨ (bB p1 0 8 = 0 ∧ (-1) = r ∧ σ = σ'))) := by
  refine x_met (own := RX12) (cc := cX12_wrong) (maxL := 2) (ret := (some .int)) (lv := [(0, .ref (g.2.1 79)), (1, .int p1)]) (by decide) rfl rfl (Nat.le_of_ble_eq_true rfl) rfl ?_
  intro p e s m args below meth c ls E h hl
  have hx := E.1
  have hb := E.2.1
  have hown := E.2.2.2.1
  have hts := E.2.2.2.2.1
  have hwX12 : ∀ w ∈ wsX120, w ∈ wsX12_wrong := by decide +kernel
  refine lv_iload_n hx hb dX12_wrong_0 rfl (lv_at hl 1 rfl) ?_
  refine lv_iconst (v := 0) hx hb dX12_wrong_1 (by decide) ?_
  refine lv_bipush (v := 8) hx hb dX12_wrong_2 (by decide) ?_
  refine x_si E h (na := 3) (As := [.int p1, .int 0, .int 8]) (kX12_in_0 l g _ p1 0 8) gX12_wrong_X12_in rfl ⟨rfl, rfl⟩ rfl (by decide +kernel) ⟨Nat.le_of_ble_eq_true rfl, Nat.le_of_ble_eq_true rfl⟩ hl.1 rfl (Nat.le_of_ble_eq_true rfl) dX12_wrong_4 ⟨Nat.le_of_ble_eq_true rfl, Nat.le_of_ble_eq_true rfl⟩ (fun r1 s1 H locs q1 h => ?_)
  rcases q1 with ⟨k1_0, rfl, rfl⟩ | ⟨k1_0, rfl, rfl⟩
  · skip
    refine lv_if_ne (tgt := 12) hx hb dX12_wrong_7 (by decide) (fun _ => ?_) (fun c => absurd c (by decide))
    refine lv_aload_n hx hb dX12_wrong_12 rfl (lv_at hl 0 rfl) ?_
    refine x_vi E h (na := 0) (As := []) (kX12_findBest_0 l g _  fI_31) (oc_mo g) rfl gX12_wrong_X12_findBest rfl ⟨rfl, rfl⟩ rfl (by decide +kernel) ⟨Nat.le_of_ble_eq_true rfl, Nat.le_of_ble_eq_true rfl⟩ hl.1 rfl (Nat.le_of_ble_eq_true rfl) dX12_wrong_13 ⟨Nat.le_of_ble_eq_true rfl, Nat.le_of_ble_eq_true rfl⟩ (fun r2 s2 H locs q2 h => ?_)
    rcases q2 with ⟨rfl, rfl⟩
    refine lv_if_ne (tgt := 22) hx hb dX12_wrong_16 (by decide) (fun _ => ?_) (fun c => absurd c (by decide))
    refine lv_aload_n hx hb dX12_wrong_22 rfl (lv_at hl 0 rfl) ?_
    refine x_vv E h (na := 0) (As := []) (kX12_findHeapMiddles_0 l g _  rfl) (oc_mo g) rfl gX12_wrong_X12_findHeapMiddles rfl ⟨rfl, rfl⟩ rfl (by decide +kernel) ⟨Nat.le_of_ble_eq_true rfl, Nat.le_of_ble_eq_true rfl⟩ hl.1 rfl (Nat.le_of_ble_eq_true rfl) dX12_wrong_23 ⟨Nat.le_of_ble_eq_true rfl, Nat.le_of_ble_eq_true rfl⟩ (fun s3 H locs q3 h => ?_)
    rcases q3 with rfl
    refine lv_iload_n hx hb dX12_wrong_26 rfl (lv_at hl 1 rfl) ?_
    refine lv_aload_n hx hb dX12_wrong_27 rfl (lv_at hl 0 rfl) ?_
    refine x_getR E h (fr_mo_best g) rfl hwX12 (by decide) (by decide +kernel) dX12_wrong_28 ?_
    refine lv_aload_n hx hb dX12_wrong_31 rfl (lv_at hl 0 rfl) ?_
    refine x_getI E h (fi_mo_pieces g) rfl hwX12 (by decide) (by decide +kernel) (v := 0) rfl dX12_wrong_32 ?_
    refine x_si E h (na := 2) (As := [.ref (g.2.1 100), .int 0]) (kX12_heapsIn_2 l g _  ) gX12_wrong_X12_heapsIn rfl ⟨rfl, rfl⟩ rfl (by decide +kernel) ⟨Nat.le_of_ble_eq_true rfl, Nat.le_of_ble_eq_true rfl⟩ hl.1 rfl (Nat.le_of_ble_eq_true rfl) dX12_wrong_35 ⟨Nat.le_of_ble_eq_true rfl, Nat.le_of_ble_eq_true rfl⟩ (fun r4 s4 H locs q4 h => ?_)
    rcases q4 with ⟨rfl, rfl⟩
    refine lv_icmp_ge (tgt := 45) hx hb dX12_wrong_38 (by decide) (fun _ => ?_) (fun c38_5 => absurd trivial (fun _ => (bB_ge k1_0 c38_5)))
    refine lv_iconst (v := (-1)) hx hb dX12_wrong_45 (by decide) ?_
    exact x_iret E h (Or.inl ⟨k1_0, rfl, rfl⟩) dX12_wrong_46
  · skip
    refine lv_if_ne (tgt := 12) hx hb dX12_wrong_7 (by decide) (fun c => absurd (by decide) c) (fun _ => ?_)
    refine lv_iconst (v := (-1)) hx hb dX12_wrong_10 (by decide) ?_
    exact x_iret E h (Or.inr (⟨k1_0, rfl, rfl⟩)) dX12_wrong_11
set_option maxHeartbeats 4000000 in
set_option maxRecDepth 100000 in
theorem kX12_middle_0 (l : Launch) (g : CX) (σ : ST) (p1 : Int32) (p2 : Int32) (fI_31 : σ.1 31 = 0) : XM l g yX12_middle wsX12_middle { frames := 3, cells := 0, slots := 0, locals := 69 } [.ref (g.2.1 79), .int p1, .int p2] σ (XQi g (fun r σ' => (bB p2 0 3 = 1 ∧ bB p1 0 8 = 1 ∧ (-1) = r) ∨ (bB p2 0 3 = 1 ∧ bB p1 0 8 = 0 ∧ (-1) = r) ∨ (bB p2 0 3 = 0 ∧ (-1) = r))) := by
  refine x_met (own := RX12) (cc := cX12_middle) (maxL := 4) (ret := (some .int)) (lv := [(0, .ref (g.2.1 79)), (1, .int p1), (2, .int p2)]) (by decide) rfl rfl (Nat.le_of_ble_eq_true rfl) rfl ?_
  intro p e s m args below meth c ls E h hl
  have hx := E.1
  have hb := E.2.1
  have hown := E.2.2.2.1
  have hts := E.2.2.2.2.1
  refine lv_iload_n hx hb dX12_middle_0 rfl (lv_at hl 2 rfl) ?_
  refine lv_iconst (v := 0) hx hb dX12_middle_1 (by decide) ?_
  refine lv_iconst (v := 3) hx hb dX12_middle_2 (by decide) ?_
  refine x_si E h (na := 3) (As := [.int p2, .int 0, .int 3]) (kX12_in_0 l g _ p2 0 3) gX12_middle_X12_in rfl ⟨rfl, rfl⟩ rfl (by decide +kernel) ⟨Nat.le_of_ble_eq_true rfl, Nat.le_of_ble_eq_true rfl⟩ hl.1 rfl (Nat.le_of_ble_eq_true rfl) dX12_middle_3 ⟨Nat.le_of_ble_eq_true rfl, Nat.le_of_ble_eq_true rfl⟩ (fun r1 s1 H locs q1 h => ?_)
  rcases q1 with ⟨k1_0, rfl, rfl⟩ | ⟨k1_0, rfl, rfl⟩
  · skip
    refine lv_if_eq (tgt := 17) hx hb dX12_middle_6 (by decide) (fun c => absurd c (by decide)) (fun _ => ?_)
    refine lv_aload_n hx hb dX12_middle_9 rfl (lv_at hl 0 rfl) ?_
    refine lv_iload_n hx hb dX12_middle_10 rfl (lv_at hl 1 rfl) ?_
    refine x_vi E h (na := 1) (As := [.int p1]) (kX12_wrong_0 l g _ p1 fI_31) (oc_mo g) rfl gX12_middle_X12_wrong rfl ⟨rfl, rfl⟩ rfl (by decide +kernel) ⟨Nat.le_of_ble_eq_true rfl, Nat.le_of_ble_eq_true rfl⟩ hl.1 rfl (Nat.le_of_ble_eq_true rfl) dX12_middle_11 ⟨Nat.le_of_ble_eq_true rfl, Nat.le_of_ble_eq_true rfl⟩ (fun r2 s2 H locs q2 h => ?_)
    rcases q2 with ⟨k2_0, rfl, rfl⟩ | ⟨k2_0, rfl, rfl⟩
    · skip
      refine lv_goto (tgt := 18) hx hb dX12_middle_14 (by decide) ?_
      refine lv_istore_n (lv' := [(3, .int (-1)), (0, .ref (g.2.1 79)), (1, .int p1), (2, .int p2)]) hx hb dX12_middle_18 rfl hl (by decide) rfl (fun ls hl => ?_)
      refine lv_iload_n hx hb dX12_middle_19 rfl (lv_at hl 0 rfl) ?_
      refine lv_if_ne (tgt := 36) hx hb dX12_middle_20 (by decide) (fun _ => ?_) (fun c => absurd c (by decide))
      refine lv_iload_n hx hb dX12_middle_36 rfl (lv_at hl 0 rfl) ?_
      exact x_iret E h (Or.inl ⟨k1_0, k2_0, rfl⟩) dX12_middle_37
    · skip
      refine lv_goto (tgt := 18) hx hb dX12_middle_14 (by decide) ?_
      refine lv_istore_n (lv' := [(3, .int (-1)), (0, .ref (g.2.1 79)), (1, .int p1), (2, .int p2)]) hx hb dX12_middle_18 rfl hl (by decide) rfl (fun ls hl => ?_)
      refine lv_iload_n hx hb dX12_middle_19 rfl (lv_at hl 0 rfl) ?_
      refine lv_if_ne (tgt := 36) hx hb dX12_middle_20 (by decide) (fun _ => ?_) (fun c => absurd c (by decide))
      refine lv_iload_n hx hb dX12_middle_36 rfl (lv_at hl 0 rfl) ?_
      exact x_iret E h (Or.inr (Or.inl ⟨k1_0, k2_0, rfl⟩)) dX12_middle_37
  · skip
    refine lv_if_eq (tgt := 17) hx hb dX12_middle_6 (by decide) (fun _ => ?_) (fun c => absurd (by decide) c)
    refine lv_iconst (v := (-1)) hx hb dX12_middle_17 (by decide) ?_
    refine lv_istore_n (lv' := [(3, .int (-1)), (0, .ref (g.2.1 79)), (1, .int p1), (2, .int p2)]) hx hb dX12_middle_18 rfl hl (by decide) rfl (fun ls hl => ?_)
    refine lv_iload_n hx hb dX12_middle_19 rfl (lv_at hl 0 rfl) ?_
    refine lv_if_ne (tgt := 36) hx hb dX12_middle_20 (by decide) (fun _ => ?_) (fun c => absurd c (by decide))
    refine lv_iload_n hx hb dX12_middle_36 rfl (lv_at hl 0 rfl) ?_
    exact x_iret E h (Or.inr (Or.inr (⟨k1_0, rfl⟩))) dX12_middle_37
set_option maxHeartbeats 4000000 in
set_option maxRecDepth 100000 in
theorem kX12_twice_0 (l : Launch) (g : CX) (σ : ST) (p1 : Int32) (p2 : Int32) (fI_31 : σ.1 31 = 0) : XM l g yX12_twice wsX12_twice { frames := 2, cells := 0, slots := 0, locals := 43 } [.ref (g.2.1 79), .int p1, .int p2] σ (XQi g (fun r σ' => (bB p1 0 (-1) = 0 ∧ (-1) = r))) := by
  refine x_met (own := RX12) (cc := cX12_twice) (maxL := 13) (ret := (some .int)) (lv := [(0, .ref (g.2.1 79)), (1, .int p1), (2, .int p2)]) (by decide) rfl rfl (Nat.le_of_ble_eq_true rfl) rfl ?_
  intro p e s m args below meth c ls E h hl
  have hx := E.1
  have hb := E.2.1
  have hown := E.2.2.2.1
  have hts := E.2.2.2.2.1
  refine lv_aload_n hx hb dX12_twice_0 rfl (lv_at hl 0 rfl) ?_
  refine x_vv E h (na := 0) (As := []) (kX12_findPieces_0 l g _  fI_31) (oc_mo g) rfl gX12_twice_X12_findPieces rfl ⟨rfl, rfl⟩ rfl (by decide +kernel) ⟨Nat.le_of_ble_eq_true rfl, Nat.le_of_ble_eq_true rfl⟩ hl.1 rfl (Nat.le_of_ble_eq_true rfl) dX12_twice_1 ⟨Nat.le_of_ble_eq_true rfl, Nat.le_of_ble_eq_true rfl⟩ (fun s1 H locs q1 h => ?_)
  rcases q1 with rfl
  refine lv_aload_n hx hb dX12_twice_4 rfl (lv_at hl 0 rfl) ?_
  refine lv_iload_n hx hb dX12_twice_5 rfl (lv_at hl 1 rfl) ?_
  refine x_vi E h (na := 1) (As := [.int p1]) (kX12_isPiece_0 l g _ p1 rfl) (oc_mo g) rfl gX12_twice_X12_isPiece rfl ⟨rfl, rfl⟩ rfl (by decide +kernel) ⟨Nat.le_of_ble_eq_true rfl, Nat.le_of_ble_eq_true rfl⟩ hl.1 rfl (Nat.le_of_ble_eq_true rfl) dX12_twice_6 ⟨Nat.le_of_ble_eq_true rfl, Nat.le_of_ble_eq_true rfl⟩ (fun r2 s2 H locs q2 h => ?_)
  rcases q2 with ⟨k2_0, rfl, rfl⟩
  refine lv_if_eq (tgt := 21) hx hb dX12_twice_9 (by decide) (fun _ => ?_) (fun c => absurd (by decide) c)
  refine lv_iconst (v := (-1)) hx hb dX12_twice_21 (by decide) ?_
  exact x_iret E h ⟨k2_0, rfl⟩ dX12_twice_22
set_option maxHeartbeats 4000000 in
set_option maxRecDepth 100000 in
theorem kX12_keep_0 (l : Launch) (g : CX) (σ : ST) (p1 : Int32) (p2 : Int32) (fI_31 : σ.1 31 = 0) : XM l g yX12_keep wsX12_keep { frames := 3, cells := 0, slots := 0, locals := 69 } [.ref (g.2.1 79), .int p1, .int p2] σ (XQi g (fun r σ' => (bB p2 1 99 = 1 ∧ bB p1 0 8 = 1 ∧ (-1) = r) ∨ (bB p2 1 99 = 1 ∧ bB p1 0 8 = 0 ∧ (-1) = r) ∨ (bB p2 1 99 = 0 ∧ (-1) = r))) := by
  refine x_met (own := RX12) (cc := cX12_keep) (maxL := 5) (ret := (some .int)) (lv := [(0, .ref (g.2.1 79)), (1, .int p1), (2, .int p2)]) (by decide) rfl rfl (Nat.le_of_ble_eq_true rfl) rfl ?_
  intro p e s m args below meth c ls E h hl
  have hx := E.1
  have hb := E.2.1
  have hown := E.2.2.2.1
  have hts := E.2.2.2.2.1
  refine lv_iload_n hx hb dX12_keep_0 rfl (lv_at hl 2 rfl) ?_
  refine lv_iconst (v := 1) hx hb dX12_keep_1 (by decide) ?_
  refine lv_bipush (v := 99) hx hb dX12_keep_2 (by decide) ?_
  refine x_si E h (na := 3) (As := [.int p2, .int 1, .int 99]) (kX12_in_0 l g _ p2 1 99) gX12_keep_X12_in rfl ⟨rfl, rfl⟩ rfl (by decide +kernel) ⟨Nat.le_of_ble_eq_true rfl, Nat.le_of_ble_eq_true rfl⟩ hl.1 rfl (Nat.le_of_ble_eq_true rfl) dX12_keep_4 ⟨Nat.le_of_ble_eq_true rfl, Nat.le_of_ble_eq_true rfl⟩ (fun r1 s1 H locs q1 h => ?_)
  rcases q1 with ⟨k1_0, rfl, rfl⟩ | ⟨k1_0, rfl, rfl⟩
  · skip
    refine lv_if_eq (tgt := 18) hx hb dX12_keep_7 (by decide) (fun c => absurd c (by decide)) (fun _ => ?_)
    refine lv_aload_n hx hb dX12_keep_10 rfl (lv_at hl 0 rfl) ?_
    refine lv_iload_n hx hb dX12_keep_11 rfl (lv_at hl 1 rfl) ?_
    refine x_vi E h (na := 1) (As := [.int p1]) (kX12_wrong_0 l g _ p1 fI_31) (oc_mo g) rfl gX12_keep_X12_wrong rfl ⟨rfl, rfl⟩ rfl (by decide +kernel) ⟨Nat.le_of_ble_eq_true rfl, Nat.le_of_ble_eq_true rfl⟩ hl.1 rfl (Nat.le_of_ble_eq_true rfl) dX12_keep_12 ⟨Nat.le_of_ble_eq_true rfl, Nat.le_of_ble_eq_true rfl⟩ (fun r2 s2 H locs q2 h => ?_)
    rcases q2 with ⟨k2_0, rfl, rfl⟩ | ⟨k2_0, rfl, rfl⟩
    · skip
      refine lv_goto (tgt := 19) hx hb dX12_keep_15 (by decide) ?_
      refine lv_istore_n (lv' := [(3, .int (-1)), (0, .ref (g.2.1 79)), (1, .int p1), (2, .int p2)]) hx hb dX12_keep_19 rfl hl (by decide) rfl (fun ls hl => ?_)
      refine lv_iload_n hx hb dX12_keep_20 rfl (lv_at hl 0 rfl) ?_
      refine lv_if_eq (tgt := 26) hx hb dX12_keep_21 (by decide) (fun c => absurd c (by decide)) (fun _ => ?_)
      refine lv_iload_n hx hb dX12_keep_24 rfl (lv_at hl 0 rfl) ?_
      exact x_iret E h (Or.inl ⟨k1_0, k2_0, rfl⟩) dX12_keep_25
    · skip
      refine lv_goto (tgt := 19) hx hb dX12_keep_15 (by decide) ?_
      refine lv_istore_n (lv' := [(3, .int (-1)), (0, .ref (g.2.1 79)), (1, .int p1), (2, .int p2)]) hx hb dX12_keep_19 rfl hl (by decide) rfl (fun ls hl => ?_)
      refine lv_iload_n hx hb dX12_keep_20 rfl (lv_at hl 0 rfl) ?_
      refine lv_if_eq (tgt := 26) hx hb dX12_keep_21 (by decide) (fun c => absurd c (by decide)) (fun _ => ?_)
      refine lv_iload_n hx hb dX12_keep_24 rfl (lv_at hl 0 rfl) ?_
      exact x_iret E h (Or.inr (Or.inl ⟨k1_0, k2_0, rfl⟩)) dX12_keep_25
  · skip
    refine lv_if_eq (tgt := 18) hx hb dX12_keep_7 (by decide) (fun _ => ?_) (fun c => absurd (by decide) c)
    refine lv_iconst (v := (-1)) hx hb dX12_keep_18 (by decide) ?_
    refine lv_istore_n (lv' := [(3, .int (-1)), (0, .ref (g.2.1 79)), (1, .int p1), (2, .int p2)]) hx hb dX12_keep_19 rfl hl (by decide) rfl (fun ls hl => ?_)
    refine lv_iload_n hx hb dX12_keep_20 rfl (lv_at hl 0 rfl) ?_
    refine lv_if_eq (tgt := 26) hx hb dX12_keep_21 (by decide) (fun c => absurd c (by decide)) (fun _ => ?_)
    refine lv_iload_n hx hb dX12_keep_24 rfl (lv_at hl 0 rfl) ?_
    exact x_iret E h (Or.inr (Or.inr (⟨k1_0, rfl⟩))) dX12_keep_25
set_option maxHeartbeats 4000000 in
set_option maxRecDepth 100000 in
theorem kX12_forget_0 (l : Launch) (g : CX) (σ : ST) (p1 : Int32) (fI_40 : σ.1 40 = 0) : XM l g yX12_forget wsX12_forget { frames := 1, cells := 0, slots := 0, locals := 22 } [.ref (g.2.1 79), .int p1] σ (XQi g (fun r σ' => (bB p1 0 (-1) = 0 ∧ (-1) = r))) := by
  refine x_met (own := RX12) (cc := cX12_forget) (maxL := 5) (ret := (some .int)) (lv := [(0, .ref (g.2.1 79)), (1, .int p1)]) (by decide) rfl rfl (Nat.le_of_ble_eq_true rfl) rfl ?_
  intro p e s m args below meth c ls E h hl
  have hx := E.1
  have hb := E.2.1
  have hown := E.2.2.2.1
  have hts := E.2.2.2.2.1
  have hwX12 : ∀ w ∈ wsX120, w ∈ wsX12_forget := by decide +kernel
  refine lv_iload_n hx hb dX12_forget_0 rfl (lv_at hl 1 rfl) ?_
  refine lv_iconst (v := 0) hx hb dX12_forget_1 (by decide) ?_
  refine lv_aload_n hx hb dX12_forget_2 rfl (lv_at hl 0 rfl) ?_
  refine x_getI E h (fi_mo_kept g) rfl hwX12 (by decide) (by decide +kernel) (v := 0) fI_40 dX12_forget_3 ?_
  refine lv_iconst (v := 1) hx hb dX12_forget_6 (by decide) ?_
  refine lv_isub hx hb dX12_forget_7 ?_
  refine x_topI (v2 := (-1)) (by decide) ?_
  refine x_si E h (na := 3) (As := [.int p1, .int 0, .int (-1)]) (kX12_in_0 l g _ p1 0 (-1)) gX12_forget_X12_in rfl ⟨rfl, rfl⟩ rfl (by decide +kernel) ⟨Nat.le_of_ble_eq_true rfl, Nat.le_of_ble_eq_true rfl⟩ hl.1 rfl (Nat.le_of_ble_eq_true rfl) dX12_forget_8 ⟨Nat.le_of_ble_eq_true rfl, Nat.le_of_ble_eq_true rfl⟩ (fun r1 s1 H locs q1 h => ?_)
  rcases q1 with ⟨k1_0, rfl, rfl⟩ | ⟨k1_0, rfl, rfl⟩
  · exact absurd trivial (fun _ => (bB_n1 k1_0))
  refine lv_if_ne (tgt := 16) hx hb dX12_forget_11 (by decide) (fun c => absurd (by decide) c) (fun _ => ?_)
  refine lv_iconst (v := (-1)) hx hb dX12_forget_14 (by decide) ?_
  exact x_iret E h ⟨k1_0, rfl⟩ dX12_forget_15
set_option maxHeartbeats 4000000 in
set_option maxRecDepth 100000 in
theorem kX12_back_0 (l : Launch) (g : CX) (σ : ST) (p1 : Int32) (p2 : Int32) (fI_31 : σ.1 31 = 0) : XM l g yX12_back wsX12_back { frames := 3, cells := 0, slots := 0, locals := 69 } [.ref (g.2.1 79), .int p1, .int p2] σ (XQi g (fun r σ' => (bB p2 0 1 = 1 ∧ bB p1 0 8 = 1 ∧ (-1) = r) ∨ (bB p2 0 1 = 1 ∧ bB p1 0 8 = 0 ∧ (-1) = r) ∨ (bB p2 0 1 = 0 ∧ (-1) = r))) := by
  refine x_met (own := RX12) (cc := cX12_back) (maxL := 9) (ret := (some .int)) (lv := [(0, .ref (g.2.1 79)), (1, .int p1), (2, .int p2)]) (by decide) rfl rfl (Nat.le_of_ble_eq_true rfl) rfl ?_
  intro p e s m args below meth c ls E h hl
  have hx := E.1
  have hb := E.2.1
  have hown := E.2.2.2.1
  have hts := E.2.2.2.2.1
  refine lv_iload_n hx hb dX12_back_0 rfl (lv_at hl 2 rfl) ?_
  refine lv_iconst (v := 0) hx hb dX12_back_1 (by decide) ?_
  refine lv_iconst (v := 1) hx hb dX12_back_2 (by decide) ?_
  refine x_si E h (na := 3) (As := [.int p2, .int 0, .int 1]) (kX12_in_0 l g _ p2 0 1) gX12_back_X12_in rfl ⟨rfl, rfl⟩ rfl (by decide +kernel) ⟨Nat.le_of_ble_eq_true rfl, Nat.le_of_ble_eq_true rfl⟩ hl.1 rfl (Nat.le_of_ble_eq_true rfl) dX12_back_3 ⟨Nat.le_of_ble_eq_true rfl, Nat.le_of_ble_eq_true rfl⟩ (fun r1 s1 H locs q1 h => ?_)
  rcases q1 with ⟨k1_0, rfl, rfl⟩ | ⟨k1_0, rfl, rfl⟩
  · skip
    refine lv_if_eq (tgt := 17) hx hb dX12_back_6 (by decide) (fun c => absurd c (by decide)) (fun _ => ?_)
    refine lv_aload_n hx hb dX12_back_9 rfl (lv_at hl 0 rfl) ?_
    refine lv_iload_n hx hb dX12_back_10 rfl (lv_at hl 1 rfl) ?_
    refine x_vi E h (na := 1) (As := [.int p1]) (kX12_wrong_0 l g _ p1 fI_31) (oc_mo g) rfl gX12_back_X12_wrong rfl ⟨rfl, rfl⟩ rfl (by decide +kernel) ⟨Nat.le_of_ble_eq_true rfl, Nat.le_of_ble_eq_true rfl⟩ hl.1 rfl (Nat.le_of_ble_eq_true rfl) dX12_back_11 ⟨Nat.le_of_ble_eq_true rfl, Nat.le_of_ble_eq_true rfl⟩ (fun r2 s2 H locs q2 h => ?_)
    rcases q2 with ⟨k2_0, rfl, rfl⟩ | ⟨k2_0, rfl, rfl⟩
    · skip
      refine lv_goto (tgt := 18) hx hb dX12_back_14 (by decide) ?_
      refine lv_istore_n (lv' := [(3, .int (-1)), (0, .ref (g.2.1 79)), (1, .int p1), (2, .int p2)]) hx hb dX12_back_18 rfl hl (by decide) rfl (fun ls hl => ?_)
      refine lv_iload_n hx hb dX12_back_19 rfl (lv_at hl 0 rfl) ?_
      refine lv_if_eq (tgt := 25) hx hb dX12_back_20 (by decide) (fun c => absurd c (by decide)) (fun _ => ?_)
      refine lv_iload_n hx hb dX12_back_23 rfl (lv_at hl 0 rfl) ?_
      exact x_iret E h (Or.inl ⟨k1_0, k2_0, rfl⟩) dX12_back_24
    · skip
      refine lv_goto (tgt := 18) hx hb dX12_back_14 (by decide) ?_
      refine lv_istore_n (lv' := [(3, .int (-1)), (0, .ref (g.2.1 79)), (1, .int p1), (2, .int p2)]) hx hb dX12_back_18 rfl hl (by decide) rfl (fun ls hl => ?_)
      refine lv_iload_n hx hb dX12_back_19 rfl (lv_at hl 0 rfl) ?_
      refine lv_if_eq (tgt := 25) hx hb dX12_back_20 (by decide) (fun c => absurd c (by decide)) (fun _ => ?_)
      refine lv_iload_n hx hb dX12_back_23 rfl (lv_at hl 0 rfl) ?_
      exact x_iret E h (Or.inr (Or.inl ⟨k1_0, k2_0, rfl⟩)) dX12_back_24
  · skip
    refine lv_if_eq (tgt := 17) hx hb dX12_back_6 (by decide) (fun _ => ?_) (fun c => absurd (by decide) c)
    refine lv_iconst (v := (-1)) hx hb dX12_back_17 (by decide) ?_
    refine lv_istore_n (lv' := [(3, .int (-1)), (0, .ref (g.2.1 79)), (1, .int p1), (2, .int p2)]) hx hb dX12_back_18 rfl hl (by decide) rfl (fun ls hl => ?_)
    refine lv_iload_n hx hb dX12_back_19 rfl (lv_at hl 0 rfl) ?_
    refine lv_if_eq (tgt := 25) hx hb dX12_back_20 (by decide) (fun c => absurd c (by decide)) (fun _ => ?_)
    refine lv_iload_n hx hb dX12_back_23 rfl (lv_at hl 0 rfl) ?_
    exact x_iret E h (Or.inr (Or.inr (⟨k1_0, rfl⟩))) dX12_back_24
set_option maxHeartbeats 4000000 in
set_option maxRecDepth 100000 in
theorem kX12_odds_0 (l : Launch) (g : CX) (σ : ST) (p1 : Int32) (p2 : Int32) (p3 : Int32) (fI_40 : σ.1 40 = 0) : XM l g yX12_odds wsX12_odds { frames := 1, cells := 0, slots := 0, locals := 22 } [.ref (g.2.1 79), .int p1, .int p2, .int p3] σ (XQi g (fun r σ' => (bB p2 0 (-1) = 0 ∧ (-1) = r))) := by
  refine x_met (own := RX12) (cc := cX12_odds) (maxL := 9) (ret := (some .int)) (lv := [(0, .ref (g.2.1 79)), (1, .int p1), (2, .int p2), (3, .int p3)]) (by decide) rfl rfl (Nat.le_of_ble_eq_true rfl) rfl ?_
  intro p e s m args below meth c ls E h hl
  have hx := E.1
  have hb := E.2.1
  have hown := E.2.2.2.1
  have hts := E.2.2.2.2.1
  have hwX12 : ∀ w ∈ wsX120, w ∈ wsX12_odds := by decide +kernel
  refine lv_iload_n hx hb dX12_odds_0 rfl (lv_at hl 2 rfl) ?_
  refine lv_iconst (v := 0) hx hb dX12_odds_1 (by decide) ?_
  refine lv_aload_n hx hb dX12_odds_2 rfl (lv_at hl 0 rfl) ?_
  refine x_getI E h (fi_mo_kept g) rfl hwX12 (by decide) (by decide +kernel) (v := 0) fI_40 dX12_odds_3 ?_
  refine lv_iconst (v := 1) hx hb dX12_odds_6 (by decide) ?_
  refine lv_isub hx hb dX12_odds_7 ?_
  refine x_topI (v2 := (-1)) (by decide) ?_
  refine x_si E h (na := 3) (As := [.int p2, .int 0, .int (-1)]) (kX12_in_0 l g _ p2 0 (-1)) gX12_odds_X12_in rfl ⟨rfl, rfl⟩ rfl (by decide +kernel) ⟨Nat.le_of_ble_eq_true rfl, Nat.le_of_ble_eq_true rfl⟩ hl.1 rfl (Nat.le_of_ble_eq_true rfl) dX12_odds_8 ⟨Nat.le_of_ble_eq_true rfl, Nat.le_of_ble_eq_true rfl⟩ (fun r1 s1 H locs q1 h => ?_)
  rcases q1 with ⟨k1_0, rfl, rfl⟩ | ⟨k1_0, rfl, rfl⟩
  · exact absurd trivial (fun _ => (bB_n1 k1_0))
  refine lv_if_eq (tgt := 31) hx hb dX12_odds_11 (by decide) (fun _ => ?_) (fun c => absurd (by decide) c)
  refine lv_iconst (v := (-1)) hx hb dX12_odds_31 (by decide) ?_
  refine lv_istore (lv' := [(4, .int (-1)), (0, .ref (g.2.1 79)), (1, .int p1), (2, .int p2), (3, .int p3)]) hx hb dX12_odds_32 hl (by decide) rfl (fun ls hl => ?_)
  refine lv_iload hx hb dX12_odds_34 (lv_at hl 0 rfl) ?_
  refine lv_if_eq (tgt := 42) hx hb dX12_odds_36 (by decide) (fun c => absurd c (by decide)) (fun _ => ?_)
  refine lv_iload hx hb dX12_odds_39 (lv_at hl 0 rfl) ?_
  exact x_iret E h ⟨k1_0, rfl⟩ dX12_odds_41
set_option maxHeartbeats 4000000 in
set_option maxRecDepth 100000 in
theorem kX12_show_0 (l : Launch) (g : CX) (σ : ST) (fI_31 : σ.1 31 = 0) : XM l g yX12_show wsX12_show { frames := 2, cells := 0, slots := 0, locals := 48 } [.ref (g.2.1 79)] σ (XQi g (fun r σ' => (0 = r))) := by
  refine x_met (own := RX12) (cc := cX12_show) (maxL := 2) (ret := (some .int)) (lv := [(0, .ref (g.2.1 79))]) (by decide) rfl rfl (Nat.le_of_ble_eq_true rfl) rfl ?_
  intro p e s m args below meth c ls E h hl
  have hx := E.1
  have hb := E.2.1
  have hown := E.2.2.2.1
  have hts := E.2.2.2.2.1
  have hwX12 : ∀ w ∈ wsX120, w ∈ wsX12_show := by decide +kernel
  refine lv_aload_n hx hb dX12_show_0 rfl (lv_at hl 0 rfl) ?_
  refine x_vi E h (na := 0) (As := []) (kX12_findBest_0 l g _  fI_31) (oc_mo g) rfl gX12_show_X12_findBest rfl ⟨rfl, rfl⟩ rfl (by decide +kernel) ⟨Nat.le_of_ble_eq_true rfl, Nat.le_of_ble_eq_true rfl⟩ hl.1 rfl (Nat.le_of_ble_eq_true rfl) dX12_show_1 ⟨Nat.le_of_ble_eq_true rfl, Nat.le_of_ble_eq_true rfl⟩ (fun r1 s1 H locs q1 h => ?_)
  rcases q1 with ⟨rfl, rfl⟩
  refine lv_if_ne (tgt := 10) hx hb dX12_show_4 (by decide) (fun _ => ?_) (fun c => absurd c (by decide))
  refine lv_iconst (v := 0) hx hb dX12_show_10 (by decide) ?_
  refine lv_istore_n (lv' := [(1, .int 0), (0, .ref (g.2.1 79))]) hx hb dX12_show_11 rfl hl (by decide) rfl (fun ls hl => ?_)
  refine lv_iload_n hx hb dX12_show_12 rfl (lv_at hl 0 rfl) ?_
  refine lv_aload_n hx hb dX12_show_13 rfl (lv_at hl 1 rfl) ?_
  refine x_getI E h (fi_mo_rows g) rfl hwX12 (by decide) (by decide +kernel) (v := 0) fI_31 dX12_show_14 ?_
  refine lv_icmp_ge (tgt := 37) hx hb dX12_show_17 (by decide) (fun _ => ?_) (fun c => absurd (by decide) c)
  refine lv_aload_n hx hb dX12_show_37 rfl (lv_at hl 1 rfl) ?_
  refine lv_aload_n hx hb dX12_show_38 rfl (lv_at hl 1 rfl) ?_
  refine x_getI E h (fi_mo_rows g) rfl hwX12 (by decide) (by decide +kernel) (v := 0) fI_31 dX12_show_39 ?_
  refine x_putI E h (ty := .int) (v := 0) (fi_mo_shown g) rfl hwX12 tyX12_ok nmX12 (by decide) (by decide +kernel) (by decide +kernel) (by decide +kernel) rfl rfl dX12_show_42 (fun H locs h => ?_)
  refine lv_aload_n hx hb dX12_show_45 rfl (lv_at hl 1 rfl) ?_
  refine lv_iconst (v := 1) hx hb dX12_show_46 (by decide) ?_
  refine x_putI E h (ty := .boolean) (v := 1) (fi_mo_isShown g) rfl hwX12 tyX12_ok nmX12 (by decide) (by decide +kernel) (by decide +kernel) (by decide +kernel) rfl rfl dX12_show_47 (fun H locs h => ?_)
  refine lv_aload_n hx hb dX12_show_50 rfl (lv_at hl 1 rfl) ?_
  refine x_getI E h (fi_mo_rows g) rfl hwX12 (by decide) (by decide +kernel) (v := 0) fI_31 dX12_show_51 ?_
  exact x_iret E h rfl dX12_show_54
set_option maxHeartbeats 4000000 in
set_option maxRecDepth 100000 in
theorem kX12_otherwise_0 (l : Launch) (g : CX) (σ : ST) (fI_34 : σ.1 34 = 0) : XM l g yX12_otherwise wsX12_otherwise { frames := 0, cells := 0, slots := 0, locals := 0 } [.ref (g.2.1 79)] σ (XQi g (fun r σ' => ((-2) = r))) := by
  refine x_met (own := RX12) (cc := cX12_otherwise) (maxL := 3) (ret := (some .int)) (lv := [(0, .ref (g.2.1 79))]) (by decide) rfl rfl (Nat.le_of_ble_eq_true rfl) rfl ?_
  intro p e s m args below meth c ls E h hl
  have hx := E.1
  have hb := E.2.1
  have hown := E.2.2.2.1
  have hts := E.2.2.2.2.1
  have hwX12 : ∀ w ∈ wsX120, w ∈ wsX12_otherwise := by decide +kernel
  refine lv_aload_n hx hb dX12_otherwise_0 rfl (lv_at hl 0 rfl) ?_
  refine x_getI E h (fi_mo_isShown g) rfl hwX12 (by decide) (by decide +kernel) (v := 0) fI_34 dX12_otherwise_1 ?_
  refine lv_if_eq (tgt := 14) hx hb dX12_otherwise_4 (by decide) (fun _ => ?_) (fun c => absurd (by decide) c)
  refine lv_bipush (v := (-2)) hx hb dX12_otherwise_14 (by decide) ?_
  exact x_iret E h rfl dX12_otherwise_16
set_option maxHeartbeats 4000000 in
set_option maxRecDepth 100000 in
theorem kX12_word_0 (l : Launch) (g : CX) (σ : ST) (p1 : Int32) (p2 : Int32) (fI_31 : σ.1 31 = 0) : XM l g yX12_word wsX12_word { frames := 3, cells := 0, slots := 0, locals := 65 } [.ref (g.2.1 79), .int p1, .int p2] σ (XQi g (fun r σ' => (bB p1 0 (-1) = 0 ∧ (-1) = r))) := by
  refine x_met (own := RX12) (cc := cX12_word) (maxL := 3) (ret := (some .int)) (lv := [(0, .ref (g.2.1 79)), (1, .int p1), (2, .int p2)]) (by decide) rfl rfl (Nat.le_of_ble_eq_true rfl) rfl ?_
  intro p e s m args below meth c ls E h hl
  have hx := E.1
  have hb := E.2.1
  have hown := E.2.2.2.1
  have hts := E.2.2.2.2.1
  refine lv_aload_n hx hb dX12_word_0 rfl (lv_at hl 0 rfl) ?_
  refine lv_iload_n hx hb dX12_word_1 rfl (lv_at hl 1 rfl) ?_
  refine lv_iload_n hx hb dX12_word_2 rfl (lv_at hl 2 rfl) ?_
  refine x_vi E h (na := 2) (As := [.int p1, .int p2]) (kX12_areRows_0 l g _ p1 p2 fI_31) (oc_mo g) rfl gX12_word_X12_areRows rfl ⟨rfl, rfl⟩ rfl (by decide +kernel) ⟨Nat.le_of_ble_eq_true rfl, Nat.le_of_ble_eq_true rfl⟩ hl.1 rfl (Nat.le_of_ble_eq_true rfl) dX12_word_3 ⟨Nat.le_of_ble_eq_true rfl, Nat.le_of_ble_eq_true rfl⟩ (fun r1 s1 H locs q1 h => ?_)
  rcases q1 with ⟨k1_0, rfl, rfl⟩
  refine lv_if_ne (tgt := 11) hx hb dX12_word_6 (by decide) (fun c => absurd (by decide) c) (fun _ => ?_)
  refine lv_iconst (v := (-1)) hx hb dX12_word_9 (by decide) ?_
  exact x_iret E h ⟨k1_0, rfl⟩ dX12_word_10
set_option maxHeartbeats 4000000 in
set_option maxRecDepth 100000 in
theorem kX12_hung_0 (l : Launch) (g : CX) (σ : ST) (p1 : Int32) (p2 : Int32) (fI_32 : σ.1 32 = 0) : XM l g yX12_hung wsX12_hung { frames := 1, cells := 0, slots := 0, locals := 22 } [.ref (g.2.1 79), .int p1, .int p2] σ (XQi g (fun r σ' => (bB p1 0 (-1) = 0 ∧ (-1) = r))) := by
  refine x_met (own := RX12) (cc := cX12_hung) (maxL := 9) (ret := (some .int)) (lv := [(0, .ref (g.2.1 79)), (1, .int p1), (2, .int p2)]) (by decide) rfl rfl (Nat.le_of_ble_eq_true rfl) rfl ?_
  intro p e s m args below meth c ls E h hl
  have hx := E.1
  have hb := E.2.1
  have hown := E.2.2.2.1
  have hts := E.2.2.2.2.1
  have hwX12 : ∀ w ∈ wsX120, w ∈ wsX12_hung := by decide +kernel
  refine lv_iload_n hx hb dX12_hung_0 rfl (lv_at hl 1 rfl) ?_
  refine lv_iconst (v := 0) hx hb dX12_hung_1 (by decide) ?_
  refine lv_aload_n hx hb dX12_hung_2 rfl (lv_at hl 0 rfl) ?_
  refine x_getI E h (fi_mo_words g) rfl hwX12 (by decide) (by decide +kernel) (v := 0) fI_32 dX12_hung_3 ?_
  refine lv_iconst (v := 1) hx hb dX12_hung_6 (by decide) ?_
  refine lv_isub hx hb dX12_hung_7 ?_
  refine x_topI (v2 := (-1)) (by decide) ?_
  refine x_si E h (na := 3) (As := [.int p1, .int 0, .int (-1)]) (kX12_in_0 l g _ p1 0 (-1)) gX12_hung_X12_in rfl ⟨rfl, rfl⟩ rfl (by decide +kernel) ⟨Nat.le_of_ble_eq_true rfl, Nat.le_of_ble_eq_true rfl⟩ hl.1 rfl (Nat.le_of_ble_eq_true rfl) dX12_hung_8 ⟨Nat.le_of_ble_eq_true rfl, Nat.le_of_ble_eq_true rfl⟩ (fun r1 s1 H locs q1 h => ?_)
  rcases q1 with ⟨k1_0, rfl, rfl⟩ | ⟨k1_0, rfl, rfl⟩
  · exact absurd trivial (fun _ => (bB_n1 k1_0))
  refine lv_if_eq (tgt := 23) hx hb dX12_hung_11 (by decide) (fun _ => ?_) (fun c => absurd (by decide) c)
  refine lv_iconst (v := (-1)) hx hb dX12_hung_23 (by decide) ?_
  exact x_iret E h ⟨k1_0, rfl⟩ dX12_hung_24
set_option maxHeartbeats 4000000 in
set_option maxRecDepth 100000 in
theorem kX12_truth_0 (l : Launch) (g : CX) (σ : ST) (p1 : Int32) (p2 : Int32) (p3 : Int32) (fI_31 : σ.1 31 = 0) : XM l g yX12_truth wsX12_truth { frames := 3, cells := 0, slots := 0, locals := 65 } [.ref (g.2.1 79), .int p1, .int p2, .int p3] σ (XQi g (fun r σ' => (bB p1 0 (-1) = 0 ∧ (-1) = r))) := by
  refine x_met (own := RX12) (cc := cX12_truth) (maxL := 6) (ret := (some .int)) (lv := [(0, .ref (g.2.1 79)), (1, .int p1), (2, .int p2), (3, .int p3)]) (by decide) rfl rfl (Nat.le_of_ble_eq_true rfl) rfl ?_
  intro p e s m args below meth c ls E h hl
  have hx := E.1
  have hb := E.2.1
  have hown := E.2.2.2.1
  have hts := E.2.2.2.2.1
  refine lv_aload_n hx hb dX12_truth_0 rfl (lv_at hl 0 rfl) ?_
  refine lv_iload_n hx hb dX12_truth_1 rfl (lv_at hl 1 rfl) ?_
  refine lv_iload_n hx hb dX12_truth_2 rfl (lv_at hl 2 rfl) ?_
  refine x_vi E h (na := 2) (As := [.int p1, .int p2]) (kX12_areRows_0 l g _ p1 p2 fI_31) (oc_mo g) rfl gX12_truth_X12_areRows rfl ⟨rfl, rfl⟩ rfl (by decide +kernel) ⟨Nat.le_of_ble_eq_true rfl, Nat.le_of_ble_eq_true rfl⟩ hl.1 rfl (Nat.le_of_ble_eq_true rfl) dX12_truth_3 ⟨Nat.le_of_ble_eq_true rfl, Nat.le_of_ble_eq_true rfl⟩ (fun r1 s1 H locs q1 h => ?_)
  rcases q1 with ⟨k1_0, rfl, rfl⟩
  refine lv_if_eq (tgt := 18) hx hb dX12_truth_6 (by decide) (fun _ => ?_) (fun c => absurd (by decide) c)
  refine lv_iconst (v := (-1)) hx hb dX12_truth_18 (by decide) ?_
  exact x_iret E h ⟨k1_0, rfl⟩ dX12_truth_19
set_option maxHeartbeats 4000000 in
set_option maxRecDepth 100000 in
theorem kX12_mostRight_0 (l : Launch) (g : CX) (σ : ST) (fI_31 : σ.1 31 = 0) : XM l g yX12_mostRight wsX12_mostRight { frames := 0, cells := 0, slots := 0, locals := 0 } [.ref (g.2.1 79)] σ (XQi g (fun r σ' => (0 = r))) := by
  refine x_met (own := RX12) (cc := cX12_mostRight) (maxL := 6) (ret := (some .int)) (lv := [(0, .ref (g.2.1 79))]) (by decide) rfl rfl (Nat.le_of_ble_eq_true rfl) rfl ?_
  intro p e s m args below meth c ls E h hl
  have hx := E.1
  have hb := E.2.1
  have hown := E.2.2.2.1
  have hts := E.2.2.2.2.1
  have hwX12 : ∀ w ∈ wsX120, w ∈ wsX12_mostRight := by decide +kernel
  refine lv_iconst (v := 0) hx hb dX12_mostRight_0 (by decide) ?_
  refine lv_istore_n (lv' := [(1, .int 0), (0, .ref (g.2.1 79))]) hx hb dX12_mostRight_1 rfl hl (by decide) rfl (fun ls hl => ?_)
  have loop2 : ∀ (fu : Nat) (ip : Nat) (fp : Nat → Int32) (hip : ip ≤ 54) (hfp : ∀ j, j < ip → fp j = 0), 54 - ip < fu → ∀ (H : Heap) (locs : List Loc) (ls : Array Slot), HW g (sA σ 93 fp) s H locs → lv_has ls 6 [(1, .int (nI ip)), (0, .ref (g.2.1 79))] → W p l e { frames := 0, cells := 0, slots := 0, locals := 0 } s m args below meth c H locs 0 0 (MQ below (XQi g (fun r σ' => (0 = r))) args s 0 0 (Aw g)) (F0 m 2 ls []) := by
    intro fu
    induction fu with
    | zero => intro ip fp hip hfp hm; exact absurd hm (Nat.not_lt_zero _)
    | succ fu ih =>
      have iloop2 := ih
      clear ih
      intro ip fp hip hfp hmloop2 H locs ls h hl
      refine lv_iload_n hx hb dX12_mostRight_2 rfl (lv_at hl 0 rfl) ?_
      refine lv_bipush (v := 54) hx hb dX12_mostRight_3 (by decide) ?_
      refine lv_icmp_ge (tgt := 21) hx hb dX12_mostRight_5 (by decide) (fun c5_1 => ?_) (fun c5_1 => ?_)
      · skip
        have hzfp : ∀ j, j < 54 → fp j = 0 := x_all rfl (by decide) hip c5_1 hfp
        refine lv_iconst (v := 0) hx hb dX12_mostRight_21 (by decide) ?_
        refine lv_istore_n (lv' := [(1, .int 0), (0, .ref (g.2.1 79))]) hx hb dX12_mostRight_22 rfl hl (by decide) rfl (fun ls hl => ?_)
        refine lv_iload_n hx hb dX12_mostRight_23 rfl (lv_at hl 0 rfl) ?_
        refine lv_aload_n hx hb dX12_mostRight_24 rfl (lv_at hl 1 rfl) ?_
        refine x_getI E h (fi_mo_rows g) rfl hwX12 (by decide) (by decide +kernel) (v := 0) fI_31 dX12_mostRight_25 ?_
        refine lv_icmp_ge (tgt := 81) hx hb dX12_mostRight_28 (by decide) (fun _ => ?_) (fun c => absurd (by decide) c)
        refine lv_iconst (v := 0) hx hb dX12_mostRight_81 (by decide) ?_
        refine lv_istore_n (lv' := [(1, .int 0), (0, .ref (g.2.1 79))]) hx hb dX12_mostRight_82 rfl hl (by decide) rfl (fun ls hl => ?_)
        have loop83 : ∀ (fu : Nat) (iq : Nat) (f0 : Nat → Int32) (hiq : iq ≤ 512) (hf0 : ∀ j, j < iq → f0 j = 0), 512 - iq < fu → ∀ (H : Heap) (locs : List Loc) (ls : Array Slot), HW g (sA (sA σ 93 fp) 92 f0) s H locs → lv_has ls 6 [(1, .int (nI iq)), (0, .ref (g.2.1 79))] → W p l e { frames := 0, cells := 0, slots := 0, locals := 0 } s m args below meth c H locs 0 0 (MQ below (XQi g (fun r σ' => (0 = r))) args s 0 0 (Aw g)) (F0 m 83 ls []) := by
          intro fu
          induction fu with
          | zero => intro iq f0 hiq hf0 hm; exact absurd hm (Nat.not_lt_zero _)
          | succ fu ih =>
            have iloop83 := ih
            clear ih
            intro iq f0 hiq hf0 hmloop83 H locs ls h hl
            refine lv_iload_n hx hb dX12_mostRight_83 rfl (lv_at hl 0 rfl) ?_
            refine lv_sipush (v := 512) hx hb dX12_mostRight_84 (by decide) ?_
            refine lv_icmp_ge (tgt := 103) hx hb dX12_mostRight_87 (by decide) (fun c87_2 => ?_) (fun c87_2 => ?_)
            · skip
              have hzf0 : ∀ j, j < 512 → f0 j = 0 := x_all rfl (by decide) hiq c87_2 hf0
              refine lv_iconst (v := 1) hx hb dX12_mostRight_103 (by decide) ?_
              refine lv_istore_n (lv' := [(1, .int 1), (0, .ref (g.2.1 79))]) hx hb dX12_mostRight_104 rfl hl (by decide) rfl (fun ls hl => ?_)
              refine lv_iload_n hx hb dX12_mostRight_105 rfl (lv_at hl 0 rfl) ?_
              refine lv_bipush (v := 6) hx hb dX12_mostRight_106 (by decide) ?_
              refine lv_icmp_ge (tgt := 239) hx hb dX12_mostRight_108 (by decide) (fun c => absurd c (by decide)) (fun _ => ?_)
              refine lv_iconst (v := 0) hx hb dX12_mostRight_111 (by decide) ?_
              refine lv_istore_n (lv' := [(2, .int 0), (1, .int 1), (0, .ref (g.2.1 79))]) hx hb dX12_mostRight_112 rfl hl (by decide) rfl (fun ls hl => ?_)
              have loop113_1 : ∀ (fu : Nat) (i1 : Nat) (f1 : Nat → Int32) (hi1 : i1 ≤ 512) (hf1 : ∀ j, j < 512 + i1 → f1 j = 0), 512 - i1 < fu → ∀ (H : Heap) (locs : List Loc) (ls : Array Slot), HW g (sA (sA (sA σ 93 fp) 92 f0) 92 f1) s H locs → lv_has ls 6 [(2, .int (nI i1)), (1, .int 1), (0, .ref (g.2.1 79))] → W p l e { frames := 0, cells := 0, slots := 0, locals := 0 } s m args below meth c H locs 0 0 (MQ below (XQi g (fun r σ' => (0 = r))) args s 0 0 (Aw g)) (F0 m 113 ls []) := by
                intro fu
                induction fu with
                | zero => intro i1 f1 hi1 hf1 hm; exact absurd hm (Nat.not_lt_zero _)
                | succ fu ih =>
                  have iloop113_1 := ih
                  clear ih
                  intro i1 f1 hi1 hf1 hmloop113_1 H locs ls h hl
                  refine lv_iload_n hx hb dX12_mostRight_113 rfl (lv_at hl 0 rfl) ?_
                  refine lv_sipush (v := 512) hx hb dX12_mostRight_114 (by decide) ?_
                  refine lv_icmp_ge (tgt := 233) hx hb dX12_mostRight_117 (by decide) (fun c117_3 => ?_) (fun c117_3 => ?_)
                  · skip
                    have hzf1 : ∀ j, j < 1024 → f1 j = 0 := fun j hj => hf1 j (by have := x_eqn (n := 512) rfl (by decide) hi1 c117_3; omega)
                    refine lv_iinc (v := 2) (lv' := [(1, .int 2), (2, .int (nI i1)), (0, .ref (g.2.1 79))]) hx hb dX12_mostRight_233 hl (k := 1) rfl (by decide) (by decide) rfl (fun ls hl => ?_)
                    refine lv_goto (tgt := 105) hx hb dX12_mostRight_236 (by decide) ?_
                    refine lv_iload_n hx hb dX12_mostRight_105 rfl (lv_at hl 0 rfl) ?_
                    refine lv_bipush (v := 6) hx hb dX12_mostRight_106 (by decide) ?_
                    refine lv_icmp_ge (tgt := 239) hx hb dX12_mostRight_108 (by decide) (fun c => absurd c (by decide)) (fun _ => ?_)
                    refine lv_iconst (v := 0) hx hb dX12_mostRight_111 (by decide) ?_
                    refine lv_istore_n (lv' := [(2, .int 0), (1, .int 2), (0, .ref (g.2.1 79))]) hx hb dX12_mostRight_112 rfl hl (by decide) rfl (fun ls hl => ?_)
                    have loop113_2 : ∀ (fu : Nat) (i2 : Nat) (f2 : Nat → Int32) (hi2 : i2 ≤ 512) (hf2 : ∀ j, j < 1024 + i2 → f2 j = 0), 512 - i2 < fu → ∀ (H : Heap) (locs : List Loc) (ls : Array Slot), HW g (sA (sA (sA (sA σ 93 fp) 92 f0) 92 f1) 92 f2) s H locs → lv_has ls 6 [(2, .int (nI i2)), (1, .int 2), (0, .ref (g.2.1 79))] → W p l e { frames := 0, cells := 0, slots := 0, locals := 0 } s m args below meth c H locs 0 0 (MQ below (XQi g (fun r σ' => (0 = r))) args s 0 0 (Aw g)) (F0 m 113 ls []) := by
                      intro fu
                      induction fu with
                      | zero => intro i2 f2 hi2 hf2 hm; exact absurd hm (Nat.not_lt_zero _)
                      | succ fu ih =>
                        have iloop113_2 := ih
                        clear ih
                        intro i2 f2 hi2 hf2 hmloop113_2 H locs ls h hl
                        refine lv_iload_n hx hb dX12_mostRight_113 rfl (lv_at hl 0 rfl) ?_
                        refine lv_sipush (v := 512) hx hb dX12_mostRight_114 (by decide) ?_
                        refine lv_icmp_ge (tgt := 233) hx hb dX12_mostRight_117 (by decide) (fun c117_4 => ?_) (fun c117_4 => ?_)
                        · skip
                          have hzf2 : ∀ j, j < 1536 → f2 j = 0 := fun j hj => hf2 j (by have := x_eqn (n := 512) rfl (by decide) hi2 c117_4; omega)
                          refine lv_iinc (v := 3) (lv' := [(1, .int 3), (2, .int (nI i2)), (0, .ref (g.2.1 79))]) hx hb dX12_mostRight_233 hl (k := 1) rfl (by decide) (by decide) rfl (fun ls hl => ?_)
                          refine lv_goto (tgt := 105) hx hb dX12_mostRight_236 (by decide) ?_
                          refine lv_iload_n hx hb dX12_mostRight_105 rfl (lv_at hl 0 rfl) ?_
                          refine lv_bipush (v := 6) hx hb dX12_mostRight_106 (by decide) ?_
                          refine lv_icmp_ge (tgt := 239) hx hb dX12_mostRight_108 (by decide) (fun c => absurd c (by decide)) (fun _ => ?_)
                          refine lv_iconst (v := 0) hx hb dX12_mostRight_111 (by decide) ?_
                          refine lv_istore_n (lv' := [(2, .int 0), (1, .int 3), (0, .ref (g.2.1 79))]) hx hb dX12_mostRight_112 rfl hl (by decide) rfl (fun ls hl => ?_)
                          have loop113_3 : ∀ (fu : Nat) (i3 : Nat) (f3 : Nat → Int32) (hi3 : i3 ≤ 512) (hf3 : ∀ j, j < 1536 + i3 → f3 j = 0), 512 - i3 < fu → ∀ (H : Heap) (locs : List Loc) (ls : Array Slot), HW g (sA (sA (sA (sA (sA σ 93 fp) 92 f0) 92 f1) 92 f2) 92 f3) s H locs → lv_has ls 6 [(2, .int (nI i3)), (1, .int 3), (0, .ref (g.2.1 79))] → W p l e { frames := 0, cells := 0, slots := 0, locals := 0 } s m args below meth c H locs 0 0 (MQ below (XQi g (fun r σ' => (0 = r))) args s 0 0 (Aw g)) (F0 m 113 ls []) := by
                            intro fu
                            induction fu with
                            | zero => intro i3 f3 hi3 hf3 hm; exact absurd hm (Nat.not_lt_zero _)
                            | succ fu ih =>
                              have iloop113_3 := ih
                              clear ih
                              intro i3 f3 hi3 hf3 hmloop113_3 H locs ls h hl
                              refine lv_iload_n hx hb dX12_mostRight_113 rfl (lv_at hl 0 rfl) ?_
                              refine lv_sipush (v := 512) hx hb dX12_mostRight_114 (by decide) ?_
                              refine lv_icmp_ge (tgt := 233) hx hb dX12_mostRight_117 (by decide) (fun c117_5 => ?_) (fun c117_5 => ?_)
                              · skip
                                have hzf3 : ∀ j, j < 2048 → f3 j = 0 := fun j hj => hf3 j (by have := x_eqn (n := 512) rfl (by decide) hi3 c117_5; omega)
                                refine lv_iinc (v := 4) (lv' := [(1, .int 4), (2, .int (nI i3)), (0, .ref (g.2.1 79))]) hx hb dX12_mostRight_233 hl (k := 1) rfl (by decide) (by decide) rfl (fun ls hl => ?_)
                                refine lv_goto (tgt := 105) hx hb dX12_mostRight_236 (by decide) ?_
                                refine lv_iload_n hx hb dX12_mostRight_105 rfl (lv_at hl 0 rfl) ?_
                                refine lv_bipush (v := 6) hx hb dX12_mostRight_106 (by decide) ?_
                                refine lv_icmp_ge (tgt := 239) hx hb dX12_mostRight_108 (by decide) (fun c => absurd c (by decide)) (fun _ => ?_)
                                refine lv_iconst (v := 0) hx hb dX12_mostRight_111 (by decide) ?_
                                refine lv_istore_n (lv' := [(2, .int 0), (1, .int 4), (0, .ref (g.2.1 79))]) hx hb dX12_mostRight_112 rfl hl (by decide) rfl (fun ls hl => ?_)
                                have loop113_4 : ∀ (fu : Nat) (i4 : Nat) (f4 : Nat → Int32) (hi4 : i4 ≤ 512) (hf4 : ∀ j, j < 2048 + i4 → f4 j = 0), 512 - i4 < fu → ∀ (H : Heap) (locs : List Loc) (ls : Array Slot), HW g (sA (sA (sA (sA (sA (sA σ 93 fp) 92 f0) 92 f1) 92 f2) 92 f3) 92 f4) s H locs → lv_has ls 6 [(2, .int (nI i4)), (1, .int 4), (0, .ref (g.2.1 79))] → W p l e { frames := 0, cells := 0, slots := 0, locals := 0 } s m args below meth c H locs 0 0 (MQ below (XQi g (fun r σ' => (0 = r))) args s 0 0 (Aw g)) (F0 m 113 ls []) := by
                                  intro fu
                                  induction fu with
                                  | zero => intro i4 f4 hi4 hf4 hm; exact absurd hm (Nat.not_lt_zero _)
                                  | succ fu ih =>
                                    have iloop113_4 := ih
                                    clear ih
                                    intro i4 f4 hi4 hf4 hmloop113_4 H locs ls h hl
                                    refine lv_iload_n hx hb dX12_mostRight_113 rfl (lv_at hl 0 rfl) ?_
                                    refine lv_sipush (v := 512) hx hb dX12_mostRight_114 (by decide) ?_
                                    refine lv_icmp_ge (tgt := 233) hx hb dX12_mostRight_117 (by decide) (fun c117_6 => ?_) (fun c117_6 => ?_)
                                    · skip
                                      have hzf4 : ∀ j, j < 2560 → f4 j = 0 := fun j hj => hf4 j (by have := x_eqn (n := 512) rfl (by decide) hi4 c117_6; omega)
                                      refine lv_iinc (v := 5) (lv' := [(1, .int 5), (2, .int (nI i4)), (0, .ref (g.2.1 79))]) hx hb dX12_mostRight_233 hl (k := 1) rfl (by decide) (by decide) rfl (fun ls hl => ?_)
                                      refine lv_goto (tgt := 105) hx hb dX12_mostRight_236 (by decide) ?_
                                      refine lv_iload_n hx hb dX12_mostRight_105 rfl (lv_at hl 0 rfl) ?_
                                      refine lv_bipush (v := 6) hx hb dX12_mostRight_106 (by decide) ?_
                                      refine lv_icmp_ge (tgt := 239) hx hb dX12_mostRight_108 (by decide) (fun c => absurd c (by decide)) (fun _ => ?_)
                                      refine lv_iconst (v := 0) hx hb dX12_mostRight_111 (by decide) ?_
                                      refine lv_istore_n (lv' := [(2, .int 0), (1, .int 5), (0, .ref (g.2.1 79))]) hx hb dX12_mostRight_112 rfl hl (by decide) rfl (fun ls hl => ?_)
                                      have loop113_5 : ∀ (fu : Nat) (i5 : Nat) (f5 : Nat → Int32) (hi5 : i5 ≤ 512) (hf5 : ∀ j, j < 2560 + i5 → f5 j = 0), 512 - i5 < fu → ∀ (H : Heap) (locs : List Loc) (ls : Array Slot), HW g (sA (sA (sA (sA (sA (sA (sA σ 93 fp) 92 f0) 92 f1) 92 f2) 92 f3) 92 f4) 92 f5) s H locs → lv_has ls 6 [(2, .int (nI i5)), (1, .int 5), (0, .ref (g.2.1 79))] → W p l e { frames := 0, cells := 0, slots := 0, locals := 0 } s m args below meth c H locs 0 0 (MQ below (XQi g (fun r σ' => (0 = r))) args s 0 0 (Aw g)) (F0 m 113 ls []) := by
                                        intro fu
                                        induction fu with
                                        | zero => intro i5 f5 hi5 hf5 hm; exact absurd hm (Nat.not_lt_zero _)
                                        | succ fu ih =>
                                          have iloop113_5 := ih
                                          clear ih
                                          intro i5 f5 hi5 hf5 hmloop113_5 H locs ls h hl
                                          refine lv_iload_n hx hb dX12_mostRight_113 rfl (lv_at hl 0 rfl) ?_
                                          refine lv_sipush (v := 512) hx hb dX12_mostRight_114 (by decide) ?_
                                          refine lv_icmp_ge (tgt := 233) hx hb dX12_mostRight_117 (by decide) (fun c117_7 => ?_) (fun c117_7 => ?_)
                                          · skip
                                            have hzf5 : ∀ j, j < 3072 → f5 j = 0 := fun j hj => hf5 j (by have := x_eqn (n := 512) rfl (by decide) hi5 c117_7; omega)
                                            refine lv_iinc (v := 6) (lv' := [(1, .int 6), (2, .int (nI i5)), (0, .ref (g.2.1 79))]) hx hb dX12_mostRight_233 hl (k := 1) rfl (by decide) (by decide) rfl (fun ls hl => ?_)
                                            refine lv_goto (tgt := 105) hx hb dX12_mostRight_236 (by decide) ?_
                                            refine lv_iload_n hx hb dX12_mostRight_105 rfl (lv_at hl 0 rfl) ?_
                                            refine lv_bipush (v := 6) hx hb dX12_mostRight_106 (by decide) ?_
                                            refine lv_icmp_ge (tgt := 239) hx hb dX12_mostRight_108 (by decide) (fun _ => ?_) (fun c => absurd (by decide) c)
                                            refine lv_aload_n hx hb dX12_mostRight_239 rfl (lv_at hl 2 rfl) ?_
                                            refine x_getR E h (fr_mo_right g) rfl hwX12 (by decide) (by decide +kernel) dX12_mostRight_240 ?_
                                            refine lv_sipush (v := 3071) hx hb dX12_mostRight_243 (by decide) ?_
                                            refine x_ldI E h (ia_mo_right g) (i := 3071) (by unfold vp_in; decide) (v := 0) (hzf5 3071 (by omega)) dX12_mostRight_246 ?_
                                            exact x_iret E h rfl dX12_mostRight_247
                                          · skip
                                            have hli5 : i5 < 512 := x_ltn rfl (by decide) hi5 c117_7
                                            refine lv_aload_n hx hb dX12_mostRight_120 rfl (lv_at hl 2 rfl) ?_
                                            refine x_getR E h (fr_mo_right g) rfl hwX12 (by decide) (by decide +kernel) dX12_mostRight_121 ?_
                                            refine lv_sipush (v := 512) hx hb dX12_mostRight_124 (by decide) ?_
                                            refine lv_iload_n hx hb dX12_mostRight_127 rfl (lv_at hl 1 rfl) ?_
                                            refine lv_iconst (v := 1) hx hb dX12_mostRight_128 (by decide) ?_
                                            refine lv_isub hx hb dX12_mostRight_129 ?_
                                            refine x_topI (v2 := 4) (by decide) ?_
                                            refine lv_imul hx hb dX12_mostRight_130 ?_
                                            refine x_topI (v2 := 2048) (by decide) ?_
                                            refine lv_iload_n hx hb dX12_mostRight_131 rfl (lv_at hl 0 rfl) ?_
                                            refine lv_iadd hx hb dX12_mostRight_132 ?_
                                            refine x_topI (v2 := nI (2048 + i5)) (nI_add _ _) ?_
                                            refine x_ldI E h (ia_mo_right g) (i := nI (2048 + i5)) (vp_in_nI (by omega) (by decide)) (v := 0) (show f5 (nI (2048 + i5)).toNatClampNeg = 0 from by rw [nI_clamp (by omega)]; exact hf5 _ (by omega)) dX12_mostRight_133 ?_
                                            refine lv_istore_n (lv' := [(3, .int 0), (2, .int (nI i5)), (1, .int 5), (0, .ref (g.2.1 79))]) hx hb dX12_mostRight_134 rfl hl (by decide) rfl (fun ls hl => ?_)
                                            refine lv_iconst (v := 0) hx hb dX12_mostRight_135 (by decide) ?_
                                            refine lv_istore (lv' := [(4, .int 0), (3, .int 0), (2, .int (nI i5)), (1, .int 5), (0, .ref (g.2.1 79))]) hx hb dX12_mostRight_136 hl (by decide) rfl (fun ls hl => ?_)
                                            have loop138_5 : ∀ (fu : Nat) (k5 : Nat) (hk5 : k5 ≤ 9), 9 - k5 < fu → ∀ (H : Heap) (locs : List Loc) (ls : Array Slot), HW g (sA (sA (sA (sA (sA (sA (sA σ 93 fp) 92 f0) 92 f1) 92 f2) 92 f3) 92 f4) 92 f5) s H locs → lv_has ls 6 [(4, .int (nI k5)), (3, .int 0), (2, .int (nI i5)), (1, .int 5), (0, .ref (g.2.1 79))] → W p l e { frames := 0, cells := 0, slots := 0, locals := 0 } s m args below meth c H locs 0 0 (MQ below (XQi g (fun r σ' => (0 = r))) args s 0 0 (Aw g)) (F0 m 138 ls []) := by
                                              intro fu
                                              induction fu with
                                              | zero => intro k5 hk5 hm; exact absurd hm (Nat.not_lt_zero _)
                                              | succ fu ih =>
                                                have iloop138_5 := ih
                                                clear ih
                                                intro k5 hk5 hmloop138_5 H locs ls h hl
                                                refine lv_iload hx hb dX12_mostRight_138 (lv_at hl 0 rfl) ?_
                                                refine lv_bipush (v := 9) hx hb dX12_mostRight_140 (by decide) ?_
                                                refine lv_icmp_ge (tgt := 214) hx hb dX12_mostRight_142 (by decide) (fun c142_8 => ?_) (fun c142_8 => ?_)
                                                · skip
                                                  refine lv_aload_n hx hb dX12_mostRight_214 rfl (lv_at hl 4 rfl) ?_
                                                  refine x_getR E h (fr_mo_right g) rfl hwX12 (by decide) (by decide +kernel) dX12_mostRight_215 ?_
                                                  refine lv_sipush (v := 512) hx hb dX12_mostRight_218 (by decide) ?_
                                                  refine lv_iload_n hx hb dX12_mostRight_221 rfl (lv_at hl 3 rfl) ?_
                                                  refine lv_imul hx hb dX12_mostRight_222 ?_
                                                  refine x_topI (v2 := 2560) (by decide) ?_
                                                  refine lv_iload_n hx hb dX12_mostRight_223 rfl (lv_at hl 2 rfl) ?_
                                                  refine lv_iadd hx hb dX12_mostRight_224 ?_
                                                  refine x_topI (v2 := nI (2560 + i5)) (nI_add _ _) ?_
                                                  refine lv_iload_n hx hb dX12_mostRight_225 rfl (lv_at hl 1 rfl) ?_
                                                  refine x_stI E h (ia_mo_right g) (i := nI (2560 + i5)) (vp_in_nI (by omega) (by decide)) (j := ((2560 + i5))) (nI_clamp (by omega)) rfl dX12_mostRight_226 (fun H locs h => ?_)
                                                  refine lv_iinc (v := (nI (i5 + 1))) (lv' := [(2, .int (nI (i5 + 1))), (4, .int (nI k5)), (3, .int 0), (1, .int 5), (0, .ref (g.2.1 79))]) hx hb dX12_mostRight_227 hl (k := 2) rfl (nI_1 _) (by decide) rfl (fun ls hl => ?_)
                                                  refine lv_goto (tgt := 113) hx hb dX12_mostRight_230 (by decide) ?_
                                                  exact iloop113_5 (i5 + 1) (upd f5 (2560 + i5) 0) (Nat.succ_le_of_lt hli5) (fun j hj => x_zero hf5 j (by omega)) (by omega) _ _ _ (by rw [sA_sA] at h; exact h) (lv_sub hl [0, 3, 4] rfl)
                                                · skip
                                                  have hlk5 : k5 < 9 := x_ltn rfl (by decide) hk5 c142_8
                                                  refine lv_iload_n hx hb dX12_mostRight_145 rfl (lv_at hl 2 rfl) ?_
                                                  refine lv_iload hx hb dX12_mostRight_146 (lv_at hl 0 rfl) ?_
                                                  refine lv_ishr hx hb dX12_mostRight_148 ?_
                                                  refine lv_iconst (v := 1) hx hb dX12_mostRight_149 (by decide) ?_
                                                  refine lv_iand hx hb dX12_mostRight_150 ?_
                                                  refine lv_iconst (v := 1) hx hb dX12_mostRight_151 (by decide) ?_
                                                  refine lv_icmp_ne (tgt := 192) hx hb dX12_mostRight_152 (by decide) (fun c152_9 => ?_) (fun c152_9 => ?_)
                                                  · skip
                                                    refine lv_iconst (v := 0) hx hb dX12_mostRight_192 (by decide) ?_
                                                    refine lv_istore (lv' := [(5, .int 0), (4, .int (nI k5)), (3, .int 0), (2, .int (nI i5)), (1, .int 5), (0, .ref (g.2.1 79))]) hx hb dX12_mostRight_193 hl (by decide) rfl (fun ls hl => ?_)
                                                    refine lv_iload hx hb dX12_mostRight_195 (lv_at hl 0 rfl) ?_
                                                    refine lv_iload_n hx hb dX12_mostRight_197 rfl (lv_at hl 2 rfl) ?_
                                                    refine lv_icmp_le (tgt := 206) hx hb dX12_mostRight_198 (by decide) (fun _ => ?_) (fun c => absurd (by decide) c)
                                                    refine lv_iload_n hx hb dX12_mostRight_206 rfl (lv_at hl 2 rfl) ?_
                                                    refine lv_istore_n (lv' := [(3, .int 0), (5, .int 0), (4, .int (nI k5)), (2, .int (nI i5)), (1, .int 5), (0, .ref (g.2.1 79))]) hx hb dX12_mostRight_207 rfl hl (by decide) rfl (fun ls hl => ?_)
                                                    refine lv_iinc (v := (nI (k5 + 1))) (lv' := [(4, .int (nI (k5 + 1))), (3, .int 0), (5, .int 0), (2, .int (nI i5)), (1, .int 5), (0, .ref (g.2.1 79))]) hx hb dX12_mostRight_208 hl (k := 2) rfl (nI_1 _) (by decide) rfl (fun ls hl => ?_)
                                                    refine lv_goto (tgt := 138) hx hb dX12_mostRight_211 (by decide) ?_
                                                    exact iloop138_5 (k5 + 1) (Nat.succ_le_of_lt hlk5) (by omega) _ _ _ h (lv_sub hl [0, 1, 3, 4, 5] rfl)
                                                  · skip
                                                    refine lv_aload_n hx hb dX12_mostRight_155 rfl (lv_at hl 4 rfl) ?_
                                                    refine x_getR E h (fr_mo_right g) rfl hwX12 (by decide) (by decide +kernel) dX12_mostRight_156 ?_
                                                    refine lv_sipush (v := 512) hx hb dX12_mostRight_159 (by decide) ?_
                                                    refine lv_iload_n hx hb dX12_mostRight_162 rfl (lv_at hl 3 rfl) ?_
                                                    refine lv_iconst (v := 1) hx hb dX12_mostRight_163 (by decide) ?_
                                                    refine lv_isub hx hb dX12_mostRight_164 ?_
                                                    refine x_topI (v2 := 4) (by decide) ?_
                                                    refine lv_imul hx hb dX12_mostRight_165 ?_
                                                    refine x_topI (v2 := 2048) (by decide) ?_
                                                    refine lv_iload_n hx hb dX12_mostRight_166 rfl (lv_at hl 2 rfl) ?_
                                                    refine lv_iconst (v := 1) hx hb dX12_mostRight_167 (by decide) ?_
                                                    refine lv_iload hx hb dX12_mostRight_168 (lv_at hl 0 rfl) ?_
                                                    refine lv_ishl hx hb dX12_mostRight_170 ?_
                                                    refine lv_iconst (v := (-1)) hx hb dX12_mostRight_171 (by decide) ?_
                                                    refine lv_ixor hx hb dX12_mostRight_172 ?_
                                                    refine lv_iand hx hb dX12_mostRight_173 ?_
                                                    obtain ⟨jj, hjj, ejj⟩ := x_and i5 ((1 <<< ((nI k5) &&& 31)) ^^^ (-1)) (by omega)
                                                    refine x_topI (v2 := nI jj) ejj ?_
                                                    refine lv_iadd hx hb dX12_mostRight_174 ?_
                                                    refine x_topI (v2 := nI (2048 + jj)) (nI_add _ _) ?_
                                                    refine x_ldI E h (ia_mo_right g) (i := nI (2048 + jj)) (vp_in_nI (by omega) (by decide)) (v := 0) (show f5 (nI (2048 + jj)).toNatClampNeg = 0 from by rw [nI_clamp (by omega)]; exact hf5 _ (by omega)) dX12_mostRight_175 ?_
                                                    refine lv_aload_n hx hb dX12_mostRight_176 rfl (lv_at hl 4 rfl) ?_
                                                    refine x_getR E h (fr_mo_pairs g) rfl hwX12 (by decide) (by decide +kernel) dX12_mostRight_177 ?_
                                                    refine lv_bipush (v := 9) hx hb dX12_mostRight_180 (by decide) ?_
                                                    refine lv_iload_n hx hb dX12_mostRight_182 rfl (lv_at hl 3 rfl) ?_
                                                    refine lv_imul hx hb dX12_mostRight_183 ?_
                                                    refine x_topI (v2 := 45) (by decide) ?_
                                                    refine lv_iload hx hb dX12_mostRight_184 (lv_at hl 0 rfl) ?_
                                                    refine lv_iadd hx hb dX12_mostRight_186 ?_
                                                    refine x_topI (v2 := nI (45 + k5)) (nI_add _ _) ?_
                                                    refine x_ldI E h (ia_mo_pairs g) (i := nI (45 + k5)) (vp_in_nI (by omega) (by decide)) (v := 0) (show fp (nI (45 + k5)).toNatClampNeg = 0 from by rw [nI_clamp (by omega)]; exact hzfp _ (by omega)) dX12_mostRight_187 ?_
                                                    refine lv_iadd hx hb dX12_mostRight_188 ?_
                                                    refine x_topI (v2 := 0) (by decide) ?_
                                                    refine lv_goto (tgt := 193) hx hb dX12_mostRight_189 (by decide) ?_
                                                    refine lv_istore (lv' := [(5, .int 0), (4, .int (nI k5)), (3, .int 0), (2, .int (nI i5)), (1, .int 5), (0, .ref (g.2.1 79))]) hx hb dX12_mostRight_193 hl (by decide) rfl (fun ls hl => ?_)
                                                    refine lv_iload hx hb dX12_mostRight_195 (lv_at hl 0 rfl) ?_
                                                    refine lv_iload_n hx hb dX12_mostRight_197 rfl (lv_at hl 2 rfl) ?_
                                                    refine lv_icmp_le (tgt := 206) hx hb dX12_mostRight_198 (by decide) (fun _ => ?_) (fun c => absurd (by decide) c)
                                                    refine lv_iload_n hx hb dX12_mostRight_206 rfl (lv_at hl 2 rfl) ?_
                                                    refine lv_istore_n (lv' := [(3, .int 0), (5, .int 0), (4, .int (nI k5)), (2, .int (nI i5)), (1, .int 5), (0, .ref (g.2.1 79))]) hx hb dX12_mostRight_207 rfl hl (by decide) rfl (fun ls hl => ?_)
                                                    refine lv_iinc (v := (nI (k5 + 1))) (lv' := [(4, .int (nI (k5 + 1))), (3, .int 0), (5, .int 0), (2, .int (nI i5)), (1, .int 5), (0, .ref (g.2.1 79))]) hx hb dX12_mostRight_208 hl (k := 2) rfl (nI_1 _) (by decide) rfl (fun ls hl => ?_)
                                                    refine lv_goto (tgt := 138) hx hb dX12_mostRight_211 (by decide) ?_
                                                    exact iloop138_5 (k5 + 1) (Nat.succ_le_of_lt hlk5) (by omega) _ _ _ h (lv_sub hl [0, 1, 3, 4, 5] rfl)
                                            exact loop138_5 _ 0 (Nat.zero_le _) (Nat.lt_succ_self _) _ _ _ h (lv_sub hl [0, 1, 2, 3, 4] rfl)
                                      exact loop113_5 _ 0 f4 (Nat.zero_le _) (fun j hj => hzf4 j (by omega)) (Nat.lt_succ_self _) _ _ _ (by first | exact h | (rw [sA_sA]; exact h)) (lv_sub hl [0, 1, 2] rfl)
                                    · skip
                                      have hli4 : i4 < 512 := x_ltn rfl (by decide) hi4 c117_6
                                      refine lv_aload_n hx hb dX12_mostRight_120 rfl (lv_at hl 2 rfl) ?_
                                      refine x_getR E h (fr_mo_right g) rfl hwX12 (by decide) (by decide +kernel) dX12_mostRight_121 ?_
                                      refine lv_sipush (v := 512) hx hb dX12_mostRight_124 (by decide) ?_
                                      refine lv_iload_n hx hb dX12_mostRight_127 rfl (lv_at hl 1 rfl) ?_
                                      refine lv_iconst (v := 1) hx hb dX12_mostRight_128 (by decide) ?_
                                      refine lv_isub hx hb dX12_mostRight_129 ?_
                                      refine x_topI (v2 := 3) (by decide) ?_
                                      refine lv_imul hx hb dX12_mostRight_130 ?_
                                      refine x_topI (v2 := 1536) (by decide) ?_
                                      refine lv_iload_n hx hb dX12_mostRight_131 rfl (lv_at hl 0 rfl) ?_
                                      refine lv_iadd hx hb dX12_mostRight_132 ?_
                                      refine x_topI (v2 := nI (1536 + i4)) (nI_add _ _) ?_
                                      refine x_ldI E h (ia_mo_right g) (i := nI (1536 + i4)) (vp_in_nI (by omega) (by decide)) (v := 0) (show f4 (nI (1536 + i4)).toNatClampNeg = 0 from by rw [nI_clamp (by omega)]; exact hf4 _ (by omega)) dX12_mostRight_133 ?_
                                      refine lv_istore_n (lv' := [(3, .int 0), (2, .int (nI i4)), (1, .int 4), (0, .ref (g.2.1 79))]) hx hb dX12_mostRight_134 rfl hl (by decide) rfl (fun ls hl => ?_)
                                      refine lv_iconst (v := 0) hx hb dX12_mostRight_135 (by decide) ?_
                                      refine lv_istore (lv' := [(4, .int 0), (3, .int 0), (2, .int (nI i4)), (1, .int 4), (0, .ref (g.2.1 79))]) hx hb dX12_mostRight_136 hl (by decide) rfl (fun ls hl => ?_)
                                      have loop138_4 : ∀ (fu : Nat) (k4 : Nat) (hk4 : k4 ≤ 9), 9 - k4 < fu → ∀ (H : Heap) (locs : List Loc) (ls : Array Slot), HW g (sA (sA (sA (sA (sA (sA σ 93 fp) 92 f0) 92 f1) 92 f2) 92 f3) 92 f4) s H locs → lv_has ls 6 [(4, .int (nI k4)), (3, .int 0), (2, .int (nI i4)), (1, .int 4), (0, .ref (g.2.1 79))] → W p l e { frames := 0, cells := 0, slots := 0, locals := 0 } s m args below meth c H locs 0 0 (MQ below (XQi g (fun r σ' => (0 = r))) args s 0 0 (Aw g)) (F0 m 138 ls []) := by
                                        intro fu
                                        induction fu with
                                        | zero => intro k4 hk4 hm; exact absurd hm (Nat.not_lt_zero _)
                                        | succ fu ih =>
                                          have iloop138_4 := ih
                                          clear ih
                                          intro k4 hk4 hmloop138_4 H locs ls h hl
                                          refine lv_iload hx hb dX12_mostRight_138 (lv_at hl 0 rfl) ?_
                                          refine lv_bipush (v := 9) hx hb dX12_mostRight_140 (by decide) ?_
                                          refine lv_icmp_ge (tgt := 214) hx hb dX12_mostRight_142 (by decide) (fun c142_10 => ?_) (fun c142_10 => ?_)
                                          · skip
                                            refine lv_aload_n hx hb dX12_mostRight_214 rfl (lv_at hl 4 rfl) ?_
                                            refine x_getR E h (fr_mo_right g) rfl hwX12 (by decide) (by decide +kernel) dX12_mostRight_215 ?_
                                            refine lv_sipush (v := 512) hx hb dX12_mostRight_218 (by decide) ?_
                                            refine lv_iload_n hx hb dX12_mostRight_221 rfl (lv_at hl 3 rfl) ?_
                                            refine lv_imul hx hb dX12_mostRight_222 ?_
                                            refine x_topI (v2 := 2048) (by decide) ?_
                                            refine lv_iload_n hx hb dX12_mostRight_223 rfl (lv_at hl 2 rfl) ?_
                                            refine lv_iadd hx hb dX12_mostRight_224 ?_
                                            refine x_topI (v2 := nI (2048 + i4)) (nI_add _ _) ?_
                                            refine lv_iload_n hx hb dX12_mostRight_225 rfl (lv_at hl 1 rfl) ?_
                                            refine x_stI E h (ia_mo_right g) (i := nI (2048 + i4)) (vp_in_nI (by omega) (by decide)) (j := ((2048 + i4))) (nI_clamp (by omega)) rfl dX12_mostRight_226 (fun H locs h => ?_)
                                            refine lv_iinc (v := (nI (i4 + 1))) (lv' := [(2, .int (nI (i4 + 1))), (4, .int (nI k4)), (3, .int 0), (1, .int 4), (0, .ref (g.2.1 79))]) hx hb dX12_mostRight_227 hl (k := 2) rfl (nI_1 _) (by decide) rfl (fun ls hl => ?_)
                                            refine lv_goto (tgt := 113) hx hb dX12_mostRight_230 (by decide) ?_
                                            exact iloop113_4 (i4 + 1) (upd f4 (2048 + i4) 0) (Nat.succ_le_of_lt hli4) (fun j hj => x_zero hf4 j (by omega)) (by omega) _ _ _ (by rw [sA_sA] at h; exact h) (lv_sub hl [0, 3, 4] rfl)
                                          · skip
                                            have hlk4 : k4 < 9 := x_ltn rfl (by decide) hk4 c142_10
                                            refine lv_iload_n hx hb dX12_mostRight_145 rfl (lv_at hl 2 rfl) ?_
                                            refine lv_iload hx hb dX12_mostRight_146 (lv_at hl 0 rfl) ?_
                                            refine lv_ishr hx hb dX12_mostRight_148 ?_
                                            refine lv_iconst (v := 1) hx hb dX12_mostRight_149 (by decide) ?_
                                            refine lv_iand hx hb dX12_mostRight_150 ?_
                                            refine lv_iconst (v := 1) hx hb dX12_mostRight_151 (by decide) ?_
                                            refine lv_icmp_ne (tgt := 192) hx hb dX12_mostRight_152 (by decide) (fun c152_11 => ?_) (fun c152_11 => ?_)
                                            · skip
                                              refine lv_iconst (v := 0) hx hb dX12_mostRight_192 (by decide) ?_
                                              refine lv_istore (lv' := [(5, .int 0), (4, .int (nI k4)), (3, .int 0), (2, .int (nI i4)), (1, .int 4), (0, .ref (g.2.1 79))]) hx hb dX12_mostRight_193 hl (by decide) rfl (fun ls hl => ?_)
                                              refine lv_iload hx hb dX12_mostRight_195 (lv_at hl 0 rfl) ?_
                                              refine lv_iload_n hx hb dX12_mostRight_197 rfl (lv_at hl 2 rfl) ?_
                                              refine lv_icmp_le (tgt := 206) hx hb dX12_mostRight_198 (by decide) (fun _ => ?_) (fun c => absurd (by decide) c)
                                              refine lv_iload_n hx hb dX12_mostRight_206 rfl (lv_at hl 2 rfl) ?_
                                              refine lv_istore_n (lv' := [(3, .int 0), (5, .int 0), (4, .int (nI k4)), (2, .int (nI i4)), (1, .int 4), (0, .ref (g.2.1 79))]) hx hb dX12_mostRight_207 rfl hl (by decide) rfl (fun ls hl => ?_)
                                              refine lv_iinc (v := (nI (k4 + 1))) (lv' := [(4, .int (nI (k4 + 1))), (3, .int 0), (5, .int 0), (2, .int (nI i4)), (1, .int 4), (0, .ref (g.2.1 79))]) hx hb dX12_mostRight_208 hl (k := 2) rfl (nI_1 _) (by decide) rfl (fun ls hl => ?_)
                                              refine lv_goto (tgt := 138) hx hb dX12_mostRight_211 (by decide) ?_
                                              exact iloop138_4 (k4 + 1) (Nat.succ_le_of_lt hlk4) (by omega) _ _ _ h (lv_sub hl [0, 1, 3, 4, 5] rfl)
                                            · skip
                                              refine lv_aload_n hx hb dX12_mostRight_155 rfl (lv_at hl 4 rfl) ?_
                                              refine x_getR E h (fr_mo_right g) rfl hwX12 (by decide) (by decide +kernel) dX12_mostRight_156 ?_
                                              refine lv_sipush (v := 512) hx hb dX12_mostRight_159 (by decide) ?_
                                              refine lv_iload_n hx hb dX12_mostRight_162 rfl (lv_at hl 3 rfl) ?_
                                              refine lv_iconst (v := 1) hx hb dX12_mostRight_163 (by decide) ?_
                                              refine lv_isub hx hb dX12_mostRight_164 ?_
                                              refine x_topI (v2 := 3) (by decide) ?_
                                              refine lv_imul hx hb dX12_mostRight_165 ?_
                                              refine x_topI (v2 := 1536) (by decide) ?_
                                              refine lv_iload_n hx hb dX12_mostRight_166 rfl (lv_at hl 2 rfl) ?_
                                              refine lv_iconst (v := 1) hx hb dX12_mostRight_167 (by decide) ?_
                                              refine lv_iload hx hb dX12_mostRight_168 (lv_at hl 0 rfl) ?_
                                              refine lv_ishl hx hb dX12_mostRight_170 ?_
                                              refine lv_iconst (v := (-1)) hx hb dX12_mostRight_171 (by decide) ?_
                                              refine lv_ixor hx hb dX12_mostRight_172 ?_
                                              refine lv_iand hx hb dX12_mostRight_173 ?_
                                              obtain ⟨jj, hjj, ejj⟩ := x_and i4 ((1 <<< ((nI k4) &&& 31)) ^^^ (-1)) (by omega)
                                              refine x_topI (v2 := nI jj) ejj ?_
                                              refine lv_iadd hx hb dX12_mostRight_174 ?_
                                              refine x_topI (v2 := nI (1536 + jj)) (nI_add _ _) ?_
                                              refine x_ldI E h (ia_mo_right g) (i := nI (1536 + jj)) (vp_in_nI (by omega) (by decide)) (v := 0) (show f4 (nI (1536 + jj)).toNatClampNeg = 0 from by rw [nI_clamp (by omega)]; exact hf4 _ (by omega)) dX12_mostRight_175 ?_
                                              refine lv_aload_n hx hb dX12_mostRight_176 rfl (lv_at hl 4 rfl) ?_
                                              refine x_getR E h (fr_mo_pairs g) rfl hwX12 (by decide) (by decide +kernel) dX12_mostRight_177 ?_
                                              refine lv_bipush (v := 9) hx hb dX12_mostRight_180 (by decide) ?_
                                              refine lv_iload_n hx hb dX12_mostRight_182 rfl (lv_at hl 3 rfl) ?_
                                              refine lv_imul hx hb dX12_mostRight_183 ?_
                                              refine x_topI (v2 := 36) (by decide) ?_
                                              refine lv_iload hx hb dX12_mostRight_184 (lv_at hl 0 rfl) ?_
                                              refine lv_iadd hx hb dX12_mostRight_186 ?_
                                              refine x_topI (v2 := nI (36 + k4)) (nI_add _ _) ?_
                                              refine x_ldI E h (ia_mo_pairs g) (i := nI (36 + k4)) (vp_in_nI (by omega) (by decide)) (v := 0) (show fp (nI (36 + k4)).toNatClampNeg = 0 from by rw [nI_clamp (by omega)]; exact hzfp _ (by omega)) dX12_mostRight_187 ?_
                                              refine lv_iadd hx hb dX12_mostRight_188 ?_
                                              refine x_topI (v2 := 0) (by decide) ?_
                                              refine lv_goto (tgt := 193) hx hb dX12_mostRight_189 (by decide) ?_
                                              refine lv_istore (lv' := [(5, .int 0), (4, .int (nI k4)), (3, .int 0), (2, .int (nI i4)), (1, .int 4), (0, .ref (g.2.1 79))]) hx hb dX12_mostRight_193 hl (by decide) rfl (fun ls hl => ?_)
                                              refine lv_iload hx hb dX12_mostRight_195 (lv_at hl 0 rfl) ?_
                                              refine lv_iload_n hx hb dX12_mostRight_197 rfl (lv_at hl 2 rfl) ?_
                                              refine lv_icmp_le (tgt := 206) hx hb dX12_mostRight_198 (by decide) (fun _ => ?_) (fun c => absurd (by decide) c)
                                              refine lv_iload_n hx hb dX12_mostRight_206 rfl (lv_at hl 2 rfl) ?_
                                              refine lv_istore_n (lv' := [(3, .int 0), (5, .int 0), (4, .int (nI k4)), (2, .int (nI i4)), (1, .int 4), (0, .ref (g.2.1 79))]) hx hb dX12_mostRight_207 rfl hl (by decide) rfl (fun ls hl => ?_)
                                              refine lv_iinc (v := (nI (k4 + 1))) (lv' := [(4, .int (nI (k4 + 1))), (3, .int 0), (5, .int 0), (2, .int (nI i4)), (1, .int 4), (0, .ref (g.2.1 79))]) hx hb dX12_mostRight_208 hl (k := 2) rfl (nI_1 _) (by decide) rfl (fun ls hl => ?_)
                                              refine lv_goto (tgt := 138) hx hb dX12_mostRight_211 (by decide) ?_
                                              exact iloop138_4 (k4 + 1) (Nat.succ_le_of_lt hlk4) (by omega) _ _ _ h (lv_sub hl [0, 1, 3, 4, 5] rfl)
                                      exact loop138_4 _ 0 (Nat.zero_le _) (Nat.lt_succ_self _) _ _ _ h (lv_sub hl [0, 1, 2, 3, 4] rfl)
                                exact loop113_4 _ 0 f3 (Nat.zero_le _) (fun j hj => hzf3 j (by omega)) (Nat.lt_succ_self _) _ _ _ (by first | exact h | (rw [sA_sA]; exact h)) (lv_sub hl [0, 1, 2] rfl)
                              · skip
                                have hli3 : i3 < 512 := x_ltn rfl (by decide) hi3 c117_5
                                refine lv_aload_n hx hb dX12_mostRight_120 rfl (lv_at hl 2 rfl) ?_
                                refine x_getR E h (fr_mo_right g) rfl hwX12 (by decide) (by decide +kernel) dX12_mostRight_121 ?_
                                refine lv_sipush (v := 512) hx hb dX12_mostRight_124 (by decide) ?_
                                refine lv_iload_n hx hb dX12_mostRight_127 rfl (lv_at hl 1 rfl) ?_
                                refine lv_iconst (v := 1) hx hb dX12_mostRight_128 (by decide) ?_
                                refine lv_isub hx hb dX12_mostRight_129 ?_
                                refine x_topI (v2 := 2) (by decide) ?_
                                refine lv_imul hx hb dX12_mostRight_130 ?_
                                refine x_topI (v2 := 1024) (by decide) ?_
                                refine lv_iload_n hx hb dX12_mostRight_131 rfl (lv_at hl 0 rfl) ?_
                                refine lv_iadd hx hb dX12_mostRight_132 ?_
                                refine x_topI (v2 := nI (1024 + i3)) (nI_add _ _) ?_
                                refine x_ldI E h (ia_mo_right g) (i := nI (1024 + i3)) (vp_in_nI (by omega) (by decide)) (v := 0) (show f3 (nI (1024 + i3)).toNatClampNeg = 0 from by rw [nI_clamp (by omega)]; exact hf3 _ (by omega)) dX12_mostRight_133 ?_
                                refine lv_istore_n (lv' := [(3, .int 0), (2, .int (nI i3)), (1, .int 3), (0, .ref (g.2.1 79))]) hx hb dX12_mostRight_134 rfl hl (by decide) rfl (fun ls hl => ?_)
                                refine lv_iconst (v := 0) hx hb dX12_mostRight_135 (by decide) ?_
                                refine lv_istore (lv' := [(4, .int 0), (3, .int 0), (2, .int (nI i3)), (1, .int 3), (0, .ref (g.2.1 79))]) hx hb dX12_mostRight_136 hl (by decide) rfl (fun ls hl => ?_)
                                have loop138_3 : ∀ (fu : Nat) (k3 : Nat) (hk3 : k3 ≤ 9), 9 - k3 < fu → ∀ (H : Heap) (locs : List Loc) (ls : Array Slot), HW g (sA (sA (sA (sA (sA σ 93 fp) 92 f0) 92 f1) 92 f2) 92 f3) s H locs → lv_has ls 6 [(4, .int (nI k3)), (3, .int 0), (2, .int (nI i3)), (1, .int 3), (0, .ref (g.2.1 79))] → W p l e { frames := 0, cells := 0, slots := 0, locals := 0 } s m args below meth c H locs 0 0 (MQ below (XQi g (fun r σ' => (0 = r))) args s 0 0 (Aw g)) (F0 m 138 ls []) := by
                                  intro fu
                                  induction fu with
                                  | zero => intro k3 hk3 hm; exact absurd hm (Nat.not_lt_zero _)
                                  | succ fu ih =>
                                    have iloop138_3 := ih
                                    clear ih
                                    intro k3 hk3 hmloop138_3 H locs ls h hl
                                    refine lv_iload hx hb dX12_mostRight_138 (lv_at hl 0 rfl) ?_
                                    refine lv_bipush (v := 9) hx hb dX12_mostRight_140 (by decide) ?_
                                    refine lv_icmp_ge (tgt := 214) hx hb dX12_mostRight_142 (by decide) (fun c142_12 => ?_) (fun c142_12 => ?_)
                                    · skip
                                      refine lv_aload_n hx hb dX12_mostRight_214 rfl (lv_at hl 4 rfl) ?_
                                      refine x_getR E h (fr_mo_right g) rfl hwX12 (by decide) (by decide +kernel) dX12_mostRight_215 ?_
                                      refine lv_sipush (v := 512) hx hb dX12_mostRight_218 (by decide) ?_
                                      refine lv_iload_n hx hb dX12_mostRight_221 rfl (lv_at hl 3 rfl) ?_
                                      refine lv_imul hx hb dX12_mostRight_222 ?_
                                      refine x_topI (v2 := 1536) (by decide) ?_
                                      refine lv_iload_n hx hb dX12_mostRight_223 rfl (lv_at hl 2 rfl) ?_
                                      refine lv_iadd hx hb dX12_mostRight_224 ?_
                                      refine x_topI (v2 := nI (1536 + i3)) (nI_add _ _) ?_
                                      refine lv_iload_n hx hb dX12_mostRight_225 rfl (lv_at hl 1 rfl) ?_
                                      refine x_stI E h (ia_mo_right g) (i := nI (1536 + i3)) (vp_in_nI (by omega) (by decide)) (j := ((1536 + i3))) (nI_clamp (by omega)) rfl dX12_mostRight_226 (fun H locs h => ?_)
                                      refine lv_iinc (v := (nI (i3 + 1))) (lv' := [(2, .int (nI (i3 + 1))), (4, .int (nI k3)), (3, .int 0), (1, .int 3), (0, .ref (g.2.1 79))]) hx hb dX12_mostRight_227 hl (k := 2) rfl (nI_1 _) (by decide) rfl (fun ls hl => ?_)
                                      refine lv_goto (tgt := 113) hx hb dX12_mostRight_230 (by decide) ?_
                                      exact iloop113_3 (i3 + 1) (upd f3 (1536 + i3) 0) (Nat.succ_le_of_lt hli3) (fun j hj => x_zero hf3 j (by omega)) (by omega) _ _ _ (by rw [sA_sA] at h; exact h) (lv_sub hl [0, 3, 4] rfl)
                                    · skip
                                      have hlk3 : k3 < 9 := x_ltn rfl (by decide) hk3 c142_12
                                      refine lv_iload_n hx hb dX12_mostRight_145 rfl (lv_at hl 2 rfl) ?_
                                      refine lv_iload hx hb dX12_mostRight_146 (lv_at hl 0 rfl) ?_
                                      refine lv_ishr hx hb dX12_mostRight_148 ?_
                                      refine lv_iconst (v := 1) hx hb dX12_mostRight_149 (by decide) ?_
                                      refine lv_iand hx hb dX12_mostRight_150 ?_
                                      refine lv_iconst (v := 1) hx hb dX12_mostRight_151 (by decide) ?_
                                      refine lv_icmp_ne (tgt := 192) hx hb dX12_mostRight_152 (by decide) (fun c152_13 => ?_) (fun c152_13 => ?_)
                                      · skip
                                        refine lv_iconst (v := 0) hx hb dX12_mostRight_192 (by decide) ?_
                                        refine lv_istore (lv' := [(5, .int 0), (4, .int (nI k3)), (3, .int 0), (2, .int (nI i3)), (1, .int 3), (0, .ref (g.2.1 79))]) hx hb dX12_mostRight_193 hl (by decide) rfl (fun ls hl => ?_)
                                        refine lv_iload hx hb dX12_mostRight_195 (lv_at hl 0 rfl) ?_
                                        refine lv_iload_n hx hb dX12_mostRight_197 rfl (lv_at hl 2 rfl) ?_
                                        refine lv_icmp_le (tgt := 206) hx hb dX12_mostRight_198 (by decide) (fun _ => ?_) (fun c => absurd (by decide) c)
                                        refine lv_iload_n hx hb dX12_mostRight_206 rfl (lv_at hl 2 rfl) ?_
                                        refine lv_istore_n (lv' := [(3, .int 0), (5, .int 0), (4, .int (nI k3)), (2, .int (nI i3)), (1, .int 3), (0, .ref (g.2.1 79))]) hx hb dX12_mostRight_207 rfl hl (by decide) rfl (fun ls hl => ?_)
                                        refine lv_iinc (v := (nI (k3 + 1))) (lv' := [(4, .int (nI (k3 + 1))), (3, .int 0), (5, .int 0), (2, .int (nI i3)), (1, .int 3), (0, .ref (g.2.1 79))]) hx hb dX12_mostRight_208 hl (k := 2) rfl (nI_1 _) (by decide) rfl (fun ls hl => ?_)
                                        refine lv_goto (tgt := 138) hx hb dX12_mostRight_211 (by decide) ?_
                                        exact iloop138_3 (k3 + 1) (Nat.succ_le_of_lt hlk3) (by omega) _ _ _ h (lv_sub hl [0, 1, 3, 4, 5] rfl)
                                      · skip
                                        refine lv_aload_n hx hb dX12_mostRight_155 rfl (lv_at hl 4 rfl) ?_
                                        refine x_getR E h (fr_mo_right g) rfl hwX12 (by decide) (by decide +kernel) dX12_mostRight_156 ?_
                                        refine lv_sipush (v := 512) hx hb dX12_mostRight_159 (by decide) ?_
                                        refine lv_iload_n hx hb dX12_mostRight_162 rfl (lv_at hl 3 rfl) ?_
                                        refine lv_iconst (v := 1) hx hb dX12_mostRight_163 (by decide) ?_
                                        refine lv_isub hx hb dX12_mostRight_164 ?_
                                        refine x_topI (v2 := 2) (by decide) ?_
                                        refine lv_imul hx hb dX12_mostRight_165 ?_
                                        refine x_topI (v2 := 1024) (by decide) ?_
                                        refine lv_iload_n hx hb dX12_mostRight_166 rfl (lv_at hl 2 rfl) ?_
                                        refine lv_iconst (v := 1) hx hb dX12_mostRight_167 (by decide) ?_
                                        refine lv_iload hx hb dX12_mostRight_168 (lv_at hl 0 rfl) ?_
                                        refine lv_ishl hx hb dX12_mostRight_170 ?_
                                        refine lv_iconst (v := (-1)) hx hb dX12_mostRight_171 (by decide) ?_
                                        refine lv_ixor hx hb dX12_mostRight_172 ?_
                                        refine lv_iand hx hb dX12_mostRight_173 ?_
                                        obtain ⟨jj, hjj, ejj⟩ := x_and i3 ((1 <<< ((nI k3) &&& 31)) ^^^ (-1)) (by omega)
                                        refine x_topI (v2 := nI jj) ejj ?_
                                        refine lv_iadd hx hb dX12_mostRight_174 ?_
                                        refine x_topI (v2 := nI (1024 + jj)) (nI_add _ _) ?_
                                        refine x_ldI E h (ia_mo_right g) (i := nI (1024 + jj)) (vp_in_nI (by omega) (by decide)) (v := 0) (show f3 (nI (1024 + jj)).toNatClampNeg = 0 from by rw [nI_clamp (by omega)]; exact hf3 _ (by omega)) dX12_mostRight_175 ?_
                                        refine lv_aload_n hx hb dX12_mostRight_176 rfl (lv_at hl 4 rfl) ?_
                                        refine x_getR E h (fr_mo_pairs g) rfl hwX12 (by decide) (by decide +kernel) dX12_mostRight_177 ?_
                                        refine lv_bipush (v := 9) hx hb dX12_mostRight_180 (by decide) ?_
                                        refine lv_iload_n hx hb dX12_mostRight_182 rfl (lv_at hl 3 rfl) ?_
                                        refine lv_imul hx hb dX12_mostRight_183 ?_
                                        refine x_topI (v2 := 27) (by decide) ?_
                                        refine lv_iload hx hb dX12_mostRight_184 (lv_at hl 0 rfl) ?_
                                        refine lv_iadd hx hb dX12_mostRight_186 ?_
                                        refine x_topI (v2 := nI (27 + k3)) (nI_add _ _) ?_
                                        refine x_ldI E h (ia_mo_pairs g) (i := nI (27 + k3)) (vp_in_nI (by omega) (by decide)) (v := 0) (show fp (nI (27 + k3)).toNatClampNeg = 0 from by rw [nI_clamp (by omega)]; exact hzfp _ (by omega)) dX12_mostRight_187 ?_
                                        refine lv_iadd hx hb dX12_mostRight_188 ?_
                                        refine x_topI (v2 := 0) (by decide) ?_
                                        refine lv_goto (tgt := 193) hx hb dX12_mostRight_189 (by decide) ?_
                                        refine lv_istore (lv' := [(5, .int 0), (4, .int (nI k3)), (3, .int 0), (2, .int (nI i3)), (1, .int 3), (0, .ref (g.2.1 79))]) hx hb dX12_mostRight_193 hl (by decide) rfl (fun ls hl => ?_)
                                        refine lv_iload hx hb dX12_mostRight_195 (lv_at hl 0 rfl) ?_
                                        refine lv_iload_n hx hb dX12_mostRight_197 rfl (lv_at hl 2 rfl) ?_
                                        refine lv_icmp_le (tgt := 206) hx hb dX12_mostRight_198 (by decide) (fun _ => ?_) (fun c => absurd (by decide) c)
                                        refine lv_iload_n hx hb dX12_mostRight_206 rfl (lv_at hl 2 rfl) ?_
                                        refine lv_istore_n (lv' := [(3, .int 0), (5, .int 0), (4, .int (nI k3)), (2, .int (nI i3)), (1, .int 3), (0, .ref (g.2.1 79))]) hx hb dX12_mostRight_207 rfl hl (by decide) rfl (fun ls hl => ?_)
                                        refine lv_iinc (v := (nI (k3 + 1))) (lv' := [(4, .int (nI (k3 + 1))), (3, .int 0), (5, .int 0), (2, .int (nI i3)), (1, .int 3), (0, .ref (g.2.1 79))]) hx hb dX12_mostRight_208 hl (k := 2) rfl (nI_1 _) (by decide) rfl (fun ls hl => ?_)
                                        refine lv_goto (tgt := 138) hx hb dX12_mostRight_211 (by decide) ?_
                                        exact iloop138_3 (k3 + 1) (Nat.succ_le_of_lt hlk3) (by omega) _ _ _ h (lv_sub hl [0, 1, 3, 4, 5] rfl)
                                exact loop138_3 _ 0 (Nat.zero_le _) (Nat.lt_succ_self _) _ _ _ h (lv_sub hl [0, 1, 2, 3, 4] rfl)
                          exact loop113_3 _ 0 f2 (Nat.zero_le _) (fun j hj => hzf2 j (by omega)) (Nat.lt_succ_self _) _ _ _ (by first | exact h | (rw [sA_sA]; exact h)) (lv_sub hl [0, 1, 2] rfl)
                        · skip
                          have hli2 : i2 < 512 := x_ltn rfl (by decide) hi2 c117_4
                          refine lv_aload_n hx hb dX12_mostRight_120 rfl (lv_at hl 2 rfl) ?_
                          refine x_getR E h (fr_mo_right g) rfl hwX12 (by decide) (by decide +kernel) dX12_mostRight_121 ?_
                          refine lv_sipush (v := 512) hx hb dX12_mostRight_124 (by decide) ?_
                          refine lv_iload_n hx hb dX12_mostRight_127 rfl (lv_at hl 1 rfl) ?_
                          refine lv_iconst (v := 1) hx hb dX12_mostRight_128 (by decide) ?_
                          refine lv_isub hx hb dX12_mostRight_129 ?_
                          refine x_topI (v2 := 1) (by decide) ?_
                          refine lv_imul hx hb dX12_mostRight_130 ?_
                          refine x_topI (v2 := 512) (by decide) ?_
                          refine lv_iload_n hx hb dX12_mostRight_131 rfl (lv_at hl 0 rfl) ?_
                          refine lv_iadd hx hb dX12_mostRight_132 ?_
                          refine x_topI (v2 := nI (512 + i2)) (nI_add _ _) ?_
                          refine x_ldI E h (ia_mo_right g) (i := nI (512 + i2)) (vp_in_nI (by omega) (by decide)) (v := 0) (show f2 (nI (512 + i2)).toNatClampNeg = 0 from by rw [nI_clamp (by omega)]; exact hf2 _ (by omega)) dX12_mostRight_133 ?_
                          refine lv_istore_n (lv' := [(3, .int 0), (2, .int (nI i2)), (1, .int 2), (0, .ref (g.2.1 79))]) hx hb dX12_mostRight_134 rfl hl (by decide) rfl (fun ls hl => ?_)
                          refine lv_iconst (v := 0) hx hb dX12_mostRight_135 (by decide) ?_
                          refine lv_istore (lv' := [(4, .int 0), (3, .int 0), (2, .int (nI i2)), (1, .int 2), (0, .ref (g.2.1 79))]) hx hb dX12_mostRight_136 hl (by decide) rfl (fun ls hl => ?_)
                          have loop138_2 : ∀ (fu : Nat) (k2 : Nat) (hk2 : k2 ≤ 9), 9 - k2 < fu → ∀ (H : Heap) (locs : List Loc) (ls : Array Slot), HW g (sA (sA (sA (sA σ 93 fp) 92 f0) 92 f1) 92 f2) s H locs → lv_has ls 6 [(4, .int (nI k2)), (3, .int 0), (2, .int (nI i2)), (1, .int 2), (0, .ref (g.2.1 79))] → W p l e { frames := 0, cells := 0, slots := 0, locals := 0 } s m args below meth c H locs 0 0 (MQ below (XQi g (fun r σ' => (0 = r))) args s 0 0 (Aw g)) (F0 m 138 ls []) := by
                            intro fu
                            induction fu with
                            | zero => intro k2 hk2 hm; exact absurd hm (Nat.not_lt_zero _)
                            | succ fu ih =>
                              have iloop138_2 := ih
                              clear ih
                              intro k2 hk2 hmloop138_2 H locs ls h hl
                              refine lv_iload hx hb dX12_mostRight_138 (lv_at hl 0 rfl) ?_
                              refine lv_bipush (v := 9) hx hb dX12_mostRight_140 (by decide) ?_
                              refine lv_icmp_ge (tgt := 214) hx hb dX12_mostRight_142 (by decide) (fun c142_14 => ?_) (fun c142_14 => ?_)
                              · skip
                                refine lv_aload_n hx hb dX12_mostRight_214 rfl (lv_at hl 4 rfl) ?_
                                refine x_getR E h (fr_mo_right g) rfl hwX12 (by decide) (by decide +kernel) dX12_mostRight_215 ?_
                                refine lv_sipush (v := 512) hx hb dX12_mostRight_218 (by decide) ?_
                                refine lv_iload_n hx hb dX12_mostRight_221 rfl (lv_at hl 3 rfl) ?_
                                refine lv_imul hx hb dX12_mostRight_222 ?_
                                refine x_topI (v2 := 1024) (by decide) ?_
                                refine lv_iload_n hx hb dX12_mostRight_223 rfl (lv_at hl 2 rfl) ?_
                                refine lv_iadd hx hb dX12_mostRight_224 ?_
                                refine x_topI (v2 := nI (1024 + i2)) (nI_add _ _) ?_
                                refine lv_iload_n hx hb dX12_mostRight_225 rfl (lv_at hl 1 rfl) ?_
                                refine x_stI E h (ia_mo_right g) (i := nI (1024 + i2)) (vp_in_nI (by omega) (by decide)) (j := ((1024 + i2))) (nI_clamp (by omega)) rfl dX12_mostRight_226 (fun H locs h => ?_)
                                refine lv_iinc (v := (nI (i2 + 1))) (lv' := [(2, .int (nI (i2 + 1))), (4, .int (nI k2)), (3, .int 0), (1, .int 2), (0, .ref (g.2.1 79))]) hx hb dX12_mostRight_227 hl (k := 2) rfl (nI_1 _) (by decide) rfl (fun ls hl => ?_)
                                refine lv_goto (tgt := 113) hx hb dX12_mostRight_230 (by decide) ?_
                                exact iloop113_2 (i2 + 1) (upd f2 (1024 + i2) 0) (Nat.succ_le_of_lt hli2) (fun j hj => x_zero hf2 j (by omega)) (by omega) _ _ _ (by rw [sA_sA] at h; exact h) (lv_sub hl [0, 3, 4] rfl)
                              · skip
                                have hlk2 : k2 < 9 := x_ltn rfl (by decide) hk2 c142_14
                                refine lv_iload_n hx hb dX12_mostRight_145 rfl (lv_at hl 2 rfl) ?_
                                refine lv_iload hx hb dX12_mostRight_146 (lv_at hl 0 rfl) ?_
                                refine lv_ishr hx hb dX12_mostRight_148 ?_
                                refine lv_iconst (v := 1) hx hb dX12_mostRight_149 (by decide) ?_
                                refine lv_iand hx hb dX12_mostRight_150 ?_
                                refine lv_iconst (v := 1) hx hb dX12_mostRight_151 (by decide) ?_
                                refine lv_icmp_ne (tgt := 192) hx hb dX12_mostRight_152 (by decide) (fun c152_15 => ?_) (fun c152_15 => ?_)
                                · skip
                                  refine lv_iconst (v := 0) hx hb dX12_mostRight_192 (by decide) ?_
                                  refine lv_istore (lv' := [(5, .int 0), (4, .int (nI k2)), (3, .int 0), (2, .int (nI i2)), (1, .int 2), (0, .ref (g.2.1 79))]) hx hb dX12_mostRight_193 hl (by decide) rfl (fun ls hl => ?_)
                                  refine lv_iload hx hb dX12_mostRight_195 (lv_at hl 0 rfl) ?_
                                  refine lv_iload_n hx hb dX12_mostRight_197 rfl (lv_at hl 2 rfl) ?_
                                  refine lv_icmp_le (tgt := 206) hx hb dX12_mostRight_198 (by decide) (fun _ => ?_) (fun c => absurd (by decide) c)
                                  refine lv_iload_n hx hb dX12_mostRight_206 rfl (lv_at hl 2 rfl) ?_
                                  refine lv_istore_n (lv' := [(3, .int 0), (5, .int 0), (4, .int (nI k2)), (2, .int (nI i2)), (1, .int 2), (0, .ref (g.2.1 79))]) hx hb dX12_mostRight_207 rfl hl (by decide) rfl (fun ls hl => ?_)
                                  refine lv_iinc (v := (nI (k2 + 1))) (lv' := [(4, .int (nI (k2 + 1))), (3, .int 0), (5, .int 0), (2, .int (nI i2)), (1, .int 2), (0, .ref (g.2.1 79))]) hx hb dX12_mostRight_208 hl (k := 2) rfl (nI_1 _) (by decide) rfl (fun ls hl => ?_)
                                  refine lv_goto (tgt := 138) hx hb dX12_mostRight_211 (by decide) ?_
                                  exact iloop138_2 (k2 + 1) (Nat.succ_le_of_lt hlk2) (by omega) _ _ _ h (lv_sub hl [0, 1, 3, 4, 5] rfl)
                                · skip
                                  refine lv_aload_n hx hb dX12_mostRight_155 rfl (lv_at hl 4 rfl) ?_
                                  refine x_getR E h (fr_mo_right g) rfl hwX12 (by decide) (by decide +kernel) dX12_mostRight_156 ?_
                                  refine lv_sipush (v := 512) hx hb dX12_mostRight_159 (by decide) ?_
                                  refine lv_iload_n hx hb dX12_mostRight_162 rfl (lv_at hl 3 rfl) ?_
                                  refine lv_iconst (v := 1) hx hb dX12_mostRight_163 (by decide) ?_
                                  refine lv_isub hx hb dX12_mostRight_164 ?_
                                  refine x_topI (v2 := 1) (by decide) ?_
                                  refine lv_imul hx hb dX12_mostRight_165 ?_
                                  refine x_topI (v2 := 512) (by decide) ?_
                                  refine lv_iload_n hx hb dX12_mostRight_166 rfl (lv_at hl 2 rfl) ?_
                                  refine lv_iconst (v := 1) hx hb dX12_mostRight_167 (by decide) ?_
                                  refine lv_iload hx hb dX12_mostRight_168 (lv_at hl 0 rfl) ?_
                                  refine lv_ishl hx hb dX12_mostRight_170 ?_
                                  refine lv_iconst (v := (-1)) hx hb dX12_mostRight_171 (by decide) ?_
                                  refine lv_ixor hx hb dX12_mostRight_172 ?_
                                  refine lv_iand hx hb dX12_mostRight_173 ?_
                                  obtain ⟨jj, hjj, ejj⟩ := x_and i2 ((1 <<< ((nI k2) &&& 31)) ^^^ (-1)) (by omega)
                                  refine x_topI (v2 := nI jj) ejj ?_
                                  refine lv_iadd hx hb dX12_mostRight_174 ?_
                                  refine x_topI (v2 := nI (512 + jj)) (nI_add _ _) ?_
                                  refine x_ldI E h (ia_mo_right g) (i := nI (512 + jj)) (vp_in_nI (by omega) (by decide)) (v := 0) (show f2 (nI (512 + jj)).toNatClampNeg = 0 from by rw [nI_clamp (by omega)]; exact hf2 _ (by omega)) dX12_mostRight_175 ?_
                                  refine lv_aload_n hx hb dX12_mostRight_176 rfl (lv_at hl 4 rfl) ?_
                                  refine x_getR E h (fr_mo_pairs g) rfl hwX12 (by decide) (by decide +kernel) dX12_mostRight_177 ?_
                                  refine lv_bipush (v := 9) hx hb dX12_mostRight_180 (by decide) ?_
                                  refine lv_iload_n hx hb dX12_mostRight_182 rfl (lv_at hl 3 rfl) ?_
                                  refine lv_imul hx hb dX12_mostRight_183 ?_
                                  refine x_topI (v2 := 18) (by decide) ?_
                                  refine lv_iload hx hb dX12_mostRight_184 (lv_at hl 0 rfl) ?_
                                  refine lv_iadd hx hb dX12_mostRight_186 ?_
                                  refine x_topI (v2 := nI (18 + k2)) (nI_add _ _) ?_
                                  refine x_ldI E h (ia_mo_pairs g) (i := nI (18 + k2)) (vp_in_nI (by omega) (by decide)) (v := 0) (show fp (nI (18 + k2)).toNatClampNeg = 0 from by rw [nI_clamp (by omega)]; exact hzfp _ (by omega)) dX12_mostRight_187 ?_
                                  refine lv_iadd hx hb dX12_mostRight_188 ?_
                                  refine x_topI (v2 := 0) (by decide) ?_
                                  refine lv_goto (tgt := 193) hx hb dX12_mostRight_189 (by decide) ?_
                                  refine lv_istore (lv' := [(5, .int 0), (4, .int (nI k2)), (3, .int 0), (2, .int (nI i2)), (1, .int 2), (0, .ref (g.2.1 79))]) hx hb dX12_mostRight_193 hl (by decide) rfl (fun ls hl => ?_)
                                  refine lv_iload hx hb dX12_mostRight_195 (lv_at hl 0 rfl) ?_
                                  refine lv_iload_n hx hb dX12_mostRight_197 rfl (lv_at hl 2 rfl) ?_
                                  refine lv_icmp_le (tgt := 206) hx hb dX12_mostRight_198 (by decide) (fun _ => ?_) (fun c => absurd (by decide) c)
                                  refine lv_iload_n hx hb dX12_mostRight_206 rfl (lv_at hl 2 rfl) ?_
                                  refine lv_istore_n (lv' := [(3, .int 0), (5, .int 0), (4, .int (nI k2)), (2, .int (nI i2)), (1, .int 2), (0, .ref (g.2.1 79))]) hx hb dX12_mostRight_207 rfl hl (by decide) rfl (fun ls hl => ?_)
                                  refine lv_iinc (v := (nI (k2 + 1))) (lv' := [(4, .int (nI (k2 + 1))), (3, .int 0), (5, .int 0), (2, .int (nI i2)), (1, .int 2), (0, .ref (g.2.1 79))]) hx hb dX12_mostRight_208 hl (k := 2) rfl (nI_1 _) (by decide) rfl (fun ls hl => ?_)
                                  refine lv_goto (tgt := 138) hx hb dX12_mostRight_211 (by decide) ?_
                                  exact iloop138_2 (k2 + 1) (Nat.succ_le_of_lt hlk2) (by omega) _ _ _ h (lv_sub hl [0, 1, 3, 4, 5] rfl)
                          exact loop138_2 _ 0 (Nat.zero_le _) (Nat.lt_succ_self _) _ _ _ h (lv_sub hl [0, 1, 2, 3, 4] rfl)
                    exact loop113_2 _ 0 f1 (Nat.zero_le _) (fun j hj => hzf1 j (by omega)) (Nat.lt_succ_self _) _ _ _ (by first | exact h | (rw [sA_sA]; exact h)) (lv_sub hl [0, 1, 2] rfl)
                  · skip
                    have hli1 : i1 < 512 := x_ltn rfl (by decide) hi1 c117_3
                    refine lv_aload_n hx hb dX12_mostRight_120 rfl (lv_at hl 2 rfl) ?_
                    refine x_getR E h (fr_mo_right g) rfl hwX12 (by decide) (by decide +kernel) dX12_mostRight_121 ?_
                    refine lv_sipush (v := 512) hx hb dX12_mostRight_124 (by decide) ?_
                    refine lv_iload_n hx hb dX12_mostRight_127 rfl (lv_at hl 1 rfl) ?_
                    refine lv_iconst (v := 1) hx hb dX12_mostRight_128 (by decide) ?_
                    refine lv_isub hx hb dX12_mostRight_129 ?_
                    refine x_topI (v2 := 0) (by decide) ?_
                    refine lv_imul hx hb dX12_mostRight_130 ?_
                    refine x_topI (v2 := 0) (by decide) ?_
                    refine lv_iload_n hx hb dX12_mostRight_131 rfl (lv_at hl 0 rfl) ?_
                    refine lv_iadd hx hb dX12_mostRight_132 ?_
                    refine x_topI (v2 := nI (0 + i1)) (nI_add _ _) ?_
                    refine x_ldI E h (ia_mo_right g) (i := nI (0 + i1)) (vp_in_nI (by omega) (by decide)) (v := 0) (show f1 (nI (0 + i1)).toNatClampNeg = 0 from by rw [nI_clamp (by omega)]; exact hf1 _ (by omega)) dX12_mostRight_133 ?_
                    refine lv_istore_n (lv' := [(3, .int 0), (2, .int (nI i1)), (1, .int 1), (0, .ref (g.2.1 79))]) hx hb dX12_mostRight_134 rfl hl (by decide) rfl (fun ls hl => ?_)
                    refine lv_iconst (v := 0) hx hb dX12_mostRight_135 (by decide) ?_
                    refine lv_istore (lv' := [(4, .int 0), (3, .int 0), (2, .int (nI i1)), (1, .int 1), (0, .ref (g.2.1 79))]) hx hb dX12_mostRight_136 hl (by decide) rfl (fun ls hl => ?_)
                    have loop138_1 : ∀ (fu : Nat) (k1 : Nat) (hk1 : k1 ≤ 9), 9 - k1 < fu → ∀ (H : Heap) (locs : List Loc) (ls : Array Slot), HW g (sA (sA (sA σ 93 fp) 92 f0) 92 f1) s H locs → lv_has ls 6 [(4, .int (nI k1)), (3, .int 0), (2, .int (nI i1)), (1, .int 1), (0, .ref (g.2.1 79))] → W p l e { frames := 0, cells := 0, slots := 0, locals := 0 } s m args below meth c H locs 0 0 (MQ below (XQi g (fun r σ' => (0 = r))) args s 0 0 (Aw g)) (F0 m 138 ls []) := by
                      intro fu
                      induction fu with
                      | zero => intro k1 hk1 hm; exact absurd hm (Nat.not_lt_zero _)
                      | succ fu ih =>
                        have iloop138_1 := ih
                        clear ih
                        intro k1 hk1 hmloop138_1 H locs ls h hl
                        refine lv_iload hx hb dX12_mostRight_138 (lv_at hl 0 rfl) ?_
                        refine lv_bipush (v := 9) hx hb dX12_mostRight_140 (by decide) ?_
                        refine lv_icmp_ge (tgt := 214) hx hb dX12_mostRight_142 (by decide) (fun c142_16 => ?_) (fun c142_16 => ?_)
                        · skip
                          refine lv_aload_n hx hb dX12_mostRight_214 rfl (lv_at hl 4 rfl) ?_
                          refine x_getR E h (fr_mo_right g) rfl hwX12 (by decide) (by decide +kernel) dX12_mostRight_215 ?_
                          refine lv_sipush (v := 512) hx hb dX12_mostRight_218 (by decide) ?_
                          refine lv_iload_n hx hb dX12_mostRight_221 rfl (lv_at hl 3 rfl) ?_
                          refine lv_imul hx hb dX12_mostRight_222 ?_
                          refine x_topI (v2 := 512) (by decide) ?_
                          refine lv_iload_n hx hb dX12_mostRight_223 rfl (lv_at hl 2 rfl) ?_
                          refine lv_iadd hx hb dX12_mostRight_224 ?_
                          refine x_topI (v2 := nI (512 + i1)) (nI_add _ _) ?_
                          refine lv_iload_n hx hb dX12_mostRight_225 rfl (lv_at hl 1 rfl) ?_
                          refine x_stI E h (ia_mo_right g) (i := nI (512 + i1)) (vp_in_nI (by omega) (by decide)) (j := ((512 + i1))) (nI_clamp (by omega)) rfl dX12_mostRight_226 (fun H locs h => ?_)
                          refine lv_iinc (v := (nI (i1 + 1))) (lv' := [(2, .int (nI (i1 + 1))), (4, .int (nI k1)), (3, .int 0), (1, .int 1), (0, .ref (g.2.1 79))]) hx hb dX12_mostRight_227 hl (k := 2) rfl (nI_1 _) (by decide) rfl (fun ls hl => ?_)
                          refine lv_goto (tgt := 113) hx hb dX12_mostRight_230 (by decide) ?_
                          exact iloop113_1 (i1 + 1) (upd f1 (512 + i1) 0) (Nat.succ_le_of_lt hli1) (fun j hj => x_zero hf1 j (by omega)) (by omega) _ _ _ (by rw [sA_sA] at h; exact h) (lv_sub hl [0, 3, 4] rfl)
                        · skip
                          have hlk1 : k1 < 9 := x_ltn rfl (by decide) hk1 c142_16
                          refine lv_iload_n hx hb dX12_mostRight_145 rfl (lv_at hl 2 rfl) ?_
                          refine lv_iload hx hb dX12_mostRight_146 (lv_at hl 0 rfl) ?_
                          refine lv_ishr hx hb dX12_mostRight_148 ?_
                          refine lv_iconst (v := 1) hx hb dX12_mostRight_149 (by decide) ?_
                          refine lv_iand hx hb dX12_mostRight_150 ?_
                          refine lv_iconst (v := 1) hx hb dX12_mostRight_151 (by decide) ?_
                          refine lv_icmp_ne (tgt := 192) hx hb dX12_mostRight_152 (by decide) (fun c152_17 => ?_) (fun c152_17 => ?_)
                          · skip
                            refine lv_iconst (v := 0) hx hb dX12_mostRight_192 (by decide) ?_
                            refine lv_istore (lv' := [(5, .int 0), (4, .int (nI k1)), (3, .int 0), (2, .int (nI i1)), (1, .int 1), (0, .ref (g.2.1 79))]) hx hb dX12_mostRight_193 hl (by decide) rfl (fun ls hl => ?_)
                            refine lv_iload hx hb dX12_mostRight_195 (lv_at hl 0 rfl) ?_
                            refine lv_iload_n hx hb dX12_mostRight_197 rfl (lv_at hl 2 rfl) ?_
                            refine lv_icmp_le (tgt := 206) hx hb dX12_mostRight_198 (by decide) (fun _ => ?_) (fun c => absurd (by decide) c)
                            refine lv_iload_n hx hb dX12_mostRight_206 rfl (lv_at hl 2 rfl) ?_
                            refine lv_istore_n (lv' := [(3, .int 0), (5, .int 0), (4, .int (nI k1)), (2, .int (nI i1)), (1, .int 1), (0, .ref (g.2.1 79))]) hx hb dX12_mostRight_207 rfl hl (by decide) rfl (fun ls hl => ?_)
                            refine lv_iinc (v := (nI (k1 + 1))) (lv' := [(4, .int (nI (k1 + 1))), (3, .int 0), (5, .int 0), (2, .int (nI i1)), (1, .int 1), (0, .ref (g.2.1 79))]) hx hb dX12_mostRight_208 hl (k := 2) rfl (nI_1 _) (by decide) rfl (fun ls hl => ?_)
                            refine lv_goto (tgt := 138) hx hb dX12_mostRight_211 (by decide) ?_
                            exact iloop138_1 (k1 + 1) (Nat.succ_le_of_lt hlk1) (by omega) _ _ _ h (lv_sub hl [0, 1, 3, 4, 5] rfl)
                          · skip
                            refine lv_aload_n hx hb dX12_mostRight_155 rfl (lv_at hl 4 rfl) ?_
                            refine x_getR E h (fr_mo_right g) rfl hwX12 (by decide) (by decide +kernel) dX12_mostRight_156 ?_
                            refine lv_sipush (v := 512) hx hb dX12_mostRight_159 (by decide) ?_
                            refine lv_iload_n hx hb dX12_mostRight_162 rfl (lv_at hl 3 rfl) ?_
                            refine lv_iconst (v := 1) hx hb dX12_mostRight_163 (by decide) ?_
                            refine lv_isub hx hb dX12_mostRight_164 ?_
                            refine x_topI (v2 := 0) (by decide) ?_
                            refine lv_imul hx hb dX12_mostRight_165 ?_
                            refine x_topI (v2 := 0) (by decide) ?_
                            refine lv_iload_n hx hb dX12_mostRight_166 rfl (lv_at hl 2 rfl) ?_
                            refine lv_iconst (v := 1) hx hb dX12_mostRight_167 (by decide) ?_
                            refine lv_iload hx hb dX12_mostRight_168 (lv_at hl 0 rfl) ?_
                            refine lv_ishl hx hb dX12_mostRight_170 ?_
                            refine lv_iconst (v := (-1)) hx hb dX12_mostRight_171 (by decide) ?_
                            refine lv_ixor hx hb dX12_mostRight_172 ?_
                            refine lv_iand hx hb dX12_mostRight_173 ?_
                            obtain ⟨jj, hjj, ejj⟩ := x_and i1 ((1 <<< ((nI k1) &&& 31)) ^^^ (-1)) (by omega)
                            refine x_topI (v2 := nI jj) ejj ?_
                            refine lv_iadd hx hb dX12_mostRight_174 ?_
                            refine x_topI (v2 := nI (0 + jj)) (nI_add _ _) ?_
                            refine x_ldI E h (ia_mo_right g) (i := nI (0 + jj)) (vp_in_nI (by omega) (by decide)) (v := 0) (show f1 (nI (0 + jj)).toNatClampNeg = 0 from by rw [nI_clamp (by omega)]; exact hf1 _ (by omega)) dX12_mostRight_175 ?_
                            refine lv_aload_n hx hb dX12_mostRight_176 rfl (lv_at hl 4 rfl) ?_
                            refine x_getR E h (fr_mo_pairs g) rfl hwX12 (by decide) (by decide +kernel) dX12_mostRight_177 ?_
                            refine lv_bipush (v := 9) hx hb dX12_mostRight_180 (by decide) ?_
                            refine lv_iload_n hx hb dX12_mostRight_182 rfl (lv_at hl 3 rfl) ?_
                            refine lv_imul hx hb dX12_mostRight_183 ?_
                            refine x_topI (v2 := 9) (by decide) ?_
                            refine lv_iload hx hb dX12_mostRight_184 (lv_at hl 0 rfl) ?_
                            refine lv_iadd hx hb dX12_mostRight_186 ?_
                            refine x_topI (v2 := nI (9 + k1)) (nI_add _ _) ?_
                            refine x_ldI E h (ia_mo_pairs g) (i := nI (9 + k1)) (vp_in_nI (by omega) (by decide)) (v := 0) (show fp (nI (9 + k1)).toNatClampNeg = 0 from by rw [nI_clamp (by omega)]; exact hzfp _ (by omega)) dX12_mostRight_187 ?_
                            refine lv_iadd hx hb dX12_mostRight_188 ?_
                            refine x_topI (v2 := 0) (by decide) ?_
                            refine lv_goto (tgt := 193) hx hb dX12_mostRight_189 (by decide) ?_
                            refine lv_istore (lv' := [(5, .int 0), (4, .int (nI k1)), (3, .int 0), (2, .int (nI i1)), (1, .int 1), (0, .ref (g.2.1 79))]) hx hb dX12_mostRight_193 hl (by decide) rfl (fun ls hl => ?_)
                            refine lv_iload hx hb dX12_mostRight_195 (lv_at hl 0 rfl) ?_
                            refine lv_iload_n hx hb dX12_mostRight_197 rfl (lv_at hl 2 rfl) ?_
                            refine lv_icmp_le (tgt := 206) hx hb dX12_mostRight_198 (by decide) (fun _ => ?_) (fun c => absurd (by decide) c)
                            refine lv_iload_n hx hb dX12_mostRight_206 rfl (lv_at hl 2 rfl) ?_
                            refine lv_istore_n (lv' := [(3, .int 0), (5, .int 0), (4, .int (nI k1)), (2, .int (nI i1)), (1, .int 1), (0, .ref (g.2.1 79))]) hx hb dX12_mostRight_207 rfl hl (by decide) rfl (fun ls hl => ?_)
                            refine lv_iinc (v := (nI (k1 + 1))) (lv' := [(4, .int (nI (k1 + 1))), (3, .int 0), (5, .int 0), (2, .int (nI i1)), (1, .int 1), (0, .ref (g.2.1 79))]) hx hb dX12_mostRight_208 hl (k := 2) rfl (nI_1 _) (by decide) rfl (fun ls hl => ?_)
                            refine lv_goto (tgt := 138) hx hb dX12_mostRight_211 (by decide) ?_
                            exact iloop138_1 (k1 + 1) (Nat.succ_le_of_lt hlk1) (by omega) _ _ _ h (lv_sub hl [0, 1, 3, 4, 5] rfl)
                    exact loop138_1 _ 0 (Nat.zero_le _) (Nat.lt_succ_self _) _ _ _ h (lv_sub hl [0, 1, 2, 3, 4] rfl)
              exact loop113_1 _ 0 f0 (Nat.zero_le _) (fun j hj => hzf0 j (by omega)) (Nat.lt_succ_self _) _ _ _ (by first | exact h | (rw [sA_sA]; exact h)) (lv_sub hl [0, 1, 2] rfl)
            · skip
              have hliq : iq < 512 := x_ltn rfl (by decide) hiq c87_2
              refine lv_aload_n hx hb dX12_mostRight_90 rfl (lv_at hl 1 rfl) ?_
              refine x_getR E h (fr_mo_right g) rfl hwX12 (by decide) (by decide +kernel) dX12_mostRight_91 ?_
              refine lv_iload_n hx hb dX12_mostRight_94 rfl (lv_at hl 0 rfl) ?_
              refine lv_iconst (v := 0) hx hb dX12_mostRight_95 (by decide) ?_
              refine x_stI E h (ia_mo_right g) (i := nI iq) (vp_in_nI (by omega) (by decide)) (j := (iq)) (nI_clamp (by omega)) rfl dX12_mostRight_96 (fun H locs h => ?_)
              refine lv_iinc (v := (nI (iq + 1))) (lv' := [(1, .int (nI (iq + 1))), (0, .ref (g.2.1 79))]) hx hb dX12_mostRight_97 hl (k := 0) rfl (nI_1 _) (by decide) rfl (fun ls hl => ?_)
              refine lv_goto (tgt := 83) hx hb dX12_mostRight_100 (by decide) ?_
              exact iloop83 (iq + 1) (upd f0 iq 0) (Nat.succ_le_of_lt hliq) (x_zero hf0) (by omega) _ _ _ (by rw [sA_sA] at h; exact h) (lv_sub hl [0, 1] rfl)
        exact loop83 _ 0 (σ.2.2 92) (Nat.zero_le _) (fun j hj => absurd hj (Nat.not_lt_zero _)) (Nat.lt_succ_self _) _ _ _ (x_self h 92 rfl) (lv_sub hl [0, 1] rfl)
      · skip
        have hlip : ip < 54 := x_ltn rfl (by decide) hip c5_1
        refine lv_aload_n hx hb dX12_mostRight_8 rfl (lv_at hl 1 rfl) ?_
        refine x_getR E h (fr_mo_pairs g) rfl hwX12 (by decide) (by decide +kernel) dX12_mostRight_9 ?_
        refine lv_iload_n hx hb dX12_mostRight_12 rfl (lv_at hl 0 rfl) ?_
        refine lv_iconst (v := 0) hx hb dX12_mostRight_13 (by decide) ?_
        refine x_stI E h (ia_mo_pairs g) (i := nI ip) (vp_in_nI (by omega) (by decide)) (j := (ip)) (nI_clamp (by omega)) rfl dX12_mostRight_14 (fun H locs h => ?_)
        refine lv_iinc (v := (nI (ip + 1))) (lv' := [(1, .int (nI (ip + 1))), (0, .ref (g.2.1 79))]) hx hb dX12_mostRight_15 hl (k := 0) rfl (nI_1 _) (by decide) rfl (fun ls hl => ?_)
        refine lv_goto (tgt := 2) hx hb dX12_mostRight_18 (by decide) ?_
        exact iloop2 (ip + 1) (upd fp ip 0) (Nat.succ_le_of_lt hlip) (x_zero hfp) (by omega) _ _ _ (by rw [sA_sA] at h; exact h) (lv_sub hl [0, 1] rfl)
  exact loop2 _ 0 (σ.2.2 93) (Nat.zero_le _) (fun j hj => absurd hj (Nat.not_lt_zero _)) (Nat.lt_succ_self _) _ _ _ (x_self h 93 rfl) (lv_sub hl [0, 1] rfl)
