set_option maxHeartbeats 4000000 in
set_option maxRecDepth 100000 in
theorem aX12_pieces_0 (l : Launch) (g : CX) (σ : ST) (hI : INV σ) (p1 : Int32) : XM l g yX12_pieces wsX12_pieces { frames := 4, cells := 0, slots := 0, locals := 95 } [.ref (g.2.1 79), .int p1] σ (XQi g (fun r σ' => INV σ' ∧ Fr [(35, 38)] [(75, 84)] σ σ')) := by
  refine x_met (own := RX12) (cc := cX12_pieces) (maxL := 4) (ret := (some .int)) (lv := [(0, .ref (g.2.1 79)), (1, .int p1)]) (by decide) rfl rfl (Nat.le_of_ble_eq_true rfl) rfl ?_
  intro p e s m args below meth c ls E h hl
  have hx := E.1
  have hb := E.2.1
  have hown := E.2.2.2.1
  have hts := E.2.2.2.2.1
  have hF : Fr [(35, 38)] [(75, 84)] σ σ := Fr.refl σ
  have hwX12 : ∀ w ∈ wsX120, w ∈ wsX12_pieces := by decide +kernel
  refine lv_iload_n hx hb dX12_pieces_0 rfl (lv_at hl 1 rfl) ?_
  refine lv_iconst (v := 0) hx hb dX12_pieces_1 (by decide) ?_
  refine lv_iconst (v := 3) hx hb dX12_pieces_2 (by decide) ?_
  refine x_si E h (na := 3) (As := [.int p1, .int 0, .int 3]) (aX12_in_0 l g σ hI p1 0 3) gX12_pieces_X12_in rfl ⟨rfl, rfl⟩ rfl (by decide +kernel) ⟨Nat.le_of_ble_eq_true rfl, Nat.le_of_ble_eq_true rfl⟩ hl.1 rfl (Nat.le_of_ble_eq_true rfl) dX12_pieces_3 ⟨Nat.le_of_ble_eq_true rfl, Nat.le_of_ble_eq_true rfl⟩ (fun r1 s1 H locs q1 h => ?_)
  obtain ⟨d1, rfl⟩ := q1
  rcases d1 with ⟨rfl, u1_0_0, u1_0_1⟩ | ⟨rfl, u1_1_0⟩
  · skip
    obtain ⟨n2, b2, rfl⟩ := y_rnlt (N := 3) (y_lo1 u1_0_0 (by decide)) u1_0_1 (by omega)
    have b3 : 0 ≤ n2 := y_nlt (a := n2) (b := 0) (by omega) (by omega) u1_0_0
    have b4 : n2 ≤ 3 := y_nlt (a := 3) (b := n2) (by omega) (by omega) u1_0_1
    refine lv_if_ne (tgt := 11) hx hb dX12_pieces_6 (by decide) (fun _ => ?_) (fun c => absurd c (by decide))
    refine lv_aload_n hx hb dX12_pieces_11 rfl (lv_at hl 0 rfl) ?_
    refine x_vv E h (na := 0) (As := []) (aX12_findPieces_0 l g σ hI) (oc_mo g) rfl gX12_pieces_X12_findPieces rfl ⟨rfl, rfl⟩ rfl (by decide +kernel) ⟨Nat.le_of_ble_eq_true rfl, Nat.le_of_ble_eq_true rfl⟩ hl.1 rfl (Nat.le_of_ble_eq_true rfl) dX12_pieces_12 ⟨Nat.le_of_ble_eq_true rfl, Nat.le_of_ble_eq_true rfl⟩ (fun s5 H locs q5 h => ?_)
    obtain ⟨d5, hI5, f5⟩ := q5
    have hF5 := hF.call f5 (I := [(35, 38)]) (J := [(75, 84)]) rfl rfl
    rcases d5 with ⟨m5_0P, m5_0R, u5_0_0, u5_0_1, u5_0_2, u5_0_3, u5_0_4, u5_0_5⟩
    refine lv_iconst (v := 0) hx hb dX12_pieces_15 (by decide) ?_
    refine lv_istore_n (lv' := [(2, .int 0), (0, .ref (g.2.1 79)), (1, .int (nI n2))]) hx hb dX12_pieces_16 rfl hl (by decide) rfl (fun ls hl => ?_)
    refine lv_iconst (v := 0) hx hb dX12_pieces_17 (by decide) ?_
    refine lv_istore_n (lv' := [(3, .int 0), (2, .int 0), (0, .ref (g.2.1 79)), (1, .int (nI n2))]) hx hb dX12_pieces_18 rfl hl (by decide) rfl (fun ls hl => ?_)
    have loop19_7 : ∀ (fu : Nat) (i7_3 : Nat) (i7_2 : Int32), i7_3 ≤ m5_0R → m5_0R - i7_3 < fu → ∀ (H : Heap) (locs : List Loc) (ls : Array Slot), HW g s5 s H locs → lv_has ls 4 [(3, .int (nI i7_3)), (2, .int i7_2), (0, .ref (g.2.1 79)), (1, .int (nI n2))] → W p l e { frames := 4, cells := 0, slots := 0, locals := 95 } s m args below meth c H locs 0 0 (MQ below (XQi g (fun r σ' => INV σ' ∧ Fr [(35, 38)] [(75, 84)] σ σ')) args s 0 0 (Aw g)) (F0 m 19 ls []) := by
      intro fu
      induction fu with
      | zero => intro i7_3 i7_2 bi7_3 hm; exact absurd hm (Nat.not_lt_zero _)
      | succ fu ih =>
        have ih7 := ih
        clear ih
        intro i7_3 i7_2 bi7_3 hm7 H locs ls h hl
        refine lv_iload_n hx hb dX12_pieces_19 rfl (lv_at hl 0 rfl) ?_
        refine lv_aload_n hx hb dX12_pieces_20 rfl (lv_at hl 2 rfl) ?_
        refine x_getI E h (fi_mo_rows g) rfl hwX12 (by decide) (by decide +kernel) (v := nI m5_0R) u5_0_1 dX12_pieces_21 ?_
        refine lv_icmp_ge (tgt := 49) hx hb dX12_pieces_24 (by decide) (fun c8 => ?_) (fun c8 => ?_)
        · skip
          have b9 : m5_0R ≤ i7_3 := y_le (a := m5_0R) (b := i7_3) (by omega) (by omega) c8
          refine lv_iload_n hx hb dX12_pieces_49 rfl (lv_at hl 3 rfl) ?_
          refine lv_if_ne (tgt := 60) hx hb dX12_pieces_50 (by decide) (fun c10 => ?_) (fun c10 => ?_)
          · skip
            have b11 : ¬ n2 = 0 := y_ne (a := n2) (b := 0) (by omega) (by omega) c10
            refine lv_iload_n hx hb dX12_pieces_60 rfl (lv_at hl 3 rfl) ?_
            refine lv_iconst (v := 1) hx hb dX12_pieces_61 (by decide) ?_
            refine lv_icmp_ne (tgt := 72) hx hb dX12_pieces_62 (by decide) (fun c12 => ?_) (fun c12 => ?_)
            · skip
              have b13 : ¬ n2 = 1 := y_ne (a := n2) (b := 1) (by omega) (by omega) c12
              refine lv_iload_n hx hb dX12_pieces_72 rfl (lv_at hl 3 rfl) ?_
              refine lv_iconst (v := 2) hx hb dX12_pieces_73 (by decide) ?_
              refine lv_icmp_ne (tgt := 84) hx hb dX12_pieces_74 (by decide) (fun c14 => ?_) (fun c14 => ?_)
              · skip
                have b15 : ¬ n2 = 2 := y_ne (a := n2) (b := 2) (by omega) (by omega) c14
                refine lv_iload_n hx hb dX12_pieces_84 rfl (lv_at hl 1 rfl) ?_
                exact x_iret E h ⟨hI5, hF5⟩ dX12_pieces_85
              · skip
                have b16 : n2 = 2 := y_eq (a := n2) (b := 2) (by omega) (by omega) c14
                refine lv_aload_n hx hb dX12_pieces_77 rfl (lv_at hl 2 rfl) ?_
                obtain ⟨x17, e17⟩ : ∃ x, s5.1 37 = x := ⟨_, rfl⟩
                refine x_getI E h (fi_mo_price g) rfl hwX12 (by decide) (by decide +kernel) (v := x17) e17 dX12_pieces_78 ?_
                refine lv_goto (tgt := 85) hx hb dX12_pieces_81 (by decide) ?_
                exact x_iret E h ⟨hI5, hF5⟩ dX12_pieces_85
            · skip
              have b18 : n2 = 1 := y_eq (a := n2) (b := 1) (by omega) (by omega) c12
              refine lv_aload_n hx hb dX12_pieces_65 rfl (lv_at hl 2 rfl) ?_
              obtain ⟨x19, e19⟩ : ∃ x, s5.1 36 = x := ⟨_, rfl⟩
              refine x_getI E h (fi_mo_stretches g) rfl hwX12 (by decide) (by decide +kernel) (v := x19) e19 dX12_pieces_66 ?_
              refine lv_goto (tgt := 85) hx hb dX12_pieces_69 (by decide) ?_
              exact x_iret E h ⟨hI5, hF5⟩ dX12_pieces_85
          · skip
            have b20 : n2 = 0 := y_eq (a := n2) (b := 0) (by omega) (by omega) c10
            refine lv_aload_n hx hb dX12_pieces_53 rfl (lv_at hl 2 rfl) ?_
            refine x_getI E h (fi_mo_pieces g) rfl hwX12 (by decide) (by decide +kernel) (v := nI m5_0P) u5_0_0 dX12_pieces_54 ?_
            refine lv_goto (tgt := 85) hx hb dX12_pieces_57 (by decide) ?_
            exact x_iret E h ⟨hI5, hF5⟩ dX12_pieces_85
        · skip
          have b21 : i7_3 < m5_0R := y_nle (a := m5_0R) (b := i7_3) (by omega) (by omega) c8
          refine lv_iload_n hx hb dX12_pieces_27 rfl (lv_at hl 1 rfl) ?_
          refine lv_aload_n hx hb dX12_pieces_28 rfl (lv_at hl 2 rfl) ?_
          refine lv_iload_n hx hb dX12_pieces_29 rfl (lv_at hl 0 rfl) ?_
          refine x_vi E h (na := 1) (As := [.int (nI i7_3)]) (aX12_isHeard_0 l g s5 hI5 i7_3 (by omega)) (oc_mo g) rfl gX12_pieces_X12_isHeard rfl ⟨rfl, rfl⟩ rfl (by decide +kernel) ⟨Nat.le_of_ble_eq_true rfl, Nat.le_of_ble_eq_true rfl⟩ hl.1 rfl (Nat.le_of_ble_eq_true rfl) dX12_pieces_30 ⟨Nat.le_of_ble_eq_true rfl, Nat.le_of_ble_eq_true rfl⟩ (fun r22 s22 H locs q22 h => ?_)
          obtain ⟨d22, rfl⟩ := q22
          rcases d22 with ⟨rfl, u22_0_0⟩ | ⟨rfl, u22_1_0⟩
          · skip
            refine lv_if_eq (tgt := 40) hx hb dX12_pieces_33 (by decide) (fun c => absurd c (by decide)) (fun _ => ?_)
            refine lv_iconst (v := 1) hx hb dX12_pieces_36 (by decide) ?_
            refine lv_goto (tgt := 41) hx hb dX12_pieces_37 (by decide) ?_
            refine lv_iadd hx hb dX12_pieces_41 ?_
            refine lv_topi (fun x23 e23 => ?_)
            refine lv_istore_n (lv' := [(2, .int x23), (3, .int (nI i7_3)), (0, .ref (g.2.1 79)), (1, .int (nI n2))]) hx hb dX12_pieces_42 rfl hl (by decide) rfl (fun ls hl => ?_)
            refine lv_iinc (v := (nI (i7_3 + 1))) (lv' := [(3, .int (nI (i7_3 + 1))), (2, .int x23), (0, .ref (g.2.1 79)), (1, .int (nI n2))]) hx hb dX12_pieces_43 hl (k := 1) rfl (nI_add i7_3 1) (by decide) rfl (fun ls hl => ?_)
            refine lv_goto (tgt := 19) hx hb dX12_pieces_46 (by decide) ?_
            exact ih7 (i7_3 + 1) x23 (by omega) (by omega) _ _ _ h (lv_sub hl [0, 1, 2, 3] rfl)
          · skip
            refine lv_if_eq (tgt := 40) hx hb dX12_pieces_33 (by decide) (fun _ => ?_) (fun c => absurd (by decide) c)
            refine lv_iconst (v := 0) hx hb dX12_pieces_40 (by decide) ?_
            refine lv_iadd hx hb dX12_pieces_41 ?_
            refine lv_topi (fun x24 e24 => ?_)
            refine lv_istore_n (lv' := [(2, .int x24), (3, .int (nI i7_3)), (0, .ref (g.2.1 79)), (1, .int (nI n2))]) hx hb dX12_pieces_42 rfl hl (by decide) rfl (fun ls hl => ?_)
            refine lv_iinc (v := (nI (i7_3 + 1))) (lv' := [(3, .int (nI (i7_3 + 1))), (2, .int x24), (0, .ref (g.2.1 79)), (1, .int (nI n2))]) hx hb dX12_pieces_43 hl (k := 1) rfl (nI_add i7_3 1) (by decide) rfl (fun ls hl => ?_)
            refine lv_goto (tgt := 19) hx hb dX12_pieces_46 (by decide) ?_
            exact ih7 (i7_3 + 1) x24 (by omega) (by omega) _ _ _ h (lv_sub hl [0, 1, 2, 3] rfl)
    exact loop19_7 _ 0 0 (Nat.zero_le _) (Nat.lt_succ_self _) _ _ _ h (lv_sub hl [0, 1, 2, 3] rfl)
  · skip
    refine lv_if_ne (tgt := 11) hx hb dX12_pieces_6 (by decide) (fun c => absurd (by decide) c) (fun _ => ?_)
    refine lv_iconst (v := (-1)) hx hb dX12_pieces_9 (by decide) ?_
    exact x_iret E h ⟨hI, hF⟩ dX12_pieces_10
set_option maxHeartbeats 4000000 in
set_option maxRecDepth 100000 in
theorem aX12_isPiece_0 (l : Launch) (g : CX) (σ : ST) (hI : INV σ) (p1 : Int32) : XM l g yX12_isPiece wsX12_isPiece { frames := 1, cells := 0, slots := 0, locals := 22 } [.ref (g.2.1 79), .int p1] σ (XQi g (fun r σ' => ((1 = r ∧ ∃ n P : Nat, σ.1 35 = nI P ∧ n < P ∧ P ≤ 48 ∧ p1 = nI n) ∨ (0 = r)) ∧ σ = σ')) := by
  refine x_met (own := RX12) (cc := cX12_isPiece) (maxL := 2) (ret := (some .boolean)) (lv := [(0, .ref (g.2.1 79)), (1, .int p1)]) (by decide) rfl rfl (Nat.le_of_ble_eq_true rfl) rfl ?_
  intro p e s m args below meth c ls E h hl
  have hx := E.1
  have hb := E.2.1
  have hown := E.2.2.2.1
  have hts := E.2.2.2.2.1
  have hwX12 : ∀ w ∈ wsX120, w ∈ wsX12_isPiece := by decide +kernel
  refine lv_iload_n hx hb dX12_isPiece_0 rfl (lv_at hl 1 rfl) ?_
  refine lv_iconst (v := 0) hx hb dX12_isPiece_1 (by decide) ?_
  refine lv_aload_n hx hb dX12_isPiece_2 rfl (lv_at hl 0 rfl) ?_
  obtain ⟨n1, b1, e1⟩ := hI.1 35 48 rfl
  refine x_getI E h (fi_mo_pieces g) rfl hwX12 (by decide) (by decide +kernel) (v := nI n1) e1 dX12_isPiece_3 ?_
  refine lv_iconst (v := 1) hx hb dX12_isPiece_6 (by decide) ?_
  refine lv_isub hx hb dX12_isPiece_7 ?_
  refine x_si E h (na := 3) (As := [.int p1, .int 0, .int (nI n1 - 1)]) (aX12_in_0 l g σ hI p1 0 (nI n1 - 1)) gX12_isPiece_X12_in rfl ⟨rfl, rfl⟩ rfl (by decide +kernel) ⟨Nat.le_of_ble_eq_true rfl, Nat.le_of_ble_eq_true rfl⟩ hl.1 rfl (Nat.le_of_ble_eq_true rfl) dX12_isPiece_8 ⟨Nat.le_of_ble_eq_true rfl, Nat.le_of_ble_eq_true rfl⟩ (fun r2 s2 H locs q2 h => ?_)
  obtain ⟨d2, rfl⟩ := q2
  rcases d2 with ⟨rfl, u2_0_0, u2_0_1⟩ | ⟨rfl, u2_1_0⟩
  · skip
    obtain ⟨n3, b3, rfl⟩ := y_rnltM (N := n1) (y_lo1 u2_0_0 (by decide)) u2_0_1 (by omega)
    have b4 : 0 ≤ n3 := y_nlt (a := n3) (b := 0) (by omega) (by omega) u2_0_0
    exact x_zret E h rfl ⟨(Or.inl ⟨rfl, n3, n1, e1, (by omega), (by omega), rfl⟩), rfl⟩ dX12_isPiece_11
  · skip
    exact x_zret E h rfl ⟨(Or.inr (rfl)), rfl⟩ dX12_isPiece_11
set_option maxHeartbeats 4000000 in
set_option maxRecDepth 100000 in
theorem aX12_piece_0 (l : Launch) (g : CX) (σ : ST) (hI : INV σ) (p1 : Int32) (p2 : Int32) : XM l g yX12_piece wsX12_piece { frames := 4, cells := 0, slots := 0, locals := 95 } [.ref (g.2.1 79), .int p1, .int p2] σ (XQi g (fun r σ' => INV σ' ∧ Fr [(35, 38)] [(75, 84)] σ σ')) := by
  refine x_met (own := RX12) (cc := cX12_piece) (maxL := 3) (ret := (some .int)) (lv := [(0, .ref (g.2.1 79)), (1, .int p1), (2, .int p2)]) (by decide) rfl rfl (Nat.le_of_ble_eq_true rfl) rfl ?_
  intro p e s m args below meth c ls E h hl
  have hx := E.1
  have hb := E.2.1
  have hown := E.2.2.2.1
  have hts := E.2.2.2.2.1
  have hF : Fr [(35, 38)] [(75, 84)] σ σ := Fr.refl σ
  have hwX12 : ∀ w ∈ wsX120, w ∈ wsX12_piece := by decide +kernel
  refine lv_aload_n hx hb dX12_piece_0 rfl (lv_at hl 0 rfl) ?_
  refine x_vv E h (na := 0) (As := []) (aX12_findPieces_0 l g σ hI) (oc_mo g) rfl gX12_piece_X12_findPieces rfl ⟨rfl, rfl⟩ rfl (by decide +kernel) ⟨Nat.le_of_ble_eq_true rfl, Nat.le_of_ble_eq_true rfl⟩ hl.1 rfl (Nat.le_of_ble_eq_true rfl) dX12_piece_1 ⟨Nat.le_of_ble_eq_true rfl, Nat.le_of_ble_eq_true rfl⟩ (fun s1 H locs q1 h => ?_)
  obtain ⟨d1, hI1, f1⟩ := q1
  have hF1 := hF.call f1 (I := [(35, 38)]) (J := [(75, 84)]) rfl rfl
  rcases d1 with ⟨m1_0P, m1_0R, u1_0_0, u1_0_1, u1_0_2, u1_0_3, u1_0_4, u1_0_5⟩
  refine lv_aload_n hx hb dX12_piece_4 rfl (lv_at hl 0 rfl) ?_
  refine lv_iload_n hx hb dX12_piece_5 rfl (lv_at hl 1 rfl) ?_
  refine x_vi E h (na := 1) (As := [.int p1]) (aX12_isPiece_0 l g s1 hI1 p1) (oc_mo g) rfl gX12_piece_X12_isPiece rfl ⟨rfl, rfl⟩ rfl (by decide +kernel) ⟨Nat.le_of_ble_eq_true rfl, Nat.le_of_ble_eq_true rfl⟩ hl.1 rfl (Nat.le_of_ble_eq_true rfl) dX12_piece_6 ⟨Nat.le_of_ble_eq_true rfl, Nat.le_of_ble_eq_true rfl⟩ (fun r3 s3 H locs q3 h => ?_)
  obtain ⟨d3, rfl⟩ := q3
  rcases d3 with ⟨rfl, m3_0n, m3_0P, u3_0_0, u3_0_1, u3_0_2, rfl⟩ | rfl
  · skip
    obtain rfl : m1_0P = m3_0P := y_eq (by omega) (by omega) ((u1_0_0).symm.trans u3_0_0)
    refine lv_if_eq (tgt := 22) hx hb dX12_piece_9 (by decide) (fun c => absurd c (by decide)) (fun _ => ?_)
    refine lv_iload_n hx hb dX12_piece_12 rfl (lv_at hl 2 rfl) ?_
    refine lv_iconst (v := 0) hx hb dX12_piece_13 (by decide) ?_
    refine lv_bipush (v := 6) hx hb dX12_piece_14 (by decide) ?_
    refine x_si E h (na := 3) (As := [.int p2, .int 0, .int 6]) (aX12_in_0 l g s1 hI1 p2 0 6) gX12_piece_X12_in rfl ⟨rfl, rfl⟩ rfl (by decide +kernel) ⟨Nat.le_of_ble_eq_true rfl, Nat.le_of_ble_eq_true rfl⟩ hl.1 rfl (Nat.le_of_ble_eq_true rfl) dX12_piece_16 ⟨Nat.le_of_ble_eq_true rfl, Nat.le_of_ble_eq_true rfl⟩ (fun r4 s4 H locs q4 h => ?_)
    obtain ⟨d4, rfl⟩ := q4
    rcases d4 with ⟨rfl, u4_0_0, u4_0_1⟩ | ⟨rfl, u4_1_0⟩
    · skip
      obtain ⟨n5, b5, rfl⟩ := y_rnlt (N := 6) (y_lo1 u4_0_0 (by decide)) u4_0_1 (by omega)
      have b6 : 0 ≤ n5 := y_nlt (a := n5) (b := 0) (by omega) (by omega) u4_0_0
      have b7 : n5 ≤ 6 := y_nlt (a := 6) (b := n5) (by omega) (by omega) u4_0_1
      refine lv_if_ne (tgt := 24) hx hb dX12_piece_19 (by decide) (fun _ => ?_) (fun c => absurd c (by decide))
      refine lv_iload_n hx hb dX12_piece_24 rfl (lv_at hl 2 rfl) ?_
      refine lv_if_ne (tgt := 37) hx hb dX12_piece_25 (by decide) (fun c8 => ?_) (fun c8 => ?_)
      · skip
        have b9 : ¬ n5 = 0 := y_ne (a := n5) (b := 0) (by omega) (by omega) c8
        refine lv_iload_n hx hb dX12_piece_37 rfl (lv_at hl 2 rfl) ?_
        refine lv_iconst (v := 1) hx hb dX12_piece_38 (by decide) ?_
        refine lv_icmp_ne (tgt := 51) hx hb dX12_piece_39 (by decide) (fun c10 => ?_) (fun c10 => ?_)
        · skip
          have b11 : ¬ n5 = 1 := y_ne (a := n5) (b := 1) (by omega) (by omega) c10
          refine lv_iload_n hx hb dX12_piece_51 rfl (lv_at hl 2 rfl) ?_
          refine lv_iconst (v := 2) hx hb dX12_piece_52 (by decide) ?_
          refine lv_icmp_ne (tgt := 65) hx hb dX12_piece_53 (by decide) (fun c12 => ?_) (fun c12 => ?_)
          · skip
            have b13 : ¬ n5 = 2 := y_ne (a := n5) (b := 2) (by omega) (by omega) c12
            refine lv_aload_n hx hb dX12_piece_65 rfl (lv_at hl 0 rfl) ?_
            refine x_getR E h (fr_mo_middle g) rfl hwX12 (by decide) (by decide +kernel) dX12_piece_66 ?_
            refine lv_iconst (v := 4) hx hb dX12_piece_69 (by decide) ?_
            refine lv_iload_n hx hb dX12_piece_70 rfl (lv_at hl 1 rfl) ?_
            refine lv_imul hx hb dX12_piece_71 ?_
            refine x_topI (v2 := nI (4 * m3_0n)) (pk_mul 4 m3_0n) ?_
            refine lv_iload_n hx hb dX12_piece_72 rfl (lv_at hl 2 rfl) ?_
            refine lv_iadd hx hb dX12_piece_73 ?_
            refine x_topI (v2 := nI ((4 * m3_0n) + n5)) (nI_add (4 * m3_0n) n5) ?_
            refine lv_iconst (v := 3) hx hb dX12_piece_74 (by decide) ?_
            refine lv_isub hx hb dX12_piece_75 ?_
            refine x_topI (v2 := nI (((4 * m3_0n) + n5) - 3)) (pk_sub (a := (4 * m3_0n) + n5) (b := 3) (by omega)) ?_
            refine x_ldI E h (ia_mo_middle g) (i := nI (((4 * m3_0n) + n5) - 3)) (vp_in_nI (by omega) (by decide)) (v := s1.2.2 78 (((4 * m3_0n) + n5) - 3)) (congrArg (s1.2.2 78) (nI_clamp (by omega))) dX12_piece_76 ?_
            exact x_iret E h ⟨hI1, hF1⟩ dX12_piece_77
          · skip
            have b14 : n5 = 2 := y_eq (a := n5) (b := 2) (by omega) (by omega) c12
            refine lv_aload_n hx hb dX12_piece_56 rfl (lv_at hl 0 rfl) ?_
            refine x_getR E h (fr_mo_spread g) rfl hwX12 (by decide) (by decide +kernel) dX12_piece_57 ?_
            refine lv_iload_n hx hb dX12_piece_60 rfl (lv_at hl 1 rfl) ?_
            refine x_ldI E h (ia_mo_spread g) (i := nI m3_0n) (vp_in_nI (by omega) (by decide)) (v := s1.2.2 79 m3_0n) (congrArg (s1.2.2 79) (nI_clamp (by omega))) dX12_piece_61 ?_
            refine lv_goto (tgt := 77) hx hb dX12_piece_62 (by decide) ?_
            exact x_iret E h ⟨hI1, hF1⟩ dX12_piece_77
        · skip
          have b15 : n5 = 1 := y_eq (a := n5) (b := 1) (by omega) (by omega) c10
          refine lv_aload_n hx hb dX12_piece_42 rfl (lv_at hl 0 rfl) ?_
          refine x_getR E h (fr_mo_many g) rfl hwX12 (by decide) (by decide +kernel) dX12_piece_43 ?_
          refine lv_iload_n hx hb dX12_piece_46 rfl (lv_at hl 1 rfl) ?_
          refine x_ldI E h (ia_mo_many g) (i := nI m3_0n) (vp_in_nI (by omega) (by decide)) (v := s1.2.2 76 m3_0n) (congrArg (s1.2.2 76) (nI_clamp (by omega))) dX12_piece_47 ?_
          refine lv_goto (tgt := 77) hx hb dX12_piece_48 (by decide) ?_
          exact x_iret E h ⟨hI1, hF1⟩ dX12_piece_77
      · skip
        have b16 : n5 = 0 := y_eq (a := n5) (b := 0) (by omega) (by omega) c8
        refine lv_aload_n hx hb dX12_piece_28 rfl (lv_at hl 0 rfl) ?_
        refine x_getR E h (fr_mo_first g) rfl hwX12 (by decide) (by decide +kernel) dX12_piece_29 ?_
        refine lv_iload_n hx hb dX12_piece_32 rfl (lv_at hl 1 rfl) ?_
        refine x_ldI E h (ia_mo_first g) (i := nI m3_0n) (vp_in_nI (by omega) (by decide)) (v := s1.2.2 75 m3_0n) (congrArg (s1.2.2 75) (nI_clamp (by omega))) dX12_piece_33 ?_
        refine lv_goto (tgt := 77) hx hb dX12_piece_34 (by decide) ?_
        exact x_iret E h ⟨hI1, hF1⟩ dX12_piece_77
    · skip
      refine lv_if_ne (tgt := 24) hx hb dX12_piece_19 (by decide) (fun c => absurd (by decide) c) (fun _ => ?_)
      refine lv_iconst (v := (-1)) hx hb dX12_piece_22 (by decide) ?_
      exact x_iret E h ⟨hI1, hF1⟩ dX12_piece_23
  · skip
    refine lv_if_eq (tgt := 22) hx hb dX12_piece_9 (by decide) (fun _ => ?_) (fun c => absurd (by decide) c)
    refine lv_iconst (v := (-1)) hx hb dX12_piece_22 (by decide) ?_
    exact x_iret E h ⟨hI1, hF1⟩ dX12_piece_23
set_option maxHeartbeats 4000000 in
set_option maxRecDepth 100000 in
theorem aX12_of_0 (l : Launch) (g : CX) (σ : ST) (hI : INV σ) (p1 : Int32) : XM l g yX12_of wsX12_of { frames := 4, cells := 0, slots := 0, locals := 95 } [.ref (g.2.1 79), .int p1] σ (XQi g (fun r σ' => INV σ' ∧ Fr [(35, 38)] [(75, 84)] σ σ')) := by
  refine x_met (own := RX12) (cc := cX12_of) (maxL := 2) (ret := (some .int)) (lv := [(0, .ref (g.2.1 79)), (1, .int p1)]) (by decide) rfl rfl (Nat.le_of_ble_eq_true rfl) rfl ?_
  intro p e s m args below meth c ls E h hl
  have hx := E.1
  have hb := E.2.1
  have hown := E.2.2.2.1
  have hts := E.2.2.2.2.1
  have hF : Fr [(35, 38)] [(75, 84)] σ σ := Fr.refl σ
  have hwX12 : ∀ w ∈ wsX120, w ∈ wsX12_of := by decide +kernel
  refine lv_aload_n hx hb dX12_of_0 rfl (lv_at hl 0 rfl) ?_
  refine lv_iload_n hx hb dX12_of_1 rfl (lv_at hl 1 rfl) ?_
  refine x_vi E h (na := 1) (As := [.int p1]) (aX12_isRow_0 l g σ hI p1) (oc_mo g) rfl gX12_of_X12_isRow rfl ⟨rfl, rfl⟩ rfl (by decide +kernel) ⟨Nat.le_of_ble_eq_true rfl, Nat.le_of_ble_eq_true rfl⟩ hl.1 rfl (Nat.le_of_ble_eq_true rfl) dX12_of_2 ⟨Nat.le_of_ble_eq_true rfl, Nat.le_of_ble_eq_true rfl⟩ (fun r1 s1 H locs q1 h => ?_)
  obtain ⟨d1, rfl⟩ := q1
  rcases d1 with ⟨rfl, m1_0n, m1_0R, u1_0_0, u1_0_1, u1_0_2, rfl⟩ | rfl
  · skip
    refine lv_if_ne (tgt := 10) hx hb dX12_of_5 (by decide) (fun _ => ?_) (fun c => absurd c (by decide))
    refine lv_aload_n hx hb dX12_of_10 rfl (lv_at hl 0 rfl) ?_
    refine x_vv E h (na := 0) (As := []) (aX12_findPieces_0 l g σ hI) (oc_mo g) rfl gX12_of_X12_findPieces rfl ⟨rfl, rfl⟩ rfl (by decide +kernel) ⟨Nat.le_of_ble_eq_true rfl, Nat.le_of_ble_eq_true rfl⟩ hl.1 rfl (Nat.le_of_ble_eq_true rfl) dX12_of_11 ⟨Nat.le_of_ble_eq_true rfl, Nat.le_of_ble_eq_true rfl⟩ (fun s2 H locs q2 h => ?_)
    obtain ⟨d2, hI2, f2⟩ := q2
    have hF2 := hF.call f2 (I := [(35, 38)]) (J := [(75, 84)]) rfl rfl
    have e3 : s2.1 31 = nI m1_0R := ((f2.1 31 rfl)).trans u1_0_0
    rcases d2 with ⟨m2_0P, m2_0R, u2_0_0, u2_0_1, u2_0_2, u2_0_3, u2_0_4, u2_0_5⟩
    obtain rfl : m1_0R = m2_0R := y_eq (by omega) (by omega) ((e3).symm.trans u2_0_1)
    refine lv_aload_n hx hb dX12_of_14 rfl (lv_at hl 0 rfl) ?_
    refine x_getR E h (fr_mo_pieceOf g) rfl hwX12 (by decide) (by decide +kernel) dX12_of_15 ?_
    refine lv_iload_n hx hb dX12_of_18 rfl (lv_at hl 1 rfl) ?_
    refine x_ldI E h (ia_mo_pieceOf g) (i := nI m1_0n) (vp_in_nI (by omega) (by decide)) (v := s2.2.2 77 m1_0n) (congrArg (s2.2.2 77) (nI_clamp (by omega))) dX12_of_19 ?_
    exact x_iret E h ⟨hI2, hF2⟩ dX12_of_20
  · skip
    refine lv_if_ne (tgt := 10) hx hb dX12_of_5 (by decide) (fun c => absurd (by decide) c) (fun _ => ?_)
    refine lv_iconst (v := (-1)) hx hb dX12_of_8 (by decide) ?_
    exact x_iret E h ⟨hI, hF⟩ dX12_of_9
set_option maxHeartbeats 4000000 in
set_option maxRecDepth 100000 in
theorem aX12_size_0 (l : Launch) (g : CX) (σ : ST) (hI : INV σ) (p0 : Int32) : XM l g yX12_size wsX12_size { frames := 0, cells := 0, slots := 0, locals := 0 } [.int p0] σ (XQi g (fun r σ' => σ = σ')) := by
  refine x_met (own := RX12) (cc := cX12_size) (maxL := 1) (ret := (some .int)) (lv := [(0, .int p0)]) (by decide) rfl rfl (Nat.le_of_ble_eq_true rfl) rfl ?_
  intro p e s m args below meth c ls E h hl
  have hx := E.1
  have hb := E.2.1
  have hown := E.2.2.2.1
  have hts := E.2.2.2.2.1
  refine lv_iload_n hx hb dX12_size_0 rfl (lv_at hl 0 rfl) ?_
  refine lv_if_ge (tgt := 9) hx hb dX12_size_1 (by decide) (fun c1 => ?_) (fun c1 => ?_)
  · skip
    refine lv_iload_n hx hb dX12_size_9 rfl (lv_at hl 0 rfl) ?_
    exact x_iret E h rfl dX12_size_10
  · skip
    refine lv_iload_n hx hb dX12_size_4 rfl (lv_at hl 0 rfl) ?_
    refine lv_ineg hx hb dX12_size_5 ?_
    refine lv_topi (fun x4 e4 => ?_)
    refine lv_goto (tgt := 10) hx hb dX12_size_6 (by decide) ?_
    exact x_iret E h rfl dX12_size_10
set_option maxHeartbeats 4000000 in
set_option maxRecDepth 100000 in
theorem aX12_likeOf_0 (l : Launch) (g : CX) (σ : ST) (hI : INV σ) (p1 : Nat) (p2 : Nat) (hh0 : p1 < 48) (hh1 : p2 < 48) : XM l g yX12_likeOf wsX12_likeOf { frames := 1, cells := 0, slots := 0, locals := 20 } [.ref (g.2.1 79), .int (nI p1), .int (nI p2)] σ (XQi g (fun r σ' => σ = σ')) := by
  refine x_met (own := RX12) (cc := cX12_likeOf) (maxL := 5) (ret := (some .int)) (lv := [(0, .ref (g.2.1 79)), (1, .int (nI p1)), (2, .int (nI p2))]) (by decide) rfl rfl (Nat.le_of_ble_eq_true rfl) rfl ?_
  intro p e s m args below meth c ls E h hl
  have hx := E.1
  have hb := E.2.1
  have hown := E.2.2.2.1
  have hts := E.2.2.2.2.1
  have hwX12 : ∀ w ∈ wsX120, w ∈ wsX12_likeOf := by decide +kernel
  refine lv_iconst (v := 0) hx hb dX12_likeOf_0 (by decide) ?_
  refine lv_istore_n (lv' := [(3, .int 0), (0, .ref (g.2.1 79)), (1, .int (nI p1)), (2, .int (nI p2))]) hx hb dX12_likeOf_1 rfl hl (by decide) rfl (fun ls hl => ?_)
  refine lv_iconst (v := 0) hx hb dX12_likeOf_2 (by decide) ?_
  refine lv_istore (lv' := [(4, .int 0), (3, .int 0), (0, .ref (g.2.1 79)), (1, .int (nI p1)), (2, .int (nI p2))]) hx hb dX12_likeOf_3 hl (by decide) rfl (fun ls hl => ?_)
  have loop5_1 : ∀ (fu : Nat) (i1_4 : Nat) (i1_3 : Int32), i1_4 ≤ 4 → 4 - i1_4 < fu → ∀ (H : Heap) (locs : List Loc) (ls : Array Slot), HW g σ s H locs → lv_has ls 5 [(4, .int (nI i1_4)), (3, .int i1_3), (0, .ref (g.2.1 79)), (1, .int (nI p1)), (2, .int (nI p2))] → W p l e { frames := 1, cells := 0, slots := 0, locals := 20 } s m args below meth c H locs 0 0 (MQ below (XQi g (fun r σ' => σ = σ')) args s 0 0 (Aw g)) (F0 m 5 ls []) := by
    intro fu
    induction fu with
    | zero => intro i1_4 i1_3 bi1_4 hm; exact absurd hm (Nat.not_lt_zero _)
    | succ fu ih =>
      have ih1 := ih
      clear ih
      intro i1_4 i1_3 bi1_4 hm1 H locs ls h hl
      refine lv_iload hx hb dX12_likeOf_5 (lv_at hl 0 rfl) ?_
      refine lv_iconst (v := 4) hx hb dX12_likeOf_7 (by decide) ?_
      refine lv_icmp_ge (tgt := 46) hx hb dX12_likeOf_8 (by decide) (fun c2 => ?_) (fun c2 => ?_)
      · skip
        have b3 : 4 ≤ i1_4 := y_le (a := 4) (b := i1_4) (by omega) (by omega) c2
        refine lv_aload_n hx hb dX12_likeOf_46 rfl (lv_at hl 2 rfl) ?_
        refine x_getR E h (fr_mo_rule g) rfl hwX12 (by decide) (by decide +kernel) dX12_likeOf_47 ?_
        refine lv_iconst (v := 2) hx hb dX12_likeOf_50 (by decide) ?_
        refine x_ldI E h (ia_mo_rule g) (i := nI 2) (vp_in_nI (by omega) (by decide)) (v := σ.2.2 66 2) (congrArg (σ.2.2 66) (nI_clamp (by omega))) dX12_likeOf_51 ?_
        refine lv_iload_n hx hb dX12_likeOf_52 rfl (lv_at hl 1 rfl) ?_
        refine lv_isub hx hb dX12_likeOf_53 ?_
        refine lv_topi (fun x4 e4 => ?_)
        refine lv_aload_n hx hb dX12_likeOf_54 rfl (lv_at hl 2 rfl) ?_
        refine x_getR E h (fr_mo_many g) rfl hwX12 (by decide) (by decide +kernel) dX12_likeOf_55 ?_
        refine lv_iload_n hx hb dX12_likeOf_58 rfl (lv_at hl 3 rfl) ?_
        refine x_ldI E h (ia_mo_many g) (i := nI p1) (vp_in_nI (by omega) (by decide)) (v := σ.2.2 76 p1) (congrArg (σ.2.2 76) (nI_clamp (by omega))) dX12_likeOf_59 ?_
        refine lv_aload_n hx hb dX12_likeOf_60 rfl (lv_at hl 2 rfl) ?_
        refine x_getR E h (fr_mo_many g) rfl hwX12 (by decide) (by decide +kernel) dX12_likeOf_61 ?_
        refine lv_iload_n hx hb dX12_likeOf_64 rfl (lv_at hl 4 rfl) ?_
        refine x_ldI E h (ia_mo_many g) (i := nI p2) (vp_in_nI (by omega) (by decide)) (v := σ.2.2 76 p2) (congrArg (σ.2.2 76) (nI_clamp (by omega))) dX12_likeOf_65 ?_
        have j84_7 : ∀ (y7_s0 : Int32), ∀ (H : Heap) (locs : List Loc) (ls : Array Slot), HW g σ s H locs → lv_has ls 5 [(4, .int (nI i1_4)), (3, .int i1_3), (0, .ref (g.2.1 79)), (1, .int (nI p1)), (2, .int (nI p2))] → W p l e { frames := 1, cells := 0, slots := 0, locals := 20 } s m args below meth c H locs 0 0 (MQ below (XQi g (fun r σ' => σ = σ')) args s 0 0 (Aw g)) (F0 m 84 ls [.int y7_s0, .int x4]) := by
          intro y7_s0 H locs ls h hl
          refine lv_imul hx hb dX12_likeOf_84 ?_
          refine lv_topi (fun x8 e8 => ?_)
          exact x_iret E h rfl dX12_likeOf_85
        refine lv_icmp_ge (tgt := 78) hx hb dX12_likeOf_66 (by decide) (fun c5 => ?_) (fun c5 => ?_)
        · skip
          refine lv_aload_n hx hb dX12_likeOf_78 rfl (lv_at hl 2 rfl) ?_
          refine x_getR E h (fr_mo_many g) rfl hwX12 (by decide) (by decide +kernel) dX12_likeOf_79 ?_
          refine lv_iload_n hx hb dX12_likeOf_82 rfl (lv_at hl 4 rfl) ?_
          refine x_ldI E h (ia_mo_many g) (i := nI p2) (vp_in_nI (by omega) (by decide)) (v := σ.2.2 76 p2) (congrArg (σ.2.2 76) (nI_clamp (by omega))) dX12_likeOf_83 ?_
          exact j84_7 (σ.2.2 76 p2) _ _ _ h (lv_sub hl [0, 1, 2, 3, 4] rfl)
        · skip
          refine lv_aload_n hx hb dX12_likeOf_69 rfl (lv_at hl 2 rfl) ?_
          refine x_getR E h (fr_mo_many g) rfl hwX12 (by decide) (by decide +kernel) dX12_likeOf_70 ?_
          refine lv_iload_n hx hb dX12_likeOf_73 rfl (lv_at hl 3 rfl) ?_
          refine x_ldI E h (ia_mo_many g) (i := nI p1) (vp_in_nI (by omega) (by decide)) (v := σ.2.2 76 p1) (congrArg (σ.2.2 76) (nI_clamp (by omega))) dX12_likeOf_74 ?_
          refine lv_goto (tgt := 84) hx hb dX12_likeOf_75 (by decide) ?_
          exact j84_7 (σ.2.2 76 p1) _ _ _ h (lv_sub hl [0, 1, 2, 3, 4] rfl)
      · skip
        have b10 : i1_4 < 4 := y_nle (a := 4) (b := i1_4) (by omega) (by omega) c2
        refine lv_iload_n hx hb dX12_likeOf_11 rfl (lv_at hl 1 rfl) ?_
        refine lv_aload_n hx hb dX12_likeOf_12 rfl (lv_at hl 2 rfl) ?_
        refine x_getR E h (fr_mo_middle g) rfl hwX12 (by decide) (by decide +kernel) dX12_likeOf_13 ?_
        refine lv_iconst (v := 4) hx hb dX12_likeOf_16 (by decide) ?_
        refine lv_iload_n hx hb dX12_likeOf_17 rfl (lv_at hl 3 rfl) ?_
        refine lv_imul hx hb dX12_likeOf_18 ?_
        refine x_topI (v2 := nI (4 * p1)) (pk_mul 4 p1) ?_
        refine lv_iload hx hb dX12_likeOf_19 (lv_at hl 0 rfl) ?_
        refine lv_iadd hx hb dX12_likeOf_21 ?_
        refine x_topI (v2 := nI ((4 * p1) + i1_4)) (nI_add (4 * p1) i1_4) ?_
        refine x_ldI E h (ia_mo_middle g) (i := nI ((4 * p1) + i1_4)) (vp_in_nI (by omega) (by decide)) (v := σ.2.2 78 ((4 * p1) + i1_4)) (congrArg (σ.2.2 78) (nI_clamp (by omega))) dX12_likeOf_22 ?_
        refine lv_aload_n hx hb dX12_likeOf_23 rfl (lv_at hl 2 rfl) ?_
        refine x_getR E h (fr_mo_middle g) rfl hwX12 (by decide) (by decide +kernel) dX12_likeOf_24 ?_
        refine lv_iconst (v := 4) hx hb dX12_likeOf_27 (by decide) ?_
        refine lv_iload_n hx hb dX12_likeOf_28 rfl (lv_at hl 4 rfl) ?_
        refine lv_imul hx hb dX12_likeOf_29 ?_
        refine x_topI (v2 := nI (4 * p2)) (pk_mul 4 p2) ?_
        refine lv_iload hx hb dX12_likeOf_30 (lv_at hl 0 rfl) ?_
        refine lv_iadd hx hb dX12_likeOf_32 ?_
        refine x_topI (v2 := nI ((4 * p2) + i1_4)) (nI_add (4 * p2) i1_4) ?_
        refine x_ldI E h (ia_mo_middle g) (i := nI ((4 * p2) + i1_4)) (vp_in_nI (by omega) (by decide)) (v := σ.2.2 78 ((4 * p2) + i1_4)) (congrArg (σ.2.2 78) (nI_clamp (by omega))) dX12_likeOf_33 ?_
        refine lv_isub hx hb dX12_likeOf_34 ?_
        refine lv_topi (fun x11 e11 => ?_)
        refine x_si E h (na := 1) (As := [.int x11]) (aX12_size_0 l g σ hI x11) gX12_likeOf_X12_size rfl ⟨rfl, rfl⟩ rfl (by decide +kernel) ⟨Nat.le_of_ble_eq_true rfl, Nat.le_of_ble_eq_true rfl⟩ hl.1 rfl (Nat.le_of_ble_eq_true rfl) dX12_likeOf_35 ⟨Nat.le_of_ble_eq_true rfl, Nat.le_of_ble_eq_true rfl⟩ (fun r12 s12 H locs q12 h => ?_)
        subst q12
        refine lv_iadd hx hb dX12_likeOf_38 ?_
        refine lv_topi (fun x13 e13 => ?_)
        refine lv_istore_n (lv' := [(3, .int x13), (4, .int (nI i1_4)), (0, .ref (g.2.1 79)), (1, .int (nI p1)), (2, .int (nI p2))]) hx hb dX12_likeOf_39 rfl hl (by decide) rfl (fun ls hl => ?_)
        refine lv_iinc (v := (nI (i1_4 + 1))) (lv' := [(4, .int (nI (i1_4 + 1))), (3, .int x13), (0, .ref (g.2.1 79)), (1, .int (nI p1)), (2, .int (nI p2))]) hx hb dX12_likeOf_40 hl (k := 1) rfl (nI_add i1_4 1) (by decide) rfl (fun ls hl => ?_)
        refine lv_goto (tgt := 5) hx hb dX12_likeOf_43 (by decide) ?_
        exact ih1 (i1_4 + 1) x13 (by omega) (by omega) _ _ _ h (lv_sub hl [0, 1, 2, 3, 4] rfl)
  exact loop5_1 _ 0 0 (Nat.zero_le _) (Nat.lt_succ_self _) _ _ _ h (lv_sub hl [0, 1, 2, 3, 4] rfl)
set_option maxHeartbeats 4000000 in
set_option maxRecDepth 100000 in
theorem aX12_like_0 (l : Launch) (g : CX) (σ : ST) (hI : INV σ) (p1 : Int32) (p2 : Int32) : XM l g yX12_like wsX12_like { frames := 4, cells := 0, slots := 0, locals := 95 } [.ref (g.2.1 79), .int p1, .int p2] σ (XQi g (fun r σ' => INV σ' ∧ Fr [(35, 38)] [(75, 84)] σ σ')) := by
  refine x_met (own := RX12) (cc := cX12_like) (maxL := 3) (ret := (some .int)) (lv := [(0, .ref (g.2.1 79)), (1, .int p1), (2, .int p2)]) (by decide) rfl rfl (Nat.le_of_ble_eq_true rfl) rfl ?_
  intro p e s m args below meth c ls E h hl
  have hx := E.1
  have hb := E.2.1
  have hown := E.2.2.2.1
  have hts := E.2.2.2.2.1
  have hF : Fr [(35, 38)] [(75, 84)] σ σ := Fr.refl σ
  refine lv_aload_n hx hb dX12_like_0 rfl (lv_at hl 0 rfl) ?_
  refine x_vv E h (na := 0) (As := []) (aX12_findPieces_0 l g σ hI) (oc_mo g) rfl gX12_like_X12_findPieces rfl ⟨rfl, rfl⟩ rfl (by decide +kernel) ⟨Nat.le_of_ble_eq_true rfl, Nat.le_of_ble_eq_true rfl⟩ hl.1 rfl (Nat.le_of_ble_eq_true rfl) dX12_like_1 ⟨Nat.le_of_ble_eq_true rfl, Nat.le_of_ble_eq_true rfl⟩ (fun s1 H locs q1 h => ?_)
  obtain ⟨d1, hI1, f1⟩ := q1
  have hF1 := hF.call f1 (I := [(35, 38)]) (J := [(75, 84)]) rfl rfl
  rcases d1 with ⟨m1_0P, m1_0R, u1_0_0, u1_0_1, u1_0_2, u1_0_3, u1_0_4, u1_0_5⟩
  refine lv_aload_n hx hb dX12_like_4 rfl (lv_at hl 0 rfl) ?_
  refine lv_iload_n hx hb dX12_like_5 rfl (lv_at hl 1 rfl) ?_
  refine x_vi E h (na := 1) (As := [.int p1]) (aX12_isPiece_0 l g s1 hI1 p1) (oc_mo g) rfl gX12_like_X12_isPiece rfl ⟨rfl, rfl⟩ rfl (by decide +kernel) ⟨Nat.le_of_ble_eq_true rfl, Nat.le_of_ble_eq_true rfl⟩ hl.1 rfl (Nat.le_of_ble_eq_true rfl) dX12_like_6 ⟨Nat.le_of_ble_eq_true rfl, Nat.le_of_ble_eq_true rfl⟩ (fun r3 s3 H locs q3 h => ?_)
  obtain ⟨d3, rfl⟩ := q3
  rcases d3 with ⟨rfl, m3_0n, m3_0P, u3_0_0, u3_0_1, u3_0_2, rfl⟩ | rfl
  · skip
    obtain rfl : m1_0P = m3_0P := y_eq (by omega) (by omega) ((u1_0_0).symm.trans u3_0_0)
    refine lv_if_eq (tgt := 34) hx hb dX12_like_9 (by decide) (fun c => absurd c (by decide)) (fun _ => ?_)
    refine lv_aload_n hx hb dX12_like_12 rfl (lv_at hl 0 rfl) ?_
    refine lv_iload_n hx hb dX12_like_13 rfl (lv_at hl 2 rfl) ?_
    refine x_vi E h (na := 1) (As := [.int p2]) (aX12_isPiece_0 l g s1 hI1 p2) (oc_mo g) rfl gX12_like_X12_isPiece rfl ⟨rfl, rfl⟩ rfl (by decide +kernel) ⟨Nat.le_of_ble_eq_true rfl, Nat.le_of_ble_eq_true rfl⟩ hl.1 rfl (Nat.le_of_ble_eq_true rfl) dX12_like_14 ⟨Nat.le_of_ble_eq_true rfl, Nat.le_of_ble_eq_true rfl⟩ (fun r4 s4 H locs q4 h => ?_)
    obtain ⟨d4, rfl⟩ := q4
    rcases d4 with ⟨rfl, m4_0n, m4_0P, u4_0_0, u4_0_1, u4_0_2, rfl⟩ | rfl
    · skip
      obtain rfl : m1_0P = m4_0P := y_eq (by omega) (by omega) ((u1_0_0).symm.trans u4_0_0)
      refine lv_if_eq (tgt := 34) hx hb dX12_like_17 (by decide) (fun c => absurd c (by decide)) (fun _ => ?_)
      refine lv_iload_n hx hb dX12_like_20 rfl (lv_at hl 1 rfl) ?_
      refine lv_iload_n hx hb dX12_like_21 rfl (lv_at hl 2 rfl) ?_
      refine lv_icmp_eq (tgt := 34) hx hb dX12_like_22 (by decide) (fun c5 => ?_) (fun c5 => ?_)
      · skip
        have b6 : m3_0n = m4_0n := y_eq (a := m3_0n) (b := m4_0n) (by omega) (by omega) c5
        refine lv_ldc (v := (-1000000)) hx hb hown (hts (.constant RX12 215 (-1000000)) (by decide +kernel)) dX12_like_34 ?_
        exact x_iret E h ⟨hI1, hF1⟩ dX12_like_36
      · skip
        have b7 : ¬ m3_0n = m4_0n := y_ne (a := m3_0n) (b := m4_0n) (by omega) (by omega) c5
        refine lv_aload_n hx hb dX12_like_25 rfl (lv_at hl 0 rfl) ?_
        refine lv_iload_n hx hb dX12_like_26 rfl (lv_at hl 1 rfl) ?_
        refine lv_iload_n hx hb dX12_like_27 rfl (lv_at hl 2 rfl) ?_
        refine x_vi E h (na := 2) (As := [.int (nI m3_0n), .int (nI m4_0n)]) (aX12_likeOf_0 l g s1 hI1 m3_0n m4_0n (by omega) (by omega)) (oc_mo g) rfl gX12_like_X12_likeOf rfl ⟨rfl, rfl⟩ rfl (by decide +kernel) ⟨Nat.le_of_ble_eq_true rfl, Nat.le_of_ble_eq_true rfl⟩ hl.1 rfl (Nat.le_of_ble_eq_true rfl) dX12_like_28 ⟨Nat.le_of_ble_eq_true rfl, Nat.le_of_ble_eq_true rfl⟩ (fun r8 s8 H locs q8 h => ?_)
        subst q8
        refine lv_goto (tgt := 36) hx hb dX12_like_31 (by decide) ?_
        exact x_iret E h ⟨hI1, hF1⟩ dX12_like_36
    · skip
      refine lv_if_eq (tgt := 34) hx hb dX12_like_17 (by decide) (fun _ => ?_) (fun c => absurd (by decide) c)
      refine lv_ldc (v := (-1000000)) hx hb hown (hts (.constant RX12 215 (-1000000)) (by decide +kernel)) dX12_like_34 ?_
      exact x_iret E h ⟨hI1, hF1⟩ dX12_like_36
  · skip
    refine lv_if_eq (tgt := 34) hx hb dX12_like_9 (by decide) (fun _ => ?_) (fun c => absurd (by decide) c)
    refine lv_ldc (v := (-1000000)) hx hb hown (hts (.constant RX12 215 (-1000000)) (by decide +kernel)) dX12_like_34 ?_
    exact x_iret E h ⟨hI1, hF1⟩ dX12_like_36
set_option maxHeartbeats 4000000 in
set_option maxRecDepth 100000 in
theorem aX12_touch_0 (l : Launch) (g : CX) (σ : ST) (hI : INV σ) (p1 : Nat) (p2 : Nat) (hh0 : p1 < 9) (hh1 : p2 < 9) : XM l g yX12_touch wsX12_touch { frames := 1, cells := 0, slots := 0, locals := 20 } [.ref (g.2.1 79), .int (nI p1), .int (nI p2)] σ (XQi g (fun r σ' => σ = σ')) := by
  refine x_met (own := RX12) (cc := cX12_touch) (maxL := 4) (ret := (some .boolean)) (lv := [(0, .ref (g.2.1 79)), (1, .int (nI p1)), (2, .int (nI p2))]) (by decide) rfl rfl (Nat.le_of_ble_eq_true rfl) rfl ?_
  intro p e s m args below meth c ls E h hl
  have hx := E.1
  have hb := E.2.1
  have hown := E.2.2.2.1
  have hts := E.2.2.2.2.1
  have hwX12 : ∀ w ∈ wsX120, w ∈ wsX12_touch := by decide +kernel
  refine lv_iload_n hx hb dX12_touch_0 rfl (lv_at hl 1 rfl) ?_
  refine lv_iload_n hx hb dX12_touch_1 rfl (lv_at hl 2 rfl) ?_
  refine lv_icmp_ge (tgt := 9) hx hb dX12_touch_2 (by decide) (fun c1 => ?_) (fun c1 => ?_)
  · skip
    have b2 : p2 ≤ p1 := y_le (a := p2) (b := p1) (by omega) (by omega) c1
    refine lv_iload_n hx hb dX12_touch_9 rfl (lv_at hl 2 rfl) ?_
    refine lv_istore_n (lv' := [(3, .int (nI p2)), (0, .ref (g.2.1 79)), (1, .int (nI p1)), (2, .int (nI p2))]) hx hb dX12_touch_10 rfl hl (by decide) rfl (fun ls hl => ?_)
    refine lv_iload_n hx hb dX12_touch_11 rfl (lv_at hl 2 rfl) ?_
    refine lv_iload_n hx hb dX12_touch_12 rfl (lv_at hl 3 rfl) ?_
    refine lv_isub hx hb dX12_touch_13 ?_
    refine x_si E h (na := 1) (As := [.int (nI p1 - nI p2)]) (aX12_size_0 l g σ hI (nI p1 - nI p2)) gX12_touch_X12_size rfl ⟨rfl, rfl⟩ rfl (by decide +kernel) ⟨Nat.le_of_ble_eq_true rfl, Nat.le_of_ble_eq_true rfl⟩ hl.1 rfl (Nat.le_of_ble_eq_true rfl) dX12_touch_14 ⟨Nat.le_of_ble_eq_true rfl, Nat.le_of_ble_eq_true rfl⟩ (fun r3 s3 H locs q3 h => ?_)
    subst q3
    refine lv_iconst (v := 1) hx hb dX12_touch_17 (by decide) ?_
    refine lv_icmp_ne (tgt := 49) hx hb dX12_touch_18 (by decide) (fun c4 => ?_) (fun c4 => ?_)
    · skip
      refine lv_iconst (v := 0) hx hb dX12_touch_49 (by decide) ?_
      exact x_zret E h rfl rfl dX12_touch_50
    · skip
      subst c4
      refine lv_aload_n hx hb dX12_touch_21 rfl (lv_at hl 1 rfl) ?_
      refine x_getR E h (fr_mo_first g) rfl hwX12 (by decide) (by decide +kernel) dX12_touch_22 ?_
      refine lv_iload_n hx hb dX12_touch_25 rfl (lv_at hl 0 rfl) ?_
      refine x_ldI E h (ia_mo_first g) (i := nI p2) (vp_in_nI (by omega) (by decide)) (v := σ.2.2 75 p2) (congrArg (σ.2.2 75) (nI_clamp (by omega))) dX12_touch_26 ?_
      refine lv_aload_n hx hb dX12_touch_27 rfl (lv_at hl 1 rfl) ?_
      refine x_getR E h (fr_mo_many g) rfl hwX12 (by decide) (by decide +kernel) dX12_touch_28 ?_
      refine lv_iload_n hx hb dX12_touch_31 rfl (lv_at hl 0 rfl) ?_
      refine x_ldI E h (ia_mo_many g) (i := nI p2) (vp_in_nI (by omega) (by decide)) (v := σ.2.2 76 p2) (congrArg (σ.2.2 76) (nI_clamp (by omega))) dX12_touch_32 ?_
      refine lv_iadd hx hb dX12_touch_33 ?_
      refine lv_topi (fun x7 e7 => ?_)
      refine lv_aload_n hx hb dX12_touch_34 rfl (lv_at hl 1 rfl) ?_
      refine x_getR E h (fr_mo_first g) rfl hwX12 (by decide) (by decide +kernel) dX12_touch_35 ?_
      refine lv_iload_n hx hb dX12_touch_38 rfl (lv_at hl 0 rfl) ?_
      refine lv_iconst (v := 1) hx hb dX12_touch_39 (by decide) ?_
      refine lv_iadd hx hb dX12_touch_40 ?_
      refine x_topI (v2 := nI (p2 + 1)) (nI_add p2 1) ?_
      refine x_ldI E h (ia_mo_first g) (i := nI (p2 + 1)) (vp_in_nI (by omega) (by decide)) (v := σ.2.2 75 (p2 + 1)) (congrArg (σ.2.2 75) (nI_clamp (by omega))) dX12_touch_41 ?_
      refine lv_icmp_ne (tgt := 49) hx hb dX12_touch_42 (by decide) (fun c8 => ?_) (fun c8 => ?_)
      · skip
        refine lv_iconst (v := 0) hx hb dX12_touch_49 (by decide) ?_
        exact x_zret E h rfl rfl dX12_touch_50
      · skip
        refine lv_iconst (v := 1) hx hb dX12_touch_45 (by decide) ?_
        refine lv_goto (tgt := 50) hx hb dX12_touch_46 (by decide) ?_
        exact x_zret E h rfl rfl dX12_touch_50
  · skip
    have b11 : p1 < p2 := y_nle (a := p2) (b := p1) (by omega) (by omega) c1
    refine lv_iload_n hx hb dX12_touch_5 rfl (lv_at hl 1 rfl) ?_
    refine lv_goto (tgt := 10) hx hb dX12_touch_6 (by decide) ?_
    refine lv_istore_n (lv' := [(3, .int (nI p1)), (0, .ref (g.2.1 79)), (1, .int (nI p1)), (2, .int (nI p2))]) hx hb dX12_touch_10 rfl hl (by decide) rfl (fun ls hl => ?_)
    refine lv_iload_n hx hb dX12_touch_11 rfl (lv_at hl 2 rfl) ?_
    refine lv_iload_n hx hb dX12_touch_12 rfl (lv_at hl 3 rfl) ?_
    refine lv_isub hx hb dX12_touch_13 ?_
    refine x_si E h (na := 1) (As := [.int (nI p1 - nI p2)]) (aX12_size_0 l g σ hI (nI p1 - nI p2)) gX12_touch_X12_size rfl ⟨rfl, rfl⟩ rfl (by decide +kernel) ⟨Nat.le_of_ble_eq_true rfl, Nat.le_of_ble_eq_true rfl⟩ hl.1 rfl (Nat.le_of_ble_eq_true rfl) dX12_touch_14 ⟨Nat.le_of_ble_eq_true rfl, Nat.le_of_ble_eq_true rfl⟩ (fun r12 s12 H locs q12 h => ?_)
    subst q12
    refine lv_iconst (v := 1) hx hb dX12_touch_17 (by decide) ?_
    refine lv_icmp_ne (tgt := 49) hx hb dX12_touch_18 (by decide) (fun c13 => ?_) (fun c13 => ?_)
    · skip
      refine lv_iconst (v := 0) hx hb dX12_touch_49 (by decide) ?_
      exact x_zret E h rfl rfl dX12_touch_50
    · skip
      subst c13
      refine lv_aload_n hx hb dX12_touch_21 rfl (lv_at hl 1 rfl) ?_
      refine x_getR E h (fr_mo_first g) rfl hwX12 (by decide) (by decide +kernel) dX12_touch_22 ?_
      refine lv_iload_n hx hb dX12_touch_25 rfl (lv_at hl 0 rfl) ?_
      refine x_ldI E h (ia_mo_first g) (i := nI p1) (vp_in_nI (by omega) (by decide)) (v := σ.2.2 75 p1) (congrArg (σ.2.2 75) (nI_clamp (by omega))) dX12_touch_26 ?_
      refine lv_aload_n hx hb dX12_touch_27 rfl (lv_at hl 1 rfl) ?_
      refine x_getR E h (fr_mo_many g) rfl hwX12 (by decide) (by decide +kernel) dX12_touch_28 ?_
      refine lv_iload_n hx hb dX12_touch_31 rfl (lv_at hl 0 rfl) ?_
      refine x_ldI E h (ia_mo_many g) (i := nI p1) (vp_in_nI (by omega) (by decide)) (v := σ.2.2 76 p1) (congrArg (σ.2.2 76) (nI_clamp (by omega))) dX12_touch_32 ?_
      refine lv_iadd hx hb dX12_touch_33 ?_
      refine lv_topi (fun x16 e16 => ?_)
      refine lv_aload_n hx hb dX12_touch_34 rfl (lv_at hl 1 rfl) ?_
      refine x_getR E h (fr_mo_first g) rfl hwX12 (by decide) (by decide +kernel) dX12_touch_35 ?_
      refine lv_iload_n hx hb dX12_touch_38 rfl (lv_at hl 0 rfl) ?_
      refine lv_iconst (v := 1) hx hb dX12_touch_39 (by decide) ?_
      refine lv_iadd hx hb dX12_touch_40 ?_
      refine x_topI (v2 := nI (p1 + 1)) (nI_add p1 1) ?_
      refine x_ldI E h (ia_mo_first g) (i := nI (p1 + 1)) (vp_in_nI (by omega) (by decide)) (v := σ.2.2 75 (p1 + 1)) (congrArg (σ.2.2 75) (nI_clamp (by omega))) dX12_touch_41 ?_
      refine lv_icmp_ne (tgt := 49) hx hb dX12_touch_42 (by decide) (fun c17 => ?_) (fun c17 => ?_)
      · skip
        refine lv_iconst (v := 0) hx hb dX12_touch_49 (by decide) ?_
        exact x_zret E h rfl rfl dX12_touch_50
      · skip
        refine lv_iconst (v := 1) hx hb dX12_touch_45 (by decide) ?_
        refine lv_goto (tgt := 50) hx hb dX12_touch_46 (by decide) ?_
        exact x_zret E h rfl rfl dX12_touch_50
set_option maxHeartbeats 4000000 in
set_option maxRecDepth 100000 in
theorem aX12_findGains_0 (l : Launch) (g : CX) (σ : ST) (hI : INV σ) (F35 : Nat) (eF35 : σ.1 35 = nI F35) (hh0 : F35 ≤ 9) : XM l g yX12_findGains wsX12_findGains { frames := 2, cells := 0, slots := 0, locals := 44 } [.ref (g.2.1 79)] σ (XQv g (fun σ' => INV σ' ∧ Fr [] [(88, 88)] σ σ')) := by
  refine x_met (own := RX12) (cc := cX12_findGains) (maxL := 3) (ret := none) (lv := [(0, .ref (g.2.1 79))]) (by decide) rfl rfl (Nat.le_of_ble_eq_true rfl) rfl ?_
  intro p e s m args below meth c ls E h hl
  have hx := E.1
  have hb := E.2.1
  have hown := E.2.2.2.1
  have hts := E.2.2.2.2.1
  have hF : Fr [] [(88, 88)] σ σ := Fr.refl σ
  have hwX12 : ∀ w ∈ wsX120, w ∈ wsX12_findGains := by decide +kernel
  refine lv_iconst (v := 0) hx hb dX12_findGains_0 (by decide) ?_
  refine lv_istore_n (lv' := [(1, .int 0), (0, .ref (g.2.1 79))]) hx hb dX12_findGains_1 rfl hl (by decide) rfl (fun ls hl => ?_)
  have loop2_1 : ∀ (fu : Nat) (t1 : ST) (i1_1 : Nat), INV t1 → Fr [] [(88, 88)] σ t1 → t1.1 35 = nI F35 → i1_1 ≤ F35 → F35 - i1_1 < fu → ∀ (H : Heap) (locs : List Loc) (ls : Array Slot), HW g t1 s H locs → lv_has ls 3 [(1, .int (nI i1_1)), (0, .ref (g.2.1 79))] → W p l e { frames := 2, cells := 0, slots := 0, locals := 44 } s m args below meth c H locs 0 0 (MQ below (XQv g (fun σ' => INV σ' ∧ Fr [] [(88, 88)] σ σ')) args s 0 0 (Aw g)) (F0 m 2 ls []) := by
    intro fu
    induction fu with
    | zero => intro t1 i1_1 hI_1 hF_1 e2 bi1_1 hm; exact absurd hm (Nat.not_lt_zero _)
    | succ fu ih =>
      have ih1 := ih
      clear ih
      intro t1 i1_1 hI_1 hF_1 e2 bi1_1 hm1 H locs ls h hl
      refine lv_iload_n hx hb dX12_findGains_2 rfl (lv_at hl 0 rfl) ?_
      refine lv_aload_n hx hb dX12_findGains_3 rfl (lv_at hl 1 rfl) ?_
      refine x_getI E h (fi_mo_pieces g) rfl hwX12 (by decide) (by decide +kernel) (v := nI F35) e2 dX12_findGains_4 ?_
      refine lv_icmp_ge (tgt := 78) hx hb dX12_findGains_7 (by decide) (fun c3 => ?_) (fun c3 => ?_)
      · skip
        have b4 : F35 ≤ i1_1 := y_le (a := F35) (b := i1_1) (by omega) (by omega) c3
        exact x_vret E h ⟨hI_1, hF_1⟩ dX12_findGains_78
      · skip
        have b5 : i1_1 < F35 := y_nle (a := F35) (b := i1_1) (by omega) (by omega) c3
        refine lv_iconst (v := 0) hx hb dX12_findGains_10 (by decide) ?_
        refine lv_istore_n (lv' := [(2, .int 0), (1, .int (nI i1_1)), (0, .ref (g.2.1 79))]) hx hb dX12_findGains_11 rfl hl (by decide) rfl (fun ls hl => ?_)
        have loop12_6 : ∀ (fu : Nat) (t6 : ST) (i6_2 : Nat), INV t6 → Fr [] [(88, 88)] σ t6 → t6.1 35 = nI F35 → i6_2 ≤ F35 → F35 - i6_2 < fu → ∀ (H : Heap) (locs : List Loc) (ls : Array Slot), HW g t6 s H locs → lv_has ls 3 [(2, .int (nI i6_2)), (1, .int (nI i1_1)), (0, .ref (g.2.1 79))] → W p l e { frames := 2, cells := 0, slots := 0, locals := 44 } s m args below meth c H locs 0 0 (MQ below (XQv g (fun σ' => INV σ' ∧ Fr [] [(88, 88)] σ σ')) args s 0 0 (Aw g)) (F0 m 12 ls []) := by
          intro fu
          induction fu with
          | zero => intro t6 i6_2 hI_6 hF_6 e7 bi6_2 hm; exact absurd hm (Nat.not_lt_zero _)
          | succ fu ih =>
            have ih6 := ih
            clear ih
            intro t6 i6_2 hI_6 hF_6 e7 bi6_2 hm6 H locs ls h hl
            refine lv_iload_n hx hb dX12_findGains_12 rfl (lv_at hl 0 rfl) ?_
            refine lv_aload_n hx hb dX12_findGains_13 rfl (lv_at hl 2 rfl) ?_
            refine x_getI E h (fi_mo_pieces g) rfl hwX12 (by decide) (by decide +kernel) (v := nI F35) e7 dX12_findGains_14 ?_
            refine lv_icmp_ge (tgt := 72) hx hb dX12_findGains_17 (by decide) (fun c8 => ?_) (fun c8 => ?_)
            · skip
              have b9 : F35 ≤ i6_2 := y_le (a := F35) (b := i6_2) (by omega) (by omega) c8
              refine lv_iinc (v := (nI (i1_1 + 1))) (lv' := [(1, .int (nI (i1_1 + 1))), (2, .int (nI i6_2)), (0, .ref (g.2.1 79))]) hx hb dX12_findGains_72 hl (k := 1) rfl (nI_add i1_1 1) (by decide) rfl (fun ls hl => ?_)
              refine lv_goto (tgt := 2) hx hb dX12_findGains_75 (by decide) ?_
              exact ih1 t6 (i1_1 + 1) hI_6 hF_6 e7 (by omega) (by omega) _ _ _ h (lv_sub hl [0, 2] rfl)
            · skip
              have b10 : i6_2 < F35 := y_nle (a := F35) (b := i6_2) (by omega) (by omega) c8
              refine lv_aload_n hx hb dX12_findGains_20 rfl (lv_at hl 2 rfl) ?_
              refine x_getR E h (fr_mo_gain g) rfl hwX12 (by decide) (by decide +kernel) dX12_findGains_21 ?_
              refine lv_bipush (v := 9) hx hb dX12_findGains_24 (by decide) ?_
              refine lv_iload_n hx hb dX12_findGains_26 rfl (lv_at hl 1 rfl) ?_
              refine lv_imul hx hb dX12_findGains_27 ?_
              refine x_topI (v2 := nI (9 * i1_1)) (pk_mul 9 i1_1) ?_
              refine lv_iload_n hx hb dX12_findGains_28 rfl (lv_at hl 0 rfl) ?_
              refine lv_iadd hx hb dX12_findGains_29 ?_
              refine x_topI (v2 := nI ((9 * i1_1) + i6_2)) (nI_add (9 * i1_1) i6_2) ?_
              refine lv_iload_n hx hb dX12_findGains_30 rfl (lv_at hl 1 rfl) ?_
              refine lv_iload_n hx hb dX12_findGains_31 rfl (lv_at hl 0 rfl) ?_
              have j65_19 : ∀ (y19_s0 : Int32), ∀ (H : Heap) (locs : List Loc) (ls : Array Slot), HW g t6 s H locs → lv_has ls 3 [(2, .int (nI i6_2)), (1, .int (nI i1_1)), (0, .ref (g.2.1 79))] → W p l e { frames := 2, cells := 0, slots := 0, locals := 44 } s m args below meth c H locs 0 0 (MQ below (XQv g (fun σ' => INV σ' ∧ Fr [] [(88, 88)] σ σ')) args s 0 0 (Aw g)) (F0 m 65 ls [.int y19_s0, .int (nI ((9 * i1_1) + i6_2)), .ref (g.2.1 102)]) := by
                intro y19_s0 H locs ls h hl
                refine y_stI E h hI_6 hF_6 (ia_mo_gain g) (i := nI ((9 * i1_1) + i6_2)) (vp_in_nI (by omega) (by decide)) (j := ((9 * i1_1) + i6_2)) (nI_clamp (by omega)) (ba_none rfl) rfl dX12_findGains_65 (fun s20 H locs q20 hI20 hF20 h => ?_)
                have e21 : s20.1 35 = nI F35 := (congrArg (fun t : ST => t.1 35) q20).trans e7
                refine lv_iinc (v := (nI (i6_2 + 1))) (lv' := [(2, .int (nI (i6_2 + 1))), (1, .int (nI i1_1)), (0, .ref (g.2.1 79))]) hx hb dX12_findGains_66 hl (k := 0) rfl (nI_add i6_2 1) (by decide) rfl (fun ls hl => ?_)
                refine lv_goto (tgt := 12) hx hb dX12_findGains_69 (by decide) ?_
                exact ih6 s20 (i6_2 + 1) hI20 hF20 e21 (by omega) (by omega) _ _ _ h (lv_sub hl [0, 1, 2] rfl)
              refine lv_icmp_ne (tgt := 39) hx hb dX12_findGains_32 (by decide) (fun c11 => ?_) (fun c11 => ?_)
              · skip
                have b12 : ¬ i1_1 = i6_2 := y_ne (a := i1_1) (b := i6_2) (by omega) (by omega) c11
                refine lv_aload_n hx hb dX12_findGains_39 rfl (lv_at hl 2 rfl) ?_
                refine lv_iload_n hx hb dX12_findGains_40 rfl (lv_at hl 1 rfl) ?_
                refine lv_iload_n hx hb dX12_findGains_41 rfl (lv_at hl 0 rfl) ?_
                refine x_vi E h (na := 2) (As := [.int (nI i1_1), .int (nI i6_2)]) (aX12_likeOf_0 l g t6 hI_6 i1_1 i6_2 (by omega) (by omega)) (oc_mo g) rfl gX12_findGains_X12_likeOf rfl ⟨rfl, rfl⟩ rfl (by decide +kernel) ⟨Nat.le_of_ble_eq_true rfl, Nat.le_of_ble_eq_true rfl⟩ hl.1 rfl (Nat.le_of_ble_eq_true rfl) dX12_findGains_42 ⟨Nat.le_of_ble_eq_true rfl, Nat.le_of_ble_eq_true rfl⟩ (fun r13 s13 H locs q13 h => ?_)
                subst q13
                refine lv_aload_n hx hb dX12_findGains_45 rfl (lv_at hl 2 rfl) ?_
                refine lv_iload_n hx hb dX12_findGains_46 rfl (lv_at hl 1 rfl) ?_
                refine lv_iload_n hx hb dX12_findGains_47 rfl (lv_at hl 0 rfl) ?_
                refine x_vi E h (na := 2) (As := [.int (nI i1_1), .int (nI i6_2)]) (aX12_touch_0 l g t6 hI_6 i1_1 i6_2 (by omega) (by omega)) (oc_mo g) rfl gX12_findGains_X12_touch rfl ⟨rfl, rfl⟩ rfl (by decide +kernel) ⟨Nat.le_of_ble_eq_true rfl, Nat.le_of_ble_eq_true rfl⟩ hl.1 rfl (Nat.le_of_ble_eq_true rfl) dX12_findGains_48 ⟨Nat.le_of_ble_eq_true rfl, Nat.le_of_ble_eq_true rfl⟩ (fun r14 s14 H locs q14 h => ?_)
                subst q14
                have j64_17 : ∀ (y17_s0 : Int32), ∀ (H : Heap) (locs : List Loc) (ls : Array Slot), HW g t6 s H locs → lv_has ls 3 [(2, .int (nI i6_2)), (1, .int (nI i1_1)), (0, .ref (g.2.1 79))] → W p l e { frames := 2, cells := 0, slots := 0, locals := 44 } s m args below meth c H locs 0 0 (MQ below (XQv g (fun σ' => INV σ' ∧ Fr [] [(88, 88)] σ σ')) args s 0 0 (Aw g)) (F0 m 64 ls [.int y17_s0, .int r13, .int (nI ((9 * i1_1) + i6_2)), .ref (g.2.1 102)]) := by
                  intro y17_s0 H locs ls h hl
                  refine lv_isub hx hb dX12_findGains_64 ?_
                  refine lv_topi (fun x18 e18 => ?_)
                  exact j65_19 x18 _ _ _ h (lv_sub hl [0, 1, 2] rfl)
                refine lv_if_eq (tgt := 63) hx hb dX12_findGains_51 (by decide) (fun c15 => ?_) (fun c15 => ?_)
                · skip
                  subst c15
                  refine lv_iconst (v := 0) hx hb dX12_findGains_63 (by decide) ?_
                  exact j64_17 0 _ _ _ h (lv_sub hl [0, 1, 2] rfl)
                · skip
                  refine lv_aload_n hx hb dX12_findGains_54 rfl (lv_at hl 2 rfl) ?_
                  refine x_getR E h (fr_mo_rule g) rfl hwX12 (by decide) (by decide +kernel) dX12_findGains_55 ?_
                  refine lv_iconst (v := 4) hx hb dX12_findGains_58 (by decide) ?_
                  refine x_ldI E h (ia_mo_rule g) (i := nI 4) (vp_in_nI (by omega) (by decide)) (v := t6.2.2 66 4) (congrArg (t6.2.2 66) (nI_clamp (by omega))) dX12_findGains_59 ?_
                  refine lv_goto (tgt := 64) hx hb dX12_findGains_60 (by decide) ?_
                  exact j64_17 (t6.2.2 66 4) _ _ _ h (lv_sub hl [0, 1, 2] rfl)
              · skip
                have b23 : i1_1 = i6_2 := y_eq (a := i1_1) (b := i6_2) (by omega) (by omega) c11
                refine lv_iconst (v := 0) hx hb dX12_findGains_35 (by decide) ?_
                refine lv_goto (tgt := 65) hx hb dX12_findGains_36 (by decide) ?_
                exact j65_19 0 _ _ _ h (lv_sub hl [0, 1, 2] rfl)
        exact loop12_6 _ t1 0 hI_1 hF_1 e2 (Nat.zero_le _) (Nat.lt_succ_self _) _ _ _ h (lv_sub hl [0, 1, 2] rfl)
  exact loop2_1 _ σ 0 hI hF eF35 (Nat.zero_le _) (Nat.lt_succ_self _) _ _ _ h (lv_sub hl [0, 1] rfl)
set_option maxHeartbeats 4000000 in
set_option maxRecDepth 100000 in
theorem aX12_begin_0 (l : Launch) (g : CX) (σ : ST) (hI : INV σ)  : XM l g yX12_begin wsX12_begin { frames := 0, cells := 0, slots := 0, locals := 0 } [.ref (g.2.1 79)] σ (XQv g (fun σ' => ((AP (σ'.2.2 85) 0 10 HQ)) ∧ INV σ' ∧ Fr [] [(85, 85)] σ σ')) := by
  refine x_met (own := RX12) (cc := cX12_begin) (maxL := 2) (ret := none) (lv := [(0, .ref (g.2.1 79))]) (by decide) rfl rfl (Nat.le_of_ble_eq_true rfl) rfl ?_
  intro p e s m args below meth c ls E h hl
  have hx := E.1
  have hb := E.2.1
  have hown := E.2.2.2.1
  have hts := E.2.2.2.2.1
  have hF : Fr [] [(85, 85)] σ σ := Fr.refl σ
  have hwX12 : ∀ w ∈ wsX120, w ∈ wsX12_begin := by decide +kernel
  refine lv_iconst (v := 0) hx hb dX12_begin_0 (by decide) ?_
  refine lv_istore_n (lv' := [(1, .int 0), (0, .ref (g.2.1 79))]) hx hb dX12_begin_1 rfl hl (by decide) rfl (fun ls hl => ?_)
  have loop2_1 : ∀ (fu : Nat) (t1 : ST) (i1_1 : Nat), INV t1 → Fr [] [(85, 85)] σ t1 → i1_1 ≤ 10 → AP (t1.2.2 85) 0 i1_1 HQ → 10 - i1_1 < fu → ∀ (H : Heap) (locs : List Loc) (ls : Array Slot), HW g t1 s H locs → lv_has ls 2 [(1, .int (nI i1_1)), (0, .ref (g.2.1 79))] → W p l e { frames := 0, cells := 0, slots := 0, locals := 0 } s m args below meth c H locs 0 0 (MQ below (XQv g (fun σ' => ((AP (σ'.2.2 85) 0 10 HQ)) ∧ INV σ' ∧ Fr [] [(85, 85)] σ σ')) args s 0 0 (Aw g)) (F0 m 2 ls []) := by
    intro fu
    induction fu with
    | zero => intro t1 i1_1 hI_1 hF_1 bi1_1 h0_1 hm; exact absurd hm (Nat.not_lt_zero _)
    | succ fu ih =>
      have ih1 := ih
      clear ih
      intro t1 i1_1 hI_1 hF_1 bi1_1 h0_1 hm1 H locs ls h hl
      refine lv_iload_n hx hb dX12_begin_2 rfl (lv_at hl 0 rfl) ?_
      refine lv_bipush (v := 10) hx hb dX12_begin_3 (by decide) ?_
      refine lv_icmp_ge (tgt := 21) hx hb dX12_begin_5 (by decide) (fun c2 => ?_) (fun c2 => ?_)
      · skip
        have b3 : 10 ≤ i1_1 := y_le (a := 10) (b := i1_1) (by omega) (by omega) c2
        exact x_vret E h ⟨((AP.sub h0_1 (by omega))), hI_1, hF_1⟩ dX12_begin_21
      · skip
        have b4 : i1_1 < 10 := y_nle (a := 10) (b := i1_1) (by omega) (by omega) c2
        refine lv_aload_n hx hb dX12_begin_8 rfl (lv_at hl 1 rfl) ?_
        refine x_getR E h (fr_mo_heap g) rfl hwX12 (by decide) (by decide +kernel) dX12_begin_9 ?_
        refine lv_iload_n hx hb dX12_begin_12 rfl (lv_at hl 0 rfl) ?_
        refine lv_iconst (v := 0) hx hb dX12_begin_13 (by decide) ?_
        refine y_stI E h hI_1 hF_1 (ia_mo_heap g) (i := nI i1_1) (vp_in_nI (by omega) (by decide)) (j := i1_1) (nI_clamp (by omega)) (ba_some rfl (Bd.mk (n := 0) (by omega))) rfl dX12_begin_14 (fun s5 H locs q5 hI5 hF5 h => ?_)
        have a7 := AP.push (Q := HQ) h0_1 (show s5.2.2 85 = upd (t1.2.2 85) i1_1 0 from congrArg (fun t : ST => t.2.2 85) q5) (HQ.mk (n := 0) (by omega) (by omega))
        refine lv_iinc (v := (nI (i1_1 + 1))) (lv' := [(1, .int (nI (i1_1 + 1))), (0, .ref (g.2.1 79))]) hx hb dX12_begin_15 hl (k := 0) rfl (nI_add i1_1 1) (by decide) rfl (fun ls hl => ?_)
        refine lv_goto (tgt := 2) hx hb dX12_begin_18 (by decide) ?_
        exact ih1 s5 (i1_1 + 1) hI5 hF5 (by omega) a7 (by omega) _ _ _ h (lv_sub hl [0, 1] rfl)
  exact loop2_1 _ σ 0 hI hF (Nat.zero_le _) AP.none (Nat.lt_succ_self _) _ _ _ h (lv_sub hl [0, 1] rfl)
set_option maxHeartbeats 4000000 in
set_option maxRecDepth 100000 in
theorem aX12_worthOf_0 (l : Launch) (g : CX) (σ : ST) (hI : INV σ) (F35 : Nat) (eF35 : σ.1 35 = nI F35) (hh0 : F35 ≤ 9) : XM l g yX12_worthOf wsX12_worthOf { frames := 0, cells := 0, slots := 0, locals := 0 } [.ref (g.2.1 79), .ref (g.2.1 99)] σ (XQi g (fun r σ' => σ = σ')) := by
  refine x_met (own := RX12) (cc := cX12_worthOf) (maxL := 5) (ret := (some .int)) (lv := [(0, .ref (g.2.1 79)), (1, .ref (g.2.1 99))]) (by decide) rfl rfl (Nat.le_of_ble_eq_true rfl) rfl ?_
  intro p e s m args below meth c ls E h hl
  have hx := E.1
  have hb := E.2.1
  have hown := E.2.2.2.1
  have hts := E.2.2.2.2.1
  have hwX12 : ∀ w ∈ wsX120, w ∈ wsX12_worthOf := by decide +kernel
  refine lv_iconst (v := 0) hx hb dX12_worthOf_0 (by decide) ?_
  refine lv_istore_n (lv' := [(2, .int 0), (0, .ref (g.2.1 79)), (1, .ref (g.2.1 99))]) hx hb dX12_worthOf_1 rfl hl (by decide) rfl (fun ls hl => ?_)
  refine lv_iconst (v := 0) hx hb dX12_worthOf_2 (by decide) ?_
  refine lv_istore_n (lv' := [(3, .int 0), (2, .int 0), (0, .ref (g.2.1 79)), (1, .ref (g.2.1 99))]) hx hb dX12_worthOf_3 rfl hl (by decide) rfl (fun ls hl => ?_)
  have loop4_1 : ∀ (fu : Nat) (i1_3 : Nat) (i1_2 : Int32), i1_3 ≤ F35 → F35 - i1_3 < fu → ∀ (H : Heap) (locs : List Loc) (ls : Array Slot), HW g σ s H locs → lv_has ls 5 [(3, .int (nI i1_3)), (2, .int i1_2), (0, .ref (g.2.1 79)), (1, .ref (g.2.1 99))] → W p l e { frames := 0, cells := 0, slots := 0, locals := 0 } s m args below meth c H locs 0 0 (MQ below (XQi g (fun r σ' => σ = σ')) args s 0 0 (Aw g)) (F0 m 4 ls []) := by
    intro fu
    induction fu with
    | zero => intro i1_3 i1_2 bi1_3 hm; exact absurd hm (Nat.not_lt_zero _)
    | succ fu ih =>
      have ih1 := ih
      clear ih
      intro i1_3 i1_2 bi1_3 hm1 H locs ls h hl
      refine lv_iload_n hx hb dX12_worthOf_4 rfl (lv_at hl 0 rfl) ?_
      refine lv_aload_n hx hb dX12_worthOf_5 rfl (lv_at hl 2 rfl) ?_
      refine x_getI E h (fi_mo_pieces g) rfl hwX12 (by decide) (by decide +kernel) (v := nI F35) eF35 dX12_worthOf_6 ?_
      refine lv_icmp_ge (tgt := 62) hx hb dX12_worthOf_9 (by decide) (fun c2 => ?_) (fun c2 => ?_)
      · skip
        have b3 : F35 ≤ i1_3 := y_le (a := F35) (b := i1_3) (by omega) (by omega) c2
        refine lv_iload_n hx hb dX12_worthOf_62 rfl (lv_at hl 1 rfl) ?_
        exact x_iret E h rfl dX12_worthOf_63
      · skip
        have b4 : i1_3 < F35 := y_nle (a := F35) (b := i1_3) (by omega) (by omega) c2
        refine lv_iconst (v := 0) hx hb dX12_worthOf_12 (by decide) ?_
        refine lv_istore (lv' := [(4, .int 0), (3, .int (nI i1_3)), (2, .int i1_2), (0, .ref (g.2.1 79)), (1, .ref (g.2.1 99))]) hx hb dX12_worthOf_13 hl (by decide) rfl (fun ls hl => ?_)
        have loop15_5 : ∀ (fu : Nat) (i5_4 : Nat) (i5_2 : Int32), i5_4 ≤ i1_3 → i1_3 - i5_4 < fu → ∀ (H : Heap) (locs : List Loc) (ls : Array Slot), HW g σ s H locs → lv_has ls 5 [(4, .int (nI i5_4)), (3, .int (nI i1_3)), (2, .int i5_2), (0, .ref (g.2.1 79)), (1, .ref (g.2.1 99))] → W p l e { frames := 0, cells := 0, slots := 0, locals := 0 } s m args below meth c H locs 0 0 (MQ below (XQi g (fun r σ' => σ = σ')) args s 0 0 (Aw g)) (F0 m 15 ls []) := by
          intro fu
          induction fu with
          | zero => intro i5_4 i5_2 bi5_4 hm; exact absurd hm (Nat.not_lt_zero _)
          | succ fu ih =>
            have ih5 := ih
            clear ih
            intro i5_4 i5_2 bi5_4 hm5 H locs ls h hl
            refine lv_iload hx hb dX12_worthOf_15 (lv_at hl 0 rfl) ?_
            refine lv_iload_n hx hb dX12_worthOf_17 rfl (lv_at hl 1 rfl) ?_
            refine lv_icmp_ge (tgt := 56) hx hb dX12_worthOf_18 (by decide) (fun c6 => ?_) (fun c6 => ?_)
            · skip
              have b7 : i1_3 ≤ i5_4 := y_le (a := i1_3) (b := i5_4) (by omega) (by omega) c6
              refine lv_iinc (v := (nI (i1_3 + 1))) (lv' := [(3, .int (nI (i1_3 + 1))), (4, .int (nI i5_4)), (2, .int i5_2), (0, .ref (g.2.1 79)), (1, .ref (g.2.1 99))]) hx hb dX12_worthOf_56 hl (k := 1) rfl (nI_add i1_3 1) (by decide) rfl (fun ls hl => ?_)
              refine lv_goto (tgt := 4) hx hb dX12_worthOf_59 (by decide) ?_
              exact ih1 (i1_3 + 1) i5_2 (by omega) (by omega) _ _ _ h (lv_sub hl [0, 2, 3, 4] rfl)
            · skip
              have b8 : i5_4 < i1_3 := y_nle (a := i1_3) (b := i5_4) (by omega) (by omega) c6
              refine lv_iload_n hx hb dX12_worthOf_21 rfl (lv_at hl 2 rfl) ?_
              refine lv_aload_n hx hb dX12_worthOf_22 rfl (lv_at hl 4 rfl) ?_
              refine lv_iload_n hx hb dX12_worthOf_23 rfl (lv_at hl 1 rfl) ?_
              obtain ⟨n9, b9, e9⟩ := hI.2 85 8 rfl i1_3
              refine x_ldI E h (ia_mo_heap g) (i := nI i1_3) (vp_in_nI (by omega) (by decide)) (v := nI n9) ((congrArg (σ.2.2 85) (nI_clamp (by omega))).trans e9) dX12_worthOf_24 ?_
              refine lv_aload_n hx hb dX12_worthOf_25 rfl (lv_at hl 4 rfl) ?_
              refine lv_iload hx hb dX12_worthOf_26 (lv_at hl 0 rfl) ?_
              obtain ⟨n10, b10, e10⟩ := hI.2 85 8 rfl i5_4
              refine x_ldI E h (ia_mo_heap g) (i := nI i5_4) (vp_in_nI (by omega) (by decide)) (v := nI n10) ((congrArg (σ.2.2 85) (nI_clamp (by omega))).trans e10) dX12_worthOf_28 ?_
              have j48_13 : ∀ (y13_s0 : Int32), ∀ (H : Heap) (locs : List Loc) (ls : Array Slot), HW g σ s H locs → lv_has ls 5 [(4, .int (nI i5_4)), (3, .int (nI i1_3)), (2, .int i5_2), (0, .ref (g.2.1 79)), (1, .ref (g.2.1 99))] → W p l e { frames := 0, cells := 0, slots := 0, locals := 0 } s m args below meth c H locs 0 0 (MQ below (XQi g (fun r σ' => σ = σ')) args s 0 0 (Aw g)) (F0 m 48 ls [.int y13_s0, .int i5_2]) := by
                intro y13_s0 H locs ls h hl
                refine lv_iadd hx hb dX12_worthOf_48 ?_
                refine lv_topi (fun x14 e14 => ?_)
                refine lv_istore_n (lv' := [(2, .int x14), (4, .int (nI i5_4)), (3, .int (nI i1_3)), (0, .ref (g.2.1 79)), (1, .ref (g.2.1 99))]) hx hb dX12_worthOf_49 rfl hl (by decide) rfl (fun ls hl => ?_)
                refine lv_iinc (v := (nI (i5_4 + 1))) (lv' := [(4, .int (nI (i5_4 + 1))), (2, .int x14), (3, .int (nI i1_3)), (0, .ref (g.2.1 79)), (1, .ref (g.2.1 99))]) hx hb dX12_worthOf_50 hl (k := 1) rfl (nI_add i5_4 1) (by decide) rfl (fun ls hl => ?_)
                refine lv_goto (tgt := 15) hx hb dX12_worthOf_53 (by decide) ?_
                exact ih5 (i5_4 + 1) x14 (by omega) (by omega) _ _ _ h (lv_sub hl [0, 2, 1, 3, 4] rfl)
              refine lv_icmp_ne (tgt := 47) hx hb dX12_worthOf_29 (by decide) (fun c11 => ?_) (fun c11 => ?_)
              · skip
                have b12 : ¬ n9 = n10 := y_ne (a := n9) (b := n10) (by omega) (by omega) c11
                refine lv_iconst (v := 0) hx hb dX12_worthOf_47 (by decide) ?_
                exact j48_13 0 _ _ _ h (lv_sub hl [0, 1, 2, 3, 4] rfl)
              · skip
                have b15 : n9 = n10 := y_eq (a := n9) (b := n10) (by omega) (by omega) c11
                refine lv_aload_n hx hb dX12_worthOf_32 rfl (lv_at hl 3 rfl) ?_
                refine x_getR E h (fr_mo_gain g) rfl hwX12 (by decide) (by decide +kernel) dX12_worthOf_33 ?_
                refine lv_bipush (v := 9) hx hb dX12_worthOf_36 (by decide) ?_
                refine lv_iload_n hx hb dX12_worthOf_38 rfl (lv_at hl 1 rfl) ?_
                refine lv_imul hx hb dX12_worthOf_39 ?_
                refine x_topI (v2 := nI (9 * i1_3)) (pk_mul 9 i1_3) ?_
                refine lv_iload hx hb dX12_worthOf_40 (lv_at hl 0 rfl) ?_
                refine lv_iadd hx hb dX12_worthOf_42 ?_
                refine x_topI (v2 := nI ((9 * i1_3) + i5_4)) (nI_add (9 * i1_3) i5_4) ?_
                refine x_ldI E h (ia_mo_gain g) (i := nI ((9 * i1_3) + i5_4)) (vp_in_nI (by omega) (by decide)) (v := σ.2.2 88 ((9 * i1_3) + i5_4)) (congrArg (σ.2.2 88) (nI_clamp (by omega))) dX12_worthOf_43 ?_
                refine lv_goto (tgt := 48) hx hb dX12_worthOf_44 (by decide) ?_
                exact j48_13 (σ.2.2 88 ((9 * i1_3) + i5_4)) _ _ _ h (lv_sub hl [0, 1, 2, 3, 4] rfl)
        exact loop15_5 _ 0 i1_2 (Nat.zero_le _) (Nat.lt_succ_self _) _ _ _ h (lv_sub hl [0, 1, 2, 3, 4] rfl)
  exact loop4_1 _ 0 0 (Nat.zero_le _) (Nat.lt_succ_self _) _ _ _ h (lv_sub hl [0, 1, 2, 3] rfl)
set_option maxHeartbeats 4000000 in
set_option maxRecDepth 100000 in
theorem aX12_heapsIn_0 (l : Launch) (g : CX) (σ : ST) (hI : INV σ) (p1 : Nat) (hh0 : p1 ≤ 9) (hHP : AP (σ.2.2 85) 0 10 HQ) : XM l g yX12_heapsIn wsX12_heapsIn { frames := 0, cells := 0, slots := 0, locals := 0 } [.ref (g.2.1 99), .int (nI p1)] σ (XQi g (fun r σ' => ((∃ n : Nat, n ≤ p1 ∧ r = nI n)) ∧ σ = σ')) := by
  refine x_met (own := RX12) (cc := cX12_heapsIn) (maxL := 4) (ret := (some .int)) (lv := [(0, .ref (g.2.1 99)), (1, .int (nI p1))]) (by decide) rfl rfl (Nat.le_of_ble_eq_true rfl) rfl ?_
  intro p e s m args below meth c ls E h hl
  have hx := E.1
  have hb := E.2.1
  have hown := E.2.2.2.1
  have hts := E.2.2.2.2.1
  refine lv_iconst (v := 0) hx hb dX12_heapsIn_0 (by decide) ?_
  refine lv_istore_n (lv' := [(2, .int 0), (0, .ref (g.2.1 99)), (1, .int (nI p1))]) hx hb dX12_heapsIn_1 rfl hl (by decide) rfl (fun ls hl => ?_)
  refine lv_iconst (v := 0) hx hb dX12_heapsIn_2 (by decide) ?_
  refine lv_istore_n (lv' := [(3, .int 0), (2, .int 0), (0, .ref (g.2.1 99)), (1, .int (nI p1))]) hx hb dX12_heapsIn_3 rfl hl (by decide) rfl (fun ls hl => ?_)
  have loop4_1 : ∀ (fu : Nat) (i1_3 : Nat) (i1_2 : Nat), i1_3 ≤ p1 → i1_2 ≤ 9 → i1_2 ≤ i1_3 → p1 - i1_3 < fu → ∀ (H : Heap) (locs : List Loc) (ls : Array Slot), HW g σ s H locs → lv_has ls 4 [(3, .int (nI i1_3)), (2, .int (nI i1_2)), (0, .ref (g.2.1 99)), (1, .int (nI p1))] → W p l e { frames := 0, cells := 0, slots := 0, locals := 0 } s m args below meth c H locs 0 0 (MQ below (XQi g (fun r σ' => ((∃ n : Nat, n ≤ p1 ∧ r = nI n)) ∧ σ = σ')) args s 0 0 (Aw g)) (F0 m 4 ls []) := by
    intro fu
    induction fu with
    | zero => intro i1_3 i1_2 bi1_3 bi1_2 pp1_0 hm; exact absurd hm (Nat.not_lt_zero _)
    | succ fu ih =>
      have ih1 := ih
      clear ih
      intro i1_3 i1_2 bi1_3 bi1_2 pp1_0 hm1 H locs ls h hl
      refine lv_iload_n hx hb dX12_heapsIn_4 rfl (lv_at hl 0 rfl) ?_
      refine lv_iload_n hx hb dX12_heapsIn_5 rfl (lv_at hl 3 rfl) ?_
      refine lv_icmp_ge (tgt := 32) hx hb dX12_heapsIn_6 (by decide) (fun c2 => ?_) (fun c2 => ?_)
      · skip
        have b3 : p1 ≤ i1_3 := y_le (a := p1) (b := i1_3) (by omega) (by omega) c2
        refine lv_iload_n hx hb dX12_heapsIn_32 rfl (lv_at hl 1 rfl) ?_
        exact x_iret E h ⟨(⟨i1_2, (by omega), rfl⟩), rfl⟩ dX12_heapsIn_33
      · skip
        have b4 : i1_3 < p1 := y_nle (a := p1) (b := i1_3) (by omega) (by omega) c2
        refine lv_aload_n hx hb dX12_heapsIn_9 rfl (lv_at hl 2 rfl) ?_
        refine lv_iload_n hx hb dX12_heapsIn_10 rfl (lv_at hl 0 rfl) ?_
        obtain ⟨n5, b5, e5⟩ := hI.2 85 8 rfl i1_3
        have b6 := HQ.le (hHP i1_3 (Nat.zero_le _) (by omega)) e5 (by omega)
        refine x_ldI E h (ia_mo_heap g) (i := nI i1_3) (vp_in_nI (by omega) (by decide)) (v := nI n5) ((congrArg (σ.2.2 85) (nI_clamp (by omega))).trans e5) dX12_heapsIn_11 ?_
        refine lv_iload_n hx hb dX12_heapsIn_12 rfl (lv_at hl 1 rfl) ?_
        refine lv_icmp_lt (tgt := 24) hx hb dX12_heapsIn_13 (by decide) (fun c7 => ?_) (fun c7 => ?_)
        · skip
          have b8 : n5 < i1_2 := y_lt (a := n5) (b := i1_2) (by omega) (by omega) c7
          refine lv_iload_n hx hb dX12_heapsIn_24 rfl (lv_at hl 1 rfl) ?_
          refine lv_istore_n (lv' := [(2, .int (nI i1_2)), (3, .int (nI i1_3)), (0, .ref (g.2.1 99)), (1, .int (nI p1))]) hx hb dX12_heapsIn_25 rfl hl (by decide) rfl (fun ls hl => ?_)
          refine lv_iinc (v := (nI (i1_3 + 1))) (lv' := [(3, .int (nI (i1_3 + 1))), (2, .int (nI i1_2)), (0, .ref (g.2.1 99)), (1, .int (nI p1))]) hx hb dX12_heapsIn_26 hl (k := 1) rfl (nI_add i1_3 1) (by decide) rfl (fun ls hl => ?_)
          refine lv_goto (tgt := 4) hx hb dX12_heapsIn_29 (by decide) ?_
          exact ih1 (i1_3 + 1) i1_2 (by omega) (by omega) (by omega) (by omega) _ _ _ h (lv_sub hl [0, 1, 2, 3] rfl)
        · skip
          have b9 : i1_2 ≤ n5 := y_nlt (a := n5) (b := i1_2) (by omega) (by omega) c7
          refine lv_aload_n hx hb dX12_heapsIn_16 rfl (lv_at hl 2 rfl) ?_
          refine lv_iload_n hx hb dX12_heapsIn_17 rfl (lv_at hl 0 rfl) ?_
          refine x_ldI E h (ia_mo_heap g) (i := nI i1_3) (vp_in_nI (by omega) (by decide)) (v := nI n5) ((congrArg (σ.2.2 85) (nI_clamp (by omega))).trans e5) dX12_heapsIn_18 ?_
          refine lv_iconst (v := 1) hx hb dX12_heapsIn_19 (by decide) ?_
          refine lv_iadd hx hb dX12_heapsIn_20 ?_
          refine x_topI (v2 := nI (n5 + 1)) (nI_add n5 1) ?_
          refine lv_goto (tgt := 25) hx hb dX12_heapsIn_21 (by decide) ?_
          refine lv_istore_n (lv' := [(2, .int (nI (n5 + 1))), (3, .int (nI i1_3)), (0, .ref (g.2.1 99)), (1, .int (nI p1))]) hx hb dX12_heapsIn_25 rfl hl (by decide) rfl (fun ls hl => ?_)
          refine lv_iinc (v := (nI (i1_3 + 1))) (lv' := [(3, .int (nI (i1_3 + 1))), (2, .int (nI (n5 + 1))), (0, .ref (g.2.1 99)), (1, .int (nI p1))]) hx hb dX12_heapsIn_26 hl (k := 1) rfl (nI_add i1_3 1) (by decide) rfl (fun ls hl => ?_)
          refine lv_goto (tgt := 4) hx hb dX12_heapsIn_29 (by decide) ?_
          exact ih1 (i1_3 + 1) (n5 + 1) (by omega) (by omega) (by omega) (by omega) _ _ _ h (lv_sub hl [0, 1, 2, 3] rfl)
  exact loop4_1 _ 0 0 (Nat.zero_le _) (Nat.zero_le _) (by omega) (Nat.lt_succ_self _) _ _ _ h (lv_sub hl [0, 1, 2, 3] rfl)
set_option maxHeartbeats 4000000 in
set_option maxRecDepth 100000 in
theorem aX12_goOn_0 (l : Launch) (g : CX) (σ : ST) (hI : INV σ) (F35 : Nat) (eF35 : σ.1 35 = nI F35) (hh0 : F35 ≤ 9) (hHP : AP (σ.2.2 85) 0 10 HQ) : XM l g yX12_goOn wsX12_goOn { frames := 1, cells := 0, slots := 0, locals := 23 } [.ref (g.2.1 79)] σ (XQi g (fun r σ' => ((1 = r ∧ AP (σ'.2.2 85) 0 10 HQ ∧ hv (σ.2.2 85) F35 < hv (σ'.2.2 85) F35) ∨ (0 = r)) ∧ INV σ' ∧ Fr [] [(85, 85)] σ σ')) := by
  refine x_met (own := RX12) (cc := cX12_goOn) (maxL := 3) (ret := (some .boolean)) (lv := [(0, .ref (g.2.1 79))]) (by decide) rfl rfl (Nat.le_of_ble_eq_true rfl) rfl ?_
  intro p e s m args below meth c ls E h hl
  have hx := E.1
  have hb := E.2.1
  have hown := E.2.2.2.1
  have hts := E.2.2.2.2.1
  have hF : Fr [] [(85, 85)] σ σ := Fr.refl σ
  have hwX12 : ∀ w ∈ wsX120, w ∈ wsX12_goOn := by decide +kernel
  refine lv_aload_n hx hb dX12_goOn_0 rfl (lv_at hl 0 rfl) ?_
  refine x_getI E h (fi_mo_pieces g) rfl hwX12 (by decide) (by decide +kernel) (v := nI F35) eF35 dX12_goOn_1 ?_
  refine lv_iconst (v := 1) hx hb dX12_goOn_4 (by decide) ?_
  refine lv_isub hx hb dX12_goOn_5 ?_
  refine lv_istore_n (lv' := [(1, .int (nI F35 - 1)), (0, .ref (g.2.1 79))]) hx hb dX12_goOn_6 rfl hl (by decide) rfl (fun ls hl => ?_)
  have loop7_1 : ∀ (fu : Nat) (t1 : ST) (i1_1 : Nat), INV t1 → Fr [] [(85, 85)] σ t1 → t1.1 35 = nI F35 → i1_1 ≤ F35 → AP (t1.2.2 85) 0 10 HQ → t1.2.2 85 = σ.2.2 85 → i1_1 < fu → ∀ (H : Heap) (locs : List Loc) (ls : Array Slot), HW g t1 s H locs → lv_has ls 3 [(1, .int (nI i1_1 - 1)), (0, .ref (g.2.1 79))] → W p l e { frames := 1, cells := 0, slots := 0, locals := 23 } s m args below meth c H locs 0 0 (MQ below (XQi g (fun r σ' => ((1 = r ∧ AP (σ'.2.2 85) 0 10 HQ ∧ hv (σ.2.2 85) F35 < hv (σ'.2.2 85) F35) ∨ (0 = r)) ∧ INV σ' ∧ Fr [] [(85, 85)] σ σ')) args s 0 0 (Aw g)) (F0 m 7 ls []) := by
    intro fu
    induction fu with
    | zero => intro t1 i1_1 hI_1 hF_1 e2 bi1_1 hp_1 he_1 hm; exact absurd hm (Nat.not_lt_zero _)
    | succ fu ih =>
      have ih1 := ih
      clear ih
      intro t1 i1_1 hI_1 hF_1 e2 bi1_1 hp_1 he_1 hm1 H locs ls h hl
      refine lv_iload_n hx hb dX12_goOn_7 rfl (lv_at hl 0 rfl) ?_
      refine lv_if_le (tgt := 71) hx hb dX12_goOn_8 (by decide) (fun c3 => ?_) (fun c3 => ?_)
      · skip
        have b4 : i1_1 ≤ 0 + 1 := y_leL (a := i1_1) (b := 0) (by omega) (by omega) c3
        refine lv_iconst (v := 0) hx hb dX12_goOn_71 (by decide) ?_
        exact x_zret E h rfl ⟨(Or.inr (rfl)), hI_1, hF_1⟩ dX12_goOn_72
      · skip
        have b5 : 0 + 1 < i1_1 := y_nleL (a := i1_1) (b := 0) (by omega) (by omega) c3
        obtain ⟨n6, rfl⟩ : ∃ z, i1_1 = z + 1 := ⟨i1_1 - 1, by omega⟩
        rw [nI_pred] at hl
        refine lv_aload_n hx hb dX12_goOn_11 rfl (lv_at hl 1 rfl) ?_
        refine x_getR E h (fr_mo_heap g) rfl hwX12 (by decide) (by decide +kernel) dX12_goOn_12 ?_
        refine lv_iload_n hx hb dX12_goOn_15 rfl (lv_at hl 0 rfl) ?_
        obtain ⟨n7, b7, e7⟩ := hI_1.2 85 8 rfl n6
        have b8 := HQ.le (hp_1 n6 (Nat.zero_le _) (by omega)) e7 (by omega)
        refine x_ldI E h (ia_mo_heap g) (i := nI n6) (vp_in_nI (by omega) (by decide)) (v := nI n7) ((congrArg (t1.2.2 85) (nI_clamp (by omega))).trans e7) dX12_goOn_16 ?_
        refine lv_aload_n hx hb dX12_goOn_17 rfl (lv_at hl 1 rfl) ?_
        refine x_getR E h (fr_mo_heap g) rfl hwX12 (by decide) (by decide +kernel) dX12_goOn_18 ?_
        refine lv_iload_n hx hb dX12_goOn_21 rfl (lv_at hl 0 rfl) ?_
        refine x_si E h (na := 2) (As := [.ref (g.2.1 99), .int (nI n6)]) (aX12_heapsIn_0 l g t1 hI_1 n6 (by omega) hp_1) gX12_goOn_X12_heapsIn rfl ⟨rfl, rfl⟩ rfl (by decide +kernel) ⟨Nat.le_of_ble_eq_true rfl, Nat.le_of_ble_eq_true rfl⟩ hl.1 rfl (Nat.le_of_ble_eq_true rfl) dX12_goOn_22 ⟨Nat.le_of_ble_eq_true rfl, Nat.le_of_ble_eq_true rfl⟩ (fun r9 s9 H locs q9 h => ?_)
        obtain ⟨d9, rfl⟩ := q9
        rcases d9 with ⟨m9_0n, u9_0_0, rfl⟩
        refine lv_icmp_ge (tgt := 65) hx hb dX12_goOn_25 (by decide) (fun c10 => ?_) (fun c10 => ?_)
        · skip
          have b11 : m9_0n ≤ n7 := y_le (a := m9_0n) (b := n7) (by omega) (by omega) c10
          refine lv_iinc (v := (nI n6 - 1)) (lv' := [(1, .int (nI n6 - 1)), (0, .ref (g.2.1 79))]) hx hb dX12_goOn_65 hl (k := 0) rfl (y_m1 n6) (by decide) rfl (fun ls hl => ?_)
          refine lv_goto (tgt := 7) hx hb dX12_goOn_68 (by decide) ?_
          exact ih1 t1 n6 hI_1 hF_1 e2 (by omega) hp_1 he_1 (by omega) _ _ _ h (lv_sub hl [0, 1] rfl)
        · skip
          have b12 : n7 < m9_0n := y_nle (a := m9_0n) (b := n7) (by omega) (by omega) c10
          refine lv_aload_n hx hb dX12_goOn_28 rfl (lv_at hl 1 rfl) ?_
          refine x_getR E h (fr_mo_heap g) rfl hwX12 (by decide) (by decide +kernel) dX12_goOn_29 ?_
          refine lv_iload_n hx hb dX12_goOn_32 rfl (lv_at hl 0 rfl) ?_
          refine lv_dup2_11 hx hb dX12_goOn_33 rfl rfl ?_
          refine x_ldI E h (ia_mo_heap g) (i := nI n6) (vp_in_nI (by omega) (by decide)) (v := nI n7) ((congrArg (t1.2.2 85) (nI_clamp (by omega))).trans e7) dX12_goOn_34 ?_
          refine lv_iconst (v := 1) hx hb dX12_goOn_35 (by decide) ?_
          refine lv_iadd hx hb dX12_goOn_36 ?_
          refine x_topI (v2 := nI (n7 + 1)) (nI_add n7 1) ?_
          refine y_stI E h hI_1 hF_1 (ia_mo_heap g) (i := nI n6) (vp_in_nI (by omega) (by decide)) (j := n6) (nI_clamp (by omega)) (ba_some rfl (Bd.mk (n := (n7 + 1)) (by omega))) rfl dX12_goOn_37 (fun s13 H locs q13 hI13 hF13 h => ?_)
          have e14 : s13.1 35 = nI F35 := (congrArg (fun t : ST => t.1 35) q13).trans e2
          have a16 := AP.set (Q := HQ) hp_1 (show s13.2.2 85 = upd (t1.2.2 85) n6 (nI (n7 + 1)) from congrArg (fun t : ST => t.2.2 85) q13) (HQ.mk (n := (n7 + 1)) (by omega) (by omega))
          have lo17 := go_lo he_1 (show s13.2.2 85 = upd (t1.2.2 85) n6 (nI (n7 + 1)) from congrArg (fun t : ST => t.2.2 85) q13)
          have tp17 := go_tp he_1 (show s13.2.2 85 = upd (t1.2.2 85) n6 (nI (n7 + 1)) from congrArg (fun t : ST => t.2.2 85) q13) e7 (by omega)
          refine lv_iload_n hx hb dX12_goOn_38 rfl (lv_at hl 0 rfl) ?_
          refine lv_iconst (v := 1) hx hb dX12_goOn_39 (by decide) ?_
          refine lv_iadd hx hb dX12_goOn_40 ?_
          refine x_topI (v2 := nI (n6 + 1)) (nI_add n6 1) ?_
          refine lv_istore_n (lv' := [(2, .int (nI (n6 + 1))), (1, .int (nI n6)), (0, .ref (g.2.1 79))]) hx hb dX12_goOn_41 rfl hl (by decide) rfl (fun ls hl => ?_)
          have loop42_18 : ∀ (fu : Nat) (t18 : ST) (i18_2 : Nat), INV t18 → Fr [] [(85, 85)] σ t18 → t18.1 35 = nI F35 → i18_2 ≤ F35 → n6 < i18_2 → AP (t18.2.2 85) 0 10 HQ → AP (t18.2.2 85) 0 n6 (EQf (σ.2.2 85)) → AP (t18.2.2 85) n6 (n6 + 1) (SQ (σ.2.2 85)) → F35 - i18_2 < fu → ∀ (H : Heap) (locs : List Loc) (ls : Array Slot), HW g t18 s H locs → lv_has ls 3 [(2, .int (nI i18_2)), (1, .int (nI n6)), (0, .ref (g.2.1 79))] → W p l e { frames := 1, cells := 0, slots := 0, locals := 23 } s m args below meth c H locs 0 0 (MQ below (XQi g (fun r σ' => ((1 = r ∧ AP (σ'.2.2 85) 0 10 HQ ∧ hv (σ.2.2 85) F35 < hv (σ'.2.2 85) F35) ∨ (0 = r)) ∧ INV σ' ∧ Fr [] [(85, 85)] σ σ')) args s 0 0 (Aw g)) (F0 m 42 ls []) := by
            intro fu
            induction fu with
            | zero => intro t18 i18_2 hI_18 hF_18 e19 bi18_2 pp18_0 hp_18 lo_18 tp_18 hm; exact absurd hm (Nat.not_lt_zero _)
            | succ fu ih =>
              have ih18 := ih
              clear ih
              intro t18 i18_2 hI_18 hF_18 e19 bi18_2 pp18_0 hp_18 lo_18 tp_18 hm18 H locs ls h hl
              refine lv_iload_n hx hb dX12_goOn_42 rfl (lv_at hl 0 rfl) ?_
              refine lv_aload_n hx hb dX12_goOn_43 rfl (lv_at hl 2 rfl) ?_
              refine x_getI E h (fi_mo_pieces g) rfl hwX12 (by decide) (by decide +kernel) (v := nI F35) e19 dX12_goOn_44 ?_
              refine lv_icmp_ge (tgt := 63) hx hb dX12_goOn_47 (by decide) (fun c20 => ?_) (fun c20 => ?_)
              · skip
                have b21 : F35 ≤ i18_2 := y_le (a := F35) (b := i18_2) (by omega) (by omega) c20
                refine lv_iconst (v := 1) hx hb dX12_goOn_63 (by decide) ?_
                exact x_zret E h rfl ⟨(Or.inl ⟨rfl, ⟨hp_18, hv_up hHP (fun j hj => lo_18 j (Nat.zero_le _) hj) (tp_18 n6 (Nat.le_refl _) (Nat.lt_succ_self _)) _ (by omega) (by omega)⟩⟩), hI_18, hF_18⟩ dX12_goOn_64
              · skip
                have b22 : i18_2 < F35 := y_nle (a := F35) (b := i18_2) (by omega) (by omega) c20
                refine lv_aload_n hx hb dX12_goOn_50 rfl (lv_at hl 2 rfl) ?_
                refine x_getR E h (fr_mo_heap g) rfl hwX12 (by decide) (by decide +kernel) dX12_goOn_51 ?_
                refine lv_iload_n hx hb dX12_goOn_54 rfl (lv_at hl 0 rfl) ?_
                refine lv_iconst (v := 0) hx hb dX12_goOn_55 (by decide) ?_
                refine y_stI E h hI_18 hF_18 (ia_mo_heap g) (i := nI i18_2) (vp_in_nI (by omega) (by decide)) (j := i18_2) (nI_clamp (by omega)) (ba_some rfl (Bd.mk (n := 0) (by omega))) rfl dX12_goOn_56 (fun s23 H locs q23 hI23 hF23 h => ?_)
                have e24 : s23.1 35 = nI F35 := (congrArg (fun t : ST => t.1 35) q23).trans e19
                have a26 := AP.set (Q := HQ) hp_18 (show s23.2.2 85 = upd (t18.2.2 85) i18_2 (nI 0) from congrArg (fun t : ST => t.2.2 85) q23) (HQ.mk (n := 0) (by omega) (by omega))
                have a28 := AP.keep lo_18 (show s23.2.2 85 = upd (t18.2.2 85) i18_2 0 from congrArg (fun t : ST => t.2.2 85) q23) (by omega)
                have a30 := AP.keep tp_18 (show s23.2.2 85 = upd (t18.2.2 85) i18_2 0 from congrArg (fun t : ST => t.2.2 85) q23) (by omega)
                refine lv_iinc (v := (nI (i18_2 + 1))) (lv' := [(2, .int (nI (i18_2 + 1))), (1, .int (nI n6)), (0, .ref (g.2.1 79))]) hx hb dX12_goOn_57 hl (k := 0) rfl (nI_add i18_2 1) (by decide) rfl (fun ls hl => ?_)
                refine lv_goto (tgt := 42) hx hb dX12_goOn_60 (by decide) ?_
                exact ih18 s23 (i18_2 + 1) hI23 hF23 e24 (by omega) (by omega) a26 a28 a30 (by omega) _ _ _ h (lv_sub hl [0, 1, 2] rfl)
          exact loop42_18 _ s13 (n6 + 1) hI13 hF13 e14 (by omega) (by omega) a16 lo17 tp17 (Nat.lt_succ_self _) _ _ _ h (lv_sub hl [0, 1, 2] rfl)
  exact loop7_1 _ σ F35 hI hF eF35 (by omega) hHP rfl (Nat.lt_succ_self _) _ _ _ h (lv_sub hl [0, 1] rfl)
set_option maxHeartbeats 4000000 in
set_option maxRecDepth 100000 in
theorem aX12_findBest_0 (l : Launch) (g : CX) (σ : ST) (hI : INV σ)  : XM l g yX12_findBest wsX12_findBest { frames := 4, cells := 0, slots := 0, locals := 95 } [.ref (g.2.1 79)] σ (XQi g (fun r σ' => ((1 = r ∧ ∃ P R : Nat, σ'.1 35 = nI P ∧ σ'.1 31 = nI R ∧ R ≤ 48 ∧ P ≤ 9 ∧ AP (σ'.2.2 77) 0 R (PQ P) ∧ P = FPn (σ.2.2 68) (σ.2.2 69) (σ.2.2 70) (σ.2.2 66) R) ∨ (0 = r)) ∧ INV σ' ∧ Fr [(35, 39)] [(75, 86), (88, 88)] σ σ')) := by
  refine x_met (own := RX12) (cc := cX12_findBest) (maxL := 5) (ret := (some .boolean)) (lv := [(0, .ref (g.2.1 79))]) (by decide) rfl rfl (Nat.le_of_ble_eq_true rfl) rfl ?_
  intro p e s m args below meth c ls E h hl
  have hx := E.1
  have hb := E.2.1
  have hown := E.2.2.2.1
  have hts := E.2.2.2.2.1
  have hF : Fr [(35, 39)] [(75, 86), (88, 88)] σ σ := Fr.refl σ
  have hwX12 : ∀ w ∈ wsX120, w ∈ wsX12_findBest := by decide +kernel
  refine lv_aload_n hx hb dX12_findBest_0 rfl (lv_at hl 0 rfl) ?_
  refine x_vv E h (na := 0) (As := []) (aX12_findPieces_0 l g σ hI) (oc_mo g) rfl gX12_findBest_X12_findPieces rfl ⟨rfl, rfl⟩ rfl (by decide +kernel) ⟨Nat.le_of_ble_eq_true rfl, Nat.le_of_ble_eq_true rfl⟩ hl.1 rfl (Nat.le_of_ble_eq_true rfl) dX12_findBest_1 ⟨Nat.le_of_ble_eq_true rfl, Nat.le_of_ble_eq_true rfl⟩ (fun s1 H locs q1 h => ?_)
  obtain ⟨d1, hI1, f1⟩ := q1
  have hF1 := hF.call f1 (I := [(35, 39)]) (J := [(75, 86), (88, 88)]) rfl rfl
  have a2 : s1.2.2 68 = σ.2.2 68 := (f1.2 68 rfl).trans rfl
  have a3 : s1.2.2 69 = σ.2.2 69 := (f1.2 69 rfl).trans rfl
  have a4 : s1.2.2 70 = σ.2.2 70 := (f1.2 70 rfl).trans rfl
  have a5 : s1.2.2 66 = σ.2.2 66 := (f1.2 66 rfl).trans rfl
  rcases d1 with ⟨m1_0P, m1_0R, u1_0_0, u1_0_1, u1_0_2, u1_0_3, u1_0_4, u1_0_5⟩
  have fp6 : m1_0P = FPn (σ.2.2 68) (σ.2.2 69) (σ.2.2 70) (σ.2.2 66) m1_0R := u1_0_5
  refine lv_aload_n hx hb dX12_findBest_4 rfl (lv_at hl 0 rfl) ?_
  refine x_getI E h (fi_mo_pieces g) rfl hwX12 (by decide) (by decide +kernel) (v := nI m1_0P) u1_0_0 dX12_findBest_5 ?_
  refine lv_bipush (v := 9) hx hb dX12_findBest_8 (by decide) ?_
  refine lv_icmp_le (tgt := 15) hx hb dX12_findBest_10 (by decide) (fun c7 => ?_) (fun c7 => ?_)
  · skip
    have b8 : m1_0P ≤ 9 := y_le (a := m1_0P) (b := 9) (by omega) (by omega) c7
    refine lv_aload_n hx hb dX12_findBest_15 rfl (lv_at hl 0 rfl) ?_
    refine x_vv E h (na := 0) (As := []) (aX12_findGains_0 l g s1 hI1 m1_0P u1_0_0 (by omega)) (oc_mo g) rfl gX12_findBest_X12_findGains rfl ⟨rfl, rfl⟩ rfl (by decide +kernel) ⟨Nat.le_of_ble_eq_true rfl, Nat.le_of_ble_eq_true rfl⟩ hl.1 rfl (Nat.le_of_ble_eq_true rfl) dX12_findBest_16 ⟨Nat.le_of_ble_eq_true rfl, Nat.le_of_ble_eq_true rfl⟩ (fun s9 H locs q9 h => ?_)
    obtain ⟨hI9, f9⟩ := q9
    have hF9 := hF1.call f9 (I := [(35, 39)]) (J := [(75, 86), (88, 88)]) rfl rfl
    have e10 : s9.1 35 = nI m1_0P := ((f9.1 35 rfl)).trans u1_0_0
    have e11 : s9.1 31 = nI m1_0R := ((f9.1 31 rfl)).trans u1_0_1
    have a12 : s9.2.2 68 = σ.2.2 68 := (f9.2 68 rfl).trans a2
    have a13 : s9.2.2 69 = σ.2.2 69 := (f9.2 69 rfl).trans a3
    have a14 : s9.2.2 70 = σ.2.2 70 := (f9.2 70 rfl).trans a4
    have a15 : s9.2.2 66 = σ.2.2 66 := (f9.2 66 rfl).trans a5
    have a16 := AP.eq u1_0_4 (f9.2 77 rfl)
    refine lv_aload_n hx hb dX12_findBest_19 rfl (lv_at hl 0 rfl) ?_
    refine x_vv E h (na := 0) (As := []) (aX12_begin_0 l g s9 hI9) (oc_mo g) rfl gX12_findBest_X12_begin rfl ⟨rfl, rfl⟩ rfl (by decide +kernel) ⟨Nat.le_of_ble_eq_true rfl, Nat.le_of_ble_eq_true rfl⟩ hl.1 rfl (Nat.le_of_ble_eq_true rfl) dX12_findBest_20 ⟨Nat.le_of_ble_eq_true rfl, Nat.le_of_ble_eq_true rfl⟩ (fun s17 H locs q17 h => ?_)
    obtain ⟨d17, hI17, f17⟩ := q17
    have hF17 := hF9.call f17 (I := [(35, 39)]) (J := [(75, 86), (88, 88)]) rfl rfl
    have e18 : s17.1 35 = nI m1_0P := ((f17.1 35 rfl)).trans e10
    have e19 : s17.1 31 = nI m1_0R := ((f17.1 31 rfl)).trans e11
    have a20 : s17.2.2 68 = σ.2.2 68 := (f17.2 68 rfl).trans a12
    have a21 : s17.2.2 69 = σ.2.2 69 := (f17.2 69 rfl).trans a13
    have a22 : s17.2.2 70 = σ.2.2 70 := (f17.2 70 rfl).trans a14
    have a23 : s17.2.2 66 = σ.2.2 66 := (f17.2 66 rfl).trans a15
    have a24 := AP.eq a16 (f17.2 77 rfl)
    have u17_0_0 := d17
    refine lv_iconst (v := 1) hx hb dX12_findBest_23 (by decide) ?_
    refine lv_istore_n (lv' := [(1, .int 1), (0, .ref (g.2.1 79))]) hx hb dX12_findBest_24 rfl hl (by decide) rfl (fun ls hl => ?_)
    refine lv_iconst (v := 0) hx hb dX12_findBest_25 (by decide) ?_
    refine lv_istore_n (lv' := [(2, .int 0), (1, .int 1), (0, .ref (g.2.1 79))]) hx hb dX12_findBest_26 rfl hl (by decide) rfl (fun ls hl => ?_)
    have loop27_25 : ∀ (fu : Nat) (t25 : ST) (i25_2 : Int32) (i25_1 : Int32), INV t25 → Fr [(35, 39)] [(75, 86), (88, 88)] σ t25 → t25.1 35 = nI m1_0P → t25.1 31 = nI m1_0R → AP (t25.2.2 85) 0 10 HQ → AP (t25.2.2 77) 0 m1_0R (PQ m1_0P) → 1000000000 - hv (t25.2.2 85) m1_0P < fu → ∀ (H : Heap) (locs : List Loc) (ls : Array Slot), HW g t25 s H locs → lv_has ls 5 [(2, .int i25_2), (1, .int i25_1), (0, .ref (g.2.1 79))] → W p l e { frames := 4, cells := 0, slots := 0, locals := 95 } s m args below meth c H locs 0 0 (MQ below (XQi g (fun r σ' => ((1 = r ∧ ∃ P R : Nat, σ'.1 35 = nI P ∧ σ'.1 31 = nI R ∧ R ≤ 48 ∧ P ≤ 9 ∧ AP (σ'.2.2 77) 0 R (PQ P) ∧ P = FPn (σ.2.2 68) (σ.2.2 69) (σ.2.2 70) (σ.2.2 66) R) ∨ (0 = r)) ∧ INV σ' ∧ Fr [(35, 39)] [(75, 86), (88, 88)] σ σ')) args s 0 0 (Aw g)) (F0 m 27 ls []) := by
      intro fu
      induction fu with
      | zero => intro t25 i25_2 i25_1 hI_25 hF_25 e26 e27 hp_25 po_25 hm; exact absurd hm (Nat.not_lt_zero _)
      | succ fu ih =>
        have ih25 := ih
        clear ih
        intro t25 i25_2 i25_1 hI_25 hF_25 e26 e27 hp_25 po_25 hm25 H locs ls h hl
        refine lv_iload_n hx hb dX12_findBest_27 rfl (lv_at hl 1 rfl) ?_
        refine lv_if_eq (tgt := 99) hx hb dX12_findBest_28 (by decide) (fun c28 => ?_) (fun c28 => ?_)
        · skip
          subst c28
          refine lv_iconst (v := 1) hx hb dX12_findBest_99 (by decide) ?_
          exact x_zret E h rfl ⟨(Or.inl ⟨rfl, m1_0P, m1_0R, e26, e27, (by omega), (by omega), (AP.sub po_25 (by omega)), fp6⟩), hI_25, hF_25⟩ dX12_findBest_100
        · skip
          refine lv_aload_n hx hb dX12_findBest_31 rfl (lv_at hl 2 rfl) ?_
          refine lv_aload_n hx hb dX12_findBest_32 rfl (lv_at hl 2 rfl) ?_
          refine x_getR E h (fr_mo_heap g) rfl hwX12 (by decide) (by decide +kernel) dX12_findBest_33 ?_
          refine x_vi E h (na := 1) (As := [.ref (g.2.1 99)]) (aX12_worthOf_0 l g t25 hI_25 m1_0P e26 (by omega)) (oc_mo g) rfl gX12_findBest_X12_worthOf rfl ⟨rfl, rfl⟩ rfl (by decide +kernel) ⟨Nat.le_of_ble_eq_true rfl, Nat.le_of_ble_eq_true rfl⟩ hl.1 rfl (Nat.le_of_ble_eq_true rfl) dX12_findBest_36 ⟨Nat.le_of_ble_eq_true rfl, Nat.le_of_ble_eq_true rfl⟩ (fun r31 s31 H locs q31 h => ?_)
          subst q31
          refine lv_istore_n (lv' := [(3, .int r31), (2, .int i25_2), (1, .int i25_1), (0, .ref (g.2.1 79))]) hx hb dX12_findBest_39 rfl hl (by decide) rfl (fun ls hl => ?_)
          refine lv_iload_n hx hb dX12_findBest_40 rfl (lv_at hl 1 rfl) ?_
          refine lv_if_eq (tgt := 52) hx hb dX12_findBest_41 (by decide) (fun c32 => ?_) (fun c32 => ?_)
          · skip
            subst c32
            refine lv_aload_n hx hb dX12_findBest_52 rfl (lv_at hl 3 rfl) ?_
            refine lv_iload_n hx hb dX12_findBest_53 rfl (lv_at hl 0 rfl) ?_
            refine y_putI E h hI_25 hF_25 (ty := .int) (v := r31) (fi_mo_bestWorth g) rfl hwX12 tyX12_ok nmX12 (by decide) (by decide +kernel) (by decide +kernel) (by decide +kernel) rfl rfl (ba_none rfl) rfl dX12_findBest_54 (fun s34 H locs q34 hI34 hF34 h => ?_)
            have e35 : s34.1 35 = nI m1_0P := (congrArg (fun t : ST => t.1 35) q34).trans e26
            have e36 : s34.1 31 = nI m1_0R := (congrArg (fun t : ST => t.1 31) q34).trans e27
            have e37 : s34.1 39 = r31 := congrArg (fun t : ST => t.1 39) q34
            have a38 := AP.eq hp_25 (show s34.2.2 85 = t25.2.2 85 from (congrArg (fun t : ST => t.2.2 85) q34).trans rfl)
            have a39 := AP.eq po_25 (show s34.2.2 77 = t25.2.2 77 from (congrArg (fun t : ST => t.2.2 77) q34).trans rfl)
            have a40 : s34.2.2 85 = t25.2.2 85 := (show s34.2.2 85 = t25.2.2 85 from (congrArg (fun t : ST => t.2.2 85) q34).trans rfl).trans rfl
            refine lv_iconst (v := 0) hx hb dX12_findBest_57 (by decide) ?_
            refine lv_istore (lv' := [(4, .int 0), (3, .int r31), (2, .int 0), (1, .int i25_1), (0, .ref (g.2.1 79))]) hx hb dX12_findBest_58 hl (by decide) rfl (fun ls hl => ?_)
            have loop60_41 : ∀ (fu : Nat) (t41 : ST) (i41_4 : Nat), INV t41 → Fr [(35, 39)] [(75, 86), (88, 88)] σ t41 → t41.1 35 = nI m1_0P → t41.1 31 = nI m1_0R → t41.1 39 = r31 → i41_4 ≤ m1_0P → AP (t41.2.2 85) 0 10 HQ → t41.2.2 85 = t25.2.2 85 → AP (t41.2.2 77) 0 m1_0R (PQ m1_0P) → m1_0P - i41_4 < fu → ∀ (H : Heap) (locs : List Loc) (ls : Array Slot), HW g t41 s H locs → lv_has ls 5 [(4, .int (nI i41_4)), (3, .int r31), (2, .int 0), (1, .int i25_1), (0, .ref (g.2.1 79))] → W p l e { frames := 4, cells := 0, slots := 0, locals := 95 } s m args below meth c H locs 0 0 (MQ below (XQi g (fun r σ' => ((1 = r ∧ ∃ P R : Nat, σ'.1 35 = nI P ∧ σ'.1 31 = nI R ∧ R ≤ 48 ∧ P ≤ 9 ∧ AP (σ'.2.2 77) 0 R (PQ P) ∧ P = FPn (σ.2.2 68) (σ.2.2 69) (σ.2.2 70) (σ.2.2 66) R) ∨ (0 = r)) ∧ INV σ' ∧ Fr [(35, 39)] [(75, 86), (88, 88)] σ σ')) args s 0 0 (Aw g)) (F0 m 60 ls []) := by
              intro fu
              induction fu with
              | zero => intro t41 i41_4 hI_41 hF_41 e42 e43 e44 bi41_4 hp_41 hb_41 po_41 hm; exact absurd hm (Nat.not_lt_zero _)
              | succ fu ih =>
                have ih41 := ih
                clear ih
                intro t41 i41_4 hI_41 hF_41 e42 e43 e44 bi41_4 hp_41 hb_41 po_41 hm41 H locs ls h hl
                refine lv_iload hx hb dX12_findBest_60 (lv_at hl 0 rfl) ?_
                refine lv_aload_n hx hb dX12_findBest_62 rfl (lv_at hl 4 rfl) ?_
                refine x_getI E h (fi_mo_pieces g) rfl hwX12 (by decide) (by decide +kernel) (v := nI m1_0P) e42 dX12_findBest_63 ?_
                refine lv_icmp_ge (tgt := 89) hx hb dX12_findBest_66 (by decide) (fun c45 => ?_) (fun c45 => ?_)
                · skip
                  have b46 : m1_0P ≤ i41_4 := y_le (a := m1_0P) (b := i41_4) (by omega) (by omega) c45
                  refine lv_iconst (v := 1) hx hb dX12_findBest_89 (by decide) ?_
                  refine lv_istore_n (lv' := [(2, .int 1), (4, .int (nI i41_4)), (3, .int r31), (1, .int i25_1), (0, .ref (g.2.1 79))]) hx hb dX12_findBest_90 rfl hl (by decide) rfl (fun ls hl => ?_)
                  refine lv_aload_n hx hb dX12_findBest_91 rfl (lv_at hl 4 rfl) ?_
                  refine x_vi E h (na := 0) (As := []) (aX12_goOn_0 l g t41 hI_41 m1_0P e42 (by omega) hp_41) (oc_mo g) rfl gX12_findBest_X12_goOn rfl ⟨rfl, rfl⟩ rfl (by decide +kernel) ⟨Nat.le_of_ble_eq_true rfl, Nat.le_of_ble_eq_true rfl⟩ hl.1 rfl (Nat.le_of_ble_eq_true rfl) dX12_findBest_92 ⟨Nat.le_of_ble_eq_true rfl, Nat.le_of_ble_eq_true rfl⟩ (fun r47 s47 H locs q47 h => ?_)
                  obtain ⟨d47, hI47, f47⟩ := q47
                  have hF47 := hF_41.call f47 (I := [(35, 39)]) (J := [(75, 86), (88, 88)]) rfl rfl
                  have e48 : s47.1 35 = nI m1_0P := ((f47.1 35 rfl)).trans e42
                  have e49 : s47.1 31 = nI m1_0R := ((f47.1 31 rfl)).trans e43
                  have e50 : s47.1 39 = r31 := ((f47.1 39 rfl)).trans e44
                  have a52 := AP.eq po_41 (f47.2 77 rfl)
                  rcases d47 with ⟨rfl, u47_0_0⟩ | rfl
                  · skip
                    have u53 : hv (t25.2.2 85) m1_0P < hv (s47.2.2 85) m1_0P := by have h9 := u47_0_0.2; rw [hb_41] at h9; exact h9
                    refine lv_istore_n (lv' := [(1, .int 1), (2, .int 1), (4, .int (nI i41_4)), (3, .int r31), (0, .ref (g.2.1 79))]) hx hb dX12_findBest_95 rfl hl (by decide) rfl (fun ls hl => ?_)
                    refine lv_goto (tgt := 27) hx hb dX12_findBest_96 (by decide) ?_
                    exact ih25 s47 1 1 hI47 hF47 e48 e49 u47_0_0.1 a52 (by have h1 := u53; have h2 := hv_bd u47_0_0.1 (P := m1_0P) (by omega); have h3 := hm25; omega) _ _ _ h (lv_sub hl [1, 0, 4] rfl)
                  · skip
                    refine lv_istore_n (lv' := [(1, .int 0), (2, .int 1), (4, .int (nI i41_4)), (3, .int r31), (0, .ref (g.2.1 79))]) hx hb dX12_findBest_95 rfl hl (by decide) rfl (fun ls hl => ?_)
                    refine lv_goto (tgt := 27) hx hb dX12_findBest_96 (by decide) ?_
                    refine lv_iload_n hx hb dX12_findBest_27 rfl (lv_at hl 0 rfl) ?_
                    refine lv_if_eq (tgt := 99) hx hb dX12_findBest_28 (by decide) (fun _ => ?_) (fun c => absurd (by decide) c)
                    refine lv_iconst (v := 1) hx hb dX12_findBest_99 (by decide) ?_
                    exact x_zret E h rfl ⟨(Or.inl ⟨rfl, m1_0P, m1_0R, e48, e49, (by omega), (by omega), (AP.sub a52 (by omega)), fp6⟩), hI47, hF47⟩ dX12_findBest_100
                · skip
                  have b54 : i41_4 < m1_0P := y_nle (a := m1_0P) (b := i41_4) (by omega) (by omega) c45
                  refine lv_aload_n hx hb dX12_findBest_69 rfl (lv_at hl 4 rfl) ?_
                  refine x_getR E h (fr_mo_best g) rfl hwX12 (by decide) (by decide +kernel) dX12_findBest_70 ?_
                  refine lv_iload hx hb dX12_findBest_73 (lv_at hl 0 rfl) ?_
                  refine lv_aload_n hx hb dX12_findBest_75 rfl (lv_at hl 4 rfl) ?_
                  refine x_getR E h (fr_mo_heap g) rfl hwX12 (by decide) (by decide +kernel) dX12_findBest_76 ?_
                  refine lv_iload hx hb dX12_findBest_79 (lv_at hl 0 rfl) ?_
                  obtain ⟨n55, b55, e55⟩ := hI_41.2 85 8 rfl i41_4
                  have b56 := HQ.le (hp_41 i41_4 (Nat.zero_le _) (by omega)) e55 (by omega)
                  refine x_ldI E h (ia_mo_heap g) (i := nI i41_4) (vp_in_nI (by omega) (by decide)) (v := nI n55) ((congrArg (t41.2.2 85) (nI_clamp (by omega))).trans e55) dX12_findBest_81 ?_
                  refine y_stI E h hI_41 hF_41 (ia_mo_best g) (i := nI i41_4) (vp_in_nI (by omega) (by decide)) (j := i41_4) (nI_clamp (by omega)) (ba_some rfl (Bd.mk (n := n55) (by omega))) rfl dX12_findBest_82 (fun s57 H locs q57 hI57 hF57 h => ?_)
                  have e58 : s57.1 35 = nI m1_0P := (congrArg (fun t : ST => t.1 35) q57).trans e42
                  have e59 : s57.1 31 = nI m1_0R := (congrArg (fun t : ST => t.1 31) q57).trans e43
                  have e60 : s57.1 39 = r31 := (congrArg (fun t : ST => t.1 39) q57).trans e44
                  have a61 := AP.eq hp_41 (show s57.2.2 85 = t41.2.2 85 from (congrArg (fun t : ST => t.2.2 85) q57).trans rfl)
                  have a62 : s57.2.2 85 = t25.2.2 85 := (show s57.2.2 85 = t41.2.2 85 from (congrArg (fun t : ST => t.2.2 85) q57).trans rfl).trans hb_41
                  have a63 := AP.eq po_41 (show s57.2.2 77 = t41.2.2 77 from (congrArg (fun t : ST => t.2.2 77) q57).trans rfl)
                  refine lv_iinc (v := (nI (i41_4 + 1))) (lv' := [(4, .int (nI (i41_4 + 1))), (3, .int r31), (2, .int 0), (1, .int i25_1), (0, .ref (g.2.1 79))]) hx hb dX12_findBest_83 hl (k := 0) rfl (nI_add i41_4 1) (by decide) rfl (fun ls hl => ?_)
                  refine lv_goto (tgt := 60) hx hb dX12_findBest_86 (by decide) ?_
                  exact ih41 s57 (i41_4 + 1) hI57 hF57 e58 e59 e60 (by omega) a61 a62 a63 (by omega) _ _ _ h (lv_sub hl [0, 1, 2, 3, 4] rfl)
            exact loop60_41 _ s34 0 hI34 hF34 e35 e36 e37 (Nat.zero_le _) a38 a40 a39 (Nat.lt_succ_self _) _ _ _ h (lv_sub hl [0, 1, 2, 3, 4] rfl)
          · skip
            refine lv_iload_n hx hb dX12_findBest_44 rfl (lv_at hl 0 rfl) ?_
            refine lv_aload_n hx hb dX12_findBest_45 rfl (lv_at hl 3 rfl) ?_
            obtain ⟨x65, e65⟩ : ∃ x, t25.1 39 = x := ⟨_, rfl⟩
            refine x_getI E h (fi_mo_bestWorth g) rfl hwX12 (by decide) (by decide +kernel) (v := x65) e65 dX12_findBest_46 ?_
            refine lv_icmp_le (tgt := 89) hx hb dX12_findBest_49 (by decide) (fun c66 => ?_) (fun c66 => ?_)
            · skip
              refine lv_iconst (v := 1) hx hb dX12_findBest_89 (by decide) ?_
              refine lv_istore_n (lv' := [(2, .int 1), (3, .int r31), (1, .int i25_1), (0, .ref (g.2.1 79))]) hx hb dX12_findBest_90 rfl hl (by decide) rfl (fun ls hl => ?_)
              refine lv_aload_n hx hb dX12_findBest_91 rfl (lv_at hl 3 rfl) ?_
              refine x_vi E h (na := 0) (As := []) (aX12_goOn_0 l g t25 hI_25 m1_0P e26 (by omega) hp_25) (oc_mo g) rfl gX12_findBest_X12_goOn rfl ⟨rfl, rfl⟩ rfl (by decide +kernel) ⟨Nat.le_of_ble_eq_true rfl, Nat.le_of_ble_eq_true rfl⟩ hl.1 rfl (Nat.le_of_ble_eq_true rfl) dX12_findBest_92 ⟨Nat.le_of_ble_eq_true rfl, Nat.le_of_ble_eq_true rfl⟩ (fun r68 s68 H locs q68 h => ?_)
              obtain ⟨d68, hI68, f68⟩ := q68
              have hF68 := hF_25.call f68 (I := [(35, 39)]) (J := [(75, 86), (88, 88)]) rfl rfl
              have e69 : s68.1 35 = nI m1_0P := ((f68.1 35 rfl)).trans e26
              have e70 : s68.1 31 = nI m1_0R := ((f68.1 31 rfl)).trans e27
              have e71 : s68.1 39 = x65 := ((f68.1 39 rfl)).trans e65
              have a73 := AP.eq po_25 (f68.2 77 rfl)
              rcases d68 with ⟨rfl, u68_0_0⟩ | rfl
              · skip
                have u74 : hv (t25.2.2 85) m1_0P < hv (s68.2.2 85) m1_0P := by have h9 := u68_0_0.2; exact h9
                refine lv_istore_n (lv' := [(1, .int 1), (2, .int 1), (3, .int r31), (0, .ref (g.2.1 79))]) hx hb dX12_findBest_95 rfl hl (by decide) rfl (fun ls hl => ?_)
                refine lv_goto (tgt := 27) hx hb dX12_findBest_96 (by decide) ?_
                exact ih25 s68 1 1 hI68 hF68 e69 e70 u68_0_0.1 a73 (by have h1 := u74; have h2 := hv_bd u68_0_0.1 (P := m1_0P) (by omega); have h3 := hm25; omega) _ _ _ h (lv_sub hl [1, 0, 3] rfl)
              · skip
                refine lv_istore_n (lv' := [(1, .int 0), (2, .int 1), (3, .int r31), (0, .ref (g.2.1 79))]) hx hb dX12_findBest_95 rfl hl (by decide) rfl (fun ls hl => ?_)
                refine lv_goto (tgt := 27) hx hb dX12_findBest_96 (by decide) ?_
                refine lv_iload_n hx hb dX12_findBest_27 rfl (lv_at hl 0 rfl) ?_
                refine lv_if_eq (tgt := 99) hx hb dX12_findBest_28 (by decide) (fun _ => ?_) (fun c => absurd (by decide) c)
                refine lv_iconst (v := 1) hx hb dX12_findBest_99 (by decide) ?_
                exact x_zret E h rfl ⟨(Or.inl ⟨rfl, m1_0P, m1_0R, e69, e70, (by omega), (by omega), (AP.sub a73 (by omega)), fp6⟩), hI68, hF68⟩ dX12_findBest_100
            · skip
              refine lv_aload_n hx hb dX12_findBest_52 rfl (lv_at hl 3 rfl) ?_
              refine lv_iload_n hx hb dX12_findBest_53 rfl (lv_at hl 0 rfl) ?_
              refine y_putI E h hI_25 hF_25 (ty := .int) (v := r31) (fi_mo_bestWorth g) rfl hwX12 tyX12_ok nmX12 (by decide) (by decide +kernel) (by decide +kernel) (by decide +kernel) rfl rfl (ba_none rfl) rfl dX12_findBest_54 (fun s76 H locs q76 hI76 hF76 h => ?_)
              have e77 : s76.1 35 = nI m1_0P := (congrArg (fun t : ST => t.1 35) q76).trans e26
              have e78 : s76.1 31 = nI m1_0R := (congrArg (fun t : ST => t.1 31) q76).trans e27
              have e79 : s76.1 39 = r31 := congrArg (fun t : ST => t.1 39) q76
              have a80 := AP.eq hp_25 (show s76.2.2 85 = t25.2.2 85 from (congrArg (fun t : ST => t.2.2 85) q76).trans rfl)
              have a81 := AP.eq po_25 (show s76.2.2 77 = t25.2.2 77 from (congrArg (fun t : ST => t.2.2 77) q76).trans rfl)
              have a82 : s76.2.2 85 = t25.2.2 85 := (show s76.2.2 85 = t25.2.2 85 from (congrArg (fun t : ST => t.2.2 85) q76).trans rfl).trans rfl
              refine lv_iconst (v := 0) hx hb dX12_findBest_57 (by decide) ?_
              refine lv_istore (lv' := [(4, .int 0), (3, .int r31), (2, .int i25_2), (1, .int i25_1), (0, .ref (g.2.1 79))]) hx hb dX12_findBest_58 hl (by decide) rfl (fun ls hl => ?_)
              have loop60_83 : ∀ (fu : Nat) (t83 : ST) (i83_4 : Nat), INV t83 → Fr [(35, 39)] [(75, 86), (88, 88)] σ t83 → t83.1 35 = nI m1_0P → t83.1 31 = nI m1_0R → t83.1 39 = r31 → i83_4 ≤ m1_0P → AP (t83.2.2 85) 0 10 HQ → t83.2.2 85 = t25.2.2 85 → AP (t83.2.2 77) 0 m1_0R (PQ m1_0P) → m1_0P - i83_4 < fu → ∀ (H : Heap) (locs : List Loc) (ls : Array Slot), HW g t83 s H locs → lv_has ls 5 [(4, .int (nI i83_4)), (3, .int r31), (2, .int i25_2), (1, .int i25_1), (0, .ref (g.2.1 79))] → W p l e { frames := 4, cells := 0, slots := 0, locals := 95 } s m args below meth c H locs 0 0 (MQ below (XQi g (fun r σ' => ((1 = r ∧ ∃ P R : Nat, σ'.1 35 = nI P ∧ σ'.1 31 = nI R ∧ R ≤ 48 ∧ P ≤ 9 ∧ AP (σ'.2.2 77) 0 R (PQ P) ∧ P = FPn (σ.2.2 68) (σ.2.2 69) (σ.2.2 70) (σ.2.2 66) R) ∨ (0 = r)) ∧ INV σ' ∧ Fr [(35, 39)] [(75, 86), (88, 88)] σ σ')) args s 0 0 (Aw g)) (F0 m 60 ls []) := by
                intro fu
                induction fu with
                | zero => intro t83 i83_4 hI_83 hF_83 e84 e85 e86 bi83_4 hp_83 hb_83 po_83 hm; exact absurd hm (Nat.not_lt_zero _)
                | succ fu ih =>
                  have ih83 := ih
                  clear ih
                  intro t83 i83_4 hI_83 hF_83 e84 e85 e86 bi83_4 hp_83 hb_83 po_83 hm83 H locs ls h hl
                  refine lv_iload hx hb dX12_findBest_60 (lv_at hl 0 rfl) ?_
                  refine lv_aload_n hx hb dX12_findBest_62 rfl (lv_at hl 4 rfl) ?_
                  refine x_getI E h (fi_mo_pieces g) rfl hwX12 (by decide) (by decide +kernel) (v := nI m1_0P) e84 dX12_findBest_63 ?_
                  refine lv_icmp_ge (tgt := 89) hx hb dX12_findBest_66 (by decide) (fun c87 => ?_) (fun c87 => ?_)
                  · skip
                    have b88 : m1_0P ≤ i83_4 := y_le (a := m1_0P) (b := i83_4) (by omega) (by omega) c87
                    refine lv_iconst (v := 1) hx hb dX12_findBest_89 (by decide) ?_
                    refine lv_istore_n (lv' := [(2, .int 1), (4, .int (nI i83_4)), (3, .int r31), (1, .int i25_1), (0, .ref (g.2.1 79))]) hx hb dX12_findBest_90 rfl hl (by decide) rfl (fun ls hl => ?_)
                    refine lv_aload_n hx hb dX12_findBest_91 rfl (lv_at hl 4 rfl) ?_
                    refine x_vi E h (na := 0) (As := []) (aX12_goOn_0 l g t83 hI_83 m1_0P e84 (by omega) hp_83) (oc_mo g) rfl gX12_findBest_X12_goOn rfl ⟨rfl, rfl⟩ rfl (by decide +kernel) ⟨Nat.le_of_ble_eq_true rfl, Nat.le_of_ble_eq_true rfl⟩ hl.1 rfl (Nat.le_of_ble_eq_true rfl) dX12_findBest_92 ⟨Nat.le_of_ble_eq_true rfl, Nat.le_of_ble_eq_true rfl⟩ (fun r89 s89 H locs q89 h => ?_)
                    obtain ⟨d89, hI89, f89⟩ := q89
                    have hF89 := hF_83.call f89 (I := [(35, 39)]) (J := [(75, 86), (88, 88)]) rfl rfl
                    have e90 : s89.1 35 = nI m1_0P := ((f89.1 35 rfl)).trans e84
                    have e91 : s89.1 31 = nI m1_0R := ((f89.1 31 rfl)).trans e85
                    have e92 : s89.1 39 = r31 := ((f89.1 39 rfl)).trans e86
                    have a94 := AP.eq po_83 (f89.2 77 rfl)
                    rcases d89 with ⟨rfl, u89_0_0⟩ | rfl
                    · skip
                      have u95 : hv (t25.2.2 85) m1_0P < hv (s89.2.2 85) m1_0P := by have h9 := u89_0_0.2; rw [hb_83] at h9; exact h9
                      refine lv_istore_n (lv' := [(1, .int 1), (2, .int 1), (4, .int (nI i83_4)), (3, .int r31), (0, .ref (g.2.1 79))]) hx hb dX12_findBest_95 rfl hl (by decide) rfl (fun ls hl => ?_)
                      refine lv_goto (tgt := 27) hx hb dX12_findBest_96 (by decide) ?_
                      exact ih25 s89 1 1 hI89 hF89 e90 e91 u89_0_0.1 a94 (by have h1 := u95; have h2 := hv_bd u89_0_0.1 (P := m1_0P) (by omega); have h3 := hm25; omega) _ _ _ h (lv_sub hl [1, 0, 4] rfl)
                    · skip
                      refine lv_istore_n (lv' := [(1, .int 0), (2, .int 1), (4, .int (nI i83_4)), (3, .int r31), (0, .ref (g.2.1 79))]) hx hb dX12_findBest_95 rfl hl (by decide) rfl (fun ls hl => ?_)
                      refine lv_goto (tgt := 27) hx hb dX12_findBest_96 (by decide) ?_
                      refine lv_iload_n hx hb dX12_findBest_27 rfl (lv_at hl 0 rfl) ?_
                      refine lv_if_eq (tgt := 99) hx hb dX12_findBest_28 (by decide) (fun _ => ?_) (fun c => absurd (by decide) c)
                      refine lv_iconst (v := 1) hx hb dX12_findBest_99 (by decide) ?_
                      exact x_zret E h rfl ⟨(Or.inl ⟨rfl, m1_0P, m1_0R, e90, e91, (by omega), (by omega), (AP.sub a94 (by omega)), fp6⟩), hI89, hF89⟩ dX12_findBest_100
                  · skip
                    have b96 : i83_4 < m1_0P := y_nle (a := m1_0P) (b := i83_4) (by omega) (by omega) c87
                    refine lv_aload_n hx hb dX12_findBest_69 rfl (lv_at hl 4 rfl) ?_
                    refine x_getR E h (fr_mo_best g) rfl hwX12 (by decide) (by decide +kernel) dX12_findBest_70 ?_
                    refine lv_iload hx hb dX12_findBest_73 (lv_at hl 0 rfl) ?_
                    refine lv_aload_n hx hb dX12_findBest_75 rfl (lv_at hl 4 rfl) ?_
                    refine x_getR E h (fr_mo_heap g) rfl hwX12 (by decide) (by decide +kernel) dX12_findBest_76 ?_
                    refine lv_iload hx hb dX12_findBest_79 (lv_at hl 0 rfl) ?_
                    obtain ⟨n97, b97, e97⟩ := hI_83.2 85 8 rfl i83_4
                    have b98 := HQ.le (hp_83 i83_4 (Nat.zero_le _) (by omega)) e97 (by omega)
                    refine x_ldI E h (ia_mo_heap g) (i := nI i83_4) (vp_in_nI (by omega) (by decide)) (v := nI n97) ((congrArg (t83.2.2 85) (nI_clamp (by omega))).trans e97) dX12_findBest_81 ?_
                    refine y_stI E h hI_83 hF_83 (ia_mo_best g) (i := nI i83_4) (vp_in_nI (by omega) (by decide)) (j := i83_4) (nI_clamp (by omega)) (ba_some rfl (Bd.mk (n := n97) (by omega))) rfl dX12_findBest_82 (fun s99 H locs q99 hI99 hF99 h => ?_)
                    have e100 : s99.1 35 = nI m1_0P := (congrArg (fun t : ST => t.1 35) q99).trans e84
                    have e101 : s99.1 31 = nI m1_0R := (congrArg (fun t : ST => t.1 31) q99).trans e85
                    have e102 : s99.1 39 = r31 := (congrArg (fun t : ST => t.1 39) q99).trans e86
                    have a103 := AP.eq hp_83 (show s99.2.2 85 = t83.2.2 85 from (congrArg (fun t : ST => t.2.2 85) q99).trans rfl)
                    have a104 : s99.2.2 85 = t25.2.2 85 := (show s99.2.2 85 = t83.2.2 85 from (congrArg (fun t : ST => t.2.2 85) q99).trans rfl).trans hb_83
                    have a105 := AP.eq po_83 (show s99.2.2 77 = t83.2.2 77 from (congrArg (fun t : ST => t.2.2 77) q99).trans rfl)
                    refine lv_iinc (v := (nI (i83_4 + 1))) (lv' := [(4, .int (nI (i83_4 + 1))), (3, .int r31), (2, .int i25_2), (1, .int i25_1), (0, .ref (g.2.1 79))]) hx hb dX12_findBest_83 hl (k := 0) rfl (nI_add i83_4 1) (by decide) rfl (fun ls hl => ?_)
                    refine lv_goto (tgt := 60) hx hb dX12_findBest_86 (by decide) ?_
                    exact ih83 s99 (i83_4 + 1) hI99 hF99 e100 e101 e102 (by omega) a103 a104 a105 (by omega) _ _ _ h (lv_sub hl [0, 1, 2, 3, 4] rfl)
              exact loop60_83 _ s76 0 hI76 hF76 e77 e78 e79 (Nat.zero_le _) a80 a82 a81 (Nat.lt_succ_self _) _ _ _ h (lv_sub hl [0, 1, 2, 3, 4] rfl)
    exact loop27_25 _ s17 0 1 hI17 hF17 e18 e19 u17_0_0 a24 (Nat.lt_succ_self _) _ _ _ h (lv_sub hl [0, 1, 2] rfl)
  · skip
    have b106 : 9 < m1_0P := y_nle (a := m1_0P) (b := 9) (by omega) (by omega) c7
    refine lv_iconst (v := 0) hx hb dX12_findBest_13 (by decide) ?_
    exact x_zret E h rfl ⟨(Or.inr (rfl)), hI1, hF1⟩ dX12_findBest_14
set_option maxHeartbeats 4000000 in
set_option maxRecDepth 100000 in
theorem aX12_join_0 (l : Launch) (g : CX) (σ : ST) (hI : INV σ) (F35 : Nat) (eF35 : σ.1 35 = nI F35) (hh0 : F35 ≤ 9) : XM l g yX12_join wsX12_join { frames := 0, cells := 0, slots := 0, locals := 0 } [.ref (g.2.1 79)] σ (XQv g (fun σ' => INV σ' ∧ Fr [] [(85, 85), (87, 87)] σ σ')) := by
  refine x_met (own := RX12) (cc := cX12_join) (maxL := 10) (ret := none) (lv := [(0, .ref (g.2.1 79))]) (by decide) rfl rfl (Nat.le_of_ble_eq_true rfl) rfl ?_
  intro p e s m args below meth c ls E h hl
  have hx := E.1
  have hb := E.2.1
  have hown := E.2.2.2.1
  have hts := E.2.2.2.2.1
  have hF : Fr [] [(85, 85), (87, 87)] σ σ := Fr.refl σ
  have hwX12 : ∀ w ∈ wsX120, w ∈ wsX12_join := by decide +kernel
  refine lv_iconst (v := 0) hx hb dX12_join_0 (by decide) ?_
  refine lv_istore_n (lv' := [(1, .int 0), (0, .ref (g.2.1 79))]) hx hb dX12_join_1 rfl hl (by decide) rfl (fun ls hl => ?_)
  have loop2_1 : ∀ (fu : Nat) (t1 : ST) (i1_1 : Nat), INV t1 → Fr [] [(85, 85), (87, 87)] σ t1 → t1.1 35 = nI F35 → i1_1 ≤ F35 → F35 - i1_1 < fu → ∀ (H : Heap) (locs : List Loc) (ls : Array Slot), HW g t1 s H locs → lv_has ls 10 [(1, .int (nI i1_1)), (0, .ref (g.2.1 79))] → W p l e { frames := 0, cells := 0, slots := 0, locals := 0 } s m args below meth c H locs 0 0 (MQ below (XQv g (fun σ' => INV σ' ∧ Fr [] [(85, 85), (87, 87)] σ σ')) args s 0 0 (Aw g)) (F0 m 2 ls []) := by
    intro fu
    induction fu with
    | zero => intro t1 i1_1 hI_1 hF_1 e2 bi1_1 hm; exact absurd hm (Nat.not_lt_zero _)
    | succ fu ih =>
      have ih1 := ih
      clear ih
      intro t1 i1_1 hI_1 hF_1 e2 bi1_1 hm1 H locs ls h hl
      refine lv_iload_n hx hb dX12_join_2 rfl (lv_at hl 0 rfl) ?_
      refine lv_aload_n hx hb dX12_join_3 rfl (lv_at hl 1 rfl) ?_
      refine x_getI E h (fi_mo_pieces g) rfl hwX12 (by decide) (by decide +kernel) (v := nI F35) e2 dX12_join_4 ?_
      refine lv_icmp_ge (tgt := 23) hx hb dX12_join_7 (by decide) (fun c3 => ?_) (fun c3 => ?_)
      · skip
        have b4 : F35 ≤ i1_1 := y_le (a := F35) (b := i1_1) (by omega) (by omega) c3
        refine lv_iconst (v := 1) hx hb dX12_join_23 (by decide) ?_
        refine lv_istore_n (lv' := [(1, .int 1), (0, .ref (g.2.1 79))]) hx hb dX12_join_24 rfl hl (by decide) rfl (fun ls hl => ?_)
        have loop25_5 : ∀ (fu : Nat) (t5 : ST) (i5_1 : Int32), INV t5 → Fr [] [(85, 85), (87, 87)] σ t5 → t5.1 35 = nI F35 → fx (t5.2.2 87) F35 < fu → ∀ (H : Heap) (locs : List Loc) (ls : Array Slot), HW g t5 s H locs → lv_has ls 10 [(1, .int i5_1), (0, .ref (g.2.1 79))] → W p l e { frames := 0, cells := 0, slots := 0, locals := 0 } s m args below meth c H locs 0 0 (MQ below (XQv g (fun σ' => INV σ' ∧ Fr [] [(85, 85), (87, 87)] σ σ')) args s 0 0 (Aw g)) (F0 m 25 ls []) := by
          intro fu
          induction fu with
          | zero => intro t5 i5_1 hI_5 hF_5 e6 hm; exact absurd hm (Nat.not_lt_zero _)
          | succ fu ih =>
            have ih5 := ih
            clear ih
            intro t5 i5_1 hI_5 hF_5 e6 hm5 H locs ls h hl
            refine lv_iload_n hx hb dX12_join_25 rfl (lv_at hl 0 rfl) ?_
            refine lv_if_eq (tgt := 269) hx hb dX12_join_26 (by decide) (fun c7 => ?_) (fun c7 => ?_)
            · skip
              subst c7
              refine lv_iconst (v := 0) hx hb dX12_join_269 (by decide) ?_
              refine lv_istore_n (lv' := [(2, .int 0), (1, .int 0), (0, .ref (g.2.1 79))]) hx hb dX12_join_270 rfl hl (by decide) rfl (fun ls hl => ?_)
              refine lv_iconst (v := 0) hx hb dX12_join_271 (by decide) ?_
              refine lv_istore_n (lv' := [(3, .int 0), (2, .int 0), (1, .int 0), (0, .ref (g.2.1 79))]) hx hb dX12_join_272 rfl hl (by decide) rfl (fun ls hl => ?_)
              have loop273_9 : ∀ (fu : Nat) (t9 : ST) (i9_3 : Nat) (i9_2 : Nat), INV t9 → Fr [] [(85, 85), (87, 87)] σ t9 → t9.1 35 = nI F35 → i9_3 ≤ F35 → i9_2 ≤ i9_3 → F35 - i9_3 < fu → ∀ (H : Heap) (locs : List Loc) (ls : Array Slot), HW g t9 s H locs → lv_has ls 10 [(3, .int (nI i9_3)), (2, .int (nI i9_2)), (1, .int 0), (0, .ref (g.2.1 79))] → W p l e { frames := 0, cells := 0, slots := 0, locals := 0 } s m args below meth c H locs 0 0 (MQ below (XQv g (fun σ' => INV σ' ∧ Fr [] [(85, 85), (87, 87)] σ σ')) args s 0 0 (Aw g)) (F0 m 273 ls []) := by
                intro fu
                induction fu with
                | zero => intro t9 i9_3 i9_2 hI_9 hF_9 e10 bi9_3 bi9_2 hm; exact absurd hm (Nat.not_lt_zero _)
                | succ fu ih =>
                  have ih9 := ih
                  clear ih
                  intro t9 i9_3 i9_2 hI_9 hF_9 e10 bi9_3 bi9_2 hm9 H locs ls h hl
                  refine lv_iload_n hx hb dX12_join_273 rfl (lv_at hl 0 rfl) ?_
                  refine lv_aload_n hx hb dX12_join_274 rfl (lv_at hl 3 rfl) ?_
                  refine x_getI E h (fi_mo_pieces g) rfl hwX12 (by decide) (by decide +kernel) (v := nI F35) e10 dX12_join_275 ?_
                  refine lv_icmp_ge (tgt := 336) hx hb dX12_join_278 (by decide) (fun c11 => ?_) (fun c11 => ?_)
                  · skip
                    have b12 : F35 ≤ i9_3 := y_le (a := F35) (b := i9_3) (by omega) (by omega) c11
                    refine lv_iconst (v := 0) hx hb dX12_join_336 (by decide) ?_
                    refine lv_istore_n (lv' := [(3, .int 0), (2, .int (nI i9_2)), (1, .int 0), (0, .ref (g.2.1 79))]) hx hb dX12_join_337 rfl hl (by decide) rfl (fun ls hl => ?_)
                    have loop338_13 : ∀ (fu : Nat) (t13 : ST) (i13_3 : Nat), INV t13 → Fr [] [(85, 85), (87, 87)] σ t13 → t13.1 35 = nI F35 → i13_3 ≤ F35 → F35 - i13_3 < fu → ∀ (H : Heap) (locs : List Loc) (ls : Array Slot), HW g t13 s H locs → lv_has ls 10 [(3, .int (nI i13_3)), (2, .int (nI i9_2)), (1, .int 0), (0, .ref (g.2.1 79))] → W p l e { frames := 0, cells := 0, slots := 0, locals := 0 } s m args below meth c H locs 0 0 (MQ below (XQv g (fun σ' => INV σ' ∧ Fr [] [(85, 85), (87, 87)] σ σ')) args s 0 0 (Aw g)) (F0 m 338 ls []) := by
                      intro fu
                      induction fu with
                      | zero => intro t13 i13_3 hI_13 hF_13 e14 bi13_3 hm; exact absurd hm (Nat.not_lt_zero _)
                      | succ fu ih =>
                        have ih13 := ih
                        clear ih
                        intro t13 i13_3 hI_13 hF_13 e14 bi13_3 hm13 H locs ls h hl
                        refine lv_iload_n hx hb dX12_join_338 rfl (lv_at hl 0 rfl) ?_
                        refine lv_aload_n hx hb dX12_join_339 rfl (lv_at hl 3 rfl) ?_
                        refine x_getI E h (fi_mo_pieces g) rfl hwX12 (by decide) (by decide +kernel) (v := nI F35) e14 dX12_join_340 ?_
                        refine lv_icmp_ge (tgt := 364) hx hb dX12_join_343 (by decide) (fun c15 => ?_) (fun c15 => ?_)
                        · skip
                          have b16 : F35 ≤ i13_3 := y_le (a := F35) (b := i13_3) (by omega) (by omega) c15
                          exact x_vret E h ⟨hI_13, hF_13⟩ dX12_join_364
                        · skip
                          have b17 : i13_3 < F35 := y_nle (a := F35) (b := i13_3) (by omega) (by omega) c15
                          refine lv_aload_n hx hb dX12_join_346 rfl (lv_at hl 3 rfl) ?_
                          refine x_getR E h (fr_mo_joined g) rfl hwX12 (by decide) (by decide +kernel) dX12_join_347 ?_
                          refine lv_iload_n hx hb dX12_join_350 rfl (lv_at hl 0 rfl) ?_
                          refine lv_aload_n hx hb dX12_join_351 rfl (lv_at hl 3 rfl) ?_
                          refine x_getR E h (fr_mo_heap g) rfl hwX12 (by decide) (by decide +kernel) dX12_join_352 ?_
                          refine lv_iload_n hx hb dX12_join_355 rfl (lv_at hl 0 rfl) ?_
                          obtain ⟨n18, b18, e18⟩ := hI_13.2 85 8 rfl i13_3
                          refine x_ldI E h (ia_mo_heap g) (i := nI i13_3) (vp_in_nI (by omega) (by decide)) (v := nI n18) ((congrArg (t13.2.2 85) (nI_clamp (by omega))).trans e18) dX12_join_356 ?_
                          refine y_stI E h hI_13 hF_13 (ia_mo_joined g) (i := nI i13_3) (vp_in_nI (by omega) (by decide)) (j := i13_3) (nI_clamp (by omega)) (ba_some rfl (Bd.mk (n := n18) (by omega))) rfl dX12_join_357 (fun s19 H locs q19 hI19 hF19 h => ?_)
                          have e20 : s19.1 35 = nI F35 := (congrArg (fun t : ST => t.1 35) q19).trans e14
                          refine lv_iinc (v := (nI (i13_3 + 1))) (lv' := [(3, .int (nI (i13_3 + 1))), (2, .int (nI i9_2)), (1, .int 0), (0, .ref (g.2.1 79))]) hx hb dX12_join_358 hl (k := 0) rfl (nI_add i13_3 1) (by decide) rfl (fun ls hl => ?_)
                          refine lv_goto (tgt := 338) hx hb dX12_join_361 (by decide) ?_
                          exact ih13 s19 (i13_3 + 1) hI19 hF19 e20 (by omega) (by omega) _ _ _ h (lv_sub hl [0, 1, 2, 3] rfl)
                    exact loop338_13 _ t9 0 hI_9 hF_9 e10 (Nat.zero_le _) (Nat.lt_succ_self _) _ _ _ h (lv_sub hl [0, 1, 2, 3] rfl)
                  · skip
                    have b21 : i9_3 < F35 := y_nle (a := F35) (b := i9_3) (by omega) (by omega) c11
                    refine lv_aload_n hx hb dX12_join_281 rfl (lv_at hl 3 rfl) ?_
                    refine x_getR E h (fr_mo_heap g) rfl hwX12 (by decide) (by decide +kernel) dX12_join_282 ?_
                    refine lv_iload_n hx hb dX12_join_285 rfl (lv_at hl 0 rfl) ?_
                    refine lv_aload_n hx hb dX12_join_286 rfl (lv_at hl 3 rfl) ?_
                    refine x_getR E h (fr_mo_joined g) rfl hwX12 (by decide) (by decide +kernel) dX12_join_287 ?_
                    refine lv_iload_n hx hb dX12_join_290 rfl (lv_at hl 0 rfl) ?_
                    obtain ⟨n22, b22, e22⟩ := hI_9.2 87 8 rfl i9_3
                    refine x_ldI E h (ia_mo_joined g) (i := nI i9_3) (vp_in_nI (by omega) (by decide)) (v := nI n22) ((congrArg (t9.2.2 87) (nI_clamp (by omega))).trans e22) dX12_join_291 ?_
                    refine lv_iload_n hx hb dX12_join_292 rfl (lv_at hl 0 rfl) ?_
                    refine lv_icmp_ne (tgt := 300) hx hb dX12_join_293 (by decide) (fun c23 => ?_) (fun c23 => ?_)
                    · skip
                      have b24 : ¬ n22 = i9_3 := y_ne (a := n22) (b := i9_3) (by omega) (by omega) c23
                      refine lv_aload_n hx hb dX12_join_300 rfl (lv_at hl 3 rfl) ?_
                      refine x_getR E h (fr_mo_heap g) rfl hwX12 (by decide) (by decide +kernel) dX12_join_301 ?_
                      refine lv_aload_n hx hb dX12_join_304 rfl (lv_at hl 3 rfl) ?_
                      refine x_getR E h (fr_mo_joined g) rfl hwX12 (by decide) (by decide +kernel) dX12_join_305 ?_
                      refine lv_iload_n hx hb dX12_join_308 rfl (lv_at hl 0 rfl) ?_
                      refine x_ldI E h (ia_mo_joined g) (i := nI i9_3) (vp_in_nI (by omega) (by decide)) (v := nI n22) ((congrArg (t9.2.2 87) (nI_clamp (by omega))).trans e22) dX12_join_309 ?_
                      obtain ⟨n25, b25, e25⟩ := hI_9.2 85 8 rfl n22
                      refine x_ldI E h (ia_mo_heap g) (i := nI n22) (vp_in_nI (by omega) (by decide)) (v := nI n25) ((congrArg (t9.2.2 85) (nI_clamp (by omega))).trans e25) dX12_join_310 ?_
                      refine y_stI E h hI_9 hF_9 (ia_mo_heap g) (i := nI i9_3) (vp_in_nI (by omega) (by decide)) (j := i9_3) (nI_clamp (by omega)) (ba_some rfl (Bd.mk (n := n25) (by omega))) rfl dX12_join_311 (fun s26 H locs q26 hI26 hF26 h => ?_)
                      have e27 : s26.1 35 = nI F35 := (congrArg (fun t : ST => t.1 35) q26).trans e10
                      refine lv_iload_n hx hb dX12_join_312 rfl (lv_at hl 1 rfl) ?_
                      refine lv_aload_n hx hb dX12_join_313 rfl (lv_at hl 3 rfl) ?_
                      refine x_getR E h (fr_mo_joined g) rfl hwX12 (by decide) (by decide +kernel) dX12_join_314 ?_
                      refine lv_iload_n hx hb dX12_join_317 rfl (lv_at hl 0 rfl) ?_
                      obtain ⟨n28, b28, e28⟩ := hI26.2 87 8 rfl i9_3
                      refine x_ldI E h (ia_mo_joined g) (i := nI i9_3) (vp_in_nI (by omega) (by decide)) (v := nI n28) ((congrArg (s26.2.2 87) (nI_clamp (by omega))).trans e28) dX12_join_318 ?_
                      refine lv_iload_n hx hb dX12_join_319 rfl (lv_at hl 0 rfl) ?_
                      refine lv_icmp_ne (tgt := 327) hx hb dX12_join_320 (by decide) (fun c29 => ?_) (fun c29 => ?_)
                      · skip
                        have b30 : ¬ n28 = i9_3 := y_ne (a := n28) (b := i9_3) (by omega) (by omega) c29
                        refine lv_iconst (v := 0) hx hb dX12_join_327 (by decide) ?_
                        refine lv_iadd hx hb dX12_join_328 ?_
                        refine x_topI (v2 := nI (i9_2 + 0)) (nI_add i9_2 0) ?_
                        refine lv_istore_n (lv' := [(2, .int (nI (i9_2 + 0))), (3, .int (nI i9_3)), (1, .int 0), (0, .ref (g.2.1 79))]) hx hb dX12_join_329 rfl hl (by decide) rfl (fun ls hl => ?_)
                        refine lv_iinc (v := (nI (i9_3 + 1))) (lv' := [(3, .int (nI (i9_3 + 1))), (2, .int (nI (i9_2 + 0))), (1, .int 0), (0, .ref (g.2.1 79))]) hx hb dX12_join_330 hl (k := 1) rfl (nI_add i9_3 1) (by decide) rfl (fun ls hl => ?_)
                        refine lv_goto (tgt := 273) hx hb dX12_join_333 (by decide) ?_
                        exact ih9 s26 (i9_3 + 1) (i9_2 + 0) hI26 hF26 e27 (by omega) (by omega) (by omega) _ _ _ h (lv_sub hl [0, 1, 2, 3] rfl)
                      · skip
                        have b31 : n28 = i9_3 := y_eq (a := n28) (b := i9_3) (by omega) (by omega) c29
                        refine lv_iconst (v := 1) hx hb dX12_join_323 (by decide) ?_
                        refine lv_goto (tgt := 328) hx hb dX12_join_324 (by decide) ?_
                        refine lv_iadd hx hb dX12_join_328 ?_
                        refine x_topI (v2 := nI (i9_2 + 1)) (nI_add i9_2 1) ?_
                        refine lv_istore_n (lv' := [(2, .int (nI (i9_2 + 1))), (3, .int (nI i9_3)), (1, .int 0), (0, .ref (g.2.1 79))]) hx hb dX12_join_329 rfl hl (by decide) rfl (fun ls hl => ?_)
                        refine lv_iinc (v := (nI (i9_3 + 1))) (lv' := [(3, .int (nI (i9_3 + 1))), (2, .int (nI (i9_2 + 1))), (1, .int 0), (0, .ref (g.2.1 79))]) hx hb dX12_join_330 hl (k := 1) rfl (nI_add i9_3 1) (by decide) rfl (fun ls hl => ?_)
                        refine lv_goto (tgt := 273) hx hb dX12_join_333 (by decide) ?_
                        exact ih9 s26 (i9_3 + 1) (i9_2 + 1) hI26 hF26 e27 (by omega) (by omega) (by omega) _ _ _ h (lv_sub hl [0, 1, 2, 3] rfl)
                    · skip
                      have b32 : n22 = i9_3 := y_eq (a := n22) (b := i9_3) (by omega) (by omega) c23
                      refine lv_iload_n hx hb dX12_join_296 rfl (lv_at hl 1 rfl) ?_
                      refine lv_goto (tgt := 311) hx hb dX12_join_297 (by decide) ?_
                      refine y_stI E h hI_9 hF_9 (ia_mo_heap g) (i := nI i9_3) (vp_in_nI (by omega) (by decide)) (j := i9_3) (nI_clamp (by omega)) (ba_some rfl (Bd.mk (n := i9_2) (by omega))) rfl dX12_join_311 (fun s33 H locs q33 hI33 hF33 h => ?_)
                      have e34 : s33.1 35 = nI F35 := (congrArg (fun t : ST => t.1 35) q33).trans e10
                      refine lv_iload_n hx hb dX12_join_312 rfl (lv_at hl 1 rfl) ?_
                      refine lv_aload_n hx hb dX12_join_313 rfl (lv_at hl 3 rfl) ?_
                      refine x_getR E h (fr_mo_joined g) rfl hwX12 (by decide) (by decide +kernel) dX12_join_314 ?_
                      refine lv_iload_n hx hb dX12_join_317 rfl (lv_at hl 0 rfl) ?_
                      obtain ⟨n35, b35, e35⟩ := hI33.2 87 8 rfl i9_3
                      refine x_ldI E h (ia_mo_joined g) (i := nI i9_3) (vp_in_nI (by omega) (by decide)) (v := nI n35) ((congrArg (s33.2.2 87) (nI_clamp (by omega))).trans e35) dX12_join_318 ?_
                      refine lv_iload_n hx hb dX12_join_319 rfl (lv_at hl 0 rfl) ?_
                      refine lv_icmp_ne (tgt := 327) hx hb dX12_join_320 (by decide) (fun c36 => ?_) (fun c36 => ?_)
                      · skip
                        have b37 : ¬ n35 = i9_3 := y_ne (a := n35) (b := i9_3) (by omega) (by omega) c36
                        refine lv_iconst (v := 0) hx hb dX12_join_327 (by decide) ?_
                        refine lv_iadd hx hb dX12_join_328 ?_
                        refine x_topI (v2 := nI (i9_2 + 0)) (nI_add i9_2 0) ?_
                        refine lv_istore_n (lv' := [(2, .int (nI (i9_2 + 0))), (3, .int (nI i9_3)), (1, .int 0), (0, .ref (g.2.1 79))]) hx hb dX12_join_329 rfl hl (by decide) rfl (fun ls hl => ?_)
                        refine lv_iinc (v := (nI (i9_3 + 1))) (lv' := [(3, .int (nI (i9_3 + 1))), (2, .int (nI (i9_2 + 0))), (1, .int 0), (0, .ref (g.2.1 79))]) hx hb dX12_join_330 hl (k := 1) rfl (nI_add i9_3 1) (by decide) rfl (fun ls hl => ?_)
                        refine lv_goto (tgt := 273) hx hb dX12_join_333 (by decide) ?_
                        exact ih9 s33 (i9_3 + 1) (i9_2 + 0) hI33 hF33 e34 (by omega) (by omega) (by omega) _ _ _ h (lv_sub hl [0, 1, 2, 3] rfl)
                      · skip
                        have b38 : n35 = i9_3 := y_eq (a := n35) (b := i9_3) (by omega) (by omega) c36
                        refine lv_iconst (v := 1) hx hb dX12_join_323 (by decide) ?_
                        refine lv_goto (tgt := 328) hx hb dX12_join_324 (by decide) ?_
                        refine lv_iadd hx hb dX12_join_328 ?_
                        refine x_topI (v2 := nI (i9_2 + 1)) (nI_add i9_2 1) ?_
                        refine lv_istore_n (lv' := [(2, .int (nI (i9_2 + 1))), (3, .int (nI i9_3)), (1, .int 0), (0, .ref (g.2.1 79))]) hx hb dX12_join_329 rfl hl (by decide) rfl (fun ls hl => ?_)
                        refine lv_iinc (v := (nI (i9_3 + 1))) (lv' := [(3, .int (nI (i9_3 + 1))), (2, .int (nI (i9_2 + 1))), (1, .int 0), (0, .ref (g.2.1 79))]) hx hb dX12_join_330 hl (k := 1) rfl (nI_add i9_3 1) (by decide) rfl (fun ls hl => ?_)
                        refine lv_goto (tgt := 273) hx hb dX12_join_333 (by decide) ?_
                        exact ih9 s33 (i9_3 + 1) (i9_2 + 1) hI33 hF33 e34 (by omega) (by omega) (by omega) _ _ _ h (lv_sub hl [0, 1, 2, 3] rfl)
              exact loop273_9 _ t5 0 0 hI_5 hF_5 e6 (Nat.zero_le _) (Nat.zero_le _) (Nat.lt_succ_self _) _ _ _ h (lv_sub hl [0, 1, 2, 3] rfl)
            · skip
              refine lv_bipush (v := (-9)) hx hb dX12_join_29 (by decide) ?_
              refine lv_istore_n (lv' := [(2, .int (-9)), (1, .int i5_1), (0, .ref (g.2.1 79))]) hx hb dX12_join_31 rfl hl (by decide) rfl (fun ls hl => ?_)
              refine lv_bipush (v := (-9)) hx hb dX12_join_32 (by decide) ?_
              refine lv_istore_n (lv' := [(3, .int (-9)), (2, .int (-9)), (1, .int i5_1), (0, .ref (g.2.1 79))]) hx hb dX12_join_34 rfl hl (by decide) rfl (fun ls hl => ?_)
              refine lv_iconst (v := 0) hx hb dX12_join_35 (by decide) ?_
              refine lv_istore (lv' := [(4, .int 0), (3, .int (-9)), (2, .int (-9)), (1, .int i5_1), (0, .ref (g.2.1 79))]) hx hb dX12_join_36 hl (by decide) rfl (fun ls hl => ?_)
              refine lv_iconst (v := 0) hx hb dX12_join_38 (by decide) ?_
              refine lv_istore (lv' := [(5, .int 0), (4, .int 0), (3, .int (-9)), (2, .int (-9)), (1, .int i5_1), (0, .ref (g.2.1 79))]) hx hb dX12_join_39 hl (by decide) rfl (fun ls hl => ?_)
              have loop41_40 : ∀ (fu : Nat) (i40_5 : Nat) (i40_4 : Int32) (i40_3 : Int32) (i40_2 : Int32), i40_5 ≤ F35 → JO i40_2 i40_3 F35 (t5.2.2 87) → F35 - i40_5 < fu → ∀ (H : Heap) (locs : List Loc) (ls : Array Slot), HW g t5 s H locs → lv_has ls 10 [(5, .int (nI i40_5)), (4, .int i40_4), (3, .int i40_3), (2, .int i40_2), (1, .int i5_1), (0, .ref (g.2.1 79))] → W p l e { frames := 0, cells := 0, slots := 0, locals := 0 } s m args below meth c H locs 0 0 (MQ below (XQv g (fun σ' => INV σ' ∧ Fr [] [(85, 85), (87, 87)] σ σ')) args s 0 0 (Aw g)) (F0 m 41 ls []) := by
                intro fu
                induction fu with
                | zero => intro i40_5 i40_4 i40_3 i40_2 bi40_5 jo_40 hm; exact absurd hm (Nat.not_lt_zero _)
                | succ fu ih =>
                  have ih40 := ih
                  clear ih
                  intro i40_5 i40_4 i40_3 i40_2 bi40_5 jo_40 hm40 H locs ls h hl
                  refine lv_iload hx hb dX12_join_41 (lv_at hl 0 rfl) ?_
                  refine lv_aload_n hx hb dX12_join_43 rfl (lv_at hl 5 rfl) ?_
                  refine x_getI E h (fi_mo_pieces g) rfl hwX12 (by decide) (by decide +kernel) (v := nI F35) e6 dX12_join_44 ?_
                  refine lv_icmp_ge (tgt := 203) hx hb dX12_join_47 (by decide) (fun c41 => ?_) (fun c41 => ?_)
                  · skip
                    have b42 : F35 ≤ i40_5 := y_le (a := F35) (b := i40_5) (by omega) (by omega) c41
                    refine lv_iload_n hx hb dX12_join_203 rfl (lv_at hl 3 rfl) ?_
                    refine lv_bipush (v := (-9)) hx hb dX12_join_204 (by decide) ?_
                    refine lv_icmp_eq (tgt := 213) hx hb dX12_join_206 (by decide) (fun c43 => ?_) (fun c43 => ?_)
                    · skip
                      subst c43
                      refine lv_iconst (v := 0) hx hb dX12_join_213 (by decide) ?_
                      refine lv_istore_n (lv' := [(1, .int 0), (5, .int (nI i40_5)), (4, .int i40_4), (3, .int i40_3), (2, .int (-9)), (0, .ref (g.2.1 79))]) hx hb dX12_join_214 rfl hl (by decide) rfl (fun ls hl => ?_)
                      refine lv_iconst (v := 0) hx hb dX12_join_215 (by decide) ?_
                      refine lv_istore (lv' := [(5, .int 0), (1, .int 0), (4, .int i40_4), (3, .int i40_3), (2, .int (-9)), (0, .ref (g.2.1 79))]) hx hb dX12_join_216 hl (by decide) rfl (fun ls hl => ?_)
                      have loop218_45 : ∀ (fu : Nat) (t45 : ST) (i45_5 : Nat), INV t45 → Fr [] [(85, 85), (87, 87)] σ t45 → t45.1 35 = nI F35 → i45_5 ≤ F35 → F35 - i45_5 < fu → ∀ (H : Heap) (locs : List Loc) (ls : Array Slot), HW g t45 s H locs → lv_has ls 10 [(5, .int (nI i45_5)), (1, .int 0), (4, .int i40_4), (3, .int i40_3), (2, .int (-9)), (0, .ref (g.2.1 79))] → W p l e { frames := 0, cells := 0, slots := 0, locals := 0 } s m args below meth c H locs 0 0 (MQ below (XQv g (fun σ' => INV σ' ∧ Fr [] [(85, 85), (87, 87)] σ σ')) args s 0 0 (Aw g)) (F0 m 218 ls []) := by
                        intro fu
                        induction fu with
                        | zero => intro t45 i45_5 hI_45 hF_45 e46 bi45_5 hm; exact absurd hm (Nat.not_lt_zero _)
                        | succ fu ih =>
                          have ih45 := ih
                          clear ih
                          intro t45 i45_5 hI_45 hF_45 e46 bi45_5 hm45 H locs ls h hl
                          refine lv_iload hx hb dX12_join_218 (lv_at hl 0 rfl) ?_
                          refine lv_aload_n hx hb dX12_join_220 rfl (lv_at hl 5 rfl) ?_
                          refine x_getI E h (fi_mo_pieces g) rfl hwX12 (by decide) (by decide +kernel) (v := nI F35) e46 dX12_join_221 ?_
                          refine lv_icmp_ge (tgt := 266) hx hb dX12_join_224 (by decide) (fun c47 => ?_) (fun c47 => ?_)
                          · skip
                            have b48 : F35 ≤ i45_5 := y_le (a := F35) (b := i45_5) (by omega) (by omega) c47
                            refine lv_goto (tgt := 25) hx hb dX12_join_266 (by decide) ?_
                            refine lv_iload_n hx hb dX12_join_25 rfl (lv_at hl 1 rfl) ?_
                            refine lv_if_eq (tgt := 269) hx hb dX12_join_26 (by decide) (fun _ => ?_) (fun c => absurd (by decide) c)
                            refine lv_iconst (v := 0) hx hb dX12_join_269 (by decide) ?_
                            refine lv_istore_n (lv' := [(2, .int 0), (5, .int (nI i45_5)), (1, .int 0), (4, .int i40_4), (3, .int i40_3), (0, .ref (g.2.1 79))]) hx hb dX12_join_270 rfl hl (by decide) rfl (fun ls hl => ?_)
                            refine lv_iconst (v := 0) hx hb dX12_join_271 (by decide) ?_
                            refine lv_istore_n (lv' := [(3, .int 0), (2, .int 0), (5, .int (nI i45_5)), (1, .int 0), (4, .int i40_4), (0, .ref (g.2.1 79))]) hx hb dX12_join_272 rfl hl (by decide) rfl (fun ls hl => ?_)
                            have loop273_49 : ∀ (fu : Nat) (t49 : ST) (i49_3 : Nat) (i49_2 : Nat), INV t49 → Fr [] [(85, 85), (87, 87)] σ t49 → t49.1 35 = nI F35 → i49_3 ≤ F35 → i49_2 ≤ i49_3 → F35 - i49_3 < fu → ∀ (H : Heap) (locs : List Loc) (ls : Array Slot), HW g t49 s H locs → lv_has ls 10 [(3, .int (nI i49_3)), (2, .int (nI i49_2)), (5, .int (nI i45_5)), (1, .int 0), (4, .int i40_4), (0, .ref (g.2.1 79))] → W p l e { frames := 0, cells := 0, slots := 0, locals := 0 } s m args below meth c H locs 0 0 (MQ below (XQv g (fun σ' => INV σ' ∧ Fr [] [(85, 85), (87, 87)] σ σ')) args s 0 0 (Aw g)) (F0 m 273 ls []) := by
                              intro fu
                              induction fu with
                              | zero => intro t49 i49_3 i49_2 hI_49 hF_49 e50 bi49_3 bi49_2 hm; exact absurd hm (Nat.not_lt_zero _)
                              | succ fu ih =>
                                have ih49 := ih
                                clear ih
                                intro t49 i49_3 i49_2 hI_49 hF_49 e50 bi49_3 bi49_2 hm49 H locs ls h hl
                                refine lv_iload_n hx hb dX12_join_273 rfl (lv_at hl 0 rfl) ?_
                                refine lv_aload_n hx hb dX12_join_274 rfl (lv_at hl 5 rfl) ?_
                                refine x_getI E h (fi_mo_pieces g) rfl hwX12 (by decide) (by decide +kernel) (v := nI F35) e50 dX12_join_275 ?_
                                refine lv_icmp_ge (tgt := 336) hx hb dX12_join_278 (by decide) (fun c51 => ?_) (fun c51 => ?_)
                                · skip
                                  have b52 : F35 ≤ i49_3 := y_le (a := F35) (b := i49_3) (by omega) (by omega) c51
                                  refine lv_iconst (v := 0) hx hb dX12_join_336 (by decide) ?_
                                  refine lv_istore_n (lv' := [(3, .int 0), (2, .int (nI i49_2)), (5, .int (nI i45_5)), (1, .int 0), (4, .int i40_4), (0, .ref (g.2.1 79))]) hx hb dX12_join_337 rfl hl (by decide) rfl (fun ls hl => ?_)
                                  have loop338_53 : ∀ (fu : Nat) (t53 : ST) (i53_3 : Nat), INV t53 → Fr [] [(85, 85), (87, 87)] σ t53 → t53.1 35 = nI F35 → i53_3 ≤ F35 → F35 - i53_3 < fu → ∀ (H : Heap) (locs : List Loc) (ls : Array Slot), HW g t53 s H locs → lv_has ls 10 [(3, .int (nI i53_3)), (2, .int (nI i49_2)), (5, .int (nI i45_5)), (1, .int 0), (4, .int i40_4), (0, .ref (g.2.1 79))] → W p l e { frames := 0, cells := 0, slots := 0, locals := 0 } s m args below meth c H locs 0 0 (MQ below (XQv g (fun σ' => INV σ' ∧ Fr [] [(85, 85), (87, 87)] σ σ')) args s 0 0 (Aw g)) (F0 m 338 ls []) := by
                                    intro fu
                                    induction fu with
                                    | zero => intro t53 i53_3 hI_53 hF_53 e54 bi53_3 hm; exact absurd hm (Nat.not_lt_zero _)
                                    | succ fu ih =>
                                      have ih53 := ih
                                      clear ih
                                      intro t53 i53_3 hI_53 hF_53 e54 bi53_3 hm53 H locs ls h hl
                                      refine lv_iload_n hx hb dX12_join_338 rfl (lv_at hl 0 rfl) ?_
                                      refine lv_aload_n hx hb dX12_join_339 rfl (lv_at hl 5 rfl) ?_
                                      refine x_getI E h (fi_mo_pieces g) rfl hwX12 (by decide) (by decide +kernel) (v := nI F35) e54 dX12_join_340 ?_
                                      refine lv_icmp_ge (tgt := 364) hx hb dX12_join_343 (by decide) (fun c55 => ?_) (fun c55 => ?_)
                                      · skip
                                        have b56 : F35 ≤ i53_3 := y_le (a := F35) (b := i53_3) (by omega) (by omega) c55
                                        exact x_vret E h ⟨hI_53, hF_53⟩ dX12_join_364
                                      · skip
                                        have b57 : i53_3 < F35 := y_nle (a := F35) (b := i53_3) (by omega) (by omega) c55
                                        refine lv_aload_n hx hb dX12_join_346 rfl (lv_at hl 5 rfl) ?_
                                        refine x_getR E h (fr_mo_joined g) rfl hwX12 (by decide) (by decide +kernel) dX12_join_347 ?_
                                        refine lv_iload_n hx hb dX12_join_350 rfl (lv_at hl 0 rfl) ?_
                                        refine lv_aload_n hx hb dX12_join_351 rfl (lv_at hl 5 rfl) ?_
                                        refine x_getR E h (fr_mo_heap g) rfl hwX12 (by decide) (by decide +kernel) dX12_join_352 ?_
                                        refine lv_iload_n hx hb dX12_join_355 rfl (lv_at hl 0 rfl) ?_
                                        obtain ⟨n58, b58, e58⟩ := hI_53.2 85 8 rfl i53_3
                                        refine x_ldI E h (ia_mo_heap g) (i := nI i53_3) (vp_in_nI (by omega) (by decide)) (v := nI n58) ((congrArg (t53.2.2 85) (nI_clamp (by omega))).trans e58) dX12_join_356 ?_
                                        refine y_stI E h hI_53 hF_53 (ia_mo_joined g) (i := nI i53_3) (vp_in_nI (by omega) (by decide)) (j := i53_3) (nI_clamp (by omega)) (ba_some rfl (Bd.mk (n := n58) (by omega))) rfl dX12_join_357 (fun s59 H locs q59 hI59 hF59 h => ?_)
                                        have e60 : s59.1 35 = nI F35 := (congrArg (fun t : ST => t.1 35) q59).trans e54
                                        refine lv_iinc (v := (nI (i53_3 + 1))) (lv' := [(3, .int (nI (i53_3 + 1))), (2, .int (nI i49_2)), (5, .int (nI i45_5)), (1, .int 0), (4, .int i40_4), (0, .ref (g.2.1 79))]) hx hb dX12_join_358 hl (k := 0) rfl (nI_add i53_3 1) (by decide) rfl (fun ls hl => ?_)
                                        refine lv_goto (tgt := 338) hx hb dX12_join_361 (by decide) ?_
                                        exact ih53 s59 (i53_3 + 1) hI59 hF59 e60 (by omega) (by omega) _ _ _ h (lv_sub hl [0, 1, 2, 3, 4, 5] rfl)
                                  exact loop338_53 _ t49 0 hI_49 hF_49 e50 (Nat.zero_le _) (Nat.lt_succ_self _) _ _ _ h (lv_sub hl [0, 1, 2, 3, 4, 5] rfl)
                                · skip
                                  have b61 : i49_3 < F35 := y_nle (a := F35) (b := i49_3) (by omega) (by omega) c51
                                  refine lv_aload_n hx hb dX12_join_281 rfl (lv_at hl 5 rfl) ?_
                                  refine x_getR E h (fr_mo_heap g) rfl hwX12 (by decide) (by decide +kernel) dX12_join_282 ?_
                                  refine lv_iload_n hx hb dX12_join_285 rfl (lv_at hl 0 rfl) ?_
                                  refine lv_aload_n hx hb dX12_join_286 rfl (lv_at hl 5 rfl) ?_
                                  refine x_getR E h (fr_mo_joined g) rfl hwX12 (by decide) (by decide +kernel) dX12_join_287 ?_
                                  refine lv_iload_n hx hb dX12_join_290 rfl (lv_at hl 0 rfl) ?_
                                  obtain ⟨n62, b62, e62⟩ := hI_49.2 87 8 rfl i49_3
                                  refine x_ldI E h (ia_mo_joined g) (i := nI i49_3) (vp_in_nI (by omega) (by decide)) (v := nI n62) ((congrArg (t49.2.2 87) (nI_clamp (by omega))).trans e62) dX12_join_291 ?_
                                  refine lv_iload_n hx hb dX12_join_292 rfl (lv_at hl 0 rfl) ?_
                                  refine lv_icmp_ne (tgt := 300) hx hb dX12_join_293 (by decide) (fun c63 => ?_) (fun c63 => ?_)
                                  · skip
                                    have b64 : ¬ n62 = i49_3 := y_ne (a := n62) (b := i49_3) (by omega) (by omega) c63
                                    refine lv_aload_n hx hb dX12_join_300 rfl (lv_at hl 5 rfl) ?_
                                    refine x_getR E h (fr_mo_heap g) rfl hwX12 (by decide) (by decide +kernel) dX12_join_301 ?_
                                    refine lv_aload_n hx hb dX12_join_304 rfl (lv_at hl 5 rfl) ?_
                                    refine x_getR E h (fr_mo_joined g) rfl hwX12 (by decide) (by decide +kernel) dX12_join_305 ?_
                                    refine lv_iload_n hx hb dX12_join_308 rfl (lv_at hl 0 rfl) ?_
                                    refine x_ldI E h (ia_mo_joined g) (i := nI i49_3) (vp_in_nI (by omega) (by decide)) (v := nI n62) ((congrArg (t49.2.2 87) (nI_clamp (by omega))).trans e62) dX12_join_309 ?_
                                    obtain ⟨n65, b65, e65⟩ := hI_49.2 85 8 rfl n62
                                    refine x_ldI E h (ia_mo_heap g) (i := nI n62) (vp_in_nI (by omega) (by decide)) (v := nI n65) ((congrArg (t49.2.2 85) (nI_clamp (by omega))).trans e65) dX12_join_310 ?_
                                    refine y_stI E h hI_49 hF_49 (ia_mo_heap g) (i := nI i49_3) (vp_in_nI (by omega) (by decide)) (j := i49_3) (nI_clamp (by omega)) (ba_some rfl (Bd.mk (n := n65) (by omega))) rfl dX12_join_311 (fun s66 H locs q66 hI66 hF66 h => ?_)
                                    have e67 : s66.1 35 = nI F35 := (congrArg (fun t : ST => t.1 35) q66).trans e50
                                    refine lv_iload_n hx hb dX12_join_312 rfl (lv_at hl 1 rfl) ?_
                                    refine lv_aload_n hx hb dX12_join_313 rfl (lv_at hl 5 rfl) ?_
                                    refine x_getR E h (fr_mo_joined g) rfl hwX12 (by decide) (by decide +kernel) dX12_join_314 ?_
                                    refine lv_iload_n hx hb dX12_join_317 rfl (lv_at hl 0 rfl) ?_
                                    obtain ⟨n68, b68, e68⟩ := hI66.2 87 8 rfl i49_3
                                    refine x_ldI E h (ia_mo_joined g) (i := nI i49_3) (vp_in_nI (by omega) (by decide)) (v := nI n68) ((congrArg (s66.2.2 87) (nI_clamp (by omega))).trans e68) dX12_join_318 ?_
                                    refine lv_iload_n hx hb dX12_join_319 rfl (lv_at hl 0 rfl) ?_
                                    refine lv_icmp_ne (tgt := 327) hx hb dX12_join_320 (by decide) (fun c69 => ?_) (fun c69 => ?_)
                                    · skip
                                      have b70 : ¬ n68 = i49_3 := y_ne (a := n68) (b := i49_3) (by omega) (by omega) c69
                                      refine lv_iconst (v := 0) hx hb dX12_join_327 (by decide) ?_
                                      refine lv_iadd hx hb dX12_join_328 ?_
                                      refine x_topI (v2 := nI (i49_2 + 0)) (nI_add i49_2 0) ?_
                                      refine lv_istore_n (lv' := [(2, .int (nI (i49_2 + 0))), (3, .int (nI i49_3)), (5, .int (nI i45_5)), (1, .int 0), (4, .int i40_4), (0, .ref (g.2.1 79))]) hx hb dX12_join_329 rfl hl (by decide) rfl (fun ls hl => ?_)
                                      refine lv_iinc (v := (nI (i49_3 + 1))) (lv' := [(3, .int (nI (i49_3 + 1))), (2, .int (nI (i49_2 + 0))), (5, .int (nI i45_5)), (1, .int 0), (4, .int i40_4), (0, .ref (g.2.1 79))]) hx hb dX12_join_330 hl (k := 1) rfl (nI_add i49_3 1) (by decide) rfl (fun ls hl => ?_)
                                      refine lv_goto (tgt := 273) hx hb dX12_join_333 (by decide) ?_
                                      exact ih49 s66 (i49_3 + 1) (i49_2 + 0) hI66 hF66 e67 (by omega) (by omega) (by omega) _ _ _ h (lv_sub hl [0, 1, 2, 3, 4, 5] rfl)
                                    · skip
                                      have b71 : n68 = i49_3 := y_eq (a := n68) (b := i49_3) (by omega) (by omega) c69
                                      refine lv_iconst (v := 1) hx hb dX12_join_323 (by decide) ?_
                                      refine lv_goto (tgt := 328) hx hb dX12_join_324 (by decide) ?_
                                      refine lv_iadd hx hb dX12_join_328 ?_
                                      refine x_topI (v2 := nI (i49_2 + 1)) (nI_add i49_2 1) ?_
                                      refine lv_istore_n (lv' := [(2, .int (nI (i49_2 + 1))), (3, .int (nI i49_3)), (5, .int (nI i45_5)), (1, .int 0), (4, .int i40_4), (0, .ref (g.2.1 79))]) hx hb dX12_join_329 rfl hl (by decide) rfl (fun ls hl => ?_)
                                      refine lv_iinc (v := (nI (i49_3 + 1))) (lv' := [(3, .int (nI (i49_3 + 1))), (2, .int (nI (i49_2 + 1))), (5, .int (nI i45_5)), (1, .int 0), (4, .int i40_4), (0, .ref (g.2.1 79))]) hx hb dX12_join_330 hl (k := 1) rfl (nI_add i49_3 1) (by decide) rfl (fun ls hl => ?_)
                                      refine lv_goto (tgt := 273) hx hb dX12_join_333 (by decide) ?_
                                      exact ih49 s66 (i49_3 + 1) (i49_2 + 1) hI66 hF66 e67 (by omega) (by omega) (by omega) _ _ _ h (lv_sub hl [0, 1, 2, 3, 4, 5] rfl)
                                  · skip
                                    have b72 : n62 = i49_3 := y_eq (a := n62) (b := i49_3) (by omega) (by omega) c63
                                    refine lv_iload_n hx hb dX12_join_296 rfl (lv_at hl 1 rfl) ?_
                                    refine lv_goto (tgt := 311) hx hb dX12_join_297 (by decide) ?_
                                    refine y_stI E h hI_49 hF_49 (ia_mo_heap g) (i := nI i49_3) (vp_in_nI (by omega) (by decide)) (j := i49_3) (nI_clamp (by omega)) (ba_some rfl (Bd.mk (n := i49_2) (by omega))) rfl dX12_join_311 (fun s73 H locs q73 hI73 hF73 h => ?_)
                                    have e74 : s73.1 35 = nI F35 := (congrArg (fun t : ST => t.1 35) q73).trans e50
                                    refine lv_iload_n hx hb dX12_join_312 rfl (lv_at hl 1 rfl) ?_
                                    refine lv_aload_n hx hb dX12_join_313 rfl (lv_at hl 5 rfl) ?_
                                    refine x_getR E h (fr_mo_joined g) rfl hwX12 (by decide) (by decide +kernel) dX12_join_314 ?_
                                    refine lv_iload_n hx hb dX12_join_317 rfl (lv_at hl 0 rfl) ?_
                                    obtain ⟨n75, b75, e75⟩ := hI73.2 87 8 rfl i49_3
                                    refine x_ldI E h (ia_mo_joined g) (i := nI i49_3) (vp_in_nI (by omega) (by decide)) (v := nI n75) ((congrArg (s73.2.2 87) (nI_clamp (by omega))).trans e75) dX12_join_318 ?_
                                    refine lv_iload_n hx hb dX12_join_319 rfl (lv_at hl 0 rfl) ?_
                                    refine lv_icmp_ne (tgt := 327) hx hb dX12_join_320 (by decide) (fun c76 => ?_) (fun c76 => ?_)
                                    · skip
                                      have b77 : ¬ n75 = i49_3 := y_ne (a := n75) (b := i49_3) (by omega) (by omega) c76
                                      refine lv_iconst (v := 0) hx hb dX12_join_327 (by decide) ?_
                                      refine lv_iadd hx hb dX12_join_328 ?_
                                      refine x_topI (v2 := nI (i49_2 + 0)) (nI_add i49_2 0) ?_
                                      refine lv_istore_n (lv' := [(2, .int (nI (i49_2 + 0))), (3, .int (nI i49_3)), (5, .int (nI i45_5)), (1, .int 0), (4, .int i40_4), (0, .ref (g.2.1 79))]) hx hb dX12_join_329 rfl hl (by decide) rfl (fun ls hl => ?_)
                                      refine lv_iinc (v := (nI (i49_3 + 1))) (lv' := [(3, .int (nI (i49_3 + 1))), (2, .int (nI (i49_2 + 0))), (5, .int (nI i45_5)), (1, .int 0), (4, .int i40_4), (0, .ref (g.2.1 79))]) hx hb dX12_join_330 hl (k := 1) rfl (nI_add i49_3 1) (by decide) rfl (fun ls hl => ?_)
                                      refine lv_goto (tgt := 273) hx hb dX12_join_333 (by decide) ?_
                                      exact ih49 s73 (i49_3 + 1) (i49_2 + 0) hI73 hF73 e74 (by omega) (by omega) (by omega) _ _ _ h (lv_sub hl [0, 1, 2, 3, 4, 5] rfl)
                                    · skip
                                      have b78 : n75 = i49_3 := y_eq (a := n75) (b := i49_3) (by omega) (by omega) c76
                                      refine lv_iconst (v := 1) hx hb dX12_join_323 (by decide) ?_
                                      refine lv_goto (tgt := 328) hx hb dX12_join_324 (by decide) ?_
                                      refine lv_iadd hx hb dX12_join_328 ?_
                                      refine x_topI (v2 := nI (i49_2 + 1)) (nI_add i49_2 1) ?_
                                      refine lv_istore_n (lv' := [(2, .int (nI (i49_2 + 1))), (3, .int (nI i49_3)), (5, .int (nI i45_5)), (1, .int 0), (4, .int i40_4), (0, .ref (g.2.1 79))]) hx hb dX12_join_329 rfl hl (by decide) rfl (fun ls hl => ?_)
                                      refine lv_iinc (v := (nI (i49_3 + 1))) (lv' := [(3, .int (nI (i49_3 + 1))), (2, .int (nI (i49_2 + 1))), (5, .int (nI i45_5)), (1, .int 0), (4, .int i40_4), (0, .ref (g.2.1 79))]) hx hb dX12_join_330 hl (k := 1) rfl (nI_add i49_3 1) (by decide) rfl (fun ls hl => ?_)
                                      refine lv_goto (tgt := 273) hx hb dX12_join_333 (by decide) ?_
                                      exact ih49 s73 (i49_3 + 1) (i49_2 + 1) hI73 hF73 e74 (by omega) (by omega) (by omega) _ _ _ h (lv_sub hl [0, 1, 2, 3, 4, 5] rfl)
                            exact loop273_49 _ t45 0 0 hI_45 hF_45 e46 (Nat.zero_le _) (Nat.zero_le _) (Nat.lt_succ_self _) _ _ _ h (lv_sub hl [0, 1, 2, 3, 4, 5] rfl)
                          · skip
                            have b79 : i45_5 < F35 := y_nle (a := F35) (b := i45_5) (by omega) (by omega) c47
                            refine lv_iload_n hx hb dX12_join_227 rfl (lv_at hl 1 rfl) ?_
                            refine lv_if_eq (tgt := 266) hx hb dX12_join_228 (by decide) (fun _ => ?_) (fun c => absurd (by decide) c)
                            refine lv_goto (tgt := 25) hx hb dX12_join_266 (by decide) ?_
                            refine lv_iload_n hx hb dX12_join_25 rfl (lv_at hl 1 rfl) ?_
                            refine lv_if_eq (tgt := 269) hx hb dX12_join_26 (by decide) (fun _ => ?_) (fun c => absurd (by decide) c)
                            refine lv_iconst (v := 0) hx hb dX12_join_269 (by decide) ?_
                            refine lv_istore_n (lv' := [(2, .int 0), (5, .int (nI i45_5)), (1, .int 0), (4, .int i40_4), (3, .int i40_3), (0, .ref (g.2.1 79))]) hx hb dX12_join_270 rfl hl (by decide) rfl (fun ls hl => ?_)
                            refine lv_iconst (v := 0) hx hb dX12_join_271 (by decide) ?_
                            refine lv_istore_n (lv' := [(3, .int 0), (2, .int 0), (5, .int (nI i45_5)), (1, .int 0), (4, .int i40_4), (0, .ref (g.2.1 79))]) hx hb dX12_join_272 rfl hl (by decide) rfl (fun ls hl => ?_)
                            have loop273_80 : ∀ (fu : Nat) (t80 : ST) (i80_3 : Nat) (i80_2 : Nat), INV t80 → Fr [] [(85, 85), (87, 87)] σ t80 → t80.1 35 = nI F35 → i80_3 ≤ F35 → i80_2 ≤ i80_3 → F35 - i80_3 < fu → ∀ (H : Heap) (locs : List Loc) (ls : Array Slot), HW g t80 s H locs → lv_has ls 10 [(3, .int (nI i80_3)), (2, .int (nI i80_2)), (5, .int (nI i45_5)), (1, .int 0), (4, .int i40_4), (0, .ref (g.2.1 79))] → W p l e { frames := 0, cells := 0, slots := 0, locals := 0 } s m args below meth c H locs 0 0 (MQ below (XQv g (fun σ' => INV σ' ∧ Fr [] [(85, 85), (87, 87)] σ σ')) args s 0 0 (Aw g)) (F0 m 273 ls []) := by
                              intro fu
                              induction fu with
                              | zero => intro t80 i80_3 i80_2 hI_80 hF_80 e81 bi80_3 bi80_2 hm; exact absurd hm (Nat.not_lt_zero _)
                              | succ fu ih =>
                                have ih80 := ih
                                clear ih
                                intro t80 i80_3 i80_2 hI_80 hF_80 e81 bi80_3 bi80_2 hm80 H locs ls h hl
                                refine lv_iload_n hx hb dX12_join_273 rfl (lv_at hl 0 rfl) ?_
                                refine lv_aload_n hx hb dX12_join_274 rfl (lv_at hl 5 rfl) ?_
                                refine x_getI E h (fi_mo_pieces g) rfl hwX12 (by decide) (by decide +kernel) (v := nI F35) e81 dX12_join_275 ?_
                                refine lv_icmp_ge (tgt := 336) hx hb dX12_join_278 (by decide) (fun c82 => ?_) (fun c82 => ?_)
                                · skip
                                  have b83 : F35 ≤ i80_3 := y_le (a := F35) (b := i80_3) (by omega) (by omega) c82
                                  refine lv_iconst (v := 0) hx hb dX12_join_336 (by decide) ?_
                                  refine lv_istore_n (lv' := [(3, .int 0), (2, .int (nI i80_2)), (5, .int (nI i45_5)), (1, .int 0), (4, .int i40_4), (0, .ref (g.2.1 79))]) hx hb dX12_join_337 rfl hl (by decide) rfl (fun ls hl => ?_)
                                  have loop338_84 : ∀ (fu : Nat) (t84 : ST) (i84_3 : Nat), INV t84 → Fr [] [(85, 85), (87, 87)] σ t84 → t84.1 35 = nI F35 → i84_3 ≤ F35 → F35 - i84_3 < fu → ∀ (H : Heap) (locs : List Loc) (ls : Array Slot), HW g t84 s H locs → lv_has ls 10 [(3, .int (nI i84_3)), (2, .int (nI i80_2)), (5, .int (nI i45_5)), (1, .int 0), (4, .int i40_4), (0, .ref (g.2.1 79))] → W p l e { frames := 0, cells := 0, slots := 0, locals := 0 } s m args below meth c H locs 0 0 (MQ below (XQv g (fun σ' => INV σ' ∧ Fr [] [(85, 85), (87, 87)] σ σ')) args s 0 0 (Aw g)) (F0 m 338 ls []) := by
                                    intro fu
                                    induction fu with
                                    | zero => intro t84 i84_3 hI_84 hF_84 e85 bi84_3 hm; exact absurd hm (Nat.not_lt_zero _)
                                    | succ fu ih =>
                                      have ih84 := ih
                                      clear ih
                                      intro t84 i84_3 hI_84 hF_84 e85 bi84_3 hm84 H locs ls h hl
                                      refine lv_iload_n hx hb dX12_join_338 rfl (lv_at hl 0 rfl) ?_
                                      refine lv_aload_n hx hb dX12_join_339 rfl (lv_at hl 5 rfl) ?_
                                      refine x_getI E h (fi_mo_pieces g) rfl hwX12 (by decide) (by decide +kernel) (v := nI F35) e85 dX12_join_340 ?_
                                      refine lv_icmp_ge (tgt := 364) hx hb dX12_join_343 (by decide) (fun c86 => ?_) (fun c86 => ?_)
                                      · skip
                                        have b87 : F35 ≤ i84_3 := y_le (a := F35) (b := i84_3) (by omega) (by omega) c86
                                        exact x_vret E h ⟨hI_84, hF_84⟩ dX12_join_364
                                      · skip
                                        have b88 : i84_3 < F35 := y_nle (a := F35) (b := i84_3) (by omega) (by omega) c86
                                        refine lv_aload_n hx hb dX12_join_346 rfl (lv_at hl 5 rfl) ?_
                                        refine x_getR E h (fr_mo_joined g) rfl hwX12 (by decide) (by decide +kernel) dX12_join_347 ?_
                                        refine lv_iload_n hx hb dX12_join_350 rfl (lv_at hl 0 rfl) ?_
                                        refine lv_aload_n hx hb dX12_join_351 rfl (lv_at hl 5 rfl) ?_
                                        refine x_getR E h (fr_mo_heap g) rfl hwX12 (by decide) (by decide +kernel) dX12_join_352 ?_
                                        refine lv_iload_n hx hb dX12_join_355 rfl (lv_at hl 0 rfl) ?_
                                        obtain ⟨n89, b89, e89⟩ := hI_84.2 85 8 rfl i84_3
                                        refine x_ldI E h (ia_mo_heap g) (i := nI i84_3) (vp_in_nI (by omega) (by decide)) (v := nI n89) ((congrArg (t84.2.2 85) (nI_clamp (by omega))).trans e89) dX12_join_356 ?_
                                        refine y_stI E h hI_84 hF_84 (ia_mo_joined g) (i := nI i84_3) (vp_in_nI (by omega) (by decide)) (j := i84_3) (nI_clamp (by omega)) (ba_some rfl (Bd.mk (n := n89) (by omega))) rfl dX12_join_357 (fun s90 H locs q90 hI90 hF90 h => ?_)
                                        have e91 : s90.1 35 = nI F35 := (congrArg (fun t : ST => t.1 35) q90).trans e85
                                        refine lv_iinc (v := (nI (i84_3 + 1))) (lv' := [(3, .int (nI (i84_3 + 1))), (2, .int (nI i80_2)), (5, .int (nI i45_5)), (1, .int 0), (4, .int i40_4), (0, .ref (g.2.1 79))]) hx hb dX12_join_358 hl (k := 0) rfl (nI_add i84_3 1) (by decide) rfl (fun ls hl => ?_)
                                        refine lv_goto (tgt := 338) hx hb dX12_join_361 (by decide) ?_
                                        exact ih84 s90 (i84_3 + 1) hI90 hF90 e91 (by omega) (by omega) _ _ _ h (lv_sub hl [0, 1, 2, 3, 4, 5] rfl)
                                  exact loop338_84 _ t80 0 hI_80 hF_80 e81 (Nat.zero_le _) (Nat.lt_succ_self _) _ _ _ h (lv_sub hl [0, 1, 2, 3, 4, 5] rfl)
                                · skip
                                  have b92 : i80_3 < F35 := y_nle (a := F35) (b := i80_3) (by omega) (by omega) c82
                                  refine lv_aload_n hx hb dX12_join_281 rfl (lv_at hl 5 rfl) ?_
                                  refine x_getR E h (fr_mo_heap g) rfl hwX12 (by decide) (by decide +kernel) dX12_join_282 ?_
                                  refine lv_iload_n hx hb dX12_join_285 rfl (lv_at hl 0 rfl) ?_
                                  refine lv_aload_n hx hb dX12_join_286 rfl (lv_at hl 5 rfl) ?_
                                  refine x_getR E h (fr_mo_joined g) rfl hwX12 (by decide) (by decide +kernel) dX12_join_287 ?_
                                  refine lv_iload_n hx hb dX12_join_290 rfl (lv_at hl 0 rfl) ?_
                                  obtain ⟨n93, b93, e93⟩ := hI_80.2 87 8 rfl i80_3
                                  refine x_ldI E h (ia_mo_joined g) (i := nI i80_3) (vp_in_nI (by omega) (by decide)) (v := nI n93) ((congrArg (t80.2.2 87) (nI_clamp (by omega))).trans e93) dX12_join_291 ?_
                                  refine lv_iload_n hx hb dX12_join_292 rfl (lv_at hl 0 rfl) ?_
                                  refine lv_icmp_ne (tgt := 300) hx hb dX12_join_293 (by decide) (fun c94 => ?_) (fun c94 => ?_)
                                  · skip
                                    have b95 : ¬ n93 = i80_3 := y_ne (a := n93) (b := i80_3) (by omega) (by omega) c94
                                    refine lv_aload_n hx hb dX12_join_300 rfl (lv_at hl 5 rfl) ?_
                                    refine x_getR E h (fr_mo_heap g) rfl hwX12 (by decide) (by decide +kernel) dX12_join_301 ?_
                                    refine lv_aload_n hx hb dX12_join_304 rfl (lv_at hl 5 rfl) ?_
                                    refine x_getR E h (fr_mo_joined g) rfl hwX12 (by decide) (by decide +kernel) dX12_join_305 ?_
                                    refine lv_iload_n hx hb dX12_join_308 rfl (lv_at hl 0 rfl) ?_
                                    refine x_ldI E h (ia_mo_joined g) (i := nI i80_3) (vp_in_nI (by omega) (by decide)) (v := nI n93) ((congrArg (t80.2.2 87) (nI_clamp (by omega))).trans e93) dX12_join_309 ?_
                                    obtain ⟨n96, b96, e96⟩ := hI_80.2 85 8 rfl n93
                                    refine x_ldI E h (ia_mo_heap g) (i := nI n93) (vp_in_nI (by omega) (by decide)) (v := nI n96) ((congrArg (t80.2.2 85) (nI_clamp (by omega))).trans e96) dX12_join_310 ?_
                                    refine y_stI E h hI_80 hF_80 (ia_mo_heap g) (i := nI i80_3) (vp_in_nI (by omega) (by decide)) (j := i80_3) (nI_clamp (by omega)) (ba_some rfl (Bd.mk (n := n96) (by omega))) rfl dX12_join_311 (fun s97 H locs q97 hI97 hF97 h => ?_)
                                    have e98 : s97.1 35 = nI F35 := (congrArg (fun t : ST => t.1 35) q97).trans e81
                                    refine lv_iload_n hx hb dX12_join_312 rfl (lv_at hl 1 rfl) ?_
                                    refine lv_aload_n hx hb dX12_join_313 rfl (lv_at hl 5 rfl) ?_
                                    refine x_getR E h (fr_mo_joined g) rfl hwX12 (by decide) (by decide +kernel) dX12_join_314 ?_
                                    refine lv_iload_n hx hb dX12_join_317 rfl (lv_at hl 0 rfl) ?_
                                    obtain ⟨n99, b99, e99⟩ := hI97.2 87 8 rfl i80_3
                                    refine x_ldI E h (ia_mo_joined g) (i := nI i80_3) (vp_in_nI (by omega) (by decide)) (v := nI n99) ((congrArg (s97.2.2 87) (nI_clamp (by omega))).trans e99) dX12_join_318 ?_
                                    refine lv_iload_n hx hb dX12_join_319 rfl (lv_at hl 0 rfl) ?_
                                    refine lv_icmp_ne (tgt := 327) hx hb dX12_join_320 (by decide) (fun c100 => ?_) (fun c100 => ?_)
                                    · skip
                                      have b101 : ¬ n99 = i80_3 := y_ne (a := n99) (b := i80_3) (by omega) (by omega) c100
                                      refine lv_iconst (v := 0) hx hb dX12_join_327 (by decide) ?_
                                      refine lv_iadd hx hb dX12_join_328 ?_
                                      refine x_topI (v2 := nI (i80_2 + 0)) (nI_add i80_2 0) ?_
                                      refine lv_istore_n (lv' := [(2, .int (nI (i80_2 + 0))), (3, .int (nI i80_3)), (5, .int (nI i45_5)), (1, .int 0), (4, .int i40_4), (0, .ref (g.2.1 79))]) hx hb dX12_join_329 rfl hl (by decide) rfl (fun ls hl => ?_)
                                      refine lv_iinc (v := (nI (i80_3 + 1))) (lv' := [(3, .int (nI (i80_3 + 1))), (2, .int (nI (i80_2 + 0))), (5, .int (nI i45_5)), (1, .int 0), (4, .int i40_4), (0, .ref (g.2.1 79))]) hx hb dX12_join_330 hl (k := 1) rfl (nI_add i80_3 1) (by decide) rfl (fun ls hl => ?_)
                                      refine lv_goto (tgt := 273) hx hb dX12_join_333 (by decide) ?_
                                      exact ih80 s97 (i80_3 + 1) (i80_2 + 0) hI97 hF97 e98 (by omega) (by omega) (by omega) _ _ _ h (lv_sub hl [0, 1, 2, 3, 4, 5] rfl)
                                    · skip
                                      have b102 : n99 = i80_3 := y_eq (a := n99) (b := i80_3) (by omega) (by omega) c100
                                      refine lv_iconst (v := 1) hx hb dX12_join_323 (by decide) ?_
                                      refine lv_goto (tgt := 328) hx hb dX12_join_324 (by decide) ?_
                                      refine lv_iadd hx hb dX12_join_328 ?_
                                      refine x_topI (v2 := nI (i80_2 + 1)) (nI_add i80_2 1) ?_
                                      refine lv_istore_n (lv' := [(2, .int (nI (i80_2 + 1))), (3, .int (nI i80_3)), (5, .int (nI i45_5)), (1, .int 0), (4, .int i40_4), (0, .ref (g.2.1 79))]) hx hb dX12_join_329 rfl hl (by decide) rfl (fun ls hl => ?_)
                                      refine lv_iinc (v := (nI (i80_3 + 1))) (lv' := [(3, .int (nI (i80_3 + 1))), (2, .int (nI (i80_2 + 1))), (5, .int (nI i45_5)), (1, .int 0), (4, .int i40_4), (0, .ref (g.2.1 79))]) hx hb dX12_join_330 hl (k := 1) rfl (nI_add i80_3 1) (by decide) rfl (fun ls hl => ?_)
                                      refine lv_goto (tgt := 273) hx hb dX12_join_333 (by decide) ?_
                                      exact ih80 s97 (i80_3 + 1) (i80_2 + 1) hI97 hF97 e98 (by omega) (by omega) (by omega) _ _ _ h (lv_sub hl [0, 1, 2, 3, 4, 5] rfl)
                                  · skip
                                    have b103 : n93 = i80_3 := y_eq (a := n93) (b := i80_3) (by omega) (by omega) c94
                                    refine lv_iload_n hx hb dX12_join_296 rfl (lv_at hl 1 rfl) ?_
                                    refine lv_goto (tgt := 311) hx hb dX12_join_297 (by decide) ?_
                                    refine y_stI E h hI_80 hF_80 (ia_mo_heap g) (i := nI i80_3) (vp_in_nI (by omega) (by decide)) (j := i80_3) (nI_clamp (by omega)) (ba_some rfl (Bd.mk (n := i80_2) (by omega))) rfl dX12_join_311 (fun s104 H locs q104 hI104 hF104 h => ?_)
                                    have e105 : s104.1 35 = nI F35 := (congrArg (fun t : ST => t.1 35) q104).trans e81
                                    refine lv_iload_n hx hb dX12_join_312 rfl (lv_at hl 1 rfl) ?_
                                    refine lv_aload_n hx hb dX12_join_313 rfl (lv_at hl 5 rfl) ?_
                                    refine x_getR E h (fr_mo_joined g) rfl hwX12 (by decide) (by decide +kernel) dX12_join_314 ?_
                                    refine lv_iload_n hx hb dX12_join_317 rfl (lv_at hl 0 rfl) ?_
                                    obtain ⟨n106, b106, e106⟩ := hI104.2 87 8 rfl i80_3
                                    refine x_ldI E h (ia_mo_joined g) (i := nI i80_3) (vp_in_nI (by omega) (by decide)) (v := nI n106) ((congrArg (s104.2.2 87) (nI_clamp (by omega))).trans e106) dX12_join_318 ?_
                                    refine lv_iload_n hx hb dX12_join_319 rfl (lv_at hl 0 rfl) ?_
                                    refine lv_icmp_ne (tgt := 327) hx hb dX12_join_320 (by decide) (fun c107 => ?_) (fun c107 => ?_)
                                    · skip
                                      have b108 : ¬ n106 = i80_3 := y_ne (a := n106) (b := i80_3) (by omega) (by omega) c107
                                      refine lv_iconst (v := 0) hx hb dX12_join_327 (by decide) ?_
                                      refine lv_iadd hx hb dX12_join_328 ?_
                                      refine x_topI (v2 := nI (i80_2 + 0)) (nI_add i80_2 0) ?_
                                      refine lv_istore_n (lv' := [(2, .int (nI (i80_2 + 0))), (3, .int (nI i80_3)), (5, .int (nI i45_5)), (1, .int 0), (4, .int i40_4), (0, .ref (g.2.1 79))]) hx hb dX12_join_329 rfl hl (by decide) rfl (fun ls hl => ?_)
                                      refine lv_iinc (v := (nI (i80_3 + 1))) (lv' := [(3, .int (nI (i80_3 + 1))), (2, .int (nI (i80_2 + 0))), (5, .int (nI i45_5)), (1, .int 0), (4, .int i40_4), (0, .ref (g.2.1 79))]) hx hb dX12_join_330 hl (k := 1) rfl (nI_add i80_3 1) (by decide) rfl (fun ls hl => ?_)
                                      refine lv_goto (tgt := 273) hx hb dX12_join_333 (by decide) ?_
                                      exact ih80 s104 (i80_3 + 1) (i80_2 + 0) hI104 hF104 e105 (by omega) (by omega) (by omega) _ _ _ h (lv_sub hl [0, 1, 2, 3, 4, 5] rfl)
                                    · skip
                                      have b109 : n106 = i80_3 := y_eq (a := n106) (b := i80_3) (by omega) (by omega) c107
                                      refine lv_iconst (v := 1) hx hb dX12_join_323 (by decide) ?_
                                      refine lv_goto (tgt := 328) hx hb dX12_join_324 (by decide) ?_
                                      refine lv_iadd hx hb dX12_join_328 ?_
                                      refine x_topI (v2 := nI (i80_2 + 1)) (nI_add i80_2 1) ?_
                                      refine lv_istore_n (lv' := [(2, .int (nI (i80_2 + 1))), (3, .int (nI i80_3)), (5, .int (nI i45_5)), (1, .int 0), (4, .int i40_4), (0, .ref (g.2.1 79))]) hx hb dX12_join_329 rfl hl (by decide) rfl (fun ls hl => ?_)
                                      refine lv_iinc (v := (nI (i80_3 + 1))) (lv' := [(3, .int (nI (i80_3 + 1))), (2, .int (nI (i80_2 + 1))), (5, .int (nI i45_5)), (1, .int 0), (4, .int i40_4), (0, .ref (g.2.1 79))]) hx hb dX12_join_330 hl (k := 1) rfl (nI_add i80_3 1) (by decide) rfl (fun ls hl => ?_)
                                      refine lv_goto (tgt := 273) hx hb dX12_join_333 (by decide) ?_
                                      exact ih80 s104 (i80_3 + 1) (i80_2 + 1) hI104 hF104 e105 (by omega) (by omega) (by omega) _ _ _ h (lv_sub hl [0, 1, 2, 3, 4, 5] rfl)
                            exact loop273_80 _ t45 0 0 hI_45 hF_45 e46 (Nat.zero_le _) (Nat.zero_le _) (Nat.lt_succ_self _) _ _ _ h (lv_sub hl [0, 1, 2, 3, 4, 5] rfl)
                      exact loop218_45 _ t5 0 hI_5 hF_5 e6 (Nat.zero_le _) (Nat.lt_succ_self _) _ _ _ h (lv_sub hl [0, 1, 2, 3, 4, 5] rfl)
                    · skip
                      obtain ⟨a111, b111, c111, d111, rfl, rfl, e111, f111⟩ := JO.ne jo_40 c43
                      refine lv_iconst (v := 1) hx hb dX12_join_209 (by decide) ?_
                      refine lv_goto (tgt := 214) hx hb dX12_join_210 (by decide) ?_
                      refine lv_istore_n (lv' := [(1, .int 1), (5, .int (nI i40_5)), (4, .int i40_4), (3, .int (nI b111)), (2, .int (nI a111)), (0, .ref (g.2.1 79))]) hx hb dX12_join_214 rfl hl (by decide) rfl (fun ls hl => ?_)
                      refine lv_iconst (v := 0) hx hb dX12_join_215 (by decide) ?_
                      refine lv_istore (lv' := [(5, .int 0), (1, .int 1), (4, .int i40_4), (3, .int (nI b111)), (2, .int (nI a111)), (0, .ref (g.2.1 79))]) hx hb dX12_join_216 hl (by decide) rfl (fun ls hl => ?_)
                      have loop218_112 : ∀ (fu : Nat) (t112 : ST) (i112_5 : Nat), INV t112 → Fr [] [(85, 85), (87, 87)] σ t112 → t112.1 35 = nI F35 → i112_5 ≤ F35 → MG (t5.2.2 87) (t112.2.2 87) i112_5 a111 b111 → F35 - i112_5 < fu → ∀ (H : Heap) (locs : List Loc) (ls : Array Slot), HW g t112 s H locs → lv_has ls 10 [(5, .int (nI i112_5)), (1, .int 1), (4, .int i40_4), (3, .int (nI b111)), (2, .int (nI a111)), (0, .ref (g.2.1 79))] → W p l e { frames := 0, cells := 0, slots := 0, locals := 0 } s m args below meth c H locs 0 0 (MQ below (XQv g (fun σ' => INV σ' ∧ Fr [] [(85, 85), (87, 87)] σ σ')) args s 0 0 (Aw g)) (F0 m 218 ls []) := by
                        intro fu
                        induction fu with
                        | zero => intro t112 i112_5 hI_112 hF_112 e113 bi112_5 mg_112 hm; exact absurd hm (Nat.not_lt_zero _)
                        | succ fu ih =>
                          have ih112 := ih
                          clear ih
                          intro t112 i112_5 hI_112 hF_112 e113 bi112_5 mg_112 hm112 H locs ls h hl
                          refine lv_iload hx hb dX12_join_218 (lv_at hl 0 rfl) ?_
                          refine lv_aload_n hx hb dX12_join_220 rfl (lv_at hl 5 rfl) ?_
                          refine x_getI E h (fi_mo_pieces g) rfl hwX12 (by decide) (by decide +kernel) (v := nI F35) e113 dX12_join_221 ?_
                          refine lv_icmp_ge (tgt := 266) hx hb dX12_join_224 (by decide) (fun c114 => ?_) (fun c114 => ?_)
                          · skip
                            have b115 : F35 ≤ i112_5 := y_le (a := F35) (b := i112_5) (by omega) (by omega) c114
                            refine lv_goto (tgt := 25) hx hb dX12_join_266 (by decide) ?_
                            exact ih5 t112 1 hI_112 hF_112 e113 (by have h1 := fx_lt mg_112 (P := F35) (by omega) c111 d111 (by omega) e111 f111; have h3 := hm5; omega) _ _ _ h (lv_sub hl [1, 5] rfl)
                          · skip
                            have b116 : i112_5 < F35 := y_nle (a := F35) (b := i112_5) (by omega) (by omega) c114
                            refine lv_iload_n hx hb dX12_join_227 rfl (lv_at hl 1 rfl) ?_
                            refine lv_if_eq (tgt := 266) hx hb dX12_join_228 (by decide) (fun c => absurd c (by decide)) (fun _ => ?_)
                            refine lv_aload_n hx hb dX12_join_231 rfl (lv_at hl 5 rfl) ?_
                            refine x_getR E h (fr_mo_joined g) rfl hwX12 (by decide) (by decide +kernel) dX12_join_232 ?_
                            refine lv_iload hx hb dX12_join_235 (lv_at hl 0 rfl) ?_
                            refine lv_aload_n hx hb dX12_join_237 rfl (lv_at hl 5 rfl) ?_
                            refine x_getR E h (fr_mo_joined g) rfl hwX12 (by decide) (by decide +kernel) dX12_join_238 ?_
                            refine lv_iload hx hb dX12_join_241 (lv_at hl 0 rfl) ?_
                            obtain ⟨n117, b117, e117⟩ := hI_112.2 87 8 rfl i112_5
                            refine x_ldI E h (ia_mo_joined g) (i := nI i112_5) (vp_in_nI (by omega) (by decide)) (v := nI n117) ((congrArg (t112.2.2 87) (nI_clamp (by omega))).trans e117) dX12_join_243 ?_
                            refine lv_iload_n hx hb dX12_join_244 rfl (lv_at hl 3 rfl) ?_
                            refine lv_icmp_ne (tgt := 252) hx hb dX12_join_245 (by decide) (fun c118 => ?_) (fun c118 => ?_)
                            · skip
                              have b119 : ¬ n117 = b111 := y_ne (a := n117) (b := b111) (by omega) (by omega) c118
                              refine lv_aload_n hx hb dX12_join_252 rfl (lv_at hl 5 rfl) ?_
                              refine x_getR E h (fr_mo_joined g) rfl hwX12 (by decide) (by decide +kernel) dX12_join_253 ?_
                              refine lv_iload hx hb dX12_join_256 (lv_at hl 0 rfl) ?_
                              refine x_ldI E h (ia_mo_joined g) (i := nI i112_5) (vp_in_nI (by omega) (by decide)) (v := nI n117) ((congrArg (t112.2.2 87) (nI_clamp (by omega))).trans e117) dX12_join_258 ?_
                              refine y_stI E h hI_112 hF_112 (ia_mo_joined g) (i := nI i112_5) (vp_in_nI (by omega) (by decide)) (j := i112_5) (nI_clamp (by omega)) (ba_some rfl (Bd.mk (n := n117) (by omega))) rfl dX12_join_259 (fun s120 H locs q120 hI120 hF120 h => ?_)
                              have e121 : s120.1 35 = nI F35 := (congrArg (fun t : ST => t.1 35) q120).trans e113
                              have a122 := MG.s2 mg_112 (show s120.2.2 87 = upd (t112.2.2 87) i112_5 (nI n117) from congrArg (fun t : ST => t.2.2 87) q120) e117 (by omega) (by omega) (by omega)
                              refine lv_iinc (v := (nI (i112_5 + 1))) (lv' := [(5, .int (nI (i112_5 + 1))), (1, .int 1), (4, .int i40_4), (3, .int (nI b111)), (2, .int (nI a111)), (0, .ref (g.2.1 79))]) hx hb dX12_join_260 hl (k := 0) rfl (nI_add i112_5 1) (by decide) rfl (fun ls hl => ?_)
                              refine lv_goto (tgt := 218) hx hb dX12_join_263 (by decide) ?_
                              exact ih112 s120 (i112_5 + 1) hI120 hF120 e121 (by omega) a122 (by omega) _ _ _ h (lv_sub hl [0, 1, 2, 3, 4, 5] rfl)
                            · skip
                              have b123 : n117 = b111 := y_eq (a := n117) (b := b111) (by omega) (by omega) c118
                              refine lv_iload_n hx hb dX12_join_248 rfl (lv_at hl 4 rfl) ?_
                              refine lv_goto (tgt := 259) hx hb dX12_join_249 (by decide) ?_
                              refine y_stI E h hI_112 hF_112 (ia_mo_joined g) (i := nI i112_5) (vp_in_nI (by omega) (by decide)) (j := i112_5) (nI_clamp (by omega)) (ba_some rfl (Bd.mk (n := a111) (by omega))) rfl dX12_join_259 (fun s124 H locs q124 hI124 hF124 h => ?_)
                              have e125 : s124.1 35 = nI F35 := (congrArg (fun t : ST => t.1 35) q124).trans e113
                              have a126 := MG.s1 mg_112 (show s124.2.2 87 = upd (t112.2.2 87) i112_5 (nI a111) from congrArg (fun t : ST => t.2.2 87) q124) e117 (by omega)
                              refine lv_iinc (v := (nI (i112_5 + 1))) (lv' := [(5, .int (nI (i112_5 + 1))), (1, .int 1), (4, .int i40_4), (3, .int (nI b111)), (2, .int (nI a111)), (0, .ref (g.2.1 79))]) hx hb dX12_join_260 hl (k := 0) rfl (nI_add i112_5 1) (by decide) rfl (fun ls hl => ?_)
                              refine lv_goto (tgt := 218) hx hb dX12_join_263 (by decide) ?_
                              exact ih112 s124 (i112_5 + 1) hI124 hF124 e125 (by omega) a126 (by omega) _ _ _ h (lv_sub hl [0, 1, 2, 3, 4, 5] rfl)
                      exact loop218_112 _ t5 0 hI_5 hF_5 e6 (Nat.zero_le _) MG.zero (Nat.lt_succ_self _) _ _ _ h (lv_sub hl [0, 1, 2, 3, 4, 5] rfl)
                  · skip
                    have b127 : i40_5 < F35 := y_nle (a := F35) (b := i40_5) (by omega) (by omega) c41
                    refine lv_iload hx hb dX12_join_50 (lv_at hl 0 rfl) ?_
                    refine lv_iconst (v := 1) hx hb dX12_join_52 (by decide) ?_
                    refine lv_iadd hx hb dX12_join_53 ?_
                    refine x_topI (v2 := nI (i40_5 + 1)) (nI_add i40_5 1) ?_
                    refine lv_istore (lv' := [(6, .int (nI (i40_5 + 1))), (5, .int (nI i40_5)), (4, .int i40_4), (3, .int i40_3), (2, .int i40_2), (1, .int i5_1), (0, .ref (g.2.1 79))]) hx hb dX12_join_54 hl (by decide) rfl (fun ls hl => ?_)
                    have loop56_128 : ∀ (fu : Nat) (i128_6 : Nat) (i128_4 : Int32) (i128_3 : Int32) (i128_2 : Int32), i128_6 ≤ F35 → i40_5 < i128_6 → JO i128_2 i128_3 F35 (t5.2.2 87) → F35 - i128_6 < fu → ∀ (H : Heap) (locs : List Loc) (ls : Array Slot), HW g t5 s H locs → lv_has ls 10 [(6, .int (nI i128_6)), (5, .int (nI i40_5)), (4, .int i128_4), (3, .int i128_3), (2, .int i128_2), (1, .int i5_1), (0, .ref (g.2.1 79))] → W p l e { frames := 0, cells := 0, slots := 0, locals := 0 } s m args below meth c H locs 0 0 (MQ below (XQv g (fun σ' => INV σ' ∧ Fr [] [(85, 85), (87, 87)] σ σ')) args s 0 0 (Aw g)) (F0 m 56 ls []) := by
                      intro fu
                      induction fu with
                      | zero => intro i128_6 i128_4 i128_3 i128_2 bi128_6 pp128_0 jo_128 hm; exact absurd hm (Nat.not_lt_zero _)
                      | succ fu ih =>
                        have ih128 := ih
                        clear ih
                        intro i128_6 i128_4 i128_3 i128_2 bi128_6 pp128_0 jo_128 hm128 H locs ls h hl
                        refine lv_iload hx hb dX12_join_56 (lv_at hl 0 rfl) ?_
                        refine lv_aload_n hx hb dX12_join_58 rfl (lv_at hl 6 rfl) ?_
                        refine x_getI E h (fi_mo_pieces g) rfl hwX12 (by decide) (by decide +kernel) (v := nI F35) e6 dX12_join_59 ?_
                        refine lv_icmp_ge (tgt := 197) hx hb dX12_join_62 (by decide) (fun c129 => ?_) (fun c129 => ?_)
                        · skip
                          have b130 : F35 ≤ i128_6 := y_le (a := F35) (b := i128_6) (by omega) (by omega) c129
                          refine lv_iinc (v := (nI (i40_5 + 1))) (lv' := [(5, .int (nI (i40_5 + 1))), (6, .int (nI i128_6)), (4, .int i128_4), (3, .int i128_3), (2, .int i128_2), (1, .int i5_1), (0, .ref (g.2.1 79))]) hx hb dX12_join_197 hl (k := 1) rfl (nI_add i40_5 1) (by decide) rfl (fun ls hl => ?_)
                          refine lv_goto (tgt := 41) hx hb dX12_join_200 (by decide) ?_
                          exact ih40 (i40_5 + 1) i128_4 i128_3 i128_2 (by omega) jo_128 (by omega) _ _ _ h (lv_sub hl [0, 2, 3, 4, 5, 6] rfl)
                        · skip
                          have b131 : i128_6 < F35 := y_nle (a := F35) (b := i128_6) (by omega) (by omega) c129
                          refine lv_aload_n hx hb dX12_join_65 rfl (lv_at hl 6 rfl) ?_
                          refine x_getR E h (fr_mo_joined g) rfl hwX12 (by decide) (by decide +kernel) dX12_join_66 ?_
                          refine lv_iload hx hb dX12_join_69 (lv_at hl 1 rfl) ?_
                          obtain ⟨n132, b132, e132⟩ := hI_5.2 87 8 rfl i40_5
                          refine x_ldI E h (ia_mo_joined g) (i := nI i40_5) (vp_in_nI (by omega) (by decide)) (v := nI n132) ((congrArg (t5.2.2 87) (nI_clamp (by omega))).trans e132) dX12_join_71 ?_
                          refine lv_iload hx hb dX12_join_72 (lv_at hl 1 rfl) ?_
                          have j191_135 : ∀ (y135_l4 : Int32) (y135_l3 : Int32) (y135_l2 : Int32), JO y135_l2 y135_l3 F35 (t5.2.2 87) → ∀ (H : Heap) (locs : List Loc) (ls : Array Slot), HW g t5 s H locs → lv_has ls 10 [(6, .int (nI i128_6)), (5, .int (nI i40_5)), (4, .int y135_l4), (3, .int y135_l3), (2, .int y135_l2), (1, .int i5_1), (0, .ref (g.2.1 79))] → W p l e { frames := 0, cells := 0, slots := 0, locals := 0 } s m args below meth c H locs 0 0 (MQ below (XQv g (fun σ' => INV σ' ∧ Fr [] [(85, 85), (87, 87)] σ σ')) args s 0 0 (Aw g)) (F0 m 191 ls []) := by
                            intro y135_l4 y135_l3 y135_l2 a136 H locs ls h hl
                            refine lv_iinc (v := (nI (i128_6 + 1))) (lv' := [(6, .int (nI (i128_6 + 1))), (5, .int (nI i40_5)), (4, .int y135_l4), (3, .int y135_l3), (2, .int y135_l2), (1, .int i5_1), (0, .ref (g.2.1 79))]) hx hb dX12_join_191 hl (k := 0) rfl (nI_add i128_6 1) (by decide) rfl (fun ls hl => ?_)
                            refine lv_goto (tgt := 56) hx hb dX12_join_194 (by decide) ?_
                            exact ih128 (i128_6 + 1) y135_l4 y135_l3 y135_l2 (by omega) (by omega) a136 (by omega) _ _ _ h (lv_sub hl [0, 1, 2, 3, 4, 5, 6] rfl)
                          refine lv_icmp_ne (tgt := 191) hx hb dX12_join_74 (by decide) (fun c133 => ?_) (fun c133 => ?_)
                          · skip
                            have b134 : ¬ n132 = i40_5 := y_ne (a := n132) (b := i40_5) (by omega) (by omega) c133
                            exact j191_135 i128_4 i128_3 i128_2 jo_128 _ _ _ h (lv_sub hl [0, 1, 2, 3, 4, 5, 6] rfl)
                          · skip
                            have b137 : n132 = i40_5 := y_eq (a := n132) (b := i40_5) (by omega) (by omega) c133
                            refine lv_aload_n hx hb dX12_join_77 rfl (lv_at hl 6 rfl) ?_
                            refine x_getR E h (fr_mo_joined g) rfl hwX12 (by decide) (by decide +kernel) dX12_join_78 ?_
                            refine lv_iload hx hb dX12_join_81 (lv_at hl 0 rfl) ?_
                            obtain ⟨n138, b138, e138⟩ := hI_5.2 87 8 rfl i128_6
                            refine x_ldI E h (ia_mo_joined g) (i := nI i128_6) (vp_in_nI (by omega) (by decide)) (v := nI n138) ((congrArg (t5.2.2 87) (nI_clamp (by omega))).trans e138) dX12_join_83 ?_
                            refine lv_iload hx hb dX12_join_84 (lv_at hl 0 rfl) ?_
                            refine lv_icmp_ne (tgt := 191) hx hb dX12_join_86 (by decide) (fun c139 => ?_) (fun c139 => ?_)
                            · skip
                              have b140 : ¬ n138 = i128_6 := y_ne (a := n138) (b := i128_6) (by omega) (by omega) c139
                              exact j191_135 i128_4 i128_3 i128_2 jo_128 _ _ _ h (lv_sub hl [0, 1, 2, 3, 4, 5, 6] rfl)
                            · skip
                              have b141 : n138 = i128_6 := y_eq (a := n138) (b := i128_6) (by omega) (by omega) c139
                              refine lv_iconst (v := 0) hx hb dX12_join_89 (by decide) ?_
                              refine lv_istore (lv' := [(7, .int 0), (6, .int (nI i128_6)), (5, .int (nI i40_5)), (4, .int i128_4), (3, .int i128_3), (2, .int i128_2), (1, .int i5_1), (0, .ref (g.2.1 79))]) hx hb dX12_join_90 hl (by decide) rfl (fun ls hl => ?_)
                              refine lv_iconst (v := 0) hx hb dX12_join_92 (by decide) ?_
                              refine lv_istore (lv' := [(8, .int 0), (7, .int 0), (6, .int (nI i128_6)), (5, .int (nI i40_5)), (4, .int i128_4), (3, .int i128_3), (2, .int i128_2), (1, .int i5_1), (0, .ref (g.2.1 79))]) hx hb dX12_join_93 hl (by decide) rfl (fun ls hl => ?_)
                              have loop95_142 : ∀ (fu : Nat) (i142_8 : Nat) (i142_7 : Int32), i142_8 ≤ F35 → F35 - i142_8 < fu → ∀ (H : Heap) (locs : List Loc) (ls : Array Slot), HW g t5 s H locs → lv_has ls 10 [(8, .int (nI i142_8)), (7, .int i142_7), (6, .int (nI i128_6)), (5, .int (nI i40_5)), (4, .int i128_4), (3, .int i128_3), (2, .int i128_2), (1, .int i5_1), (0, .ref (g.2.1 79))] → W p l e { frames := 0, cells := 0, slots := 0, locals := 0 } s m args below meth c H locs 0 0 (MQ below (XQv g (fun σ' => INV σ' ∧ Fr [] [(85, 85), (87, 87)] σ σ')) args s 0 0 (Aw g)) (F0 m 95 ls []) := by
                                intro fu
                                induction fu with
                                | zero => intro i142_8 i142_7 bi142_8 hm; exact absurd hm (Nat.not_lt_zero _)
                                | succ fu ih =>
                                  have ih142 := ih
                                  clear ih
                                  intro i142_8 i142_7 bi142_8 hm142 H locs ls h hl
                                  refine lv_iload hx hb dX12_join_95 (lv_at hl 0 rfl) ?_
                                  refine lv_aload_n hx hb dX12_join_97 rfl (lv_at hl 8 rfl) ?_
                                  refine x_getI E h (fi_mo_pieces g) rfl hwX12 (by decide) (by decide +kernel) (v := nI F35) e6 dX12_join_98 ?_
                                  refine lv_icmp_ge (tgt := 174) hx hb dX12_join_101 (by decide) (fun c143 => ?_) (fun c143 => ?_)
                                  · skip
                                    have b144 : F35 ≤ i142_8 := y_le (a := F35) (b := i142_8) (by omega) (by omega) c143
                                    refine lv_iload hx hb dX12_join_174 (lv_at hl 1 rfl) ?_
                                    refine lv_iload hx hb dX12_join_176 (lv_at hl 4 rfl) ?_
                                    refine lv_icmp_le (tgt := 191) hx hb dX12_join_178 (by decide) (fun c145 => ?_) (fun c145 => ?_)
                                    · skip
                                      exact j191_135 i128_4 i128_3 i128_2 jo_128 _ _ _ h (lv_sub hl [2, 3, 4, 5, 6, 7, 8] rfl)
                                    · skip
                                      refine lv_iload hx hb dX12_join_181 (lv_at hl 1 rfl) ?_
                                      refine lv_istore (lv' := [(4, .int i142_7), (8, .int (nI i142_8)), (7, .int i142_7), (6, .int (nI i128_6)), (5, .int (nI i40_5)), (3, .int i128_3), (2, .int i128_2), (1, .int i5_1), (0, .ref (g.2.1 79))]) hx hb dX12_join_183 hl (by decide) rfl (fun ls hl => ?_)
                                      refine lv_iload hx hb dX12_join_185 (lv_at hl 4 rfl) ?_
                                      refine lv_istore_n (lv' := [(2, .int (nI i40_5)), (4, .int i142_7), (8, .int (nI i142_8)), (7, .int i142_7), (6, .int (nI i128_6)), (5, .int (nI i40_5)), (3, .int i128_3), (1, .int i5_1), (0, .ref (g.2.1 79))]) hx hb dX12_join_187 rfl hl (by decide) rfl (fun ls hl => ?_)
                                      refine lv_iload hx hb dX12_join_188 (lv_at hl 4 rfl) ?_
                                      refine lv_istore_n (lv' := [(3, .int (nI i128_6)), (2, .int (nI i40_5)), (4, .int i142_7), (8, .int (nI i142_8)), (7, .int i142_7), (6, .int (nI i128_6)), (5, .int (nI i40_5)), (1, .int i5_1), (0, .ref (g.2.1 79))]) hx hb dX12_join_190 rfl hl (by decide) rfl (fun ls hl => ?_)
                                      exact j191_135 i142_7 (nI i128_6) (nI i40_5) (Or.inr ⟨i40_5, i128_6, by omega, by omega, rfl, rfl, e132.trans (congrArg nI (by omega)), e138.trans (congrArg nI (by omega))⟩) _ _ _ h (lv_sub hl [5, 6, 2, 0, 1, 7, 8] rfl)
                                  · skip
                                    have b148 : i142_8 < F35 := y_nle (a := F35) (b := i142_8) (by omega) (by omega) c143
                                    refine lv_iconst (v := 0) hx hb dX12_join_104 (by decide) ?_
                                    refine lv_istore (lv' := [(9, .int 0), (8, .int (nI i142_8)), (7, .int i142_7), (6, .int (nI i128_6)), (5, .int (nI i40_5)), (4, .int i128_4), (3, .int i128_3), (2, .int i128_2), (1, .int i5_1), (0, .ref (g.2.1 79))]) hx hb dX12_join_105 hl (by decide) rfl (fun ls hl => ?_)
                                    have loop107_149 : ∀ (fu : Nat) (i149_9 : Nat) (i149_7 : Int32), i149_9 ≤ F35 → F35 - i149_9 < fu → ∀ (H : Heap) (locs : List Loc) (ls : Array Slot), HW g t5 s H locs → lv_has ls 10 [(9, .int (nI i149_9)), (8, .int (nI i142_8)), (7, .int i149_7), (6, .int (nI i128_6)), (5, .int (nI i40_5)), (4, .int i128_4), (3, .int i128_3), (2, .int i128_2), (1, .int i5_1), (0, .ref (g.2.1 79))] → W p l e { frames := 0, cells := 0, slots := 0, locals := 0 } s m args below meth c H locs 0 0 (MQ below (XQv g (fun σ' => INV σ' ∧ Fr [] [(85, 85), (87, 87)] σ σ')) args s 0 0 (Aw g)) (F0 m 107 ls []) := by
                                      intro fu
                                      induction fu with
                                      | zero => intro i149_9 i149_7 bi149_9 hm; exact absurd hm (Nat.not_lt_zero _)
                                      | succ fu ih =>
                                        have ih149 := ih
                                        clear ih
                                        intro i149_9 i149_7 bi149_9 hm149 H locs ls h hl
                                        refine lv_iload hx hb dX12_join_107 (lv_at hl 0 rfl) ?_
                                        refine lv_aload_n hx hb dX12_join_109 rfl (lv_at hl 9 rfl) ?_
                                        refine x_getI E h (fi_mo_pieces g) rfl hwX12 (by decide) (by decide +kernel) (v := nI F35) e6 dX12_join_110 ?_
                                        refine lv_icmp_ge (tgt := 168) hx hb dX12_join_113 (by decide) (fun c150 => ?_) (fun c150 => ?_)
                                        · skip
                                          have b151 : F35 ≤ i149_9 := y_le (a := F35) (b := i149_9) (by omega) (by omega) c150
                                          refine lv_iinc (v := (nI (i142_8 + 1))) (lv' := [(8, .int (nI (i142_8 + 1))), (9, .int (nI i149_9)), (7, .int i149_7), (6, .int (nI i128_6)), (5, .int (nI i40_5)), (4, .int i128_4), (3, .int i128_3), (2, .int i128_2), (1, .int i5_1), (0, .ref (g.2.1 79))]) hx hb dX12_join_168 hl (k := 1) rfl (nI_add i142_8 1) (by decide) rfl (fun ls hl => ?_)
                                          refine lv_goto (tgt := 95) hx hb dX12_join_171 (by decide) ?_
                                          exact ih142 (i142_8 + 1) i149_7 (by omega) (by omega) _ _ _ h (lv_sub hl [0, 2, 3, 4, 5, 6, 7, 8, 9] rfl)
                                        · skip
                                          have b152 : i149_9 < F35 := y_nle (a := F35) (b := i149_9) (by omega) (by omega) c150
                                          refine lv_iload hx hb dX12_join_116 (lv_at hl 2 rfl) ?_
                                          refine lv_aload_n hx hb dX12_join_118 rfl (lv_at hl 9 rfl) ?_
                                          refine x_getR E h (fr_mo_joined g) rfl hwX12 (by decide) (by decide +kernel) dX12_join_119 ?_
                                          refine lv_iload hx hb dX12_join_122 (lv_at hl 1 rfl) ?_
                                          obtain ⟨n153, b153, e153⟩ := hI_5.2 87 8 rfl i142_8
                                          refine x_ldI E h (ia_mo_joined g) (i := nI i142_8) (vp_in_nI (by omega) (by decide)) (v := nI n153) ((congrArg (t5.2.2 87) (nI_clamp (by omega))).trans e153) dX12_join_124 ?_
                                          refine lv_iload hx hb dX12_join_125 (lv_at hl 4 rfl) ?_
                                          have j159_156 : ∀ (y156_s0 : Int32), ∀ (H : Heap) (locs : List Loc) (ls : Array Slot), HW g t5 s H locs → lv_has ls 10 [(9, .int (nI i149_9)), (8, .int (nI i142_8)), (7, .int i149_7), (6, .int (nI i128_6)), (5, .int (nI i40_5)), (4, .int i128_4), (3, .int i128_3), (2, .int i128_2), (1, .int i5_1), (0, .ref (g.2.1 79))] → W p l e { frames := 0, cells := 0, slots := 0, locals := 0 } s m args below meth c H locs 0 0 (MQ below (XQv g (fun σ' => INV σ' ∧ Fr [] [(85, 85), (87, 87)] σ σ')) args s 0 0 (Aw g)) (F0 m 159 ls [.int y156_s0, .int i149_7]) := by
                                            intro y156_s0 H locs ls h hl
                                            refine lv_iadd hx hb dX12_join_159 ?_
                                            refine lv_topi (fun x157 e157 => ?_)
                                            refine lv_istore (lv' := [(7, .int x157), (9, .int (nI i149_9)), (8, .int (nI i142_8)), (6, .int (nI i128_6)), (5, .int (nI i40_5)), (4, .int i128_4), (3, .int i128_3), (2, .int i128_2), (1, .int i5_1), (0, .ref (g.2.1 79))]) hx hb dX12_join_160 hl (by decide) rfl (fun ls hl => ?_)
                                            refine lv_iinc (v := (nI (i149_9 + 1))) (lv' := [(9, .int (nI (i149_9 + 1))), (7, .int x157), (8, .int (nI i142_8)), (6, .int (nI i128_6)), (5, .int (nI i40_5)), (4, .int i128_4), (3, .int i128_3), (2, .int i128_2), (1, .int i5_1), (0, .ref (g.2.1 79))]) hx hb dX12_join_162 hl (k := 1) rfl (nI_add i149_9 1) (by decide) rfl (fun ls hl => ?_)
                                            refine lv_goto (tgt := 107) hx hb dX12_join_165 (by decide) ?_
                                            exact ih149 (i149_9 + 1) x157 (by omega) (by omega) _ _ _ h (lv_sub hl [0, 2, 1, 3, 4, 5, 6, 7, 8, 9] rfl)
                                          refine lv_icmp_ne (tgt := 158) hx hb dX12_join_127 (by decide) (fun c154 => ?_) (fun c154 => ?_)
                                          · skip
                                            have b155 : ¬ n153 = i40_5 := y_ne (a := n153) (b := i40_5) (by omega) (by omega) c154
                                            refine lv_iconst (v := 0) hx hb dX12_join_158 (by decide) ?_
                                            exact j159_156 0 _ _ _ h (lv_sub hl [0, 1, 2, 3, 4, 5, 6, 7, 8, 9] rfl)
                                          · skip
                                            have b158 : n153 = i40_5 := y_eq (a := n153) (b := i40_5) (by omega) (by omega) c154
                                            refine lv_aload_n hx hb dX12_join_130 rfl (lv_at hl 9 rfl) ?_
                                            refine x_getR E h (fr_mo_joined g) rfl hwX12 (by decide) (by decide +kernel) dX12_join_131 ?_
                                            refine lv_iload hx hb dX12_join_134 (lv_at hl 0 rfl) ?_
                                            obtain ⟨n159, b159, e159⟩ := hI_5.2 87 8 rfl i149_9
                                            refine x_ldI E h (ia_mo_joined g) (i := nI i149_9) (vp_in_nI (by omega) (by decide)) (v := nI n159) ((congrArg (t5.2.2 87) (nI_clamp (by omega))).trans e159) dX12_join_136 ?_
                                            refine lv_iload hx hb dX12_join_137 (lv_at hl 3 rfl) ?_
                                            refine lv_icmp_ne (tgt := 158) hx hb dX12_join_139 (by decide) (fun c160 => ?_) (fun c160 => ?_)
                                            · skip
                                              have b161 : ¬ n159 = i128_6 := y_ne (a := n159) (b := i128_6) (by omega) (by omega) c160
                                              refine lv_iconst (v := 0) hx hb dX12_join_158 (by decide) ?_
                                              exact j159_156 0 _ _ _ h (lv_sub hl [0, 1, 2, 3, 4, 5, 6, 7, 8, 9] rfl)
                                            · skip
                                              have b162 : n159 = i128_6 := y_eq (a := n159) (b := i128_6) (by omega) (by omega) c160
                                              refine lv_aload_n hx hb dX12_join_142 rfl (lv_at hl 9 rfl) ?_
                                              refine x_getR E h (fr_mo_gain g) rfl hwX12 (by decide) (by decide +kernel) dX12_join_143 ?_
                                              refine lv_bipush (v := 9) hx hb dX12_join_146 (by decide) ?_
                                              refine lv_iload hx hb dX12_join_148 (lv_at hl 1 rfl) ?_
                                              refine lv_imul hx hb dX12_join_150 ?_
                                              refine x_topI (v2 := nI (9 * i142_8)) (pk_mul 9 i142_8) ?_
                                              refine lv_iload hx hb dX12_join_151 (lv_at hl 0 rfl) ?_
                                              refine lv_iadd hx hb dX12_join_153 ?_
                                              refine x_topI (v2 := nI ((9 * i142_8) + i149_9)) (nI_add (9 * i142_8) i149_9) ?_
                                              refine x_ldI E h (ia_mo_gain g) (i := nI ((9 * i142_8) + i149_9)) (vp_in_nI (by omega) (by decide)) (v := t5.2.2 88 ((9 * i142_8) + i149_9)) (congrArg (t5.2.2 88) (nI_clamp (by omega))) dX12_join_154 ?_
                                              refine lv_goto (tgt := 159) hx hb dX12_join_155 (by decide) ?_
                                              exact j159_156 (t5.2.2 88 ((9 * i142_8) + i149_9)) _ _ _ h (lv_sub hl [0, 1, 2, 3, 4, 5, 6, 7, 8, 9] rfl)
                                    exact loop107_149 _ 0 i142_7 (Nat.zero_le _) (Nat.lt_succ_self _) _ _ _ h (lv_sub hl [0, 1, 2, 3, 4, 5, 6, 7, 8, 9] rfl)
                              exact loop95_142 _ 0 0 (Nat.zero_le _) (Nat.lt_succ_self _) _ _ _ h (lv_sub hl [0, 1, 2, 3, 4, 5, 6, 7, 8] rfl)
                    exact loop56_128 _ (i40_5 + 1) i40_4 i40_3 i40_2 (by omega) (by omega) jo_40 (Nat.lt_succ_self _) _ _ _ h (lv_sub hl [0, 1, 2, 3, 4, 5, 6] rfl)
              exact loop41_40 _ 0 0 (-9) (-9) (Nat.zero_le _) (Or.inl rfl) (Nat.lt_succ_self _) _ _ _ h (lv_sub hl [0, 1, 2, 3, 4, 5] rfl)
        exact loop25_5 _ t1 1 hI_1 hF_1 e2 (Nat.lt_succ_self _) _ _ _ h (lv_sub hl [0, 1] rfl)
      · skip
        have b163 : i1_1 < F35 := y_nle (a := F35) (b := i1_1) (by omega) (by omega) c3
        refine lv_aload_n hx hb dX12_join_10 rfl (lv_at hl 1 rfl) ?_
        refine x_getR E h (fr_mo_joined g) rfl hwX12 (by decide) (by decide +kernel) dX12_join_11 ?_
        refine lv_iload_n hx hb dX12_join_14 rfl (lv_at hl 0 rfl) ?_
        refine lv_iload_n hx hb dX12_join_15 rfl (lv_at hl 0 rfl) ?_
        refine y_stI E h hI_1 hF_1 (ia_mo_joined g) (i := nI i1_1) (vp_in_nI (by omega) (by decide)) (j := i1_1) (nI_clamp (by omega)) (ba_some rfl (Bd.mk (n := i1_1) (by omega))) rfl dX12_join_16 (fun s164 H locs q164 hI164 hF164 h => ?_)
        have e165 : s164.1 35 = nI F35 := (congrArg (fun t : ST => t.1 35) q164).trans e2
        refine lv_iinc (v := (nI (i1_1 + 1))) (lv' := [(1, .int (nI (i1_1 + 1))), (0, .ref (g.2.1 79))]) hx hb dX12_join_17 hl (k := 0) rfl (nI_add i1_1 1) (by decide) rfl (fun ls hl => ?_)
        refine lv_goto (tgt := 2) hx hb dX12_join_20 (by decide) ?_
        exact ih1 s164 (i1_1 + 1) hI164 hF164 e165 (by omega) (by omega) _ _ _ h (lv_sub hl [0, 1] rfl)
  exact loop2_1 _ σ 0 hI hF eF35 (Nat.zero_le _) (Nat.lt_succ_self _) _ _ _ h (lv_sub hl [0, 1] rfl)
