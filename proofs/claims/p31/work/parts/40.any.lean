set_option maxHeartbeats 4000000 in
set_option maxRecDepth 100000 in
theorem aX12_isPiece_0 (l : Launch) (g : CX) (σ : ST) (hI : INV σ) (p1 : Int32) : XM l g yX12_isPiece wsX12_isPiece { frames := 1, cells := 0, slots := 0, locals := 22 } [.ref (g.2.1 79), .int p1] σ (XQi g (fun r σ' => fX12_isPiece_0 p1 σ = r ∧ ((1 = r ∧ ∃ n P : Nat, σ.1 35 = nI P ∧ n < P ∧ P ≤ 48 ∧ p1 = nI n) ∨ (0 = r)) ∧ σ = σ')) := by
  refine x_met (own := RX12) (cc := cX12_isPiece) (maxL := 2) (ret := (some .boolean)) (lv := [(0, .ref (g.2.1 79)), (1, .int p1)]) (by decide) rfl rfl (Nat.le_of_ble_eq_true rfl) rfl ?_
  intro p e s m args below meth c ls E h hl
  have hx := E.1
  have hb := E.2.1
  have hown := E.2.2.2.1
  have hts := E.2.2.2.2.1
  obtain ⟨R, hR0⟩ : ∃ R, fX12_isPiece_0 p1 σ = R := ⟨_, rfl⟩
  have hR : fX12_isPiece_0b0 p1 σ = R := hR0
  have hwX12 : ∀ w ∈ wsX120, w ∈ wsX12_isPiece := by decide +kernel
  generalize hPQ : XQi g (fun r σ' => fX12_isPiece_0 p1 σ = r ∧ ((1 = r ∧ ∃ n P : Nat, σ.1 35 = nI P ∧ n < P ∧ P ≤ 48 ∧ p1 = nI n) ∨ (0 = r)) ∧ σ = σ') = PQz
  refine lv_iload_n hx hb dX12_isPiece_0 rfl (lv_at hl 1 rfl) ?_
  refine lv_iconst (v := 0) hx hb dX12_isPiece_1 (by decide) ?_
  refine lv_aload_n hx hb dX12_isPiece_2 rfl (lv_at hl 0 rfl) ?_
  obtain ⟨n1, b1, e1⟩ := hI.1 35 48 rfl
  refine x_getI E h (fi_mo_pieces g) rfl hwX12 (by decide) (by decide +kernel) (v := nI n1) e1 dX12_isPiece_3 ?_
  replace hR := bd_to hR e1
  refine lv_iconst (v := 1) hx hb dX12_isPiece_6 (by decide) ?_
  refine lv_isub hx hb dX12_isPiece_7 ?_
  replace hR := bd_to hR rfl
  refine x_si E h (na := 3) (As := [.int p1, .int 0, .int (nI n1 - 1)]) (aX12_in_0 l g σ hI p1 0 (nI n1 - 1)) gX12_isPiece_X12_in rfl ⟨rfl, rfl⟩ rfl (by decide +kernel) ⟨Nat.le_of_ble_eq_true rfl, Nat.le_of_ble_eq_true rfl⟩ hl.1 rfl (Nat.le_of_ble_eq_true rfl) dX12_isPiece_8 ⟨Nat.le_of_ble_eq_true rfl, Nat.le_of_ble_eq_true rfl⟩ (fun r2 s2 H locs q2 h => ?_)
  obtain ⟨x2, d2, rfl⟩ := q2
  replace hR := bd_to hR x2
  rcases d2 with ⟨rfl, u2_0_0, u2_0_1⟩ | ⟨rfl, u2_1_0⟩
  · skip
    obtain ⟨n3, b3, rfl⟩ := y_rnltM (N := n1) (y_lo1 u2_0_0 (by decide)) u2_0_1 (by omega)
    have b4 : 0 ≤ n3 := y_nlt (a := n3) (b := 0) (by omega) (by omega) u2_0_0
    subst hPQ
    exact x_zret E h rfl ⟨hR0.trans hR.symm, (Or.inl ⟨rfl, n3, n1, e1, (by omega), (by omega), rfl⟩), rfl⟩ dX12_isPiece_11
  · skip
    subst hPQ
    exact x_zret E h rfl ⟨hR0.trans hR.symm, (Or.inr (rfl)), rfl⟩ dX12_isPiece_11
set_option maxHeartbeats 4000000 in
set_option maxRecDepth 100000 in
theorem aX12_piece_0 (l : Launch) (g : CX) (σ : ST) (hI : INV σ) (p1 : Int32) (p2 : Int32) : XM l g yX12_piece wsX12_piece { frames := 4, cells := 0, slots := 0, locals := 95 } [.ref (g.2.1 79), .int p1, .int p2] σ (XQi g (fun r σ' => fX12_piece_0 p1 p2 σ = (r, σ') ∧ INV σ' ∧ Fr [(35, 38)] [(75, 84)] σ σ')) := by
  refine x_met (own := RX12) (cc := cX12_piece) (maxL := 3) (ret := (some .int)) (lv := [(0, .ref (g.2.1 79)), (1, .int p1), (2, .int p2)]) (by decide) rfl rfl (Nat.le_of_ble_eq_true rfl) rfl ?_
  intro p e s m args below meth c ls E h hl
  have hx := E.1
  have hb := E.2.1
  have hown := E.2.2.2.1
  have hts := E.2.2.2.2.1
  have hF : Fr [(35, 38)] [(75, 84)] σ σ := Fr.refl σ
  obtain ⟨R, hR0⟩ : ∃ R, fX12_piece_0 p1 p2 σ = R := ⟨_, rfl⟩
  have hR : fX12_piece_0b0 p1 p2 σ = R := hR0
  have hwX12 : ∀ w ∈ wsX120, w ∈ wsX12_piece := by decide +kernel
  generalize hPQ : XQi g (fun r σ' => fX12_piece_0 p1 p2 σ = (r, σ') ∧ INV σ' ∧ Fr [(35, 38)] [(75, 84)] σ σ') = PQz
  refine lv_aload_n hx hb dX12_piece_0 rfl (lv_at hl 0 rfl) ?_
  refine x_vv E h (na := 0) (As := []) (aX12_findPieces_0 l g σ hI) (oc_mo g) rfl gX12_piece_X12_findPieces rfl ⟨rfl, rfl⟩ rfl (by decide +kernel) ⟨Nat.le_of_ble_eq_true rfl, Nat.le_of_ble_eq_true rfl⟩ hl.1 rfl (Nat.le_of_ble_eq_true rfl) dX12_piece_1 ⟨Nat.le_of_ble_eq_true rfl, Nat.le_of_ble_eq_true rfl⟩ (fun s1 H locs q1 h => ?_)
  obtain ⟨x1, d1, hI1, f1⟩ := q1
  replace hR := bd_to hR x1
  have hF1 := hF.call f1 (I := [(35, 38)]) (J := [(75, 84)]) rfl rfl
  rcases d1 with ⟨m1_0P, m1_0R, u1_0_0, u1_0_1, u1_0_2, u1_0_3, u1_0_4, u1_0_5⟩
  refine lv_aload_n hx hb dX12_piece_4 rfl (lv_at hl 0 rfl) ?_
  refine lv_iload_n hx hb dX12_piece_5 rfl (lv_at hl 1 rfl) ?_
  refine x_vi E h (na := 1) (As := [.int p1]) (aX12_isPiece_0 l g s1 hI1 p1) (oc_mo g) rfl gX12_piece_X12_isPiece rfl ⟨rfl, rfl⟩ rfl (by decide +kernel) ⟨Nat.le_of_ble_eq_true rfl, Nat.le_of_ble_eq_true rfl⟩ hl.1 rfl (Nat.le_of_ble_eq_true rfl) dX12_piece_6 ⟨Nat.le_of_ble_eq_true rfl, Nat.le_of_ble_eq_true rfl⟩ (fun r3 s3 H locs q3 h => ?_)
  obtain ⟨x3, d3, rfl⟩ := q3
  replace hR := bd_to hR x3
  rcases d3 with ⟨rfl, m3_0n, m3_0P, u3_0_0, u3_0_1, u3_0_2, rfl⟩ | rfl
  · skip
    obtain rfl : m1_0P = m3_0P := y_eq (by omega) (by omega) ((u1_0_0).symm.trans u3_0_0)
    replace hR := it_f hR (by decide)
    refine lv_if_eq (tgt := 22) hx hb dX12_piece_9 (by decide) (fun c => absurd c (by decide)) (fun _ => ?_)
    refine lv_iload_n hx hb dX12_piece_12 rfl (lv_at hl 2 rfl) ?_
    refine lv_iconst (v := 0) hx hb dX12_piece_13 (by decide) ?_
    refine lv_bipush (v := 6) hx hb dX12_piece_14 (by decide) ?_
    refine x_si E h (na := 3) (As := [.int p2, .int 0, .int 6]) (aX12_in_0 l g s1 hI1 p2 0 6) gX12_piece_X12_in rfl ⟨rfl, rfl⟩ rfl (by decide +kernel) ⟨Nat.le_of_ble_eq_true rfl, Nat.le_of_ble_eq_true rfl⟩ hl.1 rfl (Nat.le_of_ble_eq_true rfl) dX12_piece_16 ⟨Nat.le_of_ble_eq_true rfl, Nat.le_of_ble_eq_true rfl⟩ (fun r4 s4 H locs q4 h => ?_)
    obtain ⟨x4, d4, rfl⟩ := q4
    replace hR := bd_to hR x4
    rcases d4 with ⟨rfl, u4_0_0, u4_0_1⟩ | ⟨rfl, u4_1_0⟩
    · skip
      obtain ⟨n5, b5, rfl⟩ := y_rnlt (N := 6) (y_lo1 u4_0_0 (by decide)) u4_0_1 (by omega)
      have b6 : 0 ≤ n5 := y_nlt (a := n5) (b := 0) (by omega) (by omega) u4_0_0
      have b7 : n5 ≤ 6 := y_nlt (a := 6) (b := n5) (by omega) (by omega) u4_0_1
      replace hR := it_f hR (by decide)
      refine lv_if_ne (tgt := 24) hx hb dX12_piece_19 (by decide) (fun _ => ?_) (fun c => absurd c (by decide))
      refine lv_iload_n hx hb dX12_piece_24 rfl (lv_at hl 2 rfl) ?_
      refine lv_if_ne (tgt := 37) hx hb dX12_piece_25 (by decide) (fun c8 => ?_) (fun c8 => ?_)
      · skip
        replace hR := it_f hR c8
        have b9 : ¬ n5 = 0 := y_ne (a := n5) (b := 0) (by omega) (by omega) c8
        refine lv_iload_n hx hb dX12_piece_37 rfl (lv_at hl 2 rfl) ?_
        refine lv_iconst (v := 1) hx hb dX12_piece_38 (by decide) ?_
        refine lv_icmp_ne (tgt := 51) hx hb dX12_piece_39 (by decide) (fun c10 => ?_) (fun c10 => ?_)
        · skip
          replace hR := it_f hR c10
          have b11 : ¬ n5 = 1 := y_ne (a := n5) (b := 1) (by omega) (by omega) c10
          refine lv_iload_n hx hb dX12_piece_51 rfl (lv_at hl 2 rfl) ?_
          refine lv_iconst (v := 2) hx hb dX12_piece_52 (by decide) ?_
          refine lv_icmp_ne (tgt := 65) hx hb dX12_piece_53 (by decide) (fun c12 => ?_) (fun c12 => ?_)
          · skip
            replace hR := it_f hR c12
            have b13 : ¬ n5 = 2 := y_ne (a := n5) (b := 2) (by omega) (by omega) c12
            refine lv_aload_n hx hb dX12_piece_65 rfl (lv_at hl 0 rfl) ?_
            refine x_getR E h (fr_mo_middle g) rfl hwX12 (by decide) (by decide +kernel) dX12_piece_66 ?_
            refine lv_iconst (v := 4) hx hb dX12_piece_69 (by decide) ?_
            refine lv_iload_n hx hb dX12_piece_70 rfl (lv_at hl 1 rfl) ?_
            refine lv_imul hx hb dX12_piece_71 ?_
            refine x_topI (v2 := nI (4 * m3_0n)) (pk_mul 4 m3_0n) ?_
            replace hR := bd_to hR (pk_mul 4 m3_0n)
            refine lv_iload_n hx hb dX12_piece_72 rfl (lv_at hl 2 rfl) ?_
            refine lv_iadd hx hb dX12_piece_73 ?_
            refine x_topI (v2 := nI ((4 * m3_0n) + n5)) (nI_add (4 * m3_0n) n5) ?_
            replace hR := bd_to hR (nI_add (4 * m3_0n) n5)
            refine lv_iconst (v := 3) hx hb dX12_piece_74 (by decide) ?_
            refine lv_isub hx hb dX12_piece_75 ?_
            replace hR := bd_to hR rfl
            refine x_topI (v2 := nI (((4 * m3_0n) + n5) - 3)) (pk_sub (a := (4 * m3_0n) + n5) (b := 3) (by omega)) ?_
            refine x_ldI E h (ia_mo_middle g) (i := nI (((4 * m3_0n) + n5) - 3)) (vp_in_nI (by omega) (by decide)) (v := s1.2.2 78 (((4 * m3_0n) + n5) - 3)) (congrArg (s1.2.2 78) (nI_clamp (n := ((4 * m3_0n) + n5) - 3) (by omega))) dX12_piece_76 ?_
            replace hR := bd_to hR ((congrArg (fun z9 : Int32 => s1.2.2 78 z9.toNatClampNeg) (pk_sub (a := (4 * m3_0n) + n5) (b := 3) (by omega))).trans (congrArg (s1.2.2 78) (nI_clamp (n := ((4 * m3_0n) + n5) - 3) (by omega))))
            subst hPQ
            exact x_iret E h ⟨hR0.trans hR.symm, hI1, hF1⟩ dX12_piece_77
          · skip
            replace hR := it_t hR c12
            have b14 : n5 = 2 := y_eq (a := n5) (b := 2) (by omega) (by omega) c12
            refine lv_aload_n hx hb dX12_piece_56 rfl (lv_at hl 0 rfl) ?_
            refine x_getR E h (fr_mo_spread g) rfl hwX12 (by decide) (by decide +kernel) dX12_piece_57 ?_
            refine lv_iload_n hx hb dX12_piece_60 rfl (lv_at hl 1 rfl) ?_
            refine x_ldI E h (ia_mo_spread g) (i := nI m3_0n) (vp_in_nI (by omega) (by decide)) (v := s1.2.2 79 m3_0n) (congrArg (s1.2.2 79) (nI_clamp (n := m3_0n) (by omega))) dX12_piece_61 ?_
            replace hR := bd_to hR (congrArg (s1.2.2 79) (nI_clamp (n := m3_0n) (by omega)))
            refine lv_goto (tgt := 77) hx hb dX12_piece_62 (by decide) ?_
            subst hPQ
            exact x_iret E h ⟨hR0.trans hR.symm, hI1, hF1⟩ dX12_piece_77
        · skip
          replace hR := it_t hR c10
          have b15 : n5 = 1 := y_eq (a := n5) (b := 1) (by omega) (by omega) c10
          refine lv_aload_n hx hb dX12_piece_42 rfl (lv_at hl 0 rfl) ?_
          refine x_getR E h (fr_mo_many g) rfl hwX12 (by decide) (by decide +kernel) dX12_piece_43 ?_
          refine lv_iload_n hx hb dX12_piece_46 rfl (lv_at hl 1 rfl) ?_
          refine x_ldI E h (ia_mo_many g) (i := nI m3_0n) (vp_in_nI (by omega) (by decide)) (v := s1.2.2 76 m3_0n) (congrArg (s1.2.2 76) (nI_clamp (n := m3_0n) (by omega))) dX12_piece_47 ?_
          replace hR := bd_to hR (congrArg (s1.2.2 76) (nI_clamp (n := m3_0n) (by omega)))
          refine lv_goto (tgt := 77) hx hb dX12_piece_48 (by decide) ?_
          subst hPQ
          exact x_iret E h ⟨hR0.trans hR.symm, hI1, hF1⟩ dX12_piece_77
      · skip
        replace hR := it_t hR c8
        have b16 : n5 = 0 := y_eq (a := n5) (b := 0) (by omega) (by omega) c8
        refine lv_aload_n hx hb dX12_piece_28 rfl (lv_at hl 0 rfl) ?_
        refine x_getR E h (fr_mo_first g) rfl hwX12 (by decide) (by decide +kernel) dX12_piece_29 ?_
        refine lv_iload_n hx hb dX12_piece_32 rfl (lv_at hl 1 rfl) ?_
        refine x_ldI E h (ia_mo_first g) (i := nI m3_0n) (vp_in_nI (by omega) (by decide)) (v := s1.2.2 75 m3_0n) (congrArg (s1.2.2 75) (nI_clamp (n := m3_0n) (by omega))) dX12_piece_33 ?_
        replace hR := bd_to hR (congrArg (s1.2.2 75) (nI_clamp (n := m3_0n) (by omega)))
        refine lv_goto (tgt := 77) hx hb dX12_piece_34 (by decide) ?_
        subst hPQ
        exact x_iret E h ⟨hR0.trans hR.symm, hI1, hF1⟩ dX12_piece_77
    · skip
      replace hR := it_t hR (by decide)
      refine lv_if_ne (tgt := 24) hx hb dX12_piece_19 (by decide) (fun c => absurd (by decide) c) (fun _ => ?_)
      refine lv_iconst (v := (-1)) hx hb dX12_piece_22 (by decide) ?_
      subst hPQ
      exact x_iret E h ⟨hR0.trans hR.symm, hI1, hF1⟩ dX12_piece_23
  · skip
    replace hR := it_t hR (by decide)
    refine lv_if_eq (tgt := 22) hx hb dX12_piece_9 (by decide) (fun _ => ?_) (fun c => absurd (by decide) c)
    refine lv_iconst (v := (-1)) hx hb dX12_piece_22 (by decide) ?_
    subst hPQ
    exact x_iret E h ⟨hR0.trans hR.symm, hI1, hF1⟩ dX12_piece_23
set_option maxHeartbeats 4000000 in
set_option maxRecDepth 100000 in
theorem aX12_of_0 (l : Launch) (g : CX) (σ : ST) (hI : INV σ) (p1 : Int32) : XM l g yX12_of wsX12_of { frames := 4, cells := 0, slots := 0, locals := 95 } [.ref (g.2.1 79), .int p1] σ (XQi g (fun r σ' => fX12_of_0 p1 σ = (r, σ') ∧ INV σ' ∧ Fr [(35, 38)] [(75, 84)] σ σ')) := by
  refine x_met (own := RX12) (cc := cX12_of) (maxL := 2) (ret := (some .int)) (lv := [(0, .ref (g.2.1 79)), (1, .int p1)]) (by decide) rfl rfl (Nat.le_of_ble_eq_true rfl) rfl ?_
  intro p e s m args below meth c ls E h hl
  have hx := E.1
  have hb := E.2.1
  have hown := E.2.2.2.1
  have hts := E.2.2.2.2.1
  have hF : Fr [(35, 38)] [(75, 84)] σ σ := Fr.refl σ
  obtain ⟨R, hR0⟩ : ∃ R, fX12_of_0 p1 σ = R := ⟨_, rfl⟩
  have hR : fX12_of_0b0 p1 σ = R := hR0
  have hwX12 : ∀ w ∈ wsX120, w ∈ wsX12_of := by decide +kernel
  generalize hPQ : XQi g (fun r σ' => fX12_of_0 p1 σ = (r, σ') ∧ INV σ' ∧ Fr [(35, 38)] [(75, 84)] σ σ') = PQz
  refine lv_aload_n hx hb dX12_of_0 rfl (lv_at hl 0 rfl) ?_
  refine lv_iload_n hx hb dX12_of_1 rfl (lv_at hl 1 rfl) ?_
  refine x_vi E h (na := 1) (As := [.int p1]) (aX12_isRow_0 l g σ hI p1) (oc_mo g) rfl gX12_of_X12_isRow rfl ⟨rfl, rfl⟩ rfl (by decide +kernel) ⟨Nat.le_of_ble_eq_true rfl, Nat.le_of_ble_eq_true rfl⟩ hl.1 rfl (Nat.le_of_ble_eq_true rfl) dX12_of_2 ⟨Nat.le_of_ble_eq_true rfl, Nat.le_of_ble_eq_true rfl⟩ (fun r1 s1 H locs q1 h => ?_)
  obtain ⟨x1, d1, rfl⟩ := q1
  replace hR := bd_to hR x1
  rcases d1 with ⟨rfl, m1_0n, m1_0R, u1_0_0, u1_0_1, u1_0_2, rfl⟩ | rfl
  · skip
    replace hR := it_f hR (by decide)
    refine lv_if_ne (tgt := 10) hx hb dX12_of_5 (by decide) (fun _ => ?_) (fun c => absurd c (by decide))
    refine lv_aload_n hx hb dX12_of_10 rfl (lv_at hl 0 rfl) ?_
    refine x_vv E h (na := 0) (As := []) (aX12_findPieces_0 l g σ hI) (oc_mo g) rfl gX12_of_X12_findPieces rfl ⟨rfl, rfl⟩ rfl (by decide +kernel) ⟨Nat.le_of_ble_eq_true rfl, Nat.le_of_ble_eq_true rfl⟩ hl.1 rfl (Nat.le_of_ble_eq_true rfl) dX12_of_11 ⟨Nat.le_of_ble_eq_true rfl, Nat.le_of_ble_eq_true rfl⟩ (fun s2 H locs q2 h => ?_)
    obtain ⟨x2, d2, hI2, f2⟩ := q2
    replace hR := bd_to hR x2
    have hF2 := hF.call f2 (I := [(35, 38)]) (J := [(75, 84)]) rfl rfl
    have e3 : s2.1 31 = nI m1_0R := ((f2.1 31 rfl)).trans u1_0_0
    rcases d2 with ⟨m2_0P, m2_0R, u2_0_0, u2_0_1, u2_0_2, u2_0_3, u2_0_4, u2_0_5⟩
    obtain rfl : m1_0R = m2_0R := y_eq (by omega) (by omega) ((e3).symm.trans u2_0_1)
    refine lv_aload_n hx hb dX12_of_14 rfl (lv_at hl 0 rfl) ?_
    refine x_getR E h (fr_mo_pieceOf g) rfl hwX12 (by decide) (by decide +kernel) dX12_of_15 ?_
    refine lv_iload_n hx hb dX12_of_18 rfl (lv_at hl 1 rfl) ?_
    refine x_ldI E h (ia_mo_pieceOf g) (i := nI m1_0n) (vp_in_nI (by omega) (by decide)) (v := s2.2.2 77 m1_0n) (congrArg (s2.2.2 77) (nI_clamp (n := m1_0n) (by omega))) dX12_of_19 ?_
    replace hR := bd_to hR (congrArg (s2.2.2 77) (nI_clamp (n := m1_0n) (by omega)))
    subst hPQ
    exact x_iret E h ⟨hR0.trans hR.symm, hI2, hF2⟩ dX12_of_20
  · skip
    replace hR := it_t hR (by decide)
    refine lv_if_ne (tgt := 10) hx hb dX12_of_5 (by decide) (fun c => absurd (by decide) c) (fun _ => ?_)
    refine lv_iconst (v := (-1)) hx hb dX12_of_8 (by decide) ?_
    subst hPQ
    exact x_iret E h ⟨hR0.trans hR.symm, hI, hF⟩ dX12_of_9
set_option maxHeartbeats 4000000 in
set_option maxRecDepth 100000 in
theorem aX12_size_0 (l : Launch) (g : CX) (σ : ST) (hI : INV σ) (p0 : Int32) : XM l g yX12_size wsX12_size { frames := 0, cells := 0, slots := 0, locals := 0 } [.int p0] σ (XQi g (fun r σ' => fX12_size_0 p0 σ = r ∧ σ = σ')) := by
  refine x_met (own := RX12) (cc := cX12_size) (maxL := 1) (ret := (some .int)) (lv := [(0, .int p0)]) (by decide) rfl rfl (Nat.le_of_ble_eq_true rfl) rfl ?_
  intro p e s m args below meth c ls E h hl
  have hx := E.1
  have hb := E.2.1
  have hown := E.2.2.2.1
  have hts := E.2.2.2.2.1
  obtain ⟨R, hR0⟩ : ∃ R, fX12_size_0 p0 σ = R := ⟨_, rfl⟩
  have hR : fX12_size_0b0 p0 σ = R := hR0
  generalize hPQ : XQi g (fun r σ' => fX12_size_0 p0 σ = r ∧ σ = σ') = PQz
  refine lv_iload_n hx hb dX12_size_0 rfl (lv_at hl 0 rfl) ?_
  refine lv_if_ge (tgt := 9) hx hb dX12_size_1 (by decide) (fun c1 => ?_) (fun c1 => ?_)
  · skip
    replace hR := it_t hR c1
    refine lv_iload_n hx hb dX12_size_9 rfl (lv_at hl 0 rfl) ?_
    replace hR : fX12_size_0b10 p0 σ = R := hR
    subst hPQ
    exact x_iret E h ⟨hR0.trans hR.symm, rfl⟩ dX12_size_10
  · skip
    replace hR := it_f hR c1
    refine lv_iload_n hx hb dX12_size_4 rfl (lv_at hl 0 rfl) ?_
    refine lv_ineg hx hb dX12_size_5 ?_
    refine lv_topi (fun x4 e4 => ?_)
    replace hR := bd_to hR e4.symm
    refine lv_goto (tgt := 10) hx hb dX12_size_6 (by decide) ?_
    subst hPQ
    exact x_iret E h ⟨hR0.trans hR.symm, rfl⟩ dX12_size_10
set_option maxHeartbeats 4000000 in
set_option maxRecDepth 100000 in
theorem aX12_likeOf_0 (l : Launch) (g : CX) (σ : ST) (hI : INV σ) (p1 : Nat) (p2 : Nat) (hh0 : p1 < 48) (hh1 : p2 < 48) : XM l g yX12_likeOf wsX12_likeOf { frames := 1, cells := 0, slots := 0, locals := 20 } [.ref (g.2.1 79), .int (nI p1), .int (nI p2)] σ (XQi g (fun r σ' => fX12_likeOf_0 (nI p1) (nI p2) σ = r ∧ σ = σ')) := by
  refine x_met (own := RX12) (cc := cX12_likeOf) (maxL := 5) (ret := (some .int)) (lv := [(0, .ref (g.2.1 79)), (1, .int (nI p1)), (2, .int (nI p2))]) (by decide) rfl rfl (Nat.le_of_ble_eq_true rfl) rfl ?_
  intro p e s m args below meth c ls E h hl
  have hx := E.1
  have hb := E.2.1
  have hown := E.2.2.2.1
  have hts := E.2.2.2.2.1
  obtain ⟨R, hR0⟩ : ∃ R, fX12_likeOf_0 (nI p1) (nI p2) σ = R := ⟨_, rfl⟩
  have hR : fX12_likeOf_0b0 (nI p1) (nI p2) σ = R := hR0
  have hwX12 : ∀ w ∈ wsX120, w ∈ wsX12_likeOf := by decide +kernel
  generalize hPQ : XQi g (fun r σ' => fX12_likeOf_0 (nI p1) (nI p2) σ = r ∧ σ = σ') = PQz
  refine lv_iconst (v := 0) hx hb dX12_likeOf_0 (by decide) ?_
  refine lv_istore_n (lv' := [(3, .int 0), (0, .ref (g.2.1 79)), (1, .int (nI p1)), (2, .int (nI p2))]) hx hb dX12_likeOf_1 rfl hl (by decide) rfl (fun ls hl => ?_)
  refine lv_iconst (v := 0) hx hb dX12_likeOf_2 (by decide) ?_
  refine lv_istore (lv' := [(4, .int 0), (3, .int 0), (0, .ref (g.2.1 79)), (1, .int (nI p1)), (2, .int (nI p2))]) hx hb dX12_likeOf_3 hl (by decide) rfl (fun ls hl => ?_)
  have loop5_1 : ∀ (fu : Nat) (i1_4 : Nat) (i1_3 : Int32), i1_4 ≤ 4 → fX12_likeOf_0l5 fu (nI p1) (nI p2) i1_3 (nI i1_4) σ = R → 4 - i1_4 < fu → ∀ (H : Heap) (locs : List Loc) (ls : Array Slot), HW g σ s H locs → lv_has ls 5 [(4, .int (nI i1_4)), (3, .int i1_3), (0, .ref (g.2.1 79)), (1, .int (nI p1)), (2, .int (nI p2))] → W p l e { frames := 1, cells := 0, slots := 0, locals := 20 } s m args below meth c H locs 0 0 (MQ below PQz args s 0 0 (Aw g)) (F0 m 5 ls []) := by
    intro fu1
    induction fu1 with
    | zero => intro i1_4 i1_3 bi1_4 hR1 hm; exact absurd hm (Nat.not_lt_zero _)
    | succ fu1 ih =>
      have ih1 := ih
      clear ih
      intro i1_4 i1_3 bi1_4 hR1 hm1 H locs ls h hl
      replace hR1 : fX12_likeOf_0b5 (fX12_likeOf_0l5 fu1) (nI p1) (nI p2) i1_3 (nI i1_4) σ = R := hR1
      refine lv_iload hx hb dX12_likeOf_5 (lv_at hl 0 rfl) ?_
      refine lv_iconst (v := 4) hx hb dX12_likeOf_7 (by decide) ?_
      refine lv_icmp_ge (tgt := 46) hx hb dX12_likeOf_8 (by decide) (fun c2 => ?_) (fun c2 => ?_)
      · skip
        replace hR1 := it_t hR1 c2
        have b3 : 4 ≤ i1_4 := y_le (a := 4) (b := i1_4) (by omega) (by omega) c2
        refine lv_aload_n hx hb dX12_likeOf_46 rfl (lv_at hl 2 rfl) ?_
        refine x_getR E h (fr_mo_rule g) rfl hwX12 (by decide) (by decide +kernel) dX12_likeOf_47 ?_
        refine lv_iconst (v := 2) hx hb dX12_likeOf_50 (by decide) ?_
        refine x_ldI E h (ia_mo_rule g) (i := nI 2) (vp_in_nI (by omega) (by decide)) (v := σ.2.2 66 2) (congrArg (σ.2.2 66) (nI_clamp (n := 2) (by omega))) dX12_likeOf_51 ?_
        replace hR1 := bd_to hR1 (congrArg (σ.2.2 66) (nI_clamp (n := 2) (by omega)))
        refine lv_iload_n hx hb dX12_likeOf_52 rfl (lv_at hl 1 rfl) ?_
        refine lv_isub hx hb dX12_likeOf_53 ?_
        refine lv_topi (fun x4 e4 => ?_)
        replace hR1 := bd_to hR1 e4.symm
        refine lv_aload_n hx hb dX12_likeOf_54 rfl (lv_at hl 2 rfl) ?_
        refine x_getR E h (fr_mo_many g) rfl hwX12 (by decide) (by decide +kernel) dX12_likeOf_55 ?_
        refine lv_iload_n hx hb dX12_likeOf_58 rfl (lv_at hl 3 rfl) ?_
        refine x_ldI E h (ia_mo_many g) (i := nI p1) (vp_in_nI (by omega) (by decide)) (v := σ.2.2 76 p1) (congrArg (σ.2.2 76) (nI_clamp (n := p1) (by omega))) dX12_likeOf_59 ?_
        replace hR1 := bd_to hR1 (congrArg (σ.2.2 76) (nI_clamp (n := p1) (by omega)))
        refine lv_aload_n hx hb dX12_likeOf_60 rfl (lv_at hl 2 rfl) ?_
        refine x_getR E h (fr_mo_many g) rfl hwX12 (by decide) (by decide +kernel) dX12_likeOf_61 ?_
        refine lv_iload_n hx hb dX12_likeOf_64 rfl (lv_at hl 4 rfl) ?_
        refine x_ldI E h (ia_mo_many g) (i := nI p2) (vp_in_nI (by omega) (by decide)) (v := σ.2.2 76 p2) (congrArg (σ.2.2 76) (nI_clamp (n := p2) (by omega))) dX12_likeOf_65 ?_
        replace hR1 := bd_to hR1 (congrArg (σ.2.2 76) (nI_clamp (n := p2) (by omega)))
        have j84_7 : ∀ (y7_s0 : Int32), fX12_likeOf_0b84 y7_s0 x4 σ = R → ∀ (H : Heap) (locs : List Loc) (ls : Array Slot), HW g σ s H locs → lv_has ls 5 [(4, .int (nI i1_4)), (3, .int i1_3), (0, .ref (g.2.1 79)), (1, .int (nI p1)), (2, .int (nI p2))] → W p l e { frames := 1, cells := 0, slots := 0, locals := 20 } s m args below meth c H locs 0 0 (MQ below PQz args s 0 0 (Aw g)) (F0 m 84 ls [.int y7_s0, .int x4]) := by
          intro y7_s0 hR7 H locs ls h hl
          refine lv_imul hx hb dX12_likeOf_84 ?_
          refine lv_topi (fun x8 e8 => ?_)
          replace hR7 := bd_to hR7 e8.symm
          subst hPQ
          exact x_iret E h ⟨hR0.trans hR7.symm, rfl⟩ dX12_likeOf_85
        refine lv_icmp_ge (tgt := 78) hx hb dX12_likeOf_66 (by decide) (fun c5 => ?_) (fun c5 => ?_)
        · skip
          replace hR1 := it_t hR1 c5
          refine lv_aload_n hx hb dX12_likeOf_78 rfl (lv_at hl 2 rfl) ?_
          refine x_getR E h (fr_mo_many g) rfl hwX12 (by decide) (by decide +kernel) dX12_likeOf_79 ?_
          refine lv_iload_n hx hb dX12_likeOf_82 rfl (lv_at hl 4 rfl) ?_
          refine x_ldI E h (ia_mo_many g) (i := nI p2) (vp_in_nI (by omega) (by decide)) (v := σ.2.2 76 p2) (congrArg (σ.2.2 76) (nI_clamp (n := p2) (by omega))) dX12_likeOf_83 ?_
          replace hR1 := bd_to hR1 (congrArg (σ.2.2 76) (nI_clamp (n := p2) (by omega)))
          exact j84_7 (σ.2.2 76 p2) hR1 _ _ _ h (lv_sub hl [0, 1, 2, 3, 4] rfl)
        · skip
          replace hR1 := it_f hR1 c5
          refine lv_aload_n hx hb dX12_likeOf_69 rfl (lv_at hl 2 rfl) ?_
          refine x_getR E h (fr_mo_many g) rfl hwX12 (by decide) (by decide +kernel) dX12_likeOf_70 ?_
          refine lv_iload_n hx hb dX12_likeOf_73 rfl (lv_at hl 3 rfl) ?_
          refine x_ldI E h (ia_mo_many g) (i := nI p1) (vp_in_nI (by omega) (by decide)) (v := σ.2.2 76 p1) (congrArg (σ.2.2 76) (nI_clamp (n := p1) (by omega))) dX12_likeOf_74 ?_
          replace hR1 := bd_to hR1 (congrArg (σ.2.2 76) (nI_clamp (n := p1) (by omega)))
          refine lv_goto (tgt := 84) hx hb dX12_likeOf_75 (by decide) ?_
          exact j84_7 (σ.2.2 76 p1) hR1 _ _ _ h (lv_sub hl [0, 1, 2, 3, 4] rfl)
      · skip
        replace hR1 := it_f hR1 c2
        have b10 : i1_4 < 4 := y_nle (a := 4) (b := i1_4) (by omega) (by omega) c2
        refine lv_iload_n hx hb dX12_likeOf_11 rfl (lv_at hl 1 rfl) ?_
        refine lv_aload_n hx hb dX12_likeOf_12 rfl (lv_at hl 2 rfl) ?_
        refine x_getR E h (fr_mo_middle g) rfl hwX12 (by decide) (by decide +kernel) dX12_likeOf_13 ?_
        refine lv_iconst (v := 4) hx hb dX12_likeOf_16 (by decide) ?_
        refine lv_iload_n hx hb dX12_likeOf_17 rfl (lv_at hl 3 rfl) ?_
        refine lv_imul hx hb dX12_likeOf_18 ?_
        refine x_topI (v2 := nI (4 * p1)) (pk_mul 4 p1) ?_
        replace hR1 := bd_to hR1 (pk_mul 4 p1)
        refine lv_iload hx hb dX12_likeOf_19 (lv_at hl 0 rfl) ?_
        refine lv_iadd hx hb dX12_likeOf_21 ?_
        refine x_topI (v2 := nI ((4 * p1) + i1_4)) (nI_add (4 * p1) i1_4) ?_
        replace hR1 := bd_to hR1 (nI_add (4 * p1) i1_4)
        refine x_ldI E h (ia_mo_middle g) (i := nI ((4 * p1) + i1_4)) (vp_in_nI (by omega) (by decide)) (v := σ.2.2 78 ((4 * p1) + i1_4)) (congrArg (σ.2.2 78) (nI_clamp (n := (4 * p1) + i1_4) (by omega))) dX12_likeOf_22 ?_
        replace hR1 := bd_to hR1 (congrArg (σ.2.2 78) (nI_clamp (n := (4 * p1) + i1_4) (by omega)))
        refine lv_aload_n hx hb dX12_likeOf_23 rfl (lv_at hl 2 rfl) ?_
        refine x_getR E h (fr_mo_middle g) rfl hwX12 (by decide) (by decide +kernel) dX12_likeOf_24 ?_
        refine lv_iconst (v := 4) hx hb dX12_likeOf_27 (by decide) ?_
        refine lv_iload_n hx hb dX12_likeOf_28 rfl (lv_at hl 4 rfl) ?_
        refine lv_imul hx hb dX12_likeOf_29 ?_
        refine x_topI (v2 := nI (4 * p2)) (pk_mul 4 p2) ?_
        replace hR1 := bd_to hR1 (pk_mul 4 p2)
        refine lv_iload hx hb dX12_likeOf_30 (lv_at hl 0 rfl) ?_
        refine lv_iadd hx hb dX12_likeOf_32 ?_
        refine x_topI (v2 := nI ((4 * p2) + i1_4)) (nI_add (4 * p2) i1_4) ?_
        replace hR1 := bd_to hR1 (nI_add (4 * p2) i1_4)
        refine x_ldI E h (ia_mo_middle g) (i := nI ((4 * p2) + i1_4)) (vp_in_nI (by omega) (by decide)) (v := σ.2.2 78 ((4 * p2) + i1_4)) (congrArg (σ.2.2 78) (nI_clamp (n := (4 * p2) + i1_4) (by omega))) dX12_likeOf_33 ?_
        replace hR1 := bd_to hR1 (congrArg (σ.2.2 78) (nI_clamp (n := (4 * p2) + i1_4) (by omega)))
        refine lv_isub hx hb dX12_likeOf_34 ?_
        refine lv_topi (fun x11 e11 => ?_)
        replace hR1 := bd_to hR1 e11.symm
        refine x_si E h (na := 1) (As := [.int x11]) (aX12_size_0 l g σ hI x11) gX12_likeOf_X12_size rfl ⟨rfl, rfl⟩ rfl (by decide +kernel) ⟨Nat.le_of_ble_eq_true rfl, Nat.le_of_ble_eq_true rfl⟩ hl.1 rfl (Nat.le_of_ble_eq_true rfl) dX12_likeOf_35 ⟨Nat.le_of_ble_eq_true rfl, Nat.le_of_ble_eq_true rfl⟩ (fun r12 s12 H locs q12 h => ?_)
        obtain ⟨x12, rfl⟩ := q12
        replace hR1 := bd_to hR1 x12
        refine lv_iadd hx hb dX12_likeOf_38 ?_
        refine lv_topi (fun x13 e13 => ?_)
        replace hR1 := bd_to hR1 e13.symm
        refine lv_istore_n (lv' := [(3, .int x13), (4, .int (nI i1_4)), (0, .ref (g.2.1 79)), (1, .int (nI p1)), (2, .int (nI p2))]) hx hb dX12_likeOf_39 rfl hl (by decide) rfl (fun ls hl => ?_)
        replace hR1 := bd_to hR1 (nI_add i1_4 1)
        refine lv_iinc (v := (nI (i1_4 + 1))) (lv' := [(4, .int (nI (i1_4 + 1))), (3, .int x13), (0, .ref (g.2.1 79)), (1, .int (nI p1)), (2, .int (nI p2))]) hx hb dX12_likeOf_40 hl (k := 1) rfl (nI_add i1_4 1) (by decide) rfl (fun ls hl => ?_)
        refine lv_goto (tgt := 5) hx hb dX12_likeOf_43 (by decide) ?_
        exact ih1 (i1_4 + 1) x13 (by omega) hR1 (by omega) _ _ _ h (lv_sub hl [0, 1, 2, 3, 4] rfl)
  exact loop5_1 4096 0 0 (Nat.zero_le _) hR (by omega) _ _ _ h (lv_sub hl [0, 1, 2, 3, 4] rfl)
set_option maxHeartbeats 4000000 in
set_option maxRecDepth 100000 in
theorem aX12_like_0 (l : Launch) (g : CX) (σ : ST) (hI : INV σ) (p1 : Int32) (p2 : Int32) : XM l g yX12_like wsX12_like { frames := 4, cells := 0, slots := 0, locals := 95 } [.ref (g.2.1 79), .int p1, .int p2] σ (XQi g (fun r σ' => fX12_like_0 p1 p2 σ = (r, σ') ∧ INV σ' ∧ Fr [(35, 38)] [(75, 84)] σ σ')) := by
  refine x_met (own := RX12) (cc := cX12_like) (maxL := 3) (ret := (some .int)) (lv := [(0, .ref (g.2.1 79)), (1, .int p1), (2, .int p2)]) (by decide) rfl rfl (Nat.le_of_ble_eq_true rfl) rfl ?_
  intro p e s m args below meth c ls E h hl
  have hx := E.1
  have hb := E.2.1
  have hown := E.2.2.2.1
  have hts := E.2.2.2.2.1
  have hF : Fr [(35, 38)] [(75, 84)] σ σ := Fr.refl σ
  obtain ⟨R, hR0⟩ : ∃ R, fX12_like_0 p1 p2 σ = R := ⟨_, rfl⟩
  have hR : fX12_like_0b0 p1 p2 σ = R := hR0
  generalize hPQ : XQi g (fun r σ' => fX12_like_0 p1 p2 σ = (r, σ') ∧ INV σ' ∧ Fr [(35, 38)] [(75, 84)] σ σ') = PQz
  refine lv_aload_n hx hb dX12_like_0 rfl (lv_at hl 0 rfl) ?_
  refine x_vv E h (na := 0) (As := []) (aX12_findPieces_0 l g σ hI) (oc_mo g) rfl gX12_like_X12_findPieces rfl ⟨rfl, rfl⟩ rfl (by decide +kernel) ⟨Nat.le_of_ble_eq_true rfl, Nat.le_of_ble_eq_true rfl⟩ hl.1 rfl (Nat.le_of_ble_eq_true rfl) dX12_like_1 ⟨Nat.le_of_ble_eq_true rfl, Nat.le_of_ble_eq_true rfl⟩ (fun s1 H locs q1 h => ?_)
  obtain ⟨x1, d1, hI1, f1⟩ := q1
  replace hR := bd_to hR x1
  have hF1 := hF.call f1 (I := [(35, 38)]) (J := [(75, 84)]) rfl rfl
  rcases d1 with ⟨m1_0P, m1_0R, u1_0_0, u1_0_1, u1_0_2, u1_0_3, u1_0_4, u1_0_5⟩
  refine lv_aload_n hx hb dX12_like_4 rfl (lv_at hl 0 rfl) ?_
  refine lv_iload_n hx hb dX12_like_5 rfl (lv_at hl 1 rfl) ?_
  refine x_vi E h (na := 1) (As := [.int p1]) (aX12_isPiece_0 l g s1 hI1 p1) (oc_mo g) rfl gX12_like_X12_isPiece rfl ⟨rfl, rfl⟩ rfl (by decide +kernel) ⟨Nat.le_of_ble_eq_true rfl, Nat.le_of_ble_eq_true rfl⟩ hl.1 rfl (Nat.le_of_ble_eq_true rfl) dX12_like_6 ⟨Nat.le_of_ble_eq_true rfl, Nat.le_of_ble_eq_true rfl⟩ (fun r3 s3 H locs q3 h => ?_)
  obtain ⟨x3, d3, rfl⟩ := q3
  replace hR := bd_to hR x3
  rcases d3 with ⟨rfl, m3_0n, m3_0P, u3_0_0, u3_0_1, u3_0_2, rfl⟩ | rfl
  · skip
    obtain rfl : m1_0P = m3_0P := y_eq (by omega) (by omega) ((u1_0_0).symm.trans u3_0_0)
    replace hR := it_f hR (by decide)
    refine lv_if_eq (tgt := 34) hx hb dX12_like_9 (by decide) (fun c => absurd c (by decide)) (fun _ => ?_)
    refine lv_aload_n hx hb dX12_like_12 rfl (lv_at hl 0 rfl) ?_
    refine lv_iload_n hx hb dX12_like_13 rfl (lv_at hl 2 rfl) ?_
    refine x_vi E h (na := 1) (As := [.int p2]) (aX12_isPiece_0 l g s1 hI1 p2) (oc_mo g) rfl gX12_like_X12_isPiece rfl ⟨rfl, rfl⟩ rfl (by decide +kernel) ⟨Nat.le_of_ble_eq_true rfl, Nat.le_of_ble_eq_true rfl⟩ hl.1 rfl (Nat.le_of_ble_eq_true rfl) dX12_like_14 ⟨Nat.le_of_ble_eq_true rfl, Nat.le_of_ble_eq_true rfl⟩ (fun r4 s4 H locs q4 h => ?_)
    obtain ⟨x4, d4, rfl⟩ := q4
    replace hR := bd_to hR x4
    rcases d4 with ⟨rfl, m4_0n, m4_0P, u4_0_0, u4_0_1, u4_0_2, rfl⟩ | rfl
    · skip
      obtain rfl : m1_0P = m4_0P := y_eq (by omega) (by omega) ((u1_0_0).symm.trans u4_0_0)
      replace hR := it_f hR (by decide)
      refine lv_if_eq (tgt := 34) hx hb dX12_like_17 (by decide) (fun c => absurd c (by decide)) (fun _ => ?_)
      refine lv_iload_n hx hb dX12_like_20 rfl (lv_at hl 1 rfl) ?_
      refine lv_iload_n hx hb dX12_like_21 rfl (lv_at hl 2 rfl) ?_
      refine lv_icmp_eq (tgt := 34) hx hb dX12_like_22 (by decide) (fun c5 => ?_) (fun c5 => ?_)
      · skip
        replace hR := it_t hR c5
        have b6 : m3_0n = m4_0n := y_eq (a := m3_0n) (b := m4_0n) (by omega) (by omega) c5
        refine lv_ldc (v := (-1000000)) hx hb hown (hts (.constant RX12 215 (-1000000)) (by decide +kernel)) dX12_like_34 ?_
        replace hR : fX12_like_0b36 (-1000000) s1 = R := hR
        subst hPQ
        exact x_iret E h ⟨hR0.trans hR.symm, hI1, hF1⟩ dX12_like_36
      · skip
        replace hR := it_f hR c5
        have b7 : ¬ m3_0n = m4_0n := y_ne (a := m3_0n) (b := m4_0n) (by omega) (by omega) c5
        refine lv_aload_n hx hb dX12_like_25 rfl (lv_at hl 0 rfl) ?_
        refine lv_iload_n hx hb dX12_like_26 rfl (lv_at hl 1 rfl) ?_
        refine lv_iload_n hx hb dX12_like_27 rfl (lv_at hl 2 rfl) ?_
        refine x_vi E h (na := 2) (As := [.int (nI m3_0n), .int (nI m4_0n)]) (aX12_likeOf_0 l g s1 hI1 m3_0n m4_0n (by omega) (by omega)) (oc_mo g) rfl gX12_like_X12_likeOf rfl ⟨rfl, rfl⟩ rfl (by decide +kernel) ⟨Nat.le_of_ble_eq_true rfl, Nat.le_of_ble_eq_true rfl⟩ hl.1 rfl (Nat.le_of_ble_eq_true rfl) dX12_like_28 ⟨Nat.le_of_ble_eq_true rfl, Nat.le_of_ble_eq_true rfl⟩ (fun r8 s8 H locs q8 h => ?_)
        obtain ⟨x8, rfl⟩ := q8
        replace hR := bd_to hR x8
        refine lv_goto (tgt := 36) hx hb dX12_like_31 (by decide) ?_
        subst hPQ
        exact x_iret E h ⟨hR0.trans hR.symm, hI1, hF1⟩ dX12_like_36
    · skip
      replace hR := it_t hR (by decide)
      refine lv_if_eq (tgt := 34) hx hb dX12_like_17 (by decide) (fun _ => ?_) (fun c => absurd (by decide) c)
      refine lv_ldc (v := (-1000000)) hx hb hown (hts (.constant RX12 215 (-1000000)) (by decide +kernel)) dX12_like_34 ?_
      replace hR : fX12_like_0b36 (-1000000) s1 = R := hR
      subst hPQ
      exact x_iret E h ⟨hR0.trans hR.symm, hI1, hF1⟩ dX12_like_36
  · skip
    replace hR := it_t hR (by decide)
    refine lv_if_eq (tgt := 34) hx hb dX12_like_9 (by decide) (fun _ => ?_) (fun c => absurd (by decide) c)
    refine lv_ldc (v := (-1000000)) hx hb hown (hts (.constant RX12 215 (-1000000)) (by decide +kernel)) dX12_like_34 ?_
    replace hR : fX12_like_0b36 (-1000000) s1 = R := hR
    subst hPQ
    exact x_iret E h ⟨hR0.trans hR.symm, hI1, hF1⟩ dX12_like_36
set_option maxHeartbeats 4000000 in
set_option maxRecDepth 100000 in
theorem aX12_touch_0 (l : Launch) (g : CX) (σ : ST) (hI : INV σ) (p1 : Nat) (p2 : Nat) (hh0 : p1 < 9) (hh1 : p2 < 9) : XM l g yX12_touch wsX12_touch { frames := 1, cells := 0, slots := 0, locals := 20 } [.ref (g.2.1 79), .int (nI p1), .int (nI p2)] σ (XQi g (fun r σ' => fX12_touch_0 (nI p1) (nI p2) σ = r ∧ σ = σ')) := by
  refine x_met (own := RX12) (cc := cX12_touch) (maxL := 4) (ret := (some .boolean)) (lv := [(0, .ref (g.2.1 79)), (1, .int (nI p1)), (2, .int (nI p2))]) (by decide) rfl rfl (Nat.le_of_ble_eq_true rfl) rfl ?_
  intro p e s m args below meth c ls E h hl
  have hx := E.1
  have hb := E.2.1
  have hown := E.2.2.2.1
  have hts := E.2.2.2.2.1
  obtain ⟨R, hR0⟩ : ∃ R, fX12_touch_0 (nI p1) (nI p2) σ = R := ⟨_, rfl⟩
  have hR : fX12_touch_0b0 (nI p1) (nI p2) σ = R := hR0
  have hwX12 : ∀ w ∈ wsX120, w ∈ wsX12_touch := by decide +kernel
  generalize hPQ : XQi g (fun r σ' => fX12_touch_0 (nI p1) (nI p2) σ = r ∧ σ = σ') = PQz
  refine lv_iload_n hx hb dX12_touch_0 rfl (lv_at hl 1 rfl) ?_
  refine lv_iload_n hx hb dX12_touch_1 rfl (lv_at hl 2 rfl) ?_
  refine lv_icmp_ge (tgt := 9) hx hb dX12_touch_2 (by decide) (fun c1 => ?_) (fun c1 => ?_)
  · skip
    replace hR := it_t hR c1
    have b2 : p2 ≤ p1 := y_le (a := p2) (b := p1) (by omega) (by omega) c1
    refine lv_iload_n hx hb dX12_touch_9 rfl (lv_at hl 2 rfl) ?_
    replace hR : fX12_touch_0b10 (nI p1) (nI p2) (nI p2) σ = R := hR
    refine lv_istore_n (lv' := [(3, .int (nI p2)), (0, .ref (g.2.1 79)), (1, .int (nI p1)), (2, .int (nI p2))]) hx hb dX12_touch_10 rfl hl (by decide) rfl (fun ls hl => ?_)
    refine lv_iload_n hx hb dX12_touch_11 rfl (lv_at hl 2 rfl) ?_
    refine lv_iload_n hx hb dX12_touch_12 rfl (lv_at hl 3 rfl) ?_
    refine lv_isub hx hb dX12_touch_13 ?_
    replace hR := bd_to hR rfl
    refine x_si E h (na := 1) (As := [.int (nI p1 - nI p2)]) (aX12_size_0 l g σ hI (nI p1 - nI p2)) gX12_touch_X12_size rfl ⟨rfl, rfl⟩ rfl (by decide +kernel) ⟨Nat.le_of_ble_eq_true rfl, Nat.le_of_ble_eq_true rfl⟩ hl.1 rfl (Nat.le_of_ble_eq_true rfl) dX12_touch_14 ⟨Nat.le_of_ble_eq_true rfl, Nat.le_of_ble_eq_true rfl⟩ (fun r3 s3 H locs q3 h => ?_)
    obtain ⟨x3, rfl⟩ := q3
    replace hR := bd_to hR x3
    refine lv_iconst (v := 1) hx hb dX12_touch_17 (by decide) ?_
    refine lv_icmp_ne (tgt := 49) hx hb dX12_touch_18 (by decide) (fun c4 => ?_) (fun c4 => ?_)
    · skip
      replace hR := it_f hR c4
      refine lv_iconst (v := 0) hx hb dX12_touch_49 (by decide) ?_
      replace hR : fX12_touch_0b50 0 σ = R := hR
      subst hPQ
      exact x_zret E h rfl ⟨hR0.trans hR.symm, rfl⟩ dX12_touch_50
    · skip
      replace hR := it_t hR c4
      subst c4
      refine lv_aload_n hx hb dX12_touch_21 rfl (lv_at hl 1 rfl) ?_
      refine x_getR E h (fr_mo_first g) rfl hwX12 (by decide) (by decide +kernel) dX12_touch_22 ?_
      refine lv_iload_n hx hb dX12_touch_25 rfl (lv_at hl 0 rfl) ?_
      refine x_ldI E h (ia_mo_first g) (i := nI p2) (vp_in_nI (by omega) (by decide)) (v := σ.2.2 75 p2) (congrArg (σ.2.2 75) (nI_clamp (n := p2) (by omega))) dX12_touch_26 ?_
      replace hR := bd_to hR (congrArg (σ.2.2 75) (nI_clamp (n := p2) (by omega)))
      refine lv_aload_n hx hb dX12_touch_27 rfl (lv_at hl 1 rfl) ?_
      refine x_getR E h (fr_mo_many g) rfl hwX12 (by decide) (by decide +kernel) dX12_touch_28 ?_
      refine lv_iload_n hx hb dX12_touch_31 rfl (lv_at hl 0 rfl) ?_
      refine x_ldI E h (ia_mo_many g) (i := nI p2) (vp_in_nI (by omega) (by decide)) (v := σ.2.2 76 p2) (congrArg (σ.2.2 76) (nI_clamp (n := p2) (by omega))) dX12_touch_32 ?_
      replace hR := bd_to hR (congrArg (σ.2.2 76) (nI_clamp (n := p2) (by omega)))
      refine lv_iadd hx hb dX12_touch_33 ?_
      refine lv_topi (fun x7 e7 => ?_)
      replace hR := bd_to hR e7.symm
      refine lv_aload_n hx hb dX12_touch_34 rfl (lv_at hl 1 rfl) ?_
      refine x_getR E h (fr_mo_first g) rfl hwX12 (by decide) (by decide +kernel) dX12_touch_35 ?_
      refine lv_iload_n hx hb dX12_touch_38 rfl (lv_at hl 0 rfl) ?_
      refine lv_iconst (v := 1) hx hb dX12_touch_39 (by decide) ?_
      refine lv_iadd hx hb dX12_touch_40 ?_
      refine x_topI (v2 := nI (p2 + 1)) (nI_add p2 1) ?_
      replace hR := bd_to hR (nI_add p2 1)
      refine x_ldI E h (ia_mo_first g) (i := nI (p2 + 1)) (vp_in_nI (by omega) (by decide)) (v := σ.2.2 75 (p2 + 1)) (congrArg (σ.2.2 75) (nI_clamp (n := p2 + 1) (by omega))) dX12_touch_41 ?_
      replace hR := bd_to hR (congrArg (σ.2.2 75) (nI_clamp (n := p2 + 1) (by omega)))
      refine lv_icmp_ne (tgt := 49) hx hb dX12_touch_42 (by decide) (fun c8 => ?_) (fun c8 => ?_)
      · skip
        replace hR := it_f hR c8
        refine lv_iconst (v := 0) hx hb dX12_touch_49 (by decide) ?_
        replace hR : fX12_touch_0b50 0 σ = R := hR
        subst hPQ
        exact x_zret E h rfl ⟨hR0.trans hR.symm, rfl⟩ dX12_touch_50
      · skip
        replace hR := it_t hR c8
        refine lv_iconst (v := 1) hx hb dX12_touch_45 (by decide) ?_
        refine lv_goto (tgt := 50) hx hb dX12_touch_46 (by decide) ?_
        replace hR : fX12_touch_0b50 1 σ = R := hR
        subst hPQ
        exact x_zret E h rfl ⟨hR0.trans hR.symm, rfl⟩ dX12_touch_50
  · skip
    replace hR := it_f hR c1
    have b11 : p1 < p2 := y_nle (a := p2) (b := p1) (by omega) (by omega) c1
    refine lv_iload_n hx hb dX12_touch_5 rfl (lv_at hl 1 rfl) ?_
    refine lv_goto (tgt := 10) hx hb dX12_touch_6 (by decide) ?_
    replace hR : fX12_touch_0b10 (nI p1) (nI p2) (nI p1) σ = R := hR
    refine lv_istore_n (lv' := [(3, .int (nI p1)), (0, .ref (g.2.1 79)), (1, .int (nI p1)), (2, .int (nI p2))]) hx hb dX12_touch_10 rfl hl (by decide) rfl (fun ls hl => ?_)
    refine lv_iload_n hx hb dX12_touch_11 rfl (lv_at hl 2 rfl) ?_
    refine lv_iload_n hx hb dX12_touch_12 rfl (lv_at hl 3 rfl) ?_
    refine lv_isub hx hb dX12_touch_13 ?_
    replace hR := bd_to hR rfl
    refine x_si E h (na := 1) (As := [.int (nI p1 - nI p2)]) (aX12_size_0 l g σ hI (nI p1 - nI p2)) gX12_touch_X12_size rfl ⟨rfl, rfl⟩ rfl (by decide +kernel) ⟨Nat.le_of_ble_eq_true rfl, Nat.le_of_ble_eq_true rfl⟩ hl.1 rfl (Nat.le_of_ble_eq_true rfl) dX12_touch_14 ⟨Nat.le_of_ble_eq_true rfl, Nat.le_of_ble_eq_true rfl⟩ (fun r12 s12 H locs q12 h => ?_)
    obtain ⟨x12, rfl⟩ := q12
    replace hR := bd_to hR x12
    refine lv_iconst (v := 1) hx hb dX12_touch_17 (by decide) ?_
    refine lv_icmp_ne (tgt := 49) hx hb dX12_touch_18 (by decide) (fun c13 => ?_) (fun c13 => ?_)
    · skip
      replace hR := it_f hR c13
      refine lv_iconst (v := 0) hx hb dX12_touch_49 (by decide) ?_
      replace hR : fX12_touch_0b50 0 σ = R := hR
      subst hPQ
      exact x_zret E h rfl ⟨hR0.trans hR.symm, rfl⟩ dX12_touch_50
    · skip
      replace hR := it_t hR c13
      subst c13
      refine lv_aload_n hx hb dX12_touch_21 rfl (lv_at hl 1 rfl) ?_
      refine x_getR E h (fr_mo_first g) rfl hwX12 (by decide) (by decide +kernel) dX12_touch_22 ?_
      refine lv_iload_n hx hb dX12_touch_25 rfl (lv_at hl 0 rfl) ?_
      refine x_ldI E h (ia_mo_first g) (i := nI p1) (vp_in_nI (by omega) (by decide)) (v := σ.2.2 75 p1) (congrArg (σ.2.2 75) (nI_clamp (n := p1) (by omega))) dX12_touch_26 ?_
      replace hR := bd_to hR (congrArg (σ.2.2 75) (nI_clamp (n := p1) (by omega)))
      refine lv_aload_n hx hb dX12_touch_27 rfl (lv_at hl 1 rfl) ?_
      refine x_getR E h (fr_mo_many g) rfl hwX12 (by decide) (by decide +kernel) dX12_touch_28 ?_
      refine lv_iload_n hx hb dX12_touch_31 rfl (lv_at hl 0 rfl) ?_
      refine x_ldI E h (ia_mo_many g) (i := nI p1) (vp_in_nI (by omega) (by decide)) (v := σ.2.2 76 p1) (congrArg (σ.2.2 76) (nI_clamp (n := p1) (by omega))) dX12_touch_32 ?_
      replace hR := bd_to hR (congrArg (σ.2.2 76) (nI_clamp (n := p1) (by omega)))
      refine lv_iadd hx hb dX12_touch_33 ?_
      refine lv_topi (fun x16 e16 => ?_)
      replace hR := bd_to hR e16.symm
      refine lv_aload_n hx hb dX12_touch_34 rfl (lv_at hl 1 rfl) ?_
      refine x_getR E h (fr_mo_first g) rfl hwX12 (by decide) (by decide +kernel) dX12_touch_35 ?_
      refine lv_iload_n hx hb dX12_touch_38 rfl (lv_at hl 0 rfl) ?_
      refine lv_iconst (v := 1) hx hb dX12_touch_39 (by decide) ?_
      refine lv_iadd hx hb dX12_touch_40 ?_
      refine x_topI (v2 := nI (p1 + 1)) (nI_add p1 1) ?_
      replace hR := bd_to hR (nI_add p1 1)
      refine x_ldI E h (ia_mo_first g) (i := nI (p1 + 1)) (vp_in_nI (by omega) (by decide)) (v := σ.2.2 75 (p1 + 1)) (congrArg (σ.2.2 75) (nI_clamp (n := p1 + 1) (by omega))) dX12_touch_41 ?_
      replace hR := bd_to hR (congrArg (σ.2.2 75) (nI_clamp (n := p1 + 1) (by omega)))
      refine lv_icmp_ne (tgt := 49) hx hb dX12_touch_42 (by decide) (fun c17 => ?_) (fun c17 => ?_)
      · skip
        replace hR := it_f hR c17
        refine lv_iconst (v := 0) hx hb dX12_touch_49 (by decide) ?_
        replace hR : fX12_touch_0b50 0 σ = R := hR
        subst hPQ
        exact x_zret E h rfl ⟨hR0.trans hR.symm, rfl⟩ dX12_touch_50
      · skip
        replace hR := it_t hR c17
        refine lv_iconst (v := 1) hx hb dX12_touch_45 (by decide) ?_
        refine lv_goto (tgt := 50) hx hb dX12_touch_46 (by decide) ?_
        replace hR : fX12_touch_0b50 1 σ = R := hR
        subst hPQ
        exact x_zret E h rfl ⟨hR0.trans hR.symm, rfl⟩ dX12_touch_50
set_option maxHeartbeats 4000000 in
set_option maxRecDepth 100000 in
theorem aX12_findGains_0 (l : Launch) (g : CX) (σ : ST) (hI : INV σ) (F35 : Nat) (eF35 : σ.1 35 = nI F35) (hh0 : F35 ≤ 9) : XM l g yX12_findGains wsX12_findGains { frames := 2, cells := 0, slots := 0, locals := 44 } [.ref (g.2.1 79)] σ (XQv g (fun σ' => fX12_findGains_0 σ = σ' ∧ INV σ' ∧ Fr [] [(88, 88)] σ σ')) := by
  refine x_met (own := RX12) (cc := cX12_findGains) (maxL := 3) (ret := none) (lv := [(0, .ref (g.2.1 79))]) (by decide) rfl rfl (Nat.le_of_ble_eq_true rfl) rfl ?_
  intro p e s m args below meth c ls E h hl
  have hx := E.1
  have hb := E.2.1
  have hown := E.2.2.2.1
  have hts := E.2.2.2.2.1
  have hF : Fr [] [(88, 88)] σ σ := Fr.refl σ
  obtain ⟨R, hR0⟩ : ∃ R, fX12_findGains_0 σ = R := ⟨_, rfl⟩
  have hR : fX12_findGains_0b0 σ = R := hR0
  have hwX12 : ∀ w ∈ wsX120, w ∈ wsX12_findGains := by decide +kernel
  generalize hPQ : XQv g (fun σ' => fX12_findGains_0 σ = σ' ∧ INV σ' ∧ Fr [] [(88, 88)] σ σ') = PQz
  refine lv_iconst (v := 0) hx hb dX12_findGains_0 (by decide) ?_
  refine lv_istore_n (lv' := [(1, .int 0), (0, .ref (g.2.1 79))]) hx hb dX12_findGains_1 rfl hl (by decide) rfl (fun ls hl => ?_)
  have loop2_1 : ∀ (fu : Nat) (t1 : ST) (i1_1 : Nat), INV t1 → Fr [] [(88, 88)] σ t1 → t1.1 35 = nI F35 → i1_1 ≤ F35 → fX12_findGains_0l2 fu (nI i1_1) t1 = R → F35 - i1_1 < fu → ∀ (H : Heap) (locs : List Loc) (ls : Array Slot), HW g t1 s H locs → lv_has ls 3 [(1, .int (nI i1_1)), (0, .ref (g.2.1 79))] → W p l e { frames := 2, cells := 0, slots := 0, locals := 44 } s m args below meth c H locs 0 0 (MQ below PQz args s 0 0 (Aw g)) (F0 m 2 ls []) := by
    intro fu1
    induction fu1 with
    | zero => intro t1 i1_1 hI_1 hF_1 e2 bi1_1 hR1 hm; exact absurd hm (Nat.not_lt_zero _)
    | succ fu1 ih =>
      have ih1 := ih
      clear ih
      intro t1 i1_1 hI_1 hF_1 e2 bi1_1 hR1 hm1 H locs ls h hl
      replace hR1 : fX12_findGains_0b2 (fX12_findGains_0l2 fu1) (nI i1_1) t1 = R := hR1
      refine lv_iload_n hx hb dX12_findGains_2 rfl (lv_at hl 0 rfl) ?_
      refine lv_aload_n hx hb dX12_findGains_3 rfl (lv_at hl 1 rfl) ?_
      refine x_getI E h (fi_mo_pieces g) rfl hwX12 (by decide) (by decide +kernel) (v := nI F35) e2 dX12_findGains_4 ?_
      replace hR1 := bd_to hR1 e2
      refine lv_icmp_ge (tgt := 78) hx hb dX12_findGains_7 (by decide) (fun c3 => ?_) (fun c3 => ?_)
      · skip
        replace hR1 := it_t hR1 c3
        have b4 : F35 ≤ i1_1 := y_le (a := F35) (b := i1_1) (by omega) (by omega) c3
        subst hPQ
        exact x_vret E h ⟨hR0.trans hR1.symm, hI_1, hF_1⟩ dX12_findGains_78
      · skip
        replace hR1 := it_f hR1 c3
        have b5 : i1_1 < F35 := y_nle (a := F35) (b := i1_1) (by omega) (by omega) c3
        refine lv_iconst (v := 0) hx hb dX12_findGains_10 (by decide) ?_
        refine lv_istore_n (lv' := [(2, .int 0), (1, .int (nI i1_1)), (0, .ref (g.2.1 79))]) hx hb dX12_findGains_11 rfl hl (by decide) rfl (fun ls hl => ?_)
        have loop12_6 : ∀ (fu : Nat) (t6 : ST) (i6_2 : Nat), INV t6 → Fr [] [(88, 88)] σ t6 → t6.1 35 = nI F35 → i6_2 ≤ F35 → fX12_findGains_0l12 (fX12_findGains_0l2 fu1) fu (nI i1_1) (nI i6_2) t6 = R → F35 - i6_2 < fu → ∀ (H : Heap) (locs : List Loc) (ls : Array Slot), HW g t6 s H locs → lv_has ls 3 [(2, .int (nI i6_2)), (1, .int (nI i1_1)), (0, .ref (g.2.1 79))] → W p l e { frames := 2, cells := 0, slots := 0, locals := 44 } s m args below meth c H locs 0 0 (MQ below PQz args s 0 0 (Aw g)) (F0 m 12 ls []) := by
          intro fu6
          induction fu6 with
          | zero => intro t6 i6_2 hI_6 hF_6 e7 bi6_2 hR6 hm; exact absurd hm (Nat.not_lt_zero _)
          | succ fu6 ih =>
            have ih6 := ih
            clear ih
            intro t6 i6_2 hI_6 hF_6 e7 bi6_2 hR6 hm6 H locs ls h hl
            replace hR6 : fX12_findGains_0b12 (fX12_findGains_0l2 fu1) (fX12_findGains_0l12 (fX12_findGains_0l2 fu1) fu6) (nI i1_1) (nI i6_2) t6 = R := hR6
            refine lv_iload_n hx hb dX12_findGains_12 rfl (lv_at hl 0 rfl) ?_
            refine lv_aload_n hx hb dX12_findGains_13 rfl (lv_at hl 2 rfl) ?_
            refine x_getI E h (fi_mo_pieces g) rfl hwX12 (by decide) (by decide +kernel) (v := nI F35) e7 dX12_findGains_14 ?_
            replace hR6 := bd_to hR6 e7
            refine lv_icmp_ge (tgt := 72) hx hb dX12_findGains_17 (by decide) (fun c8 => ?_) (fun c8 => ?_)
            · skip
              replace hR6 := it_t hR6 c8
              have b9 : F35 ≤ i6_2 := y_le (a := F35) (b := i6_2) (by omega) (by omega) c8
              replace hR6 := bd_to hR6 (nI_add i1_1 1)
              refine lv_iinc (v := (nI (i1_1 + 1))) (lv' := [(1, .int (nI (i1_1 + 1))), (2, .int (nI i6_2)), (0, .ref (g.2.1 79))]) hx hb dX12_findGains_72 hl (k := 1) rfl (nI_add i1_1 1) (by decide) rfl (fun ls hl => ?_)
              refine lv_goto (tgt := 2) hx hb dX12_findGains_75 (by decide) ?_
              exact ih1 t6 (i1_1 + 1) hI_6 hF_6 e7 (by omega) hR6 (by omega) _ _ _ h (lv_sub hl [0, 2] rfl)
            · skip
              replace hR6 := it_f hR6 c8
              have b10 : i6_2 < F35 := y_nle (a := F35) (b := i6_2) (by omega) (by omega) c8
              refine lv_aload_n hx hb dX12_findGains_20 rfl (lv_at hl 2 rfl) ?_
              refine x_getR E h (fr_mo_gain g) rfl hwX12 (by decide) (by decide +kernel) dX12_findGains_21 ?_
              refine lv_bipush (v := 9) hx hb dX12_findGains_24 (by decide) ?_
              refine lv_iload_n hx hb dX12_findGains_26 rfl (lv_at hl 1 rfl) ?_
              refine lv_imul hx hb dX12_findGains_27 ?_
              refine x_topI (v2 := nI (9 * i1_1)) (pk_mul 9 i1_1) ?_
              replace hR6 := bd_to hR6 (pk_mul 9 i1_1)
              refine lv_iload_n hx hb dX12_findGains_28 rfl (lv_at hl 0 rfl) ?_
              refine lv_iadd hx hb dX12_findGains_29 ?_
              refine x_topI (v2 := nI ((9 * i1_1) + i6_2)) (nI_add (9 * i1_1) i6_2) ?_
              replace hR6 := bd_to hR6 (nI_add (9 * i1_1) i6_2)
              refine lv_iload_n hx hb dX12_findGains_30 rfl (lv_at hl 1 rfl) ?_
              refine lv_iload_n hx hb dX12_findGains_31 rfl (lv_at hl 0 rfl) ?_
              have j65_19 : ∀ (y19_s0 : Int32), fX12_findGains_0b65 (fX12_findGains_0l2 fu1) (fX12_findGains_0l12 (fX12_findGains_0l2 fu1) fu6) (nI i1_1) (nI i6_2) y19_s0 (nI ((9 * i1_1) + i6_2)) t6 = R → ∀ (H : Heap) (locs : List Loc) (ls : Array Slot), HW g t6 s H locs → lv_has ls 3 [(2, .int (nI i6_2)), (1, .int (nI i1_1)), (0, .ref (g.2.1 79))] → W p l e { frames := 2, cells := 0, slots := 0, locals := 44 } s m args below meth c H locs 0 0 (MQ below PQz args s 0 0 (Aw g)) (F0 m 65 ls [.int y19_s0, .int (nI ((9 * i1_1) + i6_2)), .ref (g.2.1 102)]) := by
                intro y19_s0 hR19 H locs ls h hl
                refine y_stI E h hI_6 hF_6 (ia_mo_gain g) (i := nI ((9 * i1_1) + i6_2)) (vp_in_nI (by omega) (by decide)) (j := ((9 * i1_1) + i6_2)) (nI_clamp (by omega)) (ba_none rfl) rfl dX12_findGains_65 (fun s20 H locs q20 hI20 hF20 h => ?_)
                replace hR19 := st_to hR19 (nI_clamp (n := (9 * i1_1) + i6_2) (by omega)) q20
                have e21 : s20.1 35 = nI F35 := (congrArg (fun t : ST => t.1 35) q20).trans e7
                replace hR19 := bd_to hR19 (nI_add i6_2 1)
                refine lv_iinc (v := (nI (i6_2 + 1))) (lv' := [(2, .int (nI (i6_2 + 1))), (1, .int (nI i1_1)), (0, .ref (g.2.1 79))]) hx hb dX12_findGains_66 hl (k := 0) rfl (nI_add i6_2 1) (by decide) rfl (fun ls hl => ?_)
                refine lv_goto (tgt := 12) hx hb dX12_findGains_69 (by decide) ?_
                exact ih6 s20 (i6_2 + 1) hI20 hF20 e21 (by omega) hR19 (by omega) _ _ _ h (lv_sub hl [0, 1, 2] rfl)
              refine lv_icmp_ne (tgt := 39) hx hb dX12_findGains_32 (by decide) (fun c11 => ?_) (fun c11 => ?_)
              · skip
                replace hR6 := it_f hR6 c11
                have b12 : ¬ i1_1 = i6_2 := y_ne (a := i1_1) (b := i6_2) (by omega) (by omega) c11
                refine lv_aload_n hx hb dX12_findGains_39 rfl (lv_at hl 2 rfl) ?_
                refine lv_iload_n hx hb dX12_findGains_40 rfl (lv_at hl 1 rfl) ?_
                refine lv_iload_n hx hb dX12_findGains_41 rfl (lv_at hl 0 rfl) ?_
                refine x_vi E h (na := 2) (As := [.int (nI i1_1), .int (nI i6_2)]) (aX12_likeOf_0 l g t6 hI_6 i1_1 i6_2 (by omega) (by omega)) (oc_mo g) rfl gX12_findGains_X12_likeOf rfl ⟨rfl, rfl⟩ rfl (by decide +kernel) ⟨Nat.le_of_ble_eq_true rfl, Nat.le_of_ble_eq_true rfl⟩ hl.1 rfl (Nat.le_of_ble_eq_true rfl) dX12_findGains_42 ⟨Nat.le_of_ble_eq_true rfl, Nat.le_of_ble_eq_true rfl⟩ (fun r13 s13 H locs q13 h => ?_)
                obtain ⟨x13, rfl⟩ := q13
                replace hR6 := bd_to hR6 x13
                refine lv_aload_n hx hb dX12_findGains_45 rfl (lv_at hl 2 rfl) ?_
                refine lv_iload_n hx hb dX12_findGains_46 rfl (lv_at hl 1 rfl) ?_
                refine lv_iload_n hx hb dX12_findGains_47 rfl (lv_at hl 0 rfl) ?_
                refine x_vi E h (na := 2) (As := [.int (nI i1_1), .int (nI i6_2)]) (aX12_touch_0 l g t6 hI_6 i1_1 i6_2 (by omega) (by omega)) (oc_mo g) rfl gX12_findGains_X12_touch rfl ⟨rfl, rfl⟩ rfl (by decide +kernel) ⟨Nat.le_of_ble_eq_true rfl, Nat.le_of_ble_eq_true rfl⟩ hl.1 rfl (Nat.le_of_ble_eq_true rfl) dX12_findGains_48 ⟨Nat.le_of_ble_eq_true rfl, Nat.le_of_ble_eq_true rfl⟩ (fun r14 s14 H locs q14 h => ?_)
                obtain ⟨x14, rfl⟩ := q14
                replace hR6 := bd_to hR6 x14
                have j64_17 : ∀ (y17_s0 : Int32), fX12_findGains_0b64 (fX12_findGains_0l2 fu1) (fX12_findGains_0l12 (fX12_findGains_0l2 fu1) fu6) (nI i1_1) (nI i6_2) y17_s0 r13 (nI ((9 * i1_1) + i6_2)) t6 = R → ∀ (H : Heap) (locs : List Loc) (ls : Array Slot), HW g t6 s H locs → lv_has ls 3 [(2, .int (nI i6_2)), (1, .int (nI i1_1)), (0, .ref (g.2.1 79))] → W p l e { frames := 2, cells := 0, slots := 0, locals := 44 } s m args below meth c H locs 0 0 (MQ below PQz args s 0 0 (Aw g)) (F0 m 64 ls [.int y17_s0, .int r13, .int (nI ((9 * i1_1) + i6_2)), .ref (g.2.1 102)]) := by
                  intro y17_s0 hR17 H locs ls h hl
                  refine lv_isub hx hb dX12_findGains_64 ?_
                  refine lv_topi (fun x18 e18 => ?_)
                  replace hR17 := bd_to hR17 e18.symm
                  exact j65_19 x18 hR17 _ _ _ h (lv_sub hl [0, 1, 2] rfl)
                refine lv_if_eq (tgt := 63) hx hb dX12_findGains_51 (by decide) (fun c15 => ?_) (fun c15 => ?_)
                · skip
                  replace hR6 := it_t hR6 c15
                  subst c15
                  refine lv_iconst (v := 0) hx hb dX12_findGains_63 (by decide) ?_
                  exact j64_17 0 hR6 _ _ _ h (lv_sub hl [0, 1, 2] rfl)
                · skip
                  replace hR6 := it_f hR6 c15
                  refine lv_aload_n hx hb dX12_findGains_54 rfl (lv_at hl 2 rfl) ?_
                  refine x_getR E h (fr_mo_rule g) rfl hwX12 (by decide) (by decide +kernel) dX12_findGains_55 ?_
                  refine lv_iconst (v := 4) hx hb dX12_findGains_58 (by decide) ?_
                  refine x_ldI E h (ia_mo_rule g) (i := nI 4) (vp_in_nI (by omega) (by decide)) (v := t6.2.2 66 4) (congrArg (t6.2.2 66) (nI_clamp (n := 4) (by omega))) dX12_findGains_59 ?_
                  replace hR6 := bd_to hR6 (congrArg (t6.2.2 66) (nI_clamp (n := 4) (by omega)))
                  refine lv_goto (tgt := 64) hx hb dX12_findGains_60 (by decide) ?_
                  exact j64_17 (t6.2.2 66 4) hR6 _ _ _ h (lv_sub hl [0, 1, 2] rfl)
              · skip
                replace hR6 := it_t hR6 c11
                have b23 : i1_1 = i6_2 := y_eq (a := i1_1) (b := i6_2) (by omega) (by omega) c11
                refine lv_iconst (v := 0) hx hb dX12_findGains_35 (by decide) ?_
                refine lv_goto (tgt := 65) hx hb dX12_findGains_36 (by decide) ?_
                exact j65_19 0 hR6 _ _ _ h (lv_sub hl [0, 1, 2] rfl)
        exact loop12_6 4096 t1 0 hI_1 hF_1 e2 (Nat.zero_le _) hR1 (by omega) _ _ _ h (lv_sub hl [0, 1, 2] rfl)
  exact loop2_1 4096 σ 0 hI hF eF35 (Nat.zero_le _) hR (by omega) _ _ _ h (lv_sub hl [0, 1] rfl)
set_option maxHeartbeats 4000000 in
set_option maxRecDepth 100000 in
theorem aX12_begin_0 (l : Launch) (g : CX) (σ : ST) (hI : INV σ)  : XM l g yX12_begin wsX12_begin { frames := 0, cells := 0, slots := 0, locals := 0 } [.ref (g.2.1 79)] σ (XQv g (fun σ' => fX12_begin_0 σ = σ' ∧ ((AP (σ'.2.2 85) 0 10 HQ)) ∧ INV σ' ∧ Fr [] [(85, 85)] σ σ')) := by
  refine x_met (own := RX12) (cc := cX12_begin) (maxL := 2) (ret := none) (lv := [(0, .ref (g.2.1 79))]) (by decide) rfl rfl (Nat.le_of_ble_eq_true rfl) rfl ?_
  intro p e s m args below meth c ls E h hl
  have hx := E.1
  have hb := E.2.1
  have hown := E.2.2.2.1
  have hts := E.2.2.2.2.1
  have hF : Fr [] [(85, 85)] σ σ := Fr.refl σ
  obtain ⟨R, hR0⟩ : ∃ R, fX12_begin_0 σ = R := ⟨_, rfl⟩
  have hR : fX12_begin_0b0 σ = R := hR0
  have hwX12 : ∀ w ∈ wsX120, w ∈ wsX12_begin := by decide +kernel
  generalize hPQ : XQv g (fun σ' => fX12_begin_0 σ = σ' ∧ ((AP (σ'.2.2 85) 0 10 HQ)) ∧ INV σ' ∧ Fr [] [(85, 85)] σ σ') = PQz
  refine lv_iconst (v := 0) hx hb dX12_begin_0 (by decide) ?_
  refine lv_istore_n (lv' := [(1, .int 0), (0, .ref (g.2.1 79))]) hx hb dX12_begin_1 rfl hl (by decide) rfl (fun ls hl => ?_)
  have loop2_1 : ∀ (fu : Nat) (t1 : ST) (i1_1 : Nat), INV t1 → Fr [] [(85, 85)] σ t1 → i1_1 ≤ 10 → AP (t1.2.2 85) 0 i1_1 HQ → fX12_begin_0l2 fu (nI i1_1) t1 = R → 10 - i1_1 < fu → ∀ (H : Heap) (locs : List Loc) (ls : Array Slot), HW g t1 s H locs → lv_has ls 2 [(1, .int (nI i1_1)), (0, .ref (g.2.1 79))] → W p l e { frames := 0, cells := 0, slots := 0, locals := 0 } s m args below meth c H locs 0 0 (MQ below PQz args s 0 0 (Aw g)) (F0 m 2 ls []) := by
    intro fu1
    induction fu1 with
    | zero => intro t1 i1_1 hI_1 hF_1 bi1_1 h0_1 hR1 hm; exact absurd hm (Nat.not_lt_zero _)
    | succ fu1 ih =>
      have ih1 := ih
      clear ih
      intro t1 i1_1 hI_1 hF_1 bi1_1 h0_1 hR1 hm1 H locs ls h hl
      replace hR1 : fX12_begin_0b2 (fX12_begin_0l2 fu1) (nI i1_1) t1 = R := hR1
      refine lv_iload_n hx hb dX12_begin_2 rfl (lv_at hl 0 rfl) ?_
      refine lv_bipush (v := 10) hx hb dX12_begin_3 (by decide) ?_
      refine lv_icmp_ge (tgt := 21) hx hb dX12_begin_5 (by decide) (fun c2 => ?_) (fun c2 => ?_)
      · skip
        replace hR1 := it_t hR1 c2
        have b3 : 10 ≤ i1_1 := y_le (a := 10) (b := i1_1) (by omega) (by omega) c2
        subst hPQ
        exact x_vret E h ⟨hR0.trans hR1.symm, ((AP.sub h0_1 (by omega))), hI_1, hF_1⟩ dX12_begin_21
      · skip
        replace hR1 := it_f hR1 c2
        have b4 : i1_1 < 10 := y_nle (a := 10) (b := i1_1) (by omega) (by omega) c2
        refine lv_aload_n hx hb dX12_begin_8 rfl (lv_at hl 1 rfl) ?_
        refine x_getR E h (fr_mo_heap g) rfl hwX12 (by decide) (by decide +kernel) dX12_begin_9 ?_
        refine lv_iload_n hx hb dX12_begin_12 rfl (lv_at hl 0 rfl) ?_
        refine lv_iconst (v := 0) hx hb dX12_begin_13 (by decide) ?_
        refine y_stI E h hI_1 hF_1 (ia_mo_heap g) (i := nI i1_1) (vp_in_nI (by omega) (by decide)) (j := i1_1) (nI_clamp (by omega)) (ba_some rfl (Bd.mk (n := 0) (by omega))) rfl dX12_begin_14 (fun s5 H locs q5 hI5 hF5 h => ?_)
        replace hR1 := st_to hR1 (nI_clamp (n := i1_1) (by omega)) q5
        have a7 := AP.push (Q := HQ) h0_1 (show s5.2.2 85 = upd (t1.2.2 85) i1_1 0 from congrArg (fun t : ST => t.2.2 85) q5) (HQ.mk (n := 0) (by omega) (by omega))
        replace hR1 := bd_to hR1 (nI_add i1_1 1)
        refine lv_iinc (v := (nI (i1_1 + 1))) (lv' := [(1, .int (nI (i1_1 + 1))), (0, .ref (g.2.1 79))]) hx hb dX12_begin_15 hl (k := 0) rfl (nI_add i1_1 1) (by decide) rfl (fun ls hl => ?_)
        refine lv_goto (tgt := 2) hx hb dX12_begin_18 (by decide) ?_
        exact ih1 s5 (i1_1 + 1) hI5 hF5 (by omega) a7 hR1 (by omega) _ _ _ h (lv_sub hl [0, 1] rfl)
  exact loop2_1 4096 σ 0 hI hF (Nat.zero_le _) AP.none hR (by omega) _ _ _ h (lv_sub hl [0, 1] rfl)
set_option maxHeartbeats 4000000 in
set_option maxRecDepth 100000 in
theorem aX12_worthOf_0 (l : Launch) (g : CX) (σ : ST) (hI : INV σ) (F35 : Nat) (eF35 : σ.1 35 = nI F35) (hh0 : F35 ≤ 9) : XM l g yX12_worthOf wsX12_worthOf { frames := 0, cells := 0, slots := 0, locals := 0 } [.ref (g.2.1 79), .ref (g.2.1 99)] σ (XQi g (fun r σ' => fX12_worthOf_0 σ = r ∧ σ = σ')) := by
  refine x_met (own := RX12) (cc := cX12_worthOf) (maxL := 5) (ret := (some .int)) (lv := [(0, .ref (g.2.1 79)), (1, .ref (g.2.1 99))]) (by decide) rfl rfl (Nat.le_of_ble_eq_true rfl) rfl ?_
  intro p e s m args below meth c ls E h hl
  have hx := E.1
  have hb := E.2.1
  have hown := E.2.2.2.1
  have hts := E.2.2.2.2.1
  obtain ⟨R, hR0⟩ : ∃ R, fX12_worthOf_0 σ = R := ⟨_, rfl⟩
  have hR : fX12_worthOf_0b0 σ = R := hR0
  have hwX12 : ∀ w ∈ wsX120, w ∈ wsX12_worthOf := by decide +kernel
  generalize hPQ : XQi g (fun r σ' => fX12_worthOf_0 σ = r ∧ σ = σ') = PQz
  refine lv_iconst (v := 0) hx hb dX12_worthOf_0 (by decide) ?_
  refine lv_istore_n (lv' := [(2, .int 0), (0, .ref (g.2.1 79)), (1, .ref (g.2.1 99))]) hx hb dX12_worthOf_1 rfl hl (by decide) rfl (fun ls hl => ?_)
  refine lv_iconst (v := 0) hx hb dX12_worthOf_2 (by decide) ?_
  refine lv_istore_n (lv' := [(3, .int 0), (2, .int 0), (0, .ref (g.2.1 79)), (1, .ref (g.2.1 99))]) hx hb dX12_worthOf_3 rfl hl (by decide) rfl (fun ls hl => ?_)
  have loop4_1 : ∀ (fu : Nat) (i1_3 : Nat) (i1_2 : Int32), i1_3 ≤ F35 → fX12_worthOf_0l4 fu i1_2 (nI i1_3) σ = R → F35 - i1_3 < fu → ∀ (H : Heap) (locs : List Loc) (ls : Array Slot), HW g σ s H locs → lv_has ls 5 [(3, .int (nI i1_3)), (2, .int i1_2), (0, .ref (g.2.1 79)), (1, .ref (g.2.1 99))] → W p l e { frames := 0, cells := 0, slots := 0, locals := 0 } s m args below meth c H locs 0 0 (MQ below PQz args s 0 0 (Aw g)) (F0 m 4 ls []) := by
    intro fu1
    induction fu1 with
    | zero => intro i1_3 i1_2 bi1_3 hR1 hm; exact absurd hm (Nat.not_lt_zero _)
    | succ fu1 ih =>
      have ih1 := ih
      clear ih
      intro i1_3 i1_2 bi1_3 hR1 hm1 H locs ls h hl
      replace hR1 : fX12_worthOf_0b4 (fX12_worthOf_0l4 fu1) i1_2 (nI i1_3) σ = R := hR1
      refine lv_iload_n hx hb dX12_worthOf_4 rfl (lv_at hl 0 rfl) ?_
      refine lv_aload_n hx hb dX12_worthOf_5 rfl (lv_at hl 2 rfl) ?_
      refine x_getI E h (fi_mo_pieces g) rfl hwX12 (by decide) (by decide +kernel) (v := nI F35) eF35 dX12_worthOf_6 ?_
      replace hR1 := bd_to hR1 eF35
      refine lv_icmp_ge (tgt := 62) hx hb dX12_worthOf_9 (by decide) (fun c2 => ?_) (fun c2 => ?_)
      · skip
        replace hR1 := it_t hR1 c2
        have b3 : F35 ≤ i1_3 := y_le (a := F35) (b := i1_3) (by omega) (by omega) c2
        refine lv_iload_n hx hb dX12_worthOf_62 rfl (lv_at hl 1 rfl) ?_
        subst hPQ
        exact x_iret E h ⟨hR0.trans hR1.symm, rfl⟩ dX12_worthOf_63
      · skip
        replace hR1 := it_f hR1 c2
        have b4 : i1_3 < F35 := y_nle (a := F35) (b := i1_3) (by omega) (by omega) c2
        refine lv_iconst (v := 0) hx hb dX12_worthOf_12 (by decide) ?_
        refine lv_istore (lv' := [(4, .int 0), (3, .int (nI i1_3)), (2, .int i1_2), (0, .ref (g.2.1 79)), (1, .ref (g.2.1 99))]) hx hb dX12_worthOf_13 hl (by decide) rfl (fun ls hl => ?_)
        have loop15_5 : ∀ (fu : Nat) (i5_4 : Nat) (i5_2 : Int32), i5_4 ≤ i1_3 → fX12_worthOf_0l15 (fX12_worthOf_0l4 fu1) fu i5_2 (nI i1_3) (nI i5_4) σ = R → i1_3 - i5_4 < fu → ∀ (H : Heap) (locs : List Loc) (ls : Array Slot), HW g σ s H locs → lv_has ls 5 [(4, .int (nI i5_4)), (3, .int (nI i1_3)), (2, .int i5_2), (0, .ref (g.2.1 79)), (1, .ref (g.2.1 99))] → W p l e { frames := 0, cells := 0, slots := 0, locals := 0 } s m args below meth c H locs 0 0 (MQ below PQz args s 0 0 (Aw g)) (F0 m 15 ls []) := by
          intro fu5
          induction fu5 with
          | zero => intro i5_4 i5_2 bi5_4 hR5 hm; exact absurd hm (Nat.not_lt_zero _)
          | succ fu5 ih =>
            have ih5 := ih
            clear ih
            intro i5_4 i5_2 bi5_4 hR5 hm5 H locs ls h hl
            replace hR5 : fX12_worthOf_0b15 (fX12_worthOf_0l4 fu1) (fX12_worthOf_0l15 (fX12_worthOf_0l4 fu1) fu5) i5_2 (nI i1_3) (nI i5_4) σ = R := hR5
            refine lv_iload hx hb dX12_worthOf_15 (lv_at hl 0 rfl) ?_
            refine lv_iload_n hx hb dX12_worthOf_17 rfl (lv_at hl 1 rfl) ?_
            refine lv_icmp_ge (tgt := 56) hx hb dX12_worthOf_18 (by decide) (fun c6 => ?_) (fun c6 => ?_)
            · skip
              replace hR5 := it_t hR5 c6
              have b7 : i1_3 ≤ i5_4 := y_le (a := i1_3) (b := i5_4) (by omega) (by omega) c6
              replace hR5 := bd_to hR5 (nI_add i1_3 1)
              refine lv_iinc (v := (nI (i1_3 + 1))) (lv' := [(3, .int (nI (i1_3 + 1))), (4, .int (nI i5_4)), (2, .int i5_2), (0, .ref (g.2.1 79)), (1, .ref (g.2.1 99))]) hx hb dX12_worthOf_56 hl (k := 1) rfl (nI_add i1_3 1) (by decide) rfl (fun ls hl => ?_)
              refine lv_goto (tgt := 4) hx hb dX12_worthOf_59 (by decide) ?_
              exact ih1 (i1_3 + 1) i5_2 (by omega) hR5 (by omega) _ _ _ h (lv_sub hl [0, 2, 3, 4] rfl)
            · skip
              replace hR5 := it_f hR5 c6
              have b8 : i5_4 < i1_3 := y_nle (a := i1_3) (b := i5_4) (by omega) (by omega) c6
              refine lv_iload_n hx hb dX12_worthOf_21 rfl (lv_at hl 2 rfl) ?_
              refine lv_aload_n hx hb dX12_worthOf_22 rfl (lv_at hl 4 rfl) ?_
              refine lv_iload_n hx hb dX12_worthOf_23 rfl (lv_at hl 1 rfl) ?_
              obtain ⟨n9, b9, e9⟩ := hI.2 85 8 rfl i1_3
              refine x_ldI E h (ia_mo_heap g) (i := nI i1_3) (vp_in_nI (by omega) (by decide)) (v := nI n9) ((congrArg (σ.2.2 85) (nI_clamp (n := i1_3) (by omega))).trans e9) dX12_worthOf_24 ?_
              replace hR5 := bd_to hR5 ((congrArg (σ.2.2 85) (nI_clamp (n := i1_3) (by omega))).trans e9)
              refine lv_aload_n hx hb dX12_worthOf_25 rfl (lv_at hl 4 rfl) ?_
              refine lv_iload hx hb dX12_worthOf_26 (lv_at hl 0 rfl) ?_
              obtain ⟨n10, b10, e10⟩ := hI.2 85 8 rfl i5_4
              refine x_ldI E h (ia_mo_heap g) (i := nI i5_4) (vp_in_nI (by omega) (by decide)) (v := nI n10) ((congrArg (σ.2.2 85) (nI_clamp (n := i5_4) (by omega))).trans e10) dX12_worthOf_28 ?_
              replace hR5 := bd_to hR5 ((congrArg (σ.2.2 85) (nI_clamp (n := i5_4) (by omega))).trans e10)
              have j48_13 : ∀ (y13_s0 : Int32), fX12_worthOf_0b48 (fX12_worthOf_0l4 fu1) (fX12_worthOf_0l15 (fX12_worthOf_0l4 fu1) fu5) (nI i1_3) (nI i5_4) y13_s0 i5_2 σ = R → ∀ (H : Heap) (locs : List Loc) (ls : Array Slot), HW g σ s H locs → lv_has ls 5 [(4, .int (nI i5_4)), (3, .int (nI i1_3)), (2, .int i5_2), (0, .ref (g.2.1 79)), (1, .ref (g.2.1 99))] → W p l e { frames := 0, cells := 0, slots := 0, locals := 0 } s m args below meth c H locs 0 0 (MQ below PQz args s 0 0 (Aw g)) (F0 m 48 ls [.int y13_s0, .int i5_2]) := by
                intro y13_s0 hR13 H locs ls h hl
                refine lv_iadd hx hb dX12_worthOf_48 ?_
                refine lv_topi (fun x14 e14 => ?_)
                replace hR13 := bd_to hR13 e14.symm
                refine lv_istore_n (lv' := [(2, .int x14), (4, .int (nI i5_4)), (3, .int (nI i1_3)), (0, .ref (g.2.1 79)), (1, .ref (g.2.1 99))]) hx hb dX12_worthOf_49 rfl hl (by decide) rfl (fun ls hl => ?_)
                replace hR13 := bd_to hR13 (nI_add i5_4 1)
                refine lv_iinc (v := (nI (i5_4 + 1))) (lv' := [(4, .int (nI (i5_4 + 1))), (2, .int x14), (3, .int (nI i1_3)), (0, .ref (g.2.1 79)), (1, .ref (g.2.1 99))]) hx hb dX12_worthOf_50 hl (k := 1) rfl (nI_add i5_4 1) (by decide) rfl (fun ls hl => ?_)
                refine lv_goto (tgt := 15) hx hb dX12_worthOf_53 (by decide) ?_
                exact ih5 (i5_4 + 1) x14 (by omega) hR13 (by omega) _ _ _ h (lv_sub hl [0, 2, 1, 3, 4] rfl)
              refine lv_icmp_ne (tgt := 47) hx hb dX12_worthOf_29 (by decide) (fun c11 => ?_) (fun c11 => ?_)
              · skip
                replace hR5 := it_f hR5 c11
                have b12 : ¬ n9 = n10 := y_ne (a := n9) (b := n10) (by omega) (by omega) c11
                refine lv_iconst (v := 0) hx hb dX12_worthOf_47 (by decide) ?_
                exact j48_13 0 hR5 _ _ _ h (lv_sub hl [0, 1, 2, 3, 4] rfl)
              · skip
                replace hR5 := it_t hR5 c11
                have b15 : n9 = n10 := y_eq (a := n9) (b := n10) (by omega) (by omega) c11
                refine lv_aload_n hx hb dX12_worthOf_32 rfl (lv_at hl 3 rfl) ?_
                refine x_getR E h (fr_mo_gain g) rfl hwX12 (by decide) (by decide +kernel) dX12_worthOf_33 ?_
                refine lv_bipush (v := 9) hx hb dX12_worthOf_36 (by decide) ?_
                refine lv_iload_n hx hb dX12_worthOf_38 rfl (lv_at hl 1 rfl) ?_
                refine lv_imul hx hb dX12_worthOf_39 ?_
                refine x_topI (v2 := nI (9 * i1_3)) (pk_mul 9 i1_3) ?_
                replace hR5 := bd_to hR5 (pk_mul 9 i1_3)
                refine lv_iload hx hb dX12_worthOf_40 (lv_at hl 0 rfl) ?_
                refine lv_iadd hx hb dX12_worthOf_42 ?_
                refine x_topI (v2 := nI ((9 * i1_3) + i5_4)) (nI_add (9 * i1_3) i5_4) ?_
                replace hR5 := bd_to hR5 (nI_add (9 * i1_3) i5_4)
                refine x_ldI E h (ia_mo_gain g) (i := nI ((9 * i1_3) + i5_4)) (vp_in_nI (by omega) (by decide)) (v := σ.2.2 88 ((9 * i1_3) + i5_4)) (congrArg (σ.2.2 88) (nI_clamp (n := (9 * i1_3) + i5_4) (by omega))) dX12_worthOf_43 ?_
                replace hR5 := bd_to hR5 (congrArg (σ.2.2 88) (nI_clamp (n := (9 * i1_3) + i5_4) (by omega)))
                refine lv_goto (tgt := 48) hx hb dX12_worthOf_44 (by decide) ?_
                exact j48_13 (σ.2.2 88 ((9 * i1_3) + i5_4)) hR5 _ _ _ h (lv_sub hl [0, 1, 2, 3, 4] rfl)
        exact loop15_5 4096 0 i1_2 (Nat.zero_le _) hR1 (by omega) _ _ _ h (lv_sub hl [0, 1, 2, 3, 4] rfl)
  exact loop4_1 4096 0 0 (Nat.zero_le _) hR (by omega) _ _ _ h (lv_sub hl [0, 1, 2, 3] rfl)
set_option maxHeartbeats 4000000 in
set_option maxRecDepth 100000 in
theorem aX12_heapsIn_0 (l : Launch) (g : CX) (σ : ST) (hI : INV σ) (p1 : Nat) (hh0 : p1 ≤ 9) (hHP : AP (σ.2.2 85) 0 10 HQ) : XM l g yX12_heapsIn wsX12_heapsIn { frames := 0, cells := 0, slots := 0, locals := 0 } [.ref (g.2.1 99), .int (nI p1)] σ (XQi g (fun r σ' => fX12_heapsIn_0 (nI p1) σ = r ∧ ((∃ n : Nat, n ≤ p1 ∧ r = nI n)) ∧ σ = σ')) := by
  refine x_met (own := RX12) (cc := cX12_heapsIn) (maxL := 4) (ret := (some .int)) (lv := [(0, .ref (g.2.1 99)), (1, .int (nI p1))]) (by decide) rfl rfl (Nat.le_of_ble_eq_true rfl) rfl ?_
  intro p e s m args below meth c ls E h hl
  have hx := E.1
  have hb := E.2.1
  have hown := E.2.2.2.1
  have hts := E.2.2.2.2.1
  obtain ⟨R, hR0⟩ : ∃ R, fX12_heapsIn_0 (nI p1) σ = R := ⟨_, rfl⟩
  have hR : fX12_heapsIn_0b0 (nI p1) σ = R := hR0
  generalize hPQ : XQi g (fun r σ' => fX12_heapsIn_0 (nI p1) σ = r ∧ ((∃ n : Nat, n ≤ p1 ∧ r = nI n)) ∧ σ = σ') = PQz
  refine lv_iconst (v := 0) hx hb dX12_heapsIn_0 (by decide) ?_
  refine lv_istore_n (lv' := [(2, .int 0), (0, .ref (g.2.1 99)), (1, .int (nI p1))]) hx hb dX12_heapsIn_1 rfl hl (by decide) rfl (fun ls hl => ?_)
  refine lv_iconst (v := 0) hx hb dX12_heapsIn_2 (by decide) ?_
  refine lv_istore_n (lv' := [(3, .int 0), (2, .int 0), (0, .ref (g.2.1 99)), (1, .int (nI p1))]) hx hb dX12_heapsIn_3 rfl hl (by decide) rfl (fun ls hl => ?_)
  have loop4_1 : ∀ (fu : Nat) (i1_3 : Nat) (i1_2 : Nat), i1_3 ≤ p1 → i1_2 ≤ 9 → i1_2 ≤ i1_3 → fX12_heapsIn_0l4 fu (nI p1) (nI i1_2) (nI i1_3) σ = R → p1 - i1_3 < fu → ∀ (H : Heap) (locs : List Loc) (ls : Array Slot), HW g σ s H locs → lv_has ls 4 [(3, .int (nI i1_3)), (2, .int (nI i1_2)), (0, .ref (g.2.1 99)), (1, .int (nI p1))] → W p l e { frames := 0, cells := 0, slots := 0, locals := 0 } s m args below meth c H locs 0 0 (MQ below PQz args s 0 0 (Aw g)) (F0 m 4 ls []) := by
    intro fu1
    induction fu1 with
    | zero => intro i1_3 i1_2 bi1_3 bi1_2 pp1_0 hR1 hm; exact absurd hm (Nat.not_lt_zero _)
    | succ fu1 ih =>
      have ih1 := ih
      clear ih
      intro i1_3 i1_2 bi1_3 bi1_2 pp1_0 hR1 hm1 H locs ls h hl
      replace hR1 : fX12_heapsIn_0b4 (fX12_heapsIn_0l4 fu1) (nI p1) (nI i1_2) (nI i1_3) σ = R := hR1
      refine lv_iload_n hx hb dX12_heapsIn_4 rfl (lv_at hl 0 rfl) ?_
      refine lv_iload_n hx hb dX12_heapsIn_5 rfl (lv_at hl 3 rfl) ?_
      refine lv_icmp_ge (tgt := 32) hx hb dX12_heapsIn_6 (by decide) (fun c2 => ?_) (fun c2 => ?_)
      · skip
        replace hR1 := it_t hR1 c2
        have b3 : p1 ≤ i1_3 := y_le (a := p1) (b := i1_3) (by omega) (by omega) c2
        refine lv_iload_n hx hb dX12_heapsIn_32 rfl (lv_at hl 1 rfl) ?_
        subst hPQ
        exact x_iret E h ⟨hR0.trans hR1.symm, (⟨i1_2, (by omega), rfl⟩), rfl⟩ dX12_heapsIn_33
      · skip
        replace hR1 := it_f hR1 c2
        have b4 : i1_3 < p1 := y_nle (a := p1) (b := i1_3) (by omega) (by omega) c2
        refine lv_aload_n hx hb dX12_heapsIn_9 rfl (lv_at hl 2 rfl) ?_
        refine lv_iload_n hx hb dX12_heapsIn_10 rfl (lv_at hl 0 rfl) ?_
        obtain ⟨n5, b5, e5⟩ := hI.2 85 8 rfl i1_3
        have b6 := HQ.le (hHP i1_3 (Nat.zero_le _) (by omega)) e5 (by omega)
        refine x_ldI E h (ia_mo_heap g) (i := nI i1_3) (vp_in_nI (by omega) (by decide)) (v := nI n5) ((congrArg (σ.2.2 85) (nI_clamp (n := i1_3) (by omega))).trans e5) dX12_heapsIn_11 ?_
        replace hR1 := bd_to hR1 ((congrArg (σ.2.2 85) (nI_clamp (n := i1_3) (by omega))).trans e5)
        refine lv_iload_n hx hb dX12_heapsIn_12 rfl (lv_at hl 1 rfl) ?_
        refine lv_icmp_lt (tgt := 24) hx hb dX12_heapsIn_13 (by decide) (fun c7 => ?_) (fun c7 => ?_)
        · skip
          replace hR1 := it_t hR1 c7
          have b8 : n5 < i1_2 := y_lt (a := n5) (b := i1_2) (by omega) (by omega) c7
          refine lv_iload_n hx hb dX12_heapsIn_24 rfl (lv_at hl 1 rfl) ?_
          replace hR1 : fX12_heapsIn_0b25 (fX12_heapsIn_0l4 fu1) (nI p1) (nI i1_3) (nI i1_2) σ = R := hR1
          refine lv_istore_n (lv' := [(2, .int (nI i1_2)), (3, .int (nI i1_3)), (0, .ref (g.2.1 99)), (1, .int (nI p1))]) hx hb dX12_heapsIn_25 rfl hl (by decide) rfl (fun ls hl => ?_)
          replace hR1 := bd_to hR1 (nI_add i1_3 1)
          refine lv_iinc (v := (nI (i1_3 + 1))) (lv' := [(3, .int (nI (i1_3 + 1))), (2, .int (nI i1_2)), (0, .ref (g.2.1 99)), (1, .int (nI p1))]) hx hb dX12_heapsIn_26 hl (k := 1) rfl (nI_add i1_3 1) (by decide) rfl (fun ls hl => ?_)
          refine lv_goto (tgt := 4) hx hb dX12_heapsIn_29 (by decide) ?_
          exact ih1 (i1_3 + 1) i1_2 (by omega) (by omega) (by omega) hR1 (by omega) _ _ _ h (lv_sub hl [0, 1, 2, 3] rfl)
        · skip
          replace hR1 := it_f hR1 c7
          have b9 : i1_2 ≤ n5 := y_nlt (a := n5) (b := i1_2) (by omega) (by omega) c7
          refine lv_aload_n hx hb dX12_heapsIn_16 rfl (lv_at hl 2 rfl) ?_
          refine lv_iload_n hx hb dX12_heapsIn_17 rfl (lv_at hl 0 rfl) ?_
          refine x_ldI E h (ia_mo_heap g) (i := nI i1_3) (vp_in_nI (by omega) (by decide)) (v := nI n5) ((congrArg (σ.2.2 85) (nI_clamp (n := i1_3) (by omega))).trans e5) dX12_heapsIn_18 ?_
          replace hR1 := bd_to hR1 ((congrArg (σ.2.2 85) (nI_clamp (n := i1_3) (by omega))).trans e5)
          refine lv_iconst (v := 1) hx hb dX12_heapsIn_19 (by decide) ?_
          refine lv_iadd hx hb dX12_heapsIn_20 ?_
          refine x_topI (v2 := nI (n5 + 1)) (nI_add n5 1) ?_
          replace hR1 := bd_to hR1 (nI_add n5 1)
          refine lv_goto (tgt := 25) hx hb dX12_heapsIn_21 (by decide) ?_
          refine lv_istore_n (lv' := [(2, .int (nI (n5 + 1))), (3, .int (nI i1_3)), (0, .ref (g.2.1 99)), (1, .int (nI p1))]) hx hb dX12_heapsIn_25 rfl hl (by decide) rfl (fun ls hl => ?_)
          replace hR1 := bd_to hR1 (nI_add i1_3 1)
          refine lv_iinc (v := (nI (i1_3 + 1))) (lv' := [(3, .int (nI (i1_3 + 1))), (2, .int (nI (n5 + 1))), (0, .ref (g.2.1 99)), (1, .int (nI p1))]) hx hb dX12_heapsIn_26 hl (k := 1) rfl (nI_add i1_3 1) (by decide) rfl (fun ls hl => ?_)
          refine lv_goto (tgt := 4) hx hb dX12_heapsIn_29 (by decide) ?_
          exact ih1 (i1_3 + 1) (n5 + 1) (by omega) (by omega) (by omega) hR1 (by omega) _ _ _ h (lv_sub hl [0, 1, 2, 3] rfl)
  exact loop4_1 4096 0 0 (Nat.zero_le _) (Nat.zero_le _) (by omega) hR (by omega) _ _ _ h (lv_sub hl [0, 1, 2, 3] rfl)
set_option maxHeartbeats 4000000 in
set_option maxRecDepth 100000 in
theorem aX12_goOn_0 (l : Launch) (g : CX) (σ : ST) (hI : INV σ) (F35 : Nat) (eF35 : σ.1 35 = nI F35) (hh0 : F35 ≤ 9) (hHP : AP (σ.2.2 85) 0 10 HQ) : XM l g yX12_goOn wsX12_goOn { frames := 1, cells := 0, slots := 0, locals := 23 } [.ref (g.2.1 79)] σ (XQi g (fun r σ' => fX12_goOn_0 σ = (r, σ') ∧ ((1 = r ∧ AP (σ'.2.2 85) 0 10 HQ ∧ hv (σ.2.2 85) F35 < hv (σ'.2.2 85) F35) ∨ (0 = r)) ∧ INV σ' ∧ Fr [] [(85, 85)] σ σ')) := by
  refine x_met (own := RX12) (cc := cX12_goOn) (maxL := 3) (ret := (some .boolean)) (lv := [(0, .ref (g.2.1 79))]) (by decide) rfl rfl (Nat.le_of_ble_eq_true rfl) rfl ?_
  intro p e s m args below meth c ls E h hl
  have hx := E.1
  have hb := E.2.1
  have hown := E.2.2.2.1
  have hts := E.2.2.2.2.1
  have hF : Fr [] [(85, 85)] σ σ := Fr.refl σ
  obtain ⟨R, hR0⟩ : ∃ R, fX12_goOn_0 σ = R := ⟨_, rfl⟩
  have hR : fX12_goOn_0b0 σ = R := hR0
  have hwX12 : ∀ w ∈ wsX120, w ∈ wsX12_goOn := by decide +kernel
  generalize hPQ : XQi g (fun r σ' => fX12_goOn_0 σ = (r, σ') ∧ ((1 = r ∧ AP (σ'.2.2 85) 0 10 HQ ∧ hv (σ.2.2 85) F35 < hv (σ'.2.2 85) F35) ∨ (0 = r)) ∧ INV σ' ∧ Fr [] [(85, 85)] σ σ') = PQz
  refine lv_aload_n hx hb dX12_goOn_0 rfl (lv_at hl 0 rfl) ?_
  refine x_getI E h (fi_mo_pieces g) rfl hwX12 (by decide) (by decide +kernel) (v := nI F35) eF35 dX12_goOn_1 ?_
  replace hR := bd_to hR eF35
  refine lv_iconst (v := 1) hx hb dX12_goOn_4 (by decide) ?_
  refine lv_isub hx hb dX12_goOn_5 ?_
  replace hR := bd_to hR rfl
  refine lv_istore_n (lv' := [(1, .int (nI F35 - 1)), (0, .ref (g.2.1 79))]) hx hb dX12_goOn_6 rfl hl (by decide) rfl (fun ls hl => ?_)
  have loop7_1 : ∀ (fu : Nat) (t1 : ST) (i1_1 : Nat), INV t1 → Fr [] [(85, 85)] σ t1 → t1.1 35 = nI F35 → i1_1 ≤ F35 → AP (t1.2.2 85) 0 10 HQ → t1.2.2 85 = σ.2.2 85 → fX12_goOn_0l7 fu (nI i1_1 - 1) t1 = R → i1_1 < fu → ∀ (H : Heap) (locs : List Loc) (ls : Array Slot), HW g t1 s H locs → lv_has ls 3 [(1, .int (nI i1_1 - 1)), (0, .ref (g.2.1 79))] → W p l e { frames := 1, cells := 0, slots := 0, locals := 23 } s m args below meth c H locs 0 0 (MQ below PQz args s 0 0 (Aw g)) (F0 m 7 ls []) := by
    intro fu1
    induction fu1 with
    | zero => intro t1 i1_1 hI_1 hF_1 e2 bi1_1 hp_1 he_1 hR1 hm; exact absurd hm (Nat.not_lt_zero _)
    | succ fu1 ih =>
      have ih1 := ih
      clear ih
      intro t1 i1_1 hI_1 hF_1 e2 bi1_1 hp_1 he_1 hR1 hm1 H locs ls h hl
      replace hR1 : fX12_goOn_0b7 (fX12_goOn_0l7 fu1) (nI i1_1 - 1) t1 = R := hR1
      refine lv_iload_n hx hb dX12_goOn_7 rfl (lv_at hl 0 rfl) ?_
      refine lv_if_le (tgt := 71) hx hb dX12_goOn_8 (by decide) (fun c3 => ?_) (fun c3 => ?_)
      · skip
        replace hR1 := it_t hR1 c3
        have b4 : i1_1 ≤ 0 + 1 := y_leL (a := i1_1) (b := 0) (by omega) (by omega) c3
        refine lv_iconst (v := 0) hx hb dX12_goOn_71 (by decide) ?_
        subst hPQ
        exact x_zret E h rfl ⟨hR0.trans hR1.symm, (Or.inr (rfl)), hI_1, hF_1⟩ dX12_goOn_72
      · skip
        replace hR1 := it_f hR1 c3
        have b5 : 0 + 1 < i1_1 := y_nleL (a := i1_1) (b := 0) (by omega) (by omega) c3
        obtain ⟨n6, rfl⟩ : ∃ z, i1_1 = z + 1 := ⟨i1_1 - 1, by omega⟩
        rw [nI_pred] at hl
        try rw [nI_pred] at hR1
        refine lv_aload_n hx hb dX12_goOn_11 rfl (lv_at hl 1 rfl) ?_
        refine x_getR E h (fr_mo_heap g) rfl hwX12 (by decide) (by decide +kernel) dX12_goOn_12 ?_
        refine lv_iload_n hx hb dX12_goOn_15 rfl (lv_at hl 0 rfl) ?_
        obtain ⟨n7, b7, e7⟩ := hI_1.2 85 8 rfl n6
        have b8 := HQ.le (hp_1 n6 (Nat.zero_le _) (by omega)) e7 (by omega)
        refine x_ldI E h (ia_mo_heap g) (i := nI n6) (vp_in_nI (by omega) (by decide)) (v := nI n7) ((congrArg (t1.2.2 85) (nI_clamp (n := n6) (by omega))).trans e7) dX12_goOn_16 ?_
        replace hR1 := bd_to hR1 ((congrArg (t1.2.2 85) (nI_clamp (n := n6) (by omega))).trans e7)
        refine lv_aload_n hx hb dX12_goOn_17 rfl (lv_at hl 1 rfl) ?_
        refine x_getR E h (fr_mo_heap g) rfl hwX12 (by decide) (by decide +kernel) dX12_goOn_18 ?_
        refine lv_iload_n hx hb dX12_goOn_21 rfl (lv_at hl 0 rfl) ?_
        refine x_si E h (na := 2) (As := [.ref (g.2.1 99), .int (nI n6)]) (aX12_heapsIn_0 l g t1 hI_1 n6 (by omega) hp_1) gX12_goOn_X12_heapsIn rfl ⟨rfl, rfl⟩ rfl (by decide +kernel) ⟨Nat.le_of_ble_eq_true rfl, Nat.le_of_ble_eq_true rfl⟩ hl.1 rfl (Nat.le_of_ble_eq_true rfl) dX12_goOn_22 ⟨Nat.le_of_ble_eq_true rfl, Nat.le_of_ble_eq_true rfl⟩ (fun r9 s9 H locs q9 h => ?_)
        obtain ⟨x9, d9, rfl⟩ := q9
        replace hR1 := bd_to hR1 x9
        rcases d9 with ⟨m9_0n, u9_0_0, rfl⟩
        refine lv_icmp_ge (tgt := 65) hx hb dX12_goOn_25 (by decide) (fun c10 => ?_) (fun c10 => ?_)
        · skip
          replace hR1 := it_t hR1 c10
          have b11 : m9_0n ≤ n7 := y_le (a := m9_0n) (b := n7) (by omega) (by omega) c10
          replace hR1 := bd_to hR1 (y_m1 n6)
          refine lv_iinc (v := (nI n6 - 1)) (lv' := [(1, .int (nI n6 - 1)), (0, .ref (g.2.1 79))]) hx hb dX12_goOn_65 hl (k := 0) rfl (y_m1 n6) (by decide) rfl (fun ls hl => ?_)
          refine lv_goto (tgt := 7) hx hb dX12_goOn_68 (by decide) ?_
          exact ih1 t1 n6 hI_1 hF_1 e2 (by omega) hp_1 he_1 hR1 (by omega) _ _ _ h (lv_sub hl [0, 1] rfl)
        · skip
          replace hR1 := it_f hR1 c10
          have b12 : n7 < m9_0n := y_nle (a := m9_0n) (b := n7) (by omega) (by omega) c10
          refine lv_aload_n hx hb dX12_goOn_28 rfl (lv_at hl 1 rfl) ?_
          refine x_getR E h (fr_mo_heap g) rfl hwX12 (by decide) (by decide +kernel) dX12_goOn_29 ?_
          refine lv_iload_n hx hb dX12_goOn_32 rfl (lv_at hl 0 rfl) ?_
          refine lv_dup2_11 hx hb dX12_goOn_33 rfl rfl ?_
          refine x_ldI E h (ia_mo_heap g) (i := nI n6) (vp_in_nI (by omega) (by decide)) (v := nI n7) ((congrArg (t1.2.2 85) (nI_clamp (n := n6) (by omega))).trans e7) dX12_goOn_34 ?_
          replace hR1 := bd_to hR1 ((congrArg (t1.2.2 85) (nI_clamp (n := n6) (by omega))).trans e7)
          refine lv_iconst (v := 1) hx hb dX12_goOn_35 (by decide) ?_
          refine lv_iadd hx hb dX12_goOn_36 ?_
          refine x_topI (v2 := nI (n7 + 1)) (nI_add n7 1) ?_
          replace hR1 := bd_to hR1 (nI_add n7 1)
          refine y_stI E h hI_1 hF_1 (ia_mo_heap g) (i := nI n6) (vp_in_nI (by omega) (by decide)) (j := n6) (nI_clamp (by omega)) (ba_some rfl (Bd.mk (n := (n7 + 1)) (by omega))) rfl dX12_goOn_37 (fun s13 H locs q13 hI13 hF13 h => ?_)
          replace hR1 := st_to hR1 (nI_clamp (n := n6) (by omega)) q13
          have e14 : s13.1 35 = nI F35 := (congrArg (fun t : ST => t.1 35) q13).trans e2
          have a16 := AP.set (Q := HQ) hp_1 (show s13.2.2 85 = upd (t1.2.2 85) n6 (nI (n7 + 1)) from congrArg (fun t : ST => t.2.2 85) q13) (HQ.mk (n := (n7 + 1)) (by omega) (by omega))
          have lo17 := go_lo he_1 (show s13.2.2 85 = upd (t1.2.2 85) n6 (nI (n7 + 1)) from congrArg (fun t : ST => t.2.2 85) q13)
          have tp17 := go_tp he_1 (show s13.2.2 85 = upd (t1.2.2 85) n6 (nI (n7 + 1)) from congrArg (fun t : ST => t.2.2 85) q13) e7 (by omega)
          refine lv_iload_n hx hb dX12_goOn_38 rfl (lv_at hl 0 rfl) ?_
          refine lv_iconst (v := 1) hx hb dX12_goOn_39 (by decide) ?_
          refine lv_iadd hx hb dX12_goOn_40 ?_
          refine x_topI (v2 := nI (n6 + 1)) (nI_add n6 1) ?_
          replace hR1 := bd_to hR1 (nI_add n6 1)
          refine lv_istore_n (lv' := [(2, .int (nI (n6 + 1))), (1, .int (nI n6)), (0, .ref (g.2.1 79))]) hx hb dX12_goOn_41 rfl hl (by decide) rfl (fun ls hl => ?_)
          have loop42_18 : ∀ (fu : Nat) (t18 : ST) (i18_2 : Nat), INV t18 → Fr [] [(85, 85)] σ t18 → t18.1 35 = nI F35 → i18_2 ≤ F35 → n6 < i18_2 → AP (t18.2.2 85) 0 10 HQ → AP (t18.2.2 85) 0 n6 (EQf (σ.2.2 85)) → AP (t18.2.2 85) n6 (n6 + 1) (SQ (σ.2.2 85)) → fX12_goOn_0l42 (fX12_goOn_0l7 fu1) fu (nI i18_2) t18 = R → F35 - i18_2 < fu → ∀ (H : Heap) (locs : List Loc) (ls : Array Slot), HW g t18 s H locs → lv_has ls 3 [(2, .int (nI i18_2)), (1, .int (nI n6)), (0, .ref (g.2.1 79))] → W p l e { frames := 1, cells := 0, slots := 0, locals := 23 } s m args below meth c H locs 0 0 (MQ below PQz args s 0 0 (Aw g)) (F0 m 42 ls []) := by
            intro fu18
            induction fu18 with
            | zero => intro t18 i18_2 hI_18 hF_18 e19 bi18_2 pp18_0 hp_18 lo_18 tp_18 hR18 hm; exact absurd hm (Nat.not_lt_zero _)
            | succ fu18 ih =>
              have ih18 := ih
              clear ih
              intro t18 i18_2 hI_18 hF_18 e19 bi18_2 pp18_0 hp_18 lo_18 tp_18 hR18 hm18 H locs ls h hl
              replace hR18 : fX12_goOn_0b42 (fX12_goOn_0l7 fu1) (fX12_goOn_0l42 (fX12_goOn_0l7 fu1) fu18) (nI i18_2) t18 = R := hR18
              refine lv_iload_n hx hb dX12_goOn_42 rfl (lv_at hl 0 rfl) ?_
              refine lv_aload_n hx hb dX12_goOn_43 rfl (lv_at hl 2 rfl) ?_
              refine x_getI E h (fi_mo_pieces g) rfl hwX12 (by decide) (by decide +kernel) (v := nI F35) e19 dX12_goOn_44 ?_
              replace hR18 := bd_to hR18 e19
              refine lv_icmp_ge (tgt := 63) hx hb dX12_goOn_47 (by decide) (fun c20 => ?_) (fun c20 => ?_)
              · skip
                replace hR18 := it_t hR18 c20
                have b21 : F35 ≤ i18_2 := y_le (a := F35) (b := i18_2) (by omega) (by omega) c20
                refine lv_iconst (v := 1) hx hb dX12_goOn_63 (by decide) ?_
                subst hPQ
                exact x_zret E h rfl ⟨hR0.trans hR18.symm, (Or.inl ⟨rfl, ⟨hp_18, hv_up hHP (fun j hj => lo_18 j (Nat.zero_le _) hj) (tp_18 n6 (Nat.le_refl _) (Nat.lt_succ_self _)) _ (by omega) (by omega)⟩⟩), hI_18, hF_18⟩ dX12_goOn_64
              · skip
                replace hR18 := it_f hR18 c20
                have b22 : i18_2 < F35 := y_nle (a := F35) (b := i18_2) (by omega) (by omega) c20
                refine lv_aload_n hx hb dX12_goOn_50 rfl (lv_at hl 2 rfl) ?_
                refine x_getR E h (fr_mo_heap g) rfl hwX12 (by decide) (by decide +kernel) dX12_goOn_51 ?_
                refine lv_iload_n hx hb dX12_goOn_54 rfl (lv_at hl 0 rfl) ?_
                refine lv_iconst (v := 0) hx hb dX12_goOn_55 (by decide) ?_
                refine y_stI E h hI_18 hF_18 (ia_mo_heap g) (i := nI i18_2) (vp_in_nI (by omega) (by decide)) (j := i18_2) (nI_clamp (by omega)) (ba_some rfl (Bd.mk (n := 0) (by omega))) rfl dX12_goOn_56 (fun s23 H locs q23 hI23 hF23 h => ?_)
                replace hR18 := st_to hR18 (nI_clamp (n := i18_2) (by omega)) q23
                have e24 : s23.1 35 = nI F35 := (congrArg (fun t : ST => t.1 35) q23).trans e19
                have a26 := AP.set (Q := HQ) hp_18 (show s23.2.2 85 = upd (t18.2.2 85) i18_2 (nI 0) from congrArg (fun t : ST => t.2.2 85) q23) (HQ.mk (n := 0) (by omega) (by omega))
                have a28 := AP.keep lo_18 (show s23.2.2 85 = upd (t18.2.2 85) i18_2 0 from congrArg (fun t : ST => t.2.2 85) q23) (by omega)
                have a30 := AP.keep tp_18 (show s23.2.2 85 = upd (t18.2.2 85) i18_2 0 from congrArg (fun t : ST => t.2.2 85) q23) (by omega)
                replace hR18 := bd_to hR18 (nI_add i18_2 1)
                refine lv_iinc (v := (nI (i18_2 + 1))) (lv' := [(2, .int (nI (i18_2 + 1))), (1, .int (nI n6)), (0, .ref (g.2.1 79))]) hx hb dX12_goOn_57 hl (k := 0) rfl (nI_add i18_2 1) (by decide) rfl (fun ls hl => ?_)
                refine lv_goto (tgt := 42) hx hb dX12_goOn_60 (by decide) ?_
                exact ih18 s23 (i18_2 + 1) hI23 hF23 e24 (by omega) (by omega) a26 a28 a30 hR18 (by omega) _ _ _ h (lv_sub hl [0, 1, 2] rfl)
          exact loop42_18 4096 s13 (n6 + 1) hI13 hF13 e14 (by omega) (by omega) a16 lo17 tp17 hR1 (by omega) _ _ _ h (lv_sub hl [0, 1, 2] rfl)
  exact loop7_1 4096 σ F35 hI hF eF35 (by omega) hHP rfl (by first | exact hR | (rw [nI_pred]; exact hR)) (by omega) _ _ _ h (lv_sub hl [0, 1] rfl)
set_option maxHeartbeats 4000000 in
set_option maxRecDepth 100000 in
theorem aX12_findBest_0 (l : Launch) (g : CX) (σ : ST) (hI : INV σ)  : XM l g yX12_findBest wsX12_findBest { frames := 4, cells := 0, slots := 0, locals := 95 } [.ref (g.2.1 79)] σ (XQi g (fun r σ' => fX12_findBest_0 σ = (r, σ') ∧ ((1 = r ∧ ∃ P R : Nat, σ'.1 35 = nI P ∧ σ'.1 31 = nI R ∧ R ≤ 48 ∧ P ≤ 9 ∧ AP (σ'.2.2 77) 0 R (PQ P) ∧ P = FPn (σ.2.2 68) (σ.2.2 69) (σ.2.2 70) (σ.2.2 66) R) ∨ (0 = r)) ∧ INV σ' ∧ Fr [(35, 39)] [(75, 86), (88, 88)] σ σ')) := by
  refine x_met (own := RX12) (cc := cX12_findBest) (maxL := 5) (ret := (some .boolean)) (lv := [(0, .ref (g.2.1 79))]) (by decide) rfl rfl (Nat.le_of_ble_eq_true rfl) rfl ?_
  intro p e s m args below meth c ls E h hl
  have hx := E.1
  have hb := E.2.1
  have hown := E.2.2.2.1
  have hts := E.2.2.2.2.1
  have hF : Fr [(35, 39)] [(75, 86), (88, 88)] σ σ := Fr.refl σ
  obtain ⟨R, hR0⟩ : ∃ R, fX12_findBest_0 σ = R := ⟨_, rfl⟩
  have hR : fX12_findBest_0b0 σ = R := hR0
  have hwX12 : ∀ w ∈ wsX120, w ∈ wsX12_findBest := by decide +kernel
  generalize hPQ : XQi g (fun r σ' => fX12_findBest_0 σ = (r, σ') ∧ ((1 = r ∧ ∃ P R : Nat, σ'.1 35 = nI P ∧ σ'.1 31 = nI R ∧ R ≤ 48 ∧ P ≤ 9 ∧ AP (σ'.2.2 77) 0 R (PQ P) ∧ P = FPn (σ.2.2 68) (σ.2.2 69) (σ.2.2 70) (σ.2.2 66) R) ∨ (0 = r)) ∧ INV σ' ∧ Fr [(35, 39)] [(75, 86), (88, 88)] σ σ') = PQz
  refine lv_aload_n hx hb dX12_findBest_0 rfl (lv_at hl 0 rfl) ?_
  refine x_vv E h (na := 0) (As := []) (aX12_findPieces_0 l g σ hI) (oc_mo g) rfl gX12_findBest_X12_findPieces rfl ⟨rfl, rfl⟩ rfl (by decide +kernel) ⟨Nat.le_of_ble_eq_true rfl, Nat.le_of_ble_eq_true rfl⟩ hl.1 rfl (Nat.le_of_ble_eq_true rfl) dX12_findBest_1 ⟨Nat.le_of_ble_eq_true rfl, Nat.le_of_ble_eq_true rfl⟩ (fun s1 H locs q1 h => ?_)
  obtain ⟨x1, d1, hI1, f1⟩ := q1
  replace hR := bd_to hR x1
  have hF1 := hF.call f1 (I := [(35, 39)]) (J := [(75, 86), (88, 88)]) rfl rfl
  have a2 : s1.2.2 68 = σ.2.2 68 := (f1.2 68 rfl).trans rfl
  have a3 : s1.2.2 69 = σ.2.2 69 := (f1.2 69 rfl).trans rfl
  have a4 : s1.2.2 70 = σ.2.2 70 := (f1.2 70 rfl).trans rfl
  have a5 : s1.2.2 66 = σ.2.2 66 := (f1.2 66 rfl).trans rfl
  rcases d1 with ⟨m1_0P, m1_0R, u1_0_0, u1_0_1, u1_0_2, u1_0_3, u1_0_4, u1_0_5⟩
  have fp6 : m1_0P = FPn (σ.2.2 68) (σ.2.2 69) (σ.2.2 70) (σ.2.2 66) m1_0R := u1_0_5
  refine lv_aload_n hx hb dX12_findBest_4 rfl (lv_at hl 0 rfl) ?_
  refine x_getI E h (fi_mo_pieces g) rfl hwX12 (by decide) (by decide +kernel) (v := nI m1_0P) u1_0_0 dX12_findBest_5 ?_
  replace hR := bd_to hR u1_0_0
  refine lv_bipush (v := 9) hx hb dX12_findBest_8 (by decide) ?_
  refine lv_icmp_le (tgt := 15) hx hb dX12_findBest_10 (by decide) (fun c7 => ?_) (fun c7 => ?_)
  · skip
    replace hR := it_t hR c7
    have b8 : m1_0P ≤ 9 := y_le (a := m1_0P) (b := 9) (by omega) (by omega) c7
    refine lv_aload_n hx hb dX12_findBest_15 rfl (lv_at hl 0 rfl) ?_
    refine x_vv E h (na := 0) (As := []) (aX12_findGains_0 l g s1 hI1 m1_0P u1_0_0 (by omega)) (oc_mo g) rfl gX12_findBest_X12_findGains rfl ⟨rfl, rfl⟩ rfl (by decide +kernel) ⟨Nat.le_of_ble_eq_true rfl, Nat.le_of_ble_eq_true rfl⟩ hl.1 rfl (Nat.le_of_ble_eq_true rfl) dX12_findBest_16 ⟨Nat.le_of_ble_eq_true rfl, Nat.le_of_ble_eq_true rfl⟩ (fun s9 H locs q9 h => ?_)
    obtain ⟨x9, hI9, f9⟩ := q9
    replace hR := bd_to hR x9
    have hF9 := hF1.call f9 (I := [(35, 39)]) (J := [(75, 86), (88, 88)]) rfl rfl
    have e10 : s9.1 35 = nI m1_0P := ((f9.1 35 rfl)).trans u1_0_0
    have e11 : s9.1 31 = nI m1_0R := ((f9.1 31 rfl)).trans u1_0_1
    have a12 : s9.2.2 68 = σ.2.2 68 := (f9.2 68 rfl).trans a2
    have a13 : s9.2.2 69 = σ.2.2 69 := (f9.2 69 rfl).trans a3
    have a14 : s9.2.2 70 = σ.2.2 70 := (f9.2 70 rfl).trans a4
    have a15 : s9.2.2 66 = σ.2.2 66 := (f9.2 66 rfl).trans a5
    have a16 := AP.eq u1_0_4 (f9.2 77 rfl)
    refine lv_aload_n hx hb dX12_findBest_19 rfl (lv_at hl 0 rfl) ?_
    refine x_vv E h (na := 0) (As := []) (aX12_begin_0 l g s9 hI9) (oc_mo g) rfl gX12_findBest_X12_begin rfl ⟨rfl, rfl⟩ rfl (by decide +kernel) ⟨Nat.le_of_ble_eq_true rfl, Nat.le_of_ble_eq_true rfl⟩ hl.1 rfl (Nat.le_of_ble_eq_true rfl) dX12_findBest_20 ⟨Nat.le_of_ble_eq_true rfl, Nat.le_of_ble_eq_true rfl⟩ (fun s17 H locs q17 h => ?_)
    obtain ⟨x17, d17, hI17, f17⟩ := q17
    replace hR := bd_to hR x17
    have hF17 := hF9.call f17 (I := [(35, 39)]) (J := [(75, 86), (88, 88)]) rfl rfl
    have e18 : s17.1 35 = nI m1_0P := ((f17.1 35 rfl)).trans e10
    have e19 : s17.1 31 = nI m1_0R := ((f17.1 31 rfl)).trans e11
    have a20 : s17.2.2 68 = σ.2.2 68 := (f17.2 68 rfl).trans a12
    have a21 : s17.2.2 69 = σ.2.2 69 := (f17.2 69 rfl).trans a13
    have a22 : s17.2.2 70 = σ.2.2 70 := (f17.2 70 rfl).trans a14
    have a23 : s17.2.2 66 = σ.2.2 66 := (f17.2 66 rfl).trans a15
    have a24 := AP.eq a16 (f17.2 77 rfl)
    have u17_0_0 := d17
    refine lv_iconst (v := 1) hx hb dX12_findBest_23 (by decide) ?_
    refine lv_istore_n (lv' := [(1, .int 1), (0, .ref (g.2.1 79))]) hx hb dX12_findBest_24 rfl hl (by decide) rfl (fun ls hl => ?_)
    refine lv_iconst (v := 0) hx hb dX12_findBest_25 (by decide) ?_
    refine lv_istore_n (lv' := [(2, .int 0), (1, .int 1), (0, .ref (g.2.1 79))]) hx hb dX12_findBest_26 rfl hl (by decide) rfl (fun ls hl => ?_)
    have loop27_25 : ∀ (fu : Nat) (t25 : ST) (i25_2 : Int32) (i25_1 : Int32), INV t25 → Fr [(35, 39)] [(75, 86), (88, 88)] σ t25 → t25.1 35 = nI m1_0P → t25.1 31 = nI m1_0R → AP (t25.2.2 85) 0 10 HQ → AP (t25.2.2 77) 0 m1_0R (PQ m1_0P) → fX12_findBest_0l27 fu i25_1 i25_2 t25 = R → 1000000000 - hv (t25.2.2 85) m1_0P + 1 < fu → ∀ (H : Heap) (locs : List Loc) (ls : Array Slot), HW g t25 s H locs → lv_has ls 5 [(2, .int i25_2), (1, .int i25_1), (0, .ref (g.2.1 79))] → W p l e { frames := 4, cells := 0, slots := 0, locals := 95 } s m args below meth c H locs 0 0 (MQ below PQz args s 0 0 (Aw g)) (F0 m 27 ls []) := by
      intro fu25
      induction fu25 with
      | zero => intro t25 i25_2 i25_1 hI_25 hF_25 e26 e27 hp_25 po_25 hR25 hm; exact absurd hm (Nat.not_lt_zero _)
      | succ fu25 ih =>
        have ih25 := ih
        clear ih
        intro t25 i25_2 i25_1 hI_25 hF_25 e26 e27 hp_25 po_25 hR25 hm25 H locs ls h hl
        replace hR25 : fX12_findBest_0b27 (fX12_findBest_0l27 fu25) i25_1 i25_2 t25 = R := hR25
        refine lv_iload_n hx hb dX12_findBest_27 rfl (lv_at hl 1 rfl) ?_
        refine lv_if_eq (tgt := 99) hx hb dX12_findBest_28 (by decide) (fun c28 => ?_) (fun c28 => ?_)
        · skip
          replace hR25 := it_t hR25 c28
          subst c28
          refine lv_iconst (v := 1) hx hb dX12_findBest_99 (by decide) ?_
          subst hPQ
          exact x_zret E h rfl ⟨hR0.trans hR25.symm, (Or.inl ⟨rfl, m1_0P, m1_0R, e26, e27, (by omega), (by omega), (AP.sub po_25 (by omega)), fp6⟩), hI_25, hF_25⟩ dX12_findBest_100
        · skip
          replace hR25 := it_f hR25 c28
          refine lv_aload_n hx hb dX12_findBest_31 rfl (lv_at hl 2 rfl) ?_
          refine lv_aload_n hx hb dX12_findBest_32 rfl (lv_at hl 2 rfl) ?_
          refine x_getR E h (fr_mo_heap g) rfl hwX12 (by decide) (by decide +kernel) dX12_findBest_33 ?_
          refine x_vi E h (na := 1) (As := [.ref (g.2.1 99)]) (aX12_worthOf_0 l g t25 hI_25 m1_0P e26 (by omega)) (oc_mo g) rfl gX12_findBest_X12_worthOf rfl ⟨rfl, rfl⟩ rfl (by decide +kernel) ⟨Nat.le_of_ble_eq_true rfl, Nat.le_of_ble_eq_true rfl⟩ hl.1 rfl (Nat.le_of_ble_eq_true rfl) dX12_findBest_36 ⟨Nat.le_of_ble_eq_true rfl, Nat.le_of_ble_eq_true rfl⟩ (fun r31 s31 H locs q31 h => ?_)
          obtain ⟨x31, rfl⟩ := q31
          replace hR25 := bd_to hR25 x31
          refine lv_istore_n (lv' := [(3, .int r31), (2, .int i25_2), (1, .int i25_1), (0, .ref (g.2.1 79))]) hx hb dX12_findBest_39 rfl hl (by decide) rfl (fun ls hl => ?_)
          refine lv_iload_n hx hb dX12_findBest_40 rfl (lv_at hl 1 rfl) ?_
          refine lv_if_eq (tgt := 52) hx hb dX12_findBest_41 (by decide) (fun c32 => ?_) (fun c32 => ?_)
          · skip
            replace hR25 := it_t hR25 c32
            subst c32
            refine lv_aload_n hx hb dX12_findBest_52 rfl (lv_at hl 3 rfl) ?_
            refine lv_iload_n hx hb dX12_findBest_53 rfl (lv_at hl 0 rfl) ?_
            refine y_putI E h hI_25 hF_25 (ty := .int) (v := r31) (fi_mo_bestWorth g) rfl hwX12 tyX12_ok nmX12 (by decide) (by decide +kernel) (by decide +kernel) (by decide +kernel) rfl rfl (ba_none rfl) rfl dX12_findBest_54 (fun s34 H locs q34 hI34 hF34 h => ?_)
            replace hR25 := bd_to hR25 q34.symm
            have e35 : s34.1 35 = nI m1_0P := (congrArg (fun t : ST => t.1 35) q34).trans e26
            have e36 : s34.1 31 = nI m1_0R := (congrArg (fun t : ST => t.1 31) q34).trans e27
            have e37 : s34.1 39 = r31 := congrArg (fun t : ST => t.1 39) q34
            have a38 := AP.eq hp_25 (show s34.2.2 85 = t25.2.2 85 from (congrArg (fun t : ST => t.2.2 85) q34).trans rfl)
            have a39 := AP.eq po_25 (show s34.2.2 77 = t25.2.2 77 from (congrArg (fun t : ST => t.2.2 77) q34).trans rfl)
            have a40 : s34.2.2 85 = t25.2.2 85 := (show s34.2.2 85 = t25.2.2 85 from (congrArg (fun t : ST => t.2.2 85) q34).trans rfl).trans rfl
            refine lv_iconst (v := 0) hx hb dX12_findBest_57 (by decide) ?_
            refine lv_istore (lv' := [(4, .int 0), (3, .int r31), (2, .int 0), (1, .int i25_1), (0, .ref (g.2.1 79))]) hx hb dX12_findBest_58 hl (by decide) rfl (fun ls hl => ?_)
            have loop60_41 : ∀ (fu : Nat) (t41 : ST) (i41_4 : Nat), INV t41 → Fr [(35, 39)] [(75, 86), (88, 88)] σ t41 → t41.1 35 = nI m1_0P → t41.1 31 = nI m1_0R → t41.1 39 = r31 → i41_4 ≤ m1_0P → AP (t41.2.2 85) 0 10 HQ → t41.2.2 85 = t25.2.2 85 → AP (t41.2.2 77) 0 m1_0R (PQ m1_0P) → fX12_findBest_0l60 (fX12_findBest_0l27 fu25) fu (nI i41_4) t41 = R → m1_0P - i41_4 < fu → ∀ (H : Heap) (locs : List Loc) (ls : Array Slot), HW g t41 s H locs → lv_has ls 5 [(4, .int (nI i41_4)), (3, .int r31), (2, .int 0), (1, .int i25_1), (0, .ref (g.2.1 79))] → W p l e { frames := 4, cells := 0, slots := 0, locals := 95 } s m args below meth c H locs 0 0 (MQ below PQz args s 0 0 (Aw g)) (F0 m 60 ls []) := by
              intro fu41
              induction fu41 with
              | zero => intro t41 i41_4 hI_41 hF_41 e42 e43 e44 bi41_4 hp_41 hb_41 po_41 hR41 hm; exact absurd hm (Nat.not_lt_zero _)
              | succ fu41 ih =>
                have ih41 := ih
                clear ih
                intro t41 i41_4 hI_41 hF_41 e42 e43 e44 bi41_4 hp_41 hb_41 po_41 hR41 hm41 H locs ls h hl
                replace hR41 : fX12_findBest_0b60 (fX12_findBest_0l27 fu25) (fX12_findBest_0l60 (fX12_findBest_0l27 fu25) fu41) (nI i41_4) t41 = R := hR41
                refine lv_iload hx hb dX12_findBest_60 (lv_at hl 0 rfl) ?_
                refine lv_aload_n hx hb dX12_findBest_62 rfl (lv_at hl 4 rfl) ?_
                refine x_getI E h (fi_mo_pieces g) rfl hwX12 (by decide) (by decide +kernel) (v := nI m1_0P) e42 dX12_findBest_63 ?_
                replace hR41 := bd_to hR41 e42
                refine lv_icmp_ge (tgt := 89) hx hb dX12_findBest_66 (by decide) (fun c45 => ?_) (fun c45 => ?_)
                · skip
                  replace hR41 := it_t hR41 c45
                  have b46 : m1_0P ≤ i41_4 := y_le (a := m1_0P) (b := i41_4) (by omega) (by omega) c45
                  refine lv_iconst (v := 1) hx hb dX12_findBest_89 (by decide) ?_
                  refine lv_istore_n (lv' := [(2, .int 1), (4, .int (nI i41_4)), (3, .int r31), (1, .int i25_1), (0, .ref (g.2.1 79))]) hx hb dX12_findBest_90 rfl hl (by decide) rfl (fun ls hl => ?_)
                  refine lv_aload_n hx hb dX12_findBest_91 rfl (lv_at hl 4 rfl) ?_
                  refine x_vi E h (na := 0) (As := []) (aX12_goOn_0 l g t41 hI_41 m1_0P e42 (by omega) hp_41) (oc_mo g) rfl gX12_findBest_X12_goOn rfl ⟨rfl, rfl⟩ rfl (by decide +kernel) ⟨Nat.le_of_ble_eq_true rfl, Nat.le_of_ble_eq_true rfl⟩ hl.1 rfl (Nat.le_of_ble_eq_true rfl) dX12_findBest_92 ⟨Nat.le_of_ble_eq_true rfl, Nat.le_of_ble_eq_true rfl⟩ (fun r47 s47 H locs q47 h => ?_)
                  obtain ⟨x47, d47, hI47, f47⟩ := q47
                  replace hR41 := bp_to hR41 x47
                  have hF47 := hF_41.call f47 (I := [(35, 39)]) (J := [(75, 86), (88, 88)]) rfl rfl
                  have e48 : s47.1 35 = nI m1_0P := ((f47.1 35 rfl)).trans e42
                  have e49 : s47.1 31 = nI m1_0R := ((f47.1 31 rfl)).trans e43
                  have e50 : s47.1 39 = r31 := ((f47.1 39 rfl)).trans e44
                  have a52 := AP.eq po_41 (f47.2 77 rfl)
                  rcases d47 with ⟨rfl, u47_0_0⟩ | rfl
                  · skip
                    have u53 : hv (t25.2.2 85) m1_0P < hv (s47.2.2 85) m1_0P := by have h9 := u47_0_0.2; rw [hb_41] at h9; exact h9
                    refine lv_istore_n (lv' := [(1, .int 1), (2, .int 1), (4, .int (nI i41_4)), (3, .int r31), (0, .ref (g.2.1 79))]) hx hb dX12_findBest_95 rfl hl (by decide) rfl (fun ls hl => ?_)
                    refine lv_goto (tgt := 27) hx hb dX12_findBest_96 (by decide) ?_
                    exact ih25 s47 1 1 hI47 hF47 e48 e49 u47_0_0.1 a52 hR41 (by have h1 := u53; have h2 := hv_bd u47_0_0.1 (P := m1_0P) (by omega); have h3 := hm25; omega) _ _ _ h (lv_sub hl [1, 0, 4] rfl)
                  · skip
                    refine lv_istore_n (lv' := [(1, .int 0), (2, .int 1), (4, .int (nI i41_4)), (3, .int r31), (0, .ref (g.2.1 79))]) hx hb dX12_findBest_95 rfl hl (by decide) rfl (fun ls hl => ?_)
                    refine lv_goto (tgt := 27) hx hb dX12_findBest_96 (by decide) ?_
                    obtain ⟨fu54, rfl⟩ : ∃ z, fu25 = z + 1 := ⟨fu25 - 1, by omega⟩
                    replace hR41 : fX12_findBest_0b27 (fX12_findBest_0l27 fu54) 0 1 s47 = R := hR41
                    refine lv_iload_n hx hb dX12_findBest_27 rfl (lv_at hl 0 rfl) ?_
                    replace hR41 := it_t hR41 (by decide)
                    refine lv_if_eq (tgt := 99) hx hb dX12_findBest_28 (by decide) (fun _ => ?_) (fun c => absurd (by decide) c)
                    refine lv_iconst (v := 1) hx hb dX12_findBest_99 (by decide) ?_
                    subst hPQ
                    exact x_zret E h rfl ⟨hR0.trans hR41.symm, (Or.inl ⟨rfl, m1_0P, m1_0R, e48, e49, (by omega), (by omega), (AP.sub a52 (by omega)), fp6⟩), hI47, hF47⟩ dX12_findBest_100
                · skip
                  replace hR41 := it_f hR41 c45
                  have b55 : i41_4 < m1_0P := y_nle (a := m1_0P) (b := i41_4) (by omega) (by omega) c45
                  refine lv_aload_n hx hb dX12_findBest_69 rfl (lv_at hl 4 rfl) ?_
                  refine x_getR E h (fr_mo_best g) rfl hwX12 (by decide) (by decide +kernel) dX12_findBest_70 ?_
                  refine lv_iload hx hb dX12_findBest_73 (lv_at hl 0 rfl) ?_
                  refine lv_aload_n hx hb dX12_findBest_75 rfl (lv_at hl 4 rfl) ?_
                  refine x_getR E h (fr_mo_heap g) rfl hwX12 (by decide) (by decide +kernel) dX12_findBest_76 ?_
                  refine lv_iload hx hb dX12_findBest_79 (lv_at hl 0 rfl) ?_
                  obtain ⟨n56, b56, e56⟩ := hI_41.2 85 8 rfl i41_4
                  have b57 := HQ.le (hp_41 i41_4 (Nat.zero_le _) (by omega)) e56 (by omega)
                  refine x_ldI E h (ia_mo_heap g) (i := nI i41_4) (vp_in_nI (by omega) (by decide)) (v := nI n56) ((congrArg (t41.2.2 85) (nI_clamp (n := i41_4) (by omega))).trans e56) dX12_findBest_81 ?_
                  replace hR41 := bd_to hR41 ((congrArg (t41.2.2 85) (nI_clamp (n := i41_4) (by omega))).trans e56)
                  refine y_stI E h hI_41 hF_41 (ia_mo_best g) (i := nI i41_4) (vp_in_nI (by omega) (by decide)) (j := i41_4) (nI_clamp (by omega)) (ba_some rfl (Bd.mk (n := n56) (by omega))) rfl dX12_findBest_82 (fun s58 H locs q58 hI58 hF58 h => ?_)
                  replace hR41 := st_to hR41 (nI_clamp (n := i41_4) (by omega)) q58
                  have e59 : s58.1 35 = nI m1_0P := (congrArg (fun t : ST => t.1 35) q58).trans e42
                  have e60 : s58.1 31 = nI m1_0R := (congrArg (fun t : ST => t.1 31) q58).trans e43
                  have e61 : s58.1 39 = r31 := (congrArg (fun t : ST => t.1 39) q58).trans e44
                  have a62 := AP.eq hp_41 (show s58.2.2 85 = t41.2.2 85 from (congrArg (fun t : ST => t.2.2 85) q58).trans rfl)
                  have a63 : s58.2.2 85 = t25.2.2 85 := (show s58.2.2 85 = t41.2.2 85 from (congrArg (fun t : ST => t.2.2 85) q58).trans rfl).trans hb_41
                  have a64 := AP.eq po_41 (show s58.2.2 77 = t41.2.2 77 from (congrArg (fun t : ST => t.2.2 77) q58).trans rfl)
                  replace hR41 := bd_to hR41 (nI_add i41_4 1)
                  refine lv_iinc (v := (nI (i41_4 + 1))) (lv' := [(4, .int (nI (i41_4 + 1))), (3, .int r31), (2, .int 0), (1, .int i25_1), (0, .ref (g.2.1 79))]) hx hb dX12_findBest_83 hl (k := 0) rfl (nI_add i41_4 1) (by decide) rfl (fun ls hl => ?_)
                  refine lv_goto (tgt := 60) hx hb dX12_findBest_86 (by decide) ?_
                  exact ih41 s58 (i41_4 + 1) hI58 hF58 e59 e60 e61 (by omega) a62 a63 a64 hR41 (by omega) _ _ _ h (lv_sub hl [0, 1, 2, 3, 4] rfl)
            exact loop60_41 4096 s34 0 hI34 hF34 e35 e36 e37 (Nat.zero_le _) a38 a40 a39 hR25 (by omega) _ _ _ h (lv_sub hl [0, 1, 2, 3, 4] rfl)
          · skip
            replace hR25 := it_f hR25 c32
            refine lv_iload_n hx hb dX12_findBest_44 rfl (lv_at hl 0 rfl) ?_
            refine lv_aload_n hx hb dX12_findBest_45 rfl (lv_at hl 3 rfl) ?_
            obtain ⟨x66, e66⟩ : ∃ x, t25.1 39 = x := ⟨_, rfl⟩
            refine x_getI E h (fi_mo_bestWorth g) rfl hwX12 (by decide) (by decide +kernel) (v := x66) e66 dX12_findBest_46 ?_
            replace hR25 := bd_to hR25 e66
            refine lv_icmp_le (tgt := 89) hx hb dX12_findBest_49 (by decide) (fun c67 => ?_) (fun c67 => ?_)
            · skip
              replace hR25 := it_t hR25 c67
              refine lv_iconst (v := 1) hx hb dX12_findBest_89 (by decide) ?_
              refine lv_istore_n (lv' := [(2, .int 1), (3, .int r31), (1, .int i25_1), (0, .ref (g.2.1 79))]) hx hb dX12_findBest_90 rfl hl (by decide) rfl (fun ls hl => ?_)
              refine lv_aload_n hx hb dX12_findBest_91 rfl (lv_at hl 3 rfl) ?_
              refine x_vi E h (na := 0) (As := []) (aX12_goOn_0 l g t25 hI_25 m1_0P e26 (by omega) hp_25) (oc_mo g) rfl gX12_findBest_X12_goOn rfl ⟨rfl, rfl⟩ rfl (by decide +kernel) ⟨Nat.le_of_ble_eq_true rfl, Nat.le_of_ble_eq_true rfl⟩ hl.1 rfl (Nat.le_of_ble_eq_true rfl) dX12_findBest_92 ⟨Nat.le_of_ble_eq_true rfl, Nat.le_of_ble_eq_true rfl⟩ (fun r69 s69 H locs q69 h => ?_)
              obtain ⟨x69, d69, hI69, f69⟩ := q69
              replace hR25 := bp_to hR25 x69
              have hF69 := hF_25.call f69 (I := [(35, 39)]) (J := [(75, 86), (88, 88)]) rfl rfl
              have e70 : s69.1 35 = nI m1_0P := ((f69.1 35 rfl)).trans e26
              have e71 : s69.1 31 = nI m1_0R := ((f69.1 31 rfl)).trans e27
              have e72 : s69.1 39 = x66 := ((f69.1 39 rfl)).trans e66
              have a74 := AP.eq po_25 (f69.2 77 rfl)
              rcases d69 with ⟨rfl, u69_0_0⟩ | rfl
              · skip
                have u75 : hv (t25.2.2 85) m1_0P < hv (s69.2.2 85) m1_0P := by have h9 := u69_0_0.2; exact h9
                refine lv_istore_n (lv' := [(1, .int 1), (2, .int 1), (3, .int r31), (0, .ref (g.2.1 79))]) hx hb dX12_findBest_95 rfl hl (by decide) rfl (fun ls hl => ?_)
                refine lv_goto (tgt := 27) hx hb dX12_findBest_96 (by decide) ?_
                exact ih25 s69 1 1 hI69 hF69 e70 e71 u69_0_0.1 a74 hR25 (by have h1 := u75; have h2 := hv_bd u69_0_0.1 (P := m1_0P) (by omega); have h3 := hm25; omega) _ _ _ h (lv_sub hl [1, 0, 3] rfl)
              · skip
                refine lv_istore_n (lv' := [(1, .int 0), (2, .int 1), (3, .int r31), (0, .ref (g.2.1 79))]) hx hb dX12_findBest_95 rfl hl (by decide) rfl (fun ls hl => ?_)
                refine lv_goto (tgt := 27) hx hb dX12_findBest_96 (by decide) ?_
                obtain ⟨fu76, rfl⟩ : ∃ z, fu25 = z + 1 := ⟨fu25 - 1, by omega⟩
                replace hR25 : fX12_findBest_0b27 (fX12_findBest_0l27 fu76) 0 1 s69 = R := hR25
                refine lv_iload_n hx hb dX12_findBest_27 rfl (lv_at hl 0 rfl) ?_
                replace hR25 := it_t hR25 (by decide)
                refine lv_if_eq (tgt := 99) hx hb dX12_findBest_28 (by decide) (fun _ => ?_) (fun c => absurd (by decide) c)
                refine lv_iconst (v := 1) hx hb dX12_findBest_99 (by decide) ?_
                subst hPQ
                exact x_zret E h rfl ⟨hR0.trans hR25.symm, (Or.inl ⟨rfl, m1_0P, m1_0R, e70, e71, (by omega), (by omega), (AP.sub a74 (by omega)), fp6⟩), hI69, hF69⟩ dX12_findBest_100
            · skip
              replace hR25 := it_f hR25 c67
              refine lv_aload_n hx hb dX12_findBest_52 rfl (lv_at hl 3 rfl) ?_
              refine lv_iload_n hx hb dX12_findBest_53 rfl (lv_at hl 0 rfl) ?_
              refine y_putI E h hI_25 hF_25 (ty := .int) (v := r31) (fi_mo_bestWorth g) rfl hwX12 tyX12_ok nmX12 (by decide) (by decide +kernel) (by decide +kernel) (by decide +kernel) rfl rfl (ba_none rfl) rfl dX12_findBest_54 (fun s78 H locs q78 hI78 hF78 h => ?_)
              replace hR25 := bd_to hR25 q78.symm
              have e79 : s78.1 35 = nI m1_0P := (congrArg (fun t : ST => t.1 35) q78).trans e26
              have e80 : s78.1 31 = nI m1_0R := (congrArg (fun t : ST => t.1 31) q78).trans e27
              have e81 : s78.1 39 = r31 := congrArg (fun t : ST => t.1 39) q78
              have a82 := AP.eq hp_25 (show s78.2.2 85 = t25.2.2 85 from (congrArg (fun t : ST => t.2.2 85) q78).trans rfl)
              have a83 := AP.eq po_25 (show s78.2.2 77 = t25.2.2 77 from (congrArg (fun t : ST => t.2.2 77) q78).trans rfl)
              have a84 : s78.2.2 85 = t25.2.2 85 := (show s78.2.2 85 = t25.2.2 85 from (congrArg (fun t : ST => t.2.2 85) q78).trans rfl).trans rfl
              refine lv_iconst (v := 0) hx hb dX12_findBest_57 (by decide) ?_
              refine lv_istore (lv' := [(4, .int 0), (3, .int r31), (2, .int i25_2), (1, .int i25_1), (0, .ref (g.2.1 79))]) hx hb dX12_findBest_58 hl (by decide) rfl (fun ls hl => ?_)
              have loop60_85 : ∀ (fu : Nat) (t85 : ST) (i85_4 : Nat), INV t85 → Fr [(35, 39)] [(75, 86), (88, 88)] σ t85 → t85.1 35 = nI m1_0P → t85.1 31 = nI m1_0R → t85.1 39 = r31 → i85_4 ≤ m1_0P → AP (t85.2.2 85) 0 10 HQ → t85.2.2 85 = t25.2.2 85 → AP (t85.2.2 77) 0 m1_0R (PQ m1_0P) → fX12_findBest_0l60 (fX12_findBest_0l27 fu25) fu (nI i85_4) t85 = R → m1_0P - i85_4 < fu → ∀ (H : Heap) (locs : List Loc) (ls : Array Slot), HW g t85 s H locs → lv_has ls 5 [(4, .int (nI i85_4)), (3, .int r31), (2, .int i25_2), (1, .int i25_1), (0, .ref (g.2.1 79))] → W p l e { frames := 4, cells := 0, slots := 0, locals := 95 } s m args below meth c H locs 0 0 (MQ below PQz args s 0 0 (Aw g)) (F0 m 60 ls []) := by
                intro fu85
                induction fu85 with
                | zero => intro t85 i85_4 hI_85 hF_85 e86 e87 e88 bi85_4 hp_85 hb_85 po_85 hR85 hm; exact absurd hm (Nat.not_lt_zero _)
                | succ fu85 ih =>
                  have ih85 := ih
                  clear ih
                  intro t85 i85_4 hI_85 hF_85 e86 e87 e88 bi85_4 hp_85 hb_85 po_85 hR85 hm85 H locs ls h hl
                  replace hR85 : fX12_findBest_0b60 (fX12_findBest_0l27 fu25) (fX12_findBest_0l60 (fX12_findBest_0l27 fu25) fu85) (nI i85_4) t85 = R := hR85
                  refine lv_iload hx hb dX12_findBest_60 (lv_at hl 0 rfl) ?_
                  refine lv_aload_n hx hb dX12_findBest_62 rfl (lv_at hl 4 rfl) ?_
                  refine x_getI E h (fi_mo_pieces g) rfl hwX12 (by decide) (by decide +kernel) (v := nI m1_0P) e86 dX12_findBest_63 ?_
                  replace hR85 := bd_to hR85 e86
                  refine lv_icmp_ge (tgt := 89) hx hb dX12_findBest_66 (by decide) (fun c89 => ?_) (fun c89 => ?_)
                  · skip
                    replace hR85 := it_t hR85 c89
                    have b90 : m1_0P ≤ i85_4 := y_le (a := m1_0P) (b := i85_4) (by omega) (by omega) c89
                    refine lv_iconst (v := 1) hx hb dX12_findBest_89 (by decide) ?_
                    refine lv_istore_n (lv' := [(2, .int 1), (4, .int (nI i85_4)), (3, .int r31), (1, .int i25_1), (0, .ref (g.2.1 79))]) hx hb dX12_findBest_90 rfl hl (by decide) rfl (fun ls hl => ?_)
                    refine lv_aload_n hx hb dX12_findBest_91 rfl (lv_at hl 4 rfl) ?_
                    refine x_vi E h (na := 0) (As := []) (aX12_goOn_0 l g t85 hI_85 m1_0P e86 (by omega) hp_85) (oc_mo g) rfl gX12_findBest_X12_goOn rfl ⟨rfl, rfl⟩ rfl (by decide +kernel) ⟨Nat.le_of_ble_eq_true rfl, Nat.le_of_ble_eq_true rfl⟩ hl.1 rfl (Nat.le_of_ble_eq_true rfl) dX12_findBest_92 ⟨Nat.le_of_ble_eq_true rfl, Nat.le_of_ble_eq_true rfl⟩ (fun r91 s91 H locs q91 h => ?_)
                    obtain ⟨x91, d91, hI91, f91⟩ := q91
                    replace hR85 := bp_to hR85 x91
                    have hF91 := hF_85.call f91 (I := [(35, 39)]) (J := [(75, 86), (88, 88)]) rfl rfl
                    have e92 : s91.1 35 = nI m1_0P := ((f91.1 35 rfl)).trans e86
                    have e93 : s91.1 31 = nI m1_0R := ((f91.1 31 rfl)).trans e87
                    have e94 : s91.1 39 = r31 := ((f91.1 39 rfl)).trans e88
                    have a96 := AP.eq po_85 (f91.2 77 rfl)
                    rcases d91 with ⟨rfl, u91_0_0⟩ | rfl
                    · skip
                      have u97 : hv (t25.2.2 85) m1_0P < hv (s91.2.2 85) m1_0P := by have h9 := u91_0_0.2; rw [hb_85] at h9; exact h9
                      refine lv_istore_n (lv' := [(1, .int 1), (2, .int 1), (4, .int (nI i85_4)), (3, .int r31), (0, .ref (g.2.1 79))]) hx hb dX12_findBest_95 rfl hl (by decide) rfl (fun ls hl => ?_)
                      refine lv_goto (tgt := 27) hx hb dX12_findBest_96 (by decide) ?_
                      exact ih25 s91 1 1 hI91 hF91 e92 e93 u91_0_0.1 a96 hR85 (by have h1 := u97; have h2 := hv_bd u91_0_0.1 (P := m1_0P) (by omega); have h3 := hm25; omega) _ _ _ h (lv_sub hl [1, 0, 4] rfl)
                    · skip
                      refine lv_istore_n (lv' := [(1, .int 0), (2, .int 1), (4, .int (nI i85_4)), (3, .int r31), (0, .ref (g.2.1 79))]) hx hb dX12_findBest_95 rfl hl (by decide) rfl (fun ls hl => ?_)
                      refine lv_goto (tgt := 27) hx hb dX12_findBest_96 (by decide) ?_
                      obtain ⟨fu98, rfl⟩ : ∃ z, fu25 = z + 1 := ⟨fu25 - 1, by omega⟩
                      replace hR85 : fX12_findBest_0b27 (fX12_findBest_0l27 fu98) 0 1 s91 = R := hR85
                      refine lv_iload_n hx hb dX12_findBest_27 rfl (lv_at hl 0 rfl) ?_
                      replace hR85 := it_t hR85 (by decide)
                      refine lv_if_eq (tgt := 99) hx hb dX12_findBest_28 (by decide) (fun _ => ?_) (fun c => absurd (by decide) c)
                      refine lv_iconst (v := 1) hx hb dX12_findBest_99 (by decide) ?_
                      subst hPQ
                      exact x_zret E h rfl ⟨hR0.trans hR85.symm, (Or.inl ⟨rfl, m1_0P, m1_0R, e92, e93, (by omega), (by omega), (AP.sub a96 (by omega)), fp6⟩), hI91, hF91⟩ dX12_findBest_100
                  · skip
                    replace hR85 := it_f hR85 c89
                    have b99 : i85_4 < m1_0P := y_nle (a := m1_0P) (b := i85_4) (by omega) (by omega) c89
                    refine lv_aload_n hx hb dX12_findBest_69 rfl (lv_at hl 4 rfl) ?_
                    refine x_getR E h (fr_mo_best g) rfl hwX12 (by decide) (by decide +kernel) dX12_findBest_70 ?_
                    refine lv_iload hx hb dX12_findBest_73 (lv_at hl 0 rfl) ?_
                    refine lv_aload_n hx hb dX12_findBest_75 rfl (lv_at hl 4 rfl) ?_
                    refine x_getR E h (fr_mo_heap g) rfl hwX12 (by decide) (by decide +kernel) dX12_findBest_76 ?_
                    refine lv_iload hx hb dX12_findBest_79 (lv_at hl 0 rfl) ?_
                    obtain ⟨n100, b100, e100⟩ := hI_85.2 85 8 rfl i85_4
                    have b101 := HQ.le (hp_85 i85_4 (Nat.zero_le _) (by omega)) e100 (by omega)
                    refine x_ldI E h (ia_mo_heap g) (i := nI i85_4) (vp_in_nI (by omega) (by decide)) (v := nI n100) ((congrArg (t85.2.2 85) (nI_clamp (n := i85_4) (by omega))).trans e100) dX12_findBest_81 ?_
                    replace hR85 := bd_to hR85 ((congrArg (t85.2.2 85) (nI_clamp (n := i85_4) (by omega))).trans e100)
                    refine y_stI E h hI_85 hF_85 (ia_mo_best g) (i := nI i85_4) (vp_in_nI (by omega) (by decide)) (j := i85_4) (nI_clamp (by omega)) (ba_some rfl (Bd.mk (n := n100) (by omega))) rfl dX12_findBest_82 (fun s102 H locs q102 hI102 hF102 h => ?_)
                    replace hR85 := st_to hR85 (nI_clamp (n := i85_4) (by omega)) q102
                    have e103 : s102.1 35 = nI m1_0P := (congrArg (fun t : ST => t.1 35) q102).trans e86
                    have e104 : s102.1 31 = nI m1_0R := (congrArg (fun t : ST => t.1 31) q102).trans e87
                    have e105 : s102.1 39 = r31 := (congrArg (fun t : ST => t.1 39) q102).trans e88
                    have a106 := AP.eq hp_85 (show s102.2.2 85 = t85.2.2 85 from (congrArg (fun t : ST => t.2.2 85) q102).trans rfl)
                    have a107 : s102.2.2 85 = t25.2.2 85 := (show s102.2.2 85 = t85.2.2 85 from (congrArg (fun t : ST => t.2.2 85) q102).trans rfl).trans hb_85
                    have a108 := AP.eq po_85 (show s102.2.2 77 = t85.2.2 77 from (congrArg (fun t : ST => t.2.2 77) q102).trans rfl)
                    replace hR85 := bd_to hR85 (nI_add i85_4 1)
                    refine lv_iinc (v := (nI (i85_4 + 1))) (lv' := [(4, .int (nI (i85_4 + 1))), (3, .int r31), (2, .int i25_2), (1, .int i25_1), (0, .ref (g.2.1 79))]) hx hb dX12_findBest_83 hl (k := 0) rfl (nI_add i85_4 1) (by decide) rfl (fun ls hl => ?_)
                    refine lv_goto (tgt := 60) hx hb dX12_findBest_86 (by decide) ?_
                    exact ih85 s102 (i85_4 + 1) hI102 hF102 e103 e104 e105 (by omega) a106 a107 a108 hR85 (by omega) _ _ _ h (lv_sub hl [0, 1, 2, 3, 4] rfl)
              exact loop60_85 4096 s78 0 hI78 hF78 e79 e80 e81 (Nat.zero_le _) a82 a84 a83 hR25 (by omega) _ _ _ h (lv_sub hl [0, 1, 2, 3, 4] rfl)
    exact loop27_25 1000000002 s17 0 1 hI17 hF17 e18 e19 u17_0_0 a24 hR (by omega) _ _ _ h (lv_sub hl [0, 1, 2] rfl)
  · skip
    replace hR := it_f hR c7
    have b109 : 9 < m1_0P := y_nle (a := m1_0P) (b := 9) (by omega) (by omega) c7
    refine lv_iconst (v := 0) hx hb dX12_findBest_13 (by decide) ?_
    subst hPQ
    exact x_zret E h rfl ⟨hR0.trans hR.symm, (Or.inr (rfl)), hI1, hF1⟩ dX12_findBest_14
set_option maxHeartbeats 4000000 in
set_option maxRecDepth 100000 in
theorem aX12_join_0 (l : Launch) (g : CX) (σ : ST) (hI : INV σ) (F35 : Nat) (eF35 : σ.1 35 = nI F35) (hh0 : F35 ≤ 9) : XM l g yX12_join wsX12_join { frames := 0, cells := 0, slots := 0, locals := 0 } [.ref (g.2.1 79)] σ (XQv g (fun σ' => fX12_join_0 σ = σ' ∧ INV σ' ∧ Fr [] [(85, 85), (87, 87)] σ σ')) := by
  refine x_met (own := RX12) (cc := cX12_join) (maxL := 10) (ret := none) (lv := [(0, .ref (g.2.1 79))]) (by decide) rfl rfl (Nat.le_of_ble_eq_true rfl) rfl ?_
  intro p e s m args below meth c ls E h hl
  have hx := E.1
  have hb := E.2.1
  have hown := E.2.2.2.1
  have hts := E.2.2.2.2.1
  have hF : Fr [] [(85, 85), (87, 87)] σ σ := Fr.refl σ
  obtain ⟨R, hR0⟩ : ∃ R, fX12_join_0 σ = R := ⟨_, rfl⟩
  have hR : fX12_join_0b0 σ = R := hR0
  have hwX12 : ∀ w ∈ wsX120, w ∈ wsX12_join := by decide +kernel
  generalize hPQ : XQv g (fun σ' => fX12_join_0 σ = σ' ∧ INV σ' ∧ Fr [] [(85, 85), (87, 87)] σ σ') = PQz
  refine lv_iconst (v := 0) hx hb dX12_join_0 (by decide) ?_
  refine lv_istore_n (lv' := [(1, .int 0), (0, .ref (g.2.1 79))]) hx hb dX12_join_1 rfl hl (by decide) rfl (fun ls hl => ?_)
  have loop2_1 : ∀ (fu : Nat) (t1 : ST) (i1_1 : Nat), INV t1 → Fr [] [(85, 85), (87, 87)] σ t1 → t1.1 35 = nI F35 → i1_1 ≤ F35 → fX12_join_0l2 fu (nI i1_1) t1 = R → F35 - i1_1 < fu → ∀ (H : Heap) (locs : List Loc) (ls : Array Slot), HW g t1 s H locs → lv_has ls 10 [(1, .int (nI i1_1)), (0, .ref (g.2.1 79))] → W p l e { frames := 0, cells := 0, slots := 0, locals := 0 } s m args below meth c H locs 0 0 (MQ below PQz args s 0 0 (Aw g)) (F0 m 2 ls []) := by
    intro fu1
    induction fu1 with
    | zero => intro t1 i1_1 hI_1 hF_1 e2 bi1_1 hR1 hm; exact absurd hm (Nat.not_lt_zero _)
    | succ fu1 ih =>
      have ih1 := ih
      clear ih
      intro t1 i1_1 hI_1 hF_1 e2 bi1_1 hR1 hm1 H locs ls h hl
      replace hR1 : fX12_join_0b2 (fX12_join_0l2 fu1) (nI i1_1) t1 = R := hR1
      refine lv_iload_n hx hb dX12_join_2 rfl (lv_at hl 0 rfl) ?_
      refine lv_aload_n hx hb dX12_join_3 rfl (lv_at hl 1 rfl) ?_
      refine x_getI E h (fi_mo_pieces g) rfl hwX12 (by decide) (by decide +kernel) (v := nI F35) e2 dX12_join_4 ?_
      replace hR1 := bd_to hR1 e2
      refine lv_icmp_ge (tgt := 23) hx hb dX12_join_7 (by decide) (fun c3 => ?_) (fun c3 => ?_)
      · skip
        replace hR1 := it_t hR1 c3
        have b4 : F35 ≤ i1_1 := y_le (a := F35) (b := i1_1) (by omega) (by omega) c3
        refine lv_iconst (v := 1) hx hb dX12_join_23 (by decide) ?_
        refine lv_istore_n (lv' := [(1, .int 1), (0, .ref (g.2.1 79))]) hx hb dX12_join_24 rfl hl (by decide) rfl (fun ls hl => ?_)
        have loop25_5 : ∀ (fu : Nat) (t5 : ST) (i5_1 : Int32), INV t5 → Fr [] [(85, 85), (87, 87)] σ t5 → t5.1 35 = nI F35 → fX12_join_0l25 fu i5_1 t5 = R → fx (t5.2.2 87) F35 + 1 < fu → ∀ (H : Heap) (locs : List Loc) (ls : Array Slot), HW g t5 s H locs → lv_has ls 10 [(1, .int i5_1), (0, .ref (g.2.1 79))] → W p l e { frames := 0, cells := 0, slots := 0, locals := 0 } s m args below meth c H locs 0 0 (MQ below PQz args s 0 0 (Aw g)) (F0 m 25 ls []) := by
          intro fu5
          induction fu5 with
          | zero => intro t5 i5_1 hI_5 hF_5 e6 hR5 hm; exact absurd hm (Nat.not_lt_zero _)
          | succ fu5 ih =>
            have ih5 := ih
            clear ih
            intro t5 i5_1 hI_5 hF_5 e6 hR5 hm5 H locs ls h hl
            replace hR5 : fX12_join_0b25 (fX12_join_0l25 fu5) i5_1 t5 = R := hR5
            refine lv_iload_n hx hb dX12_join_25 rfl (lv_at hl 0 rfl) ?_
            refine lv_if_eq (tgt := 269) hx hb dX12_join_26 (by decide) (fun c7 => ?_) (fun c7 => ?_)
            · skip
              replace hR5 := it_t hR5 c7
              subst c7
              refine lv_iconst (v := 0) hx hb dX12_join_269 (by decide) ?_
              refine lv_istore_n (lv' := [(2, .int 0), (1, .int 0), (0, .ref (g.2.1 79))]) hx hb dX12_join_270 rfl hl (by decide) rfl (fun ls hl => ?_)
              refine lv_iconst (v := 0) hx hb dX12_join_271 (by decide) ?_
              refine lv_istore_n (lv' := [(3, .int 0), (2, .int 0), (1, .int 0), (0, .ref (g.2.1 79))]) hx hb dX12_join_272 rfl hl (by decide) rfl (fun ls hl => ?_)
              have loop273_9 : ∀ (fu : Nat) (t9 : ST) (i9_3 : Nat) (i9_2 : Nat), INV t9 → Fr [] [(85, 85), (87, 87)] σ t9 → t9.1 35 = nI F35 → i9_3 ≤ F35 → i9_2 ≤ i9_3 → fX12_join_0l273 fu (nI i9_2) (nI i9_3) t9 = R → F35 - i9_3 < fu → ∀ (H : Heap) (locs : List Loc) (ls : Array Slot), HW g t9 s H locs → lv_has ls 10 [(3, .int (nI i9_3)), (2, .int (nI i9_2)), (1, .int 0), (0, .ref (g.2.1 79))] → W p l e { frames := 0, cells := 0, slots := 0, locals := 0 } s m args below meth c H locs 0 0 (MQ below PQz args s 0 0 (Aw g)) (F0 m 273 ls []) := by
                intro fu9
                induction fu9 with
                | zero => intro t9 i9_3 i9_2 hI_9 hF_9 e10 bi9_3 bi9_2 hR9 hm; exact absurd hm (Nat.not_lt_zero _)
                | succ fu9 ih =>
                  have ih9 := ih
                  clear ih
                  intro t9 i9_3 i9_2 hI_9 hF_9 e10 bi9_3 bi9_2 hR9 hm9 H locs ls h hl
                  replace hR9 : fX12_join_0b273 (fX12_join_0l273 fu9) (nI i9_2) (nI i9_3) t9 = R := hR9
                  refine lv_iload_n hx hb dX12_join_273 rfl (lv_at hl 0 rfl) ?_
                  refine lv_aload_n hx hb dX12_join_274 rfl (lv_at hl 3 rfl) ?_
                  refine x_getI E h (fi_mo_pieces g) rfl hwX12 (by decide) (by decide +kernel) (v := nI F35) e10 dX12_join_275 ?_
                  replace hR9 := bd_to hR9 e10
                  refine lv_icmp_ge (tgt := 336) hx hb dX12_join_278 (by decide) (fun c11 => ?_) (fun c11 => ?_)
                  · skip
                    replace hR9 := it_t hR9 c11
                    have b12 : F35 ≤ i9_3 := y_le (a := F35) (b := i9_3) (by omega) (by omega) c11
                    refine lv_iconst (v := 0) hx hb dX12_join_336 (by decide) ?_
                    refine lv_istore_n (lv' := [(3, .int 0), (2, .int (nI i9_2)), (1, .int 0), (0, .ref (g.2.1 79))]) hx hb dX12_join_337 rfl hl (by decide) rfl (fun ls hl => ?_)
                    have loop338_13 : ∀ (fu : Nat) (t13 : ST) (i13_3 : Nat), INV t13 → Fr [] [(85, 85), (87, 87)] σ t13 → t13.1 35 = nI F35 → i13_3 ≤ F35 → fX12_join_0l338 fu (nI i13_3) t13 = R → F35 - i13_3 < fu → ∀ (H : Heap) (locs : List Loc) (ls : Array Slot), HW g t13 s H locs → lv_has ls 10 [(3, .int (nI i13_3)), (2, .int (nI i9_2)), (1, .int 0), (0, .ref (g.2.1 79))] → W p l e { frames := 0, cells := 0, slots := 0, locals := 0 } s m args below meth c H locs 0 0 (MQ below PQz args s 0 0 (Aw g)) (F0 m 338 ls []) := by
                      intro fu13
                      induction fu13 with
                      | zero => intro t13 i13_3 hI_13 hF_13 e14 bi13_3 hR13 hm; exact absurd hm (Nat.not_lt_zero _)
                      | succ fu13 ih =>
                        have ih13 := ih
                        clear ih
                        intro t13 i13_3 hI_13 hF_13 e14 bi13_3 hR13 hm13 H locs ls h hl
                        replace hR13 : fX12_join_0b338 (fX12_join_0l338 fu13) (nI i13_3) t13 = R := hR13
                        refine lv_iload_n hx hb dX12_join_338 rfl (lv_at hl 0 rfl) ?_
                        refine lv_aload_n hx hb dX12_join_339 rfl (lv_at hl 3 rfl) ?_
                        refine x_getI E h (fi_mo_pieces g) rfl hwX12 (by decide) (by decide +kernel) (v := nI F35) e14 dX12_join_340 ?_
                        replace hR13 := bd_to hR13 e14
                        refine lv_icmp_ge (tgt := 364) hx hb dX12_join_343 (by decide) (fun c15 => ?_) (fun c15 => ?_)
                        · skip
                          replace hR13 := it_t hR13 c15
                          have b16 : F35 ≤ i13_3 := y_le (a := F35) (b := i13_3) (by omega) (by omega) c15
                          subst hPQ
                          exact x_vret E h ⟨hR0.trans hR13.symm, hI_13, hF_13⟩ dX12_join_364
                        · skip
                          replace hR13 := it_f hR13 c15
                          have b17 : i13_3 < F35 := y_nle (a := F35) (b := i13_3) (by omega) (by omega) c15
                          refine lv_aload_n hx hb dX12_join_346 rfl (lv_at hl 3 rfl) ?_
                          refine x_getR E h (fr_mo_joined g) rfl hwX12 (by decide) (by decide +kernel) dX12_join_347 ?_
                          refine lv_iload_n hx hb dX12_join_350 rfl (lv_at hl 0 rfl) ?_
                          refine lv_aload_n hx hb dX12_join_351 rfl (lv_at hl 3 rfl) ?_
                          refine x_getR E h (fr_mo_heap g) rfl hwX12 (by decide) (by decide +kernel) dX12_join_352 ?_
                          refine lv_iload_n hx hb dX12_join_355 rfl (lv_at hl 0 rfl) ?_
                          obtain ⟨n18, b18, e18⟩ := hI_13.2 85 8 rfl i13_3
                          refine x_ldI E h (ia_mo_heap g) (i := nI i13_3) (vp_in_nI (by omega) (by decide)) (v := nI n18) ((congrArg (t13.2.2 85) (nI_clamp (n := i13_3) (by omega))).trans e18) dX12_join_356 ?_
                          replace hR13 := bd_to hR13 ((congrArg (t13.2.2 85) (nI_clamp (n := i13_3) (by omega))).trans e18)
                          refine y_stI E h hI_13 hF_13 (ia_mo_joined g) (i := nI i13_3) (vp_in_nI (by omega) (by decide)) (j := i13_3) (nI_clamp (by omega)) (ba_some rfl (Bd.mk (n := n18) (by omega))) rfl dX12_join_357 (fun s19 H locs q19 hI19 hF19 h => ?_)
                          replace hR13 := st_to hR13 (nI_clamp (n := i13_3) (by omega)) q19
                          have e20 : s19.1 35 = nI F35 := (congrArg (fun t : ST => t.1 35) q19).trans e14
                          replace hR13 := bd_to hR13 (nI_add i13_3 1)
                          refine lv_iinc (v := (nI (i13_3 + 1))) (lv' := [(3, .int (nI (i13_3 + 1))), (2, .int (nI i9_2)), (1, .int 0), (0, .ref (g.2.1 79))]) hx hb dX12_join_358 hl (k := 0) rfl (nI_add i13_3 1) (by decide) rfl (fun ls hl => ?_)
                          refine lv_goto (tgt := 338) hx hb dX12_join_361 (by decide) ?_
                          exact ih13 s19 (i13_3 + 1) hI19 hF19 e20 (by omega) hR13 (by omega) _ _ _ h (lv_sub hl [0, 1, 2, 3] rfl)
                    exact loop338_13 4096 t9 0 hI_9 hF_9 e10 (Nat.zero_le _) hR9 (by omega) _ _ _ h (lv_sub hl [0, 1, 2, 3] rfl)
                  · skip
                    replace hR9 := it_f hR9 c11
                    have b21 : i9_3 < F35 := y_nle (a := F35) (b := i9_3) (by omega) (by omega) c11
                    refine lv_aload_n hx hb dX12_join_281 rfl (lv_at hl 3 rfl) ?_
                    refine x_getR E h (fr_mo_heap g) rfl hwX12 (by decide) (by decide +kernel) dX12_join_282 ?_
                    refine lv_iload_n hx hb dX12_join_285 rfl (lv_at hl 0 rfl) ?_
                    refine lv_aload_n hx hb dX12_join_286 rfl (lv_at hl 3 rfl) ?_
                    refine x_getR E h (fr_mo_joined g) rfl hwX12 (by decide) (by decide +kernel) dX12_join_287 ?_
                    refine lv_iload_n hx hb dX12_join_290 rfl (lv_at hl 0 rfl) ?_
                    obtain ⟨n22, b22, e22⟩ := hI_9.2 87 8 rfl i9_3
                    refine x_ldI E h (ia_mo_joined g) (i := nI i9_3) (vp_in_nI (by omega) (by decide)) (v := nI n22) ((congrArg (t9.2.2 87) (nI_clamp (n := i9_3) (by omega))).trans e22) dX12_join_291 ?_
                    replace hR9 := bd_to hR9 ((congrArg (t9.2.2 87) (nI_clamp (n := i9_3) (by omega))).trans e22)
                    refine lv_iload_n hx hb dX12_join_292 rfl (lv_at hl 0 rfl) ?_
                    refine lv_icmp_ne (tgt := 300) hx hb dX12_join_293 (by decide) (fun c23 => ?_) (fun c23 => ?_)
                    · skip
                      replace hR9 := it_f hR9 c23
                      have b24 : ¬ n22 = i9_3 := y_ne (a := n22) (b := i9_3) (by omega) (by omega) c23
                      refine lv_aload_n hx hb dX12_join_300 rfl (lv_at hl 3 rfl) ?_
                      refine x_getR E h (fr_mo_heap g) rfl hwX12 (by decide) (by decide +kernel) dX12_join_301 ?_
                      refine lv_aload_n hx hb dX12_join_304 rfl (lv_at hl 3 rfl) ?_
                      refine x_getR E h (fr_mo_joined g) rfl hwX12 (by decide) (by decide +kernel) dX12_join_305 ?_
                      refine lv_iload_n hx hb dX12_join_308 rfl (lv_at hl 0 rfl) ?_
                      refine x_ldI E h (ia_mo_joined g) (i := nI i9_3) (vp_in_nI (by omega) (by decide)) (v := nI n22) ((congrArg (t9.2.2 87) (nI_clamp (n := i9_3) (by omega))).trans e22) dX12_join_309 ?_
                      replace hR9 := bd_to hR9 ((congrArg (t9.2.2 87) (nI_clamp (n := i9_3) (by omega))).trans e22)
                      obtain ⟨n25, b25, e25⟩ := hI_9.2 85 8 rfl n22
                      refine x_ldI E h (ia_mo_heap g) (i := nI n22) (vp_in_nI (by omega) (by decide)) (v := nI n25) ((congrArg (t9.2.2 85) (nI_clamp (n := n22) (by omega))).trans e25) dX12_join_310 ?_
                      replace hR9 := bd_to hR9 ((congrArg (t9.2.2 85) (nI_clamp (n := n22) (by omega))).trans e25)
                      refine y_stI E h hI_9 hF_9 (ia_mo_heap g) (i := nI i9_3) (vp_in_nI (by omega) (by decide)) (j := i9_3) (nI_clamp (by omega)) (ba_some rfl (Bd.mk (n := n25) (by omega))) rfl dX12_join_311 (fun s26 H locs q26 hI26 hF26 h => ?_)
                      replace hR9 := st_to hR9 (nI_clamp (n := i9_3) (by omega)) q26
                      have e27 : s26.1 35 = nI F35 := (congrArg (fun t : ST => t.1 35) q26).trans e10
                      refine lv_iload_n hx hb dX12_join_312 rfl (lv_at hl 1 rfl) ?_
                      refine lv_aload_n hx hb dX12_join_313 rfl (lv_at hl 3 rfl) ?_
                      refine x_getR E h (fr_mo_joined g) rfl hwX12 (by decide) (by decide +kernel) dX12_join_314 ?_
                      refine lv_iload_n hx hb dX12_join_317 rfl (lv_at hl 0 rfl) ?_
                      obtain ⟨n28, b28, e28⟩ := hI26.2 87 8 rfl i9_3
                      refine x_ldI E h (ia_mo_joined g) (i := nI i9_3) (vp_in_nI (by omega) (by decide)) (v := nI n28) ((congrArg (s26.2.2 87) (nI_clamp (n := i9_3) (by omega))).trans e28) dX12_join_318 ?_
                      replace hR9 := bd_to hR9 ((congrArg (s26.2.2 87) (nI_clamp (n := i9_3) (by omega))).trans e28)
                      refine lv_iload_n hx hb dX12_join_319 rfl (lv_at hl 0 rfl) ?_
                      refine lv_icmp_ne (tgt := 327) hx hb dX12_join_320 (by decide) (fun c29 => ?_) (fun c29 => ?_)
                      · skip
                        replace hR9 := it_f hR9 c29
                        have b30 : ¬ n28 = i9_3 := y_ne (a := n28) (b := i9_3) (by omega) (by omega) c29
                        refine lv_iconst (v := 0) hx hb dX12_join_327 (by decide) ?_
                        replace hR9 : fX12_join_0b328 (fX12_join_0l273 fu9) (nI i9_3) 0 (nI i9_2) s26 = R := hR9
                        refine lv_iadd hx hb dX12_join_328 ?_
                        refine x_topI (v2 := nI (i9_2 + 0)) (nI_add i9_2 0) ?_
                        replace hR9 := bd_to hR9 (nI_add i9_2 0)
                        refine lv_istore_n (lv' := [(2, .int (nI (i9_2 + 0))), (3, .int (nI i9_3)), (1, .int 0), (0, .ref (g.2.1 79))]) hx hb dX12_join_329 rfl hl (by decide) rfl (fun ls hl => ?_)
                        replace hR9 := bd_to hR9 (nI_add i9_3 1)
                        refine lv_iinc (v := (nI (i9_3 + 1))) (lv' := [(3, .int (nI (i9_3 + 1))), (2, .int (nI (i9_2 + 0))), (1, .int 0), (0, .ref (g.2.1 79))]) hx hb dX12_join_330 hl (k := 1) rfl (nI_add i9_3 1) (by decide) rfl (fun ls hl => ?_)
                        refine lv_goto (tgt := 273) hx hb dX12_join_333 (by decide) ?_
                        exact ih9 s26 (i9_3 + 1) (i9_2 + 0) hI26 hF26 e27 (by omega) (by omega) hR9 (by omega) _ _ _ h (lv_sub hl [0, 1, 2, 3] rfl)
                      · skip
                        replace hR9 := it_t hR9 c29
                        have b31 : n28 = i9_3 := y_eq (a := n28) (b := i9_3) (by omega) (by omega) c29
                        refine lv_iconst (v := 1) hx hb dX12_join_323 (by decide) ?_
                        refine lv_goto (tgt := 328) hx hb dX12_join_324 (by decide) ?_
                        replace hR9 : fX12_join_0b328 (fX12_join_0l273 fu9) (nI i9_3) 1 (nI i9_2) s26 = R := hR9
                        refine lv_iadd hx hb dX12_join_328 ?_
                        refine x_topI (v2 := nI (i9_2 + 1)) (nI_add i9_2 1) ?_
                        replace hR9 := bd_to hR9 (nI_add i9_2 1)
                        refine lv_istore_n (lv' := [(2, .int (nI (i9_2 + 1))), (3, .int (nI i9_3)), (1, .int 0), (0, .ref (g.2.1 79))]) hx hb dX12_join_329 rfl hl (by decide) rfl (fun ls hl => ?_)
                        replace hR9 := bd_to hR9 (nI_add i9_3 1)
                        refine lv_iinc (v := (nI (i9_3 + 1))) (lv' := [(3, .int (nI (i9_3 + 1))), (2, .int (nI (i9_2 + 1))), (1, .int 0), (0, .ref (g.2.1 79))]) hx hb dX12_join_330 hl (k := 1) rfl (nI_add i9_3 1) (by decide) rfl (fun ls hl => ?_)
                        refine lv_goto (tgt := 273) hx hb dX12_join_333 (by decide) ?_
                        exact ih9 s26 (i9_3 + 1) (i9_2 + 1) hI26 hF26 e27 (by omega) (by omega) hR9 (by omega) _ _ _ h (lv_sub hl [0, 1, 2, 3] rfl)
                    · skip
                      replace hR9 := it_t hR9 c23
                      have b32 : n22 = i9_3 := y_eq (a := n22) (b := i9_3) (by omega) (by omega) c23
                      refine lv_iload_n hx hb dX12_join_296 rfl (lv_at hl 1 rfl) ?_
                      refine lv_goto (tgt := 311) hx hb dX12_join_297 (by decide) ?_
                      replace hR9 : fX12_join_0b311 (fX12_join_0l273 fu9) (nI i9_2) (nI i9_3) (nI i9_2) (nI i9_3) t9 = R := hR9
                      refine y_stI E h hI_9 hF_9 (ia_mo_heap g) (i := nI i9_3) (vp_in_nI (by omega) (by decide)) (j := i9_3) (nI_clamp (by omega)) (ba_some rfl (Bd.mk (n := i9_2) (by omega))) rfl dX12_join_311 (fun s33 H locs q33 hI33 hF33 h => ?_)
                      replace hR9 := st_to hR9 (nI_clamp (n := i9_3) (by omega)) q33
                      have e34 : s33.1 35 = nI F35 := (congrArg (fun t : ST => t.1 35) q33).trans e10
                      refine lv_iload_n hx hb dX12_join_312 rfl (lv_at hl 1 rfl) ?_
                      refine lv_aload_n hx hb dX12_join_313 rfl (lv_at hl 3 rfl) ?_
                      refine x_getR E h (fr_mo_joined g) rfl hwX12 (by decide) (by decide +kernel) dX12_join_314 ?_
                      refine lv_iload_n hx hb dX12_join_317 rfl (lv_at hl 0 rfl) ?_
                      obtain ⟨n35, b35, e35⟩ := hI33.2 87 8 rfl i9_3
                      refine x_ldI E h (ia_mo_joined g) (i := nI i9_3) (vp_in_nI (by omega) (by decide)) (v := nI n35) ((congrArg (s33.2.2 87) (nI_clamp (n := i9_3) (by omega))).trans e35) dX12_join_318 ?_
                      replace hR9 := bd_to hR9 ((congrArg (s33.2.2 87) (nI_clamp (n := i9_3) (by omega))).trans e35)
                      refine lv_iload_n hx hb dX12_join_319 rfl (lv_at hl 0 rfl) ?_
                      refine lv_icmp_ne (tgt := 327) hx hb dX12_join_320 (by decide) (fun c36 => ?_) (fun c36 => ?_)
                      · skip
                        replace hR9 := it_f hR9 c36
                        have b37 : ¬ n35 = i9_3 := y_ne (a := n35) (b := i9_3) (by omega) (by omega) c36
                        refine lv_iconst (v := 0) hx hb dX12_join_327 (by decide) ?_
                        replace hR9 : fX12_join_0b328 (fX12_join_0l273 fu9) (nI i9_3) 0 (nI i9_2) s33 = R := hR9
                        refine lv_iadd hx hb dX12_join_328 ?_
                        refine x_topI (v2 := nI (i9_2 + 0)) (nI_add i9_2 0) ?_
                        replace hR9 := bd_to hR9 (nI_add i9_2 0)
                        refine lv_istore_n (lv' := [(2, .int (nI (i9_2 + 0))), (3, .int (nI i9_3)), (1, .int 0), (0, .ref (g.2.1 79))]) hx hb dX12_join_329 rfl hl (by decide) rfl (fun ls hl => ?_)
                        replace hR9 := bd_to hR9 (nI_add i9_3 1)
                        refine lv_iinc (v := (nI (i9_3 + 1))) (lv' := [(3, .int (nI (i9_3 + 1))), (2, .int (nI (i9_2 + 0))), (1, .int 0), (0, .ref (g.2.1 79))]) hx hb dX12_join_330 hl (k := 1) rfl (nI_add i9_3 1) (by decide) rfl (fun ls hl => ?_)
                        refine lv_goto (tgt := 273) hx hb dX12_join_333 (by decide) ?_
                        exact ih9 s33 (i9_3 + 1) (i9_2 + 0) hI33 hF33 e34 (by omega) (by omega) hR9 (by omega) _ _ _ h (lv_sub hl [0, 1, 2, 3] rfl)
                      · skip
                        replace hR9 := it_t hR9 c36
                        have b38 : n35 = i9_3 := y_eq (a := n35) (b := i9_3) (by omega) (by omega) c36
                        refine lv_iconst (v := 1) hx hb dX12_join_323 (by decide) ?_
                        refine lv_goto (tgt := 328) hx hb dX12_join_324 (by decide) ?_
                        replace hR9 : fX12_join_0b328 (fX12_join_0l273 fu9) (nI i9_3) 1 (nI i9_2) s33 = R := hR9
                        refine lv_iadd hx hb dX12_join_328 ?_
                        refine x_topI (v2 := nI (i9_2 + 1)) (nI_add i9_2 1) ?_
                        replace hR9 := bd_to hR9 (nI_add i9_2 1)
                        refine lv_istore_n (lv' := [(2, .int (nI (i9_2 + 1))), (3, .int (nI i9_3)), (1, .int 0), (0, .ref (g.2.1 79))]) hx hb dX12_join_329 rfl hl (by decide) rfl (fun ls hl => ?_)
                        replace hR9 := bd_to hR9 (nI_add i9_3 1)
                        refine lv_iinc (v := (nI (i9_3 + 1))) (lv' := [(3, .int (nI (i9_3 + 1))), (2, .int (nI (i9_2 + 1))), (1, .int 0), (0, .ref (g.2.1 79))]) hx hb dX12_join_330 hl (k := 1) rfl (nI_add i9_3 1) (by decide) rfl (fun ls hl => ?_)
                        refine lv_goto (tgt := 273) hx hb dX12_join_333 (by decide) ?_
                        exact ih9 s33 (i9_3 + 1) (i9_2 + 1) hI33 hF33 e34 (by omega) (by omega) hR9 (by omega) _ _ _ h (lv_sub hl [0, 1, 2, 3] rfl)
              exact loop273_9 4096 t5 0 0 hI_5 hF_5 e6 (Nat.zero_le _) (Nat.zero_le _) hR5 (by omega) _ _ _ h (lv_sub hl [0, 1, 2, 3] rfl)
            · skip
              replace hR5 := it_f hR5 c7
              refine lv_bipush (v := (-9)) hx hb dX12_join_29 (by decide) ?_
              refine lv_istore_n (lv' := [(2, .int (-9)), (1, .int i5_1), (0, .ref (g.2.1 79))]) hx hb dX12_join_31 rfl hl (by decide) rfl (fun ls hl => ?_)
              refine lv_bipush (v := (-9)) hx hb dX12_join_32 (by decide) ?_
              refine lv_istore_n (lv' := [(3, .int (-9)), (2, .int (-9)), (1, .int i5_1), (0, .ref (g.2.1 79))]) hx hb dX12_join_34 rfl hl (by decide) rfl (fun ls hl => ?_)
              refine lv_iconst (v := 0) hx hb dX12_join_35 (by decide) ?_
              refine lv_istore (lv' := [(4, .int 0), (3, .int (-9)), (2, .int (-9)), (1, .int i5_1), (0, .ref (g.2.1 79))]) hx hb dX12_join_36 hl (by decide) rfl (fun ls hl => ?_)
              refine lv_iconst (v := 0) hx hb dX12_join_38 (by decide) ?_
              refine lv_istore (lv' := [(5, .int 0), (4, .int 0), (3, .int (-9)), (2, .int (-9)), (1, .int i5_1), (0, .ref (g.2.1 79))]) hx hb dX12_join_39 hl (by decide) rfl (fun ls hl => ?_)
              have loop41_40 : ∀ (fu : Nat) (i40_5 : Nat) (i40_4 : Int32) (i40_3 : Int32) (i40_2 : Int32), i40_5 ≤ F35 → JO i40_2 i40_3 F35 (t5.2.2 87) → fX12_join_0l41 (fX12_join_0l25 fu5) fu i40_2 i40_3 i40_4 (nI i40_5) t5 = R → F35 - i40_5 < fu → ∀ (H : Heap) (locs : List Loc) (ls : Array Slot), HW g t5 s H locs → lv_has ls 10 [(5, .int (nI i40_5)), (4, .int i40_4), (3, .int i40_3), (2, .int i40_2), (1, .int i5_1), (0, .ref (g.2.1 79))] → W p l e { frames := 0, cells := 0, slots := 0, locals := 0 } s m args below meth c H locs 0 0 (MQ below PQz args s 0 0 (Aw g)) (F0 m 41 ls []) := by
                intro fu40
                induction fu40 with
                | zero => intro i40_5 i40_4 i40_3 i40_2 bi40_5 jo_40 hR40 hm; exact absurd hm (Nat.not_lt_zero _)
                | succ fu40 ih =>
                  have ih40 := ih
                  clear ih
                  intro i40_5 i40_4 i40_3 i40_2 bi40_5 jo_40 hR40 hm40 H locs ls h hl
                  replace hR40 : fX12_join_0b41 (fX12_join_0l25 fu5) (fX12_join_0l41 (fX12_join_0l25 fu5) fu40) i40_2 i40_3 i40_4 (nI i40_5) t5 = R := hR40
                  refine lv_iload hx hb dX12_join_41 (lv_at hl 0 rfl) ?_
                  refine lv_aload_n hx hb dX12_join_43 rfl (lv_at hl 5 rfl) ?_
                  refine x_getI E h (fi_mo_pieces g) rfl hwX12 (by decide) (by decide +kernel) (v := nI F35) e6 dX12_join_44 ?_
                  replace hR40 := bd_to hR40 e6
                  refine lv_icmp_ge (tgt := 203) hx hb dX12_join_47 (by decide) (fun c41 => ?_) (fun c41 => ?_)
                  · skip
                    replace hR40 := it_t hR40 c41
                    have b42 : F35 ≤ i40_5 := y_le (a := F35) (b := i40_5) (by omega) (by omega) c41
                    refine lv_iload_n hx hb dX12_join_203 rfl (lv_at hl 3 rfl) ?_
                    refine lv_bipush (v := (-9)) hx hb dX12_join_204 (by decide) ?_
                    refine lv_icmp_eq (tgt := 213) hx hb dX12_join_206 (by decide) (fun c43 => ?_) (fun c43 => ?_)
                    · skip
                      replace hR40 := it_t hR40 c43
                      subst c43
                      refine lv_iconst (v := 0) hx hb dX12_join_213 (by decide) ?_
                      replace hR40 : fX12_join_0b214 (fX12_join_0l25 fu5) (-9) i40_3 0 t5 = R := hR40
                      refine lv_istore_n (lv' := [(1, .int 0), (5, .int (nI i40_5)), (4, .int i40_4), (3, .int i40_3), (2, .int (-9)), (0, .ref (g.2.1 79))]) hx hb dX12_join_214 rfl hl (by decide) rfl (fun ls hl => ?_)
                      refine lv_iconst (v := 0) hx hb dX12_join_215 (by decide) ?_
                      refine lv_istore (lv' := [(5, .int 0), (1, .int 0), (4, .int i40_4), (3, .int i40_3), (2, .int (-9)), (0, .ref (g.2.1 79))]) hx hb dX12_join_216 hl (by decide) rfl (fun ls hl => ?_)
                      have loop218_45 : ∀ (fu : Nat) (t45 : ST) (i45_5 : Nat), INV t45 → Fr [] [(85, 85), (87, 87)] σ t45 → t45.1 35 = nI F35 → i45_5 ≤ F35 → fX12_join_0l218 (fX12_join_0l25 fu5) fu 0 (-9) i40_3 (nI i45_5) t45 = R → F35 - i45_5 < fu → ∀ (H : Heap) (locs : List Loc) (ls : Array Slot), HW g t45 s H locs → lv_has ls 10 [(5, .int (nI i45_5)), (1, .int 0), (4, .int i40_4), (3, .int i40_3), (2, .int (-9)), (0, .ref (g.2.1 79))] → W p l e { frames := 0, cells := 0, slots := 0, locals := 0 } s m args below meth c H locs 0 0 (MQ below PQz args s 0 0 (Aw g)) (F0 m 218 ls []) := by
                        intro fu45
                        induction fu45 with
                        | zero => intro t45 i45_5 hI_45 hF_45 e46 bi45_5 hR45 hm; exact absurd hm (Nat.not_lt_zero _)
                        | succ fu45 ih =>
                          have ih45 := ih
                          clear ih
                          intro t45 i45_5 hI_45 hF_45 e46 bi45_5 hR45 hm45 H locs ls h hl
                          replace hR45 : fX12_join_0b218 (fX12_join_0l25 fu5) (fX12_join_0l218 (fX12_join_0l25 fu5) fu45) 0 (-9) i40_3 (nI i45_5) t45 = R := hR45
                          refine lv_iload hx hb dX12_join_218 (lv_at hl 0 rfl) ?_
                          refine lv_aload_n hx hb dX12_join_220 rfl (lv_at hl 5 rfl) ?_
                          refine x_getI E h (fi_mo_pieces g) rfl hwX12 (by decide) (by decide +kernel) (v := nI F35) e46 dX12_join_221 ?_
                          replace hR45 := bd_to hR45 e46
                          refine lv_icmp_ge (tgt := 266) hx hb dX12_join_224 (by decide) (fun c47 => ?_) (fun c47 => ?_)
                          · skip
                            replace hR45 := it_t hR45 c47
                            have b48 : F35 ≤ i45_5 := y_le (a := F35) (b := i45_5) (by omega) (by omega) c47
                            refine lv_goto (tgt := 25) hx hb dX12_join_266 (by decide) ?_
                            obtain ⟨fu49, rfl⟩ : ∃ z, fu5 = z + 1 := ⟨fu5 - 1, by omega⟩
                            replace hR45 : fX12_join_0b25 (fX12_join_0l25 fu49) 0 t45 = R := hR45
                            refine lv_iload_n hx hb dX12_join_25 rfl (lv_at hl 1 rfl) ?_
                            replace hR45 := it_t hR45 (by decide)
                            refine lv_if_eq (tgt := 269) hx hb dX12_join_26 (by decide) (fun _ => ?_) (fun c => absurd (by decide) c)
                            refine lv_iconst (v := 0) hx hb dX12_join_269 (by decide) ?_
                            refine lv_istore_n (lv' := [(2, .int 0), (5, .int (nI i45_5)), (1, .int 0), (4, .int i40_4), (3, .int i40_3), (0, .ref (g.2.1 79))]) hx hb dX12_join_270 rfl hl (by decide) rfl (fun ls hl => ?_)
                            refine lv_iconst (v := 0) hx hb dX12_join_271 (by decide) ?_
                            refine lv_istore_n (lv' := [(3, .int 0), (2, .int 0), (5, .int (nI i45_5)), (1, .int 0), (4, .int i40_4), (0, .ref (g.2.1 79))]) hx hb dX12_join_272 rfl hl (by decide) rfl (fun ls hl => ?_)
                            have loop273_50 : ∀ (fu : Nat) (t50 : ST) (i50_3 : Nat) (i50_2 : Nat), INV t50 → Fr [] [(85, 85), (87, 87)] σ t50 → t50.1 35 = nI F35 → i50_3 ≤ F35 → i50_2 ≤ i50_3 → fX12_join_0l273 fu (nI i50_2) (nI i50_3) t50 = R → F35 - i50_3 < fu → ∀ (H : Heap) (locs : List Loc) (ls : Array Slot), HW g t50 s H locs → lv_has ls 10 [(3, .int (nI i50_3)), (2, .int (nI i50_2)), (5, .int (nI i45_5)), (1, .int 0), (4, .int i40_4), (0, .ref (g.2.1 79))] → W p l e { frames := 0, cells := 0, slots := 0, locals := 0 } s m args below meth c H locs 0 0 (MQ below PQz args s 0 0 (Aw g)) (F0 m 273 ls []) := by
                              intro fu50
                              induction fu50 with
                              | zero => intro t50 i50_3 i50_2 hI_50 hF_50 e51 bi50_3 bi50_2 hR50 hm; exact absurd hm (Nat.not_lt_zero _)
                              | succ fu50 ih =>
                                have ih50 := ih
                                clear ih
                                intro t50 i50_3 i50_2 hI_50 hF_50 e51 bi50_3 bi50_2 hR50 hm50 H locs ls h hl
                                replace hR50 : fX12_join_0b273 (fX12_join_0l273 fu50) (nI i50_2) (nI i50_3) t50 = R := hR50
                                refine lv_iload_n hx hb dX12_join_273 rfl (lv_at hl 0 rfl) ?_
                                refine lv_aload_n hx hb dX12_join_274 rfl (lv_at hl 5 rfl) ?_
                                refine x_getI E h (fi_mo_pieces g) rfl hwX12 (by decide) (by decide +kernel) (v := nI F35) e51 dX12_join_275 ?_
                                replace hR50 := bd_to hR50 e51
                                refine lv_icmp_ge (tgt := 336) hx hb dX12_join_278 (by decide) (fun c52 => ?_) (fun c52 => ?_)
                                · skip
                                  replace hR50 := it_t hR50 c52
                                  have b53 : F35 ≤ i50_3 := y_le (a := F35) (b := i50_3) (by omega) (by omega) c52
                                  refine lv_iconst (v := 0) hx hb dX12_join_336 (by decide) ?_
                                  refine lv_istore_n (lv' := [(3, .int 0), (2, .int (nI i50_2)), (5, .int (nI i45_5)), (1, .int 0), (4, .int i40_4), (0, .ref (g.2.1 79))]) hx hb dX12_join_337 rfl hl (by decide) rfl (fun ls hl => ?_)
                                  have loop338_54 : ∀ (fu : Nat) (t54 : ST) (i54_3 : Nat), INV t54 → Fr [] [(85, 85), (87, 87)] σ t54 → t54.1 35 = nI F35 → i54_3 ≤ F35 → fX12_join_0l338 fu (nI i54_3) t54 = R → F35 - i54_3 < fu → ∀ (H : Heap) (locs : List Loc) (ls : Array Slot), HW g t54 s H locs → lv_has ls 10 [(3, .int (nI i54_3)), (2, .int (nI i50_2)), (5, .int (nI i45_5)), (1, .int 0), (4, .int i40_4), (0, .ref (g.2.1 79))] → W p l e { frames := 0, cells := 0, slots := 0, locals := 0 } s m args below meth c H locs 0 0 (MQ below PQz args s 0 0 (Aw g)) (F0 m 338 ls []) := by
                                    intro fu54
                                    induction fu54 with
                                    | zero => intro t54 i54_3 hI_54 hF_54 e55 bi54_3 hR54 hm; exact absurd hm (Nat.not_lt_zero _)
                                    | succ fu54 ih =>
                                      have ih54 := ih
                                      clear ih
                                      intro t54 i54_3 hI_54 hF_54 e55 bi54_3 hR54 hm54 H locs ls h hl
                                      replace hR54 : fX12_join_0b338 (fX12_join_0l338 fu54) (nI i54_3) t54 = R := hR54
                                      refine lv_iload_n hx hb dX12_join_338 rfl (lv_at hl 0 rfl) ?_
                                      refine lv_aload_n hx hb dX12_join_339 rfl (lv_at hl 5 rfl) ?_
                                      refine x_getI E h (fi_mo_pieces g) rfl hwX12 (by decide) (by decide +kernel) (v := nI F35) e55 dX12_join_340 ?_
                                      replace hR54 := bd_to hR54 e55
                                      refine lv_icmp_ge (tgt := 364) hx hb dX12_join_343 (by decide) (fun c56 => ?_) (fun c56 => ?_)
                                      · skip
                                        replace hR54 := it_t hR54 c56
                                        have b57 : F35 ≤ i54_3 := y_le (a := F35) (b := i54_3) (by omega) (by omega) c56
                                        subst hPQ
                                        exact x_vret E h ⟨hR0.trans hR54.symm, hI_54, hF_54⟩ dX12_join_364
                                      · skip
                                        replace hR54 := it_f hR54 c56
                                        have b58 : i54_3 < F35 := y_nle (a := F35) (b := i54_3) (by omega) (by omega) c56
                                        refine lv_aload_n hx hb dX12_join_346 rfl (lv_at hl 5 rfl) ?_
                                        refine x_getR E h (fr_mo_joined g) rfl hwX12 (by decide) (by decide +kernel) dX12_join_347 ?_
                                        refine lv_iload_n hx hb dX12_join_350 rfl (lv_at hl 0 rfl) ?_
                                        refine lv_aload_n hx hb dX12_join_351 rfl (lv_at hl 5 rfl) ?_
                                        refine x_getR E h (fr_mo_heap g) rfl hwX12 (by decide) (by decide +kernel) dX12_join_352 ?_
                                        refine lv_iload_n hx hb dX12_join_355 rfl (lv_at hl 0 rfl) ?_
                                        obtain ⟨n59, b59, e59⟩ := hI_54.2 85 8 rfl i54_3
                                        refine x_ldI E h (ia_mo_heap g) (i := nI i54_3) (vp_in_nI (by omega) (by decide)) (v := nI n59) ((congrArg (t54.2.2 85) (nI_clamp (n := i54_3) (by omega))).trans e59) dX12_join_356 ?_
                                        replace hR54 := bd_to hR54 ((congrArg (t54.2.2 85) (nI_clamp (n := i54_3) (by omega))).trans e59)
                                        refine y_stI E h hI_54 hF_54 (ia_mo_joined g) (i := nI i54_3) (vp_in_nI (by omega) (by decide)) (j := i54_3) (nI_clamp (by omega)) (ba_some rfl (Bd.mk (n := n59) (by omega))) rfl dX12_join_357 (fun s60 H locs q60 hI60 hF60 h => ?_)
                                        replace hR54 := st_to hR54 (nI_clamp (n := i54_3) (by omega)) q60
                                        have e61 : s60.1 35 = nI F35 := (congrArg (fun t : ST => t.1 35) q60).trans e55
                                        replace hR54 := bd_to hR54 (nI_add i54_3 1)
                                        refine lv_iinc (v := (nI (i54_3 + 1))) (lv' := [(3, .int (nI (i54_3 + 1))), (2, .int (nI i50_2)), (5, .int (nI i45_5)), (1, .int 0), (4, .int i40_4), (0, .ref (g.2.1 79))]) hx hb dX12_join_358 hl (k := 0) rfl (nI_add i54_3 1) (by decide) rfl (fun ls hl => ?_)
                                        refine lv_goto (tgt := 338) hx hb dX12_join_361 (by decide) ?_
                                        exact ih54 s60 (i54_3 + 1) hI60 hF60 e61 (by omega) hR54 (by omega) _ _ _ h (lv_sub hl [0, 1, 2, 3, 4, 5] rfl)
                                  exact loop338_54 4096 t50 0 hI_50 hF_50 e51 (Nat.zero_le _) hR50 (by omega) _ _ _ h (lv_sub hl [0, 1, 2, 3, 4, 5] rfl)
                                · skip
                                  replace hR50 := it_f hR50 c52
                                  have b62 : i50_3 < F35 := y_nle (a := F35) (b := i50_3) (by omega) (by omega) c52
                                  refine lv_aload_n hx hb dX12_join_281 rfl (lv_at hl 5 rfl) ?_
                                  refine x_getR E h (fr_mo_heap g) rfl hwX12 (by decide) (by decide +kernel) dX12_join_282 ?_
                                  refine lv_iload_n hx hb dX12_join_285 rfl (lv_at hl 0 rfl) ?_
                                  refine lv_aload_n hx hb dX12_join_286 rfl (lv_at hl 5 rfl) ?_
                                  refine x_getR E h (fr_mo_joined g) rfl hwX12 (by decide) (by decide +kernel) dX12_join_287 ?_
                                  refine lv_iload_n hx hb dX12_join_290 rfl (lv_at hl 0 rfl) ?_
                                  obtain ⟨n63, b63, e63⟩ := hI_50.2 87 8 rfl i50_3
                                  refine x_ldI E h (ia_mo_joined g) (i := nI i50_3) (vp_in_nI (by omega) (by decide)) (v := nI n63) ((congrArg (t50.2.2 87) (nI_clamp (n := i50_3) (by omega))).trans e63) dX12_join_291 ?_
                                  replace hR50 := bd_to hR50 ((congrArg (t50.2.2 87) (nI_clamp (n := i50_3) (by omega))).trans e63)
                                  refine lv_iload_n hx hb dX12_join_292 rfl (lv_at hl 0 rfl) ?_
                                  refine lv_icmp_ne (tgt := 300) hx hb dX12_join_293 (by decide) (fun c64 => ?_) (fun c64 => ?_)
                                  · skip
                                    replace hR50 := it_f hR50 c64
                                    have b65 : ¬ n63 = i50_3 := y_ne (a := n63) (b := i50_3) (by omega) (by omega) c64
                                    refine lv_aload_n hx hb dX12_join_300 rfl (lv_at hl 5 rfl) ?_
                                    refine x_getR E h (fr_mo_heap g) rfl hwX12 (by decide) (by decide +kernel) dX12_join_301 ?_
                                    refine lv_aload_n hx hb dX12_join_304 rfl (lv_at hl 5 rfl) ?_
                                    refine x_getR E h (fr_mo_joined g) rfl hwX12 (by decide) (by decide +kernel) dX12_join_305 ?_
                                    refine lv_iload_n hx hb dX12_join_308 rfl (lv_at hl 0 rfl) ?_
                                    refine x_ldI E h (ia_mo_joined g) (i := nI i50_3) (vp_in_nI (by omega) (by decide)) (v := nI n63) ((congrArg (t50.2.2 87) (nI_clamp (n := i50_3) (by omega))).trans e63) dX12_join_309 ?_
                                    replace hR50 := bd_to hR50 ((congrArg (t50.2.2 87) (nI_clamp (n := i50_3) (by omega))).trans e63)
                                    obtain ⟨n66, b66, e66⟩ := hI_50.2 85 8 rfl n63
                                    refine x_ldI E h (ia_mo_heap g) (i := nI n63) (vp_in_nI (by omega) (by decide)) (v := nI n66) ((congrArg (t50.2.2 85) (nI_clamp (n := n63) (by omega))).trans e66) dX12_join_310 ?_
                                    replace hR50 := bd_to hR50 ((congrArg (t50.2.2 85) (nI_clamp (n := n63) (by omega))).trans e66)
                                    refine y_stI E h hI_50 hF_50 (ia_mo_heap g) (i := nI i50_3) (vp_in_nI (by omega) (by decide)) (j := i50_3) (nI_clamp (by omega)) (ba_some rfl (Bd.mk (n := n66) (by omega))) rfl dX12_join_311 (fun s67 H locs q67 hI67 hF67 h => ?_)
                                    replace hR50 := st_to hR50 (nI_clamp (n := i50_3) (by omega)) q67
                                    have e68 : s67.1 35 = nI F35 := (congrArg (fun t : ST => t.1 35) q67).trans e51
                                    refine lv_iload_n hx hb dX12_join_312 rfl (lv_at hl 1 rfl) ?_
                                    refine lv_aload_n hx hb dX12_join_313 rfl (lv_at hl 5 rfl) ?_
                                    refine x_getR E h (fr_mo_joined g) rfl hwX12 (by decide) (by decide +kernel) dX12_join_314 ?_
                                    refine lv_iload_n hx hb dX12_join_317 rfl (lv_at hl 0 rfl) ?_
                                    obtain ⟨n69, b69, e69⟩ := hI67.2 87 8 rfl i50_3
                                    refine x_ldI E h (ia_mo_joined g) (i := nI i50_3) (vp_in_nI (by omega) (by decide)) (v := nI n69) ((congrArg (s67.2.2 87) (nI_clamp (n := i50_3) (by omega))).trans e69) dX12_join_318 ?_
                                    replace hR50 := bd_to hR50 ((congrArg (s67.2.2 87) (nI_clamp (n := i50_3) (by omega))).trans e69)
                                    refine lv_iload_n hx hb dX12_join_319 rfl (lv_at hl 0 rfl) ?_
                                    refine lv_icmp_ne (tgt := 327) hx hb dX12_join_320 (by decide) (fun c70 => ?_) (fun c70 => ?_)
                                    · skip
                                      replace hR50 := it_f hR50 c70
                                      have b71 : ¬ n69 = i50_3 := y_ne (a := n69) (b := i50_3) (by omega) (by omega) c70
                                      refine lv_iconst (v := 0) hx hb dX12_join_327 (by decide) ?_
                                      replace hR50 : fX12_join_0b328 (fX12_join_0l273 fu50) (nI i50_3) 0 (nI i50_2) s67 = R := hR50
                                      refine lv_iadd hx hb dX12_join_328 ?_
                                      refine x_topI (v2 := nI (i50_2 + 0)) (nI_add i50_2 0) ?_
                                      replace hR50 := bd_to hR50 (nI_add i50_2 0)
                                      refine lv_istore_n (lv' := [(2, .int (nI (i50_2 + 0))), (3, .int (nI i50_3)), (5, .int (nI i45_5)), (1, .int 0), (4, .int i40_4), (0, .ref (g.2.1 79))]) hx hb dX12_join_329 rfl hl (by decide) rfl (fun ls hl => ?_)
                                      replace hR50 := bd_to hR50 (nI_add i50_3 1)
                                      refine lv_iinc (v := (nI (i50_3 + 1))) (lv' := [(3, .int (nI (i50_3 + 1))), (2, .int (nI (i50_2 + 0))), (5, .int (nI i45_5)), (1, .int 0), (4, .int i40_4), (0, .ref (g.2.1 79))]) hx hb dX12_join_330 hl (k := 1) rfl (nI_add i50_3 1) (by decide) rfl (fun ls hl => ?_)
                                      refine lv_goto (tgt := 273) hx hb dX12_join_333 (by decide) ?_
                                      exact ih50 s67 (i50_3 + 1) (i50_2 + 0) hI67 hF67 e68 (by omega) (by omega) hR50 (by omega) _ _ _ h (lv_sub hl [0, 1, 2, 3, 4, 5] rfl)
                                    · skip
                                      replace hR50 := it_t hR50 c70
                                      have b72 : n69 = i50_3 := y_eq (a := n69) (b := i50_3) (by omega) (by omega) c70
                                      refine lv_iconst (v := 1) hx hb dX12_join_323 (by decide) ?_
                                      refine lv_goto (tgt := 328) hx hb dX12_join_324 (by decide) ?_
                                      replace hR50 : fX12_join_0b328 (fX12_join_0l273 fu50) (nI i50_3) 1 (nI i50_2) s67 = R := hR50
                                      refine lv_iadd hx hb dX12_join_328 ?_
                                      refine x_topI (v2 := nI (i50_2 + 1)) (nI_add i50_2 1) ?_
                                      replace hR50 := bd_to hR50 (nI_add i50_2 1)
                                      refine lv_istore_n (lv' := [(2, .int (nI (i50_2 + 1))), (3, .int (nI i50_3)), (5, .int (nI i45_5)), (1, .int 0), (4, .int i40_4), (0, .ref (g.2.1 79))]) hx hb dX12_join_329 rfl hl (by decide) rfl (fun ls hl => ?_)
                                      replace hR50 := bd_to hR50 (nI_add i50_3 1)
                                      refine lv_iinc (v := (nI (i50_3 + 1))) (lv' := [(3, .int (nI (i50_3 + 1))), (2, .int (nI (i50_2 + 1))), (5, .int (nI i45_5)), (1, .int 0), (4, .int i40_4), (0, .ref (g.2.1 79))]) hx hb dX12_join_330 hl (k := 1) rfl (nI_add i50_3 1) (by decide) rfl (fun ls hl => ?_)
                                      refine lv_goto (tgt := 273) hx hb dX12_join_333 (by decide) ?_
                                      exact ih50 s67 (i50_3 + 1) (i50_2 + 1) hI67 hF67 e68 (by omega) (by omega) hR50 (by omega) _ _ _ h (lv_sub hl [0, 1, 2, 3, 4, 5] rfl)
                                  · skip
                                    replace hR50 := it_t hR50 c64
                                    have b73 : n63 = i50_3 := y_eq (a := n63) (b := i50_3) (by omega) (by omega) c64
                                    refine lv_iload_n hx hb dX12_join_296 rfl (lv_at hl 1 rfl) ?_
                                    refine lv_goto (tgt := 311) hx hb dX12_join_297 (by decide) ?_
                                    replace hR50 : fX12_join_0b311 (fX12_join_0l273 fu50) (nI i50_2) (nI i50_3) (nI i50_2) (nI i50_3) t50 = R := hR50
                                    refine y_stI E h hI_50 hF_50 (ia_mo_heap g) (i := nI i50_3) (vp_in_nI (by omega) (by decide)) (j := i50_3) (nI_clamp (by omega)) (ba_some rfl (Bd.mk (n := i50_2) (by omega))) rfl dX12_join_311 (fun s74 H locs q74 hI74 hF74 h => ?_)
                                    replace hR50 := st_to hR50 (nI_clamp (n := i50_3) (by omega)) q74
                                    have e75 : s74.1 35 = nI F35 := (congrArg (fun t : ST => t.1 35) q74).trans e51
                                    refine lv_iload_n hx hb dX12_join_312 rfl (lv_at hl 1 rfl) ?_
                                    refine lv_aload_n hx hb dX12_join_313 rfl (lv_at hl 5 rfl) ?_
                                    refine x_getR E h (fr_mo_joined g) rfl hwX12 (by decide) (by decide +kernel) dX12_join_314 ?_
                                    refine lv_iload_n hx hb dX12_join_317 rfl (lv_at hl 0 rfl) ?_
                                    obtain ⟨n76, b76, e76⟩ := hI74.2 87 8 rfl i50_3
                                    refine x_ldI E h (ia_mo_joined g) (i := nI i50_3) (vp_in_nI (by omega) (by decide)) (v := nI n76) ((congrArg (s74.2.2 87) (nI_clamp (n := i50_3) (by omega))).trans e76) dX12_join_318 ?_
                                    replace hR50 := bd_to hR50 ((congrArg (s74.2.2 87) (nI_clamp (n := i50_3) (by omega))).trans e76)
                                    refine lv_iload_n hx hb dX12_join_319 rfl (lv_at hl 0 rfl) ?_
                                    refine lv_icmp_ne (tgt := 327) hx hb dX12_join_320 (by decide) (fun c77 => ?_) (fun c77 => ?_)
                                    · skip
                                      replace hR50 := it_f hR50 c77
                                      have b78 : ¬ n76 = i50_3 := y_ne (a := n76) (b := i50_3) (by omega) (by omega) c77
                                      refine lv_iconst (v := 0) hx hb dX12_join_327 (by decide) ?_
                                      replace hR50 : fX12_join_0b328 (fX12_join_0l273 fu50) (nI i50_3) 0 (nI i50_2) s74 = R := hR50
                                      refine lv_iadd hx hb dX12_join_328 ?_
                                      refine x_topI (v2 := nI (i50_2 + 0)) (nI_add i50_2 0) ?_
                                      replace hR50 := bd_to hR50 (nI_add i50_2 0)
                                      refine lv_istore_n (lv' := [(2, .int (nI (i50_2 + 0))), (3, .int (nI i50_3)), (5, .int (nI i45_5)), (1, .int 0), (4, .int i40_4), (0, .ref (g.2.1 79))]) hx hb dX12_join_329 rfl hl (by decide) rfl (fun ls hl => ?_)
                                      replace hR50 := bd_to hR50 (nI_add i50_3 1)
                                      refine lv_iinc (v := (nI (i50_3 + 1))) (lv' := [(3, .int (nI (i50_3 + 1))), (2, .int (nI (i50_2 + 0))), (5, .int (nI i45_5)), (1, .int 0), (4, .int i40_4), (0, .ref (g.2.1 79))]) hx hb dX12_join_330 hl (k := 1) rfl (nI_add i50_3 1) (by decide) rfl (fun ls hl => ?_)
                                      refine lv_goto (tgt := 273) hx hb dX12_join_333 (by decide) ?_
                                      exact ih50 s74 (i50_3 + 1) (i50_2 + 0) hI74 hF74 e75 (by omega) (by omega) hR50 (by omega) _ _ _ h (lv_sub hl [0, 1, 2, 3, 4, 5] rfl)
                                    · skip
                                      replace hR50 := it_t hR50 c77
                                      have b79 : n76 = i50_3 := y_eq (a := n76) (b := i50_3) (by omega) (by omega) c77
                                      refine lv_iconst (v := 1) hx hb dX12_join_323 (by decide) ?_
                                      refine lv_goto (tgt := 328) hx hb dX12_join_324 (by decide) ?_
                                      replace hR50 : fX12_join_0b328 (fX12_join_0l273 fu50) (nI i50_3) 1 (nI i50_2) s74 = R := hR50
                                      refine lv_iadd hx hb dX12_join_328 ?_
                                      refine x_topI (v2 := nI (i50_2 + 1)) (nI_add i50_2 1) ?_
                                      replace hR50 := bd_to hR50 (nI_add i50_2 1)
                                      refine lv_istore_n (lv' := [(2, .int (nI (i50_2 + 1))), (3, .int (nI i50_3)), (5, .int (nI i45_5)), (1, .int 0), (4, .int i40_4), (0, .ref (g.2.1 79))]) hx hb dX12_join_329 rfl hl (by decide) rfl (fun ls hl => ?_)
                                      replace hR50 := bd_to hR50 (nI_add i50_3 1)
                                      refine lv_iinc (v := (nI (i50_3 + 1))) (lv' := [(3, .int (nI (i50_3 + 1))), (2, .int (nI (i50_2 + 1))), (5, .int (nI i45_5)), (1, .int 0), (4, .int i40_4), (0, .ref (g.2.1 79))]) hx hb dX12_join_330 hl (k := 1) rfl (nI_add i50_3 1) (by decide) rfl (fun ls hl => ?_)
                                      refine lv_goto (tgt := 273) hx hb dX12_join_333 (by decide) ?_
                                      exact ih50 s74 (i50_3 + 1) (i50_2 + 1) hI74 hF74 e75 (by omega) (by omega) hR50 (by omega) _ _ _ h (lv_sub hl [0, 1, 2, 3, 4, 5] rfl)
                            exact loop273_50 4096 t45 0 0 hI_45 hF_45 e46 (Nat.zero_le _) (Nat.zero_le _) hR45 (by omega) _ _ _ h (lv_sub hl [0, 1, 2, 3, 4, 5] rfl)
                          · skip
                            replace hR45 := it_f hR45 c47
                            have b80 : i45_5 < F35 := y_nle (a := F35) (b := i45_5) (by omega) (by omega) c47
                            refine lv_iload_n hx hb dX12_join_227 rfl (lv_at hl 1 rfl) ?_
                            replace hR45 := it_t hR45 (by decide)
                            refine lv_if_eq (tgt := 266) hx hb dX12_join_228 (by decide) (fun _ => ?_) (fun c => absurd (by decide) c)
                            refine lv_goto (tgt := 25) hx hb dX12_join_266 (by decide) ?_
                            obtain ⟨fu81, rfl⟩ : ∃ z, fu5 = z + 1 := ⟨fu5 - 1, by omega⟩
                            replace hR45 : fX12_join_0b25 (fX12_join_0l25 fu81) 0 t45 = R := hR45
                            refine lv_iload_n hx hb dX12_join_25 rfl (lv_at hl 1 rfl) ?_
                            replace hR45 := it_t hR45 (by decide)
                            refine lv_if_eq (tgt := 269) hx hb dX12_join_26 (by decide) (fun _ => ?_) (fun c => absurd (by decide) c)
                            refine lv_iconst (v := 0) hx hb dX12_join_269 (by decide) ?_
                            refine lv_istore_n (lv' := [(2, .int 0), (5, .int (nI i45_5)), (1, .int 0), (4, .int i40_4), (3, .int i40_3), (0, .ref (g.2.1 79))]) hx hb dX12_join_270 rfl hl (by decide) rfl (fun ls hl => ?_)
                            refine lv_iconst (v := 0) hx hb dX12_join_271 (by decide) ?_
                            refine lv_istore_n (lv' := [(3, .int 0), (2, .int 0), (5, .int (nI i45_5)), (1, .int 0), (4, .int i40_4), (0, .ref (g.2.1 79))]) hx hb dX12_join_272 rfl hl (by decide) rfl (fun ls hl => ?_)
                            have loop273_82 : ∀ (fu : Nat) (t82 : ST) (i82_3 : Nat) (i82_2 : Nat), INV t82 → Fr [] [(85, 85), (87, 87)] σ t82 → t82.1 35 = nI F35 → i82_3 ≤ F35 → i82_2 ≤ i82_3 → fX12_join_0l273 fu (nI i82_2) (nI i82_3) t82 = R → F35 - i82_3 < fu → ∀ (H : Heap) (locs : List Loc) (ls : Array Slot), HW g t82 s H locs → lv_has ls 10 [(3, .int (nI i82_3)), (2, .int (nI i82_2)), (5, .int (nI i45_5)), (1, .int 0), (4, .int i40_4), (0, .ref (g.2.1 79))] → W p l e { frames := 0, cells := 0, slots := 0, locals := 0 } s m args below meth c H locs 0 0 (MQ below PQz args s 0 0 (Aw g)) (F0 m 273 ls []) := by
                              intro fu82
                              induction fu82 with
                              | zero => intro t82 i82_3 i82_2 hI_82 hF_82 e83 bi82_3 bi82_2 hR82 hm; exact absurd hm (Nat.not_lt_zero _)
                              | succ fu82 ih =>
                                have ih82 := ih
                                clear ih
                                intro t82 i82_3 i82_2 hI_82 hF_82 e83 bi82_3 bi82_2 hR82 hm82 H locs ls h hl
                                replace hR82 : fX12_join_0b273 (fX12_join_0l273 fu82) (nI i82_2) (nI i82_3) t82 = R := hR82
                                refine lv_iload_n hx hb dX12_join_273 rfl (lv_at hl 0 rfl) ?_
                                refine lv_aload_n hx hb dX12_join_274 rfl (lv_at hl 5 rfl) ?_
                                refine x_getI E h (fi_mo_pieces g) rfl hwX12 (by decide) (by decide +kernel) (v := nI F35) e83 dX12_join_275 ?_
                                replace hR82 := bd_to hR82 e83
                                refine lv_icmp_ge (tgt := 336) hx hb dX12_join_278 (by decide) (fun c84 => ?_) (fun c84 => ?_)
                                · skip
                                  replace hR82 := it_t hR82 c84
                                  have b85 : F35 ≤ i82_3 := y_le (a := F35) (b := i82_3) (by omega) (by omega) c84
                                  refine lv_iconst (v := 0) hx hb dX12_join_336 (by decide) ?_
                                  refine lv_istore_n (lv' := [(3, .int 0), (2, .int (nI i82_2)), (5, .int (nI i45_5)), (1, .int 0), (4, .int i40_4), (0, .ref (g.2.1 79))]) hx hb dX12_join_337 rfl hl (by decide) rfl (fun ls hl => ?_)
                                  have loop338_86 : ∀ (fu : Nat) (t86 : ST) (i86_3 : Nat), INV t86 → Fr [] [(85, 85), (87, 87)] σ t86 → t86.1 35 = nI F35 → i86_3 ≤ F35 → fX12_join_0l338 fu (nI i86_3) t86 = R → F35 - i86_3 < fu → ∀ (H : Heap) (locs : List Loc) (ls : Array Slot), HW g t86 s H locs → lv_has ls 10 [(3, .int (nI i86_3)), (2, .int (nI i82_2)), (5, .int (nI i45_5)), (1, .int 0), (4, .int i40_4), (0, .ref (g.2.1 79))] → W p l e { frames := 0, cells := 0, slots := 0, locals := 0 } s m args below meth c H locs 0 0 (MQ below PQz args s 0 0 (Aw g)) (F0 m 338 ls []) := by
                                    intro fu86
                                    induction fu86 with
                                    | zero => intro t86 i86_3 hI_86 hF_86 e87 bi86_3 hR86 hm; exact absurd hm (Nat.not_lt_zero _)
                                    | succ fu86 ih =>
                                      have ih86 := ih
                                      clear ih
                                      intro t86 i86_3 hI_86 hF_86 e87 bi86_3 hR86 hm86 H locs ls h hl
                                      replace hR86 : fX12_join_0b338 (fX12_join_0l338 fu86) (nI i86_3) t86 = R := hR86
                                      refine lv_iload_n hx hb dX12_join_338 rfl (lv_at hl 0 rfl) ?_
                                      refine lv_aload_n hx hb dX12_join_339 rfl (lv_at hl 5 rfl) ?_
                                      refine x_getI E h (fi_mo_pieces g) rfl hwX12 (by decide) (by decide +kernel) (v := nI F35) e87 dX12_join_340 ?_
                                      replace hR86 := bd_to hR86 e87
                                      refine lv_icmp_ge (tgt := 364) hx hb dX12_join_343 (by decide) (fun c88 => ?_) (fun c88 => ?_)
                                      · skip
                                        replace hR86 := it_t hR86 c88
                                        have b89 : F35 ≤ i86_3 := y_le (a := F35) (b := i86_3) (by omega) (by omega) c88
                                        subst hPQ
                                        exact x_vret E h ⟨hR0.trans hR86.symm, hI_86, hF_86⟩ dX12_join_364
                                      · skip
                                        replace hR86 := it_f hR86 c88
                                        have b90 : i86_3 < F35 := y_nle (a := F35) (b := i86_3) (by omega) (by omega) c88
                                        refine lv_aload_n hx hb dX12_join_346 rfl (lv_at hl 5 rfl) ?_
                                        refine x_getR E h (fr_mo_joined g) rfl hwX12 (by decide) (by decide +kernel) dX12_join_347 ?_
                                        refine lv_iload_n hx hb dX12_join_350 rfl (lv_at hl 0 rfl) ?_
                                        refine lv_aload_n hx hb dX12_join_351 rfl (lv_at hl 5 rfl) ?_
                                        refine x_getR E h (fr_mo_heap g) rfl hwX12 (by decide) (by decide +kernel) dX12_join_352 ?_
                                        refine lv_iload_n hx hb dX12_join_355 rfl (lv_at hl 0 rfl) ?_
                                        obtain ⟨n91, b91, e91⟩ := hI_86.2 85 8 rfl i86_3
                                        refine x_ldI E h (ia_mo_heap g) (i := nI i86_3) (vp_in_nI (by omega) (by decide)) (v := nI n91) ((congrArg (t86.2.2 85) (nI_clamp (n := i86_3) (by omega))).trans e91) dX12_join_356 ?_
                                        replace hR86 := bd_to hR86 ((congrArg (t86.2.2 85) (nI_clamp (n := i86_3) (by omega))).trans e91)
                                        refine y_stI E h hI_86 hF_86 (ia_mo_joined g) (i := nI i86_3) (vp_in_nI (by omega) (by decide)) (j := i86_3) (nI_clamp (by omega)) (ba_some rfl (Bd.mk (n := n91) (by omega))) rfl dX12_join_357 (fun s92 H locs q92 hI92 hF92 h => ?_)
                                        replace hR86 := st_to hR86 (nI_clamp (n := i86_3) (by omega)) q92
                                        have e93 : s92.1 35 = nI F35 := (congrArg (fun t : ST => t.1 35) q92).trans e87
                                        replace hR86 := bd_to hR86 (nI_add i86_3 1)
                                        refine lv_iinc (v := (nI (i86_3 + 1))) (lv' := [(3, .int (nI (i86_3 + 1))), (2, .int (nI i82_2)), (5, .int (nI i45_5)), (1, .int 0), (4, .int i40_4), (0, .ref (g.2.1 79))]) hx hb dX12_join_358 hl (k := 0) rfl (nI_add i86_3 1) (by decide) rfl (fun ls hl => ?_)
                                        refine lv_goto (tgt := 338) hx hb dX12_join_361 (by decide) ?_
                                        exact ih86 s92 (i86_3 + 1) hI92 hF92 e93 (by omega) hR86 (by omega) _ _ _ h (lv_sub hl [0, 1, 2, 3, 4, 5] rfl)
                                  exact loop338_86 4096 t82 0 hI_82 hF_82 e83 (Nat.zero_le _) hR82 (by omega) _ _ _ h (lv_sub hl [0, 1, 2, 3, 4, 5] rfl)
                                · skip
                                  replace hR82 := it_f hR82 c84
                                  have b94 : i82_3 < F35 := y_nle (a := F35) (b := i82_3) (by omega) (by omega) c84
                                  refine lv_aload_n hx hb dX12_join_281 rfl (lv_at hl 5 rfl) ?_
                                  refine x_getR E h (fr_mo_heap g) rfl hwX12 (by decide) (by decide +kernel) dX12_join_282 ?_
                                  refine lv_iload_n hx hb dX12_join_285 rfl (lv_at hl 0 rfl) ?_
                                  refine lv_aload_n hx hb dX12_join_286 rfl (lv_at hl 5 rfl) ?_
                                  refine x_getR E h (fr_mo_joined g) rfl hwX12 (by decide) (by decide +kernel) dX12_join_287 ?_
                                  refine lv_iload_n hx hb dX12_join_290 rfl (lv_at hl 0 rfl) ?_
                                  obtain ⟨n95, b95, e95⟩ := hI_82.2 87 8 rfl i82_3
                                  refine x_ldI E h (ia_mo_joined g) (i := nI i82_3) (vp_in_nI (by omega) (by decide)) (v := nI n95) ((congrArg (t82.2.2 87) (nI_clamp (n := i82_3) (by omega))).trans e95) dX12_join_291 ?_
                                  replace hR82 := bd_to hR82 ((congrArg (t82.2.2 87) (nI_clamp (n := i82_3) (by omega))).trans e95)
                                  refine lv_iload_n hx hb dX12_join_292 rfl (lv_at hl 0 rfl) ?_
                                  refine lv_icmp_ne (tgt := 300) hx hb dX12_join_293 (by decide) (fun c96 => ?_) (fun c96 => ?_)
                                  · skip
                                    replace hR82 := it_f hR82 c96
                                    have b97 : ¬ n95 = i82_3 := y_ne (a := n95) (b := i82_3) (by omega) (by omega) c96
                                    refine lv_aload_n hx hb dX12_join_300 rfl (lv_at hl 5 rfl) ?_
                                    refine x_getR E h (fr_mo_heap g) rfl hwX12 (by decide) (by decide +kernel) dX12_join_301 ?_
                                    refine lv_aload_n hx hb dX12_join_304 rfl (lv_at hl 5 rfl) ?_
                                    refine x_getR E h (fr_mo_joined g) rfl hwX12 (by decide) (by decide +kernel) dX12_join_305 ?_
                                    refine lv_iload_n hx hb dX12_join_308 rfl (lv_at hl 0 rfl) ?_
                                    refine x_ldI E h (ia_mo_joined g) (i := nI i82_3) (vp_in_nI (by omega) (by decide)) (v := nI n95) ((congrArg (t82.2.2 87) (nI_clamp (n := i82_3) (by omega))).trans e95) dX12_join_309 ?_
                                    replace hR82 := bd_to hR82 ((congrArg (t82.2.2 87) (nI_clamp (n := i82_3) (by omega))).trans e95)
                                    obtain ⟨n98, b98, e98⟩ := hI_82.2 85 8 rfl n95
                                    refine x_ldI E h (ia_mo_heap g) (i := nI n95) (vp_in_nI (by omega) (by decide)) (v := nI n98) ((congrArg (t82.2.2 85) (nI_clamp (n := n95) (by omega))).trans e98) dX12_join_310 ?_
                                    replace hR82 := bd_to hR82 ((congrArg (t82.2.2 85) (nI_clamp (n := n95) (by omega))).trans e98)
                                    refine y_stI E h hI_82 hF_82 (ia_mo_heap g) (i := nI i82_3) (vp_in_nI (by omega) (by decide)) (j := i82_3) (nI_clamp (by omega)) (ba_some rfl (Bd.mk (n := n98) (by omega))) rfl dX12_join_311 (fun s99 H locs q99 hI99 hF99 h => ?_)
                                    replace hR82 := st_to hR82 (nI_clamp (n := i82_3) (by omega)) q99
                                    have e100 : s99.1 35 = nI F35 := (congrArg (fun t : ST => t.1 35) q99).trans e83
                                    refine lv_iload_n hx hb dX12_join_312 rfl (lv_at hl 1 rfl) ?_
                                    refine lv_aload_n hx hb dX12_join_313 rfl (lv_at hl 5 rfl) ?_
                                    refine x_getR E h (fr_mo_joined g) rfl hwX12 (by decide) (by decide +kernel) dX12_join_314 ?_
                                    refine lv_iload_n hx hb dX12_join_317 rfl (lv_at hl 0 rfl) ?_
                                    obtain ⟨n101, b101, e101⟩ := hI99.2 87 8 rfl i82_3
                                    refine x_ldI E h (ia_mo_joined g) (i := nI i82_3) (vp_in_nI (by omega) (by decide)) (v := nI n101) ((congrArg (s99.2.2 87) (nI_clamp (n := i82_3) (by omega))).trans e101) dX12_join_318 ?_
                                    replace hR82 := bd_to hR82 ((congrArg (s99.2.2 87) (nI_clamp (n := i82_3) (by omega))).trans e101)
                                    refine lv_iload_n hx hb dX12_join_319 rfl (lv_at hl 0 rfl) ?_
                                    refine lv_icmp_ne (tgt := 327) hx hb dX12_join_320 (by decide) (fun c102 => ?_) (fun c102 => ?_)
                                    · skip
                                      replace hR82 := it_f hR82 c102
                                      have b103 : ¬ n101 = i82_3 := y_ne (a := n101) (b := i82_3) (by omega) (by omega) c102
                                      refine lv_iconst (v := 0) hx hb dX12_join_327 (by decide) ?_
                                      replace hR82 : fX12_join_0b328 (fX12_join_0l273 fu82) (nI i82_3) 0 (nI i82_2) s99 = R := hR82
                                      refine lv_iadd hx hb dX12_join_328 ?_
                                      refine x_topI (v2 := nI (i82_2 + 0)) (nI_add i82_2 0) ?_
                                      replace hR82 := bd_to hR82 (nI_add i82_2 0)
                                      refine lv_istore_n (lv' := [(2, .int (nI (i82_2 + 0))), (3, .int (nI i82_3)), (5, .int (nI i45_5)), (1, .int 0), (4, .int i40_4), (0, .ref (g.2.1 79))]) hx hb dX12_join_329 rfl hl (by decide) rfl (fun ls hl => ?_)
                                      replace hR82 := bd_to hR82 (nI_add i82_3 1)
                                      refine lv_iinc (v := (nI (i82_3 + 1))) (lv' := [(3, .int (nI (i82_3 + 1))), (2, .int (nI (i82_2 + 0))), (5, .int (nI i45_5)), (1, .int 0), (4, .int i40_4), (0, .ref (g.2.1 79))]) hx hb dX12_join_330 hl (k := 1) rfl (nI_add i82_3 1) (by decide) rfl (fun ls hl => ?_)
                                      refine lv_goto (tgt := 273) hx hb dX12_join_333 (by decide) ?_
                                      exact ih82 s99 (i82_3 + 1) (i82_2 + 0) hI99 hF99 e100 (by omega) (by omega) hR82 (by omega) _ _ _ h (lv_sub hl [0, 1, 2, 3, 4, 5] rfl)
                                    · skip
                                      replace hR82 := it_t hR82 c102
                                      have b104 : n101 = i82_3 := y_eq (a := n101) (b := i82_3) (by omega) (by omega) c102
                                      refine lv_iconst (v := 1) hx hb dX12_join_323 (by decide) ?_
                                      refine lv_goto (tgt := 328) hx hb dX12_join_324 (by decide) ?_
                                      replace hR82 : fX12_join_0b328 (fX12_join_0l273 fu82) (nI i82_3) 1 (nI i82_2) s99 = R := hR82
                                      refine lv_iadd hx hb dX12_join_328 ?_
                                      refine x_topI (v2 := nI (i82_2 + 1)) (nI_add i82_2 1) ?_
                                      replace hR82 := bd_to hR82 (nI_add i82_2 1)
                                      refine lv_istore_n (lv' := [(2, .int (nI (i82_2 + 1))), (3, .int (nI i82_3)), (5, .int (nI i45_5)), (1, .int 0), (4, .int i40_4), (0, .ref (g.2.1 79))]) hx hb dX12_join_329 rfl hl (by decide) rfl (fun ls hl => ?_)
                                      replace hR82 := bd_to hR82 (nI_add i82_3 1)
                                      refine lv_iinc (v := (nI (i82_3 + 1))) (lv' := [(3, .int (nI (i82_3 + 1))), (2, .int (nI (i82_2 + 1))), (5, .int (nI i45_5)), (1, .int 0), (4, .int i40_4), (0, .ref (g.2.1 79))]) hx hb dX12_join_330 hl (k := 1) rfl (nI_add i82_3 1) (by decide) rfl (fun ls hl => ?_)
                                      refine lv_goto (tgt := 273) hx hb dX12_join_333 (by decide) ?_
                                      exact ih82 s99 (i82_3 + 1) (i82_2 + 1) hI99 hF99 e100 (by omega) (by omega) hR82 (by omega) _ _ _ h (lv_sub hl [0, 1, 2, 3, 4, 5] rfl)
                                  · skip
                                    replace hR82 := it_t hR82 c96
                                    have b105 : n95 = i82_3 := y_eq (a := n95) (b := i82_3) (by omega) (by omega) c96
                                    refine lv_iload_n hx hb dX12_join_296 rfl (lv_at hl 1 rfl) ?_
                                    refine lv_goto (tgt := 311) hx hb dX12_join_297 (by decide) ?_
                                    replace hR82 : fX12_join_0b311 (fX12_join_0l273 fu82) (nI i82_2) (nI i82_3) (nI i82_2) (nI i82_3) t82 = R := hR82
                                    refine y_stI E h hI_82 hF_82 (ia_mo_heap g) (i := nI i82_3) (vp_in_nI (by omega) (by decide)) (j := i82_3) (nI_clamp (by omega)) (ba_some rfl (Bd.mk (n := i82_2) (by omega))) rfl dX12_join_311 (fun s106 H locs q106 hI106 hF106 h => ?_)
                                    replace hR82 := st_to hR82 (nI_clamp (n := i82_3) (by omega)) q106
                                    have e107 : s106.1 35 = nI F35 := (congrArg (fun t : ST => t.1 35) q106).trans e83
                                    refine lv_iload_n hx hb dX12_join_312 rfl (lv_at hl 1 rfl) ?_
                                    refine lv_aload_n hx hb dX12_join_313 rfl (lv_at hl 5 rfl) ?_
                                    refine x_getR E h (fr_mo_joined g) rfl hwX12 (by decide) (by decide +kernel) dX12_join_314 ?_
                                    refine lv_iload_n hx hb dX12_join_317 rfl (lv_at hl 0 rfl) ?_
                                    obtain ⟨n108, b108, e108⟩ := hI106.2 87 8 rfl i82_3
                                    refine x_ldI E h (ia_mo_joined g) (i := nI i82_3) (vp_in_nI (by omega) (by decide)) (v := nI n108) ((congrArg (s106.2.2 87) (nI_clamp (n := i82_3) (by omega))).trans e108) dX12_join_318 ?_
                                    replace hR82 := bd_to hR82 ((congrArg (s106.2.2 87) (nI_clamp (n := i82_3) (by omega))).trans e108)
                                    refine lv_iload_n hx hb dX12_join_319 rfl (lv_at hl 0 rfl) ?_
                                    refine lv_icmp_ne (tgt := 327) hx hb dX12_join_320 (by decide) (fun c109 => ?_) (fun c109 => ?_)
                                    · skip
                                      replace hR82 := it_f hR82 c109
                                      have b110 : ¬ n108 = i82_3 := y_ne (a := n108) (b := i82_3) (by omega) (by omega) c109
                                      refine lv_iconst (v := 0) hx hb dX12_join_327 (by decide) ?_
                                      replace hR82 : fX12_join_0b328 (fX12_join_0l273 fu82) (nI i82_3) 0 (nI i82_2) s106 = R := hR82
                                      refine lv_iadd hx hb dX12_join_328 ?_
                                      refine x_topI (v2 := nI (i82_2 + 0)) (nI_add i82_2 0) ?_
                                      replace hR82 := bd_to hR82 (nI_add i82_2 0)
                                      refine lv_istore_n (lv' := [(2, .int (nI (i82_2 + 0))), (3, .int (nI i82_3)), (5, .int (nI i45_5)), (1, .int 0), (4, .int i40_4), (0, .ref (g.2.1 79))]) hx hb dX12_join_329 rfl hl (by decide) rfl (fun ls hl => ?_)
                                      replace hR82 := bd_to hR82 (nI_add i82_3 1)
                                      refine lv_iinc (v := (nI (i82_3 + 1))) (lv' := [(3, .int (nI (i82_3 + 1))), (2, .int (nI (i82_2 + 0))), (5, .int (nI i45_5)), (1, .int 0), (4, .int i40_4), (0, .ref (g.2.1 79))]) hx hb dX12_join_330 hl (k := 1) rfl (nI_add i82_3 1) (by decide) rfl (fun ls hl => ?_)
                                      refine lv_goto (tgt := 273) hx hb dX12_join_333 (by decide) ?_
                                      exact ih82 s106 (i82_3 + 1) (i82_2 + 0) hI106 hF106 e107 (by omega) (by omega) hR82 (by omega) _ _ _ h (lv_sub hl [0, 1, 2, 3, 4, 5] rfl)
                                    · skip
                                      replace hR82 := it_t hR82 c109
                                      have b111 : n108 = i82_3 := y_eq (a := n108) (b := i82_3) (by omega) (by omega) c109
                                      refine lv_iconst (v := 1) hx hb dX12_join_323 (by decide) ?_
                                      refine lv_goto (tgt := 328) hx hb dX12_join_324 (by decide) ?_
                                      replace hR82 : fX12_join_0b328 (fX12_join_0l273 fu82) (nI i82_3) 1 (nI i82_2) s106 = R := hR82
                                      refine lv_iadd hx hb dX12_join_328 ?_
                                      refine x_topI (v2 := nI (i82_2 + 1)) (nI_add i82_2 1) ?_
                                      replace hR82 := bd_to hR82 (nI_add i82_2 1)
                                      refine lv_istore_n (lv' := [(2, .int (nI (i82_2 + 1))), (3, .int (nI i82_3)), (5, .int (nI i45_5)), (1, .int 0), (4, .int i40_4), (0, .ref (g.2.1 79))]) hx hb dX12_join_329 rfl hl (by decide) rfl (fun ls hl => ?_)
                                      replace hR82 := bd_to hR82 (nI_add i82_3 1)
                                      refine lv_iinc (v := (nI (i82_3 + 1))) (lv' := [(3, .int (nI (i82_3 + 1))), (2, .int (nI (i82_2 + 1))), (5, .int (nI i45_5)), (1, .int 0), (4, .int i40_4), (0, .ref (g.2.1 79))]) hx hb dX12_join_330 hl (k := 1) rfl (nI_add i82_3 1) (by decide) rfl (fun ls hl => ?_)
                                      refine lv_goto (tgt := 273) hx hb dX12_join_333 (by decide) ?_
                                      exact ih82 s106 (i82_3 + 1) (i82_2 + 1) hI106 hF106 e107 (by omega) (by omega) hR82 (by omega) _ _ _ h (lv_sub hl [0, 1, 2, 3, 4, 5] rfl)
                            exact loop273_82 4096 t45 0 0 hI_45 hF_45 e46 (Nat.zero_le _) (Nat.zero_le _) hR45 (by omega) _ _ _ h (lv_sub hl [0, 1, 2, 3, 4, 5] rfl)
                      exact loop218_45 4096 t5 0 hI_5 hF_5 e6 (Nat.zero_le _) hR40 (by omega) _ _ _ h (lv_sub hl [0, 1, 2, 3, 4, 5] rfl)
                    · skip
                      replace hR40 := it_f hR40 c43
                      obtain ⟨a113, b113, c113, d113, rfl, rfl, e113, f113⟩ := JO.ne jo_40 c43
                      refine lv_iconst (v := 1) hx hb dX12_join_209 (by decide) ?_
                      refine lv_goto (tgt := 214) hx hb dX12_join_210 (by decide) ?_
                      replace hR40 : fX12_join_0b214 (fX12_join_0l25 fu5) (nI a113) (nI b113) 1 t5 = R := hR40
                      refine lv_istore_n (lv' := [(1, .int 1), (5, .int (nI i40_5)), (4, .int i40_4), (3, .int (nI b113)), (2, .int (nI a113)), (0, .ref (g.2.1 79))]) hx hb dX12_join_214 rfl hl (by decide) rfl (fun ls hl => ?_)
                      refine lv_iconst (v := 0) hx hb dX12_join_215 (by decide) ?_
                      refine lv_istore (lv' := [(5, .int 0), (1, .int 1), (4, .int i40_4), (3, .int (nI b113)), (2, .int (nI a113)), (0, .ref (g.2.1 79))]) hx hb dX12_join_216 hl (by decide) rfl (fun ls hl => ?_)
                      have loop218_114 : ∀ (fu : Nat) (t114 : ST) (i114_5 : Nat), INV t114 → Fr [] [(85, 85), (87, 87)] σ t114 → t114.1 35 = nI F35 → i114_5 ≤ F35 → MG (t5.2.2 87) (t114.2.2 87) i114_5 a113 b113 → fX12_join_0l218 (fX12_join_0l25 fu5) fu 1 (nI a113) (nI b113) (nI i114_5) t114 = R → F35 - i114_5 < fu → ∀ (H : Heap) (locs : List Loc) (ls : Array Slot), HW g t114 s H locs → lv_has ls 10 [(5, .int (nI i114_5)), (1, .int 1), (4, .int i40_4), (3, .int (nI b113)), (2, .int (nI a113)), (0, .ref (g.2.1 79))] → W p l e { frames := 0, cells := 0, slots := 0, locals := 0 } s m args below meth c H locs 0 0 (MQ below PQz args s 0 0 (Aw g)) (F0 m 218 ls []) := by
                        intro fu114
                        induction fu114 with
                        | zero => intro t114 i114_5 hI_114 hF_114 e115 bi114_5 mg_114 hR114 hm; exact absurd hm (Nat.not_lt_zero _)
                        | succ fu114 ih =>
                          have ih114 := ih
                          clear ih
                          intro t114 i114_5 hI_114 hF_114 e115 bi114_5 mg_114 hR114 hm114 H locs ls h hl
                          replace hR114 : fX12_join_0b218 (fX12_join_0l25 fu5) (fX12_join_0l218 (fX12_join_0l25 fu5) fu114) 1 (nI a113) (nI b113) (nI i114_5) t114 = R := hR114
                          refine lv_iload hx hb dX12_join_218 (lv_at hl 0 rfl) ?_
                          refine lv_aload_n hx hb dX12_join_220 rfl (lv_at hl 5 rfl) ?_
                          refine x_getI E h (fi_mo_pieces g) rfl hwX12 (by decide) (by decide +kernel) (v := nI F35) e115 dX12_join_221 ?_
                          replace hR114 := bd_to hR114 e115
                          refine lv_icmp_ge (tgt := 266) hx hb dX12_join_224 (by decide) (fun c116 => ?_) (fun c116 => ?_)
                          · skip
                            replace hR114 := it_t hR114 c116
                            have b117 : F35 ≤ i114_5 := y_le (a := F35) (b := i114_5) (by omega) (by omega) c116
                            refine lv_goto (tgt := 25) hx hb dX12_join_266 (by decide) ?_
                            exact ih5 t114 1 hI_114 hF_114 e115 hR114 (by have h1 := fx_lt mg_114 (P := F35) (by omega) c113 d113 (by omega) e113 f113; have h3 := hm5; omega) _ _ _ h (lv_sub hl [1, 5] rfl)
                          · skip
                            replace hR114 := it_f hR114 c116
                            have b118 : i114_5 < F35 := y_nle (a := F35) (b := i114_5) (by omega) (by omega) c116
                            refine lv_iload_n hx hb dX12_join_227 rfl (lv_at hl 1 rfl) ?_
                            replace hR114 := it_f hR114 (by decide)
                            refine lv_if_eq (tgt := 266) hx hb dX12_join_228 (by decide) (fun c => absurd c (by decide)) (fun _ => ?_)
                            refine lv_aload_n hx hb dX12_join_231 rfl (lv_at hl 5 rfl) ?_
                            refine x_getR E h (fr_mo_joined g) rfl hwX12 (by decide) (by decide +kernel) dX12_join_232 ?_
                            refine lv_iload hx hb dX12_join_235 (lv_at hl 0 rfl) ?_
                            refine lv_aload_n hx hb dX12_join_237 rfl (lv_at hl 5 rfl) ?_
                            refine x_getR E h (fr_mo_joined g) rfl hwX12 (by decide) (by decide +kernel) dX12_join_238 ?_
                            refine lv_iload hx hb dX12_join_241 (lv_at hl 0 rfl) ?_
                            obtain ⟨n119, b119, e119⟩ := hI_114.2 87 8 rfl i114_5
                            refine x_ldI E h (ia_mo_joined g) (i := nI i114_5) (vp_in_nI (by omega) (by decide)) (v := nI n119) ((congrArg (t114.2.2 87) (nI_clamp (n := i114_5) (by omega))).trans e119) dX12_join_243 ?_
                            replace hR114 := bd_to hR114 ((congrArg (t114.2.2 87) (nI_clamp (n := i114_5) (by omega))).trans e119)
                            refine lv_iload_n hx hb dX12_join_244 rfl (lv_at hl 3 rfl) ?_
                            refine lv_icmp_ne (tgt := 252) hx hb dX12_join_245 (by decide) (fun c120 => ?_) (fun c120 => ?_)
                            · skip
                              replace hR114 := it_f hR114 c120
                              have b121 : ¬ n119 = b113 := y_ne (a := n119) (b := b113) (by omega) (by omega) c120
                              refine lv_aload_n hx hb dX12_join_252 rfl (lv_at hl 5 rfl) ?_
                              refine x_getR E h (fr_mo_joined g) rfl hwX12 (by decide) (by decide +kernel) dX12_join_253 ?_
                              refine lv_iload hx hb dX12_join_256 (lv_at hl 0 rfl) ?_
                              refine x_ldI E h (ia_mo_joined g) (i := nI i114_5) (vp_in_nI (by omega) (by decide)) (v := nI n119) ((congrArg (t114.2.2 87) (nI_clamp (n := i114_5) (by omega))).trans e119) dX12_join_258 ?_
                              replace hR114 := bd_to hR114 ((congrArg (t114.2.2 87) (nI_clamp (n := i114_5) (by omega))).trans e119)
                              refine y_stI E h hI_114 hF_114 (ia_mo_joined g) (i := nI i114_5) (vp_in_nI (by omega) (by decide)) (j := i114_5) (nI_clamp (by omega)) (ba_some rfl (Bd.mk (n := n119) (by omega))) rfl dX12_join_259 (fun s122 H locs q122 hI122 hF122 h => ?_)
                              replace hR114 := st_to hR114 (nI_clamp (n := i114_5) (by omega)) q122
                              have e123 : s122.1 35 = nI F35 := (congrArg (fun t : ST => t.1 35) q122).trans e115
                              have a124 := MG.s2 mg_114 (show s122.2.2 87 = upd (t114.2.2 87) i114_5 (nI n119) from congrArg (fun t : ST => t.2.2 87) q122) e119 (by omega) (by omega) (by omega)
                              replace hR114 := bd_to hR114 (nI_add i114_5 1)
                              refine lv_iinc (v := (nI (i114_5 + 1))) (lv' := [(5, .int (nI (i114_5 + 1))), (1, .int 1), (4, .int i40_4), (3, .int (nI b113)), (2, .int (nI a113)), (0, .ref (g.2.1 79))]) hx hb dX12_join_260 hl (k := 0) rfl (nI_add i114_5 1) (by decide) rfl (fun ls hl => ?_)
                              refine lv_goto (tgt := 218) hx hb dX12_join_263 (by decide) ?_
                              exact ih114 s122 (i114_5 + 1) hI122 hF122 e123 (by omega) a124 hR114 (by omega) _ _ _ h (lv_sub hl [0, 1, 2, 3, 4, 5] rfl)
                            · skip
                              replace hR114 := it_t hR114 c120
                              have b125 : n119 = b113 := y_eq (a := n119) (b := b113) (by omega) (by omega) c120
                              refine lv_iload_n hx hb dX12_join_248 rfl (lv_at hl 4 rfl) ?_
                              refine lv_goto (tgt := 259) hx hb dX12_join_249 (by decide) ?_
                              replace hR114 : fX12_join_0b259 (fX12_join_0l25 fu5) (fX12_join_0l218 (fX12_join_0l25 fu5) fu114) 1 (nI a113) (nI b113) (nI i114_5) (nI a113) (nI i114_5) t114 = R := hR114
                              refine y_stI E h hI_114 hF_114 (ia_mo_joined g) (i := nI i114_5) (vp_in_nI (by omega) (by decide)) (j := i114_5) (nI_clamp (by omega)) (ba_some rfl (Bd.mk (n := a113) (by omega))) rfl dX12_join_259 (fun s126 H locs q126 hI126 hF126 h => ?_)
                              replace hR114 := st_to hR114 (nI_clamp (n := i114_5) (by omega)) q126
                              have e127 : s126.1 35 = nI F35 := (congrArg (fun t : ST => t.1 35) q126).trans e115
                              have a128 := MG.s1 mg_114 (show s126.2.2 87 = upd (t114.2.2 87) i114_5 (nI a113) from congrArg (fun t : ST => t.2.2 87) q126) e119 (by omega)
                              replace hR114 := bd_to hR114 (nI_add i114_5 1)
                              refine lv_iinc (v := (nI (i114_5 + 1))) (lv' := [(5, .int (nI (i114_5 + 1))), (1, .int 1), (4, .int i40_4), (3, .int (nI b113)), (2, .int (nI a113)), (0, .ref (g.2.1 79))]) hx hb dX12_join_260 hl (k := 0) rfl (nI_add i114_5 1) (by decide) rfl (fun ls hl => ?_)
                              refine lv_goto (tgt := 218) hx hb dX12_join_263 (by decide) ?_
                              exact ih114 s126 (i114_5 + 1) hI126 hF126 e127 (by omega) a128 hR114 (by omega) _ _ _ h (lv_sub hl [0, 1, 2, 3, 4, 5] rfl)
                      exact loop218_114 4096 t5 0 hI_5 hF_5 e6 (Nat.zero_le _) MG.zero hR40 (by omega) _ _ _ h (lv_sub hl [0, 1, 2, 3, 4, 5] rfl)
                  · skip
                    replace hR40 := it_f hR40 c41
                    have b129 : i40_5 < F35 := y_nle (a := F35) (b := i40_5) (by omega) (by omega) c41
                    refine lv_iload hx hb dX12_join_50 (lv_at hl 0 rfl) ?_
                    refine lv_iconst (v := 1) hx hb dX12_join_52 (by decide) ?_
                    refine lv_iadd hx hb dX12_join_53 ?_
                    refine x_topI (v2 := nI (i40_5 + 1)) (nI_add i40_5 1) ?_
                    replace hR40 := bd_to hR40 (nI_add i40_5 1)
                    refine lv_istore (lv' := [(6, .int (nI (i40_5 + 1))), (5, .int (nI i40_5)), (4, .int i40_4), (3, .int i40_3), (2, .int i40_2), (1, .int i5_1), (0, .ref (g.2.1 79))]) hx hb dX12_join_54 hl (by decide) rfl (fun ls hl => ?_)
                    have loop56_130 : ∀ (fu : Nat) (i130_6 : Nat) (i130_4 : Int32) (i130_3 : Int32) (i130_2 : Int32), i130_6 ≤ F35 → i40_5 < i130_6 → JO i130_2 i130_3 F35 (t5.2.2 87) → fX12_join_0l56 (fX12_join_0l25 fu5) (fX12_join_0l41 (fX12_join_0l25 fu5) fu40) fu i130_2 i130_3 i130_4 (nI i40_5) (nI i130_6) t5 = R → F35 - i130_6 < fu → ∀ (H : Heap) (locs : List Loc) (ls : Array Slot), HW g t5 s H locs → lv_has ls 10 [(6, .int (nI i130_6)), (5, .int (nI i40_5)), (4, .int i130_4), (3, .int i130_3), (2, .int i130_2), (1, .int i5_1), (0, .ref (g.2.1 79))] → W p l e { frames := 0, cells := 0, slots := 0, locals := 0 } s m args below meth c H locs 0 0 (MQ below PQz args s 0 0 (Aw g)) (F0 m 56 ls []) := by
                      intro fu130
                      induction fu130 with
                      | zero => intro i130_6 i130_4 i130_3 i130_2 bi130_6 pp130_0 jo_130 hR130 hm; exact absurd hm (Nat.not_lt_zero _)
                      | succ fu130 ih =>
                        have ih130 := ih
                        clear ih
                        intro i130_6 i130_4 i130_3 i130_2 bi130_6 pp130_0 jo_130 hR130 hm130 H locs ls h hl
                        replace hR130 : fX12_join_0b56 (fX12_join_0l25 fu5) (fX12_join_0l41 (fX12_join_0l25 fu5) fu40) (fX12_join_0l56 (fX12_join_0l25 fu5) (fX12_join_0l41 (fX12_join_0l25 fu5) fu40) fu130) i130_2 i130_3 i130_4 (nI i40_5) (nI i130_6) t5 = R := hR130
                        refine lv_iload hx hb dX12_join_56 (lv_at hl 0 rfl) ?_
                        refine lv_aload_n hx hb dX12_join_58 rfl (lv_at hl 6 rfl) ?_
                        refine x_getI E h (fi_mo_pieces g) rfl hwX12 (by decide) (by decide +kernel) (v := nI F35) e6 dX12_join_59 ?_
                        replace hR130 := bd_to hR130 e6
                        refine lv_icmp_ge (tgt := 197) hx hb dX12_join_62 (by decide) (fun c131 => ?_) (fun c131 => ?_)
                        · skip
                          replace hR130 := it_t hR130 c131
                          have b132 : F35 ≤ i130_6 := y_le (a := F35) (b := i130_6) (by omega) (by omega) c131
                          replace hR130 := bd_to hR130 (nI_add i40_5 1)
                          refine lv_iinc (v := (nI (i40_5 + 1))) (lv' := [(5, .int (nI (i40_5 + 1))), (6, .int (nI i130_6)), (4, .int i130_4), (3, .int i130_3), (2, .int i130_2), (1, .int i5_1), (0, .ref (g.2.1 79))]) hx hb dX12_join_197 hl (k := 1) rfl (nI_add i40_5 1) (by decide) rfl (fun ls hl => ?_)
                          refine lv_goto (tgt := 41) hx hb dX12_join_200 (by decide) ?_
                          exact ih40 (i40_5 + 1) i130_4 i130_3 i130_2 (by omega) jo_130 hR130 (by omega) _ _ _ h (lv_sub hl [0, 2, 3, 4, 5, 6] rfl)
                        · skip
                          replace hR130 := it_f hR130 c131
                          have b133 : i130_6 < F35 := y_nle (a := F35) (b := i130_6) (by omega) (by omega) c131
                          refine lv_aload_n hx hb dX12_join_65 rfl (lv_at hl 6 rfl) ?_
                          refine x_getR E h (fr_mo_joined g) rfl hwX12 (by decide) (by decide +kernel) dX12_join_66 ?_
                          refine lv_iload hx hb dX12_join_69 (lv_at hl 1 rfl) ?_
                          obtain ⟨n134, b134, e134⟩ := hI_5.2 87 8 rfl i40_5
                          refine x_ldI E h (ia_mo_joined g) (i := nI i40_5) (vp_in_nI (by omega) (by decide)) (v := nI n134) ((congrArg (t5.2.2 87) (nI_clamp (n := i40_5) (by omega))).trans e134) dX12_join_71 ?_
                          replace hR130 := bd_to hR130 ((congrArg (t5.2.2 87) (nI_clamp (n := i40_5) (by omega))).trans e134)
                          refine lv_iload hx hb dX12_join_72 (lv_at hl 1 rfl) ?_
                          have j191_137 : ∀ (y137_l4 : Int32) (y137_l3 : Int32) (y137_l2 : Int32), JO y137_l2 y137_l3 F35 (t5.2.2 87) → fX12_join_0b191 (fX12_join_0l25 fu5) (fX12_join_0l41 (fX12_join_0l25 fu5) fu40) (fX12_join_0l56 (fX12_join_0l25 fu5) (fX12_join_0l41 (fX12_join_0l25 fu5) fu40) fu130) y137_l2 y137_l3 y137_l4 (nI i40_5) (nI i130_6) t5 = R → ∀ (H : Heap) (locs : List Loc) (ls : Array Slot), HW g t5 s H locs → lv_has ls 10 [(6, .int (nI i130_6)), (5, .int (nI i40_5)), (4, .int y137_l4), (3, .int y137_l3), (2, .int y137_l2), (1, .int i5_1), (0, .ref (g.2.1 79))] → W p l e { frames := 0, cells := 0, slots := 0, locals := 0 } s m args below meth c H locs 0 0 (MQ below PQz args s 0 0 (Aw g)) (F0 m 191 ls []) := by
                            intro y137_l4 y137_l3 y137_l2 a138 hR137 H locs ls h hl
                            replace hR137 := bd_to hR137 (nI_add i130_6 1)
                            refine lv_iinc (v := (nI (i130_6 + 1))) (lv' := [(6, .int (nI (i130_6 + 1))), (5, .int (nI i40_5)), (4, .int y137_l4), (3, .int y137_l3), (2, .int y137_l2), (1, .int i5_1), (0, .ref (g.2.1 79))]) hx hb dX12_join_191 hl (k := 0) rfl (nI_add i130_6 1) (by decide) rfl (fun ls hl => ?_)
                            refine lv_goto (tgt := 56) hx hb dX12_join_194 (by decide) ?_
                            exact ih130 (i130_6 + 1) y137_l4 y137_l3 y137_l2 (by omega) (by omega) a138 hR137 (by omega) _ _ _ h (lv_sub hl [0, 1, 2, 3, 4, 5, 6] rfl)
                          refine lv_icmp_ne (tgt := 191) hx hb dX12_join_74 (by decide) (fun c135 => ?_) (fun c135 => ?_)
                          · skip
                            replace hR130 := it_f hR130 c135
                            have b136 : ¬ n134 = i40_5 := y_ne (a := n134) (b := i40_5) (by omega) (by omega) c135
                            exact j191_137 i130_4 i130_3 i130_2 jo_130 hR130 _ _ _ h (lv_sub hl [0, 1, 2, 3, 4, 5, 6] rfl)
                          · skip
                            replace hR130 := it_t hR130 c135
                            have b139 : n134 = i40_5 := y_eq (a := n134) (b := i40_5) (by omega) (by omega) c135
                            refine lv_aload_n hx hb dX12_join_77 rfl (lv_at hl 6 rfl) ?_
                            refine x_getR E h (fr_mo_joined g) rfl hwX12 (by decide) (by decide +kernel) dX12_join_78 ?_
                            refine lv_iload hx hb dX12_join_81 (lv_at hl 0 rfl) ?_
                            obtain ⟨n140, b140, e140⟩ := hI_5.2 87 8 rfl i130_6
                            refine x_ldI E h (ia_mo_joined g) (i := nI i130_6) (vp_in_nI (by omega) (by decide)) (v := nI n140) ((congrArg (t5.2.2 87) (nI_clamp (n := i130_6) (by omega))).trans e140) dX12_join_83 ?_
                            replace hR130 := bd_to hR130 ((congrArg (t5.2.2 87) (nI_clamp (n := i130_6) (by omega))).trans e140)
                            refine lv_iload hx hb dX12_join_84 (lv_at hl 0 rfl) ?_
                            refine lv_icmp_ne (tgt := 191) hx hb dX12_join_86 (by decide) (fun c141 => ?_) (fun c141 => ?_)
                            · skip
                              replace hR130 := it_f hR130 c141
                              have b142 : ¬ n140 = i130_6 := y_ne (a := n140) (b := i130_6) (by omega) (by omega) c141
                              exact j191_137 i130_4 i130_3 i130_2 jo_130 hR130 _ _ _ h (lv_sub hl [0, 1, 2, 3, 4, 5, 6] rfl)
                            · skip
                              replace hR130 := it_t hR130 c141
                              have b143 : n140 = i130_6 := y_eq (a := n140) (b := i130_6) (by omega) (by omega) c141
                              refine lv_iconst (v := 0) hx hb dX12_join_89 (by decide) ?_
                              refine lv_istore (lv' := [(7, .int 0), (6, .int (nI i130_6)), (5, .int (nI i40_5)), (4, .int i130_4), (3, .int i130_3), (2, .int i130_2), (1, .int i5_1), (0, .ref (g.2.1 79))]) hx hb dX12_join_90 hl (by decide) rfl (fun ls hl => ?_)
                              refine lv_iconst (v := 0) hx hb dX12_join_92 (by decide) ?_
                              refine lv_istore (lv' := [(8, .int 0), (7, .int 0), (6, .int (nI i130_6)), (5, .int (nI i40_5)), (4, .int i130_4), (3, .int i130_3), (2, .int i130_2), (1, .int i5_1), (0, .ref (g.2.1 79))]) hx hb dX12_join_93 hl (by decide) rfl (fun ls hl => ?_)
                              have loop95_144 : ∀ (fu : Nat) (i144_8 : Nat) (i144_7 : Int32), i144_8 ≤ F35 → fX12_join_0l95 (fX12_join_0l25 fu5) (fX12_join_0l41 (fX12_join_0l25 fu5) fu40) (fX12_join_0l56 (fX12_join_0l25 fu5) (fX12_join_0l41 (fX12_join_0l25 fu5) fu40) fu130) fu i130_2 i130_3 i130_4 (nI i40_5) (nI i130_6) i144_7 (nI i144_8) t5 = R → F35 - i144_8 < fu → ∀ (H : Heap) (locs : List Loc) (ls : Array Slot), HW g t5 s H locs → lv_has ls 10 [(8, .int (nI i144_8)), (7, .int i144_7), (6, .int (nI i130_6)), (5, .int (nI i40_5)), (4, .int i130_4), (3, .int i130_3), (2, .int i130_2), (1, .int i5_1), (0, .ref (g.2.1 79))] → W p l e { frames := 0, cells := 0, slots := 0, locals := 0 } s m args below meth c H locs 0 0 (MQ below PQz args s 0 0 (Aw g)) (F0 m 95 ls []) := by
                                intro fu144
                                induction fu144 with
                                | zero => intro i144_8 i144_7 bi144_8 hR144 hm; exact absurd hm (Nat.not_lt_zero _)
                                | succ fu144 ih =>
                                  have ih144 := ih
                                  clear ih
                                  intro i144_8 i144_7 bi144_8 hR144 hm144 H locs ls h hl
                                  replace hR144 : fX12_join_0b95 (fX12_join_0l25 fu5) (fX12_join_0l41 (fX12_join_0l25 fu5) fu40) (fX12_join_0l56 (fX12_join_0l25 fu5) (fX12_join_0l41 (fX12_join_0l25 fu5) fu40) fu130) (fX12_join_0l95 (fX12_join_0l25 fu5) (fX12_join_0l41 (fX12_join_0l25 fu5) fu40) (fX12_join_0l56 (fX12_join_0l25 fu5) (fX12_join_0l41 (fX12_join_0l25 fu5) fu40) fu130) fu144) i130_2 i130_3 i130_4 (nI i40_5) (nI i130_6) i144_7 (nI i144_8) t5 = R := hR144
                                  refine lv_iload hx hb dX12_join_95 (lv_at hl 0 rfl) ?_
                                  refine lv_aload_n hx hb dX12_join_97 rfl (lv_at hl 8 rfl) ?_
                                  refine x_getI E h (fi_mo_pieces g) rfl hwX12 (by decide) (by decide +kernel) (v := nI F35) e6 dX12_join_98 ?_
                                  replace hR144 := bd_to hR144 e6
                                  refine lv_icmp_ge (tgt := 174) hx hb dX12_join_101 (by decide) (fun c145 => ?_) (fun c145 => ?_)
                                  · skip
                                    replace hR144 := it_t hR144 c145
                                    have b146 : F35 ≤ i144_8 := y_le (a := F35) (b := i144_8) (by omega) (by omega) c145
                                    refine lv_iload hx hb dX12_join_174 (lv_at hl 1 rfl) ?_
                                    refine lv_iload hx hb dX12_join_176 (lv_at hl 4 rfl) ?_
                                    refine lv_icmp_le (tgt := 191) hx hb dX12_join_178 (by decide) (fun c147 => ?_) (fun c147 => ?_)
                                    · skip
                                      replace hR144 := it_t hR144 c147
                                      exact j191_137 i130_4 i130_3 i130_2 jo_130 hR144 _ _ _ h (lv_sub hl [2, 3, 4, 5, 6, 7, 8] rfl)
                                    · skip
                                      replace hR144 := it_f hR144 c147
                                      refine lv_iload hx hb dX12_join_181 (lv_at hl 1 rfl) ?_
                                      refine lv_istore (lv' := [(4, .int i144_7), (8, .int (nI i144_8)), (7, .int i144_7), (6, .int (nI i130_6)), (5, .int (nI i40_5)), (3, .int i130_3), (2, .int i130_2), (1, .int i5_1), (0, .ref (g.2.1 79))]) hx hb dX12_join_183 hl (by decide) rfl (fun ls hl => ?_)
                                      refine lv_iload hx hb dX12_join_185 (lv_at hl 4 rfl) ?_
                                      refine lv_istore_n (lv' := [(2, .int (nI i40_5)), (4, .int i144_7), (8, .int (nI i144_8)), (7, .int i144_7), (6, .int (nI i130_6)), (5, .int (nI i40_5)), (3, .int i130_3), (1, .int i5_1), (0, .ref (g.2.1 79))]) hx hb dX12_join_187 rfl hl (by decide) rfl (fun ls hl => ?_)
                                      refine lv_iload hx hb dX12_join_188 (lv_at hl 4 rfl) ?_
                                      refine lv_istore_n (lv' := [(3, .int (nI i130_6)), (2, .int (nI i40_5)), (4, .int i144_7), (8, .int (nI i144_8)), (7, .int i144_7), (6, .int (nI i130_6)), (5, .int (nI i40_5)), (1, .int i5_1), (0, .ref (g.2.1 79))]) hx hb dX12_join_190 rfl hl (by decide) rfl (fun ls hl => ?_)
                                      exact j191_137 i144_7 (nI i130_6) (nI i40_5) (Or.inr ⟨i40_5, i130_6, by omega, by omega, rfl, rfl, e134.trans (congrArg nI (by omega)), e140.trans (congrArg nI (by omega))⟩) hR144 _ _ _ h (lv_sub hl [5, 6, 2, 0, 1, 7, 8] rfl)
                                  · skip
                                    replace hR144 := it_f hR144 c145
                                    have b150 : i144_8 < F35 := y_nle (a := F35) (b := i144_8) (by omega) (by omega) c145
                                    refine lv_iconst (v := 0) hx hb dX12_join_104 (by decide) ?_
                                    refine lv_istore (lv' := [(9, .int 0), (8, .int (nI i144_8)), (7, .int i144_7), (6, .int (nI i130_6)), (5, .int (nI i40_5)), (4, .int i130_4), (3, .int i130_3), (2, .int i130_2), (1, .int i5_1), (0, .ref (g.2.1 79))]) hx hb dX12_join_105 hl (by decide) rfl (fun ls hl => ?_)
                                    have loop107_151 : ∀ (fu : Nat) (i151_9 : Nat) (i151_7 : Int32), i151_9 ≤ F35 → fX12_join_0l107 (fX12_join_0l25 fu5) (fX12_join_0l41 (fX12_join_0l25 fu5) fu40) (fX12_join_0l56 (fX12_join_0l25 fu5) (fX12_join_0l41 (fX12_join_0l25 fu5) fu40) fu130) (fX12_join_0l95 (fX12_join_0l25 fu5) (fX12_join_0l41 (fX12_join_0l25 fu5) fu40) (fX12_join_0l56 (fX12_join_0l25 fu5) (fX12_join_0l41 (fX12_join_0l25 fu5) fu40) fu130) fu144) fu i130_2 i130_3 i130_4 (nI i40_5) (nI i130_6) i151_7 (nI i144_8) (nI i151_9) t5 = R → F35 - i151_9 < fu → ∀ (H : Heap) (locs : List Loc) (ls : Array Slot), HW g t5 s H locs → lv_has ls 10 [(9, .int (nI i151_9)), (8, .int (nI i144_8)), (7, .int i151_7), (6, .int (nI i130_6)), (5, .int (nI i40_5)), (4, .int i130_4), (3, .int i130_3), (2, .int i130_2), (1, .int i5_1), (0, .ref (g.2.1 79))] → W p l e { frames := 0, cells := 0, slots := 0, locals := 0 } s m args below meth c H locs 0 0 (MQ below PQz args s 0 0 (Aw g)) (F0 m 107 ls []) := by
                                      intro fu151
                                      induction fu151 with
                                      | zero => intro i151_9 i151_7 bi151_9 hR151 hm; exact absurd hm (Nat.not_lt_zero _)
                                      | succ fu151 ih =>
                                        have ih151 := ih
                                        clear ih
                                        intro i151_9 i151_7 bi151_9 hR151 hm151 H locs ls h hl
                                        replace hR151 : fX12_join_0b107 (fX12_join_0l25 fu5) (fX12_join_0l41 (fX12_join_0l25 fu5) fu40) (fX12_join_0l56 (fX12_join_0l25 fu5) (fX12_join_0l41 (fX12_join_0l25 fu5) fu40) fu130) (fX12_join_0l95 (fX12_join_0l25 fu5) (fX12_join_0l41 (fX12_join_0l25 fu5) fu40) (fX12_join_0l56 (fX12_join_0l25 fu5) (fX12_join_0l41 (fX12_join_0l25 fu5) fu40) fu130) fu144) (fX12_join_0l107 (fX12_join_0l25 fu5) (fX12_join_0l41 (fX12_join_0l25 fu5) fu40) (fX12_join_0l56 (fX12_join_0l25 fu5) (fX12_join_0l41 (fX12_join_0l25 fu5) fu40) fu130) (fX12_join_0l95 (fX12_join_0l25 fu5) (fX12_join_0l41 (fX12_join_0l25 fu5) fu40) (fX12_join_0l56 (fX12_join_0l25 fu5) (fX12_join_0l41 (fX12_join_0l25 fu5) fu40) fu130) fu144) fu151) i130_2 i130_3 i130_4 (nI i40_5) (nI i130_6) i151_7 (nI i144_8) (nI i151_9) t5 = R := hR151
                                        refine lv_iload hx hb dX12_join_107 (lv_at hl 0 rfl) ?_
                                        refine lv_aload_n hx hb dX12_join_109 rfl (lv_at hl 9 rfl) ?_
                                        refine x_getI E h (fi_mo_pieces g) rfl hwX12 (by decide) (by decide +kernel) (v := nI F35) e6 dX12_join_110 ?_
                                        replace hR151 := bd_to hR151 e6
                                        refine lv_icmp_ge (tgt := 168) hx hb dX12_join_113 (by decide) (fun c152 => ?_) (fun c152 => ?_)
                                        · skip
                                          replace hR151 := it_t hR151 c152
                                          have b153 : F35 ≤ i151_9 := y_le (a := F35) (b := i151_9) (by omega) (by omega) c152
                                          replace hR151 := bd_to hR151 (nI_add i144_8 1)
                                          refine lv_iinc (v := (nI (i144_8 + 1))) (lv' := [(8, .int (nI (i144_8 + 1))), (9, .int (nI i151_9)), (7, .int i151_7), (6, .int (nI i130_6)), (5, .int (nI i40_5)), (4, .int i130_4), (3, .int i130_3), (2, .int i130_2), (1, .int i5_1), (0, .ref (g.2.1 79))]) hx hb dX12_join_168 hl (k := 1) rfl (nI_add i144_8 1) (by decide) rfl (fun ls hl => ?_)
                                          refine lv_goto (tgt := 95) hx hb dX12_join_171 (by decide) ?_
                                          exact ih144 (i144_8 + 1) i151_7 (by omega) hR151 (by omega) _ _ _ h (lv_sub hl [0, 2, 3, 4, 5, 6, 7, 8, 9] rfl)
                                        · skip
                                          replace hR151 := it_f hR151 c152
                                          have b154 : i151_9 < F35 := y_nle (a := F35) (b := i151_9) (by omega) (by omega) c152
                                          refine lv_iload hx hb dX12_join_116 (lv_at hl 2 rfl) ?_
                                          refine lv_aload_n hx hb dX12_join_118 rfl (lv_at hl 9 rfl) ?_
                                          refine x_getR E h (fr_mo_joined g) rfl hwX12 (by decide) (by decide +kernel) dX12_join_119 ?_
                                          refine lv_iload hx hb dX12_join_122 (lv_at hl 1 rfl) ?_
                                          obtain ⟨n155, b155, e155⟩ := hI_5.2 87 8 rfl i144_8
                                          refine x_ldI E h (ia_mo_joined g) (i := nI i144_8) (vp_in_nI (by omega) (by decide)) (v := nI n155) ((congrArg (t5.2.2 87) (nI_clamp (n := i144_8) (by omega))).trans e155) dX12_join_124 ?_
                                          replace hR151 := bd_to hR151 ((congrArg (t5.2.2 87) (nI_clamp (n := i144_8) (by omega))).trans e155)
                                          refine lv_iload hx hb dX12_join_125 (lv_at hl 4 rfl) ?_
                                          have j159_158 : ∀ (y158_s0 : Int32), fX12_join_0b159 (fX12_join_0l25 fu5) (fX12_join_0l41 (fX12_join_0l25 fu5) fu40) (fX12_join_0l56 (fX12_join_0l25 fu5) (fX12_join_0l41 (fX12_join_0l25 fu5) fu40) fu130) (fX12_join_0l95 (fX12_join_0l25 fu5) (fX12_join_0l41 (fX12_join_0l25 fu5) fu40) (fX12_join_0l56 (fX12_join_0l25 fu5) (fX12_join_0l41 (fX12_join_0l25 fu5) fu40) fu130) fu144) (fX12_join_0l107 (fX12_join_0l25 fu5) (fX12_join_0l41 (fX12_join_0l25 fu5) fu40) (fX12_join_0l56 (fX12_join_0l25 fu5) (fX12_join_0l41 (fX12_join_0l25 fu5) fu40) fu130) (fX12_join_0l95 (fX12_join_0l25 fu5) (fX12_join_0l41 (fX12_join_0l25 fu5) fu40) (fX12_join_0l56 (fX12_join_0l25 fu5) (fX12_join_0l41 (fX12_join_0l25 fu5) fu40) fu130) fu144) fu151) i130_2 i130_3 i130_4 (nI i40_5) (nI i130_6) (nI i144_8) (nI i151_9) y158_s0 i151_7 t5 = R → ∀ (H : Heap) (locs : List Loc) (ls : Array Slot), HW g t5 s H locs → lv_has ls 10 [(9, .int (nI i151_9)), (8, .int (nI i144_8)), (7, .int i151_7), (6, .int (nI i130_6)), (5, .int (nI i40_5)), (4, .int i130_4), (3, .int i130_3), (2, .int i130_2), (1, .int i5_1), (0, .ref (g.2.1 79))] → W p l e { frames := 0, cells := 0, slots := 0, locals := 0 } s m args below meth c H locs 0 0 (MQ below PQz args s 0 0 (Aw g)) (F0 m 159 ls [.int y158_s0, .int i151_7]) := by
                                            intro y158_s0 hR158 H locs ls h hl
                                            refine lv_iadd hx hb dX12_join_159 ?_
                                            refine lv_topi (fun x159 e159 => ?_)
                                            replace hR158 := bd_to hR158 e159.symm
                                            refine lv_istore (lv' := [(7, .int x159), (9, .int (nI i151_9)), (8, .int (nI i144_8)), (6, .int (nI i130_6)), (5, .int (nI i40_5)), (4, .int i130_4), (3, .int i130_3), (2, .int i130_2), (1, .int i5_1), (0, .ref (g.2.1 79))]) hx hb dX12_join_160 hl (by decide) rfl (fun ls hl => ?_)
                                            replace hR158 := bd_to hR158 (nI_add i151_9 1)
                                            refine lv_iinc (v := (nI (i151_9 + 1))) (lv' := [(9, .int (nI (i151_9 + 1))), (7, .int x159), (8, .int (nI i144_8)), (6, .int (nI i130_6)), (5, .int (nI i40_5)), (4, .int i130_4), (3, .int i130_3), (2, .int i130_2), (1, .int i5_1), (0, .ref (g.2.1 79))]) hx hb dX12_join_162 hl (k := 1) rfl (nI_add i151_9 1) (by decide) rfl (fun ls hl => ?_)
                                            refine lv_goto (tgt := 107) hx hb dX12_join_165 (by decide) ?_
                                            exact ih151 (i151_9 + 1) x159 (by omega) hR158 (by omega) _ _ _ h (lv_sub hl [0, 2, 1, 3, 4, 5, 6, 7, 8, 9] rfl)
                                          refine lv_icmp_ne (tgt := 158) hx hb dX12_join_127 (by decide) (fun c156 => ?_) (fun c156 => ?_)
                                          · skip
                                            replace hR151 := it_f hR151 c156
                                            have b157 : ¬ n155 = i40_5 := y_ne (a := n155) (b := i40_5) (by omega) (by omega) c156
                                            refine lv_iconst (v := 0) hx hb dX12_join_158 (by decide) ?_
                                            exact j159_158 0 hR151 _ _ _ h (lv_sub hl [0, 1, 2, 3, 4, 5, 6, 7, 8, 9] rfl)
                                          · skip
                                            replace hR151 := it_t hR151 c156
                                            have b160 : n155 = i40_5 := y_eq (a := n155) (b := i40_5) (by omega) (by omega) c156
                                            refine lv_aload_n hx hb dX12_join_130 rfl (lv_at hl 9 rfl) ?_
                                            refine x_getR E h (fr_mo_joined g) rfl hwX12 (by decide) (by decide +kernel) dX12_join_131 ?_
                                            refine lv_iload hx hb dX12_join_134 (lv_at hl 0 rfl) ?_
                                            obtain ⟨n161, b161, e161⟩ := hI_5.2 87 8 rfl i151_9
                                            refine x_ldI E h (ia_mo_joined g) (i := nI i151_9) (vp_in_nI (by omega) (by decide)) (v := nI n161) ((congrArg (t5.2.2 87) (nI_clamp (n := i151_9) (by omega))).trans e161) dX12_join_136 ?_
                                            replace hR151 := bd_to hR151 ((congrArg (t5.2.2 87) (nI_clamp (n := i151_9) (by omega))).trans e161)
                                            refine lv_iload hx hb dX12_join_137 (lv_at hl 3 rfl) ?_
                                            refine lv_icmp_ne (tgt := 158) hx hb dX12_join_139 (by decide) (fun c162 => ?_) (fun c162 => ?_)
                                            · skip
                                              replace hR151 := it_f hR151 c162
                                              have b163 : ¬ n161 = i130_6 := y_ne (a := n161) (b := i130_6) (by omega) (by omega) c162
                                              refine lv_iconst (v := 0) hx hb dX12_join_158 (by decide) ?_
                                              exact j159_158 0 hR151 _ _ _ h (lv_sub hl [0, 1, 2, 3, 4, 5, 6, 7, 8, 9] rfl)
                                            · skip
                                              replace hR151 := it_t hR151 c162
                                              have b164 : n161 = i130_6 := y_eq (a := n161) (b := i130_6) (by omega) (by omega) c162
                                              refine lv_aload_n hx hb dX12_join_142 rfl (lv_at hl 9 rfl) ?_
                                              refine x_getR E h (fr_mo_gain g) rfl hwX12 (by decide) (by decide +kernel) dX12_join_143 ?_
                                              refine lv_bipush (v := 9) hx hb dX12_join_146 (by decide) ?_
                                              refine lv_iload hx hb dX12_join_148 (lv_at hl 1 rfl) ?_
                                              refine lv_imul hx hb dX12_join_150 ?_
                                              refine x_topI (v2 := nI (9 * i144_8)) (pk_mul 9 i144_8) ?_
                                              replace hR151 := bd_to hR151 (pk_mul 9 i144_8)
                                              refine lv_iload hx hb dX12_join_151 (lv_at hl 0 rfl) ?_
                                              refine lv_iadd hx hb dX12_join_153 ?_
                                              refine x_topI (v2 := nI ((9 * i144_8) + i151_9)) (nI_add (9 * i144_8) i151_9) ?_
                                              replace hR151 := bd_to hR151 (nI_add (9 * i144_8) i151_9)
                                              refine x_ldI E h (ia_mo_gain g) (i := nI ((9 * i144_8) + i151_9)) (vp_in_nI (by omega) (by decide)) (v := t5.2.2 88 ((9 * i144_8) + i151_9)) (congrArg (t5.2.2 88) (nI_clamp (n := (9 * i144_8) + i151_9) (by omega))) dX12_join_154 ?_
                                              replace hR151 := bd_to hR151 (congrArg (t5.2.2 88) (nI_clamp (n := (9 * i144_8) + i151_9) (by omega)))
                                              refine lv_goto (tgt := 159) hx hb dX12_join_155 (by decide) ?_
                                              exact j159_158 (t5.2.2 88 ((9 * i144_8) + i151_9)) hR151 _ _ _ h (lv_sub hl [0, 1, 2, 3, 4, 5, 6, 7, 8, 9] rfl)
                                    exact loop107_151 4096 0 i144_7 (Nat.zero_le _) hR144 (by omega) _ _ _ h (lv_sub hl [0, 1, 2, 3, 4, 5, 6, 7, 8, 9] rfl)
                              exact loop95_144 4096 0 0 (Nat.zero_le _) hR130 (by omega) _ _ _ h (lv_sub hl [0, 1, 2, 3, 4, 5, 6, 7, 8] rfl)
                    exact loop56_130 4096 (i40_5 + 1) i40_4 i40_3 i40_2 (by omega) (by omega) jo_40 hR40 (by omega) _ _ _ h (lv_sub hl [0, 1, 2, 3, 4, 5, 6] rfl)
              exact loop41_40 4096 0 0 (-9) (-9) (Nat.zero_le _) (Or.inl rfl) hR5 (by omega) _ _ _ h (lv_sub hl [0, 1, 2, 3, 4, 5] rfl)
        exact loop25_5 4096 t1 1 hI_1 hF_1 e2 hR1 (Nat.lt_of_le_of_lt (Nat.succ_le_succ (fx_bd _ _)) (by omega)) _ _ _ h (lv_sub hl [0, 1] rfl)
      · skip
        replace hR1 := it_f hR1 c3
        have b165 : i1_1 < F35 := y_nle (a := F35) (b := i1_1) (by omega) (by omega) c3
        refine lv_aload_n hx hb dX12_join_10 rfl (lv_at hl 1 rfl) ?_
        refine x_getR E h (fr_mo_joined g) rfl hwX12 (by decide) (by decide +kernel) dX12_join_11 ?_
        refine lv_iload_n hx hb dX12_join_14 rfl (lv_at hl 0 rfl) ?_
        refine lv_iload_n hx hb dX12_join_15 rfl (lv_at hl 0 rfl) ?_
        refine y_stI E h hI_1 hF_1 (ia_mo_joined g) (i := nI i1_1) (vp_in_nI (by omega) (by decide)) (j := i1_1) (nI_clamp (by omega)) (ba_some rfl (Bd.mk (n := i1_1) (by omega))) rfl dX12_join_16 (fun s166 H locs q166 hI166 hF166 h => ?_)
        replace hR1 := st_to hR1 (nI_clamp (n := i1_1) (by omega)) q166
        have e167 : s166.1 35 = nI F35 := (congrArg (fun t : ST => t.1 35) q166).trans e2
        replace hR1 := bd_to hR1 (nI_add i1_1 1)
        refine lv_iinc (v := (nI (i1_1 + 1))) (lv' := [(1, .int (nI (i1_1 + 1))), (0, .ref (g.2.1 79))]) hx hb dX12_join_17 hl (k := 0) rfl (nI_add i1_1 1) (by decide) rfl (fun ls hl => ?_)
        refine lv_goto (tgt := 2) hx hb dX12_join_20 (by decide) ?_
        exact ih1 s166 (i1_1 + 1) hI166 hF166 e167 (by omega) hR1 (by omega) _ _ _ h (lv_sub hl [0, 1] rfl)
  exact loop2_1 4096 σ 0 hI hF eF35 (Nat.zero_le _) hR (by omega) _ _ _ h (lv_sub hl [0, 1] rfl)
