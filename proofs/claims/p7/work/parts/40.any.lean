set_option maxHeartbeats 4000000 in
set_option maxRecDepth 100000 in
theorem aX12_forget_0 (l : Launch) (g : CX) (σ : ST) (hI : INV σ) (p1 : Int32) : XM l g yX12_forget wsX12_forget { frames := 1, cells := 0, slots := 0, locals := 22 } [.ref (g.2.1 79), .int p1] σ (XQi g (fun r σ' => INV σ' ∧ Fr [(40, 40)] [(90, 91)] σ σ')) := by
  refine x_met (own := RX12) (cc := cX12_forget) (maxL := 5) (ret := (some .int)) (lv := [(0, .ref (g.2.1 79)), (1, .int p1)]) (by decide) rfl rfl (Nat.le_of_ble_eq_true rfl) rfl ?_
  intro p e s m args below meth c ls E h hl
  have hx := E.1
  have hb := E.2.1
  have hown := E.2.2.2.1
  have hts := E.2.2.2.2.1
  have hF : Fr [(40, 40)] [(90, 91)] σ σ := Fr.refl σ
  have hwX12 : ∀ w ∈ wsX120, w ∈ wsX12_forget := by decide +kernel
  refine lv_iload_n hx hb dX12_forget_0 rfl (lv_at hl 1 rfl) ?_
  refine lv_iconst (v := 0) hx hb dX12_forget_1 (by decide) ?_
  refine lv_aload_n hx hb dX12_forget_2 rfl (lv_at hl 0 rfl) ?_
  obtain ⟨n1, b1, e1⟩ := hI.1 40 6 rfl
  refine x_getI E h (fi_mo_kept g) rfl hwX12 (by decide) (by decide +kernel) (v := nI n1) e1 dX12_forget_3 ?_
  refine lv_iconst (v := 1) hx hb dX12_forget_6 (by decide) ?_
  refine lv_isub hx hb dX12_forget_7 ?_
  refine x_si E h (na := 3) (As := [.int p1, .int 0, .int (nI n1 - 1)]) (aX12_in_0 l g σ hI p1 0 (nI n1 - 1)) gX12_forget_X12_in rfl ⟨rfl, rfl⟩ rfl (by decide +kernel) ⟨Nat.le_of_ble_eq_true rfl, Nat.le_of_ble_eq_true rfl⟩ hl.1 rfl (Nat.le_of_ble_eq_true rfl) dX12_forget_8 ⟨Nat.le_of_ble_eq_true rfl, Nat.le_of_ble_eq_true rfl⟩ (fun r2 s2 H locs q2 h => ?_)
  obtain ⟨d2, rfl⟩ := q2
  rcases d2 with ⟨rfl, u2_0_0, u2_0_1⟩ | ⟨rfl, u2_1_0⟩
  · skip
    obtain ⟨n3, b3, rfl⟩ := y_rnltM (N := n1) (y_lo1 u2_0_0 (by decide)) u2_0_1 (by omega)
    have b4 : 0 ≤ n3 := y_nlt (a := n3) (b := 0) (by omega) (by omega) u2_0_0
    refine lv_if_ne (tgt := 16) hx hb dX12_forget_11 (by decide) (fun _ => ?_) (fun c => absurd c (by decide))
    refine lv_aload_n hx hb dX12_forget_16 rfl (lv_at hl 0 rfl) ?_
    refine x_getR E h (fr_mo_name g) rfl hwX12 (by decide) (by decide +kernel) dX12_forget_17 ?_
    refine lv_iload_n hx hb dX12_forget_20 rfl (lv_at hl 1 rfl) ?_
    refine x_ldI E h (ia_mo_name g) (i := nI n3) (vp_in_nI (by omega) (by decide)) (v := σ.2.2 90 n3) (congrArg (σ.2.2 90) (nI_clamp (by omega))) dX12_forget_21 ?_
    refine lv_topi (fun x5 e5 => ?_)
    refine lv_istore_n (lv' := [(2, .int x5), (0, .ref (g.2.1 79)), (1, .int (nI n3))]) hx hb dX12_forget_22 rfl hl (by decide) rfl (fun ls hl => ?_)
    refine lv_aload_n hx hb dX12_forget_23 rfl (lv_at hl 1 rfl) ?_
    refine lv_dup hx hb dX12_forget_24 rfl ?_
    refine x_getI E h (fi_mo_kept g) rfl hwX12 (by decide) (by decide +kernel) (v := nI n1) e1 dX12_forget_25 ?_
    refine lv_iconst (v := 1) hx hb dX12_forget_28 (by decide) ?_
    refine lv_isub hx hb dX12_forget_29 ?_
    refine x_topI (v2 := nI (n1 - 1)) (pk_sub (a := n1) (b := 1) (by omega)) ?_
    refine y_putI E h hI hF (ty := .int) (v := nI (n1 - 1)) (fi_mo_kept g) rfl hwX12 tyX12_ok nmX12 (by decide) (by decide +kernel) (by decide +kernel) (by decide +kernel) rfl rfl (ba_some rfl (Bd.mk (n := (n1 - 1)) (by omega))) rfl dX12_forget_30 (fun s6 H locs q6 hI6 hF6 h => ?_)
    have e7 : s6.1 40 = nI (n1 - 1) := congrArg (fun t : ST => t.1 40) q6
    refine lv_iload_n hx hb dX12_forget_33 rfl (lv_at hl 2 rfl) ?_
    refine lv_istore_n (lv' := [(3, .int (nI n3)), (2, .int x5), (0, .ref (g.2.1 79)), (1, .int (nI n3))]) hx hb dX12_forget_34 rfl hl (by decide) rfl (fun ls hl => ?_)
    have loop35_8 : ∀ (fu : Nat) (t8 : ST) (i8_3 : Nat), INV t8 → Fr [(40, 40)] [(90, 91)] σ t8 → t8.1 40 = nI (n1 - 1) → i8_3 ≤ (n1 - 1) → (n1 - 1) - i8_3 < fu → ∀ (H : Heap) (locs : List Loc) (ls : Array Slot), HW g t8 s H locs → lv_has ls 5 [(3, .int (nI i8_3)), (2, .int x5), (0, .ref (g.2.1 79)), (1, .int (nI n3))] → W p l e { frames := 1, cells := 0, slots := 0, locals := 22 } s m args below meth c H locs 0 0 (MQ below (XQi g (fun r σ' => INV σ' ∧ Fr [(40, 40)] [(90, 91)] σ σ')) args s 0 0 (Aw g)) (F0 m 35 ls []) := by
      intro fu
      induction fu with
      | zero => intro t8 i8_3 hI_8 hF_8 e9 bi8_3 hm; exact absurd hm (Nat.not_lt_zero _)
      | succ fu ih =>
        have ih8 := ih
        clear ih
        intro t8 i8_3 hI_8 hF_8 e9 bi8_3 hm8 H locs ls h hl
        refine lv_iload_n hx hb dX12_forget_35 rfl (lv_at hl 0 rfl) ?_
        refine lv_aload_n hx hb dX12_forget_36 rfl (lv_at hl 2 rfl) ?_
        refine x_getI E h (fi_mo_kept g) rfl hwX12 (by decide) (by decide +kernel) (v := nI (n1 - 1)) e9 dX12_forget_37 ?_
        refine lv_icmp_ge (tgt := 102) hx hb dX12_forget_40 (by decide) (fun c10 => ?_) (fun c10 => ?_)
        · skip
          have b11 : (n1 - 1) ≤ i8_3 := y_le (a := (n1 - 1)) (b := i8_3) (by omega) (by omega) c10
          refine lv_iload_n hx hb dX12_forget_102 rfl (lv_at hl 1 rfl) ?_
          exact x_iret E h ⟨hI_8, hF_8⟩ dX12_forget_103
        · skip
          have b12 : i8_3 < (n1 - 1) := y_nle (a := (n1 - 1)) (b := i8_3) (by omega) (by omega) c10
          refine lv_aload_n hx hb dX12_forget_43 rfl (lv_at hl 2 rfl) ?_
          refine x_getR E h (fr_mo_name g) rfl hwX12 (by decide) (by decide +kernel) dX12_forget_44 ?_
          refine lv_iload_n hx hb dX12_forget_47 rfl (lv_at hl 0 rfl) ?_
          refine lv_aload_n hx hb dX12_forget_48 rfl (lv_at hl 2 rfl) ?_
          refine x_getR E h (fr_mo_name g) rfl hwX12 (by decide) (by decide +kernel) dX12_forget_49 ?_
          refine lv_iload_n hx hb dX12_forget_52 rfl (lv_at hl 0 rfl) ?_
          refine lv_iconst (v := 1) hx hb dX12_forget_53 (by decide) ?_
          refine lv_iadd hx hb dX12_forget_54 ?_
          refine x_topI (v2 := nI (i8_3 + 1)) (nI_add i8_3 1) ?_
          refine x_ldI E h (ia_mo_name g) (i := nI (i8_3 + 1)) (vp_in_nI (by omega) (by decide)) (v := t8.2.2 90 (i8_3 + 1)) (congrArg (t8.2.2 90) (nI_clamp (by omega))) dX12_forget_55 ?_
          refine y_stI E h hI_8 hF_8 (ia_mo_name g) (i := nI i8_3) (vp_in_nI (by omega) (by decide)) (j := i8_3) (nI_clamp (by omega)) (ba_none rfl) rfl dX12_forget_56 (fun s13 H locs q13 hI13 hF13 h => ?_)
          have e14 : s13.1 40 = nI (n1 - 1) := (congrArg (fun t : ST => t.1 40) q13).trans e9
          refine lv_iconst (v := 0) hx hb dX12_forget_57 (by decide) ?_
          refine lv_istore (lv' := [(4, .int 0), (3, .int (nI i8_3)), (2, .int x5), (0, .ref (g.2.1 79)), (1, .int (nI n3))]) hx hb dX12_forget_58 hl (by decide) rfl (fun ls hl => ?_)
          have loop60_15 : ∀ (fu : Nat) (t15 : ST) (i15_4 : Nat), INV t15 → Fr [(40, 40)] [(90, 91)] σ t15 → t15.1 40 = nI (n1 - 1) → i15_4 ≤ 4 → 4 - i15_4 < fu → ∀ (H : Heap) (locs : List Loc) (ls : Array Slot), HW g t15 s H locs → lv_has ls 5 [(4, .int (nI i15_4)), (3, .int (nI i8_3)), (2, .int x5), (0, .ref (g.2.1 79)), (1, .int (nI n3))] → W p l e { frames := 1, cells := 0, slots := 0, locals := 22 } s m args below meth c H locs 0 0 (MQ below (XQi g (fun r σ' => INV σ' ∧ Fr [(40, 40)] [(90, 91)] σ σ')) args s 0 0 (Aw g)) (F0 m 60 ls []) := by
            intro fu
            induction fu with
            | zero => intro t15 i15_4 hI_15 hF_15 e16 bi15_4 hm; exact absurd hm (Nat.not_lt_zero _)
            | succ fu ih =>
              have ih15 := ih
              clear ih
              intro t15 i15_4 hI_15 hF_15 e16 bi15_4 hm15 H locs ls h hl
              refine lv_iload hx hb dX12_forget_60 (lv_at hl 0 rfl) ?_
              refine lv_iconst (v := 4) hx hb dX12_forget_62 (by decide) ?_
              refine lv_icmp_ge (tgt := 96) hx hb dX12_forget_63 (by decide) (fun c17 => ?_) (fun c17 => ?_)
              · skip
                have b18 : 4 ≤ i15_4 := y_le (a := 4) (b := i15_4) (by omega) (by omega) c17
                refine lv_iinc (v := (nI (i8_3 + 1))) (lv' := [(3, .int (nI (i8_3 + 1))), (4, .int (nI i15_4)), (2, .int x5), (0, .ref (g.2.1 79)), (1, .int (nI n3))]) hx hb dX12_forget_96 hl (k := 1) rfl (nI_add i8_3 1) (by decide) rfl (fun ls hl => ?_)
                refine lv_goto (tgt := 35) hx hb dX12_forget_99 (by decide) ?_
                exact ih8 t15 (i8_3 + 1) hI_15 hF_15 e16 (by omega) (by omega) _ _ _ h (lv_sub hl [0, 2, 3, 4] rfl)
              · skip
                have b19 : i15_4 < 4 := y_nle (a := 4) (b := i15_4) (by omega) (by omega) c17
                refine lv_aload_n hx hb dX12_forget_66 rfl (lv_at hl 3 rfl) ?_
                refine x_getR E h (fr_mo_voice g) rfl hwX12 (by decide) (by decide +kernel) dX12_forget_67 ?_
                refine lv_iconst (v := 4) hx hb dX12_forget_70 (by decide) ?_
                refine lv_iload_n hx hb dX12_forget_71 rfl (lv_at hl 1 rfl) ?_
                refine lv_imul hx hb dX12_forget_72 ?_
                refine x_topI (v2 := nI (4 * i8_3)) (pk_mul 4 i8_3) ?_
                refine lv_iload hx hb dX12_forget_73 (lv_at hl 0 rfl) ?_
                refine lv_iadd hx hb dX12_forget_75 ?_
                refine x_topI (v2 := nI ((4 * i8_3) + i15_4)) (nI_add (4 * i8_3) i15_4) ?_
                refine lv_aload_n hx hb dX12_forget_76 rfl (lv_at hl 3 rfl) ?_
                refine x_getR E h (fr_mo_voice g) rfl hwX12 (by decide) (by decide +kernel) dX12_forget_77 ?_
                refine lv_iconst (v := 4) hx hb dX12_forget_80 (by decide) ?_
                refine lv_iload_n hx hb dX12_forget_81 rfl (lv_at hl 1 rfl) ?_
                refine lv_imul hx hb dX12_forget_82 ?_
                refine x_topI (v2 := nI (4 * i8_3)) (pk_mul 4 i8_3) ?_
                refine lv_iconst (v := 4) hx hb dX12_forget_83 (by decide) ?_
                refine lv_iadd hx hb dX12_forget_84 ?_
                refine x_topI (v2 := nI ((4 * i8_3) + 4)) (nI_add (4 * i8_3) 4) ?_
                refine lv_iload hx hb dX12_forget_85 (lv_at hl 0 rfl) ?_
                refine lv_iadd hx hb dX12_forget_87 ?_
                refine x_topI (v2 := nI (((4 * i8_3) + 4) + i15_4)) (nI_add ((4 * i8_3) + 4) i15_4) ?_
                refine x_ldI E h (ia_mo_voice g) (i := nI (((4 * i8_3) + 4) + i15_4)) (vp_in_nI (by omega) (by decide)) (v := t15.2.2 91 (((4 * i8_3) + 4) + i15_4)) (congrArg (t15.2.2 91) (nI_clamp (by omega))) dX12_forget_88 ?_
                refine y_stI E h hI_15 hF_15 (ia_mo_voice g) (i := nI ((4 * i8_3) + i15_4)) (vp_in_nI (by omega) (by decide)) (j := ((4 * i8_3) + i15_4)) (nI_clamp (by omega)) (ba_none rfl) rfl dX12_forget_89 (fun s20 H locs q20 hI20 hF20 h => ?_)
                have e21 : s20.1 40 = nI (n1 - 1) := (congrArg (fun t : ST => t.1 40) q20).trans e16
                refine lv_iinc (v := (nI (i15_4 + 1))) (lv' := [(4, .int (nI (i15_4 + 1))), (3, .int (nI i8_3)), (2, .int x5), (0, .ref (g.2.1 79)), (1, .int (nI n3))]) hx hb dX12_forget_90 hl (k := 0) rfl (nI_add i15_4 1) (by decide) rfl (fun ls hl => ?_)
                refine lv_goto (tgt := 60) hx hb dX12_forget_93 (by decide) ?_
                exact ih15 s20 (i15_4 + 1) hI20 hF20 e21 (by omega) (by omega) _ _ _ h (lv_sub hl [0, 1, 2, 3, 4] rfl)
          exact loop60_15 _ s13 0 hI13 hF13 e14 (Nat.zero_le _) (Nat.lt_succ_self _) _ _ _ h (lv_sub hl [0, 1, 2, 3, 4] rfl)
    exact loop35_8 _ s6 n3 hI6 hF6 e7 (by omega) (Nat.lt_succ_self _) _ _ _ h (lv_sub hl [0, 1, 2, 3] rfl)
  · skip
    refine lv_if_ne (tgt := 16) hx hb dX12_forget_11 (by decide) (fun c => absurd (by decide) c) (fun _ => ?_)
    refine lv_iconst (v := (-1)) hx hb dX12_forget_14 (by decide) ?_
    exact x_iret E h ⟨hI, hF⟩ dX12_forget_15
set_option maxHeartbeats 4000000 in
set_option maxRecDepth 100000 in
theorem aX12_back_0 (l : Launch) (g : CX) (σ : ST) (hI : INV σ) (p1 : Int32) (p2 : Int32) : XM l g yX12_back wsX12_back { frames := 6, cells := 0, slots := 0, locals := 140 } [.ref (g.2.1 79), .int p1, .int p2] σ (XQi g (fun r σ' => INV σ' ∧ Fr [(35, 39)] [(75, 86), (88, 89)] σ σ')) := by
  refine x_met (own := RX12) (cc := cX12_back) (maxL := 9) (ret := (some .int)) (lv := [(0, .ref (g.2.1 79)), (1, .int p1), (2, .int p2)]) (by decide) rfl rfl (Nat.le_of_ble_eq_true rfl) rfl ?_
  intro p e s m args below meth c ls E h hl
  have hx := E.1
  have hb := E.2.1
  have hown := E.2.2.2.1
  have hts := E.2.2.2.2.1
  have hF : Fr [(35, 39)] [(75, 86), (88, 89)] σ σ := Fr.refl σ
  have hwX12 : ∀ w ∈ wsX120, w ∈ wsX12_back := by decide +kernel
  refine lv_iload_n hx hb dX12_back_0 rfl (lv_at hl 2 rfl) ?_
  refine lv_iconst (v := 0) hx hb dX12_back_1 (by decide) ?_
  refine lv_iconst (v := 1) hx hb dX12_back_2 (by decide) ?_
  refine x_si E h (na := 3) (As := [.int p2, .int 0, .int 1]) (aX12_in_0 l g σ hI p2 0 1) gX12_back_X12_in rfl ⟨rfl, rfl⟩ rfl (by decide +kernel) ⟨Nat.le_of_ble_eq_true rfl, Nat.le_of_ble_eq_true rfl⟩ hl.1 rfl (Nat.le_of_ble_eq_true rfl) dX12_back_3 ⟨Nat.le_of_ble_eq_true rfl, Nat.le_of_ble_eq_true rfl⟩ (fun r1 s1 H locs q1 h => ?_)
  obtain ⟨d1, rfl⟩ := q1
  rcases d1 with ⟨rfl, u1_0_0, u1_0_1⟩ | ⟨rfl, u1_1_0⟩
  · skip
    obtain ⟨n2, b2, rfl⟩ := y_rnlt (N := 1) (y_lo1 u1_0_0 (by decide)) u1_0_1 (by omega)
    have b3 : 0 ≤ n2 := y_nlt (a := n2) (b := 0) (by omega) (by omega) u1_0_0
    have b4 : n2 ≤ 1 := y_nlt (a := 1) (b := n2) (by omega) (by omega) u1_0_1
    refine lv_if_eq (tgt := 17) hx hb dX12_back_6 (by decide) (fun c => absurd c (by decide)) (fun _ => ?_)
    refine lv_aload_n hx hb dX12_back_9 rfl (lv_at hl 0 rfl) ?_
    refine lv_iload_n hx hb dX12_back_10 rfl (lv_at hl 1 rfl) ?_
    refine x_vi E h (na := 1) (As := [.int p1]) (aX12_wrong_0 l g σ hI p1) (oc_mo g) rfl gX12_back_X12_wrong rfl ⟨rfl, rfl⟩ rfl (by decide +kernel) ⟨Nat.le_of_ble_eq_true rfl, Nat.le_of_ble_eq_true rfl⟩ hl.1 rfl (Nat.le_of_ble_eq_true rfl) dX12_back_11 ⟨Nat.le_of_ble_eq_true rfl, Nat.le_of_ble_eq_true rfl⟩ (fun r5 s5 H locs q5 h => ?_)
    obtain ⟨d5, hI5, f5⟩ := q5
    have hF5 := hF.call f5 (I := [(35, 39)]) (J := [(75, 86), (88, 89)]) rfl rfl
    rcases d5 with ⟨rfl, m5_0n, m5_0P, m5_0R, u5_0_0, u5_0_1, u5_0_2, u5_0_3, u5_0_4, rfl, u5_0_6⟩ | rfl | rfl
    · skip
      refine lv_goto (tgt := 18) hx hb dX12_back_14 (by decide) ?_
      refine lv_istore_n (lv' := [(3, .int 0), (0, .ref (g.2.1 79)), (1, .int (nI m5_0n)), (2, .int (nI n2))]) hx hb dX12_back_18 rfl hl (by decide) rfl (fun ls hl => ?_)
      refine lv_iload_n hx hb dX12_back_19 rfl (lv_at hl 0 rfl) ?_
      refine lv_if_eq (tgt := 25) hx hb dX12_back_20 (by decide) (fun _ => ?_) (fun c => absurd (by decide) c)
      refine lv_bipush (v := (-9)) hx hb dX12_back_25 (by decide) ?_
      refine lv_istore (lv' := [(4, .int (-9)), (3, .int 0), (0, .ref (g.2.1 79)), (1, .int (nI m5_0n)), (2, .int (nI n2))]) hx hb dX12_back_27 hl (by decide) rfl (fun ls hl => ?_)
      refine lv_aload_n hx hb dX12_back_29 rfl (lv_at hl 2 rfl) ?_
      refine x_getR E h (fr_mo_rule g) rfl hwX12 (by decide) (by decide +kernel) dX12_back_30 ?_
      refine lv_iconst (v := 2) hx hb dX12_back_33 (by decide) ?_
      refine x_ldI E h (ia_mo_rule g) (i := nI 2) (vp_in_nI (by omega) (by decide)) (v := s5.2.2 66 2) (congrArg (s5.2.2 66) (nI_clamp (by omega))) dX12_back_34 ?_
      refine lv_iconst (v := 1) hx hb dX12_back_35 (by decide) ?_
      refine lv_iadd hx hb dX12_back_36 ?_
      refine lv_topi (fun x6 e6 => ?_)
      refine lv_istore (lv' := [(5, .int x6), (4, .int (-9)), (3, .int 0), (0, .ref (g.2.1 79)), (1, .int (nI m5_0n)), (2, .int (nI n2))]) hx hb dX12_back_37 hl (by decide) rfl (fun ls hl => ?_)
      refine lv_iconst (v := 0) hx hb dX12_back_39 (by decide) ?_
      refine lv_istore (lv' := [(6, .int 0), (5, .int x6), (4, .int (-9)), (3, .int 0), (0, .ref (g.2.1 79)), (1, .int (nI m5_0n)), (2, .int (nI n2))]) hx hb dX12_back_40 hl (by decide) rfl (fun ls hl => ?_)
      obtain ⟨n8, b8, e8⟩ := hI5.1 40 6 rfl
      have loop42_7 : ∀ (fu : Nat) (i7_6 : Nat) (i7_5 : Int32) (i7_4 : Int32), i7_6 ≤ n8 → Opt (-9) 6 i7_4 → n8 - i7_6 < fu → ∀ (H : Heap) (locs : List Loc) (ls : Array Slot), HW g s5 s H locs → lv_has ls 9 [(6, .int (nI i7_6)), (5, .int i7_5), (4, .int i7_4), (3, .int 0), (0, .ref (g.2.1 79)), (1, .int (nI m5_0n)), (2, .int (nI n2))] → W p l e { frames := 6, cells := 0, slots := 0, locals := 140 } s m args below meth c H locs 0 0 (MQ below (XQi g (fun r σ' => INV σ' ∧ Fr [(35, 39)] [(75, 86), (88, 89)] σ σ')) args s 0 0 (Aw g)) (F0 m 42 ls []) := by
        intro fu
        induction fu with
        | zero => intro i7_6 i7_5 i7_4 bi7_6 oi7_4 hm; exact absurd hm (Nat.not_lt_zero _)
        | succ fu ih =>
          have ih7 := ih
          clear ih
          intro i7_6 i7_5 i7_4 bi7_6 oi7_4 hm7 H locs ls h hl
          refine lv_iload hx hb dX12_back_42 (lv_at hl 0 rfl) ?_
          refine lv_aload_n hx hb dX12_back_44 rfl (lv_at hl 4 rfl) ?_
          refine x_getI E h (fi_mo_kept g) rfl hwX12 (by decide) (by decide +kernel) (v := nI n8) e8 dX12_back_45 ?_
          refine lv_icmp_ge (tgt := 139) hx hb dX12_back_48 (by decide) (fun c9 => ?_) (fun c9 => ?_)
          · skip
            have b10 : n8 ≤ i7_6 := y_le (a := n8) (b := i7_6) (by omega) (by omega) c9
            refine lv_iload hx hb dX12_back_139 (lv_at hl 2 rfl) ?_
            refine lv_bipush (v := (-9)) hx hb dX12_back_141 (by decide) ?_
            refine lv_icmp_eq (tgt := 151) hx hb dX12_back_143 (by decide) (fun c11 => ?_) (fun c11 => ?_)
            · skip
              subst c11
              refine lv_iload hx hb dX12_back_151 (lv_at hl 2 rfl) ?_
              refine lv_goto (tgt := 163) hx hb dX12_back_153 (by decide) ?_
              exact x_iret E h ⟨hI5, hF5⟩ dX12_back_163
            · skip
              rcases oi7_4 with rfl | ⟨n14, b14, rfl⟩
              · exact absurd c11 (by decide)
              refine lv_iload_n hx hb dX12_back_146 rfl (lv_at hl 6 rfl) ?_
              refine lv_iconst (v := 1) hx hb dX12_back_147 (by decide) ?_
              refine lv_icmp_ne (tgt := 156) hx hb dX12_back_148 (by decide) (fun c15 => ?_) (fun c15 => ?_)
              · skip
                have b16 : ¬ n2 = 1 := y_ne (a := n2) (b := 1) (by omega) (by omega) c15
                refine lv_aload_n hx hb dX12_back_156 rfl (lv_at hl 4 rfl) ?_
                refine x_getR E h (fr_mo_name g) rfl hwX12 (by decide) (by decide +kernel) dX12_back_157 ?_
                refine lv_iload hx hb dX12_back_160 (lv_at hl 2 rfl) ?_
                refine x_ldI E h (ia_mo_name g) (i := nI n14) (vp_in_nI (by omega) (by decide)) (v := s5.2.2 90 n14) (congrArg (s5.2.2 90) (nI_clamp (by omega))) dX12_back_162 ?_
                exact x_iret E h ⟨hI5, hF5⟩ dX12_back_163
              · skip
                have b17 : n2 = 1 := y_eq (a := n2) (b := 1) (by omega) (by omega) c15
                refine lv_iload hx hb dX12_back_151 (lv_at hl 2 rfl) ?_
                refine lv_goto (tgt := 163) hx hb dX12_back_153 (by decide) ?_
                exact x_iret E h ⟨hI5, hF5⟩ dX12_back_163
          · skip
            have b18 : i7_6 < n8 := y_nle (a := n8) (b := i7_6) (by omega) (by omega) c9
            refine lv_iconst (v := 0) hx hb dX12_back_51 (by decide) ?_
            refine lv_istore (lv' := [(7, .int 0), (6, .int (nI i7_6)), (5, .int i7_5), (4, .int i7_4), (3, .int 0), (0, .ref (g.2.1 79)), (1, .int (nI m5_0n)), (2, .int (nI n2))]) hx hb dX12_back_52 hl (by decide) rfl (fun ls hl => ?_)
            refine lv_iconst (v := 0) hx hb dX12_back_54 (by decide) ?_
            refine lv_istore (lv' := [(8, .int 0), (7, .int 0), (6, .int (nI i7_6)), (5, .int i7_5), (4, .int i7_4), (3, .int 0), (0, .ref (g.2.1 79)), (1, .int (nI m5_0n)), (2, .int (nI n2))]) hx hb dX12_back_55 hl (by decide) rfl (fun ls hl => ?_)
            have loop57_19 : ∀ (fu : Nat) (i19_8 : Nat) (i19_7 : Int32), i19_8 ≤ 4 → 4 - i19_8 < fu → ∀ (H : Heap) (locs : List Loc) (ls : Array Slot), HW g s5 s H locs → lv_has ls 9 [(8, .int (nI i19_8)), (7, .int i19_7), (6, .int (nI i7_6)), (5, .int i7_5), (4, .int i7_4), (3, .int 0), (0, .ref (g.2.1 79)), (1, .int (nI m5_0n)), (2, .int (nI n2))] → W p l e { frames := 6, cells := 0, slots := 0, locals := 140 } s m args below meth c H locs 0 0 (MQ below (XQi g (fun r σ' => INV σ' ∧ Fr [(35, 39)] [(75, 86), (88, 89)] σ σ')) args s 0 0 (Aw g)) (F0 m 57 ls []) := by
              intro fu
              induction fu with
              | zero => intro i19_8 i19_7 bi19_8 hm; exact absurd hm (Nat.not_lt_zero _)
              | succ fu ih =>
                have ih19 := ih
                clear ih
                intro i19_8 i19_7 bi19_8 hm19 H locs ls h hl
                refine lv_iload hx hb dX12_back_57 (lv_at hl 0 rfl) ?_
                refine lv_iconst (v := 4) hx hb dX12_back_59 (by decide) ?_
                refine lv_icmp_ge (tgt := 101) hx hb dX12_back_60 (by decide) (fun c20 => ?_) (fun c20 => ?_)
                · skip
                  have b21 : 4 ≤ i19_8 := y_le (a := 4) (b := i19_8) (by omega) (by omega) c20
                  refine lv_iload hx hb dX12_back_101 (lv_at hl 1 rfl) ?_
                  refine lv_iload hx hb dX12_back_103 (lv_at hl 3 rfl) ?_
                  have j115_24 : ∀ (y24_s0 : Int32), Opt (-9) 6 y24_s0 → ∀ (H : Heap) (locs : List Loc) (ls : Array Slot), HW g s5 s H locs → lv_has ls 9 [(8, .int (nI i19_8)), (7, .int i19_7), (6, .int (nI i7_6)), (5, .int i7_5), (4, .int i7_4), (3, .int 0), (0, .ref (g.2.1 79)), (1, .int (nI m5_0n)), (2, .int (nI n2))] → W p l e { frames := 6, cells := 0, slots := 0, locals := 140 } s m args below meth c H locs 0 0 (MQ below (XQi g (fun r σ' => INV σ' ∧ Fr [(35, 39)] [(75, 86), (88, 89)] σ σ')) args s 0 0 (Aw g)) (F0 m 115 ls [.int y24_s0]) := by
                    intro y24_s0 oy24_s0 H locs ls h hl
                    refine lv_istore (lv' := [(4, .int y24_s0), (8, .int (nI i19_8)), (7, .int i19_7), (6, .int (nI i7_6)), (5, .int i7_5), (3, .int 0), (0, .ref (g.2.1 79)), (1, .int (nI m5_0n)), (2, .int (nI n2))]) hx hb dX12_back_115 hl (by decide) rfl (fun ls hl => ?_)
                    refine lv_iload hx hb dX12_back_117 (lv_at hl 2 rfl) ?_
                    refine lv_iload hx hb dX12_back_119 (lv_at hl 4 rfl) ?_
                    have j131_27 : ∀ (y27_s0 : Int32), ∀ (H : Heap) (locs : List Loc) (ls : Array Slot), HW g s5 s H locs → lv_has ls 9 [(4, .int y24_s0), (8, .int (nI i19_8)), (7, .int i19_7), (6, .int (nI i7_6)), (5, .int i7_5), (3, .int 0), (0, .ref (g.2.1 79)), (1, .int (nI m5_0n)), (2, .int (nI n2))] → W p l e { frames := 6, cells := 0, slots := 0, locals := 140 } s m args below meth c H locs 0 0 (MQ below (XQi g (fun r σ' => INV σ' ∧ Fr [(35, 39)] [(75, 86), (88, 89)] σ σ')) args s 0 0 (Aw g)) (F0 m 131 ls [.int y27_s0]) := by
                      intro y27_s0 H locs ls h hl
                      refine lv_istore (lv' := [(5, .int y27_s0), (4, .int y24_s0), (8, .int (nI i19_8)), (7, .int i19_7), (6, .int (nI i7_6)), (3, .int 0), (0, .ref (g.2.1 79)), (1, .int (nI m5_0n)), (2, .int (nI n2))]) hx hb dX12_back_131 hl (by decide) rfl (fun ls hl => ?_)
                      refine lv_iinc (v := (nI (i7_6 + 1))) (lv' := [(6, .int (nI (i7_6 + 1))), (5, .int y27_s0), (4, .int y24_s0), (8, .int (nI i19_8)), (7, .int i19_7), (3, .int 0), (0, .ref (g.2.1 79)), (1, .int (nI m5_0n)), (2, .int (nI n2))]) hx hb dX12_back_133 hl (k := 4) rfl (nI_add i7_6 1) (by decide) rfl (fun ls hl => ?_)
                      refine lv_goto (tgt := 42) hx hb dX12_back_136 (by decide) ?_
                      exact ih7 (i7_6 + 1) y27_s0 y24_s0 (by omega) oy24_s0 (by omega) _ _ _ h (lv_sub hl [0, 1, 2, 5, 6, 7, 8] rfl)
                    refine lv_icmp_ge (tgt := 129) hx hb dX12_back_121 (by decide) (fun c25 => ?_) (fun c25 => ?_)
                    · skip
                      refine lv_iload hx hb dX12_back_129 (lv_at hl 4 rfl) ?_
                      exact j131_27 i7_5 _ _ _ h (lv_sub hl [0, 1, 2, 3, 4, 5, 6, 7, 8] rfl)
                    · skip
                      refine lv_iload hx hb dX12_back_124 (lv_at hl 2 rfl) ?_
                      refine lv_goto (tgt := 131) hx hb dX12_back_126 (by decide) ?_
                      exact j131_27 i19_7 _ _ _ h (lv_sub hl [0, 1, 2, 3, 4, 5, 6, 7, 8] rfl)
                  refine lv_icmp_ge (tgt := 113) hx hb dX12_back_105 (by decide) (fun c22 => ?_) (fun c22 => ?_)
                  · skip
                    refine lv_iload hx hb dX12_back_113 (lv_at hl 4 rfl) ?_
                    exact j115_24 i7_4 oi7_4 _ _ _ h (lv_sub hl [0, 1, 2, 3, 4, 5, 6, 7, 8] rfl)
                  · skip
                    refine lv_iload hx hb dX12_back_108 (lv_at hl 2 rfl) ?_
                    refine lv_goto (tgt := 115) hx hb dX12_back_110 (by decide) ?_
                    exact j115_24 (nI i7_6) (Or.inr ⟨i7_6, by omega, rfl⟩) _ _ _ h (lv_sub hl [0, 1, 2, 3, 4, 5, 6, 7, 8] rfl)
                · skip
                  have b30 : i19_8 < 4 := y_nle (a := 4) (b := i19_8) (by omega) (by omega) c20
                  refine lv_iload hx hb dX12_back_63 (lv_at hl 1 rfl) ?_
                  refine lv_aload_n hx hb dX12_back_65 rfl (lv_at hl 6 rfl) ?_
                  refine x_getR E h (fr_mo_heapMiddle g) rfl hwX12 (by decide) (by decide +kernel) dX12_back_66 ?_
                  refine lv_iconst (v := 4) hx hb dX12_back_69 (by decide) ?_
                  refine lv_iload_n hx hb dX12_back_70 rfl (lv_at hl 7 rfl) ?_
                  refine lv_imul hx hb dX12_back_71 ?_
                  refine x_topI (v2 := nI (4 * m5_0n)) (pk_mul 4 m5_0n) ?_
                  refine lv_iload hx hb dX12_back_72 (lv_at hl 0 rfl) ?_
                  refine lv_iadd hx hb dX12_back_74 ?_
                  refine x_topI (v2 := nI ((4 * m5_0n) + i19_8)) (nI_add (4 * m5_0n) i19_8) ?_
                  refine x_ldI E h (ia_mo_heapMiddle g) (i := nI ((4 * m5_0n) + i19_8)) (vp_in_nI (by omega) (by decide)) (v := s5.2.2 89 ((4 * m5_0n) + i19_8)) (congrArg (s5.2.2 89) (nI_clamp (by omega))) dX12_back_75 ?_
                  refine lv_aload_n hx hb dX12_back_76 rfl (lv_at hl 6 rfl) ?_
                  refine x_getR E h (fr_mo_voice g) rfl hwX12 (by decide) (by decide +kernel) dX12_back_77 ?_
                  refine lv_iconst (v := 4) hx hb dX12_back_80 (by decide) ?_
                  refine lv_iload hx hb dX12_back_81 (lv_at hl 2 rfl) ?_
                  refine lv_imul hx hb dX12_back_83 ?_
                  refine x_topI (v2 := nI (4 * i7_6)) (pk_mul 4 i7_6) ?_
                  refine lv_iload hx hb dX12_back_84 (lv_at hl 0 rfl) ?_
                  refine lv_iadd hx hb dX12_back_86 ?_
                  refine x_topI (v2 := nI ((4 * i7_6) + i19_8)) (nI_add (4 * i7_6) i19_8) ?_
                  refine x_ldI E h (ia_mo_voice g) (i := nI ((4 * i7_6) + i19_8)) (vp_in_nI (by omega) (by decide)) (v := s5.2.2 91 ((4 * i7_6) + i19_8)) (congrArg (s5.2.2 91) (nI_clamp (by omega))) dX12_back_87 ?_
                  refine lv_isub hx hb dX12_back_88 ?_
                  refine lv_topi (fun x31 e31 => ?_)
                  refine x_si E h (na := 1) (As := [.int x31]) (aX12_size_0 l g s5 hI5 x31) gX12_back_X12_size rfl ⟨rfl, rfl⟩ rfl (by decide +kernel) ⟨Nat.le_of_ble_eq_true rfl, Nat.le_of_ble_eq_true rfl⟩ hl.1 rfl (Nat.le_of_ble_eq_true rfl) dX12_back_89 ⟨Nat.le_of_ble_eq_true rfl, Nat.le_of_ble_eq_true rfl⟩ (fun r32 s32 H locs q32 h => ?_)
                  subst q32
                  refine lv_iadd hx hb dX12_back_92 ?_
                  refine lv_topi (fun x33 e33 => ?_)
                  refine lv_istore (lv' := [(7, .int x33), (8, .int (nI i19_8)), (6, .int (nI i7_6)), (5, .int i7_5), (4, .int i7_4), (3, .int 0), (0, .ref (g.2.1 79)), (1, .int (nI m5_0n)), (2, .int (nI n2))]) hx hb dX12_back_93 hl (by decide) rfl (fun ls hl => ?_)
                  refine lv_iinc (v := (nI (i19_8 + 1))) (lv' := [(8, .int (nI (i19_8 + 1))), (7, .int x33), (6, .int (nI i7_6)), (5, .int i7_5), (4, .int i7_4), (3, .int 0), (0, .ref (g.2.1 79)), (1, .int (nI m5_0n)), (2, .int (nI n2))]) hx hb dX12_back_95 hl (k := 1) rfl (nI_add i19_8 1) (by decide) rfl (fun ls hl => ?_)
                  refine lv_goto (tgt := 57) hx hb dX12_back_98 (by decide) ?_
                  exact ih19 (i19_8 + 1) x33 (by omega) (by omega) _ _ _ h (lv_sub hl [0, 1, 2, 3, 4, 5, 6, 7, 8] rfl)
            exact loop57_19 _ 0 0 (Nat.zero_le _) (Nat.lt_succ_self _) _ _ _ h (lv_sub hl [0, 1, 2, 3, 4, 5, 6, 7, 8] rfl)
      exact loop42_7 _ 0 x6 (-9) (Nat.zero_le _) (Or.inl rfl) (Nat.lt_succ_self _) _ _ _ h (lv_sub hl [0, 1, 2, 3, 4, 5, 6] rfl)
    · skip
      refine lv_goto (tgt := 18) hx hb dX12_back_14 (by decide) ?_
      refine lv_istore_n (lv' := [(3, .int (-1)), (0, .ref (g.2.1 79)), (1, .int p1), (2, .int (nI n2))]) hx hb dX12_back_18 rfl hl (by decide) rfl (fun ls hl => ?_)
      refine lv_iload_n hx hb dX12_back_19 rfl (lv_at hl 0 rfl) ?_
      refine lv_if_eq (tgt := 25) hx hb dX12_back_20 (by decide) (fun c => absurd c (by decide)) (fun _ => ?_)
      refine lv_iload_n hx hb dX12_back_23 rfl (lv_at hl 0 rfl) ?_
      exact x_iret E h ⟨hI5, hF5⟩ dX12_back_24
    · skip
      refine lv_goto (tgt := 18) hx hb dX12_back_14 (by decide) ?_
      refine lv_istore_n (lv' := [(3, .int (-2)), (0, .ref (g.2.1 79)), (1, .int p1), (2, .int (nI n2))]) hx hb dX12_back_18 rfl hl (by decide) rfl (fun ls hl => ?_)
      refine lv_iload_n hx hb dX12_back_19 rfl (lv_at hl 0 rfl) ?_
      refine lv_if_eq (tgt := 25) hx hb dX12_back_20 (by decide) (fun c => absurd c (by decide)) (fun _ => ?_)
      refine lv_iload_n hx hb dX12_back_23 rfl (lv_at hl 0 rfl) ?_
      exact x_iret E h ⟨hI5, hF5⟩ dX12_back_24
  · skip
    refine lv_if_eq (tgt := 17) hx hb dX12_back_6 (by decide) (fun _ => ?_) (fun c => absurd (by decide) c)
    refine lv_iconst (v := (-1)) hx hb dX12_back_17 (by decide) ?_
    refine lv_istore_n (lv' := [(3, .int (-1)), (0, .ref (g.2.1 79)), (1, .int p1), (2, .int p2)]) hx hb dX12_back_18 rfl hl (by decide) rfl (fun ls hl => ?_)
    refine lv_iload_n hx hb dX12_back_19 rfl (lv_at hl 0 rfl) ?_
    refine lv_if_eq (tgt := 25) hx hb dX12_back_20 (by decide) (fun c => absurd c (by decide)) (fun _ => ?_)
    refine lv_iload_n hx hb dX12_back_23 rfl (lv_at hl 0 rfl) ?_
    exact x_iret E h ⟨hI, hF⟩ dX12_back_24
set_option maxHeartbeats 4000000 in
set_option maxRecDepth 100000 in
theorem aX12_bitsIn_0 (l : Launch) (g : CX) (σ : ST) (hI : INV σ) (p0 : Int32) : XM l g yX12_bitsIn wsX12_bitsIn { frames := 0, cells := 0, slots := 0, locals := 0 } [.int p0] σ (XQi g (fun r σ' => σ = σ')) := by
  refine x_met (own := RX12) (cc := cX12_bitsIn) (maxL := 3) (ret := (some .int)) (lv := [(0, .int p0)]) (by decide) rfl rfl (Nat.le_of_ble_eq_true rfl) rfl ?_
  intro p e s m args below meth c ls E h hl
  have hx := E.1
  have hb := E.2.1
  have hown := E.2.2.2.1
  have hts := E.2.2.2.2.1
  refine lv_iconst (v := 0) hx hb dX12_bitsIn_0 (by decide) ?_
  refine lv_istore_n (lv' := [(1, .int 0), (0, .int p0)]) hx hb dX12_bitsIn_1 rfl hl (by decide) rfl (fun ls hl => ?_)
  refine lv_iconst (v := 0) hx hb dX12_bitsIn_2 (by decide) ?_
  refine lv_istore_n (lv' := [(2, .int 0), (1, .int 0), (0, .int p0)]) hx hb dX12_bitsIn_3 rfl hl (by decide) rfl (fun ls hl => ?_)
  have loop4_1 : ∀ (fu : Nat) (i1_2 : Nat) (i1_1 : Int32), i1_2 ≤ 9 → 9 - i1_2 < fu → ∀ (H : Heap) (locs : List Loc) (ls : Array Slot), HW g σ s H locs → lv_has ls 3 [(2, .int (nI i1_2)), (1, .int i1_1), (0, .int p0)] → W p l e { frames := 0, cells := 0, slots := 0, locals := 0 } s m args below meth c H locs 0 0 (MQ below (XQi g (fun r σ' => σ = σ')) args s 0 0 (Aw g)) (F0 m 4 ls []) := by
    intro fu
    induction fu with
    | zero => intro i1_2 i1_1 bi1_2 hm; exact absurd hm (Nat.not_lt_zero _)
    | succ fu ih =>
      have ih1 := ih
      clear ih
      intro i1_2 i1_1 bi1_2 hm1 H locs ls h hl
      refine lv_iload_n hx hb dX12_bitsIn_4 rfl (lv_at hl 0 rfl) ?_
      refine lv_bipush (v := 9) hx hb dX12_bitsIn_5 (by decide) ?_
      refine lv_icmp_ge (tgt := 24) hx hb dX12_bitsIn_7 (by decide) (fun c2 => ?_) (fun c2 => ?_)
      · skip
        have b3 : 9 ≤ i1_2 := y_le (a := 9) (b := i1_2) (by omega) (by omega) c2
        refine lv_iload_n hx hb dX12_bitsIn_24 rfl (lv_at hl 1 rfl) ?_
        exact x_iret E h rfl dX12_bitsIn_25
      · skip
        have b4 : i1_2 < 9 := y_nle (a := 9) (b := i1_2) (by omega) (by omega) c2
        refine lv_iload_n hx hb dX12_bitsIn_10 rfl (lv_at hl 1 rfl) ?_
        refine lv_iload_n hx hb dX12_bitsIn_11 rfl (lv_at hl 2 rfl) ?_
        refine lv_iload_n hx hb dX12_bitsIn_12 rfl (lv_at hl 0 rfl) ?_
        refine lv_ishr hx hb dX12_bitsIn_13 ?_
        refine lv_topi (fun x5 e5 => ?_)
        refine lv_iconst (v := 1) hx hb dX12_bitsIn_14 (by decide) ?_
        refine lv_iand hx hb dX12_bitsIn_15 ?_
        obtain ⟨n6, b6, e6⟩ := pk_andE x5 (m := 1) 1 (by decide)
        refine x_topI (v2 := nI n6) e6 ?_
        refine lv_iadd hx hb dX12_bitsIn_16 ?_
        refine lv_topi (fun x7 e7 => ?_)
        refine lv_istore_n (lv' := [(1, .int x7), (2, .int (nI i1_2)), (0, .int p0)]) hx hb dX12_bitsIn_17 rfl hl (by decide) rfl (fun ls hl => ?_)
        refine lv_iinc (v := (nI (i1_2 + 1))) (lv' := [(2, .int (nI (i1_2 + 1))), (1, .int x7), (0, .int p0)]) hx hb dX12_bitsIn_18 hl (k := 1) rfl (nI_add i1_2 1) (by decide) rfl (fun ls hl => ?_)
        refine lv_goto (tgt := 4) hx hb dX12_bitsIn_21 (by decide) ?_
        exact ih1 (i1_2 + 1) x7 (by omega) (by omega) _ _ _ h (lv_sub hl [0, 1, 2] rfl)
  exact loop4_1 _ 0 0 (Nat.zero_le _) (Nat.lt_succ_self _) _ _ _ h (lv_sub hl [0, 1, 2] rfl)
set_option maxHeartbeats 4000000 in
set_option maxRecDepth 100000 in
theorem aX12_offsOf_0 (l : Launch) (g : CX) (σ : ST) (hI : INV σ) (p1 : Int32) (p2 : Nat) (hh0 : p2 < 6) : XM l g yX12_offsOf wsX12_offsOf { frames := 1, cells := 0, slots := 0, locals := 20 } [.ref (g.2.1 79), .int p1, .int (nI p2)] σ (XQi g (fun r σ' => σ = σ')) := by
  refine x_met (own := RX12) (cc := cX12_offsOf) (maxL := 6) (ret := (some .int)) (lv := [(0, .ref (g.2.1 79)), (1, .int p1), (2, .int (nI p2))]) (by decide) rfl rfl (Nat.le_of_ble_eq_true rfl) rfl ?_
  intro p e s m args below meth c ls E h hl
  have hx := E.1
  have hb := E.2.1
  have hown := E.2.2.2.1
  have hts := E.2.2.2.2.1
  have hwX12 : ∀ w ∈ wsX120, w ∈ wsX12_offsOf := by decide +kernel
  refine lv_iconst (v := 0) hx hb dX12_offsOf_0 (by decide) ?_
  refine lv_istore_n (lv' := [(3, .int 0), (0, .ref (g.2.1 79)), (1, .int p1), (2, .int (nI p2))]) hx hb dX12_offsOf_1 rfl hl (by decide) rfl (fun ls hl => ?_)
  refine lv_iconst (v := 0) hx hb dX12_offsOf_2 (by decide) ?_
  refine lv_istore (lv' := [(4, .int 0), (3, .int 0), (0, .ref (g.2.1 79)), (1, .int p1), (2, .int (nI p2))]) hx hb dX12_offsOf_3 hl (by decide) rfl (fun ls hl => ?_)
  obtain ⟨n2, b2, e2⟩ := hI.1 35 48 rfl
  have loop5_1 : ∀ (fu : Nat) (i1_4 : Nat) (i1_3 : Int32), i1_4 ≤ n2 → n2 - i1_4 < fu → ∀ (H : Heap) (locs : List Loc) (ls : Array Slot), HW g σ s H locs → lv_has ls 6 [(4, .int (nI i1_4)), (3, .int i1_3), (0, .ref (g.2.1 79)), (1, .int p1), (2, .int (nI p2))] → W p l e { frames := 1, cells := 0, slots := 0, locals := 20 } s m args below meth c H locs 0 0 (MQ below (XQi g (fun r σ' => σ = σ')) args s 0 0 (Aw g)) (F0 m 5 ls []) := by
    intro fu
    induction fu with
    | zero => intro i1_4 i1_3 bi1_4 hm; exact absurd hm (Nat.not_lt_zero _)
    | succ fu ih =>
      have ih1 := ih
      clear ih
      intro i1_4 i1_3 bi1_4 hm1 H locs ls h hl
      refine lv_iload hx hb dX12_offsOf_5 (lv_at hl 0 rfl) ?_
      refine lv_aload_n hx hb dX12_offsOf_7 rfl (lv_at hl 2 rfl) ?_
      refine x_getI E h (fi_mo_pieces g) rfl hwX12 (by decide) (by decide +kernel) (v := nI n2) e2 dX12_offsOf_8 ?_
      refine lv_icmp_ge (tgt := 75) hx hb dX12_offsOf_11 (by decide) (fun c3 => ?_) (fun c3 => ?_)
      · skip
        have b4 : n2 ≤ i1_4 := y_le (a := n2) (b := i1_4) (by omega) (by omega) c3
        refine lv_iload_n hx hb dX12_offsOf_75 rfl (lv_at hl 1 rfl) ?_
        exact x_iret E h rfl dX12_offsOf_76
      · skip
        have b5 : i1_4 < n2 := y_nle (a := n2) (b := i1_4) (by omega) (by omega) c3
        refine lv_iconst (v := 0) hx hb dX12_offsOf_14 (by decide) ?_
        refine lv_istore (lv' := [(5, .int 0), (4, .int (nI i1_4)), (3, .int i1_3), (0, .ref (g.2.1 79)), (1, .int p1), (2, .int (nI p2))]) hx hb dX12_offsOf_15 hl (by decide) rfl (fun ls hl => ?_)
        have loop17_6 : ∀ (fu : Nat) (i6_5 : Nat) (i6_3 : Int32), i6_5 ≤ 4 → 4 - i6_5 < fu → ∀ (H : Heap) (locs : List Loc) (ls : Array Slot), HW g σ s H locs → lv_has ls 6 [(5, .int (nI i6_5)), (4, .int (nI i1_4)), (3, .int i6_3), (0, .ref (g.2.1 79)), (1, .int p1), (2, .int (nI p2))] → W p l e { frames := 1, cells := 0, slots := 0, locals := 20 } s m args below meth c H locs 0 0 (MQ below (XQi g (fun r σ' => σ = σ')) args s 0 0 (Aw g)) (F0 m 17 ls []) := by
          intro fu
          induction fu with
          | zero => intro i6_5 i6_3 bi6_5 hm; exact absurd hm (Nat.not_lt_zero _)
          | succ fu ih =>
            have ih6 := ih
            clear ih
            intro i6_5 i6_3 bi6_5 hm6 H locs ls h hl
            refine lv_iload hx hb dX12_offsOf_17 (lv_at hl 0 rfl) ?_
            refine lv_iconst (v := 4) hx hb dX12_offsOf_19 (by decide) ?_
            refine lv_icmp_ge (tgt := 69) hx hb dX12_offsOf_20 (by decide) (fun c7 => ?_) (fun c7 => ?_)
            · skip
              have b8 : 4 ≤ i6_5 := y_le (a := 4) (b := i6_5) (by omega) (by omega) c7
              refine lv_iinc (v := (nI (i1_4 + 1))) (lv' := [(4, .int (nI (i1_4 + 1))), (5, .int (nI i6_5)), (3, .int i6_3), (0, .ref (g.2.1 79)), (1, .int p1), (2, .int (nI p2))]) hx hb dX12_offsOf_69 hl (k := 1) rfl (nI_add i1_4 1) (by decide) rfl (fun ls hl => ?_)
              refine lv_goto (tgt := 5) hx hb dX12_offsOf_72 (by decide) ?_
              exact ih1 (i1_4 + 1) i6_3 (by omega) (by omega) _ _ _ h (lv_sub hl [0, 2, 3, 4, 5] rfl)
            · skip
              have b9 : i6_5 < 4 := y_nle (a := 4) (b := i6_5) (by omega) (by omega) c7
              refine lv_iload_n hx hb dX12_offsOf_23 rfl (lv_at hl 4 rfl) ?_
              refine lv_iload hx hb dX12_offsOf_24 (lv_at hl 1 rfl) ?_
              refine lv_ishr hx hb dX12_offsOf_26 ?_
              refine lv_topi (fun x10 e10 => ?_)
              refine lv_iconst (v := 1) hx hb dX12_offsOf_27 (by decide) ?_
              refine lv_iand hx hb dX12_offsOf_28 ?_
              obtain ⟨n11, b11, e11⟩ := pk_andE x10 (m := 1) 1 (by decide)
              refine x_topI (v2 := nI n11) e11 ?_
              refine lv_iconst (v := 1) hx hb dX12_offsOf_29 (by decide) ?_
              refine lv_icmp_ne (tgt := 69) hx hb dX12_offsOf_30 (by decide) (fun c12 => ?_) (fun c12 => ?_)
              · skip
                have b13 : ¬ n11 = 1 := y_ne (a := n11) (b := 1) (by omega) (by omega) c12
                refine lv_iinc (v := (nI (i1_4 + 1))) (lv' := [(4, .int (nI (i1_4 + 1))), (5, .int (nI i6_5)), (3, .int i6_3), (0, .ref (g.2.1 79)), (1, .int p1), (2, .int (nI p2))]) hx hb dX12_offsOf_69 hl (k := 1) rfl (nI_add i1_4 1) (by decide) rfl (fun ls hl => ?_)
                refine lv_goto (tgt := 5) hx hb dX12_offsOf_72 (by decide) ?_
                exact ih1 (i1_4 + 1) i6_3 (by omega) (by omega) _ _ _ h (lv_sub hl [0, 2, 3, 4, 5] rfl)
              · skip
                have b14 : n11 = 1 := y_eq (a := n11) (b := 1) (by omega) (by omega) c12
                refine lv_iload_n hx hb dX12_offsOf_33 rfl (lv_at hl 2 rfl) ?_
                refine lv_aload_n hx hb dX12_offsOf_34 rfl (lv_at hl 3 rfl) ?_
                refine x_getR E h (fr_mo_middle g) rfl hwX12 (by decide) (by decide +kernel) dX12_offsOf_35 ?_
                refine lv_iconst (v := 4) hx hb dX12_offsOf_38 (by decide) ?_
                refine lv_iload hx hb dX12_offsOf_39 (lv_at hl 1 rfl) ?_
                refine lv_imul hx hb dX12_offsOf_41 ?_
                refine x_topI (v2 := nI (4 * i1_4)) (pk_mul 4 i1_4) ?_
                refine lv_iload hx hb dX12_offsOf_42 (lv_at hl 0 rfl) ?_
                refine lv_iadd hx hb dX12_offsOf_44 ?_
                refine x_topI (v2 := nI ((4 * i1_4) + i6_5)) (nI_add (4 * i1_4) i6_5) ?_
                refine x_ldI E h (ia_mo_middle g) (i := nI ((4 * i1_4) + i6_5)) (vp_in_nI (by omega) (by decide)) (v := σ.2.2 78 ((4 * i1_4) + i6_5)) (congrArg (σ.2.2 78) (nI_clamp (by omega))) dX12_offsOf_45 ?_
                refine lv_aload_n hx hb dX12_offsOf_46 rfl (lv_at hl 3 rfl) ?_
                refine x_getR E h (fr_mo_voice g) rfl hwX12 (by decide) (by decide +kernel) dX12_offsOf_47 ?_
                refine lv_iconst (v := 4) hx hb dX12_offsOf_50 (by decide) ?_
                refine lv_iload_n hx hb dX12_offsOf_51 rfl (lv_at hl 5 rfl) ?_
                refine lv_imul hx hb dX12_offsOf_52 ?_
                refine x_topI (v2 := nI (4 * p2)) (pk_mul 4 p2) ?_
                refine lv_iload hx hb dX12_offsOf_53 (lv_at hl 0 rfl) ?_
                refine lv_iadd hx hb dX12_offsOf_55 ?_
                refine x_topI (v2 := nI ((4 * p2) + i6_5)) (nI_add (4 * p2) i6_5) ?_
                refine x_ldI E h (ia_mo_voice g) (i := nI ((4 * p2) + i6_5)) (vp_in_nI (by omega) (by decide)) (v := σ.2.2 91 ((4 * p2) + i6_5)) (congrArg (σ.2.2 91) (nI_clamp (by omega))) dX12_offsOf_56 ?_
                refine lv_isub hx hb dX12_offsOf_57 ?_
                refine lv_topi (fun x15 e15 => ?_)
                refine x_si E h (na := 1) (As := [.int x15]) (aX12_size_0 l g σ hI x15) gX12_offsOf_X12_size rfl ⟨rfl, rfl⟩ rfl (by decide +kernel) ⟨Nat.le_of_ble_eq_true rfl, Nat.le_of_ble_eq_true rfl⟩ hl.1 rfl (Nat.le_of_ble_eq_true rfl) dX12_offsOf_58 ⟨Nat.le_of_ble_eq_true rfl, Nat.le_of_ble_eq_true rfl⟩ (fun r16 s16 H locs q16 h => ?_)
                subst q16
                refine lv_iadd hx hb dX12_offsOf_61 ?_
                refine lv_topi (fun x17 e17 => ?_)
                refine lv_istore_n (lv' := [(3, .int x17), (5, .int (nI i6_5)), (4, .int (nI i1_4)), (0, .ref (g.2.1 79)), (1, .int p1), (2, .int (nI p2))]) hx hb dX12_offsOf_62 rfl hl (by decide) rfl (fun ls hl => ?_)
                refine lv_iinc (v := (nI (i6_5 + 1))) (lv' := [(5, .int (nI (i6_5 + 1))), (3, .int x17), (4, .int (nI i1_4)), (0, .ref (g.2.1 79)), (1, .int p1), (2, .int (nI p2))]) hx hb dX12_offsOf_63 hl (k := 1) rfl (nI_add i6_5 1) (by decide) rfl (fun ls hl => ?_)
                refine lv_goto (tgt := 17) hx hb dX12_offsOf_66 (by decide) ?_
                exact ih6 (i6_5 + 1) x17 (by omega) (by omega) _ _ _ h (lv_sub hl [0, 2, 1, 3, 4, 5] rfl)
        exact loop17_6 _ 0 i1_3 (Nat.zero_le _) (Nat.lt_succ_self _) _ _ _ h (lv_sub hl [0, 1, 2, 3, 4, 5] rfl)
  exact loop5_1 _ 0 0 (Nat.zero_le _) (Nat.lt_succ_self _) _ _ _ h (lv_sub hl [0, 1, 2, 3, 4] rfl)
set_option maxHeartbeats 4000000 in
set_option maxRecDepth 100000 in
theorem aX12_odds_0 (l : Launch) (g : CX) (σ : ST) (hI : INV σ) (p1 : Int32) (p2 : Int32) (p3 : Int32) : XM l g yX12_odds wsX12_odds { frames := 6, cells := 0, slots := 0, locals := 140 } [.ref (g.2.1 79), .int p1, .int p2, .int p3] σ (XQi g (fun r σ' => INV σ' ∧ Fr [(35, 39)] [(75, 86), (88, 89)] σ σ')) := by
  refine x_met (own := RX12) (cc := cX12_odds) (maxL := 9) (ret := (some .int)) (lv := [(0, .ref (g.2.1 79)), (1, .int p1), (2, .int p2), (3, .int p3)]) (by decide) rfl rfl (Nat.le_of_ble_eq_true rfl) rfl ?_
  intro p e s m args below meth c ls E h hl
  have hx := E.1
  have hb := E.2.1
  have hown := E.2.2.2.1
  have hts := E.2.2.2.2.1
  have hF : Fr [(35, 39)] [(75, 86), (88, 89)] σ σ := Fr.refl σ
  have hwX12 : ∀ w ∈ wsX120, w ∈ wsX12_odds := by decide +kernel
  refine lv_iload_n hx hb dX12_odds_0 rfl (lv_at hl 2 rfl) ?_
  refine lv_iconst (v := 0) hx hb dX12_odds_1 (by decide) ?_
  refine lv_aload_n hx hb dX12_odds_2 rfl (lv_at hl 0 rfl) ?_
  obtain ⟨n1, b1, e1⟩ := hI.1 40 6 rfl
  refine x_getI E h (fi_mo_kept g) rfl hwX12 (by decide) (by decide +kernel) (v := nI n1) e1 dX12_odds_3 ?_
  refine lv_iconst (v := 1) hx hb dX12_odds_6 (by decide) ?_
  refine lv_isub hx hb dX12_odds_7 ?_
  refine x_si E h (na := 3) (As := [.int p2, .int 0, .int (nI n1 - 1)]) (aX12_in_0 l g σ hI p2 0 (nI n1 - 1)) gX12_odds_X12_in rfl ⟨rfl, rfl⟩ rfl (by decide +kernel) ⟨Nat.le_of_ble_eq_true rfl, Nat.le_of_ble_eq_true rfl⟩ hl.1 rfl (Nat.le_of_ble_eq_true rfl) dX12_odds_8 ⟨Nat.le_of_ble_eq_true rfl, Nat.le_of_ble_eq_true rfl⟩ (fun r2 s2 H locs q2 h => ?_)
  obtain ⟨d2, rfl⟩ := q2
  rcases d2 with ⟨rfl, u2_0_0, u2_0_1⟩ | ⟨rfl, u2_1_0⟩
  · skip
    obtain ⟨n3, b3, rfl⟩ := y_rnltM (N := n1) (y_lo1 u2_0_0 (by decide)) u2_0_1 (by omega)
    have b4 : 0 ≤ n3 := y_nlt (a := n3) (b := 0) (by omega) (by omega) u2_0_0
    refine lv_if_eq (tgt := 31) hx hb dX12_odds_11 (by decide) (fun c => absurd c (by decide)) (fun _ => ?_)
    refine lv_iload_n hx hb dX12_odds_14 rfl (lv_at hl 3 rfl) ?_
    refine lv_iconst (v := 0) hx hb dX12_odds_15 (by decide) ?_
    refine lv_iconst (v := 1) hx hb dX12_odds_16 (by decide) ?_
    refine x_si E h (na := 3) (As := [.int p3, .int 0, .int 1]) (aX12_in_0 l g σ hI p3 0 1) gX12_odds_X12_in rfl ⟨rfl, rfl⟩ rfl (by decide +kernel) ⟨Nat.le_of_ble_eq_true rfl, Nat.le_of_ble_eq_true rfl⟩ hl.1 rfl (Nat.le_of_ble_eq_true rfl) dX12_odds_17 ⟨Nat.le_of_ble_eq_true rfl, Nat.le_of_ble_eq_true rfl⟩ (fun r5 s5 H locs q5 h => ?_)
    obtain ⟨d5, rfl⟩ := q5
    rcases d5 with ⟨rfl, u5_0_0, u5_0_1⟩ | ⟨rfl, u5_1_0⟩
    · skip
      obtain ⟨n6, b6, rfl⟩ := y_rnlt (N := 1) (y_lo1 u5_0_0 (by decide)) u5_0_1 (by omega)
      have b7 : 0 ≤ n6 := y_nlt (a := n6) (b := 0) (by omega) (by omega) u5_0_0
      have b8 : n6 ≤ 1 := y_nlt (a := 1) (b := n6) (by omega) (by omega) u5_0_1
      refine lv_if_eq (tgt := 31) hx hb dX12_odds_20 (by decide) (fun c => absurd c (by decide)) (fun _ => ?_)
      refine lv_aload_n hx hb dX12_odds_23 rfl (lv_at hl 0 rfl) ?_
      refine lv_iload_n hx hb dX12_odds_24 rfl (lv_at hl 1 rfl) ?_
      refine x_vi E h (na := 1) (As := [.int p1]) (aX12_wrong_0 l g σ hI p1) (oc_mo g) rfl gX12_odds_X12_wrong rfl ⟨rfl, rfl⟩ rfl (by decide +kernel) ⟨Nat.le_of_ble_eq_true rfl, Nat.le_of_ble_eq_true rfl⟩ hl.1 rfl (Nat.le_of_ble_eq_true rfl) dX12_odds_25 ⟨Nat.le_of_ble_eq_true rfl, Nat.le_of_ble_eq_true rfl⟩ (fun r9 s9 H locs q9 h => ?_)
      obtain ⟨d9, hI9, f9⟩ := q9
      have hF9 := hF.call f9 (I := [(35, 39)]) (J := [(75, 86), (88, 89)]) rfl rfl
      have e10 : s9.1 40 = nI n1 := ((f9.1 40 rfl)).trans e1
      rcases d9 with ⟨rfl, m9_0n, m9_0P, m9_0R, u9_0_0, u9_0_1, u9_0_2, u9_0_3, u9_0_4, rfl, u9_0_6⟩ | rfl | rfl
      · skip
        refine lv_goto (tgt := 32) hx hb dX12_odds_28 (by decide) ?_
        refine lv_istore (lv' := [(4, .int 0), (0, .ref (g.2.1 79)), (1, .int (nI m9_0n)), (2, .int (nI n3)), (3, .int (nI n6))]) hx hb dX12_odds_32 hl (by decide) rfl (fun ls hl => ?_)
        refine lv_iload hx hb dX12_odds_34 (lv_at hl 0 rfl) ?_
        refine lv_if_eq (tgt := 42) hx hb dX12_odds_36 (by decide) (fun _ => ?_) (fun c => absurd (by decide) c)
        refine lv_iconst (v := 0) hx hb dX12_odds_42 (by decide) ?_
        refine lv_istore (lv' := [(5, .int 0), (4, .int 0), (0, .ref (g.2.1 79)), (1, .int (nI m9_0n)), (2, .int (nI n3)), (3, .int (nI n6))]) hx hb dX12_odds_43 hl (by decide) rfl (fun ls hl => ?_)
        refine lv_iconst (v := 0) hx hb dX12_odds_45 (by decide) ?_
        refine lv_istore (lv' := [(6, .int 0), (5, .int 0), (4, .int 0), (0, .ref (g.2.1 79)), (1, .int (nI m9_0n)), (2, .int (nI n3)), (3, .int (nI n6))]) hx hb dX12_odds_46 hl (by decide) rfl (fun ls hl => ?_)
        have loop48_11 : ∀ (fu : Nat) (i11_6 : Nat) (i11_5 : Int32), i11_6 ≤ m9_0P → m9_0P - i11_6 < fu → ∀ (H : Heap) (locs : List Loc) (ls : Array Slot), HW g s9 s H locs → lv_has ls 9 [(6, .int (nI i11_6)), (5, .int i11_5), (4, .int 0), (0, .ref (g.2.1 79)), (1, .int (nI m9_0n)), (2, .int (nI n3)), (3, .int (nI n6))] → W p l e { frames := 6, cells := 0, slots := 0, locals := 140 } s m args below meth c H locs 0 0 (MQ below (XQi g (fun r σ' => INV σ' ∧ Fr [(35, 39)] [(75, 86), (88, 89)] σ σ')) args s 0 0 (Aw g)) (F0 m 48 ls []) := by
          intro fu
          induction fu with
          | zero => intro i11_6 i11_5 bi11_6 hm; exact absurd hm (Nat.not_lt_zero _)
          | succ fu ih =>
            have ih11 := ih
            clear ih
            intro i11_6 i11_5 bi11_6 hm11 H locs ls h hl
            refine lv_iload hx hb dX12_odds_48 (lv_at hl 0 rfl) ?_
            refine lv_aload_n hx hb dX12_odds_50 rfl (lv_at hl 3 rfl) ?_
            refine x_getI E h (fi_mo_pieces g) rfl hwX12 (by decide) (by decide +kernel) (v := nI m9_0P) u9_0_0 dX12_odds_51 ?_
            refine lv_icmp_ge (tgt := 87) hx hb dX12_odds_54 (by decide) (fun c12 => ?_) (fun c12 => ?_)
            · skip
              have b13 : m9_0P ≤ i11_6 := y_le (a := m9_0P) (b := i11_6) (by omega) (by omega) c12
              refine lv_iconst (v := 0) hx hb dX12_odds_87 (by decide) ?_
              refine lv_istore (lv' := [(6, .int 0), (5, .int i11_5), (4, .int 0), (0, .ref (g.2.1 79)), (1, .int (nI m9_0n)), (2, .int (nI n3)), (3, .int (nI n6))]) hx hb dX12_odds_88 hl (by decide) rfl (fun ls hl => ?_)
              refine lv_iconst (v := 0) hx hb dX12_odds_90 (by decide) ?_
              refine lv_istore (lv' := [(7, .int 0), (6, .int 0), (5, .int i11_5), (4, .int 0), (0, .ref (g.2.1 79)), (1, .int (nI m9_0n)), (2, .int (nI n3)), (3, .int (nI n6))]) hx hb dX12_odds_91 hl (by decide) rfl (fun ls hl => ?_)
              refine lv_iconst (v := 0) hx hb dX12_odds_93 (by decide) ?_
              refine lv_istore (lv' := [(8, .int 0), (7, .int 0), (6, .int 0), (5, .int i11_5), (4, .int 0), (0, .ref (g.2.1 79)), (1, .int (nI m9_0n)), (2, .int (nI n3)), (3, .int (nI n6))]) hx hb dX12_odds_94 hl (by decide) rfl (fun ls hl => ?_)
              have loop96_14 : ∀ (fu : Nat) (i14_8 : Nat) (i14_7 : Int32) (i14_6 : Int32), i14_8 ≤ 2 ^ m9_0P → 2 ^ m9_0P - i14_8 < fu → ∀ (H : Heap) (locs : List Loc) (ls : Array Slot), HW g s9 s H locs → lv_has ls 9 [(8, .int (nI i14_8)), (7, .int i14_7), (6, .int i14_6), (5, .int i11_5), (4, .int 0), (0, .ref (g.2.1 79)), (1, .int (nI m9_0n)), (2, .int (nI n3)), (3, .int (nI n6))] → W p l e { frames := 6, cells := 0, slots := 0, locals := 140 } s m args below meth c H locs 0 0 (MQ below (XQi g (fun r σ' => INV σ' ∧ Fr [(35, 39)] [(75, 86), (88, 89)] σ σ')) args s 0 0 (Aw g)) (F0 m 96 ls []) := by
                intro fu
                induction fu with
                | zero => intro i14_8 i14_7 i14_6 bi14_8 hm; exact absurd hm (Nat.not_lt_zero _)
                | succ fu ih =>
                  have ih14 := ih
                  clear ih
                  intro i14_8 i14_7 i14_6 bi14_8 hm14 H locs ls h hl
                  refine lv_iload hx hb dX12_odds_96 (lv_at hl 0 rfl) ?_
                  refine lv_iconst (v := 1) hx hb dX12_odds_98 (by decide) ?_
                  refine lv_aload_n hx hb dX12_odds_99 rfl (lv_at hl 5 rfl) ?_
                  refine x_getI E h (fi_mo_pieces g) rfl hwX12 (by decide) (by decide +kernel) (v := nI m9_0P) u9_0_0 dX12_odds_100 ?_
                  refine lv_ishl hx hb dX12_odds_103 ?_
                  refine x_topI (v2 := nI (2 ^ m9_0P)) (y_shl1 (by omega)) ?_
                  have b15 := y_pow (p := m9_0P) (by omega)
                  refine lv_icmp_ge (tgt := 156) hx hb dX12_odds_104 (by decide) (fun c16 => ?_) (fun c16 => ?_)
                  · skip
                    have b17 : (2 ^ m9_0P) ≤ i14_8 := y_le (a := (2 ^ m9_0P)) (b := i14_8) (by omega) (by omega) c16
                    refine lv_iload_n hx hb dX12_odds_156 rfl (lv_at hl 8 rfl) ?_
                    refine lv_if_ne (tgt := 165) hx hb dX12_odds_157 (by decide) (fun c18 => ?_) (fun c18 => ?_)
                    · skip
                      have b19 : ¬ n6 = 0 := y_ne (a := n6) (b := 0) (by omega) (by omega) c18
                      refine lv_iload hx hb dX12_odds_165 (lv_at hl 2 rfl) ?_
                      exact x_iret E h ⟨hI9, hF9⟩ dX12_odds_167
                    · skip
                      have b20 : n6 = 0 := y_eq (a := n6) (b := 0) (by omega) (by omega) c18
                      refine lv_iload hx hb dX12_odds_160 (lv_at hl 1 rfl) ?_
                      refine lv_goto (tgt := 167) hx hb dX12_odds_162 (by decide) ?_
                      exact x_iret E h ⟨hI9, hF9⟩ dX12_odds_167
                  · skip
                    have b21 : i14_8 < (2 ^ m9_0P) := y_nle (a := (2 ^ m9_0P)) (b := i14_8) (by omega) (by omega) c16
                    refine lv_iload hx hb dX12_odds_107 (lv_at hl 0 rfl) ?_
                    refine x_si E h (na := 1) (As := [.int (nI i14_8)]) (aX12_bitsIn_0 l g s9 hI9 (nI i14_8)) gX12_odds_X12_bitsIn rfl ⟨rfl, rfl⟩ rfl (by decide +kernel) ⟨Nat.le_of_ble_eq_true rfl, Nat.le_of_ble_eq_true rfl⟩ hl.1 rfl (Nat.le_of_ble_eq_true rfl) dX12_odds_109 ⟨Nat.le_of_ble_eq_true rfl, Nat.le_of_ble_eq_true rfl⟩ (fun r22 s22 H locs q22 h => ?_)
                    subst q22
                    refine lv_iload hx hb dX12_odds_112 (lv_at hl 3 rfl) ?_
                    refine x_si E h (na := 1) (As := [.int i11_5]) (aX12_bitsIn_0 l g s9 hI9 i11_5) gX12_odds_X12_bitsIn rfl ⟨rfl, rfl⟩ rfl (by decide +kernel) ⟨Nat.le_of_ble_eq_true rfl, Nat.le_of_ble_eq_true rfl⟩ hl.1 rfl (Nat.le_of_ble_eq_true rfl) dX12_odds_114 ⟨Nat.le_of_ble_eq_true rfl, Nat.le_of_ble_eq_true rfl⟩ (fun r23 s23 H locs q23 h => ?_)
                    subst q23
                    have j150_26 : ∀ (y26_l7 : Int32) (y26_l6 : Int32), ∀ (H : Heap) (locs : List Loc) (ls : Array Slot), HW g s9 s H locs → lv_has ls 9 [(8, .int (nI i14_8)), (7, .int y26_l7), (6, .int y26_l6), (5, .int i11_5), (4, .int 0), (0, .ref (g.2.1 79)), (1, .int (nI m9_0n)), (2, .int (nI n3)), (3, .int (nI n6))] → W p l e { frames := 6, cells := 0, slots := 0, locals := 140 } s m args below meth c H locs 0 0 (MQ below (XQi g (fun r σ' => INV σ' ∧ Fr [(35, 39)] [(75, 86), (88, 89)] σ σ')) args s 0 0 (Aw g)) (F0 m 150 ls []) := by
                      intro y26_l7 y26_l6 H locs ls h hl
                      refine lv_iinc (v := (nI (i14_8 + 1))) (lv' := [(8, .int (nI (i14_8 + 1))), (7, .int y26_l7), (6, .int y26_l6), (5, .int i11_5), (4, .int 0), (0, .ref (g.2.1 79)), (1, .int (nI m9_0n)), (2, .int (nI n3)), (3, .int (nI n6))]) hx hb dX12_odds_150 hl (k := 0) rfl (nI_add i14_8 1) (by decide) rfl (fun ls hl => ?_)
                      refine lv_goto (tgt := 96) hx hb dX12_odds_153 (by decide) ?_
                      exact ih14 (i14_8 + 1) y26_l7 y26_l6 (by omega) (by omega) _ _ _ h (lv_sub hl [0, 1, 2, 3, 4, 5, 6, 7, 8] rfl)
                    refine lv_icmp_ne (tgt := 150) hx hb dX12_odds_117 (by decide) (fun c24 => ?_) (fun c24 => ?_)
                    · skip
                      exact j150_26 i14_7 i14_6 _ _ _ h (lv_sub hl [0, 1, 2, 3, 4, 5, 6, 7, 8] rfl)
                    · skip
                      obtain ⟨z28, e28⟩ : ∃ y : Int32, y = i14_6 + 1 := ⟨_, rfl⟩
                      refine lv_iinc (v := z28) (lv' := [(6, .int z28), (8, .int (nI i14_8)), (7, .int i14_7), (5, .int i11_5), (4, .int 0), (0, .ref (g.2.1 79)), (1, .int (nI m9_0n)), (2, .int (nI n3)), (3, .int (nI n6))]) hx hb dX12_odds_120 hl (k := 2) rfl e28.symm (by decide) rfl (fun ls hl => ?_)
                      refine lv_iload hx hb dX12_odds_123 (lv_at hl 2 rfl) ?_
                      refine lv_aload_n hx hb dX12_odds_125 rfl (lv_at hl 5 rfl) ?_
                      refine lv_iload hx hb dX12_odds_126 (lv_at hl 1 rfl) ?_
                      refine lv_iload_n hx hb dX12_odds_128 rfl (lv_at hl 7 rfl) ?_
                      refine x_vi E h (na := 2) (As := [.int (nI i14_8), .int (nI n3)]) (aX12_offsOf_0 l g s9 hI9 (nI i14_8) n3 (by omega)) (oc_mo g) rfl gX12_odds_X12_offsOf rfl ⟨rfl, rfl⟩ rfl (by decide +kernel) ⟨Nat.le_of_ble_eq_true rfl, Nat.le_of_ble_eq_true rfl⟩ hl.1 rfl (Nat.le_of_ble_eq_true rfl) dX12_odds_129 ⟨Nat.le_of_ble_eq_true rfl, Nat.le_of_ble_eq_true rfl⟩ (fun r29 s29 H locs q29 h => ?_)
                      subst q29
                      refine lv_aload_n hx hb dX12_odds_132 rfl (lv_at hl 5 rfl) ?_
                      refine lv_iload hx hb dX12_odds_133 (lv_at hl 3 rfl) ?_
                      refine lv_iload_n hx hb dX12_odds_135 rfl (lv_at hl 7 rfl) ?_
                      refine x_vi E h (na := 2) (As := [.int i11_5, .int (nI n3)]) (aX12_offsOf_0 l g s9 hI9 i11_5 n3 (by omega)) (oc_mo g) rfl gX12_odds_X12_offsOf rfl ⟨rfl, rfl⟩ rfl (by decide +kernel) ⟨Nat.le_of_ble_eq_true rfl, Nat.le_of_ble_eq_true rfl⟩ hl.1 rfl (Nat.le_of_ble_eq_true rfl) dX12_odds_136 ⟨Nat.le_of_ble_eq_true rfl, Nat.le_of_ble_eq_true rfl⟩ (fun r30 s30 H locs q30 h => ?_)
                      subst q30
                      have j147_33 : ∀ (y33_s0 : Int32), ∀ (H : Heap) (locs : List Loc) (ls : Array Slot), HW g s9 s H locs → lv_has ls 9 [(6, .int z28), (8, .int (nI i14_8)), (7, .int i14_7), (5, .int i11_5), (4, .int 0), (0, .ref (g.2.1 79)), (1, .int (nI m9_0n)), (2, .int (nI n3)), (3, .int (nI n6))] → W p l e { frames := 6, cells := 0, slots := 0, locals := 140 } s m args below meth c H locs 0 0 (MQ below (XQi g (fun r σ' => INV σ' ∧ Fr [(35, 39)] [(75, 86), (88, 89)] σ σ')) args s 0 0 (Aw g)) (F0 m 147 ls [.int y33_s0, .int i14_7]) := by
                        intro y33_s0 H locs ls h hl
                        refine lv_iadd hx hb dX12_odds_147 ?_
                        refine lv_topi (fun x34 e34 => ?_)
                        refine lv_istore (lv' := [(7, .int x34), (6, .int z28), (8, .int (nI i14_8)), (5, .int i11_5), (4, .int 0), (0, .ref (g.2.1 79)), (1, .int (nI m9_0n)), (2, .int (nI n3)), (3, .int (nI n6))]) hx hb dX12_odds_148 hl (by decide) rfl (fun ls hl => ?_)
                        exact j150_26 x34 z28 _ _ _ h (lv_sub hl [2, 0, 1, 3, 4, 5, 6, 7, 8] rfl)
                      refine lv_icmp_gt (tgt := 146) hx hb dX12_odds_139 (by decide) (fun c31 => ?_) (fun c31 => ?_)
                      · skip
                        refine lv_iconst (v := 0) hx hb dX12_odds_146 (by decide) ?_
                        exact j147_33 0 _ _ _ h (lv_sub hl [0, 1, 2, 3, 4, 5, 6, 7, 8] rfl)
                      · skip
                        refine lv_iconst (v := 1) hx hb dX12_odds_142 (by decide) ?_
                        refine lv_goto (tgt := 147) hx hb dX12_odds_143 (by decide) ?_
                        exact j147_33 1 _ _ _ h (lv_sub hl [0, 1, 2, 3, 4, 5, 6, 7, 8] rfl)
              exact loop96_14 _ 0 0 0 (Nat.zero_le _) (Nat.lt_succ_self _) _ _ _ h (lv_sub hl [0, 1, 2, 3, 4, 5, 6, 7, 8] rfl)
            · skip
              have b36 : i11_6 < m9_0P := y_nle (a := m9_0P) (b := i11_6) (by omega) (by omega) c12
              refine lv_iload hx hb dX12_odds_57 (lv_at hl 1 rfl) ?_
              refine lv_aload_n hx hb dX12_odds_59 rfl (lv_at hl 3 rfl) ?_
              refine x_getR E h (fr_mo_best g) rfl hwX12 (by decide) (by decide +kernel) dX12_odds_60 ?_
              refine lv_iload hx hb dX12_odds_63 (lv_at hl 0 rfl) ?_
              obtain ⟨n37, b37, e37⟩ := hI9.2 86 8 rfl i11_6
              refine x_ldI E h (ia_mo_best g) (i := nI i11_6) (vp_in_nI (by omega) (by decide)) (v := nI n37) ((congrArg (s9.2.2 86) (nI_clamp (by omega))).trans e37) dX12_odds_65 ?_
              refine lv_iload_n hx hb dX12_odds_66 rfl (lv_at hl 4 rfl) ?_
              have j78_40 : ∀ (y40_s0 : Int32), ∀ (H : Heap) (locs : List Loc) (ls : Array Slot), HW g s9 s H locs → lv_has ls 9 [(6, .int (nI i11_6)), (5, .int i11_5), (4, .int 0), (0, .ref (g.2.1 79)), (1, .int (nI m9_0n)), (2, .int (nI n3)), (3, .int (nI n6))] → W p l e { frames := 6, cells := 0, slots := 0, locals := 140 } s m args below meth c H locs 0 0 (MQ below (XQi g (fun r σ' => INV σ' ∧ Fr [(35, 39)] [(75, 86), (88, 89)] σ σ')) args s 0 0 (Aw g)) (F0 m 78 ls [.int y40_s0, .int i11_5]) := by
                intro y40_s0 H locs ls h hl
                refine lv_ior hx hb dX12_odds_78 ?_
                refine lv_topi (fun x41 e41 => ?_)
                refine lv_istore (lv' := [(5, .int x41), (6, .int (nI i11_6)), (4, .int 0), (0, .ref (g.2.1 79)), (1, .int (nI m9_0n)), (2, .int (nI n3)), (3, .int (nI n6))]) hx hb dX12_odds_79 hl (by decide) rfl (fun ls hl => ?_)
                refine lv_iinc (v := (nI (i11_6 + 1))) (lv' := [(6, .int (nI (i11_6 + 1))), (5, .int x41), (4, .int 0), (0, .ref (g.2.1 79)), (1, .int (nI m9_0n)), (2, .int (nI n3)), (3, .int (nI n6))]) hx hb dX12_odds_81 hl (k := 1) rfl (nI_add i11_6 1) (by decide) rfl (fun ls hl => ?_)
                refine lv_goto (tgt := 48) hx hb dX12_odds_84 (by decide) ?_
                exact ih11 (i11_6 + 1) x41 (by omega) (by omega) _ _ _ h (lv_sub hl [0, 1, 2, 3, 4, 5, 6] rfl)
              refine lv_icmp_ne (tgt := 77) hx hb dX12_odds_67 (by decide) (fun c38 => ?_) (fun c38 => ?_)
              · skip
                have b39 : ¬ n37 = m9_0n := y_ne (a := n37) (b := m9_0n) (by omega) (by omega) c38
                refine lv_iconst (v := 0) hx hb dX12_odds_77 (by decide) ?_
                exact j78_40 0 _ _ _ h (lv_sub hl [0, 1, 2, 3, 4, 5, 6] rfl)
              · skip
                have b42 : n37 = m9_0n := y_eq (a := n37) (b := m9_0n) (by omega) (by omega) c38
                refine lv_iconst (v := 1) hx hb dX12_odds_70 (by decide) ?_
                refine lv_iload hx hb dX12_odds_71 (lv_at hl 0 rfl) ?_
                refine lv_ishl hx hb dX12_odds_73 ?_
                refine x_topI (v2 := nI (2 ^ i11_6)) (y_shl1 (by omega)) ?_
                have b43 := y_pow (p := i11_6) (by omega)
                refine lv_goto (tgt := 78) hx hb dX12_odds_74 (by decide) ?_
                exact j78_40 (nI (2 ^ i11_6)) _ _ _ h (lv_sub hl [0, 1, 2, 3, 4, 5, 6] rfl)
        exact loop48_11 _ 0 0 (Nat.zero_le _) (Nat.lt_succ_self _) _ _ _ h (lv_sub hl [0, 1, 2, 3, 4, 5, 6] rfl)
      · skip
        refine lv_goto (tgt := 32) hx hb dX12_odds_28 (by decide) ?_
        refine lv_istore (lv' := [(4, .int (-1)), (0, .ref (g.2.1 79)), (1, .int p1), (2, .int (nI n3)), (3, .int (nI n6))]) hx hb dX12_odds_32 hl (by decide) rfl (fun ls hl => ?_)
        refine lv_iload hx hb dX12_odds_34 (lv_at hl 0 rfl) ?_
        refine lv_if_eq (tgt := 42) hx hb dX12_odds_36 (by decide) (fun c => absurd c (by decide)) (fun _ => ?_)
        refine lv_iload hx hb dX12_odds_39 (lv_at hl 0 rfl) ?_
        exact x_iret E h ⟨hI9, hF9⟩ dX12_odds_41
      · skip
        refine lv_goto (tgt := 32) hx hb dX12_odds_28 (by decide) ?_
        refine lv_istore (lv' := [(4, .int (-2)), (0, .ref (g.2.1 79)), (1, .int p1), (2, .int (nI n3)), (3, .int (nI n6))]) hx hb dX12_odds_32 hl (by decide) rfl (fun ls hl => ?_)
        refine lv_iload hx hb dX12_odds_34 (lv_at hl 0 rfl) ?_
        refine lv_if_eq (tgt := 42) hx hb dX12_odds_36 (by decide) (fun c => absurd c (by decide)) (fun _ => ?_)
        refine lv_iload hx hb dX12_odds_39 (lv_at hl 0 rfl) ?_
        exact x_iret E h ⟨hI9, hF9⟩ dX12_odds_41
    · skip
      refine lv_if_eq (tgt := 31) hx hb dX12_odds_20 (by decide) (fun _ => ?_) (fun c => absurd (by decide) c)
      refine lv_iconst (v := (-1)) hx hb dX12_odds_31 (by decide) ?_
      refine lv_istore (lv' := [(4, .int (-1)), (0, .ref (g.2.1 79)), (1, .int p1), (2, .int (nI n3)), (3, .int p3)]) hx hb dX12_odds_32 hl (by decide) rfl (fun ls hl => ?_)
      refine lv_iload hx hb dX12_odds_34 (lv_at hl 0 rfl) ?_
      refine lv_if_eq (tgt := 42) hx hb dX12_odds_36 (by decide) (fun c => absurd c (by decide)) (fun _ => ?_)
      refine lv_iload hx hb dX12_odds_39 (lv_at hl 0 rfl) ?_
      exact x_iret E h ⟨hI, hF⟩ dX12_odds_41
  · skip
    refine lv_if_eq (tgt := 31) hx hb dX12_odds_11 (by decide) (fun _ => ?_) (fun c => absurd (by decide) c)
    refine lv_iconst (v := (-1)) hx hb dX12_odds_31 (by decide) ?_
    refine lv_istore (lv' := [(4, .int (-1)), (0, .ref (g.2.1 79)), (1, .int p1), (2, .int p2), (3, .int p3)]) hx hb dX12_odds_32 hl (by decide) rfl (fun ls hl => ?_)
    refine lv_iload hx hb dX12_odds_34 (lv_at hl 0 rfl) ?_
    refine lv_if_eq (tgt := 42) hx hb dX12_odds_36 (by decide) (fun c => absurd c (by decide)) (fun _ => ?_)
    refine lv_iload hx hb dX12_odds_39 (lv_at hl 0 rfl) ?_
    exact x_iret E h ⟨hI, hF⟩ dX12_odds_41
set_option maxHeartbeats 4000000 in
set_option maxRecDepth 100000 in
theorem aX12_heapOfRow_0 (l : Launch) (g : CX) (σ : ST) (hI : INV σ) (p1 : Nat) (F31 : Nat) (eF31 : σ.1 31 = nI F31) (F35 : Nat) (eF35 : σ.1 35 = nI F35) (hh0 : F35 ≤ 9) (hh1 : p1 < F31) (hh2 : F31 ≤ 48) (hPO : AP (σ.2.2 77) 0 F31 (PQ F35)) : XM l g yX12_heapOfRow wsX12_heapOfRow { frames := 0, cells := 0, slots := 0, locals := 0 } [.ref (g.2.1 79), .int (nI p1)] σ (XQi g (fun r σ' => (((-9) = r ∧ (σ.2.2 77 p1) = (-9)) ∨ (∃ n : Nat, n < 9 ∧ r = nI n)) ∧ σ = σ')) := by
  refine x_met (own := RX12) (cc := cX12_heapOfRow) (maxL := 2) (ret := (some .int)) (lv := [(0, .ref (g.2.1 79)), (1, .int (nI p1))]) (by decide) rfl rfl (Nat.le_of_ble_eq_true rfl) rfl ?_
  intro p e s m args below meth c ls E h hl
  have hx := E.1
  have hb := E.2.1
  have hown := E.2.2.2.1
  have hts := E.2.2.2.2.1
  have hwX12 : ∀ w ∈ wsX120, w ∈ wsX12_heapOfRow := by decide +kernel
  refine lv_aload_n hx hb dX12_heapOfRow_0 rfl (lv_at hl 0 rfl) ?_
  refine x_getR E h (fr_mo_pieceOf g) rfl hwX12 (by decide) (by decide +kernel) dX12_heapOfRow_1 ?_
  refine lv_iload_n hx hb dX12_heapOfRow_4 rfl (lv_at hl 1 rfl) ?_
  refine x_ldI E h (ia_mo_pieceOf g) (i := nI p1) (vp_in_nI (by omega) (by decide)) (v := σ.2.2 77 p1) (congrArg (σ.2.2 77) (nI_clamp (by omega))) dX12_heapOfRow_5 ?_
  refine lv_bipush (v := (-9)) hx hb dX12_heapOfRow_6 (by decide) ?_
  refine lv_icmp_ne (tgt := 16) hx hb dX12_heapOfRow_8 (by decide) (fun c1 => ?_) (fun c1 => ?_)
  · skip
    refine lv_aload_n hx hb dX12_heapOfRow_16 rfl (lv_at hl 0 rfl) ?_
    refine x_getR E h (fr_mo_best g) rfl hwX12 (by decide) (by decide +kernel) dX12_heapOfRow_17 ?_
    refine lv_aload_n hx hb dX12_heapOfRow_20 rfl (lv_at hl 0 rfl) ?_
    refine x_getR E h (fr_mo_pieceOf g) rfl hwX12 (by decide) (by decide +kernel) dX12_heapOfRow_21 ?_
    refine lv_iload_n hx hb dX12_heapOfRow_24 rfl (lv_at hl 1 rfl) ?_
    obtain ⟨n3, b3, e3⟩ := PQ.ne (hPO p1 (Nat.zero_le _) (by omega)) c1
    refine x_ldI E h (ia_mo_pieceOf g) (i := nI p1) (vp_in_nI (by omega) (by decide)) (v := nI n3) ((congrArg (σ.2.2 77) (nI_clamp (by omega))).trans e3) dX12_heapOfRow_25 ?_
    obtain ⟨n4, b4, e4⟩ := hI.2 86 8 rfl n3
    refine x_ldI E h (ia_mo_best g) (i := nI n3) (vp_in_nI (by omega) (by decide)) (v := nI n4) ((congrArg (σ.2.2 86) (nI_clamp (by omega))).trans e4) dX12_heapOfRow_26 ?_
    exact x_iret E h ⟨(Or.inr (⟨n4, (by omega), rfl⟩)), rfl⟩ dX12_heapOfRow_27
  · skip
    refine lv_bipush (v := (-9)) hx hb dX12_heapOfRow_11 (by decide) ?_
    refine lv_goto (tgt := 27) hx hb dX12_heapOfRow_13 (by decide) ?_
    exact x_iret E h ⟨(Or.inl ⟨rfl, c1⟩), rfl⟩ dX12_heapOfRow_27
set_option maxHeartbeats 4000000 in
set_option maxRecDepth 100000 in
theorem aX12_show_0 (l : Launch) (g : CX) (σ : ST) (hI : INV σ)  : XM l g yX12_show wsX12_show { frames := 5, cells := 0, slots := 0, locals := 119 } [.ref (g.2.1 79)] σ (XQi g (fun r σ' => INV σ' ∧ Fr [(33, 39)] [(74, 86), (88, 88)] σ σ')) := by
  refine x_met (own := RX12) (cc := cX12_show) (maxL := 2) (ret := (some .int)) (lv := [(0, .ref (g.2.1 79))]) (by decide) rfl rfl (Nat.le_of_ble_eq_true rfl) rfl ?_
  intro p e s m args below meth c ls E h hl
  have hx := E.1
  have hb := E.2.1
  have hown := E.2.2.2.1
  have hts := E.2.2.2.2.1
  have hF : Fr [(33, 39)] [(74, 86), (88, 88)] σ σ := Fr.refl σ
  have hwX12 : ∀ w ∈ wsX120, w ∈ wsX12_show := by decide +kernel
  refine lv_aload_n hx hb dX12_show_0 rfl (lv_at hl 0 rfl) ?_
  refine x_vi E h (na := 0) (As := []) (aX12_findBest_0 l g σ hI) (oc_mo g) rfl gX12_show_X12_findBest rfl ⟨rfl, rfl⟩ rfl (by decide +kernel) ⟨Nat.le_of_ble_eq_true rfl, Nat.le_of_ble_eq_true rfl⟩ hl.1 rfl (Nat.le_of_ble_eq_true rfl) dX12_show_1 ⟨Nat.le_of_ble_eq_true rfl, Nat.le_of_ble_eq_true rfl⟩ (fun r1 s1 H locs q1 h => ?_)
  obtain ⟨d1, hI1, f1⟩ := q1
  have hF1 := hF.call f1 (I := [(33, 39)]) (J := [(74, 86), (88, 88)]) rfl rfl
  rcases d1 with ⟨rfl, m1_0P, m1_0R, u1_0_0, u1_0_1, u1_0_2, u1_0_3, u1_0_4, u1_0_5⟩ | rfl
  · skip
    refine lv_if_ne (tgt := 10) hx hb dX12_show_4 (by decide) (fun _ => ?_) (fun c => absurd c (by decide))
    refine lv_iconst (v := 0) hx hb dX12_show_10 (by decide) ?_
    refine lv_istore_n (lv' := [(1, .int 0), (0, .ref (g.2.1 79))]) hx hb dX12_show_11 rfl hl (by decide) rfl (fun ls hl => ?_)
    have loop12_3 : ∀ (fu : Nat) (t3 : ST) (i3_1 : Nat), INV t3 → Fr [(33, 39)] [(74, 86), (88, 88)] σ t3 → t3.1 35 = nI m1_0P → t3.1 31 = nI m1_0R → i3_1 ≤ m1_0R → AP (t3.2.2 77) 0 m1_0R (PQ m1_0P) → m1_0R - i3_1 < fu → ∀ (H : Heap) (locs : List Loc) (ls : Array Slot), HW g t3 s H locs → lv_has ls 2 [(1, .int (nI i3_1)), (0, .ref (g.2.1 79))] → W p l e { frames := 5, cells := 0, slots := 0, locals := 119 } s m args below meth c H locs 0 0 (MQ below (XQi g (fun r σ' => INV σ' ∧ Fr [(33, 39)] [(74, 86), (88, 88)] σ σ')) args s 0 0 (Aw g)) (F0 m 12 ls []) := by
      intro fu
      induction fu with
      | zero => intro t3 i3_1 hI_3 hF_3 e4 e5 bi3_1 po_3 hm; exact absurd hm (Nat.not_lt_zero _)
      | succ fu ih =>
        have ih3 := ih
        clear ih
        intro t3 i3_1 hI_3 hF_3 e4 e5 bi3_1 po_3 hm3 H locs ls h hl
        refine lv_iload_n hx hb dX12_show_12 rfl (lv_at hl 0 rfl) ?_
        refine lv_aload_n hx hb dX12_show_13 rfl (lv_at hl 1 rfl) ?_
        refine x_getI E h (fi_mo_rows g) rfl hwX12 (by decide) (by decide +kernel) (v := nI m1_0R) e5 dX12_show_14 ?_
        refine lv_icmp_ge (tgt := 37) hx hb dX12_show_17 (by decide) (fun c6 => ?_) (fun c6 => ?_)
        · skip
          have b7 : m1_0R ≤ i3_1 := y_le (a := m1_0R) (b := i3_1) (by omega) (by omega) c6
          refine lv_aload_n hx hb dX12_show_37 rfl (lv_at hl 1 rfl) ?_
          refine lv_aload_n hx hb dX12_show_38 rfl (lv_at hl 1 rfl) ?_
          refine x_getI E h (fi_mo_rows g) rfl hwX12 (by decide) (by decide +kernel) (v := nI m1_0R) e5 dX12_show_39 ?_
          refine y_putI E h hI_3 hF_3 (ty := .int) (v := nI m1_0R) (fi_mo_shown g) rfl hwX12 tyX12_ok nmX12 (by decide) (by decide +kernel) (by decide +kernel) (by decide +kernel) rfl rfl (ba_none rfl) rfl dX12_show_42 (fun s8 H locs q8 hI8 hF8 h => ?_)
          have e9 : s8.1 35 = nI m1_0P := (congrArg (fun t : ST => t.1 35) q8).trans e4
          have e10 : s8.1 31 = nI m1_0R := (congrArg (fun t : ST => t.1 31) q8).trans e5
          have e11 : s8.1 33 = nI m1_0R := congrArg (fun t : ST => t.1 33) q8
          have a12 := AP.eq po_3 (show s8.2.2 77 = t3.2.2 77 from (congrArg (fun t : ST => t.2.2 77) q8).trans rfl)
          refine lv_aload_n hx hb dX12_show_45 rfl (lv_at hl 1 rfl) ?_
          refine lv_iconst (v := 1) hx hb dX12_show_46 (by decide) ?_
          refine y_putI E h hI8 hF8 (ty := .boolean) (v := 1) (fi_mo_isShown g) rfl hwX12 tyX12_ok nmX12 (by decide) (by decide +kernel) (by decide +kernel) (by decide +kernel) rfl rfl (ba_none rfl) rfl dX12_show_47 (fun s13 H locs q13 hI13 hF13 h => ?_)
          have e14 : s13.1 35 = nI m1_0P := (congrArg (fun t : ST => t.1 35) q13).trans e9
          have e15 : s13.1 31 = nI m1_0R := (congrArg (fun t : ST => t.1 31) q13).trans e10
          have e16 : s13.1 33 = nI m1_0R := (congrArg (fun t : ST => t.1 33) q13).trans e11
          have e17 : s13.1 34 = 1 := congrArg (fun t : ST => t.1 34) q13
          have a18 := AP.eq a12 (show s13.2.2 77 = s8.2.2 77 from (congrArg (fun t : ST => t.2.2 77) q13).trans rfl)
          refine lv_aload_n hx hb dX12_show_50 rfl (lv_at hl 1 rfl) ?_
          refine x_getI E h (fi_mo_rows g) rfl hwX12 (by decide) (by decide +kernel) (v := nI m1_0R) e15 dX12_show_51 ?_
          exact x_iret E h ⟨hI13, hF13⟩ dX12_show_54
        · skip
          have b19 : i3_1 < m1_0R := y_nle (a := m1_0R) (b := i3_1) (by omega) (by omega) c6
          refine lv_aload_n hx hb dX12_show_20 rfl (lv_at hl 1 rfl) ?_
          refine x_getR E h (fr_mo_shownHeap g) rfl hwX12 (by decide) (by decide +kernel) dX12_show_21 ?_
          refine lv_iload_n hx hb dX12_show_24 rfl (lv_at hl 0 rfl) ?_
          refine lv_aload_n hx hb dX12_show_25 rfl (lv_at hl 1 rfl) ?_
          refine lv_iload_n hx hb dX12_show_26 rfl (lv_at hl 0 rfl) ?_
          refine x_vi E h (na := 1) (As := [.int (nI i3_1)]) (aX12_heapOfRow_0 l g t3 hI_3 i3_1 m1_0R e5 m1_0P e4 (by omega) (by omega) (by omega) po_3) (oc_mo g) rfl gX12_show_X12_heapOfRow rfl ⟨rfl, rfl⟩ rfl (by decide +kernel) ⟨Nat.le_of_ble_eq_true rfl, Nat.le_of_ble_eq_true rfl⟩ hl.1 rfl (Nat.le_of_ble_eq_true rfl) dX12_show_27 ⟨Nat.le_of_ble_eq_true rfl, Nat.le_of_ble_eq_true rfl⟩ (fun r20 s20 H locs q20 h => ?_)
          obtain ⟨d20, rfl⟩ := q20
          rcases d20 with ⟨rfl, u20_0_0⟩ | ⟨m20_1n, u20_1_0, rfl⟩
          · skip
            refine y_stI E h hI_3 hF_3 (ia_mo_shownHeap g) (i := nI i3_1) (vp_in_nI (by omega) (by decide)) (j := i3_1) (nI_clamp (by omega)) (ba_none rfl) rfl dX12_show_30 (fun s21 H locs q21 hI21 hF21 h => ?_)
            have e22 : s21.1 35 = nI m1_0P := (congrArg (fun t : ST => t.1 35) q21).trans e4
            have e23 : s21.1 31 = nI m1_0R := (congrArg (fun t : ST => t.1 31) q21).trans e5
            have a24 := AP.eq po_3 (show s21.2.2 77 = t3.2.2 77 from (congrArg (fun t : ST => t.2.2 77) q21).trans rfl)
            refine lv_iinc (v := (nI (i3_1 + 1))) (lv' := [(1, .int (nI (i3_1 + 1))), (0, .ref (g.2.1 79))]) hx hb dX12_show_31 hl (k := 0) rfl (nI_add i3_1 1) (by decide) rfl (fun ls hl => ?_)
            refine lv_goto (tgt := 12) hx hb dX12_show_34 (by decide) ?_
            exact ih3 s21 (i3_1 + 1) hI21 hF21 e22 e23 (by omega) a24 (by omega) _ _ _ h (lv_sub hl [0, 1] rfl)
          · skip
            refine y_stI E h hI_3 hF_3 (ia_mo_shownHeap g) (i := nI i3_1) (vp_in_nI (by omega) (by decide)) (j := i3_1) (nI_clamp (by omega)) (ba_none rfl) rfl dX12_show_30 (fun s25 H locs q25 hI25 hF25 h => ?_)
            have e26 : s25.1 35 = nI m1_0P := (congrArg (fun t : ST => t.1 35) q25).trans e4
            have e27 : s25.1 31 = nI m1_0R := (congrArg (fun t : ST => t.1 31) q25).trans e5
            have a28 := AP.eq po_3 (show s25.2.2 77 = t3.2.2 77 from (congrArg (fun t : ST => t.2.2 77) q25).trans rfl)
            refine lv_iinc (v := (nI (i3_1 + 1))) (lv' := [(1, .int (nI (i3_1 + 1))), (0, .ref (g.2.1 79))]) hx hb dX12_show_31 hl (k := 0) rfl (nI_add i3_1 1) (by decide) rfl (fun ls hl => ?_)
            refine lv_goto (tgt := 12) hx hb dX12_show_34 (by decide) ?_
            exact ih3 s25 (i3_1 + 1) hI25 hF25 e26 e27 (by omega) a28 (by omega) _ _ _ h (lv_sub hl [0, 1] rfl)
    exact loop12_3 _ s1 0 hI1 hF1 u1_0_0 u1_0_1 (Nat.zero_le _) u1_0_4 (Nat.lt_succ_self _) _ _ _ h (lv_sub hl [0, 1] rfl)
  · skip
    refine lv_if_ne (tgt := 10) hx hb dX12_show_4 (by decide) (fun c => absurd (by decide) c) (fun _ => ?_)
    refine lv_bipush (v := (-2)) hx hb dX12_show_7 (by decide) ?_
    exact x_iret E h ⟨hI1, hF1⟩ dX12_show_9
set_option maxHeartbeats 4000000 in
set_option maxRecDepth 100000 in
theorem aX12_otherwise_0 (l : Launch) (g : CX) (σ : ST) (hI : INV σ)  : XM l g yX12_otherwise wsX12_otherwise { frames := 5, cells := 0, slots := 0, locals := 119 } [.ref (g.2.1 79)] σ (XQi g (fun r σ' => INV σ' ∧ Fr [(35, 39)] [(75, 86), (88, 88)] σ σ')) := by
  refine x_met (own := RX12) (cc := cX12_otherwise) (maxL := 3) (ret := (some .int)) (lv := [(0, .ref (g.2.1 79))]) (by decide) rfl rfl (Nat.le_of_ble_eq_true rfl) rfl ?_
  intro p e s m args below meth c ls E h hl
  have hx := E.1
  have hb := E.2.1
  have hown := E.2.2.2.1
  have hts := E.2.2.2.2.1
  have hF : Fr [(35, 39)] [(75, 86), (88, 88)] σ σ := Fr.refl σ
  have hwX12 : ∀ w ∈ wsX120, w ∈ wsX12_otherwise := by decide +kernel
  refine lv_aload_n hx hb dX12_otherwise_0 rfl (lv_at hl 0 rfl) ?_
  obtain ⟨x1, e1⟩ : ∃ x, σ.1 34 = x := ⟨_, rfl⟩
  refine x_getI E h (fi_mo_isShown g) rfl hwX12 (by decide) (by decide +kernel) (v := x1) e1 dX12_otherwise_1 ?_
  refine lv_if_eq (tgt := 14) hx hb dX12_otherwise_4 (by decide) (fun c2 => ?_) (fun c2 => ?_)
  · skip
    subst c2
    refine lv_bipush (v := (-2)) hx hb dX12_otherwise_14 (by decide) ?_
    exact x_iret E h ⟨hI, hF⟩ dX12_otherwise_16
  · skip
    refine lv_aload_n hx hb dX12_otherwise_7 rfl (lv_at hl 0 rfl) ?_
    refine x_vi E h (na := 0) (As := []) (aX12_findBest_0 l g σ hI) (oc_mo g) rfl gX12_otherwise_X12_findBest rfl ⟨rfl, rfl⟩ rfl (by decide +kernel) ⟨Nat.le_of_ble_eq_true rfl, Nat.le_of_ble_eq_true rfl⟩ hl.1 rfl (Nat.le_of_ble_eq_true rfl) dX12_otherwise_8 ⟨Nat.le_of_ble_eq_true rfl, Nat.le_of_ble_eq_true rfl⟩ (fun r5 s5 H locs q5 h => ?_)
    obtain ⟨d5, hI5, f5⟩ := q5
    have hF5 := hF.call f5 (I := [(35, 39)]) (J := [(75, 86), (88, 88)]) rfl rfl
    have e6 : s5.1 34 = x1 := ((f5.1 34 rfl)).trans e1
    rcases d5 with ⟨rfl, m5_0P, m5_0R, u5_0_0, u5_0_1, u5_0_2, u5_0_3, u5_0_4, u5_0_5⟩ | rfl
    · skip
      refine lv_if_ne (tgt := 17) hx hb dX12_otherwise_11 (by decide) (fun _ => ?_) (fun c => absurd c (by decide))
      refine lv_iconst (v := 0) hx hb dX12_otherwise_17 (by decide) ?_
      refine lv_istore_n (lv' := [(1, .int 0), (0, .ref (g.2.1 79))]) hx hb dX12_otherwise_18 rfl hl (by decide) rfl (fun ls hl => ?_)
      refine lv_iconst (v := 0) hx hb dX12_otherwise_19 (by decide) ?_
      refine lv_istore_n (lv' := [(2, .int 0), (1, .int 0), (0, .ref (g.2.1 79))]) hx hb dX12_otherwise_20 rfl hl (by decide) rfl (fun ls hl => ?_)
      have loop21_8 : ∀ (fu : Nat) (i8_2 : Nat) (i8_1 : Int32), i8_2 ≤ m5_0R → m5_0R - i8_2 < fu → ∀ (H : Heap) (locs : List Loc) (ls : Array Slot), HW g s5 s H locs → lv_has ls 3 [(2, .int (nI i8_2)), (1, .int i8_1), (0, .ref (g.2.1 79))] → W p l e { frames := 5, cells := 0, slots := 0, locals := 119 } s m args below meth c H locs 0 0 (MQ below (XQi g (fun r σ' => INV σ' ∧ Fr [(35, 39)] [(75, 86), (88, 88)] σ σ')) args s 0 0 (Aw g)) (F0 m 21 ls []) := by
        intro fu
        induction fu with
        | zero => intro i8_2 i8_1 bi8_2 hm; exact absurd hm (Nat.not_lt_zero _)
        | succ fu ih =>
          have ih8 := ih
          clear ih
          intro i8_2 i8_1 bi8_2 hm8 H locs ls h hl
          refine lv_iload_n hx hb dX12_otherwise_21 rfl (lv_at hl 0 rfl) ?_
          refine lv_aload_n hx hb dX12_otherwise_22 rfl (lv_at hl 2 rfl) ?_
          obtain ⟨x9, e9⟩ : ∃ x, s5.1 33 = x := ⟨_, rfl⟩
          refine x_getI E h (fi_mo_shown g) rfl hwX12 (by decide) (by decide +kernel) (v := x9) e9 dX12_otherwise_23 ?_
          refine lv_icmp_ge (tgt := 65) hx hb dX12_otherwise_26 (by decide) (fun c10 => ?_) (fun c10 => ?_)
          · skip
            refine lv_iload_n hx hb dX12_otherwise_65 rfl (lv_at hl 1 rfl) ?_
            exact x_iret E h ⟨hI5, hF5⟩ dX12_otherwise_66
          · skip
            refine lv_iload_n hx hb dX12_otherwise_29 rfl (lv_at hl 0 rfl) ?_
            refine lv_aload_n hx hb dX12_otherwise_30 rfl (lv_at hl 2 rfl) ?_
            refine x_getI E h (fi_mo_rows g) rfl hwX12 (by decide) (by decide +kernel) (v := nI m5_0R) u5_0_1 dX12_otherwise_31 ?_
            refine lv_icmp_ge (tgt := 65) hx hb dX12_otherwise_34 (by decide) (fun c13 => ?_) (fun c13 => ?_)
            · skip
              have b14 : m5_0R ≤ i8_2 := y_le (a := m5_0R) (b := i8_2) (by omega) (by omega) c13
              refine lv_iload_n hx hb dX12_otherwise_65 rfl (lv_at hl 1 rfl) ?_
              exact x_iret E h ⟨hI5, hF5⟩ dX12_otherwise_66
            · skip
              have b15 : i8_2 < m5_0R := y_nle (a := m5_0R) (b := i8_2) (by omega) (by omega) c13
              refine lv_iload_n hx hb dX12_otherwise_37 rfl (lv_at hl 1 rfl) ?_
              refine lv_aload_n hx hb dX12_otherwise_38 rfl (lv_at hl 2 rfl) ?_
              refine x_getR E h (fr_mo_shownHeap g) rfl hwX12 (by decide) (by decide +kernel) dX12_otherwise_39 ?_
              refine lv_iload_n hx hb dX12_otherwise_42 rfl (lv_at hl 0 rfl) ?_
              refine x_ldI E h (ia_mo_shownHeap g) (i := nI i8_2) (vp_in_nI (by omega) (by decide)) (v := s5.2.2 74 i8_2) (congrArg (s5.2.2 74) (nI_clamp (by omega))) dX12_otherwise_43 ?_
              refine lv_aload_n hx hb dX12_otherwise_44 rfl (lv_at hl 2 rfl) ?_
              refine lv_iload_n hx hb dX12_otherwise_45 rfl (lv_at hl 0 rfl) ?_
              refine x_vi E h (na := 1) (As := [.int (nI i8_2)]) (aX12_heapOfRow_0 l g s5 hI5 i8_2 m5_0R u5_0_1 m5_0P u5_0_0 (by omega) (by omega) (by omega) u5_0_4) (oc_mo g) rfl gX12_otherwise_X12_heapOfRow rfl ⟨rfl, rfl⟩ rfl (by decide +kernel) ⟨Nat.le_of_ble_eq_true rfl, Nat.le_of_ble_eq_true rfl⟩ hl.1 rfl (Nat.le_of_ble_eq_true rfl) dX12_otherwise_46 ⟨Nat.le_of_ble_eq_true rfl, Nat.le_of_ble_eq_true rfl⟩ (fun r16 s16 H locs q16 h => ?_)
              obtain ⟨d16, rfl⟩ := q16
              rcases d16 with ⟨rfl, u16_0_0⟩ | ⟨m16_1n, u16_1_0, rfl⟩
              · skip
                have j57_19 : ∀ (y19_s0 : Int32), ∀ (H : Heap) (locs : List Loc) (ls : Array Slot), HW g s5 s H locs → lv_has ls 3 [(2, .int (nI i8_2)), (1, .int i8_1), (0, .ref (g.2.1 79))] → W p l e { frames := 5, cells := 0, slots := 0, locals := 119 } s m args below meth c H locs 0 0 (MQ below (XQi g (fun r σ' => INV σ' ∧ Fr [(35, 39)] [(75, 86), (88, 88)] σ σ')) args s 0 0 (Aw g)) (F0 m 57 ls [.int y19_s0, .int i8_1]) := by
                  intro y19_s0 H locs ls h hl
                  refine lv_iadd hx hb dX12_otherwise_57 ?_
                  refine lv_topi (fun x20 e20 => ?_)
                  refine lv_istore_n (lv' := [(1, .int x20), (2, .int (nI i8_2)), (0, .ref (g.2.1 79))]) hx hb dX12_otherwise_58 rfl hl (by decide) rfl (fun ls hl => ?_)
                  refine lv_iinc (v := (nI (i8_2 + 1))) (lv' := [(2, .int (nI (i8_2 + 1))), (1, .int x20), (0, .ref (g.2.1 79))]) hx hb dX12_otherwise_59 hl (k := 1) rfl (nI_add i8_2 1) (by decide) rfl (fun ls hl => ?_)
                  refine lv_goto (tgt := 21) hx hb dX12_otherwise_62 (by decide) ?_
                  exact ih8 (i8_2 + 1) x20 (by omega) (by omega) _ _ _ h (lv_sub hl [0, 1, 2] rfl)
                refine lv_icmp_ne (tgt := 56) hx hb dX12_otherwise_49 (by decide) (fun c17 => ?_) (fun c17 => ?_)
                · skip
                  refine lv_iconst (v := 1) hx hb dX12_otherwise_56 (by decide) ?_
                  exact j57_19 1 _ _ _ h (lv_sub hl [0, 1, 2] rfl)
                · skip
                  refine lv_iconst (v := 0) hx hb dX12_otherwise_52 (by decide) ?_
                  refine lv_goto (tgt := 57) hx hb dX12_otherwise_53 (by decide) ?_
                  exact j57_19 0 _ _ _ h (lv_sub hl [0, 1, 2] rfl)
              · skip
                have j57_24 : ∀ (y24_s0 : Int32), ∀ (H : Heap) (locs : List Loc) (ls : Array Slot), HW g s5 s H locs → lv_has ls 3 [(2, .int (nI i8_2)), (1, .int i8_1), (0, .ref (g.2.1 79))] → W p l e { frames := 5, cells := 0, slots := 0, locals := 119 } s m args below meth c H locs 0 0 (MQ below (XQi g (fun r σ' => INV σ' ∧ Fr [(35, 39)] [(75, 86), (88, 88)] σ σ')) args s 0 0 (Aw g)) (F0 m 57 ls [.int y24_s0, .int i8_1]) := by
                  intro y24_s0 H locs ls h hl
                  refine lv_iadd hx hb dX12_otherwise_57 ?_
                  refine lv_topi (fun x25 e25 => ?_)
                  refine lv_istore_n (lv' := [(1, .int x25), (2, .int (nI i8_2)), (0, .ref (g.2.1 79))]) hx hb dX12_otherwise_58 rfl hl (by decide) rfl (fun ls hl => ?_)
                  refine lv_iinc (v := (nI (i8_2 + 1))) (lv' := [(2, .int (nI (i8_2 + 1))), (1, .int x25), (0, .ref (g.2.1 79))]) hx hb dX12_otherwise_59 hl (k := 1) rfl (nI_add i8_2 1) (by decide) rfl (fun ls hl => ?_)
                  refine lv_goto (tgt := 21) hx hb dX12_otherwise_62 (by decide) ?_
                  exact ih8 (i8_2 + 1) x25 (by omega) (by omega) _ _ _ h (lv_sub hl [0, 1, 2] rfl)
                refine lv_icmp_ne (tgt := 56) hx hb dX12_otherwise_49 (by decide) (fun c22 => ?_) (fun c22 => ?_)
                · skip
                  refine lv_iconst (v := 1) hx hb dX12_otherwise_56 (by decide) ?_
                  exact j57_24 1 _ _ _ h (lv_sub hl [0, 1, 2] rfl)
                · skip
                  refine lv_iconst (v := 0) hx hb dX12_otherwise_52 (by decide) ?_
                  refine lv_goto (tgt := 57) hx hb dX12_otherwise_53 (by decide) ?_
                  exact j57_24 0 _ _ _ h (lv_sub hl [0, 1, 2] rfl)
      exact loop21_8 _ 0 0 (Nat.zero_le _) (Nat.lt_succ_self _) _ _ _ h (lv_sub hl [0, 1, 2] rfl)
    · skip
      refine lv_if_ne (tgt := 17) hx hb dX12_otherwise_11 (by decide) (fun c => absurd (by decide) c) (fun _ => ?_)
      refine lv_bipush (v := (-2)) hx hb dX12_otherwise_14 (by decide) ?_
      exact x_iret E h ⟨hI5, hF5⟩ dX12_otherwise_16
set_option maxHeartbeats 4000000 in
set_option maxRecDepth 100000 in
theorem aX12_word_0 (l : Launch) (g : CX) (σ : ST) (hI : INV σ) (p1 : Int32) (p2 : Int32) : XM l g yX12_word wsX12_word { frames := 3, cells := 0, slots := 0, locals := 65 } [.ref (g.2.1 79), .int p1, .int p2] σ (XQi g (fun r σ' => INV σ' ∧ Fr [(32, 32)] [(72, 73)] σ σ')) := by
  refine x_met (own := RX12) (cc := cX12_word) (maxL := 3) (ret := (some .int)) (lv := [(0, .ref (g.2.1 79)), (1, .int p1), (2, .int p2)]) (by decide) rfl rfl (Nat.le_of_ble_eq_true rfl) rfl ?_
  intro p e s m args below meth c ls E h hl
  have hx := E.1
  have hb := E.2.1
  have hown := E.2.2.2.1
  have hts := E.2.2.2.2.1
  have hF : Fr [(32, 32)] [(72, 73)] σ σ := Fr.refl σ
  have hwX12 : ∀ w ∈ wsX120, w ∈ wsX12_word := by decide +kernel
  refine lv_aload_n hx hb dX12_word_0 rfl (lv_at hl 0 rfl) ?_
  refine lv_iload_n hx hb dX12_word_1 rfl (lv_at hl 1 rfl) ?_
  refine lv_iload_n hx hb dX12_word_2 rfl (lv_at hl 2 rfl) ?_
  refine x_vi E h (na := 2) (As := [.int p1, .int p2]) (aX12_areRows_0 l g σ hI p1 p2) (oc_mo g) rfl gX12_word_X12_areRows rfl ⟨rfl, rfl⟩ rfl (by decide +kernel) ⟨Nat.le_of_ble_eq_true rfl, Nat.le_of_ble_eq_true rfl⟩ hl.1 rfl (Nat.le_of_ble_eq_true rfl) dX12_word_3 ⟨Nat.le_of_ble_eq_true rfl, Nat.le_of_ble_eq_true rfl⟩ (fun r1 s1 H locs q1 h => ?_)
  obtain ⟨d1, rfl⟩ := q1
  rcases d1 with ⟨rfl, m1_0f, m1_0t, m1_0R, u1_0_0, u1_0_1, u1_0_2, u1_0_3, rfl, rfl⟩ | rfl
  · skip
    refine lv_if_ne (tgt := 11) hx hb dX12_word_6 (by decide) (fun _ => ?_) (fun c => absurd c (by decide))
    refine lv_aload_n hx hb dX12_word_11 rfl (lv_at hl 0 rfl) ?_
    obtain ⟨n2, b2, e2⟩ := hI.1 32 12 rfl
    refine x_getI E h (fi_mo_words g) rfl hwX12 (by decide) (by decide +kernel) (v := nI n2) e2 dX12_word_12 ?_
    refine lv_bipush (v := 12) hx hb dX12_word_15 (by decide) ?_
    refine lv_icmp_ne (tgt := 23) hx hb dX12_word_17 (by decide) (fun c3 => ?_) (fun c3 => ?_)
    · skip
      have b4 : ¬ n2 = 12 := y_ne (a := n2) (b := 12) (by omega) (by omega) c3
      refine lv_aload_n hx hb dX12_word_23 rfl (lv_at hl 0 rfl) ?_
      refine x_getR E h (fr_mo_wordFrom g) rfl hwX12 (by decide) (by decide +kernel) dX12_word_24 ?_
      refine lv_aload_n hx hb dX12_word_27 rfl (lv_at hl 0 rfl) ?_
      refine x_getI E h (fi_mo_words g) rfl hwX12 (by decide) (by decide +kernel) (v := nI n2) e2 dX12_word_28 ?_
      refine lv_iload_n hx hb dX12_word_31 rfl (lv_at hl 1 rfl) ?_
      refine y_stI E h hI hF (ia_mo_wordFrom g) (i := nI n2) (vp_in_nI (by omega) (by decide)) (j := n2) (nI_clamp (by omega)) (ba_none rfl) rfl dX12_word_32 (fun s5 H locs q5 hI5 hF5 h => ?_)
      have e6 : s5.1 31 = nI m1_0R := (congrArg (fun t : ST => t.1 31) q5).trans u1_0_0
      have e7 : s5.1 32 = nI n2 := (congrArg (fun t : ST => t.1 32) q5).trans e2
      refine lv_aload_n hx hb dX12_word_33 rfl (lv_at hl 0 rfl) ?_
      refine x_getR E h (fr_mo_wordTo g) rfl hwX12 (by decide) (by decide +kernel) dX12_word_34 ?_
      refine lv_aload_n hx hb dX12_word_37 rfl (lv_at hl 0 rfl) ?_
      refine x_getI E h (fi_mo_words g) rfl hwX12 (by decide) (by decide +kernel) (v := nI n2) e7 dX12_word_38 ?_
      refine lv_iload_n hx hb dX12_word_41 rfl (lv_at hl 2 rfl) ?_
      refine y_stI E h hI5 hF5 (ia_mo_wordTo g) (i := nI n2) (vp_in_nI (by omega) (by decide)) (j := n2) (nI_clamp (by omega)) (ba_none rfl) rfl dX12_word_42 (fun s8 H locs q8 hI8 hF8 h => ?_)
      have e9 : s8.1 31 = nI m1_0R := (congrArg (fun t : ST => t.1 31) q8).trans e6
      have e10 : s8.1 32 = nI n2 := (congrArg (fun t : ST => t.1 32) q8).trans e7
      refine lv_aload_n hx hb dX12_word_43 rfl (lv_at hl 0 rfl) ?_
      refine lv_dup hx hb dX12_word_44 rfl ?_
      refine x_getI E h (fi_mo_words g) rfl hwX12 (by decide) (by decide +kernel) (v := nI n2) e10 dX12_word_45 ?_
      refine lv_iconst (v := 1) hx hb dX12_word_48 (by decide) ?_
      refine lv_iadd hx hb dX12_word_49 ?_
      refine x_topI (v2 := nI (n2 + 1)) (nI_add n2 1) ?_
      refine y_putI E h hI8 hF8 (ty := .int) (v := nI (n2 + 1)) (fi_mo_words g) rfl hwX12 tyX12_ok nmX12 (by decide) (by decide +kernel) (by decide +kernel) (by decide +kernel) rfl rfl (ba_some rfl (Bd.mk (n := (n2 + 1)) (by omega))) rfl dX12_word_50 (fun s11 H locs q11 hI11 hF11 h => ?_)
      have e12 : s11.1 31 = nI m1_0R := (congrArg (fun t : ST => t.1 31) q11).trans e9
      have e13 : s11.1 32 = nI (n2 + 1) := congrArg (fun t : ST => t.1 32) q11
      refine lv_aload_n hx hb dX12_word_53 rfl (lv_at hl 0 rfl) ?_
      refine x_getI E h (fi_mo_words g) rfl hwX12 (by decide) (by decide +kernel) (v := nI (n2 + 1)) e13 dX12_word_54 ?_
      refine lv_iconst (v := 1) hx hb dX12_word_57 (by decide) ?_
      refine lv_isub hx hb dX12_word_58 ?_
      exact x_iret E h ⟨hI11, hF11⟩ dX12_word_59
    · skip
      have b14 : n2 = 12 := y_eq (a := n2) (b := 12) (by omega) (by omega) c3
      refine lv_bipush (v := (-3)) hx hb dX12_word_20 (by decide) ?_
      exact x_iret E h ⟨hI, hF⟩ dX12_word_22
  · skip
    refine lv_if_ne (tgt := 11) hx hb dX12_word_6 (by decide) (fun c => absurd (by decide) c) (fun _ => ?_)
    refine lv_iconst (v := (-1)) hx hb dX12_word_9 (by decide) ?_
    exact x_iret E h ⟨hI, hF⟩ dX12_word_10
set_option maxHeartbeats 4000000 in
set_option maxRecDepth 100000 in
theorem aX12_hung_0 (l : Launch) (g : CX) (σ : ST) (hI : INV σ) (p1 : Int32) (p2 : Int32) : XM l g yX12_hung wsX12_hung { frames := 4, cells := 0, slots := 0, locals := 95 } [.ref (g.2.1 79), .int p1, .int p2] σ (XQi g (fun r σ' => INV σ' ∧ Fr [(35, 38)] [(75, 84)] σ σ')) := by
  refine x_met (own := RX12) (cc := cX12_hung) (maxL := 9) (ret := (some .int)) (lv := [(0, .ref (g.2.1 79)), (1, .int p1), (2, .int p2)]) (by decide) rfl rfl (Nat.le_of_ble_eq_true rfl) rfl ?_
  intro p e s m args below meth c ls E h hl
  have hx := E.1
  have hb := E.2.1
  have hown := E.2.2.2.1
  have hts := E.2.2.2.2.1
  have hF : Fr [(35, 38)] [(75, 84)] σ σ := Fr.refl σ
  have hwX12 : ∀ w ∈ wsX120, w ∈ wsX12_hung := by decide +kernel
  refine lv_iload_n hx hb dX12_hung_0 rfl (lv_at hl 1 rfl) ?_
  refine lv_iconst (v := 0) hx hb dX12_hung_1 (by decide) ?_
  refine lv_aload_n hx hb dX12_hung_2 rfl (lv_at hl 0 rfl) ?_
  obtain ⟨n1, b1, e1⟩ := hI.1 32 12 rfl
  refine x_getI E h (fi_mo_words g) rfl hwX12 (by decide) (by decide +kernel) (v := nI n1) e1 dX12_hung_3 ?_
  refine lv_iconst (v := 1) hx hb dX12_hung_6 (by decide) ?_
  refine lv_isub hx hb dX12_hung_7 ?_
  refine x_si E h (na := 3) (As := [.int p1, .int 0, .int (nI n1 - 1)]) (aX12_in_0 l g σ hI p1 0 (nI n1 - 1)) gX12_hung_X12_in rfl ⟨rfl, rfl⟩ rfl (by decide +kernel) ⟨Nat.le_of_ble_eq_true rfl, Nat.le_of_ble_eq_true rfl⟩ hl.1 rfl (Nat.le_of_ble_eq_true rfl) dX12_hung_8 ⟨Nat.le_of_ble_eq_true rfl, Nat.le_of_ble_eq_true rfl⟩ (fun r2 s2 H locs q2 h => ?_)
  obtain ⟨d2, rfl⟩ := q2
  rcases d2 with ⟨rfl, u2_0_0, u2_0_1⟩ | ⟨rfl, u2_1_0⟩
  · skip
    obtain ⟨n3, b3, rfl⟩ := y_rnltM (N := n1) (y_lo1 u2_0_0 (by decide)) u2_0_1 (by omega)
    have b4 : 0 ≤ n3 := y_nlt (a := n3) (b := 0) (by omega) (by omega) u2_0_0
    refine lv_if_eq (tgt := 23) hx hb dX12_hung_11 (by decide) (fun c => absurd c (by decide)) (fun _ => ?_)
    refine lv_iload_n hx hb dX12_hung_14 rfl (lv_at hl 2 rfl) ?_
    refine lv_iconst (v := 0) hx hb dX12_hung_15 (by decide) ?_
    refine lv_iconst (v := 1) hx hb dX12_hung_16 (by decide) ?_
    refine x_si E h (na := 3) (As := [.int p2, .int 0, .int 1]) (aX12_in_0 l g σ hI p2 0 1) gX12_hung_X12_in rfl ⟨rfl, rfl⟩ rfl (by decide +kernel) ⟨Nat.le_of_ble_eq_true rfl, Nat.le_of_ble_eq_true rfl⟩ hl.1 rfl (Nat.le_of_ble_eq_true rfl) dX12_hung_17 ⟨Nat.le_of_ble_eq_true rfl, Nat.le_of_ble_eq_true rfl⟩ (fun r5 s5 H locs q5 h => ?_)
    obtain ⟨d5, rfl⟩ := q5
    rcases d5 with ⟨rfl, u5_0_0, u5_0_1⟩ | ⟨rfl, u5_1_0⟩
    · skip
      obtain ⟨n6, b6, rfl⟩ := y_rnlt (N := 1) (y_lo1 u5_0_0 (by decide)) u5_0_1 (by omega)
      have b7 : 0 ≤ n6 := y_nlt (a := n6) (b := 0) (by omega) (by omega) u5_0_0
      have b8 : n6 ≤ 1 := y_nlt (a := 1) (b := n6) (by omega) (by omega) u5_0_1
      refine lv_if_ne (tgt := 25) hx hb dX12_hung_20 (by decide) (fun _ => ?_) (fun c => absurd c (by decide))
      refine lv_aload_n hx hb dX12_hung_25 rfl (lv_at hl 0 rfl) ?_
      refine x_vv E h (na := 0) (As := []) (aX12_findPieces_0 l g σ hI) (oc_mo g) rfl gX12_hung_X12_findPieces rfl ⟨rfl, rfl⟩ rfl (by decide +kernel) ⟨Nat.le_of_ble_eq_true rfl, Nat.le_of_ble_eq_true rfl⟩ hl.1 rfl (Nat.le_of_ble_eq_true rfl) dX12_hung_26 ⟨Nat.le_of_ble_eq_true rfl, Nat.le_of_ble_eq_true rfl⟩ (fun s9 H locs q9 h => ?_)
      obtain ⟨d9, hI9, f9⟩ := q9
      have hF9 := hF.call f9 (I := [(35, 38)]) (J := [(75, 84)]) rfl rfl
      have e10 : s9.1 32 = nI n1 := ((f9.1 32 rfl)).trans e1
      rcases d9 with ⟨m9_0P, m9_0R, u9_0_0, u9_0_1, u9_0_2, u9_0_3, u9_0_4, u9_0_5⟩
      refine lv_bipush (v := (-9)) hx hb dX12_hung_29 (by decide) ?_
      refine lv_istore_n (lv' := [(3, .int (-9)), (0, .ref (g.2.1 79)), (1, .int (nI n3)), (2, .int (nI n6))]) hx hb dX12_hung_31 rfl hl (by decide) rfl (fun ls hl => ?_)
      refine lv_iconst (v := 0) hx hb dX12_hung_32 (by decide) ?_
      refine lv_istore (lv' := [(4, .int 0), (3, .int (-9)), (0, .ref (g.2.1 79)), (1, .int (nI n3)), (2, .int (nI n6))]) hx hb dX12_hung_33 hl (by decide) rfl (fun ls hl => ?_)
      refine lv_iconst (v := 0) hx hb dX12_hung_35 (by decide) ?_
      refine lv_istore (lv' := [(5, .int 0), (4, .int 0), (3, .int (-9)), (0, .ref (g.2.1 79)), (1, .int (nI n3)), (2, .int (nI n6))]) hx hb dX12_hung_36 hl (by decide) rfl (fun ls hl => ?_)
      refine lv_iconst (v := 0) hx hb dX12_hung_38 (by decide) ?_
      refine lv_istore (lv' := [(6, .int 0), (5, .int 0), (4, .int 0), (3, .int (-9)), (0, .ref (g.2.1 79)), (1, .int (nI n3)), (2, .int (nI n6))]) hx hb dX12_hung_39 hl (by decide) rfl (fun ls hl => ?_)
      have loop41_12 : ∀ (fu : Nat) (i12_6 : Nat) (i12_5 : Int32) (i12_4 : Int32) (i12_3 : Int32), i12_6 ≤ m9_0P → m9_0P - i12_6 < fu → ∀ (H : Heap) (locs : List Loc) (ls : Array Slot), HW g s9 s H locs → lv_has ls 9 [(6, .int (nI i12_6)), (5, .int i12_5), (4, .int i12_4), (3, .int i12_3), (0, .ref (g.2.1 79)), (1, .int (nI n3)), (2, .int (nI n6))] → W p l e { frames := 4, cells := 0, slots := 0, locals := 95 } s m args below meth c H locs 0 0 (MQ below (XQi g (fun r σ' => INV σ' ∧ Fr [(35, 38)] [(75, 84)] σ σ')) args s 0 0 (Aw g)) (F0 m 41 ls []) := by
        intro fu
        induction fu with
        | zero => intro i12_6 i12_5 i12_4 i12_3 bi12_6 hm; exact absurd hm (Nat.not_lt_zero _)
        | succ fu ih =>
          have ih12 := ih
          clear ih
          intro i12_6 i12_5 i12_4 i12_3 bi12_6 hm12 H locs ls h hl
          refine lv_iload hx hb dX12_hung_41 (lv_at hl 0 rfl) ?_
          refine lv_aload_n hx hb dX12_hung_43 rfl (lv_at hl 4 rfl) ?_
          refine x_getI E h (fi_mo_pieces g) rfl hwX12 (by decide) (by decide +kernel) (v := nI m9_0P) u9_0_0 dX12_hung_44 ?_
          refine lv_icmp_ge (tgt := 169) hx hb dX12_hung_47 (by decide) (fun c13 => ?_) (fun c13 => ?_)
          · skip
            have b14 : m9_0P ≤ i12_6 := y_le (a := m9_0P) (b := i12_6) (by omega) (by omega) c13
            refine lv_iload_n hx hb dX12_hung_169 rfl (lv_at hl 6 rfl) ?_
            refine lv_if_ne (tgt := 177) hx hb dX12_hung_170 (by decide) (fun c15 => ?_) (fun c15 => ?_)
            · skip
              have b16 : ¬ n6 = 0 := y_ne (a := n6) (b := 0) (by omega) (by omega) c15
              refine lv_iload hx hb dX12_hung_177 (lv_at hl 1 rfl) ?_
              exact x_iret E h ⟨hI9, hF9⟩ dX12_hung_179
            · skip
              have b17 : n6 = 0 := y_eq (a := n6) (b := 0) (by omega) (by omega) c15
              refine lv_iload_n hx hb dX12_hung_173 rfl (lv_at hl 3 rfl) ?_
              refine lv_goto (tgt := 179) hx hb dX12_hung_174 (by decide) ?_
              exact x_iret E h ⟨hI9, hF9⟩ dX12_hung_179
          · skip
            have b18 : i12_6 < m9_0P := y_nle (a := m9_0P) (b := i12_6) (by omega) (by omega) c13
            refine lv_iconst (v := 0) hx hb dX12_hung_50 (by decide) ?_
            refine lv_istore (lv' := [(7, .int 0), (6, .int (nI i12_6)), (5, .int i12_5), (4, .int i12_4), (3, .int i12_3), (0, .ref (g.2.1 79)), (1, .int (nI n3)), (2, .int (nI n6))]) hx hb dX12_hung_51 hl (by decide) rfl (fun ls hl => ?_)
            refine lv_aload_n hx hb dX12_hung_53 rfl (lv_at hl 5 rfl) ?_
            refine x_getR E h (fr_mo_first g) rfl hwX12 (by decide) (by decide +kernel) dX12_hung_54 ?_
            refine lv_iload hx hb dX12_hung_57 (lv_at hl 1 rfl) ?_
            refine x_ldI E h (ia_mo_first g) (i := nI i12_6) (vp_in_nI (by omega) (by decide)) (v := s9.2.2 75 i12_6) (congrArg (s9.2.2 75) (nI_clamp (by omega))) dX12_hung_59 ?_
            refine lv_topi (fun x19 e19 => ?_)
            refine lv_istore (lv' := [(8, .int x19), (7, .int 0), (6, .int (nI i12_6)), (5, .int i12_5), (4, .int i12_4), (3, .int i12_3), (0, .ref (g.2.1 79)), (1, .int (nI n3)), (2, .int (nI n6))]) hx hb dX12_hung_60 hl (by decide) rfl (fun ls hl => ?_)
            have loop62_20 : ∀ (fu : Nat) (i20_8 : Int32) (i20_7 : Int32), ((s9.2.2 75 i12_6 + s9.2.2 76 i12_6).toInt - i20_8.toInt).toNat < fu → ∀ (H : Heap) (locs : List Loc) (ls : Array Slot), HW g s9 s H locs → lv_has ls 9 [(8, .int i20_8), (7, .int i20_7), (6, .int (nI i12_6)), (5, .int i12_5), (4, .int i12_4), (3, .int i12_3), (0, .ref (g.2.1 79)), (1, .int (nI n3)), (2, .int (nI n6))] → W p l e { frames := 4, cells := 0, slots := 0, locals := 95 } s m args below meth c H locs 0 0 (MQ below (XQi g (fun r σ' => INV σ' ∧ Fr [(35, 38)] [(75, 84)] σ σ')) args s 0 0 (Aw g)) (F0 m 62 ls []) := by
              intro fu
              induction fu with
              | zero => intro i20_8 i20_7 hm; exact absurd hm (Nat.not_lt_zero _)
              | succ fu ih =>
                have ih20 := ih
                clear ih
                intro i20_8 i20_7 hm20 H locs ls h hl
                refine lv_iload hx hb dX12_hung_62 (lv_at hl 0 rfl) ?_
                refine lv_aload_n hx hb dX12_hung_64 rfl (lv_at hl 6 rfl) ?_
                refine x_getR E h (fr_mo_first g) rfl hwX12 (by decide) (by decide +kernel) dX12_hung_65 ?_
                refine lv_iload hx hb dX12_hung_68 (lv_at hl 2 rfl) ?_
                refine x_ldI E h (ia_mo_first g) (i := nI i12_6) (vp_in_nI (by omega) (by decide)) (v := s9.2.2 75 i12_6) (congrArg (s9.2.2 75) (nI_clamp (by omega))) dX12_hung_70 ?_
                refine lv_aload_n hx hb dX12_hung_71 rfl (lv_at hl 6 rfl) ?_
                refine x_getR E h (fr_mo_many g) rfl hwX12 (by decide) (by decide +kernel) dX12_hung_72 ?_
                refine lv_iload hx hb dX12_hung_75 (lv_at hl 2 rfl) ?_
                refine x_ldI E h (ia_mo_many g) (i := nI i12_6) (vp_in_nI (by omega) (by decide)) (v := s9.2.2 76 i12_6) (congrArg (s9.2.2 76) (nI_clamp (by omega))) dX12_hung_77 ?_
                refine lv_iadd hx hb dX12_hung_78 ?_
                refine lv_topi (fun x21 e21 => ?_)
                refine lv_icmp_ge (tgt := 118) hx hb dX12_hung_79 (by decide) (fun c22 => ?_) (fun c22 => ?_)
                · skip
                  refine lv_iload hx hb dX12_hung_118 (lv_at hl 1 rfl) ?_
                  refine lv_iload hx hb dX12_hung_120 (lv_at hl 4 rfl) ?_
                  have j131_26 : ∀ (y26_s0 : Int32), ∀ (H : Heap) (locs : List Loc) (ls : Array Slot), HW g s9 s H locs → lv_has ls 9 [(8, .int i20_8), (7, .int i20_7), (6, .int (nI i12_6)), (5, .int i12_5), (4, .int i12_4), (3, .int i12_3), (0, .ref (g.2.1 79)), (1, .int (nI n3)), (2, .int (nI n6))] → W p l e { frames := 4, cells := 0, slots := 0, locals := 95 } s m args below meth c H locs 0 0 (MQ below (XQi g (fun r σ' => INV σ' ∧ Fr [(35, 38)] [(75, 84)] σ σ')) args s 0 0 (Aw g)) (F0 m 131 ls [.int y26_s0]) := by
                    intro y26_s0 H locs ls h hl
                    refine lv_istore_n (lv' := [(3, .int y26_s0), (8, .int i20_8), (7, .int i20_7), (6, .int (nI i12_6)), (5, .int i12_5), (4, .int i12_4), (0, .ref (g.2.1 79)), (1, .int (nI n3)), (2, .int (nI n6))]) hx hb dX12_hung_131 rfl hl (by decide) rfl (fun ls hl => ?_)
                    refine lv_iload hx hb dX12_hung_132 (lv_at hl 2 rfl) ?_
                    refine lv_iload hx hb dX12_hung_134 (lv_at hl 5 rfl) ?_
                    have j146_29 : ∀ (y29_s0 : Int32), ∀ (H : Heap) (locs : List Loc) (ls : Array Slot), HW g s9 s H locs → lv_has ls 9 [(3, .int y26_s0), (8, .int i20_8), (7, .int i20_7), (6, .int (nI i12_6)), (5, .int i12_5), (4, .int i12_4), (0, .ref (g.2.1 79)), (1, .int (nI n3)), (2, .int (nI n6))] → W p l e { frames := 4, cells := 0, slots := 0, locals := 95 } s m args below meth c H locs 0 0 (MQ below (XQi g (fun r σ' => INV σ' ∧ Fr [(35, 38)] [(75, 84)] σ σ')) args s 0 0 (Aw g)) (F0 m 146 ls [.int y29_s0]) := by
                      intro y29_s0 H locs ls h hl
                      refine lv_istore (lv' := [(4, .int y29_s0), (3, .int y26_s0), (8, .int i20_8), (7, .int i20_7), (6, .int (nI i12_6)), (5, .int i12_5), (0, .ref (g.2.1 79)), (1, .int (nI n3)), (2, .int (nI n6))]) hx hb dX12_hung_146 hl (by decide) rfl (fun ls hl => ?_)
                      refine lv_iload hx hb dX12_hung_148 (lv_at hl 5 rfl) ?_
                      refine lv_iload hx hb dX12_hung_150 (lv_at hl 3 rfl) ?_
                      have j160_32 : ∀ (y32_s0 : Int32), ∀ (H : Heap) (locs : List Loc) (ls : Array Slot), HW g s9 s H locs → lv_has ls 9 [(4, .int y29_s0), (3, .int y26_s0), (8, .int i20_8), (7, .int i20_7), (6, .int (nI i12_6)), (5, .int i12_5), (0, .ref (g.2.1 79)), (1, .int (nI n3)), (2, .int (nI n6))] → W p l e { frames := 4, cells := 0, slots := 0, locals := 95 } s m args below meth c H locs 0 0 (MQ below (XQi g (fun r σ' => INV σ' ∧ Fr [(35, 38)] [(75, 84)] σ σ')) args s 0 0 (Aw g)) (F0 m 160 ls [.int y32_s0, .int i12_5]) := by
                        intro y32_s0 H locs ls h hl
                        refine lv_iadd hx hb dX12_hung_160 ?_
                        refine lv_topi (fun x33 e33 => ?_)
                        refine lv_istore (lv' := [(5, .int x33), (4, .int y29_s0), (3, .int y26_s0), (8, .int i20_8), (7, .int i20_7), (6, .int (nI i12_6)), (0, .ref (g.2.1 79)), (1, .int (nI n3)), (2, .int (nI n6))]) hx hb dX12_hung_161 hl (by decide) rfl (fun ls hl => ?_)
                        refine lv_iinc (v := (nI (i12_6 + 1))) (lv' := [(6, .int (nI (i12_6 + 1))), (5, .int x33), (4, .int y29_s0), (3, .int y26_s0), (8, .int i20_8), (7, .int i20_7), (0, .ref (g.2.1 79)), (1, .int (nI n3)), (2, .int (nI n6))]) hx hb dX12_hung_163 hl (k := 5) rfl (nI_add i12_6 1) (by decide) rfl (fun ls hl => ?_)
                        refine lv_goto (tgt := 41) hx hb dX12_hung_166 (by decide) ?_
                        exact ih12 (i12_6 + 1) x33 y29_s0 y26_s0 (by omega) (by omega) _ _ _ h (lv_sub hl [0, 1, 2, 3, 6, 7, 8] rfl)
                      refine lv_if_le (tgt := 159) hx hb dX12_hung_152 (by decide) (fun c30 => ?_) (fun c30 => ?_)
                      · skip
                        refine lv_iconst (v := 0) hx hb dX12_hung_159 (by decide) ?_
                        exact j160_32 0 _ _ _ h (lv_sub hl [0, 1, 2, 3, 4, 5, 6, 7, 8] rfl)
                      · skip
                        refine lv_iconst (v := 1) hx hb dX12_hung_155 (by decide) ?_
                        refine lv_goto (tgt := 160) hx hb dX12_hung_156 (by decide) ?_
                        exact j160_32 1 _ _ _ h (lv_sub hl [0, 1, 2, 3, 4, 5, 6, 7, 8] rfl)
                    refine lv_icmp_le (tgt := 144) hx hb dX12_hung_136 (by decide) (fun c27 => ?_) (fun c27 => ?_)
                    · skip
                      refine lv_iload hx hb dX12_hung_144 (lv_at hl 5 rfl) ?_
                      exact j146_29 i12_4 _ _ _ h (lv_sub hl [0, 1, 2, 3, 4, 5, 6, 7, 8] rfl)
                    · skip
                      refine lv_iload hx hb dX12_hung_139 (lv_at hl 2 rfl) ?_
                      refine lv_goto (tgt := 146) hx hb dX12_hung_141 (by decide) ?_
                      exact j146_29 i20_7 _ _ _ h (lv_sub hl [0, 1, 2, 3, 4, 5, 6, 7, 8] rfl)
                  refine lv_icmp_le (tgt := 130) hx hb dX12_hung_122 (by decide) (fun c24 => ?_) (fun c24 => ?_)
                  · skip
                    refine lv_iload_n hx hb dX12_hung_130 rfl (lv_at hl 5 rfl) ?_
                    exact j131_26 i12_3 _ _ _ h (lv_sub hl [0, 1, 2, 3, 4, 5, 6, 7, 8] rfl)
                  · skip
                    refine lv_iload hx hb dX12_hung_125 (lv_at hl 2 rfl) ?_
                    refine lv_goto (tgt := 131) hx hb dX12_hung_127 (by decide) ?_
                    exact j131_26 (nI i12_6) _ _ _ h (lv_sub hl [0, 1, 2, 3, 4, 5, 6, 7, 8] rfl)
                · skip
                  refine lv_iload hx hb dX12_hung_82 (lv_at hl 1 rfl) ?_
                  refine lv_iload hx hb dX12_hung_84 (lv_at hl 0 rfl) ?_
                  refine lv_aload_n hx hb dX12_hung_86 rfl (lv_at hl 6 rfl) ?_
                  refine x_getR E h (fr_mo_wordFrom g) rfl hwX12 (by decide) (by decide +kernel) dX12_hung_87 ?_
                  refine lv_iload_n hx hb dX12_hung_90 rfl (lv_at hl 7 rfl) ?_
                  refine x_ldI E h (ia_mo_wordFrom g) (i := nI n3) (vp_in_nI (by omega) (by decide)) (v := s9.2.2 72 n3) (congrArg (s9.2.2 72) (nI_clamp (by omega))) dX12_hung_91 ?_
                  refine lv_aload_n hx hb dX12_hung_92 rfl (lv_at hl 6 rfl) ?_
                  refine x_getR E h (fr_mo_wordTo g) rfl hwX12 (by decide) (by decide +kernel) dX12_hung_93 ?_
                  refine lv_iload_n hx hb dX12_hung_96 rfl (lv_at hl 7 rfl) ?_
                  refine x_ldI E h (ia_mo_wordTo g) (i := nI n3) (vp_in_nI (by omega) (by decide)) (v := s9.2.2 73 n3) (congrArg (s9.2.2 73) (nI_clamp (by omega))) dX12_hung_97 ?_
                  refine x_si E h (na := 3) (As := [.int i20_8, .int (s9.2.2 72 n3), .int (s9.2.2 73 n3)]) (aX12_in_0 l g s9 hI9 i20_8 (s9.2.2 72 n3) (s9.2.2 73 n3)) gX12_hung_X12_in rfl ⟨rfl, rfl⟩ rfl (by decide +kernel) ⟨Nat.le_of_ble_eq_true rfl, Nat.le_of_ble_eq_true rfl⟩ hl.1 rfl (Nat.le_of_ble_eq_true rfl) dX12_hung_98 ⟨Nat.le_of_ble_eq_true rfl, Nat.le_of_ble_eq_true rfl⟩ (fun r38 s38 H locs q38 h => ?_)
                  obtain ⟨d38, rfl⟩ := q38
                  rcases d38 with ⟨rfl, u38_0_0, u38_0_1⟩ | ⟨rfl, u38_1_0⟩
                  · skip
                    refine lv_if_eq (tgt := 108) hx hb dX12_hung_101 (by decide) (fun c => absurd c (by decide)) (fun _ => ?_)
                    refine lv_iconst (v := 1) hx hb dX12_hung_104 (by decide) ?_
                    refine lv_goto (tgt := 109) hx hb dX12_hung_105 (by decide) ?_
                    refine lv_iadd hx hb dX12_hung_109 ?_
                    refine lv_topi (fun x39 e39 => ?_)
                    refine lv_istore (lv' := [(7, .int x39), (8, .int i20_8), (6, .int (nI i12_6)), (5, .int i12_5), (4, .int i12_4), (3, .int i12_3), (0, .ref (g.2.1 79)), (1, .int (nI n3)), (2, .int (nI n6))]) hx hb dX12_hung_110 hl (by decide) rfl (fun ls hl => ?_)
                    obtain ⟨z40, e40⟩ : ∃ y : Int32, y = i20_8 + 1 := ⟨_, rfl⟩
                    refine lv_iinc (v := z40) (lv' := [(8, .int z40), (7, .int x39), (6, .int (nI i12_6)), (5, .int i12_5), (4, .int i12_4), (3, .int i12_3), (0, .ref (g.2.1 79)), (1, .int (nI n3)), (2, .int (nI n6))]) hx hb dX12_hung_112 hl (k := 1) rfl e40.symm (by decide) rfl (fun ls hl => ?_)
                    refine lv_goto (tgt := 62) hx hb dX12_hung_115 (by decide) ?_
                    exact ih20 z40 x39 (y_dec hm20 (by rw [← e21]; exact c22) e40) _ _ _ h (lv_sub hl [0, 1, 2, 3, 4, 5, 6, 7, 8] rfl)
                  · skip
                    refine lv_if_eq (tgt := 108) hx hb dX12_hung_101 (by decide) (fun _ => ?_) (fun c => absurd (by decide) c)
                    refine lv_iconst (v := 0) hx hb dX12_hung_108 (by decide) ?_
                    refine lv_iadd hx hb dX12_hung_109 ?_
                    refine lv_topi (fun x41 e41 => ?_)
                    refine lv_istore (lv' := [(7, .int x41), (8, .int i20_8), (6, .int (nI i12_6)), (5, .int i12_5), (4, .int i12_4), (3, .int i12_3), (0, .ref (g.2.1 79)), (1, .int (nI n3)), (2, .int (nI n6))]) hx hb dX12_hung_110 hl (by decide) rfl (fun ls hl => ?_)
                    obtain ⟨z42, e42⟩ : ∃ y : Int32, y = i20_8 + 1 := ⟨_, rfl⟩
                    refine lv_iinc (v := z42) (lv' := [(8, .int z42), (7, .int x41), (6, .int (nI i12_6)), (5, .int i12_5), (4, .int i12_4), (3, .int i12_3), (0, .ref (g.2.1 79)), (1, .int (nI n3)), (2, .int (nI n6))]) hx hb dX12_hung_112 hl (k := 1) rfl e42.symm (by decide) rfl (fun ls hl => ?_)
                    refine lv_goto (tgt := 62) hx hb dX12_hung_115 (by decide) ?_
                    exact ih20 z42 x41 (y_dec hm20 (by rw [← e21]; exact c22) e42) _ _ _ h (lv_sub hl [0, 1, 2, 3, 4, 5, 6, 7, 8] rfl)
            exact loop62_20 _ x19 0 (Nat.lt_succ_self _) _ _ _ h (lv_sub hl [0, 1, 2, 3, 4, 5, 6, 7, 8] rfl)
      exact loop41_12 _ 0 0 0 (-9) (Nat.zero_le _) (Nat.lt_succ_self _) _ _ _ h (lv_sub hl [0, 1, 2, 3, 4, 5, 6] rfl)
    · skip
      refine lv_if_ne (tgt := 25) hx hb dX12_hung_20 (by decide) (fun c => absurd (by decide) c) (fun _ => ?_)
      refine lv_iconst (v := (-1)) hx hb dX12_hung_23 (by decide) ?_
      exact x_iret E h ⟨hI, hF⟩ dX12_hung_24
  · skip
    refine lv_if_eq (tgt := 23) hx hb dX12_hung_11 (by decide) (fun _ => ?_) (fun c => absurd (by decide) c)
    refine lv_iconst (v := (-1)) hx hb dX12_hung_23 (by decide) ?_
    exact x_iret E h ⟨hI, hF⟩ dX12_hung_24
set_option maxHeartbeats 4000000 in
set_option maxRecDepth 100000 in
theorem aX12_truth_0 (l : Launch) (g : CX) (σ : ST) (hI : INV σ) (p1 : Int32) (p2 : Int32) (p3 : Int32) : XM l g yX12_truth wsX12_truth { frames := 3, cells := 0, slots := 0, locals := 65 } [.ref (g.2.1 79), .int p1, .int p2, .int p3] σ (XQi g (fun r σ' => INV σ' ∧ Fr [] [(71, 71)] σ σ')) := by
  refine x_met (own := RX12) (cc := cX12_truth) (maxL := 6) (ret := (some .int)) (lv := [(0, .ref (g.2.1 79)), (1, .int p1), (2, .int p2), (3, .int p3)]) (by decide) rfl rfl (Nat.le_of_ble_eq_true rfl) rfl ?_
  intro p e s m args below meth c ls E h hl
  have hx := E.1
  have hb := E.2.1
  have hown := E.2.2.2.1
  have hts := E.2.2.2.2.1
  have hF : Fr [] [(71, 71)] σ σ := Fr.refl σ
  have hwX12 : ∀ w ∈ wsX120, w ∈ wsX12_truth := by decide +kernel
  refine lv_aload_n hx hb dX12_truth_0 rfl (lv_at hl 0 rfl) ?_
  refine lv_iload_n hx hb dX12_truth_1 rfl (lv_at hl 1 rfl) ?_
  refine lv_iload_n hx hb dX12_truth_2 rfl (lv_at hl 2 rfl) ?_
  refine x_vi E h (na := 2) (As := [.int p1, .int p2]) (aX12_areRows_0 l g σ hI p1 p2) (oc_mo g) rfl gX12_truth_X12_areRows rfl ⟨rfl, rfl⟩ rfl (by decide +kernel) ⟨Nat.le_of_ble_eq_true rfl, Nat.le_of_ble_eq_true rfl⟩ hl.1 rfl (Nat.le_of_ble_eq_true rfl) dX12_truth_3 ⟨Nat.le_of_ble_eq_true rfl, Nat.le_of_ble_eq_true rfl⟩ (fun r1 s1 H locs q1 h => ?_)
  obtain ⟨d1, rfl⟩ := q1
  rcases d1 with ⟨rfl, m1_0f, m1_0t, m1_0R, u1_0_0, u1_0_1, u1_0_2, u1_0_3, rfl, rfl⟩ | rfl
  · skip
    refine lv_if_eq (tgt := 18) hx hb dX12_truth_6 (by decide) (fun c => absurd c (by decide)) (fun _ => ?_)
    refine lv_iload_n hx hb dX12_truth_9 rfl (lv_at hl 3 rfl) ?_
    refine lv_iconst (v := 0) hx hb dX12_truth_10 (by decide) ?_
    refine lv_iconst (v := 5) hx hb dX12_truth_11 (by decide) ?_
    refine x_si E h (na := 3) (As := [.int p3, .int 0, .int 5]) (aX12_in_0 l g σ hI p3 0 5) gX12_truth_X12_in rfl ⟨rfl, rfl⟩ rfl (by decide +kernel) ⟨Nat.le_of_ble_eq_true rfl, Nat.le_of_ble_eq_true rfl⟩ hl.1 rfl (Nat.le_of_ble_eq_true rfl) dX12_truth_12 ⟨Nat.le_of_ble_eq_true rfl, Nat.le_of_ble_eq_true rfl⟩ (fun r2 s2 H locs q2 h => ?_)
    obtain ⟨d2, rfl⟩ := q2
    rcases d2 with ⟨rfl, u2_0_0, u2_0_1⟩ | ⟨rfl, u2_1_0⟩
    · skip
      obtain ⟨n3, b3, rfl⟩ := y_rnlt (N := 5) (y_lo1 u2_0_0 (by decide)) u2_0_1 (by omega)
      have b4 : 0 ≤ n3 := y_nlt (a := n3) (b := 0) (by omega) (by omega) u2_0_0
      have b5 : n3 ≤ 5 := y_nlt (a := 5) (b := n3) (by omega) (by omega) u2_0_1
      refine lv_if_ne (tgt := 20) hx hb dX12_truth_15 (by decide) (fun _ => ?_) (fun c => absurd c (by decide))
      refine lv_iconst (v := 0) hx hb dX12_truth_20 (by decide) ?_
      refine lv_istore (lv' := [(4, .int 0), (0, .ref (g.2.1 79)), (1, .int (nI m1_0f)), (2, .int (nI m1_0t)), (3, .int (nI n3))]) hx hb dX12_truth_21 hl (by decide) rfl (fun ls hl => ?_)
      refine lv_iload_n hx hb dX12_truth_23 rfl (lv_at hl 2 rfl) ?_
      refine lv_istore (lv' := [(5, .int (nI m1_0f)), (4, .int 0), (0, .ref (g.2.1 79)), (1, .int (nI m1_0f)), (2, .int (nI m1_0t)), (3, .int (nI n3))]) hx hb dX12_truth_24 hl (by decide) rfl (fun ls hl => ?_)
      have loop26_6 : ∀ (fu : Nat) (t6 : ST) (i6_5 : Nat) (i6_4 : Int32), INV t6 → Fr [] [(71, 71)] σ t6 → t6.1 31 = nI m1_0R → i6_5 ≤ 49 → 49 - i6_5 < fu → ∀ (H : Heap) (locs : List Loc) (ls : Array Slot), HW g t6 s H locs → lv_has ls 6 [(5, .int (nI i6_5)), (4, .int i6_4), (0, .ref (g.2.1 79)), (1, .int (nI m1_0f)), (2, .int (nI m1_0t)), (3, .int (nI n3))] → W p l e { frames := 3, cells := 0, slots := 0, locals := 65 } s m args below meth c H locs 0 0 (MQ below (XQi g (fun r σ' => INV σ' ∧ Fr [] [(71, 71)] σ σ')) args s 0 0 (Aw g)) (F0 m 26 ls []) := by
        intro fu
        induction fu with
        | zero => intro t6 i6_5 i6_4 hI_6 hF_6 e7 bi6_5 hm; exact absurd hm (Nat.not_lt_zero _)
        | succ fu ih =>
          have ih6 := ih
          clear ih
          intro t6 i6_5 i6_4 hI_6 hF_6 e7 bi6_5 hm6 H locs ls h hl
          refine lv_iload hx hb dX12_truth_26 (lv_at hl 0 rfl) ?_
          refine lv_iload_n hx hb dX12_truth_28 rfl (lv_at hl 4 rfl) ?_
          refine lv_icmp_gt (tgt := 67) hx hb dX12_truth_29 (by decide) (fun c8 => ?_) (fun c8 => ?_)
          · skip
            have b9 : m1_0t < i6_5 := y_lt (a := m1_0t) (b := i6_5) (by omega) (by omega) c8
            refine lv_iload hx hb dX12_truth_67 (lv_at hl 1 rfl) ?_
            exact x_iret E h ⟨hI_6, hF_6⟩ dX12_truth_69
          · skip
            have b10 : i6_5 ≤ m1_0t := y_nlt (a := m1_0t) (b := i6_5) (by omega) (by omega) c8
            refine lv_iload hx hb dX12_truth_32 (lv_at hl 1 rfl) ?_
            refine lv_aload_n hx hb dX12_truth_34 rfl (lv_at hl 2 rfl) ?_
            refine x_getR E h (fr_mo_truth g) rfl hwX12 (by decide) (by decide +kernel) dX12_truth_35 ?_
            refine lv_iload hx hb dX12_truth_38 (lv_at hl 0 rfl) ?_
            obtain ⟨n11, b11, e11⟩ := hI_6.2 71 5 rfl i6_5
            refine x_ldI E h (ia_mo_truth g) (i := nI i6_5) (vp_in_nI (by omega) (by decide)) (v := nI n11) ((congrArg (t6.2.2 71) (nI_clamp (by omega))).trans e11) dX12_truth_40 ?_
            refine lv_iload_n hx hb dX12_truth_41 rfl (lv_at hl 5 rfl) ?_
            have j50_14 : ∀ (y14_s0 : Int32), ∀ (H : Heap) (locs : List Loc) (ls : Array Slot), HW g t6 s H locs → lv_has ls 6 [(5, .int (nI i6_5)), (4, .int i6_4), (0, .ref (g.2.1 79)), (1, .int (nI m1_0f)), (2, .int (nI m1_0t)), (3, .int (nI n3))] → W p l e { frames := 3, cells := 0, slots := 0, locals := 65 } s m args below meth c H locs 0 0 (MQ below (XQi g (fun r σ' => INV σ' ∧ Fr [] [(71, 71)] σ σ')) args s 0 0 (Aw g)) (F0 m 50 ls [.int y14_s0, .int i6_4]) := by
              intro y14_s0 H locs ls h hl
              refine lv_iadd hx hb dX12_truth_50 ?_
              refine lv_topi (fun x15 e15 => ?_)
              refine lv_istore (lv' := [(4, .int x15), (5, .int (nI i6_5)), (0, .ref (g.2.1 79)), (1, .int (nI m1_0f)), (2, .int (nI m1_0t)), (3, .int (nI n3))]) hx hb dX12_truth_51 hl (by decide) rfl (fun ls hl => ?_)
              refine lv_aload_n hx hb dX12_truth_53 rfl (lv_at hl 2 rfl) ?_
              refine x_getR E h (fr_mo_truth g) rfl hwX12 (by decide) (by decide +kernel) dX12_truth_54 ?_
              refine lv_iload hx hb dX12_truth_57 (lv_at hl 1 rfl) ?_
              refine lv_iload_n hx hb dX12_truth_59 rfl (lv_at hl 5 rfl) ?_
              refine y_stI E h hI_6 hF_6 (ia_mo_truth g) (i := nI i6_5) (vp_in_nI (by omega) (by decide)) (j := i6_5) (nI_clamp (by omega)) (ba_some rfl (Bd.mk (n := n3) (by omega))) rfl dX12_truth_60 (fun s16 H locs q16 hI16 hF16 h => ?_)
              have e17 : s16.1 31 = nI m1_0R := (congrArg (fun t : ST => t.1 31) q16).trans e7
              refine lv_iinc (v := (nI (i6_5 + 1))) (lv' := [(5, .int (nI (i6_5 + 1))), (4, .int x15), (0, .ref (g.2.1 79)), (1, .int (nI m1_0f)), (2, .int (nI m1_0t)), (3, .int (nI n3))]) hx hb dX12_truth_61 hl (k := 1) rfl (nI_add i6_5 1) (by decide) rfl (fun ls hl => ?_)
              refine lv_goto (tgt := 26) hx hb dX12_truth_64 (by decide) ?_
              exact ih6 s16 (i6_5 + 1) x15 hI16 hF16 e17 (by omega) (by omega) _ _ _ h (lv_sub hl [0, 1, 2, 3, 4, 5] rfl)
            refine lv_icmp_ne (tgt := 49) hx hb dX12_truth_42 (by decide) (fun c12 => ?_) (fun c12 => ?_)
            · skip
              have b13 : ¬ n11 = n3 := y_ne (a := n11) (b := n3) (by omega) (by omega) c12
              refine lv_iconst (v := 1) hx hb dX12_truth_49 (by decide) ?_
              exact j50_14 1 _ _ _ h (lv_sub hl [0, 1, 2, 3, 4, 5] rfl)
            · skip
              have b18 : n11 = n3 := y_eq (a := n11) (b := n3) (by omega) (by omega) c12
              refine lv_iconst (v := 0) hx hb dX12_truth_45 (by decide) ?_
              refine lv_goto (tgt := 50) hx hb dX12_truth_46 (by decide) ?_
              exact j50_14 0 _ _ _ h (lv_sub hl [0, 1, 2, 3, 4, 5] rfl)
      exact loop26_6 _ σ m1_0f 0 hI hF u1_0_0 (by omega) (Nat.lt_succ_self _) _ _ _ h (lv_sub hl [0, 1, 2, 3, 4, 5] rfl)
    · skip
      refine lv_if_ne (tgt := 20) hx hb dX12_truth_15 (by decide) (fun c => absurd (by decide) c) (fun _ => ?_)
      refine lv_iconst (v := (-1)) hx hb dX12_truth_18 (by decide) ?_
      exact x_iret E h ⟨hI, hF⟩ dX12_truth_19
  · skip
    refine lv_if_eq (tgt := 18) hx hb dX12_truth_6 (by decide) (fun _ => ?_) (fun c => absurd (by decide) c)
    refine lv_iconst (v := (-1)) hx hb dX12_truth_18 (by decide) ?_
    exact x_iret E h ⟨hI, hF⟩ dX12_truth_19
set_option maxHeartbeats 4000000 in
set_option maxRecDepth 100000 in
theorem aX12_mostRight_0 (l : Launch) (g : CX) (σ : ST) (hI : INV σ) (F31 : Nat) (eF31 : σ.1 31 = nI F31) (F35 : Nat) (eF35 : σ.1 35 = nI F35) (hh0 : F35 ≤ 9) (hh1 : F31 ≤ 48) (hPO : AP (σ.2.2 77) 0 F31 (PQ F35)) : XM l g yX12_mostRight wsX12_mostRight { frames := 1, cells := 0, slots := 0, locals := 21 } [.ref (g.2.1 79)] σ (XQi g (fun r σ' => INV σ' ∧ Fr [] [(92, 93)] σ σ')) := by
  refine x_met (own := RX12) (cc := cX12_mostRight) (maxL := 6) (ret := (some .int)) (lv := [(0, .ref (g.2.1 79))]) (by decide) rfl rfl (Nat.le_of_ble_eq_true rfl) rfl ?_
  intro p e s m args below meth c ls E h hl
  have hx := E.1
  have hb := E.2.1
  have hown := E.2.2.2.1
  have hts := E.2.2.2.2.1
  have hF : Fr [] [(92, 93)] σ σ := Fr.refl σ
  have hwX12 : ∀ w ∈ wsX120, w ∈ wsX12_mostRight := by decide +kernel
  refine lv_iconst (v := 0) hx hb dX12_mostRight_0 (by decide) ?_
  refine lv_istore_n (lv' := [(1, .int 0), (0, .ref (g.2.1 79))]) hx hb dX12_mostRight_1 rfl hl (by decide) rfl (fun ls hl => ?_)
  have loop2_1 : ∀ (fu : Nat) (t1 : ST) (i1_1 : Nat), INV t1 → Fr [] [(92, 93)] σ t1 → t1.1 31 = nI F31 → t1.1 35 = nI F35 → i1_1 ≤ 54 → AP (t1.2.2 77) 0 F31 (PQ F35) → 54 - i1_1 < fu → ∀ (H : Heap) (locs : List Loc) (ls : Array Slot), HW g t1 s H locs → lv_has ls 6 [(1, .int (nI i1_1)), (0, .ref (g.2.1 79))] → W p l e { frames := 1, cells := 0, slots := 0, locals := 21 } s m args below meth c H locs 0 0 (MQ below (XQi g (fun r σ' => INV σ' ∧ Fr [] [(92, 93)] σ σ')) args s 0 0 (Aw g)) (F0 m 2 ls []) := by
    intro fu
    induction fu with
    | zero => intro t1 i1_1 hI_1 hF_1 e2 e3 bi1_1 po_1 hm; exact absurd hm (Nat.not_lt_zero _)
    | succ fu ih =>
      have ih1 := ih
      clear ih
      intro t1 i1_1 hI_1 hF_1 e2 e3 bi1_1 po_1 hm1 H locs ls h hl
      refine lv_iload_n hx hb dX12_mostRight_2 rfl (lv_at hl 0 rfl) ?_
      refine lv_bipush (v := 54) hx hb dX12_mostRight_3 (by decide) ?_
      refine lv_icmp_ge (tgt := 21) hx hb dX12_mostRight_5 (by decide) (fun c4 => ?_) (fun c4 => ?_)
      · skip
        have b5 : 54 ≤ i1_1 := y_le (a := 54) (b := i1_1) (by omega) (by omega) c4
        refine lv_iconst (v := 0) hx hb dX12_mostRight_21 (by decide) ?_
        refine lv_istore_n (lv' := [(1, .int 0), (0, .ref (g.2.1 79))]) hx hb dX12_mostRight_22 rfl hl (by decide) rfl (fun ls hl => ?_)
        have loop23_6 : ∀ (fu : Nat) (t6 : ST) (i6_1 : Nat), INV t6 → Fr [] [(92, 93)] σ t6 → t6.1 31 = nI F31 → t6.1 35 = nI F35 → i6_1 ≤ F31 → AP (t6.2.2 77) 0 F31 (PQ F35) → F31 - i6_1 < fu → ∀ (H : Heap) (locs : List Loc) (ls : Array Slot), HW g t6 s H locs → lv_has ls 6 [(1, .int (nI i6_1)), (0, .ref (g.2.1 79))] → W p l e { frames := 1, cells := 0, slots := 0, locals := 21 } s m args below meth c H locs 0 0 (MQ below (XQi g (fun r σ' => INV σ' ∧ Fr [] [(92, 93)] σ σ')) args s 0 0 (Aw g)) (F0 m 23 ls []) := by
          intro fu
          induction fu with
          | zero => intro t6 i6_1 hI_6 hF_6 e7 e8 bi6_1 po_6 hm; exact absurd hm (Nat.not_lt_zero _)
          | succ fu ih =>
            have ih6 := ih
            clear ih
            intro t6 i6_1 hI_6 hF_6 e7 e8 bi6_1 po_6 hm6 H locs ls h hl
            refine lv_iload_n hx hb dX12_mostRight_23 rfl (lv_at hl 0 rfl) ?_
            refine lv_aload_n hx hb dX12_mostRight_24 rfl (lv_at hl 1 rfl) ?_
            refine x_getI E h (fi_mo_rows g) rfl hwX12 (by decide) (by decide +kernel) (v := nI F31) e7 dX12_mostRight_25 ?_
            refine lv_icmp_ge (tgt := 81) hx hb dX12_mostRight_28 (by decide) (fun c9 => ?_) (fun c9 => ?_)
            · skip
              have b10 : F31 ≤ i6_1 := y_le (a := F31) (b := i6_1) (by omega) (by omega) c9
              refine lv_iconst (v := 0) hx hb dX12_mostRight_81 (by decide) ?_
              refine lv_istore_n (lv' := [(1, .int 0), (0, .ref (g.2.1 79))]) hx hb dX12_mostRight_82 rfl hl (by decide) rfl (fun ls hl => ?_)
              have loop83_11 : ∀ (fu : Nat) (t11 : ST) (i11_1 : Nat), INV t11 → Fr [] [(92, 93)] σ t11 → t11.1 31 = nI F31 → t11.1 35 = nI F35 → i11_1 ≤ 512 → 512 - i11_1 < fu → ∀ (H : Heap) (locs : List Loc) (ls : Array Slot), HW g t11 s H locs → lv_has ls 6 [(1, .int (nI i11_1)), (0, .ref (g.2.1 79))] → W p l e { frames := 1, cells := 0, slots := 0, locals := 21 } s m args below meth c H locs 0 0 (MQ below (XQi g (fun r σ' => INV σ' ∧ Fr [] [(92, 93)] σ σ')) args s 0 0 (Aw g)) (F0 m 83 ls []) := by
                intro fu
                induction fu with
                | zero => intro t11 i11_1 hI_11 hF_11 e12 e13 bi11_1 hm; exact absurd hm (Nat.not_lt_zero _)
                | succ fu ih =>
                  have ih11 := ih
                  clear ih
                  intro t11 i11_1 hI_11 hF_11 e12 e13 bi11_1 hm11 H locs ls h hl
                  refine lv_iload_n hx hb dX12_mostRight_83 rfl (lv_at hl 0 rfl) ?_
                  refine lv_sipush (v := 512) hx hb dX12_mostRight_84 (by decide) ?_
                  refine lv_icmp_ge (tgt := 103) hx hb dX12_mostRight_87 (by decide) (fun c14 => ?_) (fun c14 => ?_)
                  · skip
                    have b15 : 512 ≤ i11_1 := y_le (a := 512) (b := i11_1) (by omega) (by omega) c14
                    refine lv_iconst (v := 1) hx hb dX12_mostRight_103 (by decide) ?_
                    refine lv_istore_n (lv' := [(1, .int 1), (0, .ref (g.2.1 79))]) hx hb dX12_mostRight_104 rfl hl (by decide) rfl (fun ls hl => ?_)
                    have loop105_16 : ∀ (fu : Nat) (t16 : ST) (i16_1 : Nat), INV t16 → Fr [] [(92, 93)] σ t16 → t16.1 31 = nI F31 → t16.1 35 = nI F35 → i16_1 ≤ 6 → 1 ≤ i16_1 → 6 - i16_1 < fu → ∀ (H : Heap) (locs : List Loc) (ls : Array Slot), HW g t16 s H locs → lv_has ls 6 [(1, .int (nI i16_1)), (0, .ref (g.2.1 79))] → W p l e { frames := 1, cells := 0, slots := 0, locals := 21 } s m args below meth c H locs 0 0 (MQ below (XQi g (fun r σ' => INV σ' ∧ Fr [] [(92, 93)] σ σ')) args s 0 0 (Aw g)) (F0 m 105 ls []) := by
                      intro fu
                      induction fu with
                      | zero => intro t16 i16_1 hI_16 hF_16 e17 e18 bi16_1 pp16_0 hm; exact absurd hm (Nat.not_lt_zero _)
                      | succ fu ih =>
                        have ih16 := ih
                        clear ih
                        intro t16 i16_1 hI_16 hF_16 e17 e18 bi16_1 pp16_0 hm16 H locs ls h hl
                        refine lv_iload_n hx hb dX12_mostRight_105 rfl (lv_at hl 0 rfl) ?_
                        refine lv_bipush (v := 6) hx hb dX12_mostRight_106 (by decide) ?_
                        refine lv_icmp_ge (tgt := 239) hx hb dX12_mostRight_108 (by decide) (fun c19 => ?_) (fun c19 => ?_)
                        · skip
                          have b20 : 6 ≤ i16_1 := y_le (a := 6) (b := i16_1) (by omega) (by omega) c19
                          refine lv_aload_n hx hb dX12_mostRight_239 rfl (lv_at hl 1 rfl) ?_
                          refine x_getR E h (fr_mo_right g) rfl hwX12 (by decide) (by decide +kernel) dX12_mostRight_240 ?_
                          refine lv_sipush (v := 3071) hx hb dX12_mostRight_243 (by decide) ?_
                          refine x_ldI E h (ia_mo_right g) (i := nI 3071) (vp_in_nI (by omega) (by decide)) (v := t16.2.2 92 3071) (congrArg (t16.2.2 92) (nI_clamp (by omega))) dX12_mostRight_246 ?_
                          exact x_iret E h ⟨hI_16, hF_16⟩ dX12_mostRight_247
                        · skip
                          have b21 : i16_1 < 6 := y_nle (a := 6) (b := i16_1) (by omega) (by omega) c19
                          refine lv_iconst (v := 0) hx hb dX12_mostRight_111 (by decide) ?_
                          refine lv_istore_n (lv' := [(2, .int 0), (1, .int (nI i16_1)), (0, .ref (g.2.1 79))]) hx hb dX12_mostRight_112 rfl hl (by decide) rfl (fun ls hl => ?_)
                          have loop113_22 : ∀ (fu : Nat) (t22 : ST) (i22_2 : Nat), INV t22 → Fr [] [(92, 93)] σ t22 → t22.1 31 = nI F31 → t22.1 35 = nI F35 → i22_2 ≤ 512 → 512 - i22_2 < fu → ∀ (H : Heap) (locs : List Loc) (ls : Array Slot), HW g t22 s H locs → lv_has ls 6 [(2, .int (nI i22_2)), (1, .int (nI i16_1)), (0, .ref (g.2.1 79))] → W p l e { frames := 1, cells := 0, slots := 0, locals := 21 } s m args below meth c H locs 0 0 (MQ below (XQi g (fun r σ' => INV σ' ∧ Fr [] [(92, 93)] σ σ')) args s 0 0 (Aw g)) (F0 m 113 ls []) := by
                            intro fu
                            induction fu with
                            | zero => intro t22 i22_2 hI_22 hF_22 e23 e24 bi22_2 hm; exact absurd hm (Nat.not_lt_zero _)
                            | succ fu ih =>
                              have ih22 := ih
                              clear ih
                              intro t22 i22_2 hI_22 hF_22 e23 e24 bi22_2 hm22 H locs ls h hl
                              refine lv_iload_n hx hb dX12_mostRight_113 rfl (lv_at hl 0 rfl) ?_
                              refine lv_sipush (v := 512) hx hb dX12_mostRight_114 (by decide) ?_
                              refine lv_icmp_ge (tgt := 233) hx hb dX12_mostRight_117 (by decide) (fun c25 => ?_) (fun c25 => ?_)
                              · skip
                                have b26 : 512 ≤ i22_2 := y_le (a := 512) (b := i22_2) (by omega) (by omega) c25
                                refine lv_iinc (v := (nI (i16_1 + 1))) (lv' := [(1, .int (nI (i16_1 + 1))), (2, .int (nI i22_2)), (0, .ref (g.2.1 79))]) hx hb dX12_mostRight_233 hl (k := 1) rfl (nI_add i16_1 1) (by decide) rfl (fun ls hl => ?_)
                                refine lv_goto (tgt := 105) hx hb dX12_mostRight_236 (by decide) ?_
                                exact ih16 t22 (i16_1 + 1) hI_22 hF_22 e23 e24 (by omega) (by omega) (by omega) _ _ _ h (lv_sub hl [0, 2] rfl)
                              · skip
                                have b27 : i22_2 < 512 := y_nle (a := 512) (b := i22_2) (by omega) (by omega) c25
                                refine lv_aload_n hx hb dX12_mostRight_120 rfl (lv_at hl 2 rfl) ?_
                                refine x_getR E h (fr_mo_right g) rfl hwX12 (by decide) (by decide +kernel) dX12_mostRight_121 ?_
                                refine lv_sipush (v := 512) hx hb dX12_mostRight_124 (by decide) ?_
                                refine lv_iload_n hx hb dX12_mostRight_127 rfl (lv_at hl 1 rfl) ?_
                                refine lv_iconst (v := 1) hx hb dX12_mostRight_128 (by decide) ?_
                                refine lv_isub hx hb dX12_mostRight_129 ?_
                                refine x_topI (v2 := nI (i16_1 - 1)) (pk_sub (a := i16_1) (b := 1) (by omega)) ?_
                                refine lv_imul hx hb dX12_mostRight_130 ?_
                                refine x_topI (v2 := nI (512 * (i16_1 - 1))) (pk_mul 512 (i16_1 - 1)) ?_
                                refine lv_iload_n hx hb dX12_mostRight_131 rfl (lv_at hl 0 rfl) ?_
                                refine lv_iadd hx hb dX12_mostRight_132 ?_
                                refine x_topI (v2 := nI ((512 * (i16_1 - 1)) + i22_2)) (nI_add (512 * (i16_1 - 1)) i22_2) ?_
                                refine x_ldI E h (ia_mo_right g) (i := nI ((512 * (i16_1 - 1)) + i22_2)) (vp_in_nI (by omega) (by decide)) (v := t22.2.2 92 ((512 * (i16_1 - 1)) + i22_2)) (congrArg (t22.2.2 92) (nI_clamp (by omega))) dX12_mostRight_133 ?_
                                refine lv_topi (fun x28 e28 => ?_)
                                refine lv_istore_n (lv' := [(3, .int x28), (2, .int (nI i22_2)), (1, .int (nI i16_1)), (0, .ref (g.2.1 79))]) hx hb dX12_mostRight_134 rfl hl (by decide) rfl (fun ls hl => ?_)
                                refine lv_iconst (v := 0) hx hb dX12_mostRight_135 (by decide) ?_
                                refine lv_istore (lv' := [(4, .int 0), (3, .int x28), (2, .int (nI i22_2)), (1, .int (nI i16_1)), (0, .ref (g.2.1 79))]) hx hb dX12_mostRight_136 hl (by decide) rfl (fun ls hl => ?_)
                                have loop138_29 : ∀ (fu : Nat) (i29_4 : Nat) (i29_3 : Int32), i29_4 ≤ 9 → 9 - i29_4 < fu → ∀ (H : Heap) (locs : List Loc) (ls : Array Slot), HW g t22 s H locs → lv_has ls 6 [(4, .int (nI i29_4)), (3, .int i29_3), (2, .int (nI i22_2)), (1, .int (nI i16_1)), (0, .ref (g.2.1 79))] → W p l e { frames := 1, cells := 0, slots := 0, locals := 21 } s m args below meth c H locs 0 0 (MQ below (XQi g (fun r σ' => INV σ' ∧ Fr [] [(92, 93)] σ σ')) args s 0 0 (Aw g)) (F0 m 138 ls []) := by
                                  intro fu
                                  induction fu with
                                  | zero => intro i29_4 i29_3 bi29_4 hm; exact absurd hm (Nat.not_lt_zero _)
                                  | succ fu ih =>
                                    have ih29 := ih
                                    clear ih
                                    intro i29_4 i29_3 bi29_4 hm29 H locs ls h hl
                                    refine lv_iload hx hb dX12_mostRight_138 (lv_at hl 0 rfl) ?_
                                    refine lv_bipush (v := 9) hx hb dX12_mostRight_140 (by decide) ?_
                                    refine lv_icmp_ge (tgt := 214) hx hb dX12_mostRight_142 (by decide) (fun c30 => ?_) (fun c30 => ?_)
                                    · skip
                                      have b31 : 9 ≤ i29_4 := y_le (a := 9) (b := i29_4) (by omega) (by omega) c30
                                      refine lv_aload_n hx hb dX12_mostRight_214 rfl (lv_at hl 4 rfl) ?_
                                      refine x_getR E h (fr_mo_right g) rfl hwX12 (by decide) (by decide +kernel) dX12_mostRight_215 ?_
                                      refine lv_sipush (v := 512) hx hb dX12_mostRight_218 (by decide) ?_
                                      refine lv_iload_n hx hb dX12_mostRight_221 rfl (lv_at hl 3 rfl) ?_
                                      refine lv_imul hx hb dX12_mostRight_222 ?_
                                      refine x_topI (v2 := nI (512 * i16_1)) (pk_mul 512 i16_1) ?_
                                      refine lv_iload_n hx hb dX12_mostRight_223 rfl (lv_at hl 2 rfl) ?_
                                      refine lv_iadd hx hb dX12_mostRight_224 ?_
                                      refine x_topI (v2 := nI ((512 * i16_1) + i22_2)) (nI_add (512 * i16_1) i22_2) ?_
                                      refine lv_iload_n hx hb dX12_mostRight_225 rfl (lv_at hl 1 rfl) ?_
                                      refine y_stI E h hI_22 hF_22 (ia_mo_right g) (i := nI ((512 * i16_1) + i22_2)) (vp_in_nI (by omega) (by decide)) (j := ((512 * i16_1) + i22_2)) (nI_clamp (by omega)) (ba_none rfl) rfl dX12_mostRight_226 (fun s32 H locs q32 hI32 hF32 h => ?_)
                                      have e33 : s32.1 31 = nI F31 := (congrArg (fun t : ST => t.1 31) q32).trans e23
                                      have e34 : s32.1 35 = nI F35 := (congrArg (fun t : ST => t.1 35) q32).trans e24
                                      refine lv_iinc (v := (nI (i22_2 + 1))) (lv' := [(2, .int (nI (i22_2 + 1))), (4, .int (nI i29_4)), (3, .int i29_3), (1, .int (nI i16_1)), (0, .ref (g.2.1 79))]) hx hb dX12_mostRight_227 hl (k := 2) rfl (nI_add i22_2 1) (by decide) rfl (fun ls hl => ?_)
                                      refine lv_goto (tgt := 113) hx hb dX12_mostRight_230 (by decide) ?_
                                      exact ih22 s32 (i22_2 + 1) hI32 hF32 e33 e34 (by omega) (by omega) _ _ _ h (lv_sub hl [0, 3, 4] rfl)
                                    · skip
                                      have b35 : i29_4 < 9 := y_nle (a := 9) (b := i29_4) (by omega) (by omega) c30
                                      refine lv_iload_n hx hb dX12_mostRight_145 rfl (lv_at hl 2 rfl) ?_
                                      refine lv_iload hx hb dX12_mostRight_146 (lv_at hl 0 rfl) ?_
                                      refine lv_ishr hx hb dX12_mostRight_148 ?_
                                      refine lv_topi (fun x36 e36 => ?_)
                                      refine lv_iconst (v := 1) hx hb dX12_mostRight_149 (by decide) ?_
                                      refine lv_iand hx hb dX12_mostRight_150 ?_
                                      obtain ⟨n37, b37, e37⟩ := pk_andE x36 (m := 1) 1 (by decide)
                                      refine x_topI (v2 := nI n37) e37 ?_
                                      refine lv_iconst (v := 1) hx hb dX12_mostRight_151 (by decide) ?_
                                      have j193_40 : ∀ (y40_s0 : Int32), ∀ (H : Heap) (locs : List Loc) (ls : Array Slot), HW g t22 s H locs → lv_has ls 6 [(4, .int (nI i29_4)), (3, .int i29_3), (2, .int (nI i22_2)), (1, .int (nI i16_1)), (0, .ref (g.2.1 79))] → W p l e { frames := 1, cells := 0, slots := 0, locals := 21 } s m args below meth c H locs 0 0 (MQ below (XQi g (fun r σ' => INV σ' ∧ Fr [] [(92, 93)] σ σ')) args s 0 0 (Aw g)) (F0 m 193 ls [.int y40_s0]) := by
                                        intro y40_s0 H locs ls h hl
                                        refine lv_istore (lv' := [(5, .int y40_s0), (4, .int (nI i29_4)), (3, .int i29_3), (2, .int (nI i22_2)), (1, .int (nI i16_1)), (0, .ref (g.2.1 79))]) hx hb dX12_mostRight_193 hl (by decide) rfl (fun ls hl => ?_)
                                        refine lv_iload hx hb dX12_mostRight_195 (lv_at hl 0 rfl) ?_
                                        refine lv_iload_n hx hb dX12_mostRight_197 rfl (lv_at hl 2 rfl) ?_
                                        have j207_43 : ∀ (y43_s0 : Int32), ∀ (H : Heap) (locs : List Loc) (ls : Array Slot), HW g t22 s H locs → lv_has ls 6 [(5, .int y40_s0), (4, .int (nI i29_4)), (3, .int i29_3), (2, .int (nI i22_2)), (1, .int (nI i16_1)), (0, .ref (g.2.1 79))] → W p l e { frames := 1, cells := 0, slots := 0, locals := 21 } s m args below meth c H locs 0 0 (MQ below (XQi g (fun r σ' => INV σ' ∧ Fr [] [(92, 93)] σ σ')) args s 0 0 (Aw g)) (F0 m 207 ls [.int y43_s0]) := by
                                          intro y43_s0 H locs ls h hl
                                          refine lv_istore_n (lv' := [(3, .int y43_s0), (5, .int y40_s0), (4, .int (nI i29_4)), (2, .int (nI i22_2)), (1, .int (nI i16_1)), (0, .ref (g.2.1 79))]) hx hb dX12_mostRight_207 rfl hl (by decide) rfl (fun ls hl => ?_)
                                          refine lv_iinc (v := (nI (i29_4 + 1))) (lv' := [(4, .int (nI (i29_4 + 1))), (3, .int y43_s0), (5, .int y40_s0), (2, .int (nI i22_2)), (1, .int (nI i16_1)), (0, .ref (g.2.1 79))]) hx hb dX12_mostRight_208 hl (k := 2) rfl (nI_add i29_4 1) (by decide) rfl (fun ls hl => ?_)
                                          refine lv_goto (tgt := 138) hx hb dX12_mostRight_211 (by decide) ?_
                                          exact ih29 (i29_4 + 1) y43_s0 (by omega) (by omega) _ _ _ h (lv_sub hl [0, 1, 3, 4, 5] rfl)
                                        refine lv_icmp_le (tgt := 206) hx hb dX12_mostRight_198 (by decide) (fun c41 => ?_) (fun c41 => ?_)
                                        · skip
                                          refine lv_iload_n hx hb dX12_mostRight_206 rfl (lv_at hl 2 rfl) ?_
                                          exact j207_43 i29_3 _ _ _ h (lv_sub hl [0, 1, 2, 3, 4, 5] rfl)
                                        · skip
                                          refine lv_iload hx hb dX12_mostRight_201 (lv_at hl 0 rfl) ?_
                                          refine lv_goto (tgt := 207) hx hb dX12_mostRight_203 (by decide) ?_
                                          exact j207_43 y40_s0 _ _ _ h (lv_sub hl [0, 1, 2, 3, 4, 5] rfl)
                                      refine lv_icmp_ne (tgt := 192) hx hb dX12_mostRight_152 (by decide) (fun c38 => ?_) (fun c38 => ?_)
                                      · skip
                                        have b39 : ¬ n37 = 1 := y_ne (a := n37) (b := 1) (by omega) (by omega) c38
                                        refine lv_iconst (v := 0) hx hb dX12_mostRight_192 (by decide) ?_
                                        exact j193_40 0 _ _ _ h (lv_sub hl [0, 1, 2, 3, 4] rfl)
                                      · skip
                                        have b45 : n37 = 1 := y_eq (a := n37) (b := 1) (by omega) (by omega) c38
                                        refine lv_aload_n hx hb dX12_mostRight_155 rfl (lv_at hl 4 rfl) ?_
                                        refine x_getR E h (fr_mo_right g) rfl hwX12 (by decide) (by decide +kernel) dX12_mostRight_156 ?_
                                        refine lv_sipush (v := 512) hx hb dX12_mostRight_159 (by decide) ?_
                                        refine lv_iload_n hx hb dX12_mostRight_162 rfl (lv_at hl 3 rfl) ?_
                                        refine lv_iconst (v := 1) hx hb dX12_mostRight_163 (by decide) ?_
                                        refine lv_isub hx hb dX12_mostRight_164 ?_
                                        refine x_topI (v2 := nI (i16_1 - 1)) (pk_sub (a := i16_1) (b := 1) (by omega)) ?_
                                        refine lv_imul hx hb dX12_mostRight_165 ?_
                                        refine x_topI (v2 := nI (512 * (i16_1 - 1))) (pk_mul 512 (i16_1 - 1)) ?_
                                        refine lv_iload_n hx hb dX12_mostRight_166 rfl (lv_at hl 2 rfl) ?_
                                        refine lv_iconst (v := 1) hx hb dX12_mostRight_167 (by decide) ?_
                                        refine lv_iload hx hb dX12_mostRight_168 (lv_at hl 0 rfl) ?_
                                        refine lv_ishl hx hb dX12_mostRight_170 ?_
                                        refine x_topI (v2 := nI (2 ^ i29_4)) (y_shl1 (by omega)) ?_
                                        have b46 := y_pow (p := i29_4) (by omega)
                                        refine lv_iconst (v := (-1)) hx hb dX12_mostRight_171 (by decide) ?_
                                        refine lv_ixor hx hb dX12_mostRight_172 ?_
                                        refine lv_topi (fun x47 e47 => ?_)
                                        refine lv_iand hx hb dX12_mostRight_173 ?_
                                        obtain ⟨n48, b48, e48⟩ := x_and i22_2 x47 (by omega)
                                        refine x_topI (v2 := nI n48) e48 ?_
                                        refine lv_iadd hx hb dX12_mostRight_174 ?_
                                        refine x_topI (v2 := nI ((512 * (i16_1 - 1)) + n48)) (nI_add (512 * (i16_1 - 1)) n48) ?_
                                        refine x_ldI E h (ia_mo_right g) (i := nI ((512 * (i16_1 - 1)) + n48)) (vp_in_nI (by omega) (by decide)) (v := t22.2.2 92 ((512 * (i16_1 - 1)) + n48)) (congrArg (t22.2.2 92) (nI_clamp (by omega))) dX12_mostRight_175 ?_
                                        refine lv_aload_n hx hb dX12_mostRight_176 rfl (lv_at hl 4 rfl) ?_
                                        refine x_getR E h (fr_mo_pairs g) rfl hwX12 (by decide) (by decide +kernel) dX12_mostRight_177 ?_
                                        refine lv_bipush (v := 9) hx hb dX12_mostRight_180 (by decide) ?_
                                        refine lv_iload_n hx hb dX12_mostRight_182 rfl (lv_at hl 3 rfl) ?_
                                        refine lv_imul hx hb dX12_mostRight_183 ?_
                                        refine x_topI (v2 := nI (9 * i16_1)) (pk_mul 9 i16_1) ?_
                                        refine lv_iload hx hb dX12_mostRight_184 (lv_at hl 0 rfl) ?_
                                        refine lv_iadd hx hb dX12_mostRight_186 ?_
                                        refine x_topI (v2 := nI ((9 * i16_1) + i29_4)) (nI_add (9 * i16_1) i29_4) ?_
                                        refine x_ldI E h (ia_mo_pairs g) (i := nI ((9 * i16_1) + i29_4)) (vp_in_nI (by omega) (by decide)) (v := t22.2.2 93 ((9 * i16_1) + i29_4)) (congrArg (t22.2.2 93) (nI_clamp (by omega))) dX12_mostRight_187 ?_
                                        refine lv_iadd hx hb dX12_mostRight_188 ?_
                                        refine lv_topi (fun x49 e49 => ?_)
                                        refine lv_goto (tgt := 193) hx hb dX12_mostRight_189 (by decide) ?_
                                        exact j193_40 x49 _ _ _ h (lv_sub hl [0, 1, 2, 3, 4] rfl)
                                exact loop138_29 _ 0 x28 (Nat.zero_le _) (Nat.lt_succ_self _) _ _ _ h (lv_sub hl [0, 1, 2, 3, 4] rfl)
                          exact loop113_22 _ t16 0 hI_16 hF_16 e17 e18 (Nat.zero_le _) (Nat.lt_succ_self _) _ _ _ h (lv_sub hl [0, 1, 2] rfl)
                    exact loop105_16 _ t11 1 hI_11 hF_11 e12 e13 (by omega) (by omega) (Nat.lt_succ_self _) _ _ _ h (lv_sub hl [0, 1] rfl)
                  · skip
                    have b50 : i11_1 < 512 := y_nle (a := 512) (b := i11_1) (by omega) (by omega) c14
                    refine lv_aload_n hx hb dX12_mostRight_90 rfl (lv_at hl 1 rfl) ?_
                    refine x_getR E h (fr_mo_right g) rfl hwX12 (by decide) (by decide +kernel) dX12_mostRight_91 ?_
                    refine lv_iload_n hx hb dX12_mostRight_94 rfl (lv_at hl 0 rfl) ?_
                    refine lv_iconst (v := 0) hx hb dX12_mostRight_95 (by decide) ?_
                    refine y_stI E h hI_11 hF_11 (ia_mo_right g) (i := nI i11_1) (vp_in_nI (by omega) (by decide)) (j := i11_1) (nI_clamp (by omega)) (ba_none rfl) rfl dX12_mostRight_96 (fun s51 H locs q51 hI51 hF51 h => ?_)
                    have e52 : s51.1 31 = nI F31 := (congrArg (fun t : ST => t.1 31) q51).trans e12
                    have e53 : s51.1 35 = nI F35 := (congrArg (fun t : ST => t.1 35) q51).trans e13
                    refine lv_iinc (v := (nI (i11_1 + 1))) (lv' := [(1, .int (nI (i11_1 + 1))), (0, .ref (g.2.1 79))]) hx hb dX12_mostRight_97 hl (k := 0) rfl (nI_add i11_1 1) (by decide) rfl (fun ls hl => ?_)
                    refine lv_goto (tgt := 83) hx hb dX12_mostRight_100 (by decide) ?_
                    exact ih11 s51 (i11_1 + 1) hI51 hF51 e52 e53 (by omega) (by omega) _ _ _ h (lv_sub hl [0, 1] rfl)
              exact loop83_11 _ t6 0 hI_6 hF_6 e7 e8 (Nat.zero_le _) (Nat.lt_succ_self _) _ _ _ h (lv_sub hl [0, 1] rfl)
            · skip
              have b54 : i6_1 < F31 := y_nle (a := F31) (b := i6_1) (by omega) (by omega) c9
              refine lv_aload_n hx hb dX12_mostRight_31 rfl (lv_at hl 1 rfl) ?_
              refine x_getR E h (fr_mo_pieceOf g) rfl hwX12 (by decide) (by decide +kernel) dX12_mostRight_32 ?_
              refine lv_iload_n hx hb dX12_mostRight_35 rfl (lv_at hl 0 rfl) ?_
              refine x_ldI E h (ia_mo_pieceOf g) (i := nI i6_1) (vp_in_nI (by omega) (by decide)) (v := t6.2.2 77 i6_1) (congrArg (t6.2.2 77) (nI_clamp (by omega))) dX12_mostRight_36 ?_
              refine lv_bipush (v := (-9)) hx hb dX12_mostRight_37 (by decide) ?_
              refine lv_icmp_eq (tgt := 75) hx hb dX12_mostRight_39 (by decide) (fun c55 => ?_) (fun c55 => ?_)
              · skip
                refine lv_iinc (v := (nI (i6_1 + 1))) (lv' := [(1, .int (nI (i6_1 + 1))), (0, .ref (g.2.1 79))]) hx hb dX12_mostRight_75 hl (k := 0) rfl (nI_add i6_1 1) (by decide) rfl (fun ls hl => ?_)
                refine lv_goto (tgt := 23) hx hb dX12_mostRight_78 (by decide) ?_
                exact ih6 t6 (i6_1 + 1) hI_6 hF_6 e7 e8 (by omega) po_6 (by omega) _ _ _ h (lv_sub hl [0, 1] rfl)
              · skip
                refine lv_aload_n hx hb dX12_mostRight_42 rfl (lv_at hl 1 rfl) ?_
                refine x_getR E h (fr_mo_truth g) rfl hwX12 (by decide) (by decide +kernel) dX12_mostRight_43 ?_
                refine lv_iload_n hx hb dX12_mostRight_46 rfl (lv_at hl 0 rfl) ?_
                obtain ⟨n58, b58, e58⟩ := hI_6.2 71 5 rfl i6_1
                refine x_ldI E h (ia_mo_truth g) (i := nI i6_1) (vp_in_nI (by omega) (by decide)) (v := nI n58) ((congrArg (t6.2.2 71) (nI_clamp (by omega))).trans e58) dX12_mostRight_47 ?_
                refine lv_if_le (tgt := 75) hx hb dX12_mostRight_48 (by decide) (fun c59 => ?_) (fun c59 => ?_)
                · skip
                  have b60 : n58 ≤ 0 := y_le (a := n58) (b := 0) (by omega) (by omega) c59
                  refine lv_iinc (v := (nI (i6_1 + 1))) (lv' := [(1, .int (nI (i6_1 + 1))), (0, .ref (g.2.1 79))]) hx hb dX12_mostRight_75 hl (k := 0) rfl (nI_add i6_1 1) (by decide) rfl (fun ls hl => ?_)
                  refine lv_goto (tgt := 23) hx hb dX12_mostRight_78 (by decide) ?_
                  exact ih6 t6 (i6_1 + 1) hI_6 hF_6 e7 e8 (by omega) po_6 (by omega) _ _ _ h (lv_sub hl [0, 1] rfl)
                · skip
                  have b61 : 0 < n58 := y_nle (a := n58) (b := 0) (by omega) (by omega) c59
                  refine lv_aload_n hx hb dX12_mostRight_51 rfl (lv_at hl 1 rfl) ?_
                  refine x_getR E h (fr_mo_pairs g) rfl hwX12 (by decide) (by decide +kernel) dX12_mostRight_52 ?_
                  refine lv_bipush (v := 9) hx hb dX12_mostRight_55 (by decide) ?_
                  refine lv_aload_n hx hb dX12_mostRight_57 rfl (lv_at hl 1 rfl) ?_
                  refine x_getR E h (fr_mo_truth g) rfl hwX12 (by decide) (by decide +kernel) dX12_mostRight_58 ?_
                  refine lv_iload_n hx hb dX12_mostRight_61 rfl (lv_at hl 0 rfl) ?_
                  refine x_ldI E h (ia_mo_truth g) (i := nI i6_1) (vp_in_nI (by omega) (by decide)) (v := nI n58) ((congrArg (t6.2.2 71) (nI_clamp (by omega))).trans e58) dX12_mostRight_62 ?_
                  refine lv_imul hx hb dX12_mostRight_63 ?_
                  refine x_topI (v2 := nI (9 * n58)) (pk_mul 9 n58) ?_
                  refine lv_aload_n hx hb dX12_mostRight_64 rfl (lv_at hl 1 rfl) ?_
                  refine lv_iload_n hx hb dX12_mostRight_65 rfl (lv_at hl 0 rfl) ?_
                  refine x_vi E h (na := 1) (As := [.int (nI i6_1)]) (aX12_heapOfRow_0 l g t6 hI_6 i6_1 F31 e7 F35 e8 (by omega) (by omega) (by omega) po_6) (oc_mo g) rfl gX12_mostRight_X12_heapOfRow rfl ⟨rfl, rfl⟩ rfl (by decide +kernel) ⟨Nat.le_of_ble_eq_true rfl, Nat.le_of_ble_eq_true rfl⟩ hl.1 rfl (Nat.le_of_ble_eq_true rfl) dX12_mostRight_66 ⟨Nat.le_of_ble_eq_true rfl, Nat.le_of_ble_eq_true rfl⟩ (fun r62 s62 H locs q62 h => ?_)
                  obtain ⟨d62, rfl⟩ := q62
                  rcases d62 with ⟨rfl, u62_0_0⟩ | ⟨m62_1n, u62_1_0, rfl⟩
                  · skip
                    exact absurd u62_0_0 c55
                  · skip
                    refine lv_iadd hx hb dX12_mostRight_69 ?_
                    refine x_topI (v2 := nI ((9 * n58) + m62_1n)) (nI_add (9 * n58) m62_1n) ?_
                    refine lv_dup2_11 hx hb dX12_mostRight_70 rfl rfl ?_
                    refine x_ldI E h (ia_mo_pairs g) (i := nI ((9 * n58) + m62_1n)) (vp_in_nI (by omega) (by decide)) (v := t6.2.2 93 ((9 * n58) + m62_1n)) (congrArg (t6.2.2 93) (nI_clamp (by omega))) dX12_mostRight_71 ?_
                    refine lv_iconst (v := 1) hx hb dX12_mostRight_72 (by decide) ?_
                    refine lv_iadd hx hb dX12_mostRight_73 ?_
                    refine lv_topi (fun x63 e63 => ?_)
                    refine y_stI E h hI_6 hF_6 (ia_mo_pairs g) (i := nI ((9 * n58) + m62_1n)) (vp_in_nI (by omega) (by decide)) (j := ((9 * n58) + m62_1n)) (nI_clamp (by omega)) (ba_none rfl) rfl dX12_mostRight_74 (fun s64 H locs q64 hI64 hF64 h => ?_)
                    have e65 : s64.1 31 = nI F31 := (congrArg (fun t : ST => t.1 31) q64).trans e7
                    have e66 : s64.1 35 = nI F35 := (congrArg (fun t : ST => t.1 35) q64).trans e8
                    have a67 := AP.eq po_6 (show s64.2.2 77 = t6.2.2 77 from (congrArg (fun t : ST => t.2.2 77) q64).trans rfl)
                    refine lv_iinc (v := (nI (i6_1 + 1))) (lv' := [(1, .int (nI (i6_1 + 1))), (0, .ref (g.2.1 79))]) hx hb dX12_mostRight_75 hl (k := 0) rfl (nI_add i6_1 1) (by decide) rfl (fun ls hl => ?_)
                    refine lv_goto (tgt := 23) hx hb dX12_mostRight_78 (by decide) ?_
                    exact ih6 s64 (i6_1 + 1) hI64 hF64 e65 e66 (by omega) a67 (by omega) _ _ _ h (lv_sub hl [0, 1] rfl)
        exact loop23_6 _ t1 0 hI_1 hF_1 e2 e3 (Nat.zero_le _) po_1 (Nat.lt_succ_self _) _ _ _ h (lv_sub hl [0, 1] rfl)
      · skip
        have b68 : i1_1 < 54 := y_nle (a := 54) (b := i1_1) (by omega) (by omega) c4
        refine lv_aload_n hx hb dX12_mostRight_8 rfl (lv_at hl 1 rfl) ?_
        refine x_getR E h (fr_mo_pairs g) rfl hwX12 (by decide) (by decide +kernel) dX12_mostRight_9 ?_
        refine lv_iload_n hx hb dX12_mostRight_12 rfl (lv_at hl 0 rfl) ?_
        refine lv_iconst (v := 0) hx hb dX12_mostRight_13 (by decide) ?_
        refine y_stI E h hI_1 hF_1 (ia_mo_pairs g) (i := nI i1_1) (vp_in_nI (by omega) (by decide)) (j := i1_1) (nI_clamp (by omega)) (ba_none rfl) rfl dX12_mostRight_14 (fun s69 H locs q69 hI69 hF69 h => ?_)
        have e70 : s69.1 31 = nI F31 := (congrArg (fun t : ST => t.1 31) q69).trans e2
        have e71 : s69.1 35 = nI F35 := (congrArg (fun t : ST => t.1 35) q69).trans e3
        have a72 := AP.eq po_1 (show s69.2.2 77 = t1.2.2 77 from (congrArg (fun t : ST => t.2.2 77) q69).trans rfl)
        refine lv_iinc (v := (nI (i1_1 + 1))) (lv' := [(1, .int (nI (i1_1 + 1))), (0, .ref (g.2.1 79))]) hx hb dX12_mostRight_15 hl (k := 0) rfl (nI_add i1_1 1) (by decide) rfl (fun ls hl => ?_)
        refine lv_goto (tgt := 2) hx hb dX12_mostRight_18 (by decide) ?_
        exact ih1 s69 (i1_1 + 1) hI69 hF69 e70 e71 (by omega) a72 (by omega) _ _ _ h (lv_sub hl [0, 1] rfl)
  exact loop2_1 _ σ 0 hI hF eF31 eF35 (Nat.zero_le _) hPO (Nat.lt_succ_self _) _ _ _ h (lv_sub hl [0, 1] rfl)
