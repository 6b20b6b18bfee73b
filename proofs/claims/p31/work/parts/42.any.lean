set_option maxHeartbeats 4000000 in
set_option maxRecDepth 100000 in
theorem aX12_keep_0 (l : Launch) (g : CX) (σ : ST) (hI : INV σ) (p1 : Int32) (p2 : Int32) : XM l g yX12_keep wsX12_keep { frames := 6, cells := 0, slots := 0, locals := 140 } [.ref (g.2.1 79), .int p1, .int p2] σ (XQi g (fun r σ' => fX12_keep_0 p1 p2 σ = (r, σ') ∧ INV σ' ∧ Fr [(35, 40)] [(75, 86), (88, 91)] σ σ')) := by
  refine x_met (own := RX12) (cc := cX12_keep) (maxL := 5) (ret := (some .int)) (lv := [(0, .ref (g.2.1 79)), (1, .int p1), (2, .int p2)]) (by decide) rfl rfl (Nat.le_of_ble_eq_true rfl) rfl ?_
  intro p e s m args below meth c ls E h hl
  have hx := E.1
  have hb := E.2.1
  have hown := E.2.2.2.1
  have hts := E.2.2.2.2.1
  have hF : Fr [(35, 40)] [(75, 86), (88, 91)] σ σ := Fr.refl σ
  obtain ⟨R, hR0⟩ : ∃ R, fX12_keep_0 p1 p2 σ = R := ⟨_, rfl⟩
  have hR : fX12_keep_0b0 p1 p2 σ = R := hR0
  have hwX12 : ∀ w ∈ wsX120, w ∈ wsX12_keep := by decide +kernel
  generalize hPQ : XQi g (fun r σ' => fX12_keep_0 p1 p2 σ = (r, σ') ∧ INV σ' ∧ Fr [(35, 40)] [(75, 86), (88, 91)] σ σ') = PQz
  refine lv_iload_n hx hb dX12_keep_0 rfl (lv_at hl 2 rfl) ?_
  refine lv_iconst (v := 1) hx hb dX12_keep_1 (by decide) ?_
  refine lv_bipush (v := 99) hx hb dX12_keep_2 (by decide) ?_
  refine x_si E h (na := 3) (As := [.int p2, .int 1, .int 99]) (aX12_in_0 l g σ hI p2 1 99) gX12_keep_X12_in rfl ⟨rfl, rfl⟩ rfl (by decide +kernel) ⟨Nat.le_of_ble_eq_true rfl, Nat.le_of_ble_eq_true rfl⟩ hl.1 rfl (Nat.le_of_ble_eq_true rfl) dX12_keep_4 ⟨Nat.le_of_ble_eq_true rfl, Nat.le_of_ble_eq_true rfl⟩ (fun r1 s1 H locs q1 h => ?_)
  obtain ⟨x1, d1, rfl⟩ := q1
  replace hR := bd_to hR x1
  rcases d1 with ⟨rfl, u1_0_0, u1_0_1⟩ | ⟨rfl, u1_1_0⟩
  · skip
    obtain ⟨n2, b2, rfl⟩ := y_rnlt (N := 99) (y_lo1 u1_0_0 (by decide)) u1_0_1 (by omega)
    have b3 : 1 ≤ n2 := y_nlt (a := n2) (b := 1) (by omega) (by omega) u1_0_0
    have b4 : n2 ≤ 99 := y_nlt (a := 99) (b := n2) (by omega) (by omega) u1_0_1
    replace hR := it_f hR (by decide)
    refine lv_if_eq (tgt := 18) hx hb dX12_keep_7 (by decide) (fun c => absurd c (by decide)) (fun _ => ?_)
    refine lv_aload_n hx hb dX12_keep_10 rfl (lv_at hl 0 rfl) ?_
    refine lv_iload_n hx hb dX12_keep_11 rfl (lv_at hl 1 rfl) ?_
    refine x_vi E h (na := 1) (As := [.int p1]) (aX12_wrong_0 l g σ hI p1) (oc_mo g) rfl gX12_keep_X12_wrong rfl ⟨rfl, rfl⟩ rfl (by decide +kernel) ⟨Nat.le_of_ble_eq_true rfl, Nat.le_of_ble_eq_true rfl⟩ hl.1 rfl (Nat.le_of_ble_eq_true rfl) dX12_keep_12 ⟨Nat.le_of_ble_eq_true rfl, Nat.le_of_ble_eq_true rfl⟩ (fun r5 s5 H locs q5 h => ?_)
    obtain ⟨x5, d5, hI5, f5⟩ := q5
    replace hR := bp_to hR x5
    have hF5 := hF.call f5 (I := [(35, 40)]) (J := [(75, 86), (88, 91)]) rfl rfl
    rcases d5 with ⟨rfl, m5_0n, m5_0P, m5_0R, u5_0_0, u5_0_1, u5_0_2, u5_0_3, u5_0_4, rfl, u5_0_6⟩ | rfl | rfl
    · skip
      refine lv_goto (tgt := 19) hx hb dX12_keep_15 (by decide) ?_
      refine lv_istore_n (lv' := [(3, .int 0), (0, .ref (g.2.1 79)), (1, .int (nI m5_0n)), (2, .int (nI n2))]) hx hb dX12_keep_19 rfl hl (by decide) rfl (fun ls hl => ?_)
      refine lv_iload_n hx hb dX12_keep_20 rfl (lv_at hl 0 rfl) ?_
      replace hR := it_t hR (by decide)
      refine lv_if_eq (tgt := 26) hx hb dX12_keep_21 (by decide) (fun _ => ?_) (fun c => absurd (by decide) c)
      refine lv_aload_n hx hb dX12_keep_26 rfl (lv_at hl 1 rfl) ?_
      obtain ⟨n6, b6, e6⟩ := hI5.1 40 6 rfl
      refine x_getI E h (fi_mo_kept g) rfl hwX12 (by decide) (by decide +kernel) (v := nI n6) e6 dX12_keep_27 ?_
      replace hR := bd_to hR e6
      refine lv_bipush (v := 6) hx hb dX12_keep_30 (by decide) ?_
      refine lv_icmp_ne (tgt := 38) hx hb dX12_keep_32 (by decide) (fun c7 => ?_) (fun c7 => ?_)
      · skip
        replace hR := it_f hR c7
        have b8 : ¬ n6 = 6 := y_ne (a := n6) (b := 6) (by omega) (by omega) c7
        refine lv_aload_n hx hb dX12_keep_38 rfl (lv_at hl 1 rfl) ?_
        refine x_getR E h (fr_mo_name g) rfl hwX12 (by decide) (by decide +kernel) dX12_keep_39 ?_
        refine lv_aload_n hx hb dX12_keep_42 rfl (lv_at hl 1 rfl) ?_
        refine x_getI E h (fi_mo_kept g) rfl hwX12 (by decide) (by decide +kernel) (v := nI n6) e6 dX12_keep_43 ?_
        replace hR := bd_to hR e6
        refine lv_iload_n hx hb dX12_keep_46 rfl (lv_at hl 3 rfl) ?_
        refine y_stI E h hI5 hF5 (ia_mo_name g) (i := nI n6) (vp_in_nI (by omega) (by decide)) (j := n6) (nI_clamp (by omega)) (ba_none rfl) rfl dX12_keep_47 (fun s9 H locs q9 hI9 hF9 h => ?_)
        replace hR := st_to hR (nI_clamp (n := n6) (by omega)) q9
        have e10 : s9.1 35 = nI m5_0P := (congrArg (fun t : ST => t.1 35) q9).trans u5_0_0
        have e11 : s9.1 31 = nI m5_0R := (congrArg (fun t : ST => t.1 31) q9).trans u5_0_1
        have e12 : s9.1 40 = nI n6 := (congrArg (fun t : ST => t.1 40) q9).trans e6
        have a13 := AP.eq u5_0_6 (show s9.2.2 77 = s5.2.2 77 from (congrArg (fun t : ST => t.2.2 77) q9).trans rfl)
        refine lv_iconst (v := 0) hx hb dX12_keep_48 (by decide) ?_
        refine lv_istore (lv' := [(4, .int 0), (3, .int 0), (0, .ref (g.2.1 79)), (1, .int (nI m5_0n)), (2, .int (nI n2))]) hx hb dX12_keep_49 hl (by decide) rfl (fun ls hl => ?_)
        have loop51_14 : ∀ (fu : Nat) (t14 : ST) (i14_4 : Nat), INV t14 → Fr [(35, 40)] [(75, 86), (88, 91)] σ t14 → t14.1 35 = nI m5_0P → t14.1 31 = nI m5_0R → t14.1 40 = nI n6 → i14_4 ≤ 4 → fX12_keep_0l51 fu (nI m5_0n) (nI i14_4) t14 = R → 4 - i14_4 < fu → ∀ (H : Heap) (locs : List Loc) (ls : Array Slot), HW g t14 s H locs → lv_has ls 5 [(4, .int (nI i14_4)), (3, .int 0), (0, .ref (g.2.1 79)), (1, .int (nI m5_0n)), (2, .int (nI n2))] → W p l e { frames := 6, cells := 0, slots := 0, locals := 140 } s m args below meth c H locs 0 0 (MQ below PQz args s 0 0 (Aw g)) (F0 m 51 ls []) := by
          intro fu14
          induction fu14 with
          | zero => intro t14 i14_4 hI_14 hF_14 e15 e16 e17 bi14_4 hR14 hm; exact absurd hm (Nat.not_lt_zero _)
          | succ fu14 ih =>
            have ih14 := ih
            clear ih
            intro t14 i14_4 hI_14 hF_14 e15 e16 e17 bi14_4 hR14 hm14 H locs ls h hl
            replace hR14 : fX12_keep_0b51 (fX12_keep_0l51 fu14) (nI m5_0n) (nI i14_4) t14 = R := hR14
            refine lv_iload hx hb dX12_keep_51 (lv_at hl 0 rfl) ?_
            refine lv_iconst (v := 4) hx hb dX12_keep_53 (by decide) ?_
            refine lv_icmp_ge (tgt := 88) hx hb dX12_keep_54 (by decide) (fun c18 => ?_) (fun c18 => ?_)
            · skip
              replace hR14 := it_t hR14 c18
              have b19 : 4 ≤ i14_4 := y_le (a := 4) (b := i14_4) (by omega) (by omega) c18
              refine lv_aload_n hx hb dX12_keep_88 rfl (lv_at hl 2 rfl) ?_
              refine lv_dup hx hb dX12_keep_89 rfl ?_
              refine x_getI E h (fi_mo_kept g) rfl hwX12 (by decide) (by decide +kernel) (v := nI n6) e17 dX12_keep_90 ?_
              replace hR14 := bd_to hR14 e17
              refine lv_iconst (v := 1) hx hb dX12_keep_93 (by decide) ?_
              refine lv_iadd hx hb dX12_keep_94 ?_
              refine x_topI (v2 := nI (n6 + 1)) (nI_add n6 1) ?_
              replace hR14 := bd_to hR14 (nI_add n6 1)
              refine y_putI E h hI_14 hF_14 (ty := .int) (v := nI (n6 + 1)) (fi_mo_kept g) rfl hwX12 tyX12_ok nmX12 (by decide) (by decide +kernel) (by decide +kernel) (by decide +kernel) rfl rfl (ba_some rfl (Bd.mk (n := (n6 + 1)) (by omega))) rfl dX12_keep_95 (fun s20 H locs q20 hI20 hF20 h => ?_)
              replace hR14 := bd_to hR14 q20.symm
              have e21 : s20.1 35 = nI m5_0P := (congrArg (fun t : ST => t.1 35) q20).trans e15
              have e22 : s20.1 31 = nI m5_0R := (congrArg (fun t : ST => t.1 31) q20).trans e16
              have e23 : s20.1 40 = nI (n6 + 1) := congrArg (fun t : ST => t.1 40) q20
              refine lv_aload_n hx hb dX12_keep_98 rfl (lv_at hl 2 rfl) ?_
              refine x_getI E h (fi_mo_kept g) rfl hwX12 (by decide) (by decide +kernel) (v := nI (n6 + 1)) e23 dX12_keep_99 ?_
              replace hR14 := bd_to hR14 e23
              refine lv_iconst (v := 1) hx hb dX12_keep_102 (by decide) ?_
              refine lv_isub hx hb dX12_keep_103 ?_
              replace hR14 := bd_to hR14 rfl
              subst hPQ
              exact x_iret E h ⟨hR0.trans hR14.symm, hI20, hF20⟩ dX12_keep_104
            · skip
              replace hR14 := it_f hR14 c18
              have b24 : i14_4 < 4 := y_nle (a := 4) (b := i14_4) (by omega) (by omega) c18
              refine lv_aload_n hx hb dX12_keep_57 rfl (lv_at hl 2 rfl) ?_
              refine x_getR E h (fr_mo_voice g) rfl hwX12 (by decide) (by decide +kernel) dX12_keep_58 ?_
              refine lv_iconst (v := 4) hx hb dX12_keep_61 (by decide) ?_
              refine lv_aload_n hx hb dX12_keep_62 rfl (lv_at hl 2 rfl) ?_
              refine x_getI E h (fi_mo_kept g) rfl hwX12 (by decide) (by decide +kernel) (v := nI n6) e17 dX12_keep_63 ?_
              replace hR14 := bd_to hR14 e17
              refine lv_imul hx hb dX12_keep_66 ?_
              refine x_topI (v2 := nI (4 * n6)) (pk_mul 4 n6) ?_
              replace hR14 := bd_to hR14 (pk_mul 4 n6)
              refine lv_iload hx hb dX12_keep_67 (lv_at hl 0 rfl) ?_
              refine lv_iadd hx hb dX12_keep_69 ?_
              refine x_topI (v2 := nI ((4 * n6) + i14_4)) (nI_add (4 * n6) i14_4) ?_
              replace hR14 := bd_to hR14 (nI_add (4 * n6) i14_4)
              refine lv_aload_n hx hb dX12_keep_70 rfl (lv_at hl 2 rfl) ?_
              refine x_getR E h (fr_mo_heapMiddle g) rfl hwX12 (by decide) (by decide +kernel) dX12_keep_71 ?_
              refine lv_iconst (v := 4) hx hb dX12_keep_74 (by decide) ?_
              refine lv_iload_n hx hb dX12_keep_75 rfl (lv_at hl 3 rfl) ?_
              refine lv_imul hx hb dX12_keep_76 ?_
              refine x_topI (v2 := nI (4 * m5_0n)) (pk_mul 4 m5_0n) ?_
              replace hR14 := bd_to hR14 (pk_mul 4 m5_0n)
              refine lv_iload hx hb dX12_keep_77 (lv_at hl 0 rfl) ?_
              refine lv_iadd hx hb dX12_keep_79 ?_
              refine x_topI (v2 := nI ((4 * m5_0n) + i14_4)) (nI_add (4 * m5_0n) i14_4) ?_
              replace hR14 := bd_to hR14 (nI_add (4 * m5_0n) i14_4)
              refine x_ldI E h (ia_mo_heapMiddle g) (i := nI ((4 * m5_0n) + i14_4)) (vp_in_nI (by omega) (by decide)) (v := t14.2.2 89 ((4 * m5_0n) + i14_4)) (congrArg (t14.2.2 89) (nI_clamp (n := (4 * m5_0n) + i14_4) (by omega))) dX12_keep_80 ?_
              replace hR14 := bd_to hR14 (congrArg (t14.2.2 89) (nI_clamp (n := (4 * m5_0n) + i14_4) (by omega)))
              refine y_stI E h hI_14 hF_14 (ia_mo_voice g) (i := nI ((4 * n6) + i14_4)) (vp_in_nI (by omega) (by decide)) (j := ((4 * n6) + i14_4)) (nI_clamp (by omega)) (ba_none rfl) rfl dX12_keep_81 (fun s25 H locs q25 hI25 hF25 h => ?_)
              replace hR14 := st_to hR14 (nI_clamp (n := (4 * n6) + i14_4) (by omega)) q25
              have e26 : s25.1 35 = nI m5_0P := (congrArg (fun t : ST => t.1 35) q25).trans e15
              have e27 : s25.1 31 = nI m5_0R := (congrArg (fun t : ST => t.1 31) q25).trans e16
              have e28 : s25.1 40 = nI n6 := (congrArg (fun t : ST => t.1 40) q25).trans e17
              replace hR14 := bd_to hR14 (nI_add i14_4 1)
              refine lv_iinc (v := (nI (i14_4 + 1))) (lv' := [(4, .int (nI (i14_4 + 1))), (3, .int 0), (0, .ref (g.2.1 79)), (1, .int (nI m5_0n)), (2, .int (nI n2))]) hx hb dX12_keep_82 hl (k := 0) rfl (nI_add i14_4 1) (by decide) rfl (fun ls hl => ?_)
              refine lv_goto (tgt := 51) hx hb dX12_keep_85 (by decide) ?_
              exact ih14 s25 (i14_4 + 1) hI25 hF25 e26 e27 e28 (by omega) hR14 (by omega) _ _ _ h (lv_sub hl [0, 1, 2, 3, 4] rfl)
        exact loop51_14 4096 s9 0 hI9 hF9 e10 e11 e12 (Nat.zero_le _) hR (by omega) _ _ _ h (lv_sub hl [0, 1, 2, 3, 4] rfl)
      · skip
        replace hR := it_t hR c7
        have b29 : n6 = 6 := y_eq (a := n6) (b := 6) (by omega) (by omega) c7
        refine lv_bipush (v := (-3)) hx hb dX12_keep_35 (by decide) ?_
        subst hPQ
        exact x_iret E h ⟨hR0.trans hR.symm, hI5, hF5⟩ dX12_keep_37
    · skip
      refine lv_goto (tgt := 19) hx hb dX12_keep_15 (by decide) ?_
      replace hR : fX12_keep_0b19 p1 (nI n2) (-1) s5 = R := hR
      refine lv_istore_n (lv' := [(3, .int (-1)), (0, .ref (g.2.1 79)), (1, .int p1), (2, .int (nI n2))]) hx hb dX12_keep_19 rfl hl (by decide) rfl (fun ls hl => ?_)
      refine lv_iload_n hx hb dX12_keep_20 rfl (lv_at hl 0 rfl) ?_
      replace hR := it_f hR (by decide)
      refine lv_if_eq (tgt := 26) hx hb dX12_keep_21 (by decide) (fun c => absurd c (by decide)) (fun _ => ?_)
      refine lv_iload_n hx hb dX12_keep_24 rfl (lv_at hl 0 rfl) ?_
      subst hPQ
      exact x_iret E h ⟨hR0.trans hR.symm, hI5, hF5⟩ dX12_keep_25
    · skip
      refine lv_goto (tgt := 19) hx hb dX12_keep_15 (by decide) ?_
      replace hR : fX12_keep_0b19 p1 (nI n2) (-2) s5 = R := hR
      refine lv_istore_n (lv' := [(3, .int (-2)), (0, .ref (g.2.1 79)), (1, .int p1), (2, .int (nI n2))]) hx hb dX12_keep_19 rfl hl (by decide) rfl (fun ls hl => ?_)
      refine lv_iload_n hx hb dX12_keep_20 rfl (lv_at hl 0 rfl) ?_
      replace hR := it_f hR (by decide)
      refine lv_if_eq (tgt := 26) hx hb dX12_keep_21 (by decide) (fun c => absurd c (by decide)) (fun _ => ?_)
      refine lv_iload_n hx hb dX12_keep_24 rfl (lv_at hl 0 rfl) ?_
      subst hPQ
      exact x_iret E h ⟨hR0.trans hR.symm, hI5, hF5⟩ dX12_keep_25
  · skip
    replace hR := it_t hR (by decide)
    refine lv_if_eq (tgt := 18) hx hb dX12_keep_7 (by decide) (fun _ => ?_) (fun c => absurd (by decide) c)
    refine lv_iconst (v := (-1)) hx hb dX12_keep_18 (by decide) ?_
    replace hR : fX12_keep_0b19 p1 p2 (-1) σ = R := hR
    refine lv_istore_n (lv' := [(3, .int (-1)), (0, .ref (g.2.1 79)), (1, .int p1), (2, .int p2)]) hx hb dX12_keep_19 rfl hl (by decide) rfl (fun ls hl => ?_)
    refine lv_iload_n hx hb dX12_keep_20 rfl (lv_at hl 0 rfl) ?_
    replace hR := it_f hR (by decide)
    refine lv_if_eq (tgt := 26) hx hb dX12_keep_21 (by decide) (fun c => absurd c (by decide)) (fun _ => ?_)
    refine lv_iload_n hx hb dX12_keep_24 rfl (lv_at hl 0 rfl) ?_
    subst hPQ
    exact x_iret E h ⟨hR0.trans hR.symm, hI, hF⟩ dX12_keep_25
set_option maxHeartbeats 4000000 in
set_option maxRecDepth 100000 in
theorem aX12_forget_0 (l : Launch) (g : CX) (σ : ST) (hI : INV σ) (p1 : Int32) : XM l g yX12_forget wsX12_forget { frames := 1, cells := 0, slots := 0, locals := 22 } [.ref (g.2.1 79), .int p1] σ (XQi g (fun r σ' => fX12_forget_0 p1 σ = (r, σ') ∧ INV σ' ∧ Fr [(40, 40)] [(90, 91)] σ σ')) := by
  refine x_met (own := RX12) (cc := cX12_forget) (maxL := 5) (ret := (some .int)) (lv := [(0, .ref (g.2.1 79)), (1, .int p1)]) (by decide) rfl rfl (Nat.le_of_ble_eq_true rfl) rfl ?_
  intro p e s m args below meth c ls E h hl
  have hx := E.1
  have hb := E.2.1
  have hown := E.2.2.2.1
  have hts := E.2.2.2.2.1
  have hF : Fr [(40, 40)] [(90, 91)] σ σ := Fr.refl σ
  obtain ⟨R, hR0⟩ : ∃ R, fX12_forget_0 p1 σ = R := ⟨_, rfl⟩
  have hR : fX12_forget_0b0 p1 σ = R := hR0
  have hwX12 : ∀ w ∈ wsX120, w ∈ wsX12_forget := by decide +kernel
  generalize hPQ : XQi g (fun r σ' => fX12_forget_0 p1 σ = (r, σ') ∧ INV σ' ∧ Fr [(40, 40)] [(90, 91)] σ σ') = PQz
  refine lv_iload_n hx hb dX12_forget_0 rfl (lv_at hl 1 rfl) ?_
  refine lv_iconst (v := 0) hx hb dX12_forget_1 (by decide) ?_
  refine lv_aload_n hx hb dX12_forget_2 rfl (lv_at hl 0 rfl) ?_
  obtain ⟨n1, b1, e1⟩ := hI.1 40 6 rfl
  refine x_getI E h (fi_mo_kept g) rfl hwX12 (by decide) (by decide +kernel) (v := nI n1) e1 dX12_forget_3 ?_
  replace hR := bd_to hR e1
  refine lv_iconst (v := 1) hx hb dX12_forget_6 (by decide) ?_
  refine lv_isub hx hb dX12_forget_7 ?_
  replace hR := bd_to hR rfl
  refine x_si E h (na := 3) (As := [.int p1, .int 0, .int (nI n1 - 1)]) (aX12_in_0 l g σ hI p1 0 (nI n1 - 1)) gX12_forget_X12_in rfl ⟨rfl, rfl⟩ rfl (by decide +kernel) ⟨Nat.le_of_ble_eq_true rfl, Nat.le_of_ble_eq_true rfl⟩ hl.1 rfl (Nat.le_of_ble_eq_true rfl) dX12_forget_8 ⟨Nat.le_of_ble_eq_true rfl, Nat.le_of_ble_eq_true rfl⟩ (fun r2 s2 H locs q2 h => ?_)
  obtain ⟨x2, d2, rfl⟩ := q2
  replace hR := bd_to hR x2
  rcases d2 with ⟨rfl, u2_0_0, u2_0_1⟩ | ⟨rfl, u2_1_0⟩
  · skip
    obtain ⟨n3, b3, rfl⟩ := y_rnltM (N := n1) (y_lo1 u2_0_0 (by decide)) u2_0_1 (by omega)
    have b4 : 0 ≤ n3 := y_nlt (a := n3) (b := 0) (by omega) (by omega) u2_0_0
    replace hR := it_f hR (by decide)
    refine lv_if_ne (tgt := 16) hx hb dX12_forget_11 (by decide) (fun _ => ?_) (fun c => absurd c (by decide))
    refine lv_aload_n hx hb dX12_forget_16 rfl (lv_at hl 0 rfl) ?_
    refine x_getR E h (fr_mo_name g) rfl hwX12 (by decide) (by decide +kernel) dX12_forget_17 ?_
    refine lv_iload_n hx hb dX12_forget_20 rfl (lv_at hl 1 rfl) ?_
    refine x_ldI E h (ia_mo_name g) (i := nI n3) (vp_in_nI (by omega) (by decide)) (v := σ.2.2 90 n3) (congrArg (σ.2.2 90) (nI_clamp (n := n3) (by omega))) dX12_forget_21 ?_
    replace hR := bd_to hR (congrArg (σ.2.2 90) (nI_clamp (n := n3) (by omega)))
    refine lv_topi (fun x5 e5 => ?_)
    try rw [← e5] at hR
    refine lv_istore_n (lv' := [(2, .int x5), (0, .ref (g.2.1 79)), (1, .int (nI n3))]) hx hb dX12_forget_22 rfl hl (by decide) rfl (fun ls hl => ?_)
    refine lv_aload_n hx hb dX12_forget_23 rfl (lv_at hl 1 rfl) ?_
    refine lv_dup hx hb dX12_forget_24 rfl ?_
    refine x_getI E h (fi_mo_kept g) rfl hwX12 (by decide) (by decide +kernel) (v := nI n1) e1 dX12_forget_25 ?_
    replace hR := bd_to hR e1
    refine lv_iconst (v := 1) hx hb dX12_forget_28 (by decide) ?_
    refine lv_isub hx hb dX12_forget_29 ?_
    refine x_topI (v2 := nI (n1 - 1)) (pk_sub (a := n1) (b := 1) (by omega)) ?_
    replace hR := bd_to hR (pk_sub (a := n1) (b := 1) (by omega))
    refine y_putI E h hI hF (ty := .int) (v := nI (n1 - 1)) (fi_mo_kept g) rfl hwX12 tyX12_ok nmX12 (by decide) (by decide +kernel) (by decide +kernel) (by decide +kernel) rfl rfl (ba_some rfl (Bd.mk (n := (n1 - 1)) (by omega))) rfl dX12_forget_30 (fun s6 H locs q6 hI6 hF6 h => ?_)
    replace hR := bd_to hR q6.symm
    have e7 : s6.1 40 = nI (n1 - 1) := congrArg (fun t : ST => t.1 40) q6
    refine lv_iload_n hx hb dX12_forget_33 rfl (lv_at hl 2 rfl) ?_
    refine lv_istore_n (lv' := [(3, .int (nI n3)), (2, .int x5), (0, .ref (g.2.1 79)), (1, .int (nI n3))]) hx hb dX12_forget_34 rfl hl (by decide) rfl (fun ls hl => ?_)
    have loop35_8 : ∀ (fu : Nat) (t8 : ST) (i8_3 : Nat), INV t8 → Fr [(40, 40)] [(90, 91)] σ t8 → t8.1 40 = nI (n1 - 1) → i8_3 ≤ (n1 - 1) → fX12_forget_0l35 fu x5 (nI i8_3) t8 = R → (n1 - 1) - i8_3 < fu → ∀ (H : Heap) (locs : List Loc) (ls : Array Slot), HW g t8 s H locs → lv_has ls 5 [(3, .int (nI i8_3)), (2, .int x5), (0, .ref (g.2.1 79)), (1, .int (nI n3))] → W p l e { frames := 1, cells := 0, slots := 0, locals := 22 } s m args below meth c H locs 0 0 (MQ below PQz args s 0 0 (Aw g)) (F0 m 35 ls []) := by
      intro fu8
      induction fu8 with
      | zero => intro t8 i8_3 hI_8 hF_8 e9 bi8_3 hR8 hm; exact absurd hm (Nat.not_lt_zero _)
      | succ fu8 ih =>
        have ih8 := ih
        clear ih
        intro t8 i8_3 hI_8 hF_8 e9 bi8_3 hR8 hm8 H locs ls h hl
        replace hR8 : fX12_forget_0b35 (fX12_forget_0l35 fu8) x5 (nI i8_3) t8 = R := hR8
        refine lv_iload_n hx hb dX12_forget_35 rfl (lv_at hl 0 rfl) ?_
        refine lv_aload_n hx hb dX12_forget_36 rfl (lv_at hl 2 rfl) ?_
        refine x_getI E h (fi_mo_kept g) rfl hwX12 (by decide) (by decide +kernel) (v := nI (n1 - 1)) e9 dX12_forget_37 ?_
        replace hR8 := bd_to hR8 e9
        refine lv_icmp_ge (tgt := 102) hx hb dX12_forget_40 (by decide) (fun c10 => ?_) (fun c10 => ?_)
        · skip
          replace hR8 := it_t hR8 c10
          have b11 : (n1 - 1) ≤ i8_3 := y_le (a := (n1 - 1)) (b := i8_3) (by omega) (by omega) c10
          refine lv_iload_n hx hb dX12_forget_102 rfl (lv_at hl 1 rfl) ?_
          subst hPQ
          exact x_iret E h ⟨hR0.trans hR8.symm, hI_8, hF_8⟩ dX12_forget_103
        · skip
          replace hR8 := it_f hR8 c10
          have b12 : i8_3 < (n1 - 1) := y_nle (a := (n1 - 1)) (b := i8_3) (by omega) (by omega) c10
          refine lv_aload_n hx hb dX12_forget_43 rfl (lv_at hl 2 rfl) ?_
          refine x_getR E h (fr_mo_name g) rfl hwX12 (by decide) (by decide +kernel) dX12_forget_44 ?_
          refine lv_iload_n hx hb dX12_forget_47 rfl (lv_at hl 0 rfl) ?_
          refine lv_aload_n hx hb dX12_forget_48 rfl (lv_at hl 2 rfl) ?_
          refine x_getR E h (fr_mo_name g) rfl hwX12 (by decide) (by decide +kernel) dX12_forget_49 ?_
          refine lv_iload_n hx hb dX12_forget_52 rfl (lv_at hl 0 rfl) ?_
          refine lv_iconst (v := 1) hx hb dX12_forget_53 (by decide) ?_
          refine lv_iadd hx hb dX12_forget_54 ?_
          refine x_topI (v2 := nI (i8_3 + 1)) (nI_add i8_3 1) ?_
          replace hR8 := bd_to hR8 (nI_add i8_3 1)
          refine x_ldI E h (ia_mo_name g) (i := nI (i8_3 + 1)) (vp_in_nI (by omega) (by decide)) (v := t8.2.2 90 (i8_3 + 1)) (congrArg (t8.2.2 90) (nI_clamp (n := i8_3 + 1) (by omega))) dX12_forget_55 ?_
          replace hR8 := bd_to hR8 (congrArg (t8.2.2 90) (nI_clamp (n := i8_3 + 1) (by omega)))
          refine y_stI E h hI_8 hF_8 (ia_mo_name g) (i := nI i8_3) (vp_in_nI (by omega) (by decide)) (j := i8_3) (nI_clamp (by omega)) (ba_none rfl) rfl dX12_forget_56 (fun s13 H locs q13 hI13 hF13 h => ?_)
          replace hR8 := st_to hR8 (nI_clamp (n := i8_3) (by omega)) q13
          have e14 : s13.1 40 = nI (n1 - 1) := (congrArg (fun t : ST => t.1 40) q13).trans e9
          refine lv_iconst (v := 0) hx hb dX12_forget_57 (by decide) ?_
          refine lv_istore (lv' := [(4, .int 0), (3, .int (nI i8_3)), (2, .int x5), (0, .ref (g.2.1 79)), (1, .int (nI n3))]) hx hb dX12_forget_58 hl (by decide) rfl (fun ls hl => ?_)
          have loop60_15 : ∀ (fu : Nat) (t15 : ST) (i15_4 : Nat), INV t15 → Fr [(40, 40)] [(90, 91)] σ t15 → t15.1 40 = nI (n1 - 1) → i15_4 ≤ 4 → fX12_forget_0l60 (fX12_forget_0l35 fu8) fu x5 (nI i8_3) (nI i15_4) t15 = R → 4 - i15_4 < fu → ∀ (H : Heap) (locs : List Loc) (ls : Array Slot), HW g t15 s H locs → lv_has ls 5 [(4, .int (nI i15_4)), (3, .int (nI i8_3)), (2, .int x5), (0, .ref (g.2.1 79)), (1, .int (nI n3))] → W p l e { frames := 1, cells := 0, slots := 0, locals := 22 } s m args below meth c H locs 0 0 (MQ below PQz args s 0 0 (Aw g)) (F0 m 60 ls []) := by
            intro fu15
            induction fu15 with
            | zero => intro t15 i15_4 hI_15 hF_15 e16 bi15_4 hR15 hm; exact absurd hm (Nat.not_lt_zero _)
            | succ fu15 ih =>
              have ih15 := ih
              clear ih
              intro t15 i15_4 hI_15 hF_15 e16 bi15_4 hR15 hm15 H locs ls h hl
              replace hR15 : fX12_forget_0b60 (fX12_forget_0l35 fu8) (fX12_forget_0l60 (fX12_forget_0l35 fu8) fu15) x5 (nI i8_3) (nI i15_4) t15 = R := hR15
              refine lv_iload hx hb dX12_forget_60 (lv_at hl 0 rfl) ?_
              refine lv_iconst (v := 4) hx hb dX12_forget_62 (by decide) ?_
              refine lv_icmp_ge (tgt := 96) hx hb dX12_forget_63 (by decide) (fun c17 => ?_) (fun c17 => ?_)
              · skip
                replace hR15 := it_t hR15 c17
                have b18 : 4 ≤ i15_4 := y_le (a := 4) (b := i15_4) (by omega) (by omega) c17
                replace hR15 := bd_to hR15 (nI_add i8_3 1)
                refine lv_iinc (v := (nI (i8_3 + 1))) (lv' := [(3, .int (nI (i8_3 + 1))), (4, .int (nI i15_4)), (2, .int x5), (0, .ref (g.2.1 79)), (1, .int (nI n3))]) hx hb dX12_forget_96 hl (k := 1) rfl (nI_add i8_3 1) (by decide) rfl (fun ls hl => ?_)
                refine lv_goto (tgt := 35) hx hb dX12_forget_99 (by decide) ?_
                exact ih8 t15 (i8_3 + 1) hI_15 hF_15 e16 (by omega) hR15 (by omega) _ _ _ h (lv_sub hl [0, 2, 3, 4] rfl)
              · skip
                replace hR15 := it_f hR15 c17
                have b19 : i15_4 < 4 := y_nle (a := 4) (b := i15_4) (by omega) (by omega) c17
                refine lv_aload_n hx hb dX12_forget_66 rfl (lv_at hl 3 rfl) ?_
                refine x_getR E h (fr_mo_voice g) rfl hwX12 (by decide) (by decide +kernel) dX12_forget_67 ?_
                refine lv_iconst (v := 4) hx hb dX12_forget_70 (by decide) ?_
                refine lv_iload_n hx hb dX12_forget_71 rfl (lv_at hl 1 rfl) ?_
                refine lv_imul hx hb dX12_forget_72 ?_
                refine x_topI (v2 := nI (4 * i8_3)) (pk_mul 4 i8_3) ?_
                replace hR15 := bd_to hR15 (pk_mul 4 i8_3)
                refine lv_iload hx hb dX12_forget_73 (lv_at hl 0 rfl) ?_
                refine lv_iadd hx hb dX12_forget_75 ?_
                refine x_topI (v2 := nI ((4 * i8_3) + i15_4)) (nI_add (4 * i8_3) i15_4) ?_
                replace hR15 := bd_to hR15 (nI_add (4 * i8_3) i15_4)
                refine lv_aload_n hx hb dX12_forget_76 rfl (lv_at hl 3 rfl) ?_
                refine x_getR E h (fr_mo_voice g) rfl hwX12 (by decide) (by decide +kernel) dX12_forget_77 ?_
                refine lv_iconst (v := 4) hx hb dX12_forget_80 (by decide) ?_
                refine lv_iload_n hx hb dX12_forget_81 rfl (lv_at hl 1 rfl) ?_
                refine lv_imul hx hb dX12_forget_82 ?_
                refine x_topI (v2 := nI (4 * i8_3)) (pk_mul 4 i8_3) ?_
                replace hR15 := bd_to hR15 (pk_mul 4 i8_3)
                refine lv_iconst (v := 4) hx hb dX12_forget_83 (by decide) ?_
                refine lv_iadd hx hb dX12_forget_84 ?_
                refine x_topI (v2 := nI ((4 * i8_3) + 4)) (nI_add (4 * i8_3) 4) ?_
                replace hR15 := bd_to hR15 (nI_add (4 * i8_3) 4)
                refine lv_iload hx hb dX12_forget_85 (lv_at hl 0 rfl) ?_
                refine lv_iadd hx hb dX12_forget_87 ?_
                refine x_topI (v2 := nI (((4 * i8_3) + 4) + i15_4)) (nI_add ((4 * i8_3) + 4) i15_4) ?_
                replace hR15 := bd_to hR15 (nI_add ((4 * i8_3) + 4) i15_4)
                refine x_ldI E h (ia_mo_voice g) (i := nI (((4 * i8_3) + 4) + i15_4)) (vp_in_nI (by omega) (by decide)) (v := t15.2.2 91 (((4 * i8_3) + 4) + i15_4)) (congrArg (t15.2.2 91) (nI_clamp (n := ((4 * i8_3) + 4) + i15_4) (by omega))) dX12_forget_88 ?_
                replace hR15 := bd_to hR15 (congrArg (t15.2.2 91) (nI_clamp (n := ((4 * i8_3) + 4) + i15_4) (by omega)))
                refine y_stI E h hI_15 hF_15 (ia_mo_voice g) (i := nI ((4 * i8_3) + i15_4)) (vp_in_nI (by omega) (by decide)) (j := ((4 * i8_3) + i15_4)) (nI_clamp (by omega)) (ba_none rfl) rfl dX12_forget_89 (fun s20 H locs q20 hI20 hF20 h => ?_)
                replace hR15 := st_to hR15 (nI_clamp (n := (4 * i8_3) + i15_4) (by omega)) q20
                have e21 : s20.1 40 = nI (n1 - 1) := (congrArg (fun t : ST => t.1 40) q20).trans e16
                replace hR15 := bd_to hR15 (nI_add i15_4 1)
                refine lv_iinc (v := (nI (i15_4 + 1))) (lv' := [(4, .int (nI (i15_4 + 1))), (3, .int (nI i8_3)), (2, .int x5), (0, .ref (g.2.1 79)), (1, .int (nI n3))]) hx hb dX12_forget_90 hl (k := 0) rfl (nI_add i15_4 1) (by decide) rfl (fun ls hl => ?_)
                refine lv_goto (tgt := 60) hx hb dX12_forget_93 (by decide) ?_
                exact ih15 s20 (i15_4 + 1) hI20 hF20 e21 (by omega) hR15 (by omega) _ _ _ h (lv_sub hl [0, 1, 2, 3, 4] rfl)
          exact loop60_15 4096 s13 0 hI13 hF13 e14 (Nat.zero_le _) hR8 (by omega) _ _ _ h (lv_sub hl [0, 1, 2, 3, 4] rfl)
    exact loop35_8 4096 s6 n3 hI6 hF6 e7 (by omega) hR (by omega) _ _ _ h (lv_sub hl [0, 1, 2, 3] rfl)
  · skip
    replace hR := it_t hR (by decide)
    refine lv_if_ne (tgt := 16) hx hb dX12_forget_11 (by decide) (fun c => absurd (by decide) c) (fun _ => ?_)
    refine lv_iconst (v := (-1)) hx hb dX12_forget_14 (by decide) ?_
    subst hPQ
    exact x_iret E h ⟨hR0.trans hR.symm, hI, hF⟩ dX12_forget_15
set_option maxHeartbeats 4000000 in
set_option maxRecDepth 100000 in
theorem aX12_back_0 (l : Launch) (g : CX) (σ : ST) (hI : INV σ) (p1 : Int32) (p2 : Int32) : XM l g yX12_back wsX12_back { frames := 6, cells := 0, slots := 0, locals := 140 } [.ref (g.2.1 79), .int p1, .int p2] σ (XQi g (fun r σ' => fX12_back_0 p1 p2 σ = (r, σ') ∧ INV σ' ∧ Fr [(35, 39)] [(75, 86), (88, 89)] σ σ')) := by
  refine x_met (own := RX12) (cc := cX12_back) (maxL := 9) (ret := (some .int)) (lv := [(0, .ref (g.2.1 79)), (1, .int p1), (2, .int p2)]) (by decide) rfl rfl (Nat.le_of_ble_eq_true rfl) rfl ?_
  intro p e s m args below meth c ls E h hl
  have hx := E.1
  have hb := E.2.1
  have hown := E.2.2.2.1
  have hts := E.2.2.2.2.1
  have hF : Fr [(35, 39)] [(75, 86), (88, 89)] σ σ := Fr.refl σ
  obtain ⟨R, hR0⟩ : ∃ R, fX12_back_0 p1 p2 σ = R := ⟨_, rfl⟩
  have hR : fX12_back_0b0 p1 p2 σ = R := hR0
  have hwX12 : ∀ w ∈ wsX120, w ∈ wsX12_back := by decide +kernel
  generalize hPQ : XQi g (fun r σ' => fX12_back_0 p1 p2 σ = (r, σ') ∧ INV σ' ∧ Fr [(35, 39)] [(75, 86), (88, 89)] σ σ') = PQz
  refine lv_iload_n hx hb dX12_back_0 rfl (lv_at hl 2 rfl) ?_
  refine lv_iconst (v := 0) hx hb dX12_back_1 (by decide) ?_
  refine lv_iconst (v := 1) hx hb dX12_back_2 (by decide) ?_
  refine x_si E h (na := 3) (As := [.int p2, .int 0, .int 1]) (aX12_in_0 l g σ hI p2 0 1) gX12_back_X12_in rfl ⟨rfl, rfl⟩ rfl (by decide +kernel) ⟨Nat.le_of_ble_eq_true rfl, Nat.le_of_ble_eq_true rfl⟩ hl.1 rfl (Nat.le_of_ble_eq_true rfl) dX12_back_3 ⟨Nat.le_of_ble_eq_true rfl, Nat.le_of_ble_eq_true rfl⟩ (fun r1 s1 H locs q1 h => ?_)
  obtain ⟨x1, d1, rfl⟩ := q1
  replace hR := bd_to hR x1
  rcases d1 with ⟨rfl, u1_0_0, u1_0_1⟩ | ⟨rfl, u1_1_0⟩
  · skip
    obtain ⟨n2, b2, rfl⟩ := y_rnlt (N := 1) (y_lo1 u1_0_0 (by decide)) u1_0_1 (by omega)
    have b3 : 0 ≤ n2 := y_nlt (a := n2) (b := 0) (by omega) (by omega) u1_0_0
    have b4 : n2 ≤ 1 := y_nlt (a := 1) (b := n2) (by omega) (by omega) u1_0_1
    replace hR := it_f hR (by decide)
    refine lv_if_eq (tgt := 17) hx hb dX12_back_6 (by decide) (fun c => absurd c (by decide)) (fun _ => ?_)
    refine lv_aload_n hx hb dX12_back_9 rfl (lv_at hl 0 rfl) ?_
    refine lv_iload_n hx hb dX12_back_10 rfl (lv_at hl 1 rfl) ?_
    refine x_vi E h (na := 1) (As := [.int p1]) (aX12_wrong_0 l g σ hI p1) (oc_mo g) rfl gX12_back_X12_wrong rfl ⟨rfl, rfl⟩ rfl (by decide +kernel) ⟨Nat.le_of_ble_eq_true rfl, Nat.le_of_ble_eq_true rfl⟩ hl.1 rfl (Nat.le_of_ble_eq_true rfl) dX12_back_11 ⟨Nat.le_of_ble_eq_true rfl, Nat.le_of_ble_eq_true rfl⟩ (fun r5 s5 H locs q5 h => ?_)
    obtain ⟨x5, d5, hI5, f5⟩ := q5
    replace hR := bp_to hR x5
    have hF5 := hF.call f5 (I := [(35, 39)]) (J := [(75, 86), (88, 89)]) rfl rfl
    rcases d5 with ⟨rfl, m5_0n, m5_0P, m5_0R, u5_0_0, u5_0_1, u5_0_2, u5_0_3, u5_0_4, rfl, u5_0_6⟩ | rfl | rfl
    · skip
      refine lv_goto (tgt := 18) hx hb dX12_back_14 (by decide) ?_
      refine lv_istore_n (lv' := [(3, .int 0), (0, .ref (g.2.1 79)), (1, .int (nI m5_0n)), (2, .int (nI n2))]) hx hb dX12_back_18 rfl hl (by decide) rfl (fun ls hl => ?_)
      refine lv_iload_n hx hb dX12_back_19 rfl (lv_at hl 0 rfl) ?_
      replace hR := it_t hR (by decide)
      refine lv_if_eq (tgt := 25) hx hb dX12_back_20 (by decide) (fun _ => ?_) (fun c => absurd (by decide) c)
      refine lv_bipush (v := (-9)) hx hb dX12_back_25 (by decide) ?_
      refine lv_istore (lv' := [(4, .int (-9)), (3, .int 0), (0, .ref (g.2.1 79)), (1, .int (nI m5_0n)), (2, .int (nI n2))]) hx hb dX12_back_27 hl (by decide) rfl (fun ls hl => ?_)
      refine lv_aload_n hx hb dX12_back_29 rfl (lv_at hl 2 rfl) ?_
      refine x_getR E h (fr_mo_rule g) rfl hwX12 (by decide) (by decide +kernel) dX12_back_30 ?_
      refine lv_iconst (v := 2) hx hb dX12_back_33 (by decide) ?_
      refine x_ldI E h (ia_mo_rule g) (i := nI 2) (vp_in_nI (by omega) (by decide)) (v := s5.2.2 66 2) (congrArg (s5.2.2 66) (nI_clamp (n := 2) (by omega))) dX12_back_34 ?_
      replace hR := bd_to hR (congrArg (s5.2.2 66) (nI_clamp (n := 2) (by omega)))
      refine lv_iconst (v := 1) hx hb dX12_back_35 (by decide) ?_
      refine lv_iadd hx hb dX12_back_36 ?_
      refine lv_topi (fun x6 e6 => ?_)
      replace hR := bd_to hR e6.symm
      refine lv_istore (lv' := [(5, .int x6), (4, .int (-9)), (3, .int 0), (0, .ref (g.2.1 79)), (1, .int (nI m5_0n)), (2, .int (nI n2))]) hx hb dX12_back_37 hl (by decide) rfl (fun ls hl => ?_)
      refine lv_iconst (v := 0) hx hb dX12_back_39 (by decide) ?_
      refine lv_istore (lv' := [(6, .int 0), (5, .int x6), (4, .int (-9)), (3, .int 0), (0, .ref (g.2.1 79)), (1, .int (nI m5_0n)), (2, .int (nI n2))]) hx hb dX12_back_40 hl (by decide) rfl (fun ls hl => ?_)
      obtain ⟨n8, b8, e8⟩ := hI5.1 40 6 rfl
      have loop42_7 : ∀ (fu : Nat) (i7_6 : Nat) (i7_5 : Int32) (i7_4 : Int32), i7_6 ≤ n8 → Opt (-9) 6 i7_4 → fX12_back_0l42 fu (nI m5_0n) (nI n2) i7_4 i7_5 (nI i7_6) s5 = R → n8 - i7_6 < fu → ∀ (H : Heap) (locs : List Loc) (ls : Array Slot), HW g s5 s H locs → lv_has ls 9 [(6, .int (nI i7_6)), (5, .int i7_5), (4, .int i7_4), (3, .int 0), (0, .ref (g.2.1 79)), (1, .int (nI m5_0n)), (2, .int (nI n2))] → W p l e { frames := 6, cells := 0, slots := 0, locals := 140 } s m args below meth c H locs 0 0 (MQ below PQz args s 0 0 (Aw g)) (F0 m 42 ls []) := by
        intro fu7
        induction fu7 with
        | zero => intro i7_6 i7_5 i7_4 bi7_6 oi7_4 hR7 hm; exact absurd hm (Nat.not_lt_zero _)
        | succ fu7 ih =>
          have ih7 := ih
          clear ih
          intro i7_6 i7_5 i7_4 bi7_6 oi7_4 hR7 hm7 H locs ls h hl
          replace hR7 : fX12_back_0b42 (fX12_back_0l42 fu7) (nI m5_0n) (nI n2) i7_4 i7_5 (nI i7_6) s5 = R := hR7
          refine lv_iload hx hb dX12_back_42 (lv_at hl 0 rfl) ?_
          refine lv_aload_n hx hb dX12_back_44 rfl (lv_at hl 4 rfl) ?_
          refine x_getI E h (fi_mo_kept g) rfl hwX12 (by decide) (by decide +kernel) (v := nI n8) e8 dX12_back_45 ?_
          replace hR7 := bd_to hR7 e8
          refine lv_icmp_ge (tgt := 139) hx hb dX12_back_48 (by decide) (fun c9 => ?_) (fun c9 => ?_)
          · skip
            replace hR7 := it_t hR7 c9
            have b10 : n8 ≤ i7_6 := y_le (a := n8) (b := i7_6) (by omega) (by omega) c9
            refine lv_iload hx hb dX12_back_139 (lv_at hl 2 rfl) ?_
            refine lv_bipush (v := (-9)) hx hb dX12_back_141 (by decide) ?_
            refine lv_icmp_eq (tgt := 151) hx hb dX12_back_143 (by decide) (fun c11 => ?_) (fun c11 => ?_)
            · skip
              replace hR7 := it_t hR7 c11
              subst c11
              refine lv_iload hx hb dX12_back_151 (lv_at hl 2 rfl) ?_
              refine lv_goto (tgt := 163) hx hb dX12_back_153 (by decide) ?_
              replace hR7 : fX12_back_0b163 (-9) s5 = R := hR7
              subst hPQ
              exact x_iret E h ⟨hR0.trans hR7.symm, hI5, hF5⟩ dX12_back_163
            · skip
              replace hR7 := it_f hR7 c11
              rcases oi7_4 with rfl | ⟨n14, b14, rfl⟩
              · exact absurd c11 (by decide)
              refine lv_iload_n hx hb dX12_back_146 rfl (lv_at hl 6 rfl) ?_
              refine lv_iconst (v := 1) hx hb dX12_back_147 (by decide) ?_
              refine lv_icmp_ne (tgt := 156) hx hb dX12_back_148 (by decide) (fun c15 => ?_) (fun c15 => ?_)
              · skip
                replace hR7 := it_f hR7 c15
                have b16 : ¬ n2 = 1 := y_ne (a := n2) (b := 1) (by omega) (by omega) c15
                refine lv_aload_n hx hb dX12_back_156 rfl (lv_at hl 4 rfl) ?_
                refine x_getR E h (fr_mo_name g) rfl hwX12 (by decide) (by decide +kernel) dX12_back_157 ?_
                refine lv_iload hx hb dX12_back_160 (lv_at hl 2 rfl) ?_
                refine x_ldI E h (ia_mo_name g) (i := nI n14) (vp_in_nI (by omega) (by decide)) (v := s5.2.2 90 n14) (congrArg (s5.2.2 90) (nI_clamp (n := n14) (by omega))) dX12_back_162 ?_
                replace hR7 := bd_to hR7 (congrArg (s5.2.2 90) (nI_clamp (n := n14) (by omega)))
                subst hPQ
                exact x_iret E h ⟨hR0.trans hR7.symm, hI5, hF5⟩ dX12_back_163
              · skip
                replace hR7 := it_t hR7 c15
                have b17 : n2 = 1 := y_eq (a := n2) (b := 1) (by omega) (by omega) c15
                refine lv_iload hx hb dX12_back_151 (lv_at hl 2 rfl) ?_
                refine lv_goto (tgt := 163) hx hb dX12_back_153 (by decide) ?_
                replace hR7 : fX12_back_0b163 (nI n14) s5 = R := hR7
                subst hPQ
                exact x_iret E h ⟨hR0.trans hR7.symm, hI5, hF5⟩ dX12_back_163
          · skip
            replace hR7 := it_f hR7 c9
            have b18 : i7_6 < n8 := y_nle (a := n8) (b := i7_6) (by omega) (by omega) c9
            refine lv_iconst (v := 0) hx hb dX12_back_51 (by decide) ?_
            refine lv_istore (lv' := [(7, .int 0), (6, .int (nI i7_6)), (5, .int i7_5), (4, .int i7_4), (3, .int 0), (0, .ref (g.2.1 79)), (1, .int (nI m5_0n)), (2, .int (nI n2))]) hx hb dX12_back_52 hl (by decide) rfl (fun ls hl => ?_)
            refine lv_iconst (v := 0) hx hb dX12_back_54 (by decide) ?_
            refine lv_istore (lv' := [(8, .int 0), (7, .int 0), (6, .int (nI i7_6)), (5, .int i7_5), (4, .int i7_4), (3, .int 0), (0, .ref (g.2.1 79)), (1, .int (nI m5_0n)), (2, .int (nI n2))]) hx hb dX12_back_55 hl (by decide) rfl (fun ls hl => ?_)
            have loop57_19 : ∀ (fu : Nat) (i19_8 : Nat) (i19_7 : Int32), i19_8 ≤ 4 → fX12_back_0l57 (fX12_back_0l42 fu7) fu (nI m5_0n) (nI n2) i7_4 i7_5 (nI i7_6) i19_7 (nI i19_8) s5 = R → 4 - i19_8 < fu → ∀ (H : Heap) (locs : List Loc) (ls : Array Slot), HW g s5 s H locs → lv_has ls 9 [(8, .int (nI i19_8)), (7, .int i19_7), (6, .int (nI i7_6)), (5, .int i7_5), (4, .int i7_4), (3, .int 0), (0, .ref (g.2.1 79)), (1, .int (nI m5_0n)), (2, .int (nI n2))] → W p l e { frames := 6, cells := 0, slots := 0, locals := 140 } s m args below meth c H locs 0 0 (MQ below PQz args s 0 0 (Aw g)) (F0 m 57 ls []) := by
              intro fu19
              induction fu19 with
              | zero => intro i19_8 i19_7 bi19_8 hR19 hm; exact absurd hm (Nat.not_lt_zero _)
              | succ fu19 ih =>
                have ih19 := ih
                clear ih
                intro i19_8 i19_7 bi19_8 hR19 hm19 H locs ls h hl
                replace hR19 : fX12_back_0b57 (fX12_back_0l42 fu7) (fX12_back_0l57 (fX12_back_0l42 fu7) fu19) (nI m5_0n) (nI n2) i7_4 i7_5 (nI i7_6) i19_7 (nI i19_8) s5 = R := hR19
                refine lv_iload hx hb dX12_back_57 (lv_at hl 0 rfl) ?_
                refine lv_iconst (v := 4) hx hb dX12_back_59 (by decide) ?_
                refine lv_icmp_ge (tgt := 101) hx hb dX12_back_60 (by decide) (fun c20 => ?_) (fun c20 => ?_)
                · skip
                  replace hR19 := it_t hR19 c20
                  have b21 : 4 ≤ i19_8 := y_le (a := 4) (b := i19_8) (by omega) (by omega) c20
                  refine lv_iload hx hb dX12_back_101 (lv_at hl 1 rfl) ?_
                  refine lv_iload hx hb dX12_back_103 (lv_at hl 3 rfl) ?_
                  have j115_24 : ∀ (y24_s0 : Int32), Opt (-9) 6 y24_s0 → fX12_back_0b115 (fX12_back_0l42 fu7) (nI m5_0n) (nI n2) i7_5 (nI i7_6) i19_7 y24_s0 s5 = R → ∀ (H : Heap) (locs : List Loc) (ls : Array Slot), HW g s5 s H locs → lv_has ls 9 [(8, .int (nI i19_8)), (7, .int i19_7), (6, .int (nI i7_6)), (5, .int i7_5), (4, .int i7_4), (3, .int 0), (0, .ref (g.2.1 79)), (1, .int (nI m5_0n)), (2, .int (nI n2))] → W p l e { frames := 6, cells := 0, slots := 0, locals := 140 } s m args below meth c H locs 0 0 (MQ below PQz args s 0 0 (Aw g)) (F0 m 115 ls [.int y24_s0]) := by
                    intro y24_s0 oy24_s0 hR24 H locs ls h hl
                    refine lv_istore (lv' := [(4, .int y24_s0), (8, .int (nI i19_8)), (7, .int i19_7), (6, .int (nI i7_6)), (5, .int i7_5), (3, .int 0), (0, .ref (g.2.1 79)), (1, .int (nI m5_0n)), (2, .int (nI n2))]) hx hb dX12_back_115 hl (by decide) rfl (fun ls hl => ?_)
                    refine lv_iload hx hb dX12_back_117 (lv_at hl 2 rfl) ?_
                    refine lv_iload hx hb dX12_back_119 (lv_at hl 4 rfl) ?_
                    have j131_27 : ∀ (y27_s0 : Int32), fX12_back_0b131 (fX12_back_0l42 fu7) (nI m5_0n) (nI n2) y24_s0 (nI i7_6) y27_s0 s5 = R → ∀ (H : Heap) (locs : List Loc) (ls : Array Slot), HW g s5 s H locs → lv_has ls 9 [(4, .int y24_s0), (8, .int (nI i19_8)), (7, .int i19_7), (6, .int (nI i7_6)), (5, .int i7_5), (3, .int 0), (0, .ref (g.2.1 79)), (1, .int (nI m5_0n)), (2, .int (nI n2))] → W p l e { frames := 6, cells := 0, slots := 0, locals := 140 } s m args below meth c H locs 0 0 (MQ below PQz args s 0 0 (Aw g)) (F0 m 131 ls [.int y27_s0]) := by
                      intro y27_s0 hR27 H locs ls h hl
                      refine lv_istore (lv' := [(5, .int y27_s0), (4, .int y24_s0), (8, .int (nI i19_8)), (7, .int i19_7), (6, .int (nI i7_6)), (3, .int 0), (0, .ref (g.2.1 79)), (1, .int (nI m5_0n)), (2, .int (nI n2))]) hx hb dX12_back_131 hl (by decide) rfl (fun ls hl => ?_)
                      replace hR27 := bd_to hR27 (nI_add i7_6 1)
                      refine lv_iinc (v := (nI (i7_6 + 1))) (lv' := [(6, .int (nI (i7_6 + 1))), (5, .int y27_s0), (4, .int y24_s0), (8, .int (nI i19_8)), (7, .int i19_7), (3, .int 0), (0, .ref (g.2.1 79)), (1, .int (nI m5_0n)), (2, .int (nI n2))]) hx hb dX12_back_133 hl (k := 4) rfl (nI_add i7_6 1) (by decide) rfl (fun ls hl => ?_)
                      refine lv_goto (tgt := 42) hx hb dX12_back_136 (by decide) ?_
                      exact ih7 (i7_6 + 1) y27_s0 y24_s0 (by omega) oy24_s0 hR27 (by omega) _ _ _ h (lv_sub hl [0, 1, 2, 5, 6, 7, 8] rfl)
                    refine lv_icmp_ge (tgt := 129) hx hb dX12_back_121 (by decide) (fun c25 => ?_) (fun c25 => ?_)
                    · skip
                      replace hR24 := it_t hR24 c25
                      refine lv_iload hx hb dX12_back_129 (lv_at hl 4 rfl) ?_
                      exact j131_27 i7_5 hR24 _ _ _ h (lv_sub hl [0, 1, 2, 3, 4, 5, 6, 7, 8] rfl)
                    · skip
                      replace hR24 := it_f hR24 c25
                      refine lv_iload hx hb dX12_back_124 (lv_at hl 2 rfl) ?_
                      refine lv_goto (tgt := 131) hx hb dX12_back_126 (by decide) ?_
                      exact j131_27 i19_7 hR24 _ _ _ h (lv_sub hl [0, 1, 2, 3, 4, 5, 6, 7, 8] rfl)
                  refine lv_icmp_ge (tgt := 113) hx hb dX12_back_105 (by decide) (fun c22 => ?_) (fun c22 => ?_)
                  · skip
                    replace hR19 := it_t hR19 c22
                    refine lv_iload hx hb dX12_back_113 (lv_at hl 4 rfl) ?_
                    exact j115_24 i7_4 oi7_4 hR19 _ _ _ h (lv_sub hl [0, 1, 2, 3, 4, 5, 6, 7, 8] rfl)
                  · skip
                    replace hR19 := it_f hR19 c22
                    refine lv_iload hx hb dX12_back_108 (lv_at hl 2 rfl) ?_
                    refine lv_goto (tgt := 115) hx hb dX12_back_110 (by decide) ?_
                    exact j115_24 (nI i7_6) (Or.inr ⟨i7_6, by omega, rfl⟩) hR19 _ _ _ h (lv_sub hl [0, 1, 2, 3, 4, 5, 6, 7, 8] rfl)
                · skip
                  replace hR19 := it_f hR19 c20
                  have b30 : i19_8 < 4 := y_nle (a := 4) (b := i19_8) (by omega) (by omega) c20
                  refine lv_iload hx hb dX12_back_63 (lv_at hl 1 rfl) ?_
                  refine lv_aload_n hx hb dX12_back_65 rfl (lv_at hl 6 rfl) ?_
                  refine x_getR E h (fr_mo_heapMiddle g) rfl hwX12 (by decide) (by decide +kernel) dX12_back_66 ?_
                  refine lv_iconst (v := 4) hx hb dX12_back_69 (by decide) ?_
                  refine lv_iload_n hx hb dX12_back_70 rfl (lv_at hl 7 rfl) ?_
                  refine lv_imul hx hb dX12_back_71 ?_
                  refine x_topI (v2 := nI (4 * m5_0n)) (pk_mul 4 m5_0n) ?_
                  replace hR19 := bd_to hR19 (pk_mul 4 m5_0n)
                  refine lv_iload hx hb dX12_back_72 (lv_at hl 0 rfl) ?_
                  refine lv_iadd hx hb dX12_back_74 ?_
                  refine x_topI (v2 := nI ((4 * m5_0n) + i19_8)) (nI_add (4 * m5_0n) i19_8) ?_
                  replace hR19 := bd_to hR19 (nI_add (4 * m5_0n) i19_8)
                  refine x_ldI E h (ia_mo_heapMiddle g) (i := nI ((4 * m5_0n) + i19_8)) (vp_in_nI (by omega) (by decide)) (v := s5.2.2 89 ((4 * m5_0n) + i19_8)) (congrArg (s5.2.2 89) (nI_clamp (n := (4 * m5_0n) + i19_8) (by omega))) dX12_back_75 ?_
                  replace hR19 := bd_to hR19 (congrArg (s5.2.2 89) (nI_clamp (n := (4 * m5_0n) + i19_8) (by omega)))
                  refine lv_aload_n hx hb dX12_back_76 rfl (lv_at hl 6 rfl) ?_
                  refine x_getR E h (fr_mo_voice g) rfl hwX12 (by decide) (by decide +kernel) dX12_back_77 ?_
                  refine lv_iconst (v := 4) hx hb dX12_back_80 (by decide) ?_
                  refine lv_iload hx hb dX12_back_81 (lv_at hl 2 rfl) ?_
                  refine lv_imul hx hb dX12_back_83 ?_
                  refine x_topI (v2 := nI (4 * i7_6)) (pk_mul 4 i7_6) ?_
                  replace hR19 := bd_to hR19 (pk_mul 4 i7_6)
                  refine lv_iload hx hb dX12_back_84 (lv_at hl 0 rfl) ?_
                  refine lv_iadd hx hb dX12_back_86 ?_
                  refine x_topI (v2 := nI ((4 * i7_6) + i19_8)) (nI_add (4 * i7_6) i19_8) ?_
                  replace hR19 := bd_to hR19 (nI_add (4 * i7_6) i19_8)
                  refine x_ldI E h (ia_mo_voice g) (i := nI ((4 * i7_6) + i19_8)) (vp_in_nI (by omega) (by decide)) (v := s5.2.2 91 ((4 * i7_6) + i19_8)) (congrArg (s5.2.2 91) (nI_clamp (n := (4 * i7_6) + i19_8) (by omega))) dX12_back_87 ?_
                  replace hR19 := bd_to hR19 (congrArg (s5.2.2 91) (nI_clamp (n := (4 * i7_6) + i19_8) (by omega)))
                  refine lv_isub hx hb dX12_back_88 ?_
                  refine lv_topi (fun x31 e31 => ?_)
                  replace hR19 := bd_to hR19 e31.symm
                  refine x_si E h (na := 1) (As := [.int x31]) (aX12_size_0 l g s5 hI5 x31) gX12_back_X12_size rfl ⟨rfl, rfl⟩ rfl (by decide +kernel) ⟨Nat.le_of_ble_eq_true rfl, Nat.le_of_ble_eq_true rfl⟩ hl.1 rfl (Nat.le_of_ble_eq_true rfl) dX12_back_89 ⟨Nat.le_of_ble_eq_true rfl, Nat.le_of_ble_eq_true rfl⟩ (fun r32 s32 H locs q32 h => ?_)
                  obtain ⟨x32, rfl⟩ := q32
                  replace hR19 := bd_to hR19 x32
                  refine lv_iadd hx hb dX12_back_92 ?_
                  refine lv_topi (fun x33 e33 => ?_)
                  replace hR19 := bd_to hR19 e33.symm
                  refine lv_istore (lv' := [(7, .int x33), (8, .int (nI i19_8)), (6, .int (nI i7_6)), (5, .int i7_5), (4, .int i7_4), (3, .int 0), (0, .ref (g.2.1 79)), (1, .int (nI m5_0n)), (2, .int (nI n2))]) hx hb dX12_back_93 hl (by decide) rfl (fun ls hl => ?_)
                  replace hR19 := bd_to hR19 (nI_add i19_8 1)
                  refine lv_iinc (v := (nI (i19_8 + 1))) (lv' := [(8, .int (nI (i19_8 + 1))), (7, .int x33), (6, .int (nI i7_6)), (5, .int i7_5), (4, .int i7_4), (3, .int 0), (0, .ref (g.2.1 79)), (1, .int (nI m5_0n)), (2, .int (nI n2))]) hx hb dX12_back_95 hl (k := 1) rfl (nI_add i19_8 1) (by decide) rfl (fun ls hl => ?_)
                  refine lv_goto (tgt := 57) hx hb dX12_back_98 (by decide) ?_
                  exact ih19 (i19_8 + 1) x33 (by omega) hR19 (by omega) _ _ _ h (lv_sub hl [0, 1, 2, 3, 4, 5, 6, 7, 8] rfl)
            exact loop57_19 4096 0 0 (Nat.zero_le _) hR7 (by omega) _ _ _ h (lv_sub hl [0, 1, 2, 3, 4, 5, 6, 7, 8] rfl)
      exact loop42_7 4096 0 x6 (-9) (Nat.zero_le _) (Or.inl rfl) hR (by omega) _ _ _ h (lv_sub hl [0, 1, 2, 3, 4, 5, 6] rfl)
    · skip
      refine lv_goto (tgt := 18) hx hb dX12_back_14 (by decide) ?_
      refine lv_istore_n (lv' := [(3, .int (-1)), (0, .ref (g.2.1 79)), (1, .int p1), (2, .int (nI n2))]) hx hb dX12_back_18 rfl hl (by decide) rfl (fun ls hl => ?_)
      refine lv_iload_n hx hb dX12_back_19 rfl (lv_at hl 0 rfl) ?_
      replace hR := it_f hR (by decide)
      refine lv_if_eq (tgt := 25) hx hb dX12_back_20 (by decide) (fun c => absurd c (by decide)) (fun _ => ?_)
      refine lv_iload_n hx hb dX12_back_23 rfl (lv_at hl 0 rfl) ?_
      subst hPQ
      exact x_iret E h ⟨hR0.trans hR.symm, hI5, hF5⟩ dX12_back_24
    · skip
      refine lv_goto (tgt := 18) hx hb dX12_back_14 (by decide) ?_
      replace hR : fX12_back_0b18 p1 (nI n2) (-2) s5 = R := hR
      refine lv_istore_n (lv' := [(3, .int (-2)), (0, .ref (g.2.1 79)), (1, .int p1), (2, .int (nI n2))]) hx hb dX12_back_18 rfl hl (by decide) rfl (fun ls hl => ?_)
      refine lv_iload_n hx hb dX12_back_19 rfl (lv_at hl 0 rfl) ?_
      replace hR := it_f hR (by decide)
      refine lv_if_eq (tgt := 25) hx hb dX12_back_20 (by decide) (fun c => absurd c (by decide)) (fun _ => ?_)
      refine lv_iload_n hx hb dX12_back_23 rfl (lv_at hl 0 rfl) ?_
      subst hPQ
      exact x_iret E h ⟨hR0.trans hR.symm, hI5, hF5⟩ dX12_back_24
  · skip
    replace hR := it_t hR (by decide)
    refine lv_if_eq (tgt := 17) hx hb dX12_back_6 (by decide) (fun _ => ?_) (fun c => absurd (by decide) c)
    refine lv_iconst (v := (-1)) hx hb dX12_back_17 (by decide) ?_
    replace hR : fX12_back_0b18 p1 p2 (-1) σ = R := hR
    refine lv_istore_n (lv' := [(3, .int (-1)), (0, .ref (g.2.1 79)), (1, .int p1), (2, .int p2)]) hx hb dX12_back_18 rfl hl (by decide) rfl (fun ls hl => ?_)
    refine lv_iload_n hx hb dX12_back_19 rfl (lv_at hl 0 rfl) ?_
    replace hR := it_f hR (by decide)
    refine lv_if_eq (tgt := 25) hx hb dX12_back_20 (by decide) (fun c => absurd c (by decide)) (fun _ => ?_)
    refine lv_iload_n hx hb dX12_back_23 rfl (lv_at hl 0 rfl) ?_
    subst hPQ
    exact x_iret E h ⟨hR0.trans hR.symm, hI, hF⟩ dX12_back_24
set_option maxHeartbeats 4000000 in
set_option maxRecDepth 100000 in
theorem aX12_bitsIn_0 (l : Launch) (g : CX) (σ : ST) (hI : INV σ) (p0 : Int32) : XM l g yX12_bitsIn wsX12_bitsIn { frames := 0, cells := 0, slots := 0, locals := 0 } [.int p0] σ (XQi g (fun r σ' => fX12_bitsIn_0 p0 σ = r ∧ σ = σ')) := by
  refine x_met (own := RX12) (cc := cX12_bitsIn) (maxL := 3) (ret := (some .int)) (lv := [(0, .int p0)]) (by decide) rfl rfl (Nat.le_of_ble_eq_true rfl) rfl ?_
  intro p e s m args below meth c ls E h hl
  have hx := E.1
  have hb := E.2.1
  have hown := E.2.2.2.1
  have hts := E.2.2.2.2.1
  obtain ⟨R, hR0⟩ : ∃ R, fX12_bitsIn_0 p0 σ = R := ⟨_, rfl⟩
  have hR : fX12_bitsIn_0b0 p0 σ = R := hR0
  generalize hPQ : XQi g (fun r σ' => fX12_bitsIn_0 p0 σ = r ∧ σ = σ') = PQz
  refine lv_iconst (v := 0) hx hb dX12_bitsIn_0 (by decide) ?_
  refine lv_istore_n (lv' := [(1, .int 0), (0, .int p0)]) hx hb dX12_bitsIn_1 rfl hl (by decide) rfl (fun ls hl => ?_)
  refine lv_iconst (v := 0) hx hb dX12_bitsIn_2 (by decide) ?_
  refine lv_istore_n (lv' := [(2, .int 0), (1, .int 0), (0, .int p0)]) hx hb dX12_bitsIn_3 rfl hl (by decide) rfl (fun ls hl => ?_)
  have loop4_1 : ∀ (fu : Nat) (i1_2 : Nat) (i1_1 : Int32), i1_2 ≤ 9 → fX12_bitsIn_0l4 fu p0 i1_1 (nI i1_2) σ = R → 9 - i1_2 < fu → ∀ (H : Heap) (locs : List Loc) (ls : Array Slot), HW g σ s H locs → lv_has ls 3 [(2, .int (nI i1_2)), (1, .int i1_1), (0, .int p0)] → W p l e { frames := 0, cells := 0, slots := 0, locals := 0 } s m args below meth c H locs 0 0 (MQ below PQz args s 0 0 (Aw g)) (F0 m 4 ls []) := by
    intro fu1
    induction fu1 with
    | zero => intro i1_2 i1_1 bi1_2 hR1 hm; exact absurd hm (Nat.not_lt_zero _)
    | succ fu1 ih =>
      have ih1 := ih
      clear ih
      intro i1_2 i1_1 bi1_2 hR1 hm1 H locs ls h hl
      replace hR1 : fX12_bitsIn_0b4 (fX12_bitsIn_0l4 fu1) p0 i1_1 (nI i1_2) σ = R := hR1
      refine lv_iload_n hx hb dX12_bitsIn_4 rfl (lv_at hl 0 rfl) ?_
      refine lv_bipush (v := 9) hx hb dX12_bitsIn_5 (by decide) ?_
      refine lv_icmp_ge (tgt := 24) hx hb dX12_bitsIn_7 (by decide) (fun c2 => ?_) (fun c2 => ?_)
      · skip
        replace hR1 := it_t hR1 c2
        have b3 : 9 ≤ i1_2 := y_le (a := 9) (b := i1_2) (by omega) (by omega) c2
        refine lv_iload_n hx hb dX12_bitsIn_24 rfl (lv_at hl 1 rfl) ?_
        subst hPQ
        exact x_iret E h ⟨hR0.trans hR1.symm, rfl⟩ dX12_bitsIn_25
      · skip
        replace hR1 := it_f hR1 c2
        have b4 : i1_2 < 9 := y_nle (a := 9) (b := i1_2) (by omega) (by omega) c2
        refine lv_iload_n hx hb dX12_bitsIn_10 rfl (lv_at hl 1 rfl) ?_
        refine lv_iload_n hx hb dX12_bitsIn_11 rfl (lv_at hl 2 rfl) ?_
        refine lv_iload_n hx hb dX12_bitsIn_12 rfl (lv_at hl 0 rfl) ?_
        refine lv_ishr hx hb dX12_bitsIn_13 ?_
        refine lv_topi (fun x5 e5 => ?_)
        replace hR1 := bd_to hR1 e5.symm
        refine lv_iconst (v := 1) hx hb dX12_bitsIn_14 (by decide) ?_
        refine lv_iand hx hb dX12_bitsIn_15 ?_
        obtain ⟨n6, b6, e6⟩ := pk_andE x5 (m := 1) 1 (by decide)
        refine x_topI (v2 := nI n6) e6 ?_
        replace hR1 := bd_to hR1 e6
        refine lv_iadd hx hb dX12_bitsIn_16 ?_
        refine lv_topi (fun x7 e7 => ?_)
        replace hR1 := bd_to hR1 e7.symm
        refine lv_istore_n (lv' := [(1, .int x7), (2, .int (nI i1_2)), (0, .int p0)]) hx hb dX12_bitsIn_17 rfl hl (by decide) rfl (fun ls hl => ?_)
        replace hR1 := bd_to hR1 (nI_add i1_2 1)
        refine lv_iinc (v := (nI (i1_2 + 1))) (lv' := [(2, .int (nI (i1_2 + 1))), (1, .int x7), (0, .int p0)]) hx hb dX12_bitsIn_18 hl (k := 1) rfl (nI_add i1_2 1) (by decide) rfl (fun ls hl => ?_)
        refine lv_goto (tgt := 4) hx hb dX12_bitsIn_21 (by decide) ?_
        exact ih1 (i1_2 + 1) x7 (by omega) hR1 (by omega) _ _ _ h (lv_sub hl [0, 1, 2] rfl)
  exact loop4_1 4096 0 0 (Nat.zero_le _) hR (by omega) _ _ _ h (lv_sub hl [0, 1, 2] rfl)
set_option maxHeartbeats 4000000 in
set_option maxRecDepth 100000 in
theorem aX12_offsOf_0 (l : Launch) (g : CX) (σ : ST) (hI : INV σ) (p1 : Int32) (p2 : Nat) (hh0 : p2 < 6) : XM l g yX12_offsOf wsX12_offsOf { frames := 1, cells := 0, slots := 0, locals := 20 } [.ref (g.2.1 79), .int p1, .int (nI p2)] σ (XQi g (fun r σ' => fX12_offsOf_0 p1 (nI p2) σ = r ∧ σ = σ')) := by
  refine x_met (own := RX12) (cc := cX12_offsOf) (maxL := 6) (ret := (some .int)) (lv := [(0, .ref (g.2.1 79)), (1, .int p1), (2, .int (nI p2))]) (by decide) rfl rfl (Nat.le_of_ble_eq_true rfl) rfl ?_
  intro p e s m args below meth c ls E h hl
  have hx := E.1
  have hb := E.2.1
  have hown := E.2.2.2.1
  have hts := E.2.2.2.2.1
  obtain ⟨R, hR0⟩ : ∃ R, fX12_offsOf_0 p1 (nI p2) σ = R := ⟨_, rfl⟩
  have hR : fX12_offsOf_0b0 p1 (nI p2) σ = R := hR0
  have hwX12 : ∀ w ∈ wsX120, w ∈ wsX12_offsOf := by decide +kernel
  generalize hPQ : XQi g (fun r σ' => fX12_offsOf_0 p1 (nI p2) σ = r ∧ σ = σ') = PQz
  refine lv_iconst (v := 0) hx hb dX12_offsOf_0 (by decide) ?_
  refine lv_istore_n (lv' := [(3, .int 0), (0, .ref (g.2.1 79)), (1, .int p1), (2, .int (nI p2))]) hx hb dX12_offsOf_1 rfl hl (by decide) rfl (fun ls hl => ?_)
  refine lv_iconst (v := 0) hx hb dX12_offsOf_2 (by decide) ?_
  refine lv_istore (lv' := [(4, .int 0), (3, .int 0), (0, .ref (g.2.1 79)), (1, .int p1), (2, .int (nI p2))]) hx hb dX12_offsOf_3 hl (by decide) rfl (fun ls hl => ?_)
  obtain ⟨n2, b2, e2⟩ := hI.1 35 48 rfl
  have loop5_1 : ∀ (fu : Nat) (i1_4 : Nat) (i1_3 : Int32), i1_4 ≤ n2 → fX12_offsOf_0l5 fu p1 (nI p2) i1_3 (nI i1_4) σ = R → n2 - i1_4 < fu → ∀ (H : Heap) (locs : List Loc) (ls : Array Slot), HW g σ s H locs → lv_has ls 6 [(4, .int (nI i1_4)), (3, .int i1_3), (0, .ref (g.2.1 79)), (1, .int p1), (2, .int (nI p2))] → W p l e { frames := 1, cells := 0, slots := 0, locals := 20 } s m args below meth c H locs 0 0 (MQ below PQz args s 0 0 (Aw g)) (F0 m 5 ls []) := by
    intro fu1
    induction fu1 with
    | zero => intro i1_4 i1_3 bi1_4 hR1 hm; exact absurd hm (Nat.not_lt_zero _)
    | succ fu1 ih =>
      have ih1 := ih
      clear ih
      intro i1_4 i1_3 bi1_4 hR1 hm1 H locs ls h hl
      replace hR1 : fX12_offsOf_0b5 (fX12_offsOf_0l5 fu1) p1 (nI p2) i1_3 (nI i1_4) σ = R := hR1
      refine lv_iload hx hb dX12_offsOf_5 (lv_at hl 0 rfl) ?_
      refine lv_aload_n hx hb dX12_offsOf_7 rfl (lv_at hl 2 rfl) ?_
      refine x_getI E h (fi_mo_pieces g) rfl hwX12 (by decide) (by decide +kernel) (v := nI n2) e2 dX12_offsOf_8 ?_
      replace hR1 := bd_to hR1 e2
      refine lv_icmp_ge (tgt := 75) hx hb dX12_offsOf_11 (by decide) (fun c3 => ?_) (fun c3 => ?_)
      · skip
        replace hR1 := it_t hR1 c3
        have b4 : n2 ≤ i1_4 := y_le (a := n2) (b := i1_4) (by omega) (by omega) c3
        refine lv_iload_n hx hb dX12_offsOf_75 rfl (lv_at hl 1 rfl) ?_
        subst hPQ
        exact x_iret E h ⟨hR0.trans hR1.symm, rfl⟩ dX12_offsOf_76
      · skip
        replace hR1 := it_f hR1 c3
        have b5 : i1_4 < n2 := y_nle (a := n2) (b := i1_4) (by omega) (by omega) c3
        refine lv_iconst (v := 0) hx hb dX12_offsOf_14 (by decide) ?_
        refine lv_istore (lv' := [(5, .int 0), (4, .int (nI i1_4)), (3, .int i1_3), (0, .ref (g.2.1 79)), (1, .int p1), (2, .int (nI p2))]) hx hb dX12_offsOf_15 hl (by decide) rfl (fun ls hl => ?_)
        have loop17_6 : ∀ (fu : Nat) (i6_5 : Nat) (i6_3 : Int32), i6_5 ≤ 4 → fX12_offsOf_0l17 (fX12_offsOf_0l5 fu1) fu p1 (nI p2) i6_3 (nI i1_4) (nI i6_5) σ = R → 4 - i6_5 < fu → ∀ (H : Heap) (locs : List Loc) (ls : Array Slot), HW g σ s H locs → lv_has ls 6 [(5, .int (nI i6_5)), (4, .int (nI i1_4)), (3, .int i6_3), (0, .ref (g.2.1 79)), (1, .int p1), (2, .int (nI p2))] → W p l e { frames := 1, cells := 0, slots := 0, locals := 20 } s m args below meth c H locs 0 0 (MQ below PQz args s 0 0 (Aw g)) (F0 m 17 ls []) := by
          intro fu6
          induction fu6 with
          | zero => intro i6_5 i6_3 bi6_5 hR6 hm; exact absurd hm (Nat.not_lt_zero _)
          | succ fu6 ih =>
            have ih6 := ih
            clear ih
            intro i6_5 i6_3 bi6_5 hR6 hm6 H locs ls h hl
            replace hR6 : fX12_offsOf_0b17 (fX12_offsOf_0l5 fu1) (fX12_offsOf_0l17 (fX12_offsOf_0l5 fu1) fu6) p1 (nI p2) i6_3 (nI i1_4) (nI i6_5) σ = R := hR6
            refine lv_iload hx hb dX12_offsOf_17 (lv_at hl 0 rfl) ?_
            refine lv_iconst (v := 4) hx hb dX12_offsOf_19 (by decide) ?_
            refine lv_icmp_ge (tgt := 69) hx hb dX12_offsOf_20 (by decide) (fun c7 => ?_) (fun c7 => ?_)
            · skip
              replace hR6 := it_t hR6 c7
              have b8 : 4 ≤ i6_5 := y_le (a := 4) (b := i6_5) (by omega) (by omega) c7
              replace hR6 := bd_to hR6 (nI_add i1_4 1)
              refine lv_iinc (v := (nI (i1_4 + 1))) (lv' := [(4, .int (nI (i1_4 + 1))), (5, .int (nI i6_5)), (3, .int i6_3), (0, .ref (g.2.1 79)), (1, .int p1), (2, .int (nI p2))]) hx hb dX12_offsOf_69 hl (k := 1) rfl (nI_add i1_4 1) (by decide) rfl (fun ls hl => ?_)
              refine lv_goto (tgt := 5) hx hb dX12_offsOf_72 (by decide) ?_
              exact ih1 (i1_4 + 1) i6_3 (by omega) hR6 (by omega) _ _ _ h (lv_sub hl [0, 2, 3, 4, 5] rfl)
            · skip
              replace hR6 := it_f hR6 c7
              have b9 : i6_5 < 4 := y_nle (a := 4) (b := i6_5) (by omega) (by omega) c7
              refine lv_iload_n hx hb dX12_offsOf_23 rfl (lv_at hl 4 rfl) ?_
              refine lv_iload hx hb dX12_offsOf_24 (lv_at hl 1 rfl) ?_
              refine lv_ishr hx hb dX12_offsOf_26 ?_
              refine lv_topi (fun x10 e10 => ?_)
              replace hR6 := bd_to hR6 e10.symm
              refine lv_iconst (v := 1) hx hb dX12_offsOf_27 (by decide) ?_
              refine lv_iand hx hb dX12_offsOf_28 ?_
              obtain ⟨n11, b11, e11⟩ := pk_andE x10 (m := 1) 1 (by decide)
              refine x_topI (v2 := nI n11) e11 ?_
              replace hR6 := bd_to hR6 e11
              refine lv_iconst (v := 1) hx hb dX12_offsOf_29 (by decide) ?_
              refine lv_icmp_ne (tgt := 69) hx hb dX12_offsOf_30 (by decide) (fun c12 => ?_) (fun c12 => ?_)
              · skip
                replace hR6 := it_f hR6 c12
                have b13 : ¬ n11 = 1 := y_ne (a := n11) (b := 1) (by omega) (by omega) c12
                replace hR6 := bd_to hR6 (nI_add i1_4 1)
                refine lv_iinc (v := (nI (i1_4 + 1))) (lv' := [(4, .int (nI (i1_4 + 1))), (5, .int (nI i6_5)), (3, .int i6_3), (0, .ref (g.2.1 79)), (1, .int p1), (2, .int (nI p2))]) hx hb dX12_offsOf_69 hl (k := 1) rfl (nI_add i1_4 1) (by decide) rfl (fun ls hl => ?_)
                refine lv_goto (tgt := 5) hx hb dX12_offsOf_72 (by decide) ?_
                exact ih1 (i1_4 + 1) i6_3 (by omega) hR6 (by omega) _ _ _ h (lv_sub hl [0, 2, 3, 4, 5] rfl)
              · skip
                replace hR6 := it_t hR6 c12
                have b14 : n11 = 1 := y_eq (a := n11) (b := 1) (by omega) (by omega) c12
                refine lv_iload_n hx hb dX12_offsOf_33 rfl (lv_at hl 2 rfl) ?_
                refine lv_aload_n hx hb dX12_offsOf_34 rfl (lv_at hl 3 rfl) ?_
                refine x_getR E h (fr_mo_middle g) rfl hwX12 (by decide) (by decide +kernel) dX12_offsOf_35 ?_
                refine lv_iconst (v := 4) hx hb dX12_offsOf_38 (by decide) ?_
                refine lv_iload hx hb dX12_offsOf_39 (lv_at hl 1 rfl) ?_
                refine lv_imul hx hb dX12_offsOf_41 ?_
                refine x_topI (v2 := nI (4 * i1_4)) (pk_mul 4 i1_4) ?_
                replace hR6 := bd_to hR6 (pk_mul 4 i1_4)
                refine lv_iload hx hb dX12_offsOf_42 (lv_at hl 0 rfl) ?_
                refine lv_iadd hx hb dX12_offsOf_44 ?_
                refine x_topI (v2 := nI ((4 * i1_4) + i6_5)) (nI_add (4 * i1_4) i6_5) ?_
                replace hR6 := bd_to hR6 (nI_add (4 * i1_4) i6_5)
                refine x_ldI E h (ia_mo_middle g) (i := nI ((4 * i1_4) + i6_5)) (vp_in_nI (by omega) (by decide)) (v := σ.2.2 78 ((4 * i1_4) + i6_5)) (congrArg (σ.2.2 78) (nI_clamp (n := (4 * i1_4) + i6_5) (by omega))) dX12_offsOf_45 ?_
                replace hR6 := bd_to hR6 (congrArg (σ.2.2 78) (nI_clamp (n := (4 * i1_4) + i6_5) (by omega)))
                refine lv_aload_n hx hb dX12_offsOf_46 rfl (lv_at hl 3 rfl) ?_
                refine x_getR E h (fr_mo_voice g) rfl hwX12 (by decide) (by decide +kernel) dX12_offsOf_47 ?_
                refine lv_iconst (v := 4) hx hb dX12_offsOf_50 (by decide) ?_
                refine lv_iload_n hx hb dX12_offsOf_51 rfl (lv_at hl 5 rfl) ?_
                refine lv_imul hx hb dX12_offsOf_52 ?_
                refine x_topI (v2 := nI (4 * p2)) (pk_mul 4 p2) ?_
                replace hR6 := bd_to hR6 (pk_mul 4 p2)
                refine lv_iload hx hb dX12_offsOf_53 (lv_at hl 0 rfl) ?_
                refine lv_iadd hx hb dX12_offsOf_55 ?_
                refine x_topI (v2 := nI ((4 * p2) + i6_5)) (nI_add (4 * p2) i6_5) ?_
                replace hR6 := bd_to hR6 (nI_add (4 * p2) i6_5)
                refine x_ldI E h (ia_mo_voice g) (i := nI ((4 * p2) + i6_5)) (vp_in_nI (by omega) (by decide)) (v := σ.2.2 91 ((4 * p2) + i6_5)) (congrArg (σ.2.2 91) (nI_clamp (n := (4 * p2) + i6_5) (by omega))) dX12_offsOf_56 ?_
                replace hR6 := bd_to hR6 (congrArg (σ.2.2 91) (nI_clamp (n := (4 * p2) + i6_5) (by omega)))
                refine lv_isub hx hb dX12_offsOf_57 ?_
                refine lv_topi (fun x15 e15 => ?_)
                replace hR6 := bd_to hR6 e15.symm
                refine x_si E h (na := 1) (As := [.int x15]) (aX12_size_0 l g σ hI x15) gX12_offsOf_X12_size rfl ⟨rfl, rfl⟩ rfl (by decide +kernel) ⟨Nat.le_of_ble_eq_true rfl, Nat.le_of_ble_eq_true rfl⟩ hl.1 rfl (Nat.le_of_ble_eq_true rfl) dX12_offsOf_58 ⟨Nat.le_of_ble_eq_true rfl, Nat.le_of_ble_eq_true rfl⟩ (fun r16 s16 H locs q16 h => ?_)
                obtain ⟨x16, rfl⟩ := q16
                replace hR6 := bd_to hR6 x16
                refine lv_iadd hx hb dX12_offsOf_61 ?_
                refine lv_topi (fun x17 e17 => ?_)
                replace hR6 := bd_to hR6 e17.symm
                refine lv_istore_n (lv' := [(3, .int x17), (5, .int (nI i6_5)), (4, .int (nI i1_4)), (0, .ref (g.2.1 79)), (1, .int p1), (2, .int (nI p2))]) hx hb dX12_offsOf_62 rfl hl (by decide) rfl (fun ls hl => ?_)
                replace hR6 := bd_to hR6 (nI_add i6_5 1)
                refine lv_iinc (v := (nI (i6_5 + 1))) (lv' := [(5, .int (nI (i6_5 + 1))), (3, .int x17), (4, .int (nI i1_4)), (0, .ref (g.2.1 79)), (1, .int p1), (2, .int (nI p2))]) hx hb dX12_offsOf_63 hl (k := 1) rfl (nI_add i6_5 1) (by decide) rfl (fun ls hl => ?_)
                refine lv_goto (tgt := 17) hx hb dX12_offsOf_66 (by decide) ?_
                exact ih6 (i6_5 + 1) x17 (by omega) hR6 (by omega) _ _ _ h (lv_sub hl [0, 2, 1, 3, 4, 5] rfl)
        exact loop17_6 4096 0 i1_3 (Nat.zero_le _) hR1 (by omega) _ _ _ h (lv_sub hl [0, 1, 2, 3, 4, 5] rfl)
  exact loop5_1 4096 0 0 (Nat.zero_le _) hR (by omega) _ _ _ h (lv_sub hl [0, 1, 2, 3, 4] rfl)
set_option maxHeartbeats 4000000 in
set_option maxRecDepth 100000 in
theorem aX12_odds_0 (l : Launch) (g : CX) (σ : ST) (hI : INV σ) (p1 : Int32) (p2 : Int32) (p3 : Int32) : XM l g yX12_odds wsX12_odds { frames := 6, cells := 0, slots := 0, locals := 140 } [.ref (g.2.1 79), .int p1, .int p2, .int p3] σ (XQi g (fun r σ' => fX12_odds_0 p1 p2 p3 σ = (r, σ') ∧ INV σ' ∧ Fr [(35, 39)] [(75, 86), (88, 89)] σ σ')) := by
  refine x_met (own := RX12) (cc := cX12_odds) (maxL := 9) (ret := (some .int)) (lv := [(0, .ref (g.2.1 79)), (1, .int p1), (2, .int p2), (3, .int p3)]) (by decide) rfl rfl (Nat.le_of_ble_eq_true rfl) rfl ?_
  intro p e s m args below meth c ls E h hl
  have hx := E.1
  have hb := E.2.1
  have hown := E.2.2.2.1
  have hts := E.2.2.2.2.1
  have hF : Fr [(35, 39)] [(75, 86), (88, 89)] σ σ := Fr.refl σ
  obtain ⟨R, hR0⟩ : ∃ R, fX12_odds_0 p1 p2 p3 σ = R := ⟨_, rfl⟩
  have hR : fX12_odds_0b0 p1 p2 p3 σ = R := hR0
  have hwX12 : ∀ w ∈ wsX120, w ∈ wsX12_odds := by decide +kernel
  generalize hPQ : XQi g (fun r σ' => fX12_odds_0 p1 p2 p3 σ = (r, σ') ∧ INV σ' ∧ Fr [(35, 39)] [(75, 86), (88, 89)] σ σ') = PQz
  refine lv_iload_n hx hb dX12_odds_0 rfl (lv_at hl 2 rfl) ?_
  refine lv_iconst (v := 0) hx hb dX12_odds_1 (by decide) ?_
  refine lv_aload_n hx hb dX12_odds_2 rfl (lv_at hl 0 rfl) ?_
  obtain ⟨n1, b1, e1⟩ := hI.1 40 6 rfl
  refine x_getI E h (fi_mo_kept g) rfl hwX12 (by decide) (by decide +kernel) (v := nI n1) e1 dX12_odds_3 ?_
  replace hR := bd_to hR e1
  refine lv_iconst (v := 1) hx hb dX12_odds_6 (by decide) ?_
  refine lv_isub hx hb dX12_odds_7 ?_
  replace hR := bd_to hR rfl
  refine x_si E h (na := 3) (As := [.int p2, .int 0, .int (nI n1 - 1)]) (aX12_in_0 l g σ hI p2 0 (nI n1 - 1)) gX12_odds_X12_in rfl ⟨rfl, rfl⟩ rfl (by decide +kernel) ⟨Nat.le_of_ble_eq_true rfl, Nat.le_of_ble_eq_true rfl⟩ hl.1 rfl (Nat.le_of_ble_eq_true rfl) dX12_odds_8 ⟨Nat.le_of_ble_eq_true rfl, Nat.le_of_ble_eq_true rfl⟩ (fun r2 s2 H locs q2 h => ?_)
  obtain ⟨x2, d2, rfl⟩ := q2
  replace hR := bd_to hR x2
  rcases d2 with ⟨rfl, u2_0_0, u2_0_1⟩ | ⟨rfl, u2_1_0⟩
  · skip
    obtain ⟨n3, b3, rfl⟩ := y_rnltM (N := n1) (y_lo1 u2_0_0 (by decide)) u2_0_1 (by omega)
    have b4 : 0 ≤ n3 := y_nlt (a := n3) (b := 0) (by omega) (by omega) u2_0_0
    replace hR := it_f hR (by decide)
    refine lv_if_eq (tgt := 31) hx hb dX12_odds_11 (by decide) (fun c => absurd c (by decide)) (fun _ => ?_)
    refine lv_iload_n hx hb dX12_odds_14 rfl (lv_at hl 3 rfl) ?_
    refine lv_iconst (v := 0) hx hb dX12_odds_15 (by decide) ?_
    refine lv_iconst (v := 1) hx hb dX12_odds_16 (by decide) ?_
    refine x_si E h (na := 3) (As := [.int p3, .int 0, .int 1]) (aX12_in_0 l g σ hI p3 0 1) gX12_odds_X12_in rfl ⟨rfl, rfl⟩ rfl (by decide +kernel) ⟨Nat.le_of_ble_eq_true rfl, Nat.le_of_ble_eq_true rfl⟩ hl.1 rfl (Nat.le_of_ble_eq_true rfl) dX12_odds_17 ⟨Nat.le_of_ble_eq_true rfl, Nat.le_of_ble_eq_true rfl⟩ (fun r5 s5 H locs q5 h => ?_)
    obtain ⟨x5, d5, rfl⟩ := q5
    replace hR := bd_to hR x5
    rcases d5 with ⟨rfl, u5_0_0, u5_0_1⟩ | ⟨rfl, u5_1_0⟩
    · skip
      obtain ⟨n6, b6, rfl⟩ := y_rnlt (N := 1) (y_lo1 u5_0_0 (by decide)) u5_0_1 (by omega)
      have b7 : 0 ≤ n6 := y_nlt (a := n6) (b := 0) (by omega) (by omega) u5_0_0
      have b8 : n6 ≤ 1 := y_nlt (a := 1) (b := n6) (by omega) (by omega) u5_0_1
      replace hR := it_f hR (by decide)
      refine lv_if_eq (tgt := 31) hx hb dX12_odds_20 (by decide) (fun c => absurd c (by decide)) (fun _ => ?_)
      refine lv_aload_n hx hb dX12_odds_23 rfl (lv_at hl 0 rfl) ?_
      refine lv_iload_n hx hb dX12_odds_24 rfl (lv_at hl 1 rfl) ?_
      refine x_vi E h (na := 1) (As := [.int p1]) (aX12_wrong_0 l g σ hI p1) (oc_mo g) rfl gX12_odds_X12_wrong rfl ⟨rfl, rfl⟩ rfl (by decide +kernel) ⟨Nat.le_of_ble_eq_true rfl, Nat.le_of_ble_eq_true rfl⟩ hl.1 rfl (Nat.le_of_ble_eq_true rfl) dX12_odds_25 ⟨Nat.le_of_ble_eq_true rfl, Nat.le_of_ble_eq_true rfl⟩ (fun r9 s9 H locs q9 h => ?_)
      obtain ⟨x9, d9, hI9, f9⟩ := q9
      replace hR := bp_to hR x9
      have hF9 := hF.call f9 (I := [(35, 39)]) (J := [(75, 86), (88, 89)]) rfl rfl
      have e10 : s9.1 40 = nI n1 := ((f9.1 40 rfl)).trans e1
      rcases d9 with ⟨rfl, m9_0n, m9_0P, m9_0R, u9_0_0, u9_0_1, u9_0_2, u9_0_3, u9_0_4, rfl, u9_0_6⟩ | rfl | rfl
      · skip
        refine lv_goto (tgt := 32) hx hb dX12_odds_28 (by decide) ?_
        refine lv_istore (lv' := [(4, .int 0), (0, .ref (g.2.1 79)), (1, .int (nI m9_0n)), (2, .int (nI n3)), (3, .int (nI n6))]) hx hb dX12_odds_32 hl (by decide) rfl (fun ls hl => ?_)
        refine lv_iload hx hb dX12_odds_34 (lv_at hl 0 rfl) ?_
        replace hR := it_t hR (by decide)
        refine lv_if_eq (tgt := 42) hx hb dX12_odds_36 (by decide) (fun _ => ?_) (fun c => absurd (by decide) c)
        refine lv_iconst (v := 0) hx hb dX12_odds_42 (by decide) ?_
        refine lv_istore (lv' := [(5, .int 0), (4, .int 0), (0, .ref (g.2.1 79)), (1, .int (nI m9_0n)), (2, .int (nI n3)), (3, .int (nI n6))]) hx hb dX12_odds_43 hl (by decide) rfl (fun ls hl => ?_)
        refine lv_iconst (v := 0) hx hb dX12_odds_45 (by decide) ?_
        refine lv_istore (lv' := [(6, .int 0), (5, .int 0), (4, .int 0), (0, .ref (g.2.1 79)), (1, .int (nI m9_0n)), (2, .int (nI n3)), (3, .int (nI n6))]) hx hb dX12_odds_46 hl (by decide) rfl (fun ls hl => ?_)
        have loop48_11 : ∀ (fu : Nat) (i11_6 : Nat) (i11_5 : Int32), i11_6 ≤ m9_0P → fX12_odds_0l48 fu (nI m9_0n) (nI n3) (nI n6) i11_5 (nI i11_6) s9 = R → m9_0P - i11_6 < fu → ∀ (H : Heap) (locs : List Loc) (ls : Array Slot), HW g s9 s H locs → lv_has ls 9 [(6, .int (nI i11_6)), (5, .int i11_5), (4, .int 0), (0, .ref (g.2.1 79)), (1, .int (nI m9_0n)), (2, .int (nI n3)), (3, .int (nI n6))] → W p l e { frames := 6, cells := 0, slots := 0, locals := 140 } s m args below meth c H locs 0 0 (MQ below PQz args s 0 0 (Aw g)) (F0 m 48 ls []) := by
          intro fu11
          induction fu11 with
          | zero => intro i11_6 i11_5 bi11_6 hR11 hm; exact absurd hm (Nat.not_lt_zero _)
          | succ fu11 ih =>
            have ih11 := ih
            clear ih
            intro i11_6 i11_5 bi11_6 hR11 hm11 H locs ls h hl
            replace hR11 : fX12_odds_0b48 (fX12_odds_0l48 fu11) (nI m9_0n) (nI n3) (nI n6) i11_5 (nI i11_6) s9 = R := hR11
            refine lv_iload hx hb dX12_odds_48 (lv_at hl 0 rfl) ?_
            refine lv_aload_n hx hb dX12_odds_50 rfl (lv_at hl 3 rfl) ?_
            refine x_getI E h (fi_mo_pieces g) rfl hwX12 (by decide) (by decide +kernel) (v := nI m9_0P) u9_0_0 dX12_odds_51 ?_
            replace hR11 := bd_to hR11 u9_0_0
            refine lv_icmp_ge (tgt := 87) hx hb dX12_odds_54 (by decide) (fun c12 => ?_) (fun c12 => ?_)
            · skip
              replace hR11 := it_t hR11 c12
              have b13 : m9_0P ≤ i11_6 := y_le (a := m9_0P) (b := i11_6) (by omega) (by omega) c12
              refine lv_iconst (v := 0) hx hb dX12_odds_87 (by decide) ?_
              refine lv_istore (lv' := [(6, .int 0), (5, .int i11_5), (4, .int 0), (0, .ref (g.2.1 79)), (1, .int (nI m9_0n)), (2, .int (nI n3)), (3, .int (nI n6))]) hx hb dX12_odds_88 hl (by decide) rfl (fun ls hl => ?_)
              refine lv_iconst (v := 0) hx hb dX12_odds_90 (by decide) ?_
              refine lv_istore (lv' := [(7, .int 0), (6, .int 0), (5, .int i11_5), (4, .int 0), (0, .ref (g.2.1 79)), (1, .int (nI m9_0n)), (2, .int (nI n3)), (3, .int (nI n6))]) hx hb dX12_odds_91 hl (by decide) rfl (fun ls hl => ?_)
              refine lv_iconst (v := 0) hx hb dX12_odds_93 (by decide) ?_
              refine lv_istore (lv' := [(8, .int 0), (7, .int 0), (6, .int 0), (5, .int i11_5), (4, .int 0), (0, .ref (g.2.1 79)), (1, .int (nI m9_0n)), (2, .int (nI n3)), (3, .int (nI n6))]) hx hb dX12_odds_94 hl (by decide) rfl (fun ls hl => ?_)
              have loop96_14 : ∀ (fu : Nat) (i14_8 : Nat) (i14_7 : Int32) (i14_6 : Int32), i14_8 ≤ 2 ^ m9_0P → fX12_odds_0l96 fu (nI n3) (nI n6) i11_5 i14_6 i14_7 (nI i14_8) s9 = R → 2 ^ m9_0P - i14_8 < fu → ∀ (H : Heap) (locs : List Loc) (ls : Array Slot), HW g s9 s H locs → lv_has ls 9 [(8, .int (nI i14_8)), (7, .int i14_7), (6, .int i14_6), (5, .int i11_5), (4, .int 0), (0, .ref (g.2.1 79)), (1, .int (nI m9_0n)), (2, .int (nI n3)), (3, .int (nI n6))] → W p l e { frames := 6, cells := 0, slots := 0, locals := 140 } s m args below meth c H locs 0 0 (MQ below PQz args s 0 0 (Aw g)) (F0 m 96 ls []) := by
                intro fu14
                induction fu14 with
                | zero => intro i14_8 i14_7 i14_6 bi14_8 hR14 hm; exact absurd hm (Nat.not_lt_zero _)
                | succ fu14 ih =>
                  have ih14 := ih
                  clear ih
                  intro i14_8 i14_7 i14_6 bi14_8 hR14 hm14 H locs ls h hl
                  replace hR14 : fX12_odds_0b96 (fX12_odds_0l96 fu14) (nI n3) (nI n6) i11_5 i14_6 i14_7 (nI i14_8) s9 = R := hR14
                  refine lv_iload hx hb dX12_odds_96 (lv_at hl 0 rfl) ?_
                  refine lv_iconst (v := 1) hx hb dX12_odds_98 (by decide) ?_
                  refine lv_aload_n hx hb dX12_odds_99 rfl (lv_at hl 5 rfl) ?_
                  refine x_getI E h (fi_mo_pieces g) rfl hwX12 (by decide) (by decide +kernel) (v := nI m9_0P) u9_0_0 dX12_odds_100 ?_
                  replace hR14 := bd_to hR14 u9_0_0
                  refine lv_ishl hx hb dX12_odds_103 ?_
                  refine x_topI (v2 := nI (2 ^ m9_0P)) (y_shl1 (p := m9_0P) (by omega)) ?_
                  replace hR14 := bd_to hR14 (y_shl1 (p := m9_0P) (by omega))
                  have b15 := y_pow (p := m9_0P) (by omega)
                  refine lv_icmp_ge (tgt := 156) hx hb dX12_odds_104 (by decide) (fun c16 => ?_) (fun c16 => ?_)
                  · skip
                    replace hR14 := it_t hR14 c16
                    have b17 : (2 ^ m9_0P) ≤ i14_8 := y_le (a := (2 ^ m9_0P)) (b := i14_8) (by omega) (by omega) c16
                    refine lv_iload_n hx hb dX12_odds_156 rfl (lv_at hl 8 rfl) ?_
                    refine lv_if_ne (tgt := 165) hx hb dX12_odds_157 (by decide) (fun c18 => ?_) (fun c18 => ?_)
                    · skip
                      replace hR14 := it_f hR14 c18
                      have b19 : ¬ n6 = 0 := y_ne (a := n6) (b := 0) (by omega) (by omega) c18
                      refine lv_iload hx hb dX12_odds_165 (lv_at hl 2 rfl) ?_
                      replace hR14 : fX12_odds_0b167 i14_6 s9 = R := hR14
                      subst hPQ
                      exact x_iret E h ⟨hR0.trans hR14.symm, hI9, hF9⟩ dX12_odds_167
                    · skip
                      replace hR14 := it_t hR14 c18
                      have b20 : n6 = 0 := y_eq (a := n6) (b := 0) (by omega) (by omega) c18
                      refine lv_iload hx hb dX12_odds_160 (lv_at hl 1 rfl) ?_
                      refine lv_goto (tgt := 167) hx hb dX12_odds_162 (by decide) ?_
                      replace hR14 : fX12_odds_0b167 i14_7 s9 = R := hR14
                      subst hPQ
                      exact x_iret E h ⟨hR0.trans hR14.symm, hI9, hF9⟩ dX12_odds_167
                  · skip
                    replace hR14 := it_f hR14 c16
                    have b21 : i14_8 < (2 ^ m9_0P) := y_nle (a := (2 ^ m9_0P)) (b := i14_8) (by omega) (by omega) c16
                    refine lv_iload hx hb dX12_odds_107 (lv_at hl 0 rfl) ?_
                    refine x_si E h (na := 1) (As := [.int (nI i14_8)]) (aX12_bitsIn_0 l g s9 hI9 (nI i14_8)) gX12_odds_X12_bitsIn rfl ⟨rfl, rfl⟩ rfl (by decide +kernel) ⟨Nat.le_of_ble_eq_true rfl, Nat.le_of_ble_eq_true rfl⟩ hl.1 rfl (Nat.le_of_ble_eq_true rfl) dX12_odds_109 ⟨Nat.le_of_ble_eq_true rfl, Nat.le_of_ble_eq_true rfl⟩ (fun r22 s22 H locs q22 h => ?_)
                    obtain ⟨x22, rfl⟩ := q22
                    replace hR14 := bd_to hR14 x22
                    refine lv_iload hx hb dX12_odds_112 (lv_at hl 3 rfl) ?_
                    refine x_si E h (na := 1) (As := [.int i11_5]) (aX12_bitsIn_0 l g s9 hI9 i11_5) gX12_odds_X12_bitsIn rfl ⟨rfl, rfl⟩ rfl (by decide +kernel) ⟨Nat.le_of_ble_eq_true rfl, Nat.le_of_ble_eq_true rfl⟩ hl.1 rfl (Nat.le_of_ble_eq_true rfl) dX12_odds_114 ⟨Nat.le_of_ble_eq_true rfl, Nat.le_of_ble_eq_true rfl⟩ (fun r23 s23 H locs q23 h => ?_)
                    obtain ⟨x23, rfl⟩ := q23
                    replace hR14 := bd_to hR14 x23
                    have j150_26 : ∀ (y26_l7 : Int32) (y26_l6 : Int32), fX12_odds_0b150 (fX12_odds_0l96 fu14) (nI n3) (nI n6) i11_5 y26_l6 y26_l7 (nI i14_8) s9 = R → ∀ (H : Heap) (locs : List Loc) (ls : Array Slot), HW g s9 s H locs → lv_has ls 9 [(8, .int (nI i14_8)), (7, .int y26_l7), (6, .int y26_l6), (5, .int i11_5), (4, .int 0), (0, .ref (g.2.1 79)), (1, .int (nI m9_0n)), (2, .int (nI n3)), (3, .int (nI n6))] → W p l e { frames := 6, cells := 0, slots := 0, locals := 140 } s m args below meth c H locs 0 0 (MQ below PQz args s 0 0 (Aw g)) (F0 m 150 ls []) := by
                      intro y26_l7 y26_l6 hR26 H locs ls h hl
                      replace hR26 := bd_to hR26 (nI_add i14_8 1)
                      refine lv_iinc (v := (nI (i14_8 + 1))) (lv' := [(8, .int (nI (i14_8 + 1))), (7, .int y26_l7), (6, .int y26_l6), (5, .int i11_5), (4, .int 0), (0, .ref (g.2.1 79)), (1, .int (nI m9_0n)), (2, .int (nI n3)), (3, .int (nI n6))]) hx hb dX12_odds_150 hl (k := 0) rfl (nI_add i14_8 1) (by decide) rfl (fun ls hl => ?_)
                      refine lv_goto (tgt := 96) hx hb dX12_odds_153 (by decide) ?_
                      exact ih14 (i14_8 + 1) y26_l7 y26_l6 (by omega) hR26 (by omega) _ _ _ h (lv_sub hl [0, 1, 2, 3, 4, 5, 6, 7, 8] rfl)
                    refine lv_icmp_ne (tgt := 150) hx hb dX12_odds_117 (by decide) (fun c24 => ?_) (fun c24 => ?_)
                    · skip
                      replace hR14 := it_f hR14 c24
                      exact j150_26 i14_7 i14_6 hR14 _ _ _ h (lv_sub hl [0, 1, 2, 3, 4, 5, 6, 7, 8] rfl)
                    · skip
                      replace hR14 := it_t hR14 c24
                      obtain ⟨z28, e28⟩ : ∃ y : Int32, y = i14_6 + 1 := ⟨_, rfl⟩
                      replace hR14 := bd_to hR14 e28.symm
                      refine lv_iinc (v := z28) (lv' := [(6, .int z28), (8, .int (nI i14_8)), (7, .int i14_7), (5, .int i11_5), (4, .int 0), (0, .ref (g.2.1 79)), (1, .int (nI m9_0n)), (2, .int (nI n3)), (3, .int (nI n6))]) hx hb dX12_odds_120 hl (k := 2) rfl e28.symm (by decide) rfl (fun ls hl => ?_)
                      refine lv_iload hx hb dX12_odds_123 (lv_at hl 2 rfl) ?_
                      refine lv_aload_n hx hb dX12_odds_125 rfl (lv_at hl 5 rfl) ?_
                      refine lv_iload hx hb dX12_odds_126 (lv_at hl 1 rfl) ?_
                      refine lv_iload_n hx hb dX12_odds_128 rfl (lv_at hl 7 rfl) ?_
                      refine x_vi E h (na := 2) (As := [.int (nI i14_8), .int (nI n3)]) (aX12_offsOf_0 l g s9 hI9 (nI i14_8) n3 (by omega)) (oc_mo g) rfl gX12_odds_X12_offsOf rfl ⟨rfl, rfl⟩ rfl (by decide +kernel) ⟨Nat.le_of_ble_eq_true rfl, Nat.le_of_ble_eq_true rfl⟩ hl.1 rfl (Nat.le_of_ble_eq_true rfl) dX12_odds_129 ⟨Nat.le_of_ble_eq_true rfl, Nat.le_of_ble_eq_true rfl⟩ (fun r29 s29 H locs q29 h => ?_)
                      obtain ⟨x29, rfl⟩ := q29
                      replace hR14 := bd_to hR14 x29
                      refine lv_aload_n hx hb dX12_odds_132 rfl (lv_at hl 5 rfl) ?_
                      refine lv_iload hx hb dX12_odds_133 (lv_at hl 3 rfl) ?_
                      refine lv_iload_n hx hb dX12_odds_135 rfl (lv_at hl 7 rfl) ?_
                      refine x_vi E h (na := 2) (As := [.int i11_5, .int (nI n3)]) (aX12_offsOf_0 l g s9 hI9 i11_5 n3 (by omega)) (oc_mo g) rfl gX12_odds_X12_offsOf rfl ⟨rfl, rfl⟩ rfl (by decide +kernel) ⟨Nat.le_of_ble_eq_true rfl, Nat.le_of_ble_eq_true rfl⟩ hl.1 rfl (Nat.le_of_ble_eq_true rfl) dX12_odds_136 ⟨Nat.le_of_ble_eq_true rfl, Nat.le_of_ble_eq_true rfl⟩ (fun r30 s30 H locs q30 h => ?_)
                      obtain ⟨x30, rfl⟩ := q30
                      replace hR14 := bd_to hR14 x30
                      have j147_33 : ∀ (y33_s0 : Int32), fX12_odds_0b147 (fX12_odds_0l96 fu14) (nI n3) (nI n6) i11_5 z28 (nI i14_8) y33_s0 i14_7 s9 = R → ∀ (H : Heap) (locs : List Loc) (ls : Array Slot), HW g s9 s H locs → lv_has ls 9 [(6, .int z28), (8, .int (nI i14_8)), (7, .int i14_7), (5, .int i11_5), (4, .int 0), (0, .ref (g.2.1 79)), (1, .int (nI m9_0n)), (2, .int (nI n3)), (3, .int (nI n6))] → W p l e { frames := 6, cells := 0, slots := 0, locals := 140 } s m args below meth c H locs 0 0 (MQ below PQz args s 0 0 (Aw g)) (F0 m 147 ls [.int y33_s0, .int i14_7]) := by
                        intro y33_s0 hR33 H locs ls h hl
                        refine lv_iadd hx hb dX12_odds_147 ?_
                        refine lv_topi (fun x34 e34 => ?_)
                        replace hR33 := bd_to hR33 e34.symm
                        refine lv_istore (lv' := [(7, .int x34), (6, .int z28), (8, .int (nI i14_8)), (5, .int i11_5), (4, .int 0), (0, .ref (g.2.1 79)), (1, .int (nI m9_0n)), (2, .int (nI n3)), (3, .int (nI n6))]) hx hb dX12_odds_148 hl (by decide) rfl (fun ls hl => ?_)
                        exact j150_26 x34 z28 hR33 _ _ _ h (lv_sub hl [2, 0, 1, 3, 4, 5, 6, 7, 8] rfl)
                      refine lv_icmp_gt (tgt := 146) hx hb dX12_odds_139 (by decide) (fun c31 => ?_) (fun c31 => ?_)
                      · skip
                        replace hR14 := it_t hR14 c31
                        refine lv_iconst (v := 0) hx hb dX12_odds_146 (by decide) ?_
                        exact j147_33 0 hR14 _ _ _ h (lv_sub hl [0, 1, 2, 3, 4, 5, 6, 7, 8] rfl)
                      · skip
                        replace hR14 := it_f hR14 c31
                        refine lv_iconst (v := 1) hx hb dX12_odds_142 (by decide) ?_
                        refine lv_goto (tgt := 147) hx hb dX12_odds_143 (by decide) ?_
                        exact j147_33 1 hR14 _ _ _ h (lv_sub hl [0, 1, 2, 3, 4, 5, 6, 7, 8] rfl)
              exact loop96_14 4096 0 0 0 (Nat.zero_le _) hR11 (by have h9 := y_pow (p := m9_0P) (by omega); omega) _ _ _ h (lv_sub hl [0, 1, 2, 3, 4, 5, 6, 7, 8] rfl)
            · skip
              replace hR11 := it_f hR11 c12
              have b36 : i11_6 < m9_0P := y_nle (a := m9_0P) (b := i11_6) (by omega) (by omega) c12
              refine lv_iload hx hb dX12_odds_57 (lv_at hl 1 rfl) ?_
              refine lv_aload_n hx hb dX12_odds_59 rfl (lv_at hl 3 rfl) ?_
              refine x_getR E h (fr_mo_best g) rfl hwX12 (by decide) (by decide +kernel) dX12_odds_60 ?_
              refine lv_iload hx hb dX12_odds_63 (lv_at hl 0 rfl) ?_
              obtain ⟨n37, b37, e37⟩ := hI9.2 86 8 rfl i11_6
              refine x_ldI E h (ia_mo_best g) (i := nI i11_6) (vp_in_nI (by omega) (by decide)) (v := nI n37) ((congrArg (s9.2.2 86) (nI_clamp (n := i11_6) (by omega))).trans e37) dX12_odds_65 ?_
              replace hR11 := bd_to hR11 ((congrArg (s9.2.2 86) (nI_clamp (n := i11_6) (by omega))).trans e37)
              refine lv_iload_n hx hb dX12_odds_66 rfl (lv_at hl 4 rfl) ?_
              have j78_40 : ∀ (y40_s0 : Int32), fX12_odds_0b78 (fX12_odds_0l48 fu11) (nI m9_0n) (nI n3) (nI n6) (nI i11_6) y40_s0 i11_5 s9 = R → ∀ (H : Heap) (locs : List Loc) (ls : Array Slot), HW g s9 s H locs → lv_has ls 9 [(6, .int (nI i11_6)), (5, .int i11_5), (4, .int 0), (0, .ref (g.2.1 79)), (1, .int (nI m9_0n)), (2, .int (nI n3)), (3, .int (nI n6))] → W p l e { frames := 6, cells := 0, slots := 0, locals := 140 } s m args below meth c H locs 0 0 (MQ below PQz args s 0 0 (Aw g)) (F0 m 78 ls [.int y40_s0, .int i11_5]) := by
                intro y40_s0 hR40 H locs ls h hl
                refine lv_ior hx hb dX12_odds_78 ?_
                refine lv_topi (fun x41 e41 => ?_)
                replace hR40 := bd_to hR40 e41.symm
                refine lv_istore (lv' := [(5, .int x41), (6, .int (nI i11_6)), (4, .int 0), (0, .ref (g.2.1 79)), (1, .int (nI m9_0n)), (2, .int (nI n3)), (3, .int (nI n6))]) hx hb dX12_odds_79 hl (by decide) rfl (fun ls hl => ?_)
                replace hR40 := bd_to hR40 (nI_add i11_6 1)
                refine lv_iinc (v := (nI (i11_6 + 1))) (lv' := [(6, .int (nI (i11_6 + 1))), (5, .int x41), (4, .int 0), (0, .ref (g.2.1 79)), (1, .int (nI m9_0n)), (2, .int (nI n3)), (3, .int (nI n6))]) hx hb dX12_odds_81 hl (k := 1) rfl (nI_add i11_6 1) (by decide) rfl (fun ls hl => ?_)
                refine lv_goto (tgt := 48) hx hb dX12_odds_84 (by decide) ?_
                exact ih11 (i11_6 + 1) x41 (by omega) hR40 (by omega) _ _ _ h (lv_sub hl [0, 1, 2, 3, 4, 5, 6] rfl)
              refine lv_icmp_ne (tgt := 77) hx hb dX12_odds_67 (by decide) (fun c38 => ?_) (fun c38 => ?_)
              · skip
                replace hR11 := it_f hR11 c38
                have b39 : ¬ n37 = m9_0n := y_ne (a := n37) (b := m9_0n) (by omega) (by omega) c38
                refine lv_iconst (v := 0) hx hb dX12_odds_77 (by decide) ?_
                exact j78_40 0 hR11 _ _ _ h (lv_sub hl [0, 1, 2, 3, 4, 5, 6] rfl)
              · skip
                replace hR11 := it_t hR11 c38
                have b42 : n37 = m9_0n := y_eq (a := n37) (b := m9_0n) (by omega) (by omega) c38
                refine lv_iconst (v := 1) hx hb dX12_odds_70 (by decide) ?_
                refine lv_iload hx hb dX12_odds_71 (lv_at hl 0 rfl) ?_
                refine lv_ishl hx hb dX12_odds_73 ?_
                refine x_topI (v2 := nI (2 ^ i11_6)) (y_shl1 (p := i11_6) (by omega)) ?_
                replace hR11 := bd_to hR11 (y_shl1 (p := i11_6) (by omega))
                have b43 := y_pow (p := i11_6) (by omega)
                refine lv_goto (tgt := 78) hx hb dX12_odds_74 (by decide) ?_
                exact j78_40 (nI (2 ^ i11_6)) hR11 _ _ _ h (lv_sub hl [0, 1, 2, 3, 4, 5, 6] rfl)
        exact loop48_11 4096 0 0 (Nat.zero_le _) hR (by omega) _ _ _ h (lv_sub hl [0, 1, 2, 3, 4, 5, 6] rfl)
      · skip
        refine lv_goto (tgt := 32) hx hb dX12_odds_28 (by decide) ?_
        refine lv_istore (lv' := [(4, .int (-1)), (0, .ref (g.2.1 79)), (1, .int p1), (2, .int (nI n3)), (3, .int (nI n6))]) hx hb dX12_odds_32 hl (by decide) rfl (fun ls hl => ?_)
        refine lv_iload hx hb dX12_odds_34 (lv_at hl 0 rfl) ?_
        replace hR := it_f hR (by decide)
        refine lv_if_eq (tgt := 42) hx hb dX12_odds_36 (by decide) (fun c => absurd c (by decide)) (fun _ => ?_)
        refine lv_iload hx hb dX12_odds_39 (lv_at hl 0 rfl) ?_
        subst hPQ
        exact x_iret E h ⟨hR0.trans hR.symm, hI9, hF9⟩ dX12_odds_41
      · skip
        refine lv_goto (tgt := 32) hx hb dX12_odds_28 (by decide) ?_
        replace hR : fX12_odds_0b32 p1 (nI n3) (nI n6) (-2) s9 = R := hR
        refine lv_istore (lv' := [(4, .int (-2)), (0, .ref (g.2.1 79)), (1, .int p1), (2, .int (nI n3)), (3, .int (nI n6))]) hx hb dX12_odds_32 hl (by decide) rfl (fun ls hl => ?_)
        refine lv_iload hx hb dX12_odds_34 (lv_at hl 0 rfl) ?_
        replace hR := it_f hR (by decide)
        refine lv_if_eq (tgt := 42) hx hb dX12_odds_36 (by decide) (fun c => absurd c (by decide)) (fun _ => ?_)
        refine lv_iload hx hb dX12_odds_39 (lv_at hl 0 rfl) ?_
        subst hPQ
        exact x_iret E h ⟨hR0.trans hR.symm, hI9, hF9⟩ dX12_odds_41
    · skip
      replace hR := it_t hR (by decide)
      refine lv_if_eq (tgt := 31) hx hb dX12_odds_20 (by decide) (fun _ => ?_) (fun c => absurd (by decide) c)
      refine lv_iconst (v := (-1)) hx hb dX12_odds_31 (by decide) ?_
      replace hR : fX12_odds_0b32 p1 (nI n3) p3 (-1) σ = R := hR
      refine lv_istore (lv' := [(4, .int (-1)), (0, .ref (g.2.1 79)), (1, .int p1), (2, .int (nI n3)), (3, .int p3)]) hx hb dX12_odds_32 hl (by decide) rfl (fun ls hl => ?_)
      refine lv_iload hx hb dX12_odds_34 (lv_at hl 0 rfl) ?_
      replace hR := it_f hR (by decide)
      refine lv_if_eq (tgt := 42) hx hb dX12_odds_36 (by decide) (fun c => absurd c (by decide)) (fun _ => ?_)
      refine lv_iload hx hb dX12_odds_39 (lv_at hl 0 rfl) ?_
      subst hPQ
      exact x_iret E h ⟨hR0.trans hR.symm, hI, hF⟩ dX12_odds_41
  · skip
    replace hR := it_t hR (by decide)
    refine lv_if_eq (tgt := 31) hx hb dX12_odds_11 (by decide) (fun _ => ?_) (fun c => absurd (by decide) c)
    refine lv_iconst (v := (-1)) hx hb dX12_odds_31 (by decide) ?_
    replace hR : fX12_odds_0b32 p1 p2 p3 (-1) σ = R := hR
    refine lv_istore (lv' := [(4, .int (-1)), (0, .ref (g.2.1 79)), (1, .int p1), (2, .int p2), (3, .int p3)]) hx hb dX12_odds_32 hl (by decide) rfl (fun ls hl => ?_)
    refine lv_iload hx hb dX12_odds_34 (lv_at hl 0 rfl) ?_
    replace hR := it_f hR (by decide)
    refine lv_if_eq (tgt := 42) hx hb dX12_odds_36 (by decide) (fun c => absurd c (by decide)) (fun _ => ?_)
    refine lv_iload hx hb dX12_odds_39 (lv_at hl 0 rfl) ?_
    subst hPQ
    exact x_iret E h ⟨hR0.trans hR.symm, hI, hF⟩ dX12_odds_41
set_option maxHeartbeats 4000000 in
set_option maxRecDepth 100000 in
theorem aX12_heapOfRow_0 (l : Launch) (g : CX) (σ : ST) (hI : INV σ) (p1 : Nat) (F31 : Nat) (eF31 : σ.1 31 = nI F31) (F35 : Nat) (eF35 : σ.1 35 = nI F35) (hh0 : F35 ≤ 9) (hh1 : p1 < F31) (hh2 : F31 ≤ 48) (hPO : AP (σ.2.2 77) 0 F31 (PQ F35)) : XM l g yX12_heapOfRow wsX12_heapOfRow { frames := 0, cells := 0, slots := 0, locals := 0 } [.ref (g.2.1 79), .int (nI p1)] σ (XQi g (fun r σ' => fX12_heapOfRow_0 (nI p1) σ = r ∧ (((-9) = r ∧ (σ.2.2 77 p1) = (-9)) ∨ (∃ n : Nat, n < 9 ∧ r = nI n)) ∧ σ = σ')) := by
  refine x_met (own := RX12) (cc := cX12_heapOfRow) (maxL := 2) (ret := (some .int)) (lv := [(0, .ref (g.2.1 79)), (1, .int (nI p1))]) (by decide) rfl rfl (Nat.le_of_ble_eq_true rfl) rfl ?_
  intro p e s m args below meth c ls E h hl
  have hx := E.1
  have hb := E.2.1
  have hown := E.2.2.2.1
  have hts := E.2.2.2.2.1
  obtain ⟨R, hR0⟩ : ∃ R, fX12_heapOfRow_0 (nI p1) σ = R := ⟨_, rfl⟩
  have hR : fX12_heapOfRow_0b0 (nI p1) σ = R := hR0
  have hwX12 : ∀ w ∈ wsX120, w ∈ wsX12_heapOfRow := by decide +kernel
  generalize hPQ : XQi g (fun r σ' => fX12_heapOfRow_0 (nI p1) σ = r ∧ (((-9) = r ∧ (σ.2.2 77 p1) = (-9)) ∨ (∃ n : Nat, n < 9 ∧ r = nI n)) ∧ σ = σ') = PQz
  refine lv_aload_n hx hb dX12_heapOfRow_0 rfl (lv_at hl 0 rfl) ?_
  refine x_getR E h (fr_mo_pieceOf g) rfl hwX12 (by decide) (by decide +kernel) dX12_heapOfRow_1 ?_
  refine lv_iload_n hx hb dX12_heapOfRow_4 rfl (lv_at hl 1 rfl) ?_
  refine x_ldI E h (ia_mo_pieceOf g) (i := nI p1) (vp_in_nI (by omega) (by decide)) (v := σ.2.2 77 p1) (congrArg (σ.2.2 77) (nI_clamp (n := p1) (by omega))) dX12_heapOfRow_5 ?_
  replace hR := bd_to hR (congrArg (σ.2.2 77) (nI_clamp (n := p1) (by omega)))
  refine lv_bipush (v := (-9)) hx hb dX12_heapOfRow_6 (by decide) ?_
  refine lv_icmp_ne (tgt := 16) hx hb dX12_heapOfRow_8 (by decide) (fun c1 => ?_) (fun c1 => ?_)
  · skip
    replace hR := it_f hR c1
    refine lv_aload_n hx hb dX12_heapOfRow_16 rfl (lv_at hl 0 rfl) ?_
    refine x_getR E h (fr_mo_best g) rfl hwX12 (by decide) (by decide +kernel) dX12_heapOfRow_17 ?_
    refine lv_aload_n hx hb dX12_heapOfRow_20 rfl (lv_at hl 0 rfl) ?_
    refine x_getR E h (fr_mo_pieceOf g) rfl hwX12 (by decide) (by decide +kernel) dX12_heapOfRow_21 ?_
    refine lv_iload_n hx hb dX12_heapOfRow_24 rfl (lv_at hl 1 rfl) ?_
    obtain ⟨n3, b3, e3⟩ := PQ.ne (hPO p1 (Nat.zero_le _) (by omega)) c1
    refine x_ldI E h (ia_mo_pieceOf g) (i := nI p1) (vp_in_nI (by omega) (by decide)) (v := nI n3) ((congrArg (σ.2.2 77) (nI_clamp (n := p1) (by omega))).trans e3) dX12_heapOfRow_25 ?_
    replace hR := bd_to hR ((congrArg (σ.2.2 77) (nI_clamp (n := p1) (by omega))).trans e3)
    obtain ⟨n4, b4, e4⟩ := hI.2 86 8 rfl n3
    refine x_ldI E h (ia_mo_best g) (i := nI n3) (vp_in_nI (by omega) (by decide)) (v := nI n4) ((congrArg (σ.2.2 86) (nI_clamp (n := n3) (by omega))).trans e4) dX12_heapOfRow_26 ?_
    replace hR := bd_to hR ((congrArg (σ.2.2 86) (nI_clamp (n := n3) (by omega))).trans e4)
    subst hPQ
    exact x_iret E h ⟨hR0.trans hR.symm, (Or.inr (⟨n4, (by omega), rfl⟩)), rfl⟩ dX12_heapOfRow_27
  · skip
    replace hR := it_t hR c1
    refine lv_bipush (v := (-9)) hx hb dX12_heapOfRow_11 (by decide) ?_
    refine lv_goto (tgt := 27) hx hb dX12_heapOfRow_13 (by decide) ?_
    replace hR : fX12_heapOfRow_0b27 (-9) σ = R := hR
    subst hPQ
    exact x_iret E h ⟨hR0.trans hR.symm, (Or.inl ⟨rfl, c1⟩), rfl⟩ dX12_heapOfRow_27
set_option maxHeartbeats 4000000 in
set_option maxRecDepth 100000 in
theorem aX12_show_0 (l : Launch) (g : CX) (σ : ST) (hI : INV σ)  : XM l g yX12_show wsX12_show { frames := 5, cells := 0, slots := 0, locals := 119 } [.ref (g.2.1 79)] σ (XQi g (fun r σ' => fX12_show_0 σ = (r, σ') ∧ INV σ' ∧ Fr [(33, 39)] [(74, 86), (88, 88)] σ σ')) := by
  refine x_met (own := RX12) (cc := cX12_show) (maxL := 2) (ret := (some .int)) (lv := [(0, .ref (g.2.1 79))]) (by decide) rfl rfl (Nat.le_of_ble_eq_true rfl) rfl ?_
  intro p e s m args below meth c ls E h hl
  have hx := E.1
  have hb := E.2.1
  have hown := E.2.2.2.1
  have hts := E.2.2.2.2.1
  have hF : Fr [(33, 39)] [(74, 86), (88, 88)] σ σ := Fr.refl σ
  obtain ⟨R, hR0⟩ : ∃ R, fX12_show_0 σ = R := ⟨_, rfl⟩
  have hR : fX12_show_0b0 σ = R := hR0
  have hwX12 : ∀ w ∈ wsX120, w ∈ wsX12_show := by decide +kernel
  generalize hPQ : XQi g (fun r σ' => fX12_show_0 σ = (r, σ') ∧ INV σ' ∧ Fr [(33, 39)] [(74, 86), (88, 88)] σ σ') = PQz
  refine lv_aload_n hx hb dX12_show_0 rfl (lv_at hl 0 rfl) ?_
  refine x_vi E h (na := 0) (As := []) (aX12_findBest_0 l g σ hI) (oc_mo g) rfl gX12_show_X12_findBest rfl ⟨rfl, rfl⟩ rfl (by decide +kernel) ⟨Nat.le_of_ble_eq_true rfl, Nat.le_of_ble_eq_true rfl⟩ hl.1 rfl (Nat.le_of_ble_eq_true rfl) dX12_show_1 ⟨Nat.le_of_ble_eq_true rfl, Nat.le_of_ble_eq_true rfl⟩ (fun r1 s1 H locs q1 h => ?_)
  obtain ⟨x1, d1, hI1, f1⟩ := q1
  replace hR := bp_to hR x1
  have hF1 := hF.call f1 (I := [(33, 39)]) (J := [(74, 86), (88, 88)]) rfl rfl
  rcases d1 with ⟨rfl, m1_0P, m1_0R, u1_0_0, u1_0_1, u1_0_2, u1_0_3, u1_0_4, u1_0_5⟩ | rfl
  · skip
    replace hR := it_f hR (by decide)
    refine lv_if_ne (tgt := 10) hx hb dX12_show_4 (by decide) (fun _ => ?_) (fun c => absurd c (by decide))
    refine lv_iconst (v := 0) hx hb dX12_show_10 (by decide) ?_
    refine lv_istore_n (lv' := [(1, .int 0), (0, .ref (g.2.1 79))]) hx hb dX12_show_11 rfl hl (by decide) rfl (fun ls hl => ?_)
    have loop12_3 : ∀ (fu : Nat) (t3 : ST) (i3_1 : Nat), INV t3 → Fr [(33, 39)] [(74, 86), (88, 88)] σ t3 → t3.1 35 = nI m1_0P → t3.1 31 = nI m1_0R → i3_1 ≤ m1_0R → AP (t3.2.2 77) 0 m1_0R (PQ m1_0P) → fX12_show_0l12 fu (nI i3_1) t3 = R → m1_0R - i3_1 < fu → ∀ (H : Heap) (locs : List Loc) (ls : Array Slot), HW g t3 s H locs → lv_has ls 2 [(1, .int (nI i3_1)), (0, .ref (g.2.1 79))] → W p l e { frames := 5, cells := 0, slots := 0, locals := 119 } s m args below meth c H locs 0 0 (MQ below PQz args s 0 0 (Aw g)) (F0 m 12 ls []) := by
      intro fu3
      induction fu3 with
      | zero => intro t3 i3_1 hI_3 hF_3 e4 e5 bi3_1 po_3 hR3 hm; exact absurd hm (Nat.not_lt_zero _)
      | succ fu3 ih =>
        have ih3 := ih
        clear ih
        intro t3 i3_1 hI_3 hF_3 e4 e5 bi3_1 po_3 hR3 hm3 H locs ls h hl
        replace hR3 : fX12_show_0b12 (fX12_show_0l12 fu3) (nI i3_1) t3 = R := hR3
        refine lv_iload_n hx hb dX12_show_12 rfl (lv_at hl 0 rfl) ?_
        refine lv_aload_n hx hb dX12_show_13 rfl (lv_at hl 1 rfl) ?_
        refine x_getI E h (fi_mo_rows g) rfl hwX12 (by decide) (by decide +kernel) (v := nI m1_0R) e5 dX12_show_14 ?_
        replace hR3 := bd_to hR3 e5
        refine lv_icmp_ge (tgt := 37) hx hb dX12_show_17 (by decide) (fun c6 => ?_) (fun c6 => ?_)
        · skip
          replace hR3 := it_t hR3 c6
          have b7 : m1_0R ≤ i3_1 := y_le (a := m1_0R) (b := i3_1) (by omega) (by omega) c6
          refine lv_aload_n hx hb dX12_show_37 rfl (lv_at hl 1 rfl) ?_
          refine lv_aload_n hx hb dX12_show_38 rfl (lv_at hl 1 rfl) ?_
          refine x_getI E h (fi_mo_rows g) rfl hwX12 (by decide) (by decide +kernel) (v := nI m1_0R) e5 dX12_show_39 ?_
          replace hR3 := bd_to hR3 e5
          refine y_putI E h hI_3 hF_3 (ty := .int) (v := nI m1_0R) (fi_mo_shown g) rfl hwX12 tyX12_ok nmX12 (by decide) (by decide +kernel) (by decide +kernel) (by decide +kernel) rfl rfl (ba_none rfl) rfl dX12_show_42 (fun s8 H locs q8 hI8 hF8 h => ?_)
          replace hR3 := bd_to hR3 q8.symm
          have e9 : s8.1 35 = nI m1_0P := (congrArg (fun t : ST => t.1 35) q8).trans e4
          have e10 : s8.1 31 = nI m1_0R := (congrArg (fun t : ST => t.1 31) q8).trans e5
          have e11 : s8.1 33 = nI m1_0R := congrArg (fun t : ST => t.1 33) q8
          have a12 := AP.eq po_3 (show s8.2.2 77 = t3.2.2 77 from (congrArg (fun t : ST => t.2.2 77) q8).trans rfl)
          refine lv_aload_n hx hb dX12_show_45 rfl (lv_at hl 1 rfl) ?_
          refine lv_iconst (v := 1) hx hb dX12_show_46 (by decide) ?_
          refine y_putI E h hI8 hF8 (ty := .boolean) (v := 1) (fi_mo_isShown g) rfl hwX12 tyX12_ok nmX12 (by decide) (by decide +kernel) (by decide +kernel) (by decide +kernel) rfl rfl (ba_none rfl) rfl dX12_show_47 (fun s13 H locs q13 hI13 hF13 h => ?_)
          replace hR3 := bd_to hR3 q13.symm
          have e14 : s13.1 35 = nI m1_0P := (congrArg (fun t : ST => t.1 35) q13).trans e9
          have e15 : s13.1 31 = nI m1_0R := (congrArg (fun t : ST => t.1 31) q13).trans e10
          have e16 : s13.1 33 = nI m1_0R := (congrArg (fun t : ST => t.1 33) q13).trans e11
          have e17 : s13.1 34 = 1 := congrArg (fun t : ST => t.1 34) q13
          have a18 := AP.eq a12 (show s13.2.2 77 = s8.2.2 77 from (congrArg (fun t : ST => t.2.2 77) q13).trans rfl)
          refine lv_aload_n hx hb dX12_show_50 rfl (lv_at hl 1 rfl) ?_
          refine x_getI E h (fi_mo_rows g) rfl hwX12 (by decide) (by decide +kernel) (v := nI m1_0R) e15 dX12_show_51 ?_
          replace hR3 := bd_to hR3 e15
          subst hPQ
          exact x_iret E h ⟨hR0.trans hR3.symm, hI13, hF13⟩ dX12_show_54
        · skip
          replace hR3 := it_f hR3 c6
          have b19 : i3_1 < m1_0R := y_nle (a := m1_0R) (b := i3_1) (by omega) (by omega) c6
          refine lv_aload_n hx hb dX12_show_20 rfl (lv_at hl 1 rfl) ?_
          refine x_getR E h (fr_mo_shownHeap g) rfl hwX12 (by decide) (by decide +kernel) dX12_show_21 ?_
          refine lv_iload_n hx hb dX12_show_24 rfl (lv_at hl 0 rfl) ?_
          refine lv_aload_n hx hb dX12_show_25 rfl (lv_at hl 1 rfl) ?_
          refine lv_iload_n hx hb dX12_show_26 rfl (lv_at hl 0 rfl) ?_
          refine x_vi E h (na := 1) (As := [.int (nI i3_1)]) (aX12_heapOfRow_0 l g t3 hI_3 i3_1 m1_0R e5 m1_0P e4 (by omega) (by omega) (by omega) po_3) (oc_mo g) rfl gX12_show_X12_heapOfRow rfl ⟨rfl, rfl⟩ rfl (by decide +kernel) ⟨Nat.le_of_ble_eq_true rfl, Nat.le_of_ble_eq_true rfl⟩ hl.1 rfl (Nat.le_of_ble_eq_true rfl) dX12_show_27 ⟨Nat.le_of_ble_eq_true rfl, Nat.le_of_ble_eq_true rfl⟩ (fun r20 s20 H locs q20 h => ?_)
          obtain ⟨x20, d20, rfl⟩ := q20
          replace hR3 := bd_to hR3 x20
          rcases d20 with ⟨rfl, u20_0_0⟩ | ⟨m20_1n, u20_1_0, rfl⟩
          · skip
            refine y_stI E h hI_3 hF_3 (ia_mo_shownHeap g) (i := nI i3_1) (vp_in_nI (by omega) (by decide)) (j := i3_1) (nI_clamp (by omega)) (ba_none rfl) rfl dX12_show_30 (fun s21 H locs q21 hI21 hF21 h => ?_)
            replace hR3 := st_to hR3 (nI_clamp (n := i3_1) (by omega)) q21
            have e22 : s21.1 35 = nI m1_0P := (congrArg (fun t : ST => t.1 35) q21).trans e4
            have e23 : s21.1 31 = nI m1_0R := (congrArg (fun t : ST => t.1 31) q21).trans e5
            have a24 := AP.eq po_3 (show s21.2.2 77 = t3.2.2 77 from (congrArg (fun t : ST => t.2.2 77) q21).trans rfl)
            replace hR3 := bd_to hR3 (nI_add i3_1 1)
            refine lv_iinc (v := (nI (i3_1 + 1))) (lv' := [(1, .int (nI (i3_1 + 1))), (0, .ref (g.2.1 79))]) hx hb dX12_show_31 hl (k := 0) rfl (nI_add i3_1 1) (by decide) rfl (fun ls hl => ?_)
            refine lv_goto (tgt := 12) hx hb dX12_show_34 (by decide) ?_
            exact ih3 s21 (i3_1 + 1) hI21 hF21 e22 e23 (by omega) a24 hR3 (by omega) _ _ _ h (lv_sub hl [0, 1] rfl)
          · skip
            refine y_stI E h hI_3 hF_3 (ia_mo_shownHeap g) (i := nI i3_1) (vp_in_nI (by omega) (by decide)) (j := i3_1) (nI_clamp (by omega)) (ba_none rfl) rfl dX12_show_30 (fun s25 H locs q25 hI25 hF25 h => ?_)
            replace hR3 := st_to hR3 (nI_clamp (n := i3_1) (by omega)) q25
            have e26 : s25.1 35 = nI m1_0P := (congrArg (fun t : ST => t.1 35) q25).trans e4
            have e27 : s25.1 31 = nI m1_0R := (congrArg (fun t : ST => t.1 31) q25).trans e5
            have a28 := AP.eq po_3 (show s25.2.2 77 = t3.2.2 77 from (congrArg (fun t : ST => t.2.2 77) q25).trans rfl)
            replace hR3 := bd_to hR3 (nI_add i3_1 1)
            refine lv_iinc (v := (nI (i3_1 + 1))) (lv' := [(1, .int (nI (i3_1 + 1))), (0, .ref (g.2.1 79))]) hx hb dX12_show_31 hl (k := 0) rfl (nI_add i3_1 1) (by decide) rfl (fun ls hl => ?_)
            refine lv_goto (tgt := 12) hx hb dX12_show_34 (by decide) ?_
            exact ih3 s25 (i3_1 + 1) hI25 hF25 e26 e27 (by omega) a28 hR3 (by omega) _ _ _ h (lv_sub hl [0, 1] rfl)
    exact loop12_3 4096 s1 0 hI1 hF1 u1_0_0 u1_0_1 (Nat.zero_le _) u1_0_4 hR (by omega) _ _ _ h (lv_sub hl [0, 1] rfl)
  · skip
    replace hR := it_t hR (by decide)
    refine lv_if_ne (tgt := 10) hx hb dX12_show_4 (by decide) (fun c => absurd (by decide) c) (fun _ => ?_)
    refine lv_bipush (v := (-2)) hx hb dX12_show_7 (by decide) ?_
    subst hPQ
    exact x_iret E h ⟨hR0.trans hR.symm, hI1, hF1⟩ dX12_show_9
set_option maxHeartbeats 4000000 in
set_option maxRecDepth 100000 in
theorem aX12_otherwise_0 (l : Launch) (g : CX) (σ : ST) (hI : INV σ)  : XM l g yX12_otherwise wsX12_otherwise { frames := 5, cells := 0, slots := 0, locals := 119 } [.ref (g.2.1 79)] σ (XQi g (fun r σ' => fX12_otherwise_0 σ = (r, σ') ∧ INV σ' ∧ Fr [(35, 39)] [(75, 86), (88, 88)] σ σ')) := by
  refine x_met (own := RX12) (cc := cX12_otherwise) (maxL := 3) (ret := (some .int)) (lv := [(0, .ref (g.2.1 79))]) (by decide) rfl rfl (Nat.le_of_ble_eq_true rfl) rfl ?_
  intro p e s m args below meth c ls E h hl
  have hx := E.1
  have hb := E.2.1
  have hown := E.2.2.2.1
  have hts := E.2.2.2.2.1
  have hF : Fr [(35, 39)] [(75, 86), (88, 88)] σ σ := Fr.refl σ
  obtain ⟨R, hR0⟩ : ∃ R, fX12_otherwise_0 σ = R := ⟨_, rfl⟩
  have hR : fX12_otherwise_0b0 σ = R := hR0
  have hwX12 : ∀ w ∈ wsX120, w ∈ wsX12_otherwise := by decide +kernel
  generalize hPQ : XQi g (fun r σ' => fX12_otherwise_0 σ = (r, σ') ∧ INV σ' ∧ Fr [(35, 39)] [(75, 86), (88, 88)] σ σ') = PQz
  refine lv_aload_n hx hb dX12_otherwise_0 rfl (lv_at hl 0 rfl) ?_
  obtain ⟨x1, e1⟩ : ∃ x, σ.1 34 = x := ⟨_, rfl⟩
  refine x_getI E h (fi_mo_isShown g) rfl hwX12 (by decide) (by decide +kernel) (v := x1) e1 dX12_otherwise_1 ?_
  replace hR := bd_to hR e1
  refine lv_if_eq (tgt := 14) hx hb dX12_otherwise_4 (by decide) (fun c2 => ?_) (fun c2 => ?_)
  · skip
    replace hR := it_t hR c2
    subst c2
    refine lv_bipush (v := (-2)) hx hb dX12_otherwise_14 (by decide) ?_
    subst hPQ
    exact x_iret E h ⟨hR0.trans hR.symm, hI, hF⟩ dX12_otherwise_16
  · skip
    replace hR := it_f hR c2
    refine lv_aload_n hx hb dX12_otherwise_7 rfl (lv_at hl 0 rfl) ?_
    refine x_vi E h (na := 0) (As := []) (aX12_findBest_0 l g σ hI) (oc_mo g) rfl gX12_otherwise_X12_findBest rfl ⟨rfl, rfl⟩ rfl (by decide +kernel) ⟨Nat.le_of_ble_eq_true rfl, Nat.le_of_ble_eq_true rfl⟩ hl.1 rfl (Nat.le_of_ble_eq_true rfl) dX12_otherwise_8 ⟨Nat.le_of_ble_eq_true rfl, Nat.le_of_ble_eq_true rfl⟩ (fun r5 s5 H locs q5 h => ?_)
    obtain ⟨x5, d5, hI5, f5⟩ := q5
    replace hR := bp_to hR x5
    have hF5 := hF.call f5 (I := [(35, 39)]) (J := [(75, 86), (88, 88)]) rfl rfl
    have e6 : s5.1 34 = x1 := ((f5.1 34 rfl)).trans e1
    rcases d5 with ⟨rfl, m5_0P, m5_0R, u5_0_0, u5_0_1, u5_0_2, u5_0_3, u5_0_4, u5_0_5⟩ | rfl
    · skip
      replace hR := it_f hR (by decide)
      refine lv_if_ne (tgt := 17) hx hb dX12_otherwise_11 (by decide) (fun _ => ?_) (fun c => absurd c (by decide))
      refine lv_iconst (v := 0) hx hb dX12_otherwise_17 (by decide) ?_
      refine lv_istore_n (lv' := [(1, .int 0), (0, .ref (g.2.1 79))]) hx hb dX12_otherwise_18 rfl hl (by decide) rfl (fun ls hl => ?_)
      refine lv_iconst (v := 0) hx hb dX12_otherwise_19 (by decide) ?_
      refine lv_istore_n (lv' := [(2, .int 0), (1, .int 0), (0, .ref (g.2.1 79))]) hx hb dX12_otherwise_20 rfl hl (by decide) rfl (fun ls hl => ?_)
      have loop21_8 : ∀ (fu : Nat) (i8_2 : Nat) (i8_1 : Int32), i8_2 ≤ m5_0R → fX12_otherwise_0l21 fu i8_1 (nI i8_2) s5 = R → m5_0R - i8_2 < fu → ∀ (H : Heap) (locs : List Loc) (ls : Array Slot), HW g s5 s H locs → lv_has ls 3 [(2, .int (nI i8_2)), (1, .int i8_1), (0, .ref (g.2.1 79))] → W p l e { frames := 5, cells := 0, slots := 0, locals := 119 } s m args below meth c H locs 0 0 (MQ below PQz args s 0 0 (Aw g)) (F0 m 21 ls []) := by
        intro fu8
        induction fu8 with
        | zero => intro i8_2 i8_1 bi8_2 hR8 hm; exact absurd hm (Nat.not_lt_zero _)
        | succ fu8 ih =>
          have ih8 := ih
          clear ih
          intro i8_2 i8_1 bi8_2 hR8 hm8 H locs ls h hl
          replace hR8 : fX12_otherwise_0b21 (fX12_otherwise_0l21 fu8) i8_1 (nI i8_2) s5 = R := hR8
          refine lv_iload_n hx hb dX12_otherwise_21 rfl (lv_at hl 0 rfl) ?_
          refine lv_aload_n hx hb dX12_otherwise_22 rfl (lv_at hl 2 rfl) ?_
          obtain ⟨x9, e9⟩ : ∃ x, s5.1 33 = x := ⟨_, rfl⟩
          refine x_getI E h (fi_mo_shown g) rfl hwX12 (by decide) (by decide +kernel) (v := x9) e9 dX12_otherwise_23 ?_
          replace hR8 := bd_to hR8 e9
          refine lv_icmp_ge (tgt := 65) hx hb dX12_otherwise_26 (by decide) (fun c10 => ?_) (fun c10 => ?_)
          · skip
            replace hR8 := it_t hR8 c10
            refine lv_iload_n hx hb dX12_otherwise_65 rfl (lv_at hl 1 rfl) ?_
            subst hPQ
            exact x_iret E h ⟨hR0.trans hR8.symm, hI5, hF5⟩ dX12_otherwise_66
          · skip
            replace hR8 := it_f hR8 c10
            refine lv_iload_n hx hb dX12_otherwise_29 rfl (lv_at hl 0 rfl) ?_
            refine lv_aload_n hx hb dX12_otherwise_30 rfl (lv_at hl 2 rfl) ?_
            refine x_getI E h (fi_mo_rows g) rfl hwX12 (by decide) (by decide +kernel) (v := nI m5_0R) u5_0_1 dX12_otherwise_31 ?_
            replace hR8 := bd_to hR8 u5_0_1
            refine lv_icmp_ge (tgt := 65) hx hb dX12_otherwise_34 (by decide) (fun c13 => ?_) (fun c13 => ?_)
            · skip
              replace hR8 := it_t hR8 c13
              have b14 : m5_0R ≤ i8_2 := y_le (a := m5_0R) (b := i8_2) (by omega) (by omega) c13
              refine lv_iload_n hx hb dX12_otherwise_65 rfl (lv_at hl 1 rfl) ?_
              subst hPQ
              exact x_iret E h ⟨hR0.trans hR8.symm, hI5, hF5⟩ dX12_otherwise_66
            · skip
              replace hR8 := it_f hR8 c13
              have b15 : i8_2 < m5_0R := y_nle (a := m5_0R) (b := i8_2) (by omega) (by omega) c13
              refine lv_iload_n hx hb dX12_otherwise_37 rfl (lv_at hl 1 rfl) ?_
              refine lv_aload_n hx hb dX12_otherwise_38 rfl (lv_at hl 2 rfl) ?_
              refine x_getR E h (fr_mo_shownHeap g) rfl hwX12 (by decide) (by decide +kernel) dX12_otherwise_39 ?_
              refine lv_iload_n hx hb dX12_otherwise_42 rfl (lv_at hl 0 rfl) ?_
              refine x_ldI E h (ia_mo_shownHeap g) (i := nI i8_2) (vp_in_nI (by omega) (by decide)) (v := s5.2.2 74 i8_2) (congrArg (s5.2.2 74) (nI_clamp (n := i8_2) (by omega))) dX12_otherwise_43 ?_
              replace hR8 := bd_to hR8 (congrArg (s5.2.2 74) (nI_clamp (n := i8_2) (by omega)))
              refine lv_aload_n hx hb dX12_otherwise_44 rfl (lv_at hl 2 rfl) ?_
              refine lv_iload_n hx hb dX12_otherwise_45 rfl (lv_at hl 0 rfl) ?_
              refine x_vi E h (na := 1) (As := [.int (nI i8_2)]) (aX12_heapOfRow_0 l g s5 hI5 i8_2 m5_0R u5_0_1 m5_0P u5_0_0 (by omega) (by omega) (by omega) u5_0_4) (oc_mo g) rfl gX12_otherwise_X12_heapOfRow rfl ⟨rfl, rfl⟩ rfl (by decide +kernel) ⟨Nat.le_of_ble_eq_true rfl, Nat.le_of_ble_eq_true rfl⟩ hl.1 rfl (Nat.le_of_ble_eq_true rfl) dX12_otherwise_46 ⟨Nat.le_of_ble_eq_true rfl, Nat.le_of_ble_eq_true rfl⟩ (fun r16 s16 H locs q16 h => ?_)
              obtain ⟨x16, d16, rfl⟩ := q16
              replace hR8 := bd_to hR8 x16
              rcases d16 with ⟨rfl, u16_0_0⟩ | ⟨m16_1n, u16_1_0, rfl⟩
              · skip
                have j57_19 : ∀ (y19_s0 : Int32), fX12_otherwise_0b57 (fX12_otherwise_0l21 fu8) (nI i8_2) y19_s0 i8_1 s5 = R → ∀ (H : Heap) (locs : List Loc) (ls : Array Slot), HW g s5 s H locs → lv_has ls 3 [(2, .int (nI i8_2)), (1, .int i8_1), (0, .ref (g.2.1 79))] → W p l e { frames := 5, cells := 0, slots := 0, locals := 119 } s m args below meth c H locs 0 0 (MQ below PQz args s 0 0 (Aw g)) (F0 m 57 ls [.int y19_s0, .int i8_1]) := by
                  intro y19_s0 hR19 H locs ls h hl
                  refine lv_iadd hx hb dX12_otherwise_57 ?_
                  refine lv_topi (fun x20 e20 => ?_)
                  replace hR19 := bd_to hR19 e20.symm
                  refine lv_istore_n (lv' := [(1, .int x20), (2, .int (nI i8_2)), (0, .ref (g.2.1 79))]) hx hb dX12_otherwise_58 rfl hl (by decide) rfl (fun ls hl => ?_)
                  replace hR19 := bd_to hR19 (nI_add i8_2 1)
                  refine lv_iinc (v := (nI (i8_2 + 1))) (lv' := [(2, .int (nI (i8_2 + 1))), (1, .int x20), (0, .ref (g.2.1 79))]) hx hb dX12_otherwise_59 hl (k := 1) rfl (nI_add i8_2 1) (by decide) rfl (fun ls hl => ?_)
                  refine lv_goto (tgt := 21) hx hb dX12_otherwise_62 (by decide) ?_
                  exact ih8 (i8_2 + 1) x20 (by omega) hR19 (by omega) _ _ _ h (lv_sub hl [0, 1, 2] rfl)
                refine lv_icmp_ne (tgt := 56) hx hb dX12_otherwise_49 (by decide) (fun c17 => ?_) (fun c17 => ?_)
                · skip
                  replace hR8 := it_f hR8 c17
                  refine lv_iconst (v := 1) hx hb dX12_otherwise_56 (by decide) ?_
                  exact j57_19 1 hR8 _ _ _ h (lv_sub hl [0, 1, 2] rfl)
                · skip
                  replace hR8 := it_t hR8 c17
                  refine lv_iconst (v := 0) hx hb dX12_otherwise_52 (by decide) ?_
                  refine lv_goto (tgt := 57) hx hb dX12_otherwise_53 (by decide) ?_
                  exact j57_19 0 hR8 _ _ _ h (lv_sub hl [0, 1, 2] rfl)
              · skip
                have j57_24 : ∀ (y24_s0 : Int32), fX12_otherwise_0b57 (fX12_otherwise_0l21 fu8) (nI i8_2) y24_s0 i8_1 s5 = R → ∀ (H : Heap) (locs : List Loc) (ls : Array Slot), HW g s5 s H locs → lv_has ls 3 [(2, .int (nI i8_2)), (1, .int i8_1), (0, .ref (g.2.1 79))] → W p l e { frames := 5, cells := 0, slots := 0, locals := 119 } s m args below meth c H locs 0 0 (MQ below PQz args s 0 0 (Aw g)) (F0 m 57 ls [.int y24_s0, .int i8_1]) := by
                  intro y24_s0 hR24 H locs ls h hl
                  refine lv_iadd hx hb dX12_otherwise_57 ?_
                  refine lv_topi (fun x25 e25 => ?_)
                  replace hR24 := bd_to hR24 e25.symm
                  refine lv_istore_n (lv' := [(1, .int x25), (2, .int (nI i8_2)), (0, .ref (g.2.1 79))]) hx hb dX12_otherwise_58 rfl hl (by decide) rfl (fun ls hl => ?_)
                  replace hR24 := bd_to hR24 (nI_add i8_2 1)
                  refine lv_iinc (v := (nI (i8_2 + 1))) (lv' := [(2, .int (nI (i8_2 + 1))), (1, .int x25), (0, .ref (g.2.1 79))]) hx hb dX12_otherwise_59 hl (k := 1) rfl (nI_add i8_2 1) (by decide) rfl (fun ls hl => ?_)
                  refine lv_goto (tgt := 21) hx hb dX12_otherwise_62 (by decide) ?_
                  exact ih8 (i8_2 + 1) x25 (by omega) hR24 (by omega) _ _ _ h (lv_sub hl [0, 1, 2] rfl)
                refine lv_icmp_ne (tgt := 56) hx hb dX12_otherwise_49 (by decide) (fun c22 => ?_) (fun c22 => ?_)
                · skip
                  replace hR8 := it_f hR8 c22
                  refine lv_iconst (v := 1) hx hb dX12_otherwise_56 (by decide) ?_
                  exact j57_24 1 hR8 _ _ _ h (lv_sub hl [0, 1, 2] rfl)
                · skip
                  replace hR8 := it_t hR8 c22
                  refine lv_iconst (v := 0) hx hb dX12_otherwise_52 (by decide) ?_
                  refine lv_goto (tgt := 57) hx hb dX12_otherwise_53 (by decide) ?_
                  exact j57_24 0 hR8 _ _ _ h (lv_sub hl [0, 1, 2] rfl)
      exact loop21_8 4096 0 0 (Nat.zero_le _) hR (by omega) _ _ _ h (lv_sub hl [0, 1, 2] rfl)
    · skip
      replace hR := it_t hR (by decide)
      refine lv_if_ne (tgt := 17) hx hb dX12_otherwise_11 (by decide) (fun c => absurd (by decide) c) (fun _ => ?_)
      refine lv_bipush (v := (-2)) hx hb dX12_otherwise_14 (by decide) ?_
      subst hPQ
      exact x_iret E h ⟨hR0.trans hR.symm, hI5, hF5⟩ dX12_otherwise_16
set_option maxHeartbeats 4000000 in
set_option maxRecDepth 100000 in
theorem aX12_word_0 (l : Launch) (g : CX) (σ : ST) (hI : INV σ) (p1 : Int32) (p2 : Int32) : XM l g yX12_word wsX12_word { frames := 3, cells := 0, slots := 0, locals := 65 } [.ref (g.2.1 79), .int p1, .int p2] σ (XQi g (fun r σ' => fX12_word_0 p1 p2 σ = (r, σ') ∧ INV σ' ∧ Fr [(32, 32)] [(72, 73)] σ σ')) := by
  refine x_met (own := RX12) (cc := cX12_word) (maxL := 3) (ret := (some .int)) (lv := [(0, .ref (g.2.1 79)), (1, .int p1), (2, .int p2)]) (by decide) rfl rfl (Nat.le_of_ble_eq_true rfl) rfl ?_
  intro p e s m args below meth c ls E h hl
  have hx := E.1
  have hb := E.2.1
  have hown := E.2.2.2.1
  have hts := E.2.2.2.2.1
  have hF : Fr [(32, 32)] [(72, 73)] σ σ := Fr.refl σ
  obtain ⟨R, hR0⟩ : ∃ R, fX12_word_0 p1 p2 σ = R := ⟨_, rfl⟩
  have hR : fX12_word_0b0 p1 p2 σ = R := hR0
  have hwX12 : ∀ w ∈ wsX120, w ∈ wsX12_word := by decide +kernel
  generalize hPQ : XQi g (fun r σ' => fX12_word_0 p1 p2 σ = (r, σ') ∧ INV σ' ∧ Fr [(32, 32)] [(72, 73)] σ σ') = PQz
  refine lv_aload_n hx hb dX12_word_0 rfl (lv_at hl 0 rfl) ?_
  refine lv_iload_n hx hb dX12_word_1 rfl (lv_at hl 1 rfl) ?_
  refine lv_iload_n hx hb dX12_word_2 rfl (lv_at hl 2 rfl) ?_
  refine x_vi E h (na := 2) (As := [.int p1, .int p2]) (aX12_areRows_0 l g σ hI p1 p2) (oc_mo g) rfl gX12_word_X12_areRows rfl ⟨rfl, rfl⟩ rfl (by decide +kernel) ⟨Nat.le_of_ble_eq_true rfl, Nat.le_of_ble_eq_true rfl⟩ hl.1 rfl (Nat.le_of_ble_eq_true rfl) dX12_word_3 ⟨Nat.le_of_ble_eq_true rfl, Nat.le_of_ble_eq_true rfl⟩ (fun r1 s1 H locs q1 h => ?_)
  obtain ⟨x1, d1, rfl⟩ := q1
  replace hR := bd_to hR x1
  rcases d1 with ⟨rfl, m1_0f, m1_0t, m1_0R, u1_0_0, u1_0_1, u1_0_2, u1_0_3, rfl, rfl⟩ | rfl
  · skip
    replace hR := it_f hR (by decide)
    refine lv_if_ne (tgt := 11) hx hb dX12_word_6 (by decide) (fun _ => ?_) (fun c => absurd c (by decide))
    refine lv_aload_n hx hb dX12_word_11 rfl (lv_at hl 0 rfl) ?_
    obtain ⟨n2, b2, e2⟩ := hI.1 32 12 rfl
    refine x_getI E h (fi_mo_words g) rfl hwX12 (by decide) (by decide +kernel) (v := nI n2) e2 dX12_word_12 ?_
    replace hR := bd_to hR e2
    refine lv_bipush (v := 12) hx hb dX12_word_15 (by decide) ?_
    refine lv_icmp_ne (tgt := 23) hx hb dX12_word_17 (by decide) (fun c3 => ?_) (fun c3 => ?_)
    · skip
      replace hR := it_f hR c3
      have b4 : ¬ n2 = 12 := y_ne (a := n2) (b := 12) (by omega) (by omega) c3
      refine lv_aload_n hx hb dX12_word_23 rfl (lv_at hl 0 rfl) ?_
      refine x_getR E h (fr_mo_wordFrom g) rfl hwX12 (by decide) (by decide +kernel) dX12_word_24 ?_
      refine lv_aload_n hx hb dX12_word_27 rfl (lv_at hl 0 rfl) ?_
      refine x_getI E h (fi_mo_words g) rfl hwX12 (by decide) (by decide +kernel) (v := nI n2) e2 dX12_word_28 ?_
      replace hR := bd_to hR e2
      refine lv_iload_n hx hb dX12_word_31 rfl (lv_at hl 1 rfl) ?_
      refine y_stI E h hI hF (ia_mo_wordFrom g) (i := nI n2) (vp_in_nI (by omega) (by decide)) (j := n2) (nI_clamp (by omega)) (ba_none rfl) rfl dX12_word_32 (fun s5 H locs q5 hI5 hF5 h => ?_)
      replace hR := st_to hR (nI_clamp (n := n2) (by omega)) q5
      have e6 : s5.1 31 = nI m1_0R := (congrArg (fun t : ST => t.1 31) q5).trans u1_0_0
      have e7 : s5.1 32 = nI n2 := (congrArg (fun t : ST => t.1 32) q5).trans e2
      refine lv_aload_n hx hb dX12_word_33 rfl (lv_at hl 0 rfl) ?_
      refine x_getR E h (fr_mo_wordTo g) rfl hwX12 (by decide) (by decide +kernel) dX12_word_34 ?_
      refine lv_aload_n hx hb dX12_word_37 rfl (lv_at hl 0 rfl) ?_
      refine x_getI E h (fi_mo_words g) rfl hwX12 (by decide) (by decide +kernel) (v := nI n2) e7 dX12_word_38 ?_
      replace hR := bd_to hR e7
      refine lv_iload_n hx hb dX12_word_41 rfl (lv_at hl 2 rfl) ?_
      refine y_stI E h hI5 hF5 (ia_mo_wordTo g) (i := nI n2) (vp_in_nI (by omega) (by decide)) (j := n2) (nI_clamp (by omega)) (ba_none rfl) rfl dX12_word_42 (fun s8 H locs q8 hI8 hF8 h => ?_)
      replace hR := st_to hR (nI_clamp (n := n2) (by omega)) q8
      have e9 : s8.1 31 = nI m1_0R := (congrArg (fun t : ST => t.1 31) q8).trans e6
      have e10 : s8.1 32 = nI n2 := (congrArg (fun t : ST => t.1 32) q8).trans e7
      refine lv_aload_n hx hb dX12_word_43 rfl (lv_at hl 0 rfl) ?_
      refine lv_dup hx hb dX12_word_44 rfl ?_
      refine x_getI E h (fi_mo_words g) rfl hwX12 (by decide) (by decide +kernel) (v := nI n2) e10 dX12_word_45 ?_
      replace hR := bd_to hR e10
      refine lv_iconst (v := 1) hx hb dX12_word_48 (by decide) ?_
      refine lv_iadd hx hb dX12_word_49 ?_
      refine x_topI (v2 := nI (n2 + 1)) (nI_add n2 1) ?_
      replace hR := bd_to hR (nI_add n2 1)
      refine y_putI E h hI8 hF8 (ty := .int) (v := nI (n2 + 1)) (fi_mo_words g) rfl hwX12 tyX12_ok nmX12 (by decide) (by decide +kernel) (by decide +kernel) (by decide +kernel) rfl rfl (ba_some rfl (Bd.mk (n := (n2 + 1)) (by omega))) rfl dX12_word_50 (fun s11 H locs q11 hI11 hF11 h => ?_)
      replace hR := bd_to hR q11.symm
      have e12 : s11.1 31 = nI m1_0R := (congrArg (fun t : ST => t.1 31) q11).trans e9
      have e13 : s11.1 32 = nI (n2 + 1) := congrArg (fun t : ST => t.1 32) q11
      refine lv_aload_n hx hb dX12_word_53 rfl (lv_at hl 0 rfl) ?_
      refine x_getI E h (fi_mo_words g) rfl hwX12 (by decide) (by decide +kernel) (v := nI (n2 + 1)) e13 dX12_word_54 ?_
      replace hR := bd_to hR e13
      refine lv_iconst (v := 1) hx hb dX12_word_57 (by decide) ?_
      refine lv_isub hx hb dX12_word_58 ?_
      replace hR := bd_to hR rfl
      subst hPQ
      exact x_iret E h ⟨hR0.trans hR.symm, hI11, hF11⟩ dX12_word_59
    · skip
      replace hR := it_t hR c3
      have b14 : n2 = 12 := y_eq (a := n2) (b := 12) (by omega) (by omega) c3
      refine lv_bipush (v := (-3)) hx hb dX12_word_20 (by decide) ?_
      subst hPQ
      exact x_iret E h ⟨hR0.trans hR.symm, hI, hF⟩ dX12_word_22
  · skip
    replace hR := it_t hR (by decide)
    refine lv_if_ne (tgt := 11) hx hb dX12_word_6 (by decide) (fun c => absurd (by decide) c) (fun _ => ?_)
    refine lv_iconst (v := (-1)) hx hb dX12_word_9 (by decide) ?_
    subst hPQ
    exact x_iret E h ⟨hR0.trans hR.symm, hI, hF⟩ dX12_word_10
set_option maxHeartbeats 4000000 in
set_option maxRecDepth 100000 in
theorem aX12_hung_0 (l : Launch) (g : CX) (σ : ST) (hI : INV σ) (p1 : Int32) (p2 : Int32) : XM l g yX12_hung wsX12_hung { frames := 4, cells := 0, slots := 0, locals := 95 } [.ref (g.2.1 79), .int p1, .int p2] σ (XQi g (fun r σ' => fX12_hung_0 p1 p2 σ = (r, σ') ∧ INV σ' ∧ Fr [(35, 38)] [(75, 84)] σ σ')) := by
  refine x_met (own := RX12) (cc := cX12_hung) (maxL := 9) (ret := (some .int)) (lv := [(0, .ref (g.2.1 79)), (1, .int p1), (2, .int p2)]) (by decide) rfl rfl (Nat.le_of_ble_eq_true rfl) rfl ?_
  intro p e s m args below meth c ls E h hl
  have hx := E.1
  have hb := E.2.1
  have hown := E.2.2.2.1
  have hts := E.2.2.2.2.1
  have hF : Fr [(35, 38)] [(75, 84)] σ σ := Fr.refl σ
  obtain ⟨R, hR0⟩ : ∃ R, fX12_hung_0 p1 p2 σ = R := ⟨_, rfl⟩
  have hR : fX12_hung_0b0 p1 p2 σ = R := hR0
  have hwX12 : ∀ w ∈ wsX120, w ∈ wsX12_hung := by decide +kernel
  generalize hPQ : XQi g (fun r σ' => fX12_hung_0 p1 p2 σ = (r, σ') ∧ INV σ' ∧ Fr [(35, 38)] [(75, 84)] σ σ') = PQz
  refine lv_iload_n hx hb dX12_hung_0 rfl (lv_at hl 1 rfl) ?_
  refine lv_iconst (v := 0) hx hb dX12_hung_1 (by decide) ?_
  refine lv_aload_n hx hb dX12_hung_2 rfl (lv_at hl 0 rfl) ?_
  obtain ⟨n1, b1, e1⟩ := hI.1 32 12 rfl
  refine x_getI E h (fi_mo_words g) rfl hwX12 (by decide) (by decide +kernel) (v := nI n1) e1 dX12_hung_3 ?_
  replace hR := bd_to hR e1
  refine lv_iconst (v := 1) hx hb dX12_hung_6 (by decide) ?_
  refine lv_isub hx hb dX12_hung_7 ?_
  replace hR := bd_to hR rfl
  refine x_si E h (na := 3) (As := [.int p1, .int 0, .int (nI n1 - 1)]) (aX12_in_0 l g σ hI p1 0 (nI n1 - 1)) gX12_hung_X12_in rfl ⟨rfl, rfl⟩ rfl (by decide +kernel) ⟨Nat.le_of_ble_eq_true rfl, Nat.le_of_ble_eq_true rfl⟩ hl.1 rfl (Nat.le_of_ble_eq_true rfl) dX12_hung_8 ⟨Nat.le_of_ble_eq_true rfl, Nat.le_of_ble_eq_true rfl⟩ (fun r2 s2 H locs q2 h => ?_)
  obtain ⟨x2, d2, rfl⟩ := q2
  replace hR := bd_to hR x2
  rcases d2 with ⟨rfl, u2_0_0, u2_0_1⟩ | ⟨rfl, u2_1_0⟩
  · skip
    obtain ⟨n3, b3, rfl⟩ := y_rnltM (N := n1) (y_lo1 u2_0_0 (by decide)) u2_0_1 (by omega)
    have b4 : 0 ≤ n3 := y_nlt (a := n3) (b := 0) (by omega) (by omega) u2_0_0
    replace hR := it_f hR (by decide)
    refine lv_if_eq (tgt := 23) hx hb dX12_hung_11 (by decide) (fun c => absurd c (by decide)) (fun _ => ?_)
    refine lv_iload_n hx hb dX12_hung_14 rfl (lv_at hl 2 rfl) ?_
    refine lv_iconst (v := 0) hx hb dX12_hung_15 (by decide) ?_
    refine lv_iconst (v := 1) hx hb dX12_hung_16 (by decide) ?_
    refine x_si E h (na := 3) (As := [.int p2, .int 0, .int 1]) (aX12_in_0 l g σ hI p2 0 1) gX12_hung_X12_in rfl ⟨rfl, rfl⟩ rfl (by decide +kernel) ⟨Nat.le_of_ble_eq_true rfl, Nat.le_of_ble_eq_true rfl⟩ hl.1 rfl (Nat.le_of_ble_eq_true rfl) dX12_hung_17 ⟨Nat.le_of_ble_eq_true rfl, Nat.le_of_ble_eq_true rfl⟩ (fun r5 s5 H locs q5 h => ?_)
    obtain ⟨x5, d5, rfl⟩ := q5
    replace hR := bd_to hR x5
    rcases d5 with ⟨rfl, u5_0_0, u5_0_1⟩ | ⟨rfl, u5_1_0⟩
    · skip
      obtain ⟨n6, b6, rfl⟩ := y_rnlt (N := 1) (y_lo1 u5_0_0 (by decide)) u5_0_1 (by omega)
      have b7 : 0 ≤ n6 := y_nlt (a := n6) (b := 0) (by omega) (by omega) u5_0_0
      have b8 : n6 ≤ 1 := y_nlt (a := 1) (b := n6) (by omega) (by omega) u5_0_1
      replace hR := it_f hR (by decide)
      refine lv_if_ne (tgt := 25) hx hb dX12_hung_20 (by decide) (fun _ => ?_) (fun c => absurd c (by decide))
      refine lv_aload_n hx hb dX12_hung_25 rfl (lv_at hl 0 rfl) ?_
      refine x_vv E h (na := 0) (As := []) (aX12_findPieces_0 l g σ hI) (oc_mo g) rfl gX12_hung_X12_findPieces rfl ⟨rfl, rfl⟩ rfl (by decide +kernel) ⟨Nat.le_of_ble_eq_true rfl, Nat.le_of_ble_eq_true rfl⟩ hl.1 rfl (Nat.le_of_ble_eq_true rfl) dX12_hung_26 ⟨Nat.le_of_ble_eq_true rfl, Nat.le_of_ble_eq_true rfl⟩ (fun s9 H locs q9 h => ?_)
      obtain ⟨x9, d9, hI9, f9⟩ := q9
      replace hR := bd_to hR x9
      have hF9 := hF.call f9 (I := [(35, 38)]) (J := [(75, 84)]) rfl rfl
      have e10 : s9.1 32 = nI n1 := ((f9.1 32 rfl)).trans e1
      rcases d9 with ⟨m9_0P, m9_0R, u9_0_0, u9_0_1, u9_0_2, u9_0_3, u9_0_4, u9_0_5⟩
      refine lv_bipush (v := (-9)) hx hb dX12_hung_29 (by decide) ?_
      refine lv_istore_n (lv' := [(3, .int (-9)), (0, .ref (g.2.1 79)), (1, .int (nI n3)), (2, .int (nI n6))]) hx hb dX12_hung_31 rfl hl (by decide) rfl (fun ls hl => ?_)
      refine lv_iconst (v := 0) hx hb dX12_hung_32 (by decide) ?_
      refine lv_istore (lv' := [(4, .int 0), (3, .int (-9)), (0, .ref (g.2.1 79)), (1, .int (nI n3)), (2, .int (nI n6))]) hx hb dX12_hung_33 hl (by decide) rfl (fun ls hl => ?_)
      refine lv_iconst (v := 0) hx hb dX12_hung_35 (by decide) ?_
      refine lv_istore (lv' := [(5, .int 0), (4, .int 0), (3, .int (-9)), (0, .ref (g.2.1 79)), (1, .int (nI n3)), (2, .int (nI n6))]) hx hb dX12_hung_36 hl (by decide) rfl (fun ls hl => ?_)
      refine lv_iconst (v := 0) hx hb dX12_hung_38 (by decide) ?_
      refine lv_istore (lv' := [(6, .int 0), (5, .int 0), (4, .int 0), (3, .int (-9)), (0, .ref (g.2.1 79)), (1, .int (nI n3)), (2, .int (nI n6))]) hx hb dX12_hung_39 hl (by decide) rfl (fun ls hl => ?_)
      have loop41_12 : ∀ (fu : Nat) (i12_6 : Nat) (i12_5 : Int32) (i12_4 : Int32) (i12_3 : Int32), i12_6 ≤ m9_0P → fX12_hung_0l41 fu (nI n3) (nI n6) i12_3 i12_4 i12_5 (nI i12_6) s9 = R → m9_0P - i12_6 < fu → ∀ (H : Heap) (locs : List Loc) (ls : Array Slot), HW g s9 s H locs → lv_has ls 9 [(6, .int (nI i12_6)), (5, .int i12_5), (4, .int i12_4), (3, .int i12_3), (0, .ref (g.2.1 79)), (1, .int (nI n3)), (2, .int (nI n6))] → W p l e { frames := 4, cells := 0, slots := 0, locals := 95 } s m args below meth c H locs 0 0 (MQ below PQz args s 0 0 (Aw g)) (F0 m 41 ls []) := by
        intro fu12
        induction fu12 with
        | zero => intro i12_6 i12_5 i12_4 i12_3 bi12_6 hR12 hm; exact absurd hm (Nat.not_lt_zero _)
        | succ fu12 ih =>
          have ih12 := ih
          clear ih
          intro i12_6 i12_5 i12_4 i12_3 bi12_6 hR12 hm12 H locs ls h hl
          replace hR12 : fX12_hung_0b41 (fX12_hung_0l41 fu12) (nI n3) (nI n6) i12_3 i12_4 i12_5 (nI i12_6) s9 = R := hR12
          refine lv_iload hx hb dX12_hung_41 (lv_at hl 0 rfl) ?_
          refine lv_aload_n hx hb dX12_hung_43 rfl (lv_at hl 4 rfl) ?_
          refine x_getI E h (fi_mo_pieces g) rfl hwX12 (by decide) (by decide +kernel) (v := nI m9_0P) u9_0_0 dX12_hung_44 ?_
          replace hR12 := bd_to hR12 u9_0_0
          refine lv_icmp_ge (tgt := 169) hx hb dX12_hung_47 (by decide) (fun c13 => ?_) (fun c13 => ?_)
          · skip
            replace hR12 := it_t hR12 c13
            have b14 : m9_0P ≤ i12_6 := y_le (a := m9_0P) (b := i12_6) (by omega) (by omega) c13
            refine lv_iload_n hx hb dX12_hung_169 rfl (lv_at hl 6 rfl) ?_
            refine lv_if_ne (tgt := 177) hx hb dX12_hung_170 (by decide) (fun c15 => ?_) (fun c15 => ?_)
            · skip
              replace hR12 := it_f hR12 c15
              have b16 : ¬ n6 = 0 := y_ne (a := n6) (b := 0) (by omega) (by omega) c15
              refine lv_iload hx hb dX12_hung_177 (lv_at hl 1 rfl) ?_
              replace hR12 : fX12_hung_0b179 i12_5 s9 = R := hR12
              subst hPQ
              exact x_iret E h ⟨hR0.trans hR12.symm, hI9, hF9⟩ dX12_hung_179
            · skip
              replace hR12 := it_t hR12 c15
              have b17 : n6 = 0 := y_eq (a := n6) (b := 0) (by omega) (by omega) c15
              refine lv_iload_n hx hb dX12_hung_173 rfl (lv_at hl 3 rfl) ?_
              refine lv_goto (tgt := 179) hx hb dX12_hung_174 (by decide) ?_
              replace hR12 : fX12_hung_0b179 i12_3 s9 = R := hR12
              subst hPQ
              exact x_iret E h ⟨hR0.trans hR12.symm, hI9, hF9⟩ dX12_hung_179
          · skip
            replace hR12 := it_f hR12 c13
            have b18 : i12_6 < m9_0P := y_nle (a := m9_0P) (b := i12_6) (by omega) (by omega) c13
            refine lv_iconst (v := 0) hx hb dX12_hung_50 (by decide) ?_
            refine lv_istore (lv' := [(7, .int 0), (6, .int (nI i12_6)), (5, .int i12_5), (4, .int i12_4), (3, .int i12_3), (0, .ref (g.2.1 79)), (1, .int (nI n3)), (2, .int (nI n6))]) hx hb dX12_hung_51 hl (by decide) rfl (fun ls hl => ?_)
            refine lv_aload_n hx hb dX12_hung_53 rfl (lv_at hl 5 rfl) ?_
            refine x_getR E h (fr_mo_first g) rfl hwX12 (by decide) (by decide +kernel) dX12_hung_54 ?_
            refine lv_iload hx hb dX12_hung_57 (lv_at hl 1 rfl) ?_
            refine x_ldI E h (ia_mo_first g) (i := nI i12_6) (vp_in_nI (by omega) (by decide)) (v := s9.2.2 75 i12_6) (congrArg (s9.2.2 75) (nI_clamp (n := i12_6) (by omega))) dX12_hung_59 ?_
            replace hR12 := bd_to hR12 (congrArg (s9.2.2 75) (nI_clamp (n := i12_6) (by omega)))
            refine lv_topi (fun x19 e19 => ?_)
            try rw [← e19] at hR12
            refine lv_istore (lv' := [(8, .int x19), (7, .int 0), (6, .int (nI i12_6)), (5, .int i12_5), (4, .int i12_4), (3, .int i12_3), (0, .ref (g.2.1 79)), (1, .int (nI n3)), (2, .int (nI n6))]) hx hb dX12_hung_60 hl (by decide) rfl (fun ls hl => ?_)
            have loop62_20 : ∀ (fu : Nat) (i20_8 : Int32) (i20_7 : Int32), fX12_hung_0l62 (fX12_hung_0l41 fu12) fu (nI n3) (nI n6) i12_3 i12_4 i12_5 (nI i12_6) i20_7 i20_8 s9 = R → ((s9.2.2 75 i12_6 + s9.2.2 76 i12_6).toInt - i20_8.toInt).toNat < fu → ∀ (H : Heap) (locs : List Loc) (ls : Array Slot), HW g s9 s H locs → lv_has ls 9 [(8, .int i20_8), (7, .int i20_7), (6, .int (nI i12_6)), (5, .int i12_5), (4, .int i12_4), (3, .int i12_3), (0, .ref (g.2.1 79)), (1, .int (nI n3)), (2, .int (nI n6))] → W p l e { frames := 4, cells := 0, slots := 0, locals := 95 } s m args below meth c H locs 0 0 (MQ below PQz args s 0 0 (Aw g)) (F0 m 62 ls []) := by
              intro fu20
              induction fu20 with
              | zero => intro i20_8 i20_7 hR20 hm; exact absurd hm (Nat.not_lt_zero _)
              | succ fu20 ih =>
                have ih20 := ih
                clear ih
                intro i20_8 i20_7 hR20 hm20 H locs ls h hl
                replace hR20 : fX12_hung_0b62 (fX12_hung_0l41 fu12) (fX12_hung_0l62 (fX12_hung_0l41 fu12) fu20) (nI n3) (nI n6) i12_3 i12_4 i12_5 (nI i12_6) i20_7 i20_8 s9 = R := hR20
                refine lv_iload hx hb dX12_hung_62 (lv_at hl 0 rfl) ?_
                refine lv_aload_n hx hb dX12_hung_64 rfl (lv_at hl 6 rfl) ?_
                refine x_getR E h (fr_mo_first g) rfl hwX12 (by decide) (by decide +kernel) dX12_hung_65 ?_
                refine lv_iload hx hb dX12_hung_68 (lv_at hl 2 rfl) ?_
                refine x_ldI E h (ia_mo_first g) (i := nI i12_6) (vp_in_nI (by omega) (by decide)) (v := s9.2.2 75 i12_6) (congrArg (s9.2.2 75) (nI_clamp (n := i12_6) (by omega))) dX12_hung_70 ?_
                replace hR20 := bd_to hR20 (congrArg (s9.2.2 75) (nI_clamp (n := i12_6) (by omega)))
                refine lv_aload_n hx hb dX12_hung_71 rfl (lv_at hl 6 rfl) ?_
                refine x_getR E h (fr_mo_many g) rfl hwX12 (by decide) (by decide +kernel) dX12_hung_72 ?_
                refine lv_iload hx hb dX12_hung_75 (lv_at hl 2 rfl) ?_
                refine x_ldI E h (ia_mo_many g) (i := nI i12_6) (vp_in_nI (by omega) (by decide)) (v := s9.2.2 76 i12_6) (congrArg (s9.2.2 76) (nI_clamp (n := i12_6) (by omega))) dX12_hung_77 ?_
                replace hR20 := bd_to hR20 (congrArg (s9.2.2 76) (nI_clamp (n := i12_6) (by omega)))
                refine lv_iadd hx hb dX12_hung_78 ?_
                refine lv_topi (fun x21 e21 => ?_)
                replace hR20 := bd_to hR20 e21.symm
                refine lv_icmp_ge (tgt := 118) hx hb dX12_hung_79 (by decide) (fun c22 => ?_) (fun c22 => ?_)
                · skip
                  replace hR20 := it_t hR20 c22
                  refine lv_iload hx hb dX12_hung_118 (lv_at hl 1 rfl) ?_
                  refine lv_iload hx hb dX12_hung_120 (lv_at hl 4 rfl) ?_
                  have j131_26 : ∀ (y26_s0 : Int32), fX12_hung_0b131 (fX12_hung_0l41 fu12) (nI n3) (nI n6) i12_4 i12_5 (nI i12_6) i20_7 y26_s0 s9 = R → ∀ (H : Heap) (locs : List Loc) (ls : Array Slot), HW g s9 s H locs → lv_has ls 9 [(8, .int i20_8), (7, .int i20_7), (6, .int (nI i12_6)), (5, .int i12_5), (4, .int i12_4), (3, .int i12_3), (0, .ref (g.2.1 79)), (1, .int (nI n3)), (2, .int (nI n6))] → W p l e { frames := 4, cells := 0, slots := 0, locals := 95 } s m args below meth c H locs 0 0 (MQ below PQz args s 0 0 (Aw g)) (F0 m 131 ls [.int y26_s0]) := by
                    intro y26_s0 hR26 H locs ls h hl
                    refine lv_istore_n (lv' := [(3, .int y26_s0), (8, .int i20_8), (7, .int i20_7), (6, .int (nI i12_6)), (5, .int i12_5), (4, .int i12_4), (0, .ref (g.2.1 79)), (1, .int (nI n3)), (2, .int (nI n6))]) hx hb dX12_hung_131 rfl hl (by decide) rfl (fun ls hl => ?_)
                    refine lv_iload hx hb dX12_hung_132 (lv_at hl 2 rfl) ?_
                    refine lv_iload hx hb dX12_hung_134 (lv_at hl 5 rfl) ?_
                    have j146_29 : ∀ (y29_s0 : Int32), fX12_hung_0b146 (fX12_hung_0l41 fu12) (nI n3) (nI n6) y26_s0 i12_5 (nI i12_6) i20_7 y29_s0 s9 = R → ∀ (H : Heap) (locs : List Loc) (ls : Array Slot), HW g s9 s H locs → lv_has ls 9 [(3, .int y26_s0), (8, .int i20_8), (7, .int i20_7), (6, .int (nI i12_6)), (5, .int i12_5), (4, .int i12_4), (0, .ref (g.2.1 79)), (1, .int (nI n3)), (2, .int (nI n6))] → W p l e { frames := 4, cells := 0, slots := 0, locals := 95 } s m args below meth c H locs 0 0 (MQ below PQz args s 0 0 (Aw g)) (F0 m 146 ls [.int y29_s0]) := by
                      intro y29_s0 hR29 H locs ls h hl
                      refine lv_istore (lv' := [(4, .int y29_s0), (3, .int y26_s0), (8, .int i20_8), (7, .int i20_7), (6, .int (nI i12_6)), (5, .int i12_5), (0, .ref (g.2.1 79)), (1, .int (nI n3)), (2, .int (nI n6))]) hx hb dX12_hung_146 hl (by decide) rfl (fun ls hl => ?_)
                      refine lv_iload hx hb dX12_hung_148 (lv_at hl 5 rfl) ?_
                      refine lv_iload hx hb dX12_hung_150 (lv_at hl 3 rfl) ?_
                      have j160_32 : ∀ (y32_s0 : Int32), fX12_hung_0b160 (fX12_hung_0l41 fu12) (nI n3) (nI n6) y26_s0 y29_s0 (nI i12_6) y32_s0 i12_5 s9 = R → ∀ (H : Heap) (locs : List Loc) (ls : Array Slot), HW g s9 s H locs → lv_has ls 9 [(4, .int y29_s0), (3, .int y26_s0), (8, .int i20_8), (7, .int i20_7), (6, .int (nI i12_6)), (5, .int i12_5), (0, .ref (g.2.1 79)), (1, .int (nI n3)), (2, .int (nI n6))] → W p l e { frames := 4, cells := 0, slots := 0, locals := 95 } s m args below meth c H locs 0 0 (MQ below PQz args s 0 0 (Aw g)) (F0 m 160 ls [.int y32_s0, .int i12_5]) := by
                        intro y32_s0 hR32 H locs ls h hl
                        refine lv_iadd hx hb dX12_hung_160 ?_
                        refine lv_topi (fun x33 e33 => ?_)
                        replace hR32 := bd_to hR32 e33.symm
                        refine lv_istore (lv' := [(5, .int x33), (4, .int y29_s0), (3, .int y26_s0), (8, .int i20_8), (7, .int i20_7), (6, .int (nI i12_6)), (0, .ref (g.2.1 79)), (1, .int (nI n3)), (2, .int (nI n6))]) hx hb dX12_hung_161 hl (by decide) rfl (fun ls hl => ?_)
                        replace hR32 := bd_to hR32 (nI_add i12_6 1)
                        refine lv_iinc (v := (nI (i12_6 + 1))) (lv' := [(6, .int (nI (i12_6 + 1))), (5, .int x33), (4, .int y29_s0), (3, .int y26_s0), (8, .int i20_8), (7, .int i20_7), (0, .ref (g.2.1 79)), (1, .int (nI n3)), (2, .int (nI n6))]) hx hb dX12_hung_163 hl (k := 5) rfl (nI_add i12_6 1) (by decide) rfl (fun ls hl => ?_)
                        refine lv_goto (tgt := 41) hx hb dX12_hung_166 (by decide) ?_
                        exact ih12 (i12_6 + 1) x33 y29_s0 y26_s0 (by omega) hR32 (by omega) _ _ _ h (lv_sub hl [0, 1, 2, 3, 6, 7, 8] rfl)
                      refine lv_if_le (tgt := 159) hx hb dX12_hung_152 (by decide) (fun c30 => ?_) (fun c30 => ?_)
                      · skip
                        replace hR29 := it_t hR29 c30
                        refine lv_iconst (v := 0) hx hb dX12_hung_159 (by decide) ?_
                        exact j160_32 0 hR29 _ _ _ h (lv_sub hl [0, 1, 2, 3, 4, 5, 6, 7, 8] rfl)
                      · skip
                        replace hR29 := it_f hR29 c30
                        refine lv_iconst (v := 1) hx hb dX12_hung_155 (by decide) ?_
                        refine lv_goto (tgt := 160) hx hb dX12_hung_156 (by decide) ?_
                        exact j160_32 1 hR29 _ _ _ h (lv_sub hl [0, 1, 2, 3, 4, 5, 6, 7, 8] rfl)
                    refine lv_icmp_le (tgt := 144) hx hb dX12_hung_136 (by decide) (fun c27 => ?_) (fun c27 => ?_)
                    · skip
                      replace hR26 := it_t hR26 c27
                      refine lv_iload hx hb dX12_hung_144 (lv_at hl 5 rfl) ?_
                      exact j146_29 i12_4 hR26 _ _ _ h (lv_sub hl [0, 1, 2, 3, 4, 5, 6, 7, 8] rfl)
                    · skip
                      replace hR26 := it_f hR26 c27
                      refine lv_iload hx hb dX12_hung_139 (lv_at hl 2 rfl) ?_
                      refine lv_goto (tgt := 146) hx hb dX12_hung_141 (by decide) ?_
                      exact j146_29 i20_7 hR26 _ _ _ h (lv_sub hl [0, 1, 2, 3, 4, 5, 6, 7, 8] rfl)
                  refine lv_icmp_le (tgt := 130) hx hb dX12_hung_122 (by decide) (fun c24 => ?_) (fun c24 => ?_)
                  · skip
                    replace hR20 := it_t hR20 c24
                    refine lv_iload_n hx hb dX12_hung_130 rfl (lv_at hl 5 rfl) ?_
                    exact j131_26 i12_3 hR20 _ _ _ h (lv_sub hl [0, 1, 2, 3, 4, 5, 6, 7, 8] rfl)
                  · skip
                    replace hR20 := it_f hR20 c24
                    refine lv_iload hx hb dX12_hung_125 (lv_at hl 2 rfl) ?_
                    refine lv_goto (tgt := 131) hx hb dX12_hung_127 (by decide) ?_
                    exact j131_26 (nI i12_6) hR20 _ _ _ h (lv_sub hl [0, 1, 2, 3, 4, 5, 6, 7, 8] rfl)
                · skip
                  replace hR20 := it_f hR20 c22
                  refine lv_iload hx hb dX12_hung_82 (lv_at hl 1 rfl) ?_
                  refine lv_iload hx hb dX12_hung_84 (lv_at hl 0 rfl) ?_
                  refine lv_aload_n hx hb dX12_hung_86 rfl (lv_at hl 6 rfl) ?_
                  refine x_getR E h (fr_mo_wordFrom g) rfl hwX12 (by decide) (by decide +kernel) dX12_hung_87 ?_
                  refine lv_iload_n hx hb dX12_hung_90 rfl (lv_at hl 7 rfl) ?_
                  refine x_ldI E h (ia_mo_wordFrom g) (i := nI n3) (vp_in_nI (by omega) (by decide)) (v := s9.2.2 72 n3) (congrArg (s9.2.2 72) (nI_clamp (n := n3) (by omega))) dX12_hung_91 ?_
                  replace hR20 := bd_to hR20 (congrArg (s9.2.2 72) (nI_clamp (n := n3) (by omega)))
                  refine lv_aload_n hx hb dX12_hung_92 rfl (lv_at hl 6 rfl) ?_
                  refine x_getR E h (fr_mo_wordTo g) rfl hwX12 (by decide) (by decide +kernel) dX12_hung_93 ?_
                  refine lv_iload_n hx hb dX12_hung_96 rfl (lv_at hl 7 rfl) ?_
                  refine x_ldI E h (ia_mo_wordTo g) (i := nI n3) (vp_in_nI (by omega) (by decide)) (v := s9.2.2 73 n3) (congrArg (s9.2.2 73) (nI_clamp (n := n3) (by omega))) dX12_hung_97 ?_
                  replace hR20 := bd_to hR20 (congrArg (s9.2.2 73) (nI_clamp (n := n3) (by omega)))
                  refine x_si E h (na := 3) (As := [.int i20_8, .int (s9.2.2 72 n3), .int (s9.2.2 73 n3)]) (aX12_in_0 l g s9 hI9 i20_8 (s9.2.2 72 n3) (s9.2.2 73 n3)) gX12_hung_X12_in rfl ⟨rfl, rfl⟩ rfl (by decide +kernel) ⟨Nat.le_of_ble_eq_true rfl, Nat.le_of_ble_eq_true rfl⟩ hl.1 rfl (Nat.le_of_ble_eq_true rfl) dX12_hung_98 ⟨Nat.le_of_ble_eq_true rfl, Nat.le_of_ble_eq_true rfl⟩ (fun r38 s38 H locs q38 h => ?_)
                  obtain ⟨x38, d38, rfl⟩ := q38
                  replace hR20 := bd_to hR20 x38
                  rcases d38 with ⟨rfl, u38_0_0, u38_0_1⟩ | ⟨rfl, u38_1_0⟩
                  · skip
                    replace hR20 := it_f hR20 (by decide)
                    refine lv_if_eq (tgt := 108) hx hb dX12_hung_101 (by decide) (fun c => absurd c (by decide)) (fun _ => ?_)
                    refine lv_iconst (v := 1) hx hb dX12_hung_104 (by decide) ?_
                    refine lv_goto (tgt := 109) hx hb dX12_hung_105 (by decide) ?_
                    replace hR20 : fX12_hung_0b109 (fX12_hung_0l41 fu12) (fX12_hung_0l62 (fX12_hung_0l41 fu12) fu20) (nI n3) (nI n6) i12_3 i12_4 i12_5 (nI i12_6) i20_8 1 i20_7 s9 = R := hR20
                    refine lv_iadd hx hb dX12_hung_109 ?_
                    refine lv_topi (fun x39 e39 => ?_)
                    replace hR20 := bd_to hR20 e39.symm
                    refine lv_istore (lv' := [(7, .int x39), (8, .int i20_8), (6, .int (nI i12_6)), (5, .int i12_5), (4, .int i12_4), (3, .int i12_3), (0, .ref (g.2.1 79)), (1, .int (nI n3)), (2, .int (nI n6))]) hx hb dX12_hung_110 hl (by decide) rfl (fun ls hl => ?_)
                    obtain ⟨z40, e40⟩ : ∃ y : Int32, y = i20_8 + 1 := ⟨_, rfl⟩
                    replace hR20 := bd_to hR20 e40.symm
                    refine lv_iinc (v := z40) (lv' := [(8, .int z40), (7, .int x39), (6, .int (nI i12_6)), (5, .int i12_5), (4, .int i12_4), (3, .int i12_3), (0, .ref (g.2.1 79)), (1, .int (nI n3)), (2, .int (nI n6))]) hx hb dX12_hung_112 hl (k := 1) rfl e40.symm (by decide) rfl (fun ls hl => ?_)
                    refine lv_goto (tgt := 62) hx hb dX12_hung_115 (by decide) ?_
                    exact ih20 z40 x39 hR20 (y_dec hm20 (by rw [← e21]; exact c22) e40) _ _ _ h (lv_sub hl [0, 1, 2, 3, 4, 5, 6, 7, 8] rfl)
                  · skip
                    replace hR20 := it_t hR20 (by decide)
                    refine lv_if_eq (tgt := 108) hx hb dX12_hung_101 (by decide) (fun _ => ?_) (fun c => absurd (by decide) c)
                    refine lv_iconst (v := 0) hx hb dX12_hung_108 (by decide) ?_
                    replace hR20 : fX12_hung_0b109 (fX12_hung_0l41 fu12) (fX12_hung_0l62 (fX12_hung_0l41 fu12) fu20) (nI n3) (nI n6) i12_3 i12_4 i12_5 (nI i12_6) i20_8 0 i20_7 s9 = R := hR20
                    refine lv_iadd hx hb dX12_hung_109 ?_
                    refine lv_topi (fun x41 e41 => ?_)
                    replace hR20 := bd_to hR20 e41.symm
                    refine lv_istore (lv' := [(7, .int x41), (8, .int i20_8), (6, .int (nI i12_6)), (5, .int i12_5), (4, .int i12_4), (3, .int i12_3), (0, .ref (g.2.1 79)), (1, .int (nI n3)), (2, .int (nI n6))]) hx hb dX12_hung_110 hl (by decide) rfl (fun ls hl => ?_)
                    obtain ⟨z42, e42⟩ : ∃ y : Int32, y = i20_8 + 1 := ⟨_, rfl⟩
                    replace hR20 := bd_to hR20 e42.symm
                    refine lv_iinc (v := z42) (lv' := [(8, .int z42), (7, .int x41), (6, .int (nI i12_6)), (5, .int i12_5), (4, .int i12_4), (3, .int i12_3), (0, .ref (g.2.1 79)), (1, .int (nI n3)), (2, .int (nI n6))]) hx hb dX12_hung_112 hl (k := 1) rfl e42.symm (by decide) rfl (fun ls hl => ?_)
                    refine lv_goto (tgt := 62) hx hb dX12_hung_115 (by decide) ?_
                    exact ih20 z42 x41 hR20 (y_dec hm20 (by rw [← e21]; exact c22) e42) _ _ _ h (lv_sub hl [0, 1, 2, 3, 4, 5, 6, 7, 8] rfl)
            exact loop62_20 8589934592 x19 0 hR12 (y_fuel _ _) _ _ _ h (lv_sub hl [0, 1, 2, 3, 4, 5, 6, 7, 8] rfl)
      exact loop41_12 4096 0 0 0 (-9) (Nat.zero_le _) hR (by omega) _ _ _ h (lv_sub hl [0, 1, 2, 3, 4, 5, 6] rfl)
    · skip
      replace hR := it_t hR (by decide)
      refine lv_if_ne (tgt := 25) hx hb dX12_hung_20 (by decide) (fun c => absurd (by decide) c) (fun _ => ?_)
      refine lv_iconst (v := (-1)) hx hb dX12_hung_23 (by decide) ?_
      subst hPQ
      exact x_iret E h ⟨hR0.trans hR.symm, hI, hF⟩ dX12_hung_24
  · skip
    replace hR := it_t hR (by decide)
    refine lv_if_eq (tgt := 23) hx hb dX12_hung_11 (by decide) (fun _ => ?_) (fun c => absurd (by decide) c)
    refine lv_iconst (v := (-1)) hx hb dX12_hung_23 (by decide) ?_
    subst hPQ
    exact x_iret E h ⟨hR0.trans hR.symm, hI, hF⟩ dX12_hung_24
